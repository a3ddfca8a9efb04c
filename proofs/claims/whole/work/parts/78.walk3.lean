/-! ===== the walk: one root ===== -/
section Walk3
variable {M : am_M} {S : Sc} {a b : Int} {N E : Int → Int} {L : List Int} {R : Nat}
/-- there at some tick from a to below b -/
def inWn (S : Sc) (a b c : Int) : Prop := isSp S c ∧ kBn (lay S c) < b ∧ a < kEn (lay S c)
noncomputable def sh1 (S : Sc) (a b c : Int) : List Int := @ite _ (inWn S a b c) (Classical.propDecidable _) [c] []
theorem sh1_t {c : Int} (h : inWn S a b c) : sh1 S a b c = [c] := if_pos h
theorem sh1_f {c : Int} (h : ¬ inWn S a b c) : sh1 S a b c = [] := if_neg h
noncomputable def gcs (S : Sc) (a b C : Int) : Nat → Int → List Int
  | 0, _ => []
  | r + 1, i => sh1 S a b (C + 1 + i) ++ gcs S a b C r (i + 1)
noncomputable def cds (S : Sc) (a b R : Int) : Nat → Int → List Int
  | 0, _ => []
  | r + 1, c => (sh1 S a b (R + 16 * (1 + c)) ++ gcs S a b (R + 16 * (1 + c)) 2 0) ++ cds S a b R r (c + 1)
noncomputable def shw (S : Sc) (a b R : Int) : List Int := sh1 S a b R ++ cds S a b R 2 0
theorem oneL_le (hk : scOK S) {c k w : Int} {bg : Int → Int} (h1 : 0 ≤ k) (h2 : k < sNk S) : oneL S c k w bg ≤ lif S c k := by
  have l := lif_bd hk c h1 h2
  unfold oneL
  split
  · have := fstB_le (beyB S (k, w, w, bg, spd S c k)) (lif S c k).toNat 0
    omega
  · omega
theorem lif_sp (hk : scOK S) (c : Int) {k : Int} (h1 : 0 ≤ k) (h2 : k < sNk S) : lif S c k ≤ sp2 S k := by
  obtain ⟨q0, q1, -⟩ := hk.2.2.2.2.1 k h1 h2
  have := dr_bd S c 1 (n := sK S k 1 + 1) (by omega)
  unfold lif sp2
  omega
theorem lay_one {c : Int} (h : isSp S c) : ∃ k w bg, lay S c = one S c k w bg := by
  have h0 := h.1
  unfold lay
  by_cases q : c % 256 = 0
  · rw [if_pos q]
    unfold lay0 layR
    rw [show 256 * (4 * (c / 256 / 4) + c / 256 % 4) = c by omega]
    exact ⟨_, _, _, rfl⟩
  · rw [if_neg q]
    by_cases q2 : c % 256 % 16 = 0
    · rw [if_pos q2]
      unfold lay1 layC
      rw [show c - c % 256 % 16 = c by omega]
      exact ⟨_, _, _, rfl⟩
    · rw [if_neg q2]
      exact ⟨_, _, _, rfl⟩
theorem lay_en (hk : scOK S) {c : Int} (h : isSp S c) : kBn (lay S c) < kEn (lay S c) ∧ kEn (lay S c) ≤ kBn (lay S c) + lif S c (kKd (lay S c)) ∧ lif S c (kKd (lay S c)) ≤ sp2 S (kKd (lay S c)) := by
  have g := (lay_g hk h).1
  obtain ⟨k, w, bg, e⟩ := lay_one h
  refine ⟨g.2.2.1, ?_, lif_sp hk c g.1.1 g.1.2⟩
  rw [e] at g ⊢
  have := oneL_le (c := c) (w := w) (bg := bg) hk g.1.1 g.1.2
  rw [one_en, one_bn, one_kd]
  rw [one_kd] at this
  omega
theorem lay_rt (s k : Int) (h1 : 0 ≤ s) (h2 : s < 4) : lay S (256 * (4 * k + s)) = layR S s k := by
  unfold lay lay0
  rw [if_pos (by omega), show 256 * (4 * k + s) / 256 % 4 = s by omega, show 256 * (4 * k + s) / 256 / 4 = k by omega]
theorem lay_ch {R c : Int} (hR : R % 256 = 0) (h1 : 0 ≤ c) (h2 : c < 2) : lay S (R + 16 * (1 + c)) = layC S (lay S R) (R + 16 * (1 + c)) := by
  have e : lay S R = lay0 S R := by unfold lay; rw [if_pos hR]
  rw [e]
  unfold lay
  rw [if_neg (by omega), if_pos (by omega)]
  unfold lay1 lay0
  rw [show (R + 16 * (1 + c)) / 256 = R / 256 by omega, show R + 16 * (1 + c) - (R + 16 * (1 + c)) % 256 % 16 = R + 16 * (1 + c) by omega]
theorem lay_gc {C i : Int} (hC : C % 16 = 0) (hC2 : C % 256 ≠ 0) (h1 : 0 ≤ i) (h2 : i < 2) : lay S (C + 1 + i) = layC S (lay S C) (C + 1 + i) := by
  have e : lay S C = lay1 S C := by unfold lay; rw [if_neg hC2, if_pos (by omega)]
  rw [e]
  unfold lay
  rw [if_neg (by omega), if_neg (by omega)]
  unfold lay1 lay0
  rw [show (C + 1 + i) / 256 = C / 256 by omega, show C + 1 + i - (C + 1 + i) % 256 % 16 = C - C % 256 % 16 by omega]
theorem sp_ch {R c : Int} (hR : R % 256 = 0) (hs : isSp S R) (h1 : 0 ≤ c) (h2 : c < 2) : isSp S (R + 16 * (1 + c)) ↔ c + 1 ≤ sK S (kKd (lay S R)) 6 := by
  have e : lay S R = lay0 S R := by unfold lay; rw [if_pos hR]
  rw [e, lay0_kd]
  unfold isSp at hs ⊢
  rw [show (R + 16 * (1 + c)) / 256 = R / 256 by omega, show (R + 16 * (1 + c)) % 256 = 16 * (1 + c) by omega]
  omega
theorem sp_gc {C i : Int} (hC : C % 16 = 0) (hC2 : C % 256 ≠ 0) (hs : isSp S C) (h1 : 0 ≤ i) (h2 : i < 2) : isSp S (C + 1 + i) ↔ i + 1 ≤ sK S (kKd (lay S C)) 6 := by
  have e : lay S C = lay1 S C := by unfold lay; rw [if_neg hC2, if_pos (by omega)]
  rw [e, lay1_kd, lay0_kd]
  unfold isSp at hs ⊢
  rw [show (C + 1 + i) / 256 = C / 256 by omega, show (C + 1 + i) % 256 / 16 = C % 256 / 16 by omega, show (C + 1 + i) % 256 % 16 = 1 + i by omega]
  omega
theorem layC_bn (p : Sk) (c : Int) : kBn (layC S p c) = kEn p := rfl
theorem layC_kd (p : Sk) (c : Int) : kKd (layC S p c) = sK S (kKd p) 7 := rfl
theorem gcs_nil {C : Int} : ∀ (r : Nat) (i : Int), (∀ j, i ≤ j → j < i + r → ¬ inWn S a b (C + 1 + j)) → gcs S a b C r i = []
  | 0, i, h => rfl
  | r + 1, i, h => by rw [gcs, sh1_f (h i (by omega) (by omega)), gcs_nil r (i + 1) (fun j q1 q2 => h j (by omega) (by omega))]; rfl
theorem cds_nil {R : Int} : ∀ (r : Nat) (c : Int), (∀ j, c ≤ j → j < c + r → ¬ inWn S a b (R + 16 * (1 + j)) ∧ ∀ i, 0 ≤ i → i < 2 → ¬ inWn S a b (R + 16 * (1 + j) + 1 + i)) → cds S a b R r c = []
  | 0, c, h => rfl
  | r + 1, c, h => by
    have q := h c (by omega) (by omega)
    rw [cds, sh1_f q.1, gcs_nil 2 0 (fun j q1 q2 => q.2 j q1 (by omega)), cds_nil r (c + 1) (fun j q1 q2 => h j (by omega) (by omega))]; rfl
/-- what is outside shows none -/
theorem prune1 (hk : scOK S) {C : Int} (hC : C % 16 = 0) (hC2 : C % 256 ≠ 0) (hs : isSp S C) (ho : b ≤ kBn (lay S C) ∨ kBn (lay S C) + lif S C (kKd (lay S C)) + sb1 S (kKd (lay S C)) ≤ a) : ¬ inWn S a b C ∧ ∀ i, 0 ≤ i → i < 2 → ¬ inWn S a b (C + 1 + i) := by
  have e := lay_en hk hs
  have kb := lay_kb hk hs
  have s1 := sb1_bd hk kb.1 kb.2
  refine ⟨fun q => by have q1 := q.2.1; have q2 := q.2.2; omega, fun i h1 h2 q => ?_⟩
  have e2 := lay_en hk q.1
  have eb : kBn (lay S (C + 1 + i)) = kEn (lay S C) := by rw [lay_gc hC hC2 h1 h2]; rfl
  have ek : kKd (lay S (C + 1 + i)) = sK S (kKd (lay S C)) 7 := by rw [lay_gc hC hC2 h1 h2]; rfl
  have q6 := (sp_gc hC hC2 hs h1 h2).mp q.1
  have es : sb1 S (kKd (lay S C)) = sp2 S (sK S (kKd (lay S C)) 7) := by unfold sb1; rw [if_pos (by omega)]
  have q1 := q.2.1
  have q2 := q.2.2
  rw [ek] at e2
  omega
theorem prune0 (hk : scOK S) {R : Int} (hR : R % 256 = 0) (hs : isSp S R) (ho : b ≤ kBn (lay S R) ∨ kBn (lay S R) + lif S R (kKd (lay S R)) + sb0 S (kKd (lay S R)) ≤ a) : shw S a b R = [] := by
  have e := lay_en hk hs
  have kb := lay_kb hk hs
  have s0 := sb0_bd hk kb.1 kb.2
  unfold shw
  rw [sh1_f (fun q => by have q1 := q.2.1; have q2 := q.2.2; omega), cds_nil 2 0 (fun j q1 q2 => ?_)]
  · rfl
  by_cases g : isSp S (R + 16 * (1 + j))
  · have q6 := (sp_ch hR hs q1 (by omega)).mp g
    have e1 := lay_en hk g
    have k1 := lay_kb hk g
    have eb : kBn (lay S (R + 16 * (1 + j))) = kEn (lay S R) := by rw [lay_ch hR q1 (by omega)]; rfl
    have ek : kKd (lay S (R + 16 * (1 + j))) = sK S (kKd (lay S R)) 7 := by rw [lay_ch hR q1 (by omega)]; rfl
    have es : sb0 S (kKd (lay S R)) = sp2 S (sK S (kKd (lay S R)) 7) + sb1 S (sK S (kKd (lay S R)) 7) := by unfold sb0; rw [if_pos (by omega)]
    refine prune1 hk (by omega) (by omega) g ?_
    rw [ek] at e1 ⊢
    omega
  · refine ⟨fun q => g q.1, fun i i1 i2 q => g ?_⟩
    have qs := q.1
    unfold isSp at hs qs ⊢
    rw [show (R + 16 * (1 + j) + 1 + i) / 256 = (R + 16 * (1 + j)) / 256 by omega, show (R + 16 * (1 + j) + 1 + i) % 256 / 16 = (R + 16 * (1 + j)) % 256 / 16 by omega, show (R + 16 * (1 + j) + 1 + i) % 256 % 16 = 1 + i by omega] at qs
    omega
/-- rows from lo on -/
def AR (lo : Nat) (b j : Nat) : Prop := (b = 18 ∧ j = 8) ∨ b = 20 ∨ (24 + 3 * lo ≤ b ∧ b ≤ 44)
theorem AR_mono {lo hi : Nat} (h : lo ≤ hi) (b j : Nat) (q : AR hi b j) : AR lo b j := by unfold AR at q ⊢; omega
theorem AR_AWk {lo : Nat} (b j : Nat) (q : AR lo b j) : AWk b j := by unfold AR at q; unfold AWk; omega
theorem ASp_AR {lo R : Nat} (h : lo ≤ R) (hR : R < 7) (b j : Nat) (q : ASp (24 + 3 * R) b j) : AR lo b j := by unfold ASp at q; unfold AR; omega
theorem WKs.fr {A : Nat → Nat → Prop} {M M' : am_M} (h : WKs M S a b N E) (hf : Fr A M M') (hA : ∀ x j, A x j → (x = 18 ∧ j = 8) ∨ x = 20 ∨ 24 ≤ x) : WKs M' S a b N E := by
  obtain ⟨h1, h2, h3, h4, h5, h6⟩ := h
  have e : ∀ x j, ((x = 18 ∧ j ≠ 8) ∨ (21 ≤ x ∧ x ≤ 23)) → rI M' x j = rI M x j := fun x j hx => hf.ri (fun q => by have := hA x j q; omega)
  refine ⟨h1.fr hf, h2.fr hf (fun x j q => by have := hA x j q; omega), by rw [e _ _ (by omega)]; exact h3, by rw [e _ _ (by omega)]; exact h4, fun g' k z1 z2 z3 z4 z5 => by rw [e _ _ (by omega)]; exact h5 g' k z1 z2 z3 z4 z5, fun s q1 q2 => by rw [e _ _ (by omega), e _ _ (by omega)]; exact h6 s q1 q2⟩
/-- what a step has shown so far -/
def Shn (M : am_M) (S : Sc) (L : List Int) (R : Nat) : Prop := R ≤ 7 ∧ rI M 18 8 = iz (L.length : Int) ∧ L.length ≤ R ∧ ∀ (j : Nat) (c : Int), L[j]? = some c → isSp S c ∧ ∃ row : Nat, row < R ∧ rI M 20 j = iz (row : Int) ∧ CpL M S (24 + 3 * row) (lay S c) c (gen c)
theorem Shn.fr {M' : am_M} {A : Nat → Nat → Prop} (h : Shn M S L R) (hf : Fr A M M') (hA : ∀ x j, A x j → 24 + 3 * R ≤ x) : Shn M' S L R := by
  obtain ⟨h1, h2, h3, h4⟩ := h
  refine ⟨h1, by rw [hf.ri (fun q => by have := hA _ _ q; omega)]; exact h2, h3, fun j c q => ?_⟩
  obtain ⟨q1, row, r1, r2, r3⟩ := h4 j c q
  exact ⟨q1, row, r1, by rw [hf.ri (fun q => by have := hA _ _ q; omega)]; exact r2, r3.fr hf (fun x j q => by have := hA _ _ q; omega)⟩
theorem Shn.mono {R' : Nat} (h : Shn M S L R) (hR : R ≤ R') (h7 : R' ≤ 7) : Shn M S L R' := by
  obtain ⟨h1, h2, h3, h4⟩ := h
  refine ⟨h7, h2, by omega, fun j c q => ?_⟩
  obtain ⟨q1, row, r1, r2, r3⟩ := h4 j c q
  exact ⟨q1, row, by omega, r2, r3⟩
theorem lineR (h : SH M) {R : Nat} (hR : R < 7) : rR M 19 R = some (24 + 3 * R) := by
  rcases (show R = 0 ∨ R = 1 ∨ R = 2 ∨ R = 3 ∨ R = 4 ∨ R = 5 ∨ R = 6 by omega) with rfl | rfl | rfl | rfl | rfl | rfl | rfl
  · exact rr_19_0 h
  · exact rr_19_1 h
  · exact rr_19_2 h
  · exact rr_19_3 h
  · exact rr_19_4 h
  · exact rr_19_5 h
  · exact rr_19_6 h
theorem spA_l (h : SH M) {R : Nat} (hR : R < 7) : SpA M (24 + 3 * R) := by
  rcases (show R = 0 ∨ R = 1 ∨ R = 2 ∨ R = 3 ∨ R = 4 ∨ R = 5 ∨ R = 6 by omega) with rfl | rfl | rfl | rfl | rfl | rfl | rfl
  · exact spA_24 h
  · exact spA_27 h
  · exact spA_30 h
  · exact spA_33 h
  · exact spA_36 h
  · exact spA_39 h
  · exact spA_42 h
theorem aLine (h : SH M) {R : Nat} (hR : R < 7) {i : Int} (hi : i = (R : Int)) {f : Nat → am_R} : aR M 19 (iz i) f = f (24 + 3 * R) := by
  subst hi
  exact aR_eq (kd_19 h) (ln_19 h) (by omega) (by omega) (by omega) (by rw [show ((R : Int)).toNat = R by omega]; exact lineR h hR)
theorem cShow (hk : scOK S) (a1 : -100 ≤ a) (a2 : a ≤ 40000) (b1 : 0 ≤ b) (b2 : b ≤ 40000) (hw : WKs M S a b N E) (hs : Shn M S L R) (hR : R < 7) {c : Int} (hsp : isSp S c) (hL : CpL M S (24 + 3 * R) (lay S c) c (gen c)) : ∃ M', F_Walk_show 18 (iz (R : Int)) M = some (none, M') ∧ Fr (AR (R + 1)) M M' ∧ Shn M' S (L ++ sh1 S a b c) (R + 1) := by
  obtain ⟨h, hc, wa, wb, -⟩ := hw
  obtain ⟨r7, r8, rl, rs⟩ := id hs
  have g := (lay_g hk hsp).1.2
  have bn := lay_bn hk hsp
  have hd : F_Walk_show 18 (iz (R : Int)) M = if b ≤ kBn (lay S c) then some (none, M) else if kEn (lay S c) ≤ a then some (none, M) else some (none, wI (wI M 20 L.length (iz (R : Int))) 18 8 (iz ((L.length : Int) + 1))) := by
    unfold F_Walk_show
    rw [show (0 : Int32) = iz 0 from rfl, show (7 : Int32) = iz 7 from rfl, ifL (by omega) (by omega) (by omega) (by omega), if_neg (by omega), ifE (by omega) (by omega) (by omega) (by omega), if_neg (by omega), fI_eq (kd_18 h), r8, ifL (by omega) (by omega) (by omega) (by omega), if_neg (by omega), fI_eq (kd_18 h), r8, ifL (by omega) (by omega) (by omega) (by omega), if_pos (by omega), fR_eq (kd_18 h) (rr_18_1 h), aLine h hR rfl, fI_eq (spA_l h hR).1, fI_eq (kd_18 h), wb, hL.2.2.2.1, ifE (by omega) (by omega) (by omega) (by omega), fR_eq (kd_18 h) (rr_18_1 h), aLine h hR rfl, fI_eq (spA_l h hR).1, fI_eq (kd_18 h), wa, hL.2.2.2.2, ifE (by omega) (by omega) (by omega) (by omega), fR_eq (kd_18 h) (rr_18_2 h), fI_eq (kd_18 h), r8, tI_eq (kd_20 h) (ln_20 h) (by omega) (by omega) (by omega)]
    have h1 : SH (wI M 20 ((L.length : Int)).toNat (iz (R : Int))) := h.wI
    rw [fI_eq (kd_18 h1), sI_eq (kd_18 h1), rI_ne (by omega), r8, show (1 : Int32) = iz 1 from rfl, iz_add, show ((L.length : Int)).toNat = L.length by omega]
  rw [hd]
  by_cases g1 : b ≤ kBn (lay S c)
  · rw [if_pos g1, sh1_f (fun q => by have := q.2.1; omega), List.append_nil]
    exact ⟨M, rfl, Fr.refl M, hs.mono (by omega) (by omega)⟩
  by_cases g2 : kEn (lay S c) ≤ a
  · rw [if_neg g1, if_pos g2, sh1_f (fun q => by have := q.2.2; omega), List.append_nil]
    exact ⟨M, rfl, Fr.refl M, hs.mono (by omega) (by omega)⟩
  rw [if_neg g1, if_neg g2, sh1_t ⟨hsp, by omega, by omega⟩]
  have f1 : Fr (AR (R + 1)) M (wI (wI M 20 L.length (iz (R : Int))) 18 8 (iz ((L.length : Int) + 1))) := (Fr.wI (by unfold AR; omega)).trans (Fr.wI (by unfold AR; omega))
  refine ⟨_, rfl, f1, by omega, ?_, ?_, fun j d q => ?_⟩
  · rw [rI_at rfl rfl, List.length_append]; rfl
  · rw [List.length_append]; show L.length + 1 ≤ R + 1; omega
  · by_cases e : j < L.length
    · rw [List.getElem?_append_left e] at q
      obtain ⟨q1, row, s1, s2, s3⟩ := rs j d q
      refine ⟨q1, row, by omega, ?_, s3.fr f1 (fun x j q => by unfold AR at q; omega)⟩
      rw [rI_ne (by omega), rI_ne (by omega)]; exact s2
    · rw [List.getElem?_append_right (by omega)] at q
      have ej : j = L.length := by
        rcases Nat.lt_or_ge (j - L.length) 1 with z | z
        · omega
        · rw [List.getElem?_eq_none (by simpa using z)] at q; cases q
      subst ej
      rw [Nat.sub_self] at q
      have ed : d = c := by simpa using q.symm
      subst ed
      exact ⟨hsp, R, by omega, by rw [rI_ne (by omega), rI_at rfl rfl], hL.fr f1 (fun x j q => by unfold AR at q; omega)⟩
theorem cOut (hk : scOK S) (a1 : -100 ≤ a) (a2 : a ≤ 40000) (b1 : 0 ≤ b) (b2 : b ≤ 40000) (hw : WKs M S a b N E) (hR : R < 7) {k w c g : Int} {bg : Int → Int} (hB : CpB M S (24 + 3 * R) k w bg c g) (k1 : 0 ≤ k) (k2 : k < sNk S) (w1 : 0 ≤ w) (w2 : w ≤ 20000) (g1 : 0 ≤ g) (g2 : g < 3) : F_Walk_isOutside 18 (24 + 3 * R) M = some (some (.int (bz (b ≤ w ∨ w + lif S c k + sbh S g k ≤ a))), M) := by
  obtain ⟨h, hc, wa, wb, hs, -⟩ := hw
  have l := lif_bd hk c k1 k2
  have sb := sbh_bd hk g k1 k2
  obtain ⟨q1, q2, q3, q4, q5, -⟩ := hB
  unfold F_Walk_isOutside
  rw [fI_eq (spA_l h hR).1, fI_eq (kd_18 h), q4, wb, ifE (by omega) (by omega) (by omega) (by omega)]
  by_cases z1 : b ≤ w
  · rw [if_pos z1, bz_t (Or.inl z1)]; rfl
  rw [if_neg z1, fI_eq (spA_l h hR).1, fI_eq (spA_l h hR).1, fI_eq (spA_l h hR).1, q5, q3, q2, cv_eq (kd_18 h), cBehind h hc hk (fun g' k z1 z2 z3 z4 z5 => hs g' k (by omega) z2 z3 z4 z5) g1 g2 k1 k2, bI_eq, fI_eq (kd_18 h), wa, iz_add, ifL (by omega) (by omega) (by omega) (by omega)]
  by_cases z2 : a < w + lif S c k + sbh S g k
  · rw [if_pos z2, bz_f (by omega)]; rfl
  · rw [if_neg z2, bz_t (by omega)]; rfl
end Walk3
