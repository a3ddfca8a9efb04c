/-! ===== the walk: a root with all that comes of it ===== -/
section Walk4
variable {M : am_M} {S : Sc} {a b : Int} {N E : Int → Int} {L : List Int}
theorem cGc (hk : scOK S) (a1 : -100 ≤ a) (a2 : a ≤ 40000) (b1 : 0 ≤ b) (b2 : b ≤ 40000) {row : Nat} (hr : row = 1 ∨ row = 4) {C : Int} (hC : C % 16 = 0) (hC2 : C % 256 ≠ 0) (hs : isSp S C) : ∀ (r n i : Nat) (M : am_M) (L : List Int), WKs M S a b N E → Shn M S L (row + 1 + i) → CpL M S (24 + 3 * row) (lay S C) C 1 → i + r = 2 → r < n → ∃ M', F_Walk_stepChild_L67 n 18 (iz (row : Int)) (24 + 3 * row) (iz (sK S (kKd (lay S C)) 6)) (iz (i : Int)) M = some (none, M') ∧ Fr (AR (row + 1)) M M' ∧ Shn M' S (L ++ gcs S a b C r i) (row + 3)
  | r, 0, i, M, L, hw, hS, hL, q1, q2 => by omega
  | 0, n + 1, i, M, L, hw, hS, hL, q1, q2 => by
    have kb := lay_kb hk hs
    have k6 := (hk.2.2.2.2.1 _ kb.1 kb.2).2.2.2.2.2.2
    rw [gcs, List.append_nil]
    refine ⟨M, ?_, Fr.refl M, hS.mono (by omega) (by omega)⟩
    rw [F_Walk_stepChild_L67, ifE (by omega) (by omega) (by omega) (by omega), if_pos (by omega)]
  | r + 1, n + 1, i, M, L, hw, hS, hL, q1, q2 => by
    obtain ⟨h, hc, -⟩ := id hw
    have kb := lay_kb hk hs
    have k6 := (hk.2.2.2.2.1 _ kb.1 kb.2).2.2.2.2.2.2
    have lg := lay_g hk hs
    have bn := lay_bn hk hs
    have lb := lg.1.2
    by_cases g : sK S (kKd (lay S C)) 6 ≤ i
    · refine ⟨M, ?_, Fr.refl M, ?_⟩
      · rw [F_Walk_stepChild_L67, ifE (by omega) (by omega) (by omega) (by omega), if_pos (by omega)]
      · rw [gcs_nil (r + 1) i (fun j z1 z2 z => by have := (sp_gc hC hC2 hs (i := j) (by omega) (by omega)).mp z.1; omega), List.append_nil]
        exact hS.mono (by omega) (by omega)
    have ck := ch_kd hk kb.1 kb.2 (by omega)
    have hspD : isSp S (C + 1 + i) := (sp_gc hC hC2 hs (by omega) (by omega)).mpr (by omega)
    have eD := lay_gc (S := S) hC hC2 (i := i) (by omega) (by omega)
    obtain ⟨M1, e1, f1, B1⟩ := cBegC h hc hk (spA_l h (R := row + 1 + i) (by omega)) (by omega) (spA_l h (R := row) (by omega)) (Or.inr (by omega)) (i := i) lg hL (Or.inr rfl) ck.1 ck.2
    have ecd : chc C 1 i = C + 1 + i := by unfold chc; rw [if_neg (by decide)]; omega
    rw [ecd, show (1 : Int) + 1 = 2 from rfl] at B1
    have w1 := hw.fr f1 (fun x j q => by unfold ASp at q; omega)
    have h1 := h.fr f1
    have c1 := hc.fr f1 (fun x j q => by unfold ASp at q; omega)
    have S1 : Shn M1 S L (row + 1 + i) := hS.fr f1 (fun x j q => by unfold ASp at q; omega)
    have L1 : CpL M1 S (24 + 3 * row) (lay S C) C 1 := hL.fr f1 (fun x j q => by unfold ASp at q; omega)
    have oe := cOut hk a1 a2 b1 b2 w1 (R := row + 1 + i) (by omega) B1 ck.1 ck.2 (by omega) (by omega) (by omega) (by omega)
    have hd : F_Walk_stepChild_L67 (n + 1) 18 (iz (row : Int)) (24 + 3 * row) (iz (sK S (kKd (lay S C)) 6)) (iz (i : Int)) M = if b ≤ kEn (lay S C) ∨ kEn (lay S C) + lif S (C + 1 + i) (sK S (kKd (lay S C)) 7) + sbh S 2 (sK S (kKd (lay S C)) 7) ≤ a then F_Walk_stepChild_L67 n 18 (iz (row : Int)) (24 + 3 * row) (iz (sK S (kKd (lay S C)) 6)) (iz ((i + 1 : Nat) : Int)) M1 else (cv M1 (24 + 3 * (row + 1 + i)) 10 ( bV (F_Sprk_fly (24 + 3 * (row + 1 + i)) M1) (fun M17 => cv M17 18 11 ( bV (F_Walk_show 18 (iz ((row + 1 + i : Nat) : Int)) M17) (fun M18 => F_Walk_stepChild_L67 n 18 (iz (row : Int)) (24 + 3 * row) (iz (sK S (kKd (lay S C)) 6)) (iz ((i + 1 : Nat) : Int)) M18))))) := by
      rw [F_Walk_stepChild_L67, ifE (by omega) (by omega) (by omega) (by omega), if_neg (by omega), show (2 : Int32) = iz 2 from rfl, ifE (by omega) (by omega) (by omega) (by omega), if_neg (by omega), fR_eq (kd_18 h) (rr_18_1 h), show (1 : Int32) = iz 1 from rfl, iz_add, iz_add, aLine h (R := row + 1 + i) (by omega) (by omega), cv_eq (spA_l h (R := row + 1 + i) (by omega)).1, e1, bV_eq, cv_eq (kd_18 h1), oe, bI_eq, bz_if0, nm_eq, iz_add, show ((row : Int) + 1 + (i : Int)) = ((row + 1 + i : Nat) : Int) by omega, show ((i : Int) + 1) = ((i + 1 : Nat) : Int) by omega]
      rfl
    rw [hd]
    have ed2 : kBn (lay S (C + 1 + i)) = kEn (lay S C) := by rw [eD]; rfl
    have ek2 : kKd (lay S (C + 1 + i)) = sK S (kKd (lay S C)) 7 := by rw [eD]; rfl
    have en2 := lay_en hk hspD
    rw [ek2] at en2
    by_cases go : b ≤ kEn (lay S C) ∨ kEn (lay S C) + lif S (C + 1 + i) (sK S (kKd (lay S C)) 7) + sbh S 2 (sK S (kKd (lay S C)) 7) ≤ a
    · rw [if_pos go]
      rw [sbh_2 (g := 2) (by omega)] at go
      obtain ⟨M', z1, z2, z3⟩ := cGc hk a1 a2 b1 b2 hr hC hC2 hs r n (i + 1) M1 L w1 (S1.mono (by omega) (by omega)) L1 (by omega) (by omega)
      refine ⟨M', z1, (f1.mono (ASp_AR (by omega) (by omega))).trans z2, ?_⟩
      rw [gcs, sh1_f (fun q => by have q3 := q.2.1; have q4 := q.2.2; omega), List.nil_append]
      exact z3
    · rw [if_neg go]
      obtain ⟨M2, e2, f2, B2⟩ := cFly h1 c1 hk (spA_l h1 (R := row + 1 + i) (by omega)) (by omega) B1 ck.1 ck.2 (by omega) (by omega) (fun j j1 j2 => plc_in hk lg j1 j2 (by omega) (by omega))
      have w2 := w1.fr f2 (fun x j q => by unfold ASp at q; omega)
      have h2 := h1.fr f2
      have S2 : Shn M2 S L (row + 1 + i) := S1.fr f2 (fun x j q => by unfold ASp at q; omega)
      have L2 : CpL M2 S (24 + 3 * row) (lay S C) C 1 := L1.fr f2 (fun x j q => by unfold ASp at q; omega)
      have B2' : CpL M2 S (24 + 3 * (row + 1 + i)) (lay S (C + 1 + i)) (C + 1 + i) (gen (C + 1 + i)) := by
        rw [eD, show gen (C + 1 + i) = 2 by unfold gen; rw [if_neg (by omega)]]; exact B2
      obtain ⟨M3, e3, f3, S3⟩ := cShow hk a1 a2 b1 b2 w2 S2 (by omega) hspD B2'
      have w3 := w2.fr f3 (fun x j q => by unfold AR at q; omega)
      have L3 : CpL M3 S (24 + 3 * row) (lay S C) C 1 := L2.fr f3 (fun x j q => by unfold AR at q; omega)
      obtain ⟨M', z1, z2, z3⟩ := cGc hk a1 a2 b1 b2 hr hC hC2 hs r n (i + 1) M3 _ w3 S3 L3 (by omega) (by omega)
      refine ⟨M', ?_, (((f1.trans f2).mono (ASp_AR (by omega) (by omega))).trans (f3.mono (AR_mono (by omega)))).trans z2, ?_⟩
      · rw [cv_eq (spA_l h1 (R := row + 1 + i) (by omega)).1, e2, bV_eq, cv_eq (kd_18 h2), e3, bV_eq]; exact z1
      · rw [gcs, ← List.append_assoc]; exact z3
theorem cCh (hk : scOK S) (a1 : -100 ≤ a) (a2 : a ≤ 40000) (b1 : 0 ≤ b) (b2 : b ≤ 40000) {R : Int} (hR : R % 256 = 0) (hs : isSp S R) {c : Nat} (hc2 : c < 2) (hw : WKs M S a b N E) (hS : Shn M S L (1 + 3 * c)) (hL : CpL M S 24 (lay S R) R 0) (g : (c : Int) < sK S (kKd (lay S R)) 6) : ∃ M', F_Walk_stepChild 18 24 (iz (c : Int)) (iz ((1 + 3 * c : Nat) : Int)) M = some (none, M') ∧ Fr (AR (1 + 3 * c)) M M' ∧ Shn M' S (L ++ (sh1 S a b (R + 16 * (1 + c)) ++ gcs S a b (R + 16 * (1 + c)) 2 0)) (1 + 3 * c + 3) := by
  obtain ⟨h, hc, -⟩ := id hw
  have fg := fu_ge
  have kb := lay_kb hk hs
  have k6 := (hk.2.2.2.2.1 _ kb.1 kb.2).2.2.2.2.2.2
  have lg := lay_g hk hs
  have bn := lay_bn hk hs
  have lb := lg.1.2
  have ck := ch_kd hk kb.1 kb.2 (by omega)
  have hspC : isSp S (R + 16 * (1 + c)) := (sp_ch hR hs (by omega) (by omega)).mpr (by omega)
  have eC := lay_ch (S := S) hR (c := c) (by omega) (by omega)
  obtain ⟨M1, e1, f1, B1⟩ := cBegC h hc hk (spA_l h (R := 1 + 3 * c) (by omega)) (by omega) (spA_l h (R := 0) (by omega)) (Or.inr (by omega)) (i := c) lg hL (Or.inl rfl) ck.1 ck.2
  have ecd : chc R 0 c = R + 16 * (1 + c) := by unfold chc; rw [if_pos rfl]
  rw [ecd, show (0 : Int) + 1 = 1 from rfl] at B1
  have w1 := hw.fr f1 (fun x j q => by unfold ASp at q; omega)
  have h1 := h.fr f1
  have c1 := hc.fr f1 (fun x j q => by unfold ASp at q; omega)
  have S1 : Shn M1 S L (1 + 3 * c) := hS.fr f1 (fun x j q => by unfold ASp at q; omega)
  have oe := cOut hk a1 a2 b1 b2 w1 (R := 1 + 3 * c) (by omega) B1 ck.1 ck.2 (by omega) (by omega) (by omega) (by omega)
  have ebn : kBn (lay S (R + 16 * (1 + c))) = kEn (lay S R) := by rw [eC]; rfl
  have ekd : kKd (lay S (R + 16 * (1 + c))) = sK S (kKd (lay S R)) 7 := by rw [eC]; rfl
  have hd : F_Walk_stepChild 18 24 (iz (c : Int)) (iz ((1 + 3 * c : Nat) : Int)) M = if b ≤ kEn (lay S R) ∨ kEn (lay S R) + lif S (R + 16 * (1 + c)) (sK S (kKd (lay S R)) 7) + sbh S 1 (sK S (kKd (lay S R)) 7) ≤ a then some (none, M1) else (cv M1 (24 + 3 * (1 + 3 * c)) 10 ( bV (F_Sprk_fly (24 + 3 * (1 + 3 * c)) M1) (fun M6 => cv M6 18 11 ( bV (F_Walk_show 18 (iz ((1 + 3 * c : Nat) : Int)) M6) (fun M7 => fR M7 18 11 0 (fun b8 => fI M7 (24 + 3 * (1 + 3 * c)) 10 4 (fun x9 => cv M7 b8 9 ( bI (F_Scen_ofKind b8 x9 6 M7) (fun r11 M10 => F_Walk_stepChild_L67 fu 18 (iz ((1 + 3 * c : Nat) : Int)) (24 + 3 * (1 + 3 * c)) r11 0 M10))))))))) := by
    unfold F_Walk_stepChild
    rw [show (0 : Int32) = iz 0 from rfl, ifL (by omega) (by omega) (by omega) (by omega), if_neg (by omega), show (2 : Int32) = iz 2 from rfl, iz_add, show (7 : Int32) = iz 7 from rfl, ifL (by omega) (by omega) (by omega) (by omega), if_pos (by omega), fR_eq (kd_18 h) (rr_18_1 h), aLine h (R := 1 + 3 * c) (by omega) rfl, cv_eq (spA_l h (R := 1 + 3 * c) (by omega)).1, show (24 : Nat) = 24 + 3 * 0 from rfl, e1, bV_eq, cv_eq (kd_18 h1), oe, bI_eq, bz_if]
  rw [hd]
  by_cases go : b ≤ kEn (lay S R) ∨ kEn (lay S R) + lif S (R + 16 * (1 + c)) (sK S (kKd (lay S R)) 7) + sbh S 1 (sK S (kKd (lay S R)) 7) ≤ a
  · rw [if_pos go]
    have pr := prune1 (a := a) (b := b) hk (C := R + 16 * (1 + c)) (by omega) (by omega) hspC (by rw [ebn, ekd]; exact go)
    refine ⟨M1, rfl, f1.mono (ASp_AR (by omega) (by omega)), ?_⟩
    rw [sh1_f pr.1, gcs_nil 2 0 (fun j q1 q2 => pr.2 j q1 (by omega)), List.append_nil, List.append_nil]
    exact S1.mono (by omega) (by omega)
  rw [if_neg go]
  obtain ⟨M2, e2, f2, B2⟩ := cFly h1 c1 hk (spA_l h1 (R := 1 + 3 * c) (by omega)) (by omega) B1 ck.1 ck.2 (by omega) (by omega) (fun j j1 j2 => plc_in hk lg j1 j2 (by omega) (by omega))
  have w2 := w1.fr f2 (fun x j q => by unfold ASp at q; omega)
  have h2 := h1.fr f2
  have S2 : Shn M2 S L (1 + 3 * c) := S1.fr f2 (fun x j q => by unfold ASp at q; omega)
  have gC : gen (R + 16 * (1 + c)) = 1 := by unfold gen; rw [if_pos (by omega), if_neg (by omega)]
  have B2' : CpL M2 S (24 + 3 * (1 + 3 * c)) (lay S (R + 16 * (1 + c))) (R + 16 * (1 + c)) 1 := by rw [eC]; exact B2
  obtain ⟨M3, e3, f3, S3⟩ := cShow hk a1 a2 b1 b2 w2 S2 (by omega) hspC (by rw [gC]; exact B2')
  have w3 := w2.fr f3 (fun x j q => by unfold AR at q; omega)
  have h3 := w3.1
  have c3 := w3.2.1
  have L3 : CpL M3 S (24 + 3 * (1 + 3 * c)) (lay S (R + 16 * (1 + c))) (R + 16 * (1 + c)) 1 := B2'.fr f3 (fun x j q => by unfold AR at q; omega)
  have kC := lay_kb hk hspC
  have nk := hk.2.1
  obtain ⟨M', z1, z2, z3⟩ := cGc (N := N) (E := E) hk a1 a2 b1 b2 (row := 1 + 3 * c) (by omega) (C := R + 16 * (1 + c)) (by omega) (by omega) hspC 2 fu 0 M3 _ w3 S3 L3 (by omega) (by omega)
  refine ⟨M', ?_, (((f1.trans f2).mono (ASp_AR (by omega) (by omega))).trans (f3.mono (AR_mono (by omega)))).trans (z2.mono (AR_mono (by omega))), ?_⟩
  · rw [cv_eq (spA_l h1 (R := 1 + 3 * c) (by omega)).1, e2, bV_eq, cv_eq (kd_18 h2), e3, bV_eq, fR_eq (kd_18 h3) (rr_18_0 h3), fI_eq (spA_l h3 (R := 1 + 3 * c) (by omega)).1, L3.1.1, cv_eq (kd_2 h3), show (6 : Int32) = iz 6 from rfl, cK h3 c3 kC.1 (by omega) (by omega) (by omega), bI_eq]
    exact z1
  · rw [← List.append_assoc]; exact z3
theorem cRt (hk : scOK S) (a1 : -100 ≤ a) (a2 : a ≤ 40000) (b1 : 0 ≤ b) (b2 : b ≤ 40000) {R : Int} (hR : R % 256 = 0) (hs : isSp S R) : ∀ (r n c : Nat) (M : am_M) (L : List Int), WKs M S a b N E → Shn M S L (1 + 3 * c) → CpL M S 24 (lay S R) R 0 → c + r = 2 → r < n → ∃ M', F_Walk_stepRoot_L93 n 18 24 (iz (sK S (kKd (lay S R)) 6)) (iz (c : Int)) M = some (some (.int 1), M') ∧ Fr (AR (1 + 3 * c)) M M' ∧ Shn M' S (L ++ cds S a b R r c) 7
  | r, 0, c, M, L, hw, hS, hL, q1, q2 => by omega
  | 0, n + 1, c, M, L, hw, hS, hL, q1, q2 => by
    have kb := lay_kb hk hs
    have k6 := (hk.2.2.2.2.1 _ kb.1 kb.2).2.2.2.2.2.2
    rw [cds, List.append_nil]
    refine ⟨M, ?_, Fr.refl M, hS.mono (by omega) (by omega)⟩
    rw [F_Walk_stepRoot_L93, ifE (by omega) (by omega) (by omega) (by omega), if_pos (by omega)]
  | r + 1, n + 1, c, M, L, hw, hS, hL, q1, q2 => by
    obtain ⟨h, hc, -⟩ := id hw
    have kb := lay_kb hk hs
    have k6 := (hk.2.2.2.2.1 _ kb.1 kb.2).2.2.2.2.2.2
    by_cases g : sK S (kKd (lay S R)) 6 ≤ c
    · refine ⟨M, ?_, Fr.refl M, ?_⟩
      · rw [F_Walk_stepRoot_L93, ifE (by omega) (by omega) (by omega) (by omega), if_pos (by omega)]
      · rw [cds_nil (r + 1) c (fun j z1 z2 => ?_), List.append_nil]
        · exact hS.mono (by omega) (by omega)
        have ng : ¬ isSp S (R + 16 * (1 + j)) := fun z => by have := (sp_ch hR hs (c := j) (by omega) (by omega)).mp z; omega
        refine ⟨fun z => ng z.1, fun i i1 i2 z => ng ?_⟩
        have qs := z.1
        unfold isSp at hs qs ⊢
        rw [show (R + 16 * (1 + j) + 1 + i) / 256 = (R + 16 * (1 + j)) / 256 by omega, show (R + 16 * (1 + j) + 1 + i) % 256 / 16 = (R + 16 * (1 + j)) % 256 / 16 by omega, show (R + 16 * (1 + j) + 1 + i) % 256 % 16 = 1 + i by omega] at qs
        omega
    obtain ⟨M1, e1, f1, S1⟩ := cCh hk a1 a2 b1 b2 hR hs (c := c) (by omega) hw hS hL (by omega)
    have w1 := hw.fr f1 (fun x j q => by unfold AR at q; omega)
    have L1 : CpL M1 S 24 (lay S R) R 0 := hL.fr f1 (fun x j q => by unfold AR at q; omega)
    obtain ⟨M', z1, z2, z3⟩ := cRt hk a1 a2 b1 b2 hR hs r n (c + 1) M1 _ w1 S1 L1 (by omega) (by omega)
    refine ⟨M', ?_, f1.trans (z2.mono (AR_mono (by omega))), ?_⟩
    · rw [F_Walk_stepRoot_L93, ifE (by omega) (by omega) (by omega) (by omega), if_neg (by omega), show (2 : Int32) = iz 2 from rfl, ifE (by omega) (by omega) (by omega) (by omega), if_neg (by omega), show (1 : Int32) = iz 1 from rfl, show (3 : Int32) = iz 3 from rfl, iz_mul, iz_add, nm_eq, show (1 : Int) + (c : Int) * 3 = ((1 + 3 * c : Nat) : Int) by omega, cv_eq (kd_18 h), e1, bV_eq, iz_add, nm_eq, show ((c : Int) + 1) = ((c + 1 : Nat) : Int) by omega]
      exact z1
    · rw [cds, ← List.append_assoc]; exact z3
def updN (N : Int → Int) (s v x : Int) : Int := if x = s then v else N x
theorem cStep0 (hw : WKs M S a b N E) (hb : NE S N E) (hl : lrt N E = -1) : F_Walk_stepRoot 18 M = some (some (.int 0), wI M 18 8 (iz 0)) := by
  have h := hw.1
  have w1 : WKs (wI M 18 8 (iz 0)) S a b N E := hw.fr (Fr.wI (A := fun x j => x = 18 ∧ j = 8) ⟨rfl, rfl⟩) (fun x j q => Or.inl q)
  unfold F_Walk_stepRoot
  rw [show (0 : Int32) = iz 0 from rfl, sI_eq (kd_18 h), cv_eq (kd_18 w1.1), cLeast w1 hb, bI_eq, hl, if_pos (by decide)]
theorem cStep (hk : scOK S) (a1 : -100 ≤ a) (a2 : a ≤ 40000) (b1 : 0 ≤ b) (b2 : b ≤ 40000) (hw : WKs M S a b N E) (hb : NE S N E) {s : Int} (hl : lrt N E = s) (hn : s ≠ -1) : (0 ≤ s ∧ s < sNs S ∧ s < 4 ∧ 0 ≤ N s ∧ N s < E s ∧ E s ≤ rts S s) ∧ ∃ M', F_Walk_stepRoot 18 M = some (some (.int 1), M') ∧ Fr AWk M M' ∧ WKs M' S a b (updN N s (N s + 1)) E ∧ Shn M' S (shw S a b (256 * (4 * N s + s))) 7 := by
  have lg := lrt_g N E
  rw [hl] at lg
  rcases lg with z | ⟨s0, s4, nlt, -⟩
  · exact absurd z.1 hn
  obtain ⟨n0, n1, e0, e1, e2⟩ := hb s s0 s4
  obtain ⟨ss, er⟩ := e2 nlt
  refine ⟨⟨s0, ss, s4, n0, nlt, er⟩, ?_⟩
  have h := hw.1
  have fg := fu_ge
  have w1 : WKs (wI M 18 8 (iz 0)) S a b N E := hw.fr (Fr.wI (A := fun x j => x = 18 ∧ j = 8) ⟨rfl, rfl⟩) (fun x j q => Or.inl q)
  have v1 : rI (wI M 18 8 (iz 0)) 18 8 = iz 0 := rI_at rfl rfl
  have f1 : Fr AWk M (wI M 18 8 (iz 0)) := Fr.wI (by unfold AWk; omega)
  have hs : isSp S (256 * (4 * N s + s)) := by
    unfold isSp
    rw [show 256 * (4 * N s + s) / 256 = 4 * N s + s by omega, show (4 * N s + s) % 4 = s by omega, show (4 * N s + s) / 4 = N s by omega]
    exact ⟨by omega, ss, by omega, Or.inl (by omega)⟩
  have hR : 256 * (4 * N s + s) % 256 = 0 := by omega
  have eR := lay_rt (S := S) s (N s) s0 s4
  unfold F_Walk_stepRoot
  rw [show (0 : Int32) = iz 0 from rfl, sI_eq (kd_18 h)]
  generalize wI M 18 8 (iz 0) = M1 at w1 v1 f1 ⊢
  have h1 := w1.1
  have rb := rts_bd hk s0 ss
  rw [cv_eq (kd_18 h1), cLeast w1 hb, bI_eq, hl, show (-1 : Int32) = iz (-1) from rfl, ifQ (by omega) (by omega) (by omega) (by omega), if_neg hn, fR_eq (kd_18 h1) (rr_18_3 h1), aI_eq (kd_21 h1) (ln_21 h1) s0 (by omega) (by omega), fR_eq (kd_18 h1) (rr_18_3 h1), aI_eq (kd_21 h1) (ln_21 h1) s0 (by omega) (by omega), (w1.2.2.2.2.2 s s0 s4).1, show (1 : Int32) = iz 1 from rfl, iz_add, tI_eq (kd_21 h1) (ln_21 h1) s0 (by omega) (by omega)]
  have f2 : Fr (fun x j => x = 21) M1 (wI M1 21 s.toNat (iz (N s + 1))) := Fr.wI rfl
  have w2 : WKs (wI M1 21 s.toNat (iz (N s + 1))) S a b (updN N s (N s + 1)) E := by
    obtain ⟨z1, z2, z3, z4, z5, z6⟩ := w1
    refine ⟨z1.fr f2, z2.fr f2 (fun x j q => by omega), by rw [f2.ri (by omega)]; exact z3, by rw [f2.ri (by omega)]; exact z4, fun g' k y1 y2 y3 y4 y5 => by rw [f2.ri (by omega)]; exact z5 g' k y1 y2 y3 y4 y5, fun t t1 t2 => ?_⟩
    refine ⟨?_, by rw [f2.ri (by omega)]; exact (z6 t t1 t2).2⟩
    unfold updN
    by_cases e : t = s
    · rw [if_pos e, rI_at rfl (by rw [e])]
    · rw [if_neg e, rI_ne (by omega)]; exact (z6 t t1 t2).1
  have S2 : Shn (wI M1 21 s.toNat (iz (N s + 1))) S [] 0 := ⟨by omega, by rw [rI_ne (by omega)]; exact v1, Nat.le_refl 0, fun j c q => by cases q⟩
  have f2' : Fr AWk M1 (wI M1 21 s.toNat (iz (N s + 1))) := f2.mono (fun x j q => by unfold AWk; omega)
  generalize wI M1 21 s.toNat (iz (N s + 1)) = M2 at w2 S2 f2' ⊢
  have h2 := w2.1
  have c2 := w2.2.1
  have bb := bornR_bd hk s0 ss n0 (show N s < rts S s by omega)
  have k0 := (hk.2.2.2.2.2 s s0 ss).1
  obtain ⟨M3, e3, f3, B3⟩ := cBegR h2 c2 hk (spA_l h2 (R := 0) (by omega)) (by omega) (s := s) (k := N s) (w := bornR S s (N s)) s0 ss
  have w3 := w2.fr f3 (fun x j q => by unfold ASp at q; omega)
  have h3 := w3.1
  have c3 := w3.2.1
  have S3 : Shn M3 S [] 0 := S2.fr f3 (fun x j q => by unfold ASp at q; omega)
  have oe := cOut hk a1 a2 b1 b2 w3 (R := 0) (by omega) B3 k0.1 k0.2 (by omega) (by omega) (by omega) (by omega)
  rw [fR_eq (kd_18 h2) (rr_18_1 h2), aLine h2 (R := 0) (i := 0) (by omega) rfl, fR_eq (kd_18 h2) (rr_18_0 h2), cv_eq (kd_2 h2), cBirth h2 c2 hk s0 ss n0 (by omega), bI_eq, cv_eq (spA_l h2 (R := 0) (by omega)).1, e3, bV_eq, cv_eq (kd_18 h3), oe, bI_eq, bz_if]
  have ebn : kBn (lay S (256 * (4 * N s + s))) = bornR S s (N s) := by rw [eR]; rfl
  have ekd : kKd (lay S (256 * (4 * N s + s))) = sQ S s 0 := by rw [eR]; rfl
  by_cases go : b ≤ bornR S s (N s) ∨ bornR S s (N s) + lif S (256 * (4 * N s + s)) (sQ S s 0) + sbh S 0 (sQ S s 0) ≤ a
  · rw [if_pos go, prune0 hk hR hs (by rw [ebn, ekd]; exact go)]
    exact ⟨M3, rfl, (f1.trans f2').trans (f3.mono (fun x j q => by unfold ASp at q; unfold AWk; omega)), w3, S3.mono (by omega) (by omega)⟩
  rw [if_neg go]
  have q0 := (hk.2.2.2.2.2 s s0 ss).2.1
  obtain ⟨M4, e4, f4, B4⟩ := cFly h3 c3 hk (spA_l h3 (R := 0) (by omega)) (by omega) B3 k0.1 k0.2 (by omega) (by omega) (fun j j1 j2 => by have := q0 j j1 j2; unfold wl; omega)
  have w4 := w3.fr f4 (fun x j q => by unfold ASp at q; omega)
  have h4 := w4.1
  have S4 : Shn M4 S [] 0 := S3.fr f4 (fun x j q => by unfold ASp at q; omega)
  have gR : gen (256 * (4 * N s + s)) = 0 := by unfold gen; rw [if_pos (by omega), if_pos (by omega)]
  have B4' : CpL M4 S 24 (lay S (256 * (4 * N s + s))) (256 * (4 * N s + s)) 0 := by rw [eR]; exact B4
  obtain ⟨M5, e5, f5, S5⟩ := cShow hk a1 a2 b1 b2 w4 S4 (by omega) hs (by rw [gR]; exact B4')
  have w5 := w4.fr f5 (fun x j q => by unfold AR at q; omega)
  have h5 := w5.1
  have c5 := w5.2.1
  have L5 : CpL M5 S 24 (lay S (256 * (4 * N s + s))) (256 * (4 * N s + s)) 0 := B4'.fr f5 (fun x j q => by unfold AR at q; omega)
  have nk := hk.2.1
  obtain ⟨M', z1, z2, z3⟩ := cRt hk a1 a2 b1 b2 hR hs 2 fu 0 M5 _ w5 S5 L5 (by omega) (by omega)
  refine ⟨M', ?_, ((((f1.trans f2').trans (f3.mono (fun x j q => by unfold ASp at q; unfold AWk; omega))).trans (f4.mono (fun x j q => by unfold ASp at q; unfold AWk; omega))).trans (f5.mono AR_AWk)).trans (z2.mono AR_AWk), w5.fr z2 (fun x j q => by unfold AR at q; omega), ?_⟩
  · rw [cv_eq (spA_l h3 (R := 0) (by omega)).1, e4, bV_eq, cv_eq (kd_18 h4), show (iz 0) = iz ((0 : Nat) : Int) from rfl, e5, bV_eq, fR_eq (kd_18 h5) (rr_18_0 h5), fI_eq (spA_l h5 (R := 0) (by omega)).1, show (24 + 3 * 0 : Nat) = 24 from rfl, L5.1.1, ekd, cv_eq (kd_2 h5), show (6 : Int32) = iz 6 from rfl, cK h5 c5 k0.1 (by omega) (by omega) (by omega), bI_eq]
    rw [ekd] at z1
    exact z1
  · exact z3
end Walk4
