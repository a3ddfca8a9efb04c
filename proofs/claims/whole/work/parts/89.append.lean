/-! ===== one more in the frame ===== -/
section Append
variable {M M0 : am_M} {S : Sc} {t : Int}
def FSt (M : am_M) (b cap n : Nat) : Prop := SH M ∧ rI M 45 2 = iz (n : Int) ∧ n < cap ∧ cap ≤ 16384 ∧ (b = 46 ∨ 89 ≤ b) ∧ FrR M b cap
theorem FSt.w {b cap n j : Nat} {v : Int32} (h : FSt M b cap n) : FSt (wI M b j v) b cap n := by
  obtain ⟨h1, h2, h3, h4, h5, h6⟩ := h
  exact ⟨h1.wI, by rw [rI_ne (by omega)]; exact h2, h3, h4, h5, h6⟩
theorem CpL.wI {a x j : Nat} {v : Int32} {p : Sk} {c g : Int} (h : CpL M S a p c g) (hx : x < a ∨ a + 2 < x) : CpL (wI M x j v) S a p c g := h.fr (Fr.wI (A := fun y _ => y = x) rfl) (fun y j q => by omega)
theorem CS.wI {x j : Nat} {v : Int32} (h : CS M S) (hx : 5 < x) : CS (wI M x j v) S := h.fr (Fr.wI (A := fun y _ => y = x) rfl) (fun y j q => by omega)
theorem FSt.tt {b cap n : Nat} {y v : Int32} {f : am_M → am_R} (h : FSt M b cap n) (k : Nat) (hk : k < 7) (e : y = iz (k : Int)) : tI M b (iz ((n : Int) * 7) + y) v f = f (wI M b (7 * n + k) v) := by
  obtain ⟨h1, h2, h3, h4, h5, h6⟩ := h
  obtain ⟨-, ⟨z2, z3⟩, -⟩ := h6
  rw [e, iz_add, tI_eq z2 z3 (by omega) (by omega) (by omega), show ((n : Int) * 7 + (k : Int)).toNat = 7 * n + k by omega]
theorem FSt.r {b cap n : Nat} {f : Nat → am_R} (h : FSt M b cap n) : fR M 45 5 3 f = f b := fR_eq (kd_45 h.1) h.2.2.2.2.2.1.1
theorem FSt.l {b cap n : Nat} {f : Int32 → am_R} (h : FSt M b cap n) : fI M 45 5 2 f = f (iz (n : Int)) := by rw [fI_eq (kd_45 h.1), h.2.1]
theorem cPl (h : SH M) (hc : CS M S) (hk : scOK S) {a : Nat} {c i : Int} (hf : inFr S t c) (hA : SpA M a) (hL : CpL M S a (lay S c) c (gen c)) (h1 : 0 ≤ i) (h2 : i < 3) : F_Sprk_placeAt a (iz i) (iz (t - kBn (lay S c))) M = some (some (.int (iz (pz S t c i))), M) := by
  have lg := lay_g hk hf.1
  have bd := skG.bd hk lg h1 h2
  have l4 := lg.1.2.2.2.1
  have t1 := hf.2.1
  have t2 := hf.2.2
  exact cPlc h hc hk hA hL.1 lg.1.1 bd.1 bd.2 h1 h2 (by omega) (by omega)
theorem cAx (hc : CS M S) (hk : scOK S) {b cap row n i m : Nat} {c : Int} (hF : FSt M b cap n) (hr : row < 7) (hL : CpL M S (24 + 3 * row) (lay S c) c (gen c)) (hf : inFr S t c) (hi : i < 3) : F_Fram_append_L92 (m + 1) 45 (24 + 3 * row) (iz t) (iz ((n : Int) * 7)) (iz (i : Int)) M = F_Fram_append_L92 m 45 (24 + 3 * row) (iz t) (iz ((n : Int) * 7)) (iz ((i + 1 : Nat) : Int)) (wI M b (7 * n + (4 + i)) (iz (pz S t c (i : Int)))) := by
  rw [F_Fram_append_L92, show (3 : Int32) = iz 3 from rfl, ifE (by omega) (by omega) (by omega) (by omega), if_neg (by omega), hF.r, fI_eq (spA_l hF.1 hr).1, hL.2.2.2.1, iz_sub, cv_eq (spA_l hF.1 hr).1, cPl hF.1 hc hk hf (spA_l hF.1 hr) hL (by omega) (by omega), bI_eq, show iz ((n : Int) * 7) + 4 + iz (i : Int) = iz ((n : Int) * 7) + iz ((4 + i : Nat) : Int) by rw [show (4 : Int32) = iz 4 from rfl, iz_add, iz_add, iz_add]; congr 1; omega, hF.tt (4 + i) (by omega) rfl, nm_eq, show (1 : Int32) = iz 1 from rfl, iz_add, show ((i : Int) + 1) = ((i + 1 : Nat) : Int) by omega]
theorem cApp16 (hc : CS M S) (hk : scOK S) {b cap row : Nat} {L : List Int} {c : Int} (hF : FSt M b cap L.length) (hr : row < 7) (hL : CpL M S (24 + 3 * row) (lay S c) c (gen c)) (hf : inFr S t c) : ∃ M', F_Fram_append_L16 45 (24 + 3 * row) (iz t) M = some (none, M') ∧ Fr (fun x j => x = b ∨ (x = 45 ∧ j = 2)) M M' ∧ rI M' 45 2 = iz ((L.length + 1 : Nat) : Int) ∧ (∀ j, ¬ (7 * L.length ≤ j ∧ j < 7 * L.length + 7) → rI M' b j = rI M b j) ∧ rI M' b (7 * L.length) = iz c ∧ rI M' b (7 * L.length + 1) = iz (kKd (lay S c)) ∧ rI M' b (7 * L.length + 2) = iz (kBn (lay S c)) ∧ rI M' b (7 * L.length + 3) = iz (kEn (lay S c)) ∧ rI M' b (7 * L.length + 4) = iz (pz S t c 0) ∧ rI M' b (7 * L.length + 5) = iz (pz S t c 1) ∧ rI M' b (7 * L.length + 6) = iz (pz S t c 2) := by
  have fg := fu_ge
  obtain ⟨f4, hf4⟩ : ∃ f, fu = f + 1 + 1 + 1 + 1 := ⟨fu - 4, by omega⟩
  have b5 := hF.2.2.2.2.1
  obtain ⟨M1, e1⟩ : ∃ X, X = wI M b (7 * L.length + 0) (iz c) := ⟨_, rfl⟩
  have F1 : FSt M1 b cap L.length := by rw [e1]; exact hF.w
  have L1 : CpL M1 S (24 + 3 * row) (lay S c) c (gen c) := by rw [e1]; exact hL.wI (by omega)
  have C1 : CS M1 S := by rw [e1]; exact hc.wI (by omega)
  obtain ⟨M2, e2⟩ : ∃ X, X = wI M1 b (7 * L.length + 1) (iz (kKd (lay S c))) := ⟨_, rfl⟩
  have F2 : FSt M2 b cap L.length := by rw [e2]; exact F1.w
  have L2 : CpL M2 S (24 + 3 * row) (lay S c) c (gen c) := by rw [e2]; exact L1.wI (by omega)
  have C2 : CS M2 S := by rw [e2]; exact C1.wI (by omega)
  obtain ⟨M3, e3⟩ : ∃ X, X = wI M2 b (7 * L.length + 2) (iz (kBn (lay S c))) := ⟨_, rfl⟩
  have F3 : FSt M3 b cap L.length := by rw [e3]; exact F2.w
  have L3 : CpL M3 S (24 + 3 * row) (lay S c) c (gen c) := by rw [e3]; exact L2.wI (by omega)
  have C3 : CS M3 S := by rw [e3]; exact C2.wI (by omega)
  obtain ⟨M4, e4⟩ : ∃ X, X = wI M3 b (7 * L.length + 3) (iz (kEn (lay S c))) := ⟨_, rfl⟩
  have F4 : FSt M4 b cap L.length := by rw [e4]; exact F3.w
  have L4 : CpL M4 S (24 + 3 * row) (lay S c) c (gen c) := by rw [e4]; exact L3.wI (by omega)
  have C4 : CS M4 S := by rw [e4]; exact C3.wI (by omega)
  obtain ⟨M5, e5⟩ : ∃ X, X = wI M4 b (7 * L.length + (4 + 0)) (iz (pz S t c ((0 : Nat) : Int))) := ⟨_, rfl⟩
  have F5 : FSt M5 b cap L.length := by rw [e5]; exact F4.w
  have L5 : CpL M5 S (24 + 3 * row) (lay S c) c (gen c) := by rw [e5]; exact L4.wI (by omega)
  have C5 : CS M5 S := by rw [e5]; exact C4.wI (by omega)
  obtain ⟨M6, e6⟩ : ∃ X, X = wI M5 b (7 * L.length + (4 + 1)) (iz (pz S t c ((1 : Nat) : Int))) := ⟨_, rfl⟩
  have F6 : FSt M6 b cap L.length := by rw [e6]; exact F5.w
  have L6 : CpL M6 S (24 + 3 * row) (lay S c) c (gen c) := by rw [e6]; exact L5.wI (by omega)
  have C6 : CS M6 S := by rw [e6]; exact C5.wI (by omega)
  obtain ⟨M7, e7⟩ : ∃ X, X = wI M6 b (7 * L.length + (4 + 2)) (iz (pz S t c ((2 : Nat) : Int))) := ⟨_, rfl⟩
  have F7 : FSt M7 b cap L.length := by rw [e7]; exact F6.w
  refine ⟨wI M7 45 2 (iz ((L.length + 1 : Nat) : Int)), ?_, ?_, rI_at rfl rfl, fun j hj => ?_, ?_, ?_, ?_, ?_, ?_, ?_, ?_⟩
  · have l3 := hF.2.2.1
    have l4 := hF.2.2.2.1
    have kb : mKd M b < 4 := by rw [hF.2.2.2.2.2.2.1.1]; decide
    have q1 : F_Fram_append_L92 fu 45 (24 + 3 * row) (iz t) (iz ((L.length : Int) * 7)) (iz ((0 : Nat) : Int)) M4 = some (none, wI M7 45 2 (iz ((L.length + 1 : Nat) : Int))) := by
      rw [hf4, cAx C4 hk F4 hr L4 hf (by omega), ← e5, cAx C5 hk F5 hr L5 hf (by omega), ← e6, cAx C6 hk F6 hr L6 hf (by omega), ← e7, F_Fram_append_L92, show (3 : Int32) = iz 3 from rfl, ifE (by omega) (by omega) (by omega) (by omega), if_pos (by omega), F7.l, show (1 : Int32) = iz 1 from rfl, iz_add, sI_eq (kd_45 F7.1), show ((L.length : Int) + 1) = ((L.length + 1 : Nat) : Int) by omega]
    unfold F_Fram_append_L16
    rw [hF.l, show iz (L.length : Int) * 7 = iz ((L.length : Int) * 7) from iz_mul _ 7, nm_eq, show (0 : Int32) = iz ((0 : Nat) : Int) from rfl, ifL (by omega) (by omega) (by omega) (by omega), if_neg (by omega), hF.r, aN_eq kb hF.2.2.2.2.2.2.1.2, show iz ((L.length : Int) * 7) + 7 = iz ((L.length : Int) * 7 + 7) from iz_add _ 7, ifE (by omega) (by omega) (by omega) (by omega), if_pos (by omega)]
    rw [hF.r, fI_eq (spA_l hF.1 hr).1, hL.2.1, hF.tt 0 (by omega) rfl, ← e1]
    rw [F1.r, fI_eq (spA_l F1.1 hr).1, L1.1.1, F1.tt 1 (y := 1) (by omega) rfl, ← e2]
    rw [F2.r, fI_eq (spA_l F2.1 hr).1, L2.2.2.2.1, F2.tt 2 (y := 2) (by omega) rfl, ← e3]
    rw [F3.r, fI_eq (spA_l F3.1 hr).1, L3.2.2.2.2, F3.tt 3 (y := 3) (by omega) rfl, ← e4]
    exact q1
  · rw [e7, e6, e5, e4, e3, e2, e1]
    refine (((((((Fr.wI ?_).trans (Fr.wI ?_)).trans (Fr.wI ?_)).trans (Fr.wI ?_)).trans (Fr.wI ?_)).trans (Fr.wI ?_)).trans (Fr.wI ?_)).trans (Fr.wI ?_)
    all_goals omega
  · rw [rI_ne (by omega), e7, rI_ne (by omega), e6, rI_ne (by omega), e5, rI_ne (by omega), e4, rI_ne (by omega), e3, rI_ne (by omega), e2, rI_ne (by omega), e1, rI_ne (by omega)]
  · rw [rI_ne (by omega), e7, rI_ne (by omega), e6, rI_ne (by omega), e5, rI_ne (by omega), e4, rI_ne (by omega), e3, rI_ne (by omega), e2, rI_ne (by omega), e1, rI_at rfl (by omega)]
  · rw [rI_ne (by omega), e7, rI_ne (by omega), e6, rI_ne (by omega), e5, rI_ne (by omega), e4, rI_ne (by omega), e3, rI_ne (by omega), e2, rI_at rfl rfl]
  · rw [rI_ne (by omega), e7, rI_ne (by omega), e6, rI_ne (by omega), e5, rI_ne (by omega), e4, rI_ne (by omega), e3, rI_at rfl rfl]
  · rw [rI_ne (by omega), e7, rI_ne (by omega), e6, rI_ne (by omega), e5, rI_ne (by omega), e4, rI_at rfl rfl]
  · rw [rI_ne (by omega), e7, rI_ne (by omega), e6, rI_ne (by omega), e5, rI_at rfl (by omega)]
    rfl
  · rw [rI_ne (by omega), e7, rI_ne (by omega), e6, rI_at rfl (by omega)]
    rfl
  · rw [rI_ne (by omega), e7, rI_at rfl (by omega)]
    rfl
theorem FrA.fr {A : Nat → Nat → Prop} {M' : am_M} (h : FrA M) (hf : Fr A M M') : FrA M' := by
  obtain ⟨b, cap, h1, h2, h3, h4, h5, h6, h7⟩ := h
  exact ⟨b, cap, h1, by rw [hf.1]; exact h2, h3, h4, by unfold FrR; rw [hf.rr, hf.rr, hf.kd, hf.ln, hf.kd, hf.ln]; exact h5, by rw [hf.1]; exact h6, by rw [hf.2.1]; exact h7⟩
theorem fb_fr {A : Nat → Nat → Prop} {M' : am_M} (hf : Fr A M M') : fb M' = fb M := by unfold fb; rw [hf.rr]
theorem cApp1 (h : SH M) (hc : CS M S) (hk : scOK S) (ha : FrA M) {row : Nat} {L : List Int} {c : Int} (hC : FrC M S t L) (hlt : L.length < mLn M (fb M + 1)) (hr : row < 7) (hL : CpL M S (24 + 3 * row) (lay S c) c (gen c)) (hf : inFr S t c) : ∃ M', F_Fram_append_L16 45 (24 + 3 * row) (iz t) M = some (none, M') ∧ KG M M' ∧ FrC M' S t (L ++ [c]) := by
  obtain ⟨cap, b1, b2, c1, ⟨c2, -⟩, hA, n1, n2⟩ := ha.at
  obtain ⟨l1, l2, l3⟩ := hC
  have lc : mLn M (fb M + 1) = cap := hA.2.2.2
  rw [lc] at hlt l2
  have hF : FSt M (fb M) cap L.length := ⟨h, l1, hlt, c2, b1, hA⟩
  obtain ⟨M', e, fr, z1, z2, z3, z4, z5, z6, z7, z8, z9⟩ := cApp16 hc hk hF hr hL hf
  have fe := fb_fr fr
  refine ⟨M', e, ⟨h.fr fr, ha.fr fr, fun x j hx => fr.ri (by omega)⟩, ?_, ?_, fun i d q => ?_⟩
  · rw [z1, List.length_append]; rfl
  · rw [fe, fr.ln, lc, List.length_append]; exact hlt
  · by_cases ei : i < L.length
    · rw [List.getElem?_append_left ei] at q
      exact (l3 i d q).mv fe (fun k _ => z2 _ (by omega))
    · rw [List.getElem?_append_right (by omega)] at q
      have ej : i = L.length := by
        rcases Nat.lt_or_ge (i - L.length) 1 with z | z
        · omega
        · rw [List.getElem?_eq_none (by simpa using z)] at q; cases q
      subst ej
      rw [Nat.sub_self] at q
      have ed : d = c := by simpa using q.symm
      subst ed
      unfold FrE
      rw [fe]
      exact ⟨z3, z4, z5, z6, z7, z8, z9⟩
theorem KG.trans {M1 M2 : am_M} (h1 : KG M M1) (h2 : KG M1 M2) : KG M M2 := ⟨h2.1, h2.2.1, fun x j q => (h2.2.2 x j q).trans (h1.2.2 x j q)⟩
theorem CS.kg {M' : am_M} (h : CS M S) (hf : KG M M') : CS M' S := by
  obtain ⟨h1, h2, h3, h4, h5, h6⟩ := h
  exact ⟨fun i q1 q2 => by rw [hf.2.2 _ _ (by omega)]; exact h1 i q1 q2, fun k f q1 q2 q3 q4 => by rw [hf.2.2 _ _ (by omega)]; exact h2 k f q1 q2 q3 q4, fun k f q1 q2 q3 q4 => by rw [hf.2.2 _ _ (by omega)]; exact h3 k f q1 q2 q3 q4, by rw [hf.2.2 _ _ (by omega)]; exact h4, by rw [hf.2.2 _ _ (by omega)]; exact h5, by rw [hf.2.2 _ _ (by omega)]; exact h6⟩
theorem KG.kw {M' : am_M} (h : KG M M') : KW M M' := ⟨h.1, fun x j q => h.2.2 x j (by omega)⟩
theorem cAppend (h : SH M) (hc : CS M S) (hk : scOK S) (ha : FrA M) {row : Nat} {L : List Int} {c : Int} (hC : FrC M S t L) (hlen : L.length ≤ 16080) (hr : row < 7) (hL : CpL M S (24 + 3 * row) (lay S c) c (gen c)) (hf : inFr S t c) : ∃ M', F_Fram_append 45 (24 + 3 * row) (iz t) M = some (none, M') ∧ KG M M' ∧ FrC M' S t (L ++ [c]) := by
  obtain ⟨cap, b1, b2, c1, ⟨c2, -⟩, hA, n1, n2⟩ := ha.at
  have e0 : rR M 45 4 = some (fb M + 1) ∧ mKd M (fb M + 1) = 0 ∧ mLn M (fb M + 1) = cap := ⟨hA.1.2, hA.2.2.1, hA.2.2.2⟩
  have l1 := hC.1
  unfold F_Fram_append
  rw [fI_eq (kd_45 h), l1, fR_eq (kd_45 h) e0.1, aN_eq (by omega) e0.2.2, ifL (by omega) (by omega) (by omega) (by omega)]
  by_cases g : (L.length : Int) < (cap : Int)
  · rw [if_pos g]
    exact cApp1 h hc hk ha hC (by rw [e0.2.2]; omega) hr hL hf
  · rw [if_neg g]
    obtain ⟨M1, e1, k1, C1, lt1⟩ := cGrow h ha hC (by rw [e0.2.2]; omega) hlen
    obtain ⟨M2, e2, k2, C2⟩ := cApp1 k1.1 (hc.kg k1) hk k1.2.1 C1 lt1 hr (hL.kw hr k1.kw) hf
    exact ⟨M2, by rw [cv_eq (kd_45 h), e1, bV_eq]; exact e2, k1.trans k2, C2⟩
/-- all that a frame's walk shows -/
theorem lpShows (hk : scOK S) (M0 : am_M) (t1 : 0 ≤ t) (t2 : t ≤ 30000) : LoopH (X := Unit) S t (t + 1) (wkl S t (t + 1)) (fun n _ i M => F_Fram_shows_L47 n 45 (iz t) i M) (fun m n _ i j M => F_Fram_shows_L65 (F_Fram_shows_L47 n) m 45 (iz t) i j M) (fun _ M => cv M 45 5 (bV (F_Fram_putInOrder 45 M) (fun M14 => sI M14 45 5 6 (iz t) (fun M15 => some (some (.int 1), M15))))) (fun L _ M => SH M ∧ FrA M ∧ FrC M S t L ∧ ∀ x j, (x ≤ 17 ∨ (49 ≤ x ∧ x ≤ 88)) → rI M x j = rI M0 x j) := by
  refine ⟨fun n x i M h i0 i1 => ?_, fun m n x i j len M h hl l0 l7 hj => ?_, fun m n x i j row L c len M hP h hc hin hr hL hl jl l7 hs hT => ?_, fun L x M M' hP hf => ?_⟩
  · show F_Fram_shows_L47 (n + 1) 45 (iz t) (iz i) M = _
    rw [F_Fram_shows_L47, show (1000000 : Int32) = iz 1000000 from rfl, ifE (by omega) (by omega) (by omega) (by omega), if_neg (by omega), fR_eq (kd_45 h) (rr_45_1 h), cv_eq (kd_18 h)]
    rfl
  · show F_Fram_shows_L65 (F_Fram_shows_L47 n) (m + 1) 45 (iz t) (iz i) (iz j) M = _
    rw [F_Fram_shows_L65, fR_eq (kd_45 h) (rr_45_1 h), fI_eq (kd_18 h), hl, ifE (by omega) (by omega) (by omega) (by omega), if_pos (by omega), nm_eq, show (1 : Int32) = iz 1 from rfl, iz_add]
  · obtain ⟨p1, p2, p3, p4⟩ := hP
    have hf : inFr S t c := ⟨hin.1, by have := hin.2.1; omega, hin.2.2⟩
    obtain ⟨rest, hT⟩ := hT
    have wl := wkl_len (S := S) (t := t) hk
    rw [← hT, List.length_append, List.length_append] at wl
    obtain ⟨M1, e1, k1, C1⟩ := cAppend h hc hk p2 p3 (by omega) hr hL hf
    refine ⟨(), M1, ?_, ⟨k1.1, k1.2.1, C1, fun x j q => (k1.2.2 x j (by omega)).trans (p4 x j q)⟩, k1.kw⟩
    show F_Fram_shows_L65 (F_Fram_shows_L47 n) (m + 1) 45 (iz t) (iz i) (iz (j : Int)) M = _
    rw [F_Fram_shows_L65, fR_eq (kd_45 h) (rr_45_1 h), fI_eq (kd_18 h), hl, ifE (by omega) (by omega) (by omega) (by omega), if_neg (by omega), fR_eq (kd_45 h) (rr_45_1 h), cv_eq (kd_18 h), hs, bR_eq, cv_eq (kd_45 h), e1, bV_eq, nm_eq, show (1 : Int32) = iz 1 from rfl, iz_add, show ((j : Int) + 1) = ((j + 1 : Nat) : Int) by omega]
  · obtain ⟨p1, p2, ⟨q1, q2, q3⟩, p4⟩ := hP
    obtain ⟨cap, b1, -⟩ := p2.at
    refine ⟨p1.fr hf, p2.fr hf, ⟨by rw [hf.ri (fun q => by unfold AWk at q; omega)]; exact q1, by rw [fb_fr hf, hf.ln]; exact q2, fun i c z => ?_⟩, fun x j q => by rw [hf.ri (fun z => by unfold AWk at z; omega)]; exact p4 x j q⟩
    exact (q3 i c z).mv (fb_fr hf) (fun k _ => hf.ri (fun q => by unfold AWk at q; omega))
end Append
