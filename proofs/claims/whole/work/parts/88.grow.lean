/-! ===== the frame grows ===== -/
section Grow
variable {M M0 : am_M} {S : Sc} {t : Int}
theorem nA_eq {t : Nat} {n : Nat} {f : Nat → am_M → am_R} (h : n ≤ 60000000) : nA M t (iz (n : Int)) f = f (mNx M) (mkC M t n) := by
  unfold nA
  have z : (0 : Int32) = iz 0 := rfl
  rw [iz_clamp (by omega) (by omega), if_pos ⟨fun q => by rw [z, iz_lt (by omega) (by omega) (by omega) (by omega)] at q; omega, by omega⟩, show ((n : Int)).toNat = n by omega]
/-- after k rows of eight -/
def GrS (M0 M : am_M) (b cap k : Nat) : Prop := mNx M = mNx M0 + k ∧ mUs M = mUs M0 + k * (2 * cap) ∧ (∀ x, x < mNx M0 → mKd M x = mKd M0 x ∧ mLn M x = mLn M0 x ∧ ∀ j, rI M x j = rI M0 x j) ∧ (∀ x j, x < mNx M0 → ¬ (x = 45 ∧ 3 ≤ j ∧ j < 3 + k) → rR M x j = rR M0 x j) ∧ ∀ i, i < k → rR M 45 (3 + i) = some (mNx M0 + i) ∧ mKd M (mNx M0 + i) = 0 ∧ mLn M (mNx M0 + i) = 2 * cap ∧ (i < 7 → ∀ j, j < cap → rI M (mNx M0 + i) j = rI M0 (b + i) j)
theorem grStep {b cap k : Nat} (hk7 : k < 7) (n95 : 95 ≤ mNx M0) (hb : b + 8 ≤ mNx M0) (h45 : mKd M0 45 = 5) (hA : ∀ k, k < 8 → rR M0 45 (3 + k) = some (b + k) ∧ mKd M0 (b + k) = 0 ∧ mLn M0 (b + k) = cap) (c1 : 16 ≤ cap) (c2 : cap ≤ 32768) (h : GrS M0 M b cap k) : ∃ M', GrS M0 M' b cap (k + 1) ∧ ∀ f : am_M → am_R, fR M 45 5 (3 + k) (fun b4 => bR (F_Arr_copyOf b4 (iz ((2 * cap : Nat) : Int)) M) (fun _ => none) (fun b6 M5 => sR M5 45 5 (3 + k) b6 (fun M7 => f M7))) = f M' := by
  obtain ⟨h1, h2, h3, h4, h5⟩ := h
  obtain ⟨a1, a2, a3⟩ := hA k (by omega)
  have k45 : mKd M 45 = 5 := by rw [(h3 45 (by omega)).1]; exact h45
  have r45 : rR M 45 (3 + k) = some (b + k) := by rw [h4 45 (3 + k) (by omega) (by omega)]; exact a1
  have kb : mKd M (b + k) = 0 := by rw [(h3 (b + k) (by omega)).1]; exact a2
  have lb : mLn M (b + k) = cap := by rw [(h3 (b + k) (by omega)).2.1]; exact a3
  have ne : b + k ≠ mNx M := by omega
  have kC : mKd (mkC M 0 (2 * cap)) (b + k) = 0 := by rw [mKd_mkC, if_neg ne]; exact kb
  have lC : mLn (mkC M 0 (2 * cap)) (b + k) = cap := by rw [mLn_mkC, if_neg ne]; exact lb
  have kN : mKd (mkC M 0 (2 * cap)) (mNx M) = 0 := by rw [mKd_mkC, if_pos rfl]
  have lN : mLn (mkC M 0 (2 * cap)) (mNx M) = 2 * cap := by rw [mLn_mkC, if_pos rfl]
  have k45' : mKd (cpI (mkC M 0 (2 * cap)) (b + k) 0 (mNx M) 0 cap) 45 = 5 := by rw [mKd_cpI, mKd_mkC, if_neg (by omega)]; exact k45
  refine ⟨wR (cpI (mkC M 0 (2 * cap)) (b + k) 0 (mNx M) 0 cap) 45 (3 + k) (some (mNx M)), ⟨?_, ?_, fun x hx => ⟨?_, ?_, fun j => ?_⟩, fun x j hx hn => ?_, fun i hi => ?_⟩, fun f => ?_⟩
  · rw [mNx_wR, mNx_cpI, mNx_mkC, h1]; omega
  · rw [mUs_wR, mUs_cpI, mUs_mkC, h2, Nat.add_mul]; omega
  · rw [mKd_wR, mKd_cpI, mKd_mkC, if_neg (by omega)]; exact (h3 x hx).1
  · rw [mLn_wR, mLn_cpI, mLn_mkC, if_neg (by omega)]; exact (h3 x hx).2.1
  · rw [rI_wR, rI_cpI, if_neg (by omega), rI_mkC, if_neg (by omega)]; exact (h3 x hx).2.2 j
  · rw [rR_wR, if_neg (by omega), rR_cpI, rR_mkC, if_neg (by omega)]; exact h4 x j hx (by omega)
  · by_cases e : i = k
    · subst e
      refine ⟨by rw [rR_wR, if_pos ⟨rfl, rfl⟩, h1], by rw [mKd_wR, mKd_cpI, ← h1]; exact kN, by rw [mLn_wR, mLn_cpI, ← h1]; exact lN, fun _ j hj => ?_⟩
      rw [rI_wR, ← h1, rI_cpI, if_pos ⟨rfl, by omega, by omega⟩, rI_mkC, if_neg (by omega), show 0 + (j - 0) = j by omega]
      exact (h3 (b + i) (by omega)).2.2 j
    · obtain ⟨z1, z2, z3, z4⟩ := h5 i (by omega)
      refine ⟨by rw [rR_wR, if_neg (by omega), rR_cpI, rR_mkC, if_neg (by omega)]; exact z1, by rw [mKd_wR, mKd_cpI, mKd_mkC, if_neg (by omega)]; exact z2, by rw [mLn_wR, mLn_cpI, mLn_mkC, if_neg (by omega)]; exact z3, fun q j hj => ?_⟩
      rw [rI_wR, rI_cpI, if_neg (by omega), rI_mkC, if_neg (by omega)]
      exact z4 q j hj
  · rw [fR_eq k45 r45]
    have e : F_Arr_copyOf (b + k) (iz ((2 * cap : Nat) : Int)) M = some (some (.ref (mNx M)), cpI (mkC M 0 (2 * cap)) (b + k) 0 (mNx M) 0 cap) := by
      unfold F_Arr_copyOf
      rw [aN_eq (by omega) lb, ifQ (by omega) (by omega) (by omega) (by omega), if_neg (by omega), nA_eq (by omega), aN_eq (by omega) lC, min_eq (by omega) (by omega) (by omega) (by omega), bI_eq, show (0 : Int32) = iz 0 from rfl, show min (cap : Int) ((2 * cap : Nat) : Int) = (cap : Int) by omega, cpy_eq kC kN lC lN (by omega) (by omega) (by omega) (by omega) (by omega) (by omega) (by omega)]
      rfl
    rw [e, bR_eq, sR_eq k45']
theorem grLast {b cap : Nat} (n95 : 95 ≤ mNx M0) (h45 : mKd M0 45 = 5) (c2 : cap ≤ 32768) (h : GrS M0 M b cap 7) : ∃ M', GrS M0 M' b cap 8 ∧ nA M 0 (iz ((2 * cap : Nat) : Int)) (fun b32 M33 => sR M33 45 5 10 b32 (fun M34 => some (none, M34))) = some (none, M') := by
  obtain ⟨h1, h2, h3, h4, h5⟩ := h
  have k45 : mKd M 45 = 5 := by rw [(h3 45 (by omega)).1]; exact h45
  have k45' : mKd (mkC M 0 (2 * cap)) 45 = 5 := by rw [mKd_mkC, if_neg (by omega)]; exact k45
  refine ⟨wR (mkC M 0 (2 * cap)) 45 10 (some (mNx M)), ⟨?_, ?_, fun x hx => ⟨?_, ?_, fun j => ?_⟩, fun x j hx hn => ?_, fun i hi => ?_⟩, ?_⟩
  · rw [mNx_wR, mNx_mkC, h1]
  · rw [mUs_wR, mUs_mkC, h2]; omega
  · rw [mKd_wR, mKd_mkC, if_neg (by omega)]; exact (h3 x hx).1
  · rw [mLn_wR, mLn_mkC, if_neg (by omega)]; exact (h3 x hx).2.1
  · rw [rI_wR, rI_mkC, if_neg (by omega)]; exact (h3 x hx).2.2 j
  · rw [rR_wR, if_neg (by omega), rR_mkC, if_neg (by omega)]; exact h4 x j hx (by omega)
  · by_cases e : i = 7
    · subst e
      exact ⟨by rw [rR_wR, if_pos ⟨rfl, rfl⟩, h1], by rw [mKd_wR, ← h1, mKd_mkC, if_pos rfl], by rw [mLn_wR, ← h1, mLn_mkC, if_pos rfl], fun q => by omega⟩
    · obtain ⟨z1, z2, z3, z4⟩ := h5 i (by omega)
      refine ⟨by rw [rR_wR, if_neg (by omega), rR_mkC, if_neg (by omega)]; exact z1, by rw [mKd_wR, mKd_mkC, if_neg (by omega)]; exact z2, by rw [mLn_wR, mLn_mkC, if_neg (by omega)]; exact z3, fun q j hj => ?_⟩
      rw [rI_wR, rI_mkC, if_neg (by omega)]
      exact z4 q j hj
  · rw [nA_eq (by omega), sR_eq k45']
theorem SH.gr {b cap : Nat} (hS : SH M0) (h : GrS M0 M b cap 8) : SH M := by
  obtain ⟨h1, h2, h3, h4, h5⟩ := h
  refine ⟨by have := hS.1; omega, fun a ha => ?_, fun q hq => ?_⟩
  · have n := hS.1
    obtain ⟨z1, z2, -⟩ := h3 a (by omega)
    rw [z1, z2]
    exact hS.2.1 a ha
  · have n := hS.1
    have lim : q.1 < 95 ∧ ¬ (q.1 = 45 ∧ 3 ≤ q.2.1 ∧ q.2.1 < 3 + 8) := by
      have all : ∀ q ∈ shR, q.1 < 95 ∧ ¬ (q.1 = 45 ∧ 3 ≤ q.2.1 ∧ q.2.1 < 3 + 8) := by decide
      exact all q hq
    rw [h4 _ _ (by omega) lim.2]
    exact hS.2.2 q hq
/-- what the frame may write, and what it keeps -/
def KG (M M' : am_M) : Prop := SH M' ∧ FrA M' ∧ ∀ x j, (x ≤ 44 ∨ (55 ≤ x ∧ x ≤ 94)) → rI M' x j = rI M x j
theorem cGrow {L : List Int} (h : SH M) (ha : FrA M) (hC : FrC M S t L) (hlen : mLn M (fb M) ≤ L.length) (hL : L.length ≤ 16080) : ∃ M', F_Fram_grow 45 M = some (none, M') ∧ KG M M' ∧ FrC M' S t L ∧ L.length < mLn M' (fb M') := by
  obtain ⟨cap, b1, b2, c1, c2, hA, n1, n2⟩ := ha.at
  obtain ⟨l1, l2, l3⟩ := hC
  have n95 := h.1
  have e0 := hA 0 (by omega)
  simp only [Nat.add_zero] at e0
  rw [e0.2.2] at hlen l2
  have ec : cap = L.length := by omega
  have g0 : GrS M M (fb M) cap 0 := ⟨rfl, by omega, fun x hx => ⟨rfl, rfl, fun _ => rfl⟩, fun x j _ _ => rfl, fun i hi => by omega⟩
  obtain ⟨M1, g1, e1⟩ := grStep (k := 0) (by omega) n95 b2 (kd_45 h) hA c1 c2 g0
  obtain ⟨M2, g2, e2⟩ := grStep (k := 1) (by omega) n95 b2 (kd_45 h) hA c1 c2 g1
  obtain ⟨M3, g3, e3⟩ := grStep (k := 2) (by omega) n95 b2 (kd_45 h) hA c1 c2 g2
  obtain ⟨M4, g4, e4⟩ := grStep (k := 3) (by omega) n95 b2 (kd_45 h) hA c1 c2 g3
  obtain ⟨M5, g5, e5⟩ := grStep (k := 4) (by omega) n95 b2 (kd_45 h) hA c1 c2 g4
  obtain ⟨M6, g6, e6⟩ := grStep (k := 5) (by omega) n95 b2 (kd_45 h) hA c1 c2 g5
  obtain ⟨M7, g7, e7⟩ := grStep (k := 6) (by omega) n95 b2 (kd_45 h) hA c1 c2 g6
  obtain ⟨M8, g8, e8⟩ := grLast n95 (kd_45 h) c2 g7
  have h8 : SH M8 := h.gr g8
  obtain ⟨z1, z2, z3, z4, z5⟩ := g8
  have f8 : fb M8 = mNx M := by unfold fb; have := (z5 0 (by omega)).1; rw [Nat.add_zero] at this; rw [show (3 : Nat) = 3 + 0 from rfl, this]; rfl
  have ar : ∀ k, k < 7 → ∀ j, j < cap → rI M8 (mNx M + k) j = rI M (fb M + k) j := fun k hk j hj => (z5 k (by omega)).2.2.2 hk j hj
  refine ⟨M8, ?_, ⟨h8, ?_, fun x j hx => (z3 x (by omega)).2.2 j⟩, ⟨by rw [(z3 45 (by omega)).2.2]; exact l1, ?_, fun i c q => ?_⟩, ?_⟩
  · unfold F_Fram_grow
    rw [fR_eq (kd_45 h) e0.1, aN_eq (by omega) e0.2.2, nm_eq, show (2 : Int32) = iz 2 from rfl, iz_mul, show (2 : Int) * (cap : Int) = ((2 * cap : Nat) : Int) by omega]
    rw [e1, e2, e3, e4, e5, e6, e7]
    exact e8
  · refine ⟨mNx M, 2 * cap, Or.inr n95, by omega, by omega, by omega, fun k hk => ?_, by omega, by omega⟩
    obtain ⟨y1, y2, y3, -⟩ := z5 k hk
    exact ⟨y1, y2, y3⟩
  · rw [f8]
    have := (z5 0 (by omega)).2.2.1
    rw [Nat.add_zero] at this
    rw [this]; omega
  · obtain ⟨y0, y1, y2, y3, y4, y5, y6⟩ := l3 i c q
    have il : i < L.length := (List.getElem?_eq_some_iff.mp q).1
    unfold FrE
    rw [f8]
    have a0 := ar 0 (by omega) i (by omega)
    rw [Nat.add_zero, Nat.add_zero] at a0
    exact ⟨a0.trans y0, (ar 1 (by omega) i (by omega)).trans y1, (ar 2 (by omega) i (by omega)).trans y2, (ar 3 (by omega) i (by omega)).trans y3, (ar 4 (by omega) i (by omega)).trans y4, (ar 5 (by omega) i (by omega)).trans y5, (ar 6 (by omega) i (by omega)).trans y6⟩
  · rw [f8]
    have := (z5 0 (by omega)).2.2.1
    rw [Nat.add_zero] at this
    rw [this]; omega
end Grow
