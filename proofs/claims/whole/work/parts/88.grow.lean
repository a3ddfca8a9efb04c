/-! ===== the frame grows ===== -/
section Grow
variable {M M0 : am_M} {S : Sc} {t : Int}
theorem nA_eq {t : Nat} {n : Nat} {f : Nat → am_M → am_R} (h : n ≤ 60000000) : nA M t (iz (n : Int)) f = f (mNx M) (mkC M t n) := by
  unfold nA
  have z : (0 : Int32) = iz 0 := rfl
  rw [iz_clamp (by omega) (by omega), if_pos ⟨fun q => by rw [z, iz_lt (by omega) (by omega) (by omega) (by omega)] at q; omega, by omega⟩, show ((n : Int)).toNat = n by omega]
/-- grown: rows and order anew, the rows' numbers copied -/
def GrS (M0 M : am_M) (b cap : Nat) : Prop := mNx M = mNx M0 + 2 ∧ mUs M = mUs M0 + 16 * cap ∧ (∀ x, x < mNx M0 → mKd M x = mKd M0 x ∧ mLn M x = mLn M0 x ∧ ∀ j, rI M x j = rI M0 x j) ∧ (∀ x j, x < mNx M0 → ¬ (x = 45 ∧ 3 ≤ j ∧ j < 5) → rR M x j = rR M0 x j) ∧ FrR M (mNx M0) (2 * cap) ∧ ∀ j, j < 7 * cap → rI M (mNx M0) j = rI M0 b j
theorem cGr {b cap : Nat} (n89 : 89 ≤ mNx M0) (hb : b + 2 ≤ mNx M0) (h45 : mKd M0 45 = 5) (hA : FrR M0 b cap) (c1 : 16 ≤ cap) (c2 : 2 * cap ≤ 16384) : ∃ M, F_Fram_grow 45 M0 = some (none, M) ∧ GrS M0 M b cap := by
  obtain ⟨⟨a1, a2⟩, ⟨a3, a4⟩, a5, a6⟩ := hA
  have ne : b ≠ mNx M0 := by omega
  obtain ⟨M1, e1⟩ : ∃ M1, M1 = cpI (mkC M0 0 (14 * cap)) b 0 (mNx M0) 0 (7 * cap) := ⟨_, rfl⟩
  obtain ⟨M2, e2⟩ : ∃ M2, M2 = wR M1 45 3 (some (mNx M0)) := ⟨_, rfl⟩
  obtain ⟨M3, e3⟩ : ∃ M3, M3 = mkC M2 0 (2 * cap) := ⟨_, rfl⟩
  have n2 : mNx M2 = mNx M0 + 1 := by rw [e2, mNx_wR, e1, mNx_cpI, mNx_mkC]
  have k45a : mKd M1 45 = 5 := by rw [e1, mKd_cpI, mKd_mkC, if_neg (by omega)]; exact h45
  have k45b : mKd M3 45 = 5 := by rw [e3, mKd_mkC, if_neg (by omega), e2, mKd_wR]; exact k45a
  refine ⟨wR M3 45 4 (some (mNx M2)), ?_, ?_, ?_, fun x hx => ⟨?_, ?_, fun j => ?_⟩, fun x j hx hn => ?_, ⟨⟨?_, ?_⟩, ⟨?_, ?_⟩, ?_, ?_⟩, fun j hj => ?_⟩
  · have kC : mKd (mkC M0 0 (14 * cap)) b = 0 := by rw [mKd_mkC, if_neg ne]; exact a3
    have lC : mLn (mkC M0 0 (14 * cap)) b = 7 * cap := by rw [mLn_mkC, if_neg ne]; exact a4
    have kN : mKd (mkC M0 0 (14 * cap)) (mNx M0) = 0 := by rw [mKd_mkC, if_pos rfl]
    have lN : mLn (mkC M0 0 (14 * cap)) (mNx M0) = 14 * cap := by rw [mLn_mkC, if_pos rfl]
    have e : F_Arr_copyOf b (iz ((14 * cap : Nat) : Int)) M0 = some (some (.ref (mNx M0)), M1) := by
      unfold F_Arr_copyOf
      rw [aN_eq (by omega) a4, ifQ (by omega) (by omega) (by omega) (by omega), if_neg (by omega), nA_eq (by omega), aN_eq (by omega) lC, min_eq (by omega) (by omega) (by omega) (by omega), bI_eq, show (0 : Int32) = iz 0 from rfl, show min ((7 * cap : Nat) : Int) ((14 * cap : Nat) : Int) = ((7 * cap : Nat) : Int) by omega, cpy_eq kC kN lC lN (by omega) (by omega) (by omega) (by omega) (by omega) (by omega) (by omega)]
      rw [e1, Int.toNat_natCast]
      rfl
    unfold F_Fram_grow
    rw [fR_eq h45 a2, aN_eq (by omega) a6, nm_eq, show (2 : Int32) = iz 2 from rfl, iz_mul, show (2 : Int) * (cap : Int) = ((2 * cap : Nat) : Int) by omega, show (0 : Int32) = iz 0 from rfl, ifE (by omega) (by omega) (by omega) (by omega), if_neg (by omega), show (16384 : Int32) = iz 16384 from rfl, ifL (by omega) (by omega) (by omega) (by omega), if_neg (by omega), fR_eq h45 a1, show (7 : Int32) = iz 7 from rfl, iz_mul, show ((2 * cap : Nat) : Int) * 7 = ((14 * cap : Nat) : Int) by omega, e, bR_eq, sR_eq k45a, ← e2, nA_eq (by omega), ← e3, sR_eq k45b]
  · rw [mNx_wR, e3, mNx_mkC, n2]
  · rw [mUs_wR, e3, mUs_mkC, e2, mUs_wR, e1, mUs_cpI, mUs_mkC]; omega
  · rw [mKd_wR, e3, mKd_mkC, if_neg (by omega), e2, mKd_wR, e1, mKd_cpI, mKd_mkC, if_neg (by omega)]
  · rw [mLn_wR, e3, mLn_mkC, if_neg (by omega), e2, mLn_wR, e1, mLn_cpI, mLn_mkC, if_neg (by omega)]
  · rw [rI_wR, e3, rI_mkC, if_neg (by omega), e2, rI_wR, e1, rI_cpI, if_neg (by omega), rI_mkC, if_neg (by omega)]
  · rw [rR_wR, if_neg (by omega), e3, rR_mkC, if_neg (by omega), e2, rR_wR, if_neg (by omega), e1, rR_cpI, rR_mkC, if_neg (by omega)]
  · rw [rR_wR, if_neg (by omega), e3, rR_mkC, if_neg (by omega), e2, rR_wR, if_pos ⟨rfl, rfl⟩]
  · rw [rR_wR, if_pos ⟨rfl, rfl⟩, n2]
  · rw [mKd_wR, e3, mKd_mkC, if_neg (by omega), e2, mKd_wR, e1, mKd_cpI, mKd_mkC, if_pos rfl]
  · rw [mLn_wR, e3, mLn_mkC, if_neg (by omega), e2, mLn_wR, e1, mLn_cpI, mLn_mkC, if_pos rfl]; omega
  · rw [mKd_wR, e3, mKd_mkC, if_pos n2.symm]
  · rw [mLn_wR, e3, mLn_mkC, if_pos n2.symm]
  · rw [rI_wR, e3, rI_mkC, if_neg (by omega), e2, rI_wR, e1, rI_cpI, if_pos ⟨rfl, by omega, by omega⟩, rI_mkC, if_neg (by omega), show 0 + (j - 0) = j by omega]
theorem SH.gr {b cap : Nat} (hS : SH M0) (h : GrS M0 M b cap) : SH M := by
  obtain ⟨h1, h2, h3, h4, h5⟩ := h
  refine ⟨by have := hS.1; omega, fun a ha => ?_, fun q hq => ?_⟩
  · have n := hS.1
    obtain ⟨z1, z2, -⟩ := h3 a (by omega)
    rw [z1, z2]
    exact hS.2.1 a ha
  · have n := hS.1
    have lim : q.1 < 89 ∧ ¬ (q.1 = 45 ∧ 3 ≤ q.2.1 ∧ q.2.1 < 5) := by
      have all : ∀ q ∈ shR, q.1 < 89 ∧ ¬ (q.1 = 45 ∧ 3 ≤ q.2.1 ∧ q.2.1 < 5) := by decide
      exact all q hq
    rw [h4 _ _ (by omega) lim.2]
    exact hS.2.2 q hq
/-- what the frame may write, and what it keeps -/
def KG (M M' : am_M) : Prop := SH M' ∧ FrA M' ∧ ∀ x j, (x ≤ 44 ∨ (49 ≤ x ∧ x ≤ 88)) → rI M' x j = rI M x j
theorem cGrow {L : List Int} (h : SH M) (ha : FrA M) (hC : FrC M S t L) (hlen : mLn M (fb M + 1) ≤ L.length) (hL : L.length ≤ 16080) : ∃ M', F_Fram_grow 45 M = some (none, M') ∧ KG M M' ∧ FrC M' S t L ∧ L.length < mLn M' (fb M' + 1) := by
  obtain ⟨cap, b1, b2, c1, ⟨c2, cp⟩, hA, n1, n2⟩ := ha.at
  obtain ⟨l1, l2, l3⟩ := hC
  have n89 := h.1
  have lc : mLn M (fb M + 1) = cap := hA.2.2.2
  rw [lc] at hlen l2
  obtain ⟨cp2, c3⟩ := cpw_dbl cp (by omega)
  obtain ⟨M8, e8, g8⟩ := cGr n89 b2 (kd_45 h) hA c1 c3
  have h8 : SH M8 := h.gr g8
  obtain ⟨z1, z2, z3, z4, z5, z6⟩ := g8
  have f8 : fb M8 = mNx M := by unfold fb; rw [z5.1.1]; rfl
  have l8 : mLn M8 (mNx M + 1) = 2 * cap := z5.2.2.2
  refine ⟨M8, e8, ⟨h8, ⟨mNx M, 2 * cap, Or.inr n89, by omega, by omega, ⟨c3, cp2⟩, z5, by omega, by omega⟩, fun x j hx => (z3 x (by omega)).2.2 j⟩, ⟨by rw [(z3 45 (by omega)).2.2]; exact l1, by rw [f8, l8]; omega, fun i c q => ?_⟩, by rw [f8, l8]; omega⟩
  obtain ⟨y0, y1, y2, y3, y4, y5, y6⟩ := l3 i c q
  have il : i < L.length := (List.getElem?_eq_some_iff.mp q).1
  unfold FrE
  rw [f8]
  exact ⟨(z6 _ (by omega)).trans y0, (z6 _ (by omega)).trans y1, (z6 _ (by omega)).trans y2, (z6 _ (by omega)).trans y3, (z6 _ (by omega)).trans y4, (z6 _ (by omega)).trans y5, (z6 _ (by omega)).trans y6⟩
end Grow
