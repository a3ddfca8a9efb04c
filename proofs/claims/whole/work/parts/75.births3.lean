/-! ===== births: both ===== -/
section Births3
variable {M : am_M} {S : Sc}
theorem cWin (h : SH M) (hst : rI M 2 7 = iz 1) {a b : Int} (a1 : -2147483648 ≤ a) (a2 : a < 2147483648) (b1 : -2147483648 ≤ b) (b2 : b < 2147483648) : F_NS_isWindow 0 (iz a) (iz b) M = some (some (.int (bz (0 ≤ a ∧ a ≤ b ∧ b ≤ 30001))), M) := by
  unfold F_NS_isWindow
  rw [fR_eq (kd_0 h) (rr_0_2 h), fI_eq (kd_2 h), hst, if_neg (by decide), show (0 : Int32) = iz 0 from rfl, show (30001 : Int32) = iz 30001 from rfl, ifL a1 a2 (by omega) (by omega), ifL b1 b2 a1 a2, ifL (by omega) (by omega) b1 b2]
  by_cases g1 : a < 0
  · rw [if_pos g1, bz_f (by omega)]
  · rw [if_neg g1]
    by_cases g2 : b < a
    · rw [if_pos g2, bz_f (by omega)]
    · rw [if_neg g2]
      by_cases g3 : 30001 < b
      · rw [if_pos g3, bz_f (by omega)]
      · rw [if_neg g3, bz_t (by omega)]; rfl
theorem cWin0 (h : SH M) (hst : rI M 2 7 = iz 0) (a b : Int32) : F_NS_isWindow 0 a b M = some (some (.int (iz 0)), M) := by
  unfold F_NS_isWindow
  rw [fR_eq (kd_0 h) (rr_0_2 h), fI_eq (kd_2 h), hst, if_pos (by decide)]; rfl
theorem mSpan (h : SH M) (hst : rI M 70 1 = iz 1) {a b c : Int} (a1 : -2147483648 ≤ a) (a2 : a < 2147483648) (b1 : -2147483648 ≤ b) (b2 : b < 2147483648) (c1 : 0 ≤ c) (c2 : c < 2147483648) : F_Md_isSpan 70 (iz a) (iz b) (iz c) M = some (some (.int (bz (0 ≤ a ∧ a ≤ b ∧ b ≤ 30001 ∧ b - a ≤ c))), M) := by
  unfold F_Md_isSpan
  rw [fI_eq (kd_70 h), hst, if_neg (by decide), show (0 : Int64) = jz 0 from rfl, show (30001 : Int64) = jz 30001 from rfl, mInL a 0 30001 a1 a2 (by omega) (by omega) (by omega) (by omega), bI_eq, bz_if0, mInL b 0 30001 b1 b2 (by omega) (by omega) (by omega) (by omega), bI_eq, bz_if0, jz_i2l a1 a2, jz_i2l b1 b2, jz_i2l (a := c) (by omega) c2, jz_sub, in_eq (by omega) (by omega) (by omega) (by omega) (by omega) (by omega), bI_eq, bz_if0]
  by_cases g1 : 0 ≤ a ∧ a ≤ 30001
  · rw [if_pos g1]
    by_cases g2 : 0 ≤ b ∧ b ≤ 30001
    · rw [if_pos g2]
      by_cases g3 : 0 ≤ b - a ∧ b - a ≤ c
      · rw [if_pos g3, bz_t (by omega)]; rfl
      · rw [if_neg g3, bz_f (by omega)]; rfl
    · rw [if_neg g2, bz_f (by omega)]; rfl
  · rw [if_neg g1, bz_f (by omega)]; rfl
theorem mSpan0 (h : SH M) (hst : rI M 70 1 = iz 0) (a b c : Int32) : F_Md_isSpan 70 a b c M = some (some (.int (iz 0)), M) := by
  unfold F_Md_isSpan
  rw [fI_eq (kd_70 h), hst, if_pos (by decide)]; rfl
noncomputable def inW2 (S : Sc) (s a b k : Int) : Int := if a ≤ bornR S s k ∧ bornR S s k ≤ b - 1 then 1 else 0
theorem mBiL (h : SH M) (hc : MS M S) (hk : scOK S) {s a b : Int} (h1 : 0 ≤ s) (h2 : s < sNs S) (a1 : 0 ≤ a) (a2 : a ≤ 30001) (b1 : 0 ≤ b) (b2 : b ≤ 30001) : ∀ (r n : Nat) (k v : Int), 0 ≤ k → k + r = rts S s → r < n → F_Md_births_L37 n 70 (iz s) (iz a) (iz b) (iz v) (iz k) M = some (some (.int (iz (smF (inW2 S s a b) r k v))), M)
  | r, 0, k, v, q1, q2, q3 => by omega
  | 0, n + 1, k, v, q1, q2, q3 => by
    have rb := rts_bd hk h1 h2
    rw [F_Md_births_L37, cv_eq (kd_70 h), mRts h hc hk h1 h2, bI_eq, ifE (by omega) (by omega) (by omega) (by omega), if_pos (by omega)]; rfl
  | r + 1, n + 1, k, v, q1, q2, q3 => by
    have rb := rts_bd hk h1 h2
    have bb := bornR_bd hk h1 h2 q1 (by omega)
    have ih := fun v => mBiL h hc hk h1 h2 a1 a2 b1 b2 r n (k + 1) v (by omega) (by omega) (by omega)
    rw [F_Md_births_L37, cv_eq (kd_70 h), mRts h hc hk h1 h2, bI_eq, ifE (by omega) (by omega) (by omega) (by omega), if_neg (by omega), cv_eq (kd_70 h), show (4 : Int32) = iz 4 from rfl, iz_mul, iz_add, mBorn h hc hk h1 h2 q1 (by omega), bI_eq, show (1 : Int32) = iz 1 from rfl, iz_sub, jz_i2l (a := a) (by omega) (by omega), jz_i2l (a := b - 1) (by omega) (by omega), mInL _ _ _ (by omega) (by omega) (by omega) (by omega) (by omega) (by omega), bI_eq, bz_if0, nm_eq, nm_eq, nm_eq, nm_eq, show (0 : Int32) = iz 0 from rfl, iz_add, iz_add, iz_add, ih, ih, smF]
    unfold inW2
    by_cases g : a ≤ bornR S s k ∧ bornR S s k ≤ b - 1
    · rw [if_pos g, if_pos g]
    · rw [if_neg g, if_neg g]
theorem smF_sub {f g d : Int → Int} : ∀ (n : Nat) (a v w : Int), (∀ b, f b - g b = d b) → smF f n a v - smF g n a w = smF d n a (v - w)
  | 0, a, v, w, h => rfl
  | n + 1, a, v, w, h => by rw [smF, smF, smF, smF_sub n (a + 1) _ _ h, ← h a, show v + f a - (w + g a) = v - w + (f a - g a) by omega]
theorem ap_births (hI : Inv M) (p1 p2 p3 : Int32) : Ag (F_NS_births 0 p1 p2 p3) (F_Md_births 70 p1 p2 p3) M := by
  obtain ⟨h, -⟩ := id hI
  obtain ⟨S, st, s01, s1, s2, hc, hm, hb, hs, h0⟩ := hI.sc
  obtain ⟨s, c1, c2, rfl⟩ := iz_of p1
  obtain ⟨a, a1, a2, rfl⟩ := iz_of p2
  obtain ⟨b, b1, b2, rfl⟩ := iz_of p3
  have ns := hb.2.1
  have isC := cIsS h hc ns c1 c2
  have isM := mIn (M := M) s (sNs S - 1) c1 c2 (by omega) (by omega)
  by_cases g1 : 0 ≤ s ∧ s < sNs S
  rotate_left
  · rw [bz_f g1] at isC
    rw [bz_f (by omega)] at isM
    refine Ag.p hI (v := -2) ?_ ?_
    · unfold F_NS_births; rw [fR_eq (kd_0 h) (rr_0_2 h), cv_eq (kd_2 h), isC, bI_eq, if_pos (by decide)]
    · unfold F_Md_births; rw [fI_eq (kd_70 h), hm.2.2.2.2.1, show (1 : Int32) = iz 1 from rfl, iz_sub, isM, bI_eq, if_pos (by decide)]
  have st1 : st = 1 := by
    rcases s01 with q | q
    · rw [h0 q] at g1; exact absurd g1.2 (by show ¬ s < 0; omega)
    · exact q
  subst st1
  have hk := (hs rfl).1
  rw [bz_t g1] at isC
  rw [bz_t (by omega)] at isM
  have wc := cWin h s1 a1 a2 b1 b2
  have wm := mSpan h s2 a1 a2 b1 b2 (c := 30001) (by omega) (by omega)
  by_cases g2 : 0 ≤ a ∧ a ≤ b ∧ b ≤ 30001
  rotate_left
  · rw [bz_f g2] at wc
    rw [bz_f (by omega)] at wm
    refine Ag.p hI (v := -2) ?_ ?_
    · unfold F_NS_births; rw [fR_eq (kd_0 h) (rr_0_2 h), cv_eq (kd_2 h), isC, bI_eq, if_neg (by decide), cv_eq (kd_0 h), wc, bI_eq, if_pos (by decide)]
    · unfold F_Md_births; rw [fI_eq (kd_70 h), hm.2.2.2.2.1, show (1 : Int32) = iz 1 from rfl, iz_sub, isM, bI_eq, if_neg (by decide), cv_eq (kd_70 h), show (30001 : Int32) = iz 30001 from rfl, wm, bI_eq, if_pos (by decide)]
  rw [bz_t g2] at wc
  rw [bz_t (by omega)] at wm
  have rb := rts_bd hk g1.1 g1.2
  have fg := fu_ge
  have e : nB S s b - nB S s a = smF (inW2 S s a b) (rts S s).toNat 0 0 := by
    unfold nB
    refine smF_sub _ 0 0 0 (fun k => ?_)
    unfold inB inW2
    by_cases q1 : bornR S s k < a
    · rw [if_pos (by omega), if_pos q1, if_neg (by omega)]; rfl
    · by_cases q2 : bornR S s k < b
      · rw [if_pos q2, if_neg q1, if_pos (by omega)]; rfl
      · rw [if_neg q2, if_neg q1, if_neg (by omega)]; rfl
  refine Ag.p hI (v := iz (nB S s b - nB S s a)) ?_ ?_
  · unfold F_NS_births
    rw [fR_eq (kd_0 h) (rr_0_2 h), cv_eq (kd_2 h), isC, bI_eq, if_neg (by decide), cv_eq (kd_0 h), wc, bI_eq, if_neg (by decide), fR_eq (kd_0 h) (rr_0_2 h), cv_eq (kd_2 h), cBB h hc hk g1.1 g1.2 (by omega) (by omega), bI_eq, fR_eq (kd_0 h) (rr_0_2 h), cv_eq (kd_2 h), cBB h hc hk g1.1 g1.2 (by omega) (by omega), bI_eq, iz_sub]
  · unfold F_Md_births
    rw [fI_eq (kd_70 h), hm.2.2.2.2.1, show (1 : Int32) = iz 1 from rfl, iz_sub, isM, bI_eq, if_neg (by decide), cv_eq (kd_70 h), show (30001 : Int32) = iz 30001 from rfl, wm, bI_eq, if_neg (by decide), e]
    exact mBiL h hm hk g1.1 g1.2 g2.1 (by omega) (by omega) g2.2.2 (rts S s).toNat fu 0 0 (by omega) (by omega) (by omega)
end Births3
