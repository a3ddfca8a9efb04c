/-! ===== the reference lays a spark ===== -/
theorem xor_sg (a b : Int32) : 0 ≤ (a ^^^ b) ↔ (0 ≤ a ↔ 0 ≤ b) := by
  have key : ∀ x : Int32, 0 ≤ x ↔ x.toBitVec.msb = false := by
    intro x
    rw [Int32.le_iff_toInt_le, BitVec.msb_eq_toInt]
    have e : (0 : Int32).toInt = 0 := by decide
    rw [e]
    show 0 ≤ x.toInt ↔ decide (x.toInt < 0) = false
    simp
  rw [key, key, key, Int32.toBitVec_xor, BitVec.msb_xor]
  cases a.toBitVec.msb <;> cases b.toBitVec.msb <;> simp
theorem tmod_neg {x y : Int} (hy : 0 < y) (hx : x < 0) : -y < x.tmod y ∧ x.tmod y ≤ 0 := by
  have e : x.tmod y = -((-x).tmod y) := by rw [Int.neg_tmod]; omega
  rw [Int.tmod_eq_emod_of_nonneg (a := -x) (by omega)] at e
  have := Int.emod_nonneg (-x) (b := y) (by omega)
  have := Int.emod_lt_of_pos (-x) hy
  omega
theorem emod_tmod {x y : Int} (hy : 0 < y) (hx : x < 0) : x % y = if x.tmod y = 0 then 0 else x.tmod y + y := by
  have b := tmod_neg hy hx
  have e := Int.mul_tdiv_add_tmod x y
  generalize x.tmod y = t at *
  generalize x.tdiv y = q at *
  split
  · rename_i h
    subst h
    rw [← e, Int.add_zero, Int.mul_emod_right]
  · have e2 : x = (t + y) + y * (q - 1) := by rw [Int.mul_sub, Int.mul_one]; omega
    rw [e2, Int.add_mul_emod_self_left, Int.emod_eq_of_lt (by omega) (by omega)]
theorem floorMod_eq {M : am_M} {x y : Int} (h1 : -2147483648 ≤ x) (h2 : x < 2147483648) (h3 : 0 < y) (h4 : y < 1000000000) : F_Math_floorMod (iz x) (iz y) M = some (some (.int (iz (x % y))), M) := by
  unfold F_Math_floorMod
  have z0 : (0 : Int32) = iz 0 := rfl
  rw [dZ_eq h3 (by omega), nm_eq, iz_rem h1 h2 h3 (by omega)]
  have sg : 0 ≤ (iz x ^^^ iz y) ↔ 0 ≤ x := by
    rw [xor_sg, z0, iz_le (by omega) (by omega) h1 h2, iz_le (by omega) (by omega) (by omega) (by omega)]
    constructor
    · intro q; exact q.mpr (by omega)
    · intro q; exact ⟨fun _ => by omega, fun _ => q⟩
  by_cases hx : 0 ≤ x
  · rw [if_pos (sg.mpr hx), Int.tmod_eq_emod_of_nonneg hx]
  · have b := tmod_neg h3 (Int.not_le.mp hx)
    rw [if_neg (fun q => hx (sg.mp q)), emod_tmod h3 (Int.not_le.mp hx), z0, iz_add]
    by_cases ht : x.tmod y = 0
    · rw [if_pos (by rw [ht]), if_pos ht, ht]
    · rw [if_neg (fun q => ht ((iz_eq (by omega) (by omega) (by omega) (by omega)).mp q)), if_neg ht]
/-- kind, place and speed of the one that is laid -/
def MdP (M : am_M) (p : Sk) : Prop := rI M 70 27 = iz (kKd p) ∧ (∀ i, 0 ≤ i → i < 3 → rI M 80 i.toNat = iz (kBg p i)) ∧ ∀ i, 0 ≤ i → i < 3 → rI M 81 i.toNat = iz (kVl p i)
def MdL (M : am_M) (p : Sk) : Prop := MdP M p ∧ rI M 70 28 = iz (kBn p) ∧ rI M 70 29 = iz (kEn p)
section Lays
variable {M : am_M} {S : Sc} {p : Sk}
theorem mRaw (h : SH M) (hc : MS M S) (hk : scOK S) (hp : MdP M p) (h0 : 0 ≤ kKd p ∧ kKd p < sNk S) {i a : Int} (h1 : 0 ≤ i) (h2 : i < 3) (h3 : 0 ≤ a) (h4 : a ≤ 61) : F_Md_raw 70 (iz i) (iz a) M = some (some (.int (iz (raw S p i a))), M) := by
  have t := tri_bd h3 h4
  have k5 := hk.2.1
  unfold F_Md_raw F_Md_raw_L31 raw
  simp (disch := omega) only [iz_lit, iz_eq, fR_eq (kd_70 h) (rr_70_5 h), fI_eq (kd_70 h), hp.1, iz_mul, iz_add, aI_eq (kd_72 h) (ln_72 h), hc.2.1 (kKd p) 3 h0.1 h0.2 (by omega) (by omega), iz_sub, iz_ediv, fR_eq (kd_70 h) (rr_70_30 h), fR_eq (kd_70 h) (rr_70_31 h), aI_eq (kd_80 h) (ln_80 h), aI_eq (kd_81 h) (ln_81 h), hp.2.1 i h1 h2, hp.2.2 i h1 h2]
  split <;> rfl
theorem mWl (h : SH M) (hc : MS M S) {i : Int} (h1 : 0 ≤ i) (h2 : i < 3) : F_Md_world 70 (iz i) M = some (some (.int (iz (wl S i))), M) := by
  unfold F_Md_world wl
  simp (disch := omega) only [iz_lit, fR_eq (kd_70 h) (rr_70_2 h), aI_eq (kd_71 h) (ln_71 h), hc.1 i h1 h2, iz_mul]
theorem mEdge (h : SH M) (hc : MS M S) (hk : scOK S) (hp : rI M 70 27 = iz (kKd p)) (h0 : 0 ≤ kKd p ∧ kKd p < sNk S) : F_Md_edge 70 M = some (some (.int (iz (sK S (kKd p) 5))), M) := by
  have k5 := hk.2.1
  unfold F_Md_edge
  simp (disch := omega) only [iz_lit, fR_eq (kd_70 h) (rr_70_5 h), fI_eq (kd_70 h), hp, iz_mul, iz_add, aI_eq (kd_72 h) (ln_72 h), hc.2.1 (kKd p) 5 h0.1 h0.2 (by omega) (by omega)]
theorem mPlc (h : SH M) (hc : MS M S) (hk : scOK S) (hp : MdP M p) (h0 : 0 ≤ kKd p ∧ kKd p < sNk S) {i a : Int} (hb : 0 ≤ kBg p i ∧ kBg p i < 320) (hv : -20 ≤ kVl p i ∧ kVl p i ≤ 20) (h1 : 0 ≤ i) (h2 : i < 3) (h3 : 0 ≤ a) (h4 : a ≤ 61) : F_Md_placeBy 70 (iz i) (iz a) M = some (some (.int (iz (plc S p i a))), M) := by
  have r := raw_bd hk h0 hb hv h3 h4
  have w := wl_bd hk h1 h2
  have e5 := (hk.2.2.2.2.1 _ h0.1 h0.2).2.2.2.2.2.1
  have m2 := Int.emod_nonneg (raw S p i a) (b := 2 * wl S i) (by omega)
  have m3 := Int.emod_lt_of_pos (raw S p i a) (b := 2 * wl S i) (by omega)
  unfold F_Md_placeBy plc
  simp (disch := omega) only [iz_lit, cv_eq (kd_70 h), mRaw h hc hk hp h0 h1 h2 h3 h4, mWl h hc h1 h2, mEdge h hc hk hp.1 h0, bI_eq, iz_eq, floorMod_eq, iz_mul, iz_lt, iz_sub]
  split
  · rfl
  · split
    · rfl
    · split <;> rfl
theorem mBeyStep (h : SH M) (hc : MS M S) (hk : scOK S) (hp : MdP M p) (h0 : 0 ≤ kKd p ∧ kKd p < sNk S) (hs : ∀ i, 0 ≤ i → i < 3 → (0 ≤ kBg p i ∧ kBg p i < 320) ∧ -20 ≤ kVl p i ∧ kVl p i ≤ 20) {i a : Int} (h1 : 0 ≤ i) (h2 : i < 3) (h3 : 0 ≤ a) (h4 : a ≤ 61) (f : Int32 → am_M → am_R) : cv M 70 13 (bI (F_Md_raw 70 (iz i) (iz a) M) (fun r2 M1 => cv M1 70 13 (bI (F_Md_world 70 (iz i) M1) (fun r4 M3 => bI (F_Md_in (r2.toInt64) 0 ((r4 - 1).toInt64) M3) f)))) = f (bz (0 ≤ raw S p i a ∧ raw S p i a ≤ wl S i - 1)) M := by
  have r := raw_bd hk h0 (hs i h1 h2).1 (hs i h1 h2).2 h3 h4
  have w := wl_bd hk h1 h2
  simp (disch := omega) only [iz_lit, jz_lit, cv_eq (kd_70 h), mRaw h hc hk hp h0 h1 h2 h3 h4, mWl h hc h1 h2, bI_eq, iz_sub, jz_i2l, in_eq]
theorem mBey1 (n : Nat) {i : Int} (a : Int32) (h1 : 0 ≤ i) (h2 : i < 3) : F_Md_isBeyond_L4 (n + 1) 70 a (iz 1) (iz i) M = F_Md_isBeyond_L4 n 70 a (iz 1) (iz (i + 1)) M := by
  have e01 : ¬ iz 1 = iz 0 := by decide
  rw [F_Md_isBeyond_L4]
  simp (disch := omega) only [iz_lit, iz_le, if_neg, e01, nm_eq, iz_add, if_false]
theorem mBeyE (n : Nat) (a : Int32) {v : Int32} (hv : v = iz 0 ∨ v = iz 1) : F_Md_isBeyond_L4 (n + 1) 70 a v (iz 3) M = some (some (.int v), M) := by
  rw [F_Md_isBeyond_L4]
  simp (disch := omega) only [iz_lit, iz_le, if_pos]
  unfold zR
  rcases hv with rfl | rfl
  · rw [if_pos (by decide)]
  · rw [if_pos (by decide)]
theorem mBey0 (h : SH M) (hc : MS M S) (hk : scOK S) (hp : MdP M p) (h0 : 0 ≤ kKd p ∧ kKd p < sNk S) (hs : ∀ i, 0 ≤ i → i < 3 → (0 ≤ kBg p i ∧ kBg p i < 320) ∧ -20 ≤ kVl p i ∧ kVl p i ≤ 20) (n : Nat) {i a : Int} (h1 : 0 ≤ i) (h2 : i < 3) (h3 : 0 ≤ a) (h4 : a ≤ 61) : F_Md_isBeyond_L4 (n + 1) 70 (iz a) (iz 0) (iz i) M = F_Md_isBeyond_L4 n 70 (iz a) (if 0 ≤ raw S p i a ∧ raw S p i a ≤ wl S i - 1 then iz 0 else iz 1) (iz (i + 1)) M := by
  rw [F_Md_isBeyond_L4]
  rw [if_neg (by rw [show (3 : Int32) = iz 3 from rfl, iz_le (by omega) (by omega) (by omega) (by omega)]; omega), if_pos (show iz 0 = 0 from rfl), mBeyStep h hc hk hp h0 hs h1 h2 h3 h4]
  simp (disch := omega) only [iz_lit, nm_eq, iz_add, bz_0]
  by_cases g : 0 ≤ raw S p i a ∧ raw S p i a ≤ wl S i - 1
  · rw [if_neg (fun q => q g), if_pos g]
  · rw [if_pos g, if_neg g]
theorem mBey (h : SH M) (hc : MS M S) (hk : scOK S) (hp : MdP M p) (h0 : 0 ≤ kKd p ∧ kKd p < sNk S) (hs : ∀ i, 0 ≤ i → i < 3 → (0 ≤ kBg p i ∧ kBg p i < 320) ∧ -20 ≤ kVl p i ∧ kVl p i ≤ 20) {a : Int} (h3 : 0 ≤ a) (h4 : a ≤ 61) : F_Md_isBeyond 70 (iz a) M = some (some (.int (if beyB S p a then iz 1 else iz 0)), M) := by
  obtain ⟨m, hm⟩ : ∃ m, fu = m + 1 + 1 + 1 + 1 := ⟨fu - 4, by have := fu_ge; omega⟩
  unfold F_Md_isBeyond
  rw [hm, show (0 : Int32) = iz 0 from rfl, mBey0 h hc hk hp h0 hs _ (by omega) (by omega) h3 h4]
  have hB : beyB S p a = true ↔ bey S p a := beyB_t
  unfold bey inW at hB
  by_cases g0 : 0 ≤ raw S p 0 a ∧ raw S p 0 a ≤ wl S 0 - 1
  · rw [if_pos g0, mBey0 h hc hk hp h0 hs _ (by omega) (by omega) h3 h4]
    by_cases g1 : 0 ≤ raw S p (0 + 1) a ∧ raw S p (0 + 1) a ≤ wl S (0 + 1) - 1
    · rw [if_pos g1, mBey0 h hc hk hp h0 hs _ (by omega) (by omega) h3 h4]
      by_cases g2 : 0 ≤ raw S p (0 + 1 + 1) a ∧ raw S p (0 + 1 + 1) a ≤ wl S (0 + 1 + 1) - 1
      · rw [if_pos g2, show (0 : Int) + 1 + 1 + 1 = 3 from rfl, mBeyE _ _ (Or.inl rfl), if_neg (fun q => hB.mp q ⟨g0, g1, g2⟩)]
      · rw [if_neg g2, show (0 : Int) + 1 + 1 + 1 = 3 from rfl, mBeyE _ _ (Or.inr rfl), if_pos (hB.mpr (fun q => g2 q.2.2))]
    · rw [if_neg g1, mBey1 _ _ (by omega) (by omega), show (0 : Int) + 1 + 1 + 1 = 3 from rfl, mBeyE _ _ (Or.inr rfl), if_pos (hB.mpr (fun q => g1 q.2.1))]
  · rw [if_neg g0, mBey1 _ _ (by omega) (by omega), mBey1 _ _ (by omega) (by omega), show (0 : Int) + 1 + 1 + 1 = 3 from rfl, mBeyE _ _ (Or.inr rfl), if_pos (hB.mpr (fun q => g0 q.1))]
/-- the end, by its edge -/
theorem mL111 (h : SH M) (hc : MS M S) (hk : scOK S) (hp : MdP M p) (h0 : 0 ≤ kKd p ∧ kKd p < sNk S) (hs : ∀ i, 0 ≤ i → i < 3 → (0 ≤ kBg p i ∧ kBg p i < 320) ∧ -20 ≤ kVl p i ∧ kVl p i ≤ 20) {w L : Int} (hw : rI M 70 28 = iz w) (hL : L ≤ 60) : ∀ (r n : Nat) (a : Int), 0 ≤ a → a + r = L → r < n → F_Md_laysOne_L111 n 70 (iz L) (iz a) M = some (none, wI M 70 29 (iz (w + fstB (beyB S p) r a)))
  | 0, n + 1, a, ha, e, hn => by
    rw [F_Md_laysOne_L111]
    simp (disch := omega) only [iz_le, if_pos, fI_eq (kd_70 h), hw, sI_eq (kd_70 h), iz_add]
    have : fstB (beyB S p) 0 a = a := rfl
    rw [this]
  | r + 1, n + 1, a, ha, e, hn => by
    rw [F_Md_laysOne_L111]
    have q : fstB (beyB S p) (r + 1) a = if beyB S p a then a else fstB (beyB S p) r (a + 1) := rfl
    rw [if_neg (by rw [iz_le (by omega) (by omega) (by omega) (by omega)]; omega), cv_eq (kd_70 h), mBey h hc hk hp h0 hs ha (by omega), bI_eq, q]
    by_cases g : beyB S p a = true
    · rw [if_pos g, if_pos g, if_neg (by decide), fI_eq (kd_70 h), hw, sI_eq (kd_70 h), iz_add]
    · rw [if_neg g, if_neg g, if_pos (show iz 0 = 0 from rfl), nm_eq, show (1 : Int32) = iz 1 from rfl, iz_add]
      exact mL111 h hc hk hp h0 hs hw hL r n (a + 1) (by omega) (by omega) (by omega)
end Lays
