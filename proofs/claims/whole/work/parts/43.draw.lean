/-! ===== longs ===== -/
def jz (z : Int) : Int64 := Int64.ofInt z
theorem jz_add (a b : Int) : jz a + jz b = jz (a + b) := (Int64.ofInt_add a b).symm
theorem jz_sub (a b : Int) : jz a - jz b = jz (a - b) := (Int64.ofInt_sub a b).symm
theorem jz_mul (a b : Int) : jz a * jz b = jz (a * b) := (Int64.ofInt_mul a b).symm
theorem jz_neg (a : Int) : -jz a = jz (-a) := (Int64.ofInt_neg a).symm
theorem jz_lit (n : Nat) : (OfNat.ofNat n : Int64) = jz (OfNat.ofNat n : Int) := (Int64.ofInt_eq_ofNat (n := n)).symm
theorem jz_toInt {a : Int} (h1 : -9223372036854775808 ≤ a) (h2 : a < 9223372036854775808) : (jz a).toInt = a := Int64.toInt_ofInt_of_le (by omega) (by omega)
theorem jz_i2l {a : Int} (h1 : -2147483648 ≤ a) (h2 : a < 2147483648) : (iz a).toInt64 = jz a := by
  apply Int64.toInt_inj.mp
  rw [Int32.toInt_toInt64, iz_toInt h1 h2, jz_toInt (by omega) (by omega)]
theorem jz_l2i (a : Int) : (jz a).toInt32 = iz a := Int64.toInt32_ofInt
theorem jz_lt {a b : Int} (h1 : -9223372036854775808 ≤ a) (h2 : a < 9223372036854775808) (h3 : -9223372036854775808 ≤ b) (h4 : b < 9223372036854775808) : jz a < jz b ↔ a < b := by
  rw [Int64.lt_iff_toInt_lt, jz_toInt h1 h2, jz_toInt h3 h4]
theorem jz_le {a b : Int} (h1 : -9223372036854775808 ≤ a) (h2 : a < 9223372036854775808) (h3 : -9223372036854775808 ≤ b) (h4 : b < 9223372036854775808) : jz a ≤ jz b ↔ a ≤ b := by
  rw [Int64.le_iff_toInt_le, jz_toInt h1 h2, jz_toInt h3 h4]
theorem jz_eq {a b : Int} (h1 : -9223372036854775808 ≤ a) (h2 : a < 9223372036854775808) (h3 : -9223372036854775808 ≤ b) (h4 : b < 9223372036854775808) : jz a = jz b ↔ a = b := by
  rw [← Int64.toInt_inj, jz_toInt h1 h2, jz_toInt h3 h4]
theorem cmp_lt0 (x y : Int64) : lg_cmp x y < 0 ↔ x < y := by
  rw [← Int32.not_le, lg_cmp_ge, Int64.not_le]
theorem cmp_gt0 (x y : Int64) : 0 < lg_cmp x y ↔ y < x := by
  rw [← Int32.not_le, lg_cmp_le, Int64.not_le]
theorem cmp_le0 (x y : Int64) : lg_cmp x y ≤ 0 ↔ x ≤ y := lg_cmp_le x y
theorem cmp_ge0 (x y : Int64) : 0 ≤ lg_cmp x y ↔ y ≤ x := lg_cmp_ge x y
theorem in_eq {M : am_M} {a b c : Int} (h1 : -9223372036854775808 ≤ a) (h2 : a < 9223372036854775808) (h3 : -9223372036854775808 ≤ b) (h4 : b < 9223372036854775808) (h5 : -9223372036854775808 ≤ c) (h6 : c < 9223372036854775808) : F_Md_in (jz a) (jz b) (jz c) M = some (some (.int (bz (b ≤ a ∧ a ≤ c))), M) := by
  unfold F_Md_in
  simp only [cmp_lt0, cmp_gt0, jz_lt h1 h2 h3 h4, jz_lt h5 h6 h1 h2]
  by_cases g1 : a < b
  · rw [if_pos g1, bz_f (by omega)]; rfl
  · by_cases g2 : c < a
    · rw [if_neg g1, if_pos g2, bz_f (by omega)]; rfl
    · rw [if_neg g1, if_neg g2, bz_t (by omega)]; rfl
/-! ===== draws ===== -/
def uN (x : Int64) : Nat := x.toUInt64.toNat
theorem uN_lt (x : Int64) : uN x < 18446744073709551616 := x.toUInt64.toNat_lt
theorem uN_shr (x : Int64) (s : UInt64) : uN (x.toUInt64 >>> s).toInt64 = uN x / 2 ^ (s.toNat % 64) := by
  show (x.toUInt64 >>> s).toNat = _
  rw [UInt64.toNat_shiftRight, Nat.shiftRight_eq_div_pow]
  rfl
theorem uN_int (x : Int64) : x.toInt = if 2 * uN x < 18446744073709551616 then (uN x : Int) else (uN x : Int) - 18446744073709551616 := BitVec.toInt_eq_toNat_cond _
def mx2 (z2 : Int64) : Int64 := (z2 ^^^ ((z2.toUInt64 >>> ((30 : Int32).toInt64.toUInt64 &&& Int64.toUInt64 63)).toInt64)) * (-4658895280553007687)
def mx3 (z3 : Int64) : Int64 := (z3 ^^^ ((z3.toUInt64 >>> ((27 : Int32).toInt64.toUInt64 &&& Int64.toUInt64 63)).toInt64)) * (-7723592293110705685)
def mx4 (z4 : Int64) : Int64 := z4 ^^^ ((z4.toUInt64 >>> ((31 : Int32).toInt64.toUInt64 &&& Int64.toUInt64 63)).toInt64)
def mxE (x1 p1 p2 : Int32) : Int64 := mx4 (mx3 (mx2 (((x1.toInt64) + ((p1.toInt64) * (-7046029254386353131))) + ((p2.toInt64) * (-3335678366873096957)))))
def u33 (z : Int64) : Int64 := (z.toUInt64 >>> ((33 : Int32).toInt64.toUInt64 &&& Int64.toUInt64 63)).toInt64
theorem u33_bd (z : Int64) : 0 ≤ (u33 z).toInt ∧ (u33 z).toInt < 2147483648 := by
  have h : ((33 : Int32).toInt64.toUInt64 &&& Int64.toUInt64 63).toNat % 64 = 33 := by decide
  have e : uN (u33 z) = uN z / 2 ^ 33 := by unfold u33; rw [uN_shr, h]
  have l := uN_lt z
  rw [uN_int]
  split <;> omega
/-- the draw of n by a salt -/
noncomputable def drS : { f : Sc → Int → Int → Int → Int // f = fun S c s n => (u33 (mxE (iz (sSd S)) (iz c) (iz s))).toInt % n } := Classical.choice ⟨⟨_, rfl⟩⟩
noncomputable def dr (S : Sc) (c s n : Int) : Int := drS.1 S c s n
theorem dr_eq (S : Sc) (c s n : Int) : dr S c s n = (u33 (mxE (iz (sSd S)) (iz c) (iz s))).toInt % n := by unfold dr; rw [drS.2]
theorem dr_bd (S : Sc) (c s : Int) {n : Int} (h : 0 < n) : 0 ≤ dr S c s n ∧ dr S c s n < n := by
  rw [dr_eq]
  exact ⟨Int.emod_nonneg _ (by omega), Int.emod_lt_of_pos _ h⟩
theorem dr_one (S : Sc) (c s : Int) : dr S c s 1 = 0 := by rw [dr_eq]; omega
theorem dr_core {z : Int64} {n : Int} (h : 0 < n) (h2 : n < 2147483648) : ((u33 z) - (u33 z) / (iz n).toInt64 * (iz n).toInt64).toInt32 = iz ((u33 z).toInt % n) := by
  obtain ⟨b1, b2⟩ := u33_bd z
  have e0 : u33 z = jz (u33 z).toInt := (Int64.ofInt_toInt _).symm
  generalize (u33 z).toInt = u at *
  rw [e0, jz_i2l (by omega) h2]
  have hd : jz u / jz n = jz (u / n) := by
    apply Int64.toInt_inj.mp
    have hn : jz n ≠ -1 := by
      intro q
      have := congrArg Int64.toInt q
      rw [jz_toInt (by omega) (by omega)] at this
      have e : (-1 : Int64).toInt = -1 := by decide
      omega
    have hq : 0 ≤ u / n ∧ u / n ≤ u := ⟨Int.ediv_nonneg b1 (by omega), Int.ediv_le_self _ b1⟩
    rw [Int64.toInt_div_of_ne_right _ _ hn, jz_toInt (by omega) (by omega), jz_toInt (by omega) (by omega), jz_toInt (by omega) (by omega), Int.tdiv_eq_ediv_of_nonneg b1]
  rw [hd, jz_mul, jz_sub, jz_l2i]
  congr 1
  have := Int.mul_ediv_add_emod u n
  rw [Int.mul_comm] at this
  omega
theorem dZL_eq {y : Int} {r : am_R} (h1 : 0 < y) (h2 : y < 2147483648) : dZL (iz y).toInt64 r = r := by
  unfold dZL
  rw [if_neg]
  have h0 : (0 : Int64) = jz 0 := rfl
  rw [h0, jz_i2l (by omega) h2, jz_eq (by omega) (by omega) (by omega) (by omega)]
  omega
theorem cMix {M : am_M} {S : Sc} (h : SH M) (hc : CS M S) (c s : Int32) : F_Scen_mix 2 c s M = some (some (.long (mxE (iz (sSd S)) c s)), M) := by
  unfold F_Scen_mix
  rw [fI_eq (kd_2 h), hc.2.2.2.2.2]
  rfl
theorem cDraw {M : am_M} {S : Sc} (h : SH M) (hc : CS M S) (c s : Int) {n : Int} (h1 : 1 ≤ n) (h2 : n < 2147483648) : F_Scen_draw 2 (iz c) (iz s) (iz n) M = some (some (.int (iz (dr S c s n))), M) := by
  unfold F_Scen_draw
  have h0 : (1 : Int32) = iz 1 := rfl
  rw [h0]
  by_cases hn : n ≤ 1
  · have e : n = 1 := by omega
    subst e
    rw [if_pos ((iz_le (by omega) (by omega) (by omega) (by omega)).mpr (by omega)), dr_one]
    rfl
  · rw [if_neg (fun q => hn ((iz_le (by omega) (by omega) (by omega) (by omega)).mp q)), cv_eq (kd_2 h), cMix h hc, bL_eq, dZL_eq (by omega) h2]
    show some (some (Value.int ((u33 _) - (u33 _) / (iz n).toInt64 * (iz n).toInt64).toInt32), M) = _
    rw [dr_core (by omega) h2, dr_eq]
theorem mMix {M : am_M} {S : Sc} (h : SH M) (hc : MS M S) (c s : Int32) : F_Md_mixedOf 70 c s M = some (some (.long (mxE (iz (sSd S)) c s)), M) := by
  unfold F_Md_mixedOf
  rw [fI_eq (kd_70 h), hc.2.2.2.2.2]
  rfl
theorem mDraw {M : am_M} {S : Sc} (h : SH M) (hc : MS M S) (c s : Int) {n : Int} (h1 : 1 ≤ n) (h2 : n < 2147483648) : F_Md_draw 70 (iz c) (iz s) (iz n) M = some (some (.int (iz (dr S c s n))), M) := by
  unfold F_Md_draw
  rw [cv_eq (kd_70 h), mMix h hc, bL_eq, dZL_eq (by omega) h2]
  show some (some (Value.int ((u33 _) - (u33 _) / (iz n).toInt64 * (iz n).toInt64).toInt32), M) = _
  rw [dr_core (by omega) h2, dr_eq]
/-! ===== the reference's scene, asked ===== -/
theorem mQ {M : am_M} {S : Sc} (h : SH M) (hc : MS M S) (hs : sNs S ≤ 4) {s w : Int} (h1 : 0 ≤ s) (h2 : s < sNs S) (h3 : 0 ≤ w) (h4 : w < 9) : F_Md_ofSource 70 (iz s) (iz w) M = some (some (.int (iz (sQ S s w))), M) := by
  unfold F_Md_ofSource
  simp (disch := omega) only [iz_lit, iz_mul, iz_add, fR_eq (kd_70 h) (rr_70_7 h), aI_eq (kd_73 h) (ln_73 h), hc.2.2.1 s w h1 h2 h3 h4]
theorem mGps {M : am_M} {S : Sc} (h : SH M) (hc : MS M S) (hk : scOK S) {s : Int} (h1 : 0 ≤ s) (h2 : s < sNs S) : F_Md_groups 70 (iz s) M = some (some (.int (iz (gps S s))), M) := by
  obtain ⟨-, -, ⟨-, k3⟩, -, -, kq⟩ := hk
  obtain ⟨-, -, q4, q5, -, q7, -⟩ := kq s h1 h2
  unfold F_Md_groups gps
  simp (disch := omega) only [iz_lit, cv_eq (kd_70 h), mQ h hc k3 h1 h2, bI_eq, nm_eq, iz_sub, iz_le, dZ_eq, iz_ediv, iz_add]
  by_cases g : sQ S s 7 < sQ S s 4
  · rw [if_neg (by omega), if_pos g]
  · rw [if_pos (by omega), if_neg g]
theorem gps_bd {S : Sc} (hk : scOK S) {s : Int} (h1 : 0 ≤ s) (h2 : s < sNs S) : 0 ≤ gps S s ∧ gps S s ≤ 10000 := by
  obtain ⟨-, -, ⟨-, k3⟩, -, -, kq⟩ := hk
  obtain ⟨-, -, q4, q5, -, q7, -⟩ := kq s h1 h2
  unfold gps
  split
  · omega
  · have := Int.ediv_nonneg (a := sQ S s 7 - sQ S s 4) (b := sQ S s 5) (by omega) (by omega)
    have := Int.ediv_le_self (a := sQ S s 7 - sQ S s 4) (sQ S s 5) (by omega)
    omega
theorem mRts {M : am_M} {S : Sc} (h : SH M) (hc : MS M S) (hk : scOK S) {s : Int} (h1 : 0 ≤ s) (h2 : s < sNs S) : F_Md_roots 70 (iz s) M = some (some (.int (iz (rts S s))), M) := by
  unfold F_Md_roots
  simp (disch := omega) only [iz_lit, cv_eq (kd_70 h), mGps h hc hk h1 h2, mQ h hc hk.2.2.1.2 h1 h2, bI_eq, iz_mul]
  rfl
theorem rts_bd {S : Sc} (hk : scOK S) {s : Int} (h1 : 0 ≤ s) (h2 : s < sNs S) : 0 ≤ rts S s ∧ rts S s ≤ 50000 := by
  have g := gps_bd hk h1 h2
  obtain ⟨-, -, -, -, -, kq⟩ := hk
  obtain ⟨-, -, -, -, q6, -⟩ := kq s h1 h2
  unfold rts
  refine ⟨Int.mul_nonneg g.1 (by omega), ?_⟩
  have := Int.mul_le_mul g.2 q6.2 (by omega) (by omega)
  omega
