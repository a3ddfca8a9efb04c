/-! ===== whole numbers in 32 bits: iz z ===== -/
def iz (z : Int) : Int32 := Int32.ofInt z
theorem iz_add (a b : Int) : iz a + iz b = iz (a + b) := (Int32.ofInt_add a b).symm
theorem iz_sub (a b : Int) : iz a - iz b = iz (a - b) := (Int32.ofInt_sub a b).symm
theorem iz_mul (a b : Int) : iz a * iz b = iz (a * b) := (Int32.ofInt_mul a b).symm
theorem iz_neg (a : Int) : -iz a = iz (-a) := (Int32.ofInt_neg a).symm
theorem iz_lit (n : Nat) : (OfNat.ofNat n : Int32) = iz (OfNat.ofNat n : Int) := (Int32.ofInt_eq_ofNat (n := n)).symm
theorem iz_nI (n : Nat) : nI n = iz (n : Int) := (Int32.ofInt_eq_ofNat (n := n)).symm
theorem iz_ofNat (n : Nat) : Int32.ofNat n = iz (n : Int) := (Int32.ofInt_eq_ofNat (n := n)).symm
theorem iz_toInt {a : Int} (h1 : -2147483648 ≤ a) (h2 : a < 2147483648) : (iz a).toInt = a := Int32.toInt_ofInt_of_le (by omega) (by omega)
theorem iz_of (x : Int32) : ∃ z : Int, -2147483648 ≤ z ∧ z < 2147483648 ∧ x = iz z := ⟨x.toInt, by have := x.le_toInt; omega, by have := x.toInt_lt; omega, (Int32.ofInt_toInt x).symm⟩
theorem iz_lt {a b : Int} (h1 : -2147483648 ≤ a) (h2 : a < 2147483648) (h3 : -2147483648 ≤ b) (h4 : b < 2147483648) : iz a < iz b ↔ a < b := by
  rw [Int32.lt_iff_toInt_lt, iz_toInt h1 h2, iz_toInt h3 h4]
theorem iz_le {a b : Int} (h1 : -2147483648 ≤ a) (h2 : a < 2147483648) (h3 : -2147483648 ≤ b) (h4 : b < 2147483648) : iz a ≤ iz b ↔ a ≤ b := by
  rw [Int32.le_iff_toInt_le, iz_toInt h1 h2, iz_toInt h3 h4]
theorem iz_eq {a b : Int} (h1 : -2147483648 ≤ a) (h2 : a < 2147483648) (h3 : -2147483648 ≤ b) (h4 : b < 2147483648) : iz a = iz b ↔ a = b := by
  rw [← Int32.toInt_inj, iz_toInt h1 h2, iz_toInt h3 h4]
theorem iz_clamp {a : Int} (h1 : 0 ≤ a) (h2 : a < 2147483648) : (iz a).toNatClampNeg = a.toNat := by
  show (iz a).toInt.toNat = a.toNat
  rw [iz_toInt (by omega) h2]
theorem iz_div {a b : Int} (h1 : -2147483648 ≤ a) (h2 : a < 2147483648) (h3 : 0 < b) (h4 : b < 2147483648) : iz a / iz b = iz (a.tdiv b) := by
  have hb : iz b ≠ -1 := by
    intro h
    have := congrArg Int32.toInt h
    rw [iz_toInt (by omega) h4] at this
    have e : (-1 : Int32).toInt = -1 := by decide
    omega
  apply Int32.toInt_inj.mp
  rw [Int32.toInt_div_of_ne_right _ _ hb, iz_toInt h1 h2, iz_toInt (by omega) h4, iz_toInt]
  · have := Int.natAbs_tdiv_le_natAbs a b; omega
  · have := Int.natAbs_tdiv_le_natAbs a b
    rcases Int.lt_or_le a 0 with h | h
    · have e : a.tdiv b = -((-a).tdiv b) := by rw [Int.neg_tdiv]; omega
      have := Int.ediv_nonneg (a := -a) (b := b) (by omega) (by omega)
      rw [e, Int.tdiv_eq_ediv_of_nonneg (by omega)]
      omega
    · have := Int.tdiv_le_self b h; omega
theorem iz_rem {a b : Int} (h1 : -2147483648 ≤ a) (h2 : a < 2147483648) (h3 : 0 < b) (h4 : b < 2147483648) : iz a - iz a / iz b * iz b = iz (a.tmod b) := by
  rw [iz_div h1 h2 h3 h4, iz_mul, iz_sub]
  congr 1
  have := Int.mul_tdiv_add_tmod a b
  rw [Int.mul_comm] at this
  omega
theorem iz_ediv {a b : Int} (h1 : 0 ≤ a) (h2 : a < 2147483648) (h3 : 0 < b) (h4 : b < 2147483648) : iz a / iz b = iz (a / b) := by
  rw [iz_div (by omega) h2 h3 h4, Int.tdiv_eq_ediv_of_nonneg h1]
theorem iz_emod {a b : Int} (h1 : 0 ≤ a) (h2 : a < 2147483648) (h3 : 0 < b) (h4 : b < 2147483648) : iz a - iz a / iz b * iz b = iz (a % b) := by
  rw [iz_rem (by omega) h2 h3 h4, Int.tmod_eq_emod_of_nonneg h1]
/-- an index that is in its row -/
theorem iz_in {a : Int} {n : Nat} (h1 : 0 ≤ a) (h2 : a < n) (hn : (n : Int) ≤ 2147483648) : ¬ (iz a < 0 ∨ n ≤ (iz a).toNatClampNeg) := by
  rw [iz_clamp h1 (by omega)]
  have h0 : (0 : Int32) = iz 0 := rfl
  rw [h0, iz_lt (by omega) (by omega) (by omega) (by omega)]
  omega
/-! steps, where their tests hold -/
theorem nm_eq {α β : Type} (x : α) (f : α → β) : nm x f = f x := rfl
theorem bI_eq (r : Int32) (M : am_M) (f : Int32 → am_M → am_R) : bI (some (some (.int r), M)) f = f r M := rfl
theorem bL_eq (r : Int64) (M : am_M) (f : Int64 → am_M → am_R) : bL (some (some (.long r), M)) f = f r M := rfl
theorem bV_eq (M : am_M) (f : am_M → am_R) : bV (some (none, M)) f = f M := rfl
theorem bR_eq (b : Nat) (M : am_M) (fn : am_M → am_R) (f : Nat → am_M → am_R) : bR (some (some (.ref b), M)) fn f = f b M := rfl
theorem bR_null (M : am_M) (fn : am_M → am_R) (f : Nat → am_M → am_R) : bR (some (some .null, M)) fn f = fn M := rfl
theorem cv_eq {M : am_M} {b t : Nat} {r : am_R} (h : mKd M b = t) : cv M b t r = r := if_pos h
theorem fI_eq {M : am_M} {a t k : Nat} {f : Int32 → am_R} (h : mKd M a = t) : fI M a t k f = f (rI M a k) := if_pos h
theorem fR_eq {M : am_M} {a t k b : Nat} {f : Nat → am_R} (h : mKd M a = t) (hb : rR M a k = some b) : fR M a t k f = f b := by
  unfold fR
  rw [if_pos h, hb]
theorem sI_eq {M : am_M} {a t k : Nat} {v : Int32} {f : am_M → am_R} (h : mKd M a = t) : sI M a t k v f = f (wI M a k v) := if_pos h
theorem sR_eq {M : am_M} {a t k v : Nat} {f : am_M → am_R} (h : mKd M a = t) : sR M a t k v f = f (wR M a k (some v)) := if_pos h
theorem aN_eq {M : am_M} {b n : Nat} {f : Int32 → am_R} (h : mKd M b < 4) (hn : mLn M b = n) : aN M b f = f (iz (n : Int)) := by
  unfold aN
  rw [if_pos h, hn, iz_ofNat]
theorem aI_eq {M : am_M} {b n : Nat} {i : Int} {f : Int32 → am_R} (h : mKd M b = 0) (hn : mLn M b = n) (h1 : 0 ≤ i) (h2 : i < n) (h3 : (n : Int) ≤ 2147483648) : aI M b (iz i) f = f (rI M b i.toNat) := by
  unfold aI
  rw [if_pos ⟨h, by rw [hn]; exact iz_in h1 h2 h3⟩, iz_clamp h1 (by omega)]
theorem aB_eq {M : am_M} {b n : Nat} {i : Int} {f : Int32 → am_R} (h : mKd M b = 2) (hn : mLn M b = n) (h1 : 0 ≤ i) (h2 : i < n) (h3 : (n : Int) ≤ 2147483648) : aB M b (iz i) f = f (rI M b i.toNat) := by
  unfold aB
  rw [if_pos ⟨h, by rw [hn]; exact iz_in h1 h2 h3⟩, iz_clamp h1 (by omega)]
theorem aL_eq {M : am_M} {b n : Nat} {i : Int} {f : Int64 → am_R} (h : mKd M b = 1) (hn : mLn M b = n) (h1 : 0 ≤ i) (h2 : i < n) (h3 : (n : Int) ≤ 2147483648) : aL M b (iz i) f = f (rL M b i.toNat) := by
  unfold aL
  rw [if_pos ⟨h, by rw [hn]; exact iz_in h1 h2 h3⟩, iz_clamp h1 (by omega)]
theorem aR_eq {M : am_M} {b n x : Nat} {i : Int} {f : Nat → am_R} (h : mKd M b = 3) (hn : mLn M b = n) (h1 : 0 ≤ i) (h2 : i < n) (h3 : (n : Int) ≤ 2147483648) (hx : rR M b i.toNat = some x) : aR M b (iz i) f = f x := by
  unfold aR
  rw [if_pos ⟨h, by rw [hn]; exact iz_in h1 h2 h3⟩, iz_clamp h1 (by omega), hx]
theorem tI_eq {M : am_M} {b n : Nat} {i : Int} {v : Int32} {f : am_M → am_R} (h : mKd M b = 0) (hn : mLn M b = n) (h1 : 0 ≤ i) (h2 : i < n) (h3 : (n : Int) ≤ 2147483648) : tI M b (iz i) v f = f (wI M b i.toNat v) := by
  unfold tI
  rw [if_pos ⟨h, by rw [hn]; exact iz_in h1 h2 h3⟩, iz_clamp h1 (by omega)]
theorem tB_eq {M : am_M} {b n : Nat} {i : Int} {v : Int32} {f : am_M → am_R} (h : mKd M b = 2) (hn : mLn M b = n) (h1 : 0 ≤ i) (h2 : i < n) (h3 : (n : Int) ≤ 2147483648) : tB M b (iz i) v f = f (wI M b i.toNat v.toInt8.toInt32) := by
  unfold tB
  rw [if_pos ⟨h, by rw [hn]; exact iz_in h1 h2 h3⟩, iz_clamp h1 (by omega)]
theorem tL_eq {M : am_M} {b n : Nat} {i : Int} {v : Int64} {f : am_M → am_R} (h : mKd M b = 1) (hn : mLn M b = n) (h1 : 0 ≤ i) (h2 : i < n) (h3 : (n : Int) ≤ 2147483648) : tL M b (iz i) v f = f (wL M b i.toNat v) := by
  unfold tL
  rw [if_pos ⟨h, by rw [hn]; exact iz_in h1 h2 h3⟩, iz_clamp h1 (by omega)]
theorem dZ_eq {y : Int} {r : am_R} (h1 : 0 < y) (h2 : y < 2147483648) : dZ (iz y) r = r := by
  unfold dZ
  rw [if_neg]
  have h0 : (0 : Int32) = iz 0 := rfl
  rw [h0, iz_eq (by omega) (by omega) (by omega) (by omega)]
  omega
