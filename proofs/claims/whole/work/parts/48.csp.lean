/-! ===== the component's sparks ===== -/
theorem rI_at {M : am_M} {a k b j : Nat} {v : Int32} (hb : b = a) (hj : j = k) : rI (wI M a k v) b j = v := by rw [rI_wI, if_pos ⟨hb, hj⟩]
theorem rI_ne {M : am_M} {a k b j : Nat} {v : Int32} (h : ¬ (b = a ∧ j = k)) : rI (wI M a k v) b j = rI M b j := by rw [rI_wI, if_neg h]
def SpA (M : am_M) (a : Nat) : Prop := mKd M a = 10 ∧ rR M a 0 = some 2 ∧ rR M a 1 = some (a + 1) ∧ rR M a 2 = some (a + 2) ∧ mKd M (a + 1) = 0 ∧ mLn M (a + 1) = 3 ∧ mKd M (a + 2) = 0 ∧ mLn M (a + 2) = 3
theorem spA_24 {M : am_M} (h : SH M) : SpA M 24 := ⟨kd_24 h, rr_24_0 h, rr_24_1 h, rr_24_2 h, kd_25 h, ln_25 h, kd_26 h, ln_26 h⟩
theorem spA_27 {M : am_M} (h : SH M) : SpA M 27 := ⟨kd_27 h, rr_27_0 h, rr_27_1 h, rr_27_2 h, kd_28 h, ln_28 h, kd_29 h, ln_29 h⟩
theorem spA_30 {M : am_M} (h : SH M) : SpA M 30 := ⟨kd_30 h, rr_30_0 h, rr_30_1 h, rr_30_2 h, kd_31 h, ln_31 h, kd_32 h, ln_32 h⟩
theorem spA_33 {M : am_M} (h : SH M) : SpA M 33 := ⟨kd_33 h, rr_33_0 h, rr_33_1 h, rr_33_2 h, kd_34 h, ln_34 h, kd_35 h, ln_35 h⟩
theorem spA_36 {M : am_M} (h : SH M) : SpA M 36 := ⟨kd_36 h, rr_36_0 h, rr_36_1 h, rr_36_2 h, kd_37 h, ln_37 h, kd_38 h, ln_38 h⟩
theorem spA_39 {M : am_M} (h : SH M) : SpA M 39 := ⟨kd_39 h, rr_39_0 h, rr_39_1 h, rr_39_2 h, kd_40 h, ln_40 h, kd_41 h, ln_41 h⟩
theorem spA_42 {M : am_M} (h : SH M) : SpA M 42 := ⟨kd_42 h, rr_42_0 h, rr_42_1 h, rr_42_2 h, kd_43 h, ln_43 h, kd_44 h, ln_44 h⟩
theorem spA_50 {M : am_M} (h : SH M) : SpA M 50 := ⟨kd_50 h, rr_50_0 h, rr_50_1 h, rr_50_2 h, kd_51 h, ln_51 h, kd_52 h, ln_52 h⟩
theorem spA_53 {M : am_M} (h : SH M) : SpA M 53 := ⟨kd_53 h, rr_53_0 h, rr_53_1 h, rr_53_2 h, kd_54 h, ln_54 h, kd_55 h, ln_55 h⟩
theorem spA_56 {M : am_M} (h : SH M) : SpA M 56 := ⟨kd_56 h, rr_56_0 h, rr_56_1 h, rr_56_2 h, kd_57 h, ln_57 h, kd_58 h, ln_58 h⟩
theorem spA_60 {M : am_M} (h : SH M) : SpA M 60 := ⟨kd_60 h, rr_60_0 h, rr_60_1 h, rr_60_2 h, kd_61 h, ln_61 h, kd_62 h, ln_62 h⟩
theorem spA_63 {M : am_M} (h : SH M) : SpA M 63 := ⟨kd_63 h, rr_63_0 h, rr_63_1 h, rr_63_2 h, kd_64 h, ln_64 h, kd_65 h, ln_65 h⟩
theorem spA_66 {M : am_M} (h : SH M) : SpA M 66 := ⟨kd_66 h, rr_66_0 h, rr_66_1 h, rr_66_2 h, kd_67 h, ln_67 h, kd_68 h, ln_68 h⟩
theorem SpA.fr {A : Nat → Nat → Prop} {M M' : am_M} {a : Nat} (h : SpA M a) (hf : Fr A M M') : SpA M' a := by
  obtain ⟨h1, h2, h3, h4, h5, h6, h7, h8⟩ := h
  exact ⟨by rw [hf.kd]; exact h1, by rw [hf.rr]; exact h2, by rw [hf.rr]; exact h3, by rw [hf.rr]; exact h4, by rw [hf.kd]; exact h5, by rw [hf.ln]; exact h6, by rw [hf.kd]; exact h7, by rw [hf.ln]; exact h8⟩
/-- the cells of the spark at a -/
def ASp (a b j : Nat) : Prop := a ≤ b ∧ b ≤ a + 2
theorem CS.sp {M M' : am_M} {S : Sc} {a : Nat} (h : CS M S) (ha : 5 < a) (hf : Fr (ASp a) M M') : CS M' S := h.fr hf (fun b j q => by unfold ASp at q; omega)
/-- kind, begin, speed, falls, edge stand at a -/
def CpP (M : am_M) (S : Sc) (a : Nat) (p : Sk) : Prop := rI M a 4 = iz (kKd p) ∧ rI M a 8 = iz (sK S (kKd p) 3) ∧ rI M a 9 = iz (sK S (kKd p) 5) ∧ (∀ i, 0 ≤ i → i < 3 → rI M (a + 1) i.toNat = iz (kBg p i)) ∧ ∀ i, 0 ≤ i → i < 3 → rI M (a + 2) i.toNat = iz (kVl p i)
def CpL (M : am_M) (S : Sc) (a : Nat) (p : Sk) (c g : Int) : Prop := CpP M S a p ∧ rI M a 3 = iz c ∧ rI M a 5 = iz g ∧ rI M a 6 = iz (kBn p) ∧ rI M a 7 = iz (kEn p)
theorem tri_2 (a : Int) : a * (a - 1) = 2 * (a * (a - 1) / 2) := by
  have : a * (a - 1) % 2 = 0 := by
    rw [Int.mul_emod]
    have h : a % 2 = 0 ∨ a % 2 = 1 := by omega
    rcases h with h | h
    · rw [h]; simp
    · have : (a - 1) % 2 = 0 := by omega
      rw [this]; simp
  omega
theorem fall_eq (f a : Int) : (f * a * (a - 1)).tdiv 2 = f * (a * (a - 1) / 2) := by
  have e : f * a * (a - 1) = 2 * (f * (a * (a - 1) / 2)) := by
    rw [Int.mul_assoc, Int.mul_left_comm 2 f]
    congr 1
    exact tri_2 a
  rw [e, Int.mul_tdiv_cancel_left _ (by decide)]
section Csp
variable {M : am_M} {S : Sc} {a : Nat} {p : Sk}
theorem cFree (hk : scOK S) (hs : SpA M a) (hp : CpP M S a p) (h0 : 0 ≤ kKd p ∧ kKd p < sNk S) {i g : Int} (h1 : 0 ≤ i) (h2 : i < 3) (h3 : 0 ≤ g) (h4 : g ≤ 61) : F_Sprk_freePlace a (iz i) (iz g) M = some (some (.int (iz (raw S p i g))), M) := by
  obtain ⟨q1, q2, q3, q4, q5, q6, q7, q8⟩ := hs
  have t := tri_bd h3 h4
  have k3 := (hk.2.2.2.2.1 _ h0.1 h0.2).2.2.2.1
  have e2 := mul_bd (a := g * (g - 1)) (v := sK S (kKd p) 3) (A := 3660) (V := 9) t.1 t.2 (by omega) (by omega) (by omega)
  have e3 : sK S (kKd p) 3 * g * (g - 1) = g * (g - 1) * sK S (kKd p) 3 := by rw [Int.mul_assoc, Int.mul_comm]
  rw [← e3] at e2
  unfold F_Sprk_freePlace raw
  simp (disch := omega) only [iz_lit, iz_lt, if_neg, if_pos, fR_eq q1 q3, fR_eq q1 q4, aN_eq (show mKd M (a + 1) < 4 by omega) q6, aI_eq q5 q6, aI_eq q7 q8, hp.2.2.2.1 i h1 h2, hp.2.2.2.2 i h1 h2, nm_eq, iz_mul, iz_add, iz_sub, iz_eq, fI_eq q1, hp.2.1, iz_div, fall_eq]
  split
  · rfl
  · rw [Int.add_zero]
theorem cPlc (h : SH M) (hc : CS M S) (hk : scOK S) (hs : SpA M a) (hp : CpP M S a p) (h0 : 0 ≤ kKd p ∧ kKd p < sNk S) {i g : Int} (hb : 0 ≤ kBg p i ∧ kBg p i < 320) (hv : -20 ≤ kVl p i ∧ kVl p i ≤ 20) (h1 : 0 ≤ i) (h2 : i < 3) (h3 : 0 ≤ g) (h4 : g ≤ 61) : F_Sprk_placeAt a (iz i) (iz g) M = some (some (.int (iz (plc S p i g))), M) := by
  have r := raw_bd hk h0 hb hv h3 h4
  have w := wl_bd hk h1 h2
  have e5 := (hk.2.2.2.2.1 _ h0.1 h0.2).2.2.2.2.2.1
  have m0 := Int.emod_nonneg (raw S p i g) (b := wl S i) (by omega)
  have m1 := Int.emod_lt_of_pos (raw S p i g) (b := wl S i) (by omega)
  have m2 := Int.emod_nonneg (raw S p i g) (b := 2 * wl S i) (by omega)
  have m3 := Int.emod_lt_of_pos (raw S p i g) (b := 2 * wl S i) (by omega)
  have ew : sW S i * 8 = wl S i := by unfold wl; omega
  have q1 := hs.1
  unfold F_Sprk_placeAt F_Sprk_placeAt_L30
  simp (disch := omega) only [iz_lit, cv_eq q1, cFree hk hs hp h0 h1 h2 h3 h4, bI_eq, fR_eq q1 hs.2.1, cv_eq (kd_2 h), cW h hc h1 h2, iz_mul, nm_eq, ew, iz_lt, if_neg, fI_eq q1, hp.2.2.1, iz_eq, floorMod_eq, iz_le, iz_sub]
  have key : 0 ≤ raw S p i g → raw S p i g < wl S i → plc S p i g = raw S p i g := by
    intro g1 g2
    unfold plc
    rw [Int.emod_eq_of_lt g1 g2, Int.emod_eq_of_lt (b := 2 * wl S i) g1 (by omega)]
    split
    · rfl
    · split
      · rfl
      · first | rfl | rw [if_pos g2]
  have key2 : (if sK S (kKd p) 5 = 2 then some (some (Value.int (iz (raw S p i g))), M) else if sK S (kKd p) 5 = 0 then some (some (Value.int (iz (raw S p i g % wl S i))), M) else if wl S i ≤ raw S p i g % (2 * wl S i) then some (some (Value.int (iz (2 * wl S i - 1 - raw S p i g % (2 * wl S i)))), M) else some (some (Value.int (iz (raw S p i g % (2 * wl S i)))), M)) = some (some (Value.int (iz (plc S p i g))), M) := by
    unfold plc
    by_cases g5 : sK S (kKd p) 5 = 2
    · rw [if_pos g5, if_neg (by omega), if_pos g5]
    · rw [if_neg g5]
      by_cases g6 : sK S (kKd p) 5 = 0
      · rw [if_pos g6, if_pos g6]
      · rw [if_neg g6, if_neg g6, if_neg g5]
        by_cases g7 : wl S i ≤ raw S p i g % (2 * wl S i)
        · rw [if_pos g7, if_neg (by omega)]
        · rw [if_neg g7, if_pos (by omega)]
  by_cases g1 : raw S p i g < 0
  · rw [if_pos g1]; exact key2
  · by_cases g2 : raw S p i g < wl S i
    · rw [if_neg g1, if_pos g2, key (by omega) g2]
    · rw [if_neg g1, if_neg g2]; exact key2
/-- out of the world along one way -/
noncomputable def outB (S : Sc) (p : Sk) (i g : Int) : Bool := decide (raw S p i g < 0 ∨ wl S i ≤ raw S p i g)
theorem raw_s (S : Sc) (p : Sk) (i g : Int) : raw S p i (g + 1) = raw S p i g + (kVl p i + (if i = 1 then sK S (kKd p) 3 * g else 0)) := by
  unfold raw
  have e1 : (g + 1) * kVl p i = g * kVl p i + kVl p i := by rw [Int.add_mul, Int.one_mul]
  have e2 : (g + 1) * (g + 1 - 1) / 2 = g * (g - 1) / 2 + g := by
    have a1 := tri_2 g
    have a2 := tri_2 (g + 1)
    have e : (g + 1) * (g + 1 - 1) = g * (g - 1) + 2 * g := by
      rw [show g + 1 - 1 = g by omega, Int.add_mul, Int.mul_sub]
      omega
    omega
  rw [e1, e2]
  split
  · rw [Int.mul_add]; omega
  · omega
/-- the age at which it would be beyond along one way -/
theorem cAge58 (hk : scOK S) (h0 : 0 ≤ kKd p ∧ kKd p < sNk S) {i L : Int} (hb : 0 ≤ kBg p i ∧ kBg p i < 320) (hv : -20 ≤ kVl p i ∧ kVl p i ≤ 20) (h1 : 0 ≤ i) (h2 : i < 3) (hL : L ≤ 60) : ∀ (r n : Nat) (g : Int), 1 ≤ g → g + r = L → r < n → F_Sprk_ageBeyond_L58 n (iz L) (iz (wl S i)) (iz (raw S p i (g - 1))) (iz (kVl p i + (if i = 1 then sK S (kKd p) 3 * (g - 1) else 0))) (iz (if i = 1 then sK S (kKd p) 3 else 0)) (iz g) M = some (some (.int (iz (fstB (outB S p i) r g))), M)
  | 0, n + 1, g, hg, e, hn => by
    rw [F_Sprk_ageBeyond_L58]
    have : fstB (outB S p i) 0 g = g := rfl
    rw [if_pos (by rw [iz_le (by omega) (by omega) (by omega) (by omega)]; omega), this, show L = g by omega]
  | r + 1, n + 1, g, hg, e, hn => by
    have w := wl_bd hk h1 h2
    have rb := raw_bd hk h0 hb hv (a := g) (by omega) (by omega)
    have k3 := (hk.2.2.2.2.1 _ h0.1 h0.2).2.2.2.1
    have st := raw_s S p i (g - 1)
    rw [show g - 1 + 1 = g by omega] at st
    have st2 : kVl p i + (if i = 1 then sK S (kKd p) 3 * (g - 1) else 0) + (if i = 1 then sK S (kKd p) 3 else 0) = kVl p i + (if i = 1 then sK S (kKd p) 3 * (g + 1 - 1) else 0) := by
      split
      · rw [show g + 1 - 1 = (g - 1) + 1 by omega, Int.mul_add]; omega
      · omega
    have q : fstB (outB S p i) (r + 1) g = if outB S p i g then g else fstB (outB S p i) r (g + 1) := rfl
    rw [F_Sprk_ageBeyond_L58, if_neg (by rw [iz_le (by omega) (by omega) (by omega) (by omega)]; omega), nm_eq, nm_eq, iz_add, iz_add, ← st, st2, q]
    have z0 : (0 : Int32) = iz 0 := rfl
    by_cases g1 : raw S p i g < 0
    · rw [z0, if_pos ((iz_lt (by omega) (by omega) (by omega) (by omega)).mpr g1), if_pos (by unfold outB; simp [g1])]
    · rw [z0, if_neg (fun z => g1 ((iz_lt (by omega) (by omega) (by omega) (by omega)).mp z))]
      by_cases g2 : raw S p i g < wl S i
      · have no : ¬ outB S p i g = true := by unfold outB; simp; omega
        rw [if_pos ((iz_lt (by omega) (by omega) (by omega) (by omega)).mpr g2), if_neg no, nm_eq, show (1 : Int32) = iz 1 from rfl, iz_add]
        have ih := cAge58 hk h0 hb hv h1 h2 hL r n (g + 1) (by omega) (by omega) (by omega)
        rw [show g + 1 - 1 = g by omega] at ih ⊢
        exact ih
      · rw [if_neg (fun z => g2 ((iz_lt (by omega) (by omega) (by omega) (by omega)).mp z)), if_pos (by unfold outB; simp; omega)]
theorem cAge (h : SH M) (hc : CS M S) (hk : scOK S) (hs : SpA M a) (hp : CpP M S a p) (h0 : 0 ≤ kKd p ∧ kKd p < sNk S) {i L : Int} (hw : kBg p i < wl S i) (hb : 0 ≤ kBg p i ∧ kBg p i < 320) (hv : -20 ≤ kVl p i ∧ kVl p i ≤ 20) (h1 : 0 ≤ i) (h2 : i < 3) (hL1 : 1 ≤ L) (hL : L ≤ 60) : F_Sprk_ageBeyond a (iz i) (iz L) M = some (some (.int (iz (fstB (outB S p i) (L - 1).toNat 1))), M) := by
  obtain ⟨q1, q2, q3, q4, q5, q6, q7, q8⟩ := id hs
  have w := wl_bd hk h1 h2
  have k3 := (hk.2.2.2.2.1 _ h0.1 h0.2).2.2.2.1
  have ew : sW S i * 8 = wl S i := by unfold wl; omega
  have lp := cAge58 (M := M) hk h0 hb hv h1 h2 hL (L - 1).toNat fu 1 (by omega) (by omega) (by have := fu_ge; omega)
  rw [show (1 : Int) - 1 = 0 by omega, raw_0, Int.mul_zero] at lp
  have lp' : F_Sprk_ageBeyond_L58 fu (iz L) (iz (wl S i)) (iz (kBg p i)) (iz (kVl p i)) (iz (if i = 1 then sK S (kKd p) 3 else 0)) (iz 1) M = some (some (.int (iz (fstB (outB S p i) (L - 1).toNat 1))), M) := by
    rw [← lp]
    congr 2
    split <;> omega
  have short : kVl p i = 0 → (if i = 1 then sK S (kKd p) 3 else 0) = 0 → fstB (outB S p i) (L - 1).toNat 1 = L := by
    intro e1 e2
    refine fstB_uniq _ (by omega) (by omega) (fun b g1 g2 => ?_) (fun z => by omega)
    have : raw S p i b = kBg p i := by
      unfold raw
      rw [e1, Int.mul_zero]
      by_cases hi : i = 1
      · rw [if_pos hi] at e2 ⊢; rw [e2]; simp
      · rw [if_neg hi]; omega
    unfold outB
    rw [this]
    simp
    omega
  have l41 : F_Sprk_ageBeyond_L41 (iz L) (iz (wl S i)) (iz (kBg p i)) (iz (kVl p i)) (iz (if i = 1 then sK S (kKd p) 3 else 0)) M = some (some (.int (iz (fstB (outB S p i) (L - 1).toNat 1))), M) := by
    unfold F_Sprk_ageBeyond_L41
    have b9 : -9 ≤ (if i = 1 then sK S (kKd p) 3 else 0) ∧ (if i = 1 then sK S (kKd p) 3 else 0) ≤ 9 := by split <;> omega
    rw [show (0 : Int32) = iz 0 from rfl, show (1 : Int32) = iz 1 from rfl]
    by_cases g1 : kVl p i = 0
    · rw [if_pos (by rw [g1])]
      by_cases g2 : (if i = 1 then sK S (kKd p) 3 else 0) = 0
      · rw [if_pos (by rw [g2]), short g1 g2]
      · rw [if_neg (fun z => g2 ((iz_eq (by omega) (by omega) (by omega) (by omega)).mp z))]; exact lp'
    · rw [if_neg (fun z => g1 ((iz_eq (by omega) (by omega) (by omega) (by omega)).mp z))]; exact lp'
  unfold F_Sprk_ageBeyond
  simp (disch := omega) only [iz_lit, fR_eq q1 q2, fR_eq q1 q3, fR_eq q1 q4, cv_eq (kd_2 h), cW h hc h1 h2, bI_eq, iz_mul, nm_eq, ew, aI_eq q5 q6, aI_eq q7 q8, hp.2.2.2.1 i h1 h2, hp.2.2.2.2 i h1 h2, iz_eq, fI_eq q1, hp.2.1]
  by_cases hi : i = 1
  · rw [if_pos hi] at l41 ⊢; exact l41
  · rw [if_neg hi] at l41 ⊢; exact l41
end Csp
