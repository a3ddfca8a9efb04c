/-! ===== drawn, inColumn, top, below ===== -/
section FrTop
variable {M M0 M1 : am_M} {S : Sc} {t : Int} {L O : List Int}
/-- the k-th of a row that has p -/
noncomputable def kth (p : Int → Prop) : Int → List Int → Int
  | _, [] => -1
  | k, c :: K => @ite _ (p c) (Classical.propDecidable _) (if k = 0 then c else kth p (k - 1) K) (kth p k K)
theorem kth_f {p : Int → Prop} {k c : Int} {K : List Int} (h : ¬ p c) : kth p k (c :: K) = kth p k K := by rw [kth, if_neg h]
theorem kth_0 {p : Int → Prop} {c : Int} {K : List Int} (h : p c) : kth p 0 (c :: K) = c := by rw [kth, if_pos h, if_pos rfl]
theorem kth_s {p : Int → Prop} {k c : Int} {K : List Int} (h : p c) (hk : k ≠ 0) : kth p k (c :: K) = kth p (k - 1) K := by rw [kth, if_pos h, if_neg hk]
theorem tk_r {i : Nat} {c : Int} (hi : O[i]? = some c) : (O.take (i + 1)).reverse = c :: (O.take i).reverse := by rw [take_1 hi, List.reverse_append]; rfl
theorem cFromL (h : SH M) (ha : FrA M) (hk : scOK S) (hK : FrK M S t L O) {x y : Int} (x1 : -2147483648 ≤ x) (x2 : x < 2147483648) (y1 : -2147483648 ≤ y) (y2 : y < 2147483648) : ∀ (r n : Nat) (k : Int), 0 ≤ k → k < 2147483648 → r ≤ O.length → r < n → F_Fram_fromTop_L11 n 45 (iz x) (iz y) (iz k) (iz ((r : Int) - 1)) M = some (some (.int (iz (kth (icp S t x y) k (O.take r).reverse))), M)
  | r, 0, k, k1, k2, q1, q2 => by omega
  | 0, n + 1, k, k1, k2, q1, q2 => by
    rw [F_Fram_fromTop_L11, show (0 : Int32) = iz 0 from rfl, ifL (by omega) (by omega) (by omega) (by omega), if_pos (by omega)]
    rfl
  | r + 1, n + 1, k, k1, k2, q1, q2 => by
    have ll := fr_len hk hK
    have ol := FO_len hK.1 hK.2.1
    have hi : O[r]? = some O[r] := List.getElem?_eq_getElem (by omega)
    generalize O[r] = c at hi
    obtain ⟨j, j1, j2⟩ := fr_o h ha hK hi
    rw [show ((r + 1 : Nat) : Int) - 1 = (r : Int) by omega, F_Fram_fromTop_L11, show (0 : Int32) = iz 0 from rfl, ifL (by omega) (by omega) (by omega) (by omega), if_neg (by omega), cv_eq (kd_45 h), j2, bI_eq, cv_eq (kd_45 h), tk_r hi]
    rcases cInCol h ha hk hK j1 x1 x2 y1 y2 with ⟨q, e⟩ | ⟨q, e⟩
    · rw [e, bI_eq, if_neg (by decide), ifQ (by omega) (by omega) (by omega) (by omega)]
      by_cases g : k = 0
      · rw [if_pos g, cv_eq (kd_45 h), j2, bI_eq, cv_eq (kd_45 h), fr_cd h ha hK j1, bI_eq, g, kth_0 q]
      · rw [if_neg g, nm_eq, nm_eq, show (-1 : Int32) = iz (-1) from rfl, iz_add, iz_add, kth_s q g, show k + -1 = k - 1 by omega, show (r : Int) + -1 = (r : Int) - 1 by omega]
        exact cFromL h ha hk hK x1 x2 y1 y2 r n (k - 1) (by omega) (by omega) (by omega) (by omega)
    · rw [e, bI_eq, if_pos (by decide), nm_eq, show (-1 : Int32) = iz (-1) from rfl, iz_add, kth_f q, show (r : Int) + -1 = (r : Int) - 1 by omega]
      exact cFromL h ha hk hK x1 x2 y1 y2 r n k k1 k2 (by omega) (by omega)
theorem cFrom (h : SH M) (ha : FrA M) (hk : scOK S) (hK : FrK M S t L O) {x y k : Int} (x1 : -2147483648 ≤ x) (x2 : x < 2147483648) (y1 : -2147483648 ≤ y) (y2 : y < 2147483648) (k1 : 0 ≤ k) (k2 : k < 2147483648) : F_Fram_fromTop 45 (iz x) (iz y) (iz k) M = some (some (.int (iz (kth (icp S t x y) k O.reverse))), M) := by
  have fg := fu_ge
  have ll := fr_len hk hK
  have ol := FO_len hK.1 hK.2.1
  have e := cFromL h ha hk hK x1 x2 y1 y2 O.length fu k k1 k2 (Nat.le_refl _) (by omega)
  rw [List.take_of_length_le (Nat.le_refl _)] at e
  unfold F_Fram_fromTop
  rw [fr_l h hK, nm_eq, show (1 : Int32) = iz 1 from rfl, iz_sub, ← ol]
  exact e
theorem mBelL (hk : scOK S) (hG : MG M0 M S t O) (hC : CF M S t O O.length) {x y : Int} (x1 : -2147483648 ≤ x) (x2 : x < 2147483648) (y1 : -2147483648 ≤ y) (y2 : y < 2147483648) : ∀ (r n : Nat) (k : Int), 0 ≤ k → k < 2147483648 → r ≤ O.length → r < n → F_Md_below_L47 n 70 (iz x) (iz y) (iz k) (iz ((r : Int) - 1)) M = some (some (.int (iz (kth (icp S t x y) k (O.take r).reverse))), M)
  | r, 0, k, k1, k2, q1, q2 => by omega
  | 0, n + 1, k, k1, k2, q1, q2 => by
    rw [F_Md_below_L47, show (0 : Int32) = iz 0 from rfl, ifL (by omega) (by omega) (by omega) (by omega), if_pos (by omega)]
    rfl
  | r + 1, n + 1, k, k1, k2, q1, q2 => by
    have ll := md_len hk hG.2.2.2.1
    have h := hG.1
    have hi : O[r]? = some O[r] := List.getElem?_eq_getElem (by omega)
    generalize O[r] = c at hi
    have fi := (md_in hG.2.2.2.1 hi).1
    have p0 := pz_b3 hk fi (i := 0) (by omega) (by omega)
    have p1 := pz_b3 hk fi (i := 1) (by omega) (by omega)
    obtain ⟨r0, r1⟩ := hC r c (by omega) hi
    have ih := fun k k1 k2 => mBelL hk hG hC x1 x2 y1 y2 r n k k1 k2 (by omega) (by omega)
    rw [show ((r + 1 : Nat) : Int) - 1 = (r : Int) by omega, F_Md_below_L47, show (0 : Int32) = iz 0 from rfl, ifL (by omega) (by omega) (by omega) (by omega), if_neg (by omega), fR_eq (kd_70 h) (rr_70_36 h), aI_eq (kd_85 h) (ln_85 h) (by omega) (by omega) (by omega), show ((r : Int)).toNat = r by omega, r0, ifQ (by omega) (by omega) x1 x2, fR_eq (kd_70 h) (rr_70_37 h), aI_eq (kd_86 h) (ln_86 h) (by omega) (by omega) (by omega), show ((r : Int)).toNat = r by omega, r1, ifQ (by omega) (by omega) y1 y2, ifQ (by omega) (by omega) (by omega) (by omega), cv_eq (kd_70 h), mCode h hk hG.2.2.2.1 hi, bI_eq, show (-1 : Int32) = iz (-1) from rfl, iz_add, iz_add, nm_eq, nm_eq, show (r : Int) + -1 = (r : Int) - 1 by omega, show k + -1 = k - 1 by omega, tk_r hi]
    by_cases q1 : pz S t c 0 / 8 = x
    · rw [if_pos q1]
      by_cases q2 : pz S t c 1 / 8 = y
      · rw [if_pos q2]
        by_cases g : k = 0
        · rw [if_pos g, g, kth_0 ⟨q1, q2⟩]
        · rw [if_neg g, kth_s ⟨q1, q2⟩ g]; exact ih (k - 1) (by omega) (by omega)
      · rw [if_neg q2, kth_f (fun z => q2 z.2)]; exact ih k k1 k2
    · rw [if_neg q1, kth_f (fun z => q1 z.1)]; exact ih k k1 k2
/-- which one topOf has found -/
def TB (S : Sc) (t x y : Int) (O : List Int) (b : Int) (i : Nat) : Prop := (b = -1 ∧ kth (icp S t x y) 0 (O.take i).reverse = -1) ∨ ∃ (j : Nat) (c : Int), b = (j : Int) ∧ j < i ∧ O[j]? = some c ∧ kth (icp S t x y) 0 (O.take i).reverse = c
theorem mTopL (hk : scOK S) (hG : MG M0 M S t O) (hC : CF M S t O O.length) {x y : Int} (x1 : -2147483648 ≤ x) (x2 : x < 2147483648) (y1 : -2147483648 ≤ y) (y2 : y < 2147483648) : ∀ (r n i : Nat) (b : Int), TB S t x y O b i → i + r = O.length → r < n → ∃ b', F_Md_topOf_L5 n 70 (iz x) (iz y) (iz b) (iz (i : Int)) M = some (some (.int (iz b')), M) ∧ TB S t x y O b' O.length
  | r, 0, i, b, hb, q1, q2 => by omega
  | 0, n + 1, i, b, hb, q1, q2 => by
    have ll := md_len hk hG.2.2.2.1
    have e : i = O.length := by omega
    subst e
    refine ⟨b, ?_, hb⟩
    rw [F_Md_topOf_L5, md_l hG.1 hG.2.2.2.1, ifE (by omega) (by omega) (by omega) (by omega), if_pos (Int.le_refl _)]
  | r + 1, n + 1, i, b, hb, q1, q2 => by
    have ll := md_len hk hG.2.2.2.1
    have h := hG.1
    have hi : O[i]? = some O[i] := List.getElem?_eq_getElem (by omega)
    generalize O[i] = c at hi
    have fi := (md_in hG.2.2.2.1 hi).1
    have p0 := pz_b3 hk fi (i := 0) (by omega) (by omega)
    have p1 := pz_b3 hk fi (i := 1) (by omega) (by omega)
    obtain ⟨r0, r1⟩ := hC i c (by omega) hi
    have ih := fun b hb => mTopL hk hG hC x1 x2 y1 y2 r n (i + 1) b hb (by omega) (by omega)
    have no : ¬ icp S t x y c → TB S t x y O b (i + 1) := fun q => by
      unfold TB
      rw [tk_r hi, kth_f q]
      rcases hb with z | ⟨j, d, z1, z2, z3, z4⟩
      · exact Or.inl z
      · exact Or.inr ⟨j, d, z1, by omega, z3, z4⟩
    have yes : icp S t x y c → TB S t x y O (i : Int) (i + 1) := fun q => by
      unfold TB
      rw [tk_r hi, kth_0 q]
      exact Or.inr ⟨i, c, rfl, by omega, hi, rfl⟩
    rw [F_Md_topOf_L5, md_l h hG.2.2.2.1, ifE (by omega) (by omega) (by omega) (by omega), if_neg (by omega), fR_eq (kd_70 h) (rr_70_36 h), aI_eq (kd_85 h) (ln_85 h) (by omega) (by omega) (by omega), show ((i : Int)).toNat = i by omega, r0, ifQ (by omega) (by omega) x1 x2, fR_eq (kd_70 h) (rr_70_37 h), aI_eq (kd_86 h) (ln_86 h) (by omega) (by omega) (by omega), show ((i : Int)).toNat = i by omega, r1, ifQ (by omega) (by omega) y1 y2, show (1 : Int32) = iz 1 from rfl, iz_add, nm_eq, nm_eq, show ((i : Int) + 1) = ((i + 1 : Nat) : Int) by omega]
    by_cases q1 : pz S t c 0 / 8 = x
    · rw [if_pos q1]
      by_cases q2 : pz S t c 1 / 8 = y
      · rw [if_pos q2]; exact ih _ (yes ⟨q1, q2⟩)
      · rw [if_neg q2]; exact ih _ (no (fun z => q2 z.2))
    · rw [if_neg q1]; exact ih _ (no (fun z => q1 z.1))
theorem mTopOf (hk : scOK S) (hG : MG M0 M S t O) (hC : CF M S t O O.length) {x y : Int} (x1 : -2147483648 ≤ x) (x2 : x < 2147483648) (y1 : -2147483648 ≤ y) (y2 : y < 2147483648) : (F_Md_topOf 70 (iz x) (iz y) M = some (some (.int (iz (-1))), M) ∧ kth (icp S t x y) 0 O.reverse = -1) ∨ ∃ (j : Nat) (c : Int), F_Md_topOf 70 (iz x) (iz y) M = some (some (.int (iz (j : Int))), M) ∧ O[j]? = some c ∧ kth (icp S t x y) 0 O.reverse = c := by
  have fg := fu_ge
  have ll := md_len hk hG.2.2.2.1
  obtain ⟨b, e, tb⟩ := mTopL hk hG hC x1 x2 y1 y2 O.length fu 0 (-1) (Or.inl ⟨rfl, rfl⟩) (by omega) (by omega)
  unfold TB at tb
  rw [List.take_of_length_le (Nat.le_refl _)] at tb
  rcases tb with ⟨z1, z2⟩ | ⟨j, c, z1, z2, z3, z4⟩
  · rw [z1] at e; exact Or.inl ⟨e, z2⟩
  · rw [z1] at e; exact Or.inr ⟨j, c, e, z3, z4⟩
/-- guards of a column, both -/
theorem gCol {st : Int} (hI : Inv M) (s01 : st = 0 ∨ st = 1) (s2 : rI M 70 1 = iz st) (hc : CS M S) (hb : scB S) {x y : Int} (x1 : -2147483648 ≤ x) (x2 : x < 2147483648) (y1 : -2147483648 ≤ y) (y2 : y < 2147483648) : (((0 ≤ x ∧ x < sW S 0) ∧ (0 ≤ y ∧ y < sW S 1)) ∧ ∀ f : am_M → am_R, ∀ v : Int32, fR M 0 12 2 (fun b1 => cv M b1 9 (bI (F_Scen_isCell b1 0 (iz x) M) (fun r3 M2 => if r3 = 0 then some (some (.int v), M2) else fR M2 0 12 2 (fun b4 => cv M2 b4 9 (bI (F_Scen_isCell b4 1 (iz y) M2) (fun r6 M5 => if r6 = 0 then some (some (.int v), M5) else f M5)))))) = f M) ∨ (¬ ((0 ≤ x ∧ x < sW S 0) ∧ (0 ≤ y ∧ y < sW S 1)) ∧ ∀ f : am_M → am_R, ∀ v : Int32, fR M 0 12 2 (fun b1 => cv M b1 9 (bI (F_Scen_isCell b1 0 (iz x) M) (fun r3 M2 => if r3 = 0 then some (some (.int v), M2) else fR M2 0 12 2 (fun b4 => cv M2 b4 9 (bI (F_Scen_isCell b4 1 (iz y) M2) (fun r6 M5 => if r6 = 0 then some (some (.int v), M5) else f M5)))))) = some (some (.int v), M)) := by
  have h := hI.1
  have w0 := cIsC h hc (i := 0) (by omega) (by omega) (hb.2.2.2 0 (by omega) (by omega)) x1 x2
  have w1 := cIsC h hc (i := 1) (by omega) (by omega) (hb.2.2.2 1 (by omega) (by omega)) y1 y2
  have e0 : (0 : Int32) = iz 0 := rfl
  have e1 : (1 : Int32) = iz 1 := rfl
  by_cases q1 : 0 ≤ x ∧ x < sW S 0
  · rw [bz_t q1] at w0
    by_cases q2 : 0 ≤ y ∧ y < sW S 1
    · rw [bz_t q2] at w1
      refine Or.inl ⟨⟨q1, q2⟩, fun f v => ?_⟩
      rw [fR_eq (kd_0 h) (rr_0_2 h), cv_eq (kd_2 h), e0, e1, w0, bI_eq, if_neg (by decide), fR_eq (kd_0 h) (rr_0_2 h), cv_eq (kd_2 h), w1, bI_eq, if_neg (by decide)]
    · rw [bz_f q2] at w1
      refine Or.inr ⟨fun z => q2 z.2, fun f v => ?_⟩
      rw [fR_eq (kd_0 h) (rr_0_2 h), cv_eq (kd_2 h), e0, e1, w0, bI_eq, if_neg (by decide), fR_eq (kd_0 h) (rr_0_2 h), cv_eq (kd_2 h), w1, bI_eq, if_pos (by decide)]
  · rw [bz_f q1] at w0
    refine Or.inr ⟨fun z => q1 z.1, fun f v => ?_⟩
    rw [fR_eq (kd_0 h) (rr_0_2 h), cv_eq (kd_2 h), e0, w0, bI_eq, if_pos (by decide)]
end FrTop
