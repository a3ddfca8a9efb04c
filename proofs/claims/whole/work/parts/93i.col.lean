/-! ===== columns of a frame ===== -/
section FrCol
variable {M M0 M1 : am_M} {S : Sc} {t : Int} {L O : List Int}
/-- the cells' columns, as the reference lays them -/
def CF (M : am_M) (S : Sc) (t : Int) (L : List Int) (m : Nat) : Prop := ∀ (i : Nat) c, i < m → L[i]? = some c → rI M 85 i = iz (pz S t c 0 / 8) ∧ rI M 86 i = iz (pz S t c 1 / 8)
theorem mColsL (hk : scOK S) : ∀ (r n i : Nat) (M : am_M), MG M0 M S t L → CF M S t L i → i + r = L.length → r < n → ∃ M', F_Md_laysColumns_L2 n 70 (iz t) (iz (i : Int)) M = some (none, M') ∧ MG M0 M' S t L ∧ CF M' S t L L.length
  | r, 0, i, M, hG, hC, q1, q2 => by omega
  | 0, n + 1, i, M, hG, hC, q1, q2 => by
    have ln := md_len hk hG.2.2.2.1
    have e : i = L.length := by omega
    subst e
    refine ⟨M, ?_, hG, hC⟩
    rw [F_Md_laysColumns_L2, md_l hG.1 hG.2.2.2.1, ifE (by omega) (by omega) (by omega) (by omega), if_pos (Int.le_refl _)]
  | r + 1, n + 1, i, M, hG, hC, q1, q2 => by
    have ln := md_len hk hG.2.2.2.1
    have il : i < L.length := by omega
    have hi : L[i]? = some L[i] := List.getElem?_eq_getElem il
    generalize L[i] = c at hi
    have fi := (md_in hG.2.2.2.1 hi).1
    obtain ⟨M1, e1, g1, f1, l1⟩ := mLay1 hk hG hi
    have p0 := pz_b3 hk fi (i := 0) (by omega) (by omega)
    have p1 := pz_b3 hk fi (i := 1) (by omega) (by omega)
    have f2 : Fr AGf M1 (wI M1 85 i (iz (pz S t c 0 / 8))) := Fr.wI (Or.inr (Or.inl rfl))
    have g2 := g1.q f2
    have l2 : MdL (wI M1 85 i (iz (pz S t c 0 / 8))) (lay S c) := by
      obtain ⟨⟨z1, z2, z3⟩, z4, z5⟩ := l1
      exact ⟨⟨by rw [rI_ne (by omega)]; exact z1, fun j j1 j2 => by rw [rI_ne (by omega)]; exact z2 j j1 j2, fun j j1 j2 => by rw [rI_ne (by omega)]; exact z3 j j1 j2⟩, by rw [rI_ne (by omega)]; exact z4, by rw [rI_ne (by omega)]; exact z5⟩
    have f3 : Fr AGf (wI M1 85 i (iz (pz S t c 0 / 8))) (wI (wI M1 85 i (iz (pz S t c 0 / 8))) 86 i (iz (pz S t c 1 / 8))) := Fr.wI (Or.inr (Or.inr (Or.inl rfl)))
    have g3 := g2.q f3
    obtain ⟨M', e4, g4, c4⟩ := mColsL hk r n (i + 1) _ g3 (fun j d hj hd => by
      by_cases e : j = i
      · subst e
        rw [hi] at hd
        have ed : c = d := by simpa using hd
        rw [← ed, rI_ne (by omega), rI_at rfl rfl, rI_at rfl rfl]
        exact ⟨rfl, rfl⟩
      · rw [rI_ne (by omega), rI_ne (by omega), rI_ne (by omega), rI_ne (by omega), f1.ri (fun q => by unfold ALd at q; omega), f1.ri (fun q => by unfold ALd at q; omega)]
        exact hC j d (by omega) hd) (by omega) (by omega)
    refine ⟨M', ?_, g4, c4⟩
    rw [F_Md_laysColumns_L2, md_l hG.1 hG.2.2.2.1, ifE (by omega) (by omega) (by omega) (by omega), if_neg (by omega), cv_eq (kd_70 hG.1), mCode hG.1 hk hG.2.2.2.1 hi, bI_eq, cv_eq (kd_70 hG.1), e1, bV_eq, fR_eq (kd_70 g1.1) (rr_70_36 g1.1), fI_eq (kd_70 g1.1), l1.2.1, cv_eq (kd_70 g1.1), iz_sub, show (0 : Int32) = iz 0 from rfl, mdPl g1.1 g1.2.1 hk fi.1 l1 fi.2.1 fi.2.2 (by omega) (by omega), bI_eq, show (8 : Int32) = iz 8 from rfl, iz_ediv (by omega) (by omega) (by omega) (by omega), tI_eq (kd_85 g1.1) (ln_85 g1.1) (by omega) (by omega) (by omega), show ((i : Int)).toNat = i by omega, fR_eq (kd_70 g2.1) (rr_70_37 g2.1), fI_eq (kd_70 g2.1), l2.2.1, cv_eq (kd_70 g2.1), iz_sub, show (1 : Int32) = iz 1 from rfl, mdPl g2.1 g2.2.1 hk fi.1 l2 fi.2.1 fi.2.2 (by omega) (by omega), bI_eq, iz_ediv (by omega) (by omega) (by omega) (by omega), tI_eq (kd_86 g2.1) (ln_86 g2.1) (by omega) (by omega) (by omega), show ((i : Int)).toNat = i by omega, nm_eq, iz_add, show ((i : Int) + 1) = ((i + 1 : Nat) : Int) by omega]
    exact e4
theorem mCols (hk : scOK S) (hG : MG M0 M S t L) : ∃ M', F_Md_laysColumns 70 (iz t) M = some (none, M') ∧ MG M0 M' S t L ∧ CF M' S t L L.length := by
  have fg := fu_ge
  have ln := md_len hk hG.2.2.2.1
  exact mColsL hk L.length fu 0 M hG (fun i c hi => by omega) (by omega) (by omega)
/-- in a column -/
def icp (S : Sc) (t x y c : Int) : Prop := pz S t c 0 / 8 = x ∧ pz S t c 1 / 8 = y
theorem cInCol (h : SH M) (ha : FrA M) (hk : scOK S) (hK : FrK M S t L O) {i : Nat} {c x y : Int} (hi : L[i]? = some c) (x1 : -2147483648 ≤ x) (x2 : x < 2147483648) (y1 : -2147483648 ≤ y) (y2 : y < 2147483648) : Gd (F_Fram_isInColumn 45 (iz (i : Int)) (iz x) (iz y)) M (icp S t x y c) := by
  have fi := (fr_in hK hi).1
  have p0 := pz_b3 hk fi (i := 0) (by omega) (by omega)
  have p1 := pz_b3 hk fi (i := 1) (by omega) (by omega)
  unfold Gd F_Fram_isInColumn icp
  rw [cv_eq (kd_45 h), show (0 : Int32) = iz 0 from rfl, show (1 : Int32) = iz 1 from rfl, cPlOf h ha hk hK hi (by omega) (by omega), bI_eq, show (8 : Int32) = iz 8 from rfl, iz_ediv (by omega) (by omega) (by omega) (by omega), ifQ (by omega) (by omega) x1 x2, cv_eq (kd_45 h), cPlOf h ha hk hK hi (by omega) (by omega), bI_eq, iz_ediv (by omega) (by omega) (by omega) (by omega), ifQ (by omega) (by omega) y1 y2]
  by_cases q1 : pz S t c 0 / 8 = x
  · rw [if_pos q1]
    by_cases q2 : pz S t c 1 / 8 = y
    · rw [if_pos q2]; exact Or.inl ⟨⟨q1, q2⟩, rfl⟩
    · rw [if_neg q2]; exact Or.inr ⟨fun z => q2 z.2, rfl⟩
  · rw [if_neg q1]; exact Or.inr ⟨fun z => q1 z.1, rfl⟩
/-- the reference's count of a column, from where its guards are through -/
theorem mInCL (hk : scOK S) {x y : Int} (x1 : -2147483648 ≤ x) (x2 : x < 2147483648) (y1 : -2147483648 ≤ y) (y2 : y < 2147483648) (hG : MG M0 M S t L) (hC : CF M S t L L.length) : F_Md_inColumn_L36 fu 70 (iz x) (iz y) (iz 0) (iz 0) M = some (some (.int (iz (cnt (icp S t x y) L))), M) := by
  have ln := md_len hk hG.2.2.2.1
  have h := hG.1
  obtain ⟨e, -⟩ := cFold (M1 := M) (L := L) (fun n (w : Int) i M => F_Md_inColumn_L36 n 70 (iz x) (iz y) (iz w) i M) (fun w M => some (some (.int (iz w)), M)) (fun _ => True) (cst (icp S t x y)) (fun n w _ => by
    show F_Md_inColumn_L36 (n + 1) 70 (iz x) (iz y) (iz w) (iz (L.length : Int)) M = _
    rw [F_Md_inColumn_L36, md_l h hG.2.2.2.1, ifE (by omega) (by omega) (by omega) (by omega), if_pos (Int.le_refl _)]) (fun n w i c _ hi => by
    have fi := (md_in hG.2.2.2.1 hi).1
    have il := (md_in hG.2.2.2.1 hi).2
    have p0 := pz_b3 hk fi (i := 0) (by omega) (by omega)
    have p1 := pz_b3 hk fi (i := 1) (by omega) (by omega)
    obtain ⟨r0, r1⟩ := hC i c il hi
    refine ⟨?_, trivial⟩
    show F_Md_inColumn_L36 (n + 1) 70 (iz x) (iz y) (iz w) (iz (i : Int)) M = F_Md_inColumn_L36 n 70 (iz x) (iz y) (iz (cst (icp S t x y) w c)) (iz ((i + 1 : Nat) : Int)) M
    rw [F_Md_inColumn_L36, md_l h hG.2.2.2.1, ifE (by omega) (by omega) (by omega) (by omega), if_neg (by omega), fR_eq (kd_70 h) (rr_70_36 h), aI_eq (kd_85 h) (ln_85 h) (by omega) (by omega) (by omega), show ((i : Int)).toNat = i by omega, r0, ifQ (by omega) (by omega) x1 x2, fR_eq (kd_70 h) (rr_70_37 h), aI_eq (kd_86 h) (ln_86 h) (by omega) (by omega) (by omega), show ((i : Int)).toNat = i by omega, r1, ifQ (by omega) (by omega) y1 y2, show (0 : Int32) = iz 0 from rfl, show (1 : Int32) = iz 1 from rfl, iz_add, iz_add, iz_add, nm_eq, nm_eq, nm_eq, Int.add_zero, show ((i : Int) + 1) = ((i + 1 : Nat) : Int) by omega]
    by_cases q1 : pz S t c 0 / 8 = x
    · rw [if_pos q1]
      by_cases q2 : pz S t c 1 / 8 = y
      · rw [if_pos q2, cst_t ⟨q1, q2⟩]
      · rw [if_neg q2, cst_f (fun z => q2 z.2)]; rfl
    · rw [if_neg q1, cst_f (fun z => q1 z.1)]; rfl) (by omega) 0 trivial
  rw [foldl_cst] at e
  exact e
/-- the reference's inColumn, where it is asked well -/
theorem mInCol (h : SH M) (hS : Sc1 M S) (t1 : 0 ≤ t) (t2 : t ≤ 30000) {x y : Int} (hx : 0 ≤ x ∧ x < sW S 0) (hy : 0 ≤ y ∧ y < sW S 1) : ∃ M', F_Md_inColumn 70 (iz t) (iz x) (iz y) M = some (some (.int (iz (cnt (icp S t x y) (wkl S t (t + 1))))), M') ∧ Fr ASc M M' := by
  have hk := hS.1
  have w0 := hk.1 0 (by omega) (by omega)
  have w1 := hk.1 1 (by omega) (by omega)
  have tk := mTick h hS (t := t) (by omega) (by omega)
  rw [bz_t ⟨t1, t2⟩] at tk
  obtain ⟨M1, L, e1, g1⟩ := mGth h hS t1 t2
  obtain ⟨M2, e2, g2, c2⟩ := mCols hk g1
  refine ⟨M2, ?_, g2.2.2.2.2⟩
  unfold F_Md_inColumn
  rw [cv_eq (kd_70 h), tk, bI_eq, if_neg (by decide), cv_eq (kd_70 h)]
  rcases mCol h hS.2.2.2.2.1 hk.b (x := x) (y := y) (by omega) (by omega) (by omega) (by omega) with ⟨q, e⟩ | ⟨q, e⟩
  · rw [e, bI_eq, if_neg (by decide), cv_eq (kd_70 h), e1, bV_eq, cv_eq (kd_70 g1.1), e2, bV_eq, show (0 : Int32) = iz 0 from rfl, mInCL hk (by omega) (by omega) (by omega) (by omega) g2 c2, cnt_perm _ (gf_perm g2.2.2.2.1 (wkl_FL hk t))]
  · exact absurd ⟨hx, hy⟩ q
end FrCol
