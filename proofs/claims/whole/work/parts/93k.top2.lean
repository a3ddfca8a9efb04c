/-! ===== drawn, inColumn, top, below: both ===== -/
section FrTop2
variable {M : am_M}
theorem ap_drawn (hI : Inv M) (p1 p2 : Int32) : Ag (F_NS_drawn 0 p1 p2) (F_Md_drawn 70 p1 p2) M := by
  obtain ⟨h, -⟩ := id hI
  obtain ⟨S, st, s01, s1, s2, hc, hm, hb, hs, h0⟩ := hI.sc
  obtain ⟨o, o1, o2, rfl⟩ := iz_of p2
  have hMd0 : ∀ M', SH M' → F_Md_isTick 70 p1 M' = some (some (.int (iz 0)), M') → F_Md_drawn 70 p1 (iz o) M' = some (some (.int (-2)), M') := fun M' h' e => by
    unfold F_Md_drawn; rw [cv_eq (kd_70 h'), e, bI_eq, if_pos (by decide)]
  have hMg : ∀ M', SH M' → F_Md_isTick 70 p1 M' = some (some (.int (iz 1)), M') → F_Md_drawn 70 p1 (iz o) M' = if 0 ≤ o then bV (F_Md_laysFrame 70 p1 M') (fun M3 => fI M3 70 13 34 (fun x4 => if x4 ≤ iz o then some (some (.int (-1)), M3) else cv M3 70 13 (bI (F_Md_codeAt 70 (iz o) M3) (fun r6 M5 => some (some (.int r6), M5))))) else some (some (.int (-2)), M') := fun M' h' e => by
    unfold F_Md_drawn; rw [cv_eq (kd_70 h'), e, bI_eq, if_neg (by decide), show (0 : Int32) = iz 0 from rfl, ifE (by omega) (by omega) o1 o2, cv_eq (kd_70 h')]
  have hNg : F_NS_drawn 0 p1 (iz o) M = if o < 0 then some (some (.int (-2)), M) else bI (F_Fram_shows 45 p1 M) (fun r3 M2 => if r3 = 0 then some (some (.int (-2)), M2) else fR M2 0 12 7 (fun b4 => fI M2 b4 5 2 (fun x5 => if x5 ≤ iz o then some (some (.int (-1)), M2) else fR M2 0 12 7 (fun b6 => fR M2 0 12 7 (fun b7 => cv M2 b7 5 (bI (F_Fram_rowAt b7 (iz o) M2) (fun r9 M8 => cv M8 b6 5 (bI (F_Fram_codeOf b6 r9 M8) (fun r11 M10 => some (some (.int r11), M10)))))))))) := by
    unfold F_NS_drawn
    rw [show (0 : Int32) = iz 0 from rfl, ifL o1 o2 (by omega) (by omega), fR_eq (kd_0 h) (rr_0_7 h), cv_eq (kd_45 h)]
  by_cases g : 0 ≤ o
  rotate_left
  · refine ap_no (mk := Value.int) (v0 := -2) hI ?_ ?_
    · rw [hNg, if_pos (by omega)]
    · rcases mTk hI s01 s2 hs p1 with e | ⟨e0, e⟩
      · exact hMd0 M h e
      · rw [hMg M h e, if_neg g]
  rw [if_neg (by omega)] at hNg
  refine ap_frm (mk := Value.int) (v0 := -2) (p := p1) (D := fun M' => bV (F_Md_laysFrame 70 p1 M') (fun M3 => fI M3 70 13 34 (fun x4 => if x4 ≤ iz o then some (some (.int (-1)), M3) else cv M3 70 13 (bI (F_Md_codeAt 70 (iz o) M3) (fun r6 M5 => some (some (.int r6), M5)))))) hI s01 s1 s2 hs hNg hMd0 (fun M' h' c' e => by rw [hMg M' h' e, if_pos g]) (fun t M1 L O pt t1 t2 i1 c1 k1 => ?_)
  have hk := c1.1
  have h1 := i1.1
  have a1 := i1.2.1
  have ll := fr_len hk k1
  have ol := FO_len k1.1 k1.2.1
  subst pt
  obtain ⟨M2, e2, g2⟩ := mFrame h1 c1 t1 t2 k1.2.1
  by_cases q : (L.length : Int) ≤ o
  · refine ⟨-1, M1, M2, ?_, h1, c1, ?_, i1.q g2.2.2.2.2⟩
    · show fR M1 0 12 7 _ = _
      rw [fR_eq (kd_0 h1) (rr_0_7 h1), fr_l h1 k1, ifE (by omega) (by omega) (by omega) (by omega), if_pos q]
    · show bV (F_Md_laysFrame 70 (iz t) M1) _ = _
      rw [e2, bV_eq, md_l g2.1 g2.2.2.2.1, ol, ifE (by omega) (by omega) (by omega) (by omega), if_pos q]
  · obtain ⟨i, hi⟩ : ∃ i : Nat, o = (i : Int) := ⟨o.toNat, by omega⟩
    subst hi
    have hi : O[i]? = some O[i] := List.getElem?_eq_getElem (by omega)
    generalize O[i] = c at hi
    obtain ⟨j, j1, j2⟩ := fr_o h1 a1 k1 hi
    refine ⟨iz c, M1, M2, ?_, h1, c1, ?_, i1.q g2.2.2.2.2⟩
    · show fR M1 0 12 7 _ = _
      rw [fR_eq (kd_0 h1) (rr_0_7 h1), fr_l h1 k1, ifE (by omega) (by omega) (by omega) (by omega), if_neg q, fR_eq (kd_0 h1) (rr_0_7 h1), fR_eq (kd_0 h1) (rr_0_7 h1), cv_eq (kd_45 h1), j2, bI_eq, cv_eq (kd_45 h1), fr_cd h1 a1 k1 j1, bI_eq]
    · show bV (F_Md_laysFrame 70 (iz t) M1) _ = _
      rw [e2, bV_eq, md_l g2.1 g2.2.2.2.1, ol, ifE (by omega) (by omega) (by omega) (by omega), if_neg q, cv_eq (kd_70 g2.1), mCode g2.1 hk g2.2.2.2.1 hi, bI_eq]
theorem ap_inColumn (hI : Inv M) (p1 p2 p3 : Int32) : Ag (F_NS_inColumn 0 p1 p2 p3) (F_Md_inColumn 70 p1 p2 p3) M := by
  obtain ⟨h, -⟩ := id hI
  obtain ⟨S, st, s01, s1, s2, hc, hm, hb, hs, h0⟩ := hI.sc
  obtain ⟨x, x1, x2, rfl⟩ := iz_of p2
  obtain ⟨y, y1, y2, rfl⟩ := iz_of p3
  have hMd0 : ∀ M', SH M' → F_Md_isTick 70 p1 M' = some (some (.int (iz 0)), M') → F_Md_inColumn 70 p1 (iz x) (iz y) M' = some (some (.int (-2)), M') := fun M' h' e => by
    unfold F_Md_inColumn; rw [cv_eq (kd_70 h'), e, bI_eq, if_pos (by decide)]
  rcases gCol hI s01 s2 hc hb x1 x2 y1 y2 with ⟨g, gc⟩ | ⟨g, gc⟩
  rotate_left
  · refine ap_no (mk := Value.int) (v0 := -2) hI ?_ ?_
    · unfold F_NS_inColumn; exact gc _ _
    · rcases mTk hI s01 s2 hs p1 with e | ⟨e0, e⟩
      · exact hMd0 M h e
      · unfold F_Md_inColumn
        rw [cv_eq (kd_70 h), e, bI_eq, if_neg (by decide), cv_eq (kd_70 h)]
        rcases mCol h hm hb x1 x2 y1 y2 with ⟨q, e2⟩ | ⟨q, e2⟩
        · exact absurd q g
        · rw [e2, bI_eq, if_pos (by decide)]
  refine ap_frm (mk := Value.int) (v0 := -2) (p := p1) (B := fun M8 => F_NS_inColumn_L44 fu 0 (iz x) (iz y) (iz 0) (iz 0) M8) (D := fun M' => F_Md_inColumn 70 p1 (iz x) (iz y) M') hI s01 s1 s2 hs ?_ hMd0 (fun M' h' c' e => rfl) (fun t M1 L O pt t1 t2 i1 c1 k1 => ?_)
  · unfold F_NS_inColumn
    refine (gc _ _).trans ?_
    rw [fR_eq (kd_0 h) (rr_0_7 h), cv_eq (kd_45 h)]; rfl
  have hk := c1.1
  have h1 := i1.1
  have a1 := i1.2.1
  have ll := fr_len hk k1
  subst pt
  obtain ⟨M2, e2, f2⟩ := mInCol h1 c1 t1 t2 g.1 g.2
  obtain ⟨eC, -⟩ := cFold (M1 := M1) (L := L) (fun n (w : Int) i M => F_NS_inColumn_L44 n 0 (iz x) (iz y) (iz w) i M) (fun w M => some (some (.int (iz w)), M)) (fun _ => True) (cst (icp S t x y)) (fun n w _ => by
    show F_NS_inColumn_L44 (n + 1) 0 (iz x) (iz y) (iz w) (iz (L.length : Int)) M1 = _
    rw [F_NS_inColumn_L44, fR_eq (kd_0 h1) (rr_0_7 h1), fr_l h1 k1, ifE (by omega) (by omega) (by omega) (by omega), if_pos (Int.le_refl _)]) (fun n w i c _ hi => by
    have il := (fr_in k1 hi).2
    refine ⟨?_, trivial⟩
    show F_NS_inColumn_L44 (n + 1) 0 (iz x) (iz y) (iz w) (iz (i : Int)) M1 = F_NS_inColumn_L44 n 0 (iz x) (iz y) (iz (cst (icp S t x y) w c)) (iz ((i + 1 : Nat) : Int)) M1
    rw [F_NS_inColumn_L44, fR_eq (kd_0 h1) (rr_0_7 h1), fr_l h1 k1, ifE (by omega) (by omega) (by omega) (by omega), if_neg (by omega), fR_eq (kd_0 h1) (rr_0_7 h1), cv_eq (kd_45 h1)]
    rcases cInCol h1 a1 hk k1 hi x1 x2 y1 y2 with ⟨q, e⟩ | ⟨q, e⟩
    · rw [e, bI_eq, if_neg (by decide), show (1 : Int32) = iz 1 from rfl, iz_add, iz_add, nm_eq, nm_eq, cst_t q, show ((i : Int) + 1) = ((i + 1 : Nat) : Int) by omega]
    · rw [e, bI_eq, if_pos (by decide), show (1 : Int32) = iz 1 from rfl, iz_add, nm_eq, cst_f q, show ((i : Int) + 1) = ((i + 1 : Nat) : Int) by omega]) (by omega) 0 trivial
  rw [foldl_cst] at eC
  have wf := wkl_FL hk t
  have pm : (wkl S t (t + 1)).Perm L := (List.perm_ext_iff_of_nodup (pw_nd wf.1) (pw_nd k1.1.1)).mpr (fun c => by rw [wf.2, k1.1.2])
  rw [cnt_perm _ pm] at e2
  exact ⟨iz (cnt (icp S t x y) L), M1, M2, eC, h1, c1, e2, i1.q f2⟩
theorem ap_top (hI : Inv M) (p1 p2 p3 : Int32) : Ag (F_NS_top 0 p1 p2 p3) (F_Md_top 70 p1 p2 p3) M := by
  obtain ⟨h, -⟩ := id hI
  obtain ⟨S, st, s01, s1, s2, hc, hm, hb, hs, h0⟩ := hI.sc
  obtain ⟨x, x1, x2, rfl⟩ := iz_of p2
  obtain ⟨y, y1, y2, rfl⟩ := iz_of p3
  have hMd0 : ∀ M', SH M' → F_Md_isTick 70 p1 M' = some (some (.int (iz 0)), M') → F_Md_top 70 p1 (iz x) (iz y) M' = some (some (.int (-2)), M') := fun M' h' e => by
    unfold F_Md_top; rw [cv_eq (kd_70 h'), e, bI_eq, if_pos (by decide)]
  rcases gCol hI s01 s2 hc hb x1 x2 y1 y2 with ⟨g, gc⟩ | ⟨g, gc⟩
  rotate_left
  · refine ap_no (mk := Value.int) (v0 := -2) hI ?_ ?_
    · unfold F_NS_top; exact gc _ _
    · rcases mTk hI s01 s2 hs p1 with e | ⟨e0, e⟩
      · exact hMd0 M h e
      · unfold F_Md_top
        rw [cv_eq (kd_70 h), e, bI_eq, if_neg (by decide), cv_eq (kd_70 h)]
        rcases mCol h hm hb x1 x2 y1 y2 with ⟨q, e2⟩ | ⟨q, e2⟩
        · exact absurd q g
        · rw [e2, bI_eq, if_pos (by decide)]
  refine ap_frm (mk := Value.int) (v0 := -2) (p := p1) (B := fun M8 => fR M8 0 12 7 (fun b10 => cv M8 b10 5 (bI (F_Fram_fromTop b10 (iz x) (iz y) 0 M8) (fun r12 M11 => some (some (.int r12), M11))))) (D := fun M' => F_Md_top 70 p1 (iz x) (iz y) M') hI s01 s1 s2 hs ?_ hMd0 (fun M' h' c' e => rfl) (fun t M1 L O pt t1 t2 i1 c1 k1 => ?_)
  · unfold F_NS_top
    refine (gc _ _).trans ?_
    rw [fR_eq (kd_0 h) (rr_0_7 h), cv_eq (kd_45 h)]
  have hk := c1.1
  have h1 := i1.1
  have a1 := i1.2.1
  subst pt
  obtain ⟨M2, e2, g2⟩ := mFrame h1 c1 t1 t2 k1.2.1
  obtain ⟨M3, e3, g3, c3⟩ := mCols hk g2
  have tk := mTick h1 c1 (t := t) (by omega) (by omega)
  rw [bz_t ⟨t1, t2⟩] at tk
  refine ⟨iz (kth (icp S t x y) 0 O.reverse), M1, M3, ?_, h1, c1, ?_, i1.q g3.2.2.2.2⟩
  · show fR M1 0 12 7 _ = _
    rw [fR_eq (kd_0 h1) (rr_0_7 h1), cv_eq (kd_45 h1), show (0 : Int32) = iz 0 from rfl, cFrom h1 a1 hk k1 x1 x2 y1 y2 (by omega) (by omega), bI_eq]
  · show F_Md_top 70 (iz t) (iz x) (iz y) M1 = _
    unfold F_Md_top
    rw [cv_eq (kd_70 h1), tk, bI_eq, if_neg (by decide), cv_eq (kd_70 h1)]
    rcases mCol h1 c1.2.2.2.2.1 hb x1 x2 y1 y2 with ⟨q, e4⟩ | ⟨q, e4⟩
    · rw [e4, bI_eq, if_neg (by decide), cv_eq (kd_70 h1), e2, bV_eq, cv_eq (kd_70 g2.1), e3, bV_eq, cv_eq (kd_70 g3.1)]
      rcases mTopOf hk g3 c3 x1 x2 y1 y2 with ⟨z1, z2⟩ | ⟨j, c, z1, z2, z3⟩
      · rw [z1, bI_eq, if_pos (by decide), z2]; rfl
      · have jl := (md_in g3.2.2.2.1 z2).2
        have ll := md_len hk g3.2.2.2.1
        rw [z1, bI_eq, show (-1 : Int32) = iz (-1) from rfl, ifQ (by omega) (by omega) (by omega) (by omega), if_neg (by omega), cv_eq (kd_70 g3.1), mCode g3.1 hk g3.2.2.2.1 z2, bI_eq, z3]
    · exact absurd g q
theorem ap_below (hI : Inv M) (p1 p2 p3 p4 : Int32) : Ag (F_NS_below 0 p1 p2 p3 p4) (F_Md_below 70 p1 p2 p3 p4) M := by
  obtain ⟨h, -⟩ := id hI
  obtain ⟨S, st, s01, s1, s2, hc, hm, hb, hs, h0⟩ := hI.sc
  obtain ⟨x, x1, x2, rfl⟩ := iz_of p2
  obtain ⟨y, y1, y2, rfl⟩ := iz_of p3
  obtain ⟨k, z1, z2, rfl⟩ := iz_of p4
  have hMd0 : ∀ M', SH M' → F_Md_isTick 70 p1 M' = some (some (.int (iz 0)), M') → F_Md_below 70 p1 (iz x) (iz y) (iz k) M' = some (some (.int (-2)), M') := fun M' h' e => by
    unfold F_Md_below; rw [cv_eq (kd_70 h'), e, bI_eq, if_pos (by decide)]
  have hMg : ∀ M', SH M' → MS M' S → F_Md_isTick 70 p1 M' = some (some (.int (iz 1)), M') → ((((0 ≤ x ∧ x < sW S 0) ∧ (0 ≤ y ∧ y < sW S 1)) ∧ 0 ≤ k) ∧ F_Md_below 70 p1 (iz x) (iz y) (iz k) M' = cv M' 70 13 (bV (F_Md_laysFrame 70 p1 M') (fun M5 => cv M5 70 13 (bV (F_Md_laysColumns 70 p1 M5) (fun M6 => fI M6 70 13 34 (fun x7 => nm (x7 - 1) (fun x8 => F_Md_below_L47 fu 70 (iz x) (iz y) (iz k) x8 M6))))))) ∨ (¬ (((0 ≤ x ∧ x < sW S 0) ∧ (0 ≤ y ∧ y < sW S 1)) ∧ 0 ≤ k) ∧ F_Md_below 70 p1 (iz x) (iz y) (iz k) M' = some (some (.int (-2)), M')) := fun M' h' m' e => by
    unfold F_Md_below
    rw [cv_eq (kd_70 h'), e, bI_eq, if_neg (by decide), cv_eq (kd_70 h')]
    rcases mCol h' m' hb x1 x2 y1 y2 with ⟨q, e2⟩ | ⟨q, e2⟩
    · rw [e2, bI_eq, if_neg (by decide), show (0 : Int32) = iz 0 from rfl, ifE (by omega) (by omega) z1 z2]
      by_cases q2 : 0 ≤ k
      · rw [if_pos q2]; exact Or.inl ⟨⟨q, q2⟩, rfl⟩
      · rw [if_neg q2]; exact Or.inr ⟨fun w => q2 w.2, rfl⟩
    · rw [e2, bI_eq, if_pos (by decide)]; exact Or.inr ⟨fun w => q w.1, rfl⟩
  have no : ¬ (((0 ≤ x ∧ x < sW S 0) ∧ (0 ≤ y ∧ y < sW S 1)) ∧ 0 ≤ k) → F_Md_below 70 p1 (iz x) (iz y) (iz k) M = some (some (.int (-2)), M) := fun g => by
    rcases mTk hI s01 s2 hs p1 with e | ⟨e0, e⟩
    · exact hMd0 M h e
    · rcases hMg M h hm e with ⟨q, -⟩ | ⟨-, q⟩
      · exact absurd q g
      · exact q
  by_cases gk : k < 0
  · refine ap_no (mk := Value.int) (v0 := -2) hI ?_ (no (fun z => by omega))
    unfold F_NS_below; rw [show (0 : Int32) = iz 0 from rfl, ifL z1 z2 (by omega) (by omega), if_pos gk]
  rcases gCol hI s01 s2 hc hb x1 x2 y1 y2 with ⟨g, gc⟩ | ⟨g, gc⟩
  rotate_left
  · refine ap_no (mk := Value.int) (v0 := -2) hI ?_ (no (fun z => g z.1))
    unfold F_NS_below; rw [show (0 : Int32) = iz 0 from rfl, ifL z1 z2 (by omega) (by omega), if_neg gk]; exact gc _ _
  refine ap_frm (mk := Value.int) (v0 := -2) (p := p1) (B := fun M8 => fR M8 0 12 7 (fun b10 => cv M8 b10 5 (bI (F_Fram_fromTop b10 (iz x) (iz y) (iz k) M8) (fun r12 M11 => some (some (.int r12), M11))))) (D := fun M' => cv M' 70 13 (bV (F_Md_laysFrame 70 p1 M') (fun M5 => cv M5 70 13 (bV (F_Md_laysColumns 70 p1 M5) (fun M6 => fI M6 70 13 34 (fun x7 => nm (x7 - 1) (fun x8 => F_Md_below_L47 fu 70 (iz x) (iz y) (iz k) x8 M6))))))) hI s01 s1 s2 hs ?_ hMd0 (fun M' h' c' e => ?_) (fun t M1 L O pt t1 t2 i1 c1 k1 => ?_)
  · unfold F_NS_below
    rw [show (0 : Int32) = iz 0 from rfl, ifL z1 z2 (by omega) (by omega), if_neg gk]
    refine (gc _ _).trans ?_
    rw [fR_eq (kd_0 h) (rr_0_7 h), cv_eq (kd_45 h)]
  · rcases hMg M' h' c'.2.2.2.2.1 e with ⟨-, q⟩ | ⟨q, -⟩
    · exact q
    · exact absurd ⟨g, by omega⟩ q
  have hk := c1.1
  have h1 := i1.1
  have a1 := i1.2.1
  have fg := fu_ge
  subst pt
  obtain ⟨M2, e2, g2⟩ := mFrame h1 c1 t1 t2 k1.2.1
  obtain ⟨M3, e3, g3, c3⟩ := mCols hk g2
  have ll := md_len hk g3.2.2.2.1
  have e4 := mBelL hk g3 c3 x1 x2 y1 y2 O.length fu k (by omega) z2 (Nat.le_refl _) (by omega)
  rw [List.take_of_length_le (Nat.le_refl _)] at e4
  refine ⟨iz (kth (icp S t x y) k O.reverse), M1, M3, ?_, h1, c1, ?_, i1.q g3.2.2.2.2⟩
  · show fR M1 0 12 7 _ = _
    rw [fR_eq (kd_0 h1) (rr_0_7 h1), cv_eq (kd_45 h1), cFrom h1 a1 hk k1 x1 x2 y1 y2 (by omega) z2, bI_eq]
  · show cv M1 70 13 _ = _
    rw [cv_eq (kd_70 h1), e2, bV_eq, cv_eq (kd_70 g2.1), e3, bV_eq, md_l g3.1 g3.2.2.2.1, nm_eq, show (1 : Int32) = iz 1 from rfl, iz_sub]
    exact e4
end FrTop2
