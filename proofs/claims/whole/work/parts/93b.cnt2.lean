/-! ===== counted in a frame: many, colours, within ===== -/
section FrCnt2
variable {M : am_M}
theorem cCol {S : Sc} (h : SH M) (hc : CS M S) (c : Int) : F_Scen_colourOf 2 (iz c) M = some (some (.int (iz (dr S c 5 8))), M) := by
  unfold F_Scen_colourOf
  rw [cv_eq (kd_2 h), show (5 : Int32) = iz 5 from rfl, show (8 : Int32) = iz 8 from rfl, cDraw h hc c 5 (by omega) (by omega), bI_eq]
theorem ap_colours (hI : Inv M) (p1 p2 : Int32) : Ag (F_NS_colours 0 p1 p2) (F_Md_colours 70 p1 p2) M := by
  obtain ⟨h, -⟩ := id hI
  obtain ⟨S, st, s01, s1, s2, hc, hm, hb, hs, h0⟩ := hI.sc
  obtain ⟨o, o1, o2, rfl⟩ := iz_of p2
  have hMd0 : ∀ M', SH M' → F_Md_isTick 70 p1 M' = some (some (.int (iz 0)), M') → F_Md_colours 70 p1 (iz o) M' = some (some (.int (-2)), M') := fun M' h' e => by
    unfold F_Md_colours; rw [cv_eq (kd_70 h'), e, bI_eq, if_pos (by decide)]
  have hMg : ∀ M', SH M' → F_Md_isTick 70 p1 M' = some (some (.int (iz 1)), M') → F_Md_colours 70 p1 (iz o) M' = if 0 ≤ o ∧ o ≤ 7 then bV (F_Md_gathers 70 p1 M') (fun M5 => F_Md_colours_L33 fu 70 (iz o) (iz 0) (iz 0) M5) else some (some (.int (-2)), M') := fun M' h' e => by
    unfold F_Md_colours; rw [cv_eq (kd_70 h'), e, bI_eq, if_neg (by decide), show (0 : Int64) = jz 0 from rfl, show (7 : Int64) = jz 7 from rfl, mInL o 0 7 o1 o2 (by omega) (by omega) (by omega) (by omega), bI_eq, bz_if0, cv_eq (kd_70 h')]; rfl
  have hNg : F_NS_colours 0 p1 (iz o) M = if o < 0 then some (some (.int (-2)), M) else if 8 ≤ o then some (some (.int (-2)), M) else bI (F_Fram_shows 45 p1 M) (fun r3 M2 => if r3 = 0 then some (some (.int (-2)), M2) else F_NS_colours_L29 fu 0 (iz o) (iz 0) (iz 0) M2) := by
    unfold F_NS_colours
    rw [show (0 : Int32) = iz 0 from rfl, show (8 : Int32) = iz 8 from rfl, ifL o1 o2 (by omega) (by omega), ifE (by omega) (by omega) o1 o2, fR_eq (kd_0 h) (rr_0_7 h), cv_eq (kd_45 h)]
  by_cases g : 0 ≤ o ∧ o ≤ 7
  rotate_left
  · refine ap_no (mk := Value.int) (v0 := -2) hI ?_ ?_
    · rw [hNg]
      by_cases q : o < 0
      · rw [if_pos q]
      · rw [if_neg q, if_pos (by omega)]
    · rcases mTk hI s01 s2 hs p1 with e | ⟨e0, e⟩
      · exact hMd0 M h e
      · rw [hMg M h e, if_neg g]
  refine ap_frm (mk := Value.int) (v0 := -2) (p := p1) (B := fun M => F_NS_colours_L29 fu 0 (iz o) (iz 0) (iz 0) M) (D := fun M => bV (F_Md_gathers 70 p1 M) (fun M5 => F_Md_colours_L33 fu 70 (iz o) (iz 0) (iz 0) M5)) hI s01 s1 s2 hs ?_ hMd0 (fun M' h' c' e => ?_) (fun t M1 L O pt t1 t2 i1 c1 k1 => ?_)
  · rw [hNg, if_neg (by omega), if_neg (by omega)]
  · rw [hMg M' h' e, if_pos g]
  ·
    have hk := c1.1
    have h1 := i1.1
    have a1 := i1.2.1
    have cs1 := c1.2.2.2.1
    have ll := fr_len hk k1
    obtain ⟨eC, qC⟩ := cFold (M1 := M1) (L := L) (fun n (x : Int) i M => F_NS_colours_L29 n 0 (iz o) (iz x) i M) (fun x M => some (some (.int (iz x)), M)) (fun _ => True) (cst (fun c => dr S c 5 8 = o)) (fun n x qx => by
      show F_NS_colours_L29 (n + 1) 0 (iz o) (iz x) (iz (L.length : Int)) M1 = _
      rw [F_NS_colours_L29, fR_eq (kd_0 h1) (rr_0_7 h1), fr_l h1 k1, ifE (by omega) (by omega) (by omega) (by omega), if_pos (Int.le_refl _)]) (fun n x i c qx hi => by
      have fi := (fr_in k1 hi).1
      have il := (fr_in k1 hi).2
      have db := dr_bd S c 5 (n := 8) (by omega)
      refine ⟨?_, trivial⟩
      show F_NS_colours_L29 (n + 1) 0 (iz o) (iz x) (iz (i : Int)) M1 = F_NS_colours_L29 n 0 (iz o) (iz (cst (fun c => dr S c 5 8 = o) x c)) (iz ((i + 1 : Nat) : Int)) M1
      rw [F_NS_colours_L29, fR_eq (kd_0 h1) (rr_0_7 h1), fr_l h1 k1, ifE (by omega) (by omega) (by omega) (by omega), if_neg (by omega), fR_eq (kd_0 h1) (rr_0_2 h1), fR_eq (kd_0 h1) (rr_0_7 h1), cv_eq (kd_45 h1), fr_cd h1 a1 k1 hi, bI_eq, cv_eq (kd_2 h1), cCol h1 cs1 c, bI_eq, ifQ (by omega) (by omega) o1 o2, show (1 : Int32) = iz 1 from rfl, iz_add, iz_add, nm_eq, nm_eq, nm_eq, show ((i : Int) + 1) = ((i + 1 : Nat) : Int) by omega]
      by_cases q1 : dr S c 5 8 = o
      · rw [if_pos q1, cst_t (by exact q1)]
      · rw [if_neg q1, cst_f (by exact q1)]) (by omega) 0 trivial
    obtain ⟨M2, Lm, e2, g2⟩ := mGth h1 c1 t1 t2
    have lm := md_len hk g2.2.2.2.1
    obtain ⟨M3, e3, qM, g3⟩ := mFold (M0 := M1) (S := S) (t := t) (L := Lm) (fun n (x : Int) i M => F_Md_colours_L33 n 70 (iz o) (iz x) i M) (fun x M => some (some (.int (iz x)), M)) (fun _ => True) (cst (fun c => dr S c 5 8 = o)) (fun n x M qx hG => by
      show F_Md_colours_L33 (n + 1) 70 (iz o) (iz x) (iz (Lm.length : Int)) M = _
      rw [F_Md_colours_L33, md_l hG.1 hG.2.2.2.1, ifE (by omega) (by omega) (by omega) (by omega), if_pos (Int.le_refl _)]) (fun n x i c M qx hG hi => by
      have fi := (md_in hG.2.2.2.1 hi).1
      have il := (md_in hG.2.2.2.1 hi).2
      have db := dr_bd S c 5 (n := 8) (by omega)
      refine ⟨M, ?_, trivial, hG⟩
      show F_Md_colours_L33 (n + 1) 70 (iz o) (iz x) (iz (i : Int)) M = F_Md_colours_L33 n 70 (iz o) (iz (cst (fun c => dr S c 5 8 = o) x c)) (iz ((i + 1 : Nat) : Int)) M
      rw [F_Md_colours_L33, md_l hG.1 hG.2.2.2.1, ifE (by omega) (by omega) (by omega) (by omega), if_neg (by omega), cv_eq (kd_70 hG.1), mCode hG.1 hk hG.2.2.2.1 hi, bI_eq, cv_eq (kd_70 hG.1), show (5 : Int32) = iz 5 from rfl, show (8 : Int32) = iz 8 from rfl, mDraw hG.1 hG.2.1 c 5 (by omega) (by omega), bI_eq, ifQ (by omega) (by omega) o1 o2, show (0 : Int32) = iz 0 from rfl, show (1 : Int32) = iz 1 from rfl, iz_add, iz_add, iz_add, nm_eq, nm_eq, nm_eq, nm_eq, Int.add_zero, show ((i : Int) + 1) = ((i + 1 : Nat) : Int) by omega]
      by_cases q1 : dr S c 5 8 = o
      · rw [if_pos q1, cst_t (by exact q1)]
      · rw [if_neg q1, cst_f (by exact q1)]) (by omega) 0 trivial g2
    rw [two_cnt _ (gf_perm g2.2.2.2.1 k1.1)] at e3
    refine ⟨_, M1, M3, eC, h1, c1, ?_, i1.q g3.2.2.2.2⟩
    show bV (F_Md_gathers 70 p1 M1) _ = _
    rw [pt, e2, bV_eq]
    exact e3
theorem ap_many (hI : Inv M) (p1 p2 : Int32) : Ag (F_NS_many 0 p1 p2) (F_Md_many 70 p1 p2) M := by
  obtain ⟨h, -⟩ := id hI
  obtain ⟨S, st, s01, s1, s2, hc, hm, hb, hs, h0⟩ := hI.sc
  obtain ⟨o, o1, o2, rfl⟩ := iz_of p2
  have nk := hb.1
  have hMd0 : ∀ M', SH M' → F_Md_isTick 70 p1 M' = some (some (.int (iz 0)), M') → F_Md_many 70 p1 (iz o) M' = some (some (.int (-2)), M') := fun M' h' e => by
    unfold F_Md_many; rw [cv_eq (kd_70 h'), e, bI_eq, if_pos (by decide)]
  have hMg : ∀ M', SH M' → MS M' S → F_Md_isTick 70 p1 M' = some (some (.int (iz 1)), M') → F_Md_many 70 p1 (iz o) M' = if -1 ≤ o ∧ o ≤ sNk S - 1 then bV (F_Md_gathers 70 p1 M') (fun M5 => if o = -1 then fI M5 70 13 34 (fun x7 => some (some (.int x7), M5)) else F_Md_many_L49 fu 70 (iz o) (iz 0) (iz 0) M5) else some (some (.int (-2)), M') := fun M' h' m' e => by
    unfold F_Md_many; rw [cv_eq (kd_70 h'), e, bI_eq, if_neg (by decide), fI_eq (kd_70 h'), m'.2.2.2.1, show (1 : Int32) = iz 1 from rfl, iz_sub, jz_i2l (a := sNk S - 1) (by omega) (by omega), show (-1 : Int64) = jz (-1) from rfl, mInL o (-1) (sNk S - 1) o1 o2 (by omega) (by omega) (by omega) (by omega), bI_eq, bz_if0, cv_eq (kd_70 h')]
    by_cases g : -1 ≤ o ∧ o ≤ sNk S - 1
    · rw [if_pos g, if_pos g]
      refine congrArg (bV _) (funext (fun M5 => ?_))
      rw [show (-iz 1) = iz (-1) from rfl, ifQ o1 o2 (by omega) (by omega)]; rfl
    · rw [if_neg g, if_neg g]
  have isC := cIsK h hc nk o1 o2
  have hL16 : F_NS_many_L16 0 p1 (iz o) M = bI (F_Fram_shows 45 p1 M) (fun r3 M2 => if r3 = 0 then some (some (.int (-2)), M2) else if o = -1 then fR M2 0 12 7 (fun b4 => fI M2 b4 5 2 (fun x5 => some (some (.int x5), M2))) else F_NS_many_L48 fu 0 (iz o) (iz 0) (iz 0) M2) := by
    unfold F_NS_many_L16
    rw [fR_eq (kd_0 h) (rr_0_7 h), cv_eq (kd_45 h)]
    refine congrArg (bI _) (funext (fun r3 => funext (fun M2 => ?_)))
    rw [show (-1 : Int32) = iz (-1) from rfl, ifQ o1 o2 (by omega) (by omega)]; rfl
  have hNg : F_NS_many 0 p1 (iz o) M = if -1 ≤ o ∧ o ≤ sNk S - 1 then F_NS_many_L16 0 p1 (iz o) M else some (some (.int (-2)), M) := by
    unfold F_NS_many
    rw [show (-1 : Int32) = iz (-1) from rfl, ifQ o1 o2 (by omega) (by omega), fR_eq (kd_0 h) (rr_0_2 h), cv_eq (kd_2 h), isC, bI_eq, bz_if0]
    by_cases q : o = -1
    · rw [if_pos q, if_pos (by omega)]
    · rw [if_neg q]
      by_cases q2 : 0 ≤ o ∧ o < sNk S
      · rw [if_pos q2, if_pos (by omega)]
      · rw [if_neg q2, if_neg (by omega)]
  by_cases g : -1 ≤ o ∧ o ≤ sNk S - 1
  rotate_left
  · refine ap_no (mk := Value.int) (v0 := -2) hI ?_ ?_
    · rw [hNg, if_neg g]
    · rcases mTk hI s01 s2 hs p1 with e | ⟨e0, e⟩
      · exact hMd0 M h e
      · rw [hMg M h hm e, if_neg g]
  refine ap_frm (mk := Value.int) (v0 := -2) (p := p1) (B := fun M2 => if o = -1 then fR M2 0 12 7 (fun b4 => fI M2 b4 5 2 (fun x5 => some (some (.int x5), M2))) else F_NS_many_L48 fu 0 (iz o) (iz 0) (iz 0) M2) (D := fun M => bV (F_Md_gathers 70 p1 M) (fun M5 => if o = -1 then fI M5 70 13 34 (fun x7 => some (some (.int x7), M5)) else F_Md_many_L49 fu 70 (iz o) (iz 0) (iz 0) M5)) hI s01 s1 s2 hs ?_ hMd0 (fun M' h' c' e => ?_) (fun t M1 L O pt t1 t2 i1 c1 k1 => ?_)
  · rw [hNg, if_pos g, hL16]
  · rw [hMg M' h' c'.2.2.2.2.1 e, if_pos g]
  ·
    have hk := c1.1
    have h1 := i1.1
    have a1 := i1.2.1
    have cs1 := c1.2.2.2.1
    have ll := fr_len hk k1
    obtain ⟨M2, Lm, e2, g2⟩ := mGth h1 c1 t1 t2
    have lm := md_len hk g2.2.2.2.1
    by_cases q : o = -1
    · refine ⟨iz (L.length : Int), M1, M2, ?_, h1, c1, ?_, i1.q g2.2.2.2.2⟩
      · show (if o = -1 then _ else _) = _
        rw [if_pos q, fR_eq (kd_0 h1) (rr_0_7 h1), fr_l h1 k1]
      · show bV (F_Md_gathers 70 p1 M1) _ = _
        rw [pt, e2, bV_eq, if_pos q, md_l g2.1 g2.2.2.2.1, (gf_perm g2.2.2.2.1 k1.1).length_eq]
    obtain ⟨eC, qC⟩ := cFold (M1 := M1) (L := L) (fun n (x : Int) i M => F_NS_many_L48 n 0 (iz o) (iz x) i M) (fun x M => some (some (.int (iz x)), M)) (fun _ => True) (cst (fun c => kKd (lay S c) = o)) (fun n x qx => by
      show F_NS_many_L48 (n + 1) 0 (iz o) (iz x) (iz (L.length : Int)) M1 = _
      rw [F_NS_many_L48, fR_eq (kd_0 h1) (rr_0_7 h1), fr_l h1 k1, ifE (by omega) (by omega) (by omega) (by omega), if_pos (Int.le_refl _)]) (fun n x i c qx hi => by
      have fi := (fr_in k1 hi).1
      have il := (fr_in k1 hi).2
      have db := lay_kb hk fi.1
      have nk := hk.2.1
      refine ⟨?_, trivial⟩
      show F_NS_many_L48 (n + 1) 0 (iz o) (iz x) (iz (i : Int)) M1 = F_NS_many_L48 n 0 (iz o) (iz (cst (fun c => kKd (lay S c) = o) x c)) (iz ((i + 1 : Nat) : Int)) M1
      rw [F_NS_many_L48, fR_eq (kd_0 h1) (rr_0_7 h1), fr_l h1 k1, ifE (by omega) (by omega) (by omega) (by omega), if_neg (by omega), fR_eq (kd_0 h1) (rr_0_7 h1), cv_eq (kd_45 h1), fr_kd h1 a1 k1 hi, bI_eq, ifQ (by omega) (by omega) o1 o2, show (1 : Int32) = iz 1 from rfl, iz_add, iz_add, nm_eq, nm_eq, nm_eq, show ((i : Int) + 1) = ((i + 1 : Nat) : Int) by omega]
      by_cases q1 : kKd (lay S c) = o
      · rw [if_pos q1, cst_t (by exact q1)]
      · rw [if_neg q1, cst_f (by exact q1)]) (by omega) 0 trivial
    obtain ⟨M3, e3, qM, g3⟩ := mFold (M0 := M1) (S := S) (t := t) (L := Lm) (fun n (x : Int) i M => F_Md_many_L49 n 70 (iz o) (iz x) i M) (fun x M => some (some (.int (iz x)), M)) (fun _ => True) (cst (fun c => kKd (lay S c) = o)) (fun n x M qx hG => by
      show F_Md_many_L49 (n + 1) 70 (iz o) (iz x) (iz (Lm.length : Int)) M = _
      rw [F_Md_many_L49, md_l hG.1 hG.2.2.2.1, ifE (by omega) (by omega) (by omega) (by omega), if_pos (Int.le_refl _)]) (fun n x i c M qx hG hi => by
      have fi := (md_in hG.2.2.2.1 hi).1
      have il := (md_in hG.2.2.2.1 hi).2
      have db := lay_kb hk fi.1
      have nk := hk.2.1
      refine ⟨M, ?_, trivial, hG⟩
      show F_Md_many_L49 (n + 1) 70 (iz o) (iz x) (iz (i : Int)) M = F_Md_many_L49 n 70 (iz o) (iz (cst (fun c => kKd (lay S c) = o) x c)) (iz ((i + 1 : Nat) : Int)) M
      rw [F_Md_many_L49, md_l hG.1 hG.2.2.2.1, ifE (by omega) (by omega) (by omega) (by omega), if_neg (by omega), cv_eq (kd_70 hG.1), mCode hG.1 hk hG.2.2.2.1 hi, bI_eq, cv_eq (kd_70 hG.1), mKind hG.1 hG.2.1 hk fi.1, bI_eq, ifQ (by omega) (by omega) o1 o2, show (0 : Int32) = iz 0 from rfl, show (1 : Int32) = iz 1 from rfl, iz_add, iz_add, iz_add, nm_eq, nm_eq, nm_eq, nm_eq, Int.add_zero, show ((i : Int) + 1) = ((i + 1 : Nat) : Int) by omega]
      by_cases q1 : kKd (lay S c) = o
      · rw [if_pos q1, cst_t (by exact q1)]
      · rw [if_neg q1, cst_f (by exact q1)]) (by omega) 0 trivial g2
    rw [two_cnt _ (gf_perm g2.2.2.2.1 k1.1)] at e3
    refine ⟨iz (L.foldl (cst (fun c => kKd (lay S c) = o)) 0), M1, M3, ?_, h1, c1, ?_, i1.q g3.2.2.2.2⟩
    · show (if o = -1 then _ else _) = _
      rw [if_neg q]; exact eC
    · show bV (F_Md_gathers 70 p1 M1) _ = _
      rw [pt, e2, bV_eq, if_neg q]
      exact e3
end FrCnt2
