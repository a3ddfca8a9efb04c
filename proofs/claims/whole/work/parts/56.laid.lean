/-! ===== questions of a laid spark ===== -/
section Laid
variable {M : am_M}
theorem one_fd (h : Inv M) (c : Int32) {f : Nat} (hf5 : f = 49 ∨ f = 59) : (F_Find_find f c M = some (some .null, M) ∧ F_Md_isSpark 70 c M = some (some (.int (iz 0)), M)) ∨ ∃ S z b M1, c = iz z ∧ Sc1 M S ∧ isSp S z ∧ F_Find_find f c M = some (some (.ref b), M1) ∧ Fr ASc M M1 ∧ Fr (AFd f) M M1 ∧ SpA M1 b ∧ f < b ∧ b ≤ f + 7 ∧ CpL M1 S b (lay S z) z (gen z) := by
  obtain ⟨hS, -⟩ := id h
  have hf : FdA M f := by
    rcases hf5 with rfl | rfl
    · exact fdA_49 hS
    · exact fdA_59 hS
  rcases one_cs h c with ⟨a, b⟩ | ⟨S, z, rfl, hs1, hs, a, b⟩
  · exact Or.inl ⟨cFind0 hS hf a, b⟩
  · obtain ⟨hk, s1, s2, hc, hm, -⟩ := id hs1
    obtain ⟨b, M1, u1, u2, u3, u4, u5, u6⟩ := cFind hS hc hk s1 hf (by omega) hs
    exact Or.inr ⟨S, z, b, M1, rfl, hs1, hs, u1, u2.mono (AFd_ASc hf5), u2, u3.fr u2, u4, u5, u6⟩
/-- the reference, asked in what stands -/
theorem mYes {S : Sc} (hS : SH M) (h1 : Sc1 M S) {z : Int} (hs : isSp S z) : F_Md_isSpark 70 (iz z) M = some (some (.int (iz 1)), M) := by
  obtain ⟨hk, s1, s2, hc, hm, -⟩ := h1
  have rt := sp_rt hk hs
  have c0 := hs.1
  rw [mIsSp hS hm hk s2 (by omega) (by omega), bz_t (spB_t.mpr hs)]
theorem mTick (hS : SH M) {S : Sc} (h1 : Sc1 M S) {t : Int} (t1 : -2147483648 ≤ t) (t2 : t < 2147483648) : F_Md_isTick 70 (iz t) M = some (some (.int (bz (0 ≤ t ∧ t ≤ 30000))), M) := by
  unfold F_Md_isTick
  rw [fI_eq (kd_70 hS), h1.2.2.1, if_neg (by decide), show (0 : Int64) = jz 0 from rfl, show (30000 : Int64) = jz 30000 from rfl, mInL t 0 30000 t1 t2 (by omega) (by omega) (by omega) (by omega), bI_eq, bz_if0]
  by_cases g : 0 ≤ t ∧ t ≤ 30000
  · rw [if_pos g, bz_t g]; rfl
  · rw [if_neg g, bz_f g]; rfl
theorem cTick {t : Int} (t1 : -2147483648 ≤ t) (t2 : t < 2147483648) : F_NS_isTick (iz t) M = some (some (.int (bz (0 ≤ t ∧ t ≤ 30000))), M) := by
  unfold F_NS_isTick
  rw [show (0 : Int32) = iz 0 from rfl, show (30000 : Int32) = iz 30000 from rfl, ifL t1 t2 (by omega) (by omega), ifL (by omega) (by omega) t1 t2]
  by_cases g : t < 0
  · rw [if_pos g, bz_f (by omega)]
  · rw [if_neg g]
    by_cases g2 : 30000 < t
    · rw [if_pos g2, bz_f (by omega)]
    · rw [if_neg g2, bz_t (by omega)]; rfl
theorem cAxis {t : Int} (t1 : -2147483648 ≤ t) (t2 : t < 2147483648) : F_NS_isAxis (iz t) M = some (some (.int (bz (0 ≤ t ∧ t ≤ 2))), M) := by
  unfold F_NS_isAxis
  rw [show (0 : Int32) = iz 0 from rfl, show (2 : Int32) = iz 2 from rfl, ifL t1 t2 (by omega) (by omega), ifL (by omega) (by omega) t1 t2]
  by_cases g : t < 0
  · rw [if_pos g, bz_f (by omega)]
  · rw [if_neg g]
    by_cases g2 : 2 < t
    · rw [if_pos g2, bz_f (by omega)]
    · rw [if_neg g2, bz_t (by omega)]; rfl
theorem cThere {b : Nat} {S : Sc} {p : Sk} {c g : Int} (sp : SpA M b) (hL : CpL M S b p c g) (h1 : -2147483648 ≤ kBn p) (h2 : kBn p < 2147483648) (h3 : -2147483648 ≤ kEn p) (h4 : kEn p < 2147483648) {t : Int} (t1 : -2147483648 ≤ t) (t2 : t < 2147483648) : F_Sprk_isThere b (iz t) M = some (some (.int (bz (kBn p ≤ t ∧ t < kEn p))), M) := by
  unfold F_Sprk_isThere
  rw [fI_eq sp.1, hL.2.2.2.1, fI_eq sp.1, hL.2.2.2.2, ifL t1 t2 h1 h2, ifE h3 h4 t1 t2]
  by_cases g1 : t < kBn p
  · rw [if_pos g1, bz_f (by omega)]; rfl
  · rw [if_neg g1]
    by_cases g2 : kEn p ≤ t
    · rw [if_pos g2, bz_f (by omega)]; rfl
    · rw [if_neg g2, bz_t (by omega)]; rfl
theorem ap_spark (h : Inv M) (c w : Int32) : Ag (F_NS_spark 0 c w) (F_Md_spark 70 c w) M := by
  obtain ⟨hS, -⟩ := id h
  rcases one_fd h c (Or.inl rfl) with ⟨a, b⟩ | ⟨S, z, b, M1, rfl, hs1, hs, u1, fr, -, sp, -, -, ⟨⟨k1, k2, k3, k4, k5⟩, k6, k7, k8, k9⟩⟩
  · refine Ag.p h (v := -99) ?_ ?_
    · unfold F_NS_spark; rw [fR_eq (kd_0 hS) (rr_0_8 hS), cv_eq (kd_49 hS), a, bR_null]
    · unfold F_Md_spark; rw [cv_eq (kd_70 hS), b, bI_eq, if_pos (by decide)]
  have hS1 := hS.fr fr
  have hs1' := hs1.q h.2.1 fr
  obtain ⟨hk, s1, s2, hc, hm, -⟩ := id hs1'
  have rt := sp_rt hk hs
  have c0 := hs.1
  obtain ⟨M2, u2, fr2, ⟨m1, m2, m3⟩, m4, m5⟩ := mLays hS1 hm hk hs
  have fr2 := fr2.mono ALd_ASc
  have hS2 := hS1.fr fr2
  have hm2 := hm.q fr2
  obtain ⟨j, j1, j2, rfl⟩ := iz_of w
  have ec : F_NS_spark 0 (iz z) (iz j) M = (if j = 0 then some (some (.int (iz (kKd (lay S z)))), M1) else if j = 1 then some (some (.int (iz (z / 256 % 4))), M1) else if j = 2 then some (some (.int (iz (z / 1024))), M1) else if j = 3 then some (some (.int (iz (gen z))), M1) else if j = 4 then some (some (.int (iz (dr S z 5 8))), M1) else if j = 5 then some (some (.int (iz (kBn (lay S z)))), M1) else if j = 6 then some (some (.int (iz (kEn (lay S z)))), M1) else if j = 7 then bI (F_Sprk_speedAlong b (iz (j - 7)) M1) (fun r M => some (some (.int r), M)) else if j = 8 then bI (F_Sprk_speedAlong b (iz (j - 7)) M1) (fun r M => some (some (.int r), M)) else if j = 9 then bI (F_Sprk_speedAlong b (iz (j - 7)) M1) (fun r M => some (some (.int r), M)) else some (some (.int (-99)), M1)) := by
    unfold F_NS_spark F_Scen_colourOf
    rw [fR_eq (kd_0 hS) (rr_0_8 hS), cv_eq (kd_49 hS), u1, bR_eq]
    rw [nsSrc c0 (by omega), bI_eq, nsNum c0 (by omega), bI_eq, fI_eq sp.1, k1, fI_eq sp.1, k7, fR_eq (kd_0 hS1) (rr_0_2 hS1), cv_eq (kd_2 hS1), cv_eq (kd_2 hS1), show (5 : Int32) = iz 5 from rfl, show (8 : Int32) = iz 8 from rfl, cDraw hS1 hc _ _ (by omega) (by omega), bI_eq, bI_eq, fI_eq sp.1, k8, fI_eq sp.1, k9, cv_eq sp.1]
    rw [show (7 : Int32) = iz 7 from rfl, iz_sub, show (0 : Int32) = iz 0 from rfl, show (1 : Int32) = iz 1 from rfl, show (2 : Int32) = iz 2 from rfl, show (3 : Int32) = iz 3 from rfl, show (4 : Int32) = iz 4 from rfl, show (6 : Int32) = iz 6 from rfl, show (9 : Int32) = iz 9 from rfl, ifQ (by omega) (by omega) (by omega) (by omega), ifQ (by omega) (by omega) (by omega) (by omega), ifQ (by omega) (by omega) (by omega) (by omega), ifQ (by omega) (by omega) (by omega) (by omega), ifQ (by omega) (by omega) (by omega) (by omega), ifQ (by omega) (by omega) (by omega) (by omega), ifQ (by omega) (by omega) (by omega) (by omega), ifQ (by omega) (by omega) (by omega) (by omega), ifQ (by omega) (by omega) (by omega) (by omega), ifQ (by omega) (by omega) (by omega) (by omega)]
  have em : F_Md_spark 70 (iz z) (iz j) M1 = (if 0 ≤ j ∧ j ≤ 9 then (if j = 0 then some (some (.int (iz (kKd (lay S z)))), M2) else if j = 1 then some (some (.int (iz (z / 256 % 4))), M2) else if j = 2 then some (some (.int (iz (z / 1024))), M2) else if j = 3 then some (some (.int (iz (gen z))), M2) else if j = 4 then some (some (.int (iz (dr S z 5 8))), M2) else if j = 5 then some (some (.int (iz (kBn (lay S z)))), M2) else if j = 6 then some (some (.int (iz (kEn (lay S z)))), M2) else aI M2 81 (iz (j - 7)) (fun x => some (some (.int x), M2))) else some (some (.int (-99)), M1)) := by
    unfold F_Md_spark
    rw [cv_eq (kd_70 hS1), mYes hS1 hs1' hs, bI_eq, if_neg (by decide), show (0 : Int64) = jz 0 from rfl, show (9 : Int64) = jz 9 from rfl, mInL j 0 9 j1 j2 (by omega) (by omega) (by omega) (by omega), bI_eq, bz_if0, cv_eq (kd_70 hS1), u2, bV_eq]
    rw [fI_eq (kd_70 hS2), m1, mdGen c0 (by omega), bI_eq, cv_eq (kd_70 hS2), show (5 : Int32) = iz 5 from rfl, show (8 : Int32) = iz 8 from rfl, mDraw hS2 hm2 _ _ (by omega) (by omega), bI_eq, fI_eq (kd_70 hS2), m4, fI_eq (kd_70 hS2), m5, fR_eq (kd_70 hS2) (rr_70_31 hS2), show (256 : Int32) = iz 256 from rfl, show (4 : Int32) = iz 4 from rfl, show (1024 : Int32) = iz 1024 from rfl, iz_ediv (a := z) (by omega) (by omega) (by omega) (by omega), iz_emod (by omega) (by omega) (by omega) (by omega), iz_ediv (a := z) (by omega) (by omega) (by omega) (by omega)]
    simp (disch := omega) only [iz_lit, iz_sub, iz_eq]
  by_cases g : 0 ≤ j ∧ j ≤ 9
  · have q : ∀ v, F_NS_spark 0 (iz z) (iz j) M = some (some (.int v), M1) → F_Md_spark 70 (iz z) (iz j) M1 = some (some (.int v), M2) → Ag (F_NS_spark 0 (iz z) (iz j)) (F_Md_spark 70 (iz z) (iz j)) M := fun v e1 e2 => Ag.q h e1 fr e2 fr2
    rw [if_pos g] at em
    by_cases g7 : 7 ≤ j
    · refine q (iz (kVl (lay S z) (j - 7))) ?_ ?_
      · have ev : (bI (F_Sprk_speedAlong b (iz (j - 7)) M1) (fun r M => some (some (.int r), M)) : am_R) = some (some (.int (iz (kVl (lay S z) (j - 7)))), M1) := by
          unfold F_Sprk_speedAlong
          rw [show (0 : Int32) = iz 0 from rfl, ifL (by omega) (by omega) (by omega) (by omega), if_neg (by omega), fR_eq sp.1 sp.2.2.2.1, aN_eq (by rw [sp.2.2.2.2.2.2.1]; decide) sp.2.2.2.2.2.2.2, ifE (by omega) (by omega) (by omega) (by omega), if_neg (by omega), fR_eq sp.1 sp.2.2.2.1, aI_eq sp.2.2.2.2.2.2.1 sp.2.2.2.2.2.2.2 (by omega) (by omega) (by omega), k5 (j - 7) (by omega) (by omega), bI_eq]
        rw [ec, ev]
        iterate 7 rw [if_neg (by omega)]
        rcases (show j = 7 ∨ j = 8 ∨ j = 9 by omega) with rfl | rfl | rfl
        · rw [if_pos rfl]
        · rw [if_neg (by omega), if_pos rfl]
        · rw [if_neg (by omega), if_neg (by omega), if_pos rfl]
      · rw [em]
        iterate 7 rw [if_neg (by omega)]
        rw [aI_eq (kd_81 hS2) (ln_81 hS2) (by omega) (by omega) (by omega), m3 (j - 7) (by omega) (by omega)]
    · rcases (show j = 0 ∨ j = 1 ∨ j = 2 ∨ j = 3 ∨ j = 4 ∨ j = 5 ∨ j = 6 by omega) with rfl | rfl | rfl | rfl | rfl | rfl | rfl
      · exact q _ (by rw [ec, if_pos rfl]) (by rw [em, if_pos rfl])
      · exact q _ (by rw [ec]; iterate 1 rw [if_neg (by omega)]
                      rw [if_pos rfl]) (by rw [em]; iterate 1 rw [if_neg (by omega)]
                                           rw [if_pos rfl])
      · exact q _ (by rw [ec]; iterate 2 rw [if_neg (by omega)]
                      rw [if_pos rfl]) (by rw [em]; iterate 2 rw [if_neg (by omega)]
                                           rw [if_pos rfl])
      · exact q _ (by rw [ec]; iterate 3 rw [if_neg (by omega)]
                      rw [if_pos rfl]) (by rw [em]; iterate 3 rw [if_neg (by omega)]
                                           rw [if_pos rfl])
      · exact q _ (by rw [ec]; iterate 4 rw [if_neg (by omega)]
                      rw [if_pos rfl]) (by rw [em]; iterate 4 rw [if_neg (by omega)]
                                           rw [if_pos rfl])
      · exact q _ (by rw [ec]; iterate 5 rw [if_neg (by omega)]
                      rw [if_pos rfl]) (by rw [em]; iterate 5 rw [if_neg (by omega)]
                                           rw [if_pos rfl])
      · exact q _ (by rw [ec]; iterate 6 rw [if_neg (by omega)]
                      rw [if_pos rfl]) (by rw [em]; iterate 6 rw [if_neg (by omega)]
                                           rw [if_pos rfl])
  · refine Ag.q h (v := -99) (M1 := M1) (M2 := M1) ?_ fr (by rw [em, if_neg g]) (Fr.refl _)
    rw [ec]
    iterate 10 rw [if_neg (by omega)]
theorem ap_place (h : Inv M) (c t i : Int32) : Ag (F_NS_place 0 c t i) (F_Md_place 70 c t i) M := by
  obtain ⟨hS, -⟩ := id h
  rcases one_fd h c (Or.inl rfl) with ⟨a, b⟩ | ⟨S, z, b, M1, rfl, hs1, hs, u1, fr, -, sp, -, -, hL⟩
  · refine Ag.p h (v := -2) ?_ ?_
    · unfold F_NS_place; rw [fR_eq (kd_0 hS) (rr_0_8 hS), cv_eq (kd_49 hS), a, bR_null]
    · unfold F_Md_place; rw [cv_eq (kd_70 hS), b, bI_eq, if_pos (by decide)]
  have hS1 := hS.fr fr
  have hs1' := hs1.q h.2.1 fr
  obtain ⟨hk, s1, s2, hc, hm, -⟩ := id hs1'
  obtain ⟨M2, u2, fr2, m1, m4, m5⟩ := mLays hS1 hm hk hs
  have fr2 := fr2.mono ALd_ASc
  have hS2 := hS1.fr fr2
  have hm2 := hm.q fr2
  have lb := lay_bn hk hs
  have g := lay_g hk hs
  obtain ⟨⟨a1, a2, a3, a4, a5, a6⟩, -⟩ := id g
  obtain ⟨w, w1, w2, rfl⟩ := iz_of t
  obtain ⟨j, j1, j2, rfl⟩ := iz_of i
  have ec : F_NS_place 0 (iz z) (iz w) (iz j) M = (if 0 ≤ w ∧ w ≤ 30000 then (if 0 ≤ j ∧ j ≤ 2 then (if kBn (lay S z) ≤ w ∧ w < kEn (lay S z) then bI (F_Sprk_placeAt b (iz j) (iz (w - kBn (lay S z))) M1) (fun r12 M11 => some (some (.int r12), M11)) else some (some (.int (-1)), M1)) else some (some (.int (-2)), M1)) else some (some (.int (-2)), M1)) := by
    unfold F_NS_place
    rw [fR_eq (kd_0 hS) (rr_0_8 hS), cv_eq (kd_49 hS), u1, bR_eq, cTick w1 w2, bI_eq, bz_if0, cAxis j1 j2, bI_eq, bz_if0, cv_eq sp.1, cThere sp hL (by omega) (by omega) (by omega) (by omega) w1 w2, bI_eq, bz_if0, fI_eq sp.1, hL.2.2.2.1, cv_eq sp.1, iz_sub]
  have em : F_Md_place 70 (iz z) (iz w) (iz j) M1 = (if 0 ≤ w ∧ w ≤ 30000 then (if 0 ≤ j ∧ j ≤ 2 then (if w < kBn (lay S z) then some (some (.int (-1)), M2) else if kEn (lay S z) ≤ w then some (some (.int (-1)), M2) else bI (F_Md_placeBy 70 (iz j) (iz (w - kBn (lay S z))) M2) (fun r12 M11 => some (some (.int r12), M11))) else some (some (.int (-2)), M1)) else some (some (.int (-2)), M1)) := by
    unfold F_Md_place
    rw [cv_eq (kd_70 hS1), mYes hS1 hs1' hs, bI_eq, if_neg (by decide), cv_eq (kd_70 hS1), mTick hS1 hs1' w1 w2, bI_eq, bz_if0, show (0 : Int64) = jz 0 from rfl, show (2 : Int64) = jz 2 from rfl, mInL j 0 2 j1 j2 (by omega) (by omega) (by omega) (by omega), bI_eq, bz_if0, cv_eq (kd_70 hS1), u2, bV_eq, fI_eq (kd_70 hS2), m4, fI_eq (kd_70 hS2), m5, ifL w1 w2 (by omega) (by omega), ifE (by omega) (by omega) w1 w2, fI_eq (kd_70 hS2), m4, cv_eq (kd_70 hS2), iz_sub]
  by_cases g1 : 0 ≤ w ∧ w ≤ 30000
  · by_cases g2 : 0 ≤ j ∧ j ≤ 2
    · rw [if_pos g1, if_pos g2] at ec em
      by_cases g3 : w < kBn (lay S z)
      · exact Ag.q h (by rw [ec, if_neg (by omega)]) fr (by rw [em, if_pos g3]) fr2
      · by_cases g4 : kEn (lay S z) ≤ w
        · exact Ag.q h (by rw [ec, if_neg (by omega)]) fr (by rw [em, if_neg g3, if_pos g4]) fr2
        · have bd := g.bd hk (i := j) (by omega) (by omega)
          exact Ag.q h (by rw [ec, if_pos (by omega), cPlc hS1 hc hk sp hL.1 a1 bd.1 bd.2 (by omega) (by omega) (by omega) (by omega), bI_eq]) fr (by rw [em, if_neg g3, if_neg g4, mPlc hS2 hm2 hk m1 a1 bd.1 bd.2 (by omega) (by omega) (by omega) (by omega), bI_eq]) fr2
    · exact Ag.q h (by rw [ec, if_pos g1, if_neg g2]) fr (by rw [em, if_pos g1, if_neg g2]) (Fr.refl _)
  · exact Ag.q h (by rw [ec, if_neg g1]) fr (by rw [em, if_neg g1]) (Fr.refl _)
theorem ap_size (h : Inv M) (c t : Int32) : Ag (F_NS_size 0 c t) (F_Md_size 70 c t) M := by
  obtain ⟨hS, -⟩ := id h
  rcases one_fd h c (Or.inl rfl) with ⟨a, b⟩ | ⟨S, z, b, M1, rfl, hs1, hs, u1, fr, -, sp, -, -, hL⟩
  · refine Ag.p h (v := -2) ?_ ?_
    · unfold F_NS_size; rw [fR_eq (kd_0 hS) (rr_0_8 hS), cv_eq (kd_49 hS), a, bR_null]
    · unfold F_Md_size; rw [cv_eq (kd_70 hS), b, bI_eq, if_pos (by decide)]
  have hS1 := hS.fr fr
  have hs1' := hs1.q h.2.1 fr
  obtain ⟨hk, s1, s2, hc, hm, -⟩ := id hs1'
  obtain ⟨M2, u2, fr2, m1, m4, m5⟩ := mLays hS1 hm hk hs
  have fr2 := fr2.mono ALd_ASc
  have hS2 := hS1.fr fr2
  have hm2 := hm.q fr2
  have lb := lay_bn hk hs
  have g := lay_g hk hs
  have nk := hk.2.1
  obtain ⟨⟨a1, a2, a3, a4, a5, a6⟩, -⟩ := id g
  obtain ⟨w, w1, w2, rfl⟩ := iz_of t
  have key : ∀ x : am_M, w < kEn (lay S z) → ¬ w < kBn (lay S z) → F_Math_max 1 (iz (sK S (kKd (lay S z)) 4) - 4 * iz (w - kBn (lay S z)) / iz (kEn (lay S z) - kBn (lay S z))) x = some (some (.int (iz (max 1 (sK S (kKd (lay S z)) 4 - 4 * (w - kBn (lay S z)) / (kEn (lay S z) - kBn (lay S z)))))), x) := fun x e1 e2 => by
    obtain ⟨y0, y1, y2, y3, y4, y5, y6⟩ := hk.2.2.2.2.1 _ a1.1 a1.2
    have q0 : 0 ≤ 4 * (w - kBn (lay S z)) / (kEn (lay S z) - kBn (lay S z)) := Int.ediv_nonneg (by omega) (by omega)
    have q1 : 4 * (w - kBn (lay S z)) / (kEn (lay S z) - kBn (lay S z)) ≤ 4 * (w - kBn (lay S z)) := Int.ediv_le_self _ (by omega)
    rw [show (4 : Int32) = iz 4 from rfl, show (1 : Int32) = iz 1 from rfl, iz_mul, iz_ediv (by omega) (by omega) (by omega) (by omega), iz_sub, max_eq (by omega) (by omega) (by omega) (by omega)]
  have ec : F_NS_size 0 (iz z) (iz w) M = (if 0 ≤ w ∧ w ≤ 30000 then (if kBn (lay S z) ≤ w ∧ w < kEn (lay S z) then F_Math_max 1 (iz (sK S (kKd (lay S z)) 4) - 4 * iz (w - kBn (lay S z)) / iz (kEn (lay S z) - kBn (lay S z))) M1 else some (some (.int (-1)), M1)) else some (some (.int (-2)), M1)) := by
    unfold F_NS_size
    rw [fR_eq (kd_0 hS) (rr_0_8 hS), cv_eq (kd_49 hS), u1, bR_eq, cTick w1 w2, bI_eq, bz_if0, cv_eq sp.1, cThere sp hL (by omega) (by omega) (by omega) (by omega) w1 w2, bI_eq, bz_if0, fI_eq sp.1, hL.2.2.2.1, nm_eq, fI_eq sp.1, hL.2.2.2.2, fI_eq sp.1, hL.2.2.2.1, iz_sub, iz_sub, show (1 : Int32) = iz 1 from rfl, max_eq (by omega) (by omega) (by omega) (by omega), bI_eq, Int.max_eq_right (by omega), fR_eq (kd_0 hS1) (rr_0_2 hS1), fI_eq sp.1, hL.1.1, cv_eq (kd_2 hS1), show (4 : Int32) = iz 4 from rfl, cK hS1 hc a1.1 (by omega) (by omega) (by omega), bI_eq, dZ_eq (by omega) (by omega)]
    split
    · by_cases e1 : kBn (lay S z) ≤ w ∧ w < kEn (lay S z)
      · rw [if_pos e1, if_pos e1]
        have k := key M1 (by omega) (by omega)
        rw [show (4 : Int32) = iz 4 from rfl, show (1 : Int32) = iz 1 from rfl] at k
        rw [k, bI_eq]
      · rw [if_neg e1, if_neg e1]
    · rfl
  have em : F_Md_size 70 (iz z) (iz w) M1 = (if 0 ≤ w ∧ w ≤ 30000 then (if w < kBn (lay S z) then some (some (.int (-1)), M2) else if w < kEn (lay S z) then F_Math_max 1 (iz (sK S (kKd (lay S z)) 4) - 4 * iz (w - kBn (lay S z)) / iz (kEn (lay S z) - kBn (lay S z))) M2 else some (some (.int (-1)), M2)) else some (some (.int (-2)), M1)) := by
    unfold F_Md_size
    rw [cv_eq (kd_70 hS1), mYes hS1 hs1' hs, bI_eq, if_neg (by decide), cv_eq (kd_70 hS1), mTick hS1 hs1' w1 w2, bI_eq, bz_if0, cv_eq (kd_70 hS1), u2, bV_eq, fI_eq (kd_70 hS2), m4, fI_eq (kd_70 hS2), m5, ifL w1 w2 (by omega) (by omega), ifL w1 w2 (by omega) (by omega), fR_eq (kd_70 hS2) (rr_70_5 hS2), fI_eq (kd_70 hS2), m1.1, show (8 : Int32) = iz 8 from rfl, show (4 : Int32) = iz 4 from rfl, iz_mul, iz_add, aI_eq (kd_72 hS2) (ln_72 hS2) (by omega) (by omega) (by omega), hm2.2.1 _ 4 a1.1 a1.2 (by omega) (by omega), fI_eq (kd_70 hS2), m4, fI_eq (kd_70 hS2), m5, fI_eq (kd_70 hS2), m4, iz_sub, iz_sub, dZ_eq (by omega) (by omega)]
    split
    · by_cases e1 : w < kBn (lay S z)
      · rw [if_pos e1, if_pos e1]
      · by_cases e2 : w < kEn (lay S z)
        · rw [if_neg e1, if_pos e2, if_neg e1, if_pos e2]
          have k := key M2 (by omega) e1
          rw [show (4 : Int32) = iz 4 from rfl] at k
          rw [k, bI_eq]
        · rw [if_neg e1, if_neg e2, if_neg e1, if_neg e2]
    · rfl
  by_cases g1 : 0 ≤ w ∧ w ≤ 30000
  · rw [if_pos g1] at ec em
    by_cases g3 : w < kBn (lay S z)
    · exact Ag.q h (by rw [ec, if_neg (by omega)]) fr (by rw [em, if_pos g3]) fr2
    · by_cases g4 : kEn (lay S z) ≤ w
      · exact Ag.q h (by rw [ec, if_neg (by omega)]) fr (by rw [em, if_neg g3, if_neg (by omega)]) fr2
      · exact Ag.q h (by rw [ec, if_pos (by omega), key M1 (by omega) g3]) fr (by rw [em, if_neg g3, if_pos (by omega), key M2 (by omega) g3]) fr2
  · exact Ag.q h (by rw [ec, if_neg g1]) fr (by rw [em, if_neg g1]) (Fr.refl _)
end Laid
