/-! ===== endings: both ===== -/
section Ends2
variable {M : am_M} {S : Sc} {a b : Int}
theorem lpEnds (hk : scOK S) (M0 : am_M) (a1 : 0 ≤ a) (a2 : a ≤ 40000) (b1 : 0 ≤ b) (b2 : b ≤ 40000) : LoopH (X := Int32) S (a - 1) b (wkl S (a - 1) b) (fun n x i M => F_NS_endings_L37 n 0 (iz a) (iz b) x i M) (fun m n x i j M => F_NS_endings_L58 (F_NS_endings_L37 n) m 0 (iz a) (iz b) x i j M) (fun x M => some (some (.int x), M)) (fun L x M => Fr ASc M0 M ∧ x = iz (cnt (Qe S a b) L)) := by
  refine ⟨fun n x i M h i0 i1 => ?_, fun m n x i j len M h hl l0 l7 hj => ?_, fun m n x i j row L c len M hP h hc hin hr hL hl jl l7 hs _ => ?_, fun L x M M' hP hf => ⟨hP.1.trans (hf.mono AWk_ASc), hP.2⟩⟩
  · show F_NS_endings_L37 (n + 1) 0 (iz a) (iz b) x (iz i) M = _
    rw [F_NS_endings_L37, show (1000000 : Int32) = iz 1000000 from rfl, ifE (by omega) (by omega) (by omega) (by omega), if_neg (by omega), fR_eq (kd_0 h) (rr_0_6 h), cv_eq (kd_18 h)]
    rfl
  · show F_NS_endings_L58 (F_NS_endings_L37 n) (m + 1) 0 (iz a) (iz b) x (iz i) (iz j) M = _
    rw [F_NS_endings_L58, fR_eq (kd_0 h) (rr_0_6 h), fI_eq (kd_18 h), hl, ifE (by omega) (by omega) (by omega) (by omega), if_pos (by omega), nm_eq, show (1 : Int32) = iz 1 from rfl, iz_add]
  · have lg := (lay_g hk hin.1).1.2
    have bn := lay_bn hk hin.1
    have e : F_NS_endings_L58 (F_NS_endings_L37 n) (m + 1) 0 (iz a) (iz b) x (iz i) (iz (j : Int)) M = if kEn (lay S c) < a then F_NS_endings_L58 (F_NS_endings_L37 n) m 0 (iz a) (iz b) x (iz i) (iz ((j + 1 : Nat) : Int)) M else if b ≤ kEn (lay S c) then F_NS_endings_L58 (F_NS_endings_L37 n) m 0 (iz a) (iz b) x (iz i) (iz ((j + 1 : Nat) : Int)) M else F_NS_endings_L58 (F_NS_endings_L37 n) m 0 (iz a) (iz b) (x + iz 1) (iz i) (iz ((j + 1 : Nat) : Int)) M := by
      rw [F_NS_endings_L58, fR_eq (kd_0 h) (rr_0_6 h), fI_eq (kd_18 h), hl, ifE (by omega) (by omega) (by omega) (by omega), if_neg (by omega), fR_eq (kd_0 h) (rr_0_6 h), cv_eq (kd_18 h), hs, bR_eq, fI_eq (spA_l h hr).1, hL.2.2.2.2, ifL (by omega) (by omega) (by omega) (by omega), ifE (by omega) (by omega) (by omega) (by omega), show (1 : Int32) = iz 1 from rfl, iz_add, nm_eq, nm_eq, nm_eq, show ((j : Int) + 1) = ((j + 1 : Nat) : Int) by omega]
    by_cases g1 : kEn (lay S c) < a
    · refine ⟨x, M, by show F_NS_endings_L58 _ (m + 1) 0 _ _ _ _ _ _ = _; rw [e, if_pos g1], ⟨hP.1, ?_⟩, KW.refl h⟩
      rw [cnt_1f (fun q => by have := q.2.1; omega)]; exact hP.2
    by_cases g2 : b ≤ kEn (lay S c)
    · refine ⟨x, M, by show F_NS_endings_L58 _ (m + 1) 0 _ _ _ _ _ _ = _; rw [e, if_neg g1, if_pos g2], ⟨hP.1, ?_⟩, KW.refl h⟩
      rw [cnt_1f (fun q => by have := q.2.2; omega)]; exact hP.2
    · refine ⟨x + iz 1, M, by show F_NS_endings_L58 _ (m + 1) 0 _ _ _ _ _ _ = _; rw [e, if_neg g1, if_neg g2], ⟨hP.1, ?_⟩, KW.refl h⟩
      rw [cnt_1t ⟨hin.1, by omega, by omega⟩, hP.2, iz_add]
theorem Qe_cnt (hk : scOK S) {L : List Int} (hL : EQ S a b (sNs S * 1099511627776) L) : cnt (Qe S a b) (wkl S (a - 1) b) = (L.length : Int) := by
  obtain ⟨w1, w2⟩ := wkl_g hk (a - 1) b
  rw [cnt_flt]
  have nd : (flt (Qe S a b) (wkl S (a - 1) b)).Nodup := List.Pairwise.filter _ (pw_nd w2)
  have : (flt (Qe S a b) (wkl S (a - 1) b)).Perm L := (List.perm_ext_iff_of_nodup nd hL.1).mpr (fun c => by
    rw [flt_mem, w1, hL.2]
    constructor
    · rintro ⟨q1, q2⟩
      refine ⟨q2, ?_⟩
      have b := sp_rt hk q2.1
      have b0 := q2.1.1
      have b1 := q2.1.2.1
      unfold rk
      omega
    · rintro ⟨q1, -⟩
      have := lay_en hk q1.1
      exact ⟨⟨q1.1, by have := q1.2.2; omega, by have := q1.2.1; omega⟩, q1⟩)
  rw [this.length_eq]
theorem ap_endings (hI : Inv M) (p1 p2 : Int32) : Ag (F_NS_endings 0 p1 p2) (F_Md_endings 70 p1 p2) M := by
  obtain ⟨h, -⟩ := id hI
  obtain ⟨S, st, s01, s1, s2, hc, hm, hb, hs, h0⟩ := hI.sc
  obtain ⟨a, a1, a2, rfl⟩ := iz_of p1
  obtain ⟨b, b1, b2, rfl⟩ := iz_of p2
  rcases s01 with q | q
  · subst q
    refine Ag.p hI (v := -2) ?_ ?_
    · unfold F_NS_endings; rw [cv_eq (kd_0 h), cWin0 h s1, bI_eq, if_pos (by decide)]
    · unfold F_Md_endings; rw [cv_eq (kd_70 h), mSpan0 h s2, bI_eq, if_pos (by decide)]
  subst q
  have hk := (hs rfl).1
  have wc := cWin h s1 a1 a2 b1 b2
  have wm := mSpan h s2 a1 a2 b1 b2 (c := 300) (by omega) (by omega)
  by_cases g2 : 0 ≤ a ∧ a ≤ b ∧ b ≤ 30001
  rotate_left
  · rw [bz_f g2] at wc
    rw [bz_f (by omega)] at wm
    refine Ag.p hI (v := -2) ?_ ?_
    · unfold F_NS_endings; rw [cv_eq (kd_0 h), wc, bI_eq, if_pos (by decide)]
    · unfold F_Md_endings; rw [cv_eq (kd_70 h), show (300 : Int32) = iz 300 from rfl, wm, bI_eq, if_pos (by decide)]
  rw [bz_t g2] at wc
  by_cases g3 : b - a ≤ 300
  rotate_left
  · rw [bz_f (by omega)] at wm
    refine Ag.p hI (v := -2) ?_ ?_
    · unfold F_NS_endings; rw [cv_eq (kd_0 h), wc, bI_eq, if_neg (by decide), iz_sub, show (300 : Int32) = iz 300 from rfl, ifE (by omega) (by omega) (by omega) (by omega), if_neg g3]
    · unfold F_Md_endings; rw [cv_eq (kd_70 h), show (300 : Int32) = iz 300 from rfl, wm, bI_eq, if_pos (by decide)]
  rw [bz_t (by omega)] at wm
  obtain ⟨M1, e1, f1, w1⟩ := cStart h hc hk (a := a - 1) (b := b) (by omega) (by omega) (by omega) (by omega)
  obtain ⟨x, M2, e2, f2, p2⟩ := wAll hk (by omega) (by omega) (by omega) (by omega) (lpEnds hk M (a := a) (b := b) (by omega) (by omega) (by omega) (by omega)) w1 (x := iz 0) ⟨f1.mono AWk_ASc, rfl⟩
  have i2 := hI.q f2
  have h2 := i2.1
  have m2 := hm.q f2
  have fg := fu_ge
  have st2 : rI M2 70 1 = iz 1 := by rw [ASc.ri f2 (fun q => by unfold ASc at q; omega)]; exact s2
  have ns := hk.2.2.1
  obtain ⟨M3, L, e3, f3, q3⟩ := mEs hk (a := a) (b := b) (by omega) (by omega) (by omega) (by omega) (sNs S).toNat fu 0 M2 [] h2 m2 st2 ⟨List.nodup_nil, fun c => ⟨fun q => (List.not_mem_nil q).elim, fun q => by
    have b := sp_rt hk q.1.1
    have b0 := q.1.1.1
    have := q.2
    unfold rk at this
    omega⟩⟩ (by omega) (by omega) (by omega)
  have wm2 := mSpan h2 st2 a1 a2 b1 b2 (c := 300) (by omega) (by omega)
  rw [bz_t (by omega)] at wm2
  rw [Qe_cnt hk q3] at p2
  refine Ag.q hI (v := iz (L.length : Int)) (M1 := M2) (M2 := M3) ?_ f2 ?_ (f3.mono ALd_ASc)
  · unfold F_NS_endings
    rw [cv_eq (kd_0 h), wc, bI_eq, if_neg (by decide), iz_sub, show (300 : Int32) = iz 300 from rfl, ifE (by omega) (by omega) (by omega) (by omega), if_pos g3, fR_eq (kd_0 h) (rr_0_6 h), cv_eq (kd_18 h), show (1 : Int32) = iz 1 from rfl, iz_sub, e1, bV_eq, ← p2]
    exact e2
  · unfold F_Md_endings
    rw [cv_eq (kd_70 h2), show (300 : Int32) = iz 300 from rfl, wm2, bI_eq, if_neg (by decide)]
    exact e3
end Ends2
