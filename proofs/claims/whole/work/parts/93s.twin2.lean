/-! ===== twins: both ===== -/
section FrTwin2
variable {M M0 : am_M} {S : Sc} {t : Int} {L : List Int}
theorem mTw92 (hk : scOK S) (hG : MG M0 M S t L) (t1 : 0 ≤ t) (t2 : t ≤ 30000) (k20 : Nat → Int32 → Int32 → Int32 → am_M → am_R) {c v : Int} {i : Nat} (hc : isSp S c) (hg : gen c ≠ 0) : ∃ M', F_Md_twins_L92 k20 70 (iz t) (iz v) (iz (i : Int)) (iz (sib c)) M = k20 70 (iz t) (iz (cst (twB S t) v c)) (iz ((i + 1 : Nat) : Int)) M' ∧ MG M0 M' S t L := by
  have h := hG.1
  have hm := hG.2.1
  have cb := sp_rt hk hc
  have c0 := hc.1
  have ln := sp_line hk hc
  have sc := sib_c c
  have sb : 0 ≤ sib c ∧ sib c < 2147483648 := by
    have g := gen_c c
    generalize gen c = w at hg g
    omega
  unfold F_Md_twins_L92
  rw [cv_eq (kd_70 h), mIsSp h hm hk hG.2.2.1 (by omega) sb.2, bI_eq, bz_if0, show (1 : Int32) = iz 1 from rfl, iz_add, nm_eq, show ((i : Int) + 1) = ((i + 1 : Nat) : Int) by omega]
  by_cases g1 : isSp S (sib c)
  rotate_left
  · rw [if_neg (fun q => g1 (spB_t.mp q)), cst_f (fun q => g1 q.2.1)]
    exact ⟨M, rfl, hG⟩
  rw [if_pos (spB_t.mpr g1)]
  obtain ⟨M1, e1, f1, l1⟩ := mLays h hm hk g1
  have G1 := hG.q (f1.mono ALd_AGf)
  have lg := (lay_g hk g1).1.2
  have bn := lay_bn hk g1
  refine ⟨M1, ?_, G1⟩
  rw [cv_eq (kd_70 h), e1, bV_eq, fI_eq (kd_70 G1.1), l1.2.1, ifL (by omega) (by omega) (by omega) (by omega), fI_eq (kd_70 G1.1), l1.2.2, ifE (by omega) (by omega) (by omega) (by omega), show (0 : Int32) = iz 0 from rfl, iz_add, iz_add, Int.add_zero, nm_eq, nm_eq, nm_eq]
  by_cases q1 : t < kBn (lay S (sib c))
  · rw [if_pos q1, cst_f (fun q => by have := q.2.2.1; omega)]
  · rw [if_neg q1]
    by_cases q2 : kEn (lay S (sib c)) ≤ t
    · rw [if_pos q2, cst_f (fun q => by have := q.2.2.2; omega)]
    · rw [if_neg q2, cst_t ⟨hg, g1, by omega, by omega⟩]; rfl
theorem ap_twins (hI : Inv M) (p1 : Int32) : Ag (F_NS_twins 0 p1) (F_Md_twins 70 p1) M := by
  obtain ⟨h, -⟩ := id hI
  obtain ⟨S, st, s01, s1, s2, hc, hm, hb, hs, h0⟩ := hI.sc
  refine ap_frm (mk := Value.int) (v0 := -2) (p := p1) (B := fun M2 => F_NS_twins_L18 fu 0 (iz 0) (iz 0) M2) (D := fun M' => bV (F_Md_gathers 70 p1 M') (fun M3 => F_Md_twins_L20 fu 70 p1 (iz 0) (iz 0) M3)) hI s01 s1 s2 hs ?_ (fun M' h' e => ?_) (fun M' h' c' e => ?_) (fun t M1 L O pt t1 t2 i1 c1 k1 => ?_)
  · unfold F_NS_twins
    rw [fR_eq (kd_0 h) (rr_0_7 h), cv_eq (kd_45 h)]; rfl
  · unfold F_Md_twins; rw [cv_eq (kd_70 h'), e, bI_eq, if_pos (by decide)]
  · unfold F_Md_twins; rw [cv_eq (kd_70 h'), e, bI_eq, if_neg (by decide), cv_eq (kd_70 h')]; rfl
  have hk := c1.1
  have h1 := i1.1
  have a1 := i1.2.1
  have ll := fr_len hk k1
  have fg := fu_ge
  subst pt
  have eC := cTwi h1 a1 hk k1 L.length fu 0 0 (by omega) (by omega)
  rw [List.drop_zero, Int.zero_add, ← tw_2 hk k1.1] at eC
  obtain ⟨M2, Lm, e2, g2⟩ := mGth h1 c1 t1 t2
  have lm := md_len hk g2.2.2.2.1
  obtain ⟨M3, e3, -, g3⟩ := mFold (M0 := M1) (S := S) (t := t) (L := Lm) (fun n (x : Int) i M => F_Md_twins_L20 n 70 (iz t) (iz x) i M) (fun x M => some (some (.int (iz x)), M)) (fun _ => True) (cst (twB S t)) (fun n x M _ hG => by
    show F_Md_twins_L20 (n + 1) 70 (iz t) (iz x) (iz (Lm.length : Int)) M = _
    rw [F_Md_twins_L20, md_l hG.1 hG.2.2.2.1, ifE (by omega) (by omega) (by omega) (by omega), if_pos (Int.le_refl _)]) (fun n x i c M _ hG hi => by
    have fi := (md_in hG.2.2.2.1 hi).1
    have il := (md_in hG.2.2.2.1 hi).2
    have cb := sp_rt hk fi.1
    have c0 := fi.1.1
    have gb := gen_bd c
    have ln := sp_line hk fi.1
    have gc := gen_c c
    have sc := sib_c c
    have hd : F_Md_twins_L20 (n + 1) 70 (iz t) (iz x) (iz (i : Int)) M = if gen c = 0 then F_Md_twins_L20 n 70 (iz t) (iz x) (iz ((i + 1 : Nat) : Int)) M else F_Md_twins_L92 (F_Md_twins_L20 n) 70 (iz t) (iz x) (iz (i : Int)) (iz (sib c)) M := by
      rw [F_Md_twins_L20, md_l hG.1 hG.2.2.2.1, ifE (by omega) (by omega) (by omega) (by omega), if_neg (by omega), cv_eq (kd_70 hG.1), mCode hG.1 hk hG.2.2.2.1 hi, bI_eq, mdGen c0 (by omega), bI_eq, show (0 : Int32) = iz 0 from rfl, ifQ (by omega) (by omega) (by omega) (by omega), mdGen c0 (by omega), bI_eq, show (1 : Int32) = iz 1 from rfl, ifQ (by omega) (by omega) (by omega) (by omega), iz_add, nm_eq, show ((i : Int) + 1) = ((i + 1 : Nat) : Int) by omega]
      by_cases q0 : gen c = 0
      · rw [if_pos q0, if_pos q0]
      · rw [if_neg q0, if_neg q0]
        unfold F_Md_twins_L61
        by_cases q1 : gen c = 1
        · rw [if_pos q1, show (16 : Int32) = iz 16 from rfl, dZ_eq (by omega) (by omega), iz_ediv (by omega) (by omega) (by omega) (by omega), iz_emod (by omega) (by omega) (by omega) (by omega), nm_eq, show (1 : Int32) = iz 1 from rfl, ifQ (by omega) (by omega) (by omega) (by omega), iz_add, iz_sub]
          by_cases q2 : c / 16 % 16 = 1
          · rw [if_pos q2, show sib c = c + 16 by omega]
          · rw [if_neg q2, show sib c = c - 16 by omega]
        · rw [if_neg q1, show (16 : Int32) = iz 16 from rfl, dZ_eq (by omega) (by omega), iz_ediv (by omega) (by omega) (by omega) (by omega), iz_emod (by omega) (by omega) (by omega) (by omega), nm_eq, show (1 : Int32) = iz 1 from rfl, ifQ (by omega) (by omega) (by omega) (by omega), iz_add, iz_sub]
          by_cases q2 : c / 1 % 16 = 1
          · rw [if_pos q2, show sib c = c + 1 by omega]
          · rw [if_neg q2, show sib c = c - 1 by omega]
    by_cases q0 : gen c = 0
    · refine ⟨M, ?_, trivial, hG⟩
      show F_Md_twins_L20 (n + 1) 70 (iz t) (iz x) (iz (i : Int)) M = _
      rw [hd, if_pos q0, cst_f (fun z => z.1 q0)]
    · obtain ⟨M', z1, z2⟩ := mTw92 hk hG t1 t2 (F_Md_twins_L20 n) (v := x) (i := i) fi.1 q0
      refine ⟨M', ?_, trivial, z2⟩
      show F_Md_twins_L20 (n + 1) 70 (iz t) (iz x) (iz (i : Int)) M = _
      rw [hd, if_neg q0]; exact z1) (by omega) 0 trivial g2
  rw [two_cnt _ (gf_perm g2.2.2.2.1 k1.1), foldl_cst] at e3
  refine ⟨iz (cnt (twB S t) L), M1, M3, eC, h1, c1, ?_, i1.q g3.2.2.2.2⟩
  show bV (F_Md_gathers 70 (iz t) M1) _ = _
  rw [e2, bV_eq]
  exact e3
end FrTwin2
