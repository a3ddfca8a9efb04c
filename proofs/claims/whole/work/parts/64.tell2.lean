/-! ===== tell: the reference, and both ===== -/
section Tell2
variable {S : Sc}
theorem MdL.om {M M' : am_M} {p : Sk} (h : MdL M p) (hf : Fr AOm M M') : MdL M' p := by
  have e : ∀ b j, (b = 80 ∨ b = 81 ∨ (b = 70 ∧ j < 40)) → rI M' b j = rI M b j := fun b j q => hf.ri (fun w => by unfold AOm at w; omega)
  obtain ⟨⟨l1, l2, l3⟩, l4, l5⟩ := h
  exact ⟨⟨by rw [e _ _ (by omega)]; exact l1, fun i q1 q2 => by rw [e _ _ (by omega)]; exact l2 i q1 q2, fun i q1 q2 => by rw [e _ _ (by omega)]; exact l3 i q1 q2⟩, by rw [e _ _ (by omega)]; exact l4, by rw [e _ _ (by omega)]; exact l5⟩
theorem mTlE {M : am_M} {p : Sk} {i : Int} (i1 : 0 ≤ i) (i2 : i < 3) (hp : 0 ≤ kBg p i ∧ kBg p i < 320) {L : List Int} (h : SH M) (hL : MdL M p) (hO : MO M L) (hn : L.length ≤ 1000) (n : Nat) : ∃ M', F_Md_tell_L133 (n + 1) 70 (iz i) M = F_Md_tell_L133 n 70 (iz (i + 1)) M' ∧ Fr AOm M M' ∧ MO M' (tlE L p i) := by
  obtain ⟨M1, u1, f1, o1⟩ := mSay h hO (by omega) (x := 32) (by omega) (by omega)
  have h1 := h.fr f1
  have l1 := len1 L 32
  obtain ⟨M2, u2, f2, o2⟩ := mNum h1 o1 (by omega) hp.1 (by omega)
  refine ⟨M2, ?_, f1.trans f2, o2⟩
  have hL1 := hL.om f1
  rw [F_Md_tell_L133, show (3 : Int32) = iz 3 from rfl, ifE (by omega) (by omega) (by omega) (by omega), if_neg (by omega), cv_eq (kd_70 h), show (32 : Int32) = iz 32 from rfl, u1, bV_eq, fR_eq (kd_70 h1) (rr_70_30 h1), aI_eq (kd_80 h1) (ln_80 h1) i1 (by omega) (by omega), hL1.1.2.1 i i1 i2, cv_eq (kd_70 h1), u2, bV_eq, nm_eq, show (1 : Int32) = iz 1 from rfl, iz_add]
theorem mTlD {M : am_M} {p : Sk} (hk : scOK S) (hp : skG S p) (hbn : kBn p < 100000) {L : List Int} (h : SH M) (hL : MdL M p) (hO : MO M L) (hn : L.length ≤ 500) : ∃ M', F_Md_tell_L103 70 M = some (some (.int (iz ((tlE (tlE (tlE (tlD L p) p 0) p 1) p 2).length : Int))), M') ∧ Fr AOm M M' ∧ MO M' (tlE (tlE (tlE (tlD L p) p 0) p 1) p 2) := by
  obtain ⟨⟨a1, a2, a3, a4, a5, a6⟩, -⟩ := id hp
  obtain ⟨m, hm⟩ : ∃ m, fu = m + 1 + 1 + 1 + 1 := ⟨fu - 4, by have := fu_ge; omega⟩
  obtain ⟨M1, u1, f1, o1⟩ := mSay h hO (by omega) (x := 32) (by omega) (by omega)
  have h1 := h.fr f1
  have l1 := len1 L 32
  obtain ⟨M2, u2, f2, o2⟩ := mNum h1 o1 (by omega) (v := kBn p) (by omega) (by omega)
  have h2 := h1.fr f2
  have l2 := lenN (L ++ [32]) (kBn p)
  obtain ⟨M3, u3, f3, o3⟩ := mSay h2 o2 (by omega) (x := 45) (by omega) (by omega)
  have h3 := h2.fr f3
  have l3 := len1 ((L ++ [32]) ++ numS (kBn p)) 45
  obtain ⟨M4, u4, f4, o4⟩ := mNum h3 o3 (by omega) (v := kEn p) (by omega) (by omega)
  have h4 := h3.fr f4
  have l4 := tlD_len L p
  have fr3 := (f1.trans f2).trans f3
  have fr4 := fr3.trans f4
  have d0 := hp.bd hk (i := 0) (by omega) (by omega)
  have d1 := hp.bd hk (i := 1) (by omega) (by omega)
  have d2 := hp.bd hk (i := 2) (by omega) (by omega)
  obtain ⟨M5, u5, f5, o5⟩ := mTlE (i := 0) (by omega) (by omega) d0.1 h4 (hL.om fr4) o4 (L := tlD L p) (by omega) (m + 1 + 1 + 1)
  have h5 := h4.fr f5
  have fr5 := fr4.trans f5
  have l5 := tlE_len (tlD L p) p 0
  obtain ⟨M6, u6, f6, o6⟩ := mTlE (i := 0 + 1) (by omega) (by omega) d1.1 h5 (hL.om fr5) o5 (by omega) (m + 1 + 1)
  have h6 := h5.fr f6
  have fr6 := fr5.trans f6
  have l6 := tlE_len (tlE (tlD L p) p 0) p (0 + 1)
  obtain ⟨M7, u7, f7, o7⟩ := mTlE (i := 0 + 1 + 1) (by omega) (by omega) d2.1 h6 (hL.om fr6) o6 (by omega) (m + 1)
  have h7 := h6.fr f7
  refine ⟨M7, ?_, fr6.trans f7, o7⟩
  have e7 : rI M7 70 41 = iz ((tlE (tlE (tlE (tlD L p) p 0) p 1) p 2).length : Int) := o7.1
  have hL1 := hL.om f1
  have hL3 := hL.om fr3
  unfold F_Md_tell_L103
  rw [cv_eq (kd_70 h), show (32 : Int32) = iz 32 from rfl, u1, bV_eq, fI_eq (kd_70 h1), hL1.2.1, cv_eq (kd_70 h1), u2, bV_eq, cv_eq (kd_70 h2), show (45 : Int32) = iz 45 from rfl, u3, bV_eq, fI_eq (kd_70 h3), hL3.2.2, cv_eq (kd_70 h3), u4, bV_eq, hm, show (0 : Int32) = iz 0 from rfl, u5, u6, u7, F_Md_tell_L133, if_pos (by decide), fI_eq (kd_70 h7), e7]
theorem mTlC {M : am_M} {z : Int} (hk : scOK S) (hz : isSp S z) {L : List Int} (h : SH M) (hL : MdL M (lay S z)) (hO : MO M L) (hn : L.length ≤ 300) : ∃ M', F_Md_tell_L78 70 (iz z) M = some (some (.int (iz ((tlE (tlE (tlE (tlD (tlC L z) (lay S z)) (lay S z) 0) (lay S z) 1) (lay S z) 2).length : Int))), M') ∧ Fr AOm M M' ∧ MO M' (tlE (tlE (tlE (tlD (tlC L z) (lay S z)) (lay S z) 0) (lay S z) 1) (lay S z) 2) := by
  have gp := lay_g hk hz
  have lb := lay_bn hk hz
  have rt := sp_rt hk hz
  have c0 := hz.1
  have pre : F_Md_tell_L78 70 (iz z) M = if z % 16 ≤ 0 then F_Md_tell_L103 70 M else (cv M 70 13 ( bV (F_Md_says 70 46 M) (fun M21 => bI (F_Md_second (iz (z % 256)) M21) (fun r23 M22 => cv M22 70 13 ( bV (F_Md_saysNumber 70 r23 M22) (fun M24 => F_Md_tell_L103 70 M24)))))) := by
    unfold F_Md_tell_L78
    rw [show (16 : Int32) = iz 16 from rfl, show (256 : Int32) = iz 256 from rfl, show (0 : Int32) = iz 0 from rfl, iz_emod c0 (by omega) (by omega) (by omega), iz_emod c0 (by omega) (by omega) (by omega), ifE (by omega) (by omega) (by omega) (by omega)]
  by_cases g : gen z = 2
  · have zz : z % 16 ≠ 0 := by rcases gen_c z with ⟨_, q⟩ | ⟨_, _, q⟩ | ⟨q, _⟩ <;> omega
    obtain ⟨M1, u1, f1, o1⟩ := mSay h hO (by omega) (x := 46) (by omega) (by omega)
    have h1 := h.fr f1
    have l1 := len1 L 46
    obtain ⟨M2, u2, f2, o2⟩ := mNum h1 o1 (by omega) (v := z % 16 - 1) (by omega) (by omega)
    have h2 := h1.fr f2
    have l2 := lenN (L ++ [46]) (z % 16 - 1)
    have fr2 := f1.trans f2
    obtain ⟨M3, u3, f3, o3⟩ := mTlD hk gp (by omega) h2 (hL.om fr2) o2 (by omega)
    have e : tlC L z = (L ++ [46]) ++ numS (z % 16 - 1) := by unfold tlC; rw [if_pos g]
    have es : F_Md_second (iz (z % 256)) M1 = some (some (.int (iz (z % 16 - 1))), M1) := by
      unfold F_Md_second
      rw [show (16 : Int32) = iz 16 from rfl, show (1 : Int32) = iz 1 from rfl, iz_emod (by omega) (by omega) (by omega) (by omega), iz_sub, show z % 256 % 16 = z % 16 by omega]
    rw [e]
    refine ⟨M3, ?_, fr2.trans f3, o3⟩
    rw [pre, if_neg (by omega), cv_eq (kd_70 h), show (46 : Int32) = iz 46 from rfl, u1, bV_eq, es, bI_eq, cv_eq (kd_70 h1), u2, bV_eq, u3]
  · have zz : z % 16 = 0 := by rcases gen_c z with ⟨_, q⟩ | ⟨_, _, q⟩ | ⟨_, q⟩ <;> omega
    have e : tlC L z = L := by unfold tlC; rw [if_neg g]
    rw [e, pre, if_pos (by omega)]
    exact mTlD hk gp (by omega) h hL hO (by omega)
noncomputable def tellG (c : Int32) (M1 : am_M) : am_R :=
  (cv M1 70 13 ( bV (F_Md_lays 70 c M1) (fun M3 => sI M3 70 13 41 0 (fun M4 => fI M4 70 13 27 (fun x5 => cv M4 70 13 ( bV (F_Md_says 70 (97 + x5) M4) (fun M6 => cv M6 70 13 ( bV (F_Md_saysNumber 70 ((c / 256) - (c / 256) / 4 * 4) M6) (fun M7 => cv M7 70 13 ( bV (F_Md_saysNumber 70 (c / 1024) M7) (fun M8 => if (c - c / 256 * 256) ≤ 0 then (F_Md_tell_L78 70 c M8) else (cv M8 70 13 ( bV (F_Md_says 70 46 M8) (fun M25 => bI (F_Md_first (c - c / 256 * 256) M25) (fun r27 M26 => cv M26 70 13 ( bV (F_Md_saysNumber 70 r27 M26) (fun M28 => F_Md_tell_L78 70 c M28)))))))))))))))))
theorem mTell {M : am_M} {z : Int} (hk : scOK S) (hz : isSp S z) (h : SH M) (hm : MS M S) : ∃ M1 M', tellG (iz z) M = some (some (.int (iz ((tlS S z).length : Int))), M') ∧ Fr ASc M M1 ∧ Fr AOm M1 M' ∧ MO M' (tlS S z) := by
  have gp := lay_g hk hz
  have lb := lay_bn hk hz
  have rt := sp_rt hk hz
  have c0 := hz.1
  have kb := lay_kb hk hz
  have nk := hk.2.1
  obtain ⟨Ml, ul, fl, hL⟩ := mLays h hm hk hz
  have hl := h.fr fl
  have f0 : Fr AOm Ml (wI Ml 70 41 0) := Fr.wI (Or.inr ⟨rfl, rfl⟩)
  have h0 := hl.fr f0
  have o0 : MO (wI Ml 70 41 0) [] := ⟨rI_at rfl rfl, fun i x q => by simp at q⟩
  have ln0 : ([] : List Int).length = 0 := rfl
  obtain ⟨M1, u1, f1, o1⟩ := mSay h0 o0 (by omega) (x := 97 + kKd (lay S z)) (by omega) (by omega)
  have h1 := h0.fr f1
  have l1 := len1 [] (97 + kKd (lay S z))
  obtain ⟨M2, u2, f2, o2⟩ := mNum h1 o1 (by omega) (v := z / 256 % 4) (by omega) (by omega)
  have h2 := h1.fr f2
  have l2 := lenN ([] ++ [97 + kKd (lay S z)]) (z / 256 % 4)
  obtain ⟨M3, u3, f3, o3⟩ := mNum h2 o2 (by omega) (v := z / 1024) (by omega) (by omega)
  have h3 := h2.fr f3
  have l3 := tlA_len (lay S z) z
  have fr3 := ((f0.trans f1).trans f2).trans f3
  have hL0 := hL.om f0
  have hL3 := hL.om fr3
  have o3 : MO M3 (tlA (lay S z) z) := o3
  have pre : ∀ R : am_R, ((if z % 256 ≤ 0 then (F_Md_tell_L78 70 (iz z) M3) else (cv M3 70 13 ( bV (F_Md_says 70 46 M3) (fun M25 => bI (F_Md_first (iz (z % 256)) M25) (fun r27 M26 => cv M26 70 13 ( bV (F_Md_saysNumber 70 r27 M26) (fun M28 => F_Md_tell_L78 70 (iz z) M28))))))) : am_R) = R → tellG (iz z) M = R := fun R hR => by
    rw [← hR]
    unfold tellG
    rw [show (256 : Int32) = iz 256 from rfl, show (4 : Int32) = iz 4 from rfl, show (1024 : Int32) = iz 1024 from rfl, iz_emod (a := z) (by omega) (by omega) (by omega) (by omega), iz_ediv (a := z) (b := 256) (by omega) (by omega) (by omega) (by omega), iz_emod (by omega) (by omega) (by omega) (by omega), iz_ediv (a := z) (b := 1024) (by omega) (by omega) (by omega) (by omega), cv_eq (kd_70 h), ul, bV_eq, sI_eq (kd_70 hl), fI_eq (kd_70 h0), hL0.1.1, cv_eq (kd_70 h0), show (97 : Int32) = iz 97 from rfl, iz_add, u1, bV_eq, cv_eq (kd_70 h1), u2, bV_eq, cv_eq (kd_70 h2), u3, bV_eq, show (0 : Int32) = iz 0 from rfl, ifE (by omega) (by omega) (by omega) (by omega)]
  unfold tlS
  by_cases g : gen z = 0
  · have zz : z % 256 = 0 := by rcases gen_c z with ⟨q, _⟩ | ⟨_, _, q⟩ | ⟨_, q⟩ <;> omega
    have e : tlB (tlA (lay S z) z) z = tlA (lay S z) z := by unfold tlB; rw [if_pos g]
    rw [e]
    obtain ⟨M4, u4, f4, o4⟩ := mTlC hk hz h3 hL3 o3 (by omega)
    exact ⟨Ml, M4, pre _ (by rw [if_pos (by omega), u4]), fl.mono ALd_ASc, fr3.trans f4, o4⟩
  · have zz : z % 256 ≠ 0 := by rcases gen_c z with ⟨_, q⟩ | ⟨q, _, _⟩ | ⟨q, _⟩ <;> omega
    have z16 : 1 ≤ z % 256 / 16 := by
      obtain ⟨-, -, -, q⟩ := hz
      omega
    obtain ⟨M4, u4, f4, o4⟩ := mSay h3 o3 (by omega) (x := 46) (by omega) (by omega)
    have h4 := h3.fr f4
    have l4 := len1 (tlA (lay S z) z) 46
    obtain ⟨M5, u5, f5, o5⟩ := mNum h4 o4 (by omega) (v := z / 16 % 16 - 1) (by omega) (by omega)
    have h5 := h4.fr f5
    have l5 := lenN (tlA (lay S z) z ++ [46]) (z / 16 % 16 - 1)
    have fr5 := (fr3.trans f4).trans f5
    obtain ⟨M6, u6, f6, o6⟩ := mTlC hk hz h5 (hL.om fr5) o5 (by omega)
    have e : tlB (tlA (lay S z) z) z = (tlA (lay S z) z ++ [46]) ++ numS (z / 16 % 16 - 1) := by unfold tlB; rw [if_neg g]
    have ef : F_Md_first (iz (z % 256)) M4 = some (some (.int (iz (z / 16 % 16 - 1))), M4) := by
      unfold F_Md_first
      rw [show (16 : Int32) = iz 16 from rfl, show (1 : Int32) = iz 1 from rfl, iz_ediv (by omega) (by omega) (by omega) (by omega), iz_sub, show z % 256 / 16 = z / 16 % 16 by omega]
    rw [e]
    refine ⟨Ml, M6, pre _ ?_, fl.mono ALd_ASc, fr5.trans f6, o6⟩
    rw [if_neg (by omega), cv_eq (kd_70 h3), show (46 : Int32) = iz 46 from rfl, u4, bV_eq, ef, bI_eq, cv_eq (kd_70 h4), u5, bV_eq, u6]
theorem ap_tell {M : am_M} (h : Inv M) (c : Int32) : Ag (F_NS_tell 0 c) (F_Md_tell 70 c) M := by
  obtain ⟨hS, -⟩ := id h
  have hN : ∀ M, F_NS_tell 0 c M = fR M 0 12 8 (fun b1 => cv M b1 4 ( bR (F_Find_find b1 c M) (fun M2 => some (some (.int (-2)), M2)) (fun b3 M2 => tellK c b3 M2))) := fun M => rfl
  have hD : ∀ M, F_Md_tell 70 c M = cv M 70 13 ( bI (F_Md_isSpark 70 c M) (fun r2 M1 => if r2 = 0 then (some (some (.int (-2)), M1)) else tellG c M1)) := fun M => rfl
  rcases one_fd h c (Or.inl rfl) with ⟨a, b⟩ | ⟨S, z, b, M1, rfl, hs1, hs, u1, fr, -, sp, b1, b2, hL⟩
  · refine Ag.p h (v := -2) ?_ ?_
    · rw [hN, fR_eq (kd_0 hS) (rr_0_8 hS), cv_eq (kd_49 hS), a, bR_null]
    · rw [hD, cv_eq (kd_70 hS), b, bI_eq, if_pos (by decide)]
  · have hS1 := hS.fr fr
    have hs1' := hs1.q h.2.1 fr
    have hk := hs1'.1
    obtain ⟨M2, u2, f2, o2⟩ := cTell b1 hk hs hS1 sp hL hs1'.2.2.2.1
    have hS2 := hS1.fr f2
    have f12 : Fr AO M M2 := (fr.mono ASc_AO).trans (f2.mono AOc_AO)
    have hs2 := hs1.o h.2.1 f12
    obtain ⟨M3, M4, u3, f3, f4, o4⟩ := mTell hk hs hS2 hs2.2.2.2.2.1
    refine ⟨iz ((tlS S z).length : Int), M2, M4, ?_, ?_, h.o (f12.trans ((f3.mono ASc_AO).trans (f4.mono AOm_AO))) (CO.out (L := tlS S z) ?_ o4 (by have := tlS_len S z; omega))⟩
    · rw [hN, fR_eq (kd_0 hS) (rr_0_8 hS), cv_eq (kd_49 hS), u1, bR_eq, u2]
    · rw [hD, cv_eq (kd_70 hS2), mYes hS2 hs2 hs, bI_eq, if_neg (by decide), u3]
    · exact (o2.fr f3 (fun b j q => by unfold ASc at q; omega)).fr f4 (fun b j q => by unfold AOm at q; omega)
end Tell2
