/-! ===== questions of one spark ===== -/
section One
variable {M : am_M}
/-- the two sides, asked for one spark: both say there is none, or both lay it -/
theorem one_no (h : Inv M) {S : Sc} {st : Int} (s01 : st = 0 ∨ st = 1) (s1 : rI M 2 7 = iz st) (s2 : rI M 70 1 = iz st) (hc : CS M S) (hm : MS M S) (h1 : st = 1 → Sc1 M S) {c : Int} (c1 : -2147483648 ≤ c) (c2 : c < 2147483648) (hn : st = 1 → ¬ isSp S c) : F_Scen_hasSpark 2 (iz c) M = some (some (.int (iz 0)), M) ∧ F_Md_isSpark 70 (iz c) M = some (some (.int (iz 0)), M) := by
  obtain ⟨hS, -⟩ := id h
  rcases s01 with rfl | rfl
  · exact ⟨cHas0 hS s1 _, mIsSp0 hS s2 _⟩
  · have hk := (h1 rfl).1
    have e : bz (spB S c = true) = iz 0 := bz_f (fun q => hn rfl (spB_t.mp q))
    exact ⟨by rw [cHas hS hc hk s1 c1 c2, e], by rw [mIsSp hS hm hk s2 c1 c2, e]⟩
/-- cases of a question about a spark -/
theorem one_cs (h : Inv M) (c : Int32) : (F_Scen_hasSpark 2 c M = some (some (.int (iz 0)), M) ∧ F_Md_isSpark 70 c M = some (some (.int (iz 0)), M)) ∨ ∃ S z, c = iz z ∧ Sc1 M S ∧ isSp S z ∧ F_Scen_hasSpark 2 c M = some (some (.int (iz 1)), M) ∧ F_Md_isSpark 70 c M = some (some (.int (iz 1)), M) := by
  obtain ⟨hS, -⟩ := id h
  obtain ⟨S, st, s01, s1, s2, hc, hm, hb, h1, h0⟩ := h.sc
  obtain ⟨z, z1, z2, rfl⟩ := iz_of c
  by_cases g : st = 1 ∧ isSp S z
  · obtain ⟨rfl, g⟩ := g
    have hk := (h1 rfl).1
    have e : bz (spB S z = true) = iz 1 := bz_t (spB_t.mpr g)
    exact Or.inr ⟨S, z, rfl, h1 rfl, g, by rw [cHas hS hc hk s1 z1 z2, e], by rw [mIsSp hS hm hk s2 z1 z2, e]⟩
  · exact Or.inl (one_no h s01 s1 s2 hc hm h1 z1 z2 (fun q g2 => g ⟨q, g2⟩))
theorem ap_is (h : Inv M) (c : Int32) : Ag (F_NS_is 0 c) (F_Md_is 70 c) M := by
  obtain ⟨hS, -⟩ := id h
  obtain ⟨S, st, s01, s1, s2, -⟩ := h.sc
  rcases s01 with rfl | rfl
  · refine Ag.p h (v := -2) ?_ ?_
    · unfold F_NS_is; rw [fR_eq (kd_0 hS) (rr_0_2 hS), fI_eq (kd_2 hS), s1, if_pos (by decide)]
    · unfold F_Md_is; rw [fI_eq (kd_70 hS), s2, if_pos (by decide)]
  · rcases one_cs h c with ⟨a, b⟩ | ⟨-, -, -, -, -, a, b⟩
    · refine Ag.p h (v := 0) ?_ ?_
      · unfold F_NS_is; rw [fR_eq (kd_0 hS) (rr_0_2 hS), fI_eq (kd_2 hS), s1, if_neg (by decide), fR_eq (kd_0 hS) (rr_0_2 hS), cv_eq (kd_2 hS), a, bI_eq, if_pos (by decide)]
      · unfold F_Md_is; rw [fI_eq (kd_70 hS), s2, if_neg (by decide), cv_eq (kd_70 hS), b, bI_eq, if_pos (by decide)]
    · refine Ag.p h (v := 1) ?_ ?_
      · unfold F_NS_is; rw [fR_eq (kd_0 hS) (rr_0_2 hS), fI_eq (kd_2 hS), s1, if_neg (by decide), fR_eq (kd_0 hS) (rr_0_2 hS), cv_eq (kd_2 hS), a, bI_eq, if_neg (by decide)]
      · unfold F_Md_is; rw [fI_eq (kd_70 hS), s2, if_neg (by decide), cv_eq (kd_70 hS), b, bI_eq, if_neg (by decide)]
/-- the kind of a spark, by its code alone -/
def kdS (S : Sc) (c : Int) : Int := if gen c = 0 then sQ S (c / 256 % 4) 0 else if gen c = 1 then sK S (sQ S (c / 256 % 4) 0) 7 else sK S (sK S (sQ S (c / 256 % 4) 0) 7) 7
theorem gen_c (c : Int) : (c % 256 = 0 ∧ gen c = 0) ∨ (c % 256 ≠ 0 ∧ c % 16 = 0 ∧ gen c = 1) ∨ (c % 16 ≠ 0 ∧ gen c = 2) := by
  unfold gen
  by_cases q : c % 16 = 0
  · by_cases q2 : c % 256 = 0
    · rw [if_pos q, if_pos q2]; omega
    · rw [if_pos q, if_neg q2]; omega
  · rw [if_neg q]; omega
theorem lay_kd (S : Sc) (c : Int) : kKd (lay S c) = kdS S c := by
  unfold kdS lay
  rcases gen_c c with ⟨a, b⟩ | ⟨a, a2, b⟩ | ⟨a, b⟩
  · rw [if_pos a, b, if_pos rfl]; rfl
  · rw [if_neg a, if_pos (by omega), b, if_neg (by omega), if_pos rfl]; rfl
  · rw [if_neg (by omega), if_neg (by omega), b, if_neg (by omega), if_neg (by omega)]; rfl
theorem lay_kb {S : Sc} (hk : scOK S) {c : Int} (h : isSp S c) : 0 ≤ kKd (lay S c) ∧ kKd (lay S c) < sNk S := (lay_g hk h).1.1
theorem cKind (hS : SH M) {S : Sc} (hc : CS M S) (hk : scOK S) {c : Int} (hs : isSp S c) : F_Scen_kindOfSpark 2 (iz c) M = some (some (.int (iz (kKd (lay S c)))), M) := by
  obtain ⟨c0, s2, k2, -⟩ := id hs
  have rt := sp_rt hk hs
  have nk := hk.2.1
  have ns := hk.2.2.1
  obtain ⟨z0, -⟩ := hk.2.2.2.2.2 (c / 256 % 4) (by omega) s2
  obtain ⟨m, hm⟩ : ∃ m, fu = m + 1 + 1 + 1 := ⟨fu - 3, by have := fu_ge; omega⟩
  have gb := gen_bd c
  have step : ∀ (n : Nat) (k g : Int), g = gen c → F_Scen_kindOfSpark_L12 (n + 1) 2 (iz c) (iz k) (iz g) M = some (some (.int (iz k)), M) := fun n k g e => by
    rw [F_Scen_kindOfSpark_L12, nsGen c0 (by omega), bI_eq, e, if_pos (Int32.le_refl _)]
  have next : ∀ (n : Nat) (k g : Int), 0 ≤ g → g < gen c → 0 ≤ k → k < sNk S → F_Scen_kindOfSpark_L12 (n + 1) 2 (iz c) (iz k) (iz g) M = F_Scen_kindOfSpark_L12 n 2 (iz c) (iz (sK S k 7)) (iz (g + 1)) M := fun n k g e1 e2 k1 k2 => by
    rw [F_Scen_kindOfSpark_L12, nsGen c0 (by omega), bI_eq, ifE (by omega) (by omega) (by omega) (by omega), if_neg (by omega), show (3 : Int32) = iz 3 from rfl, ifE (by omega) (by omega) (by omega) (by omega), if_neg (by omega), cv_eq (kd_2 hS), show (7 : Int32) = iz 7 from rfl, cK hS hc k1 (by omega) (by omega) (by omega), bI_eq, nm_eq, show (1 : Int32) = iz 1 from rfl, iz_add]
  unfold F_Scen_kindOfSpark
  rw [nsSrc c0 (by omega), bI_eq, cv_eq (kd_2 hS), show (0 : Int32) = iz 0 from rfl, cQ hS hc (by omega) (by omega) (by omega) (by omega), bI_eq, lay_kd, hm]
  unfold kdS
  rcases gen_c c with ⟨a, b⟩ | ⟨a, a2, b⟩ | ⟨a, b⟩
  · rw [b, if_pos rfl, step _ _ _ b.symm]
  · have k1 := sp_k1 hk hs a
    rw [b, if_neg (by omega), if_pos rfl, next _ _ _ (by omega) (by omega) z0.1 z0.2, step _ _ _ (by omega)]
  · have k1 := sp_k1 hk hs (by omega)
    rw [lay0_kd] at k1
    rw [b, if_neg (by omega), if_neg (by omega), next _ _ _ (by omega) (by omega) z0.1 z0.2, next _ _ _ (by omega) (by omega) k1.1 k1.2, step _ _ _ (by omega)]
theorem mKind (hS : SH M) {S : Sc} (hc : MS M S) (hk : scOK S) {c : Int} (hs : isSp S c) : F_Md_kindOf 70 (iz c) M = some (some (.int (iz (kKd (lay S c)))), M) := by
  obtain ⟨c0, s2, k2, -⟩ := id hs
  have rt := sp_rt hk hs
  have nk := hk.2.1
  have ns := hk.2.2.1
  obtain ⟨z0, -⟩ := hk.2.2.2.2.2 (c / 256 % 4) (by omega) s2
  obtain ⟨m, hm⟩ : ∃ m, fu = m + 1 + 1 + 1 := ⟨fu - 3, by have := fu_ge; omega⟩
  have stop : ∀ (n : Nat) (k : Int), F_Md_kindOf_L29 (n + 1) 70 (iz k) (iz 0) M = some (some (.int (iz k)), M) := fun n k => by
    rw [F_Md_kindOf_L29, if_pos (by decide)]
  have next : ∀ (n : Nat) (k g : Int), 0 < g → g ≤ 2 → 0 ≤ k → k < sNk S → F_Md_kindOf_L29 (n + 1) 70 (iz k) (iz g) M = F_Md_kindOf_L29 n 70 (iz (sK S k 7)) (iz (g - 1)) M := fun n k g e1 e2 k1 k2 => by
    rw [F_Md_kindOf_L29, show (0 : Int32) = iz 0 from rfl, ifE (by omega) (by omega) (by omega) (by omega), if_neg (by omega), fR_eq (kd_70 hS) (rr_70_5 hS), show (8 : Int32) = iz 8 from rfl, show (7 : Int32) = iz 7 from rfl, iz_mul, iz_add, aI_eq (kd_72 hS) (ln_72 hS) (by omega) (by omega) (by omega), hc.2.1 k 7 k1 k2 (by omega) (by omega), nm_eq, show (-1 : Int32) = iz (-1) from rfl, iz_add]
    rfl
  have eg : gen (256 + c % 256) = gen c := by unfold gen; rw [show (256 + c % 256) % 16 = c % 16 by omega, show (256 + c % 256) % 256 = c % 256 by omega]
  unfold F_Md_kindOf
  rw [show (256 : Int32) = iz 256 from rfl, show (4 : Int32) = iz 4 from rfl, iz_emod (a := c) (by omega) (by omega) (by omega) (by omega), iz_ediv (a := c) (by omega) (by omega) (by omega) (by omega), iz_emod (by omega) (by omega) (by omega) (by omega), nm_eq, cv_eq (kd_70 hS), show (0 : Int32) = iz 0 from rfl, mQ hS hc ns.2 (by omega) s2 (by omega) (by omega), bI_eq, iz_add, mdGen (by omega) (by omega), bI_eq, eg, lay_kd, hm]
  unfold kdS
  rcases gen_c c with ⟨a, b⟩ | ⟨a, a2, b⟩ | ⟨a, b⟩
  · rw [b, if_pos rfl, stop]
  · rw [b, if_neg (by omega), if_pos rfl, next _ _ _ (by omega) (by omega) z0.1 z0.2]
    exact stop _ _
  · have k1 := sp_k1 hk hs (by omega)
    rw [lay0_kd] at k1
    rw [b, if_neg (by omega), if_neg (by omega), next _ _ _ (by omega) (by omega) z0.1 z0.2, next _ _ _ (by omega) (by omega) k1.1 k1.2]
    exact stop _ _
theorem ap_child (h : Inv M) (c i : Int32) : Ag (F_NS_child 0 c i) (F_Md_child 70 c i) M := by
  obtain ⟨hS, -⟩ := id h
  rcases one_cs h c with ⟨a, b⟩ | ⟨S, z, rfl, hs1, hs, a, b⟩
  · refine Ag.p h (v := -2) ?_ ?_
    · unfold F_NS_child; rw [fR_eq (kd_0 hS) (rr_0_2 hS), cv_eq (kd_2 hS), a, bI_eq, if_pos (by decide)]
    · unfold F_Md_child; rw [cv_eq (kd_70 hS), b, bI_eq, if_pos (by decide)]
  obtain ⟨hk, s1, s2, hc, hm, -⟩ := id hs1
  have rt := sp_rt hk hs
  have c0 := hs.1
  have nk := hk.2.1
  have kb := lay_kb hk hs
  have gb := gen_bd z
  obtain ⟨y0, y1, y2, y3, y4, y5, y6⟩ := hk.2.2.2.2.1 _ kb.1 kb.2
  obtain ⟨j, j1, j2, rfl⟩ := iz_of i
  have ec : F_NS_child 0 (iz z) (iz j) M = (if gen z = 2 then some (some (.int (-1)), M) else if j < 0 then some (some (.int (-1)), M) else if j < sK S (kKd (lay S z)) 6 then F_NS_codeOfChild (iz z) (iz (gen z)) (iz j) M else some (some (.int (-1)), M)) := by
    unfold F_NS_child
    rw [fR_eq (kd_0 hS) (rr_0_2 hS), cv_eq (kd_2 hS), a, bI_eq, if_neg (by decide), nsGen c0 (by omega), bI_eq, show (2 : Int32) = iz 2 from rfl, ifQ (by omega) (by omega) (by omega) (by omega), show (0 : Int32) = iz 0 from rfl, ifL j1 j2 (by omega) (by omega), fR_eq (kd_0 hS) (rr_0_2 hS), fR_eq (kd_0 hS) (rr_0_2 hS), cv_eq (kd_2 hS), cKind hS hc hk hs, bI_eq, cv_eq (kd_2 hS), show (6 : Int32) = iz 6 from rfl, cK hS hc kb.1 (by omega) (by omega) (by omega), bI_eq, ifL j1 j2 (by omega) (by omega)]
    have e2 : bI (F_NS_codeOfChild (iz z) (iz (gen z)) (iz j) M) (fun r13 M12 => some (some (.int r13), M12)) = F_NS_codeOfChild (iz z) (iz (gen z)) (iz j) M := by
      unfold F_NS_codeOfChild
      split <;> rfl
    rw [e2]
  have em : F_Md_child 70 (iz z) (iz j) M = (if gen z = 2 then some (some (.int (-1)), M) else if 0 ≤ j ∧ j < sK S (kKd (lay S z)) 6 then F_NS_codeOfChild (iz z) (iz (gen z)) (iz j) M else some (some (.int (-1)), M)) := by
    unfold F_Md_child F_Md_childOf
    rw [cv_eq (kd_70 hS), b, bI_eq, if_neg (by decide), cv_eq (kd_70 hS), mdGen c0 (by omega), bI_eq, show (2 : Int32) = iz 2 from rfl, ifQ (by omega) (by omega) (by omega) (by omega), cv_eq (kd_70 hS), mKind hS hm hk hs, bI_eq, cv_eq (kd_70 hS), mHasC hS hm hk kb.1 kb.2 j1 j2, bI_eq, bz_if0]
    unfold F_NS_codeOfChild
    split
    · rfl
    · split
      · split <;> rfl
      · rfl
  have kc : ∃ v, F_NS_codeOfChild (iz z) (iz (gen z)) (iz j) M = some (some (.int v), M) := by
    unfold F_NS_codeOfChild
    split
    · exact ⟨_, rfl⟩
    · exact ⟨_, rfl⟩
  obtain ⟨v, kc⟩ := kc
  by_cases g1 : gen z = 2
  · exact Ag.p h (v := -1) (by rw [ec, if_pos g1]) (by rw [em, if_pos g1])
  by_cases g2 : 0 ≤ j ∧ j < sK S (kKd (lay S z)) 6
  · exact Ag.p h (v := v) (by rw [ec, if_neg g1, if_neg (by omega), if_pos (by omega), kc]) (by rw [em, if_neg g1, if_pos g2, kc])
  · refine Ag.p h (v := -1) ?_ (by rw [em, if_neg g1, if_neg g2])
    rw [ec, if_neg g1]
    by_cases g3 : j < 0
    · rw [if_pos g3]
    · rw [if_neg g3, if_neg (by omega)]
theorem ap_parent (h : Inv M) (c : Int32) : Ag (F_NS_parent 0 c) (F_Md_parent 70 c) M := by
  obtain ⟨hS, -⟩ := id h
  rcases one_cs h c with ⟨a, b⟩ | ⟨S, z, rfl, hs1, hs, a, b⟩
  · refine Ag.p h (v := -2) ?_ ?_
    · unfold F_NS_parent; rw [fR_eq (kd_0 hS) (rr_0_2 hS), cv_eq (kd_2 hS), a, bI_eq, if_pos (by decide)]
    · unfold F_Md_parent; rw [cv_eq (kd_70 hS), b, bI_eq, if_pos (by decide)]
  obtain ⟨hk, s1, s2, hc, hm, -⟩ := id hs1
  have rt := sp_rt hk hs
  have c0 := hs.1
  have ec : F_NS_parent 0 (iz z) M = (if z % 16 = 0 then (if z % 256 = 0 then some (some (.int (iz (-1))), M) else some (some (.int (iz (z - z % 256))), M)) else some (some (.int (iz (z - z % 16))), M)) := by
    unfold F_NS_parent F_NS_codeOfParent
    rw [fR_eq (kd_0 hS) (rr_0_2 hS), cv_eq (kd_2 hS), a, bI_eq, if_neg (by decide), show (15 : Int32) = iz 15 from rfl, show (255 : Int32) = iz 255 from rfl, show (0 : Int32) = iz 0 from rfl, show (-1 : Int32) = iz (-1) from rfl, show (-256 : Int32) = iz (-256) from rfl, show (-16 : Int32) = iz (-16) from rfl, iz_15 c0 (by omega), iz_255 c0 (by omega), iz_n256 c0 (by omega), iz_n16 c0 (by omega), ifQ (by omega) (by omega) (by omega) (by omega), ifQ (by omega) (by omega) (by omega) (by omega)]
    split
    · split <;> rfl
    · rfl
  have em : F_Md_parent 70 (iz z) M = (if gen z = 0 then some (some (.int (iz (-1))), M) else if gen z = 2 then some (some (.int (iz (z - z % 16))), M) else some (some (.int (iz (z - z % 256))), M)) := by
    have gb := gen_bd z
    unfold F_Md_parent F_Md_parentOf
    rw [cv_eq (kd_70 hS), b, bI_eq, if_neg (by decide), mdGen c0 (by omega), bI_eq, show (0 : Int32) = iz 0 from rfl, ifQ (by omega) (by omega) (by omega) (by omega), mdGen c0 (by omega), bI_eq, show (2 : Int32) = iz 2 from rfl, ifQ (by omega) (by omega) (by omega) (by omega), show (16 : Int32) = iz 16 from rfl, show (256 : Int32) = iz 256 from rfl, iz_emod c0 (by omega) (by omega) (by omega), iz_emod c0 (by omega) (by omega) (by omega), iz_sub, iz_sub]
    split
    · rfl
    · split <;> rfl
  rcases gen_c z with ⟨g1, g2⟩ | ⟨g1, g3, g2⟩ | ⟨g1, g2⟩
  · exact Ag.p h (v := iz (-1)) (by rw [ec, if_pos (by omega), if_pos g1]) (by rw [em, if_pos g2])
  · exact Ag.p h (v := iz (z - z % 256)) (by rw [ec, if_pos (by omega), if_neg g1]) (by rw [em, if_neg (by omega), if_neg (by omega)])
  · exact Ag.p h (v := iz (z - z % 16)) (by rw [ec, if_neg g1]) (by rw [em, if_neg (by omega), if_pos g2])
end One
