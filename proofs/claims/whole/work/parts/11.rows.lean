/-! ===== arrays, new cells, calls ===== -/
section RfRows
variable {G : am_G} {l : Launch} {X : am_X} {pc : Nat} {ls st : List Value} {M : am_M} {o : am_R} {x y : Int32} {xl yl : Int64} {i : Int32} {A B : am_R} {a b c k idx : Nat}
theorem r_aI {f : Int32 → am_R} (hd : decode (xC X) pc = .ok (.iaload, 1)) (kk : ∀ x, Rf G l X (pc + 1) ls (.int x :: st) M (f x)) : Rf G l X pc ls (.int i :: .ref a :: st) M (aI M a i f) := by
  unfold aI
  refine Rf.ite (fun h => ?_) (fun _ => Rf.no)
  refine Rf.goH (fun p e R s m args below meth cd cells slots H locs lsR Q hC hH hS hL k2 => ?_) (kk _)
  exact va_iald hC.1 hC.2.1 hC.2.2.2.2.2.2.2.2.2.2.2.1 hH.2 a 0 (by rw [wd_at (kd_lt h.1), cell_I h.1]) rfl h.2 hd k2
theorem r_aB {f : Int32 → am_R} (hd : decode (xC X) pc = .ok (.baload, 1)) (kk : ∀ x, Rf G l X (pc + 1) ls (.int x :: st) M (f x)) : Rf G l X pc ls (.int i :: .ref a :: st) M (aB M a i f) := by
  unfold aB
  refine Rf.ite (fun h => ?_) (fun _ => Rf.no)
  refine Rf.goH (fun p e R s m args below meth cd cells slots H locs lsR Q hC hH hS hL k2 => ?_) (kk _)
  exact va_bald hC.1 hC.2.1 hC.2.2.2.2.2.2.2.2.2.2.2.1 hH.2 a 2 (by rw [wd_at (kd_lt h.1), cell_B h.1]) rfl h.2 hd k2
theorem r_aL {f : Int64 → am_R} (hd : decode (xC X) pc = .ok (.laload, 1)) (kk : ∀ x, Rf G l X (pc + 1) ls (.long x :: st) M (f x)) : Rf G l X pc ls (.int i :: .ref a :: st) M (aL M a i f) := by
  unfold aL
  refine Rf.ite (fun h => ?_) (fun _ => Rf.no)
  refine Rf.goH (fun p e R s m args below meth cd cells slots H locs lsR Q hC hH hS hL k2 => ?_) (kk _)
  exact va_lald hC.1 hC.2.1 hC.2.2.2.2.2.2.2.2.2.2.2.1 hH.2 a 1 (by rw [wd_at (kd_lt h.1), cell_L h.1]) rfl h.2 hd k2
theorem r_aR {f : Nat → am_R} (hd : decode (xC X) pc = .ok (.aaload, 1)) (kk : ∀ b, Rf G l X (pc + 1) ls (.ref b :: st) M (f b)) : Rf G l X pc ls (.int i :: .ref a :: st) M (aR M a i f) := by
  unfold aR
  refine Rf.ite (fun h => ?_) (fun _ => Rf.no)
  cases hr : rR M a i.toNatClampNeg with
  | none => exact Rf.no
  | some b =>
    refine Rf.goH (fun p e R s m args below meth cd cells slots H locs lsR Q hC hH hS hL k2 => ?_) (kk b)
    refine va_aldq hC.1 hC.2.1 hC.2.2.2.2.2.2.2.2.2.2.2.1 hH.2 a 3 (by rw [wd_at (kd_lt h.1), cell_R h.1]) rfl h.2 hd ?_
    rw [hr]
    exact k2
theorem r_aN {f : Int32 → am_R} (hd : decode (xC X) pc = .ok (.arraylength, 1)) (kk : ∀ x, Rf G l X (pc + 1) ls (.int x :: st) M (f x)) : Rf G l X pc ls (.ref a :: st) M (aN M a f) := by
  unfold aN
  refine Rf.ite (fun h => ?_) (fun _ => Rf.no)
  refine Rf.goH (fun p e R s m args below meth cd cells slots H locs lsR Q hC hH hS hL k2 => ?_) (kk _)
  have ha : a < mNx M := kd_lt (t := mKd M a) rfl (by omega)
  rcases (show mKd M a = 0 ∨ mKd M a = 1 ∨ mKd M a = 2 ∨ mKd M a = 3 by omega) with h1 | h1 | h1 | h1
  · exact va_alen hC.1 hC.2.1 hC.2.2.2.2.2.2.2.2.2.2.2.1 hH.2 a 0 (x := (mLn M a, .inl (rI M a))) (by rw [wd_at ha, cell_I h1]) rfl rfl hd k2
  · exact va_alen hC.1 hC.2.1 hC.2.2.2.2.2.2.2.2.2.2.2.1 hH.2 a 1 (x := (mLn M a, .inr (.inl (rL M a)))) (by rw [wd_at ha, cell_L h1]) rfl rfl hd k2
  · exact va_alen hC.1 hC.2.1 hC.2.2.2.2.2.2.2.2.2.2.2.1 hH.2 a 2 (x := (mLn M a, .inl (rI M a))) (by rw [wd_at ha, cell_B h1]) rfl rfl hd k2
  · exact va_alen hC.1 hC.2.1 hC.2.2.2.2.2.2.2.2.2.2.2.1 hH.2 a 3 (x := (mLn M a, .inr (.inr (.inr (.inr fun j => (rR M a j).map (gB G + ·)))))) (by rw [wd_at ha, cell_R h1]) rfl rfl hd k2
theorem r_tI {f : am_M → am_R} (hd : decode (xC X) pc = .ok (.iastore, 1)) (kk : ∀ M1, Rf G l X (pc + 1) ls st M1 (f M1)) : Rf G l X pc ls (.int x :: .int i :: .ref a :: st) M (tI M a i x f) := by
  unfold tI
  refine Rf.ite (fun h => ?_) (fun _ => Rf.no)
  refine Rf.goM (M1 := wI M a i.toNatClampNeg x) rfl rfl (fun p e R s m args below meth cd cells slots H locs lsR Q hC hH hS hL k2 => ?_) (kk _)
  have he : (am_wd G M)[a]? = some (gB G + a, .inl (gC G 0, mLn M a, .inl (rI M a))) := by rw [wd_at (kd_lt h.1), cell_I h.1]
  have hK := hC.2.2.2.2.2.2.2.2.2.2.2.1
  refine W.iast hC.1 hC.2.1 (hH.2 a _ he) ((hK.2 0 _ rfl).1 (mLn M a) (fun j => .int (rI M a j))) (fun q => by cases q) (by show ¬ (i < 0 ∨ (arrV _ _ _).slots.size ≤ _); rw [arrV_size]; exact h.2) rfl rfl hd fun H1 e z oq => ?_
  refine k2 H1 _ (hH.put rfl (fun j hj => cell_wI hj) (cell_I h.1) z (hH.2.set (wd_D G M) he ?_ oq)) (hS.put z oq (Nat.le_add_right _ _))
  show H1[gB G + a]? = some (vp_cell _ _)
  rw [e, ← upd_wI]
  rw [vp_cell_i, vp_cell_i, arrV_store]
  congr 2
  funext q
  by_cases hq : q = i.toNatClampNeg
  · subst hq
    simp [updV, upd]
  · simp [updV, upd, hq]
theorem r_tB {f : am_M → am_R} (hd : decode (xC X) pc = .ok (.bastore, 1)) (kk : ∀ M1, Rf G l X (pc + 1) ls st M1 (f M1)) : Rf G l X pc ls (.int x :: .int i :: .ref a :: st) M (tB M a i x f) := by
  unfold tB
  refine Rf.ite (fun h => ?_) (fun _ => Rf.no)
  refine Rf.goM (M1 := wI M a i.toNatClampNeg x.toInt8.toInt32) rfl rfl (fun p e R s m args below meth cd cells slots H locs lsR Q hC hH hS hL k2 => ?_) (kk _)
  have he : (am_wd G M)[a]? = some (gB G + a, .inl (gC G 2, mLn M a, .inl (rI M a))) := by rw [wd_at (kd_lt h.1), cell_B h.1]
  have hK := hC.2.2.2.2.2.2.2.2.2.2.2.1
  refine W.bast hC.1 hC.2.1 (hH.2 a _ he) ((hK.2 2 _ rfl).1 (mLn M a) (fun j => .int (rI M a j))) (fun q => by cases q) (by show ¬ (i < 0 ∨ (arrV _ _ _).slots.size ≤ _); rw [arrV_size]; exact h.2) rfl rfl hd fun H1 e z oq => ?_
  refine k2 H1 _ (hH.put rfl (fun j hj => cell_wI hj) (cell_B h.1) z (hH.2.set (wd_D G M) he ?_ oq)) (hS.put z oq (Nat.le_add_right _ _))
  show H1[gB G + a]? = some (vp_cell _ _)
  rw [e, ← upd_wI]
  rw [vp_cell_i, vp_cell_i, arrV_store]
  congr 2
  funext q
  by_cases hq : q = i.toNatClampNeg
  · subst hq
    simp [updV, upd, narrow_byte]
  · simp [updV, upd, hq]
theorem r_tL {f : am_M → am_R} (hd : decode (xC X) pc = .ok (.lastore, 1)) (kk : ∀ M1, Rf G l X (pc + 1) ls st M1 (f M1)) : Rf G l X pc ls (.long xl :: .int i :: .ref a :: st) M (tL M a i xl f) := by
  unfold tL
  refine Rf.ite (fun h => ?_) (fun _ => Rf.no)
  refine Rf.goM (M1 := wL M a i.toNatClampNeg xl) rfl rfl (fun p e R s m args below meth cd cells slots H locs lsR Q hC hH hS hL k2 => ?_) (kk _)
  have he : (am_wd G M)[a]? = some (gB G + a, .inl (gC G 1, mLn M a, .inr (.inl (rL M a)))) := by rw [wd_at (kd_lt h.1), cell_L h.1]
  have hK := hC.2.2.2.2.2.2.2.2.2.2.2.1
  refine W.last hC.1 hC.2.1 (hH.2 a _ he) ((hK.2 1 _ rfl).1 (mLn M a) (fun j => .long (rL M a j))) (fun q => by cases q) (by show ¬ (i < 0 ∨ (arrV _ _ _).slots.size ≤ _); rw [arrV_size]; exact h.2) rfl rfl hd fun H1 e z oq => ?_
  refine k2 H1 _ (hH.put rfl (fun j hj => cell_wL hj) (cell_L h.1) z (hH.2.set (wd_D G M) he ?_ oq)) (hS.put z oq (Nat.le_add_right _ _))
  show H1[gB G + a]? = some (vp_cell _ _)
  rw [e, ← upd_wL]
  rw [vp_cell_l, vp_cell_l, arrV_store]
  congr 2
  funext q
  by_cases hq : q = i.toNatClampNeg
  · subst hq
    simp [updV, vp_updL]
  · simp [updV, vp_updL, hq]
theorem r_tR {f : am_M → am_R} (hd : decode (xC X) pc = .ok (.aastore, 1)) (kk : ∀ M1, Rf G l X (pc + 1) ls st M1 (f M1)) : Rf G l X pc ls (.ref b :: .int i :: .ref a :: st) M (tR M a i 10 b f) := by
  unfold tR
  refine Rf.ite (fun h => ?_) (fun _ => Rf.no)
  refine Rf.goM (M1 := wR M a i.toNatClampNeg (some b)) rfl rfl (fun p e R s m args below meth cd cells slots H locs lsR Q hC hH hS hL k2 => ?_) (kk _)
  have he : (am_wd G M)[a]? = some (gB G + a, .inl (gC G 3, mLn M a, .inr (.inr (.inr (.inr fun j => (rR M a j).map (gB G + ·)))))) := by rw [wd_at (kd_lt h.1), cell_R h.1]
  have hv : (am_wd G M)[b]? = some (gB G + b, .inr (6, am_fs G M b 6)) := by rw [wd_at (kd_lt h.2.1), cell_obj h.2.1]
  have hK := hC.2.2.2.2.2.2.2.2.2.2.2.1
  have hlt : i.toNatClampNeg < mLn M a := Nat.not_le.mp fun q => h.2.2 (Or.inr q)
  have h0 : ¬ i < 0 := fun q => h.2.2 (Or.inl q)
  obtain ⟨r', hr', cellV, g1, g2, g3, -⟩ := hH.2 b _ hv
  have hcls := (hK.1 6 _ (show am_cl[6]? = some (RX6, TX6, 10) from rfl)).2
  obtain ⟨kA, comp, k1, k2', k3, -⟩ := (hK.2 3 _ (show (am_tys G)[3]? = some (gC G 3, .object RX6) from rfl)).2
  have hcomp : comp = (gD G).1 6 := Option.some.inj (k3.symm.trans hcls.1)
  subst hcomp
  obtain ⟨kC, hkC, -⟩ := id hcls.2
  refine W.aast hC.1 hC.2.1 (hH.2 a _ he) (fun q h => by cases h) (fun h => by cases h) k1 k2' rfl hkC ⟨h0, by show _ < (arrV _ _ _).slots.size; rw [arrV_size]; exact hlt⟩ g1 (fun q h => by rw [g3] at h; cases h) (by rw [g2]; exact hkC) (by rw [g2]; exact va_assign hcls) rfl rfl hd fun H1 e z oq => ?_
  refine k2 H1 _ (hH.put rfl (fun j hj => cell_wR hj) (cell_R h.1) z (hH.2.set (wd_D G M) he ?_ oq)) (hS.put z oq (Nat.le_add_right _ _))
  show H1[gB G + a]? = some (vp_cell _ _)
  rw [e, ← upd_wR]
  rw [vp_cell_q, vp_cell_q, arrV_store]
  congr 2
  funext q
  by_cases hq : q = i.toNatClampNeg
  · subst hq
    simp [updV, va_up, va_rf]
  · simp [updV, va_up, hq]
/-- a new array of numbers -/
theorem r_nA {t : Nat} {at' : ArrayType} {f : Nat → am_M → am_R} (ht : (t = 0 ∧ at' = .int) ∨ (t = 1 ∧ at' = .long) ∨ (t = 2 ∧ at' = .byte)) (hd : decode (xC X) pc = .ok (.newarray at', 2)) (hw : Cond.arrayClass (newarray.typeOf at') ∈ am_ws) (kk : ∀ b M1, Rf G l X (pc + 2) ls (.ref b :: st) M1 (f b M1)) : Rf G l X pc ls (.int i :: st) M (nA M t i f) := by
  unfold nA
  refine Rf.ite (fun h => ?_) (fun _ => Rf.no)
  refine Rf.goN (t := t) (n := i.toNatClampNeg) (fun p e R s m args below meth cd cells slots H locs lsR Q hC hH hS hL hr1 hr2 k2 => ?_) (kk _ _)
  have hK := hC.2.2.2.2.2.2.2.2.2.2.2.1
  have hN : mKd (mkC M t i.toNatClampNeg) (mNx M) = t := by rw [mKd_mkC, if_pos rfl]
  have hLn : mLn (mkC M t i.toNatClampNeg) (mNx M) = i.toNatClampNeg := by rw [mLn_mkC, if_pos rfl]
  refine va_newaK hC.1 hC.2.1 (hC.2.2.2.2.2.2.2.2.2.2.1 _ hw args) rfl hd rfl h.1 rfl ?_ hr1 hr2 (h := gB G + mNx M) hH.1 (fun H1 cA e1 z1 o1 hAr hNm => ?_)
  · rcases ht with ⟨rfl, rfl⟩ | ⟨rfl, rfl⟩ | ⟨rfl, rfl⟩
    · have : componentBytes (newarray.typeOf .int) = 4 := rfl
      rw [this]; omega
    · have : componentBytes (newarray.typeOf .long) = 8 := rfl
      rw [this]; omega
    · have : componentBytes (newarray.typeOf .byte) = 1 := rfl
      rw [this]; omega
  · refine k2 H1 (hH.push (by rw [z1, hH.1]) (fun q hq => o1 q (by rw [← hH.1]; exact hq)) ?_) ⟨Nat.le_trans hS.1 (by rw [z1, hH.1]; omega), fun q h1 h2 => (o1 q (by have := hS.1; rw [hH.1] at this; omega)).trans (hS.2.1 q h1 h2), hS.2.2⟩
    rcases ht with ⟨rfl, rfl⟩ | ⟨rfl, rfl⟩ | ⟨rfl, rfl⟩
    · rw [cell_I hN, hLn]
      have hc : cA = gC G 0 := Option.some.inj (hNm.symm.trans (hK.2 0 _ (show (am_tys G)[0]? = some (gC G 0, .int) from rfl)).2)
      subst hc
      show H1[gB G + mNx M]? = some (vp_cell _ _)
      rw [e1, vp_cell_i]
      congr 2
      funext j
      rw [rI_mkC, if_pos rfl]
      rfl
    · rw [cell_L hN, hLn]
      have hc : cA = gC G 1 := Option.some.inj (hNm.symm.trans (hK.2 1 _ (show (am_tys G)[1]? = some (gC G 1, .long) from rfl)).2)
      subst hc
      show H1[gB G + mNx M]? = some (vp_cell _ _)
      rw [e1, vp_cell_l]
      congr 2
      funext j
      rw [rL_mkC, if_pos rfl]
      rfl
    · rw [cell_B hN, hLn]
      have hc : cA = gC G 2 := Option.some.inj (hNm.symm.trans (hK.2 2 _ (show (am_tys G)[2]? = some (gC G 2, .byte) from rfl)).2)
      subst hc
      show H1[gB G + mNx M]? = some (vp_cell _ _)
      rw [e1, vp_cell_i]
      congr 2
      funext j
      rw [rI_mkC, if_pos rfl]
      rfl
theorem r_nR {f : Nat → am_M → am_R} (hd : decode (xC X) pc = .ok (.anewarray idx, 3)) (hw : Cond.classLink (xO X) idx RX6 ∈ am_ws) (kk : ∀ b M1, Rf G l X (pc + 3) ls (.ref b :: st) M1 (f b M1)) : Rf G l X pc ls (.int i :: st) M (nA M 3 i f) := by
  unfold nA
  refine Rf.ite (fun h => ?_) (fun _ => Rf.no)
  refine Rf.goN (t := 3) (n := i.toNatClampNeg) (fun p e R s m args below meth cd cells slots H locs lsR Q hC hH hS hL hr1 hr2 k2 => ?_) (kk _ _)
  have hK := hC.2.2.2.2.2.2.2.2.2.2.2.1
  have hN : mKd (mkC M 3 i.toNatClampNeg) (mNx M) = 3 := by rw [mKd_mkC, if_pos rfl]
  have hLn : mLn (mkC M 3 i.toNatClampNeg) (mNx M) = i.toNatClampNeg := by rw [mLn_mkC, if_pos rfl]
  refine W.anew hC.1 hC.2.1 hC.2.2.2.2.2.2.1 (hC.2.2.2.2.2.2.2.2.2.2.1 _ hw args) (va_AO.use hC.2.2.2.2.2.2.2.2.2.2.2.2.1) rfl hd rfl h.1 (by omega) hr1 hr2 (fun cA kA comp f1 f2 f3 f4 => ?_)
  have hc : cA = gC G 3 := by
    obtain ⟨_, _, _, _, _, h9⟩ := (hK.2 3 _ (show (am_tys G)[3]? = some (gC G 3, .object RX6) from rfl)).2
    exact Option.some.inj (f1.symm.trans h9)
  subst hc
  generalize hH1 : H.push ({ cls := gC G 3, slots := Array.replicate i.toNatClampNeg .null, vm := .none } : Cell) = H1
  have z1 : H1.size = H.size + 1 := by rw [← hH1]; simp
  have o1 : ∀ q : Nat, q < H.size → H1[q]? = H[q]? := fun q hq => by rw [← hH1, Array.getElem?_push, if_neg (Nat.ne_of_lt hq)]
  have k3 := k2 H1 (hH.push z1 o1 ?_) ⟨Nat.le_trans hS.1 (by omega), fun q h1 h2 => (o1 q (Nat.lt_of_lt_of_le h1 hS.1)).trans (hS.2.1 q h1 h2), hS.2.2⟩
  · rw [hH.1]
    exact k3
  · rw [cell_R hN, hLn]
    show H1[gB G + mNx M]? = some (vp_cell _ _)
    rw [← hH.1, ← hH1, vp_cell_q]
    simp only [Array.getElem?_push_size, arrV]
    congr 2
    apply Array.ext
    · simp
    · intro j h1 h2
      simp [rR_mkC, va_rf]
/-- a new object -/
theorem r_nO {C : String} {T : u_T} {N : Nat} {ty : Nat → FieldType} {f : Nat → am_M → am_R} (hcl : am_Cl c C T N ty) (hd : decode (xC X) pc = .ok (.new idx, 3)) (hw : Cond.classLink (xO X) idx C ∈ am_ws) (hw2 : Cond.instantiable C N ∈ am_ws) (hw3 : Cond.initialized C ∈ am_ws) (kk : ∀ b M1, Rf G l X (pc + 3) ls (.ref b :: st) M1 (f b M1)) : Rf G l X pc ls st M (nO M (c + 4) N f) := by
  unfold nO
  refine Rf.goN (t := c + 4) (n := N) (fun p e R s m args below meth cd cells slots H locs lsR Q hC hH hS hL hr1 hr2 k2 => ?_) (kk _ _)
  obtain ⟨c1, c2, c3, c4, c5, c6, c7⟩ := hcl
  have hts : ∀ w ∈ am_ws, w.before args s = true := fun w hw => hC.2.2.2.2.2.2.2.2.2.2.1 w hw args
  have hK := hC.2.2.2.2.2.2.2.2.2.2.2.1
  have hKn := hK.1 c _ c1
  have hN : mKd (mkC M (c + 4) N) (mNx M) = c + 4 := by rw [mKd_mkC, if_pos rfl]
  refine W.newcK hC.1 hC.2.1 hC.2.2.2.2.2.2.1 (hts _ hw) (hts _ hw2) (hts _ hw3) rfl hd hr1 hr2 hKn.2.1 (h := gB G + mNx M) hH.1 fun H1 kC hkC e1 z1 o1 => ?_
  refine k2 H1 (hH.push (by rw [z1, hH.1]) (fun q hq => o1 q (by rw [← hH.1]; exact hq)) ?_) ⟨Nat.le_trans hS.1 (by rw [z1, hH.1]; omega), fun q h1 h2 => (o1 q (by have := hS.1; rw [hH.1] at this; omega)).trans (hS.2.1 q h1 h2), hS.2.2⟩
  rw [cell_obj hN]
  refine ⟨_, c1, (u_born ty hts c4 hKn hkC e1 c2).to (fun j hj => ?_)⟩
  rw [c7 j hj]
  unfold vp_V
  rw [List.getD_eq_getElem?_getD, fs_at (by rw [c5]; exact hj)]
  show am_dv c j = am_fv G (mkC M (c + 4) N) (mNx M) c j
  unfold am_dv am_fv
  rw [rI_mkC, rL_mkC, rR_mkC, if_pos rfl, if_pos rfl, if_pos rfl]
  rfl
end RfRows
