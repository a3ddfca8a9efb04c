/-! ===== constants, statics, texts, copies ===== -/
def cpy (M : am_M) (a0 : Nat) (sp : Int32) (a1 : Nat) (dp n : Int32) (f : am_M → am_R) : am_R := if (mKd M a0 = 0 ∧ mKd M a1 = 0) ∧ (¬ sp < 0 ∧ ¬ dp < 0 ∧ ¬ n < 0) ∧ sp.toNatClampNeg + n.toNatClampNeg ≤ mLn M a0 ∧ dp.toNatClampNeg + n.toNatClampNeg ≤ mLn M a1 then f (cpI M a0 sp.toNatClampNeg a1 dp.toNatClampNeg n.toNatClampNeg) else none
def scI (L : Nat) (xs : Nat → Int32) (i : Int32) (f : Int32 → am_R) : am_R := if ¬ (i < 0 ∨ L ≤ i.toNatClampNeg) then f (xs i.toNatClampNeg) else none
section RfSp
variable {G : am_G} {l : Launch} {X Xc : am_X} {pc : Nat} {ls st rest : List Value} {M : am_M} {o x : am_R} {a b c k idx n w : Nat} {i : Int32} {y : MethodName} {as As : List Value}
theorem am_s1 {s : State} (hT : am_Tb G s) (h : 100 ≤ w ∧ w < 140) : ∃ (own : String) (idx : Nat) (tx : String) (k : Nat), w = 100 + k ∧ am_S1 G s k own idx tx := by
  have hk : w - 100 < am_str.length := by show w - 100 < 40; omega
  obtain ⟨⟨own, idx, tx⟩, hq⟩ : ∃ q, am_str[w - 100]? = some q := ⟨_, List.getElem?_eq_getElem hk⟩
  exact ⟨own, idx, tx, w - 100, by omega, hT.2.2.2.1 _ own idx tx hq⟩
theorem r_ldcS {tx : String} (hd : decode (xC X) pc = .ok (.ldc idx, 2)) (k : Nat) (hs : am_str[k]? = some (xO X, idx, tx)) (kk : Rf G l X (pc + 2) ls (.retAddr (100 + k) :: st) M o) : Rf G l X pc ls st M o := by
  refine Rf.goH (fun p e R s m args below meth cd cells slots H locs lsR Q hC hH hS hL k2 => ?_) kk
  obtain ⟨a, v, q1, q2, q3, -⟩ := hC.2.2.2.2.2.2.2.2.2.2.2.2.2.1 k _ _ _ hs
  have e : rv G (.retAddr (100 + k)) = .ref a := q1
  rw [List.map_cons, e] at k2
  exact va_ldcS hC.1 hC.2.1 hC.2.2.2.2.2.2.1 q3 hd k2
theorem r_ldcw (hd : decode (xC X) pc = .ok (.ldc_w idx, 3)) (v : Int32) (hw : Cond.constant (xO X) idx v ∈ am_ws) (k : Rf G l X (pc + 3) ls (.int v :: st) M o) : Rf G l X pc ls st M o := Rf.go (fun p e R s m args below meth c cells slots H locs lsR Q hC hL k => lv_ldcw hC.1 hC.2.1 hC.2.2.2.2.2.2.1 (hC.2.2.2.2.2.2.2.2.2.2.1 _ hw _) hd k) k
theorem r_spV (hd : decode (xC X) pc = .ok (.getfield idx, 3)) (hw : Cond.fieldLink (xO X) idx "java/lang/String" "value" "[B" ∈ am_ws) (kk : Rf G l X (pc + 3) ls (.retAddr (w + 100) :: st) M o) : Rf G l X pc ls (.retAddr w :: st) M (xV w o) := by
  unfold xV
  refine Rf.ite (fun h => ?_) (fun _ => Rf.no)
  refine Rf.goH (fun p e R s m args below meth cd cells slots H locs lsR Q hC hH hS hL k2 => ?_) kk
  have hT := hC.2.2.2.2.2.2.2.2.2.2
  obtain ⟨own, ix, tx, k, rfl, a, v, q1, q2, q3, q4, q5, q6, q7⟩ := am_s1 hT h
  have e : rv G (.retAddr (100 + k)) = .ref a := q1
  have e2 : rv G (.retAddr (100 + k + 100)) = .ref v := by rw [show 100 + k + 100 = 200 + k by omega]; exact q2
  rw [List.map_cons, e2] at k2
  rw [List.map_cons, e]
  exact vk_getf hC.1 hC.2.1 q6 hS hC.2.2.2.2.2.2.1 (hT.1 _ hw args) (fun _ h => h) hd k2
theorem r_spC (hd : decode (xC X) pc = .ok (.getfield idx, 3)) (hw : Cond.fieldLink (xO X) idx "java/lang/String" "coder" "B" ∈ am_ws) (kk : Rf G l X (pc + 3) ls (.int 0 :: st) M o) : Rf G l X pc ls (.retAddr w :: st) M (xV w o) := by
  unfold xV
  refine Rf.ite (fun h => ?_) (fun _ => Rf.no)
  refine Rf.goH (fun p e R s m args below meth cd cells slots H locs lsR Q hC hH hS hL k2 => ?_) kk
  have hT := hC.2.2.2.2.2.2.2.2.2.2
  obtain ⟨own, ix, tx, k, rfl, a, v, q1, q2, q3, q4, q5, q6, q7⟩ := am_s1 hT h
  have e : rv G (.retAddr (100 + k)) = .ref a := q1
  rw [List.map_cons, e]
  exact vk_getf hC.1 hC.2.1 q5 hS hC.2.2.2.2.2.2.1 (hT.1 _ hw args) (fun _ h => h) hd k2
theorem r_getZ (hd : decode (xC X) pc = .ok (.getstatic idx, 3)) (hw : Cond.fieldLink (xO X) idx "java/lang/String" "COMPACT_STRINGS" "Z" ∈ am_ws) (kk : Rf G l X (pc + 3) ls (.int 1 :: st) M o) : Rf G l X pc ls st M o := by
  refine Rf.goH (fun p e R s m args below meth cd cells slots H locs lsR Q hC hH hS hL k2 => ?_) kk
  have hT := hC.2.2.2.2.2.2.2.2.2.2
  exact va_gets hC.1 hC.2.1 hT.2.2.2.2.2.2.1 hS hC.2.2.2.2.2.2.1 (hT.1 _ hw args) (fun _ h => h) hd k2
theorem r_getF (hd : decode (xC X) pc = .ok (.getstatic idx, 3)) (hw : Cond.fieldLink (xO X) idx "jdk/internal/util/Preconditions" "SIOOBE_FORMATTER" "Ljava/util/function/BiFunction;" ∈ am_ws) (kk : Rf G l X (pc + 3) ls (.retAddr 4 :: st) M o) : Rf G l X pc ls st M o := by
  refine Rf.goH (fun p e R s m args below meth cd cells slots H locs lsR Q hC hH hS hL k2 => ?_) kk
  have hT := hC.2.2.2.2.2.2.2.2.2.2
  exact va_gets hC.1 hC.2.1 hT.2.2.2.2.2.2.2.1 hS hC.2.2.2.2.2.2.1 (hT.1 _ hw args) (fun _ h => h) hd k2
theorem r_getKL (hd : decode (xC X) pc = .ok (.getstatic idx, 3)) (hw : Cond.fieldLink (xO X) idx "NumberedSparks" "KIND_LEAST" "[I" ∈ am_ws) (kk : Rf G l X (pc + 3) ls (.retAddr 2 :: st) M o) : Rf G l X pc ls st M o := by
  refine Rf.goH (fun p e R s m args below meth cd cells slots H locs lsR Q hC hH hS hL k2 => ?_) kk
  have hT := hC.2.2.2.2.2.2.2.2.2.2
  obtain ⟨a, q1, q2, -⟩ := hT.2.2.2.2.1
  have e : rv G (.retAddr 2) = .ref a := q1
  rw [List.map_cons, e] at k2
  exact va_gets hC.1 hC.2.1 q2 hS hC.2.2.2.2.2.2.1 (hT.1 _ hw args) (fun _ h => h) hd k2
theorem r_getKM (hd : decode (xC X) pc = .ok (.getstatic idx, 3)) (hw : Cond.fieldLink (xO X) idx "NumberedSparks" "KIND_MOST" "[I" ∈ am_ws) (kk : Rf G l X (pc + 3) ls (.retAddr 3 :: st) M o) : Rf G l X pc ls st M o := by
  refine Rf.goH (fun p e R s m args below meth cd cells slots H locs lsR Q hC hH hS hL k2 => ?_) kk
  have hT := hC.2.2.2.2.2.2.2.2.2.2
  obtain ⟨a, q1, q2, -⟩ := hT.2.2.2.2.2.1
  have e : rv G (.retAddr 3) = .ref a := q1
  rw [List.map_cons, e] at k2
  exact va_gets hC.1 hC.2.1 q2 hS hC.2.2.2.2.2.2.1 (hT.1 _ hw args) (fun _ h => h) hd k2
theorem am_tlen {z N : Nat} (h1 : N ≤ z) (h2 : z.toInt32 = Int32.ofNat N) (i : Int32) (hi : i.toNatClampNeg < N) : ¬ z ≤ i.toNatClampNeg := by omega
theorem r_xI {v : Nat} {f : Int32 → am_R} (hd : decode (xC X) pc = .ok (.iaload, 1)) (kk : ∀ x, Rf G l X (pc + 1) ls (.int x :: st) M (f x)) : Rf G l X pc ls (.int i :: .retAddr v :: st) M (xI v i f) := by
  unfold xI
  refine Rf.ite (fun h => ?_) (fun _ => Rf.no)
  refine Rf.goH (fun p e R s m args below meth cd cells slots H locs lsR Q hC hH hS hL k2 => ?_) (kk _)
  have hT := hC.2.2.2.2.2.2.2.2.2.2
  have hlt : i.toNatClampNeg < 5 := Nat.not_le.mp fun q => h.2 (Or.inr q)
  have h0 : ¬ i < 0 := fun q => h.2 (Or.inl q)
  rcases h.1 with rfl | rfl
  · obtain ⟨a, q1, -, q3⟩ := hT.2.2.2.2.1
    obtain ⟨cell, t1, t2, t3, t4, t5, t6, -⟩ := q3.kept hS.2.1
    have e : rv G (.retAddr 2) = .ref a := q1
    rw [List.map_cons, List.map_cons, e]
    exact W.iald hC.1 hC.2.1 t1 t2 t3 (fun q => q.elim h0 (fun z => by omega)) (t6 _ hlt) rfl rfl hd k2
  · obtain ⟨a, q1, -, q3, -⟩ := hT.2.2.2.2.2.1
    obtain ⟨cell, t1, t2, t3, t4, t5, t6, -⟩ := q3.kept hS.2.1
    have e : rv G (.retAddr 3) = .ref a := q1
    rw [List.map_cons, List.map_cons, e]
    exact W.iald hC.1 hC.2.1 t1 t2 t3 (fun q => q.elim h0 (fun z => by omega)) (t6 _ hlt) rfl rfl hd k2
theorem am_s2 {s : State} (hT : am_Tb G s) (h : 200 ≤ w ∧ w < 240) : ∃ (k v : Nat), w = 200 + k ∧ gS G (200 + k) = .ref v ∧ va_T .byte v (am_sl k) (fun j => .int (am_sb k j)) (gA G) s s.heap := by
  obtain ⟨own, ix, tx, k, hk, a, v, q1, q2, q3, q4, q5, q6, q7⟩ := am_s1 (w := w - 100) hT (by omega)
  exact ⟨k, v, by omega, q2, q7⟩
theorem r_xB {v : Nat} {f : Int32 → am_R} (hd : decode (xC X) pc = .ok (.baload, 1)) (kk : ∀ x, Rf G l X (pc + 1) ls (.int x :: st) M (f x)) : Rf G l X pc ls (.int i :: .retAddr v :: st) M (xB v i f) := by
  unfold xB
  refine Rf.ite (fun h => ?_) (fun _ => Rf.no)
  refine Rf.goH (fun p e R s m args below meth cd cells slots H locs lsR Q hC hH hS hL k2 => ?_) (kk _)
  have hT := hC.2.2.2.2.2.2.2.2.2.2
  obtain ⟨k, v', rfl, q1, q3⟩ := am_s2 hT h.1
  have hlt : i.toNatClampNeg < am_sl k := Nat.not_le.mp fun q => h.2 (Or.inr (by rw [show 200 + k - 200 = k by omega]; exact q))
  have h0 : ¬ i < 0 := fun q => h.2 (Or.inl q)
  obtain ⟨cell, t1, t2, t3, t4, t5, t6, -⟩ := q3.kept hS.2.1
  have e : rv G (.retAddr (200 + k)) = .ref v' := q1
  rw [show 200 + k - 200 = k by omega] at k2
  rw [List.map_cons, List.map_cons, e]
  exact W.bald hC.1 hC.2.1 t1 t2 t3 (fun q => q.elim h0 (fun z => by omega)) (t6 _ hlt) rfl rfl hd k2
theorem r_xLn {v : Nat} {f : Int32 → am_R} (hd : decode (xC X) pc = .ok (.arraylength, 1)) (kk : ∀ x, Rf G l X (pc + 1) ls (.int x :: st) M (f x)) : Rf G l X pc ls (.retAddr v :: st) M (xLn v f) := by
  unfold xLn
  refine Rf.ite (fun h => ?_) (fun _ => Rf.no)
  refine Rf.goH (fun p e R s m args below meth cd cells slots H locs lsR Q hC hH hS hL k2 => ?_) (kk _)
  have hT := hC.2.2.2.2.2.2.2.2.2.2
  obtain ⟨k, v', rfl, q1, q3⟩ := am_s2 hT h
  obtain ⟨cell, t1, t2, t3, t4, t5, t6, -⟩ := q3.kept hS.2.1
  have e : rv G (.retAddr (200 + k)) = .ref v' := q1
  rw [show 200 + k - 200 = k by omega] at k2
  rw [List.map_cons, e]
  exact W.alen hC.1 hC.2.1 t1 t2 t5 rfl rfl hd k2
/-- the law's script -/
theorem r_scI {f : Int32 → am_R} (hd : decode (xC X) pc = .ok (.iaload, 1)) (kk : ∀ x, Rf G l X (pc + 1) ls (.int x :: st) M (f x)) : Rf G l X pc ls (.int i :: .retAddr 1 :: st) M (scI (gL G) (gX G) i f) := by
  unfold scI
  refine Rf.ite (fun h => ?_) (fun _ => Rf.no)
  refine Rf.goH (fun p e R s m args below meth cd cells slots H locs lsR Q hC hH hS hL k2 => ?_) (kk _)
  have hT := hC.2.2.2.2.2.2.2.2.2.2
  have hlt : i.toNatClampNeg < gL G := Nat.not_le.mp fun q => h (Or.inr q)
  have h0 : ¬ i < 0 := fun q => h (Or.inl q)
  obtain ⟨-, -, -, -, b, q1, q3⟩ := hT.2.2.2.2.2.1
  obtain ⟨cell, t1, t2, t3, t4, t5, t6, -⟩ := q3.kept hS.2.1
  have e : rv G (.retAddr 1) = .ref b := q1
  rw [List.map_cons, List.map_cons, e]
  exact W.iald hC.1 hC.2.1 t1 t2 t3 (fun q => q.elim h0 (fun z => by omega)) (t6 _ hlt) rfl rfl hd k2
theorem r_scLn (hd : decode (xC X) pc = .ok (.arraylength, 1)) (kk : Rf G l X (pc + 1) ls (.int (Int32.ofNat (gL G)) :: st) M o) : Rf G l X pc ls (.retAddr 1 :: st) M o := by
  refine Rf.goH (fun p e R s m args below meth cd cells slots H locs lsR Q hC hH hS hL k2 => ?_) kk
  have hT := hC.2.2.2.2.2.2.2.2.2.2
  obtain ⟨-, -, -, -, b, q1, q3⟩ := hT.2.2.2.2.2.1
  obtain ⟨cell, t1, t2, t3, t4, t5, t6, -⟩ := q3.kept hS.2.1
  have e : rv G (.retAddr 1) = .ref b := q1
  rw [List.map_cons, e]
  exact W.alen hC.1 hC.2.1 t1 t2 t5 rfl rfl hd k2
/-- a method of a String constant -/
theorem r_cvS {f : Int32 → am_M → am_R} (hc : Ct G l y Xc (.retAddr w :: As) M x) (hd : decode (xC X) pc = .ok (.invokevirtual idx, 3)) (hb : am_mb y Xc n) (hw1 : Cond.methodLink (xO X) idx y ∈ am_ws) (hw2 : Cond.instanceMethod y ∈ am_ws) (hw3 : Cond.selects "java/lang/String" y y ∈ am_ws) (hdp : xD Xc + 1 ≤ xD X) (hn : As.length = n) (hst : st = As.reverse ++ .retAddr w :: rest) (hcat : (rest.map Value.category).sum ≤ 8) (kk : ∀ r M1, Rf G l X (pc + 3) ls (.int r :: rest) M1 (f r M1)) : Rf G l X pc ls st M (xV w (bI x f)) := by
  unfold xV
  refine Rf.ite (fun h => ?_) (fun _ => Rf.no)
  rcases hx : x with _ | ⟨_ | v, M1⟩
  · exact Rf.no
  · exact Rf.no
  · cases v <;> first | exact Rf.no | skip
    rename_i r
    refine Rf.callC (v1 := some (.int r)) (M1 := M1) (rest := rest) rfl (hx ▸ hc) hdp (fun p e R s m args below meth cd cells slots H locs lsR mc ms Qc hC hH hS hL hr1 hr2 hM => ?_) (kk r M1)
    obtain ⟨q1, q2, q3, q4⟩ := am_cb (args := args) (mc := mc) (ms := ms) hC hb hdp
    have hts : ∀ w ∈ am_ws, w.before args s = true := fun w hw => hC.2.2.2.2.2.2.2.2.2.2.1 w hw args
    have hT := hC.2.2.2.2.2.2.2.2.2.2
    obtain ⟨own, ix, tx, k, rfl, a, v, z1, z2, z3, z4, z5, z6, z7⟩ := am_s1 hT h
    have e2 : rv G (.retAddr (100 + k)) = .ref a := z1
    subst hst
    have hP := am_entry (M := M) hT hH hS ((.retAddr (100 + k) :: As).map (rv G))
    have hB := am_blind G M ((.retAddr (100 + k) :: As).map (rv G))
    rw [List.map_cons, e2] at hM hP hB ⊢
    obtain ⟨cell, g1, g2, g3, -⟩ := z4.kept hS.2.1
    exact va_runV (Ts := am_ws) (C := "java/lang/String") (As := As.map (rv G)) ⟨hC.1, hC.2.1, hC.2.2.1, hC.2.2.2.2.2.2.1, hts⟩ hM ⟨⟨rfl, rfl, q1, q2, q3, List.mem_singleton.mpr rfl, hts _ hb.1, hts _ hb.2.1, hb.2.2.1, q4, hts _ hw1⟩, hts _ hw2, hts _ hw3⟩ ⟨hB, ⟨cell, g1, g2, g3⟩, hP⟩ rfl (by rw [List.length_map]; exact hn) hL.1 (by simp [e2]) (lv_room (am_cat hT hcat)) hd ⟨hr1, hr2⟩
theorem r_cpy {sp dp nn : Int32} {f : am_M → am_R} (hd : decode (xC X) pc = .ok (.invokestatic idx, 3)) (hw1 : Cond.methodLink (xO X) idx arraycopyName ∈ am_ws) (hw2 : Cond.native arraycopyName ∈ am_ws) (hw3 : Cond.static arraycopyName ∈ am_ws) (hw4 : Cond.initialized "java/lang/System" ∈ am_ws) (hcat : (rest.map Value.category).sum ≤ 8) (hdp : 1 ≤ xD X) (kk : ∀ M1, Rf G l X (pc + 3) ls rest M1 (f M1)) : Rf G l X pc ls (.int nn :: .int dp :: .ref b :: .int sp :: .ref a :: rest) M (cpy M a sp b dp nn f) := by
  unfold cpy
  refine Rf.ite (fun h => ?_) (fun _ => Rf.no)
  obtain ⟨⟨k0, k1⟩, ⟨h1, h2, h3⟩, h4, h5⟩ := h
  refine Rf.goM (M1 := cpI M a sp.toNatClampNeg b dp.toNatClampNeg nn.toNatClampNeg) rfl rfl (fun p e R s m args below meth cd cells slots H locs lsR Q hC hH hS hL kk => ?_) (kk _)
  have hT := hC.2.2.2.2.2.2.2.2.2.2
  have hK := hT.2.1
  have nn' : ∀ z : Int32, ¬ z < 0 → z.toInt = (z.toNatClampNeg : Int) := by
    intro z hz
    have hz0 : (0 : Int) ≤ z.toInt := by
      have := Int32.not_lt.mp hz
      simpa using Int32.le_iff_toInt_le.mp this
    show z.toInt = ((z.toInt.toNat : Nat) : Int)
    omega
  have ha0 : (am_wd G M)[a]? = some (gB G + a, .inl (gC G 0, mLn M a, .inl (rI M a))) := by rw [wd_at (kd_lt k0), cell_I k0]
  have ha1 : (am_wd G M)[b]? = some (gB G + b, .inl (gC G 0, mLn M b, .inl (rI M b))) := by rw [wd_at (kd_lt k1), cell_I k1]
  have hlo := hC.2.2.2.2.2.2.2.2.1
  have hfr := hC.2.2.2.2.2.2.2.1
  have hc8 := am_cat (rest := rest) hT hcat
  intro T hTh XS
  have hc0 : H[gB G + a]? = some (vp_cell (gC G 0) (mLn M a, .inl (rI M a))) := hH.2 a _ ha0
  have hc1 : H[gB G + b]? = some (vp_cell (gC G 0) (mLn M b, .inl (rI M b))) := hH.2 b _ ha1
  have ht : (am_tys G)[0]? = some (gC G 0, .int) := rfl
  obtain ⟨-, kc0, hk0, cm0, hkk0⟩ := (hK.2 0 _ ht).1 (mLn M a) (fun j => .int (rI M a j))
  obtain ⟨-, kc1, hk1, cm1, hkk1⟩ := (hK.2 0 _ ht).1 (mLn M b) (fun j => .int (rI M b j))
  obtain ⟨vm', X', step⟩ := XS.arraycopy hC.1 hC.2.2.2.2.2.2.1 (hT.1 _ hw1 args) (hT.1 _ hw2 args) (hT.1 _ hw3 args) (hT.1 _ hw4 args) (src := gB G + a) (dst := gB G + b) (cs := vp_cell (gC G 0) (mLn M a, .inl (rI M a))) (cd := vp_cell (gC G 0) (mLn M b, .inl (rI M b))) (srcPos := sp) (destPos := dp) (n := nn) (by rw [hTh]; exact hc0) (by rw [hTh]; exact hc1)
    (fun _ h => by cases h) (fun _ h => by cases h) (fun h => by cases h) (fun h => by cases h) hk0 hk1 hkk0 hkk1 (by simp [show refKind .int = false from rfl]) h1 h2 h3
    (by rw [nn' sp h1, nn' nn h3]; show ¬ _ > ((arrV (gC G 0) (mLn M a) (fun j => .int (rI M a j))).slots.size : Int); rw [arrV_size]; omega)
    (by rw [nn' dp h2, nn' nn h3]; show ¬ _ > ((arrV (gC G 0) (mLn M b) (fun j => .int (rI M b j))).slots.size : Int); rw [arrV_size]; omega)
    (fun vm₁ _ i hi => by
      have e : (vp_cell (gC G 0) (mLn M a, .inl (rI M a))).slots.getD (sp.toNatClampNeg + i) .null = .int (rI M a (sp.toNatClampNeg + i)) := by
        show (arrV (gC G 0) (mLn M a) (fun j => .int (rI M a j))).slots.getD _ _ = _
        rw [Array.getD_eq_getD_getElem?, arrV_read _ _ (by omega)]
        rfl
      refine ⟨?_, ?_⟩
      · rw [e]
        rfl
      · rw [e]
        exact trivial)
    (g := F0 m pc lsR (.int nn :: .int dp :: .ref (gB G + b) :: .int sp :: .ref (gB G + a) :: rest.map (rv G))) rfl (by rw [hC.2.2.1]; exact hL.1) (rest := rest.map (rv G)) rfl (by rw [hC.2.1]; exact hd) (Nat.le_trans hdp hfr) (by
      have h37 : nativeFrameWords "java/lang/System" "arraycopy" 5 ≤ 18 := by decide +kernel
      show 2 * 0 + _ + _ ≤ _
      omega)
  have e1 : copied (vp_cell (gC G 0) (mLn M a, .inl (rI M a))) (vp_cell (gC G 0) (mLn M b, .inl (rI M b))) sp dp nn = vp_cell (gC G 0) (mLn M b, .inl (va_cpy (rI M a) (rI M b) sp.toNatClampNeg dp.toNatClampNeg nn.toNatClampNeg)) := va_copied (fun z => .int z) (gC G 0) (gC G 0) (rI M a) (rI M b) h4
  rw [e1] at X' step
  have hl : gB G + b < H.size := (Array.getElem?_eq_some_iff.mp hc1).1
  have hheap : ((T.setVm vm').setCell (gB G + b) (vp_cell (gC G 0) (mLn M b, .inl (va_cpy (rI M a) (rI M b) sp.toNatClampNeg dp.toNatClampNeg nn.toNatClampNeg)))).heap = H.setIfInBounds (gB G + b) (vp_cell (gC G 0) (mLn M b, .inl (va_cpy (rI M a) (rI M b) sp.toNatClampNeg dp.toNatClampNeg nn.toNatClampNeg))) := by rw [← hTh]; rfl
  have oq : ∀ q : Nat, q ≠ gB G + b → (H.setIfInBounds (gB G + b) (vp_cell (gC G 0) (mLn M b, .inl (va_cpy (rI M a) (rI M b) sp.toNatClampNeg dp.toNatClampNeg nn.toNatClampNeg))))[q]? = H[q]? := fun q hq => by simp [Array.getElem?_setIfInBounds, Ne.symm hq]
  have hcell : am_cell G (cpI M a sp.toNatClampNeg b dp.toNatClampNeg nn.toNatClampNeg) b = .inl (gC G 0, mLn M b, .inl (va_cpy (rI M a) (rI M b) sp.toNatClampNeg dp.toNatClampNeg nn.toNatClampNeg)) := by
    rw [cell_I (show mKd (cpI M a sp.toNatClampNeg b dp.toNatClampNeg nn.toNatClampNeg) b = 0 from k1)]
    have : rI (cpI M a sp.toNatClampNeg b dp.toNatClampNeg nn.toNatClampNeg) b = va_cpy (rI M a) (rI M b) sp.toNatClampNeg dp.toNatClampNeg nn.toNatClampNeg := by
      show (if b = b then _ else _) = _
      rw [if_pos rfl]
      rfl
    rw [this]
    rfl
  obtain ⟨t, a1, b1⟩ := kk _ _ (hH.put rfl (fun j hj => cell_same rfl rfl (by show (if j = b then _ else _) = _; rw [if_neg hj]; rfl) rfl rfl) hcell (by simp) (hH.2.set (wd_D G M) ha1 (show (H.setIfInBounds (gB G + b) _)[gB G + b]? = some _ by simp [Array.getElem?_setIfInBounds, hl]) oq)) ⟨by simp; exact hS.1, fun q g1 g2 => by
      rw [oq q (fun e => g2 (by rw [e]; exact Nat.le_add_right _ _))]
      exact hS.2.1 q g1 g2, fun q hq => by
      rcases List.mem_append.mp hq with h | h
      · exact hS.2.2 q h
      · obtain ⟨z, -, hz⟩ := List.mem_map.mp h
        rw [← hz]
        exact Nat.le_add_right _ _⟩ _ hheap X'
  exact ⟨t, step t a1, b1⟩
end RfSp
