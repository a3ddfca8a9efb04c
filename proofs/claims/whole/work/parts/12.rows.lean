/-! ===== calls ===== -/
/-- what the tables say of a call: the code, the link, the length of its row of arguments -/
def am_mb (y : MethodName) (Xc : am_X) (n : Nat) : Prop := Cond.code y (xC Xc) (xL Xc) (xT Xc) ∈ am_ws ∧ Cond.initialized y.cls ∈ am_ws ∧ (y.cls ≠ "java/lang/invoke/MethodHandle" ∧ y.cls ≠ "java/lang/invoke/VarHandle") ∧ (parseMethodDescriptor y.desc).map (fun d => d.parameters.length) = some n ∧ xL Xc ≤ 18 ∧ am_gw (Cond.code y (xC Xc) (xL Xc) (xT Xc)) = true
section RfCalls
variable {G : am_G} {l : Launch} {X Xc : am_X} {pc : Nat} {ls st rest : List Value} {M : am_M} {o x : am_R} {a b c k idx n : Nat} {y : MethodName} {as : List Value}
theorem am_blind (G : am_G) (M : am_M) (av : List Value) : FrameBlind (va_Pc av (fun U => am_Hp G M U.heap ∧ am_Tb G U)) := by
  intro A U g mk h
  obtain ⟨h1, h2, h3⟩ := h
  exact ⟨h1, h2, h3.moved (U := U.calling g mk A) (State.WarmedH.refl U) (fun _ _ _ => rfl)⟩
theorem am_entry {s : State} {H : Heap} {locs : List Loc} (hT : am_Tb G s) (hH : am_Hp G M H) (hS : va_S (gA G) s.heap H locs) (av : List Value) : ∀ U : State, U.heap = H → s.WarmedH U.vm → va_Pc av (fun U => am_Hp G M U.heap ∧ am_Tb G U) av.toArray U := fun U hU hW => ⟨rfl, by rw [hU]; exact hH, hT.moved hW (fun q h1 h2 => by rw [hU]; exact hS.2.1 q h1 h2)⟩
theorem am_cat {s : State} (hT : am_Tb G s) (h : (rest.map Value.category).sum ≤ 8) : ((rest.map (rv G)).map fun v => v.category).sum ≤ 8 := by
  rw [List.map_map]
  have e : ((fun v : Value => v.category) ∘ rv G) = Value.category := by funext v; exact rv_cat hT v
  rw [e]
  exact h
/-- a call, by its contract: the rest of the walk stands over what comes back -/
theorem Rf.callC {v1 : Option Value} {M1 : am_M} (hx : x = some (v1, M1)) (hc : Ct G l y Xc as M x) (hdp : xD Xc + 1 ≤ xD X)
    (hrun : ∀ (p : Program) (e : Env) (R : Room) (s : State) (m : MethodId) (args : Array Value) (below : List Frame) (meth : Method) (cd : Code) (cells slots : Nat) (H : Heap) (locs : List Loc) (lsR : Array Slot) (mc ms : Nat) (Qc : Array Value → State → Outcome → State → Prop), am_C G X p R s m meth cd → am_Hp G M H → va_S (gA G) s.heap H locs → LV G (xL X) ls lsR → cells + mc ≤ R.cells → slots + ms ≤ R.slots → Met l y [.code y (xC Xc) (xL Xc) (xT Xc)] { frames := xD Xc, cells := mc, slots := ms, locals := 37 * xD Xc } (va_Pc (as.map (rv G)) (fun U => am_Hp G M U.heap ∧ am_Tb G U)) Qc mc ms (gA G) → va_Run p l e R s m args below meth cd H locs cells slots mc ms (F0 m pc lsR (st.map (rv G))) (rest.map (rv G)) (Qc (as.map (rv G)).toArray) (gA G))
    (k : Rf G l X (pc + 3) ls (v1.toList ++ rest) M1 o) : Rf G l X pc ls st M o := by
  intro v M' ho
  obtain ⟨hm1, hMet⟩ := hc v1 M1 hx
  obtain ⟨hm2, k⟩ := k v M' ho
  refine ⟨⟨by omega, by omega⟩, fun p e R s m args below meth cd n0 u0 cells slots H locs lsR hC h1 h2 h3 h4 hH hS hL => ?_⟩
  have hr := hrun p e R s m args below meth cd cells slots H locs lsR _ _ _ hC hH hS hL (by omega) (by omega) hMet
  intro T hT XS
  obtain ⟨vv, st0, t, T', L, h0, X', hLf, e1, e2, ⟨hq1, hq2, hq3⟩, stp⟩ := hr T hT XS
  cases hq1
  have hz := hq3.1
  have hk := hq3.2
  rw [h0] at hz hk
  have key := k p e R s m args below meth cd n0 u0 (cells + (mNx M1 - mNx M)) (slots + (mUs M1 - mUs M)) T'.heap (locs ++ L) lsR hC h1 h2 (by omega) (by omega) (by rw [e1]; exact hq2) ⟨Nat.le_trans hS.1 (by rw [e1]; exact hz), fun q g1 g2 => by rw [e1, hk q (Nat.lt_of_lt_of_le g1 hS.1) g2]; exact hS.2.1 q g1 g2, fun q hq => by
      rcases List.mem_append.mp hq with h | h
      · exact hS.2.2 q h
      · exact hLf q h⟩ hL
  have ev : (v1.toList ++ rest).map (rv G) = (v1.map (rv G)).toList ++ rest.map (rv G) := by cases v1 <;> simp
  rw [ev] at key
  obtain ⟨t2, a1, b1⟩ := key T' rfl X'
  exact ⟨t2, stp t2 a1, b1⟩
theorem am_cb {R : Room} {s : State} {args : Array Value} {m : MethodId} {p : Program} {meth : Method} {cd : Code} {mc ms : Nat} (hC : am_C G X p R s m meth cd) (hb : am_mb y Xc n) (hdp : xD Xc + 1 ≤ xD X) :
    ({ frames := xD Xc, cells := mc, slots := ms, locals := 37 * xD Xc } : Room).frames + 1 ≤ R.frames ∧ 8 + (xL Xc + 11) + ({ frames := xD Xc, cells := mc, slots := ms, locals := 37 * xD Xc } : Room).locals ≤ R.locals ∧ (∀ w ∈ [Cond.code y (xC Xc) (xL Xc) (xT Xc)], ∀ (a' : Array Value) (U : State), s.WarmedH U.vm → w.before a' U = true) ∧ (∀ sig, parseMethodDescriptor y.desc = some sig → n = sig.parameters.length) := by
  obtain ⟨b1, b2, b3, b4, b5, b6⟩ := hb
  have h1 := hC.2.2.2.2.2.2.2.1
  have h2 := hC.2.2.2.2.2.2.2.2.1
  refine ⟨Nat.le_trans hdp h1, by show 8 + (xL Xc + 11) + 37 * xD Xc ≤ _; omega, fun w hw a' U hW => ?_, fun sig h => ?_⟩
  · rw [List.mem_singleton.mp hw]
    exact word_at hW (Or.inl rfl) (hC.2.2.2.2.2.2.2.2.2.2.1 _ b1 #[])
  · rw [h] at b4
    exact (Option.some.inj b4).symm
theorem Rf.callV {v1 : Option Value} {M1 : am_M} {C : String} {T : u_T} {N : Nat} {As : List Value} (hx : x = some (v1, M1)) (hc : Ct G l y Xc (.ref b :: As) M x) (hd : decode (xC X) pc = .ok (.invokevirtual idx, 3)) (hb : am_mb y Xc n) (hw1 : Cond.methodLink (xO X) idx y ∈ am_ws) (hw2 : Cond.instanceMethod y ∈ am_ws) (hw3 : Cond.selects C y y ∈ am_ws) (hcl : am_cl[c]? = some (C, T, N)) (hdp : xD Xc + 1 ≤ xD X) (hn : As.length = n) (hst : st = As.reverse ++ .ref b :: rest) (hcat : (rest.map Value.category).sum ≤ 8) (hk : mKd M b = c + 4)
    (k : Rf G l X (pc + 3) ls (v1.toList ++ rest) M1 o) : Rf G l X pc ls st M o := by
  refine Rf.callC (rest := rest) hx hc hdp (fun p e R s m args below meth cd cells slots H locs lsR mc ms Qc hC hH hS hL hr1 hr2 hM => ?_) k
  obtain ⟨q1, q2, q3, q4⟩ := am_cb (args := args) (mc := mc) (ms := ms) hC hb hdp
  have hts : ∀ w ∈ am_ws, w.before args s = true := fun w hw => hC.2.2.2.2.2.2.2.2.2.2.1 w hw args
  have hT := hC.2.2.2.2.2.2.2.2.2.2
  have hb9 := cl_lt hcl
  have hlt := kd_lt hk (by omega)
  subst hst
  refine va_runV (Ts := am_ws) (C := C) (As := As.map (rv G)) ⟨hC.1, hC.2.1, hC.2.2.1, hC.2.2.2.2.2.2.1, hts⟩ hM ⟨⟨rfl, rfl, q1, q2, q3, List.mem_singleton.mpr rfl, hts _ hb.1, hts _ hb.2.1, hb.2.2.1, q4, hts _ hw1⟩, hts _ hw2, hts _ hw3⟩ ⟨am_blind G M _, va_recv hT.2.1 hH.2 hcl (q0 := b) (ci := c) (fs := am_fs G M b c) (by rw [wd_at hlt, cell_obj hk]), am_entry hT hH hS _⟩ rfl (by rw [List.length_map]; exact hn) hL.1 (by simp [rv]) (lv_room (am_cat hT hcat)) hd ⟨hr1, hr2⟩
theorem Rf.callS {v1 : Option Value} {M1 : am_M} (hx : x = some (v1, M1)) (hc : Ct G l y Xc as M x) (hd : decode (xC X) pc = .ok (.invokestatic idx, 3)) (hb : am_mb y Xc n) (hw1 : Cond.methodLink (xO X) idx y ∈ am_ws) (hw2 : Cond.static y ∈ am_ws) (hdp : xD Xc + 1 ≤ xD X) (hn : as.length = n) (hst : st = as.reverse ++ rest) (hcat : (rest.map Value.category).sum ≤ 8)
    (k : Rf G l X (pc + 3) ls (v1.toList ++ rest) M1 o) : Rf G l X pc ls st M o := by
  refine Rf.callC (rest := rest) hx hc hdp (fun p e R s m args below meth cd cells slots H locs lsR mc ms Qc hC hH hS hL hr1 hr2 hM => ?_) k
  obtain ⟨q1, q2, q3, q4⟩ := am_cb (args := args) (mc := mc) (ms := ms) hC hb hdp
  have hts : ∀ w ∈ am_ws, w.before args s = true := fun w hw => hC.2.2.2.2.2.2.2.2.2.2.1 w hw args
  have hT := hC.2.2.2.2.2.2.2.2.2.2
  subst hst
  refine va_runS (Ts := am_ws) (As := as.map (rv G)) ⟨hC.1, hC.2.1, hC.2.2.1, hC.2.2.2.2.2.2.1, hts⟩ hM ⟨⟨rfl, rfl, q1, q2, q3, List.mem_singleton.mpr rfl, hts _ hb.1, hts _ hb.2.1, hb.2.2.1, q4, hts _ hw1⟩, hts _ hw2⟩ ⟨am_blind G M _, am_entry hT hH hS _⟩ rfl (by rw [List.length_map]; exact hn) hL.1 (by simp) (lv_room (am_cat hT hcat)) hd ⟨hr1, hr2⟩
theorem Rf.callSN {v1 : Option Value} {M1 : am_M} {host : String} (hx : x = some (v1, M1)) (hc : Ct G l y Xc as M x) (hd : decode (xC X) pc = .ok (.invokestatic idx, 3)) (hb : am_mb y Xc n) (hw1 : Cond.methodLinkNest (xO X) idx y host ∈ am_ws) (hw2 : Cond.static y ∈ am_ws) (hdp : xD Xc + 1 ≤ xD X) (hn : as.length = n) (hst : st = as.reverse ++ rest) (hcat : (rest.map Value.category).sum ≤ 8)
    (k : Rf G l X (pc + 3) ls (v1.toList ++ rest) M1 o) : Rf G l X pc ls st M o := by
  refine Rf.callC (rest := rest) hx hc hdp (fun p e R s m args below meth cd cells slots H locs lsR mc ms Qc hC hH hS hL hr1 hr2 hM => ?_) k
  obtain ⟨q1, q2, q3, q4⟩ := am_cb (args := args) (mc := mc) (ms := ms) hC hb hdp
  have hts : ∀ w ∈ am_ws, w.before args s = true := fun w hw => hC.2.2.2.2.2.2.2.2.2.2.1 w hw args
  have hT := hC.2.2.2.2.2.2.2.2.2.2
  subst hst
  refine va_runSN (Ts := am_ws) (As := as.map (rv G)) ⟨hC.1, hC.2.1, hC.2.2.1, hC.2.2.2.2.2.2.1, hts⟩ hM ⟨⟨⟨rfl, rfl, q1, q2, q3, List.mem_singleton.mpr rfl⟩, hts _ hb.1, hts _ hb.2.1, hb.2.2.1, q4, hts _ hw1⟩, hts _ hw2, trivial⟩ ⟨am_blind G M _, am_entry hT hH hS _⟩ rfl (by rw [List.length_map]; exact hn) hL.1 (by simp) (lv_room (am_cat hT hcat)) hd ⟨hr1, hr2⟩
theorem Rf.callI {M1 : am_M} {As : List Value} (hx : x = some (none, M1)) (hc : Ct G l y Xc (.ref b :: As) M x) (hd : decode (xC X) pc = .ok (.invokespecial idx, 3)) (hb : am_mb y Xc n) (hrt : xT Xc = none) (hy : y.name = "<init>") (hw1 : Cond.methodLink (xO X) idx y ∈ am_ws) (hw2 : Cond.instanceMethod y ∈ am_ws) (hdp : xD Xc + 1 ≤ xD X) (hn : As.length = n) (hst : st = As.reverse ++ .ref b :: rest) (hcat : (rest.map Value.category).sum ≤ 8)
    (k : Rf G l X (pc + 3) ls rest M1 o) : Rf G l X pc ls st M o := by
  refine Rf.callC (v1 := none) (rest := rest) hx hc hdp (fun p e R s m args below meth cd cells slots H locs lsR mc ms Qc hC hH hS hL hr1 hr2 hM => ?_) k
  obtain ⟨q1, q2, q3, q4⟩ := am_cb (args := args) (mc := mc) (ms := ms) hC hb hdp
  have hts : ∀ w ∈ am_ws, w.before args s = true := fun w hw => hC.2.2.2.2.2.2.2.2.2.2.1 w hw args
  have hT := hC.2.2.2.2.2.2.2.2.2.2
  have hb1 := hb.1
  rw [hrt] at hM q3 hb1
  subst hst
  refine va_runI (Ts := am_ws) (As := As.map (rv G)) ⟨hC.1, hC.2.1, hC.2.2.1, hC.2.2.2.2.2.2.1, hts⟩ hM ⟨⟨rfl, rfl, q1, q2, q3, List.mem_singleton.mpr rfl, hts _ hb1, hts _ hb.2.1, hb.2.2.1, q4, hts _ hw1⟩, hy, hts _ hw2⟩ ⟨am_blind G M _, am_entry hT hH hS _⟩ rfl (by rw [List.length_map]; exact hn) hL.1 (by simp [rv]) (lv_room (am_cat hT hcat)) hd ⟨hr1, hr2⟩
theorem Rf.callIN {M1 : am_M} {As : List Value} {host : String} (hx : x = some (none, M1)) (hc : Ct G l y Xc (.ref b :: As) M x) (hd : decode (xC X) pc = .ok (.invokespecial idx, 3)) (hb : am_mb y Xc n) (hrt : xT Xc = none) (hy : y.name = "<init>") (hw1 : Cond.methodLinkNest (xO X) idx y host ∈ am_ws) (hw2 : Cond.instanceMethod y ∈ am_ws) (hdp : xD Xc + 1 ≤ xD X) (hn : As.length = n) (hst : st = As.reverse ++ .ref b :: rest) (hcat : (rest.map Value.category).sum ≤ 8)
    (k : Rf G l X (pc + 3) ls rest M1 o) : Rf G l X pc ls st M o := by
  refine Rf.callC (v1 := none) (rest := rest) hx hc hdp (fun p e R s m args below meth cd cells slots H locs lsR mc ms Qc hC hH hS hL hr1 hr2 hM => ?_) k
  obtain ⟨q1, q2, q3, q4⟩ := am_cb (args := args) (mc := mc) (ms := ms) hC hb hdp
  have hts : ∀ w ∈ am_ws, w.before args s = true := fun w hw => hC.2.2.2.2.2.2.2.2.2.2.1 w hw args
  have hT := hC.2.2.2.2.2.2.2.2.2.2
  have hb1 := hb.1
  rw [hrt] at hM q3 hb1
  subst hst
  refine va_runIN (Ts := am_ws) (As := As.map (rv G)) ⟨hC.1, hC.2.1, hC.2.2.1, hC.2.2.2.2.2.2.1, hts⟩ hM ⟨⟨⟨rfl, rfl, q1, q2, q3, List.mem_singleton.mpr rfl⟩, hts _ hb1, hts _ hb.2.1, hb.2.2.1, q4, hts _ hw1⟩, hy, hts _ hw2⟩ ⟨am_blind G M _, am_entry hT hH hS _⟩ rfl (by rw [List.length_map]; exact hn) hL.1 (by simp [rv]) (lv_room (am_cat hT hcat)) hd ⟨hr1, hr2⟩
/-- Object's constructor -/
theorem r_objInit (hd : decode (xC X) pc = .ok (.invokespecial idx, 3)) (hw : Cond.methodLink (xO X) idx objectInit ∈ am_ws) (hw2 : Cond.instanceMethod objectInit ∈ am_ws) (hw3 : Cond.code objectInit ⟨#[0xb1]⟩ 1 none ∈ am_ws) (hcat : (rest.map Value.category).sum ≤ 8) (hdp : 1 ≤ xD X) (k : Rf G l X (pc + 3) ls rest M o) : Rf G l X pc ls (.ref a :: rest) M o := by
  refine Rf.go (fun p e R s m args below meth c cells slots H locs lsR Q hC hL k => ?_) k
  have hT := hC.2.2.2.2.2.2.2.2.2.2
  have h1 := hC.2.2.2.2.2.2.2.1
  have h2 := hC.2.2.2.2.2.2.2.2.1
  have h3 := am_cat (rest := rest) hT hcat
  refine W.objInit hC.1 hC.2.1 hC.2.2.2.2.2.2.1 (hT.1 _ hw args) (hT.1 _ hw2 args) (hT.1 _ hw3 args) rfl (by rw [hC.2.2.1]; exact hL.1) rfl hd (Nat.le_trans hdp h1) (by show 2 * 0 + _ + 12 ≤ _; omega) k
/-- a contract out of a walk -/
theorem Ct.of {as : List Value} (hp : plainName y.cls = true) (hcls : y.cls = xO X) (hnm : y.name = xN X) (has : (as.map Value.category).sum ≤ xL X) (k : Rf G l X 0 (am_ini (xL X) as) [] M o) : Ct G l y X as M o := by
  intro v M' ho
  obtain ⟨hm, k⟩ := k v M' ho
  refine ⟨hm, ?_⟩
  refine Met.ofW (cc := xC X) (maxL := xL X) (ret := xT X) hp rfl ?_
  intro p e s m args below meth c s₁ B hml hv
  obtain ⟨rfl, hH, hT⟩ := hv
  rw [lg_entry_eq]
  have h5 : gB G ≤ s.heap.size := by rw [hH.1]; omega
  have hnm2 : meth.name = xN X := ((name_of_methodNamed B.named B.method).1).trans hnm
  have hown : s.vm.findClass (xO X) = some m.cls := by rw [← hcls]; exact findClass_of_methodNamed B.named
  exact k p e _ s m _ below meth c (mNx M) (mUs M) 0 0 s.heap [] _ ⟨B.exec, B.bytes, hml, B.returns, B.notSynchronized, hnm2, hown, Nat.le_refl _, Nat.le_refl _, h5, hT⟩ (by show _ ≤ mNx M + (mNx M' - mNx M); omega) (by show _ ≤ mUs M + (mUs M' - mUs M); omega) (by omega) (by omega) hH va_S.rf (LV.ini hT (by rw [sl_len hT]; exact has))
end RfCalls
