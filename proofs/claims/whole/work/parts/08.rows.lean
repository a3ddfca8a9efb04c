/-! ===== the judgement: a walked method, as a value ===== -/
/-- a method: its class, its bytes, its locals, what it returns, its name, how many frames it may nest -/
abbrev am_X : Type := String × ByteArray × Nat × Option FieldType × String × Nat
def xO (X : am_X) : String := X.1
def xC (X : am_X) : ByteArray := X.2.1
def xL (X : am_X) : Nat := X.2.2.1
def xT (X : am_X) : Option FieldType := X.2.2.2.1
def xN (X : am_X) : String := X.2.2.2.2.1
def xD (X : am_X) : Nat := X.2.2.2.2.2
def am_Q (G : am_G) (v : Option Value) (M' : am_M) : Array Value → State → Outcome → State → Prop := fun _ st oc t => oc = .returned (v.map (rv G)) ∧ am_Hp G M' t.heap ∧ va_F (gA G) st t
def am_C (G : am_G) (X : am_X) (p : Program) (R : Room) (s : State) (m : MethodId) (meth : Method) (c : Code) : Prop :=
  p.tables.exec = Jvm.exec ∧ c.code = xC X ∧ c.maxLocals = xL X ∧ meth.sig.returnType = xT X ∧ meth.locks = false ∧ meth.name = xN X ∧ s.vm.findClass (xO X) = some m.cls ∧ xD X ≤ R.frames ∧ 37 * xD X ≤ R.locals ∧ gB G ≤ s.heap.size ∧ am_Tb G s
def Rf (G : am_G) (l : Launch) (X : am_X) (pc : Nat) (ls st : List Value) (M : am_M) (o : am_R) : Prop :=
  ∀ (v : Option Value) (M' : am_M), o = some (v, M') → (mNx M ≤ mNx M' ∧ mUs M ≤ mUs M') ∧
    ∀ (p : Program) (e : Env) (R : Room) (s : State) (m : MethodId) (args : Array Value) (below : List Frame) (meth : Method) (c : Code) (n0 u0 cells slots : Nat) (H : Heap) (locs : List Loc) (lsR : Array Slot),
      am_C G X p R s m meth c → mNx M' ≤ n0 + R.cells → mUs M' ≤ u0 + R.slots → n0 + cells = mNx M → u0 + slots = mUs M → am_Hp G M H → va_S (gA G) s.heap H locs → LV G (xL X) ls lsR →
      W p l e R s m args below meth c H locs cells slots (MQ below (am_Q G v M') args s R.cells R.slots (gA G)) (F0 m pc lsR (st.map (rv G)))
/-- a contract: the method, called with these values over this memory, answers as 'o' says -/
def Ct (G : am_G) (l : Launch) (y : MethodName) (X : am_X) (as : List Value) (M : am_M) (o : am_R) : Prop :=
  ∀ (v : Option Value) (M' : am_M), o = some (v, M') → (mNx M ≤ mNx M' ∧ mUs M ≤ mUs M') ∧
    Met l y [.code y (xC X) (xL X) (xT X)] { frames := xD X, cells := mNx M' - mNx M, slots := mUs M' - mUs M, locals := 37 * xD X } (va_Pc (as.map (rv G)) (fun U => am_Hp G M U.heap ∧ am_Tb G U)) (am_Q G v M') (mNx M' - mNx M) (mUs M' - mUs M) (gA G)
section RfRows
variable {G : am_G} {l : Launch} {X : am_X} {pc : Nat} {ls st : List Value} {M : am_M} {o : am_R}
theorem Rf.no : Rf G l X pc ls st M none := fun v M' h => by cases h
theorem Rf.nm {α : Type} {x : α} {f : α → am_R} (k : ∀ x, Rf G l X pc ls st M (f x)) : Rf G l X pc ls st M (nm x f) := k x
theorem Rf.msk (bs : List Bool) (k : Rf G l X pc (msk bs ls) st M o) : Rf G l X pc ls st M o := by
  intro v M' ho
  obtain ⟨hm, k⟩ := k v M' ho
  exact ⟨hm, fun p e R s m args below meth c n0 u0 cells slots H locs lsR hC h1 h2 h3 h4 hH hS hL => k p e R s m args below meth c n0 u0 cells slots H locs lsR hC h1 h2 h3 h4 hH hS (hL.msk bs)⟩
theorem Rf.ite {c : Prop} [Decidable c] {A B : am_R} (ka : c → Rf G l X pc ls st M A) (kb : ¬ c → Rf G l X pc ls st M B) : Rf G l X pc ls st M (if c then A else B) := by
  by_cases h : c
  · rw [if_pos h]; exact ka h
  · rw [if_neg h]; exact kb h
/-- a step that moves nothing but the frame -/
theorem Rf.go {pc' : Nat} {st' : List Value}
    (h : ∀ (p : Program) (e : Env) (R : Room) (s : State) (m : MethodId) (args : Array Value) (below : List Frame) (meth : Method) (c : Code) (cells slots : Nat) (H : Heap) (locs : List Loc) (lsR : Array Slot) (Q : State → Prop), am_C G X p R s m meth c → LV G (xL X) ls lsR → W p l e R s m args below meth c H locs cells slots Q (F0 m pc' lsR (st'.map (rv G))) → W p l e R s m args below meth c H locs cells slots Q (F0 m pc lsR (st.map (rv G))))
    (k : Rf G l X pc' ls st' M o) : Rf G l X pc ls st M o := by
  intro v M' ho
  obtain ⟨hm, k⟩ := k v M' ho
  exact ⟨hm, fun p e R s m args below meth c n0 u0 cells slots H locs lsR hC h1 h2 h3 h4 hH hS hL => h p e R s m args below meth c cells slots H locs lsR _ hC hL (k p e R s m args below meth c n0 u0 cells slots H locs lsR hC h1 h2 h3 h4 hH hS hL)⟩
/-- a step that moves the locals -/
theorem Rf.gol {pc' : Nat} {ls' st' : List Value}
    (h : ∀ (p : Program) (e : Env) (R : Room) (s : State) (m : MethodId) (args : Array Value) (below : List Frame) (meth : Method) (c : Code) (cells slots : Nat) (H : Heap) (locs : List Loc) (lsR : Array Slot) (Q : State → Prop), am_C G X p R s m meth c → LV G (xL X) ls lsR → (∀ lsR', LV G (xL X) ls' lsR' → W p l e R s m args below meth c H locs cells slots Q (F0 m pc' lsR' (st'.map (rv G)))) → W p l e R s m args below meth c H locs cells slots Q (F0 m pc lsR (st.map (rv G))))
    (k : Rf G l X pc' ls' st' M o) : Rf G l X pc ls st M o := by
  intro v M' ho
  obtain ⟨hm, k⟩ := k v M' ho
  exact ⟨hm, fun p e R s m args below meth c n0 u0 cells slots H locs lsR hC h1 h2 h3 h4 hH hS hL => h p e R s m args below meth c cells slots H locs lsR _ hC hL (fun lsR' hL' => k p e R s m args below meth c n0 u0 cells slots H locs lsR' hC h1 h2 h3 h4 hH hS hL')⟩
variable {x y : Int32} {xl yl : Int64} {i : Nat}
theorem r_iconst {n : Int} (hd : decode (xC X) pc = .ok (.iconst n, 1)) (v : Int32) (hv : Int32.ofInt n = v) (k : Rf G l X (pc + 1) ls (.int v :: st) M o) : Rf G l X pc ls st M o := Rf.go (fun p e R s m args below meth c cells slots H locs lsR Q hC hL k => lv_iconst hC.1 hC.2.1 hd hv k) k
theorem r_bipush {n : Int} (hd : decode (xC X) pc = .ok (.bipush n, 2)) (v : Int32) (hv : (Int8.ofInt n).toInt32 = v) (k : Rf G l X (pc + 2) ls (.int v :: st) M o) : Rf G l X pc ls st M o := Rf.go (fun p e R s m args below meth c cells slots H locs lsR Q hC hL k => lv_bipush hC.1 hC.2.1 hd hv k) k
theorem r_sipush {n : Int} (hd : decode (xC X) pc = .ok (.sipush n, 3)) (v : Int32) (hv : (Int16.ofInt n).toInt32 = v) (k : Rf G l X (pc + 3) ls (.int v :: st) M o) : Rf G l X pc ls st M o := Rf.go (fun p e R s m args below meth c cells slots H locs lsR Q hC hL k => lv_sipush hC.1 hC.2.1 hd hv k) k
theorem r_lconst {n : Fin 2} (hd : decode (xC X) pc = .ok (.lconst n, 1)) (v : Int64) (hv : Int64.ofNat (n : Nat) = v) (k : Rf G l X (pc + 1) ls (.long v :: st) M o) : Rf G l X pc ls st M o := Rf.go (fun p e R s m args below meth c cells slots H locs lsR Q hC hL k => lv_lconst hC.1 hC.2.1 hd hv k) k
theorem r_null (hd : decode (xC X) pc = .ok (.aconst_null, 1)) (k : Rf G l X (pc + 1) ls (.null :: st) M o) : Rf G l X pc ls st M o := Rf.go (fun p e R s m args below meth c cells slots H locs lsR Q hC hL k => lv_null hC.1 hC.2.1 hd k) k
theorem r_ldc {idx : Nat} (hd : decode (xC X) pc = .ok (.ldc idx, 2)) (v : Int32) (hw : Cond.constant (xO X) idx v ∈ am_ws) (k : Rf G l X (pc + 2) ls (.int v :: st) M o) : Rf G l X pc ls st M o := Rf.go (fun p e R s m args below meth c cells slots H locs lsR Q hC hL k => lv_ldc hC.1 hC.2.1 hC.2.2.2.2.2.2.1 (hC.2.2.2.2.2.2.2.2.2.2.1 _ hw _) hd k) k
theorem r_ldc2 {idx : Nat} (hd : decode (xC X) pc = .ok (.ldc2_w idx, 3)) (v : Int64) (hw : Cond.constantLong (xO X) idx v ∈ am_ws) (k : Rf G l X (pc + 3) ls (.long v :: st) M o) : Rf G l X pc ls st M o := Rf.go (fun p e R s m args below meth c cells slots H locs lsR Q hC hL k => lv_ldc2 hC.1 hC.2.1 hC.2.2.2.2.2.2.1 (hC.2.2.2.2.2.2.2.2.2.2.1 _ hw _) hd k) k
theorem r_iload (hd : decode (xC X) pc = .ok (.iload i, 2)) (hl : ls[i]? = some (.int x)) (k : Rf G l X (pc + 2) ls (.int x :: st) M o) : Rf G l X pc ls st M o := Rf.go (fun p e R s m args below meth c cells slots H locs lsR Q hC hL k => lv_iload hC.1 hC.2.1 hd (hL.at hl (fun h => by cases h)) k) k
theorem r_iload_n {j : Fin 4} (hd : decode (xC X) pc = .ok (.iload_n j, 1)) (hl : ls[(j : Nat)]? = some (.int x)) (k : Rf G l X (pc + 1) ls (.int x :: st) M o) : Rf G l X pc ls st M o := Rf.go (fun p e R s m args below meth c cells slots H locs lsR Q hC hL k => lv_iload_n hC.1 hC.2.1 hd rfl (hL.at hl (fun h => by cases h)) k) k
theorem r_lload (hd : decode (xC X) pc = .ok (.lload i, 2)) (hl : ls[i]? = some (.long xl)) (k : Rf G l X (pc + 2) ls (.long xl :: st) M o) : Rf G l X pc ls st M o := Rf.go (fun p e R s m args below meth c cells slots H locs lsR Q hC hL k => lv_lload hC.1 hC.2.1 hd (hL.at hl (fun h => by cases h)) k) k
theorem r_lload_n {j : Fin 4} (hd : decode (xC X) pc = .ok (.lload_n j, 1)) (hl : ls[(j : Nat)]? = some (.long xl)) (k : Rf G l X (pc + 1) ls (.long xl :: st) M o) : Rf G l X pc ls st M o := Rf.go (fun p e R s m args below meth c cells slots H locs lsR Q hC hL k => lv_lload_n hC.1 hC.2.1 hd rfl (hL.at hl (fun h => by cases h)) k) k
theorem r_aload {a : Nat} (hd : decode (xC X) pc = .ok (.aload i, 2)) (hl : ls[i]? = some (.ref a)) (k : Rf G l X (pc + 2) ls (.ref a :: st) M o) : Rf G l X pc ls st M o := Rf.go (fun p e R s m args below meth c cells slots H locs lsR Q hC hL k => lv_aload hC.1 hC.2.1 hd (hL.at hl (fun h => by cases h)) k) k
theorem r_aload_n {a : Nat} {j : Fin 4} (hd : decode (xC X) pc = .ok (.aload_n j, 1)) (hl : ls[(j : Nat)]? = some (.ref a)) (k : Rf G l X (pc + 1) ls (.ref a :: st) M o) : Rf G l X pc ls st M o := Rf.go (fun p e R s m args below meth c cells slots H locs lsR Q hC hL k => lv_aload_n hC.1 hC.2.1 hd rfl (hL.at hl (fun h => by cases h)) k) k
theorem r_aload_N {j : Fin 4} (hd : decode (xC X) pc = .ok (.aload_n j, 1)) (hl : ls[(j : Nat)]? = some .null) (k : Rf G l X (pc + 1) ls (.null :: st) M o) : Rf G l X pc ls st M o := Rf.go (fun p e R s m args below meth c cells slots H locs lsR Q hC hL k => lv_aload_nN hC.1 hC.2.1 hd rfl (hL.at hl (fun h => by cases h)) k) k
theorem r_aloadN (hd : decode (xC X) pc = .ok (.aload i, 2)) (hl : ls[i]? = some .null) (k : Rf G l X (pc + 2) ls (.null :: st) M o) : Rf G l X pc ls st M o := Rf.go (fun p e R s m args below meth c cells slots H locs lsR Q hC hL k => lv_aloadN hC.1 hC.2.1 hd (hL.at hl (fun h => by cases h)) k) k
theorem r_aload_s {a : Nat} {j : Fin 4} (hd : decode (xC X) pc = .ok (.aload_n j, 1)) (hl : ls[(j : Nat)]? = some (.retAddr a)) (ha : a ≠ 0) (k : Rf G l X (pc + 1) ls (.retAddr a :: st) M o) : Rf G l X pc ls st M o := Rf.go (fun p e R s m args below meth c cells slots H locs lsR Q hC hL k => by
  have h1 := hL.at hl (fun h => by cases h; exact ha rfl)
  have h2 : rv G (.retAddr a) = gS G a := rfl
  rw [h2] at h1
  rw [List.map_cons, h2] at k
  rcases hC.2.2.2.2.2.2.2.2.2.2.2.2.2.2.2.2.2.2 a with q | ⟨b, q⟩
  · rw [q] at h1 k
    exact lv_aload_nN hC.1 hC.2.1 hd rfl h1 k
  · rw [q] at h1 k
    exact lv_aload_n hC.1 hC.2.1 hd rfl h1 k) k
theorem r_istore {ls' : List Value} (hd : decode (xC X) pc = .ok (.istore i, 2)) (hi : i < xL X) (hs : st1 ls i (.int x) = ls') (k : Rf G l X (pc + 2) ls' st M o) : Rf G l X pc ls (.int x :: st) M o := Rf.gol (fun p e R s m args below meth c cells slots H locs lsR Q hC hL k => lv_istore hC.1 hC.2.1 hd hL.has hi rfl (fun lsR' h => k lsR' (hs ▸ LV.put1 (lsR := lsR) hC.2.2.2.2.2.2.2.2.2.2 h))) k
theorem r_istore_n {ls' : List Value} {j : Fin 4} (hd : decode (xC X) pc = .ok (.istore_n j, 1)) (hi : (j : Nat) < xL X) (hs : st1 ls j (.int x) = ls') (k : Rf G l X (pc + 1) ls' st M o) : Rf G l X pc ls (.int x :: st) M o := Rf.gol (fun p e R s m args below meth c cells slots H locs lsR Q hC hL k => lv_istore_n hC.1 hC.2.1 hd rfl hL.has hi rfl (fun lsR' h => k lsR' (hs ▸ LV.put1 (lsR := lsR) hC.2.2.2.2.2.2.2.2.2.2 h))) k
theorem r_lstore {ls' : List Value} (hd : decode (xC X) pc = .ok (.lstore i, 2)) (hi : i + 1 < xL X) (hs : st2 ls i (.long xl) = ls') (k : Rf G l X (pc + 2) ls' st M o) : Rf G l X pc ls (.long xl :: st) M o := Rf.gol (fun p e R s m args below meth c cells slots H locs lsR Q hC hL k => lv_lstore hC.1 hC.2.1 hd hL.has hi rfl (fun lsR' h => k lsR' (hs ▸ LV.put2 (lsR := lsR) hC.2.2.2.2.2.2.2.2.2.2 h))) k
theorem r_lstore_n {ls' : List Value} {j : Fin 4} (hd : decode (xC X) pc = .ok (.lstore_n j, 1)) (hi : (j : Nat) + 1 < xL X) (hs : st2 ls j (.long xl) = ls') (k : Rf G l X (pc + 1) ls' st M o) : Rf G l X pc ls (.long xl :: st) M o := Rf.gol (fun p e R s m args below meth c cells slots H locs lsR Q hC hL k => lv_lstore_n hC.1 hC.2.1 hd rfl hL.has hi rfl (fun lsR' h => k lsR' (hs ▸ LV.put2 (lsR := lsR) hC.2.2.2.2.2.2.2.2.2.2 h))) k
theorem r_astore {ls' : List Value} {a : Nat} (hd : decode (xC X) pc = .ok (.astore i, 2)) (hi : i < xL X) (hs : st1 ls i (.ref a) = ls') (k : Rf G l X (pc + 2) ls' st M o) : Rf G l X pc ls (.ref a :: st) M o := Rf.gol (fun p e R s m args below meth c cells slots H locs lsR Q hC hL k => lv_astore hC.1 hC.2.1 hd hL.has hi rfl (fun lsR' h => k lsR' (hs ▸ LV.put1 (lsR := lsR) hC.2.2.2.2.2.2.2.2.2.2 h))) k
theorem r_astore_n {ls' : List Value} {a : Nat} {j : Fin 4} (hd : decode (xC X) pc = .ok (.astore_n j, 1)) (hi : (j : Nat) < xL X) (hs : st1 ls j (.ref a) = ls') (k : Rf G l X (pc + 1) ls' st M o) : Rf G l X pc ls (.ref a :: st) M o := Rf.gol (fun p e R s m args below meth c cells slots H locs lsR Q hC hL k => lv_astore_n hC.1 hC.2.1 hd rfl hL.has hi rfl (fun lsR' h => k lsR' (hs ▸ LV.put1 (lsR := lsR) hC.2.2.2.2.2.2.2.2.2.2 h))) k
theorem r_astoreN {ls' : List Value} (hd : decode (xC X) pc = .ok (.astore i, 2)) (hi : i < xL X) (hs : st1 ls i .null = ls') (k : Rf G l X (pc + 2) ls' st M o) : Rf G l X pc ls (.null :: st) M o := Rf.gol (fun p e R s m args below meth c cells slots H locs lsR Q hC hL k => lv_astoreN hC.1 hC.2.1 hd hL.has hi rfl (fun lsR' h => k lsR' (hs ▸ LV.put1 (lsR := lsR) hC.2.2.2.2.2.2.2.2.2.2 h))) k
theorem r_astore_N {ls' : List Value} {j : Fin 4} (hd : decode (xC X) pc = .ok (.astore_n j, 1)) (hi : (j : Nat) < xL X) (hs : st1 ls j .null = ls') (k : Rf G l X (pc + 1) ls' st M o) : Rf G l X pc ls (.null :: st) M o := Rf.gol (fun p e R s m args below meth c cells slots H locs lsR Q hC hL k => lv_astore_nN hC.1 hC.2.1 hd rfl hL.has hi rfl (fun lsR' h => k lsR' (hs ▸ LV.put1 (lsR := lsR) hC.2.2.2.2.2.2.2.2.2.2 h))) k
theorem r_iinc {ls' : List Value} {n : Int} (hd : decode (xC X) pc = .ok (.iinc i n, 3)) (hi : i < xL X) (hl : ls[i]? = some (.int x)) (hv : x + Int32.ofInt n = y) (hs : st1 ls i (.int y) = ls') (k : Rf G l X (pc + 3) ls' st M o) : Rf G l X pc ls st M o := Rf.gol (fun p e R s m args below meth c cells slots H locs lsR Q hC hL k => by
  obtain ⟨q, hq⟩ := List.getElem?_of_mem (prs_mem (G := G) hl (fun h => by cases h))
  exact lv_iinc hC.1 hC.2.1 hd hL.has (k := q) hq hv hi rfl (fun lsR' h => k lsR' (hs ▸ LV.put1 (lsR := lsR) (v := .int y) hC.2.2.2.2.2.2.2.2.2.2 h))) k
theorem r_iadd (hd : decode (xC X) pc = .ok (.iadd, 1)) (k : Rf G l X (pc + 1) ls (.int (x + y) :: st) M o) : Rf G l X pc ls (.int y :: .int x :: st) M o := Rf.go (fun p e R s m args below meth c cells slots H locs lsR Q hC hL k => lv_iadd hC.1 hC.2.1 hd k) k
theorem r_isub (hd : decode (xC X) pc = .ok (.isub, 1)) (k : Rf G l X (pc + 1) ls (.int (x - y) :: st) M o) : Rf G l X pc ls (.int y :: .int x :: st) M o := Rf.go (fun p e R s m args below meth c cells slots H locs lsR Q hC hL k => lv_isub hC.1 hC.2.1 hd k) k
theorem r_imul (hd : decode (xC X) pc = .ok (.imul, 1)) (k : Rf G l X (pc + 1) ls (.int (x * y) :: st) M o) : Rf G l X pc ls (.int y :: .int x :: st) M o := Rf.go (fun p e R s m args below meth c cells slots H locs lsR Q hC hL k => lv_imul hC.1 hC.2.1 hd k) k
theorem r_iand (hd : decode (xC X) pc = .ok (.iand, 1)) (k : Rf G l X (pc + 1) ls (.int (x &&& y) :: st) M o) : Rf G l X pc ls (.int y :: .int x :: st) M o := Rf.go (fun p e R s m args below meth c cells slots H locs lsR Q hC hL k => lv_iand hC.1 hC.2.1 hd k) k
theorem r_ior (hd : decode (xC X) pc = .ok (.ior, 1)) (k : Rf G l X (pc + 1) ls (.int (x ||| y) :: st) M o) : Rf G l X pc ls (.int y :: .int x :: st) M o := Rf.go (fun p e R s m args below meth c cells slots H locs lsR Q hC hL k => lv_ior hC.1 hC.2.1 hd k) k
theorem r_ixor (hd : decode (xC X) pc = .ok (.ixor, 1)) (k : Rf G l X (pc + 1) ls (.int (x ^^^ y) :: st) M o) : Rf G l X pc ls (.int y :: .int x :: st) M o := Rf.go (fun p e R s m args below meth c cells slots H locs lsR Q hC hL k => lv_ixor hC.1 hC.2.1 hd k) k
theorem r_ishl (hd : decode (xC X) pc = .ok (.ishl, 1)) (k : Rf G l X (pc + 1) ls (.int (x <<< (y &&& 31)) :: st) M o) : Rf G l X pc ls (.int y :: .int x :: st) M o := Rf.go (fun p e R s m args below meth c cells slots H locs lsR Q hC hL k => lv_ishl hC.1 hC.2.1 hd k) k
theorem r_ishr (hd : decode (xC X) pc = .ok (.ishr, 1)) (k : Rf G l X (pc + 1) ls (.int (x >>> (y &&& 31)) :: st) M o) : Rf G l X pc ls (.int y :: .int x :: st) M o := Rf.go (fun p e R s m args below meth c cells slots H locs lsR Q hC hL k => lv_ishr hC.1 hC.2.1 hd k) k
theorem r_iushr (hd : decode (xC X) pc = .ok (.iushr, 1)) (k : Rf G l X (pc + 1) ls (.int ((x.toUInt32 >>> (y.toUInt32 &&& Int32.toUInt32 31)).toInt32) :: st) M o) : Rf G l X pc ls (.int y :: .int x :: st) M o := Rf.go (fun p e R s m args below meth c cells slots H locs lsR Q hC hL k => lv_iushr hC.1 hC.2.1 hd rfl k) k
theorem r_ladd (hd : decode (xC X) pc = .ok (.ladd, 1)) (k : Rf G l X (pc + 1) ls (.long (xl + yl) :: st) M o) : Rf G l X pc ls (.long yl :: .long xl :: st) M o := Rf.go (fun p e R s m args below meth c cells slots H locs lsR Q hC hL k => lv_ladd hC.1 hC.2.1 hd k) k
theorem r_lsub (hd : decode (xC X) pc = .ok (.lsub, 1)) (k : Rf G l X (pc + 1) ls (.long (xl - yl) :: st) M o) : Rf G l X pc ls (.long yl :: .long xl :: st) M o := Rf.go (fun p e R s m args below meth c cells slots H locs lsR Q hC hL k => lv_lsub hC.1 hC.2.1 hd k) k
theorem r_lmul (hd : decode (xC X) pc = .ok (.lmul, 1)) (k : Rf G l X (pc + 1) ls (.long (xl * yl) :: st) M o) : Rf G l X pc ls (.long yl :: .long xl :: st) M o := Rf.go (fun p e R s m args below meth c cells slots H locs lsR Q hC hL k => lv_lmul hC.1 hC.2.1 hd k) k
theorem r_land (hd : decode (xC X) pc = .ok (.land, 1)) (k : Rf G l X (pc + 1) ls (.long (xl &&& yl) :: st) M o) : Rf G l X pc ls (.long yl :: .long xl :: st) M o := Rf.go (fun p e R s m args below meth c cells slots H locs lsR Q hC hL k => lv_land hC.1 hC.2.1 hd k) k
theorem r_lor (hd : decode (xC X) pc = .ok (.lor, 1)) (k : Rf G l X (pc + 1) ls (.long (xl ||| yl) :: st) M o) : Rf G l X pc ls (.long yl :: .long xl :: st) M o := Rf.go (fun p e R s m args below meth c cells slots H locs lsR Q hC hL k => lv_lor hC.1 hC.2.1 hd k) k
theorem r_lxor (hd : decode (xC X) pc = .ok (.lxor, 1)) (k : Rf G l X (pc + 1) ls (.long (xl ^^^ yl) :: st) M o) : Rf G l X pc ls (.long yl :: .long xl :: st) M o := Rf.go (fun p e R s m args below meth c cells slots H locs lsR Q hC hL k => lv_lxor hC.1 hC.2.1 hd k) k
theorem r_lushr (hd : decode (xC X) pc = .ok (.lushr, 1)) (k : Rf G l X (pc + 1) ls (.long ((xl.toUInt64 >>> (y.toInt64.toUInt64 &&& Int64.toUInt64 63)).toInt64) :: st) M o) : Rf G l X pc ls (.int y :: .long xl :: st) M o := Rf.go (fun p e R s m args below meth c cells slots H locs lsR Q hC hL k => lv_lushr hC.1 hC.2.1 hd rfl k) k
theorem r_lcmp (hd : decode (xC X) pc = .ok (.lcmp, 1)) (k : Rf G l X (pc + 1) ls (.int (lg_cmp xl yl) :: st) M o) : Rf G l X pc ls (.long yl :: .long xl :: st) M o := Rf.go (fun p e R s m args below meth c cells slots H locs lsR Q hC hL k => W.lcmp hC.1 hC.2.1 hd k) k
theorem r_ineg (hd : decode (xC X) pc = .ok (.ineg, 1)) (k : Rf G l X (pc + 1) ls (.int (-x) :: st) M o) : Rf G l X pc ls (.int x :: st) M o := Rf.go (fun p e R s m args below meth c cells slots H locs lsR Q hC hL k => lv_ineg hC.1 hC.2.1 hd k) k
theorem r_i2l (hd : decode (xC X) pc = .ok (.i2l, 1)) (k : Rf G l X (pc + 1) ls (.long (x.toInt64) :: st) M o) : Rf G l X pc ls (.int x :: st) M o := Rf.go (fun p e R s m args below meth c cells slots H locs lsR Q hC hL k => lv_i2l hC.1 hC.2.1 hd rfl k) k
theorem r_l2i (hd : decode (xC X) pc = .ok (.l2i, 1)) (k : Rf G l X (pc + 1) ls (.int (xl.toInt32) :: st) M o) : Rf G l X pc ls (.long xl :: st) M o := Rf.go (fun p e R s m args below meth c cells slots H locs lsR Q hC hL k => lv_l2i hC.1 hC.2.1 hd rfl k) k
theorem r_i2b (hd : decode (xC X) pc = .ok (.i2b, 1)) (k : Rf G l X (pc + 1) ls (.int (x.toInt8.toInt32) :: st) M o) : Rf G l X pc ls (.int x :: st) M o := Rf.go (fun p e R s m args below meth c cells slots H locs lsR Q hC hL k => lv_i2b hC.1 hC.2.1 hd rfl k) k
end RfRows
