/-! ===== rows over the heap ===== -/
def am_dv (c k : Nat) : Value := match am_ft c k with
  | 0 => .int 0
  | 1 => .long 0
  | _ => .null
def am_Cl (c : Nat) (C : String) (T : u_T) (N : Nat) (ty : Nat → FieldType) : Prop :=
  am_cl[c]? = some (C, T, N) ∧ (∀ k, k < N → parseFieldDescriptor (T k).2.2.1 = some (ty k)) ∧ (∀ a, a < N → ∀ b, b < N → a ≠ b → (T a).2.1 ≠ (T b).2.1) ∧ (∀ w ∈ u_ws C T N, w ∈ am_ws) ∧ am_nf c = N ∧ (∀ k, k < N → (T k).1 = C) ∧ ∀ k, k < N → defaultValue (ty k) = am_dv c k
def am_fl (own : String) (idx c k : Nat) (tk : FieldType) (fin : Bool) : Prop := ∃ (C : String) (T : u_T) (N : Nat) (ty : Nat → FieldType), am_Cl c C T N ty ∧ k < N ∧ ty k = tk ∧ (T k).2.2.2 = fin ∧ Cond.fieldLink own idx C (T k).2.1 (T k).2.2.1 ∈ am_ws
theorem cl_lt {c : Nat} {q : vw_C} (h : am_cl[c]? = some q) : c < 10 := (List.getElem?_eq_some_iff.mp h).1
section RfRows
variable {G : am_G} {l : Launch} {X : am_X} {pc : Nat} {ls st : List Value} {M : am_M} {o : am_R} {x y : Int32} {xl yl : Int64} {i : Nat} {A B : am_R}
theorem Rf.goH {pc' : Nat} {st' : List Value}
    (h : ∀ (p : Program) (e : Env) (R : Room) (s : State) (m : MethodId) (args : Array Value) (below : List Frame) (meth : Method) (c : Code) (cells slots : Nat) (H : Heap) (locs : List Loc) (lsR : Array Slot) (Q : State → Prop), am_C G X p R s m meth c → am_Hp G M H → va_S (gA G) s.heap H locs → LV G (xL X) ls lsR → W p l e R s m args below meth c H locs cells slots Q (F0 m pc' lsR (st'.map (rv G))) → W p l e R s m args below meth c H locs cells slots Q (F0 m pc lsR (st.map (rv G))))
    (k : Rf G l X pc' ls st' M o) : Rf G l X pc ls st M o := by
  intro v M' ho
  obtain ⟨hm, k⟩ := k v M' ho
  exact ⟨hm, fun p e R s m args below meth c n0 u0 cells slots H locs lsR hC h1 h2 h3 h4 hH hS hL => h p e R s m args below meth c cells slots H locs lsR _ hC hH hS hL (k p e R s m args below meth c n0 u0 cells slots H locs lsR hC h1 h2 h3 h4 hH hS hL)⟩
theorem Rf.goM {M1 : am_M} {pc' : Nat} {st' : List Value} (hx : mNx M1 = mNx M) (hu : mUs M1 = mUs M)
    (h : ∀ (p : Program) (e : Env) (R : Room) (s : State) (m : MethodId) (args : Array Value) (below : List Frame) (meth : Method) (c : Code) (cells slots : Nat) (H : Heap) (locs : List Loc) (lsR : Array Slot) (Q : State → Prop), am_C G X p R s m meth c → am_Hp G M H → va_S (gA G) s.heap H locs → LV G (xL X) ls lsR → (∀ (H1 : Heap) (locs1 : List Loc), am_Hp G M1 H1 → va_S (gA G) s.heap H1 locs1 → W p l e R s m args below meth c H1 locs1 cells slots Q (F0 m pc' lsR (st'.map (rv G)))) → W p l e R s m args below meth c H locs cells slots Q (F0 m pc lsR (st.map (rv G))))
    (k : Rf G l X pc' ls st' M1 o) : Rf G l X pc ls st M o := by
  intro v M' ho
  obtain ⟨hm, k⟩ := k v M' ho
  rw [hx, hu] at hm
  exact ⟨hm, fun p e R s m args below meth c n0 u0 cells slots H locs lsR hC h1 h2 h3 h4 hH hS hL => h p e R s m args below meth c cells slots H locs lsR _ hC hH hS hL (fun H1 locs1 hH1 hS1 => k p e R s m args below meth c n0 u0 cells slots H1 locs1 lsR hC h1 h2 (by rw [hx]; exact h3) (by rw [hu]; exact h4) hH1 hS1 hL)⟩
theorem Rf.goN {t n pc' : Nat} {st' : List Value}
    (h : ∀ (p : Program) (e : Env) (R : Room) (s : State) (m : MethodId) (args : Array Value) (below : List Frame) (meth : Method) (c : Code) (cells slots : Nat) (H : Heap) (locs : List Loc) (lsR : Array Slot) (Q : State → Prop), am_C G X p R s m meth c → am_Hp G M H → va_S (gA G) s.heap H locs → LV G (xL X) ls lsR → cells + 1 ≤ R.cells → slots + n ≤ R.slots → (∀ (H1 : Heap), am_Hp G (mkC M t n) H1 → va_S (gA G) s.heap H1 locs → W p l e R s m args below meth c H1 locs (cells + 1) (slots + n) Q (F0 m pc' lsR (st'.map (rv G)))) → W p l e R s m args below meth c H locs cells slots Q (F0 m pc lsR (st.map (rv G))))
    (k : Rf G l X pc' ls st' (mkC M t n) o) : Rf G l X pc ls st M o := by
  intro v M' ho
  obtain ⟨hm, k⟩ := k v M' ho
  rw [mNx_mkC, mUs_mkC] at hm
  exact ⟨⟨by omega, by omega⟩, fun p e R s m args below meth c n0 u0 cells slots H locs lsR hC h1 h2 h3 h4 hH hS hL => h p e R s m args below meth c cells slots H locs lsR _ hC hH hS hL (by omega) (by omega) (fun H1 hH1 hS1 => k p e R s m args below meth c n0 u0 (cells + 1) (slots + n) H1 locs lsR hC h1 h2 (by rw [mNx_mkC]; omega) (by rw [mUs_mkC]; omega) hH1 hS1 hL)⟩
/-! fields -/
variable {a b c k idx : Nat} {tk : FieldType} {fin : Bool}
theorem r_fI {f : Int32 → am_R} (hd : decode (xC X) pc = .ok (.getfield idx, 3)) (hf : am_fl (xO X) idx c k tk fin) (ht : am_ft c k = 0) (kk : ∀ x, Rf G l X (pc + 3) ls (.int x :: st) M (f x)) : Rf G l X pc ls (.ref a :: st) M (fI M a (c + 4) k f) := by
  unfold fI
  refine Rf.ite (fun h => ?_) (fun _ => Rf.no)
  obtain ⟨C, T, N, ty, ⟨c1, c2, c3, c4, c5, c6, c7⟩, hk, -, -, hw⟩ := hf
  have hc9 := cl_lt c1
  have ha := kd_lt h (by omega)
  refine Rf.goH (fun p e R s m args below meth cd cells slots H locs lsR Q hC hH hS hL k2 => ?_) (kk (rI M a k))
  exact va_get (Ts := am_ws) hC.1 hC.2.1 (fun w hw => hC.2.2.2.2.2.2.2.2.2.2.1 w hw args) c4 hC.2.2.2.2.2.2.1 hC.2.2.2.2.2.2.2.2.2.2.2.1 hH.2 a (by rw [wd_at ha, cell_obj h]) c1 k hk (hC.2.2.2.2.2.2.2.2.2.2.1 _ hw args) (fun z hz => by rw [c6 k hk] at hz; exact hz) (by rw [fs_at (by omega), fv_I ht]; rfl) hd k2
theorem r_fR {f : Nat → am_R} (hd : decode (xC X) pc = .ok (.getfield idx, 3)) (hf : am_fl (xO X) idx c k tk fin) (ht : am_ft c k = 2) (kk : ∀ b, Rf G l X (pc + 3) ls (.ref b :: st) M (f b)) : Rf G l X pc ls (.ref a :: st) M (fR M a (c + 4) k f) := by
  unfold fR
  refine Rf.ite (fun h => ?_) (fun _ => Rf.no)
  obtain ⟨C, T, N, ty, ⟨c1, c2, c3, c4, c5, c6, c7⟩, hk, -, -, hw⟩ := hf
  have hc9 := cl_lt c1
  have ha := kd_lt h (by omega)
  cases hr : rR M a k with
  | none => exact Rf.no
  | some b =>
    refine Rf.goH (fun p e R s m args below meth cd cells slots H locs lsR Q hC hH hS hL k2 => ?_) (kk b)
    exact va_get (Ts := am_ws) hC.1 hC.2.1 (fun w hw => hC.2.2.2.2.2.2.2.2.2.2.1 w hw args) c4 hC.2.2.2.2.2.2.1 hC.2.2.2.2.2.2.2.2.2.2.2.1 hH.2 a (by rw [wd_at ha, cell_obj h]) c1 k hk (hC.2.2.2.2.2.2.2.2.2.2.1 _ hw args) (fun z hz => by rw [c6 k hk] at hz; exact hz) (by rw [fs_at (by omega), fv_R ht, hr]; rfl) hd k2
/-- a store into a field, by the cell -/
theorem am_putf {p : Program} {e : Env} {R : Room} {s : State} {m : MethodId} {args : Array Value} {below : List Frame} {meth : Method} {cd : Code} {cells slots : Nat} {H : Heap} {locs : List Loc} {lsR : Array Slot} {Q : State → Prop} {M1 : am_M} {v : Value} {rest : List Value} (hC : am_C G X p R s m meth cd) (hH : am_Hp G M H) (hS : va_S (gA G) s.heap H locs) (hd : decode (xC X) pc = .ok (.putfield idx, 3)) (hf : am_fl (xO X) idx c k tk fin) (hfin : fin = false ∨ (xN X = "<init>" ∧ (am_cl.map (fun z => z.1)).getD c "" = xO X)) (h : mKd M a = c + 4) (hn : narrow tk v = v) (hfit : fits tk v = true) (hx : mNx M1 = mNx M) (ho : ∀ j, j ≠ a → am_cell G M1 j = am_cell G M j) (hk1 : mKd M1 a = c + 4) (hset : (am_fs G M a c).set k v = am_fs G M1 a c)
    (kk : ∀ (H1 : Heap) (locs1 : List Loc), am_Hp G M1 H1 → va_S (gA G) s.heap H1 locs1 → W p l e R s m args below meth cd H1 locs1 cells slots Q (F0 m (pc + 3) lsR rest)) : W p l e R s m args below meth cd H locs cells slots Q (F0 m pc lsR (v :: .ref (gB G + a) :: rest)) := by
  obtain ⟨C, T, N, ty, ⟨c1, c2, c3, c4, c5, c6, c7⟩, hk, htk, hfn, hw⟩ := hf
  have hc9 := cl_lt c1
  have ha := kd_lt h (by omega)
  have hts : ∀ w ∈ am_ws, w.before args s = true := fun w hw => hC.2.2.2.2.2.2.2.2.2.2.1 w hw args
  have hK := hC.2.2.2.2.2.2.2.2.2.2.2.1
  have hown := hC.2.2.2.2.2.2.1
  have hlink := hts _ hw
  have he : (am_wd G M)[a]? = some (gB G + a, .inr (c, am_fs G M a c)) := by rw [wd_at ha, cell_obj h]
  have hap := va_apart (own := xO X) hts c4 ty c2 c3 hK c1
  obtain ⟨r, h1, cell, q1, q2, q3, q4⟩ := hH.2 a _ he
  have hr : r = (C, T, N) := Option.some.inj (h1.symm.trans c1)
  subst hr
  obtain ⟨hSl, hfc, kC, hkC, hkind⟩ := hK.1 c _ c1
  obtain ⟨cf, kf, fi, f, hi, hsl⟩ := hSl k hk
  have hi' : s.fieldFound? C (T k).2.1 (T k).2.2.1 = some (cf, kf, fi, f) := by rw [← c6 k hk]; exact hi
  have hlay := hts _ (c4 _ (u_in_lay hk))
  have hd2 : parseFieldDescriptor (T k).2.2.1 = some tk := by rw [← htk]; exact c2 k hk
  have hst := (u_facts hfc hkC (u_lays hts c4 hk) hi).1
  have hl : k < (am_fs G M a c).length := by simp [am_fs]; omega
  have fini : ∀ H' : Heap, H'[gB G + a]? = some (cell.setSlot f.slot v) → H'.size = H.size → (∀ q, q ≠ gB G + a → H'[q]? = H[q]?) → W p l e R s m args below meth cd H' (locs ++ [⟨gB G + a, f.slot⟩]) cells slots Q (F0 m (pc + 3) lsR rest) := by
    intro H' e1 e2 e3
    rw [hsl] at e1 ⊢
    have hP1 := hH.2.set (wd_D G M) (e := .inr (c, (am_fs G M a c).set k v)) he ⟨_, c1, t_OB.to (V := updV (vp_V (am_fs G M a c)) k v) ⟨_, e1, q2, q3, t_set q4 hap hk v⟩ (fun j _ => vp_updV_set hl v j)⟩ e3
    refine kk H' _ (hH.put hx ho (by rw [cell_obj hk1, ← hset]) e2 hP1) (hS.put e2 e3 (Nat.le_add_right _ _))
  by_cases hff : fin = false
  · unfold u_lay at hlay
    rw [if_neg (by rw [hfn, hff]; decide)] at hlay
    have h6 := u_store hfc hkC hkind hlay hi hd2 hn hfit
    exact W.putK hC.1 hC.2.1 (f := f) ⟨hown, hlink, ⟨_, _, _, hi'⟩, hst⟩ (by rw [q2]; exact h6) q1 q3 (by rw [hsl]; exact k2_hasslot (q4 k hk)) rfl rfl hd fini
  · have hft : fin = true := by cases fin <;> simp_all
    obtain ⟨hin2, hdecl⟩ := hfin.resolve_left hff
    have hC' : C = xO X := by
      have h9 : (am_cl.map (fun z => z.1))[c]? = some C := by rw [List.getElem?_map, c1]; rfl
      rw [← hdecl, List.getD_eq_getElem?_getD, h9]
      rfl
    unfold u_lay at hlay
    rw [if_pos (by rw [hfn, hft])] at hlay
    have hcf : m.cls = cf := by
      obtain ⟨_, _, c', _, _, _, -, -, hf', -, -, -, hown2, -⟩ := Cond.laysFinal_spec hlay
      have e1 : c' = cf := by have := hi.symm.trans hf'; simp at this; exact this.1.symm
      rw [c6 k hk, hC'] at hown2
      rw [← e1]; exact Option.some.inj (hown.symm.trans hown2)
    have h6 := u_fits hfc hkC hkind (Or.inr hlay) hi hd2 hn hfit
    exact W.putFinK hC.1 hC.2.1 hown hlink hi' hst hcf (hC.2.2.2.2.2.1.trans hin2) (by rw [q2]; exact h6) q1 q3 (by rw [hsl]; exact k2_hasslot (q4 k hk)) rfl rfl hd fini
theorem r_sI {f : am_M → am_R} (hd : decode (xC X) pc = .ok (.putfield idx, 3)) (hf : am_fl (xO X) idx c k tk false) (ht : am_ft c k = 0) (hn : narrow tk (.int x) = .int x) (hfit : fits tk (.int x) = true) (kk : ∀ M1, Rf G l X (pc + 3) ls st M1 (f M1)) : Rf G l X pc ls (.int x :: .ref a :: st) M (sI M a (c + 4) k x f) := by
  unfold sI
  refine Rf.ite (fun h => ?_) (fun _ => Rf.no)
  refine Rf.goM (M1 := wI M a k x) rfl rfl (fun p e R s m args below meth cd cells slots H locs lsR Q hC hH hS hL k2 => ?_) (kk _)
  exact am_putf (M1 := wI M a k x) (v := .int x) (rest := st.map (rv G)) hC hH hS hd hf (Or.inl rfl) h hn hfit rfl (fun j hj => cell_wI hj) h (fs_wI ht) k2
theorem r_sR {f : am_M → am_R} (hd : decode (xC X) pc = .ok (.putfield idx, 3)) (hf : am_fl (xO X) idx c k tk fin) (ht : am_ft c k = 2) (hfin : fin = false ∨ (xN X = "<init>" ∧ (am_cl.map (fun z => z.1)).getD c "" = xO X)) (hn : ∀ q, narrow tk (.ref q) = .ref q) (hfit : ∀ q, fits tk (.ref q) = true) (kk : ∀ M1, Rf G l X (pc + 3) ls st M1 (f M1)) : Rf G l X pc ls (.ref b :: .ref a :: st) M (sR M a (c + 4) k b f) := by
  unfold sR
  refine Rf.ite (fun h => ?_) (fun _ => Rf.no)
  refine Rf.goM (M1 := wR M a k (some b)) rfl rfl (fun p e R s m args below meth cd cells slots H locs lsR Q hC hH hS hL k2 => ?_) (kk _)
  exact am_putf (M1 := wR M a k (some b)) (v := .ref (gB G + b)) (rest := st.map (rv G)) hC hH hS hd hf hfin h (hn _) (hfit _) rfl (fun j hj => cell_wR hj) h (fs_wR ht) k2
end RfRows
