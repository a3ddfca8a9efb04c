/-! ===== a contract of a method of a class that has natives beside it ===== -/
theorem Met.ofWF {l : Launch} {y : MethodName} {ws ws' : List Cond} {rm : Room} {Pc : Array Value → State → Prop} {Qc : Array Value → State → Outcome → State → Prop} {mc ms : Nat} {free : Addr → Prop} {cc : ByteArray} {maxL : Nat} {ret : Option FieldType}
    (hy : plainFor y = true) (hw : ws = Cond.code y cc maxL ret :: ws')
    (body : ∀ p e s m args below meth c s₁, BodyLoose p l y (headSpec ws rm) cc maxL ret e s m args below meth c s₁ → c.maxLocals = maxL → Pc args s →
      W p l e (headSpec ws rm).room s m args below meth c s.heap [] 0 0 (MQ below Qc args s mc ms free) (entryFrame m args maxL)) : Met l y ws rm Pc Qc mc ms free := by
  refine MetFree.of_bodySF (code := cc) (maxLocals := maxL) (ret := ret) hy ?_ ?_
  · intro args s m h hn
    obtain ⟨meth, c, h1, h2, h3, h4, h5, h6, -, -⟩ := Cond.code_spec hn (atoms_spec (ws := ws) h _ (by rw [hw]; exact List.mem_cons_self))
    exact ⟨meth, c, h1, h2, h3, h4, h5, h6⟩
  · intro p e s m args below meth c s₁ B hml hP _
    have hh0 : s₁.heap = s.heap := by rw [B.state]; rfl
    obtain ⟨t, a1, o, b1, b2, b3⟩ := body p e s m args below meth c s₁ B hml hP s₁ hh0 (Stand.of_body B)
    exact ⟨t, o, a1, b1, b2, ⟨b3.1, b3.2⟩⟩
theorem Ct.ofF {G : am_G} {l : Launch} {X : am_X} {M : am_M} {o : am_R} {y : MethodName} {as : List Value} (hp : plainFor y = true) (hcls : y.cls = xO X) (hnm : y.name = xN X) (has : (as.map Value.category).sum ≤ xL X) (k : Rf G l X 0 (am_ini (xL X) as) [] M o) : Ct G l y X as M o := by
  intro v M' ho
  obtain ⟨hm, k⟩ := k v M' ho
  refine ⟨hm, ?_⟩
  refine Met.ofWF (cc := xC X) (maxL := xL X) (ret := xT X) hp rfl ?_
  intro p e s m args below meth c s₁ B hml hv
  obtain ⟨rfl, hH, hT⟩ := hv
  rw [lg_entry_eq]
  have h5 : gB G ≤ s.heap.size := by rw [hH.1]; omega
  have hnm2 : meth.name = xN X := ((name_of_methodNamed B.named B.method).1).trans hnm
  have hown : s.vm.findClass (xO X) = some m.cls := by rw [← hcls]; exact findClass_of_methodNamed B.named
  exact k p e _ s m _ below meth c (mNx M) (mUs M) 0 0 s.heap [] _ ⟨B.exec, B.bytes, hml, B.returns, B.notSynchronized, hnm2, hown, Nat.le_refl _, Nat.le_refl _, h5, hT⟩ (by show _ ≤ mNx M + (mNx M' - mNx M); omega) (by show _ ≤ mUs M + (mUs M' - mUs M); omega) (by omega) (by omega) hH va_S.rf (LV.ini hT (by rw [sl_len hT]; exact has))
