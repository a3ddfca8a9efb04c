/-! THE CLAIM OUT OF ONE WALK OF THE LAW'S BODY. Your part is whole_start (and what it stands on); all else here is the same for every law, but numbers. -/
def R_law : String := "NumberedSparksLaw"
def lw_P (b : Addr) (xs : List Int32) (args : Array Value) (s : State) : Prop := args = #[.ref b] ∧ s.IntsAt b xs ∧ xs.length ≤ 3072 ∧ (Jvm.Cond.and given_1 narrow_1).before args s = true
def lw_Q (_ : Array Value) (s : State) (o : Outcome) (t : State) : Prop := o = .returned (some (.int 1)) ∧ Framed s o t [] 600000 7302250
def lw_Z (below : List Frame) (a : Array Value) (s : State) : State → Prop := fun t => ∃ o, t.status = .running ∧ Ended t below o ∧ lw_Q a s o t
/-- what holds at the law's entry: the machine, the code, the tables' words (any of lw_tbl by 'hts w (by decide +kernel)'), the script of L ints xs at the cell b, what the Statement gives of the start (any of its parts by flat_of_before) -/
def lw_At (p : Program) (s : State) (m : MethodId) (meth : Method) (c : Code) (b L : Nat) (xs : Nat → Int32) : Prop :=
  p.tables.exec = Jvm.exec ∧ c.code = code ∧ meth.sig.returnType = ret ∧ c.maxLocals = 4 ∧ s.vm.findClass R_law = some m.cls ∧ (∀ w ∈ lw_tbl, w.before #[Value.ref b] s = true) ∧ va_X b L xs s s.heap ∧ b < s.heap.size ∧ meth.locks = false ∧ (Jvm.Cond.and given_1 narrow_1).before #[Value.ref b] s = true ∧ meth.name = "law"
theorem whole_start {p : Program} {e : Env} {s : State} {m : MethodId} {below : List Frame} {meth : Method} {c : Code} (l : Launch) (hflags : l.flags = flags0) {b L : Nat} {xs : Nat → Int32} (hL : L ≤ 3072) (C0 : lw_At p s m meth c b L xs) : W p l e room_1 s m #[Value.ref b] below meth c s.heap [] 0 0 (lw_Z below #[Value.ref b] s) (entryFrame m ([Value.ref b] : List Value).toArray 4) := by
  obtain ⟨hexec, hcode, hret, hml, hown, hts, hX, hbl, hlocks, hgv, hname⟩ := C0
  have hf : ∀ w ∈ flatC gv_T, w.before #[Value.ref b] s = true := flat_of_before gv_T hgv
  have htb : ∀ w ∈ tables_1, w.before #[Value.ref b] s = true := fun w hw => hts w (List.mem_append_right _ hw)
  have hwds := gv_wds hts
  have hws : ∀ w ∈ am_ws, w.before #[] s = true := fun w hw => hwds w hw #[]
  have hA : ∀ a : Nat, a < s.heap.size → ¬ s.heap.size ≤ a := fun a h => by omega
  obtain ⟨KD, hKD⟩ := Classical.axiomOfChoice (gv_kn hws)
  have hAO : va_AO RX6 s := va_AO.of (htb _ (List.mem_of_getElem? gv_t150))
  obtain ⟨cI, aI⟩ := gv_arr (s := s) (ty := .int) (fun C h => by cases h) (hws _ wd_68)
  obtain ⟨cL, aL⟩ := gv_arr (s := s) (ty := .long) (fun C h => by cases h) (hws _ wd_1276)
  obtain ⟨cB, aB⟩ := gv_arr (s := s) (ty := .byte) (fun C h => by cases h) (hws _ wd_524)
  obtain ⟨cS, aS⟩ := gv_arrO hAO
  have h0 : ∀ k : Nat, ∃ q : Nat × Nat, k < 40 → (gv_tm k).eval #[Value.ref b] s none [] s = some (.ref q.1) ∧ va_O "java/lang/String" q.1 (fun a => s.heap.size ≤ a) s s.heap ∧ va_OF "java/lang/String" "coder" "B" (.int 0) q.1 (fun a => s.heap.size ≤ a) s s.heap ∧ va_OF "java/lang/String" "value" "[B" (.ref q.2) q.1 (fun a => s.heap.size ≤ a) s s.heap ∧ va_T .byte q.2 (am_sl k) (fun j => .int (am_sb k j)) (fun a => s.heap.size ≤ a) s s.heap := by
    intro k
    by_cases hk : k < 40
    · obtain ⟨a, v, h⟩ := gv_str (A := fun a => s.heap.size ≤ a) hk hf hA
      exact ⟨(a, v), fun _ => h⟩
    · exact ⟨(0, 0), fun h => absurd h hk⟩
  obtain ⟨ad, had⟩ := Classical.axiomOfChoice h0
  obtain ⟨aKL, eKL, tKL⟩ := va_Tof (f := fun j => .int (am_KL.getD j 0)) (A := fun a => s.heap.size ≤ a) (by decide) (hf _ (List.mem_of_getElem? gv_w10)) (va_eqt (hf _ (List.mem_of_getElem? gv_w11))) (fun j hj => va_eqt (hf _ (List.mem_of_getElem? (gv_kl j hj)))) hA
  obtain ⟨aKM, eKM, tKM⟩ := va_Tof (f := fun j => .int (am_KM.getD j 0)) (A := fun a => s.heap.size ≤ a) (by decide) (hf _ (List.mem_of_getElem? gv_w18)) (va_eqt (hf _ (List.mem_of_getElem? gv_w19))) (fun j hj => va_eqt (hf _ (List.mem_of_getElem? (gv_km j hj)))) hA
  have zKL := va_Zref (A := fun a => s.heap.size ≤ a) (htb _ (List.mem_of_getElem? gv_t591)) (htb _ (List.mem_of_getElem? gv_t1)) eKL hA
  have zKM := va_Zref (A := fun a => s.heap.size ≤ a) (htb _ (List.mem_of_getElem? gv_t593)) (htb _ (List.mem_of_getElem? gv_t1)) eKM hA
  have zCS := va_Zof (A := fun a => s.heap.size ≤ a) (htb _ (List.mem_of_getElem? gv_t413)) (htb _ (List.mem_of_getElem? gv_t13)) (va_eqt (hf _ (List.mem_of_getElem? gv_w4))) hA
  have zSF : ∃ v : Value, (v = .null ∨ ∃ a : Nat, v = .ref a) ∧ va_Z "jdk/internal/util/Preconditions" "SIOOBE_FORMATTER" "Ljava/util/function/BiFunction;" v (fun a => s.heap.size ≤ a) s s.heap := by
    rcases va_Zqof (A := fun a => s.heap.size ≤ a) (htb _ (List.mem_of_getElem? gv_t429)) (htb _ (List.mem_of_getElem? gv_t15)) (hf _ (List.mem_of_getElem? gv_w5)) hA with h | ⟨t, h⟩
    · exact ⟨_, Or.inl rfl, h⟩
    · exact ⟨_, Or.inr ⟨t, rfl⟩, h⟩
  obtain ⟨vF, hvF, zSF⟩ := zSF
  let fS : Nat → Value := fun k => match k with
    | 0 => .null
    | 1 => .ref b
    | 2 => .ref aKL
    | 3 => .ref aKM
    | 4 => vF
    | n + 5 => if n + 5 < 200 then .ref (ad (n + 5 - 100)).1 else .ref (ad (n + 5 - 200)).2
  let G : am_G := (s.heap.size, (fun c => (KD c).1, fun c => (KD c).2), (fun i => [cI, cL, cB, cS].getD i 0), fS, L, xs)
  have hGA : gA G = fun a => s.heap.size ≤ a := rfl
  have hSp : am_Sp G s := by
    refine ⟨fun k own idx tx hk => ?_, ⟨aKL, rfl, zKL, tKL⟩, ⟨aKM, rfl, zKM, tKM, b, rfl, ?_⟩, zCS, zSF, fun k => ?_⟩
    · have hk40 : k < 40 := by
        have := (List.getElem?_eq_some_iff.mp hk).1
        rw [gv_len] at this
        exact this
      have hq : gv_q k = (own, idx, tx) := by
        unfold gv_q
        rw [List.getD_eq_getElem?_getD, hk]
        rfl
      obtain ⟨h1, h2, h3, h4, h5⟩ := had k hk40
      have hr := gv_rf k hk40
      have ht : gv_tm k = .string own idx := by unfold gv_tm; rw [hq]
      rw [hq] at hr
      rw [ht] at h1
      refine ⟨(ad k).1, (ad k).2, ?_, ?_, vk_R.of (htb _ (List.mem_of_getElem? hr)) h1, h2, h3, h4, h5⟩
      · show fS (100 + k) = _
        rw [show 100 + k = (95 + k) + 5 by omega]
        show (if (95 + k) + 5 < 200 then Value.ref (ad ((95 + k) + 5 - 100)).1 else .ref (ad ((95 + k) + 5 - 200)).2) = _
        rw [if_pos (by omega), show (95 + k) + 5 - 100 = k by omega]
      · show fS (200 + k) = _
        rw [show 200 + k = (195 + k) + 5 by omega]
        show (if (195 + k) + 5 < 200 then Value.ref (ad ((195 + k) + 5 - 100)).1 else .ref (ad ((195 + k) + 5 - 200)).2) = _
        rw [if_neg (by omega), show (195 + k) + 5 - 200 = k by omega]
    · obtain ⟨scr, h1, h2, h3, h4, h5⟩ := hX
      exact ⟨scr, h1, h2, h3, by rw [h4]; exact Nat.le_refl _, by rw [h4] <;> rfl, h5, hA b hbl⟩
    · show fS k = .null ∨ ∃ a : Nat, fS k = .ref a
      match k with
      | 0 => exact Or.inl rfl
      | 1 => exact Or.inr ⟨b, rfl⟩
      | 2 => exact Or.inr ⟨aKL, rfl⟩
      | 3 => exact Or.inr ⟨aKM, rfl⟩
      | 4 => exact hvF
      | n + 5 =>
        by_cases h : n + 5 < 200
        · exact Or.inr ⟨(ad (n + 5 - 100)).1, if_pos h⟩
        · exact Or.inr ⟨(ad (n + 5 - 200)).2, if_neg h⟩
  have hT : am_Tb G s := by
    refine ⟨hwds, ⟨fun c q hq => hKD c q hq, fun k q hk => ?_⟩, hAO, hSp⟩
    match k with
    | 0 => cases hk; exact aI
    | 1 => cases hk; exact aL
    | 2 => cases hk; exact aB
    | 3 => cases hk; exact aS
    | n + 4 => exact absurd (List.getElem?_eq_some_iff.mp hk).1 (by show ¬ n + 4 < 4; omega)
  have hC : am_C G X_law p room_1 s m meth c := ⟨hexec, hcode, hml, hret, hlocks, hname, hown, by decide, by decide, Nat.le_refl _, hT⟩
  obtain ⟨M2, hM, hn, hu⟩ := law_true (L := L) (by omega) xs
  obtain ⟨-, k⟩ := rf_law (G := G) (l := l) am_0 (some (.int 1)) M2 hM
  have hLV : LV G 4 [.retAddr 1, .retAddr 0, .retAddr 0, .retAddr 0] ((lg_sl ([.ref b] : List Value) ++ List.replicate (4 - (lg_sl ([.ref b] : List Value)).length) Slot.unset).toArray) := LV.ini (G := G) hT (n := 4) (vs := [.retAddr 1]) (show (1 : Nat) ≤ 4 by decide)
  have hHp : am_Hp G am_0 s.heap := ⟨rfl, fun k q hk => by cases hk⟩
  have K := k p e room_1 s m #[Value.ref b] below meth c 0 0 0 0 s.heap [] _ hC (by rw [Nat.zero_add]; exact hn) (by rw [Nat.zero_add]; exact hu) rfl rfl hHp ⟨Nat.le_refl _, fun q _ _ => rfl, fun q h => by cases h⟩ hLV
  rw [lg_entry_eq]
  intro T hTh X
  obtain ⟨t, hst, o, hr, he, hQ, J, hF, hfree⟩ := K T hTh X
  exact ⟨t, hst, o, hr, he, hQ.1, hF.1, hF.2.1, State.sameButNew.drop_fresh (L := []) hF.2.2 hfree⟩
set_option maxHeartbeats 4000000 in
theorem lw_walk (l : Launch) (hflags : l.flags = flags0) (b : Addr) (xs : List Int32) : MetFree l x (headSpec (Jvm.Cond.code x code maxLocals ret :: tables_1) room_1) (lw_P b xs) (fun _ _ _ _ _ => True) lw_Q := by
  refine MetFree.of_bodyS (code := code) (maxLocals := maxLocals) (ret := ret) (by decide) ?_ ?_
  · intro args s m h hn
    obtain ⟨meth, c, h1, h2, h3, h4, h5, h6, -, -⟩ := Cond.code_spec hn (atoms_spec (ws := Jvm.Cond.code x code maxLocals ret :: tables_1) h _ List.mem_cons_self)
    exact ⟨meth, c, h1, h2, h3, h4, h5, h6⟩
  · intro p e s m args below meth c s₁ B hml0 hP _
    obtain ⟨rfl, hx, hbd, hgv⟩ := hP
    obtain ⟨scr, harrAt, hlist, hof, hsmall⟩ := hx
    obtain ⟨hcb, hkn, -, -⟩ := State.arrayAt?_spec harrAt
    have hown : s.vm.findClass R_law = some m.cls := findClass_of_methodNamed B.named
    have hts0 : ∀ c ∈ (Jvm.Cond.code x code maxLocals ret :: tables_1), c.before #[Value.ref b] s = true := atoms_spec (ws := Jvm.Cond.code x code maxLocals ret :: tables_1) B.pre
    have hts : ∀ w ∈ lw_tbl, w.before #[Value.ref b] s = true := k2_hts_sels lw_privs (fun w hw => hts0 w (List.mem_cons_of_mem _ hw)) lw_privs_ok
    have hml : c.maxLocals = 4 := B.maxLocals_eq (hts0 _ List.mem_cons_self)
    have X₀ : Stand p l e room_1 s m #[Value.ref b] below meth c s₁ [] 0 0 := Stand.of_body B
    have hh0 : s₁.heap = s.heap := by rw [B.state]; rfl
    have hsz : scr.slots.size = xs.length := by rw [← Array.length_toList, hlist, List.length_map]
    have hval : ∀ j : Nat, j < xs.length → scr.slots[j]? = some (.int (xs.getD j 0)) := fun j hj => by
      rw [← Array.getElem?_toList, hlist]
      simp [hj]
    have hbl : b < s.heap.size := (Array.getElem?_eq_some_iff.mp hcb).1
    have hX : va_X b xs.length (fun j => xs.getD j 0) s s.heap := ⟨scr, hcb, hof, hkn, hsz, hval⟩
    have K : W p l e room_1 s m #[Value.ref b] below meth c s₁.heap [] 0 0 (lw_Z below #[Value.ref b] s) (entryFrame m ([Value.ref b] : List Value).toArray 4) := by
      rw [hh0]
      exact whole_start l hflags hbd ⟨B.exec, B.bytes, B.returns, hml, hown, hts, hX, hbl, B.notSynchronized, hgv, (name_of_methodNamed B.named B.method).1⟩
    obtain ⟨t, a1, o, b1, b2, b3⟩ := K s₁ rfl X₀
    exact ⟨t, o, a1, b1, b2, b3⟩
theorem lw_pre_spec {args : Array Value} {s : State} (h : (Jvm.Cond.and given_1 narrow_1).before args s = true) (hr : rest_1_c.before args s = true) : ∃ (b : Addr) (xs : List Int32), lw_P b xs args s := by
  have hs := flat_of_before _ h
  have hq := flat_of_before _ hr
  have hc : (Cond.count 1).before args s = true := hs _ (by decide +kernel)
  have harr : (Cond.arrayOf (.arg 0) .int).before args s = true := hs _ (by decide +kernel)
  have hle : (Cond.le (.length (.arg 0)) (.int 3072)).before args s = true := hs _ (by decide +kernel)
  have hlen : (Cond.isInt (.length (.arg 0))).before args s = true := hq _ (by decide +kernel)
  have hall : (Cond.all (.arg 0) (.isInt (.elem (.arg 0) (.index 0)))).before args s = true := hq _ (by decide +kernel)
  obtain ⟨b, xs, hb, hx⟩ := State.ints_of_pre rfl harr hlen hall
  have hsm : xs.length < 2 ^ 31 := hx.choose_spec.2.2.2
  have hev : (Term.length (.arg 0)).eval args s none [] s = some (.int xs.length.toInt32) := hx.length_eval hb
  have hv := Cond.le_ints hev (show (Term.int 3072).eval args s none [] s = some (.int 3072) from rfl)
  have hd : xs.length.toInt32 ≤ 3072 := by
    simpa [Cond.before, Cond.holds, hv] using hle
  have hN : xs.length ≤ 3072 := (Int32.ofNat_le_ofNat hsm (by decide)).mp (show Int32.ofNat xs.length ≤ Int32.ofNat 3072 from hd)
  exact ⟨b, xs, Cond.one_arg hc (show args[0]? = some (.ref b) from hb), hx, hN, h⟩
theorem lw_comes (l : Launch) (hflags : l.flags = flags0) : Comes l x (Jvm.Cond.code x code maxLocals ret :: tables_1) room_1 (fun tb e args s => Calls_1 tb e args s ∧ rest_1 tb e args s ∧ Pre_1 tb e args s)
    (fun _ _ args s o t => lw_Q args s o t) := by
  intro p e ha hc hk s m args below hf hfit hheap happ hpre
  obtain ⟨b, xs, hP⟩ := lw_pre_spec hpre.2.2 hpre.2.1
  obtain ⟨k, o, h1, h2, h3, hQ⟩ := lw_walk l hflags b xs p e ha hc hk s m args below hf ((Spec.applies_iff_loose hf).mp happ).1 hP trivial
  exact ⟨k, o, h1, h2, h3, hQ⟩
theorem lw_frame {s t : State} {o : Outcome} {args : Array Value} (h : Framed s o t [] 600000 7302250) :
    Framed s o t (fieldLocs frame_1_writes args s ++ arrayLocs frame_1_arrays args s ++ staticLocs frame_1_statics s) 600000 7302250 := h
theorem lw_limb (L : Cond) (hL : ∀ (args : Array Value) (s t : State), L.after args s (.returned (some (.int 1))) t = true) :
    ArmFor flags0 classFile x code maxLocals ret World_1 tables_1 room_1 Calls_1 rest_1 Pre_1
      (fun tb e a s o t => postC L tb e a s o t ∧ Framed s o t (fieldLocs frame_1_writes a s ++ arrayLocs frame_1_arrays a s ++ staticLocs frame_1_statics s) 600000 7302250) := by
  intro l hflags _ _ p e ha hc hk s m args below hf hfit hheap happ hpre
  obtain ⟨k, o, h1, h2, h3, rfl, hF⟩ := lw_comes l hflags p e ha hc hk s m args below hf hfit hheap happ hpre
  exact ⟨k, _, h1, h2, h3, hL args s _, lw_frame hF⟩
theorem i_vc : Claimed_1_1 ∧ Claimed_1_2 := ⟨lw_limb limb_1_1 (fun args s t => by simp [limb_1_1, Cond.after, Cond.holds, Cond.value]), lw_limb limb_1_2 (fun args s t => Cond.after_iff.mpr (by
  first | (rw [show limb_1_2 = Cond.eq .result (.int 1) from rfl, Cond.eq_ints (x := 1) (y := 1) rfl rfl]; simp; done) | (simp [limb_1_2, Cond.value, Term.eval]; done)))⟩
