/-- the String constants: class, place in its pool, text -/
def am_str : List (String × Nat × String) := [("NumberedSparks$Reader", 80, "world"), ("NumberedSparks$Reader", 53, "seed"), ("NumberedSparks$Reader", 62, "kind"), ("NumberedSparks$Reader", 103, "life"), ("NumberedSparks$Reader", 109, "vary"), ("NumberedSparks$Reader", 115, "speed"), ("NumberedSparks$Reader", 133, "falls"), ("NumberedSparks$Reader", 121, "size"), ("NumberedSparks$Reader", 141, "bounce"), ("NumberedSparks$Reader", 143, "ends"), ("NumberedSparks$Reader", 145, "wrap"), ("NumberedSparks$Reader", 126, "childs"), ("NumberedSparks$Reader", 131, "of"), ("NumberedSparks$Reader", 67, "source"), ("NumberedSparks$Reader", 153, "at"), ("NumberedSparks$Reader", 159, "from"), ("NumberedSparks$Reader", 161, "every"), ("NumberedSparks$Reader", 163, "burst"), ("NumberedSparks$Reader", 165, "until"), ("NumberedSparks$Reader", 167, "jitter"), ("NumberedSparksModel", 201, "world"), ("NumberedSparksModel", 203, "seed"), ("NumberedSparksModel", 208, "kind"), ("NumberedSparksModel", 156, "life"), ("NumberedSparksModel", 162, "vary"), ("NumberedSparksModel", 164, "speed"), ("NumberedSparksModel", 165, "falls"), ("NumberedSparksModel", 169, "size"), ("NumberedSparksModel", 170, "wrap"), ("NumberedSparksModel", 172, "bounce"), ("NumberedSparksModel", 174, "ends"), ("NumberedSparksModel", 176, "childs"), ("NumberedSparksModel", 178, "of"), ("NumberedSparksModel", 212, "source"), ("NumberedSparksModel", 183, "at"), ("NumberedSparksModel", 184, "from"), ("NumberedSparksModel", 185, "every"), ("NumberedSparksModel", 187, "burst"), ("NumberedSparksModel", 189, "until"), ("NumberedSparksModel", 191, "jitter")]
/-- their bytes -/
def am_stx : List (List Nat) := [[119, 111, 114, 108, 100], [115, 101, 101, 100], [107, 105, 110, 100], [108, 105, 102, 101], [118, 97, 114, 121], [115, 112, 101, 101, 100], [102, 97, 108, 108, 115], [115, 105, 122, 101], [98, 111, 117, 110, 99, 101], [101, 110, 100, 115], [119, 114, 97, 112], [99, 104, 105, 108, 100, 115], [111, 102], [115, 111, 117, 114, 99, 101], [97, 116], [102, 114, 111, 109], [101, 118, 101, 114, 121], [98, 117, 114, 115, 116], [117, 110, 116, 105, 108], [106, 105, 116, 116, 101, 114], [119, 111, 114, 108, 100], [115, 101, 101, 100], [107, 105, 110, 100], [108, 105, 102, 101], [118, 97, 114, 121], [115, 112, 101, 101, 100], [102, 97, 108, 108, 115], [115, 105, 122, 101], [119, 114, 97, 112], [98, 111, 117, 110, 99, 101], [101, 110, 100, 115], [99, 104, 105, 108, 100, 115], [111, 102], [115, 111, 117, 114, 99, 101], [97, 116], [102, 114, 111, 109], [101, 118, 101, 114, 121], [98, 117, 114, 115, 116], [117, 110, 116, 105, 108], [106, 105, 116, 116, 101, 114]]
def am_sb (k j : Nat) : Int32 := nI ((am_stx.getD k []).getD j 0)
def am_sl (k : Nat) : Nat := (am_stx.getD k []).length
def am_KL : List Int32 := [1, 0, 0, -9, 1]
def am_KM : List Int32 := [40, 20, 20, 9, 9]
/-! ===== what is held of the tables, of constants and statics ===== -/
def am_nest : Cond → Bool
  | .methodLinkNest .. => true
  | _ => false
def am_gw (w : Cond) : Bool := goodWord w || am_nest w
def am_ws : List Cond := lw_tbl.filter am_gw
theorem am_in {w : Cond} (i : Nat) (h : lw_tbl[i]? = some w) (g : am_gw w = true) : w ∈ am_ws := List.mem_filter.mpr ⟨List.mem_of_getElem? h, g⟩
def am_tys (G : am_G) : List (ClassId × FieldType) := [(gC G 0, .int), (gC G 1, .long), (gC G 2, .byte), (gC G 3, .object RX6)]
/-- one String constant -/
def am_S1 (G : am_G) (U : State) (k : Nat) (own : String) (idx : Nat) (tx : String) : Prop := ∃ a v : Nat, gS G (100 + k) = .ref a ∧ gS G (200 + k) = .ref v ∧ vk_R own idx tx a U ∧ va_O "java/lang/String" a (gA G) U U.heap ∧ va_OF "java/lang/String" "coder" "B" (.int 0) a (gA G) U U.heap ∧ va_OF "java/lang/String" "value" "[B" (.ref v) a (gA G) U U.heap ∧ va_T .byte v (am_sl k) (fun j => .int (am_sb k j)) (gA G) U U.heap
def am_Sp (G : am_G) (U : State) : Prop :=
  (∀ (k : Nat) (own : String) (idx : Nat) (tx : String), am_str[k]? = some (own, idx, tx) → am_S1 G U k own idx tx) ∧
  (∃ a : Nat, gS G 2 = .ref a ∧ va_Z "NumberedSparks" "KIND_LEAST" "[I" (.ref a) (gA G) U U.heap ∧ va_T .int a 5 (fun j => .int (am_KL.getD j 0)) (gA G) U U.heap) ∧
  (∃ a : Nat, gS G 3 = .ref a ∧ va_Z "NumberedSparks" "KIND_MOST" "[I" (.ref a) (gA G) U U.heap ∧ va_T .int a 5 (fun j => .int (am_KM.getD j 0)) (gA G) U U.heap ∧ ∃ b : Nat, gS G 1 = .ref b ∧ va_T .int b (gL G) (fun j => .int (gX G j)) (gA G) U U.heap) ∧
  va_Z "java/lang/String" "COMPACT_STRINGS" "Z" (.int 1) (gA G) U U.heap ∧
  va_Z "jdk/internal/util/Preconditions" "SIOOBE_FORMATTER" "Ljava/util/function/BiFunction;" (gS G 4) (gA G) U U.heap ∧
  ∀ k, gS G k = .null ∨ ∃ a : Nat, gS G k = .ref a
def am_Tb (G : am_G) (U : State) : Prop := (∀ w ∈ am_ws, ∀ args : Array Value, w.before args U = true) ∧ va_K (gD G) am_cl (am_tys G) U ∧ va_AO RX6 U ∧ am_Sp G U
theorem am_Sp.moved {G : am_G} {s U : State} (hW : s.WarmedH U.vm) (hq : ∀ a : Nat, a < s.heap.size → ¬ gA G a → U.heap[a]? = s.heap[a]?) (h : am_Sp G s) : am_Sp G U := by
  obtain ⟨h1, ⟨a2, e2, z2, t2⟩, ⟨a3, e3, z3, t3, b3, f3, u3⟩, h4, h5, h6⟩ := h
  refine ⟨fun k own idx tx hk => ?_, ⟨a2, e2, (z2.moved hW.alike).kept hq, (t2.moved hW.alike).kept hq⟩, ⟨a3, e3, (z3.moved hW.alike).kept hq, (t3.moved hW.alike).kept hq, b3, f3, (u3.moved hW.alike).kept hq⟩, (h4.moved hW.alike).kept hq, (h5.moved hW.alike).kept hq, h6⟩
  obtain ⟨a, v, q1, q2, q3, q4, q5, q6, q7⟩ := h1 k own idx tx hk
  exact ⟨a, v, q1, q2, q3.warm hW, (q4.moved hW.alike).kept hq, (q5.moved hW.alike).kept hq, (q6.moved hW.alike).kept hq, (q7.moved hW.alike).kept hq⟩
theorem am_Tb.moved {G : am_G} {s U : State} (hW : s.WarmedH U.vm) (hq : ∀ a : Nat, a < s.heap.size → ¬ gA G a → U.heap[a]? = s.heap[a]?) (h : am_Tb G s) : am_Tb G U := by
  obtain ⟨h1, h2, h3, h4⟩ := h
  refine ⟨fun w hw args => ?_, va_K.moved hW.alike h2, h3.moved hW.alike, h4.moved hW hq⟩
  have hg : am_gw w = true := (List.mem_filter.mp hw).2
  unfold am_gw at hg
  rcases Bool.or_eq_true _ _ |>.mp hg with hg | hg
  · exact word_at hW (good_of_word hg) (h1 w hw #[])
  · cases w <;> first | exact va_Nw.use rfl (va_Nw.warmM hW (h1 _ hw #[])) | cases hg
theorem rv_cat {G : am_G} {s : State} (h : am_Tb G s) (v : Value) : (rv G v).category = v.category := by
  cases v <;> try rfl
  rename_i k
  rcases h.2.2.2.2.2.2.2.2 k with e | ⟨a, e⟩ <;> simp [rv, e, Value.category]
/-! ===== locals ===== -/
def LV (G : am_G) (nL : Nat) (ls : List Value) (lsR : Array Slot) : Prop := lsR.size = nL ∧ lv_wf lsR ∧ ∀ (i : Nat) (v : Value), ls[i]? = some v → v ≠ .retAddr 0 → lsR[i]? = some (.val (rv G v))
def am_prs (G : am_G) (ls : List Value) : List (Nat × Value) := (List.range ls.length).filterMap fun j => match ls[j]? with
  | some v => if v = .retAddr 0 then none else some (j, rv G v)
  | none => none
theorem prs_mem {G : am_G} {ls : List Value} {j : Nat} {v : Value} (h : ls[j]? = some v) (hv : v ≠ .retAddr 0) : (j, rv G v) ∈ am_prs G ls := by
  refine List.mem_filterMap.mpr ⟨j, List.mem_range.mpr (List.getElem?_eq_some_iff.mp h).1, ?_⟩
  rw [h]
  simp [hv]
theorem prs_of {G : am_G} {ls : List Value} {q : Nat × Value} (h : q ∈ am_prs G ls) : ∃ v, ls[q.1]? = some v ∧ v ≠ .retAddr 0 ∧ q.2 = rv G v := by
  obtain ⟨j, -, hj⟩ := List.mem_filterMap.mp h
  cases hl : ls[j]? with
  | none => rw [hl] at hj; cases hj
  | some v =>
    rw [hl] at hj
    by_cases hv : v = .retAddr 0
    · simp [hv] at hj
    · simp [hv] at hj
      subst hj
      exact ⟨v, hl, hv, rfl⟩
theorem LV.has {G : am_G} {nL : Nat} {ls : List Value} {lsR : Array Slot} (h : LV G nL ls lsR) : lv_has lsR nL (am_prs G ls) := ⟨h.1, h.2.1, fun q hq => by
  obtain ⟨v, h1, h2, h3⟩ := prs_of hq
  rw [h3]
  exact h.2.2 _ _ h1 h2⟩
theorem LV.at {G : am_G} {nL : Nat} {ls : List Value} {lsR : Array Slot} (h : LV G nL ls lsR) {i : Nat} {v : Value} (hi : ls[i]? = some v) (hv : v ≠ .retAddr 0) : lsR[i]? = some (.val (rv G v)) := h.2.2 i v hi hv
def am_clr (ls : List Value) (i : Nat) : List Value := match i with
  | 0 => ls
  | j + 1 => match ls[j]? with
    | some (.long _) => ls.set j (.retAddr 0)
    | some (.double _) => ls.set j (.retAddr 0)
    | _ => ls
def st1 (ls : List Value) (i : Nat) (v : Value) : List Value := (am_clr ls i).set i v
def st2 (ls : List Value) (i : Nat) (v : Value) : List Value := ((am_clr ls i).set i v).set (i + 1) (.retAddr 0)
theorem clr_of {ls : List Value} {i j : Nat} {v : Value} (h : (am_clr ls i)[j]? = some v) (hv : v ≠ .retAddr 0) : ls[j]? = some v ∧ ¬ (j + 1 = i ∧ v.category = 2) := by
  unfold am_clr at h
  split at h
  · exact ⟨h, fun q => by omega⟩
  · rename_i m
    split at h
    · rw [List.getElem?_set] at h
      split at h
      · split at h
        · exact absurd (Option.some.inj h).symm hv
        · cases h
      · rename_i hne
        exact ⟨h, fun q => hne (by omega)⟩
    · rw [List.getElem?_set] at h
      split at h
      · split at h
        · exact absurd (Option.some.inj h).symm hv
        · cases h
      · rename_i hne
        exact ⟨h, fun q => hne (by omega)⟩
    · rename_i h1 h2
      refine ⟨h, fun q => ?_⟩
      have hj : j = m := by omega
      subst hj
      cases v <;> simp [Value.category] at q
      · exact h1 _ h
      · exact h2 _ h
theorem LV.put1 {G : am_G} {s : State} (hT : am_Tb G s) {nL : Nat} {ls : List Value} {lsR lsR' : Array Slot} {i : Nat} {v : Value} (hh : lv_has lsR' nL ((i, rv G v) :: (am_prs G ls).filter (fun q => !(q.1 == i) && !(q.1 + 1 == i && q.2.category == 2)))) : LV G nL (st1 ls i v) lsR' := by
  refine ⟨hh.1, hh.2.1, fun j w hj hw => ?_⟩
  unfold st1 at hj
  rw [List.getElem?_set] at hj
  split at hj
  · split at hj
    · rename_i h1 h2
      subst h1
      cases hj
      exact hh.2.2 (i, rv G v) List.mem_cons_self
    · cases hj
  · rename_i hne
    obtain ⟨h1, h2⟩ := clr_of hj hw
    refine hh.2.2 (j, rv G w) (List.mem_cons_of_mem _ (List.mem_filter.mpr ⟨prs_mem h1 hw, ?_⟩))
    have hji : ¬ j = i := fun q => hne q.symm
    simp only [rv_cat hT]
    simp [hji]
    exact Classical.not_and_iff_not_or_not.mp h2
theorem LV.put2 {G : am_G} {s : State} (hT : am_Tb G s) {nL : Nat} {ls : List Value} {lsR lsR' : Array Slot} {i : Nat} {v : Value} (hh : lv_has lsR' nL ((i, rv G v) :: (am_prs G ls).filter (fun q => !(q.1 == i) && (!(q.1 == i + 1) && !(q.1 + 1 == i && q.2.category == 2))))) : LV G nL (st2 ls i v) lsR' := by
  refine ⟨hh.1, hh.2.1, fun j w hj hw => ?_⟩
  unfold st2 at hj
  rw [List.getElem?_set] at hj
  split at hj
  · split at hj
    · exact absurd (Option.some.inj hj).symm hw
    · cases hj
  · rename_i hne2
    rw [List.getElem?_set] at hj
    split at hj
    · split at hj
      · rename_i h1 h2
        subst h1
        cases hj
        exact hh.2.2 (i, rv G v) List.mem_cons_self
      · cases hj
    · rename_i hne
      obtain ⟨h1, h2⟩ := clr_of hj hw
      refine hh.2.2 (j, rv G w) (List.mem_cons_of_mem _ (List.mem_filter.mpr ⟨prs_mem h1 hw, ?_⟩))
      have hji : ¬ j = i := fun q => hne q.symm
      have hji2 : ¬ j = i + 1 := fun q => hne2 q.symm
      simp only [rv_cat hT]
      simp [hji, hji2]
      exact Classical.not_and_iff_not_or_not.mp h2
/-- fewer locals known -/
def msk : List Bool → List Value → List Value
  | b :: bs, v :: vs => (if b then v else .retAddr 0) :: msk bs vs
  | _, _ => []
theorem msk_of : ∀ {bs : List Bool} {ls : List Value} {i : Nat} {v : Value}, (msk bs ls)[i]? = some v → v ≠ .retAddr 0 → ls[i]? = some v
  | [], ls, i, v, h, _ => by simp [msk] at h
  | b :: bs, [], i, v, h, _ => by simp [msk] at h
  | b :: bs, x :: vs, 0, v, h, hv => by
    cases b
    · simp [msk] at h
      exact absurd h.symm hv
    · simpa [msk] using h
  | b :: bs, x :: vs, i + 1, v, h, hv => by
    simp [msk] at h ⊢
    exact msk_of h hv
theorem LV.msk {G : am_G} {nL : Nat} {ls : List Value} {lsR : Array Slot} (bs : List Bool) (h : LV G nL ls lsR) : LV G nL (msk bs ls) lsR := ⟨h.1, h.2.1, fun i v hi hv => h.2.2 i v (msk_of hi hv) hv⟩
def am_ini1 : List Value → List Value
  | [] => []
  | v :: vs => if v.category = 2 then v :: .retAddr 0 :: am_ini1 vs else v :: am_ini1 vs
def am_ini (n : Nat) (vs : List Value) : List Value := am_ini1 vs ++ List.replicate (n - (am_ini1 vs).length) (.retAddr 0)
theorem ini_sl {G : am_G} {s : State} (hT : am_Tb G s) : ∀ (vs : List Value) (i : Nat) (v : Value), (am_ini1 vs)[i]? = some v → v ≠ .retAddr 0 → (lg_sl (vs.map (rv G)))[i]? = some (.val (rv G v))
  | [], i, v, h, _ => by simp [am_ini1] at h
  | w :: vs, i, v, h, hv => by
    unfold am_ini1 at h
    have hc : (rv G w).category = w.category := rv_cat hT w
    have e : lg_sl ((w :: vs).map (rv G)) = (if w.category = 2 then [.val (rv G w), .second] else [.val (rv G w)]) ++ lg_sl (vs.map (rv G)) := by
      simp [lg_sl, hc]
    rw [e]
    by_cases h2 : w.category = 2
    · rw [if_pos h2] at h ⊢
      match i, h with
      | 0, h => simp at h; subst h; rfl
      | 1, h => simp at h; exact absurd h.symm hv
      | j + 2, h =>
        simp at h
        simpa using ini_sl hT vs j v h hv
    · rw [if_neg h2] at h ⊢
      match i, h with
      | 0, h => simp at h; subst h; rfl
      | j + 1, h =>
        simp at h
        simpa using ini_sl hT vs j v h hv
theorem LV.ini {G : am_G} {s : State} (hT : am_Tb G s) {n : Nat} {vs : List Value} (hn : (lg_sl (vs.map (rv G))).length ≤ n) : LV G n (am_ini n vs) ((lg_sl (vs.map (rv G)) ++ List.replicate (n - (lg_sl (vs.map (rv G))).length) Slot.unset).toArray) := by
  have hl := lv_entry (vs.map (rv G)) hn
  refine ⟨hl.1, hl.2.1, fun i v hi hv => ?_⟩
  unfold am_ini at hi
  rw [List.getElem?_append] at hi
  split at hi
  · have h1 := ini_sl hT vs i v hi hv
    rw [List.getElem?_toArray, List.getElem?_append_left (List.getElem?_eq_some_iff.mp h1).1]
    exact h1
  · rw [List.getElem?_replicate] at hi
    split at hi
    · exact absurd (Option.some.inj hi).symm hv
    · cases hi
theorem sl_len {G : am_G} {s : State} (hT : am_Tb G s) : ∀ vs : List Value, (lg_sl (vs.map (rv G))).length = (vs.map Value.category).sum
  | [] => rfl
  | w :: vs => by
    have hc : (rv G w).category = w.category := rv_cat hT w
    have e : lg_sl ((w :: vs).map (rv G)) = (if w.category = 2 then [.val (rv G w), .second] else [.val (rv G w)]) ++ lg_sl (vs.map (rv G)) := by
      simp [lg_sl, hc]
    rw [e, List.length_append, sl_len hT vs, List.map_cons, List.sum_cons]
    rcases lv_cat w with h | h <;> simp [h]
