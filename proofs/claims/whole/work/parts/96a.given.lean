/-! ===== what the start gives: the String constants, the tables, the statics ===== -/
def gv_T : Jvm.Cond := Jvm.Cond.and given_1 narrow_1
def gv_q (k : Nat) : String × Nat × String := am_str.getD k ("", 0, "")
def gv_tm (k : Nat) : Term := .string (gv_q k).1 (gv_q k).2.1
def gv_vl (k : Nat) : Term := .field (gv_tm k) "java/lang/String" "value" "[B"
def gv_ws (k : Nat) : List Cond := [.exactly (gv_tm k) "java/lang/String", .eq (.field (gv_tm k) "java/lang/String" "coder" "B") (.int 0), .arrayOf (gv_vl k) .byte, .eq (.length (gv_vl k)) (.int (Int32.ofNat (am_sl k)))]
def gv_el (k j : Nat) : Cond := .eq (.elem (gv_vl k) (.int (Int32.ofNat j))) (.int (am_sb k j))
def gv_ix : List Nat := [25, 34, 42, 50, 58, 66, 75, 84, 92, 102, 110, 118, 128, 134, 144, 150, 158, 167, 176, 185, 195, 205, 214, 223, 232, 241, 251, 261, 270, 279, 290, 299, 310, 317, 328, 335, 344, 354, 364, 374]
def gv_rx : List Nat := [362, 439, 445, 450, 455, 460, 465, 466, 471, 472, 473, 474, 479, 480, 489, 494, 495, 496, 497, 498, 1322, 1341, 1347, 1352, 1353, 1354, 1355, 1360, 1361, 1362, 1363, 1364, 1365, 1366, 1371, 1372, 1373, 1374, 1375, 1376]
theorem gv_in : ∀ k, k < 40 → ((flatC gv_T).drop (gv_ix.getD k 0)).take (4 + am_sl k) = gv_ws k ++ (List.range (am_sl k)).map (gv_el k) := by decide +kernel
theorem gv_rf : ∀ k, k < 40 → tables_1[gv_rx.getD k 0]? = some (Cond.stringRef (gv_q k).1 (gv_q k).2.1 (gv_q k).2.2) := by decide +kernel
theorem gv_kl : ∀ j, j < 5 → (flatC gv_T)[12 + j]? = some (Cond.eq (.elem (.static "NumberedSparks" "KIND_LEAST" "[I") (.int (Int32.ofNat j))) (.int (am_KL.getD j 0))) := by decide +kernel
theorem gv_km : ∀ j, j < 5 → (flatC gv_T)[20 + j]? = some (Cond.eq (.elem (.static "NumberedSparks" "KIND_MOST" "[I") (.int (Int32.ofNat j))) (.int (am_KM.getD j 0))) := by decide +kernel
theorem gv_w10 : (flatC gv_T)[10]? = some (Cond.arrayOf (.static "NumberedSparks" "KIND_LEAST" "[I") .int) := by decide +kernel
theorem gv_w11 : (flatC gv_T)[11]? = some (Cond.eq (.length (.static "NumberedSparks" "KIND_LEAST" "[I")) (.int (Int32.ofNat 5))) := by decide +kernel
theorem gv_w18 : (flatC gv_T)[18]? = some (Cond.arrayOf (.static "NumberedSparks" "KIND_MOST" "[I") .int) := by decide +kernel
theorem gv_w19 : (flatC gv_T)[19]? = some (Cond.eq (.length (.static "NumberedSparks" "KIND_MOST" "[I")) (.int (Int32.ofNat 5))) := by decide +kernel
theorem gv_w4 : (flatC gv_T)[4]? = some (Cond.eq (.static "java/lang/String" "COMPACT_STRINGS" "Z") (.int 1)) := by decide +kernel
theorem gv_w5 : (flatC gv_T)[5]? = some (Cond.isRef (.static "jdk/internal/util/Preconditions" "SIOOBE_FORMATTER" "Ljava/util/function/BiFunction;")) := by decide +kernel
theorem gv_t1 : tables_1[1]? = some (Cond.initialized "NumberedSparks") := by decide +kernel
theorem gv_t13 : tables_1[13]? = some (Cond.initialized "java/lang/String") := by decide +kernel
theorem gv_t15 : tables_1[15]? = some (Cond.initialized "jdk/internal/util/Preconditions") := by decide +kernel
theorem gv_t150 : tables_1[149]? = some (Cond.arrayOver (.object "NumberedSparks$Spark")) := by decide +kernel
theorem gv_t413 : tables_1[384]? = some (Cond.laysStatic "java/lang/String" "COMPACT_STRINGS" "Z") := by decide +kernel
theorem gv_t429 : tables_1[400]? = some (Cond.laysStatic "jdk/internal/util/Preconditions" "SIOOBE_FORMATTER" "Ljava/util/function/BiFunction;") := by decide +kernel
theorem gv_t591 : tables_1[567]? = some (Cond.laysStatic "NumberedSparks" "KIND_LEAST" "[I") := by decide +kernel
theorem gv_t593 : tables_1[569]? = some (Cond.laysStatic "NumberedSparks" "KIND_MOST" "[I") := by decide +kernel
theorem gv_sl : ∀ k, k < 40 → am_sl k < 2 ^ 31 := by decide +kernel
theorem gv_len : am_str.length = 40 := by decide +kernel
/-- one String constant's cells -/
theorem gv_str {args : Array Value} {s : State} {A : Nat → Prop} {k : Nat} (hk : k < 40) (hf : ∀ w ∈ flatC gv_T, w.before args s = true) (hA : ∀ a : Nat, a < s.heap.size → ¬ A a) :
    ∃ a v : Nat, (gv_tm k).eval args s none [] s = some (.ref a) ∧ va_O "java/lang/String" a A s s.heap ∧ va_OF "java/lang/String" "coder" "B" (.int 0) a A s s.heap ∧ va_OF "java/lang/String" "value" "[B" (.ref v) a A s s.heap ∧ va_T .byte v (am_sl k) (fun j => .int (am_sb k j)) A s s.heap := by
  have hw : ∀ w ∈ gv_ws k ++ (List.range (am_sl k)).map (gv_el k), w.before args s = true := by
    intro w h
    rw [← gv_in k hk] at h
    exact hf w (List.mem_of_mem_drop (List.mem_of_mem_take h))
  have hex : (Cond.exactly (gv_tm k) "java/lang/String").before args s = true := hw _ (List.mem_append_left _ (List.Mem.head _))
  have hco : (Cond.eq (.field (gv_tm k) "java/lang/String" "coder" "B") (.int 0)).before args s = true := hw _ (List.mem_append_left _ (List.Mem.tail _ (List.Mem.head _)))
  have har : (Cond.arrayOf (gv_vl k) .byte).before args s = true := hw _ (List.mem_append_left _ (List.Mem.tail _ (List.Mem.tail _ (List.Mem.head _))))
  have hle : (Cond.eq (.length (gv_vl k)) (.int (Int32.ofNat (am_sl k)))).before args s = true := hw _ (List.mem_append_left _ (List.Mem.tail _ (List.Mem.tail _ (List.Mem.tail _ (List.Mem.head _)))))
  have hel : ∀ j : Nat, j < am_sl k → (gv_el k j).before args s = true := fun j hj => hw _ (List.mem_append_right _ (List.mem_map.mpr ⟨j, List.mem_range.mpr hj, rfl⟩))
  obtain ⟨a, c, cA, kA, q1, q2, q3, q4, q5, q6, -⟩ := Cond.exactly_spec (args := args) (first := s) (o := none) (s := s) (idx := []) (t := gv_tm k) (cls := "java/lang/String") hex
  obtain ⟨t, ht, hT⟩ := va_Tof (f := fun j => .int (am_sb k j)) (A := A) (gv_sl k hk) har (va_eqt hle) (fun j hj => va_eqt (hel j hj)) hA
  exact ⟨a, t, q1, ⟨cA, q3, q5, by rw [q6]; exact q2, hA a (Array.getElem?_eq_some_iff.mp q3).1⟩, vk_OFof q1 (va_eqt hco) hA, vk_OFof q1 ht hA, hT⟩
theorem gv_wds {args : Array Value} {s : State} (hts : ∀ w ∈ lw_tbl, w.before args s = true) : ∀ w ∈ am_ws, ∀ A : Array Value, w.before A s = true := by
  intro w hw A
  have hg : am_gw w = true := (List.mem_filter.mp hw).2
  have h := hts w (List.mem_filter.mp hw).1
  unfold am_gw at hg
  rcases Bool.or_eq_true _ _ |>.mp hg with hg | hg
  · exact word_at (State.WarmedH.refl s) (good_of_word hg) h
  · cases w <;> first | exact va_Nw.use rfl (va_Nw.of rfl h) | cases hg
theorem gv_kn {s : State} (hws : ∀ w ∈ am_ws, w.before #[] s = true) (c : Nat) : ∃ pr : ClassId × (Nat → Nat), ∀ q, am_cl[c]? = some q → u_Kn s q.1 q.2.1 q.2.2 pr.1 pr.2 := by
  match c with
  | 0 => obtain ⟨x, y, h⟩ := u_known hws am_u0 (hws _ wd_259); exact ⟨(x, y), fun q e => by cases e; exact h⟩
  | 1 => obtain ⟨x, y, h⟩ := u_known hws am_u1 (hws _ wd_230); exact ⟨(x, y), fun q e => by cases e; exact h⟩
  | 2 => obtain ⟨x, y, h⟩ := u_known hws am_u2 (hws _ wd_109); exact ⟨(x, y), fun q e => by cases e; exact h⟩
  | 3 => obtain ⟨x, y, h⟩ := u_known hws am_u3 (hws _ wd_129); exact ⟨(x, y), fun q e => by cases e; exact h⟩
  | 4 => obtain ⟨x, y, h⟩ := u_known hws am_u4 (hws _ wd_70); exact ⟨(x, y), fun q e => by cases e; exact h⟩
  | 5 => obtain ⟨x, y, h⟩ := u_known hws am_u5 (hws _ wd_27); exact ⟨(x, y), fun q e => by cases e; exact h⟩
  | 6 => obtain ⟨x, y, h⟩ := u_known hws am_u6 (hws _ wd_150); exact ⟨(x, y), fun q e => by cases e; exact h⟩
  | 7 => obtain ⟨x, y, h⟩ := u_known hws am_u7 (hws _ wd_143); exact ⟨(x, y), fun q e => by cases e; exact h⟩
  | 8 => obtain ⟨x, y, h⟩ := u_known hws am_u8 (hws _ wd_19); exact ⟨(x, y), fun q e => by cases e; exact h⟩
  | 9 => obtain ⟨x, y, h⟩ := u_known hws am_u9 (hws _ wd_1144); exact ⟨(x, y), fun q e => by cases e; exact h⟩
  | n + 10 => exact ⟨(0, fun _ => 0), fun q e => absurd (List.getElem?_eq_some_iff.mp e).1 (by show ¬ n + 10 < 10; omega)⟩
theorem gv_arr {s : State} {ty : FieldType} (hp : ∀ C, ty ≠ .object C) (h : (Cond.arrayClass ty).before #[] s = true) : ∃ cA : ClassId, ArrOfT s cA ty ∧ va_RA s cA ty := by
  obtain ⟨cA, kA, comp, h1, h2, h3⟩ := Cond.arrayClass_spec h
  refine ⟨cA, fun n z => ⟨fun k h => (by cases h), kA, h2, comp, h3⟩, ?_⟩
  cases ty <;> first | exact h1 | exact absurd rfl (hp _)
theorem gv_arrO {s : State} (h : va_AO RX6 s) : ∃ cA : ClassId, ArrOfT s cA (.object RX6) ∧ va_RA s cA (.object RX6) := by
  obtain ⟨comp, cA, kA, h1, h2, h3, h4, h5⟩ := Cond.arrayOver_spec h
  exact ⟨cA, fun n z => ⟨fun k h => (by cases h), kA, h3, comp, h4⟩, kA, comp, h3, h4, h1, h5⟩
