/-! ===== naming, decode tables, narrow returns ===== -/
abbrev am_Dec (cc : ByteArray) (t : List (Nat × Instr × Nat)) : Prop := t.all (fun q => decide (decode cc q.1 = .ok (q.2.1, q.2.2))) = true
theorem am_Dec.at {cc : ByteArray} {t : List (Nat × Instr × Nat)} (h : am_Dec cc t) (j : Nat) {pc : Nat} {i : Instr} {n : Nat} (hj : t[j]? = some (pc, i, n)) : decode cc pc = .ok (i, n) := by
  have h1 := List.all_eq_true.mp h _ (List.mem_of_getElem? hj)
  exact of_decide_eq_true h1
def zR (ty : FieldType) (x : Int32) (r : am_R) : am_R := if narrow ty (.int x) = .int x then r else none
section RfNm
variable {G : am_G} {l : Launch} {X : am_X} {pc : Nat} {ls st : List Value} {M : am_M} {o : am_R} {x y : Int32} {i : Nat}
theorem r_nmi {e : Int32} {f : Int32 → am_R} (k : ∀ x, Rf G l X pc ls (.int x :: st) M (f x)) : Rf G l X pc ls (.int e :: st) M (nm e f) := k e
theorem r_nml {e : Int64} {f : Int64 → am_R} (k : ∀ x, Rf G l X pc ls (.long x :: st) M (f x)) : Rf G l X pc ls (.long e :: st) M (nm e f) := k e
theorem r_iincn {n : Int} {v : Int32} {f : Int32 → am_R} (hd : decode (xC X) pc = .ok (.iinc i n, 3)) (hi : i < xL X) (hl : ls[i]? = some (.int x)) (hv : Int32.ofInt n = v) (ls' : Int32 → List Value) (hs : ∀ y, st1 ls i (.int y) = ls' y) (k : ∀ y, Rf G l X (pc + 3) (ls' y) st M (f y)) : Rf G l X pc ls st M (nm (x + v) f) := r_iinc hd hi hl (by rw [hv]) (hs _) (k _)
theorem r_zretC {ty : FieldType} (hd : decode (xC X) pc = .ok (.ireturn, 1)) (hr : xT X = some ty) : Rf G l X pc ls [.int x] M (zR ty x (some (some (.int x), M))) := by
  unfold zR
  exact Rf.ite (fun h => r_zret hd hr h) (fun _ => Rf.no)
theorem swn {k : Int} {v : Int32} (hk : v.toInt = k) (h : ¬ x = v) : x.toInt ≠ k := fun e => h (Int32.toInt_inj.mp (by rw [e, hk]))
end RfNm
def nz (w : Nat) (r : am_R) : am_R := if w = 0 then none else r
theorem r_aload_sv {G : am_G} {l : Launch} {X : am_X} {pc : Nat} {ls st : List Value} {M : am_M} {o : am_R} {a : Nat} {j : Fin 4} (hd : decode (xC X) pc = .ok (.aload_n j, 1)) (hl : ls[(j : Nat)]? = some (.retAddr a)) (k : Rf G l X (pc + 1) ls (.retAddr a :: st) M o) : Rf G l X pc ls st M (nz a o) := by
  unfold nz
  exact Rf.ite (fun _ => Rf.no) (fun h => r_aload_s hd hl h k)
