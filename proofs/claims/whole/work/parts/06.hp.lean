/-! ===== the picture: what the machine's heap holds of a memory ===== -/
abbrev am_G : Type := Nat × va_G × (Nat → ClassId) × (Nat → Value) × Nat × (Nat → Int32)
def gB (G : am_G) : Nat := G.1
def gD (G : am_G) : va_G := G.2.1
def gC (G : am_G) : Nat → ClassId := G.2.2.1
def gS (G : am_G) : Nat → Value := G.2.2.2.1
/-- the law's script: its length, its ints -/
def gL (G : am_G) : Nat := G.2.2.2.2.1
def gX (G : am_G) : Nat → Int32 := G.2.2.2.2.2
def gA (G : am_G) : Nat → Prop := fun q => gB G ≤ q
def rv (G : am_G) : Value → Value
  | .ref n => .ref (gB G + n)
  | .retAddr k => gS G k
  | v => v
def am_fv (G : am_G) (M : am_M) (n c k : Nat) : Value := match am_ft c k with
  | 0 => .int (rI M n k)
  | 1 => .long (rL M n k)
  | _ => va_rf ((rR M n k).map (gB G + ·))
def am_fs (G : am_G) (M : am_M) (n c : Nat) : List Value := (List.range (am_nf c)).map (am_fv G M n c)
def am_cell (G : am_G) (M : am_M) (n : Nat) : va_E := match mKd M n with
  | 0 => .inl (gC G 0, mLn M n, .inl (rI M n))
  | 1 => .inl (gC G 1, mLn M n, .inr (.inl (rL M n)))
  | 2 => .inl (gC G 2, mLn M n, .inl (rI M n))
  | 3 => .inl (gC G 3, mLn M n, .inr (.inr (.inr (.inr fun j => (rR M n j).map (gB G + ·)))))
  | c + 4 => .inr (c, am_fs G M n c)
def am_wd (G : am_G) (M : am_M) : va_W := (List.range (mNx M)).map fun n => (gB G + n, am_cell G M n)
def am_Hp (G : am_G) (M : am_M) (H : Heap) : Prop := H.size = gB G + mNx M ∧ va_P (gD G) am_cl (am_wd G M) H
theorem wd_at {G : am_G} {M : am_M} {n : Nat} (h : n < mNx M) : (am_wd G M)[n]? = some (gB G + n, am_cell G M n) := by simp [am_wd, h]
theorem wd_of {G : am_G} {M : am_M} {k : Nat} {q : Nat × va_E} (h : (am_wd G M)[k]? = some q) : k < mNx M ∧ q = (gB G + k, am_cell G M k) := by
  have hk : k < mNx M := by
    have := (List.getElem?_eq_some_iff.mp h).1
    simpa [am_wd] using this
  rw [wd_at hk] at h
  exact ⟨hk, (Option.some.inj h).symm⟩
theorem wd_D (G : am_G) (M : am_M) : va_D (gA G) (am_wd G M) := by
  refine ⟨fun i j p q hi hj e => ?_, fun k q hk => ?_⟩
  · obtain ⟨-, rfl⟩ := wd_of hi
    obtain ⟨-, rfl⟩ := wd_of hj
    dsimp only at e
    omega
  · obtain ⟨-, rfl⟩ := wd_of hk
    exact Nat.le_add_right _ _
theorem kd_lt {M : am_M} {a t : Nat} (h : mKd M a = t) (ht : t ≠ 999 := by decide) : a < mNx M := by
  unfold mKd at h
  by_cases hl : a < mNx M
  · exact hl
  · rw [if_neg hl] at h
    exact absurd h.symm ht
theorem wd_set {G : am_G} {M M' : am_M} {n : Nat} {e : va_E} (hx : mNx M' = mNx M) (ho : ∀ j, j ≠ n → am_cell G M' j = am_cell G M j) (he : am_cell G M' n = e) : (am_wd G M).set n (gB G + n, e) = am_wd G M' := by
  apply List.ext_getElem?
  intro j
  rw [List.getElem?_set]
  by_cases hj : n = j
  · subst hj
    rw [if_pos rfl]
    by_cases hn : n < mNx M
    · rw [if_pos (by simpa [am_wd] using hn), wd_at (by rw [hx]; exact hn), he]
    · rw [if_neg (by simpa [am_wd] using hn)]
      exact (List.getElem?_eq_none (by simp [am_wd, hx]; omega)).symm
  · rw [if_neg hj]
    by_cases hn : j < mNx M
    · rw [wd_at hn, wd_at (by rw [hx]; exact hn), ho j (fun q => hj q.symm)]
    · rw [List.getElem?_eq_none (by simp [am_wd]; omega), List.getElem?_eq_none (by simp [am_wd, hx]; omega)]
theorem am_range_set {α : Type} {N k : Nat} {f g : Nat → α} {v : α} (hg : g k = v) (ho : ∀ j, j ≠ k → g j = f j) : ((List.range N).map f).set k v = (List.range N).map g := by
  apply List.ext_getElem?
  intro j
  rw [List.getElem?_set]
  by_cases hj : k = j
  · subst hj
    rw [if_pos rfl]
    by_cases hn : k < N
    · rw [if_pos (by simpa using hn)]
      simp [hn, hg]
    · rw [if_neg (by simpa using hn)]
      exact (List.getElem?_eq_none (by simp; omega)).symm
  · rw [if_neg hj]
    by_cases hn : j < N
    · simp [hn, ho j (fun q => hj q.symm)]
    · rw [List.getElem?_eq_none (by simp; omega), List.getElem?_eq_none (by simp; omega)]
/-! cells behind a write -/
theorem cell_obj {G : am_G} {M : am_M} {a c : Nat} (h : mKd M a = c + 4) : am_cell G M a = .inr (c, am_fs G M a c) := by
  unfold am_cell
  rw [h]
theorem cell_I {G : am_G} {M : am_M} {a : Nat} (h : mKd M a = 0) : am_cell G M a = .inl (gC G 0, mLn M a, .inl (rI M a)) := by
  unfold am_cell
  rw [h]
theorem cell_L {G : am_G} {M : am_M} {a : Nat} (h : mKd M a = 1) : am_cell G M a = .inl (gC G 1, mLn M a, .inr (.inl (rL M a))) := by
  unfold am_cell
  rw [h]
theorem cell_B {G : am_G} {M : am_M} {a : Nat} (h : mKd M a = 2) : am_cell G M a = .inl (gC G 2, mLn M a, .inl (rI M a)) := by
  unfold am_cell
  rw [h]
theorem cell_R {G : am_G} {M : am_M} {a : Nat} (h : mKd M a = 3) : am_cell G M a = .inl (gC G 3, mLn M a, .inr (.inr (.inr (.inr fun j => (rR M a j).map (gB G + ·))))) := by
  unfold am_cell
  rw [h]
theorem cell_same {G : am_G} {M M' : am_M} {j : Nat} (hk : mKd M' j = mKd M j) (hl : mLn M' j = mLn M j) (h1 : rI M' j = rI M j) (h2 : rL M' j = rL M j) (h3 : rR M' j = rR M j) : am_cell G M' j = am_cell G M j := by
  unfold am_cell am_fs am_fv
  rw [hk, hl, h1, h2, h3]
theorem rI_wI_ne {M : am_M} {a k : Nat} {v : Int32} {b : Nat} (h : b ≠ a) : rI (wI M a k v) b = rI M b := by
  funext j
  rw [rI_wI, if_neg (fun q => h q.1)]
theorem rL_wL_ne {M : am_M} {a k : Nat} {v : Int64} {b : Nat} (h : b ≠ a) : rL (wL M a k v) b = rL M b := by
  funext j
  rw [rL_wL, if_neg (fun q => h q.1)]
theorem rR_wR_ne {M : am_M} {a k : Nat} {v : Option Nat} {b : Nat} (h : b ≠ a) : rR (wR M a k v) b = rR M b := by
  funext j
  rw [rR_wR, if_neg (fun q => h q.1)]
theorem cell_wI {G : am_G} {M : am_M} {a k : Nat} {v : Int32} {j : Nat} (h : j ≠ a) : am_cell G (wI M a k v) j = am_cell G M j := cell_same rfl rfl (rI_wI_ne h) rfl rfl
theorem cell_wL {G : am_G} {M : am_M} {a k : Nat} {v : Int64} {j : Nat} (h : j ≠ a) : am_cell G (wL M a k v) j = am_cell G M j := cell_same rfl rfl rfl (rL_wL_ne h) rfl
theorem cell_wR {G : am_G} {M : am_M} {a k : Nat} {v : Option Nat} {j : Nat} (h : j ≠ a) : am_cell G (wR M a k v) j = am_cell G M j := cell_same rfl rfl rfl rfl (rR_wR_ne h)
theorem fv_I {G : am_G} {M : am_M} {n c k : Nat} (h : am_ft c k = 0) : am_fv G M n c k = .int (rI M n k) := by
  unfold am_fv
  rw [h]
  rfl
theorem fv_R {G : am_G} {M : am_M} {n c k : Nat} (h : am_ft c k = 2) : am_fv G M n c k = va_rf ((rR M n k).map (gB G + ·)) := by
  unfold am_fv
  rw [h]
  rfl
theorem fs_at {G : am_G} {M : am_M} {n c k : Nat} (h : k < am_nf c) : (am_fs G M n c)[k]? = some (am_fv G M n c k) := by simp [am_fs, h]
theorem fs_wI {G : am_G} {M : am_M} {a c k : Nat} {v : Int32} (h : am_ft c k = 0) : (am_fs G M a c).set k (.int v) = am_fs G (wI M a k v) a c := by
  refine am_range_set ?_ (fun j hj => ?_)
  · rw [fv_I h, rI_wI, if_pos ⟨rfl, rfl⟩]
  · unfold am_fv
    rw [rI_wI, if_neg (fun q => hj q.2)]
    rfl
theorem fs_wR {G : am_G} {M : am_M} {a c k b : Nat} (h : am_ft c k = 2) : (am_fs G M a c).set k (.ref (gB G + b)) = am_fs G (wR M a k (some b)) a c := by
  refine am_range_set ?_ (fun j hj => ?_)
  · rw [fv_R h, rR_wR, if_pos ⟨rfl, rfl⟩]
    rfl
  · unfold am_fv
    rw [rR_wR, if_neg (fun q => hj q.2)]
    rfl
theorem upd_wI {M : am_M} {a k : Nat} {v : Int32} : upd (rI M a) k v = rI (wI M a k v) a := by
  funext j
  rw [rI_wI]
  unfold upd
  by_cases h : j = k <;> simp [h]
theorem upd_wL {M : am_M} {a k : Nat} {v : Int64} : vp_updL (rL M a) k v = rL (wL M a k v) a := by
  funext j
  rw [rL_wL]
  unfold vp_updL
  by_cases h : j = k <;> simp [h]
theorem upd_wR {G : am_G} {M : am_M} {a k b : Nat} : va_up (fun j => (rR M a j).map (gB G + ·)) k (some (gB G + b)) = fun j => (rR (wR M a k (some b)) a j).map (gB G + ·) := by
  funext j
  rw [rR_wR]
  unfold va_up
  by_cases h : j = k <;> simp [h]
/-! a new cell -/
theorem wd_push {G : am_G} {M : am_M} {t n : Nat} : am_wd G (mkC M t n) = am_wd G M ++ [(gB G + mNx M, am_cell G (mkC M t n) (mNx M))] := by
  unfold am_wd
  rw [mNx_mkC, List.range_succ, List.map_append]
  congr 1
  refine List.map_congr_left (fun j hj => ?_)
  have hj : j < mNx M := List.mem_range.mp hj
  have hne : ¬ j = mNx M := Nat.ne_of_lt hj
  rw [cell_same (G := G) (M := M) (M' := mkC M t n) (j := j) ?_ ?_ ?_ ?_ ?_]
  · rw [mKd_mkC, if_neg hne]
  · rw [mLn_mkC, if_neg hne]
  · funext k; rw [rI_mkC, if_neg hne]
  · funext k; rw [rL_mkC, if_neg hne]
  · funext k; rw [rR_mkC, if_neg hne]
theorem am_Hp.push {G : am_G} {M : am_M} {H H1 : Heap} {t n : Nat} (h : am_Hp G M H) (hz : H1.size = H.size + 1) (ho : ∀ q : Nat, q < H.size → H1[q]? = H[q]?) (hc : va_at (gD G) am_cl (gB G + mNx M, am_cell G (mkC M t n) (mNx M)) H1) : am_Hp G (mkC M t n) H1 := by
  refine ⟨by rw [hz, h.1, mNx_mkC]; omega, ?_⟩
  rw [wd_push]
  refine va_P.app (fun k q hk => (h.2 k q hk).kept (ho _ ((h.2 k q hk).lt))) (fun k q hk => ?_)
  have hk0 : k < 1 := (List.getElem?_eq_some_iff.mp hk).1
  rw [show k = 0 by omega] at hk
  cases hk
  exact hc
/-- a cell is written: the others stay -/
theorem am_Hp.put {G : am_G} {M M' : am_M} {H H1 : Heap} {n : Nat} {e : va_E} (h : am_Hp G M H) (hx : mNx M' = mNx M) (ho : ∀ j, j ≠ n → am_cell G M' j = am_cell G M j) (he : am_cell G M' n = e) (hz : H1.size = H.size) (hP : va_P (gD G) am_cl ((am_wd G M).set n (gB G + n, e)) H1) : am_Hp G M' H1 := ⟨by rw [hz, h.1, hx], by rw [← wd_set hx ho he]; exact hP⟩
