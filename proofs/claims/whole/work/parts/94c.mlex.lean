/-! ===== the text of a scene: the reference's tokens ===== -/
section Lex4
variable {T : Nat → Int} {n : Nat} {M : am_M}
theorem mLet {x : Int} (h1 : -1 ≤ x) (h2 : x < 256) : F_Md_in (iz x).toInt64 97 122 M = some (some (.int (bz (ltr x))), M) := by
  rw [jz_i2l (by omega) (by omega), show (97 : Int64) = jz 97 from rfl, show (122 : Int64) = jz 122 from rfl, in_eq (by omega) (by omega) (by omega) (by omega) (by omega) (by omega)]
theorem mDig {x : Int} (h1 : -1 ≤ x) (h2 : x < 256) : F_Md_in (iz x).toInt64 48 57 M = some (some (.int (bz (dgt x))), M) := by
  rw [jz_i2l (by omega) (by omega), show (48 : Int64) = jz 48 from rfl, show (57 : Int64) = jz 57 from rfl, in_eq (by omega) (by omega) (by omega) (by omega) (by omega) (by omega)]
theorem bt_not {P : Int → Prop} (hP : ∀ x, P x → 0 ≤ x) {p : Nat} (h : P (bt T n p)) : p < n ∧ P (T p) := by
  by_cases g : p < n
  · exact ⟨g, by rw [show bt T n p = T p from if_pos g] at h; exact h⟩
  · have e : bt T n p = -1 := if_neg g
    have := hP _ h
    omega
theorem mLetL (ht : TxO T n) : ∀ (r f p : Nat) (M : am_M), RdM T n M → rI M 70 17 = iz (p : Int) → p ≤ n → n - p ≤ r → r < f → ∃ M', F_Md_advance_L83 f 70 M = some (none, M') ∧ Fr (fun b j => b = 70 ∧ (j = 17 ∨ j = 19)) M M' ∧ rI M' 70 17 = iz (stop ltr T n p : Int) ∧ rI M' 70 19 = iz 1
  | r, 0, p, M, h, hp, h1, h2, h3 => by omega
  | r, f + 1, p, M, h, hp, h1, h2, h3 => by
    have h500 := ht.1
    have hb := bt_bd ht p
    rw [F_Md_advance_L83, fI_eq (kd_70 h.1), hp, cv_eq (kd_70 h.1), mSee ht h (by omega), bI_eq, mLet hb.1 hb.2, bI_eq, bz_if0]
    by_cases g2 : ltr (bt T n p)
    · obtain ⟨g, g3⟩ := bt_not (P := ltr) (fun x q => by omega) g2
      rw [if_pos g2, fI_eq (kd_70 h.1), hp, sI_eq (kd_70 h.1), show (1 : Int32) = iz 1 from rfl, iz_add]
      have f1 : Fr (fun b j => b = 70 ∧ (j = 17 ∨ j = 19)) M (wI M 70 17 (iz ((p : Int) + 1))) := Fr.wI ⟨rfl, by omega⟩
      match r with
      | 0 => omega
      | r + 1 =>
        obtain ⟨M', e1, f2, e2, e3⟩ := mLetL ht r f (p + 1) _ (h.fr f1 (fun b j q => by omega)) (by rw [rI_at rfl rfl]; rfl) (by omega) (by omega) (by omega)
        exact ⟨M', e1, f1.trans f2, by rw [e2, stop_in g g3], e3⟩
    · rw [if_neg g2, sI_eq (kd_70 h.1)]
      refine ⟨_, rfl, Fr.wI ⟨rfl, by omega⟩, ?_, by rw [rI_at rfl rfl]; rfl⟩
      rw [rI_ne (by omega), hp, stop_out (fun q => g2 (by rw [show bt T n p = T p from if_pos q.1]; exact q.2))]
theorem mDigL (ht : TxO T n) : ∀ (r f p : Nat) (a : Int) (M : am_M), RdM T n M → rI M 70 17 = iz (p : Int) → rI M 70 20 = iz (min 9999999 a) → 0 ≤ a → p ≤ n → n - p ≤ r → r < f → ∃ M', F_Md_advance_L144 f 70 M = some (none, M') ∧ Fr (fun b j => b = 70 ∧ (j = 17 ∨ j = 19 ∨ j = 20)) M M' ∧ rI M' 70 17 = iz (stop dgt T n p : Int) ∧ rI M' 70 20 = iz (min 9999999 (dgv T n p a)) ∧ rI M' 70 19 = iz 2
  | r, 0, p, a, M, h, hp, ha, a0, h1, h2, h3 => by omega
  | r, f + 1, p, a, M, h, hp, ha, a0, h1, h2, h3 => by
    have h500 := ht.1
    have hb := bt_bd ht p
    rw [F_Md_advance_L144, fI_eq (kd_70 h.1), hp, cv_eq (kd_70 h.1), mSee ht h (by omega), bI_eq, mDig hb.1 hb.2, bI_eq, bz_if0]
    by_cases g2 : dgt (bt T n p)
    · obtain ⟨g, g3⟩ := bt_not (P := dgt) (fun x q => by omega) g2
      have e : bt T n p = T p := if_pos g
      have g4 : 48 ≤ T p ∧ T p ≤ 57 := g3
      rw [if_pos g2, fI_eq (kd_70 h.1), ha, fI_eq (kd_70 h.1), hp, cv_eq (kd_70 h.1), mSee ht h (by omega), bI_eq, e, show (10 : Int32) = iz 10 from rfl, iz_mul, iz_add, show (48 : Int32) = iz 48 from rfl, iz_sub, show (9999999 : Int32) = iz 9999999 from rfl, min_eq (by omega) (by omega) (by omega) (by omega), bI_eq, sI_eq (kd_70 h.1)]
      have f1 : Fr (fun b j => b = 70 ∧ (j = 17 ∨ j = 19 ∨ j = 20)) M (wI M 70 20 (iz (min 9999999 (10 * min 9999999 a + T p - 48)))) := Fr.wI ⟨rfl, by omega⟩
      have s1 := h.1.fr f1
      rw [fI_eq (kd_70 s1), rI_ne (by omega), hp, sI_eq (kd_70 s1), show (1 : Int32) = iz 1 from rfl, iz_add]
      have f2 := f1.trans (Fr.wI (k := 17) (v := iz ((p : Int) + 1)) (show (70 = 70 ∧ (17 = 17 ∨ 17 = 19 ∨ 17 = 20)) from ⟨rfl, by omega⟩))
      match r with
      | 0 => omega
      | r + 1 =>
        obtain ⟨M', e1, f3, e2, e3, e4⟩ := mDigL ht r f (p + 1) (10 * a + T p - 48) _ (h.fr f2 (fun b j q => by omega)) (by rw [rI_at rfl rfl]; rfl) (by rw [rI_ne (by omega), rI_at rfl rfl]; congr 1; omega) (by omega) (by omega) (by omega) (by omega)
        exact ⟨M', e1, f2.trans f3, by rw [e2, stop_in g g3], by rw [e3, dgv_in g g3], e4⟩
    · have no : ¬ (p < n ∧ dgt (T p)) := fun q => g2 (by rw [show bt T n p = T p from if_pos q.1]; exact q.2)
      rw [if_neg g2, sI_eq (kd_70 h.1)]
      refine ⟨_, rfl, Fr.wI ⟨rfl, by omega⟩, ?_, ?_, by rw [rI_at rfl rfl]; rfl⟩
      · rw [rI_ne (by omega), hp, stop_out no]
      · rw [rI_ne (by omega), ha, dgv_out no]
theorem mTok (ht : TxO T n) (f : Nat) (h : RdM T n M) {s : Nat} (hs : s ≤ n) (h17 : rI M 70 17 = iz (s : Int)) (hw : ¬ (s < n ∧ wsp (T s))) : ∃ M', F_Md_advance_L0 (f + 1) 70 M = some (none, M') ∧ Fr B7 M M' ∧ RdL T n M' s := by
  have h500 := ht.1
  have fg := fu_ge
  have hb := bt_bd ht s
  have w1 : ¬ bt T n s = 32 := fun q => by
    by_cases g : s < n
    · exact hw ⟨g, Or.inl (by rw [← q]; exact (if_pos g).symm)⟩
    · have : bt T n s = -1 := if_neg g
      omega
  have w2 : ¬ bt T n s = 10 := fun q => by
    by_cases g : s < n
    · exact hw ⟨g, Or.inr (by rw [← q]; exact (if_pos g).symm)⟩
    · have : bt T n s = -1 := if_neg g
      omega
  have f1 : Fr B7 M (wI M 70 18 (iz (s : Int))) := Fr.wI ⟨rfl, by omega, by omega⟩
  have hx := h.f7 f1
  have z17 : rI (wI M 70 18 (iz (s : Int))) 70 17 = iz (s : Int) := by rw [rI_ne (by omega)]; exact h17
  have z18 : rI (wI M 70 18 (iz (s : Int))) 70 18 = iz (s : Int) := by rw [rI_at rfl rfl]
  rw [F_Md_advance_L0, fI_eq (kd_70 h.1), h17, cv_eq (kd_70 h.1), mSee ht h (by omega), bI_eq, show (32 : Int32) = iz 32 from rfl, ifQ (by omega) (by omega) (by omega) (by omega), if_neg w1, fI_eq (kd_70 h.1), h17, cv_eq (kd_70 h.1), mSee ht h (by omega), bI_eq, show (10 : Int32) = iz 10 from rfl, ifQ (by omega) (by omega) (by omega) (by omega), if_neg w2, fI_eq (kd_70 h.1), h17, sI_eq (kd_70 h.1)]
  generalize wI M 70 18 (iz (s : Int)) = M1 at f1 hx z17 z18 ⊢
  rw [fI_eq (kd_70 hx.1), z17, cv_eq (kd_70 hx.1), mSee ht hx (by omega), bI_eq, show (-1 : Int32) = iz (-1) from rfl, ifQ (by omega) (by omega) (by omega) (by omega), mLet hb.1 hb.2, bI_eq, bz_if0, mDig hb.1 hb.2, bI_eq, bz_if0]
  by_cases g : s < n
  · have e : bt T n s = T s := if_pos g
    have t0 := ht.2 s g
    rw [e, if_neg (by omega)]
    by_cases g1 : ltr (T s)
    · have et : tk T n s = 1 := by unfold tk; rw [if_pos g, if_pos g1]
      have eb : be T n s = stop ltr T n s := by unfold be; rw [if_pos g, if_pos g1]
      obtain ⟨M', e1, f2, e2, e3⟩ := mLetL ht n fu s _ hx z17 hs (by omega) (by omega)
      have f2' : Fr B7 _ M' := f2.mono (fun b j q => ⟨q.1, by omega, by omega⟩)
      rw [if_pos g1, e1]
      refine ⟨M', rfl, f1.trans f2', ?_, ?_, ?_, fun q => by omega, fun q => by omega⟩
      · rw [e3, et]
      · rw [f2.ri (by omega), z18]
      · rw [e2, eb]
    · rw [if_neg g1]
      by_cases g2 : dgt (T s)
      · have et : tk T n s = 2 := by unfold tk; rw [if_pos g, if_neg g1, if_pos g2]
        have eb : be T n s = stop dgt T n s := by unfold be; rw [if_pos g, if_neg g1, if_pos g2]
        have f3 : Fr B7 M1 (wI M1 70 20 0) := Fr.wI ⟨rfl, by omega, by omega⟩
        obtain ⟨M', e1, f2, e2, e3, e4⟩ := mDigL ht n fu s 0 _ (hx.f7 f3) (by rw [rI_ne (by omega)]; exact z17) (by rw [rI_at rfl rfl]; rfl) (Int.le_refl _) hs (by omega) (by omega)
        have f2' : Fr B7 _ M' := f2.mono (fun b j q => ⟨q.1, by omega, by omega⟩)
        rw [if_pos g2, sI_eq (kd_70 hx.1), e1]
        refine ⟨M', rfl, f1.trans (f3.trans f2'), ?_, ?_, ?_, fun _ => e3, fun q => by omega⟩
        · rw [e4, et]
        · rw [f2.ri (by omega), rI_ne (by omega), z18]
        · rw [e2, eb]
      · have et : tk T n s = 3 := by unfold tk; rw [if_pos g, if_neg g1, if_neg g2]
        have eb : be T n s = s + 1 := by unfold be; rw [if_pos g, if_neg g1, if_neg g2]
        rw [if_neg g2, sI_eq (kd_70 hx.1), sI_eq (kd_70 hx.1.wI), fI_eq (kd_70 hx.1.wI.wI), rI_ne (by omega), rI_ne (by omega), z17, sI_eq (kd_70 hx.1.wI.wI), show (1 : Int32) = iz 1 from rfl, iz_add]
        refine ⟨_, rfl, f1.trans ((Fr.wI ⟨rfl, by omega, by omega⟩).trans ((Fr.wI ⟨rfl, by omega, by omega⟩).trans (Fr.wI ⟨rfl, by omega, by omega⟩))), ?_, ?_, ?_, fun q => by omega, fun _ => ?_⟩
        · rw [rI_ne (by omega), rI_ne (by omega), rI_at rfl rfl, et]; rfl
        · rw [rI_ne (by omega), rI_ne (by omega), rI_ne (by omega), z18]
        · rw [rI_at rfl rfl, eb]; rfl
        · rw [rI_ne (by omega), rI_at rfl rfl]
  · have e : bt T n s = -1 := if_neg g
    have et : tk T n s = 0 := by unfold tk; rw [if_neg g]
    have eb : be T n s = s := by unfold be; rw [if_neg g]
    rw [if_pos e, sI_eq (kd_70 hx.1)]
    refine ⟨_, rfl, f1.trans (Fr.wI ⟨rfl, by omega, by omega⟩), ?_, ?_, ?_, fun q => by omega, fun q => by omega⟩
    · rw [rI_at rfl rfl, et]; rfl
    · rw [rI_ne (by omega), z18]
    · rw [rI_ne (by omega), z17, eb]
theorem mSkip (ht : TxO T n) : ∀ (r f p : Nat) (M : am_M), RdM T n M → rI M 70 17 = iz (p : Int) → p ≤ n → n - p ≤ r → r < f → ∃ M', F_Md_advance_L0 f 70 M = some (none, M') ∧ Fr B7 M M' ∧ RdL T n M' (sk T n p)
  | r, 0, p, M, h, hp, h1, h2, h3 => by omega
  | r, f + 1, p, M, h, hp, h1, h2, h3 => by
    have h500 := ht.1
    by_cases g : p < n ∧ wsp (T p)
    · have e : bt T n p = T p := if_pos g.1
      have t0 := ht.2 p g.1
      have stp : ∃ M', F_Md_advance_L26 (F_Md_advance_L0 f) 70 M = some (none, M') ∧ Fr B7 M M' ∧ RdL T n M' (sk T n p) := by
        unfold F_Md_advance_L26
        rw [fI_eq (kd_70 h.1), hp, sI_eq (kd_70 h.1), show (1 : Int32) = iz 1 from rfl, iz_add]
        have f1 : Fr B7 M (wI M 70 17 (iz ((p : Int) + 1))) := Fr.wI ⟨rfl, by omega, by omega⟩
        match r with
        | 0 => omega
        | r + 1 =>
          obtain ⟨M', e1, f2, e2⟩ := mSkip ht r f (p + 1) _ (h.f7 f1) (by rw [rI_at rfl rfl]; rfl) (by omega) (by omega) (by omega)
          exact ⟨M', e1, f1.trans f2, by unfold sk at e2 ⊢; rw [stop_in g.1 g.2]; exact e2⟩
      rw [F_Md_advance_L0, fI_eq (kd_70 h.1), hp, cv_eq (kd_70 h.1), mSee ht h (by omega), bI_eq, e, show (32 : Int32) = iz 32 from rfl, ifQ (by omega) (by omega) (by omega) (by omega), show (10 : Int32) = iz 10 from rfl]
      by_cases g2 : T p = 32
      · rw [if_pos g2]; exact stp
      · rw [if_neg g2, fI_eq (kd_70 h.1), hp, cv_eq (kd_70 h.1), mSee ht h (by omega), bI_eq, e, ifQ (by omega) (by omega) (by omega) (by omega)]
        have g3 : T p = 10 := by rcases g.2 with q | q <;> omega
        rw [if_pos g3]; exact stp
    · have e : sk T n p = p := by unfold sk; exact stop_out g
      rw [e]
      exact mTok ht f h h1 hp g
theorem mAdv' (ht : TxO T n) (h : RdM T n M) {p : Nat} (hp : p ≤ n) (h7 : rI M 70 17 = iz (p : Int)) : ∃ M', F_Md_advance 70 M = some (none, M') ∧ Fr B7 M M' ∧ RdL T n M' (sk T n p) := by
  have h500 := ht.1
  have fg := fu_ge
  exact mSkip ht n fu p M h h7 hp (by omega) (by omega)
theorem mAdv (ht : TxO T n) (h : RdM T n M) {s : Nat} (hs : s ≤ n) (hl : RdL T n M s) : ∃ M', F_Md_advance 70 M = some (none, M') ∧ Fr B7 M M' ∧ RdL T n M' (nx T n s) := mAdv' ht h (be_le s hs).2 hl.2.2.1
end Lex4
