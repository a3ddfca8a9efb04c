/-! ===== the text of a scene: tokens ===== -/
abbrev ltr (x : Int) : Prop := 97 ≤ x ∧ x ≤ 122
abbrev dgt (x : Int) : Prop := 48 ≤ x ∧ x ≤ 57
abbrev wsp (x : Int) : Prop := x = 32 ∨ x = 10
def stopF (P : Int → Prop) [DecidablePred P] (T : Nat → Int) : Nat → Nat → Nat
  | 0, p => p
  | f + 1, p => if P (T p) then stopF P T f (p + 1) else p
def stop (P : Int → Prop) [DecidablePred P] (T : Nat → Int) (n p : Nat) : Nat := stopF P T (n - p) p
def dgvF (T : Nat → Int) : Nat → Nat → Int → Int
  | 0, _, a => a
  | f + 1, p, a => if dgt (T p) then dgvF T f (p + 1) (10 * a + T p - 48) else a
def dgv (T : Nat → Int) (n p : Nat) (a : Int) : Int := dgvF T (n - p) p a
section Lex
variable {T : Nat → Int} {n : Nat} {M : am_M}
theorem stop_in {P : Int → Prop} [DecidablePred P] {p : Nat} (h : p < n) (hp : P (T p)) : stop P T n p = stop P T n (p + 1) := by
  unfold stop
  rw [show n - p = (n - (p + 1)) + 1 by omega, stopF, if_pos hp]
theorem stop_out {P : Int → Prop} [DecidablePred P] {p : Nat} (hp : ¬ (p < n ∧ P (T p))) : stop P T n p = p := by
  unfold stop
  rcases Nat.lt_or_ge p n with h | h
  · rw [show n - p = (n - (p + 1)) + 1 by omega, stopF, if_neg (fun q => hp ⟨h, q⟩)]
  · rw [show n - p = 0 by omega]; rfl
theorem stopF_le {P : Int → Prop} [DecidablePred P] (T : Nat → Int) : ∀ f p, p ≤ stopF P T f p ∧ stopF P T f p ≤ p + f
  | 0, p => ⟨Nat.le_refl _, Nat.le_refl _⟩
  | f + 1, p => by
    rw [stopF]
    by_cases h : P (T p)
    · rw [if_pos h]; have := stopF_le (P := P) T f (p + 1); omega
    · rw [if_neg h]; omega
theorem stop_le {P : Int → Prop} [DecidablePred P] {p : Nat} (h : p ≤ n) : p ≤ stop P T n p ∧ stop P T n p ≤ n := by
  have := stopF_le (P := P) T (n - p) p
  unfold stop; omega
theorem stop_all {P : Int → Prop} [DecidablePred P] : ∀ (r p : Nat), n - p ≤ r → ∀ q, p ≤ q → q < stop P T n p → P (T q)
  | r, p, hr, q, h1, h2 => by
    by_cases h : p < n ∧ P (T p)
    · rw [stop_in h.1 h.2] at h2
      by_cases e : q = p
      · rw [e]; exact h.2
      · match r with
        | 0 => omega
        | r + 1 => exact stop_all r (p + 1) (by omega) q (by omega) h2
    · rw [stop_out h] at h2; omega
theorem dgv_in {p : Nat} {a : Int} (h : p < n) (hp : dgt (T p)) : dgv T n p a = dgv T n (p + 1) (10 * a + T p - 48) := by
  unfold dgv
  rw [show n - p = (n - (p + 1)) + 1 by omega, dgvF, if_pos hp]
theorem dgv_out {p : Nat} {a : Int} (hp : ¬ (p < n ∧ dgt (T p))) : dgv T n p a = a := by
  unfold dgv
  rcases Nat.lt_or_ge p n with h | h
  · rw [show n - p = (n - (p + 1)) + 1 by omega, dgvF, if_neg (fun q => hp ⟨h, q⟩)]
  · rw [show n - p = 0 by omega]; rfl
theorem dgvF_nn (T : Nat → Int) : ∀ f p a, 0 ≤ a → 0 ≤ dgvF T f p a
  | 0, p, a, h => h
  | f + 1, p, a, h => by
    rw [dgvF]
    by_cases q : dgt (T p)
    · rw [if_pos q]; exact dgvF_nn T f (p + 1) _ (by unfold dgt at q; omega)
    · rw [if_neg q]; exact h
end Lex
section Lex2
variable (T : Nat → Int) (n : Nat)
def bt (p : Nat) : Int := if p < n then T p else -1
def sk (p : Nat) : Nat := stop wsp T n p
def tk (s : Nat) : Int := if s < n then (if ltr (T s) then 1 else if dgt (T s) then 2 else 3) else 0
def be (s : Nat) : Nat := if s < n then (if ltr (T s) then stop ltr T n s else if dgt (T s) then stop dgt T n s else s + 1) else s
def va (s : Nat) : Int := dgv T n s 0
def nx (s : Nat) : Nat := sk T n (be T n s)
def TxO : Prop := n ≤ 500 ∧ ∀ i, i < n → 0 ≤ T i ∧ T i < 256
/-- the component reads this text -/
def RdC (M : am_M) : Prop := SH M ∧ rR M 6 3 = some 1 ∧ rI M 6 4 = iz (n : Int) ∧ ∀ i, i < n → rI M 1 i = iz (T i)
def RcL (M : am_M) (s : Nat) : Prop := rI M 6 5 = iz (tk T n s) ∧ rI M 6 6 = iz (s : Int) ∧ rI M 6 7 = iz (be T n s : Int) ∧ (tk T n s = 2 → rI M 6 8 = iz (min 100000000 (va T n s))) ∧ (tk T n s = 3 → rI M 6 8 = iz (T s))
/-- the reference reads this text -/
def RdM (M : am_M) : Prop := SH M ∧ rI M 70 16 = iz (n : Int) ∧ ∀ i, i < n → BY (rI M 77 i) (T i)
def RdL (M : am_M) (s : Nat) : Prop := rI M 70 19 = iz (tk T n s) ∧ rI M 70 18 = iz (s : Int) ∧ rI M 70 17 = iz (be T n s : Int) ∧ (tk T n s = 2 → rI M 70 20 = iz (min 9999999 (va T n s))) ∧ (tk T n s = 3 → rI M 70 20 = iz (T s))
end Lex2
def A6 (b j : Nat) : Prop := b = 6 ∧ 5 ≤ j
def B7 (b j : Nat) : Prop := b = 70 ∧ 17 ≤ j ∧ j ≤ 20
section Lex3
variable {T : Nat → Int} {n : Nat} {M : am_M}
theorem be_le (s : Nat) (h : s ≤ n) : s ≤ be T n s ∧ be T n s ≤ n := by
  unfold be
  by_cases h1 : s < n
  · rw [if_pos h1]
    by_cases h2 : ltr (T s)
    · rw [if_pos h2]; exact stop_le h
    · rw [if_neg h2]
      by_cases h3 : dgt (T s)
      · rw [if_pos h3]; exact stop_le h
      · rw [if_neg h3]; omega
  · rw [if_neg h1]; omega
theorem nx_le (s : Nat) (h : s ≤ n) : nx T n s ≤ n := (stop_le (be_le s h).2).2
theorem va_nn (s : Nat) : 0 ≤ va T n s := dgvF_nn T _ _ 0 (Int.le_refl _)
theorem RdC.fr {A : Nat → Nat → Prop} {M' : am_M} (h : RdC T n M) (hf : Fr A M M') (hA : ∀ b j, A b j → ¬ (b = 6 ∧ j = 4) ∧ b ≠ 1) : RdC T n M' := by
  obtain ⟨h1, h2, h3, h4⟩ := h
  exact ⟨h1.fr hf, by rw [hf.rr]; exact h2, by rw [hf.ri (fun q => by have := hA _ _ q; omega)]; exact h3, fun i hi => by rw [hf.ri (fun q => by have := hA _ _ q; omega)]; exact h4 i hi⟩
theorem RdC.f6 {M' : am_M} (h : RdC T n M) (hf : Fr A6 M M') : RdC T n M' := h.fr hf (fun b j q => by unfold A6 at q; omega)
theorem RdM.fr {A : Nat → Nat → Prop} {M' : am_M} (h : RdM T n M) (hf : Fr A M M') (hA : ∀ b j, A b j → ¬ (b = 70 ∧ j = 16) ∧ b ≠ 77) : RdM T n M' := by
  obtain ⟨h1, h3, h4⟩ := h
  exact ⟨h1.fr hf, by rw [hf.ri (fun q => by have := hA _ _ q; omega)]; exact h3, fun i hi => by rw [hf.ri (fun q => by have := hA _ _ q; omega)]; exact h4 i hi⟩
theorem RdM.f7 {M' : am_M} (h : RdM T n M) (hf : Fr B7 M M') : RdM T n M' := h.fr hf (fun b j q => by unfold B7 at q; omega)
theorem bt_bd (ht : TxO T n) (p : Nat) : -1 ≤ bt T n p ∧ bt T n p < 256 := by
  unfold bt
  by_cases h : p < n
  · rw [if_pos h]; have := ht.2 p h; omega
  · rw [if_neg h]; omega
theorem cBy (ht : TxO T n) (h : RdC T n M) {p : Nat} (hp : p ≤ 100000) : F_Read_byteAt 6 (iz (p : Int)) M = some (some (.int (iz (bt T n p))), M) := by
  have h500 := ht.1
  unfold F_Read_byteAt bt
  rw [show (0 : Int32) = iz 0 from rfl, ifL (by omega) (by omega) (by omega) (by omega), if_neg (by omega), fI_eq (kd_6 h.1), h.2.2.1, ifE (by omega) (by omega) (by omega) (by omega), fR_eq (kd_6 h.1) h.2.1, aN_eq (show mKd M 1 < 4 by rw [kd_1 h.1]; decide) (ln_1 h.1), ifE (by omega) (by omega) (by omega) (by omega), fR_eq (kd_6 h.1) h.2.1]
  by_cases g : p < n
  · rw [if_neg (by omega), if_neg (by omega), aI_eq (kd_1 h.1) (ln_1 h.1) (by omega) (by omega) (by omega), if_pos g, Int.toNat_natCast, h.2.2.2 p g]
  · rw [if_pos (by omega), if_neg g]; rfl
theorem mSee (ht : TxO T n) (h : RdM T n M) {p : Nat} (hp : p ≤ 100000) : F_Md_see 70 (iz (p : Int)) M = some (some (.int (iz (bt T n p))), M) := by
  have h500 := ht.1
  unfold F_Md_see bt
  rw [fI_eq (kd_70 h.1), h.2.1, ifE (by omega) (by omega) (by omega) (by omega), fR_eq (kd_70 h.1) (rr_70_14 h.1)]
  by_cases g : p < n
  · rw [if_neg (by omega), aB_eq (kd_77 h.1) (ln_77 h.1) (by omega) (by omega) (by omega), if_pos g, Int.toNat_natCast, show (255 : Int32) = iz 255 from rfl, (h.2.2 p g).1]
  · rw [if_pos (by omega), if_neg g]; rfl
theorem cLet {x : Int} (h1 : -1 ≤ x) (h2 : x < 256) : F_Read_isLetter (iz x) M = some (some (.int (bz (ltr x))), M) := by
  unfold F_Read_isLetter
  rw [show (97 : Int32) = iz 97 from rfl, show (122 : Int32) = iz 122 from rfl, ifL (by omega) (by omega) (by omega) (by omega), ifL (by omega) (by omega) (by omega) (by omega)]
  by_cases g1 : x < 97
  · rw [if_pos g1, bz_f (by unfold ltr; omega)]; rfl
  · by_cases g2 : 122 < x
    · rw [if_neg g1, if_pos g2, bz_f (by unfold ltr; omega)]; rfl
    · rw [if_neg g1, if_neg g2, bz_t (by unfold ltr; omega)]; rfl
theorem cDig {x : Int} (h1 : -1 ≤ x) (h2 : x < 256) : F_Read_isDigit (iz x) M = some (some (.int (bz (dgt x))), M) := by
  unfold F_Read_isDigit
  rw [show (48 : Int32) = iz 48 from rfl, show (57 : Int32) = iz 57 from rfl, ifL (by omega) (by omega) (by omega) (by omega), ifL (by omega) (by omega) (by omega) (by omega)]
  by_cases g1 : x < 48
  · rw [if_pos g1, bz_f (by unfold dgt; omega)]; rfl
  · by_cases g2 : 57 < x
    · rw [if_neg g1, if_pos g2, bz_f (by unfold dgt; omega)]; rfl
    · rw [if_neg g1, if_neg g2, bz_t (by unfold dgt; omega)]; rfl
theorem cLetL (ht : TxO T n) : ∀ (r f p : Nat) (M : am_M), RdC T n M → rI M 6 7 = iz (p : Int) → p ≤ n → n - p ≤ r → r < f → ∃ M', F_Read_advance_L112 f 6 M = some (none, M') ∧ Fr (fun b j => b = 6 ∧ j = 7) M M' ∧ rI M' 6 7 = iz (stop ltr T n p : Int)
  | r, 0, p, M, h, hp, h1, h2, h3 => by omega
  | r, f + 1, p, M, h, hp, h1, h2, h3 => by
    have h500 := ht.1
    have hb := bt_bd ht p
    rw [F_Read_advance_L112, fI_eq (kd_6 h.1), hp, fI_eq (kd_6 h.1), h.2.2.1, ifE (by omega) (by omega) (by omega) (by omega)]
    by_cases g : p < n
    · rw [if_neg (by omega), fI_eq (kd_6 h.1), hp, cv_eq (kd_6 h.1), cBy ht h (by omega), bI_eq, cLet hb.1 hb.2, bI_eq, bz_if0]
      have e : bt T n p = T p := if_pos g
      rw [e]
      by_cases g2 : ltr (T p)
      · rw [if_pos g2, fI_eq (kd_6 h.1), hp, sI_eq (kd_6 h.1), show (1 : Int32) = iz 1 from rfl, iz_add]
        have f1 : Fr (fun b j => b = 6 ∧ j = 7) M (wI M 6 7 (iz ((p : Int) + 1))) := Fr.wI ⟨rfl, rfl⟩
        match r with
        | 0 => omega
        | r + 1 =>
          obtain ⟨M', e1, f2, e2⟩ := cLetL ht r f (p + 1) _ (h.fr f1 (fun b j q => by omega)) (by rw [rI_at rfl rfl]; rfl) (by omega) (by omega) (by omega)
          exact ⟨M', e1, f1.trans f2, by rw [e2, stop_in g g2]⟩
      · rw [if_neg g2]
        exact ⟨M, rfl, Fr.refl M, by rw [stop_out (fun q => g2 q.2)]; exact hp⟩
    · rw [if_pos (by omega)]
      exact ⟨M, rfl, Fr.refl M, by rw [stop_out (fun q => g q.1)]; exact hp⟩
theorem cDigL (ht : TxO T n) : ∀ (r f p : Nat) (a : Int) (M : am_M), RdC T n M → rI M 6 7 = iz (p : Int) → rI M 6 8 = iz (min 100000000 a) → 0 ≤ a → p ≤ n → n - p ≤ r → r < f → ∃ M', F_Read_advance_L170 f 6 M = some (none, M') ∧ Fr (fun b j => b = 6 ∧ 7 ≤ j) M M' ∧ rI M' 6 7 = iz (stop dgt T n p : Int) ∧ rI M' 6 8 = iz (min 100000000 (dgv T n p a))
  | r, 0, p, a, M, h, hp, ha, a0, h1, h2, h3 => by omega
  | r, f + 1, p, a, M, h, hp, ha, a0, h1, h2, h3 => by
    have h500 := ht.1
    have hb := bt_bd ht p
    rw [F_Read_advance_L170, fI_eq (kd_6 h.1), hp, fI_eq (kd_6 h.1), h.2.2.1, ifE (by omega) (by omega) (by omega) (by omega)]
    by_cases g : p < n
    · have e : bt T n p = T p := if_pos g
      rw [if_neg (by omega), fI_eq (kd_6 h.1), hp, cv_eq (kd_6 h.1), cBy ht h (by omega), bI_eq, cDig hb.1 hb.2, bI_eq, bz_if0, e]
      by_cases g2 : dgt (T p)
      · have g3 : 48 ≤ T p ∧ T p ≤ 57 := g2
        rw [if_pos g2, fI_eq (kd_6 h.1), ha, fI_eq (kd_6 h.1), hp, cv_eq (kd_6 h.1), cBy ht h (by omega), bI_eq, e, show (10 : Int32) = iz 10 from rfl, iz_mul, iz_add, show (48 : Int32) = iz 48 from rfl, iz_sub, show (100000000 : Int32) = iz 100000000 from rfl, min_eq (by omega) (by omega) (by omega) (by omega), bI_eq, sI_eq (kd_6 h.1)]
        have f1 : Fr (fun b j => b = 6 ∧ 7 ≤ j) M (wI M 6 8 (iz (min 100000000 (min 100000000 a * 10 + T p - 48)))) := Fr.wI ⟨rfl, by omega⟩
        have s1 := h.1.fr f1
        rw [fI_eq (kd_6 s1), rI_ne (by omega), hp, sI_eq (kd_6 s1), show (1 : Int32) = iz 1 from rfl, iz_add]
        have f2 := f1.trans (Fr.wI (k := 7) (v := iz ((p : Int) + 1)) (show (6 = 6 ∧ 7 ≤ 7) from ⟨rfl, by omega⟩))
        match r with
        | 0 => omega
        | r + 1 =>
          obtain ⟨M', e1, f3, e2, e3⟩ := cDigL ht r f (p + 1) (10 * a + T p - 48) _ (h.fr f2 (fun b j q => by omega)) (by rw [rI_at rfl rfl]; rfl) (by rw [rI_ne (by omega), rI_at rfl rfl]; congr 1; omega) (by omega) (by omega) (by omega) (by omega)
          exact ⟨M', e1, f2.trans f3, by rw [e2, stop_in g g2], by rw [e3, dgv_in g g2]⟩
      · rw [if_neg g2]
        exact ⟨M, rfl, Fr.refl M, by rw [stop_out (fun q => g2 q.2)]; exact hp, by rw [dgv_out (fun q => g2 q.2)]; exact ha⟩
    · rw [if_pos (by omega)]
      exact ⟨M, rfl, Fr.refl M, by rw [stop_out (fun q => g q.1)]; exact hp, by rw [dgv_out (fun q => g q.1)]; exact ha⟩
theorem cSkip (ht : TxO T n) : ∀ (r f p : Nat) (M : am_M), RdC T n M → rI M 6 6 = iz (p : Int) → p ≤ n → n - p ≤ r → r < f → ∃ M', F_Read_advance_L8 f 6 M = F_Read_advance_L58 6 M' ∧ Fr (fun b j => b = 6 ∧ j = 6) M M' ∧ rI M' 6 6 = iz (sk T n p : Int)
  | r, 0, p, M, h, hp, h1, h2, h3 => by omega
  | r, f + 1, p, M, h, hp, h1, h2, h3 => by
    have h500 := ht.1
    have hb := bt_bd ht p
    rw [F_Read_advance_L8, fI_eq (kd_6 h.1), hp, fI_eq (kd_6 h.1), h.2.2.1, ifE (by omega) (by omega) (by omega) (by omega)]
    by_cases g : p < n
    · have e : bt T n p = T p := if_pos g
      have stp : wsp (T p) → ∃ M', F_Read_advance_L45 (F_Read_advance_L8 f) 6 M = F_Read_advance_L58 6 M' ∧ Fr (fun b j => b = 6 ∧ j = 6) M M' ∧ rI M' 6 6 = iz (sk T n p : Int) := fun g2 => by
        unfold F_Read_advance_L45
        rw [fI_eq (kd_6 h.1), hp, sI_eq (kd_6 h.1), show (1 : Int32) = iz 1 from rfl, iz_add]
        have f1 : Fr (fun b j => b = 6 ∧ j = 6) M (wI M 6 6 (iz ((p : Int) + 1))) := Fr.wI ⟨rfl, rfl⟩
        match r with
        | 0 => omega
        | r + 1 =>
          obtain ⟨M', e1, f2, e2⟩ := cSkip ht r f (p + 1) _ (h.fr f1 (fun b j q => by omega)) (by rw [rI_at rfl rfl]; rfl) (by omega) (by omega) (by omega)
          exact ⟨M', e1, f1.trans f2, by rw [e2]; unfold sk; rw [stop_in g g2]⟩
      rw [if_neg (by omega), fI_eq (kd_6 h.1), hp, cv_eq (kd_6 h.1), cBy ht h (by omega), bI_eq, e, show (32 : Int32) = iz 32 from rfl, ifQ (by omega) (by omega) (by omega) (by omega), show (10 : Int32) = iz 10 from rfl]
      by_cases g2 : T p = 32
      · rw [if_pos g2]; exact stp (Or.inl g2)
      · rw [if_neg g2, fI_eq (kd_6 h.1), hp, cv_eq (kd_6 h.1), cBy ht h (by omega), bI_eq, e, ifQ (by omega) (by omega) (by omega) (by omega)]
        by_cases g3 : T p = 10
        · rw [if_pos g3]; exact stp (Or.inr g3)
        · rw [if_neg g3]
          exact ⟨M, rfl, Fr.refl M, by unfold sk; rw [stop_out (fun q => by have := q.2; unfold wsp at this; omega)]; exact hp⟩
    · rw [if_pos (by omega)]
      exact ⟨M, rfl, Fr.refl M, by unfold sk; rw [stop_out (fun q => g q.1)]; exact hp⟩
theorem cTok (ht : TxO T n) (h : RdC T n M) {s : Nat} (hs : s ≤ n) (h6 : rI M 6 6 = iz (s : Int)) : ∃ M', F_Read_advance_L58 6 M = some (none, M') ∧ Fr A6 M M' ∧ RcL T n M' s := by
  have h500 := ht.1
  have fg := fu_ge
  have hb := bt_bd ht s
  have fa : Fr A6 M (wI (wI M 6 7 (iz (s : Int))) 6 8 (iz (bt T n s))) := (Fr.wI ⟨rfl, by omega⟩).trans (Fr.wI ⟨rfl, by omega⟩)
  have hx1 : RdC T n (wI M 6 7 (iz (s : Int))) := h.f6 (Fr.wI ⟨rfl, by omega⟩)
  have hx2 := h.f6 fa
  have z6 : rI (wI (wI M 6 7 (iz (s : Int))) 6 8 (iz (bt T n s))) 6 6 = iz (s : Int) := by rw [rI_ne (by omega), rI_ne (by omega)]; exact h6
  have z7 : rI (wI (wI M 6 7 (iz (s : Int))) 6 8 (iz (bt T n s))) 6 7 = iz (s : Int) := by rw [rI_ne (by omega), rI_at rfl rfl]
  have z8 : rI (wI (wI M 6 7 (iz (s : Int))) 6 8 (iz (bt T n s))) 6 8 = iz (bt T n s) := by rw [rI_at rfl rfl]
  unfold F_Read_advance_L58
  rw [fI_eq (kd_6 h.1), h6, sI_eq (kd_6 h.1), fI_eq (kd_6 hx1.1), rI_ne (by omega), h6, cv_eq (kd_6 hx1.1), cBy ht hx1 (by omega), bI_eq, sI_eq (kd_6 hx1.1)]
  generalize wI (wI M 6 7 (iz (s : Int))) 6 8 (iz (bt T n s)) = M1 at fa hx2 z6 z7 z8 ⊢
  rw [fI_eq (kd_6 hx2.1), z6, fI_eq (kd_6 hx2.1), hx2.2.2.1, ifL (by omega) (by omega) (by omega) (by omega), fI_eq (kd_6 hx2.1), z8, cLet hb.1 hb.2, bI_eq, bz_if0, fI_eq (kd_6 hx2.1), z8, cDig hb.1 hb.2, bI_eq, bz_if0]
  by_cases g : s < n
  · have e : bt T n s = T s := if_pos g
    rw [if_pos (by omega), e]
    by_cases g1 : ltr (T s)
    · have et : tk T n s = 1 := by unfold tk; rw [if_pos g, if_pos g1]
      have eb : be T n s = stop ltr T n s := by unfold be; rw [if_pos g, if_pos g1]
      have f1 : Fr A6 M1 (wI M1 6 5 1) := Fr.wI ⟨rfl, by omega⟩
      obtain ⟨M', e1, f2, e2⟩ := cLetL ht n fu s _ (hx2.f6 f1) (by rw [rI_ne (by omega)]; exact z7) hs (by omega) (by omega)
      have f2' : Fr A6 _ M' := f2.mono (fun b j q => ⟨q.1, by omega⟩)
      rw [if_pos g1, sI_eq (kd_6 hx2.1), e1]
      refine ⟨M', rfl, fa.trans (f1.trans f2'), ?_, ?_, ?_, fun q => by omega, fun q => by omega⟩
      · rw [f2.ri (by omega), rI_at rfl rfl, et]; rfl
      · rw [f2.ri (by omega), rI_ne (by omega), z6]
      · rw [e2, eb]
    · rw [if_neg g1]
      by_cases g2 : dgt (T s)
      · have et : tk T n s = 2 := by unfold tk; rw [if_pos g, if_neg g1, if_pos g2]
        have eb : be T n s = stop dgt T n s := by unfold be; rw [if_pos g, if_neg g1, if_pos g2]
        have f1 : Fr A6 M1 (wI (wI M1 6 5 2) 6 8 0) := (Fr.wI ⟨rfl, by omega⟩).trans (Fr.wI ⟨rfl, by omega⟩)
        obtain ⟨M', e1, f2, e2, e3⟩ := cDigL ht n fu s 0 _ (hx2.f6 f1) (by rw [rI_ne (by omega), rI_ne (by omega)]; exact z7) (by rw [rI_at rfl rfl]; rfl) (Int.le_refl _) hs (by omega) (by omega)
        have f2' : Fr A6 _ M' := f2.mono (fun b j q => ⟨q.1, by omega⟩)
        rw [if_pos g2, sI_eq (kd_6 hx2.1), sI_eq (kd_6 hx2.1.wI), e1]
        refine ⟨M', rfl, fa.trans (f1.trans f2'), ?_, ?_, ?_, fun _ => e3, fun q => by omega⟩
        · rw [f2.ri (by omega), rI_ne (by omega), rI_at rfl rfl, et]; rfl
        · rw [f2.ri (by omega), rI_ne (by omega), rI_ne (by omega), z6]
        · rw [e2, eb]
      · have et : tk T n s = 3 := by unfold tk; rw [if_pos g, if_neg g1, if_neg g2]
        have eb : be T n s = s + 1 := by unfold be; rw [if_pos g, if_neg g1, if_neg g2]
        rw [if_neg g2, sI_eq (kd_6 hx2.1), fI_eq (kd_6 hx2.1.wI), rI_ne (by omega), z7, sI_eq (kd_6 hx2.1.wI), show (1 : Int32) = iz 1 from rfl, iz_add]
        refine ⟨_, rfl, fa.trans ((Fr.wI ⟨rfl, by omega⟩).trans (Fr.wI ⟨rfl, by omega⟩)), ?_, ?_, ?_, fun q => by omega, fun _ => ?_⟩
        · rw [rI_ne (by omega), rI_at rfl rfl, et]; rfl
        · rw [rI_ne (by omega), rI_ne (by omega), z6]
        · rw [rI_at rfl rfl, eb]; rfl
        · rw [rI_ne (by omega), rI_ne (by omega), z8, e]
  · have et : tk T n s = 0 := by unfold tk; rw [if_neg g]
    have eb : be T n s = s := by unfold be; rw [if_neg g]
    rw [if_neg (by omega), sI_eq (kd_6 hx2.1)]
    refine ⟨_, rfl, fa.trans (Fr.wI ⟨rfl, by omega⟩), ?_, ?_, ?_, fun q => by omega, fun q => by omega⟩
    · rw [rI_at rfl rfl, et]; rfl
    · rw [rI_ne (by omega), z6]
    · rw [rI_ne (by omega), z7, eb]
theorem cAdv' (ht : TxO T n) (h : RdC T n M) {p : Nat} (hp : p ≤ n) (h7 : rI M 6 7 = iz (p : Int)) : ∃ M', F_Read_advance 6 M = some (none, M') ∧ Fr A6 M M' ∧ RcL T n M' (sk T n p) := by
  have h500 := ht.1
  have fg := fu_ge
  unfold F_Read_advance
  rw [fI_eq (kd_6 h.1), h7, sI_eq (kd_6 h.1)]
  have f1 : Fr A6 M (wI M 6 6 (iz (p : Int))) := Fr.wI ⟨rfl, by omega⟩
  obtain ⟨M1, e1, f2, e2⟩ := cSkip ht n fu p _ (h.f6 f1) (by rw [rI_at rfl rfl]) hp (by omega) (by omega)
  have f2' : Fr A6 _ M1 := f2.mono (fun b j q => ⟨q.1, by omega⟩)
  obtain ⟨M2, e3, f3, e4⟩ := cTok ht ((h.f6 f1).f6 f2') (stop_le hp).2 e2
  exact ⟨M2, by rw [e1, e3], f1.trans (f2'.trans f3), e4⟩
theorem cAdv (ht : TxO T n) (h : RdC T n M) {s : Nat} (hs : s ≤ n) (hl : RcL T n M s) : ∃ M', F_Read_advance 6 M = some (none, M') ∧ Fr A6 M M' ∧ RcL T n M' (nx T n s) := cAdv' ht h (be_le s hs).2 hl.2.2.1
end Lex3
