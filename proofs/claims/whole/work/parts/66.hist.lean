/-! ===== the history on both sides ===== -/
theorem Fr.cpI {A : Nat → Nat → Prop} {M : am_M} {a0 sp a1 dp n : Nat} (h : ∀ j, A a1 j) : Fr A M (cpI M a0 sp a1 dp n) := ⟨rfl, rfl, fun _ => rfl, fun _ _ => rfl, fun b j hb => ⟨by rw [rI_cpI, if_neg (fun q => hb (by rw [q.1]; exact h j))], rfl⟩⟩
theorem cpy_eq {M : am_M} {a0 a1 : Nat} {sp dp n : Int} {l0 l1 : Nat} {f : am_M → am_R} (k0 : mKd M a0 = 0) (k1 : mKd M a1 = 0) (e0 : mLn M a0 = l0) (e1 : mLn M a1 = l1) (h1 : 0 ≤ sp) (h2 : 0 ≤ dp) (h3 : 0 ≤ n) (h4 : sp + n ≤ l0) (h5 : dp + n ≤ l1) (h6 : (l0 : Int) < 2147483648) (h7 : (l1 : Int) < 2147483648) : cpy M a0 (iz sp) a1 (iz dp) (iz n) f = f (cpI M a0 sp.toNat a1 dp.toNat n.toNat) := by
  unfold cpy
  have z : (0 : Int32) = iz 0 := rfl
  rw [iz_clamp h1 (by omega), iz_clamp h2 (by omega), iz_clamp h3 (by omega), z]
  rw [if_pos]
  refine ⟨⟨k0, k1⟩, ⟨?_, ?_, ?_⟩, by rw [e0]; omega, by rw [e1]; omega⟩
  · rw [iz_lt (by omega) (by omega) (by omega) (by omega)]; omega
  · rw [iz_lt (by omega) (by omega) (by omega) (by omega)]; omega
  · rw [iz_lt (by omega) (by omega) (by omega) (by omega)]; omega
def AHc (b j : Nat) : Prop := 12 ≤ b ∧ b ≤ 15
def AHm (b j : Nat) : Prop := b = 78 ∨ b = 79 ∨ (b = 70 ∧ j = 24)
def shf (n : Nat) : Nat := if n = 10 then 1 else 0
section Hist
variable {M : am_M}
theorem cRem60 (h : SH M) {n : Nat} (hn : n ≤ 9) (e : rI M 12 3 = iz (n : Int)) (a w v : Int32) : F_Hist_remember_L60 12 a w v M = some (none, wI (wI (wI (wI M 13 n a) 14 n w) 15 n v) 12 3 (iz (n + 1))) := by
  have h1 : SH (wI M 13 n a) := h.wI
  have h2 : SH (wI (wI M 13 n a) 14 n w) := h1.wI
  have h3 : SH (wI (wI (wI M 13 n a) 14 n w) 15 n v) := h2.wI
  unfold F_Hist_remember_L60
  rw [fR_eq (kd_12 h) (rr_12_0 h), fI_eq (kd_12 h), e, tI_eq (kd_13 h) (ln_13 h) (by omega) (by omega) (by omega), Int.toNat_natCast, fR_eq (kd_12 h1) (rr_12_1 h1), fI_eq (kd_12 h1), rI_ne (by omega), e, tI_eq (kd_14 h1) (ln_14 h1) (by omega) (by omega) (by omega), Int.toNat_natCast, fR_eq (kd_12 h2) (rr_12_2 h2), fI_eq (kd_12 h2), rI_ne (by omega), rI_ne (by omega), e, tI_eq (kd_15 h2) (ln_15 h2) (by omega) (by omega) (by omega), Int.toNat_natCast, fI_eq (kd_12 h3), rI_ne (by omega), rI_ne (by omega), rI_ne (by omega), e, show (1 : Int32) = iz 1 from rfl, iz_add, sI_eq (kd_12 h3)]
theorem cRem (h : SH M) {n : Nat} (hn : n ≤ 10) (e : rI M 12 3 = iz (n : Int)) (a w v : Int32) : ∃ M', F_Hist_remember 12 a w v M = some (none, M') ∧ Fr AHc M M' ∧ rI M' 12 3 = iz ((n - shf n + 1 : Nat) : Int) ∧ (∀ b i, 13 ≤ b → b ≤ 15 → i < n - shf n → rI M' b i = rI M b (i + shf n)) ∧ rI M' 13 (n - shf n) = a ∧ rI M' 14 (n - shf n) = w ∧ rI M' 15 (n - shf n) = v := by
  have fin : ∀ (M0 : am_M) (m : Nat), Fr AHc M0 (wI (wI (wI (wI M0 13 m a) 14 m w) 15 m v) 12 3 (iz (m + 1))) := fun M0 m => (((Fr.wI (show AHc 13 _ by unfold AHc; omega)).trans (Fr.wI (show AHc 14 _ by unfold AHc; omega))).trans (Fr.wI (show AHc 15 _ by unfold AHc; omega))).trans (Fr.wI (show AHc 12 _ by unfold AHc; omega))
  by_cases g : n = 10
  · have sh : shf n = 1 := by unfold shf; rw [if_pos g]
    have f1 : Fr AHc M (cpI M 13 1 13 0 9) := Fr.cpI (fun j => by unfold AHc; omega)
    have h1 := h.fr f1
    have f2 := f1.trans (Fr.cpI (a0 := 14) (sp := 1) (a1 := 14) (dp := 0) (n := 9) (fun j => show AHc 14 j by unfold AHc; omega))
    have h2 := h.fr f2
    have f3 := f2.trans (Fr.cpI (a0 := 15) (sp := 1) (a1 := 15) (dp := 0) (n := 9) (fun j => show AHc 15 j by unfold AHc; omega))
    have h3 := h.fr f3
    have f4 := f3.trans (Fr.wI (k := 3) (v := iz 9) (show AHc 12 _ by unfold AHc; omega))
    have h4 := h.fr f4
    generalize hM3 : cpI (cpI (cpI M 13 1 13 0 9) 14 1 14 0 9) 15 1 15 0 9 = M3 at *
    have r3 : ∀ b i, 13 ≤ b → b ≤ 15 → i < 9 → rI M3 b i = rI M b (i + 1) := fun b i q1 q2 q3 => by
      rw [← hM3]
      rcases (show b = 13 ∨ b = 14 ∨ b = 15 by omega) with rfl | rfl | rfl
      · rw [rI_cpI, if_neg (by omega), rI_cpI, if_neg (by omega), rI_cpI, if_pos (by omega)]; congr 1; omega
      · rw [rI_cpI, if_neg (by omega), rI_cpI, if_pos (by omega), rI_cpI, if_neg (by omega)]; congr 1; omega
      · rw [rI_cpI, if_pos (by omega), rI_cpI, if_neg (by omega), rI_cpI, if_neg (by omega)]; congr 1; omega
    have e9 : rI (wI M3 12 3 (iz 9)) 12 3 = iz ((9 : Nat) : Int) := rI_at rfl rfl
    refine ⟨_, ?_, f4.trans (fin _ 9), ?_, ?_, ?_, ?_, ?_⟩
    · unfold F_Hist_remember
      rw [fI_eq (kd_12 h), e, show (10 : Int32) = iz 10 from rfl, ifL (by omega) (by omega) (by omega) (by omega), if_neg (by omega), fR_eq (kd_12 h) (rr_12_0 h), show (1 : Int32) = iz 1 from rfl, show (0 : Int32) = iz 0 from rfl, show (9 : Int32) = iz 9 from rfl, fR_eq (kd_12 h) (rr_12_0 h), cpy_eq (kd_13 h) (kd_13 h) (ln_13 h) (ln_13 h) (by omega) (by omega) (by omega) (by omega) (by omega) (by omega) (by omega), show Int.toNat 1 = 1 from rfl, show Int.toNat 0 = 0 from rfl, show Int.toNat 9 = 9 from rfl, fR_eq (kd_12 h1) (rr_12_1 h1), fR_eq (kd_12 h1) (rr_12_1 h1), cpy_eq (kd_14 h1) (kd_14 h1) (ln_14 h1) (ln_14 h1) (by omega) (by omega) (by omega) (by omega) (by omega) (by omega) (by omega), show Int.toNat 1 = 1 from rfl, show Int.toNat 0 = 0 from rfl, show Int.toNat 9 = 9 from rfl, fR_eq (kd_12 h2) (rr_12_2 h2), fR_eq (kd_12 h2) (rr_12_2 h2), cpy_eq (kd_15 h2) (kd_15 h2) (ln_15 h2) (ln_15 h2) (by omega) (by omega) (by omega) (by omega) (by omega) (by omega) (by omega), show Int.toNat 1 = 1 from rfl, show Int.toNat 0 = 0 from rfl, show Int.toNat 9 = 9 from rfl, hM3, sI_eq (kd_12 h3), cRem60 h4 (n := 9) (by omega) e9]
    · rw [rI_at rfl rfl, sh, g]; rfl
    · intro b i q1 q2 q3
      rw [sh, g] at q3
      rw [rI_ne (by omega), rI_ne (by omega), rI_ne (by omega), rI_ne (by omega), rI_ne (by omega), r3 b i q1 q2 (by omega), sh]
    · rw [sh, g]; simp (disch := omega) only [rI_ne, rI_at]
    · rw [sh, g]; simp (disch := omega) only [rI_ne, rI_at]
    · rw [sh, g]; simp (disch := omega) only [rI_ne, rI_at]
  · have sh : shf n = 0 := by unfold shf; rw [if_neg g]
    refine ⟨_, ?_, fin M n, ?_, ?_, ?_, ?_, ?_⟩
    · unfold F_Hist_remember
      rw [fI_eq (kd_12 h), e, show (10 : Int32) = iz 10 from rfl, ifL (by omega) (by omega) (by omega) (by omega), if_pos (by omega), cRem60 h (by omega) e]
    · rw [rI_at rfl rfl, sh]; rfl
    · intro b i q1 q2 q3
      rw [sh] at q3
      rw [rI_ne (by omega), rI_ne (by omega), rI_ne (by omega), rI_ne (by omega), sh]; rfl
    · rw [sh]; simp (disch := omega) only [rI_ne, rI_at]
    · rw [sh]; simp (disch := omega) only [rI_ne, rI_at]
    · rw [sh]; simp (disch := omega) only [rI_ne, rI_at]
theorem mKeep61 (h : SH M) {n : Nat} (hn : n ≤ 9) (e : rI M 70 24 = iz (n : Int)) (a v : Int32) : F_Md_keeps_L61 70 a v M = some (none, wI (wI (wI M 78 n a) 79 n v) 70 24 (iz (n + 1))) := by
  have h1 : SH (wI M 78 n a) := h.wI
  have h2 : SH (wI (wI M 78 n a) 79 n v) := h1.wI
  unfold F_Md_keeps_L61
  rw [fR_eq (kd_70 h) (rr_70_25 h), fI_eq (kd_70 h), e, tI_eq (kd_78 h) (ln_78 h) (by omega) (by omega) (by omega), Int.toNat_natCast, fR_eq (kd_70 h1) (rr_70_26 h1), fI_eq (kd_70 h1), rI_ne (by omega), e, tI_eq (kd_79 h1) (ln_79 h1) (by omega) (by omega) (by omega), Int.toNat_natCast, fI_eq (kd_70 h2), rI_ne (by omega), rI_ne (by omega), e, show (1 : Int32) = iz 1 from rfl, iz_add, sI_eq (kd_70 h2)]
theorem mKeep11 (a v : Int32) : ∀ (d n : Nat) (M : am_M) (j : Nat), SH M → 1 ≤ j → j + d = 10 → d < n → ∃ M' n', F_Md_keeps_L11 n 70 a v (iz (j : Int)) M = F_Md_keeps_L11 (n' + 1) 70 a v (iz 10) M' ∧ Fr AHm M M' ∧ rI M' 70 24 = rI M 70 24 ∧ ∀ b i, (b = 78 ∨ b = 79) → rI M' b i = if j - 1 ≤ i ∧ i < 9 then rI M b (i + 1) else rI M b i
  | d, 0, M, j, h, h1, h2, h3 => by omega
  | 0, n + 1, M, j, h, h1, h2, h3 => ⟨M, n, by rw [show j = 10 by omega]; rfl, Fr.refl _, rfl, fun b i _ => by rw [if_neg (by omega)]⟩
  | d + 1, n + 1, M, j, h, h1, h2, h3 => by
    have f1 : Fr AHm M (wI M 78 (j - 1) (rI M 78 j)) := Fr.wI (Or.inl rfl)
    have hS1 := h.fr f1
    have f2 := f1.trans (Fr.wI (k := j - 1) (v := rI M 79 j) (show AHm 79 _ from Or.inr (Or.inl rfl)))
    have hS2 := h.fr f2
    obtain ⟨M', n', u1, u2, u3, u4⟩ := mKeep11 a v d n _ (j + 1) hS2 (by omega) (by omega) (by omega)
    refine ⟨M', n', ?_, f2.trans u2, ?_, fun b i hb => ?_⟩
    · rw [← u1, F_Md_keeps_L11, show (10 : Int32) = iz 10 from rfl, ifE (by omega) (by omega) (by omega) (by omega), if_neg (by omega), fR_eq (kd_70 h) (rr_70_25 h), fR_eq (kd_70 h) (rr_70_25 h), aI_eq (kd_78 h) (ln_78 h) (by omega) (by omega) (by omega), show (1 : Int32) = iz 1 from rfl, iz_sub, tI_eq (kd_78 h) (ln_78 h) (by omega) (by omega) (by omega), Int.toNat_natCast, show ((j : Int) - 1).toNat = j - 1 by omega, fR_eq (kd_70 hS1) (rr_70_26 hS1), fR_eq (kd_70 hS1) (rr_70_26 hS1), aI_eq (kd_79 hS1) (ln_79 hS1) (by omega) (by omega) (by omega), tI_eq (kd_79 hS1) (ln_79 hS1) (by omega) (by omega) (by omega), Int.toNat_natCast, show ((j : Int) - 1).toNat = j - 1 by omega, rI_ne (by omega), nm_eq, iz_add]
      rfl
    · rw [u3, rI_ne (by omega), rI_ne (by omega)]
    · rw [u4 b i hb]
      have key : ∀ k, rI (wI (wI M 78 (j - 1) (rI M 78 j)) 79 (j - 1) (rI M 79 j)) b k = if k = j - 1 then rI M b j else rI M b k := fun k => by
        rcases hb with rfl | rfl
        · by_cases z : k = j - 1
          · rw [if_pos z, rI_ne (by omega), rI_at rfl z]
          · rw [if_neg z, rI_ne (by omega), rI_ne (by omega)]
        · by_cases z : k = j - 1
          · rw [if_pos z, rI_at rfl z]
          · rw [if_neg z, rI_ne (by omega), rI_ne (by omega)]
      rw [key, key]
      by_cases z1 : j ≤ i ∧ i < 9
      · rw [if_pos (by omega), if_neg (by omega), if_pos (by omega)]
      · rw [if_neg (by omega)]
        by_cases z2 : i = j - 1
        · rw [if_pos z2, if_pos (by omega), show i + 1 = j by omega]
        · rw [if_neg z2, if_neg (by omega)]
theorem mKeep (h : SH M) {n : Nat} (hn : n ≤ 10) (e : rI M 70 24 = iz (n : Int)) (a v : Int32) : ∃ M', F_Md_keeps 70 a v M = some (none, M') ∧ Fr AHm M M' ∧ rI M' 70 24 = iz ((n - shf n + 1 : Nat) : Int) ∧ (∀ b i, (b = 78 ∨ b = 79) → i < n - shf n → rI M' b i = rI M b (i + shf n)) ∧ rI M' 78 (n - shf n) = a ∧ rI M' 79 (n - shf n) = v := by
  have fin : ∀ (M0 : am_M) (m : Nat), Fr AHm M0 (wI (wI (wI M0 78 m a) 79 m v) 70 24 (iz (m + 1))) := fun M0 m => ((Fr.wI (show AHm 78 _ from Or.inl rfl)).trans (Fr.wI (show AHm 79 _ from Or.inr (Or.inl rfl)))).trans (Fr.wI (show AHm 70 _ from Or.inr (Or.inr ⟨rfl, rfl⟩)))
  by_cases g : n = 10
  · have sh : shf n = 1 := by unfold shf; rw [if_pos g]
    have fg := fu_ge
    obtain ⟨M1, n', u1, u2, u3, u4⟩ := mKeep11 a v 9 fu M 1 h (by omega) (by omega) (by omega)
    have h1 := h.fr u2
    have f2 := u2.trans (Fr.wI (k := 24) (v := iz 9) (show AHm 70 _ from Or.inr (Or.inr ⟨rfl, rfl⟩)))
    have h2 := h.fr f2
    have e9 : rI (wI M1 70 24 (iz 9)) 70 24 = iz ((9 : Nat) : Int) := rI_at rfl rfl
    refine ⟨_, ?_, f2.trans (fin _ 9), ?_, ?_, ?_, ?_⟩
    · unfold F_Md_keeps
      rw [fI_eq (kd_70 h), e, show (10 : Int32) = iz 10 from rfl, ifQ (by omega) (by omega) (by omega) (by omega), if_pos (by omega)]
      refine Eq.trans u1 ?_
      rw [F_Md_keeps_L11, if_pos (by decide), fI_eq (kd_70 h1), u3, e, show (1 : Int32) = iz 1 from rfl, iz_sub, g, sI_eq (kd_70 h1)]
      exact mKeep61 h2 (n := 9) (by omega) e9 a v
    · rw [rI_at rfl rfl, sh, g]; rfl
    · intro b i hb q3
      rw [sh, g] at q3
      rw [rI_ne (by omega), rI_ne (by omega), rI_ne (by omega), rI_ne (by omega), u4 b i hb, if_pos (by omega), sh]
    · rw [sh, g]; simp (disch := omega) only [rI_ne, rI_at]
    · rw [sh, g]; simp (disch := omega) only [rI_ne, rI_at]
  · have sh : shf n = 0 := by unfold shf; rw [if_neg g]
    refine ⟨_, ?_, fin M n, ?_, ?_, ?_, ?_⟩
    · unfold F_Md_keeps
      rw [fI_eq (kd_70 h), e, show (10 : Int32) = iz 10 from rfl, ifQ (by omega) (by omega) (by omega) (by omega), if_neg (by omega), mKeep61 h (by omega) e]
    · rw [rI_at rfl rfl, sh]; rfl
    · intro b i hb q3
      rw [sh] at q3
      rw [rI_ne (by omega), rI_ne (by omega), rI_ne (by omega), sh]; rfl
    · rw [sh]; simp (disch := omega) only [rI_ne, rI_at]
    · rw [sh]; simp (disch := omega) only [rI_ne, rI_at]
end Hist
