/-! ===== AM: an abstract memory of numbered cells, the machine's heap as its picture ===== -/
abbrev am_M : Type := Nat × Nat × (Nat → Nat × Nat) × (Nat → Nat → Int32) × (Nat → Nat → Int64) × (Nat → Nat → Option Nat)
abbrev am_R : Type := Option (Option Value × am_M)
def mNx (M : am_M) : Nat := M.1
def mUs (M : am_M) : Nat := M.2.1
def mSh (M : am_M) (a : Nat) : Nat × Nat := M.2.2.1 a
def mKd (M : am_M) (a : Nat) : Nat := if a < mNx M then (mSh M a).1 else 999
def mLn (M : am_M) (a : Nat) : Nat := (mSh M a).2
def rI (M : am_M) (a k : Nat) : Int32 := M.2.2.2.1 a k
def rL (M : am_M) (a k : Nat) : Int64 := M.2.2.2.2.1 a k
def rR (M : am_M) (a k : Nat) : Option Nat := M.2.2.2.2.2 a k
def am_up {α : Type} (f : Nat → Nat → α) (a k : Nat) (v : α) : Nat → Nat → α := fun b j => if b = a ∧ j = k then v else f b j
def wI (M : am_M) (a k : Nat) (v : Int32) : am_M := (M.1, M.2.1, M.2.2.1, am_up M.2.2.2.1 a k v, M.2.2.2.2.1, M.2.2.2.2.2)
def wL (M : am_M) (a k : Nat) (v : Int64) : am_M := (M.1, M.2.1, M.2.2.1, M.2.2.2.1, am_up M.2.2.2.2.1 a k v, M.2.2.2.2.2)
def wR (M : am_M) (a k : Nat) (v : Option Nat) : am_M := (M.1, M.2.1, M.2.2.1, M.2.2.2.1, M.2.2.2.2.1, am_up M.2.2.2.2.2 a k v)
def mkC (M : am_M) (t n : Nat) : am_M := (M.1 + 1, M.2.1 + n, fun b => if b = M.1 then (t, n) else M.2.2.1 b, fun b j => if b = M.1 then 0 else M.2.2.2.1 b j, fun b j => if b = M.1 then 0 else M.2.2.2.2.1 b j, fun b j => if b = M.1 then none else M.2.2.2.2.2 b j)
def cpI (M : am_M) (a0 sp a1 dp n : Nat) : am_M := (M.1, M.2.1, M.2.2.1, fun b => if b = a1 then va_cpy (M.2.2.2.1 a0) (M.2.2.2.1 a1) sp dp n else M.2.2.2.1 b, M.2.2.2.2.1, M.2.2.2.2.2)
/-! reading behind writing -/
theorem rI_wI (M : am_M) (a k : Nat) (v : Int32) (b j : Nat) : rI (wI M a k v) b j = if b = a ∧ j = k then v else rI M b j := rfl
theorem rL_wL (M : am_M) (a k : Nat) (v : Int64) (b j : Nat) : rL (wL M a k v) b j = if b = a ∧ j = k then v else rL M b j := rfl
theorem rR_wR (M : am_M) (a k : Nat) (v : Option Nat) (b j : Nat) : rR (wR M a k v) b j = if b = a ∧ j = k then v else rR M b j := rfl
theorem rL_wI (M : am_M) (a k : Nat) (v : Int32) (b j : Nat) : rL (wI M a k v) b j = rL M b j := rfl
theorem rR_wI (M : am_M) (a k : Nat) (v : Int32) (b j : Nat) : rR (wI M a k v) b j = rR M b j := rfl
theorem rI_wL (M : am_M) (a k : Nat) (v : Int64) (b j : Nat) : rI (wL M a k v) b j = rI M b j := rfl
theorem rR_wL (M : am_M) (a k : Nat) (v : Int64) (b j : Nat) : rR (wL M a k v) b j = rR M b j := rfl
theorem rI_wR (M : am_M) (a k : Nat) (v : Option Nat) (b j : Nat) : rI (wR M a k v) b j = rI M b j := rfl
theorem rL_wR (M : am_M) (a k : Nat) (v : Option Nat) (b j : Nat) : rL (wR M a k v) b j = rL M b j := rfl
theorem mKd_wI (M : am_M) (a k : Nat) (v : Int32) (b : Nat) : mKd (wI M a k v) b = mKd M b := rfl
theorem mKd_wL (M : am_M) (a k : Nat) (v : Int64) (b : Nat) : mKd (wL M a k v) b = mKd M b := rfl
theorem mKd_wR (M : am_M) (a k : Nat) (v : Option Nat) (b : Nat) : mKd (wR M a k v) b = mKd M b := rfl
theorem mLn_wI (M : am_M) (a k : Nat) (v : Int32) (b : Nat) : mLn (wI M a k v) b = mLn M b := rfl
theorem mLn_wL (M : am_M) (a k : Nat) (v : Int64) (b : Nat) : mLn (wL M a k v) b = mLn M b := rfl
theorem mLn_wR (M : am_M) (a k : Nat) (v : Option Nat) (b : Nat) : mLn (wR M a k v) b = mLn M b := rfl
theorem mNx_wI (M : am_M) (a k : Nat) (v : Int32) : mNx (wI M a k v) = mNx M := rfl
theorem mNx_wL (M : am_M) (a k : Nat) (v : Int64) : mNx (wL M a k v) = mNx M := rfl
theorem mNx_wR (M : am_M) (a k : Nat) (v : Option Nat) : mNx (wR M a k v) = mNx M := rfl
theorem mUs_wI (M : am_M) (a k : Nat) (v : Int32) : mUs (wI M a k v) = mUs M := rfl
theorem mUs_wL (M : am_M) (a k : Nat) (v : Int64) : mUs (wL M a k v) = mUs M := rfl
theorem mUs_wR (M : am_M) (a k : Nat) (v : Option Nat) : mUs (wR M a k v) = mUs M := rfl
theorem mNx_mkC (M : am_M) (t n : Nat) : mNx (mkC M t n) = mNx M + 1 := rfl
theorem mUs_mkC (M : am_M) (t n : Nat) : mUs (mkC M t n) = mUs M + n := rfl
theorem rI_mkC (M : am_M) (t n b j : Nat) : rI (mkC M t n) b j = if b = mNx M then 0 else rI M b j := rfl
theorem rL_mkC (M : am_M) (t n b j : Nat) : rL (mkC M t n) b j = if b = mNx M then 0 else rL M b j := rfl
theorem rR_mkC (M : am_M) (t n b j : Nat) : rR (mkC M t n) b j = if b = mNx M then none else rR M b j := rfl
theorem mLn_mkC (M : am_M) (t n b : Nat) : mLn (mkC M t n) b = if b = mNx M then n else mLn M b := by
  unfold mLn mSh mkC mNx
  by_cases h : b = M.1 <;> simp [h]
theorem mKd_mkC (M : am_M) (t n b : Nat) : mKd (mkC M t n) b = if b = mNx M then t else mKd M b := by
  unfold mKd
  rw [mNx_mkC]
  by_cases h : b = mNx M
  · subst h
    simp [mSh, mkC, mNx]
  · by_cases h2 : b < mNx M
    · rw [if_pos (by omega), if_neg h, if_pos h2]
      show (if b = M.1 then (t, n) else M.2.2.1 b).1 = (M.2.2.1 b).1
      rw [if_neg (show ¬ b = M.1 from h)]
    · rw [if_neg (by omega), if_neg h, if_neg h2]
theorem mKd_cpI (M : am_M) (a0 sp a1 dp n b : Nat) : mKd (cpI M a0 sp a1 dp n) b = mKd M b := rfl
theorem mLn_cpI (M : am_M) (a0 sp a1 dp n b : Nat) : mLn (cpI M a0 sp a1 dp n) b = mLn M b := rfl
theorem mNx_cpI (M : am_M) (a0 sp a1 dp n : Nat) : mNx (cpI M a0 sp a1 dp n) = mNx M := rfl
theorem mUs_cpI (M : am_M) (a0 sp a1 dp n : Nat) : mUs (cpI M a0 sp a1 dp n) = mUs M := rfl
theorem rL_cpI (M : am_M) (a0 sp a1 dp n b j : Nat) : rL (cpI M a0 sp a1 dp n) b j = rL M b j := rfl
theorem rR_cpI (M : am_M) (a0 sp a1 dp n b j : Nat) : rR (cpI M a0 sp a1 dp n) b j = rR M b j := rfl
theorem rI_cpI (M : am_M) (a0 sp a1 dp n b j : Nat) : rI (cpI M a0 sp a1 dp n) b j = if b = a1 ∧ dp ≤ j ∧ j < dp + n then rI M a0 (sp + (j - dp)) else rI M b j := by
  unfold rI cpI va_cpy
  by_cases h : b = a1
  · subst h
    by_cases h2 : dp ≤ j ∧ j < dp + n <;> simp [h2]
  · simp [h]
/-! the steps that a walked method is printed in -/
def nm {α β : Type} (x : α) (f : α → β) : β := f x
def fI (M : am_M) (a t k : Nat) (f : Int32 → am_R) : am_R := if mKd M a = t then f (rI M a k) else none
def fL (M : am_M) (a t k : Nat) (f : Int64 → am_R) : am_R := if mKd M a = t then f (rL M a k) else none
def fR (M : am_M) (a t k : Nat) (f : Nat → am_R) : am_R := if mKd M a = t then (match rR M a k with | some b => f b | none => none) else none
def sI (M : am_M) (a t k : Nat) (v : Int32) (f : am_M → am_R) : am_R := if mKd M a = t then f (wI M a k v) else none
def sR (M : am_M) (a t k v : Nat) (f : am_M → am_R) : am_R := if mKd M a = t then f (wR M a k (some v)) else none
def aI (M : am_M) (b : Nat) (i : Int32) (f : Int32 → am_R) : am_R := if mKd M b = 0 ∧ ¬ (i < 0 ∨ mLn M b ≤ i.toNatClampNeg) then f (rI M b i.toNatClampNeg) else none
def aL (M : am_M) (b : Nat) (i : Int32) (f : Int64 → am_R) : am_R := if mKd M b = 1 ∧ ¬ (i < 0 ∨ mLn M b ≤ i.toNatClampNeg) then f (rL M b i.toNatClampNeg) else none
def aB (M : am_M) (b : Nat) (i : Int32) (f : Int32 → am_R) : am_R := if mKd M b = 2 ∧ ¬ (i < 0 ∨ mLn M b ≤ i.toNatClampNeg) then f (rI M b i.toNatClampNeg) else none
def aR (M : am_M) (b : Nat) (i : Int32) (f : Nat → am_R) : am_R := if mKd M b = 3 ∧ ¬ (i < 0 ∨ mLn M b ≤ i.toNatClampNeg) then (match rR M b i.toNatClampNeg with | some x => f x | none => none) else none
def tI (M : am_M) (b : Nat) (i v : Int32) (f : am_M → am_R) : am_R := if mKd M b = 0 ∧ ¬ (i < 0 ∨ mLn M b ≤ i.toNatClampNeg) then f (wI M b i.toNatClampNeg v) else none
def tL (M : am_M) (b : Nat) (i : Int32) (v : Int64) (f : am_M → am_R) : am_R := if mKd M b = 1 ∧ ¬ (i < 0 ∨ mLn M b ≤ i.toNatClampNeg) then f (wL M b i.toNatClampNeg v) else none
def tB (M : am_M) (b : Nat) (i v : Int32) (f : am_M → am_R) : am_R := if mKd M b = 2 ∧ ¬ (i < 0 ∨ mLn M b ≤ i.toNatClampNeg) then f (wI M b i.toNatClampNeg v.toInt8.toInt32) else none
def tR (M : am_M) (b : Nat) (i : Int32) (t v : Nat) (f : am_M → am_R) : am_R := if mKd M b = 3 ∧ mKd M v = t ∧ ¬ (i < 0 ∨ mLn M b ≤ i.toNatClampNeg) then f (wR M b i.toNatClampNeg (some v)) else none
def aN (M : am_M) (b : Nat) (f : Int32 → am_R) : am_R := if mKd M b < 4 then f (Int32.ofNat (mLn M b)) else none
def nO (M : am_M) (t n : Nat) (f : Nat → am_M → am_R) : am_R := f (mNx M) (mkC M t n)
def nA (M : am_M) (t : Nat) (n : Int32) (f : Nat → am_M → am_R) : am_R := if ¬ n < 0 ∧ n.toNatClampNeg * 8 ≤ 536870912 then f (mNx M) (mkC M t n.toNatClampNeg) else none
def dZ (y : Int32) (r : am_R) : am_R := if y = 0 then none else r
def dZL (y : Int64) (r : am_R) : am_R := if y = 0 then none else r
def cv (M : am_M) (b t : Nat) (r : am_R) : am_R := if mKd M b = t then r else none
def bV (x : am_R) (f : am_M → am_R) : am_R := match x with
  | some (none, M) => f M
  | _ => none
def bI (x : am_R) (f : Int32 → am_M → am_R) : am_R := match x with
  | some (some (.int r), M) => f r M
  | _ => none
def bL (x : am_R) (f : Int64 → am_M → am_R) : am_R := match x with
  | some (some (.long r), M) => f r M
  | _ => none
def bR (x : am_R) (fn : am_M → am_R) (f : Nat → am_M → am_R) : am_R := match x with
  | some (some .null, M) => fn M
  | some (some (.ref b), M) => f b M
  | _ => none
/-- fuel of loops: more than any loop here needs; nothing unfolds it -/
noncomputable def fu : Nat := Classical.choose (⟨100000000, Nat.le_refl _⟩ : ∃ n : Nat, 100000000 ≤ n)
theorem fu_ge : 100000000 ≤ fu := Classical.choose_spec (⟨100000000, Nat.le_refl _⟩ : ∃ n : Nat, 100000000 ≤ n)
/-! ===== the classes, by their numbers ===== -/
abbrev am_cl : List vw_C := [(RX0, TX0, 4), (RX1, TX1, 7), (RX2, TX2, 4), (RX3, TX3, 2), (RX4, TX4, 9), (RX5, TX5, 8), (RX6, TX6, 10), (RX7, TX7, 9), (RX8, TX8, 11), (RX9, TX9, 42)]
/-- what a field holds: 0 a number of 32 bits, 1 of 64, 2 a reference -/
def am_fts : Nat → List Nat := fun c => match c with
  | 0 => [2, 2, 2, 2]
  | 1 => [2, 2, 0, 2, 2, 2, 0]
  | 2 => [2, 2, 2, 0]
  | 3 => [2, 0]
  | 4 => [2, 0, 0, 2, 0, 0, 0, 0, 0]
  | 5 => [2, 2, 2, 0, 0, 0, 0, 0]
  | 6 => [2, 2, 2, 0, 0, 0, 0, 0, 0, 0]
  | 7 => [2, 2, 2, 2, 2, 2, 0, 0, 0]
  | 8 => [2, 0, 2, 2, 2, 2, 2, 2, 2, 2, 2]
  | 9 => [0, 0, 2, 0, 0, 2, 0, 2, 2, 0, 0, 2, 0, 2, 2, 0, 0, 0, 0, 0, 0, 0, 0, 0, 0, 2, 2, 0, 0, 0, 2, 2, 2, 2, 0, 2, 2, 2, 2, 0, 2, 0]
  | _ => []
def am_ft (c k : Nat) : Nat := (am_fts c).getD k 0
def am_nf (c : Nat) : Nat := (am_fts c).length
