/-! ===== one spark, told ===== -/
/-- kind, born, ends, where it begins, speed -/
abbrev Sk : Type := Int × Int × Int × (Int → Int) × (Int → Int)
def kKd (p : Sk) : Int := p.1
def kBn (p : Sk) : Int := p.2.1
def kEn (p : Sk) : Int := p.2.2.1
def kBg (p : Sk) : Int → Int := p.2.2.2.1
def kVl (p : Sk) : Int → Int := p.2.2.2.2
def wl (S : Sc) (i : Int) : Int := 8 * sW S i
def raw (S : Sc) (p : Sk) (i a : Int) : Int := kBg p i + a * kVl p i + (if i = 1 then sK S (kKd p) 3 * (a * (a - 1) / 2) else 0)
def plc (S : Sc) (p : Sk) (i a : Int) : Int := if sK S (kKd p) 5 = 0 then raw S p i a % wl S i else if sK S (kKd p) 5 = 2 then raw S p i a else if raw S p i a % (2 * wl S i) < wl S i then raw S p i a % (2 * wl S i) else 2 * wl S i - 1 - raw S p i a % (2 * wl S i)
def inW (S : Sc) (p : Sk) (a i : Int) : Prop := 0 ≤ raw S p i a ∧ raw S p i a ≤ wl S i - 1
def bey (S : Sc) (p : Sk) (a : Int) : Prop := ¬ (inW S p a 0 ∧ inW S p a 1 ∧ inW S p a 2)
noncomputable def beyB (S : Sc) (p : Sk) (a : Int) : Bool := (Classical.propDecidable (bey S p a)).decide
theorem beyB_t {S : Sc} {p : Sk} {a : Int} : beyB S p a = true ↔ bey S p a := by
  unfold beyB
  exact @decide_eq_true_iff _ (Classical.propDecidable _)
/-- the first place from a on, n at most, at which P holds -/
def fstB (P : Int → Bool) : Nat → Int → Int
  | 0, a => a
  | n + 1, a => if P a then a else fstB P n (a + 1)
theorem fstB_le (P : Int → Bool) : ∀ (n : Nat) (a : Int), a ≤ fstB P n a ∧ fstB P n a ≤ a + n
  | 0, a => by unfold fstB; omega
  | n + 1, a => by
    unfold fstB
    have := fstB_le P n (a + 1)
    split <;> omega
theorem fstB_not (P : Int → Bool) : ∀ (n : Nat) (a b : Int), a ≤ b → b < fstB P n a → P b = false
  | 0, a, b, h1, h2 => by unfold fstB at h2; omega
  | n + 1, a, b, h1, h2 => by
    unfold fstB at h2
    split at h2
    · omega
    · rename_i hp
      by_cases hb : a = b
      · subst hb; simpa using hp
      · exact fstB_not P n (a + 1) b (by omega) h2
theorem fstB_at (P : Int → Bool) : ∀ (n : Nat) (a : Int), fstB P n a < a + n → P (fstB P n a) = true
  | 0, a, h => by unfold fstB at h; omega
  | n + 1, a, h => by
    unfold fstB at h ⊢
    split
    · assumption
    · rename_i hp
      rw [if_neg hp] at h
      exact fstB_at P n (a + 1) (by omega)
theorem fstB_uniq (P : Int → Bool) {n : Nat} {a r : Int} (h1 : a ≤ r) (h2 : r ≤ a + n) (h3 : ∀ b, a ≤ b → b < r → P b = false) (h4 : r < a + n → P r = true) : fstB P n a = r := by
  have l := fstB_le P n a
  rcases Int.lt_trichotomy (fstB P n a) r with h | h | h
  · have q1 := fstB_at P n a (by omega)
    have q2 := h3 _ l.1 h
    rw [q1] at q2; cases q2
  · exact h
  · have q1 := fstB_not P n a r h1 h
    have q2 := h4 (by omega)
    rw [q1] at q2; cases q2
/-- one generation: the code, the kind, when, where -/
noncomputable def spd (S : Sc) (c k i : Int) : Int := dr S c (2 + i) (2 * sK S k 2 + 1) - sK S k 2
noncomputable def lif (S : Sc) (c k : Int) : Int := sK S k 0 + dr S c 1 (sK S k 1 + 1)
/-- how long it is there -/
noncomputable def oneL (S : Sc) (c k w : Int) (bg : Int → Int) : Int := if sK S k 5 = 2 then fstB (beyB S (k, w, w, bg, spd S c k)) (lif S c k).toNat 0 else lif S c k
noncomputable def one (S : Sc) (c k w : Int) (bg : Int → Int) : Sk := (k, w, w + oneL S c k w bg, bg, spd S c k)
theorem one_kd (S : Sc) (c k w : Int) (bg : Int → Int) : kKd (one S c k w bg) = k := rfl
theorem one_bn (S : Sc) (c k w : Int) (bg : Int → Int) : kBn (one S c k w bg) = w := rfl
theorem one_en (S : Sc) (c k w : Int) (bg : Int → Int) : kEn (one S c k w bg) = w + oneL S c k w bg := rfl
theorem one_bg (S : Sc) (c k w : Int) (bg : Int → Int) : kBg (one S c k w bg) = bg := rfl
theorem one_vl (S : Sc) (c k w : Int) (bg : Int → Int) : kVl (one S c k w bg) = spd S c k := rfl
noncomputable def bornR (S : Sc) (s k : Int) : Int := sQ S s 4 + k / sQ S s 6 * sQ S s 5 + dr S (256 * (4 * k + s)) 0 (sQ S s 8 + 1)
noncomputable def layR (S : Sc) (s k : Int) : Sk := one S (256 * (4 * k + s)) (sQ S s 0) (bornR S s k) (fun i => 8 * sQ S s (1 + i) + 4)
noncomputable def layC (S : Sc) (p : Sk) (c : Int) : Sk := one S c (sK S (kKd p) 7) (kEn p) (fun i => plc S p i (kEn p - 1 - kBn p))
/-- a spark as it must be -/
def skOK (S : Sc) (p : Sk) : Prop := (0 ≤ kKd p ∧ kKd p < sNk S) ∧ 0 ≤ kBn p ∧ kBn p < kEn p ∧ kEn p ≤ kBn p + 60 ∧ (∀ i, 0 ≤ i → i < 3 → 0 ≤ kBg p i ∧ kBg p i < wl S i) ∧ (∀ i, 0 ≤ i → i < 3 → -20 ≤ kVl p i ∧ kVl p i ≤ 20)
theorem mul_bd {a v A V : Int} (h1 : 0 ≤ a) (h2 : a ≤ A) (h3 : -V ≤ v) (h4 : v ≤ V) (hV : 0 ≤ V) : -(A * V) ≤ a * v ∧ a * v ≤ A * V := by
  have e1 : a * v ≤ a * V := Int.mul_le_mul_of_nonneg_left h4 h1
  have e2 : a * V ≤ A * V := Int.mul_le_mul_of_nonneg_right h2 hV
  have e3 : a * (-V) ≤ a * v := Int.mul_le_mul_of_nonneg_left h3 h1
  rw [Int.mul_neg] at e3
  omega
theorem tri_bd {a : Int} (h1 : 0 ≤ a) (h2 : a ≤ 61) : 0 ≤ a * (a - 1) ∧ a * (a - 1) ≤ 3660 := by
  rcases Int.lt_or_le a 1 with h | h
  · have : a = 0 := by omega
    subst this; decide
  · have := Int.mul_nonneg (a := a) (b := a - 1) (by omega) (by omega)
    have := Int.mul_le_mul (a := a) (b := a - 1) (c := 61) (d := 60) (by omega) (by omega) (by omega) (by omega)
    omega
/-- numbers that every step keeps small -/
theorem raw_bd {S : Sc} (hk : scOK S) {p : Sk} (h0 : 0 ≤ kKd p ∧ kKd p < sNk S) {i a : Int} (h1 : 0 ≤ kBg p i ∧ kBg p i < 320) (h2 : -20 ≤ kVl p i ∧ kVl p i ≤ 20) (ha : 0 ≤ a) (ha2 : a ≤ 61) : -20000 ≤ raw S p i a ∧ raw S p i a ≤ 20000 := by
  have t := tri_bd ha ha2
  have k3 := (hk.2.2.2.2.1 _ h0.1 h0.2).2.2.2.1
  have e1 := mul_bd (a := a) (v := kVl p i) (A := 61) (V := 20) ha ha2 (by omega) (by omega) (by omega)
  have hq : 0 ≤ a * (a - 1) / 2 ∧ a * (a - 1) / 2 ≤ 1830 := by omega
  have e2 := mul_bd (a := a * (a - 1) / 2) (v := sK S (kKd p) 3) (A := 1830) (V := 9) hq.1 hq.2 (by omega) (by omega) (by omega)
  rw [Int.mul_comm (a * (a - 1) / 2)] at e2
  unfold raw
  split <;> omega
theorem wl_bd {S : Sc} (hk : scOK S) {i : Int} (h1 : 0 ≤ i) (h2 : i < 3) : 8 ≤ wl S i ∧ wl S i ≤ 320 := by
  have := hk.1 i h1 h2
  unfold wl
  omega
theorem plc_bd {S : Sc} (hk : scOK S) {p : Sk} {i a : Int} (h1 : 0 ≤ i) (h2 : i < 3) (hb : sK S (kKd p) 5 = 2 → 0 ≤ raw S p i a ∧ raw S p i a < wl S i) : 0 ≤ plc S p i a ∧ plc S p i a < wl S i := by
  have w := wl_bd hk h1 h2
  have a1 := Int.emod_nonneg (raw S p i a) (b := wl S i) (by omega)
  have a2 := Int.emod_lt_of_pos (raw S p i a) (b := wl S i) (by omega)
  have a3 := Int.emod_nonneg (raw S p i a) (b := 2 * wl S i) (by omega)
  have a4 := Int.emod_lt_of_pos (raw S p i a) (b := 2 * wl S i) (by omega)
  unfold plc
  split
  · omega
  · split
    · exact hb (by assumption)
    · split <;> omega
theorem lif_bd {S : Sc} (hk : scOK S) (c : Int) {k : Int} (h1 : 0 ≤ k) (h2 : k < sNk S) : 1 ≤ lif S c k ∧ lif S c k ≤ 60 := by
  obtain ⟨q0, q1, -⟩ := hk.2.2.2.2.1 k h1 h2
  have := dr_bd S c 1 (n := sK S k 1 + 1) (by omega)
  unfold lif
  omega
theorem spd_bd {S : Sc} (hk : scOK S) (c : Int) {k : Int} (h1 : 0 ≤ k) (h2 : k < sNk S) (i : Int) : -20 ≤ spd S c k i ∧ spd S c k i ≤ 20 := by
  obtain ⟨-, -, q2, -⟩ := hk.2.2.2.2.1 k h1 h2
  have := dr_bd S c (2 + i) (n := 2 * sK S k 2 + 1) (by omega)
  unfold spd
  omega
theorem raw_0 (S : Sc) (p : Sk) (i : Int) : raw S p i 0 = kBg p i := by
  unfold raw
  split <;> simp
theorem raw_same (S : Sc) {p q : Sk} (h1 : kKd p = kKd q) (h2 : kBg p = kBg q) (h3 : kVl p = kVl q) (i a : Int) : raw S p i a = raw S q i a := by
  unfold raw
  rw [h1, h2, h3]
theorem oneL_bd {S : Sc} (hk : scOK S) {c k w : Int} {bg : Int → Int} (h1 : 0 ≤ k) (h2 : k < sNk S) (hb : ∀ i, 0 ≤ i → i < 3 → 0 ≤ bg i ∧ bg i < wl S i) : 1 ≤ oneL S c k w bg ∧ oneL S c k w bg ≤ 60 := by
  have l := lif_bd hk c h1 h2
  unfold oneL
  split
  · generalize hp : ((k, w, w, bg, spd S c k) : Sk) = p
    have hbg : kBg p = bg := by rw [← hp]; rfl
    have q := fstB_le (beyB S p) (lif S c k).toNat 0
    have n0 : fstB (beyB S p) (lif S c k).toNat 0 ≠ 0 := by
      intro e
      have t := fstB_at (beyB S p) (lif S c k).toNat 0 (by rw [e]; omega)
      rw [e, beyB_t] at t
      unfold bey inW at t
      rw [raw_0, raw_0, raw_0, hbg] at t
      have := hb 0 (by omega) (by omega)
      have := hb 1 (by omega) (by omega)
      have := hb 2 (by omega) (by omega)
      omega
    omega
  · omega
theorem one_ok {S : Sc} (hk : scOK S) {c k w : Int} {bg : Int → Int} (h1 : 0 ≤ k) (h2 : k < sNk S) (hw : 0 ≤ w) (hb : ∀ i, 0 ≤ i → i < 3 → 0 ≤ bg i ∧ bg i < wl S i) : skOK S (one S c k w bg) := by
  have l := oneL_bd (c := c) (w := w) hk h1 h2 hb
  unfold skOK
  rw [one_kd, one_bn, one_en, one_bg, one_vl]
  exact ⟨⟨h1, h2⟩, hw, by omega, by omega, hb, fun i _ _ => spd_bd hk c h1 h2 i⟩
/-- while it is there it is in the world -/
theorem one_in {S : Sc} {c k w : Int} {bg : Int → Int} {a i : Int} (ha : 0 ≤ a) (ha2 : a < oneL S c k w bg) (h1 : 0 ≤ i) (h2 : i < 3) (h5 : sK S k 5 = 2) : 0 ≤ raw S (one S c k w bg) i a ∧ raw S (one S c k w bg) i a < wl S i := by
  unfold oneL at ha2
  rw [if_pos h5] at ha2
  have r : ∀ i, raw S (one S c k w bg) i a = raw S (k, w, w, bg, spd S c k) i a := fun i => raw_same S rfl rfl rfl i a
  generalize ((k, w, w, bg, spd S c k) : Sk) = p at *
  have q := fstB_not (beyB S p) (lif S c k).toNat 0 a ha ha2
  have nb : ¬ bey S p a := fun z => by rw [beyB_t.mpr z] at q; cases q
  unfold bey at nb
  obtain ⟨z0, z1, z2⟩ := Classical.not_not.mp nb
  rw [r]
  rcases (show i = 0 ∨ i = 1 ∨ i = 2 by omega) with rfl | rfl | rfl
  · unfold inW at z0; omega
  · unfold inW at z1; omega
  · unfold inW at z2; omega
