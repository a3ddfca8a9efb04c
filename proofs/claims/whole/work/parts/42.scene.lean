/-! ===== scenes: what both sides hold of one ===== -/
/-- the world's cells, kinds, sources, how many kinds, sources, the seed -/
abbrev Sc : Type := (Int → Int) × (Int → Int → Int) × (Int → Int → Int) × Int × Int × Int
def sW (S : Sc) : Int → Int := S.1
def sK (S : Sc) : Int → Int → Int := S.2.1
def sQ (S : Sc) : Int → Int → Int := S.2.2.1
def sNk (S : Sc) : Int := S.2.2.2.1
def sNs (S : Sc) : Int := S.2.2.2.2.1
def sSd (S : Sc) : Int := S.2.2.2.2.2
def gps (S : Sc) (s : Int) : Int := if sQ S s 7 < sQ S s 4 then 0 else (sQ S s 7 - sQ S s 4) / sQ S s 5 + 1
def rts (S : Sc) (s : Int) : Int := gps S s * sQ S s 6
def scK (S : Sc) : Prop := ∀ k, 0 ≤ k → k < sNk S → (1 ≤ sK S k 0 ∧ sK S k 0 ≤ 40) ∧ (0 ≤ sK S k 1 ∧ sK S k 1 ≤ 20) ∧ (0 ≤ sK S k 2 ∧ sK S k 2 ≤ 20) ∧ (-9 ≤ sK S k 3 ∧ sK S k 3 ≤ 9) ∧ (1 ≤ sK S k 4 ∧ sK S k 4 ≤ 9) ∧ (0 ≤ sK S k 5 ∧ sK S k 5 ≤ 2) ∧ ((sK S k 6 = 0 ∧ sK S k 7 = -1) ∨ (1 ≤ sK S k 6 ∧ sK S k 6 ≤ 2 ∧ 0 ≤ sK S k 7 ∧ sK S k 7 < k))
def scQ (S : Sc) : Prop := ∀ s, 0 ≤ s → s < sNs S → (0 ≤ sQ S s 0 ∧ sQ S s 0 < sNk S) ∧ (∀ i, 0 ≤ i → i < 3 → 0 ≤ sQ S s (1 + i) ∧ sQ S s (1 + i) < sW S i) ∧ (0 ≤ sQ S s 4 ∧ sQ S s 4 ≤ 9999) ∧ (1 ≤ sQ S s 5 ∧ sQ S s 5 ≤ 99) ∧ (1 ≤ sQ S s 6 ∧ sQ S s 6 ≤ 5) ∧ (0 ≤ sQ S s 7 ∧ sQ S s 7 ≤ 9999) ∧ (0 ≤ sQ S s 8 ∧ sQ S s 8 ≤ 20) ∧ sQ S s 9 = rts S s
def scOK (S : Sc) : Prop := (∀ i, 0 ≤ i → i < 3 → 1 ≤ sW S i ∧ sW S i ≤ 40) ∧ (0 ≤ sNk S ∧ sNk S ≤ 5) ∧ (0 ≤ sNs S ∧ sNs S ≤ 4) ∧ (0 ≤ sSd S ∧ sSd S ≤ 999999) ∧ scK S ∧ scQ S
/-- the component's scene -/
def CS (M : am_M) (S : Sc) : Prop := (∀ i, 0 ≤ i → i < 3 → rI M 3 i.toNat = iz (sW S i)) ∧ (∀ k f, 0 ≤ k → k < 5 → 0 ≤ f → f < 8 → rI M 4 (k * 8 + f).toNat = iz (sK S k f)) ∧ (∀ s f, 0 ≤ s → s < 4 → 0 ≤ f → f < 10 → rI M 5 (s * 10 + f).toNat = iz (sQ S s f)) ∧ rI M 2 3 = iz (sNk S) ∧ rI M 2 4 = iz (sNs S) ∧ rI M 2 5 = iz (sSd S)
/-- the reference's scene -/
def MS (M : am_M) (S : Sc) : Prop := (∀ i, 0 ≤ i → i < 3 → rI M 71 i.toNat = iz (sW S i)) ∧ (∀ k f, 0 ≤ k → k < sNk S → 0 ≤ f → f < 8 → rI M 72 (8 * k + f).toNat = iz (sK S k f)) ∧ (∀ s f, 0 ≤ s → s < sNs S → 0 ≤ f → f < 9 → rI M 73 (9 * s + f).toNat = iz (sQ S s f)) ∧ rI M 70 4 = iz (sNk S) ∧ rI M 70 6 = iz (sNs S) ∧ rI M 70 3 = iz (sSd S)
theorem CS.fr {A : Nat → Nat → Prop} {M M' : am_M} {S : Sc} (h : CS M S) (hf : Fr A M M') (hA : ∀ b j, A b j → b < 2 ∨ 5 < b) : CS M' S := by
  obtain ⟨h1, h2, h3, h4, h5, h6⟩ := h
  have e : ∀ b j, 2 ≤ b → b ≤ 5 → rI M' b j = rI M b j := fun b j q1 q2 => hf.ri (fun q => by have := hA b j q; omega)
  exact ⟨fun i q1 q2 => by rw [e 3 _ (by omega) (by omega)]; exact h1 i q1 q2, fun k f q1 q2 q3 q4 => by rw [e 4 _ (by omega) (by omega)]; exact h2 k f q1 q2 q3 q4, fun k f q1 q2 q3 q4 => by rw [e 5 _ (by omega) (by omega)]; exact h3 k f q1 q2 q3 q4, by rw [e 2 _ (by omega) (by omega)]; exact h4, by rw [e 2 _ (by omega) (by omega)]; exact h5, by rw [e 2 _ (by omega) (by omega)]; exact h6⟩
theorem MS.fr {A : Nat → Nat → Prop} {M M' : am_M} {S : Sc} (h : MS M S) (hf : Fr A M M') (hA : ∀ b j, A b j → b < 70 ∨ 73 < b ∨ (b = 70 ∧ 8 ≤ j)) : MS M' S := by
  obtain ⟨h1, h2, h3, h4, h5, h6⟩ := h
  have e : ∀ b j, 71 ≤ b → b ≤ 73 → rI M' b j = rI M b j := fun b j q1 q2 => hf.ri (fun q => by have := hA b j q; omega)
  have e6 : ∀ j, j < 8 → rI M' 70 j = rI M 70 j := fun j q1 => hf.ri (fun q => by have := hA 70 j q; omega)
  exact ⟨fun i q1 q2 => by rw [e 71 _ (by omega) (by omega)]; exact h1 i q1 q2, fun k f q1 q2 q3 q4 => by rw [e 72 _ (by omega) (by omega)]; exact h2 k f q1 q2 q3 q4, fun k f q1 q2 q3 q4 => by rw [e 73 _ (by omega) (by omega)]; exact h3 k f q1 q2 q3 q4, by rw [e6 _ (by omega)]; exact h4, by rw [e6 _ (by omega)]; exact h5, by rw [e6 _ (by omega)]; exact h6⟩
/-! rows of a scene at an address -/
def SA (M : am_M) (a : Nat) : Prop := mKd M a = 9 ∧ rR M a 0 = some (a + 1) ∧ rR M a 1 = some (a + 2) ∧ rR M a 2 = some (a + 3) ∧ mKd M (a + 1) = 0 ∧ mLn M (a + 1) = 3 ∧ mKd M (a + 2) = 0 ∧ mLn M (a + 2) = 40 ∧ mKd M (a + 3) = 0 ∧ mLn M (a + 3) = 40
theorem SA_2 {M : am_M} (h : SH M) : SA M 2 := ⟨kd_2 h, rr_2_0 h, rr_2_1 h, rr_2_2 h, kd_3 h, ln_3 h, kd_4 h, ln_4 h, kd_5 h, ln_5 h⟩
theorem SA_7 {M : am_M} (h : SH M) : SA M 7 := ⟨kd_7 h, rr_7_0 h, rr_7_1 h, rr_7_2 h, kd_8 h, ln_8 h, kd_9 h, ln_9 h, kd_10 h, ln_10 h⟩
theorem ofKind_eq {M : am_M} {a : Nat} (h : SA M a) {k w : Int} (h1 : 0 ≤ k) (h2 : k < 5) (h3 : 0 ≤ w) (h4 : w < 8) : F_Scen_ofKind a (iz k) (iz w) M = some (some (.int (rI M (a + 2) (k * 8 + w).toNat)), M) := by
  obtain ⟨q1, q2, q3, q4, q5, q6, q7, q8, q9, q10⟩ := h
  unfold F_Scen_ofKind
  simp (disch := omega) only [iz_lit, iz_neg, iz_add, iz_sub, iz_mul, nm_eq, iz_lt, iz_le, if_neg, fR_eq q1 q3, aN_eq (show mKd M (a + 2) < 4 by omega) q8, aI_eq q7 q8]
theorem ofKind_out {M : am_M} {a : Nat} {k w : Int} (h1 : -100 ≤ k) (h2 : k < 0) (h3 : 0 ≤ w) (h4 : w < 8) : F_Scen_ofKind a (iz k) (iz w) M = some (some (.int (iz 0)), M) := by
  unfold F_Scen_ofKind
  simp (disch := omega) only [iz_lit, iz_neg, iz_add, iz_sub, iz_mul, nm_eq, iz_lt, if_pos]
theorem ofSource_eq {M : am_M} {a : Nat} (h : SA M a) {k w : Int} (h1 : 0 ≤ k) (h2 : k < 4) (h3 : 0 ≤ w) (h4 : w < 10) : F_Scen_ofSource a (iz k) (iz w) M = some (some (.int (rI M (a + 3) (k * 10 + w).toNat)), M) := by
  obtain ⟨q1, q2, q3, q4, q5, q6, q7, q8, q9, q10⟩ := h
  unfold F_Scen_ofSource
  simp (disch := omega) only [iz_lit, iz_neg, iz_add, iz_sub, iz_mul, nm_eq, iz_lt, iz_le, if_neg, fR_eq q1 q4, aN_eq (show mKd M (a + 3) < 4 by omega) q10, aI_eq q9 q10]
theorem setKind_eq {M : am_M} {a : Nat} (h : SA M a) {k w : Int} {v : Int32} (h1 : 0 ≤ k) (h2 : k < 5) (h3 : 0 ≤ w) (h4 : w < 8) : F_Scen_setKind a (iz k) (iz w) v M = some (none, wI M (a + 2) (k * 8 + w).toNat v) := by
  obtain ⟨q1, q2, q3, q4, q5, q6, q7, q8, q9, q10⟩ := h
  unfold F_Scen_setKind
  simp (disch := omega) only [iz_lit, iz_neg, iz_add, iz_sub, iz_mul, nm_eq, iz_lt, iz_le, if_neg, fR_eq q1 q3, aN_eq (show mKd M (a + 2) < 4 by omega) q8, tI_eq q7 q8]
theorem setSource_eq {M : am_M} {a : Nat} (h : SA M a) {k w : Int} {v : Int32} (h1 : 0 ≤ k) (h2 : k < 4) (h3 : 0 ≤ w) (h4 : w < 10) : F_Scen_setSource a (iz k) (iz w) v M = some (none, wI M (a + 3) (k * 10 + w).toNat v) := by
  obtain ⟨q1, q2, q3, q4, q5, q6, q7, q8, q9, q10⟩ := h
  unfold F_Scen_setSource
  simp (disch := omega) only [iz_lit, iz_neg, iz_add, iz_sub, iz_mul, nm_eq, iz_lt, iz_le, if_neg, fR_eq q1 q4, aN_eq (show mKd M (a + 3) < 4 by omega) q10, tI_eq q9 q10]
theorem min_eq {M : am_M} {x y : Int} (h1 : -2147483648 ≤ x) (h2 : x < 2147483648) (h3 : -2147483648 ≤ y) (h4 : y < 2147483648) : F_Math_min (iz x) (iz y) M = some (some (.int (iz (min x y))), M) := by
  unfold F_Math_min
  rcases Int.lt_or_le y x with h | h
  · rw [if_pos ((iz_lt h3 h4 h1 h2).mpr h), Int.min_eq_right (by omega)]
  · rw [if_neg (fun q => by have := (iz_lt h3 h4 h1 h2).mp q; omega), Int.min_eq_left (by omega)]
theorem max_eq {M : am_M} {x y : Int} (h1 : -2147483648 ≤ x) (h2 : x < 2147483648) (h3 : -2147483648 ≤ y) (h4 : y < 2147483648) : F_Math_max (iz x) (iz y) M = some (some (.int (iz (max x y))), M) := by
  unfold F_Math_max
  rcases Int.lt_or_le x y with h | h
  · rw [if_pos ((iz_lt h1 h2 h3 h4).mpr h), Int.max_eq_right (by omega)]
  · rw [if_neg (fun q => by have := (iz_lt h1 h2 h3 h4).mp q; omega), Int.max_eq_left (by omega)]
/-! the component's scene, asked -/
theorem cK {M : am_M} {S : Sc} (h : SH M) (hc : CS M S) {k w : Int} (h1 : 0 ≤ k) (h2 : k < 5) (h3 : 0 ≤ w) (h4 : w < 8) : F_Scen_ofKind 2 (iz k) (iz w) M = some (some (.int (iz (sK S k w))), M) := by
  rw [ofKind_eq (SA_2 h) h1 h2 h3 h4, ← hc.2.1 k w h1 h2 h3 h4]
theorem cQ {M : am_M} {S : Sc} (h : SH M) (hc : CS M S) {k w : Int} (h1 : 0 ≤ k) (h2 : k < 4) (h3 : 0 ≤ w) (h4 : w < 10) : F_Scen_ofSource 2 (iz k) (iz w) M = some (some (.int (iz (sQ S k w))), M) := by
  rw [ofSource_eq (SA_2 h) h1 h2 h3 h4, ← hc.2.2.1 k w h1 h2 h3 h4]
theorem cW {M : am_M} {S : Sc} (h : SH M) (hc : CS M S) {i : Int} (h1 : 0 ≤ i) (h2 : i < 3) : F_Scen_cellsAlong 2 (iz i) M = some (some (.int (iz (sW S i))), M) := by
  unfold F_Scen_cellsAlong
  simp (disch := omega) only [iz_lit, iz_neg, iz_add, iz_sub, iz_mul, nm_eq, iz_lt, iz_le, if_neg, fR_eq (kd_2 h) (rr_2_0 h), aN_eq (show mKd M 3 < 4 by rw [kd_3 h]; decide) (ln_3 h), aI_eq (kd_3 h) (ln_3 h), hc.1 i h1 h2, Int.cast_ofNat_Int]
/-- a truth as a number -/
def bz (P : Prop) [Decidable P] : Int32 := if P then 1 else 0
theorem bz_t {P : Prop} [Decidable P] (h : P) : bz P = iz 1 := by unfold bz; rw [if_pos h]; rfl
theorem bz_f {P : Prop} [Decidable P] (h : ¬ P) : bz P = iz 0 := by unfold bz; rw [if_neg h]; rfl
theorem bz_0 {P : Prop} [Decidable P] : (bz P = iz 0) ↔ ¬ P := by
  by_cases h : P
  · rw [bz_t h]; exact ⟨fun q => absurd q (by decide), fun q => absurd h q⟩
  · rw [bz_f h]; exact ⟨fun _ => h, fun _ => rfl⟩
theorem bz_congr {P Q : Prop} [Decidable P] [Decidable Q] (h : P ↔ Q) : bz P = bz Q := by
  by_cases q : Q
  · rw [bz_t q, bz_t (h.mpr q)]
  · rw [bz_f q, bz_f (fun z => q (h.mp z))]
theorem bz_nar {P : Prop} [Decidable P] : narrow .boolean (.int (bz P)) = .int (bz P) := by
  by_cases h : P
  · rw [bz_t h]; decide
  · rw [bz_f h]; decide
theorem zR_bz {P : Prop} [Decidable P] {r : am_R} : zR .boolean (bz P) r = r := if_pos bz_nar
theorem cIsK {M : am_M} {S : Sc} (h : SH M) (hc : CS M S) (hb : 0 ≤ sNk S ∧ sNk S ≤ 5) {k : Int} (h1 : -2147483648 ≤ k) (h2 : k < 2147483648) : F_Scen_isKind 2 (iz k) M = some (some (.int (bz (0 ≤ k ∧ k < sNk S))), M) := by
  unfold F_Scen_isKind
  simp (disch := omega) only [iz_lit, iz_lt, fI_eq (kd_2 h), hc.2.2.2.1, iz_le]
  by_cases g1 : k < 0
  · rw [if_pos g1, bz_f (by omega)]
  · by_cases g2 : sNk S ≤ k
    · rw [if_neg g1, if_pos g2, bz_f (by omega)]
    · rw [if_neg g1, if_neg g2, bz_t (by omega)]
theorem cIsS {M : am_M} {S : Sc} (h : SH M) (hc : CS M S) (hb : 0 ≤ sNs S ∧ sNs S ≤ 4) {k : Int} (h1 : -2147483648 ≤ k) (h2 : k < 2147483648) : F_Scen_isSource 2 (iz k) M = some (some (.int (bz (0 ≤ k ∧ k < sNs S))), M) := by
  unfold F_Scen_isSource
  simp (disch := omega) only [iz_lit, iz_lt, fI_eq (kd_2 h), hc.2.2.2.2.1, iz_le]
  by_cases g1 : k < 0
  · rw [if_pos g1, bz_f (by omega)]
  · by_cases g2 : sNs S ≤ k
    · rw [if_neg g1, if_pos g2, bz_f (by omega)]
    · rw [if_neg g1, if_neg g2, bz_t (by omega)]
theorem cIsC {M : am_M} {S : Sc} (h : SH M) (hc : CS M S) {i x : Int} (hi : 0 ≤ i) (hi2 : i < 3) (hw : 0 ≤ sW S i ∧ sW S i ≤ 40) (h1 : -2147483648 ≤ x) (h2 : x < 2147483648) : F_Scen_isCell 2 (iz i) (iz x) M = some (some (.int (bz (0 ≤ x ∧ x < sW S i))), M) := by
  unfold F_Scen_isCell
  simp (disch := omega) only [iz_lit, iz_lt, cv_eq (kd_2 h), cW h hc hi hi2, bI_eq, iz_le]
  by_cases g1 : x < 0
  · rw [if_pos g1, bz_f (by omega)]
  · by_cases g2 : sW S i ≤ x
    · rw [if_neg g1, if_pos g2, bz_f (by omega)]
    · rw [if_neg g1, if_neg g2, bz_t (by omega)]
