/-! ===== codes: bits as numbers; the finder ===== -/
theorem iz_bv {c : Int} (h1 : 0 ≤ c) (h2 : c < 2147483648) : (iz c).toBitVec.toNat = c.toNat := by
  unfold iz
  rw [Int32.toBitVec_ofInt, BitVec.toNat_ofInt]
  omega
theorem iz_bits {x : Int32} {c : Int} (h1 : 0 ≤ c) (h2 : c < 2147483648) (h : x.toBitVec.toNat = c.toNat) : x = iz c := by
  apply Int32.toBitVec_inj.mp
  apply BitVec.eq_of_toNat_eq
  rw [h, iz_bv h1 h2]
theorem iz_and {c : Int} (h1 : 0 ≤ c) (h2 : c < 2147483648) {y : Int32} (k : Nat) (hy : y.toBitVec.toNat = 2 ^ k - 1) : iz c &&& y = iz (c % (2 ^ k : Nat)) := by
  have hp : 0 < 2 ^ k := Nat.two_pow_pos k
  have e : (c % (2 ^ k : Nat)) = ((c.toNat % 2 ^ k : Nat) : Int) := by rw [Int.natCast_emod, Int.toNat_of_nonneg h1]
  have l : c.toNat % 2 ^ k ≤ c.toNat := Nat.mod_le _ _
  apply iz_bits (by omega) (by omega)
  rw [Int32.toBitVec_and, BitVec.toNat_and, iz_bv h1 h2, hy, Nat.and_two_pow_sub_one_eq_mod, e]
  omega
theorem iz_shr {c : Int} (h1 : 0 ≤ c) (h2 : c < 2147483648) {y : Int32} (k : Nat) (hy : (y.toBitVec.smod 32#32).toNat = k) : iz c >>> y = iz (c / (2 ^ k : Nat)) := by
  apply Int32.toInt_inj.mp
  have b1 : 0 ≤ c / ((2 ^ k : Nat) : Int) := Int.ediv_nonneg h1 (Int.natCast_nonneg _)
  have b2 : c / ((2 ^ k : Nat) : Int) ≤ c := Int.ediv_le_self _ h1
  rw [iz_toInt (by omega) (by omega)]
  show (iz c >>> y).toBitVec.toInt = _
  rw [Int32.toBitVec_shiftRight]
  show ((iz c).toBitVec.sshiftRight (y.toBitVec.smod 32#32).toNat).toInt = _
  rw [hy, BitVec.toInt_sshiftRight, Int.shiftRight_eq_div_pow]
  show (iz c).toInt / _ = _
  rw [iz_toInt (by omega) (by omega)]
theorem iz_15 {c : Int} (h1 : 0 ≤ c) (h2 : c < 2147483648) : iz c &&& iz 15 = iz (c % 16) := iz_and h1 h2 4 (by decide)
theorem iz_255 {c : Int} (h1 : 0 ≤ c) (h2 : c < 2147483648) : iz c &&& iz 255 = iz (c % 256) := iz_and h1 h2 8 (by decide)
theorem iz_3 {c : Int} (h1 : 0 ≤ c) (h2 : c < 2147483648) : iz c &&& iz 3 = iz (c % 4) := iz_and h1 h2 2 (by decide)
theorem iz_s8 {c : Int} (h1 : 0 ≤ c) (h2 : c < 2147483648) : iz c >>> (iz 8 &&& iz 31) = iz (c / 256) := iz_shr h1 h2 8 (by decide)
theorem iz_s4 {c : Int} (h1 : 0 ≤ c) (h2 : c < 2147483648) : iz c >>> (iz 4 &&& iz 31) = iz (c / 16) := iz_shr h1 h2 4 (by decide)
theorem iz_s10 {c : Int} (h1 : 0 ≤ c) (h2 : c < 2147483648) : iz c >>> (iz 10 &&& iz 31) = iz (c / 1024) := iz_shr h1 h2 10 (by decide)
theorem bv_up (k : Nat) (x y : BitVec 32) (hy : ∀ i : Nat, i < 32 → y.getLsbD i = decide (k ≤ i)) : x &&& y = (x >>> k) <<< k := by
  apply BitVec.eq_of_getLsbD_eq
  intro i hi
  rw [BitVec.getLsbD_and, BitVec.getLsbD_shiftLeft, BitVec.getLsbD_ushiftRight, hy i hi]
  by_cases q : k ≤ i
  · rw [show k + (i - k) = i by omega]
    simp [q, hi]
  · simp [q]
theorem iz_up {c : Int} (h1 : 0 ≤ c) (h2 : c < 2147483648) {y : Int32} (k : Nat) (hy : ∀ i : Nat, i < 32 → y.toBitVec.getLsbD i = decide (k ≤ i)) : iz c &&& y = iz (c / (2 ^ k : Nat) * (2 ^ k : Nat)) := by
  have hp : 0 < 2 ^ k := Nat.two_pow_pos k
  have e : (c / (2 ^ k : Nat) * (2 ^ k : Nat)) = ((c.toNat / 2 ^ k * 2 ^ k : Nat) : Int) := by
    rw [Int.natCast_mul, Int.natCast_ediv, Int.toNat_of_nonneg h1]
  have l : c.toNat / 2 ^ k * 2 ^ k ≤ c.toNat := Nat.div_mul_le_self _ _
  rw [e]
  apply iz_bits (by omega) (by omega)
  rw [Int32.toBitVec_and, bv_up k _ _ hy, BitVec.toNat_shiftLeft, BitVec.toNat_ushiftRight, iz_bv h1 h2, Nat.shiftLeft_eq, Nat.shiftRight_eq_div_pow, Nat.mod_eq_of_lt (by omega)]
  omega
theorem iz_n16 {c : Int} (h1 : 0 ≤ c) (h2 : c < 2147483648) : iz c &&& iz (-16) = iz (c - c % 16) := by
  rw [iz_up h1 h2 4 (by decide)]
  congr 1
  show c / 16 * 16 = _
  omega
theorem iz_n256 {c : Int} (h1 : 0 ≤ c) (h2 : c < 2147483648) : iz c &&& iz (-256) = iz (c - c % 256) := by
  rw [iz_up h1 h2 8 (by decide)]
  congr 1
  show c / 256 * 256 = _
  omega
theorem ifL {a b : Int} (h1 : -2147483648 ≤ a) (h2 : a < 2147483648) (h3 : -2147483648 ≤ b) (h4 : b < 2147483648) {α : Type} {x y : α} : (if iz a < iz b then x else y) = if a < b then x else y := by
  simp only [iz_lt h1 h2 h3 h4]
theorem ifE {a b : Int} (h1 : -2147483648 ≤ a) (h2 : a < 2147483648) (h3 : -2147483648 ≤ b) (h4 : b < 2147483648) {α : Type} {x y : α} : (if iz a ≤ iz b then x else y) = if a ≤ b then x else y := by
  simp only [iz_le h1 h2 h3 h4]
theorem ifQ {a b : Int} (h1 : -2147483648 ≤ a) (h2 : a < 2147483648) (h3 : -2147483648 ≤ b) (h4 : b < 2147483648) {α : Type} {x y : α} : (if iz a = iz b then x else y) = if a = b then x else y := by
  simp only [iz_eq h1 h2 h3 h4]
theorem bz_if {P : Prop} [Decidable P] {α : Type} {x y : α} : (if bz P = iz 0 then x else y) = if P then y else x := by
  by_cases h : P
  · rw [if_pos h, if_neg (fun q => bz_0.mp q h)]
  · rw [if_neg h, if_pos (bz_0.mpr h)]
theorem bz_if0 {P : Prop} [Decidable P] {α : Type} {x y : α} : (if bz P = (0 : Int32) then x else y) = if P then y else x := bz_if
def gen (c : Int) : Int := if c % 16 = 0 then (if c % 256 = 0 then 0 else 1) else 2
theorem gen_bd (c : Int) : 0 ≤ gen c ∧ gen c ≤ 2 := by
  unfold gen
  split
  · split <;> omega
  · omega
theorem nsSrc {M : am_M} {c : Int} (h1 : 0 ≤ c) (h2 : c < 2147483648) : F_NS_sourceOf (iz c) M = some (some (.int (iz (c / 256 % 4))), M) := by
  unfold F_NS_sourceOf
  simp (disch := omega) only [iz_lit, iz_s8, iz_3]
theorem nsNum {M : am_M} {c : Int} (h1 : 0 ≤ c) (h2 : c < 2147483648) : F_NS_numberOf (iz c) M = some (some (.int (iz (c / 1024))), M) := by
  unfold F_NS_numberOf
  simp (disch := omega) only [iz_lit, iz_s10]
theorem nsGen {M : am_M} {c : Int} (h1 : 0 ≤ c) (h2 : c < 2147483648) : F_NS_generationOf (iz c) M = some (some (.int (iz (gen c))), M) := by
  unfold F_NS_generationOf gen
  simp (disch := omega) only [iz_lit, iz_15, iz_255, iz_eq]
  split
  · split <;> rfl
  · rfl
theorem mdGen {M : am_M} {c : Int} (h1 : 0 ≤ c) (h2 : c < 2147483648) : F_Md_generation (iz c) M = some (some (.int (iz (gen c))), M) := by
  unfold F_Md_generation gen
  simp (disch := omega) only [iz_lit, iz_emod, iz_eq]
  by_cases q : c % 256 = 0
  · rw [if_pos q, if_pos (by omega), if_pos q]
  · rw [if_neg q]
    split <;> rfl
def isSpD (S : Sc) (c : Int) : Decidable (isSp S c) := by unfold isSp; exact inferInstance
def spB (S : Sc) (c : Int) : Bool := @decide (isSp S c) (isSpD S c)
theorem spB_t {S : Sc} {c : Int} : spB S c = true ↔ isSp S c := by
  unfold spB
  exact @decide_eq_true_iff _ (isSpD S c)
section Code
variable {M : am_M} {S : Sc}
/-- the component: is there such a spark -/
theorem cHas (h : SH M) (hc : CS M S) (hk : scOK S) (hst : rI M 2 7 = iz 1) {c : Int} (h1 : -2147483648 ≤ c) (h2 : c < 2147483648) : F_Scen_hasSpark 2 (iz c) M = some (some (.int (bz (spB S c = true))), M) := by
  have nk := hk.2.1
  have ns := hk.2.2.1
  unfold F_Scen_hasSpark
  rw [fI_eq (kd_2 h), hst, if_neg (by decide), show (0 : Int32) = iz 0 from rfl]
  by_cases g0 : 0 ≤ c
  rotate_left
  · rw [ifE (by omega) (by omega) (by omega) (by omega), if_neg (by omega), bz_f (fun q => by have q := spB_t.mp q; unfold isSp at q; omega)]
  rw [ifE (by omega) (by omega) (by omega) (by omega), if_pos (by omega), nsSrc g0 h2, bI_eq, cv_eq (kd_2 h), cIsS h hc ns (by omega) (by omega), bI_eq, bz_if]
  by_cases g1 : c / 256 % 4 < sNs S
  rotate_left
  · rw [if_neg (by omega), bz_f (fun q => by have q := spB_t.mp q; unfold isSp at q; omega)]
  rw [if_pos (by omega), nsNum g0 h2, bI_eq, cv_eq (kd_2 h), show (9 : Int32) = iz 9 from rfl, cQ h hc (by omega) (by omega) (by omega) (by omega), bI_eq]
  obtain ⟨z0, -, -, -, -, -, -, z9⟩ := hk.2.2.2.2.2 (c / 256 % 4) (by omega) g1
  have rb := rts_bd hk (s := c / 256 % 4) (by omega) g1
  rw [z9, ifL (by omega) (by omega) (by omega) (by omega)]
  by_cases g2 : c / 256 / 4 < rts S (c / 256 % 4)
  rotate_left
  · rw [if_neg (by omega), bz_f (fun q => by have q := spB_t.mp q; unfold isSp at q; omega)]
  rw [if_pos (by omega), cv_eq (kd_2 h), cQ h hc (by omega) (by omega) (by omega) (by omega), bI_eq, show (4 : Int32) = iz 4 from rfl, show (31 : Int32) = iz 31 from rfl, show (15 : Int32) = iz 15 from rfl, iz_s4 g0 h2, iz_15 (by omega) (by omega), iz_15 g0 h2, nm_eq, nm_eq, ifQ (by omega) (by omega) (by omega) (by omega)]
  have iff : isSp S c ↔ (c % 256 = 0 ∨ ((1 ≤ c % 256 / 16 ∧ c % 256 / 16 ≤ sK S (sQ S (c / 256 % 4) 0) 6) ∧ (c % 256 % 16 = 0 ∨ (1 ≤ c % 256 % 16 ∧ c % 256 % 16 ≤ sK S (sK S (sQ S (c / 256 % 4) 0) 7) 6)))) := by
    unfold isSp
    exact ⟨fun q => q.2.2.2, fun q => ⟨g0, g1, g2, q⟩⟩
  by_cases g3 : c / 16 % 16 = 0
  · rw [if_pos g3]
    rw [ifQ (by omega) (by omega) (by omega) (by omega)]
    by_cases g4 : c % 16 = 0
    · rw [if_pos g4, bz_t (spB_t.mpr (iff.mpr (by omega)))]; rfl
    · rw [if_neg g4, bz_f (fun q => by have := iff.mp (spB_t.mp q); omega)]
  · obtain ⟨y0, y1, y2, y3, y4, y5, y6⟩ := hk.2.2.2.2.1 (sQ S (c / 256 % 4) 0) z0.1 z0.2
    rw [if_neg g3, cv_eq (kd_2 h), show (6 : Int32) = iz 6 from rfl, cK h hc (by omega) (by omega) (by omega) (by omega), bI_eq, ifE (by omega) (by omega) (by omega) (by omega)]
    by_cases g4 : c / 16 % 16 ≤ sK S (sQ S (c / 256 % 4) 0) 6
    rotate_left
    · rw [if_neg g4, bz_f (fun q => by have := iff.mp (spB_t.mp q); omega)]
    have kb := ch_kd hk z0.1 z0.2 (by omega)
    obtain ⟨u0, u1, u2, u3, u4, u5, u6⟩ := hk.2.2.2.2.1 (sK S (sQ S (c / 256 % 4) 0) 7) kb.1 kb.2
    rw [if_pos g4, cv_eq (kd_2 h), show (7 : Int32) = iz 7 from rfl, cK h hc (by omega) (by omega) (by omega) (by omega), bI_eq, cv_eq (kd_2 h), cK h hc (by omega) (by omega) (by omega) (by omega), bI_eq, ifL (by omega) (by omega) (by omega) (by omega)]
    by_cases g5 : sK S (sK S (sQ S (c / 256 % 4) 0) 7) 6 < c % 16
    · rw [if_pos g5, bz_f (fun q => by have := iff.mp (spB_t.mp q); omega)]
    · rw [if_neg g5, bz_t (spB_t.mpr (iff.mpr (by omega)))]; rfl
theorem cHas0 (h : SH M) (hst : rI M 2 7 = iz 0) (c : Int32) : F_Scen_hasSpark 2 c M = some (some (.int (iz 0)), M) := by
  unfold F_Scen_hasSpark
  rw [fI_eq (kd_2 h), hst, if_pos (by decide)]; rfl
/-- the reference: has it this child -/
theorem mHasC (h : SH M) (hc : MS M S) (hk : scOK S) {k i : Int} (h1 : 0 ≤ k) (h2 : k < sNk S) (h3 : -2147483648 ≤ i) (h4 : i < 2147483648) : F_Md_hasChild 70 (iz k) (iz i) M = some (some (.int (bz (0 ≤ i ∧ i < sK S k 6))), M) := by
  have nk := hk.2.1
  obtain ⟨y0, y1, y2, y3, y4, y5, y6⟩ := hk.2.2.2.2.1 k h1 h2
  unfold F_Md_hasChild
  rw [fR_eq (kd_70 h) (rr_70_5 h), show (8 : Int32) = iz 8 from rfl, show (6 : Int32) = iz 6 from rfl, show (1 : Int32) = iz 1 from rfl, show (0 : Int64) = jz 0 from rfl, iz_mul, iz_add, aI_eq (kd_72 h) (ln_72 h) (by omega) (by omega) (by omega), hc.2.1 k 6 h1 h2 (by omega) (by omega), iz_sub, jz_i2l h3 h4, jz_i2l (by omega) (by omega), in_eq (by omega) (by omega) (by omega) (by omega) (by omega) (by omega), bI_eq, zR_bz]
  rw [bz_congr (Q := 0 ≤ i ∧ i < sK S k 6) (by omega)]
theorem mIsSp (h : SH M) (hc : MS M S) (hk : scOK S) (hst : rI M 70 1 = iz 1) {c : Int} (h1 : -2147483648 ≤ c) (h2 : c < 2147483648) : F_Md_isSpark 70 (iz c) M = some (some (.int (bz (spB S c = true))), M) := by
  have nk := hk.2.1
  have ns := hk.2.2.1
  unfold F_Md_isSpark
  rw [fI_eq (kd_70 h), hst, if_neg (by decide), show (0 : Int32) = iz 0 from rfl]
  by_cases g0 : 0 ≤ c
  rotate_left
  · rw [ifE (by omega) (by omega) (by omega) (by omega), if_neg (by omega), bz_f (fun q => by have q := spB_t.mp q; unfold isSp at q; omega)]
  rw [ifE (by omega) (by omega) (by omega) (by omega), if_pos (by omega), show (256 : Int32) = iz 256 from rfl, show (4 : Int32) = iz 4 from rfl, iz_emod (a := c) (by omega) (by omega) (by omega) (by omega), iz_ediv (a := c) (by omega) (by omega) (by omega) (by omega), iz_emod (by omega) (by omega) (by omega) (by omega), iz_ediv (by omega) (by omega) (by omega) (by omega), nm_eq, fI_eq (kd_70 h), hc.2.2.2.2.1, ifE (by omega) (by omega) (by omega) (by omega)]
  by_cases g1 : c / 256 % 4 < sNs S
  rotate_left
  · rw [if_pos (by omega), bz_f (fun q => by have q := spB_t.mp q; unfold isSp at q; omega)]
  obtain ⟨z0, -, -, -, -, -, -, z9⟩ := hk.2.2.2.2.2 (c / 256 % 4) (by omega) g1
  have rb := rts_bd hk (s := c / 256 % 4) (by omega) g1
  rw [if_neg (by omega), cv_eq (kd_70 h), mRts h hc hk (by omega) g1, bI_eq, ifL (by omega) (by omega) (by omega) (by omega)]
  by_cases g2 : c / 256 / 4 < rts S (c / 256 % 4)
  rotate_left
  · rw [if_neg g2, bz_f (fun q => by have q := spB_t.mp q; unfold isSp at q; omega)]
  have iff : isSp S c ↔ (c % 256 = 0 ∨ ((1 ≤ c % 256 / 16 ∧ c % 256 / 16 ≤ sK S (sQ S (c / 256 % 4) 0) 6) ∧ (c % 256 % 16 = 0 ∨ (1 ≤ c % 256 % 16 ∧ c % 256 % 16 ≤ sK S (sK S (sQ S (c / 256 % 4) 0) 7) 6)))) := by
    unfold isSp
    exact ⟨fun q => q.2.2.2, fun q => ⟨g0, g1, g2, q⟩⟩
  rw [if_pos g2, nm_eq, ifQ (by omega) (by omega) (by omega) (by omega)]
  by_cases g3 : c % 256 = 0
  · rw [if_pos g3, bz_t (spB_t.mpr (iff.mpr (by omega)))]; rfl
  have ef : F_Md_first (iz (c % 256)) M = some (some (.int (iz (c % 256 / 16 - 1))), M) := by
    unfold F_Md_first
    simp (disch := omega) only [iz_lit, iz_ediv, iz_sub]
  have es : F_Md_second (iz (c % 256)) M = some (some (.int (iz (c % 256 % 16 - 1))), M) := by
    unfold F_Md_second
    simp (disch := omega) only [iz_lit, iz_emod, iz_sub]
  rw [if_neg g3, cv_eq (kd_70 h), mQ h hc (by omega) (by omega) g1 (by omega) (by omega), bI_eq, ef, bI_eq, cv_eq (kd_70 h), mHasC h hc hk z0.1 z0.2 (by omega) (by omega), bI_eq, bz_if]
  by_cases g4 : 1 ≤ c % 256 / 16 ∧ c % 256 / 16 ≤ sK S (sQ S (c / 256 % 4) 0) 6
  rotate_left
  · rw [if_neg (by omega), bz_f (fun q => by have := iff.mp (spB_t.mp q); omega)]
  rw [if_pos (by omega), show (16 : Int32) = iz 16 from rfl, iz_emod (by omega) (by omega) (by omega) (by omega), ifQ (by omega) (by omega) (by omega) (by omega)]
  by_cases g5 : c % 256 % 16 = 0
  · rw [if_pos g5, bz_t (spB_t.mpr (iff.mpr (by omega)))]; rfl
  have kb := ch_kd hk z0.1 z0.2 (by omega)
  rw [if_neg g5, fR_eq (kd_70 h) (rr_70_5 h), show (8 : Int32) = iz 8 from rfl, show (7 : Int32) = iz 7 from rfl, iz_mul, iz_add, aI_eq (kd_72 h) (ln_72 h) (by omega) (by omega) (by omega), hc.2.1 _ 7 z0.1 z0.2 (by omega) (by omega), es, bI_eq, cv_eq (kd_70 h), mHasC h hc hk kb.1 kb.2 (by omega) (by omega), bI_eq, bz_if]
  by_cases g6 : c % 256 % 16 ≤ sK S (sK S (sQ S (c / 256 % 4) 0) 7) 6
  · rw [if_pos (by omega), bz_t (spB_t.mpr (iff.mpr (by omega)))]; rfl
  · rw [if_neg (by omega), bz_f (fun q => by have := iff.mp (spB_t.mp q); omega)]
theorem mIsSp0 (h : SH M) (hst : rI M 70 1 = iz 0) (c : Int32) : F_Md_isSpark 70 c M = some (some (.int (iz 0)), M) := by
  unfold F_Md_isSpark
  rw [fI_eq (kd_70 h), hst, if_pos (by decide)]; rfl
end Code
