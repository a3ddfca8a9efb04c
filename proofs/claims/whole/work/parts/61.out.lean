/-! ===== what is told: bytes and numbers ===== -/
def CO (M : am_M) (L : List Int) : Prop := rI M 16 1 = iz (L.length : Int) ∧ ∀ i x, L[i]? = some x → rI M 17 i = iz x
def MO (M : am_M) (L : List Int) : Prop := rI M 70 41 = iz (L.length : Int) ∧ ∀ i x, L[i]? = some x → rI M 88 i = iz x
def AOc (b j : Nat) : Prop := b = 16 ∨ b = 17
def AOm (b j : Nat) : Prop := b = 88 ∨ (b = 70 ∧ j = 41)
theorem CO.out {M : am_M} {L : List Int} (h1 : CO M L) (h2 : MO M L) (h3 : L.length ≤ 1640) : Out M := by
  refine ⟨L.length, h3, h1.1, h2.1, fun i hi => ?_⟩
  have e : L[i]? = some L[i] := List.getElem?_eq_getElem hi
  rw [h1.2 i _ e, h2.2 i _ e]
theorem CO.fr {M M' : am_M} {A : Nat → Nat → Prop} {L : List Int} (h : CO M L) (hf : Fr A M M') (hA : ∀ b j, A b j → b ≠ 16 ∧ b ≠ 17) : CO M' L := by
  have e : ∀ b j, (b = 16 ∨ b = 17) → rI M' b j = rI M b j := fun b j q => hf.ri (fun w => by have := hA b j w; omega)
  exact ⟨by rw [e _ _ (by omega)]; exact h.1, fun i x q => by rw [e _ _ (by omega)]; exact h.2 i x q⟩
theorem get_app {L : List Int} {y x : Int} {i : Nat} (h : (L ++ [y])[i]? = some x) : (i < L.length ∧ L[i]? = some x) ∨ (i = L.length ∧ x = y) := by
  rcases Nat.lt_trichotomy i L.length with q | q | q
  · rw [List.getElem?_append_left q] at h
    exact Or.inl ⟨q, h⟩
  · subst q
    rw [List.getElem?_append_right (Nat.le_refl _), Nat.sub_self] at h
    injection h with h
    exact Or.inr ⟨rfl, h.symm⟩
  · rw [List.getElem?_eq_none (by rw [List.length_append]; show L.length + 1 ≤ i; omega)] at h
    cases h
theorem cPut {M : am_M} {L : List Int} (h : SH M) (hL : CO M L) (hn : L.length < 1640) (x : Int) : ∃ M', F_Outp_put 16 (iz x) M = some (none, M') ∧ Fr AOc M M' ∧ CO M' (L ++ [x]) := by
  have f1 : Fr AOc M (wI M 17 L.length (iz x)) := Fr.wI (Or.inr rfl)
  have f2 := f1.trans (Fr.wI (k := 1) (v := iz (L.length + 1)) (show AOc 16 _ from Or.inl rfl))
  refine ⟨_, ?_, f2, ⟨?_, fun i y q => ?_⟩⟩
  · unfold F_Outp_put
    rw [fI_eq (kd_16 h), hL.1, show (0 : Int32) = iz 0 from rfl, ifL (by omega) (by omega) (by omega) (by omega), if_neg (by omega), fI_eq (kd_16 h), hL.1, fR_eq (kd_16 h) (rr_16_0 h), aN_eq (show mKd M 17 < 4 by rw [kd_17 h]; decide) (ln_17 h), ifE (by omega) (by omega) (by omega) (by omega), if_neg (by omega), fR_eq (kd_16 h) (rr_16_0 h), fI_eq (kd_16 h), hL.1, tI_eq (kd_17 h) (ln_17 h) (by omega) (by omega) (by omega), Int.toNat_natCast, fI_eq (kd_16 (h.fr f1)), rI_ne (by omega), hL.1, show (1 : Int32) = iz 1 from rfl, iz_add, sI_eq (kd_16 (h.fr f1))]
  · rw [rI_at rfl rfl, List.length_append]; rfl
  · rw [rI_ne (by omega)]
    rcases get_app q with ⟨q1, q2⟩ | ⟨q1, q2⟩
    · rw [rI_ne (by omega)]; exact hL.2 i y q2
    · rw [rI_at rfl q1, q2]
theorem i8_iz {x : Int} (h1 : 0 ≤ x) (h2 : x < 128) : (iz x).toInt8.toInt32 = iz x := by
  unfold iz
  apply Int32.toInt_inj.mp
  rw [Int8.toInt_toInt32, Int32.toInt8_ofInt, Int8.toInt_ofInt_of_le (by omega) (by omega)]
  exact (iz_toInt (by omega) (by omega)).symm
theorem mSay {M : am_M} {L : List Int} (h : SH M) (hL : MO M L) (hn : L.length < 1700) {x : Int} (h1 : 0 ≤ x) (h2 : x < 128) : ∃ M', F_Md_says 70 (iz x) M = some (none, M') ∧ Fr AOm M M' ∧ MO M' (L ++ [x]) := by
  have f1 : Fr AOm M (wI M 88 L.length (iz x)) := Fr.wI (Or.inl rfl)
  have f2 := f1.trans (Fr.wI (k := 41) (v := iz (L.length + 1)) (show AOm 70 _ from Or.inr ⟨rfl, rfl⟩))
  refine ⟨_, ?_, f2, ⟨?_, fun i y q => ?_⟩⟩
  · unfold F_Md_says
    rw [fR_eq (kd_70 h) (rr_70_40 h), fI_eq (kd_70 h), hL.1, tB_eq (kd_88 h) (ln_88 h) (by omega) (by omega) (by omega), i8_iz h1 h2, i8_iz h1 h2, Int.toNat_natCast, fI_eq (kd_70 (h.fr f1)), rI_ne (by omega), hL.1, show (1 : Int32) = iz 1 from rfl, iz_add, sI_eq (kd_70 (h.fr f1))]
  · rw [rI_at rfl rfl, List.length_append]; rfl
  · rw [rI_ne (by omega)]
    rcases get_app q with ⟨q1, q2⟩ | ⟨q1, q2⟩
    · rw [rI_ne (by omega)]; exact hL.2 i y q2
    · rw [rI_at rfl q1, q2]
def p10 : Nat → Int
  | 0 => 1
  | k + 1 => 10 * p10 k
theorem p10_pos : ∀ k, 1 ≤ p10 k
  | 0 => by decide
  | k + 1 => by have := p10_pos k; rw [p10]; omega
theorem p10_mono : ∀ (a d : Nat), p10 a ≤ p10 (a + d)
  | a, 0 => Int.le_refl _
  | a, d + 1 => by have := p10_mono a d; have := p10_pos (a + d); rw [← Nat.add_assoc, p10]; omega
def ex (v : Int) : Nat := if v < 10 then 0 else if v < 100 then 1 else if v < 1000 then 2 else if v < 10000 then 3 else if v < 100000 then 4 else if v < 1000000 then 5 else 6
theorem ex_le (v : Int) : ex v ≤ 6 := by
  unfold ex
  repeat' split
  all_goals omega
theorem ex_hi {v : Int} (h : v < 10000000) : v < 10 * p10 (ex v) := by
  unfold ex
  repeat' split
  all_goals (simp only [p10]; omega)
theorem ex_lo {v : Int} {j : Nat} (hj : j < ex v) : 10 * p10 j ≤ v := by
  have key : ∀ m, j ≤ m → 10 * p10 m ≤ v → 10 * p10 j ≤ v := fun m h1 h2 => by
    have := p10_mono j (m - j)
    rw [show j + (m - j) = m by omega] at this
    omega
  unfold ex at hj
  split at hj
  · omega
  split at hj
  · exact key 0 (by omega) (by simp only [p10]; omega)
  split at hj
  · exact key 1 (by omega) (by simp only [p10]; omega)
  split at hj
  · exact key 2 (by omega) (by simp only [p10]; omega)
  split at hj
  · exact key 3 (by omega) (by simp only [p10]; omega)
  split at hj
  · exact key 4 (by omega) (by simp only [p10]; omega)
  · exact key 5 (by omega) (by simp only [p10]; omega)
theorem p10_6 {k : Nat} (h : k ≤ 6) : p10 k ≤ 1000000 := by
  have := p10_mono k (6 - k)
  rw [show k + (6 - k) = 6 by omega] at this
  have e : p10 6 = 1000000 := by simp only [p10]; rfl
  omega
def dgL (v : Int) : Nat → List Int
  | 0 => [48 + v % 10]
  | k + 1 => (48 + v / p10 (k + 1) % 10) :: dgL v k
def numS (v : Int) : List Int := dgL v (ex v)
theorem dgL_len (v : Int) : ∀ k, (dgL v k).length = k + 1
  | 0 => rfl
  | k + 1 => by rw [dgL, List.length_cons, dgL_len v k]
theorem numS_len (v : Int) : (numS v).length ≤ 7 := by
  unfold numS
  rw [dgL_len]
  have := ex_le v
  omega
theorem cUp {v : Int} (v1 : 0 ≤ v) (v2 : v < 10000000) {M : am_M} : ∀ (d n j : Nat), j + d = ex v → d < n → F_Outp_putNumber_L4 n 16 (iz v) (iz (p10 j)) (iz (j : Int)) M = F_Outp_putNumber_L31 fu 16 (iz v) (iz (p10 (ex v))) 0 M
  | d, 0, j, h1, h2 => by omega
  | 0, n + 1, j, h1, h2 => by
    have el := ex_le v
    have pp := p10_pos j
    have p6 := p10_6 (k := j) (by omega)
    have hj : j = ex v := by omega
    have hi := ex_hi v2
    rw [← hj] at hi
    have q0 : 0 ≤ v / p10 j := Int.ediv_nonneg v1 (by omega)
    have q1 : v / p10 j < 10 := Int.ediv_lt_of_lt_mul (by omega) hi
    rw [F_Outp_putNumber_L4, show (9 : Int32) = iz 9 from rfl, ifE (by omega) (by omega) (by omega) (by omega), if_neg (by omega), dZ_eq (by omega) (by omega), iz_ediv v1 (by omega) (by omega) (by omega), ifE (by omega) (by omega) (by omega) (by omega), if_pos (by omega), hj]
  | d + 1, n + 1, j, h1, h2 => by
    have el := ex_le v
    have pp := p10_pos j
    have p6 := p10_6 (k := j) (by omega)
    have lo := ex_lo (v := v) (j := j) (by omega)
    have q1 : 10 ≤ v / p10 j := by rw [Int.le_ediv_iff_mul_le (by omega)]; exact lo
    have q2 : v / p10 j ≤ v := Int.ediv_le_self _ v1
    have e : p10 j * 10 = p10 (j + 1) := by rw [p10]; omega
    rw [F_Outp_putNumber_L4, show (9 : Int32) = iz 9 from rfl, ifE (by omega) (by omega) (by omega) (by omega), if_neg (by omega), dZ_eq (by omega) (by omega), iz_ediv v1 (by omega) (by omega) (by omega), ifE (by omega) (by omega) (by omega) (by omega), if_neg (by omega), show (10 : Int32) = iz 10 from rfl, show (1 : Int32) = iz 1 from rfl, iz_mul, iz_add, nm_eq, nm_eq, e]
    exact cUp v1 v2 d n (j + 1) (by omega) (by omega)
theorem mUp {v : Int} (v1 : 0 ≤ v) (v2 : v < 10000000) {M : am_M} : ∀ (d n j : Nat), j + d = ex v → d < n → F_Md_saysNumber_L2 n 70 (iz v) (iz (p10 j)) M = F_Md_saysNumber_L18 fu 70 (iz v) (iz (p10 (ex v))) M
  | d, 0, j, h1, h2 => by omega
  | 0, n + 1, j, h1, h2 => by
    have el := ex_le v
    have pp := p10_pos j
    have p6 := p10_6 (k := j) (by omega)
    have hj : j = ex v := by omega
    have hi := ex_hi v2
    rw [← hj] at hi
    have q0 : 0 ≤ v / p10 j := Int.ediv_nonneg v1 (by omega)
    have q1 : v / p10 j < 10 := Int.ediv_lt_of_lt_mul (by omega) hi
    rw [F_Md_saysNumber_L2, dZ_eq (by omega) (by omega), iz_ediv v1 (by omega) (by omega) (by omega), show (10 : Int32) = iz 10 from rfl, ifL (by omega) (by omega) (by omega) (by omega), if_pos (by omega), hj]
  | d + 1, n + 1, j, h1, h2 => by
    have el := ex_le v
    have pp := p10_pos j
    have p6 := p10_6 (k := j) (by omega)
    have lo := ex_lo (v := v) (j := j) (by omega)
    have q1 : 10 ≤ v / p10 j := by rw [Int.le_ediv_iff_mul_le (by omega)]; exact lo
    have q2 : v / p10 j ≤ v := Int.ediv_le_self _ v1
    have e : p10 j * 10 = p10 (j + 1) := by rw [p10]; omega
    rw [F_Md_saysNumber_L2, dZ_eq (by omega) (by omega), iz_ediv v1 (by omega) (by omega) (by omega), show (10 : Int32) = iz 10 from rfl, ifL (by omega) (by omega) (by omega) (by omega), if_neg (by omega), iz_mul, nm_eq, e]
    exact mUp v1 v2 d n (j + 1) (by omega) (by omega)
theorem cDown {v : Int} (v1 : 0 ≤ v) (v2 : v < 10000000) : ∀ (k n : Nat) (M : am_M) (L : List Int) (i : Int), SH M → CO M L → L.length + 2 * k ≤ 1600 → k ≤ 6 → 0 ≤ i → i + k ≤ 6 → k + 1 < n → ∃ M', F_Outp_putNumber_L31 n 16 (iz v) (iz (p10 k)) (iz i) M = some (none, M') ∧ Fr AOc M M' ∧ CO M' (L ++ dgL v k)
  | k, 0, M, L, i, h, hL, h1, h2, h3, h4, h5 => by omega
  | k, 1, M, L, i, h, hL, h1, h2, h3, h4, h5 => by omega
  | 0, n + 2, M, L, i, h, hL, h1, h2, h3, h4, h5 => by
    obtain ⟨M', u1, u2, u3⟩ := cPut h hL (by omega) (48 + v % 10)
    refine ⟨M', ?_, u2, u3⟩
    rw [F_Outp_putNumber_L31, show (10 : Int32) = iz 10 from rfl, ifE (by omega) (by omega) (by omega) (by omega), if_neg (by omega), show (0 : Int32) = iz 0 from rfl, p10, ifE (by omega) (by omega) (by omega) (by omega), if_neg (by omega), dZ_eq (by omega) (by omega), cv_eq (kd_16 h), iz_ediv v1 (by omega) (by omega) (by omega), iz_emod (by rw [Int.ediv_one]; omega) (by rw [Int.ediv_one]; omega) (by omega) (by omega), show (48 : Int32) = iz 48 from rfl, iz_add, Int.ediv_one, u1, bV_eq, iz_ediv (by omega) (by omega) (by omega) (by omega), nm_eq, nm_eq, show (1 : Int32) = iz 1 from rfl, iz_add, F_Outp_putNumber_L31, show (10 : Int32) = iz 10 from rfl, ifE (by omega) (by omega) (by omega) (by omega), if_neg (by omega), if_pos (by decide)]
  | k + 1, n + 2, M, L, i, h, hL, h1, h2, h3, h4, h5 => by
    have pp := p10_pos (k + 1)
    have p6 := p10_6 (k := k + 1) (by omega)
    have q0 : 0 ≤ v / p10 (k + 1) := Int.ediv_nonneg v1 (by omega)
    have q1 : v / p10 (k + 1) ≤ v := Int.ediv_le_self _ v1
    obtain ⟨M', u1, u2, u3⟩ := cPut h hL (by omega) (48 + v / p10 (k + 1) % 10)
    obtain ⟨M2, w1, w2, w3⟩ := cDown v1 v2 k (n + 1) M' (L ++ [48 + v / p10 (k + 1) % 10]) (i + 1) (h.fr u2) u3 (by rw [List.length_append]; show L.length + 1 + _ ≤ _; omega) (by omega) (by omega) (by omega) (by omega)
    refine ⟨M2, ?_, u2.trans w2, by rw [dgL]; rw [List.append_assoc] at w3; exact w3⟩
    have e : p10 (k + 1) / 10 = p10 k := by rw [p10]; omega
    rw [F_Outp_putNumber_L31, show (10 : Int32) = iz 10 from rfl, ifE (by omega) (by omega) (by omega) (by omega), if_neg (by omega), show (0 : Int32) = iz 0 from rfl, ifE (by omega) (by omega) (by omega) (by omega), if_neg (by omega), dZ_eq (by omega) (by omega), cv_eq (kd_16 h), iz_ediv v1 (by omega) (by omega) (by omega), iz_emod (by omega) (by omega) (by omega) (by omega), show (48 : Int32) = iz 48 from rfl, iz_add, u1, bV_eq, iz_ediv (by omega) (by omega) (by omega) (by omega), nm_eq, nm_eq, show (1 : Int32) = iz 1 from rfl, iz_add, e, w1]
theorem mDown {v : Int} (v1 : 0 ≤ v) (v2 : v < 10000000) : ∀ (k n : Nat) (M : am_M) (L : List Int), SH M → MO M L → L.length + 2 * k ≤ 1600 → k ≤ 6 → k + 1 < n → ∃ M', F_Md_saysNumber_L18 n 70 (iz v) (iz (p10 k)) M = some (none, M') ∧ Fr AOm M M' ∧ MO M' (L ++ dgL v k)
  | k, 0, M, L, h, hL, h1, h2, h5 => by omega
  | k, 1, M, L, h, hL, h1, h2, h5 => by omega
  | 0, n + 2, M, L, h, hL, h1, h2, h5 => by
    obtain ⟨M', u1, u2, u3⟩ := mSay h hL (by omega) (x := 48 + v % 10) (by omega) (by omega)
    refine ⟨M', ?_, u2, u3⟩
    rw [F_Md_saysNumber_L18, show (10 : Int32) = iz 10 from rfl, show (0 : Int32) = iz 0 from rfl, p10, ifE (by omega) (by omega) (by omega) (by omega), if_neg (by omega), dZ_eq (by omega) (by omega), cv_eq (kd_70 h), iz_ediv v1 (by omega) (by omega) (by omega), iz_emod (by rw [Int.ediv_one]; omega) (by rw [Int.ediv_one]; omega) (by omega) (by omega), show (48 : Int32) = iz 48 from rfl, iz_add, Int.ediv_one, u1, bV_eq, iz_ediv (by omega) (by omega) (by omega) (by omega), nm_eq, F_Md_saysNumber_L18, if_pos (by decide)]
  | k + 1, n + 2, M, L, h, hL, h1, h2, h5 => by
    have pp := p10_pos (k + 1)
    have p6 := p10_6 (k := k + 1) (by omega)
    have q0 : 0 ≤ v / p10 (k + 1) := Int.ediv_nonneg v1 (by omega)
    have q1 : v / p10 (k + 1) ≤ v := Int.ediv_le_self _ v1
    obtain ⟨M', u1, u2, u3⟩ := mSay h hL (by omega) (x := 48 + v / p10 (k + 1) % 10) (by omega) (by omega)
    obtain ⟨M2, w1, w2, w3⟩ := mDown v1 v2 k (n + 1) M' (L ++ [48 + v / p10 (k + 1) % 10]) (h.fr u2) u3 (by rw [List.length_append]; show L.length + 1 + _ ≤ _; omega) (by omega) (by omega)
    refine ⟨M2, ?_, u2.trans w2, by rw [dgL]; rw [List.append_assoc] at w3; exact w3⟩
    have e : p10 (k + 1) / 10 = p10 k := by rw [p10]; omega
    rw [F_Md_saysNumber_L18, show (10 : Int32) = iz 10 from rfl, show (0 : Int32) = iz 0 from rfl, ifE (by omega) (by omega) (by omega) (by omega), if_neg (by omega), dZ_eq (by omega) (by omega), cv_eq (kd_70 h), iz_ediv v1 (by omega) (by omega) (by omega), iz_emod (by omega) (by omega) (by omega) (by omega), show (48 : Int32) = iz 48 from rfl, iz_add, u1, bV_eq, iz_ediv (by omega) (by omega) (by omega) (by omega), nm_eq, e, w1]
theorem cNum {M : am_M} {L : List Int} (h : SH M) (hL : CO M L) (hn : L.length ≤ 1500) {v : Int} (v1 : 0 ≤ v) (v2 : v < 10000000) : ∃ M', F_Outp_putNumber 16 (iz v) M = some (none, M') ∧ Fr AOc M M' ∧ CO M' (L ++ numS v) := by
  have fg := fu_ge
  have el := ex_le v
  obtain ⟨M', u1, u2, u3⟩ := cDown v1 v2 (ex v) fu M L 0 h hL (by omega) el (by omega) (by omega) (by omega)
  refine ⟨M', ?_, u2, u3⟩
  have e := cUp v1 v2 (M := M) (ex v) fu 0 (by omega) (by omega)
  unfold F_Outp_putNumber
  exact e.trans u1
theorem mNum {M : am_M} {L : List Int} (h : SH M) (hL : MO M L) (hn : L.length ≤ 1500) {v : Int} (v1 : 0 ≤ v) (v2 : v < 10000000) : ∃ M', F_Md_saysNumber 70 (iz v) M = some (none, M') ∧ Fr AOm M M' ∧ MO M' (L ++ numS v) := by
  have fg := fu_ge
  have el := ex_le v
  obtain ⟨M', u1, u2, u3⟩ := mDown v1 v2 (ex v) fu M L h hL (by omega) el (by omega)
  refine ⟨M', ?_, u2, u3⟩
  have e := mUp v1 v2 (M := M) (ex v) fu 0 (by omega) (by omega)
  unfold F_Md_saysNumber
  exact e.trans u1
