/-! ===== the reference's births of a tick ===== -/
section Born2
variable {M : am_M} {S : Sc}
def A39 (b j : Nat) : Prop := b = 70 ∧ j = 39
theorem A39_ASc (b j : Nat) (h : A39 b j) : ASc b j := by unfold A39 at h; unfold ASc; omega
theorem mB80 (h : SH M) (hm : MS M S) (hk : scOK S) (k62 : Nat → Int32 → Int32 → Int32 → Int32 → Int32 → Int32 → Int32 → am_M → am_R) {s T g : Int} (s1 : 0 ≤ s) (s2 : s < sNs S) (T0 : 0 ≤ T) (T1 : T < 50000) (g0 : 0 ≤ g) (g1 : g < gps S s) : ∀ (r n : Nat) (k a : Int) (l : Int32), 0 ≤ a → a < 100000 → sQ S s 6 * g ≤ k → k + r = sQ S s 6 * g + sQ S s 6 → r < n → ∃ l', F_Md_bornIn_L80 k62 n 70 (iz s) (iz T) (iz 0) (iz (sQ S s 6)) (iz a) l (iz g) (iz k) M = if (sc0 (bornR S s) T r k a).1 = -1 then k62 70 (iz s) (iz T) (iz 0) (iz (sQ S s 6)) (iz (sc0 (bornR S s) T r k a).2) l' (iz (g + 1)) M else some (some (.int (iz (cdK s (sc0 (bornR S s) T r k a).1))), M)
  | r, 0, k, a, l, q1, q2, q3, q4, q5 => by omega
  | 0, n + 1, k, a, l, q1, q2, q3, q4, q5 => by
    obtain ⟨z0, -, z4, z5, z6, z7, z8, z9⟩ := hk.2.2.2.2.2 s s1 s2
    have gb := gps_bd hk s1 s2
    have m1 : 0 ≤ sQ S s 6 * g := Int.mul_nonneg (by omega) g0
    have m2 : sQ S s 6 * g ≤ 5 * 10000 := Int.mul_le_mul (by omega) (by omega) (by omega) (by omega)
    refine ⟨l, ?_⟩
    rw [sc0, if_pos rfl, F_Md_bornIn_L80, iz_mul, iz_add, ifE (by omega) (by omega) (by omega) (by omega), if_pos (by omega), nm_eq, show (1 : Int32) = iz 1 from rfl, iz_add]
  | r + 1, n + 1, k, a, l, q1, q2, q3, q4, q5 => by
    obtain ⟨z0, -, z4, z5, z6, z7, z8, z9⟩ := hk.2.2.2.2.2 s s1 s2
    have ns := hk.2.2.1
    have gb := gps_bd hk s1 s2
    have rb := rts_bd hk s1 s2
    have m1 : 0 ≤ sQ S s 6 * g := Int.mul_nonneg (by omega) g0
    have m2 : sQ S s 6 * g ≤ 5 * 10000 := Int.mul_le_mul (by omega) (by omega) (by omega) (by omega)
    have m3 : sQ S s 6 * (g + 1) ≤ sQ S s 6 * gps S s := Int.mul_le_mul_of_nonneg_left (by omega) (by omega)
    rw [Int.mul_add, Int.mul_one, Int.mul_comm (sQ S s 6) (gps S s)] at m3
    have m4 : sQ S s 6 * g + sQ S s 6 ≤ rts S s := m3
    have bb := bornR_bd hk s1 s2 (k := k) (by omega) (by omega)
    have ih := fun a l q1 q2 => mB80 h hm hk k62 s1 s2 T0 T1 g0 g1 r n (k + 1) a l q1 q2 (by omega) (by omega) (by omega)
    have hd : F_Md_bornIn_L80 k62 (n + 1) 70 (iz s) (iz T) (iz 0) (iz (sQ S s 6)) (iz a) l (iz g) (iz k) M = if bornR S s k = T then (if a = 0 then some (some (.int (iz (256 * (4 * k + s)))), M) else F_Md_bornIn_L80 k62 n 70 (iz s) (iz T) (iz 0) (iz (sQ S s 6)) (iz (a - 1)) (iz (256 * (4 * k + s))) (iz g) (iz (k + 1)) M) else F_Md_bornIn_L80 k62 n 70 (iz s) (iz T) (iz 0) (iz (sQ S s 6)) (iz a) l (iz g) (iz (k + 1)) M := by
      rw [F_Md_bornIn_L80, iz_mul, iz_add, ifE (by omega) (by omega) (by omega) (by omega), if_neg (by omega), cv_eq (kd_70 h), show (4 : Int32) = iz 4 from rfl, iz_mul, iz_add, mBorn h hm hk s1 s2 (by omega) (by omega), bI_eq, ifQ (by omega) (by omega) (by omega) (by omega), show (256 : Int32) = iz 256 from rfl, iz_mul, nm_eq, show (0 : Int32) = iz 0 from rfl, ifQ (by omega) (by omega) (by omega) (by omega), if_pos (show iz 0 = iz 0 from rfl), show (-1 : Int32) = iz (-1) from rfl, show (1 : Int32) = iz 1 from rfl, iz_add, iz_add, nm_eq, nm_eq, nm_eq]
      rfl
    rw [hd, sc0]
    by_cases g : bornR S s k = T
    · rw [if_pos g, if_pos g]
      by_cases g2 : a = 0
      · rw [if_pos g2, if_pos g2]
        refine ⟨l, ?_⟩
        rw [if_neg (show ¬ k = -1 by omega)]
        unfold cdK
        rw [if_neg (show ¬ k = -1 by omega)]
      · rw [if_neg g2, if_neg g2]
        exact ih (a - 1) _ (by omega) (by omega)
    · rw [if_neg g, if_neg g]
      exact ih a l q1 q2
theorem rts_q {s : Int} : rts S s = sQ S s 6 * gps S s := by unfold rts; rw [Int.mul_comm]
/-- where the groups are through -/
theorem g_end (hk : scOK S) {s T g : Int} (s1 : 0 ≤ s) (s2 : s < sNs S) (g0 : 0 ≤ g) (hg : ¬ isG S s g T) : ∀ j, sQ S s 6 * g ≤ j → j < sQ S s 6 * g + ((rts S s - sQ S s 6 * g).toNat : Int) → bornR S s j ≠ T := fun j j1 j2 => by
  obtain ⟨z0, -, z4, z5, z6, z7, z8, z9⟩ := hk.2.2.2.2.2 s s1 s2
  have m1 : 0 ≤ sQ S s 6 * g := Int.mul_nonneg (by omega) g0
  have jr : j < rts S s := by omega
  have bb := bornR_bd hk s1 s2 (k := j) (by omega) jr
  have ep : plT S s j = sQ S s 4 + j / sQ S s 6 * sQ S s 5 := rfl
  have q2 : g ≤ j / sQ S s 6 := (Int.le_ediv_iff_mul_le (by omega)).mpr (by rw [Int.mul_comm]; exact j1)
  have e2 : g * sQ S s 5 ≤ j / sQ S s 6 * sQ S s 5 := Int.mul_le_mul_of_nonneg_right q2 (by omega)
  have jr2 : j < gps S s * sQ S s 6 := jr
  have q := (Int.ediv_lt_iff_lt_mul (c := sQ S s 6) (by omega)).mpr jr2
  unfold isG at hg
  omega
theorem rem_s (hk : scOK S) {s g : Int} (s1 : 0 ≤ s) (s2 : s < sNs S) (g0 : 0 ≤ g) (g1 : g < gps S s) : (rts S s - sQ S s 6 * g).toNat = (sQ S s 6).toNat + (rts S s - sQ S s 6 * (g + 1)).toNat ∧ sQ S s 6 * g + ((sQ S s 6).toNat : Int) = sQ S s 6 * (g + 1) := by
  obtain ⟨z0, -, z4, z5, z6, z7, z8, z9⟩ := hk.2.2.2.2.2 s s1 s2
  have m3 : sQ S s 6 * (g + 1) ≤ sQ S s 6 * gps S s := Int.mul_le_mul_of_nonneg_left (by omega) (by omega)
  have e : sQ S s 6 * (g + 1) = sQ S s 6 * g + sQ S s 6 := by rw [Int.mul_add, Int.mul_one]
  rw [← rts_q] at m3
  omega
theorem mB62 (hk : scOK S) {s T : Int} (s1 : 0 ≤ s) (s2 : s < sNs S) (T0 : 0 ≤ T) (T1 : T ≤ 40000) : ∀ (r n : Nat) (g a : Int) (l : Int32) (M : am_M), SH M → MS M S → 0 ≤ g → g ≤ 42000 → 0 ≤ a → a < 100000 → gps S s ≤ g + r → r < n → ∃ M', F_Md_bornIn_L62 n 70 (iz s) (iz T) (iz 0) (iz (sQ S s 6)) (iz a) l (iz g) M = some (some (.int (iz (cdK s (sc0 (bornR S s) T (rts S s - sQ S s 6 * g).toNat (sQ S s 6 * g) a).1))), M') ∧ Fr A39 M M' ∧ ((sc0 (bornR S s) T (rts S s - sQ S s 6 * g).toNat (sQ S s 6 * g) a).1 = -1 → rI M' 70 39 = iz (sc0 (bornR S s) T (rts S s - sQ S s 6 * g).toNat (sQ S s 6 * g) a).2)
  | r, 0, g, a, l, M, h, hm, q1, q2, q3, q4, q5, q6 => by omega
  | r, n + 1, g, a, l, M, h, hm, q1, q2, q3, q4, q5, q6 => by
    obtain ⟨z0, -, z4, z5, z6, z7, z8, z9⟩ := hk.2.2.2.2.2 s s1 s2
    have fg := fu_ge
    have gb := gps_bd hk s1 s2
    have m1 : 0 ≤ sQ S s 6 * g := Int.mul_nonneg (by omega) q1
    rcases mIsG h hm hk s1 s2 T0 T1 q1 (show g ≤ 1000000 by omega) with ⟨i1, i2⟩ | ⟨i1, i2⟩
    · have i3 : g < gps S s := i1.1
      obtain ⟨l', e1⟩ := mB80 h hm hk (F_Md_bornIn_L62 n) s1 s2 T0 (show T < 50000 by omega) q1 i3 (sQ S s 6).toNat fu (sQ S s 6 * g) a l q3 q4 (by omega) (by omega) (by omega)
      obtain ⟨rs1, rs2⟩ := rem_s hk s1 s2 q1 i3
      have hd : F_Md_bornIn_L62 (n + 1) 70 (iz s) (iz T) (iz 0) (iz (sQ S s 6)) (iz a) l (iz g) M = F_Md_bornIn_L80 (F_Md_bornIn_L62 n) fu 70 (iz s) (iz T) (iz 0) (iz (sQ S s 6)) (iz a) l (iz g) (iz (sQ S s 6 * g)) M := by
        rw [F_Md_bornIn_L62, cv_eq (kd_70 h), i2, bI_eq, if_neg (by decide), iz_mul, nm_eq]
      rw [hd, e1, rs1, sc0_app (sQ S s 6).toNat _ _ _ m1, rs2]
      by_cases y : (sc0 (bornR S s) T (sQ S s 6).toNat (sQ S s 6 * g) a).1 = -1
      · rw [if_pos y, if_pos y]
        have ab : 0 ≤ (sc0 (bornR S s) T (sQ S s 6).toNat (sQ S s 6 * g) a).2 ∧ (sc0 (bornR S s) T (sQ S s 6).toNat (sQ S s 6 * g) a).2 < 100000 := by
          have nn := ind_nn (f := bornR S s) (T := T) (sQ S s 6).toNat (sQ S s 6 * g)
          rcases Int.lt_or_le a (smF (ind (bornR S s) T) (sQ S s 6).toNat (sQ S s 6 * g) 0) with z | z
          · have := sc0_yes _ _ a q3 z; omega
          · rw [sc0_no _ _ a z]; exact ⟨by show 0 ≤ a - _; omega, by show a - _ < 100000; omega⟩
        cases r with
        | zero => omega
        | succ r => exact mB62 hk s1 s2 T0 T1 r n (g + 1) _ l' M h hm (by omega) (by omega) ab.1 ab.2 (by omega) (by omega)
      · rw [if_neg y, if_neg y]
        exact ⟨M, rfl, Fr.refl M, fun z => absurd z y⟩
    · rw [sc0_sk _ _ a (g_end hk s1 s2 q1 i1)]
      refine ⟨wI M 70 39 (iz a), ?_, Fr.wI ⟨rfl, rfl⟩, fun _ => rI_at rfl rfl⟩
      rw [F_Md_bornIn_L62, cv_eq (kd_70 h), i2, bI_eq, if_pos (by decide), sI_eq (kd_70 h), if_pos (show iz 0 = 0 from rfl)]
      rfl
/-- nothing ahead of the first group -/
def glo (S : Sc) (s T : Int) : Int := if 0 < T - sQ S s 8 - sQ S s 4 then (T - sQ S s 8 - sQ S s 4 + sQ S s 5 - 1) / sQ S s 5 else 0
theorem glo_bd (hk : scOK S) {s T : Int} (s1 : 0 ≤ s) (s2 : s < sNs S) (T1 : T ≤ 40000) : 0 ≤ glo S s T ∧ glo S s T ≤ 41000 := by
  obtain ⟨z0, -, z4, z5, z6, z7, z8, z9⟩ := hk.2.2.2.2.2 s s1 s2
  unfold glo
  split
  · have a1 := Int.ediv_nonneg (a := T - sQ S s 8 - sQ S s 4 + sQ S s 5 - 1) (b := sQ S s 5) (by omega) (by omega)
    have a2 := Int.ediv_le_self (a := T - sQ S s 8 - sQ S s 4 + sQ S s 5 - 1) (sQ S s 5) (by omega)
    omega
  · omega
theorem glo_no (hk : scOK S) {s T : Int} (s1 : 0 ≤ s) (s2 : s < sNs S) : ∀ j, 0 ≤ j → j < sQ S s 6 * glo S s T → j < rts S s → bornR S s j ≠ T := fun j j1 j2 jr => by
  obtain ⟨z0, -, z4, z5, z6, z7, z8, z9⟩ := hk.2.2.2.2.2 s s1 s2
  have bb := bornR_bd hk s1 s2 j1 jr
  have ep : plT S s j = sQ S s 4 + j / sQ S s 6 * sQ S s 5 := rfl
  have q := (Int.ediv_lt_iff_lt_mul (c := sQ S s 6) (by omega)).mpr (show j < glo S s T * sQ S s 6 by rw [Int.mul_comm]; exact j2)
  have q0 : 0 ≤ j / sQ S s 6 := Int.ediv_nonneg j1 (by omega)
  unfold glo at q
  by_cases g : 0 < T - sQ S s 8 - sQ S s 4
  · rw [if_pos g] at q
    have e1 := Int.ediv_mul_le (T - sQ S s 8 - sQ S s 4 + sQ S s 5 - 1) (b := sQ S s 5) (by omega)
    generalize (T - sQ S s 8 - sQ S s 4 + sQ S s 5 - 1) / sQ S s 5 = f at q e1
    have e2 : j / sQ S s 6 * sQ S s 5 ≤ (f - 1) * sQ S s 5 := Int.mul_le_mul_of_nonneg_right (by omega) (by omega)
    rw [Int.sub_mul] at e2
    omega
  · rw [if_neg g] at q
    omega
theorem mBIh (h : SH M) (hm : MS M S) (hk : scOK S) {s T : Int} (s1 : 0 ≤ s) (s2 : s < sNs S) (T0 : 0 ≤ T) (T1 : T ≤ 40000) (a v4 : Int32) : F_Md_bornIn 70 (iz s) (iz T) a v4 M = F_Md_bornIn_L62 fu 70 (iz s) (iz T) v4 (iz (sQ S s 6)) a (iz (-1)) (iz (glo S s T)) M := by
  obtain ⟨z0, -, z4, z5, z6, z7, z8, z9⟩ := hk.2.2.2.2.2 s s1 s2
  have ns := hk.2.2.1
  unfold F_Md_bornIn glo
  rw [cv_eq (kd_70 h), show (6 : Int32) = iz 6 from rfl, show (5 : Int32) = iz 5 from rfl, show (8 : Int32) = iz 8 from rfl, show (4 : Int32) = iz 4 from rfl, mQ h hm (by omega) s1 s2 (by omega) (by omega), bI_eq, cv_eq (kd_70 h), mQ h hm (by omega) s1 s2 (by omega) (by omega), bI_eq, cv_eq (kd_70 h), mQ h hm (by omega) s1 s2 (by omega) (by omega), bI_eq, cv_eq (kd_70 h), mQ h hm (by omega) s1 s2 (by omega) (by omega), bI_eq, iz_sub, iz_sub, nm_eq, show (0 : Int32) = iz 0 from rfl, ifL (by omega) (by omega) (by omega) (by omega), dZ_eq (by omega) (by omega), iz_add, show (-1 : Int32) = iz (-1) from rfl, show (1 : Int32) = iz 1 from rfl, iz_sub, nm_eq]
  by_cases g : 0 < T - sQ S s 8 - sQ S s 4
  · rw [if_pos g, if_pos g, iz_ediv (by omega) (by omega) (by omega) (by omega)]
  · rw [if_neg g, if_neg g]
theorem pre_r (hk : scOK S) {s T : Int} (s1 : 0 ≤ s) (s2 : s < sNs S) (T1 : T ≤ 40000) : ∃ p : Nat, (rts S s).toNat = p + (rts S s - sQ S s 6 * glo S s T).toNat ∧ (∀ j, (0 : Int) ≤ j → j < 0 + p → bornR S s j ≠ T) ∧ ((p : Int) = sQ S s 6 * glo S s T ∨ (rts S s - sQ S s 6 * glo S s T).toNat = 0) := by
  have rb := rts_bd hk s1 s2
  obtain ⟨z0, -, z4, z5, z6, z7, z8, z9⟩ := hk.2.2.2.2.2 s s1 s2
  have gb := glo_bd hk s1 s2 T1
  have m1 : 0 ≤ sQ S s 6 * glo S s T := Int.mul_nonneg (by omega) gb.1
  rcases Int.lt_or_le (rts S s) (sQ S s 6 * glo S s T) with q | q
  · refine ⟨(rts S s).toNat, by omega, fun j j1 j2 => glo_no hk s1 s2 j j1 (by omega) (by omega), Or.inr (by omega)⟩
  · exact ⟨(sQ S s 6 * glo S s T).toNat, by omega, fun j j1 j2 => glo_no hk s1 s2 j j1 (by omega) (by omega), Or.inl (by omega)⟩
theorem mBI0 (h : SH M) (hm : MS M S) (hk : scOK S) {s T a : Int} (s1 : 0 ≤ s) (s2 : s < sNs S) (T0 : 0 ≤ T) (T1 : T ≤ 40000) (a0 : 0 ≤ a) (a1 : a < 100000) : ∃ M', F_Md_bornIn 70 (iz s) (iz T) (iz a) (iz 0) M = some (some (.int (iz (cdK s (sc0 (bornR S s) T (rts S s).toNat 0 a).1))), M') ∧ Fr A39 M M' ∧ ((sc0 (bornR S s) T (rts S s).toNat 0 a).1 = -1 → rI M' 70 39 = iz (sc0 (bornR S s) T (rts S s).toNat 0 a).2) := by
  have gb := glo_bd hk s1 s2 T1
  have gp := gps_bd hk s1 s2
  have fg := fu_ge
  obtain ⟨p, p1, p2, p3⟩ := pre_r hk s1 s2 T1
  have e : sc0 (bornR S s) T (rts S s).toNat 0 a = sc0 (bornR S s) T (rts S s - sQ S s 6 * glo S s T).toNat (sQ S s 6 * glo S s T) a := by
    rw [p1, sc0_app p _ 0 a (by omega), sc0_sk p 0 a p2, if_pos rfl, Int.zero_add]
    rcases p3 with z | z
    · rw [z]
    · rw [z]; rfl
  rw [mBIh h hm hk s1 s2 T0 T1, e]
  exact mB62 hk s1 s2 T0 T1 (gps S s).toNat fu (glo S s T) a (iz (-1)) M h hm gb.1 (by omega) a0 a1 (by omega) (by omega)
/-! the last one -/
theorem mC80 (h : SH M) (hm : MS M S) (hk : scOK S) (k62 : Nat → Int32 → Int32 → Int32 → Int32 → Int32 → Int32 → Int32 → am_M → am_R) {s T g : Int} (s1 : 0 ≤ s) (s2 : s < sNs S) (T0 : 0 ≤ T) (T1 : T < 50000) (g0 : 0 ≤ g) (g1 : g < gps S s) : ∀ (r n : Nat) (k l : Int) (a : Int32), -1 ≤ l → sQ S s 6 * g ≤ k → k + r = sQ S s 6 * g + sQ S s 6 → r < n → ∃ a', F_Md_bornIn_L80 k62 n 70 (iz s) (iz T) (iz 1) (iz (sQ S s 6)) a (iz (cdK s l)) (iz g) (iz k) M = k62 70 (iz s) (iz T) (iz 1) (iz (sQ S s 6)) a' (iz (cdK s (lsI (bornR S s) T r k l))) (iz (g + 1)) M
  | r, 0, k, l, a, q2, q3, q4, q5 => by omega
  | 0, n + 1, k, l, a, q2, q3, q4, q5 => by
    obtain ⟨z0, -, z4, z5, z6, z7, z8, z9⟩ := hk.2.2.2.2.2 s s1 s2
    have gb := gps_bd hk s1 s2
    have m1 : 0 ≤ sQ S s 6 * g := Int.mul_nonneg (by omega) g0
    have m2 : sQ S s 6 * g ≤ 5 * 10000 := Int.mul_le_mul (by omega) (by omega) (by omega) (by omega)
    refine ⟨a, ?_⟩
    rw [lsI, F_Md_bornIn_L80, iz_mul, iz_add, ifE (by omega) (by omega) (by omega) (by omega), if_pos (by omega), nm_eq, show (1 : Int32) = iz 1 from rfl, iz_add]
  | r + 1, n + 1, k, l, a, q2, q3, q4, q5 => by
    obtain ⟨z0, -, z4, z5, z6, z7, z8, z9⟩ := hk.2.2.2.2.2 s s1 s2
    have ns := hk.2.2.1
    have gb := gps_bd hk s1 s2
    have rb := rts_bd hk s1 s2
    have m1 : 0 ≤ sQ S s 6 * g := Int.mul_nonneg (by omega) g0
    have m2 : sQ S s 6 * g ≤ 5 * 10000 := Int.mul_le_mul (by omega) (by omega) (by omega) (by omega)
    have m3 : sQ S s 6 * (g + 1) ≤ sQ S s 6 * gps S s := Int.mul_le_mul_of_nonneg_left (by omega) (by omega)
    rw [Int.mul_add, Int.mul_one, ← rts_q] at m3
    have bb := bornR_bd hk s1 s2 (k := k) (by omega) (by omega)
    have ih := fun l a q2 => mC80 h hm hk k62 s1 s2 T0 T1 g0 g1 r n (k + 1) l a q2 (by omega) (by omega) (by omega)
    have hd : F_Md_bornIn_L80 k62 (n + 1) 70 (iz s) (iz T) (iz 1) (iz (sQ S s 6)) a (iz (cdK s l)) (iz g) (iz k) M = if bornR S s k = T then F_Md_bornIn_L80 k62 n 70 (iz s) (iz T) (iz 1) (iz (sQ S s 6)) (a + (-1)) (iz (256 * (4 * k + s))) (iz g) (iz (k + 1)) M else F_Md_bornIn_L80 k62 n 70 (iz s) (iz T) (iz 1) (iz (sQ S s 6)) a (iz (cdK s l)) (iz g) (iz (k + 1)) M := by
      rw [F_Md_bornIn_L80, iz_mul, iz_add, ifE (by omega) (by omega) (by omega) (by omega), if_neg (by omega), cv_eq (kd_70 h), show (4 : Int32) = iz 4 from rfl, iz_mul, iz_add, mBorn h hm hk s1 s2 (by omega) (by omega), bI_eq, ifQ (by omega) (by omega) (by omega) (by omega), show (256 : Int32) = iz 256 from rfl, iz_mul, nm_eq, if_neg (show ¬ iz 1 = 0 by decide), ite_self, nm_eq, nm_eq, nm_eq, show (iz k + 1 : Int32) = iz (k + 1) from iz_add k 1]
    rw [hd, lsI]
    by_cases g : bornR S s k = T
    · rw [if_pos g, if_pos g]
      have : 256 * (4 * k + s) = cdK s k := by unfold cdK; rw [if_neg (by omega)]
      rw [this]
      exact ih k _ (by omega)
    · rw [if_neg g, if_neg g]
      exact ih l a q2
theorem mC62 (hk : scOK S) {s T : Int} (s1 : 0 ≤ s) (s2 : s < sNs S) (T0 : 0 ≤ T) (T1 : T ≤ 40000) : ∀ (r n : Nat) (g l : Int) (a : Int32) (M : am_M), SH M → MS M S → 0 ≤ g → g ≤ 42000 → -1 ≤ l → gps S s ≤ g + r → r < n → ∃ M', F_Md_bornIn_L62 n 70 (iz s) (iz T) (iz 1) (iz (sQ S s 6)) a (iz (cdK s l)) (iz g) M = some (some (.int (iz (cdK s (lsI (bornR S s) T (rts S s - sQ S s 6 * g).toNat (sQ S s 6 * g) l)))), M') ∧ Fr A39 M M'
  | r, 0, g, l, a, M, h, hm, q1, q2, q3, q5, q6 => by omega
  | r, n + 1, g, l, a, M, h, hm, q1, q2, q3, q5, q6 => by
    obtain ⟨z0, -, z4, z5, z6, z7, z8, z9⟩ := hk.2.2.2.2.2 s s1 s2
    have fg := fu_ge
    have gb := gps_bd hk s1 s2
    have m1 : 0 ≤ sQ S s 6 * g := Int.mul_nonneg (by omega) q1
    rcases mIsG h hm hk s1 s2 T0 T1 q1 (show g ≤ 1000000 by omega) with ⟨i1, i2⟩ | ⟨i1, i2⟩
    · have i3 : g < gps S s := i1.1
      obtain ⟨a', e1⟩ := mC80 h hm hk (F_Md_bornIn_L62 n) s1 s2 T0 (show T < 50000 by omega) q1 i3 (sQ S s 6).toNat fu (sQ S s 6 * g) l a q3 (by omega) (by omega) (by omega)
      obtain ⟨rs1, rs2⟩ := rem_s hk s1 s2 q1 i3
      have hd : F_Md_bornIn_L62 (n + 1) 70 (iz s) (iz T) (iz 1) (iz (sQ S s 6)) a (iz (cdK s l)) (iz g) M = F_Md_bornIn_L80 (F_Md_bornIn_L62 n) fu 70 (iz s) (iz T) (iz 1) (iz (sQ S s 6)) a (iz (cdK s l)) (iz g) (iz (sQ S s 6 * g)) M := by
        rw [F_Md_bornIn_L62, cv_eq (kd_70 h), i2, bI_eq, if_neg (by decide), iz_mul, nm_eq]
      have lb : -1 ≤ lsI (bornR S s) T (sQ S s 6).toNat (sQ S s 6 * g) l := by
        have nn := ind_nn (f := bornR S s) (T := T) (sQ S s 6).toNat (sQ S s 6 * g)
        rw [lsI_e]
        split
        · exact q3
        · have := sc0_yes (f := bornR S s) (T := T) (sQ S s 6).toNat (sQ S s 6 * g) (smF (ind (bornR S s) T) (sQ S s 6).toNat (sQ S s 6 * g) 0 - 1) (by omega) (by omega)
          omega
      rw [hd, e1, rs1, lsI_app, rs2]
      cases r with
      | zero => omega
      | succ r => exact mC62 hk s1 s2 T0 T1 r n (g + 1) _ a' M h hm (by omega) (by omega) lb (by omega) (by omega)
    · rw [lsI_sk _ _ l (g_end hk s1 s2 q1 i1)]
      refine ⟨wI M 70 39 a, ?_, Fr.wI ⟨rfl, rfl⟩⟩
      rw [F_Md_bornIn_L62, cv_eq (kd_70 h), i2, bI_eq, if_pos (by decide), sI_eq (kd_70 h), if_neg (by decide)]
theorem mBI1 (h : SH M) (hm : MS M S) (hk : scOK S) {s T : Int} (s1 : 0 ≤ s) (s2 : s < sNs S) (T0 : 0 ≤ T) (T1 : T ≤ 40000) (a : Int32) : ∃ M', F_Md_bornIn 70 (iz s) (iz T) a (iz 1) M = some (some (.int (iz (cdK s (lsI (bornR S s) T (rts S s).toNat 0 (-1))))), M') ∧ Fr A39 M M' := by
  have gb := glo_bd hk s1 s2 T1
  have gp := gps_bd hk s1 s2
  have fg := fu_ge
  obtain ⟨p, p1, p2, p3⟩ := pre_r hk s1 s2 T1
  have e : lsI (bornR S s) T (rts S s).toNat 0 (-1) = lsI (bornR S s) T (rts S s - sQ S s 6 * glo S s T).toNat (sQ S s 6 * glo S s T) (-1) := by
    rw [p1, lsI_app, lsI_sk p 0 (-1) p2, Int.zero_add]
    rcases p3 with z | z
    · rw [z]
    · rw [z]; rfl
  rw [mBIh h hm hk s1 s2 T0 T1, e]
  exact mC62 hk s1 s2 T0 T1 (gps S s).toNat fu (glo S s T) (-1) a M h hm gb.1 (by omega) (by omega) (by omega) (by omega)
end Born2
