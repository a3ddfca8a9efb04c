/-! ===== births ===== -/
section Births
variable {M : am_M} {S : Sc}
/-- bursts planned up to a tick -/
def buT (S : Sc) (s t : Int) : Int := if min t (sQ S s 7) < sQ S s 4 then 0 else (min t (sQ S s 7) - sQ S s 4) / sQ S s 5 + 1
theorem cBursts (h : SH M) (hc : CS M S) (hk : scOK S) {s t : Int} (h1 : 0 ≤ s) (h2 : s < sNs S) (t1 : -1000000000 ≤ t) (t2 : t < 1000000000) : F_Scen_burstsUpTo 2 (iz s) (iz t) M = some (some (.int (iz (buT S s t))), M) := by
  obtain ⟨z0, -, z4, z5, z6, z7, z8, z9⟩ := hk.2.2.2.2.2 s h1 h2
  have ns := hk.2.2.1
  unfold F_Scen_burstsUpTo buT
  rw [cv_eq (kd_2 h), show (4 : Int32) = iz 4 from rfl, show (7 : Int32) = iz 7 from rfl, show (5 : Int32) = iz 5 from rfl, cQ h hc h1 (by omega) (by omega) (by omega), bI_eq, cv_eq (kd_2 h), cQ h hc h1 (by omega) (by omega) (by omega), bI_eq, min_eq (by omega) (by omega) (by omega) (by omega), bI_eq, cv_eq (kd_2 h), cQ h hc h1 (by omega) (by omega) (by omega), bI_eq, ifL (by omega) (by omega) (by omega) (by omega), show (1 : Int32) = iz 1 from rfl, ifE (by omega) (by omega) (by omega) (by omega), if_pos (show 1 ≤ sQ S s 5 from z5.1), dZ_eq (by omega) (by omega), iz_sub]
  by_cases g : min t (sQ S s 7) < sQ S s 4
  · rw [if_pos g, if_pos g]; rfl
  · rw [if_neg g, if_neg g, iz_ediv (by omega) (by omega) (by omega) (by omega), iz_add]
theorem buT_bd (hk : scOK S) {s : Int} (h1 : 0 ≤ s) (h2 : s < sNs S) (t : Int) : 0 ≤ buT S s t ∧ buT S s t ≤ gps S s := by
  obtain ⟨z0, -, z4, z5, z6, z7, z8, z9⟩ := hk.2.2.2.2.2 s h1 h2
  have gp := gps_bd hk h1 h2
  unfold buT
  split
  · omega
  · rename_i g
    have a1 : 0 ≤ (min t (sQ S s 7) - sQ S s 4) / sQ S s 5 := Int.ediv_nonneg (by omega) (by omega)
    have a2 : (min t (sQ S s 7) - sQ S s 4) / sQ S s 5 ≤ (sQ S s 7 - sQ S s 4) / sQ S s 5 := Int.ediv_le_ediv (by omega) (by omega)
    refine ⟨by omega, ?_⟩
    unfold gps
    rw [if_neg (by omega)]
    omega
theorem buT_mono (hk : scOK S) {s : Int} (h1 : 0 ≤ s) (h2 : s < sNs S) {t u : Int} (h : t ≤ u) : buT S s t ≤ buT S s u := by
  obtain ⟨z0, -, z4, z5, z6, z7, z8, z9⟩ := hk.2.2.2.2.2 s h1 h2
  unfold buT
  by_cases g : min t (sQ S s 7) < sQ S s 4
  · rw [if_pos g]
    have := (buT_bd hk h1 h2 u).1
    unfold buT at this
    exact this
  · rw [if_neg g, if_neg (by omega)]
    have : (min t (sQ S s 7) - sQ S s 4) / sQ S s 5 ≤ (min u (sQ S s 7) - sQ S s 4) / sQ S s 5 := Int.ediv_le_ediv (by omega) (by omega)
    omega
/-- a root is planned by then, exactly if it is among these -/
theorem buT_iff (hk : scOK S) {s : Int} (h1 : 0 ≤ s) (h2 : s < sNs S) {k t : Int} (k1 : 0 ≤ k) (k2 : k < rts S s) : k < buT S s t * sQ S s 6 ↔ plT S s k ≤ t := by
  obtain ⟨z0, -, z4, z5, z6, z7, z8, z9⟩ := hk.2.2.2.2.2 s h1 h2
  have pb := plT_bd hk h1 h2 k1 k2
  have q0 : 0 ≤ k / sQ S s 6 := Int.ediv_nonneg k1 (by omega)
  have e : k < buT S s t * sQ S s 6 ↔ k / sQ S s 6 < buT S s t := (Int.ediv_lt_iff_lt_mul (by omega)).symm
  rw [e]
  have p0 : 0 ≤ k / sQ S s 6 * sQ S s 5 := Int.mul_nonneg q0 (by omega)
  have ep : plT S s k = sQ S s 4 + k / sQ S s 6 * sQ S s 5 := rfl
  unfold buT
  by_cases g : min t (sQ S s 7) < sQ S s 4
  · rw [if_pos g]
    omega
  · rw [if_neg g]
    have e2 : k / sQ S s 6 ≤ (min t (sQ S s 7) - sQ S s 4) / sQ S s 5 ↔ k / sQ S s 6 * sQ S s 5 ≤ min t (sQ S s 7) - sQ S s 4 := Int.le_ediv_iff_mul_le (by omega)
    omega
theorem smF_app (f : Int → Int) : ∀ (m n : Nat) (a v : Int), smF f (m + n) a v = smF f n (a + m) (smF f m a v)
  | 0, n, a, v => by rw [Nat.zero_add, smF, show a + ((0 : Nat) : Int) = a by omega]
  | m + 1, n, a, v => by rw [show m + 1 + n = (m + n) + 1 by omega, smF, smF, smF_app f m n (a + 1), show a + 1 + (m : Int) = a + ((m + 1 : Nat) : Int) by omega]
theorem smF_c (f : Int → Int) (c : Int) : ∀ (m : Nat) (a v : Int), (∀ b, a ≤ b → b < a + m → f b = c) → smF f m a v = v + m * c
  | 0, a, v, h => by rw [smF]; simp
  | m + 1, a, v, h => by
    rw [smF, smF_c f c m (a + 1) _ (fun b q1 q2 => h b (by omega) (by omega)), h a (by omega) (by omega), show ((m + 1 : Nat) : Int) = (m : Int) + 1 by omega, Int.add_mul]
    omega
theorem smF_v (f : Int → Int) : ∀ (m : Nat) (a v w : Int), smF f m a (v + w) = smF f m a v + w
  | 0, a, v, w => rfl
  | m + 1, a, v, w => by rw [smF, smF, show v + w + f a = (v + f a) + w by omega, smF_v f m]
end Births
