/-! ===== born before a tick; births ===== -/
section Births2
variable {M : am_M} {S : Sc}
noncomputable def inB (S : Sc) (s t k : Int) : Int := if bornR S s k < t then 1 else 0
/-- how many of a source are born before t -/
noncomputable def nB (S : Sc) (s t : Int) : Int := smF (inB S s t) (rts S s).toNat 0 0
theorem cBBL (h : SH M) (hc : CS M S) (hk : scOK S) {s t : Int} (h1 : 0 ≤ s) (h2 : s < sNs S) (t1 : -1000000000 ≤ t) (t2 : t < 1000000000) {hi : Int} (hh : hi ≤ rts S s) : ∀ (r n : Nat) (k v : Int), 0 ≤ k → k + r = hi → r < n → F_Scen_bornBefore_L48 n 2 (iz s) (iz t) (iz hi) (iz v) (iz k) M = some (some (.int (iz (smF (inB S s t) r k v))), M)
  | r, 0, k, v, q1, q2, q3 => by omega
  | 0, n + 1, k, v, q1, q2, q3 => by
    have rb := rts_bd hk h1 h2
    rw [F_Scen_bornBefore_L48, ifE (by omega) (by omega) (by omega) (by omega), if_pos (by omega)]; rfl
  | r + 1, n + 1, k, v, q1, q2, q3 => by
    have rb := rts_bd hk h1 h2
    have bb := bornR_bd hk h1 h2 q1 (by omega)
    have ih := fun v => cBBL h hc hk h1 h2 t1 t2 hh r n (k + 1) v (by omega) (by omega) (by omega)
    rw [F_Scen_bornBefore_L48, ifE (by omega) (by omega) (by omega) (by omega), if_neg (by omega), cv_eq (kd_2 h), cBirth h hc hk h1 h2 q1 (by omega), bI_eq, ifE (by omega) (by omega) (by omega) (by omega), nm_eq, nm_eq, nm_eq, show (1 : Int32) = iz 1 from rfl, iz_add, iz_add, ih, ih, smF]
    unfold inB
    by_cases g : t ≤ bornR S s k
    · rw [if_pos g, if_neg (by omega), Int.add_zero]
    · rw [if_neg g, if_pos (by omega)]
theorem cBB (h : SH M) (hc : CS M S) (hk : scOK S) {s t : Int} (h1 : 0 ≤ s) (h2 : s < sNs S) (t1 : -100000000 ≤ t) (t2 : t < 100000000) : F_Scen_bornBefore 2 (iz s) (iz t) M = some (some (.int (iz (nB S s t))), M) := by
  obtain ⟨z0, -, z4, z5, z6, z7, z8, z9⟩ := hk.2.2.2.2.2 s h1 h2
  have ns := hk.2.2.1
  have rb := rts_bd hk h1 h2
  have fg := fu_ge
  have b1 := buT_bd hk h1 h2 (t - 1 - sQ S s 8)
  have b2 := buT_bd hk h1 h2 (t - 1)
  have bm := buT_mono hk h1 h2 (t := t - 1 - sQ S s 8) (u := t - 1) (by omega)
  have m1 : 0 ≤ buT S s (t - 1 - sQ S s 8) * sQ S s 6 := Int.mul_nonneg b1.1 (by omega)
  have m2 : buT S s (t - 1 - sQ S s 8) * sQ S s 6 ≤ buT S s (t - 1) * sQ S s 6 := Int.mul_le_mul_of_nonneg_right bm (by omega)
  have m3 : buT S s (t - 1) * sQ S s 6 ≤ rts S s := Int.mul_le_mul_of_nonneg_right b2.2 (by omega)
  obtain ⟨lo, hlo⟩ : ∃ lo : Nat, (lo : Int) = buT S s (t - 1 - sQ S s 8) * sQ S s 6 := ⟨(buT S s (t - 1 - sQ S s 8) * sQ S s 6).toNat, by omega⟩
  obtain ⟨md, hmd⟩ : ∃ md : Nat, (lo : Int) + md = buT S s (t - 1) * sQ S s 6 := ⟨(buT S s (t - 1) * sQ S s 6 - lo).toNat, by omega⟩
  obtain ⟨up, hup⟩ : ∃ up : Nat, (rts S s).toNat = lo + (md + up) := ⟨(rts S s).toNat - lo - md, by omega⟩
  have i1 : ∀ b, (0 : Int) ≤ b → b < 0 + lo → inB S s t b = 1 := fun b q1 q2 => by
    have := (buT_iff hk h1 h2 (t := t - 1 - sQ S s 8) q1 (by omega)).mp (by omega)
    have bb := bornR_bd hk h1 h2 q1 (by omega)
    unfold inB
    rw [if_pos (by omega)]
  have i2 : ∀ b, (0 : Int) + lo + md ≤ b → b < 0 + lo + md + up → inB S s t b = 0 := fun b q1 q2 => by
    have : ¬ plT S s b ≤ t - 1 := fun q => by
      have := (buT_iff hk h1 h2 (t := t - 1) (k := b) (by omega) (by omega)).mpr q
      omega
    have bb := bornR_bd hk h1 h2 (k := b) (by omega) (by omega)
    unfold inB
    rw [if_neg (by omega)]
  have e : nB S s t = smF (inB S s t) md lo lo := by
    unfold nB
    rw [hup, smF_app, smF_app, smF_c _ 0 up _ _ i2, smF_c _ 1 lo 0 0 i1]
    rw [show (0 : Int) + (lo : Int) * 1 = lo by omega, Int.mul_zero, Int.add_zero, show (0 : Int) + (lo : Int) = lo by omega]
  rw [e]
  unfold F_Scen_bornBefore
  rw [cv_eq (kd_2 h), show (6 : Int32) = iz 6 from rfl, show (8 : Int32) = iz 8 from rfl, show (1 : Int32) = iz 1 from rfl, cQ h hc h1 (by omega) (by omega) (by omega), bI_eq, cv_eq (kd_2 h), cQ h hc h1 (by omega) (by omega) (by omega), bI_eq, cv_eq (kd_2 h), iz_sub, iz_sub, cBursts h hc hk h1 h2 (by omega) (by omega), bI_eq, iz_mul, nm_eq, cv_eq (kd_2 h), cBursts h hc hk h1 h2 (by omega) (by omega), bI_eq, iz_mul, nm_eq, ← hlo, ← hmd]
  exact cBBL h hc hk h1 h2 (by omega) (by omega) (by omega) md fu lo lo (by omega) rfl (by omega)
end Births2
