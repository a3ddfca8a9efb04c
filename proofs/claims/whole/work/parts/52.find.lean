/-! ===== the finder; births ===== -/
section Find
variable {M : am_M} {S : Sc}
def plT (S : Sc) (s k : Int) : Int := sQ S s 4 + k / sQ S s 6 * sQ S s 5
theorem plT_bd (hk : scOK S) {s k : Int} (h1 : 0 ≤ s) (h2 : s < sNs S) (h3 : 0 ≤ k) (h4 : k < rts S s) : sQ S s 4 ≤ plT S s k ∧ plT S s k ≤ sQ S s 7 := by
  obtain ⟨z0, -, z4, z5, z6, z7, z8, z9⟩ := hk.2.2.2.2.2 s h1 h2
  have q0 : 0 ≤ k / sQ S s 6 := Int.ediv_nonneg h3 (by omega)
  have p0 : 0 ≤ k / sQ S s 6 * sQ S s 5 := Int.mul_nonneg q0 (by omega)
  unfold plT
  refine ⟨by omega, ?_⟩
  unfold rts at h4
  have q1 : k / sQ S s 6 < gps S s := Int.ediv_lt_of_lt_mul (by omega) h4
  unfold gps at q1
  split at q1
  · omega
  · have q2 : k / sQ S s 6 ≤ (sQ S s 7 - sQ S s 4) / sQ S s 5 := by omega
    have q3 := Int.mul_le_mul_of_nonneg_right q2 (c := sQ S s 5) (by omega)
    have q4 := Int.ediv_mul_le (sQ S s 7 - sQ S s 4) (b := sQ S s 5) (by omega)
    omega
theorem bornR_bd (hk : scOK S) {s k : Int} (h1 : 0 ≤ s) (h2 : s < sNs S) (h3 : 0 ≤ k) (h4 : k < rts S s) : plT S s k ≤ bornR S s k ∧ bornR S s k ≤ plT S s k + sQ S s 8 ∧ 0 ≤ bornR S s k ∧ bornR S s k ≤ 10019 := by
  obtain ⟨z0, -, z4, z5, z6, z7, z8, z9⟩ := hk.2.2.2.2.2 s h1 h2
  have p := plT_bd hk h1 h2 h3 h4
  have d := dr_bd S (256 * (4 * k + s)) 0 (n := sQ S s 8 + 1) (by omega)
  have e : bornR S s k = plT S s k + dr S (256 * (4 * k + s)) 0 (sQ S s 8 + 1) := rfl
  omega
theorem cPlan (h : SH M) (hc : CS M S) (hk : scOK S) {s k : Int} (h1 : 0 ≤ s) (h2 : s < sNs S) (h3 : 0 ≤ k) (h4 : k < 100000) : F_Scen_plannedTick 2 (iz s) (iz k) M = some (some (.int (iz (plT S s k))), M) := by
  obtain ⟨z0, -, z4, z5, z6, z7, z8, z9⟩ := hk.2.2.2.2.2 s h1 h2
  have ns := hk.2.2.1
  unfold F_Scen_plannedTick plT
  rw [cv_eq (kd_2 h), show (6 : Int32) = iz 6 from rfl, show (1 : Int32) = iz 1 from rfl, show (4 : Int32) = iz 4 from rfl, show (5 : Int32) = iz 5 from rfl, cQ h hc h1 (by omega) (by omega) (by omega), bI_eq, max_eq (by omega) (by omega) (by omega) (by omega), bI_eq, Int.max_eq_right (by omega), cv_eq (kd_2 h), cQ h hc h1 (by omega) (by omega) (by omega), bI_eq, dZ_eq (by omega) (by omega), cv_eq (kd_2 h), cQ h hc h1 (by omega) (by omega) (by omega), bI_eq, iz_ediv h3 (by omega) (by omega) (by omega), iz_mul, iz_add]
theorem cBirth (h : SH M) (hc : CS M S) (hk : scOK S) {s k : Int} (h1 : 0 ≤ s) (h2 : s < sNs S) (h3 : 0 ≤ k) (h4 : k < 100000) : F_Scen_birthTick 2 (iz s) (iz k) M = some (some (.int (iz (bornR S s k))), M) := by
  obtain ⟨z0, -, z4, z5, z6, z7, z8, z9⟩ := hk.2.2.2.2.2 s h1 h2
  have ns := hk.2.2.1
  unfold F_Scen_birthTick F_NS_codeOfRoot
  rw [cv_eq (kd_2 h), cPlan h hc hk h1 h2 h3 h4, bI_eq, bI_eq, cv_eq (kd_2 h), show (8 : Int32) = iz 8 from rfl, show (256 : Int32) = iz 256 from rfl, show (4 : Int32) = iz 4 from rfl, show (0 : Int32) = iz 0 from rfl, show (1 : Int32) = iz 1 from rfl, cQ h hc h1 (by omega) (by omega) (by omega), bI_eq, cv_eq (kd_2 h), iz_mul, iz_add, iz_mul, iz_add, cDraw h hc _ _ (by omega) (by omega), bI_eq, iz_add]
  rfl
theorem mBorn (h : SH M) (hc : MS M S) (hk : scOK S) {s k : Int} (h1 : 0 ≤ s) (h2 : s < sNs S) (h3 : 0 ≤ k) (h4 : k < 100000) : F_Md_bornOf 70 (iz (4 * k + s)) M = some (some (.int (iz (bornR S s k))), M) := by
  obtain ⟨z0, -, z4, z5, z6, z7, z8, z9⟩ := hk.2.2.2.2.2 s h1 h2
  have ns := hk.2.2.1
  unfold F_Md_bornOf
  rw [show (4 : Int32) = iz 4 from rfl, iz_emod (a := 4 * k + s) (by omega) (by omega) (by omega) (by omega), iz_ediv (a := 4 * k + s) (by omega) (by omega) (by omega) (by omega), show (4 * k + s) % 4 = s by omega, show (4 * k + s) / 4 = k by omega]
  simp (disch := omega) only [iz_lit, iz_emod, iz_ediv, iz_mul, iz_add, nm_eq, bI_eq, cv_eq (kd_70 h), mQ h hc ns.2 h1 h2, dZ_eq, mDraw h hc, iz_add]
  rfl
/-- a finder at f -/
def FdA (M : am_M) (f : Nat) : Prop := mKd M f = 4 ∧ rR M f 0 = some 2 ∧ rR M f 1 = some (f + 1) ∧ rR M f 2 = some (f + 4) ∧ rR M f 3 = some (f + 7) ∧ SpA M (f + 1) ∧ SpA M (f + 4) ∧ SpA M (f + 7)
theorem fdA_49 (h : SH M) : FdA M 49 := ⟨kd_49 h, rr_49_0 h, rr_49_1 h, rr_49_2 h, rr_49_3 h, spA_50 h, spA_53 h, spA_56 h⟩
theorem fdA_59 (h : SH M) : FdA M 59 := ⟨kd_59 h, rr_59_0 h, rr_59_1 h, rr_59_2 h, rr_59_3 h, spA_60 h, spA_63 h, spA_66 h⟩
theorem FdA.fr {A : Nat → Nat → Prop} {M M' : am_M} {f : Nat} (h : FdA M f) (hf : Fr A M M') : FdA M' f := by
  obtain ⟨h1, h2, h3, h4, h5, h6, h7, h8⟩ := h
  exact ⟨by rw [hf.kd]; exact h1, by rw [hf.rr]; exact h2, by rw [hf.rr]; exact h3, by rw [hf.rr]; exact h4, by rw [hf.rr]; exact h5, h6.fr hf, h7.fr hf, h8.fr hf⟩
def AFd (f b j : Nat) : Prop := f + 1 ≤ b ∧ b ≤ f + 9
theorem lay0_bn (hk : scOK S) {c : Int} (h : isSp S c) : kBn (lay0 S c) ≤ 10019 := by
  have := (bornR_bd hk (s := c / 256 % 4) (k := c / 256 / 4) (by omega) h.2.1 (by have := h.1; omega) h.2.2.1).2.2.2
  exact this
theorem lay1_bn (hk : scOK S) {c : Int} (h : isSp S c) : kBn (lay1 S c) ≤ 10079 := by
  have a := lay0_bn hk h
  obtain ⟨⟨-, -, -, b, -⟩, -⟩ := lay0_g hk h
  show kEn (lay0 S c) ≤ _
  omega
theorem lay_bn (hk : scOK S) {c : Int} (h : isSp S c) : kBn (lay S c) ≤ 10139 := by
  unfold lay
  split
  · have := lay0_bn hk h; omega
  · split
    · have := lay1_bn hk h; omega
    · have a := lay1_bn hk h
      obtain ⟨⟨-, -, -, b, -⟩, -⟩ := lay1_g hk h (by omega)
      show kEn (lay1 S c) ≤ _
      omega
theorem cFind0 (h : SH M) {f : Nat} (hf : FdA M f) {c : Int32} (he : F_Scen_hasSpark 2 c M = some (some (.int (iz 0)), M)) : F_Find_find f c M = some (some .null, M) := by
  unfold F_Find_find
  rw [fR_eq hf.1 hf.2.1, cv_eq (kd_2 h), he, bI_eq, if_pos (by decide)]
theorem cFind (h : SH M) (hc : CS M S) (hk : scOK S) (hst : rI M 2 7 = iz 1) {f : Nat} (hf : FdA M f) (hf5 : 5 < f) {c : Int} (hs : isSp S c) : ∃ (b : Nat) (M' : am_M), F_Find_find f (iz c) M = some (some (.ref b), M') ∧ Fr (AFd f) M M' ∧ SpA M b ∧ f < b ∧ b ≤ f + 7 ∧ CpL M' S b (lay S c) c (gen c) := by
  obtain ⟨c0, s2, k2, -⟩ := id hs
  have rt := sp_rt hk hs
  have nk := hk.2.1
  have ns := hk.2.2.1
  obtain ⟨z0, -⟩ := hk.2.2.2.2.2 (c / 256 % 4) (by omega) s2
  have bb := bornR_bd hk (s := c / 256 % 4) (k := c / 256 / 4) (by omega) s2 (by omega) k2
  have g0 := lay0_g hk hs
  have l0 := lay0_bn hk hs
  obtain ⟨⟨-, -, -, e0, -⟩, -⟩ := id g0
  obtain ⟨f1, f2, f3, f4, f5, f6, f7, f8⟩ := id hf
  have hH := cHas h hc hk hst (c := c) (by omega) (by omega)
  rw [bz_t (spB_t.mpr hs)] at hH
  obtain ⟨M1, u1, v1, w1⟩ := cBegR h hc hk f6 (by omega) (s := c / 256 % 4) (k := c / 256 / 4) (w := bornR S (c / 256 % 4) (c / 256 / 4)) (by omega) s2
  have hsrc : ∀ i, 0 ≤ i → i < 3 → 0 ≤ 8 * sQ S (c / 256 % 4) (1 + i) + 4 ∧ 8 * sQ S (c / 256 % 4) (1 + i) + 4 < wl S i := fun i q1 q2 => by
    have := (hk.2.2.2.2.2 (c / 256 % 4) (by omega) s2).2.1 i q1 q2
    unfold wl
    omega
  obtain ⟨M2, u2, v2, w2⟩ := cFly (h.fr v1) (hc.sp (by omega) v1) hk (f6.fr v1) (by omega) w1 z0.1 z0.2 bb.2.2.1 (by omega) hsrc
  have w2 : CpL M2 S (f + 1) (lay0 S c) (256 * (4 * (c / 256 / 4) + c / 256 % 4)) 0 := w2
  have fr2 : Fr (AFd f) M M2 := (v1.mono (fun b j q => by unfold ASp at q; unfold AFd; omega)).trans (v2.mono (fun b j q => by unfold ASp at q; unfold AFd; omega))
  have ec : 256 * (4 * (c / 256 / 4) + c / 256 % 4) = c - c % 256 := by omega
  rw [ec] at w2
  have h2 := h.fr fr2
  have c2 : CS M2 S := hc.fr fr2 (fun b j q => by unfold AFd at q; omega)
  have gn := gen_bd c
  by_cases g1 : c % 256 = 0
  · have eg : gen c = 0 := by unfold gen; rw [if_pos (by omega), if_pos g1]
    have el : lay S c = lay0 S c := by unfold lay; rw [if_pos g1]
    refine ⟨f + 1, M2, ?_, fr2, f6, ?_, ?_, ?_⟩
    · unfold F_Find_find
      rw [fR_eq f1 f2, cv_eq (kd_2 h), hH, bI_eq, if_neg (by decide), nsSrc c0 (by omega), bI_eq, nsNum c0 (by omega), bI_eq, fR_eq f1 f3, fR_eq f1 f2, cv_eq (kd_2 h), show c / 1024 = c / 256 / 4 by omega, cBirth h hc hk (by omega) s2 (by omega) (by omega), bI_eq, cv_eq f6.1, u1, bV_eq, fR_eq (hf.fr v1).1 (hf.fr v1).2.2.1, cv_eq (f6.fr v1).1, u2, bV_eq, nsGen c0 (by omega), bI_eq, eg, if_pos (by decide), fR_eq (hf.fr fr2).1 (hf.fr fr2).2.2.1]
    · omega
    · omega
    · rw [el, eg]
      rw [show c - c % 256 = c by omega] at w2
      exact w2
  have k1 := sp_k1 hk hs g1
  have g1l := lay1_g hk hs g1
  have l1 := lay1_bn hk hs
  obtain ⟨⟨-, -, -, e1, -⟩, -⟩ := id g1l
  have pin0 : ∀ i, 0 ≤ i → i < 3 → 0 ≤ plc S (lay0 S c) i (kEn (lay0 S c) - 1 - kBn (lay0 S c)) ∧ plc S (lay0 S c) i (kEn (lay0 S c) - 1 - kBn (lay0 S c)) < wl S i := fun i q1 q2 => by
    obtain ⟨⟨-, -, a3, -⟩, -⟩ := id g0
    exact plc_in hk g0 q1 q2 (by omega) (by omega)
  obtain ⟨⟨-, b0, b1, -⟩, -⟩ := id g0
  obtain ⟨M3, u3, v3, w3⟩ := cBegC h2 c2 hk (f7.fr fr2) (by omega) (f6.fr fr2) (by omega) (i := c / 16 % 16 - 1) g0 w2 (by omega) k1.1 k1.2
  have f23 : Fr (AFd f) M2 M3 := v3.mono (fun b j q => by unfold ASp at q; unfold AFd; omega)
  have fr3 := fr2.trans f23
  obtain ⟨M4, u4, v4, w4⟩ := cFly (h.fr fr3) (c2.sp (by omega) v3) hk (f7.fr fr3) (by omega) w3 k1.1 k1.2 (by omega) (by omega) pin0
  have fr4 : Fr (AFd f) M M4 := fr3.trans (v4.mono (fun b j q => by unfold ASp at q; unfold AFd; omega))
  have ecc : chc (c - c % 256) 0 (c / 16 % 16 - 1) = c - c % 256 % 16 := by unfold chc; rw [if_pos rfl]; omega
  rw [ecc] at w4
  have w4 : CpL M4 S (f + 4) (lay1 S c) (c - c % 256 % 16) (0 + 1) := w4
  have h4 := h.fr fr4
  have c4 : CS M4 S := hc.fr fr4 (fun b j q => by unfold AFd at q; omega)
  have es : iz c >>> (iz 4 &&& iz 31) &&& iz 15 = iz (c / 16 % 16) := by rw [iz_s4 c0 (by omega), iz_15 (by omega) (by omega)]
  have pre : ∀ R : am_R, ((if (iz (gen c) : Int32) = 1 then some (some (Value.ref (f + 4)), M4) else (fR M4 f 4 3 (fun b24 => fR M4 f 4 2 (fun b25 => cv M4 b24 10 ( bV (F_Sprk_beginAsChild b24 b25 ((iz c &&& 15) - 1) M4) (fun M26 => fR M26 f 4 3 (fun b27 => cv M26 b27 10 ( bV (F_Sprk_fly b27 M26) (fun M28 => fR M28 f 4 3 (fun b29 => some (some (Value.ref b29), M28))))))))))) : am_R) = R → gen c ≠ 0 → F_Find_find f (iz c) M = R := by
    intro R hR gz
    rw [← hR]
    unfold F_Find_find
    rw [fR_eq f1 f2, cv_eq (kd_2 h), hH, bI_eq, if_neg (by decide), nsSrc c0 (by omega), bI_eq, nsNum c0 (by omega), bI_eq, fR_eq f1 f3, fR_eq f1 f2, cv_eq (kd_2 h), show c / 1024 = c / 256 / 4 by omega, cBirth h hc hk (by omega) s2 (by omega) (by omega), bI_eq, cv_eq f6.1, u1, bV_eq, fR_eq (hf.fr v1).1 (hf.fr v1).2.2.1, cv_eq (f6.fr v1).1, u2, bV_eq, nsGen c0 (by omega), bI_eq, show (0 : Int32) = iz 0 from rfl, ifQ (by omega) (by omega) (by omega) (by omega), if_neg gz, fR_eq (hf.fr fr2).1 (hf.fr fr2).2.2.2.1, fR_eq (hf.fr fr2).1 (hf.fr fr2).2.2.1, cv_eq (f7.fr fr2).1, show (4 : Int32) = iz 4 from rfl, show (31 : Int32) = iz 31 from rfl, show (15 : Int32) = iz 15 from rfl, show (1 : Int32) = iz 1 from rfl, es, iz_sub, u3, bV_eq, fR_eq (hf.fr fr3).1 (hf.fr fr3).2.2.2.1, cv_eq (f7.fr fr3).1, u4, bV_eq]
    have e4 : (fR M4 f 4 2 (fun b23 => some (some (Value.ref b23), M4)) : am_R) = some (some (.ref (f + 4)), M4) := fR_eq (hf.fr fr4).1 (hf.fr fr4).2.2.2.1
    rw [e4]
  by_cases g2 : c % 16 = 0
  · have eg : gen c = 1 := by unfold gen; rw [if_pos g2, if_neg g1]
    have el : lay S c = lay1 S c := by unfold lay; rw [if_neg g1, if_pos (by omega)]
    refine ⟨f + 4, M4, pre _ ?_ (by omega), fr4, f7, ?_, ?_, ?_⟩
    · rw [eg, if_pos (by decide)]
    · omega
    · omega
    · rw [el, eg]
      rw [show c - c % 256 % 16 = c by omega] at w4
      exact w4
  have eg : gen c = 2 := by unfold gen; rw [if_neg g2]
  have el : lay S c = layC S (lay1 S c) c := by unfold lay; rw [if_neg g1, if_neg (by omega)]
  have k2 := sp_k2 hk hs (by omega)
  obtain ⟨⟨-, b2, b3, -⟩, -⟩ := id g1l
  have pin1 : ∀ i, 0 ≤ i → i < 3 → 0 ≤ plc S (lay1 S c) i (kEn (lay1 S c) - 1 - kBn (lay1 S c)) ∧ plc S (lay1 S c) i (kEn (lay1 S c) - 1 - kBn (lay1 S c)) < wl S i := fun i q1 q2 => plc_in hk g1l q1 q2 (by omega) (by omega)
  obtain ⟨M5, u5, v5, w5⟩ := cBegC h4 c4 hk (f8.fr fr4) (by omega) (f7.fr fr4) (by omega) (i := c % 16 - 1) g1l w4 (by omega) k2.1 k2.2
  have f45 : Fr (AFd f) M4 M5 := v5.mono (fun b j q => by unfold ASp at q; unfold AFd; omega)
  have fr5 := fr4.trans f45
  obtain ⟨M6, u6, v6, w6⟩ := cFly (h.fr fr5) (c4.sp (by omega) v5) hk (f8.fr fr5) (by omega) w5 k2.1 k2.2 (by omega) (by omega) pin1
  have fr6 : Fr (AFd f) M M6 := fr5.trans (v6.mono (fun b j q => by unfold ASp at q; unfold AFd; omega))
  have ecd : chc (c - c % 256 % 16) (0 + 1) (c % 16 - 1) = c := by unfold chc; rw [if_neg (by omega)]; omega
  rw [ecd] at w6
  refine ⟨f + 7, M6, pre _ ?_ (by omega), fr6, f8, ?_, ?_, ?_⟩
  · rw [eg, if_neg (by decide), fR_eq (hf.fr fr4).1 (hf.fr fr4).2.2.2.2.1, fR_eq (hf.fr fr4).1 (hf.fr fr4).2.2.2.1, cv_eq (f8.fr fr4).1, show (15 : Int32) = iz 15 from rfl, show (1 : Int32) = iz 1 from rfl, iz_15 c0 (by omega), iz_sub, u5, bV_eq, fR_eq (hf.fr fr5).1 (hf.fr fr5).2.2.2.2.1, cv_eq (f8.fr fr5).1, u6, bV_eq, fR_eq (hf.fr fr6).1 (hf.fr fr6).2.2.2.2.1]
  · omega
  · omega
  · rw [el, eg]
    exact w6
end Find
