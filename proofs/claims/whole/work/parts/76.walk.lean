/-! ===== the walk: spans ===== -/
section Walk
variable {M : am_M} {S : Sc}
def sp2 (S : Sc) (k : Int) : Int := sK S k 0 + sK S k 1
def sb1 (S : Sc) (k : Int) : Int := if 1 ≤ sK S k 6 then sp2 S (sK S k 7) else 0
def sb0 (S : Sc) (k : Int) : Int := if 1 ≤ sK S k 6 then sp2 S (sK S k 7) + sb1 S (sK S k 7) else 0
/-- how long what comes of a kind can last -/
def sbh (S : Sc) (g k : Int) : Int := if g = 0 then sb0 S k else if g = 1 then sb1 S k else 0
def spn (S : Sc) (g k : Int) : Int := sp2 S k + sbh S g k
theorem sp2_bd (hk : scOK S) {k : Int} (h1 : 0 ≤ k) (h2 : k < sNk S) : 1 ≤ sp2 S k ∧ sp2 S k ≤ 60 := by
  obtain ⟨q0, q1, -⟩ := hk.2.2.2.2.1 k h1 h2
  unfold sp2; omega
theorem sb1_bd (hk : scOK S) {k : Int} (h1 : 0 ≤ k) (h2 : k < sNk S) : 0 ≤ sb1 S k ∧ sb1 S k ≤ 60 := by
  unfold sb1
  split
  · rename_i g
    have c := ch_kd hk h1 h2 g
    have := sp2_bd hk c.1 c.2
    omega
  · omega
theorem sb0_bd (hk : scOK S) {k : Int} (h1 : 0 ≤ k) (h2 : k < sNk S) : 0 ≤ sb0 S k ∧ sb0 S k ≤ 120 := by
  unfold sb0
  split
  · rename_i g
    have c := ch_kd hk h1 h2 g
    have := sp2_bd hk c.1 c.2
    have := sb1_bd hk c.1 c.2
    omega
  · omega
theorem sbh_bd (hk : scOK S) (g : Int) {k : Int} (h1 : 0 ≤ k) (h2 : k < sNk S) : 0 ≤ sbh S g k ∧ sbh S g k ≤ 120 := by
  have := sb0_bd hk h1 h2
  have := sb1_bd hk h1 h2
  unfold sbh
  split
  · omega
  · split <;> omega
theorem sbh_s {g k : Int} (h1 : 0 ≤ g) (h2 : g < 2) (h3 : 1 ≤ sK S k 6) : sbh S g k = spn S (g + 1) (sK S k 7) := by
  unfold spn sbh
  rcases (show g = 0 ∨ g = 1 by omega) with rfl | rfl
  · rw [if_pos rfl, if_neg (by decide), if_pos (by decide)]; unfold sb0; rw [if_pos h3]
  · rw [if_neg (by decide), if_pos rfl, if_neg (by decide), if_neg (by decide)]; unfold sb1; rw [if_pos h3, Int.add_zero]
theorem sbh_2 {g k : Int} (h1 : 2 ≤ g) : sbh S g k = 0 := by
  unfold sbh
  rw [if_neg (by omega), if_neg (by omega)]
theorem sbh_n {g k : Int} (h3 : ¬ 1 ≤ sK S k 6) : sbh S g k = 0 := by
  unfold sbh sb0 sb1
  rw [if_neg h3, if_neg h3]
  split
  · rfl
  · split <;> rfl
/-- what the walk may write -/
def AWk (b j : Nat) : Prop := 18 ≤ b ∧ b ≤ 44
theorem AWk_ASc (b j : Nat) (h : AWk b j) : ASc b j := by unfold AWk at h; unfold ASc; omega
def SPg (M : am_M) (S : Sc) (g : Int) : Prop := ∀ g' k, g ≤ g' → 0 ≤ g' → g' < 3 → 0 ≤ k → k < sNk S → rI M 23 (g' * 5 + k).toNat = iz (spn S g' k)
theorem cSpanOf (h : SH M) (hk : scOK S) {g0 g k : Int} (hs : SPg M S g0) (g1 : g0 ≤ g) (h1 : 0 ≤ g) (h2 : g < 3) (h3 : 0 ≤ k) (h4 : k < sNk S) : F_Walk_spanOf 18 (iz g) (iz k) M = some (some (.int (iz (spn S g k))), M) := by
  have nk := hk.2.1
  unfold F_Walk_spanOf
  rw [show (5 : Int32) = iz 5 from rfl, iz_mul, iz_add, nm_eq, show (0 : Int32) = iz 0 from rfl, ifL (by omega) (by omega) (by omega) (by omega), if_neg (by omega), fR_eq (kd_18 h) (rr_18_5 h), aN_eq (by rw [kd_23 h]; decide) (ln_23 h), ifE (by omega) (by omega) (by omega) (by omega), if_neg (by omega), fR_eq (kd_18 h) (rr_18_5 h), aI_eq (kd_23 h) (ln_23 h) (by omega) (by omega) (by omega), hs g k g1 h1 h2 h3 h4]
theorem cBehind (h : SH M) (hc : CS M S) (hk : scOK S) {g k : Int} (hs : SPg M S (g + 1)) (h1 : 0 ≤ g) (h2 : g < 3) (h3 : 0 ≤ k) (h4 : k < sNk S) : F_Walk_spanBehind 18 (iz g) (iz k) M = some (some (.int (iz (sbh S g k))), M) := by
  have nk := hk.2.1
  have k6 := (hk.2.2.2.2.1 k h3 h4).2.2.2.2.2.2
  unfold F_Walk_spanBehind
  rw [show (2 : Int32) = iz 2 from rfl, ifE (by omega) (by omega) (by omega) (by omega)]
  by_cases q : 2 ≤ g
  · rw [if_pos q, sbh_2 q]; rfl
  rw [if_neg q, fR_eq (kd_18 h) (rr_18_0 h), cv_eq (kd_2 h), show (6 : Int32) = iz 6 from rfl, cK h hc h3 (by omega) (by omega) (by omega), bI_eq, show (1 : Int32) = iz 1 from rfl, ifE (by omega) (by omega) (by omega) (by omega)]
  by_cases q2 : 1 ≤ sK S k 6
  · have c := ch_kd hk h3 h4 q2
    rw [if_pos q2, fR_eq (kd_18 h) (rr_18_0 h), cv_eq (kd_2 h), show (7 : Int32) = iz 7 from rfl, cK h hc h3 (by omega) (by omega) (by omega), bI_eq, cv_eq (kd_18 h), iz_add, cSpanOf h hk hs (by omega) (by omega) (by omega) c.1 c.2, bI_eq, sbh_s h1 (by omega) q2]
  · rw [if_neg q2, sbh_n q2]; rfl
def A23 (b j : Nat) : Prop := b = 23
theorem cMsL (hk : scOK S) (K : Nat → Int32 → am_M → am_R) {g : Int} (h1 : 0 ≤ g) (h2 : g < 3) : ∀ (r n : Nat) (k : Int) (M : am_M), SH M → CS M S → SPg M S (g + 1) → (∀ k', 0 ≤ k' → k' < k → rI M 23 (g * 5 + k').toNat = iz (spn S g k')) → 0 ≤ k → k + r = sNk S → r < n → ∃ M', F_Walk_measureSpans_L8 K n 18 (iz g) (iz k) M = K 18 (iz (g - 1)) M' ∧ Fr A23 M M' ∧ SPg M' S g
  | r, 0, k, M, h, hc, hs, hp, q1, q2, q3 => by omega
  | 0, n + 1, k, M, h, hc, hs, hp, q1, q2, q3 => by
    have nk := hk.2.1
    refine ⟨M, ?_, Fr.refl M, fun g' k' a1 a2 a3 a4 a5 => ?_⟩
    · rw [F_Walk_measureSpans_L8, fR_eq (kd_18 h) (rr_18_0 h), fI_eq (kd_2 h), hc.2.2.2.1, ifE (by omega) (by omega) (by omega) (by omega), if_pos (by omega), nm_eq, show (-1 : Int32) = iz (-1) from rfl, iz_add, show g + -1 = g - 1 by omega]
    · by_cases e : g' = g
      · subst e; exact hp k' a4 (by omega)
      · exact hs g' k' (by omega) a2 a3 a4 a5
  | r + 1, n + 1, k, M, h, hc, hs, hp, q1, q2, q3 => by
    have nk := hk.2.1
    have b2 := sp2_bd hk q1 (show k < sNk S by omega)
    have bb := sbh_bd hk g q1 (show k < sNk S by omega)
    have f1 : Fr A23 M (wI M 23 (g * 5 + k).toNat (iz (spn S g k))) := Fr.wI rfl
    obtain ⟨M', e1, e2, e3⟩ := cMsL hk K h1 h2 r n (k + 1) (wI M 23 (g * 5 + k).toNat (iz (spn S g k))) (h.fr f1) (hc.fr f1 (fun b j q => by unfold A23 at q; omega)) (fun g' k' a1 a2 a3 a4 a5 => by rw [rI_ne (by omega)]; exact hs g' k' a1 a2 a3 a4 a5) (fun k' a1 a2 => by
      by_cases e : k' = k
      · subst e; rw [rI_at rfl rfl]
      · rw [rI_ne (by omega)]; exact hp k' a1 (by omega)) (by omega) (by omega) (by omega)
    refine ⟨M', ?_, f1.trans e2, e3⟩
    rw [F_Walk_measureSpans_L8, fR_eq (kd_18 h) (rr_18_0 h), fI_eq (kd_2 h), hc.2.2.2.1, ifE (by omega) (by omega) (by omega) (by omega), if_neg (by omega), show (5 : Int32) = iz 5 from rfl, ifE (by omega) (by omega) (by omega) (by omega), if_neg (by omega), fR_eq (kd_18 h) (rr_18_0 h), cv_eq (kd_2 h), show (0 : Int32) = iz 0 from rfl, cK h hc q1 (by omega) (by omega) (by omega), bI_eq, fR_eq (kd_18 h) (rr_18_0 h), cv_eq (kd_2 h), show (1 : Int32) = iz 1 from rfl, cK h hc q1 (by omega) (by omega) (by omega), bI_eq, nm_eq, fR_eq (kd_18 h) (rr_18_5 h), cv_eq (kd_18 h), cBehind h hc hk hs h1 h2 q1 (by omega), bI_eq, iz_add, iz_add, iz_mul, iz_add, tI_eq (kd_23 h) (ln_23 h) (by omega) (by omega) (by omega), nm_eq, iz_add]
    exact e1
theorem cMeas (h : SH M) (hc : CS M S) (hk : scOK S) : ∃ M', F_Walk_measureSpans 18 M = some (none, M') ∧ Fr A23 M M' ∧ SPg M' S 0 := by
  have nk := hk.2.1
  have fg := fu_ge
  obtain ⟨n, hn⟩ : ∃ n, fu = n + 4 := ⟨fu - 4, by omega⟩
  have A : ∀ b j, A23 b j → b < 2 ∨ 5 < b := fun b j q => by unfold A23 at q; omega
  obtain ⟨M1, e1, f1, s1⟩ := cMsL hk (F_Walk_measureSpans_L2 (n + 3)) (g := 2) (by omega) (by omega) (sNk S).toNat fu 0 M h hc (fun g' k a1 a2 a3 => by omega) (fun k' a1 a2 => by omega) (by omega) (by omega) (by omega)
  have h1 := h.fr f1
  have c1 := hc.fr f1 A
  obtain ⟨M2, e2, f2, s2⟩ := cMsL hk (F_Walk_measureSpans_L2 (n + 2)) (g := 1) (by omega) (by omega) (sNk S).toNat fu 0 M1 h1 c1 s1 (fun k' a1 a2 => by omega) (by omega) (by omega) (by omega)
  have h2 := h1.fr f2
  have c2 := c1.fr f2 A
  obtain ⟨M3, e3, f3, s3⟩ := cMsL hk (F_Walk_measureSpans_L2 (n + 1)) (g := 0) (by omega) (by omega) (sNk S).toNat fu 0 M2 h2 c2 s2 (fun k' a1 a2 => by omega) (by omega) (by omega) (by omega)
  refine ⟨M3, ?_, (f1.trans f2).trans f3, s3⟩
  have z : (0 : Int32) = iz 0 := rfl
  unfold F_Walk_measureSpans
  rw [show (2 : Int32) = iz 2 from rfl]
  have st : ∀ (m : Nat) (g : Int) (M : am_M), 0 ≤ g → g < 3 → F_Walk_measureSpans_L2 (m + 1) 18 (iz g) M = F_Walk_measureSpans_L8 (F_Walk_measureSpans_L2 m) fu 18 (iz g) (iz 0) M := fun m g M a1 a2 => by
    rw [F_Walk_measureSpans_L2, z, ifL (by omega) (by omega) (by omega) (by omega), if_neg (by omega)]
  have t1 : F_Walk_measureSpans_L2 fu 18 (iz 2) M = F_Walk_measureSpans_L2 (n + 3) 18 (iz 1) M1 := by
    rw [show F_Walk_measureSpans_L2 fu 18 (iz 2) M = F_Walk_measureSpans_L2 (n + 3 + 1) 18 (iz 2) M from by rw [hn], st _ _ _ (by omega) (by omega)]; exact e1
  rw [t1, show n + 3 = (n + 2) + 1 from rfl, st _ _ _ (by omega) (by omega), e2, show n + 2 = (n + 1) + 1 from rfl, show (1 : Int) - 1 = 0 from rfl, st _ _ _ (by omega) (by omega), e3, F_Walk_measureSpans_L2, z, ifL (by omega) (by omega) (by omega) (by omega), if_pos (by omega)]
end Walk
