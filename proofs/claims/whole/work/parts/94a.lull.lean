/-! ===== lull ===== -/
section Lull
variable {M : am_M} {S : Sc}
theorem cCnB (hk : scOK S) {s a : Int} (s1 : 0 ≤ s) (s2 : s < sNs S) (a0 : 0 ≤ a) (a1 : a ≤ 40000) {hi lo : Int} (hh : hi ≤ rts S s) (lo0 : 0 ≤ lo) : ∀ (r n : Nat) (k : Int) (M : am_M), SH M → CS M S → (∀ i : Nat, i < 2000 → rI M 69 i = iz (smF (ind (bornR S s) (a + i)) (k - lo).toNat lo 0)) → lo ≤ k → k + r = hi → r < n → ∃ M', F_Scen_countBirths_L49 n 2 (iz s) (iz a) 69 (iz hi) (iz k) M = some (none, M') ∧ Fr (fun x _ => x = 69) M M' ∧ ∀ i : Nat, i < 2000 → rI M' 69 i = iz (smF (ind (bornR S s) (a + i)) (hi - lo).toNat lo 0)
  | r, 0, k, M, h, hc, hv, q1, q2, q3 => by omega
  | 0, n + 1, k, M, h, hc, hv, q1, q2, q3 => by
    have rb := rts_bd hk s1 s2
    have e : k = hi := by omega
    subst e
    refine ⟨M, ?_, Fr.refl M, hv⟩
    rw [F_Scen_countBirths_L49, ifE (by omega) (by omega) (by omega) (by omega), if_pos (Int.le_refl _)]
  | r + 1, n + 1, k, M, h, hc, hv, q1, q2, q3 => by
    have rb := rts_bd hk s1 s2
    have bb := bornR_bd hk s1 s2 (k := k) (by omega) (by omega)
    have stp : ∀ T, smF (ind (bornR S s) T) (k + 1 - lo).toNat lo 0 = smF (ind (bornR S s) T) (k - lo).toNat lo 0 + ind (bornR S s) T k := fun T => by
      rw [show (k + 1 - lo).toNat = (k - lo).toNat + 1 by omega, smF_app, show lo + ((k - lo).toNat : Int) = k by omega, smF, smF]
    have hd : F_Scen_countBirths_L49 (n + 1) 2 (iz s) (iz a) 69 (iz hi) (iz k) M = if bornR S s k - a < 0 then F_Scen_countBirths_L49 n 2 (iz s) (iz a) 69 (iz hi) (iz (k + 1)) M else aN M 69 (fun x16 => if x16 ≤ iz (bornR S s k - a) then F_Scen_countBirths_L49 n 2 (iz s) (iz a) 69 (iz hi) (iz (k + 1)) M else aI M 69 (iz (bornR S s k - a)) (fun x18 => tI M 69 (iz (bornR S s k - a)) (x18 + iz 1) (fun M19 => F_Scen_countBirths_L49 n 2 (iz s) (iz a) 69 (iz hi) (iz (k + 1)) M19))) := by
      rw [F_Scen_countBirths_L49, ifE (by omega) (by omega) (by omega) (by omega), if_neg (by omega), cv_eq (kd_2 h), cBirth h hc hk s1 s2 (by omega) (by omega), bI_eq, iz_sub, nm_eq, show (0 : Int32) = iz 0 from rfl, ifL (by omega) (by omega) (by omega) (by omega), show (1 : Int32) = iz 1 from rfl, iz_add, nm_eq]
      rfl
    rw [hd]
    have skip : (bornR S s k - a < 0 ∨ 2000 ≤ bornR S s k - a) → ∃ M', F_Scen_countBirths_L49 n 2 (iz s) (iz a) 69 (iz hi) (iz (k + 1)) M = some (none, M') ∧ Fr (fun x _ => x = 69) M M' ∧ ∀ i : Nat, i < 2000 → rI M' 69 i = iz (smF (ind (bornR S s) (a + i)) (hi - lo).toNat lo 0) := fun z => cCnB hk s1 s2 a0 a1 hh lo0 r n (k + 1) M h hc (fun i hi2 => by
      rw [hv i hi2, stp, show ind (bornR S s) (a + i) k = 0 from if_neg (by omega), Int.add_zero]) (by omega) (by omega) (by omega)
    by_cases g1 : bornR S s k - a < 0
    · rw [if_pos g1]; exact skip (Or.inl g1)
    rw [if_neg g1, aN_eq (by rw [kd_69 h]; decide) (ln_69 h), ifE (by omega) (by omega) (by omega) (by omega)]
    by_cases g2 : ((2000 : Nat) : Int) ≤ bornR S s k - a
    · rw [if_pos g2]; exact skip (Or.inr (by omega))
    obtain ⟨z, hz⟩ : ∃ z : Nat, bornR S s k - a = (z : Int) := ⟨(bornR S s k - a).toNat, by omega⟩
    rw [if_neg g2, hz, aI_eq (kd_69 h) (ln_69 h) (by omega) (by omega) (by omega), show ((z : Int)).toNat = z by omega, hv z (by omega), iz_add, tI_eq (kd_69 h) (ln_69 h) (by omega) (by omega) (by omega), show ((z : Int)).toNat = z by omega]
    have f1 : Fr (fun x _ => x = 69) M (wI M 69 z (iz (smF (ind (bornR S s) (a + z)) (k - lo).toNat lo 0 + 1))) := Fr.wI rfl
    obtain ⟨M', e1, f2, e3⟩ := cCnB hk s1 s2 a0 a1 hh lo0 r n (k + 1) _ (h.fr f1) (hc.fr f1 (fun x j q => by omega)) (fun i hi2 => by
      rw [stp]
      by_cases e : i = z
      · subst e
        rw [rI_at rfl rfl, show ind (bornR S s) (a + i) k = 1 from if_pos (by omega)]
      · rw [rI_ne (by omega), hv i hi2, show ind (bornR S s) (a + i) k = 0 from if_neg (by omega), Int.add_zero]) (by omega) (by omega) (by omega)
    exact ⟨M', e1, f1.trans f2, e3⟩
theorem cCount (h : SH M) (hc : CS M S) (hk : scOK S) {s a b : Int} (s1 : 0 ≤ s) (s2 : s < sNs S) (a0 : 0 ≤ a) (ab : a ≤ b) (b1 : b ≤ 40000) : ∃ M', F_Scen_countBirths 2 (iz s) (iz a) (iz b) 69 M = some (none, M') ∧ Fr (fun x _ => x = 69) M M' ∧ ∀ i : Nat, i < 2000 → a + i < b → rI M' 69 i = iz (nB S s (a + i + 1) - nB S s (a + i)) := by
  obtain ⟨z0, -, z4, z5, z6, z7, z8, z9⟩ := hk.2.2.2.2.2 s s1 s2
  have ns := hk.2.2.1
  have rb := rts_bd hk s1 s2
  have fg := fu_ge
  obtain ⟨M1, e1, f1, v1⟩ := cFill (v := iz 0) (kd_69 h) (ln_69 h) (by decide)
  have h1 := h.fr f1
  have c1 := hc.fr f1 (fun x j q => by omega)
  have x1 := buT_bd hk s1 s2 (a - 1 - sQ S s 8)
  have x2 := buT_bd hk s1 s2 (b - 1)
  have bm := buT_mono hk s1 s2 (t := a - 1 - sQ S s 8) (u := b - 1) (by omega)
  have m1 : 0 ≤ buT S s (a - 1 - sQ S s 8) * sQ S s 6 := Int.mul_nonneg x1.1 (by omega)
  have m2 : buT S s (a - 1 - sQ S s 8) * sQ S s 6 ≤ buT S s (b - 1) * sQ S s 6 := Int.mul_le_mul_of_nonneg_right bm (by omega)
  have m3 : buT S s (b - 1) * sQ S s 6 ≤ rts S s := Int.mul_le_mul_of_nonneg_right x2.2 (by omega)
  obtain ⟨lo, hlo⟩ : ∃ lo, lo = buT S s (a - 1 - sQ S s 8) * sQ S s 6 := ⟨_, rfl⟩
  obtain ⟨hi, hhi⟩ : ∃ hi, hi = buT S s (b - 1) * sQ S s 6 := ⟨_, rfl⟩
  rw [← hlo, ← hhi] at m2
  rw [← hlo] at m1
  rw [← hhi] at m3
  obtain ⟨M2, e2, f2, v2⟩ := cCnB hk s1 s2 a0 (show a ≤ 40000 by omega) m3 m1 (hi - lo).toNat fu lo M1 h1 c1 (fun i hi2 => by rw [v1 i hi2, show (lo - lo).toNat = 0 by omega]; rfl) (Int.le_refl _) (by omega) (by omega)
  refine ⟨M2, ?_, f1.trans f2, fun i hi2 hb => ?_⟩
  · unfold F_Scen_countBirths
    rw [show (0 : Int32) = iz 0 from rfl, e1, bV_eq, cv_eq (kd_2 h1), show (6 : Int32) = iz 6 from rfl, cQ h1 c1 s1 (by omega) (by omega) (by omega), bI_eq, cv_eq (kd_2 h1), show (1 : Int32) = iz 1 from rfl, iz_sub, cBursts h1 c1 hk s1 s2 (by omega) (by omega), bI_eq, iz_mul, nm_eq, cv_eq (kd_2 h1), show (8 : Int32) = iz 8 from rfl, cQ h1 c1 s1 (by omega) (by omega) (by omega), bI_eq, cv_eq (kd_2 h1), iz_sub, iz_sub, cBursts h1 c1 hk s1 s2 (by omega) (by omega), bI_eq, iz_mul, nm_eq, ← hlo, ← hhi]
    exact e2
  · rw [v2 i hi2, nB_e]
    congr 1
    have ev : (rts S s).toNat = lo.toNat + ((hi - lo).toNat + (rts S s - hi).toNat) := by omega
    rw [ev, smF_app, smF_app, smF_z (g := fun _ => 0) lo.toNat 0 0 (fun j j1 j2 => by
      have := (buT_iff hk s1 s2 (t := a - 1 - sQ S s 8) j1 (by omega)).mp (by omega)
      have bb := bornR_bd hk s1 s2 j1 (show j < rts S s by omega)
      exact if_neg (by omega)), smF_0 (fun _ => rfl), show (0 : Int) + (lo.toNat : Int) = lo by omega, smF_z (g := fun _ => 0) (rts S s - hi).toNat _ _ (fun j j1 j2 => by
      have : ¬ plT S s j ≤ b - 1 := fun z => by
        have := (buT_iff hk s1 s2 (t := b - 1) (k := j) (by omega) (by omega)).mpr z
        omega
      have bb := bornR_bd hk s1 s2 (k := j) (by omega) (by omega)
      exact if_neg (by omega)), smF_0 (fun _ => rfl)]
/-- the longest row without births -/
def llF (f : Int → Int) : Nat → Int → Int → Int → Int → Int × Int
  | 0, _, m, v, _ => (m, v)
  | r + 1, t, m, v, w => if (if f t = 0 then w + 1 else 0) ≤ m then llF f r (t + 1) m v (if f t = 0 then w + 1 else 0) else llF f r (t + 1) (if f t = 0 then w + 1 else 0) (t - (if f t = 0 then w + 1 else 0) + 1) (if f t = 0 then w + 1 else 0)
noncomputable def eB (S : Sc) (s T : Int) : Int := nB S s (T + 1) - nB S s T
def llR (x : Int) (p : Int × Int) : Int := if x = 0 then p.1 else p.2
theorem cLuL (h : SH M) (hk : scOK S) {s a b x : Int} (s1 : 0 ≤ s) (s2 : s < sNs S) (a0 : 0 ≤ a) (b1 : b ≤ 40000) (ab : b - a ≤ 2000) (x1 : 0 ≤ x) (x2 : x ≤ 1) (hv : ∀ i : Nat, i < 2000 → a + i < b → rI M 69 i = iz (eB S s (a + i))) : ∀ (r n i : Nat) (m v w : Int), 0 ≤ m → m ≤ i → 0 ≤ w → w ≤ i → a + i + r = b → r < n → F_NS_lull_L74 n 0 (iz a) (iz b) (iz x) (iz m) (iz v) (iz w) (iz (i : Int)) M = some (some (.int (iz (llR x (llF (eB S s) r (a + i) m v w)))), M)
  | r, 0, i, m, v, w, q1, q2, q3, q4, q5, q6 => by omega
  | 0, n + 1, i, m, v, w, q1, q2, q3, q4, q5, q6 => by
    rw [F_NS_lull_L74, iz_sub, ifE (by omega) (by omega) (by omega) (by omega), if_pos (by omega), show (0 : Int32) = iz 0 from rfl, ifQ (by omega) (by omega) (by omega) (by omega), llF]
    unfold llR
    by_cases g : x = 0
    · rw [if_pos g, if_pos g]
    · rw [if_neg g, if_neg g]
  | r + 1, n + 1, i, m, v, w, q1, q2, q3, q4, q5, q6 => by
    have rb := rts_bd hk s1 s2
    have nb1 := nB_bd hk s1 s2 (a + i)
    have nb2 := nB_bd hk s1 s2 (a + i + 1)
    have eb : -50000 ≤ eB S s (a + i) ∧ eB S s (a + i) ≤ 50000 := by unfold eB; omega
    have ih := fun m v w q1 q2 q3 q4 => cLuL h hk s1 s2 a0 b1 ab x1 x2 hv r n (i + 1) m v w q1 q2 q3 q4 (by omega) (by omega)
    rw [show a + ((i + 1 : Nat) : Int) = a + i + 1 by omega] at ih
    have l110 : ∀ u : Int, 0 ≤ u → u ≤ i + 1 → F_NS_lull_L110 (F_NS_lull_L74 n) 0 (iz a) (iz b) (iz x) (iz m) (iz v) (iz (i : Int)) (iz u) M = if u ≤ m then some (some (.int (iz (llR x (llF (eB S s) r (a + i + 1) m v u)))), M) else some (some (.int (iz (llR x (llF (eB S s) r (a + i + 1) u (a + i - u + 1) u)))), M) := fun u u1 u2 => by
      unfold F_NS_lull_L110
      rw [ifE (by omega) (by omega) (by omega) (by omega), show (1 : Int32) = iz 1 from rfl, iz_add, iz_add, iz_sub, iz_add, nm_eq, nm_eq, show ((i : Int) + 1) = ((i + 1 : Nat) : Int) by omega]
      by_cases y : u ≤ m
      · rw [if_pos y, if_pos y]; exact ih m v u q1 (by omega) u1 (by omega)
      · rw [if_neg y, if_neg y]; exact ih u _ u (by omega) (by omega) u1 (by omega)
    rw [F_NS_lull_L74, iz_sub, ifE (by omega) (by omega) (by omega) (by omega), if_neg (by omega), fR_eq (kd_0 h) (rr_0_10 h), aN_eq (by rw [kd_69 h]; decide) (ln_69 h), ifE (by omega) (by omega) (by omega) (by omega), if_neg (by omega), fR_eq (kd_0 h) (rr_0_10 h), aI_eq (kd_69 h) (ln_69 h) (by omega) (by omega) (by omega), show ((i : Int)).toNat = i by omega, hv i (by omega) (by omega), show (0 : Int32) = iz 0 from rfl, ifQ (by omega) (by omega) (by omega) (by omega), show (1 : Int32) = iz 1 from rfl, iz_add, llF]
    by_cases g : eB S s (a + i) = 0
    · rw [if_pos g, if_pos g, l110 (w + 1) (by omega) (by omega)]
      by_cases y : w + 1 ≤ m
      · rw [if_pos y, if_pos y]
      · rw [if_neg y, if_neg y]
    · rw [if_neg g, if_neg g, l110 0 (by omega) (by omega)]
      by_cases y : (0 : Int) ≤ m
      · rw [if_pos y, if_pos y]
      · omega
theorem mLuL (hk : scOK S) {s b x : Int} (s1 : 0 ≤ s) (s2 : s < sNs S) (b1 : b ≤ 40000) (x1 : 0 ≤ x) (x2 : x ≤ 1) : ∀ (r n : Nat) (t m v w : Int) (M : am_M), SH M → MS M S → 0 ≤ t → 0 ≤ m → m ≤ 50000 → 0 ≤ w → w + r ≤ 50000 → t + r = b → r < n → ∃ M', F_Md_lull_L59 n 70 (iz s) (iz b) (iz x) (iz m) (iz v) (iz w) (iz t) M = some (some (.int (iz (llR x (llF (eB S s) r t m v w)))), M') ∧ Fr A39 M M'
  | r, 0, t, m, v, w, M, h, hm, q1, q2, q3, q4, q5, q6, q7 => by omega
  | 0, n + 1, t, m, v, w, M, h, hm, q1, q2, q3, q4, q5, q6, q7 => by
    refine ⟨M, ?_, Fr.refl M⟩
    rw [F_Md_lull_L59, ifE (by omega) (by omega) (by omega) (by omega), if_pos (by omega), show (0 : Int32) = iz 0 from rfl, ifQ (by omega) (by omega) (by omega) (by omega), llF]
    unfold llR
    by_cases g : x = 0
    · rw [if_pos g, if_pos g]
    · rw [if_neg g, if_neg g]
  | r + 1, n + 1, t, m, v, w, M, h, hm, q1, q2, q3, q4, q5, q6, q7 => by
    have ns := hk.2.2.1
    obtain ⟨M1, e1, f1, -⟩ := mBI0 h hm hk s1 s2 (T := t) (a := 0) q1 (by omega) (by omega) (by omega)
    have sr := sc0_r hk s1 s2 (T := t) (a := 0) (by omega)
    have m3 := nB_mono (S := S) (s := s) (show t ≤ t + 1 by omega)
    have h1 := h.fr f1
    have m1 := hm.fr f1 (fun b j q => by unfold A39 at q; omega)
    have ih := fun m v w y1 y2 y3 y4 => mLuL hk s1 s2 b1 x1 x2 r n (t + 1) m v w M1 h1 m1 (by omega) y1 y2 y3 y4 (by omega) (by omega)
    have l86 : ∀ u : Int, 0 ≤ u → u ≤ w + 1 → ∃ M', F_Md_lull_L86 (F_Md_lull_L59 n) 70 (iz s) (iz b) (iz x) (iz m) (iz v) (iz t) (iz u) M1 = (if u ≤ m then some (some (.int (iz (llR x (llF (eB S s) r (t + 1) m v u)))), M') else some (some (.int (iz (llR x (llF (eB S s) r (t + 1) u (t - u + 1) u)))), M')) ∧ Fr A39 M1 M' := fun u u1 u2 => by
      unfold F_Md_lull_L86
      rw [ifL (by omega) (by omega) (by omega) (by omega), show (1 : Int32) = iz 1 from rfl, iz_sub, iz_add, iz_add, nm_eq, nm_eq]
      by_cases y : u ≤ m
      · obtain ⟨M2, e2, f2⟩ := ih m v u q2 q3 u1 (by omega)
        exact ⟨M2, by rw [if_neg (by omega), if_pos y]; exact e2, f2⟩
      · obtain ⟨M2, e2, f2⟩ := ih u (t - u + 1) u (by omega) (by omega) u1 (by omega)
        exact ⟨M2, by rw [if_pos (by omega), if_neg y]; exact e2, f2⟩
    rw [F_Md_lull_L59, ifE (by omega) (by omega) (by omega) (by omega), if_neg (by omega), cv_eq (kd_70 h), show (0 : Int32) = iz 0 from rfl, e1, bI_eq, show (-1 : Int32) = iz (-1) from rfl, show (1 : Int32) = iz 1 from rfl, iz_add, llF]
    rcases sr with ⟨y1, y2, y3⟩ | ⟨y1, y2, y3⟩
    · have g : eB S s t = 0 := by unfold eB; omega
      obtain ⟨M2, e2, f2⟩ := l86 (w + 1) (by omega) (by omega)
      refine ⟨M2, ?_, f1.trans f2⟩
      rw [y1, show cdK s (-1) = -1 from if_pos rfl, if_pos rfl, e2, if_pos g]
      by_cases y : w + 1 ≤ m
      · rw [if_pos y, if_pos y]
      · rw [if_neg y, if_neg y]
    · have g : eB S s t ≠ 0 := by unfold eB; omega
      have cb := cd_bd (s := s) (x := (sc0 (bornR S s) t (rts S s).toNat 0 0).1) s1 (by omega) (Or.inl y1) y2
      have cn := cd_n (s := s) (x := (sc0 (bornR S s) t (rts S s).toNat 0 0).1) s1 (Or.inl y1)
      obtain ⟨M2, e2, f2⟩ := l86 0 (by omega) (by omega)
      refine ⟨M2, ?_, f1.trans f2⟩
      rw [ifQ (by omega) (by omega) (by omega) (by omega), if_neg (fun z => by have := cn.mp z; omega), e2, if_neg g]
      by_cases y : (0 : Int) ≤ m
      · rw [if_pos y, if_pos y]
      · omega
theorem ap_lull (hI : Inv M) (p1 p2 p3 p4 : Int32) : Ag (F_NS_lull 0 p1 p2 p3 p4) (F_Md_lull 70 p1 p2 p3 p4) M := by
  obtain ⟨h, -⟩ := id hI
  obtain ⟨S, st, s01, sa, sb, hc, hm, hb, hs, h0⟩ := hI.sc
  obtain ⟨s, c1, c2, rfl⟩ := iz_of p1
  obtain ⟨a, a1, a2, rfl⟩ := iz_of p2
  obtain ⟨b, b1, b2, rfl⟩ := iz_of p3
  obtain ⟨x, x1, x2, rfl⟩ := iz_of p4
  rcases src_g hI s01 hm hc hb h0 c1 c2 with ⟨g, st1, isC, isM⟩ | ⟨isC, isM⟩
  rotate_left
  · refine Ag.p hI (v := -2) ?_ ?_
    · unfold F_NS_lull; rw [fR_eq (kd_0 h) (rr_0_2 h), cv_eq (kd_2 h), isC, bI_eq, if_pos (by decide)]
    · unfold F_Md_lull; rw [isM, if_pos (by decide)]
  subst st1
  have hk := (hs rfl).1
  have fg := fu_ge
  have wc := cWin h sa a1 a2 b1 b2
  have wm := mSpan h sb a1 a2 b1 b2 (c := 2000) (by omega) (by omega)
  by_cases g2 : 0 ≤ a ∧ a ≤ b ∧ b ≤ 30001
  rotate_left
  · rw [bz_f g2] at wc
    rw [bz_f (by omega)] at wm
    refine Ag.p hI (v := -2) ?_ ?_
    · unfold F_NS_lull; rw [fR_eq (kd_0 h) (rr_0_2 h), cv_eq (kd_2 h), isC, bI_eq, if_neg (by decide), cv_eq (kd_0 h), wc, bI_eq, if_pos (by decide)]
    · unfold F_Md_lull; rw [isM, if_neg (by decide), cv_eq (kd_70 h), show (2000 : Int32) = iz 2000 from rfl, wm, bI_eq, if_pos (by decide)]
  rw [bz_t g2] at wc
  have nsx : F_NS_lull 0 (iz s) (iz a) (iz b) (iz x) M = if a = b then some (some (.int (-2)), M) else if 2000 < b - a then some (some (.int (-2)), M) else if x < 0 then some (some (.int (-2)), M) else if x ≤ 1 then bV (F_Scen_countBirths 2 (iz s) (iz a) (iz b) 69 M) (fun M8 => F_NS_lull_L74 fu 0 (iz a) (iz b) (iz x) (iz 0) (iz (-1)) (iz 0) (iz 0) M8) else some (some (.int (-2)), M) := by
    unfold F_NS_lull
    rw [fR_eq (kd_0 h) (rr_0_2 h), cv_eq (kd_2 h), isC, bI_eq, if_neg (by decide), cv_eq (kd_0 h), wc, bI_eq, if_neg (by decide), ifQ (by omega) (by omega) (by omega) (by omega), iz_sub, show (2000 : Int32) = iz 2000 from rfl, ifL (by omega) (by omega) (by omega) (by omega), show (-1 : Int32) = iz (-1) from rfl, show (0 : Int32) = iz 0 from rfl, show (1 : Int32) = iz 1 from rfl, ifL x1 x2 (by omega) (by omega), ifE x1 x2 (by omega) (by omega), fR_eq (kd_0 h) (rr_0_2 h), fR_eq (kd_0 h) (rr_0_10 h), cv_eq (kd_2 h)]
  have mdx : ∀ M, SH M → MS M S → rI M 70 1 = iz 1 → F_Md_lull 70 (iz s) (iz a) (iz b) (iz x) M = if b - a ≤ 2000 then (if a = b then some (some (.int (-2)), M) else if 0 ≤ x ∧ x ≤ 1 then F_Md_lull_L59 fu 70 (iz s) (iz b) (iz x) (iz 0) (iz (-1)) (iz 0) (iz a) M else some (some (.int (-2)), M)) else some (some (.int (-2)), M) := fun M h hm sb => by
    have ns := hk.2.2.1
    have wm := mSpan h sb a1 a2 b1 b2 (c := 2000) (by omega) (by omega)
    have isM' := mIn (M := M) s (sNs S - 1) c1 c2 (by omega) (by omega)
    rw [bz_t (by omega)] at isM'
    unfold F_Md_lull
    rw [fI_eq (kd_70 h), hm.2.2.2.2.1, show (-1 : Int32) = iz (-1) from rfl, show (1 : Int32) = iz 1 from rfl, iz_sub, isM', bI_eq, if_neg (by decide), cv_eq (kd_70 h), show (2000 : Int32) = iz 2000 from rfl, wm, bI_eq, bz_if0, ifQ (by omega) (by omega) (by omega) (by omega), show (0 : Int64) = jz 0 from rfl, show (1 : Int64) = jz 1 from rfl, mInL x 0 1 x1 x2 (by omega) (by omega) (by omega) (by omega), bI_eq, bz_if0]
    by_cases y : b - a ≤ 2000
    · rw [if_pos (by omega), if_pos y]; rfl
    · rw [if_neg (by omega), if_neg y]
  by_cases g3 : (a ≠ b ∧ b - a ≤ 2000) ∧ (0 ≤ x ∧ x ≤ 1)
  rotate_left
  · refine Ag.p hI (v := -2) ?_ ?_
    · rw [nsx]
      by_cases y : a = b
      · rw [if_pos y]
      rw [if_neg y]
      by_cases y : 2000 < b - a
      · rw [if_pos y]
      rw [if_neg y]
      by_cases y : x < 0
      · rw [if_pos y]
      rw [if_neg y, if_neg (by omega)]
    · rw [mdx M h hm sb]
      by_cases y : b - a ≤ 2000
      · rw [if_pos y]
        by_cases y : a = b
        · rw [if_pos y]
        rw [if_neg y, if_neg (by omega)]
      · rw [if_neg y]
  rw [if_neg (by omega), if_neg (by omega), if_neg (by omega), if_pos (by omega)] at nsx
  obtain ⟨M1, e1, f1, v1⟩ := cCount h hc hk g.1 g.2 g2.1 g2.2.1 (show b ≤ 40000 by omega)
  have f1' : Fr ASc M M1 := f1.mono A75x
  have i1 := hI.q f1'
  have h1 := i1.1
  have eC := cLuL h1 hk g.1 g.2 g2.1 (show b ≤ 40000 by omega) (by omega) g3.2.1 g3.2.2 (fun i i1 i2 => v1 i i1 i2) (b - a).toNat fu 0 0 (-1) 0 (by omega) (by omega) (by omega) (by omega) (by omega) (by omega)
  obtain ⟨M2, e2, f2⟩ := mLuL (b := b) (x := x) hk g.1 g.2 (by omega) g3.2.1 g3.2.2 (b - a).toNat fu a 0 (-1) 0 M1 h1 (hm.q f1') (by omega) (by omega) (by omega) (by omega) (by omega) (by omega) (by omega)
  rw [show a + ((0 : Nat) : Int) = a by omega] at eC
  refine Ag.q hI (v := iz (llR x (llF (eB S s) (b - a).toNat a 0 (-1) 0))) (M1 := M1) (M2 := M2) ?_ f1' ?_ (f2.mono A39_ASc)
  · rw [nsx, e1, bV_eq]; exact eC
  · rw [mdx M1 h1 (hm.q f1') (by rw [ASc.ri f1' (fun z => by unfold ASc at z; omega)]; exact sb), if_pos (by omega), if_neg (by omega), if_pos g3.2]
    exact e2
end Lull
