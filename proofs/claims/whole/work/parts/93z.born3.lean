/-! ===== bornAs, latest, next ===== -/
section Born3
variable {M : am_M} {S : Sc}
def lsB (S : Sc) (s : Int) : Int := sQ S s 4 + (gps S s - 1) * sQ S s 5 + sQ S s 8
theorem lsB_bd (hk : scOK S) {s : Int} (s1 : 0 ≤ s) (s2 : s < sNs S) : -100 ≤ lsB S s ∧ lsB S s ≤ 10019 ∧ (0 < gps S s → sQ S s 4 ≤ lsB S s) := by
  obtain ⟨z0, -, z4, z5, z6, z7, z8, z9⟩ := hk.2.2.2.2.2 s s1 s2
  have gb := gps_bd hk s1 s2
  unfold lsB
  rcases Int.lt_or_le 0 (gps S s) with q | q
  · have m0 : 0 ≤ (gps S s - 1) * sQ S s 5 := Int.mul_nonneg (by omega) (by omega)
    have m1 : (gps S s - 1) * sQ S s 5 ≤ sQ S s 7 - sQ S s 4 := by
      unfold gps at q ⊢
      by_cases g : sQ S s 7 < sQ S s 4
      · rw [if_pos g] at q; omega
      · rw [if_neg g, show (sQ S s 7 - sQ S s 4) / sQ S s 5 + 1 - 1 = (sQ S s 7 - sQ S s 4) / sQ S s 5 by omega]
        exact Int.ediv_mul_le _ (by omega)
    omega
  · have e : gps S s = 0 := by omega
    rw [e]
    omega
theorem mLast (h : SH M) (hm : MS M S) (hk : scOK S) {s : Int} (s1 : 0 ≤ s) (s2 : s < sNs S) : F_Md_lastBirth 70 (iz s) M = some (some (.int (iz (lsB S s))), M) := by
  have ns := hk.2.2.1
  unfold F_Md_lastBirth lsB
  rw [cv_eq (kd_70 h), show (4 : Int32) = iz 4 from rfl, show (5 : Int32) = iz 5 from rfl, show (8 : Int32) = iz 8 from rfl, mQ h hm (by omega) s1 s2 (by omega) (by omega), bI_eq, cv_eq (kd_70 h), mGps h hm hk s1 s2, bI_eq, cv_eq (kd_70 h), mQ h hm (by omega) s1 s2 (by omega) (by omega), bI_eq, cv_eq (kd_70 h), mQ h hm (by omega) s1 s2 (by omega) (by omega), bI_eq, show (1 : Int32) = iz 1 from rfl, iz_sub, iz_mul, iz_add, iz_add]
theorem born_ls (hk : scOK S) {s k : Int} (s1 : 0 ≤ s) (s2 : s < sNs S) (k0 : 0 ≤ k) (k1 : k < rts S s) : sQ S s 4 ≤ bornR S s k ∧ bornR S s k ≤ lsB S s ∧ 0 < gps S s := by
  obtain ⟨z0, -, z4, z5, z6, z7, z8, z9⟩ := hk.2.2.2.2.2 s s1 s2
  have bb := bornR_bd hk s1 s2 k0 k1
  have pb := plT_bd hk s1 s2 k0 k1
  have ep : plT S s k = sQ S s 4 + k / sQ S s 6 * sQ S s 5 := rfl
  have jr2 : k < gps S s * sQ S s 6 := k1
  have q := (Int.ediv_lt_iff_lt_mul (c := sQ S s 6) (by omega)).mpr jr2
  have q0 : 0 ≤ k / sQ S s 6 := Int.ediv_nonneg k0 (by omega)
  have e2 : k / sQ S s 6 * sQ S s 5 ≤ (gps S s - 1) * sQ S s 5 := Int.mul_le_mul_of_nonneg_right (by omega) (by omega)
  unfold lsB
  omega
/-- births in a tick are within its bounds -/
theorem e_in (hk : scOK S) {s T : Int} (s1 : 0 ≤ s) (s2 : s < sNs S) (h : nB S s T < nB S s (T + 1)) : sQ S s 4 ≤ T ∧ T ≤ lsB S s ∧ 0 < gps S s := by
  have rb := rts_bd hk s1 s2
  have e := nB_e (S := S) s T
  have y := sc0_yes (f := bornR S s) (T := T) (rts S s).toNat 0 0 (by omega) (by omega)
  have b := born_ls hk s1 s2 y.1 (by omega)
  rw [y.2.2] at b
  exact b
theorem nB_hi (hk : scOK S) {s t : Int} (s1 : 0 ≤ s) (s2 : s < sNs S) (ht : lsB S s < t) : nB S s t = rts S s := by
  have rb := rts_bd hk s1 s2
  unfold nB
  rw [smF_z (g := fun _ => 1) _ _ _ (fun k k1 k2 => by
    have b := born_ls hk s1 s2 k1 (show k < rts S s by omega)
    unfold inB
    rw [if_pos (by omega)]), smF_c (fun _ => 1) 1 _ _ _ (fun b _ _ => rfl)]
  omega
theorem cd_n {s x : Int} (s0 : 0 ≤ s) (h : 0 ≤ x ∨ x = -1) : cdK s x = -1 ↔ x = -1 := by
  unfold cdK
  split
  · omega
  · omega
theorem cd_bd {s x : Int} (s0 : 0 ≤ s) (s4 : s < 4) (h : 0 ≤ x ∨ x = -1) (hx : x ≤ 50000) : -1 ≤ cdK s x ∧ cdK s x < 2147483648 := by
  unfold cdK
  split <;> omega
theorem sc0_r (hk : scOK S) {s T a : Int} (s1 : 0 ≤ s) (s2 : s < sNs S) (a0 : 0 ≤ a) : ((sc0 (bornR S s) T (rts S s).toNat 0 a).1 = -1 ∧ nB S s (T + 1) - nB S s T ≤ a ∧ (sc0 (bornR S s) T (rts S s).toNat 0 a).2 = a - (nB S s (T + 1) - nB S s T)) ∨ (0 ≤ (sc0 (bornR S s) T (rts S s).toNat 0 a).1 ∧ (sc0 (bornR S s) T (rts S s).toNat 0 a).1 ≤ 50000 ∧ a < nB S s (T + 1) - nB S s T) := by
  have rb := rts_bd hk s1 s2
  rw [nB_e]
  rcases Int.lt_or_le a (smF (ind (bornR S s) T) (rts S s).toNat 0 0) with z | z
  · have y := sc0_yes (f := bornR S s) (T := T) (rts S s).toNat 0 a a0 z
    exact Or.inr ⟨by omega, by omega, z⟩
  · rw [sc0_no _ _ _ z]; exact Or.inl ⟨rfl, z, rfl⟩
theorem mBaL (hk : scOK S) {s n T : Int} (s1 : 0 ≤ s) (s2 : s < sNs S) (n0 : 0 ≤ n) (n1 : n < rts S s) (tb : TBn S s n T) : ∀ (r m : Nat) (t : Int) (M : am_M), SH M → MS M S → 0 ≤ t → t + r = T → r < m → ∃ M', F_Md_bornAs_L44 m 70 (iz s) (iz (n - nB S s t)) (iz t) M = some (some (.int (iz (cdK s (sc0 (bornR S s) T (rts S s).toNat 0 (n - nB S s T)).1))), M') ∧ Fr A39 M M'
  | r, 0, t, M, h, hm, q1, q2, q3 => by omega
  | r, m + 1, t, M, h, hm, q1, q2, q3 => by
    have rb := rts_bd hk s1 s2
    have ns := hk.2.2.1
    have ei := e_in hk s1 s2 (T := T) (by have := tb.1; have := tb.2; omega)
    have lb := lsB_bd hk s1 s2
    have nb := nB_bd hk s1 s2 t
    have mono := nB_mono (S := S) (s := s) (show t ≤ T by omega)
    have tb1 := tb.1
    obtain ⟨M1, e1, f1, r1⟩ := mBI0 h hm hk s1 s2 (T := t) (a := n - nB S s t) q1 (by omega) (by omega) (by omega)
    have sr := sc0_r hk s1 s2 (T := t) (a := n - nB S s t) (by omega)
    rw [F_Md_bornAs_L44, cv_eq (kd_70 h), mLast h hm hk s1 s2, bI_eq, ifL (by omega) (by omega) (by omega) (by omega), if_neg (by omega), cv_eq (kd_70 h), show (0 : Int32) = iz 0 from rfl, e1, bI_eq, show (-1 : Int32) = iz (-1) from rfl]
    cases r with
    | zero =>
      have e : t = T := by omega
      subst e
      rcases sr with ⟨z1, z2, z3⟩ | ⟨z1, z2, z3⟩
      · have := tb.2; omega
      · have cb := cd_bd (s := s) (x := (sc0 (bornR S s) t (rts S s).toNat 0 (n - nB S s t)).1) s1 (by omega) (Or.inl z1) z2
        have cn := cd_n (s := s) (x := (sc0 (bornR S s) t (rts S s).toNat 0 (n - nB S s t)).1) s1 (Or.inl z1)
        rw [ifQ (by omega) (by omega) (by omega) (by omega), if_neg (fun z => by have := cn.mp z; omega)]
        exact ⟨M1, rfl, f1⟩
    | succ r =>
      have m2 := nB_mono (S := S) (s := s) (show t + 1 ≤ T by omega)
      rcases sr with ⟨z1, z2, z3⟩ | ⟨z1, z2, z3⟩
      · have h1 := h.fr f1
        obtain ⟨M2, e2, f2⟩ := mBaL hk s1 s2 n0 n1 tb r m (t + 1) M1 h1 (hm.fr f1 (fun b j q => by unfold A39 at q; omega)) (by omega) (by omega) (by omega)
        refine ⟨M2, ?_, f1.trans f2⟩
        rw [z1, show cdK s (-1) = -1 from if_pos rfl, if_pos rfl, fI_eq (kd_70 h1), r1 z1, z3, nm_eq, show (1 : Int32) = iz 1 from rfl, iz_add, show n - nB S s t - (nB S s (t + 1) - nB S s t) = n - nB S s (t + 1) by omega]
        exact e2
      · omega
theorem src_g (hI : Inv M) {st : Int} (s01 : st = 0 ∨ st = 1) (hm : MS M S) (hc : CS M S) (hb : scB S) (h0 : st = 0 → S = S0) {s : Int} (c1 : -2147483648 ≤ s) (c2 : s < 2147483648) : ((0 ≤ s ∧ s < sNs S) ∧ st = 1 ∧ F_Scen_isSource 2 (iz s) M = some (some (.int (iz 1)), M) ∧ ∀ f, fI M 70 13 6 (fun x1 => bI (F_Md_in (iz s).toInt64 0 ((x1 - 1).toInt64) M) f) = f (iz 1) M) ∨ (F_Scen_isSource 2 (iz s) M = some (some (.int (iz 0)), M) ∧ ∀ f, fI M 70 13 6 (fun x1 => bI (F_Md_in (iz s).toInt64 0 ((x1 - 1).toInt64) M) f) = f (iz 0) M) := by
  have h := hI.1
  have ns := hb.2.1
  have isC := cIsS h hc ns c1 c2
  have isM := mIn (M := M) s (sNs S - 1) c1 c2 (by omega) (by omega)
  by_cases g1 : 0 ≤ s ∧ s < sNs S
  · rw [bz_t g1] at isC
    rw [bz_t (by omega)] at isM
    refine Or.inl ⟨g1, ?_, isC, fun f => ?_⟩
    · rcases s01 with q | q
      · rw [h0 q] at g1; exact absurd g1.2 (by show ¬ s < 0; omega)
      · exact q
    · rw [fI_eq (kd_70 h), hm.2.2.2.2.1, show (1 : Int32) = iz 1 from rfl, iz_sub, isM, bI_eq]
  · rw [bz_f g1] at isC
    rw [bz_f (by omega)] at isM
    refine Or.inr ⟨isC, fun f => ?_⟩
    rw [fI_eq (kd_70 h), hm.2.2.2.2.1, show (1 : Int32) = iz 1 from rfl, iz_sub, isM, bI_eq]
theorem ap_bornAs (hI : Inv M) (p1 p2 : Int32) : Ag (F_NS_bornAs 0 p1 p2) (F_Md_bornAs 70 p1 p2) M := by
  obtain ⟨h, -⟩ := id hI
  obtain ⟨S, st, s01, sa, sb, hc, hm, hb, hs, h0⟩ := hI.sc
  obtain ⟨s, c1, c2, rfl⟩ := iz_of p1
  obtain ⟨n, n1, n2, rfl⟩ := iz_of p2
  rcases src_g hI s01 hm hc hb h0 c1 c2 with ⟨g, st1, isC, isM⟩ | ⟨isC, isM⟩
  rotate_left
  · refine Ag.p hI (v := -2) ?_ ?_
    · unfold F_NS_bornAs; rw [fR_eq (kd_0 h) (rr_0_2 h), cv_eq (kd_2 h), isC, bI_eq, if_pos (by decide)]
    · unfold F_Md_bornAs; rw [isM, if_pos (by decide)]
  subst st1
  have hk := (hs rfl).1
  obtain ⟨z0, -, z4, z5, z6, z7, z8, z9⟩ := hk.2.2.2.2.2 s g.1 g.2
  have ns := hk.2.2.1
  have rb := rts_bd hk g.1 g.2
  have fg := fu_ge
  have nsx : F_NS_bornAs 0 (iz s) (iz n) M = if 0 ≤ n then (if rts S s ≤ n then some (some (.int (-1)), M) else bI (F_Scen_codeOfBirth 2 (iz s) (iz n) M) (fun r9 M8 => some (some (.int r9), M8))) else some (some (.int (-2)), M) := by
    unfold F_NS_bornAs
    rw [fR_eq (kd_0 h) (rr_0_2 h), cv_eq (kd_2 h), isC, bI_eq, if_neg (by decide), show (0 : Int32) = iz 0 from rfl, ifE (by omega) (by omega) n1 n2, fR_eq (kd_0 h) (rr_0_2 h), cv_eq (kd_2 h), show (9 : Int32) = iz 9 from rfl, cQ h hc g.1 (by omega) (by omega) (by omega), bI_eq, z9, ifE (by omega) (by omega) n1 n2, fR_eq (kd_0 h) (rr_0_2 h), cv_eq (kd_2 h)]
  have mdx : F_Md_bornAs 70 (iz s) (iz n) M = if 0 ≤ n then (if n < rts S s then F_Md_bornAs_L44 fu 70 (iz s) (iz n) (iz (sQ S s 4)) M else some (some (.int (-1)), M)) else some (some (.int (-2)), M) := by
    unfold F_Md_bornAs
    rw [isM, if_neg (by decide), show (0 : Int32) = iz 0 from rfl, ifE (by omega) (by omega) n1 n2, cv_eq (kd_70 h), mRts h hm hk g.1 g.2, bI_eq, ifL n1 n2 (by omega) (by omega), cv_eq (kd_70 h), show (4 : Int32) = iz 4 from rfl, mQ h hm (by omega) g.1 g.2 (by omega) (by omega), bI_eq]
  by_cases g1 : 0 ≤ n
  rotate_left
  · exact Ag.p hI (v := -2) (by rw [nsx, if_neg g1]) (by rw [mdx, if_neg g1])
  by_cases g2 : n < rts S s
  rotate_left
  · exact Ag.p hI (v := -1) (by rw [nsx, if_pos g1, if_pos (by omega)]) (by rw [mdx, if_pos g1, if_neg g2])
  obtain ⟨T, tb, T0, T1, eC⟩ := cCob h hc hk g.1 g.2 g1 g2
  have ei := e_in hk g.1 g.2 (T := T) (by have := tb.1; have := tb.2; omega)
  obtain ⟨M2, e2, f2⟩ := mBaL hk g.1 g.2 g1 g2 tb (T - sQ S s 4).toNat fu (sQ S s 4) M h hm (by omega) (by omega) (by omega)
  rw [nB_lo hk g.1 g.2 (Int.le_refl _), Int.sub_zero] at e2
  refine Ag.q hI (v := iz (cdK s (sc0 (bornR S s) T (rts S s).toNat 0 (n - nB S s T)).1)) (M1 := M) (M2 := M2) ?_ (Fr.refl M) ?_ (f2.mono A39_ASc)
  · rw [nsx, if_pos g1, if_neg (by omega), eC, bI_eq]
  · rw [mdx, if_pos g1, if_pos g2]; exact e2
theorem mLaL (hk : scOK S) {s b T : Int} (s1 : 0 ≤ s) (s2 : s < sNs S) (b0 : 0 < b) (tb : TBn S s (b - 1) T) : ∀ (r m : Nat) (t : Int) (M : am_M), SH M → MS M S → t ≤ 40000 → nB S s (t + 1) = b → t = T + r → r < m → ∃ M', F_Md_latest_L47 m 70 (iz s) (iz t) M = some (some (.int (iz (cdK s (lsI (bornR S s) T (rts S s).toNat 0 (-1))))), M') ∧ Fr A39 M M'
  | r, 0, t, M, h, hm, q1, q2, q3, q4 => by omega
  | r, m + 1, t, M, h, hm, q1, q2, q3, q4 => by
    obtain ⟨z0, -, z4, z5, z6, z7, z8, z9⟩ := hk.2.2.2.2.2 s s1 s2
    have rb := rts_bd hk s1 s2
    have ns := hk.2.2.1
    have ei := e_in hk s1 s2 (T := T) (by have := tb.1; have := tb.2; omega)
    have tb1 := tb.1
    have tb2 := tb.2
    obtain ⟨M1, e1, f1⟩ := mBI1 h hm hk s1 s2 (T := t) (by omega) q1 (iz 0)
    have nn := nB_e (S := S) s t
    rw [F_Md_latest_L47, cv_eq (kd_70 h), show (4 : Int32) = iz 4 from rfl, mQ h hm (by omega) s1 s2 (by omega) (by omega), bI_eq, ifL (by omega) (by omega) (by omega) (by omega), if_neg (by omega), cv_eq (kd_70 h), show (-1 : Int32) = iz (-1) from rfl, show (0 : Int32) = iz 0 from rfl, show (1 : Int32) = iz 1 from rfl, e1, bI_eq]
    have le := lsI_e (f := bornR S s) (T := t) (rts S s).toNat 0 (-1)
    cases r with
    | zero =>
      have e : t = T := by omega
      subst e
      rw [if_neg (by omega)] at le
      have y := sc0_yes (f := bornR S s) (T := t) (rts S s).toNat 0 (smF (ind (bornR S s) t) (rts S s).toNat 0 0 - 1) (by omega) (by omega)
      rw [← le] at y
      have cb := cd_bd (s := s) (x := lsI (bornR S s) t (rts S s).toNat 0 (-1)) s1 (by omega) (Or.inl (by omega)) (by omega)
      have cn := cd_n (s := s) (x := lsI (bornR S s) t (rts S s).toNat 0 (-1)) s1 (Or.inl (by omega))
      rw [ifQ (by omega) (by omega) (by omega) (by omega), if_neg (fun z => by have := cn.mp z; omega)]
      exact ⟨M1, rfl, f1⟩
    | succ r =>
      have m2 := nB_mono (S := S) (s := s) (show T + 1 ≤ t by omega)
      have m3 := nB_mono (S := S) (s := s) (show t ≤ t + 1 by omega)
      rw [if_pos (by omega)] at le
      have h1 := h.fr f1
      obtain ⟨M2, e2, f2⟩ := mLaL hk s1 s2 b0 tb r m (t - 1) M1 h1 (hm.fr f1 (fun b j q => by unfold A39 at q; omega)) (by omega) (by rw [show t - 1 + 1 = t by omega]; omega) (by omega) (by omega)
      refine ⟨M2, ?_, f1.trans f2⟩
      rw [le, show cdK s (-1) = -1 from if_pos rfl, if_pos rfl, nm_eq, iz_add, show t + -1 = t - 1 by omega]
      exact e2
theorem mLa0 (hk : scOK S) {s : Int} (s1 : 0 ≤ s) (s2 : s < sNs S) : ∀ (r m : Nat) (t : Int) (M : am_M), SH M → MS M S → -1000 ≤ t → t ≤ 40000 → nB S s (t + 1) = 0 → t < sQ S s 4 + r → r < m → ∃ M', F_Md_latest_L47 m 70 (iz s) (iz t) M = some (some (.int (iz (-1))), M') ∧ Fr A39 M M'
  | r, 0, t, M, h, hm, q0, q1, q2, q3, q4 => by omega
  | r, m + 1, t, M, h, hm, q0, q1, q2, q3, q4 => by
    obtain ⟨z0, -, z4, z5, z6, z7, z8, z9⟩ := hk.2.2.2.2.2 s s1 s2
    have ns := hk.2.2.1
    rw [F_Md_latest_L47, cv_eq (kd_70 h), show (4 : Int32) = iz 4 from rfl, mQ h hm (by omega) s1 s2 (by omega) (by omega), bI_eq, ifL (by omega) (by omega) (by omega) (by omega)]
    by_cases g : t < sQ S s 4
    · rw [if_pos g]; exact ⟨M, rfl, Fr.refl M⟩
    rw [if_neg g]
    obtain ⟨M1, e1, f1⟩ := mBI1 h hm hk s1 s2 (T := t) (by omega) q1 (iz 0)
    have nn := nB_e (S := S) s t
    have b1 := nB_bd hk s1 s2 t
    have m3 := nB_mono (S := S) (s := s) (show t ≤ t + 1 by omega)
    have le := lsI_e (f := bornR S s) (T := t) (rts S s).toNat 0 (-1)
    rw [if_pos (by omega)] at le
    cases r with
    | zero => omega
    | succ r =>
      have h1 := h.fr f1
      obtain ⟨M2, e2, f2⟩ := mLa0 hk s1 s2 r m (t - 1) M1 h1 (hm.fr f1 (fun b j q => by unfold A39 at q; omega)) (by omega) (by omega) (by rw [show t - 1 + 1 = t by omega]; omega) (by omega) (by omega)
      refine ⟨M2, ?_, f1.trans f2⟩
      rw [cv_eq (kd_70 h), show (-1 : Int32) = iz (-1) from rfl, show (0 : Int32) = iz 0 from rfl, show (1 : Int32) = iz 1 from rfl, e1, bI_eq, le, show cdK s (-1) = -1 from if_pos rfl, if_pos rfl, nm_eq, iz_add, show t + -1 = t - 1 by omega]
      exact e2
theorem ap_latest (hI : Inv M) (p1 p2 : Int32) : Ag (F_NS_latest 0 p1 p2) (F_Md_latest 70 p1 p2) M := by
  obtain ⟨h, -⟩ := id hI
  obtain ⟨S, st, s01, sa, sb, hc, hm, hb, hs, h0⟩ := hI.sc
  obtain ⟨s, c1, c2, rfl⟩ := iz_of p1
  obtain ⟨t, t1, t2, rfl⟩ := iz_of p2
  rcases src_g hI s01 hm hc hb h0 c1 c2 with ⟨g, st1, isC, isM⟩ | ⟨isC, isM⟩
  rotate_left
  · refine Ag.p hI (v := -2) ?_ ?_
    · unfold F_NS_latest; rw [fR_eq (kd_0 h) (rr_0_2 h), cv_eq (kd_2 h), isC, bI_eq, if_pos (by decide)]
    · unfold F_Md_latest; rw [isM, if_pos (by decide)]
  subst st1
  have hk := (hs rfl).1
  have ct := cTick (M := M) t1 t2
  have mt := mTick h (hs rfl) t1 t2
  obtain ⟨z0, -, z4, z5, z6, z7, z8, z9⟩ := hk.2.2.2.2.2 s g.1 g.2
  have ns := hk.2.2.1
  have rb := rts_bd hk g.1 g.2
  have lb := lsB_bd hk g.1 g.2
  have gb := gps_bd hk g.1 g.2
  have fg := fu_ge
  by_cases gt : 0 ≤ t ∧ t ≤ 30000
  rotate_left
  · rw [bz_f gt] at ct mt
    refine Ag.p hI (v := -2) ?_ ?_
    · unfold F_NS_latest; rw [fR_eq (kd_0 h) (rr_0_2 h), cv_eq (kd_2 h), isC, bI_eq, if_neg (by decide), ct, bI_eq, if_pos (by decide)]
    · unfold F_Md_latest; rw [isM, if_neg (by decide), cv_eq (kd_70 h), mt, bI_eq, if_pos (by decide)]
  rw [bz_t gt] at ct mt
  have nb := nB_bd hk g.1 g.2 (t + 1)
  have nsx : F_NS_latest 0 (iz s) (iz t) M = if nB S s (t + 1) ≤ 0 then some (some (.int (-1)), M) else bI (F_Scen_codeOfBirth 2 (iz s) (iz (nB S s (t + 1) - 1)) M) (fun r9 M8 => some (some (.int r9), M8)) := by
    unfold F_NS_latest
    rw [fR_eq (kd_0 h) (rr_0_2 h), cv_eq (kd_2 h), isC, bI_eq, if_neg (by decide), ct, bI_eq, if_neg (by decide), fR_eq (kd_0 h) (rr_0_2 h), cv_eq (kd_2 h), show (1 : Int32) = iz 1 from rfl, iz_add, cBB h hc hk g.1 g.2 (by omega) (by omega), bI_eq, show (0 : Int32) = iz 0 from rfl, ifE (by omega) (by omega) (by omega) (by omega), fR_eq (kd_0 h) (rr_0_2 h), cv_eq (kd_2 h), iz_sub]
  have mdx : F_Md_latest 70 (iz s) (iz t) M = if rts S s = 0 then some (some (.int (-1)), M) else F_Md_latest_L47 fu 70 (iz s) (iz (min t (lsB S s))) M := by
    unfold F_Md_latest
    rw [isM, if_neg (by decide), cv_eq (kd_70 h), mt, bI_eq, if_neg (by decide), cv_eq (kd_70 h), mRts h hm hk g.1 g.2, bI_eq, show (0 : Int32) = iz 0 from rfl, ifQ (by omega) (by omega) (by omega) (by omega), cv_eq (kd_70 h), mLast h hm hk g.1 g.2, bI_eq, min_eq (by omega) (by omega) (by omega) (by omega), bI_eq]
  have nmin : nB S s (min t (lsB S s) + 1) = nB S s (t + 1) := by
    rcases Int.lt_or_le (lsB S s) t with q | q
    · rw [show min t (lsB S s) = lsB S s by omega, nB_hi hk g.1 g.2 (by omega), nB_hi hk g.1 g.2 (by omega)]
    · rw [show min t (lsB S s) = t by omega]
  by_cases gz : nB S s (t + 1) ≤ 0
  · by_cases gr : rts S s = 0
    · exact Ag.p hI (v := -1) (by rw [nsx, if_pos gz]) (by rw [mdx, if_pos gr])
    · obtain ⟨M2, e2, f2⟩ := mLa0 hk g.1 g.2 20000 fu (min t (lsB S s)) M h hm (by omega) (by omega) (by omega) (by omega) (by omega)
      exact Ag.q hI (v := -1) (M1 := M) (M2 := M2) (by rw [nsx, if_pos gz]) (Fr.refl M) (by rw [mdx, if_neg gr]; exact e2) (f2.mono A39_ASc)
  · obtain ⟨T, tb, T0, T1, eC⟩ := cCob h hc hk g.1 g.2 (n := nB S s (t + 1) - 1) (by omega) (by omega)
    have tb1 := tb.1
    have tb2 := tb.2
    have ei := e_in hk g.1 g.2 (T := T) (by omega)
    have Tle : T ≤ min t (lsB S s) := by
      rcases Int.lt_or_le t T with q | q
      · have := nB_mono (S := S) (s := s) (show t + 1 ≤ T by omega); omega
      · omega
    obtain ⟨M2, e2, f2⟩ := mLaL hk g.1 g.2 (b := nB S s (t + 1)) (by omega) tb (min t (lsB S s) - T).toNat fu (min t (lsB S s)) M h hm (by omega) nmin (by omega) (by omega)
    have same : lsI (bornR S s) T (rts S s).toNat 0 (-1) = (sc0 (bornR S s) T (rts S s).toNat 0 (nB S s (t + 1) - 1 - nB S s T)).1 := by
      have nn := nB_e (S := S) s T
      have e3 : nB S s (T + 1) = nB S s (t + 1) := by
        have := nB_mono (S := S) (s := s) (show T + 1 ≤ t + 1 by omega); omega
      rw [lsI_e, if_neg (by omega), ← nn, e3, show nB S s (t + 1) - nB S s T - 1 = nB S s (t + 1) - 1 - nB S s T by omega]
    rw [same] at e2
    exact Ag.q hI (v := iz (cdK s (sc0 (bornR S s) T (rts S s).toNat 0 (nB S s (t + 1) - 1 - nB S s T)).1)) (M1 := M) (M2 := M2) (by rw [nsx, if_neg gz, eC, bI_eq]) (Fr.refl M) (by rw [mdx, if_neg (by omega)]; exact e2) (f2.mono A39_ASc)
theorem mNeL (hk : scOK S) {s b : Int} (s1 : 0 ≤ s) (s2 : s < sNs S) : ∀ (r m : Nat) (t : Int) (M : am_M), SH M → MS M S → 0 ≤ t → t ≤ 40000 → nB S s t = b → lsB S s < t + r → r < m → ∃ M' v, F_Md_next_L38 m 70 (iz s) (iz t) M = some (some (.int (iz v)), M') ∧ Fr A39 M M' ∧ ((v = -1 ∧ b = rts S s) ∨ TBn S s b v)
  | r, 0, t, M, h, hm, q0, q1, q2, q3, q4 => by omega
  | r, m + 1, t, M, h, hm, q0, q1, q2, q3, q4 => by
    obtain ⟨z0, -, z4, z5, z6, z7, z8, z9⟩ := hk.2.2.2.2.2 s s1 s2
    have ns := hk.2.2.1
    have rb := rts_bd hk s1 s2
    have lb := lsB_bd hk s1 s2
    have bb := nB_bd hk s1 s2 t
    rw [F_Md_next_L38, cv_eq (kd_70 h), mRts h hm hk s1 s2, bI_eq, show (0 : Int32) = iz 0 from rfl, ifE (by omega) (by omega) (by omega) (by omega)]
    by_cases g0 : rts S s ≤ 0
    · rw [if_pos g0]; exact ⟨M, -1, rfl, Fr.refl M, Or.inl ⟨rfl, by omega⟩⟩
    rw [if_neg g0, cv_eq (kd_70 h), mLast h hm hk s1 s2, bI_eq, ifL (by omega) (by omega) (by omega) (by omega)]
    by_cases g1 : lsB S s < t
    · rw [if_pos g1]; exact ⟨M, -1, rfl, Fr.refl M, Or.inl ⟨rfl, by rw [← q2]; exact nB_hi hk s1 s2 g1⟩⟩
    rw [if_neg g1]
    obtain ⟨M1, e1, f1, -⟩ := mBI0 h hm hk s1 s2 (T := t) (a := 0) q0 q1 (by omega) (by omega)
    have sr := sc0_r hk s1 s2 (T := t) (a := 0) (by omega)
    have m3 := nB_mono (S := S) (s := s) (show t ≤ t + 1 by omega)
    rw [cv_eq (kd_70 h), e1, bI_eq, show (-1 : Int32) = iz (-1) from rfl]
    cases r with
    | zero => omega
    | succ r =>
      rcases sr with ⟨y1, y2, y3⟩ | ⟨y1, y2, y3⟩
      · obtain ⟨M2, v, e2, f2, r2⟩ := mNeL (b := b) hk s1 s2 r m (t + 1) M1 (h.fr f1) (hm.fr f1 (fun b j q => by unfold A39 at q; omega)) (by omega) (by omega) (by omega) (by omega) (by omega)
        refine ⟨M2, v, ?_, f1.trans f2, r2⟩
        rw [y1, show cdK s (-1) = -1 from if_pos rfl, if_pos rfl, nm_eq, show (1 : Int32) = iz 1 from rfl, iz_add]
        exact e2
      · have cb := cd_bd (s := s) (x := (sc0 (bornR S s) t (rts S s).toNat 0 0).1) s1 (by omega) (Or.inl y1) y2
        have cn := cd_n (s := s) (x := (sc0 (bornR S s) t (rts S s).toNat 0 0).1) s1 (Or.inl y1)
        rw [ifQ (by omega) (by omega) (by omega) (by omega), if_neg (fun z => by have := cn.mp z; omega)]
        exact ⟨M1, t, rfl, f1, Or.inr ⟨by omega, by omega⟩⟩
theorem ap_next (hI : Inv M) (p1 p2 : Int32) : Ag (F_NS_next 0 p1 p2) (F_Md_next 70 p1 p2) M := by
  obtain ⟨h, -⟩ := id hI
  obtain ⟨S, st, s01, sa, sb, hc, hm, hb, hs, h0⟩ := hI.sc
  obtain ⟨s, c1, c2, rfl⟩ := iz_of p1
  obtain ⟨t, t1, t2, rfl⟩ := iz_of p2
  rcases src_g hI s01 hm hc hb h0 c1 c2 with ⟨g, st1, isC, isM⟩ | ⟨isC, isM⟩
  rotate_left
  · refine Ag.p hI (v := -2) ?_ ?_
    · unfold F_NS_next; rw [fR_eq (kd_0 h) (rr_0_2 h), cv_eq (kd_2 h), isC, bI_eq, if_pos (by decide)]
    · unfold F_Md_next; rw [isM, if_pos (by decide)]
  subst st1
  have hk := (hs rfl).1
  have ct := cTick (M := M) t1 t2
  have mt := mTick h (hs rfl) t1 t2
  obtain ⟨z0, -, z4, z5, z6, z7, z8, z9⟩ := hk.2.2.2.2.2 s g.1 g.2
  have ns := hk.2.2.1
  have rb := rts_bd hk g.1 g.2
  have lb := lsB_bd hk g.1 g.2
  have fg := fu_ge
  by_cases gt : 0 ≤ t ∧ t ≤ 30000
  rotate_left
  · rw [bz_f gt] at ct mt
    refine Ag.p hI (v := -2) ?_ ?_
    · unfold F_NS_next; rw [fR_eq (kd_0 h) (rr_0_2 h), cv_eq (kd_2 h), isC, bI_eq, if_neg (by decide), ct, bI_eq, if_pos (by decide)]
    · unfold F_Md_next; rw [isM, if_neg (by decide), cv_eq (kd_70 h), mt, bI_eq, if_pos (by decide)]
  rw [bz_t gt] at ct mt
  have nb := nB_bd hk g.1 g.2 t
  have nsx : F_NS_next 0 (iz s) (iz t) M = if rts S s ≤ nB S s t then some (some (.int (-1)), M) else bI (F_Scen_tickOfBirth 2 (iz s) (iz (nB S s t)) M) (fun r9 M8 => some (some (.int r9), M8)) := by
    unfold F_NS_next
    rw [fR_eq (kd_0 h) (rr_0_2 h), cv_eq (kd_2 h), isC, bI_eq, if_neg (by decide), ct, bI_eq, if_neg (by decide), fR_eq (kd_0 h) (rr_0_2 h), cv_eq (kd_2 h), cBB h hc hk g.1 g.2 (by omega) (by omega), bI_eq, fR_eq (kd_0 h) (rr_0_2 h), cv_eq (kd_2 h), show (9 : Int32) = iz 9 from rfl, cQ h hc g.1 (by omega) (by omega) (by omega), bI_eq, z9, ifE (by omega) (by omega) (by omega) (by omega), fR_eq (kd_0 h) (rr_0_2 h), cv_eq (kd_2 h)]
  have mdx : F_Md_next 70 (iz s) (iz t) M = F_Md_next_L38 fu 70 (iz s) (iz (max t (sQ S s 4))) M := by
    unfold F_Md_next
    rw [isM, if_neg (by decide), cv_eq (kd_70 h), mt, bI_eq, if_neg (by decide), cv_eq (kd_70 h), show (4 : Int32) = iz 4 from rfl, mQ h hm (by omega) g.1 g.2 (by omega) (by omega), bI_eq, max_eq (by omega) (by omega) (by omega) (by omega), bI_eq]
  have nmax : nB S s (max t (sQ S s 4)) = nB S s t := by
    rcases Int.lt_or_le t (sQ S s 4) with q | q
    · rw [show max t (sQ S s 4) = sQ S s 4 by omega, nB_lo hk g.1 g.2 (Int.le_refl _), nB_lo hk g.1 g.2 (by omega)]
    · rw [show max t (sQ S s 4) = t by omega]
  obtain ⟨M2, v, e2, f2, r2⟩ := mNeL (b := nB S s t) hk g.1 g.2 20000 fu (max t (sQ S s 4)) M h hm (by omega) (by omega) nmax (by omega) (by omega)
  rw [← mdx] at e2
  by_cases gz : rts S s ≤ nB S s t
  · rcases r2 with ⟨y1, y2⟩ | y
    · rw [y1] at e2
      exact Ag.q hI (v := -1) (M1 := M) (M2 := M2) (by rw [nsx, if_pos gz]) (Fr.refl M) e2 (f2.mono A39_ASc)
    · exfalso
      have := nB_bd hk g.1 g.2 (v + 1)
      have := y.2
      omega
  · obtain ⟨T, e1, tb, T0, T1⟩ := cTob h hc hk g.1 g.2 (n := nB S s t) (by omega) (by omega)
    rcases r2 with ⟨y1, y2⟩ | y
    · omega
    · have e := TBn_u tb y
      rw [← e] at e2
      exact Ag.q hI (v := iz T) (M1 := M) (M2 := M2) (by rw [nsx, if_neg gz, e1, bI_eq]) (Fr.refl M) e2 (f2.mono A39_ASc)
end Born3
