/-! ===== gathers, all of it ===== -/
section Gath2
variable {M : am_M} {S : Sc} {t : Int}
def fgv (S : Sc) (s t : Int) : Int := if 0 < t - 200 - sQ S s 4 then (t - 200 - sQ S s 4 + sQ S s 5 - 1) / sQ S s 5 else 0
theorem fgv_bd (hk : scOK S) {s : Int} (s1 : 0 ≤ s) (s2 : s < sNs S) (t2 : t ≤ 40000) : 0 ≤ fgv S s t ∧ fgv S s t ≤ 41000 := by
  obtain ⟨z0, -, z4, z5, z6, z7, z8, z9⟩ := hk.2.2.2.2.2 s s1 s2
  unfold fgv
  split
  · have a1 := Int.ediv_nonneg (a := t - 200 - sQ S s 4 + sQ S s 5 - 1) (b := sQ S s 5) (by omega) (by omega)
    have a2 := Int.ediv_le_self (a := t - 200 - sQ S s 4 + sQ S s 5 - 1) (sQ S s 5) (by omega)
    omega
  · omega
theorem mFirst (h : SH M) (hm : MS M S) (hk : scOK S) {s : Int} (s1 : 0 ≤ s) (s2 : s < sNs S) (t1 : 0 ≤ t) (t2 : t ≤ 40000) : F_Md_firstGroup 70 (iz s) (iz t) M = some (some (.int (iz (fgv S s t))), M) := by
  obtain ⟨z0, -, z4, z5, z6, z7, z8, z9⟩ := hk.2.2.2.2.2 s s1 s2
  have ns := hk.2.2.1
  unfold F_Md_firstGroup fgv
  rw [cv_eq (kd_70 h), show (4 : Int32) = iz 4 from rfl, show (5 : Int32) = iz 5 from rfl, mQ h hm (by omega) s1 s2 (by omega) (by omega), bI_eq, show (200 : Int32) = iz 200 from rfl, iz_sub, iz_sub, nm_eq, show (0 : Int32) = iz 0 from rfl, ifL (by omega) (by omega) (by omega) (by omega), cv_eq (kd_70 h), mQ h hm (by omega) s1 s2 (by omega) (by omega), bI_eq, cv_eq (kd_70 h), mQ h hm (by omega) s1 s2 (by omega) (by omega), bI_eq, dZ_eq (by omega) (by omega), iz_add, show (1 : Int32) = iz 1 from rfl, iz_sub]
  by_cases g : 0 < t - 200 - sQ S s 4
  · rw [if_pos g, if_pos g, iz_ediv (by omega) (by omega) (by omega) (by omega)]
  · rw [if_neg g, if_neg g]
def isG (S : Sc) (s g t : Int) : Prop := g < gps S s ∧ sQ S s 4 + g * sQ S s 5 ≤ t
theorem mIsG (h : SH M) (hm : MS M S) (hk : scOK S) {s g : Int} (s1 : 0 ≤ s) (s2 : s < sNs S) (t1 : 0 ≤ t) (t2 : t ≤ 40000) (g1 : 0 ≤ g) (g2 : g ≤ 1000000) : (isG S s g t ∧ F_Md_isGroup 70 (iz s) (iz g) (iz t) M = some (some (.int (iz 1)), M)) ∨ (¬ isG S s g t ∧ F_Md_isGroup 70 (iz s) (iz g) (iz t) M = some (some (.int (iz 0)), M)) := by
  obtain ⟨z0, -, z4, z5, z6, z7, z8, z9⟩ := hk.2.2.2.2.2 s s1 s2
  have ns := hk.2.2.1
  have gb := gps_bd hk s1 s2
  have m1 : 0 ≤ g * sQ S s 5 := Int.mul_nonneg g1 (by omega)
  have m2 : g * sQ S s 5 ≤ 1000000 * 99 := Int.mul_le_mul g2 (by omega) (by omega) (by omega)
  unfold F_Md_isGroup isG
  rw [cv_eq (kd_70 h), mGps h hm hk s1 s2, bI_eq, ifE (by omega) (by omega) (by omega) (by omega), show (4 : Int32) = iz 4 from rfl, show (5 : Int32) = iz 5 from rfl, cv_eq (kd_70 h), mQ h hm (by omega) s1 s2 (by omega) (by omega), bI_eq, cv_eq (kd_70 h), mQ h hm (by omega) s1 s2 (by omega) (by omega), bI_eq, iz_mul, iz_add, ifL (by omega) (by omega) (by omega) (by omega)]
  by_cases q1 : gps S s ≤ g
  · rw [if_pos q1]; exact Or.inr ⟨by omega, rfl⟩
  · rw [if_neg q1]
    by_cases q2 : t < sQ S s 4 + g * sQ S s 5
    · rw [if_pos q2]; exact Or.inr ⟨by omega, rfl⟩
    · rw [if_neg q2]; exact Or.inl ⟨by omega, rfl⟩
/-- what lies ahead of the first group, or behind the last, is not there -/
theorem g_lo (hk : scOK S) {c : Int} (h : isSp S c) (hlt : c / 256 / 4 < fgv S (c / 256 % 4) t * sQ S (c / 256 % 4) 6) : kEn (lay S c) < t := by
  have s1 : 0 ≤ c / 256 % 4 := by omega
  have s2 := h.2.1
  have k0 : 0 ≤ c / 256 / 4 := by have := h.1; omega
  have ls := lay_span hk h
  have bb := bornR_bd hk (s := c / 256 % 4) (k := c / 256 / 4) s1 h.2.1 (by omega) h.2.2.1
  have ep : plT S (c / 256 % 4) (c / 256 / 4) = sQ S (c / 256 % 4) 4 + c / 256 / 4 / sQ S (c / 256 % 4) 6 * sQ S (c / 256 % 4) 5 := rfl
  generalize c / 256 % 4 = s at *
  generalize c / 256 / 4 = k at *
  obtain ⟨z0, -, z4, z5, z6, z7, z8, z9⟩ := hk.2.2.2.2.2 s s1 s2
  have bs := sp2_bd hk z0.1 z0.2
  have bb2 := sbh_bd hk 0 z0.1 z0.2
  have es : spn S 0 (sQ S s 0) = sp2 S (sQ S s 0) + sbh S 0 (sQ S s 0) := rfl
  have q := (Int.ediv_lt_iff_lt_mul (c := sQ S s 6) (by omega)).mpr hlt
  have q0 : 0 ≤ k / sQ S s 6 := Int.ediv_nonneg (by omega) (by omega)
  unfold fgv at q
  by_cases g : 0 < t - 200 - sQ S s 4
  · rw [if_pos g] at q
    have e1 := Int.ediv_mul_le (t - 200 - sQ S s 4 + sQ S s 5 - 1) (b := sQ S s 5) (by omega)
    generalize (t - 200 - sQ S s 4 + sQ S s 5 - 1) / sQ S s 5 = f at q e1
    have e2 : k / sQ S s 6 * sQ S s 5 ≤ (f - 1) * sQ S s 5 := Int.mul_le_mul_of_nonneg_right (by omega) (by omega)
    rw [Int.sub_mul] at e2
    omega
  · rw [if_neg g] at q
    omega
theorem g_hi (hk : scOK S) {c g : Int} (h : isSp S c) (hg : ¬ isG S (c / 256 % 4) g t) (hle : sQ S (c / 256 % 4) 6 * g ≤ c / 256 / 4) : t < kBn (lay S c) := by
  have s1 : 0 ≤ c / 256 % 4 := by omega
  have s2 := h.2.1
  have k0 : 0 ≤ c / 256 / 4 := by have := h.1; omega
  have ls := lay_span hk h
  have bb := bornR_bd hk (s := c / 256 % 4) (k := c / 256 / 4) s1 h.2.1 (by omega) h.2.2.1
  have ep : plT S (c / 256 % 4) (c / 256 / 4) = sQ S (c / 256 % 4) 4 + c / 256 / 4 / sQ S (c / 256 % 4) 6 * sQ S (c / 256 % 4) 5 := rfl
  have hr := h.2.2.1
  unfold rts at hr
  generalize c / 256 % 4 = s at *
  generalize c / 256 / 4 = k at *
  obtain ⟨z0, -, z4, z5, z6, z7, z8, z9⟩ := hk.2.2.2.2.2 s s1 s2
  have q := (Int.ediv_lt_iff_lt_mul (c := sQ S s 6) (by omega)).mpr hr
  have q2 : g ≤ k / sQ S s 6 := (Int.le_ediv_iff_mul_le (by omega)).mpr (by rw [Int.mul_comm]; exact hle)
  have e2 : g * sQ S s 5 ≤ k / sQ S s 6 * sQ S s 5 := Int.mul_le_mul_of_nonneg_right q2 (by omega)
  unfold isG at hg
  omega
theorem rk_s (hk : scOK S) {c s : Int} (h : isSp S c) (h1 : s * 1099511627776 ≤ rk c) (h2 : rk c < (s + 1) * 1099511627776) : c / 256 % 4 = s ∧ rk c = s * 1099511627776 + c / 256 / 4 * 256 + c % 256 := by
  have b := sp_rt hk h
  have b0 := h.1
  have e : c / 256 % 4 = s := by unfold rk at h1 h2; omega
  exact ⟨e, by unfold rk; rw [e]⟩
theorem mGk (hk : scOK S) (lb : LB S t) (t1 : 0 ≤ t) (t2 : t ≤ 40000) (k7 : Nat → Int32 → Int32 → am_M → am_R) (k31 : Nat → Int32 → Int32 → Int32 → Int32 → am_M → am_R) {s g : Int} (s1 : 0 ≤ s) (s2 : s < sNs S) (g1 : 0 ≤ g) (g2 : g < 10001) : ∀ (r n : Nat) (k : Int) (M : am_M) (L : List Int), SH M → MS M S → rI M 70 1 = iz 1 → GA M S t (s * 1099511627776 + k * 256) L → sQ S s 6 * g ≤ k → k + r = sQ S s 6 * g + sQ S s 6 → r < n → ∃ M' L', F_Md_gathers_L48 k7 k31 n 70 (iz t) (iz s) (iz (sQ S s 6)) (iz g) (iz k) M = k31 70 (iz t) (iz s) (iz (sQ S s 6)) (iz (g + 1)) M' ∧ Fr AGa M M' ∧ GA M' S t (s * 1099511627776 + (sQ S s 6 * (g + 1)) * 256) L'
  | r, 0, k, M, L, h, hm, hst, ga, q1, q2, q3 => by omega
  | 0, n + 1, k, M, L, h, hm, hst, ga, q1, q2, q3 => by
    obtain ⟨z0, -, z4, z5, z6, z7, z8, z9⟩ := hk.2.2.2.2.2 s s1 s2
    have m1 : 0 ≤ sQ S s 6 * g := Int.mul_nonneg (by omega) g1
    have m2 : sQ S s 6 * g ≤ 5 * 10001 := Int.mul_le_mul (by omega) (by omega) (by omega) (by omega)
    refine ⟨M, L, ?_, Fr.refl M, ?_⟩
    · rw [F_Md_gathers_L48, iz_mul, iz_add, ifE (by omega) (by omega) (by omega) (by omega), if_pos (by omega), nm_eq, show (1 : Int32) = iz 1 from rfl, iz_add]
    · rw [Int.mul_add, Int.mul_one, ← q2]
      rw [show k + ((0 : Nat) : Int) = k by omega]
      exact ga
  | r + 1, n + 1, k, M, L, h, hm, hst, ga, q1, q2, q3 => by
    obtain ⟨z0, -, z4, z5, z6, z7, z8, z9⟩ := hk.2.2.2.2.2 s s1 s2
    have ns := hk.2.2.1
    have m1 : 0 ≤ sQ S s 6 * g := Int.mul_nonneg (by omega) g1
    have m2 : sQ S s 6 * g ≤ 5 * 10001 := Int.mul_le_mul (by omega) (by omega) (by omega) (by omega)
    obtain ⟨M1, L1, e1, f1, ga1⟩ := mLine hk lb t1 t2 s1 (by omega) (k := k) (by omega) (by omega) h hm hst ga
    obtain ⟨M', L', e2, f2, ga2⟩ := mGk hk lb t1 t2 k7 k31 s1 s2 g1 g2 r n (k + 1) M1 L1 (h.fr f1) (hm.ga f1) (by rw [st_ga f1]; exact hst) ga1 (by omega) (by omega) (by omega)
    refine ⟨M', L', ?_, f1.trans f2, ga2⟩
    rw [F_Md_gathers_L48, iz_mul, iz_add, ifE (by omega) (by omega) (by omega) (by omega), if_neg (by omega), cv_eq (kd_70 h), show (4 : Int32) = iz 4 from rfl, iz_mul, iz_add, e1, bV_eq, show (1 : Int32) = iz 1 from rfl, iz_add, nm_eq]
    exact e2
theorem mGg (hk : scOK S) (lb : LB S t) (t1 : 0 ≤ t) (t2 : t ≤ 40000) (k7 : Nat → Int32 → Int32 → am_M → am_R) {s : Int} (s1 : 0 ≤ s) (s2 : s < sNs S) : ∀ (r n : Nat) (g : Int) (M : am_M) (L : List Int), SH M → MS M S → rI M 70 1 = iz 1 → GA M S t (s * 1099511627776 + (sQ S s 6 * g) * 256) L → 0 ≤ g → g ≤ 42000 → gps S s ≤ g + r → r < n → ∃ M' L', F_Md_gathers_L31 k7 n 70 (iz t) (iz s) (iz (sQ S s 6)) (iz g) M = k7 70 (iz t) (iz (s + 1)) M' ∧ Fr AGa M M' ∧ GA M' S t ((s + 1) * 1099511627776) L'
  | r, 0, g, M, L, h, hm, hst, ga, q1, q2, q3, q4 => by omega
  | r, n + 1, g, M, L, h, hm, hst, ga, q1, q2, q3, q4 => by
    obtain ⟨z0, -, z4, z5, z6, z7, z8, z9⟩ := hk.2.2.2.2.2 s s1 s2
    have fg := fu_ge
    have ns := hk.2.2.1
    have gb := gps_bd hk s1 s2
    rcases mIsG h hm hk s1 s2 t1 t2 q1 (show g ≤ 1000000 by omega) with ⟨i1, i2⟩ | ⟨i1, i2⟩
    · have i3 : g < gps S s := i1.1
      have m1 : 0 ≤ sQ S s 6 * g := Int.mul_nonneg (by omega) q1
      obtain ⟨M1, L1, e1, f1, ga1⟩ := mGk hk lb t1 t2 k7 (F_Md_gathers_L31 k7 n) s1 s2 q1 (by omega) (sQ S s 6).toNat fu (sQ S s 6 * g) M L h hm hst ga (by omega) (by omega) (by omega)
      cases r with
      | zero => omega
      | succ r =>
        obtain ⟨M', L', e2, f2, ga2⟩ := mGg hk lb t1 t2 k7 s1 s2 r n (g + 1) M1 L1 (h.fr f1) (hm.ga f1) (by rw [st_ga f1]; exact hst) ga1 (by omega) (by omega) (by omega) (by omega)
        refine ⟨M', L', ?_, f1.trans f2, ga2⟩
        rw [F_Md_gathers_L31, cv_eq (kd_70 h), i2, bI_eq, if_neg (by decide), iz_mul, nm_eq, e1]
        exact e2
    · refine ⟨M, L, ?_, Fr.refl M, ga.skip ?_ (fun c hc y1 y2 => ?_)⟩
      · rw [F_Md_gathers_L31, cv_eq (kd_70 h), i2, bI_eq, if_pos (by decide), show (1 : Int32) = iz 1 from rfl, iz_add, nm_eq]
      · have m2 : sQ S s 6 * g ≤ 5 * 42000 := Int.mul_le_mul (by omega) (by omega) (by omega) (by omega)
        omega
      · have m1 : 0 ≤ sQ S s 6 * g := Int.mul_nonneg (by omega) q1
        obtain ⟨r1, r2⟩ := rk_s hk hc.1 (show s * 1099511627776 ≤ rk c by omega) y2
        have b0 := hc.1.1
        subst r1
        have := g_hi hk hc.1 i1 (by omega)
        have := hc.2.1
        omega
theorem mGs (hk : scOK S) (lb : LB S t) (t1 : 0 ≤ t) (t2 : t ≤ 40000) : ∀ (r n : Nat) (s : Int) (M : am_M) (L : List Int), SH M → MS M S → rI M 70 1 = iz 1 → GA M S t (s * 1099511627776) L → 0 ≤ s → s + r = sNs S → r < n → ∃ M' L', F_Md_gathers_L7 n 70 (iz t) (iz s) M = some (none, M') ∧ Fr AGa M M' ∧ GA M' S t (sNs S * 1099511627776) L'
  | r, 0, s, M, L, h, hm, hst, ga, q1, q2, q3 => by omega
  | 0, n + 1, s, M, L, h, hm, hst, ga, q1, q2, q3 => by
    have ns := hk.2.2.1
    have e : s = sNs S := by omega
    subst e
    refine ⟨M, L, ?_, Fr.refl M, ga⟩
    rw [F_Md_gathers_L7, fI_eq (kd_70 h), hm.2.2.2.2.1, ifE (by omega) (by omega) (by omega) (by omega), if_pos (by omega)]
  | r + 1, n + 1, s, M, L, h, hm, hst, ga, q1, q2, q3 => by
    have ns := hk.2.2.1
    have s2 : s < sNs S := by omega
    obtain ⟨z0, -, z4, z5, z6, z7, z8, z9⟩ := hk.2.2.2.2.2 s q1 s2
    have fg := fu_ge
    have fb := fgv_bd hk q1 s2 t2
    have gb := gps_bd hk q1 s2
    have m1 : 0 ≤ sQ S s 6 * fgv S s t := Int.mul_nonneg (by omega) fb.1
    have ga0 : GA M S t (s * 1099511627776 + (sQ S s 6 * fgv S s t) * 256) L := ga.skip (by omega) (fun c hc y1 y2 => by
      have m2 : sQ S s 6 * fgv S s t ≤ 5 * 42000 := Int.mul_le_mul (by omega) (by omega) (by omega) (by omega)
      obtain ⟨r1, r2⟩ := rk_s hk hc.1 y1 (by omega)
      have b0 := hc.1.1
      subst r1
      have := g_lo hk hc.1 (t := t) (by rw [Int.mul_comm]; omega)
      have := hc.2.2
      omega)
    obtain ⟨M1, L1, e1, f1, ga1⟩ := mGg hk lb t1 t2 (F_Md_gathers_L7 n) q1 s2 (gps S s).toNat fu (fgv S s t) M L h hm hst ga0 fb.1 (by omega) (by omega) (by omega)
    obtain ⟨M', L', e2, f2, ga2⟩ := mGs hk lb t1 t2 r n (s + 1) M1 L1 (h.fr f1) (hm.ga f1) (by rw [st_ga f1]; exact hst) ga1 (by omega) (by omega) (by omega)
    refine ⟨M', L', ?_, f1.trans f2, ga2⟩
    rw [F_Md_gathers_L7, fI_eq (kd_70 h), hm.2.2.2.2.1, ifE (by omega) (by omega) (by omega) (by omega), if_neg (by omega), cv_eq (kd_70 h), show (6 : Int32) = iz 6 from rfl, mQ h hm (by omega) q1 s2 (by omega) (by omega), bI_eq, cv_eq (kd_70 h), mFirst h hm hk q1 s2 t1 t2, bI_eq, e1]
    exact e2
/-- the reference holds the frame of t in the order L -/
def GF (M : am_M) (S : Sc) (t : Int) (L : List Int) : Prop := rI M 70 34 = iz (L.length : Int) ∧ L.Nodup ∧ (∀ c, c ∈ L ↔ inFr S t c) ∧ ∀ (i : Nat) (c : Int), L[i]? = some c → rL M 84 i = jz (kyz S t c)
theorem mGath (h : SH M) (hm : MS M S) (hk : scOK S) (hst : rI M 70 1 = iz 1) (lb : LB S t) (t1 : 0 ≤ t) (t2 : t ≤ 40000) : ∃ M' L, F_Md_gathers 70 (iz t) M = some (none, M') ∧ Fr AGa M M' ∧ GF M' S t L := by
  have ns := hk.2.2.1
  have fg := fu_ge
  have f0 : Fr AGa M (wI M 70 34 (iz 0)) := Fr.wI (Or.inr (Or.inl ⟨rfl, rfl⟩))
  have ga0 : GA (wI M 70 34 (iz 0)) S t (0 * 1099511627776) [] := by
    refine ⟨rI_at rfl rfl, List.nodup_nil, fun c => ?_, fun i c q => by cases q⟩
    refine ⟨fun q => (List.not_mem_nil q).elim, fun q => ?_⟩
    have b := sp_rt hk q.1.1
    have b0 := q.1.1.1
    have := q.2
    unfold rk at this
    omega
  obtain ⟨M', L', e2, f2, g1, g2, g3, g4⟩ := mGs hk lb t1 t2 (sNs S).toNat fu 0 _ [] (h.fr f0) (hm.ga f0) (by rw [st_ga f0]; exact hst) ga0 (by omega) (by omega) (by omega)
  refine ⟨M', L', ?_, f0.trans f2, g1, g2, fun c => ?_, g4⟩
  · unfold F_Md_gathers
    rw [show (0 : Int32) = iz 0 from rfl, sI_eq (kd_70 h)]
    exact e2
  · rw [g3]
    refine ⟨fun q => q.1, fun q => ⟨q, ?_⟩⟩
    have b := sp_rt hk q.1
    have b0 := q.1.1
    have b1 := q.1.2.1
    unfold rk
    omega
end Gath2
