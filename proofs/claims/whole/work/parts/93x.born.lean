/-! ===== the n-th birth ===== -/
section Born
variable {M : am_M} {S : Sc}
/-- the a-th from k on that is at T, and what is left -/
def sc0 (f : Int → Int) (T : Int) : Nat → Int → Int → Int × Int
  | 0, _, a => (-1, a)
  | r + 1, k, a => if f k = T then (if a = 0 then (k, a) else sc0 f T r (k + 1) (a - 1)) else sc0 f T r (k + 1) a
def lsI (f : Int → Int) (T : Int) : Nat → Int → Int → Int
  | 0, _, l => l
  | r + 1, k, l => lsI f T r (k + 1) (if f k = T then k else l)
def ind (f : Int → Int) (T k : Int) : Int := if f k = T then 1 else 0
theorem sm_s {f : Int → Int} (r : Nat) (k : Int) : smF f (r + 1) k 0 = f k + smF f r (k + 1) 0 := by rw [smF, smF_v]; omega
theorem ind_nn {f : Int → Int} {T : Int} : ∀ (r : Nat) (k : Int), 0 ≤ smF (ind f T) r k 0
  | 0, k => Int.le_refl 0
  | r + 1, k => by
    have := ind_nn (f := f) (T := T) r (k + 1)
    have : 0 ≤ ind f T k := by unfold ind; split <;> omega
    rw [sm_s]; omega
theorem sc0_no {f : Int → Int} {T : Int} : ∀ (r : Nat) (k a : Int), smF (ind f T) r k 0 ≤ a → sc0 f T r k a = (-1, a - smF (ind f T) r k 0)
  | 0, k, a, h => by rw [sc0, smF, Int.sub_zero]
  | r + 1, k, a, h => by
    have nn := ind_nn (f := f) (T := T) r (k + 1)
    rw [sm_s] at h ⊢
    rw [sc0]
    unfold ind at h ⊢
    by_cases q : f k = T
    · rw [if_pos q] at h ⊢
      have e := sc0_no (f := f) (T := T) r (k + 1) (a - 1) (by unfold ind; unfold ind at nn; omega)
      unfold ind at e nn
      rw [if_pos q, if_neg (by omega), e, show a - 1 - smF (fun k => if f k = T then 1 else 0) r (k + 1) 0 = a - (1 + smF (fun k => if f k = T then 1 else 0) r (k + 1) 0) by omega]
    · rw [if_neg q] at h ⊢
      have e := sc0_no (f := f) (T := T) r (k + 1) a (by unfold ind; omega)
      unfold ind at e
      rw [if_neg q, e, Int.zero_add]
theorem sc0_yes {f : Int → Int} {T : Int} : ∀ (r : Nat) (k a : Int), 0 ≤ a → a < smF (ind f T) r k 0 → k ≤ (sc0 f T r k a).1 ∧ (sc0 f T r k a).1 < k + r ∧ f (sc0 f T r k a).1 = T
  | 0, k, a, h0, h => by rw [smF] at h; omega
  | r + 1, k, a, h0, h => by
    rw [sm_s] at h
    rw [sc0]
    by_cases q : f k = T
    · rw [if_pos q]
      by_cases q2 : a = 0
      · rw [if_pos q2]; exact ⟨Int.le_refl _, by show k < _; omega, q⟩
      · rw [if_neg q2]
        have := sc0_yes (f := f) (T := T) r (k + 1) (a - 1) (by omega) (by unfold ind at h; rw [if_pos q] at h; unfold ind; omega)
        exact ⟨by omega, by omega, this.2.2⟩
    · rw [if_neg q]
      have := sc0_yes (f := f) (T := T) r (k + 1) a h0 (by unfold ind at h; rw [if_neg q] at h; unfold ind; omega)
      exact ⟨by omega, by omega, this.2.2⟩
theorem sc0_app {f : Int → Int} {T : Int} : ∀ (r r' : Nat) (k a : Int), 0 ≤ k → sc0 f T (r + r') k a = if (sc0 f T r k a).1 = -1 then sc0 f T r' (k + r) (sc0 f T r k a).2 else sc0 f T r k a
  | 0, r', k, a, hk => by rw [sc0, if_pos rfl, Nat.zero_add, show k + ((0 : Nat) : Int) = k by omega]
  | r + 1, r', k, a, hk => by
    rw [show r + 1 + r' = (r + r') + 1 by omega, sc0, sc0]
    by_cases q : f k = T
    · rw [if_pos q, if_pos q]
      by_cases q2 : a = 0
      · rw [if_pos q2, if_pos q2, if_neg (show ¬ k = -1 by omega)]
      · rw [if_neg q2, if_neg q2, sc0_app r r' (k + 1) (a - 1) (by omega), show k + 1 + (r : Int) = k + ((r + 1 : Nat) : Int) by omega]
    · rw [if_neg q, if_neg q, sc0_app r r' (k + 1) a (by omega), show k + 1 + (r : Int) = k + ((r + 1 : Nat) : Int) by omega]
theorem sc0_sk {f : Int → Int} {T : Int} : ∀ (r : Nat) (k a : Int), (∀ j, k ≤ j → j < k + r → f j ≠ T) → sc0 f T r k a = (-1, a)
  | 0, k, a, h => rfl
  | r + 1, k, a, h => by rw [sc0, if_neg (h k (by omega) (by omega)), sc0_sk r (k + 1) a (fun j j1 j2 => h j (by omega) (by omega))]
theorem lsI_e {f : Int → Int} {T : Int} : ∀ (r : Nat) (k l : Int), lsI f T r k l = if smF (ind f T) r k 0 = 0 then l else (sc0 f T r k (smF (ind f T) r k 0 - 1)).1
  | 0, k, l => by rw [lsI, smF, if_pos rfl]
  | r + 1, k, l => by
    have nn := ind_nn (f := f) (T := T) r (k + 1)
    rw [lsI, lsI_e r (k + 1), sm_s, sc0]
    by_cases q : f k = T
    · have i1 : ind f T k = 1 := if_pos q
      rw [if_pos q, if_pos q, i1, if_neg (show ¬ 1 + smF (ind f T) r (k + 1) 0 = 0 by omega), show 1 + smF (ind f T) r (k + 1) 0 - 1 = smF (ind f T) r (k + 1) 0 by omega]
      by_cases q2 : smF (ind f T) r (k + 1) 0 = 0
      · rw [if_pos q2, if_pos q2]
      · rw [if_neg q2, if_neg q2]
    · have i0 : ind f T k = 0 := if_neg q
      rw [if_neg q, if_neg q, i0, Int.zero_add]
theorem lsI_sk {f : Int → Int} {T : Int} : ∀ (r : Nat) (k l : Int), (∀ j, k ≤ j → j < k + r → f j ≠ T) → lsI f T r k l = l
  | 0, k, l, h => rfl
  | r + 1, k, l, h => by rw [lsI, if_neg (h k (by omega) (by omega)), lsI_sk r (k + 1) l (fun j j1 j2 => h j (by omega) (by omega))]
theorem lsI_app {f : Int → Int} {T : Int} : ∀ (r r' : Nat) (k l : Int), lsI f T (r + r') k l = lsI f T r' (k + r) (lsI f T r k l)
  | 0, r', k, l => by rw [lsI, Nat.zero_add, show k + ((0 : Nat) : Int) = k by omega]
  | r + 1, r', k, l => by rw [show r + 1 + r' = (r + r') + 1 by omega, lsI, lsI, lsI_app r r' (k + 1), show k + 1 + (r : Int) = k + ((r + 1 : Nat) : Int) by omega]
/-! how many are born before a tick -/
theorem smF_le {f g : Int → Int} (h : ∀ k, f k ≤ g k) : ∀ (r : Nat) (k v w : Int), v ≤ w → smF f r k v ≤ smF g r k w
  | 0, k, v, w, q => q
  | r + 1, k, v, w, q => by rw [smF, smF]; exact smF_le h r (k + 1) _ _ (by have := h k; omega)
theorem nB_mono {s t u : Int} (h : t ≤ u) : nB S s t ≤ nB S s u := by
  unfold nB
  refine smF_le (fun k => ?_) _ _ _ _ (Int.le_refl 0)
  unfold inB
  split <;> split <;> omega
theorem nB_e (s t : Int) : nB S s (t + 1) - nB S s t = smF (ind (bornR S s) t) (rts S s).toNat 0 0 := by
  unfold nB
  refine (smF_sub (d := ind (bornR S s) t) _ 0 0 0 (fun k => ?_)).trans rfl
  unfold inB ind
  split <;> split <;> split <;> omega
theorem nB_bd (hk : scOK S) {s : Int} (s1 : 0 ≤ s) (s2 : s < sNs S) (t : Int) : 0 ≤ nB S s t ∧ nB S s t ≤ rts S s := by
  have rb := rts_bd hk s1 s2
  unfold nB
  constructor
  · have := smF_le (f := fun _ => 0) (g := inB S s t) (fun k => by unfold inB; split <;> omega) (rts S s).toNat 0 0 0 (Int.le_refl 0)
    rw [smF_0 (fun _ => rfl)] at this
    exact this
  · have := smF_le (f := inB S s t) (g := fun _ => 1) (fun k => by unfold inB; split <;> omega) (rts S s).toNat 0 0 0 (Int.le_refl 0)
    rw [smF_c (fun _ => 1) 1 _ _ _ (fun b _ _ => rfl)] at this
    omega
theorem nB_lo (hk : scOK S) {s t : Int} (s1 : 0 ≤ s) (s2 : s < sNs S) (ht : t ≤ sQ S s 4) : nB S s t = 0 := by
  have rb := rts_bd hk s1 s2
  unfold nB
  rw [smF_z (g := fun _ => 0) _ _ _ (fun k k1 k2 => ?_), smF_0 (fun _ => rfl)]
  have b1 := bornR_bd hk s1 s2 k1 (show k < rts S s by omega)
  have b2 := plT_bd hk s1 s2 k1 (show k < rts S s by omega)
  unfold inB
  rw [if_neg (by omega)]
theorem plT_mono (hk : scOK S) {s j k : Int} (s1 : 0 ≤ s) (s2 : s < sNs S) (h : j ≤ k) : plT S s j ≤ plT S s k := by
  obtain ⟨z0, -, z4, z5, z6, z7, z8, z9⟩ := hk.2.2.2.2.2 s s1 s2
  have a : j / sQ S s 6 ≤ k / sQ S s 6 := Int.ediv_le_ediv (by omega) h
  have b : j / sQ S s 6 * sQ S s 5 ≤ k / sQ S s 6 * sQ S s 5 := Int.mul_le_mul_of_nonneg_right a (by omega)
  unfold plT
  omega
/-- born before its own plan: at most n; up to its jitter: more than n -/
theorem nB_pl (hk : scOK S) {s n : Int} (s1 : 0 ≤ s) (s2 : s < sNs S) (n0 : 0 ≤ n) (n1 : n < rts S s) : nB S s (plT S s n) ≤ n ∧ n < nB S s (plT S s n + sQ S s 8 + 1) := by
  have rb := rts_bd hk s1 s2
  obtain ⟨r1, hr1⟩ : ∃ r1 : Nat, (r1 : Int) = n := ⟨n.toNat, by omega⟩
  obtain ⟨r2, hr2⟩ : ∃ r2 : Nat, (rts S s).toNat = r1 + (r2 + 1) := ⟨(rts S s).toNat - r1 - 1, by omega⟩
  unfold nB
  rw [hr2]
  constructor
  · rw [smF_app, smF_z (g := fun _ => 0) (r2 + 1) _ _ (fun k k1 k2 => by
      have b1 := bornR_bd hk s1 s2 (k := k) (by omega) (by omega)
      have m := plT_mono hk s1 s2 (j := n) (k := k) (by omega)
      unfold inB
      rw [if_neg (by omega)]), smF_0 (fun _ => rfl)]
    have := smF_le (f := inB S s (plT S s n)) (g := fun _ => 1) (fun k => by unfold inB; split <;> omega) r1 0 0 0 (Int.le_refl 0)
    rw [smF_c (fun _ => 1) 1 _ _ _ (fun b _ _ => rfl)] at this
    omega
  · rw [show r1 + (r2 + 1) = (r1 + 1) + r2 by omega, smF_app, smF_z (g := fun _ => 1) (r1 + 1) _ _ (fun k k1 k2 => by
      have b1 := bornR_bd hk s1 s2 (k := k) (by omega) (by omega)
      have m := plT_mono hk s1 s2 (j := k) (k := n) (by omega)
      unfold inB
      rw [if_pos (by omega)]), smF_c (fun _ => 1) 1 _ _ _ (fun b _ _ => rfl)]
    have := smF_le (f := fun _ => 0) (g := inB S s (plT S s n + sQ S s 8 + 1)) (fun k => by unfold inB; split <;> omega) r2 (0 + ((r1 + 1 : Nat) : Int)) (0 + ((r1 + 1 : Nat) : Int) * 1) (0 + ((r1 + 1 : Nat) : Int) * 1) (Int.le_refl _)
    rw [smF_0 (fun _ => rfl)] at this
    omega
/-- the tick of the n-th birth -/
def TBn (S : Sc) (s n T : Int) : Prop := nB S s T ≤ n ∧ n < nB S s (T + 1)
theorem TBn_u {s n T U : Int} (h : TBn S s n T) (h' : TBn S s n U) : T = U := by
  rcases Int.lt_trichotomy T U with q | q | q
  · have := nB_mono (S := S) (s := s) (show T + 1 ≤ U by omega)
    have := h.2; have := h'.1; omega
  · exact q
  · have := nB_mono (S := S) (s := s) (show U + 1 ≤ T by omega)
    have := h'.2; have := h.1; omega
theorem cTobL (h : SH M) (hc : CS M S) (hk : scOK S) {s n : Int} (s1 : 0 ≤ s) (s2 : s < sNs S) (n0 : 0 ≤ n) (n1 : n < rts S s) : ∀ (r m : Nat) (lo hi i : Int), 0 ≤ lo → hi < 20000 → lo ≤ hi → hi - lo ≤ r → 0 ≤ i → i + r < 32 → nB S s lo ≤ n → n < nB S s (hi + 1) → r < m → ∃ T, F_Scen_tickOfBirth_L21 m 2 (iz s) (iz n) (iz lo) (iz hi) (iz i) M = some (some (.int (iz T)), M) ∧ TBn S s n T ∧ 0 ≤ T ∧ T < 20000
  | r, 0, lo, hi, i, q1, q2, q3, q4, q5, q6, q7, q8, q9 => by omega
  | r, m + 1, lo, hi, i, q1, q2, q3, q4, q5, q6, q7, q8, q9 => by
    have rb := rts_bd hk s1 s2
    rw [F_Scen_tickOfBirth_L21, show (32 : Int32) = iz 32 from rfl, ifE (by omega) (by omega) (by omega) (by omega), if_neg (by omega), ifE (by omega) (by omega) (by omega) (by omega)]
    by_cases g : hi ≤ lo
    · rw [if_pos g]
      have e : hi = lo := by omega
      subst e
      exact ⟨hi, rfl, ⟨q7, q8⟩, by omega, by omega⟩
    rw [if_neg g, iz_add, show (2 : Int32) = iz 2 from rfl, iz_ediv (by omega) (by omega) (by omega) (by omega), nm_eq, show (1 : Int32) = iz 1 from rfl, iz_add, cv_eq (kd_2 h), cBB h hc hk s1 s2 (by omega) (by omega), bI_eq]
    have bd := nB_bd hk s1 s2 ((lo + hi) / 2 + 1)
    rw [ifE (by omega) (by omega) (by omega) (by omega), iz_add, nm_eq, nm_eq]
    cases r with
    | zero => omega
    | succ r =>
      by_cases g2 : nB S s ((lo + hi) / 2 + 1) ≤ n
      · rw [if_pos g2]
        exact cTobL h hc hk s1 s2 n0 n1 r m ((lo + hi) / 2 + 1) hi (i + 1) (by omega) q2 (by omega) (by omega) (by omega) (by omega) g2 q8 (by omega)
      · rw [if_neg g2, nm_eq]
        exact cTobL h hc hk s1 s2 n0 n1 r m lo ((lo + hi) / 2) (i + 1) q1 (by omega) (by omega) (by omega) (by omega) (by omega) q7 (by omega) (by omega)
theorem cTob (h : SH M) (hc : CS M S) (hk : scOK S) {s n : Int} (s1 : 0 ≤ s) (s2 : s < sNs S) (n0 : 0 ≤ n) (n1 : n < rts S s) : ∃ T, F_Scen_tickOfBirth 2 (iz s) (iz n) M = some (some (.int (iz T)), M) ∧ TBn S s n T ∧ 0 ≤ T ∧ T < 20000 := by
  obtain ⟨z0, -, z4, z5, z6, z7, z8, z9⟩ := hk.2.2.2.2.2 s s1 s2
  have ns := hk.2.2.1
  have rb := rts_bd hk s1 s2
  have fg := fu_ge
  have pb := plT_bd hk s1 s2 n0 n1
  have pl := nB_pl hk s1 s2 n0 n1
  unfold F_Scen_tickOfBirth
  rw [cv_eq (kd_2 h), cPlan h hc hk s1 s2 n0 (by omega), bI_eq, cv_eq (kd_2 h), show (8 : Int32) = iz 8 from rfl, cQ h hc s1 (by omega) (by omega) (by omega), bI_eq, iz_add, nm_eq]
  exact cTobL h hc hk s1 s2 n0 n1 20 fu (plT S s n) (plT S s n + sQ S s 8) 0 (by omega) (by omega) (by omega) (by omega) (by omega) (by omega) pl.1 pl.2 (by omega)
def cdK (s x : Int) : Int := if x = -1 then -1 else 256 * (4 * x + s)
theorem cCobL (h : SH M) (hc : CS M S) (hk : scOK S) {s T : Int} (s1 : 0 ≤ s) (s2 : s < sNs S) (T0 : 0 ≤ T) (T1 : T < 50000) {hi : Int} (hh : hi ≤ rts S s) : ∀ (r m : Nat) (k a : Int), 0 ≤ k → 0 ≤ a → a < 100000 → k + r = hi → r < m → F_Scen_codeOfBirth_L58 m 2 (iz s) (iz T) (iz a) (iz hi) (iz k) M = some (some (.int (iz (cdK s (sc0 (bornR S s) T r k a).1))), M)
  | r, 0, k, a, q1, q2, q3, q4, q5 => by omega
  | 0, m + 1, k, a, q1, q2, q3, q4, q5 => by
    have rb := rts_bd hk s1 s2
    rw [F_Scen_codeOfBirth_L58, ifE (by omega) (by omega) (by omega) (by omega), if_pos (by omega)]
    rfl
  | r + 1, m + 1, k, a, q1, q2, q3, q4, q5 => by
    have rb := rts_bd hk s1 s2
    have ns := hk.2.2.1
    have bb := bornR_bd hk s1 s2 q1 (show k < rts S s by omega)
    have cr : F_NS_codeOfRoot (iz s) (iz k) M = some (some (.int (iz (256 * (4 * k + s)))), M) := by
      unfold F_NS_codeOfRoot
      rw [show (256 : Int32) = iz 256 from rfl, show (4 : Int32) = iz 4 from rfl, iz_mul, iz_add, iz_mul]
    rw [F_Scen_codeOfBirth_L58, ifE (by omega) (by omega) (by omega) (by omega), if_neg (by omega), cv_eq (kd_2 h), cBirth h hc hk s1 s2 q1 (by omega), bI_eq, ifQ (by omega) (by omega) (by omega) (by omega), show (0 : Int32) = iz 0 from rfl, ifQ (by omega) (by omega) (by omega) (by omega), cr, bI_eq, show (-1 : Int32) = iz (-1) from rfl, show (1 : Int32) = iz 1 from rfl, iz_add, iz_add, nm_eq, nm_eq, nm_eq, sc0]
    by_cases g : bornR S s k = T
    · rw [if_pos g, if_pos g]
      by_cases g2 : a = 0
      · rw [if_pos g2, if_pos g2]
        unfold cdK
        rw [if_neg (show ¬ k = -1 by omega)]
      · rw [if_neg g2, if_neg g2]
        exact cCobL h hc hk s1 s2 T0 T1 hh r m (k + 1) (a - 1) (by omega) (by omega) (by omega) (by omega) (by omega)
    · rw [if_neg g, if_neg g]
      exact cCobL h hc hk s1 s2 T0 T1 hh r m (k + 1) a (by omega) q2 q3 (by omega) (by omega)
/-- its code: the one so far down among those of its tick -/
theorem cCob (h : SH M) (hc : CS M S) (hk : scOK S) {s n : Int} (s1 : 0 ≤ s) (s2 : s < sNs S) (n0 : 0 ≤ n) (n1 : n < rts S s) : ∃ T, TBn S s n T ∧ 0 ≤ T ∧ T < 20000 ∧ F_Scen_codeOfBirth 2 (iz s) (iz n) M = some (some (.int (iz (cdK s (sc0 (bornR S s) T (rts S s).toNat 0 (n - nB S s T)).1))), M) := by
  obtain ⟨z0, -, z4, z5, z6, z7, z8, z9⟩ := hk.2.2.2.2.2 s s1 s2
  have ns := hk.2.2.1
  have rb := rts_bd hk s1 s2
  have fg := fu_ge
  obtain ⟨T, e1, tb, T0, T1⟩ := cTob h hc hk s1 s2 n0 n1
  have nb := nB_bd hk s1 s2 T
  have tb1 := tb.1
  have b1 := buT_bd hk s1 s2 (T - 1 - sQ S s 8)
  have b2 := buT_bd hk s1 s2 T
  have bm := buT_mono hk s1 s2 (t := T - 1 - sQ S s 8) (u := T) (by omega)
  have m1 : 0 ≤ buT S s (T - 1 - sQ S s 8) * sQ S s 6 := Int.mul_nonneg b1.1 (by omega)
  have m2 : buT S s (T - 1 - sQ S s 8) * sQ S s 6 ≤ buT S s T * sQ S s 6 := Int.mul_le_mul_of_nonneg_right bm (by omega)
  have m3 : buT S s T * sQ S s 6 ≤ rts S s := Int.mul_le_mul_of_nonneg_right b2.2 (by omega)
  obtain ⟨lo, hlo⟩ : ∃ lo : Nat, (lo : Int) = buT S s (T - 1 - sQ S s 8) * sQ S s 6 := ⟨(buT S s (T - 1 - sQ S s 8) * sQ S s 6).toNat, by omega⟩
  obtain ⟨md, hmd⟩ : ∃ md : Nat, (lo : Int) + md = buT S s T * sQ S s 6 := ⟨(buT S s T * sQ S s 6 - lo).toNat, by omega⟩
  obtain ⟨up, hup⟩ : ∃ up : Nat, (rts S s).toNat = lo + (md + up) := ⟨(rts S s).toNat - lo - md, by omega⟩
  have i1 : ∀ j, (0 : Int) ≤ j → j < 0 + lo → bornR S s j ≠ T := fun j j1 j2 => by
    have := (buT_iff hk s1 s2 (t := T - 1 - sQ S s 8) j1 (by omega)).mp (by omega)
    have bb := bornR_bd hk s1 s2 j1 (show j < rts S s by omega)
    omega
  have i2 : ∀ j, (lo : Int) + md ≤ j → j < (lo : Int) + md + up → bornR S s j ≠ T := fun j j1 j2 => by
    have : ¬ plT S s j ≤ T := fun z => by
      have := (buT_iff hk s1 s2 (t := T) (k := j) (by omega) (by omega)).mpr z
      omega
    have bb := bornR_bd hk s1 s2 (k := j) (by omega) (by omega)
    omega
  refine ⟨T, tb, T0, T1, ?_⟩
  have main := cCobL h hc hk s1 s2 T0 (show T < 50000 by omega) (hi := buT S s T * sQ S s 6) m3 md fu lo (n - nB S s T) (by omega) (by omega) (by omega) (by omega) (by omega)
  have sce : (sc0 (bornR S s) T (rts S s).toNat 0 (n - nB S s T)).1 = (sc0 (bornR S s) T md lo (n - nB S s T)).1 := by
    rw [hup, sc0_app lo (md + up) 0 _ (by omega), sc0_sk lo 0 _ i1, if_pos rfl, Int.zero_add, sc0_app md up lo _ (by omega)]
    by_cases g : (sc0 (bornR S s) T md lo (n - nB S s T)).1 = -1
    · rw [if_pos g, sc0_sk up _ _ (fun j j1 j2 => i2 j (by omega) (by omega)), g]
    · rw [if_neg g]
  unfold F_Scen_codeOfBirth
  rw [cv_eq (kd_2 h), e1, bI_eq, cv_eq (kd_2 h), cBB h hc hk s1 s2 (by omega) (by omega), bI_eq, iz_sub, nm_eq, cv_eq (kd_2 h), show (6 : Int32) = iz 6 from rfl, cQ h hc s1 (by omega) (by omega) (by omega), bI_eq, cv_eq (kd_2 h), cBursts h hc hk s1 s2 (by omega) (by omega), bI_eq, iz_mul, nm_eq, cv_eq (kd_2 h), show (8 : Int32) = iz 8 from rfl, cQ h hc s1 (by omega) (by omega) (by omega), bI_eq, cv_eq (kd_2 h), show (1 : Int32) = iz 1 from rfl, iz_sub, iz_sub, cBursts h hc hk s1 s2 (by omega) (by omega), bI_eq, iz_mul, nm_eq, ← hlo, sce]
  exact main
end Born
