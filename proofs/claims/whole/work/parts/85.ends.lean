/-! ===== endings ===== -/
section Ends
variable {M : am_M} {S : Sc} {a b : Int}
/-- a sum over a row -/
def lsm (f : Int → Int) : List Int → Int
  | [] => 0
  | c :: L => f c + lsm f L
theorem lsm_app (f : Int → Int) : ∀ (L K : List Int), lsm f (L ++ K) = lsm f L + lsm f K
  | [], K => by rw [List.nil_append]; show _ = 0 + _; omega
  | c :: L, K => by rw [List.cons_append, lsm, lsm, lsm_app f L K]; omega
theorem lsm_1 (f : Int → Int) (L : List Int) (c : Int) : lsm f (L ++ [c]) = lsm f L + f c := by
  rw [lsm_app, lsm, lsm]; omega
theorem lsm_perm (f : Int → Int) {L K : List Int} (h : L.Perm K) : lsm f L = lsm f K := by
  induction h with
  | nil => rfl
  | cons x _ ih => rw [lsm, lsm, ih]
  | swap x y l => rw [lsm, lsm, lsm, lsm]; omega
  | trans _ _ h1 h2 => rw [h1, h2]
theorem lsm_congr {f g : Int → Int} : ∀ (L : List Int), (∀ c ∈ L, f c = g c) → lsm f L = lsm g L
  | [], h => rfl
  | c :: L, h => by rw [lsm, lsm, h c (List.mem_cons_self ..), lsm_congr L (fun d hd => h d (List.mem_cons_of_mem _ hd))]
theorem lsm_bd {f : Int → Int} {m : Int} : ∀ (L : List Int), (∀ c ∈ L, 0 ≤ f c ∧ f c ≤ m) → 0 ≤ lsm f L ∧ lsm f L ≤ m * L.length
  | [], h => by rw [lsm]; simp
  | c :: L, h => by
    have h1 := h c (List.mem_cons_self ..)
    have h2 := lsm_bd L (fun d hd => h d (List.mem_cons_of_mem _ hd))
    rw [lsm, List.length_cons, show ((L.length + 1 : Nat) : Int) = (L.length : Int) + 1 by omega, Int.mul_add, Int.mul_one]
    omega
/-- how many of a row -/
noncomputable def cnt (p : Int → Prop) (L : List Int) : Int := lsm (fun c => @ite _ (p c) (Classical.propDecidable _) 1 0) L
noncomputable def flt (p : Int → Prop) (L : List Int) : List Int := L.filter (fun c => @decide (p c) (Classical.propDecidable _))
theorem flt_mem {p : Int → Prop} {L : List Int} {c : Int} : c ∈ flt p L ↔ c ∈ L ∧ p c := by
  unfold flt
  rw [List.mem_filter, @decide_eq_true_iff _ (Classical.propDecidable _)]
theorem cnt_flt (p : Int → Prop) : ∀ L : List Int, cnt p L = ((flt p L).length : Int)
  | [] => rfl
  | c :: L => by
    have ih := cnt_flt p L
    unfold cnt flt at ih ⊢
    rw [lsm, ih]
    by_cases q : p c
    · rw [if_pos q, List.filter_cons_of_pos (by rw [@decide_eq_true_iff _ (Classical.propDecidable _)]; exact q), List.length_cons]; omega
    · rw [if_neg q, List.filter_cons_of_neg (by rw [@decide_eq_true_iff _ (Classical.propDecidable _)]; exact q)]; omega
theorem cnt_1t {p : Int → Prop} {L : List Int} {c : Int} (h : p c) : cnt p (L ++ [c]) = cnt p L + 1 := by unfold cnt; rw [lsm_1, if_pos h]
theorem cnt_1f {p : Int → Prop} {L : List Int} {c : Int} (h : ¬ p c) : cnt p (L ++ [c]) = cnt p L := by unfold cnt; rw [lsm_1, if_neg h, Int.add_zero]
theorem cnt_perm (p : Int → Prop) {L K : List Int} (h : L.Perm K) : cnt p L = cnt p K := lsm_perm _ h
theorem cnt_congr {p q : Int → Prop} {L : List Int} (h : ∀ c ∈ L, (p c ↔ q c)) : cnt p L = cnt q L := by
  unfold cnt
  refine lsm_congr L (fun c hc => ?_)
  by_cases z : p c
  · rw [if_pos z, if_pos ((h c hc).mp z)]
  · rw [if_neg z, if_neg (fun y => z ((h c hc).mpr y))]
theorem pw_nd {L : List Int} (h : L.Pairwise (· < ·)) : L.Nodup := List.Pairwise.imp (fun {x y} (q : x < y) => (by omega : x ≠ y)) h
/-- ends from a to below b -/
def Qe (S : Sc) (a b c : Int) : Prop := isSp S c ∧ a ≤ kEn (lay S c) ∧ kEn (lay S c) < b
def EQ (S : Sc) (a b u : Int) (L : List Int) : Prop := L.Nodup ∧ ∀ c, c ∈ L ↔ Qe S a b c ∧ rk c < u
theorem EQ.skip {u v : Int} {L : List Int} (h : EQ S a b u L) (huv : u ≤ v) (hs : ∀ c, Qe S a b c → u ≤ rk c → rk c < v → False) : EQ S a b v L := by
  obtain ⟨h2, h3⟩ := h
  refine ⟨h2, fun c => ?_⟩
  rw [h3]
  refine ⟨fun q => ⟨q.1, by have := q.2; omega⟩, fun q => ⟨q.1, ?_⟩⟩
  rcases Int.lt_or_le (rk c) u with z | z
  · exact z
  · exact (hs c q.1 z q.2).elim
theorem EQ.add (hk : scOK S) {c : Int} {L : List Int} (h : EQ S a b (rk c) L) (hq : Qe S a b c) : EQ S a b (rk c + 1) (L ++ [c]) := by
  obtain ⟨h2, h3⟩ := h
  refine ⟨?_, fun d => ?_⟩
  · rw [List.nodup_append]
    refine ⟨h2, by simp, fun x hx y hy => ?_⟩
    have ey : y = c := by simpa using hy
    have := ((h3 x).mp hx).2
    intro e
    rw [e, ey] at this
    omega
  · rw [List.mem_append, h3, List.mem_singleton]
    constructor
    · rintro (q | rfl)
      · exact ⟨q.1, by have := q.2; omega⟩
      · exact ⟨hq, by omega⟩
    · rintro ⟨q1, q2⟩
      by_cases e : rk d < rk c
      · exact Or.inl ⟨q1, e⟩
      · have b := sp_rt hk q1.1
        have b0 := q1.1.1
        have b' := sp_rt hk hq.1
        have b0' := hq.1.1
        exact Or.inr (rk_inj b0 b0' (by omega) (by omega) (by omega))
theorem EQ.no (hk : scOK S) {c : Int} {L : List Int} (h : EQ S a b (rk c) L) (c1 : 0 ≤ c) (c2 : c < 51200000000) (hq : ¬ Qe S a b c) : EQ S a b (rk c + 1) L := h.skip (by omega) (fun d hd z1 z2 => by
  have b := sp_rt hk hd.1
  have b0 := hd.1.1
  have e : d = c := rk_inj b0 c1 (by omega) c2 (by omega)
  rw [e] at hd
  exact hq hd)
theorem mEoL (hk : scOK S) (a1 : 0 ≤ a) (a2 : a ≤ 40000) (b1 : 0 ≤ b) (b2 : b ≤ 40000) {s k : Int} (s1 : 0 ≤ s) (s2 : s < 4) (k1 : 0 ≤ k) (k2 : k < 100000) : ∀ (r n : Nat) (i w : Int) (M : am_M) (L : List Int), SH M → MS M S → rI M 70 1 = iz 1 → EQ S a b (s * 1099511627776 + k * 256 + i) L → 0 ≤ i → i + r = 48 → r < n → ∃ M' L', F_Md_endingsOf_L6 n 70 (iz (4 * k + s)) (iz a) (iz b) (iz w) (iz i) M = some (some (.int (iz (w + ((L'.length : Int) - L.length)))), M') ∧ Fr ALd M M' ∧ EQ S a b (s * 1099511627776 + k * 256 + 48) L'
  | r, 0, i, w, M, L, h, hm, hst, g, q1, q2, q3 => by omega
  | 0, n + 1, i, w, M, L, h, hm, hst, g, q1, q2, q3 => by
    have ei : i = 48 := by omega
    subst ei
    refine ⟨M, L, ?_, Fr.refl M, g⟩
    rw [F_Md_endingsOf_L6, show (48 : Int32) = iz 48 from rfl, ifE (by omega) (by omega) (by omega) (by omega), if_pos (by omega), show w + ((L.length : Int) - L.length) = w by omega]
  | r + 1, n + 1, i, w, M, L, h, hm, hst, g, q1, q2, q3 => by
    rw [F_Md_endingsOf_L6, show (48 : Int32) = iz 48 from rfl, ifE (by omega) (by omega) (by omega) (by omega), if_neg (by omega), show (16 : Int32) = iz 16 from rfl, iz_emod (by omega) (by omega) (by omega) (by omega), show (2 : Int32) = iz 2 from rfl, ifL (by omega) (by omega) (by omega) (by omega), show (1 : Int32) = iz 1 from rfl, iz_add, nm_eq, show (256 : Int32) = iz 256 from rfl, iz_mul, iz_add]
    by_cases g1 : 2 < i % 16
    · rw [if_pos g1]
      exact mEoL hk a1 a2 b1 b2 s1 s2 k1 k2 r n (i + 1) w M L h hm hst (g.skip (by omega) (fun d hd z1 z2 => by
        have b := sp_rt hk hd.1
        have b0 := hd.1.1
        have e : d = 256 * (4 * k + s) + i := rk_inj b0 (by omega) (by omega) (by omega) (by rw [rk_c s1 s2 q1 (by omega)]; omega)
        have := sp_line hk hd.1
        omega)) (by omega) (by omega) (by omega)
    rw [if_neg g1, cv_eq (kd_70 h), mIsSp h hm hk hst (by omega) (by omega), bI_eq, bz_if0]
    rw [← rk_c s1 s2 q1 (by omega)] at g
    have nx : s * 1099511627776 + k * 256 + (i + 1) = rk (256 * (4 * k + s) + i) + 1 := by rw [rk_c s1 s2 q1 (by omega)]; omega
    by_cases g2 : isSp S (256 * (4 * k + s) + i)
    rotate_left
    · rw [if_neg (fun q => g2 (spB_t.mp q)), nm_eq]
      exact mEoL hk a1 a2 b1 b2 s1 s2 k1 k2 r n (i + 1) w M L h hm hst (by rw [nx]; exact g.no hk (by omega) (by omega) (fun q => g2 q.1)) (by omega) (by omega) (by omega)
    rw [if_pos (spB_t.mpr g2)]
    obtain ⟨M1, e1, f1, L1⟩ := mLays h hm hk g2
    have h1 := h.fr f1
    have m1 := hm.lays f1
    have st1 : rI M1 70 1 = iz 1 := by rw [f1.ri (fun q => by unfold ALd at q; omega)]; exact hst
    have lg := (lay_g hk g2).1.2
    have bn := lay_bn hk g2
    rw [cv_eq (kd_70 h), e1, bV_eq, fI_eq (kd_70 h1), L1.2.2, iz_sub, jz_i2l (a := a) (by omega) (by omega), jz_i2l (a := b - 1) (by omega) (by omega), mInL _ _ _ (by omega) (by omega) (by omega) (by omega) (by omega) (by omega), bI_eq, bz_if0, nm_eq, nm_eq, nm_eq, nm_eq]
    by_cases g3 : a ≤ kEn (lay S (256 * (4 * k + s) + i)) ∧ kEn (lay S (256 * (4 * k + s) + i)) ≤ b - 1
    · rw [if_pos g3, iz_add]
      obtain ⟨M', L', z1, z2, z3⟩ := mEoL hk a1 a2 b1 b2 s1 s2 k1 k2 r n (i + 1) (w + 1) M1 (L ++ [256 * (4 * k + s) + i]) h1 m1 st1 (by rw [nx]; exact g.add hk ⟨g2, g3.1, by omega⟩) (by omega) (by omega) (by omega)
      refine ⟨M', L', ?_, f1.trans z2, z3⟩
      rw [z1, List.length_append]
      show some (some (Value.int (iz (w + 1 + ((L'.length : Int) - ((L.length + 1 : Nat) : Int))))), M') = _
      rw [show w + 1 + ((L'.length : Int) - ((L.length + 1 : Nat) : Int)) = w + ((L'.length : Int) - L.length) by omega]
    · rw [if_neg g3, show (0 : Int32) = iz 0 from rfl, iz_add, Int.add_zero]
      obtain ⟨M', L', z1, z2, z3⟩ := mEoL hk a1 a2 b1 b2 s1 s2 k1 k2 r n (i + 1) w M1 L h1 m1 st1 (by rw [nx]; exact g.no hk (by omega) (by omega) (fun q => by have q1 := q.2.1; have q2 := q.2.2; omega)) (by omega) (by omega) (by omega)
      exact ⟨M', L', z1, f1.trans z2, z3⟩
theorem st_ld {M' : am_M} (hf : Fr ALd M M') : rI M' 70 1 = rI M 70 1 := hf.ri (fun q => by unfold ALd at q; omega)
theorem mEk (hk : scOK S) (a1 : 0 ≤ a) (a2 : a ≤ 40000) (b1 : 0 ≤ b) (b2 : b ≤ 40000) (k20 : Nat → Int32 → Int32 → Int32 → Int32 → am_M → am_R) (k48 : Nat → Int32 → Int32 → Int32 → Int32 → Int32 → Int32 → am_M → am_R) {s g : Int} (s1 : 0 ≤ s) (s2 : s < sNs S) (g1 : 0 ≤ g) (g2 : g < 10001) : ∀ (r n : Nat) (k : Int) (M : am_M) (L : List Int), SH M → MS M S → rI M 70 1 = iz 1 → EQ S a b (s * 1099511627776 + k * 256) L → sQ S s 6 * g ≤ k → k + r = sQ S s 6 * g + sQ S s 6 → r < n → ∃ M' L', F_Md_endings_L67 k20 k48 n 70 (iz a) (iz b) (iz (L.length : Int)) (iz s) (iz (sQ S s 6)) (iz g) (iz k) M = k48 70 (iz a) (iz b) (iz (L'.length : Int)) (iz s) (iz (sQ S s 6)) (iz (g + 1)) M' ∧ Fr ALd M M' ∧ EQ S a b (s * 1099511627776 + (sQ S s 6 * (g + 1)) * 256) L'
  | r, 0, k, M, L, h, hm, hst, ga, q1, q2, q3 => by omega
  | 0, n + 1, k, M, L, h, hm, hst, ga, q1, q2, q3 => by
    obtain ⟨z0, -, z4, z5, z6, z7, z8, z9⟩ := hk.2.2.2.2.2 s s1 s2
    have m1 : 0 ≤ sQ S s 6 * g := Int.mul_nonneg (by omega) g1
    have m2 : sQ S s 6 * g ≤ 5 * 10001 := Int.mul_le_mul (by omega) (by omega) (by omega) (by omega)
    refine ⟨M, L, ?_, Fr.refl M, ?_⟩
    · rw [F_Md_endings_L67, iz_mul, iz_add, ifE (by omega) (by omega) (by omega) (by omega), if_pos (by omega), nm_eq, show (1 : Int32) = iz 1 from rfl, iz_add]
    · rw [Int.mul_add, Int.mul_one, ← q2]
      rw [show k + ((0 : Nat) : Int) = k by omega]
      exact ga
  | r + 1, n + 1, k, M, L, h, hm, hst, ga, q1, q2, q3 => by
    obtain ⟨z0, -, z4, z5, z6, z7, z8, z9⟩ := hk.2.2.2.2.2 s s1 s2
    have ns := hk.2.2.1
    have fg := fu_ge
    have m1 : 0 ≤ sQ S s 6 * g := Int.mul_nonneg (by omega) g1
    have m2 : sQ S s 6 * g ≤ 5 * 10001 := Int.mul_le_mul (by omega) (by omega) (by omega) (by omega)
    obtain ⟨M1, L1, e1, f1, ga1⟩ := mEoL hk a1 a2 b1 b2 s1 (by omega) (k := k) (by omega) (by omega) 48 fu 0 0 M L h hm hst (by rw [Int.add_zero]; exact ga) (by omega) rfl (by omega)
    have ga1' : EQ S a b (s * 1099511627776 + (k + 1) * 256) L1 := ga1.skip (by omega) (fun d hd z1 z2 => by
      have := sp_line hk hd.1
      have b := sp_rt hk hd.1
      have b0 := hd.1.1
      unfold rk at z1 z2
      omega)
    obtain ⟨M', L', e2, f2, ga2⟩ := mEk hk a1 a2 b1 b2 k20 k48 s1 s2 g1 g2 r n (k + 1) M1 L1 (h.fr f1) (hm.lays f1) (by rw [st_ld f1]; exact hst) ga1' (by omega) (by omega) (by omega)
    refine ⟨M', L', ?_, f1.trans f2, ga2⟩
    have e1' : F_Md_endingsOf 70 (iz (4 * k + s)) (iz a) (iz b) M = some (some (.int (iz (0 + ((L1.length : Int) - L.length)))), M1) := e1
    rw [F_Md_endings_L67, iz_mul, iz_add, ifE (by omega) (by omega) (by omega) (by omega), if_neg (by omega), cv_eq (kd_70 h), show (4 : Int32) = iz 4 from rfl, iz_mul, iz_add, e1', bI_eq, show (1 : Int32) = iz 1 from rfl, iz_add, iz_add, nm_eq, nm_eq, show (L.length : Int) + (0 + ((L1.length : Int) - L.length)) = L1.length by omega]
    exact e2
theorem mEg (hk : scOK S) (a1 : 0 ≤ a) (a2 : a ≤ 40000) (b1 : 0 ≤ b) (b2 : b ≤ 40000) (k20 : Nat → Int32 → Int32 → Int32 → Int32 → am_M → am_R) {s : Int} (s1 : 0 ≤ s) (s2 : s < sNs S) : ∀ (r n : Nat) (g : Int) (M : am_M) (L : List Int), SH M → MS M S → rI M 70 1 = iz 1 → EQ S a b (s * 1099511627776 + (sQ S s 6 * g) * 256) L → 0 ≤ g → g ≤ 42000 → gps S s ≤ g + r → r < n → ∃ M' L', F_Md_endings_L48 k20 n 70 (iz a) (iz b) (iz (L.length : Int)) (iz s) (iz (sQ S s 6)) (iz g) M = k20 70 (iz a) (iz b) (iz (L'.length : Int)) (iz (s + 1)) M' ∧ Fr ALd M M' ∧ EQ S a b ((s + 1) * 1099511627776) L'
  | r, 0, g, M, L, h, hm, hst, ga, q1, q2, q3, q4 => by omega
  | r, n + 1, g, M, L, h, hm, hst, ga, q1, q2, q3, q4 => by
    obtain ⟨z0, -, z4, z5, z6, z7, z8, z9⟩ := hk.2.2.2.2.2 s s1 s2
    have fg := fu_ge
    have ns := hk.2.2.1
    have gb := gps_bd hk s1 s2
    rcases mIsG h hm hk s1 s2 b1 b2 q1 (show g ≤ 1000000 by omega) with ⟨i1, i2⟩ | ⟨i1, i2⟩
    · have i3 : g < gps S s := i1.1
      have m1 : 0 ≤ sQ S s 6 * g := Int.mul_nonneg (by omega) q1
      obtain ⟨M1, L1, e1, f1, ga1⟩ := mEk hk a1 a2 b1 b2 k20 (F_Md_endings_L48 k20 n) s1 s2 q1 (by omega) (sQ S s 6).toNat fu (sQ S s 6 * g) M L h hm hst ga (by omega) (by omega) (by omega)
      cases r with
      | zero => omega
      | succ r =>
        obtain ⟨M', L', e2, f2, ga2⟩ := mEg hk a1 a2 b1 b2 k20 s1 s2 r n (g + 1) M1 L1 (h.fr f1) (hm.lays f1) (by rw [st_ld f1]; exact hst) ga1 (by omega) (by omega) (by omega) (by omega)
        refine ⟨M', L', ?_, f1.trans f2, ga2⟩
        rw [F_Md_endings_L48, cv_eq (kd_70 h), i2, bI_eq, if_neg (by decide), iz_mul, nm_eq, e1]
        exact e2
    · refine ⟨M, L, ?_, Fr.refl M, ga.skip ?_ (fun c hc y1 y2 => ?_)⟩
      · rw [F_Md_endings_L48, cv_eq (kd_70 h), i2, bI_eq, if_pos (by decide), show (1 : Int32) = iz 1 from rfl, iz_add, nm_eq]
      · have m2 : sQ S s 6 * g ≤ 5 * 42000 := Int.mul_le_mul (by omega) (by omega) (by omega) (by omega)
        omega
      · have m1 : 0 ≤ sQ S s 6 * g := Int.mul_nonneg (by omega) q1
        obtain ⟨r1, r2⟩ := rk_s hk hc.1 (show s * 1099511627776 ≤ rk c by omega) y2
        have b0 := hc.1.1
        subst r1
        have := g_hi hk hc.1 i1 (by omega)
        have := hc.2.2
        have := lay_en hk hc.1
        omega
theorem mEs (hk : scOK S) (a1 : 0 ≤ a) (a2 : a ≤ 40000) (b1 : 0 ≤ b) (b2 : b ≤ 40000) : ∀ (r n : Nat) (s : Int) (M : am_M) (L : List Int), SH M → MS M S → rI M 70 1 = iz 1 → EQ S a b (s * 1099511627776) L → 0 ≤ s → s + r = sNs S → r < n → ∃ M' L', F_Md_endings_L20 n 70 (iz a) (iz b) (iz (L.length : Int)) (iz s) M = some (some (.int (iz (L'.length : Int))), M') ∧ Fr ALd M M' ∧ EQ S a b (sNs S * 1099511627776) L'
  | r, 0, s, M, L, h, hm, hst, ga, q1, q2, q3 => by omega
  | 0, n + 1, s, M, L, h, hm, hst, ga, q1, q2, q3 => by
    have ns := hk.2.2.1
    have e : s = sNs S := by omega
    subst e
    refine ⟨M, L, ?_, Fr.refl M, ga⟩
    rw [F_Md_endings_L20, fI_eq (kd_70 h), hm.2.2.2.2.1, ifE (by omega) (by omega) (by omega) (by omega), if_pos (by omega)]
  | r + 1, n + 1, s, M, L, h, hm, hst, ga, q1, q2, q3 => by
    have ns := hk.2.2.1
    have s2 : s < sNs S := by omega
    obtain ⟨z0, -, z4, z5, z6, z7, z8, z9⟩ := hk.2.2.2.2.2 s q1 s2
    have fg := fu_ge
    have fb := fgv_bd hk q1 s2 a2
    have gb := gps_bd hk q1 s2
    have m1 : 0 ≤ sQ S s 6 * fgv S s a := Int.mul_nonneg (by omega) fb.1
    have ga0 : EQ S a b (s * 1099511627776 + (sQ S s 6 * fgv S s a) * 256) L := ga.skip (by omega) (fun c hc y1 y2 => by
      have m2 : sQ S s 6 * fgv S s a ≤ 5 * 42000 := Int.mul_le_mul (by omega) (by omega) (by omega) (by omega)
      obtain ⟨r1, r2⟩ := rk_s hk hc.1 y1 (by omega)
      have b0 := hc.1.1
      subst r1
      have := g_lo hk hc.1 (t := a) (by rw [Int.mul_comm]; omega)
      have := hc.2.1
      omega)
    obtain ⟨M1, L1, e1, f1, ga1⟩ := mEg hk a1 a2 b1 b2 (F_Md_endings_L20 n) q1 s2 (gps S s).toNat fu (fgv S s a) M L h hm hst ga0 fb.1 (by omega) (by omega) (by omega)
    obtain ⟨M', L', e2, f2, ga2⟩ := mEs hk a1 a2 b1 b2 r n (s + 1) M1 L1 (h.fr f1) (hm.lays f1) (by rw [st_ld f1]; exact hst) ga1 (by omega) (by omega) (by omega)
    refine ⟨M', L', ?_, f1.trans f2, ga2⟩
    rw [F_Md_endings_L20, fI_eq (kd_70 h), hm.2.2.2.2.1, ifE (by omega) (by omega) (by omega) (by omega), if_neg (by omega), cv_eq (kd_70 h), show (6 : Int32) = iz 6 from rfl, mQ h hm (by omega) q1 s2 (by omega) (by omega), bI_eq, cv_eq (kd_70 h), mFirst h hm hk q1 s2 a1 a2, bI_eq, e1]
    exact e2
end Ends
