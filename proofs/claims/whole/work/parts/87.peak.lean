/-! ===== peak ===== -/
section Peak
variable {M : am_M} {S : Sc} {a b : Int}
theorem cFillL {c : Nat} {v : Int32} {len : Nat} (hl2 : len ≤ 100000) : ∀ (r n : Nat) (i : Nat) (M : am_M), mKd M c = 0 → mLn M c = len → (∀ j, j < i → rI M c j = v) → i + r = len → r < n → ∃ M', F_Arr_fill_L5 n c v (iz (i : Int)) (iz (len : Int)) M = some (none, M') ∧ Fr (fun x _ => x = c) M M' ∧ ∀ j, j < len → rI M' c j = v
  | r, 0, i, M, k0, l0, hv, q1, q2 => by omega
  | 0, n + 1, i, M, k0, l0, hv, q1, q2 => by
    refine ⟨M, ?_, Fr.refl M, fun j hj => hv j (by omega)⟩
    rw [F_Arr_fill_L5, ifE (by omega) (by omega) (by omega) (by omega), if_pos (by omega)]
  | r + 1, n + 1, i, M, k0, l0, hv, q1, q2 => by
    have f1 : Fr (fun x _ => x = c) M (wI M c i v) := Fr.wI rfl
    obtain ⟨M', e1, f2, e3⟩ := cFillL hl2 r n (i + 1) (wI M c i v) (by rw [f1.kd]; exact k0) (by rw [f1.ln]; exact l0) (fun j hj => by
      by_cases e : j = i
      · subst e; rw [rI_at rfl rfl]
      · rw [rI_ne (by omega)]; exact hv j (by omega)) (by omega) (by omega)
    refine ⟨M', ?_, f1.trans f2, e3⟩
    rw [F_Arr_fill_L5, ifE (by omega) (by omega) (by omega) (by omega), if_neg (by omega), tI_eq k0 l0 (by omega) (by omega) (by omega), show ((i : Int)).toNat = i by omega, nm_eq, show (1 : Int32) = iz 1 from rfl, iz_add, show ((i : Int) + 1) = ((i + 1 : Nat) : Int) by omega]
    exact e1
theorem cFill {c len : Nat} {v : Int32} (k0 : mKd M c = 0) (l0 : mLn M c = len) (hl2 : len ≤ 100000) : ∃ M', F_Arr_fill c v M = some (none, M') ∧ Fr (fun x _ => x = c) M M' ∧ ∀ j, j < len → rI M' c j = v := by
  have fg := fu_ge
  obtain ⟨M', e1, e2, e3⟩ := cFillL (v := v) hl2 len fu 0 M k0 l0 (fun j hj => by omega) (by omega) (by omega)
  refine ⟨M', ?_, e2, e3⟩
  unfold F_Arr_fill
  rw [aN_eq (by omega) l0]
  exact e1
theorem A75x (x j : Nat) (h : x = 69) : ASc x j := by unfold ASc; omega
/-- when it comes, when it goes -/
noncomputable def pkA (S : Sc) (a c : Int) : Int := max (kBn (lay S c)) a - a
noncomputable def pkB (S : Sc) (a b c : Int) : Int := min (kEn (lay S c)) b - a
noncomputable def pkD (S : Sc) (a b i c : Int) : Int := (if pkA S a c = i then 1 else 0) - (if pkB S a b c = i then 1 else 0)
noncomputable def pkT (S : Sc) (a b i c : Int) : Int := if pkA S a c ≤ i ∧ i < pkB S a b c then 1 else 0
theorem lsm_add {f g d : Int → Int} : ∀ (L : List Int), (∀ c ∈ L, f c = g c + d c) → lsm f L = lsm g L + lsm d L
  | [], h => rfl
  | c :: L, h => by
    rw [lsm, lsm, lsm, h c (List.mem_cons_self ..), lsm_add L (fun d hd => h d (List.mem_cons_of_mem _ hd))]; omega
theorem pk_step {L : List Int} (hL : ∀ c ∈ L, pkA S a c < pkB S a b c) (i : Int) : lsm (pkT S a b i) L = lsm (pkT S a b (i - 1)) L + lsm (pkD S a b i) L := by
  refine lsm_add L (fun c hc => ?_)
  have := hL c hc
  unfold pkT pkD
  split <;> split <;> split <;> split <;> omega
theorem lpPeak (hk : scOK S) (M0 : am_M) (a1 : 0 ≤ a) (a2 : a ≤ 40000) (b1 : 0 ≤ b) (b2 : b ≤ 40000) (hab : b - a ≤ 1000) (hlt : a < b) : LoopH (X := Unit) S a b (wkl S a b) (fun n _ i M => F_NS_countComingAndGoing_L19 n 0 (iz a) (iz b) i M) (fun m n _ i j M => F_NS_countComingAndGoing_L39 (F_NS_countComingAndGoing_L19 n) m 0 (iz a) (iz b) i j M) (fun _ M => some (none, M)) (fun L _ M => Fr ASc M0 M ∧ ∀ i : Nat, i < 2000 → rI M 69 i = iz (lsm (pkD S a b i) L)) := by
  refine ⟨fun n x i M h i0 i1 => ?_, fun m n x i j len M h hl l0 l7 hj => ?_, fun m n x i j row L c len M hP h hc hin hr hL hl jl l7 hs _ => ?_, fun L x M M' hP hf => ⟨hP.1.trans (hf.mono AWk_ASc), fun i hi => by rw [hf.ri (fun q => by unfold AWk at q; omega)]; exact hP.2 i hi⟩⟩
  · show F_NS_countComingAndGoing_L19 (n + 1) 0 (iz a) (iz b) (iz i) M = _
    rw [F_NS_countComingAndGoing_L19, show (1000000 : Int32) = iz 1000000 from rfl, ifE (by omega) (by omega) (by omega) (by omega), if_neg (by omega), fR_eq (kd_0 h) (rr_0_6 h), cv_eq (kd_18 h)]
    rfl
  · show F_NS_countComingAndGoing_L39 (F_NS_countComingAndGoing_L19 n) (m + 1) 0 (iz a) (iz b) (iz i) (iz j) M = _
    rw [F_NS_countComingAndGoing_L39, fR_eq (kd_0 h) (rr_0_6 h), fI_eq (kd_18 h), hl, ifE (by omega) (by omega) (by omega) (by omega), if_pos (by omega), nm_eq, show (1 : Int32) = iz 1 from rfl, iz_add]
  · have lg := (lay_g hk hin.1).1.2
    have bn := lay_bn hk hin.1
    have i1 := hin.2.1
    have i2 := hin.2.2
    have ea : pkA S a c = max (kBn (lay S c)) a - a := rfl
    have eb : pkB S a b c = min (kEn (lay S c)) b - a := rfl
    obtain ⟨x, hx⟩ : ∃ x : Nat, pkA S a c = (x : Int) := ⟨(pkA S a c).toNat, by omega⟩
    obtain ⟨y, hy⟩ : ∃ y : Nat, pkB S a b c = (y : Int) := ⟨(pkB S a b c).toNat, by omega⟩
    have r1 := hP.2 x (by omega)
    have h1 : SH (wI M 69 x (iz (lsm (pkD S a b x) L + 1))) := h.wI
    have r2 : rI (wI M 69 x (iz (lsm (pkD S a b x) L + 1))) 69 y = iz (lsm (pkD S a b y) L) := by rw [rI_ne (by omega)]; exact hP.2 y (by omega)
    have e : F_NS_countComingAndGoing_L39 (F_NS_countComingAndGoing_L19 n) (m + 1) 0 (iz a) (iz b) (iz i) (iz (j : Int)) M = F_NS_countComingAndGoing_L39 (F_NS_countComingAndGoing_L19 n) m 0 (iz a) (iz b) (iz i) (iz ((j + 1 : Nat) : Int)) (wI (wI M 69 x (iz (lsm (pkD S a b x) L + 1))) 69 y (iz (lsm (pkD S a b y) L - 1))) := by
      rw [F_NS_countComingAndGoing_L39, fR_eq (kd_0 h) (rr_0_6 h), fI_eq (kd_18 h), hl, ifE (by omega) (by omega) (by omega) (by omega), if_neg (by omega), fR_eq (kd_0 h) (rr_0_6 h), cv_eq (kd_18 h), hs, bR_eq, fI_eq (spA_l h hr).1, hL.2.2.2.1, max_eq (by omega) (by omega) (by omega) (by omega), bI_eq, nm_eq, fI_eq (spA_l h hr).1, hL.2.2.2.2, min_eq (by omega) (by omega) (by omega) (by omega), bI_eq, nm_eq, iz_sub, iz_sub, ← ea, ← eb, hx, hy, show (0 : Int32) = iz 0 from rfl, ifL (by omega) (by omega) (by omega) (by omega), if_neg (by omega), ifE (by omega) (by omega) (by omega) (by omega), if_neg (by omega), fR_eq (kd_0 h) (rr_0_10 h), aN_eq (by rw [kd_69 h]; decide) (ln_69 h), ifE (by omega) (by omega) (by omega) (by omega), if_neg (by omega), fR_eq (kd_0 h) (rr_0_10 h), aI_eq (kd_69 h) (ln_69 h) (by omega) (by omega) (by omega), tI_eq (kd_69 h) (ln_69 h) (by omega) (by omega) (by omega), show ((x : Int)).toNat = x by omega, r1, show (1 : Int32) = iz 1 from rfl, iz_add, fR_eq (kd_0 h1) (rr_0_10 h1), aI_eq (kd_69 h1) (ln_69 h1) (by omega) (by omega) (by omega), tI_eq (kd_69 h1) (ln_69 h1) (by omega) (by omega) (by omega), show ((y : Int)).toNat = y by omega, r2, iz_sub, iz_add, nm_eq, show ((j : Int) + 1) = ((j + 1 : Nat) : Int) by omega]
    have fr : Fr (fun x _ => x = 69) M (wI (wI M 69 x (iz (lsm (pkD S a b x) L + 1))) 69 y (iz (lsm (pkD S a b y) L - 1))) := (Fr.wI (A := fun x _ => x = 69) rfl).trans (Fr.wI rfl)
    refine ⟨(), _, e, ⟨hP.1.trans (fr.mono A75x), fun k hk2 => ?_⟩, KW.of h fr (fun x j q => by omega)⟩
    rw [lsm_1]
    by_cases z1 : k = y
    · subst z1
      rw [rI_at rfl rfl]
      unfold pkD
      rw [hx, hy, if_neg (by omega), if_pos rfl]; rfl
    · rw [rI_ne (by omega)]
      by_cases z2 : k = x
      · subst z2
        rw [rI_at rfl rfl]
        unfold pkD
        rw [hx, hy, if_pos rfl, if_neg (by omega)]; rfl
      · rw [rI_ne (by omega), hP.2 k hk2]
        unfold pkD
        rw [hx, hy, if_neg (by omega), if_neg (by omega)]
        simp
/-- how many are there in a tick -/
noncomputable def frN (S : Sc) (t : Int) : Int := ((wkl S t (t + 1)).length : Int)
theorem frN_bd (hk : scOK S) (t : Int) : 0 ≤ frN S t ∧ frN S t ≤ 16080 := by
  have := wkl_len (S := S) (t := t) hk
  unfold frN
  omega
theorem fr_perm (hk : scOK S) {t : Int} {L : List Int} (hn : L.Nodup) (hL : ∀ c, c ∈ L ↔ inFr S t c) : L.Perm (wkl S t (t + 1)) := by
  have h := wkl_FL hk t
  exact (List.perm_ext_iff_of_nodup hn (pw_nd h.1)).mpr (fun c => by rw [hL, h.2])
theorem frN_eq (hk : scOK S) {t : Int} {L : List Int} (hn : L.Nodup) (hL : ∀ c, c ∈ L ↔ inFr S t c) : (L.length : Int) = frN S t := by
  unfold frN
  rw [(fr_perm hk hn hL).length_eq]
theorem pk_frN (hk : scOK S) {i : Int} (h1 : 0 ≤ i) (h2 : a + i < b) : lsm (pkT S a b i) (wkl S a b) = frN S (a + i) := by
  obtain ⟨w1, w2⟩ := wkl_g hk a b
  have e : lsm (pkT S a b i) (wkl S a b) = cnt (inFr S (a + i)) (wkl S a b) := by
    unfold cnt
    refine lsm_congr _ (fun c hc => ?_)
    have q := (w1 c).mp hc
    have q1 := q.2.1
    have q2 := q.2.2
    unfold pkT pkA pkB
    by_cases z : inFr S (a + i) c
    · have z1 := z.2.1
      have z2 := z.2.2
      rw [if_pos z, if_pos (by omega)]
    · rw [if_neg z, if_neg (fun y => z ⟨q.1, by omega, by omega⟩)]
  rw [e, cnt_flt]
  refine frN_eq hk (List.Pairwise.filter _ (pw_nd w2)) (fun c => ?_)
  show c ∈ flt (inFr S (a + i)) (wkl S a b) ↔ _
  rw [flt_mem, w1]
  refine ⟨fun q => q.2, fun q => ⟨⟨q.1, ?_, ?_⟩, q⟩⟩
  · have := q.2.1; omega
  · have := q.2.2; omega
def pkF (f : Int → Int) : Nat → Int → Int → Int → Int × Int
  | 0, _, m, v => (m, v)
  | r + 1, t, m, v => if f t ≤ m then pkF f r (t + 1) m v else pkF f r (t + 1) (f t) t
theorem pkF_bd {f : Int → Int} : ∀ (r : Nat) (t m v : Int), (pkF f r t m v).1 = (pkF f r t m v).1 := fun _ _ _ _ => rfl
theorem cPkL (hk : scOK S) (h : SH M) (a1 : 0 ≤ a) (a2 : a ≤ 40000) (b1 : 0 ≤ b) (b2 : b ≤ 40000) (hab : b - a ≤ 1000) (hlt : a < b) {w : Int} (w1 : 0 ≤ w) (w2 : w ≤ 1) (hd : ∀ i : Nat, i < 2000 → rI M 69 i = iz (lsm (pkD S a b i) (wkl S a b))) : ∀ (r n : Nat) (t m v : Int), a ≤ t → t + r = b → r < n → -1 ≤ m → m ≤ 20000 → F_NS_peak_L52 n 0 (iz a) (iz b) (iz w) (iz (lsm (pkT S a b (t - a - 1)) (wkl S a b))) (iz m) (iz v) (iz t) M = some (some (.int (iz (if w = 0 then (pkF (frN S) r t m v).2 else (pkF (frN S) r t m v).1))), M)
  | r, 0, t, m, v, q1, q2, q3, m1, m2 => by omega
  | 0, n + 1, t, m, v, q1, q2, q3, m1, m2 => by
    rw [F_NS_peak_L52, ifE (by omega) (by omega) (by omega) (by omega), if_pos (show b ≤ t by omega), show (0 : Int32) = iz 0 from rfl, ifQ (by omega) (by omega) (by omega) (by omega), pkF]
    by_cases g : w = 0
    · rw [if_pos g, if_pos g]
    · rw [if_neg g, if_neg g]
  | r + 1, n + 1, t, m, v, q1, q2, q3, m1, m2 => by
    obtain ⟨i, hi⟩ : ∃ i : Nat, t - a = (i : Int) := ⟨(t - a).toNat, by omega⟩
    have ps : lsm (pkT S a b i) (wkl S a b) = lsm (pkT S a b (i - 1)) (wkl S a b) + lsm (pkD S a b i) (wkl S a b) := pk_step (fun c hc => by
      have q := ((wkl_g hk a b).1 c).mp hc
      have q1 := q.2.1
      have q2 := q.2.2
      have := lay_en hk q.1
      unfold pkA pkB
      omega) i
    have fe := pk_frN (a := a) (b := b) hk (i := i) (by omega) (by omega)
    rw [show a + (i : Int) = t by omega] at fe
    have fb := frN_bd hk t
    have ih := fun m v m1 m2 => cPkL hk h a1 a2 b1 b2 hab hlt w1 w2 hd r n (t + 1) m v (by omega) (by omega) (by omega) m1 m2
    rw [show t + 1 - a - 1 = (i : Int) by omega, fe] at ih
    rw [F_NS_peak_L52, ifE (by omega) (by omega) (by omega) (by omega), if_neg (show ¬ b ≤ t by omega), fR_eq (kd_0 h) (rr_0_10 h), aN_eq (by rw [kd_69 h]; decide) (ln_69 h), iz_sub, ifE (by omega) (by omega) (by omega) (by omega), if_neg (show ¬ ((2000 : Nat) : Int) ≤ t - a by omega), fR_eq (kd_0 h) (rr_0_10 h), aI_eq (kd_69 h) (ln_69 h) (by omega) (by omega) (by omega), hi, show ((i : Int)).toNat = i by omega, hd i (by omega), iz_add, ← ps, fe, nm_eq, ifE (by omega) (by omega) (by omega) (by omega), nm_eq, nm_eq, show (1 : Int32) = iz 1 from rfl, iz_add, pkF]
    by_cases g : frN S t ≤ m
    · rw [if_pos g, if_pos g, ih m v m1 m2]
    · rw [if_neg g, if_neg g, ih (frN S t) t (by omega) (by omega)]
theorem mPkL (hk : scOK S) (b1 : 0 ≤ b) (b2 : b ≤ 40000) {w : Int} (w1 : 0 ≤ w) (w2 : w ≤ 1) : ∀ (r n : Nat) (t m v : Int) (M : am_M), SH M → MS M S → rI M 70 1 = iz 1 → 0 ≤ t → t + r = b → r < n → -1 ≤ m → m ≤ 20000 → ∃ M', F_Md_peak_L68 n 70 (iz b) (iz w) (iz v) (iz m) (iz t) M = some (some (.int (iz (if w = 0 then (pkF (frN S) r t m v).2 else (pkF (frN S) r t m v).1))), M') ∧ Fr ASc M M'
  | r, 0, t, m, v, M, h, hm, hst, q1, q2, q3, m1, m2 => by omega
  | 0, n + 1, t, m, v, M, h, hm, hst, q1, q2, q3, m1, m2 => by
    refine ⟨M, ?_, Fr.refl M⟩
    rw [F_Md_peak_L68, ifE (by omega) (by omega) (by omega) (by omega), if_pos (show b ≤ t by omega), show (0 : Int32) = iz 0 from rfl, ifQ (by omega) (by omega) (by omega) (by omega), pkF]
    by_cases g : w = 0
    · rw [if_pos g, if_pos g]
    · rw [if_neg g, if_neg g]
  | r + 1, n + 1, t, m, v, M, h, hm, hst, q1, q2, q3, m1, m2 => by
    obtain ⟨M1, L, e1, f1, g1, g2, g3, -⟩ := mGath h hm hk hst (LB_all hk t) q1 (by omega)
    have h1 := h.fr f1
    have len := frN_eq hk g2 g3
    rw [len] at g1
    have fb := frN_bd hk t
    have ih := fun m v m1 m2 => mPkL hk b1 b2 w1 w2 r n (t + 1) m v M1 h1 (hm.ga f1) (by rw [st_ga f1]; exact hst) (by omega) (by omega) (by omega) m1 m2
    rw [F_Md_peak_L68, ifE (by omega) (by omega) (by omega) (by omega), if_neg (show ¬ b ≤ t by omega), cv_eq (kd_70 h), e1, bV_eq, fI_eq (kd_70 h1), g1, ifL (by omega) (by omega) (by omega) (by omega), fI_eq (kd_70 h1), g1, nm_eq, nm_eq, show (1 : Int32) = iz 1 from rfl, iz_add, pkF]
    by_cases g : frN S t ≤ m
    · obtain ⟨M', z1, z2⟩ := ih m v m1 m2
      exact ⟨M', by rw [if_neg (by omega), if_pos g]; exact z1, (f1.mono AGa_ASc).trans z2⟩
    · obtain ⟨M', z1, z2⟩ := ih (frN S t) t (by omega) (by omega)
      exact ⟨M', by rw [if_pos (by omega), if_neg g]; exact z1, (f1.mono AGa_ASc).trans z2⟩
theorem ap_peak (hI : Inv M) (p1 p2 p3 : Int32) : Ag (F_NS_peak 0 p1 p2 p3) (F_Md_peak 70 p1 p2 p3) M := by
  obtain ⟨h, -⟩ := id hI
  obtain ⟨S, st, s01, s1, s2, hc, hm, hb, hs, h0⟩ := hI.sc
  obtain ⟨a, a1, a2, rfl⟩ := iz_of p1
  obtain ⟨b, b1, b2, rfl⟩ := iz_of p2
  obtain ⟨w, w1, w2, rfl⟩ := iz_of p3
  rcases s01 with q | q
  · subst q
    refine Ag.p hI (v := -2) ?_ ?_
    · unfold F_NS_peak; rw [cv_eq (kd_0 h), cWin0 h s1, bI_eq, if_pos (by decide)]
    · unfold F_Md_peak; rw [fI_eq (kd_70 h), s2, if_pos (by decide)]
  subst q
  have hk := (hs rfl).1
  have wc := cWin h s1 a1 a2 b1 b2
  have md : ∀ M, SH M → rI M 70 1 = iz 1 → F_Md_peak 70 (iz a) (iz b) (iz w) M = if (0 ≤ a ∧ a ≤ 30001) ∧ (0 ≤ b ∧ b ≤ 30001) ∧ (1 ≤ b - a ∧ b - a ≤ 60) ∧ (0 ≤ w ∧ w ≤ 1) then F_Md_peak_L68 fu 70 (iz b) (iz w) (iz (-1)) (iz (-1)) (iz a) M else some (some (.int (-2)), M) := fun M h s2 => by
    unfold F_Md_peak
    rw [fI_eq (kd_70 h), s2, if_neg (by decide), show (0 : Int64) = jz 0 from rfl, show (30001 : Int64) = jz 30001 from rfl, show (60 : Int64) = jz 60 from rfl, show (1 : Int64) = jz 1 from rfl, mInL a 0 30001 a1 a2 (by omega) (by omega) (by omega) (by omega), bI_eq, bz_if0, mInL b 0 30001 b1 b2 (by omega) (by omega) (by omega) (by omega), bI_eq, bz_if0, jz_i2l a1 a2, jz_i2l b1 b2, jz_sub, in_eq (by omega) (by omega) (by omega) (by omega) (by omega) (by omega), bI_eq, bz_if0, mInL w 0 1 w1 w2 (by omega) (by omega) (by omega) (by omega), bI_eq, bz_if0]
    by_cases q1 : 0 ≤ a ∧ a ≤ 30001
    · by_cases q2 : 0 ≤ b ∧ b ≤ 30001
      · by_cases q3 : 1 ≤ b - a ∧ b - a ≤ 60
        · by_cases q4 : 0 ≤ w ∧ w ≤ 1
          · rw [if_pos q1, if_pos q2, if_pos q3, if_pos q4, if_pos ⟨q1, q2, q3, q4⟩]; rfl
          · rw [if_pos q1, if_pos q2, if_pos q3, if_neg q4, if_neg (fun z => q4 z.2.2.2)]
        · rw [if_pos q1, if_pos q2, if_neg q3, if_neg (fun z => q3 z.2.2.1)]
      · rw [if_pos q1, if_neg q2, if_neg (fun z => q2 z.2.1)]
    · rw [if_neg q1, if_neg (fun z => q1 z.1)]
  by_cases g2 : 0 ≤ a ∧ a ≤ b ∧ b ≤ 30001
  rotate_left
  · rw [bz_f g2] at wc
    refine Ag.p hI (v := -2) ?_ ?_
    · unfold F_NS_peak; rw [cv_eq (kd_0 h), wc, bI_eq, if_pos (by decide)]
    · rw [md M h s2, if_neg (by omega)]
  rw [bz_t g2] at wc
  have cs : F_NS_peak 0 (iz a) (iz b) (iz w) M = if a = b then some (some (.int (-2)), M) else if 60 < b - a then some (some (.int (-2)), M) else if w < 0 then some (some (.int (-2)), M) else if w ≤ 1 then bV (F_NS_countComingAndGoing 0 (iz a) (iz b) M) (fun M3 => F_NS_peak_L52 fu 0 (iz a) (iz b) (iz w) (iz 0) (iz (-1)) (iz a) (iz a) M3) else some (some (.int (-2)), M) := by
    unfold F_NS_peak
    rw [cv_eq (kd_0 h), wc, bI_eq, if_neg (by decide), ifQ (by omega) (by omega) (by omega) (by omega), iz_sub, show (60 : Int32) = iz 60 from rfl, ifL (by omega) (by omega) (by omega) (by omega), show (0 : Int32) = iz 0 from rfl, ifL (by omega) (by omega) (by omega) (by omega), show (-1 : Int32) = iz (-1) from rfl, show (1 : Int32) = iz 1 from rfl, ifE (by omega) (by omega) (by omega) (by omega), cv_eq (kd_0 h)]
  by_cases g3 : (1 ≤ b - a ∧ b - a ≤ 60) ∧ (0 ≤ w ∧ w ≤ 1)
  rotate_left
  · refine Ag.p hI (v := -2) ?_ ?_
    · rw [cs]
      by_cases z1 : a = b
      · rw [if_pos z1]
      rw [if_neg z1]
      by_cases z2 : 60 < b - a
      · rw [if_pos z2]
      rw [if_neg z2]
      by_cases z3 : w < 0
      · rw [if_pos z3]
      rw [if_neg z3, if_neg (by omega)]
    · rw [md M h s2, if_neg (by omega)]
  rw [if_neg (by omega), if_neg (by omega), if_neg (by omega), if_pos (by omega)] at cs
  obtain ⟨M0, e0, f0, z0⟩ := cFill (v := iz 0) (kd_69 h) (ln_69 h) (by decide)
  have h0' := h.fr f0
  have c0 := hc.fr f0 (fun x j q => by omega)
  obtain ⟨M1, e1, f1, w1'⟩ := cStart h0' c0 hk (a := a) (b := b) (by omega) (by omega) (by omega) (by omega)
  have f01 : Fr ASc M M1 := (f0.mono A75x).trans (f1.mono AWk_ASc)
  obtain ⟨x, M2, e2, f2, p2⟩ := wAll hk (by omega) (by omega) (by omega) (by omega) (lpPeak hk M (a := a) (b := b) (by omega) (by omega) (by omega) (by omega) (by omega) (by omega)) w1' (x := ()) ⟨f01, fun i hi => by rw [f1.ri (fun q => by unfold AWk at q; omega), z0 i hi]; rfl⟩
  have i2 := hI.q f2
  have h2 := i2.1
  have m2 := hm.q f2
  have fg := fu_ge
  have st2 : rI M2 70 1 = iz 1 := by rw [ASc.ri f2 (fun q => by unfold ASc at q; omega)]; exact s2
  have eN := cPkL hk h2 (a := a) (b := b) (by omega) (by omega) (by omega) (by omega) (by omega) (by omega) g3.2.1 g3.2.2 p2 (b - a).toNat fu a (-1) a (by omega) (by omega) (by omega) (by omega) (by omega)
  have tz : lsm (pkT S a b (a - a - 1)) (wkl S a b) = 0 := by
    have : ∀ L : List Int, lsm (pkT S a b (a - a - 1)) L = lsm (fun _ => 0) L := fun L => lsm_congr L (fun c _ => by unfold pkT pkA; rw [if_neg (by omega)])
    rw [this]
    generalize wkl S a b = L
    induction L with
    | nil => rfl
    | cons c L ih => rw [lsm, ih]; rfl
  rw [tz] at eN
  obtain ⟨M3, e3, f3⟩ := mPkL hk (b := b) (by omega) (by omega) g3.2.1 g3.2.2 (b - a).toNat fu a (-1) (-1) M2 h2 m2 st2 (by omega) (by omega) (by omega) (by omega) (by omega)
  have same : pkF (frN S) (b - a).toNat a (-1) (-1) = pkF (frN S) (b - a).toNat a (-1) a := by
    have fb := frN_bd hk a
    obtain ⟨r, hr⟩ : ∃ r, (b - a).toNat = r + 1 := ⟨(b - a).toNat - 1, by omega⟩
    rw [hr, pkF, pkF, if_neg (by omega), if_neg (by omega)]
  rw [same] at e3
  refine Ag.q hI (v := iz (if w = 0 then (pkF (frN S) (b - a).toNat a (-1) a).2 else (pkF (frN S) (b - a).toNat a (-1) a).1)) (M1 := M2) (M2 := M3) ?_ f2 ?_ f3
  · rw [cs]
    unfold F_NS_countComingAndGoing
    rw [fR_eq (kd_0 h) (rr_0_10 h), show (0 : Int32) = iz 0 from rfl, e0, bV_eq, fR_eq (kd_0 h0') (rr_0_6 h0'), cv_eq (kd_18 h0'), e1, bV_eq]
    have e2' : F_NS_countComingAndGoing_L19 fu 0 (iz a) (iz b) (iz 0) M1 = some (none, M2) := e2
    rw [e2', bV_eq]
    exact eN
  · rw [md M2 h2 st2, if_pos (by omega)]
    exact e3
end Peak
