/-! ===== columns, fullest ===== -/
section FrFull
variable {M M0 : am_M} {S : Sc} {t : Int} {L O : List Int}
def MC (M0 M : am_M) (S : Sc) (t : Int) (L : List Int) : Prop := MG M0 M S t L ∧ CF M S t L L.length
theorem MC.w {j : Nat} {v : Int32} (h : MC M0 M S t L) : MC M0 (wI M 87 j v) S t L := by
  obtain ⟨h1, h2⟩ := h
  exact ⟨h1.q (Fr.wI (Or.inr (Or.inr (Or.inr rfl)))), fun i c hi hc => by rw [rI_ne (by omega), rI_ne (by omega)]; exact h2 i c hi hc⟩
/-- emptied up to i -/
def HZ (M : am_M) (i : Nat) : Prop := ∀ j, j < i → rI M 87 j = iz 0
theorem HZ.w {i : Nat} (h : HZ M i) : HZ (wI M 87 i (iz 0)) (i + 1) := fun j hj => by
  by_cases e : j = i
  · subst e; rw [rI_at rfl rfl]
  · rw [rI_ne (by omega)]; exact h j (by omega)
theorem mCol23 : ∀ (r n i : Nat) (M : am_M), MC M0 M S t L → HZ M i → i + r = 1600 → r < n → ∃ M', F_Md_columns_L23 n 70 (iz (i : Int)) M = F_Md_columns_L45 fu 70 (iz 0) M' ∧ MC M0 M' S t L ∧ HZ M' 1600
  | r, 0, i, M, hG, hZ, q1, q2 => by omega
  | 0, n + 1, i, M, hG, hZ, q1, q2 => by
    have e : i = 1600 := by omega
    subst e
    refine ⟨M, ?_, hG, hZ⟩
    rw [F_Md_columns_L23, show (1600 : Int32) = iz 1600 from rfl, ifE (by omega) (by omega) (by omega) (by omega), if_pos (by omega)]
    rfl
  | r + 1, n + 1, i, M, hG, hZ, q1, q2 => by
    have h := hG.1.1
    obtain ⟨M', e1, e2, e3⟩ := mCol23 r n (i + 1) (wI M 87 i (iz 0)) hG.w hZ.w (by omega) (by omega)
    refine ⟨M', ?_, e2, e3⟩
    rw [F_Md_columns_L23, show (1600 : Int32) = iz 1600 from rfl, ifE (by omega) (by omega) (by omega) (by omega), if_neg (by omega), fR_eq (kd_70 h) (rr_70_38 h), show (0 : Int32) = iz 0 from rfl, tI_eq (kd_87 h) (ln_87 h) (by omega) (by omega) (by omega), show ((i : Int)).toNat = i by omega, nm_eq, show (1 : Int32) = iz 1 from rfl, iz_add, show ((i : Int) + 1) = ((i + 1 : Nat) : Int) by omega]
    exact e1
theorem mFul35 (w : Int32) : ∀ (r n i : Nat) (M : am_M), MC M0 M S t L → HZ M i → i + r = 1600 → r < n → ∃ M', F_Md_fullest_L35 n 70 w (iz (i : Int)) M = F_Md_fullest_L60 fu 70 w (iz (-1)) (iz 0) M' ∧ MC M0 M' S t L ∧ HZ M' 1600
  | r, 0, i, M, hG, hZ, q1, q2 => by omega
  | 0, n + 1, i, M, hG, hZ, q1, q2 => by
    have e : i = 1600 := by omega
    subst e
    refine ⟨M, ?_, hG, hZ⟩
    rw [F_Md_fullest_L35, show (1600 : Int32) = iz 1600 from rfl, ifE (by omega) (by omega) (by omega) (by omega), if_pos (by omega)]
    rfl
  | r + 1, n + 1, i, M, hG, hZ, q1, q2 => by
    have h := hG.1.1
    obtain ⟨M', e1, e2, e3⟩ := mFul35 w r n (i + 1) (wI M 87 i (iz 0)) hG.w hZ.w (by omega) (by omega)
    refine ⟨M', ?_, e2, e3⟩
    rw [F_Md_fullest_L35, show (1600 : Int32) = iz 1600 from rfl, ifE (by omega) (by omega) (by omega) (by omega), if_neg (by omega), fR_eq (kd_70 h) (rr_70_38 h), show (0 : Int32) = iz 0 from rfl, tI_eq (kd_87 h) (ln_87 h) (by omega) (by omega) (by omega), show ((i : Int)).toNat = i by omega, nm_eq, show (1 : Int32) = iz 1 from rfl, iz_add, show ((i : Int) + 1) = ((i + 1 : Nat) : Int) by omega]
    exact e1
noncomputable def some1 (S : Sc) (t : Int) (L : List Int) (k : Int) : Int := if 0 < cnt (fun c => clm S t c = k) L then 1 else 0
theorem clm_40 {c : Int} : 40 * (pz S t c 1 / 8) + pz S t c 0 / 8 = clm S t c := by unfold clm; omega
theorem mCol45 (hk : scOK S) (hG : MC M0 M S t L) (hZ : HZ M 1600) : ∃ M', F_Md_columns_L45 fu 70 (iz 0) M = F_Md_columns_L85 fu 70 (iz 0) (iz 0) M' ∧ MC M0 M' S t L ∧ ∀ k : Nat, k < 1600 → rI M' 87 k = iz (some1 S t L k) := by
  have fg := fu_ge
  have ll := md_len hk hG.1.2.2.2.1
  obtain ⟨M', e, r⟩ := fLoop (fun n (_ : List Int) i M => F_Md_columns_L45 n 70 i M) (fun _ M => F_Md_columns_L85 fu 70 (iz 0) (iz 0) M) (fun x M => MC M0 M S t L ∧ ∀ k : Nat, k < 1600 → rI M 87 k = iz (some1 S t x k)) (fun x c => x ++ [c]) L (fun n x M hR => by
    show F_Md_columns_L45 (n + 1) 70 (iz (L.length : Int)) M = _
    rw [F_Md_columns_L45, md_l hR.1.1.1 hR.1.1.2.2.2.1, ifE (by omega) (by omega) (by omega) (by omega), if_pos (Int.le_refl _)]
    rfl) (fun n x i c M hR hi => by
    obtain ⟨⟨hG, hC⟩, hv⟩ := id hR
    have h := hG.1
    have fi := (md_in hG.2.2.2.1 hi).1
    have il := (md_in hG.2.2.2.1 hi).2
    have p0 := pz_b3 hk fi (i := 0) (by omega) (by omega)
    have p1 := pz_b3 hk fi (i := 1) (by omega) (by omega)
    have cb := clm_bd hk fi
    obtain ⟨r0, r1⟩ := hC i c il hi
    obtain ⟨z, hz⟩ : ∃ z : Nat, clm S t c = (z : Int) := ⟨(clm S t c).toNat, by omega⟩
    refine ⟨wI M 87 z (iz 1), ?_, MC.w hR.1, fun k hk2 => ?_⟩
    · show F_Md_columns_L45 (n + 1) 70 (iz (i : Int)) M = F_Md_columns_L45 n 70 (iz ((i + 1 : Nat) : Int)) _
      rw [F_Md_columns_L45, md_l h hG.2.2.2.1, ifE (by omega) (by omega) (by omega) (by omega), if_neg (by omega), fR_eq (kd_70 h) (rr_70_38 h), fR_eq (kd_70 h) (rr_70_37 h), aI_eq (kd_86 h) (ln_86 h) (by omega) (by omega) (by omega), show ((i : Int)).toNat = i by omega, r1, fR_eq (kd_70 h) (rr_70_36 h), aI_eq (kd_85 h) (ln_85 h) (by omega) (by omega) (by omega), show ((i : Int)).toNat = i by omega, r0, show (40 : Int32) = iz 40 from rfl, iz_mul, iz_add, clm_40, hz, show (1 : Int32) = iz 1 from rfl, tI_eq (kd_87 h) (ln_87 h) (by omega) (by omega) (by omega), show ((z : Int)).toNat = z by omega, iz_add, nm_eq, show ((i : Int) + 1) = ((i + 1 : Nat) : Int) by omega]
    · unfold some1
      by_cases e : k = z
      · subst e
        have cb2 := cnt_bd (fun c => clm S t c = (k : Int)) x
        rw [rI_at rfl rfl, cnt_1t (p := fun c => clm S t c = (k : Int)) (c := c) hz, if_pos (by omega)]
      · rw [rI_ne (by omega), hv k hk2, cnt_1f (by rw [hz]; omega)]; rfl) L.length fu 0 [] M (by omega) (by omega) ⟨hG, fun k hk2 => by rw [hZ k hk2]; rfl⟩
  rw [List.drop_zero, foldl_app1, List.nil_append] at r
  exact ⟨M', e, r.1, r.2⟩
theorem mCol85 (h : SH M) {f : Int → Int} (hv : ∀ k : Nat, k < 1600 → rI M 87 k = iz (f k)) : ∀ (r n : Nat) (k : Nat) (v : Int), k + r = 1600 → r < n → F_Md_columns_L85 n 70 (iz v) (iz (k : Int)) M = some (some (.int (iz (smF f r k v))), M)
  | r, 0, k, v, q1, q2 => by omega
  | 0, n + 1, k, v, q1, q2 => by
    rw [F_Md_columns_L85, show (1600 : Int32) = iz 1600 from rfl, ifE (by omega) (by omega) (by omega) (by omega), if_pos (by omega), smF]
  | r + 1, n + 1, k, v, q1, q2 => by
    rw [F_Md_columns_L85, show (1600 : Int32) = iz 1600 from rfl, ifE (by omega) (by omega) (by omega) (by omega), if_neg (by omega), fR_eq (kd_70 h) (rr_70_38 h), aI_eq (kd_87 h) (ln_87 h) (by omega) (by omega) (by omega), show ((k : Int)).toNat = k by omega, hv k (by omega), show (1 : Int32) = iz 1 from rfl, iz_add, iz_add, nm_eq, nm_eq, smF, show ((k : Int) + 1) = ((k + 1 : Nat) : Int) by omega]
    exact mCol85 h hv r n (k + 1) _ (by omega) (by omega)
theorem cCol29 (h : SH M) (hv : ∀ k : Nat, k < 2000 → rI M 69 k = iz (cnt (fun c => clm S t c = k) L)) (ll : L.length ≤ 20000) : ∀ (r n : Nat) (k : Nat) (v : Int), k + r = 1600 → r < n → F_NS_columns_L29 n 0 (iz v) (iz (k : Int)) M = some (some (.int (iz (smF (some1 S t L) r k v))), M)
  | r, 0, k, v, q1, q2 => by omega
  | 0, n + 1, k, v, q1, q2 => by
    rw [F_NS_columns_L29, show (1600 : Int32) = iz 1600 from rfl, ifE (by omega) (by omega) (by omega) (by omega), if_pos (by omega), smF]
  | r + 1, n + 1, k, v, q1, q2 => by
    have cb := cnt_bd (fun c => clm S t c = (k : Int)) L
    rw [F_NS_columns_L29, show (1600 : Int32) = iz 1600 from rfl, ifE (by omega) (by omega) (by omega) (by omega), if_neg (by omega), fR_eq (kd_0 h) (rr_0_10 h), aN_eq (by rw [kd_69 h]; decide) (ln_69 h), ifE (by omega) (by omega) (by omega) (by omega), if_neg (by omega), fR_eq (kd_0 h) (rr_0_10 h), aI_eq (kd_69 h) (ln_69 h) (by omega) (by omega) (by omega), show ((k : Int)).toNat = k by omega, hv k (by omega), show (0 : Int32) = iz 0 from rfl, ifE (by omega) (by omega) (by omega) (by omega), show (1 : Int32) = iz 1 from rfl, iz_add, iz_add, nm_eq, nm_eq, nm_eq, smF, show ((k : Int) + 1) = ((k + 1 : Nat) : Int) by omega]
    unfold some1
    by_cases g : cnt (fun c => clm S t c = (k : Int)) L ≤ 0
    · rw [if_pos g, if_neg (by omega), Int.add_zero]
      exact cCol29 h hv ll r n (k + 1) v (by omega) (by omega)
    · rw [if_neg g, if_pos (by omega)]
      exact cCol29 h hv ll r n (k + 1) (v + 1) (by omega) (by omega)
theorem smF_congr {f g : Int → Int} (h : ∀ k, f k = g k) : ∀ (r : Nat) (k v : Int), smF f r k v = smF g r k v
  | 0, k, v => rfl
  | r + 1, k, v => by rw [smF, smF, h k, smF_congr h r]
theorem KC.of {M : am_M} (hI : Inv M) (hS : Sc1 M S) (hK : FrK M S t L O) : KC M M S t L O := ⟨hI.1, hI.2.1, hK, hS.2.2.2.1, Fr.refl M⟩
theorem ap_columns (hI : Inv M) (p1 : Int32) : Ag (F_NS_columns 0 p1) (F_Md_columns 70 p1) M := by
  obtain ⟨h, -⟩ := id hI
  obtain ⟨S, st, s01, s1, s2, hc, hm, hb, hs, h0⟩ := hI.sc
  refine ap_frm (mk := Value.int) (v0 := -2) (p := p1) (B := fun M2 => fR M2 0 12 7 (fun b4 => fR M2 0 12 10 (fun b5 => cv M2 b4 5 (bV (F_Fram_countColumns b4 b5 M2) (fun M6 => F_NS_columns_L29 fu 0 (iz 0) (iz 0) M6))))) (D := fun M' => bV (F_Md_gathers 70 p1 M') (fun M3 => cv M3 70 13 (bV (F_Md_laysColumns 70 p1 M3) (fun M4 => F_Md_columns_L23 fu 70 (iz 0) M4)))) hI s01 s1 s2 hs ?_ (fun M' h' e => ?_) (fun M' h' c' e => ?_) (fun t M1 L O pt t1 t2 i1 c1 k1 => ?_)
  · unfold F_NS_columns
    rw [fR_eq (kd_0 h) (rr_0_7 h), cv_eq (kd_45 h)]; rfl
  · unfold F_Md_columns; rw [cv_eq (kd_70 h'), e, bI_eq, if_pos (by decide)]
  · unfold F_Md_columns; rw [cv_eq (kd_70 h'), e, bI_eq, if_neg (by decide), cv_eq (kd_70 h')]; rfl
  have hk := c1.1
  have h1 := i1.1
  have a1 := i1.2.1
  have ll := fr_len hk k1
  have fg := fu_ge
  subst pt
  obtain ⟨M2, e2, kc2, v2⟩ := cCountC hk (KC.of i1 c1 k1)
  have f2 : Fr ASc M1 M2 := kc2.2.2.2.2.mono A75x
  have eC := cCol29 kc2.1 v2 (by omega) 1600 fu 0 0 (by omega) (by omega)
  have i2 := i1.q f2
  have c2 := c1.q a1 f2
  obtain ⟨M3, Lm, e3, g3⟩ := mGth kc2.1 c2 t1 t2
  obtain ⟨M4, e4, g4, cf4⟩ := mCols hk g3
  obtain ⟨M5, e5, mc5, z5⟩ := mCol23 1600 fu 0 M4 ⟨g4, cf4⟩ (fun j hj => by omega) (by omega) (by omega)
  obtain ⟨M6, e6, mc6, z6⟩ := mCol45 hk mc5 z5
  have e7 := mCol85 mc6.1.1 z6 1600 fu 0 0 (by omega) (by omega)
  have pm := gf_perm g3.2.2.2.1 k1.1
  rw [smF_congr (g := some1 S t L) (fun k => by unfold some1; rw [cnt_perm _ pm])] at e7
  refine ⟨iz (smF (some1 S t L) 1600 ((0 : Nat) : Int) 0), M2, M6, ?_, kc2.1, c2, ?_, i2.q mc6.1.2.2.2.2⟩
  · show fR M1 0 12 7 _ = _
    rw [fR_eq (kd_0 h1) (rr_0_7 h1), fR_eq (kd_0 h1) (rr_0_10 h1), cv_eq (kd_45 h1), e2, bV_eq]
    exact eC
  · show bV (F_Md_gathers 70 (iz t) M2) _ = _
    rw [e3, bV_eq, cv_eq (kd_70 g3.1), e4, bV_eq]
    exact (e5.trans e6).trans e7
/-! fullest -/
def fbC (f : Int → Int) : Nat → Int → Int → Int
  | 0, _, b => b
  | r + 1, i, b => fbC f r (i + 1) (if f i ≤ f b then b else i)
def fbM (f : Int → Int) : Nat → Int → Int → Int
  | 0, _, b => b
  | r + 1, i, b => fbM f r (i + 1) (if f i ≤ 0 then b else if b = -1 then i else if f i ≤ f b then b else i)
theorem fb_same {f : Int → Int} : ∀ (r : Nat) (i a b : Int), 0 ≤ i → ((a = -1 ∧ f b = 0 ∧ ∀ j, 0 ≤ j → j < i → f j ≤ 0) ∨ (a = b ∧ 0 < f b ∧ a ≠ -1)) → ((fbM f r i a = -1 ∧ ∀ j, 0 ≤ j → j < i + r → f j ≤ 0) ∨ fbM f r i a = fbC f r i b)
  | 0, i, a, b, i0, h => by
    rcases h with ⟨h1, h2, h3⟩ | ⟨h1, h2, h3⟩
    · exact Or.inl ⟨h1, fun j j1 j2 => h3 j j1 (by omega)⟩
    · exact Or.inr h1
  | r + 1, i, a, b, i0, h => by
    rw [fbM, fbC]
    have key : ((if f i ≤ 0 then a else if a = -1 then i else if f i ≤ f a then a else i) = -1 ∧ f (if f i ≤ f b then b else i) = 0 ∧ ∀ j, 0 ≤ j → j < i + 1 → f j ≤ 0) ∨ ((if f i ≤ 0 then a else if a = -1 then i else if f i ≤ f a then a else i) = (if f i ≤ f b then b else i) ∧ 0 < f (if f i ≤ f b then b else i) ∧ (if f i ≤ 0 then a else if a = -1 then i else if f i ≤ f a then a else i) ≠ -1) := by
      rcases h with ⟨h1, h2, h3⟩ | ⟨h1, h2, h3⟩
      · by_cases q : f i ≤ 0
        · rw [if_pos q, if_pos (by omega)]
          refine Or.inl ⟨h1, h2, fun j j1 j2 => ?_⟩
          by_cases e : j = i
          · rw [e]; exact q
          · exact h3 j j1 (by omega)
        · rw [if_neg q, if_pos h1, if_neg (by omega)]
          exact Or.inr ⟨rfl, by omega, by omega⟩
      · by_cases q : f i ≤ 0
        · rw [if_pos q, if_pos (by omega)]
          exact Or.inr ⟨h1, h2, h3⟩
        · rw [if_neg q, if_neg h3, h1]
          by_cases q2 : f i ≤ f b
          · rw [if_pos q2]; exact Or.inr ⟨rfl, h2, by omega⟩
          · rw [if_neg q2]; exact Or.inr ⟨rfl, by omega, by omega⟩
    have ih := fb_same r (i + 1) _ _ (by omega) key
    rw [show i + 1 + (r : Int) = i + ((r + 1 : Nat) : Int) by omega] at ih
    exact ih
theorem fbC_bd {f : Int → Int} : ∀ (r : Nat) (i b : Int), 0 ≤ i → 0 ≤ b → b < i + r → 0 ≤ fbC f r i b ∧ fbC f r i b < i + r
  | 0, i, b, i0, b0, h => ⟨b0, h⟩
  | r + 1, i, b, i0, b0, h => by
    rw [fbC]
    have ih := fbC_bd (f := f) r (i + 1) (if f i ≤ f b then b else i) (by omega) (by split <;> omega) (by split <;> omega)
    omega
/-- what is asked of the fullest -/
def flR (f : Int → Int) (w b : Int) : Int := if w = 2 then f b else if w = 0 then b % 40 else b / 40
theorem cFulL (h : SH M) {f : Int → Int} (hv : ∀ k : Nat, k < 2000 → rI M 69 k = iz (f k)) (hf : ∀ k, 0 ≤ f k ∧ f k ≤ 20000) {w : Int} (w1 : 0 ≤ w) (w2 : w ≤ 2) : ∀ (r n : Nat) (k b : Nat), k + r = 1600 → b < 1600 → r < n → F_NS_fullest_L51 n 0 (iz w) (iz (b : Int)) (iz (k : Int)) M = some (some (.int (iz (flR f w (fbC f r k b)))), M)
  | r, 0, k, b, q1, q2, q3 => by omega
  | 0, n + 1, k, b, q1, q2, q3 => by
    rw [F_NS_fullest_L51, show (1600 : Int32) = iz 1600 from rfl, ifE (by omega) (by omega) (by omega) (by omega), if_pos (by omega), fbC]
    unfold F_NS_fullest_L94 flR
    rw [show (2 : Int32) = iz 2 from rfl, show (0 : Int32) = iz 0 from rfl, ifQ (by omega) (by omega) (by omega) (by omega), ifQ (by omega) (by omega) (by omega) (by omega), fR_eq (kd_0 h) (rr_0_10 h), aI_eq (kd_69 h) (ln_69 h) (by omega) (by omega) (by omega), show ((b : Int)).toNat = b by omega, hv b (by omega), show (40 : Int32) = iz 40 from rfl, iz_emod (by omega) (by omega) (by omega) (by omega), iz_ediv (by omega) (by omega) (by omega) (by omega)]
    by_cases g : w = 2
    · rw [if_pos g, if_pos g]
    · rw [if_neg g, if_neg g]
      by_cases g2 : w = 0
      · rw [if_pos g2, if_pos g2]
      · rw [if_neg g2, if_neg g2]
  | r + 1, n + 1, k, b, q1, q2, q3 => by
    have fk := hf k
    have fb' := hf b
    rw [F_NS_fullest_L51, show (1600 : Int32) = iz 1600 from rfl, ifE (by omega) (by omega) (by omega) (by omega), if_neg (by omega), fR_eq (kd_0 h) (rr_0_10 h), aN_eq (by rw [kd_69 h]; decide) (ln_69 h), ifE (by omega) (by omega) (by omega) (by omega), if_neg (by omega), fR_eq (kd_0 h) (rr_0_10 h), aI_eq (kd_69 h) (ln_69 h) (by omega) (by omega) (by omega), show ((k : Int)).toNat = k by omega, hv k (by omega), fR_eq (kd_0 h) (rr_0_10 h), aI_eq (kd_69 h) (ln_69 h) (by omega) (by omega) (by omega), show ((b : Int)).toNat = b by omega, hv b (by omega), ifE (by omega) (by omega) (by omega) (by omega), show (1 : Int32) = iz 1 from rfl, iz_add, nm_eq, nm_eq, show ((k : Int) + 1) = ((k + 1 : Nat) : Int) by omega, fbC]
    by_cases g : f k ≤ f b
    · rw [if_pos g, if_pos g]; exact cFulL h hv hf w1 w2 r n (k + 1) b (by omega) q2 (by omega)
    · rw [if_neg g, if_neg g]; exact cFulL h hv hf w1 w2 r n (k + 1) k (by omega) (by omega) (by omega)
theorem mFulL (h : SH M) {f : Int → Int} (hv : ∀ k : Nat, k < 1600 → rI M 87 k = iz (f k)) (hf : ∀ k, 0 ≤ f k ∧ f k ≤ 20000) {w : Int} (w1 : 0 ≤ w) (w2 : w ≤ 2) : ∀ (r n : Nat) (k : Nat) (b : Int), k + r = 1600 → -1 ≤ b → b < 1600 → r < n → F_Md_fullest_L105 n 70 (iz w) (iz b) (iz (k : Int)) M = some (some (.int (iz (if fbM f r k b = -1 then -1 else flR f w (fbM f r k b)))), M)
  | r, 0, k, b, q1, q2, q3, q4 => by omega
  | 0, n + 1, k, b, q1, q2, q3, q4 => by
    rw [F_Md_fullest_L105, show (1600 : Int32) = iz 1600 from rfl, ifE (by omega) (by omega) (by omega) (by omega), if_pos (by omega), fbM, show (-1 : Int32) = iz (-1) from rfl, show (1 : Int32) = iz 1 from rfl, show (0 : Int32) = iz 0 from rfl, ifQ (by omega) (by omega) (by omega) (by omega)]
    by_cases g0 : b = -1
    · rw [if_pos g0, if_pos g0]
    rw [if_neg g0, if_neg g0, ifQ (by omega) (by omega) (by omega) (by omega), ifQ (by omega) (by omega) (by omega) (by omega), show (40 : Int32) = iz 40 from rfl, iz_emod (by omega) (by omega) (by omega) (by omega), iz_ediv (by omega) (by omega) (by omega) (by omega), fR_eq (kd_70 h) (rr_70_38 h), aI_eq (kd_87 h) (ln_87 h) (by omega) (by omega) (by omega), hv b.toNat (by omega), show ((b.toNat : Nat) : Int) = b by omega]
    unfold flR
    by_cases g : w = 0
    · rw [if_pos g, if_neg (by omega), if_pos g]
    · rw [if_neg g]
      by_cases g2 : w = 1
      · rw [if_pos g2, if_neg (by omega), if_neg g]
      · rw [if_neg g2, if_pos (by omega)]
  | r + 1, n + 1, k, b, q1, q2, q3, q4 => by
    have fk := hf k
    have fb' := hf b
    have ih := fun b q2 q3 => mFulL h hv hf w1 w2 r n (k + 1) b (by omega) q2 q3 (by omega)
    rw [F_Md_fullest_L105, show (1600 : Int32) = iz 1600 from rfl, ifE (by omega) (by omega) (by omega) (by omega), if_neg (by omega), fR_eq (kd_70 h) (rr_70_38 h), aI_eq (kd_87 h) (ln_87 h) (by omega) (by omega) (by omega), show ((k : Int)).toNat = k by omega, hv k (by omega), show (-1 : Int32) = iz (-1) from rfl, show (0 : Int32) = iz 0 from rfl, ifE (by omega) (by omega) (by omega) (by omega), ifQ (by omega) (by omega) (by omega) (by omega), show (1 : Int32) = iz 1 from rfl, iz_add, nm_eq, nm_eq, fR_eq (kd_70 h) (rr_70_38 h), aI_eq (kd_87 h) (ln_87 h) (by omega) (by omega) (by omega), show ((k : Int)).toNat = k by omega, hv k (by omega), fR_eq (kd_70 h) (rr_70_38 h), show ((k : Int) + 1) = ((k + 1 : Nat) : Int) by omega, fbM]
    by_cases g : f k ≤ 0
    · rw [if_pos g, if_pos g]; exact ih b q2 q3
    rw [if_neg g, if_neg g]
    by_cases g2 : b = -1
    · rw [if_pos g2, if_pos g2]; exact ih k (by omega) (by omega)
    rw [if_neg g2, if_neg g2, aI_eq (kd_87 h) (ln_87 h) (by omega) (by omega) (by omega), hv b.toNat (by omega), show ((b.toNat : Nat) : Int) = b by omega, ifE (by omega) (by omega) (by omega) (by omega)]
    by_cases g3 : f k ≤ f b
    · rw [if_pos g3, if_pos g3]; exact ih b q2 q3
    · rw [if_neg g3, if_neg g3]; exact ih k (by omega) (by omega)
end FrFull
