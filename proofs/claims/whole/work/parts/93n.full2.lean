/-! ===== fullest: both; the reference's heaps ===== -/
section FrFull2
variable {M M0 : am_M} {S : Sc} {t : Int} {L O : List Int}
theorem mFul60 (hk : scOK S) (w : Int32) (hG : MC M0 M S t L) (hZ : HZ M 1600) : ∃ M', F_Md_fullest_L60 fu 70 w (iz (-1)) (iz 0) M = F_Md_fullest_L105 fu 70 w (iz (-1)) (iz 0) M' ∧ MC M0 M' S t L ∧ ∀ k : Nat, k < 1600 → rI M' 87 k = iz (cnt (fun c => clm S t c = k) L) := by
  have fg := fu_ge
  have ll := md_len hk hG.1.2.2.2.1
  obtain ⟨M', e, r⟩ := fLoop (fun n (_ : List Int) i M => F_Md_fullest_L60 n 70 w (iz (-1)) i M) (fun _ M => F_Md_fullest_L105 fu 70 w (iz (-1)) (iz 0) M) (fun x M => MC M0 M S t L ∧ ∀ k : Nat, k < 1600 → rI M 87 k = iz (cnt (fun c => clm S t c = k) x)) (fun x c => x ++ [c]) L (fun n x M hR => by
    show F_Md_fullest_L60 (n + 1) 70 w (iz (-1)) (iz (L.length : Int)) M = _
    rw [F_Md_fullest_L60, md_l hR.1.1.1 hR.1.1.2.2.2.1, ifE (by omega) (by omega) (by omega) (by omega), if_pos (Int.le_refl _)]
    rfl) (fun n x i c M hR hi => by
    obtain ⟨⟨hG, hC⟩, hv⟩ := id hR
    have h := hG.1
    have fi := (md_in hG.2.2.2.1 hi).1
    have il := (md_in hG.2.2.2.1 hi).2
    have p0 := pz_b3 hk fi (i := 0) (by omega) (by omega)
    have p1 := pz_b3 hk fi (i := 1) (by omega) (by omega)
    have cb := clm_bd hk fi
    obtain ⟨r0, r1⟩ := hC i c il hi
    obtain ⟨z, hz⟩ : ∃ z : Nat, clm S t c = (z : Int) := ⟨(clm S t c).toNat, by omega⟩
    refine ⟨wI M 87 z (iz (cnt (fun c => clm S t c = z) x + 1)), ?_, MC.w hR.1, fun k hk2 => ?_⟩
    · show F_Md_fullest_L60 (n + 1) 70 w (iz (-1)) (iz (i : Int)) M = F_Md_fullest_L60 n 70 w (iz (-1)) (iz ((i + 1 : Nat) : Int)) _
      rw [F_Md_fullest_L60, md_l h hG.2.2.2.1, ifE (by omega) (by omega) (by omega) (by omega), if_neg (by omega), fR_eq (kd_70 h) (rr_70_38 h), fR_eq (kd_70 h) (rr_70_37 h), aI_eq (kd_86 h) (ln_86 h) (by omega) (by omega) (by omega), show ((i : Int)).toNat = i by omega, r1, fR_eq (kd_70 h) (rr_70_36 h), aI_eq (kd_85 h) (ln_85 h) (by omega) (by omega) (by omega), show ((i : Int)).toNat = i by omega, r0, show (40 : Int32) = iz 40 from rfl, iz_mul, iz_add, clm_40, hz, aI_eq (kd_87 h) (ln_87 h) (by omega) (by omega) (by omega), show ((z : Int)).toNat = z by omega, hv z (by omega), show (1 : Int32) = iz 1 from rfl, iz_add, tI_eq (kd_87 h) (ln_87 h) (by omega) (by omega) (by omega), show ((z : Int)).toNat = z by omega, iz_add, nm_eq, show ((i : Int) + 1) = ((i + 1 : Nat) : Int) by omega]
    · by_cases e : k = z
      · subst e
        rw [rI_at rfl rfl, cnt_1t (p := fun c => clm S t c = (k : Int)) (c := c) hz]
      · rw [rI_ne (by omega), hv k hk2, cnt_1f (by rw [hz]; omega)]) L.length fu 0 [] M (by omega) (by omega) ⟨hG, fun k hk2 => by rw [hZ k hk2]; rfl⟩
  rw [List.drop_zero, foldl_app1, List.nil_append] at r
  exact ⟨M', e, r.1, r.2⟩
theorem ap_fullest (hI : Inv M) (p1 p2 : Int32) : Ag (F_NS_fullest 0 p1 p2) (F_Md_fullest 70 p1 p2) M := by
  obtain ⟨h, -⟩ := id hI
  obtain ⟨S, st, s01, s1, s2, hc, hm, hb, hs, h0⟩ := hI.sc
  obtain ⟨w, w1, w2, rfl⟩ := iz_of p2
  have hMd0 : ∀ M', SH M' → F_Md_isTick 70 p1 M' = some (some (.int (iz 0)), M') → F_Md_fullest 70 p1 (iz w) M' = some (some (.int (-2)), M') := fun M' h' e => by
    unfold F_Md_fullest; rw [cv_eq (kd_70 h'), e, bI_eq, if_pos (by decide)]
  have hMg : ∀ M', SH M' → F_Md_isTick 70 p1 M' = some (some (.int (iz 1)), M') → F_Md_fullest 70 p1 (iz w) M' = if 0 ≤ w ∧ w ≤ 2 then bV (F_Md_gathers 70 p1 M') (fun M5 => cv M5 70 13 (bV (F_Md_laysColumns 70 p1 M5) (fun M6 => F_Md_fullest_L35 fu 70 (iz w) (iz 0) M6))) else some (some (.int (-2)), M') := fun M' h' e => by
    unfold F_Md_fullest; rw [cv_eq (kd_70 h'), e, bI_eq, if_neg (by decide), show (0 : Int64) = jz 0 from rfl, show (2 : Int64) = jz 2 from rfl, mInL w 0 2 w1 w2 (by omega) (by omega) (by omega) (by omega), bI_eq, bz_if0, cv_eq (kd_70 h')]; rfl
  have hNg : F_NS_fullest 0 p1 (iz w) M = if w < 0 then some (some (.int (-2)), M) else if 2 < w then some (some (.int (-2)), M) else bI (F_Fram_shows 45 p1 M) (fun r3 M2 => if r3 = 0 then some (some (.int (-2)), M2) else fR M2 0 12 7 (fun b4 => fI M2 b4 5 2 (fun x5 => if x5 = 0 then some (some (.int (-1)), M2) else fR M2 0 12 7 (fun b6 => fR M2 0 12 10 (fun b7 => cv M2 b6 5 (bV (F_Fram_countColumns b6 b7 M2) (fun M8 => F_NS_fullest_L51 fu 0 (iz w) 0 1 M8))))))) := by
    unfold F_NS_fullest
    rw [show (0 : Int32) = iz 0 from rfl, show (2 : Int32) = iz 2 from rfl, ifL w1 w2 (by omega) (by omega), ifL (by omega) (by omega) w1 w2, fR_eq (kd_0 h) (rr_0_7 h), cv_eq (kd_45 h)]
  by_cases g : 0 ≤ w ∧ w ≤ 2
  rotate_left
  · refine ap_no (mk := Value.int) (v0 := -2) hI ?_ ?_
    · rw [hNg]
      by_cases q : w < 0
      · rw [if_pos q]
      · rw [if_neg q, if_pos (by omega)]
    · rcases mTk hI s01 s2 hs p1 with e | ⟨e0, e⟩
      · exact hMd0 M h e
      · rw [hMg M h e, if_neg g]
  rw [if_neg (by omega), if_neg (by omega)] at hNg
  refine ap_frm (mk := Value.int) (v0 := -2) (p := p1) (D := fun M' => bV (F_Md_gathers 70 p1 M') (fun M5 => cv M5 70 13 (bV (F_Md_laysColumns 70 p1 M5) (fun M6 => F_Md_fullest_L35 fu 70 (iz w) (iz 0) M6)))) hI s01 s1 s2 hs hNg hMd0 (fun M' h' c' e => by rw [hMg M' h' e, if_pos g]) (fun t M1 L O pt t1 t2 i1 c1 k1 => ?_)
  have hk := c1.1
  have h1 := i1.1
  have a1 := i1.2.1
  have ll := fr_len hk k1
  have fg := fu_ge
  subst pt
  have mdx : ∀ M2, SH M2 → Sc1 M2 S → ∃ M6, bV (F_Md_gathers 70 (iz t) M2) (fun M5 => cv M5 70 13 (bV (F_Md_laysColumns 70 (iz t) M5) (fun M6 => F_Md_fullest_L35 fu 70 (iz w) (iz 0) M6))) = some (some (.int (iz (if fbM (fun k => cnt (fun c => clm S t c = k) L) 1600 0 (-1) = -1 then -1 else flR (fun k => cnt (fun c => clm S t c = k) L) w (fbM (fun k => cnt (fun c => clm S t c = k) L) 1600 0 (-1))))), M6) ∧ Fr ASc M2 M6 := fun M2 h2 c2 => by
    obtain ⟨M3, Lm, e3, g3⟩ := mGth h2 c2 t1 t2
    obtain ⟨M4, e4, g4, cf4⟩ := mCols hk g3
    obtain ⟨M5, e5, mc5, z5⟩ := mFul35 (iz w) 1600 fu 0 M4 ⟨g4, cf4⟩ (fun j hj => by omega) (by omega) (by omega)
    obtain ⟨M6, e6, mc6, z6⟩ := mFul60 hk (iz w) mc5 z5
    have pm := gf_perm g3.2.2.2.1 k1.1
    have e7 := mFulL (f := fun k => cnt (fun c => clm S t c = k) L) mc6.1.1 (fun k hk2 => by rw [z6 k hk2, cnt_perm _ pm]) (fun k => by have := cnt_bd (fun c => clm S t c = k) L; omega) g.1 g.2 1600 fu 0 (-1) (by omega) (by omega) (by omega) (by omega)
    refine ⟨M6, ?_, mc6.1.2.2.2.2⟩
    rw [e3, bV_eq, cv_eq (kd_70 g3.1), e4, bV_eq]
    exact (e5.trans e6).trans e7
  have cnn : ∀ k, 0 ≤ cnt (fun c => clm S t c = k) L ∧ cnt (fun c => clm S t c = k) L ≤ 20000 := fun k => by have := cnt_bd (fun c => clm S t c = k) L; omega
  have rel : ((fbM (fun k => cnt (fun c => clm S t c = k) L) 1600 0 (-1) = -1 ∧ ∀ j, 0 ≤ j → j < 1600 → cnt (fun c => clm S t c = j) L ≤ 0) ∨ fbM (fun k => cnt (fun c => clm S t c = k) L) 1600 0 (-1) = fbC (fun k => cnt (fun c => clm S t c = k) L) 1599 1 0) := by
    have c0 := cnn 0
    have st : ((if cnt (fun c => clm S t c = 0) L ≤ 0 then (-1 : Int) else if (-1 : Int) = -1 then 0 else if cnt (fun c => clm S t c = 0) L ≤ cnt (fun c => clm S t c = -1) L then -1 else 0) = -1 ∧ cnt (fun c => clm S t c = 0) L = 0 ∧ ∀ j, 0 ≤ j → j < (1 : Int) → cnt (fun c => clm S t c = j) L ≤ 0) ∨ ((if cnt (fun c => clm S t c = 0) L ≤ 0 then (-1 : Int) else if (-1 : Int) = -1 then 0 else if cnt (fun c => clm S t c = 0) L ≤ cnt (fun c => clm S t c = -1) L then -1 else 0) = 0 ∧ 0 < cnt (fun c => clm S t c = 0) L ∧ (if cnt (fun c => clm S t c = 0) L ≤ 0 then (-1 : Int) else if (-1 : Int) = -1 then 0 else if cnt (fun c => clm S t c = 0) L ≤ cnt (fun c => clm S t c = -1) L then -1 else 0) ≠ -1) := by
      by_cases q : cnt (fun c => clm S t c = 0) L ≤ 0
      · rw [if_pos q]
        refine Or.inl ⟨rfl, by omega, fun j j1 j2 => ?_⟩
        have : j = 0 := by omega
        rw [this]; exact q
      · rw [if_neg q, if_pos rfl]
        exact Or.inr ⟨rfl, by omega, by omega⟩
    have e : fbM (fun k => cnt (fun c => clm S t c = k) L) 1600 0 (-1) = fbM (fun k => cnt (fun c => clm S t c = k) L) 1599 1 (if cnt (fun c => clm S t c = 0) L ≤ 0 then (-1 : Int) else if (-1 : Int) = -1 then 0 else if cnt (fun c => clm S t c = 0) L ≤ cnt (fun c => clm S t c = -1) L then -1 else 0) := by rw [show (1600 : Nat) = 1599 + 1 from rfl, fbM]; rfl
    rw [e]
    rcases fb_same (f := fun k => cnt (fun c => clm S t c = k) L) 1599 1 _ 0 (by omega) st with ⟨y1, y2⟩ | y
    · exact Or.inl ⟨y1, fun j j1 j2 => y2 j j1 (by omega)⟩
    · exact Or.inr y
  by_cases q0 : L = []
  · obtain ⟨M6, e6, f6⟩ := mdx M1 h1 c1
    have z : ∀ k, cnt (fun c => clm S t c = k) L = 0 := fun k => by rw [q0]; rfl
    have nb : fbM (fun k => cnt (fun c => clm S t c = k) L) 1600 0 (-1) = -1 := by
      have gen0 : ∀ (r : Nat) (i : Int), fbM (fun k => cnt (fun c => clm S t c = k) L) r i (-1) = -1 := fun r => by
        induction r with
        | zero => intro i; rfl
        | succ r ih => intro i; rw [fbM, if_pos (by rw [z]; omega)]; exact ih (i + 1)
      exact gen0 1600 0
    rw [if_pos nb] at e6
    refine ⟨iz (-1), M1, M6, ?_, h1, c1, e6, i1.q f6⟩
    show fR M1 0 12 7 _ = _
    rw [fR_eq (kd_0 h1) (rr_0_7 h1), fr_l h1 k1, if_pos (by rw [q0]; rfl)]
    rfl
  · obtain ⟨M2, e2, kc2, v2⟩ := cCountC hk (KC.of i1 c1 k1)
    have f2 : Fr ASc M1 M2 := kc2.2.2.2.2.mono A75x
    have c2 := c1.q a1 f2
    obtain ⟨M6, e6, f6⟩ := mdx M2 kc2.1 c2
    have eC := cFulL (f := fun k => cnt (fun c => clm S t c = k) L) kc2.1 v2 cnn g.1 g.2 1599 fu 1 0 (by omega) (by omega) (by omega)
    have lp : 0 < L.length := List.length_pos_iff.mpr q0
    have bd := fbC_bd (f := fun k => cnt (fun c => clm S t c = k) L) 1599 1 0 (by omega) (by omega) (by omega)
    have same : fbM (fun k => cnt (fun c => clm S t c = k) L) 1600 0 (-1) = fbC (fun k => cnt (fun c => clm S t c = k) L) 1599 1 0 := by
      rcases rel with ⟨z1, z2⟩ | z
      · exfalso
        have hi : L[0]? = some L[0] := List.getElem?_eq_getElem lp
        generalize L[0] = c at hi
        have fi := (fr_in k1 hi).1
        have cb := clm_bd hk fi
        have le := z2 (clm S t c) cb.1 cb.2
        have pos : 0 < cnt (fun d => clm S t d = clm S t c) L := by
          rw [cnt_flt]
          have : c ∈ flt (fun d => clm S t d = clm S t c) L := flt_mem.mpr ⟨List.mem_of_getElem? hi, rfl⟩
          have := List.length_pos_of_mem this
          omega
        omega
      · exact z
    rw [same, if_neg (by omega)] at e6
    refine ⟨iz (flR (fun k => cnt (fun c => clm S t c = k) L) w (fbC (fun k => cnt (fun c => clm S t c = k) L) 1599 1 0)), M2, M6, ?_, kc2.1, c2, e6, (i1.q f2).q f6⟩
    show fR M1 0 12 7 _ = _
    rw [fR_eq (kd_0 h1) (rr_0_7 h1), fr_l h1 k1, show (0 : Int32) = iz 0 from rfl, ifQ (by omega) (by omega) (by omega) (by omega), if_neg (by omega), fR_eq (kd_0 h1) (rr_0_7 h1), fR_eq (kd_0 h1) (rr_0_10 h1), cv_eq (kd_45 h1), e2, bV_eq]
    exact eC
/-! the heaps of cells -/
noncomputable def hcl (S : Sc) (t c : Int) : Int := (pz S t c 2 / 8 * 40 + pz S t c 1 / 8) * 40 + pz S t c 0 / 8
theorem hcl_bd (hk : scOK S) {c : Int} (hf : inFr S t c) : 0 ≤ hcl S t c ∧ hcl S t c < 64000 := by
  have p0 := pz_b3 hk hf (i := 0) (by omega) (by omega)
  have p1 := pz_b3 hk hf (i := 1) (by omega) (by omega)
  have p2 := pz_b3 hk hf (i := 2) (by omega) (by omega)
  unfold hcl
  omega
theorem mHp12 : ∀ (r n i : Nat) (M : am_M), MC M0 M S t L → HZ M i → i + r = 64000 → r < n → ∃ M', F_Md_laysHeaps_L12 n 70 (iz t) (iz (i : Int)) M = F_Md_laysHeaps_L33 fu 70 (iz t) (iz 0) M' ∧ MC M0 M' S t L ∧ HZ M' 64000
  | r, 0, i, M, hG, hZ, q1, q2 => by omega
  | 0, n + 1, i, M, hG, hZ, q1, q2 => by
    have e : i = 64000 := by omega
    subst e
    refine ⟨M, ?_, hG, hZ⟩
    rw [F_Md_laysHeaps_L12, show (64000 : Int32) = iz 64000 from rfl, ifE (by omega) (by omega) (by omega) (by omega), if_pos (by omega)]
    rfl
  | r + 1, n + 1, i, M, hG, hZ, q1, q2 => by
    have h := hG.1.1
    obtain ⟨M', e1, e2, e3⟩ := mHp12 r n (i + 1) (wI M 87 i (iz 0)) hG.w hZ.w (by omega) (by omega)
    refine ⟨M', ?_, e2, e3⟩
    rw [F_Md_laysHeaps_L12, show (64000 : Int32) = iz 64000 from rfl, ifE (by omega) (by omega) (by omega) (by omega), if_neg (by omega), fR_eq (kd_70 h) (rr_70_38 h), show (0 : Int32) = iz 0 from rfl, tI_eq (kd_87 h) (ln_87 h) (by omega) (by omega) (by omega), show ((i : Int)).toNat = i by omega, nm_eq, show (1 : Int32) = iz 1 from rfl, iz_add, show ((i : Int) + 1) = ((i + 1 : Nat) : Int) by omega]
    exact e1
theorem CF.ld {M' : am_M} {m : Nat} (h : CF M S t L m) (hf : Fr ALd M M') : CF M' S t L m := fun i c hi hc => by
  rw [hf.ri (fun q => by unfold ALd at q; omega), hf.ri (fun q => by unfold ALd at q; omega)]; exact h i c hi hc
theorem mHp33 (hk : scOK S) (hG : MC M0 M S t L) (hZ : HZ M 64000) : ∃ M', F_Md_laysHeaps_L33 fu 70 (iz t) (iz 0) M = some (none, M') ∧ MC M0 M' S t L ∧ ∀ k : Nat, k < 64000 → rI M' 87 k = iz (cnt (fun c => hcl S t c = k) L) := by
  have fg := fu_ge
  have ll := md_len hk hG.1.2.2.2.1
  obtain ⟨M', e, r⟩ := fLoop (fun n (_ : List Int) i M => F_Md_laysHeaps_L33 n 70 (iz t) i M) (fun _ M => some (none, M)) (fun x M => MC M0 M S t L ∧ ∀ k : Nat, k < 64000 → rI M 87 k = iz (cnt (fun c => hcl S t c = k) x)) (fun x c => x ++ [c]) L (fun n x M hR => by
    show F_Md_laysHeaps_L33 (n + 1) 70 (iz t) (iz (L.length : Int)) M = _
    rw [F_Md_laysHeaps_L33, md_l hR.1.1.1 hR.1.1.2.2.2.1, ifE (by omega) (by omega) (by omega) (by omega), if_pos (Int.le_refl _)]) (fun n x i c M hR hi => by
    obtain ⟨⟨hG, hC⟩, hv⟩ := id hR
    have h := hG.1
    have fi := (md_in hG.2.2.2.1 hi).1
    have il := (md_in hG.2.2.2.1 hi).2
    have p0 := pz_b3 hk fi (i := 0) (by omega) (by omega)
    have p1 := pz_b3 hk fi (i := 1) (by omega) (by omega)
    have p2 := pz_b3 hk fi (i := 2) (by omega) (by omega)
    have cb := hcl_bd hk fi
    obtain ⟨M1, e1, g1, f1⟩ := mPlAt hk hG hi (a := 2) (by omega) (by omega)
    have hC1 := hC.ld f1
    have hv1 : ∀ k : Nat, k < 64000 → rI M1 87 k = iz (cnt (fun c => hcl S t c = k) x) := fun k hk2 => by rw [f1.ri (fun q => by unfold ALd at q; omega)]; exact hv k hk2
    obtain ⟨r0, r1⟩ := hC1 i c il hi
    have h1 := g1.1
    obtain ⟨z, hz⟩ : ∃ z : Nat, hcl S t c = (z : Int) := ⟨(hcl S t c).toNat, by omega⟩
    have hz' : (pz S t c 2 / 8 * 40 + pz S t c 1 / 8) * 40 + pz S t c 0 / 8 = (z : Int) := hz
    refine ⟨wI M1 87 z (iz (cnt (fun c => hcl S t c = z) x + 1)), ?_, MC.w ⟨g1, hC1⟩, fun k hk2 => ?_⟩
    · show F_Md_laysHeaps_L33 (n + 1) 70 (iz t) (iz (i : Int)) M = F_Md_laysHeaps_L33 n 70 (iz t) (iz ((i + 1 : Nat) : Int)) _
      rw [F_Md_laysHeaps_L33, md_l h hG.2.2.2.1, ifE (by omega) (by omega) (by omega) (by omega), if_neg (by omega), fR_eq (kd_70 h) (rr_70_38 h), cv_eq (kd_70 h), show (2 : Int32) = iz 2 from rfl, e1, bI_eq, fR_eq (kd_70 h1) (rr_70_37 h1), aI_eq (kd_86 h1) (ln_86 h1) (by omega) (by omega) (by omega), show ((i : Int)).toNat = i by omega, r1, fR_eq (kd_70 h1) (rr_70_36 h1), aI_eq (kd_85 h1) (ln_85 h1) (by omega) (by omega) (by omega), show ((i : Int)).toNat = i by omega, r0, show (8 : Int32) = iz 8 from rfl, iz_ediv (by omega) (by omega) (by omega) (by omega), show (40 : Int32) = iz 40 from rfl, iz_mul, iz_add, iz_mul, iz_add, hz', aI_eq (kd_87 h1) (ln_87 h1) (by omega) (by omega) (by omega), show ((z : Int)).toNat = z by omega, hv1 z (by omega), show (1 : Int32) = iz 1 from rfl, iz_add, tI_eq (kd_87 h1) (ln_87 h1) (by omega) (by omega) (by omega), show ((z : Int)).toNat = z by omega, iz_add, nm_eq, show ((i : Int) + 1) = ((i + 1 : Nat) : Int) by omega]
    · by_cases e : k = z
      · subst e
        rw [rI_at rfl rfl, cnt_1t (p := fun c => hcl S t c = (k : Int)) (c := c) hz]
      · rw [rI_ne (by omega), hv1 k hk2, cnt_1f (by rw [hz]; omega)]) L.length fu 0 [] M (by omega) (by omega) ⟨hG, fun k hk2 => by rw [hZ k hk2]; rfl⟩
  rw [List.drop_zero, foldl_app1, List.nil_append] at r
  exact ⟨M', e, r.1, r.2⟩
theorem mHeaps (h : SH M) (hS : Sc1 M S) (t1 : 0 ≤ t) (t2 : t ≤ 30000) (hL : FL S t L) : ∃ M' Lm, F_Md_laysHeaps 70 (iz t) M = some (none, M') ∧ MC M M' S t Lm ∧ ∀ k : Nat, k < 64000 → rI M' 87 k = iz (cnt (fun c => hcl S t c = k) L) := by
  have hk := hS.1
  have fg := fu_ge
  obtain ⟨M3, Lm, e3, g3⟩ := mGth h hS t1 t2
  obtain ⟨M4, e4, g4, cf4⟩ := mCols hk g3
  obtain ⟨M5, e5, mc5, z5⟩ := mHp12 64000 fu 0 M4 ⟨g4, cf4⟩ (fun j hj => by omega) (by omega) (by omega)
  obtain ⟨M6, e6, mc6, z6⟩ := mHp33 hk mc5 z5
  refine ⟨M6, Lm, ?_, mc6, fun k hk2 => by rw [z6 k hk2, cnt_perm _ (gf_perm g3.2.2.2.1 hL)]⟩
  unfold F_Md_laysHeaps
  rw [cv_eq (kd_70 h), e3, bV_eq, cv_eq (kd_70 g3.1), e4, bV_eq]
  exact e5.trans e6
end FrFull2
