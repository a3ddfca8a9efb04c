/-! ===== layer, picture: both ===== -/
section FrPic2
variable {M M0 : am_M} {S : Sc} {t : Int} {L O : List Int}
theorem cClr (h : SH M) (hc : CS M S) : ∃ M', F_Outp_clear 16 M = some (none, M') ∧ PC M' M' S [] ∧ Fr AOc M M' := by
  have f : Fr AOc M (wI M 16 1 (iz 0)) := Fr.wI (Or.inl rfl)
  refine ⟨wI M 16 1 (iz 0), ?_, ⟨h.fr f, hc.fr f (fun b j q => by unfold AOc at q; omega), ⟨by rw [rI_at rfl rfl]; rfl, fun i x q => by cases q⟩, Fr.refl _⟩, f⟩
  unfold F_Outp_clear
  rw [sI_eq (kd_16 h)]; rfl
/-- both have told the same -/
theorem two_told {M1 M2 M3 : am_M} {P : List Int} (hI : Inv M1) (f2 : Fr AO M1 M2) (hc : CO M2 P) (f3 : Fr AO M2 M3) (fm : ∀ b j, (b = 16 ∨ b = 17) → rI M3 b j = rI M2 b j) (hm : MO M3 P) (hl : P.length ≤ 1640) : Inv M3 := by
  refine hI.o (f2.trans f3) (CO.out (L := P) ?_ hm hl)
  exact ⟨by rw [fm _ _ (Or.inl rfl)]; exact hc.1, fun i x q => by rw [fm _ _ (Or.inr rfl)]; exact hc.2 i x q⟩
theorem ap_layer (hI : Inv M) (p1 p2 : Int32) : Ag (F_NS_layer 0 p1 p2) (F_Md_layer 70 p1 p2) M := by
  obtain ⟨h, -⟩ := id hI
  obtain ⟨S, st, s01, s1, s2, hc, hm, hb, hs, h0⟩ := hI.sc
  obtain ⟨z, z1, z2, rfl⟩ := iz_of p2
  have wb := hb.2.2.2 2 (by omega) (by omega)
  have isC := cIsC h hc (i := 2) (by omega) (by omega) wb z1 z2
  have hMd0 : ∀ M', SH M' → F_Md_isTick 70 p1 M' = some (some (.int (iz 0)), M') → F_Md_layer 70 p1 (iz z) M' = some (some (.int (-2)), M') := fun M' h' e => by
    unfold F_Md_layer; rw [cv_eq (kd_70 h'), e, bI_eq, if_pos (by decide)]
  have hMg : ∀ M', SH M' → MS M' S → F_Md_isTick 70 p1 M' = some (some (.int (iz 1)), M') → F_Md_layer 70 p1 (iz z) M' = if 0 ≤ z ∧ z ≤ sW S 2 - 1 then bV (F_Md_laysHeaps 70 p1 M') (fun M7 => sI M7 70 13 41 0 (fun M8 => F_Md_layer_L41 fu 70 (iz z) 0 M8)) else some (some (.int (-2)), M') := fun M' h' m' e => by
    unfold F_Md_layer
    rw [cv_eq (kd_70 h'), e, bI_eq, if_neg (by decide), fR_eq (kd_70 h') (rr_70_2 h'), show (2 : Int32) = iz 2 from rfl, mWi h' m' (by omega) (by omega), show (1 : Int32) = iz 1 from rfl, iz_sub, mIn z (sW S 2 - 1) z1 z2 (by omega) (by omega), bI_eq, bz_if0, cv_eq (kd_70 h')]
  by_cases g : 0 ≤ z ∧ z < sW S 2
  rotate_left
  · rw [bz_f g] at isC
    refine ap_no (mk := Value.int) (v0 := -2) hI ?_ ?_
    · unfold F_NS_layer; rw [fR_eq (kd_0 h) (rr_0_2 h), cv_eq (kd_2 h), show (2 : Int32) = iz 2 from rfl, isC, bI_eq, if_pos (by decide)]
    · rcases mTk hI s01 s2 hs p1 with e | ⟨e0, e⟩
      · exact hMd0 M h e
      · rw [hMg M h hm e, if_neg (by omega)]
  rw [bz_t g] at isC
  refine ap_frm (mk := Value.int) (v0 := -2) (p := p1) (B := fun M5 => fR M5 0 12 7 (fun b7 => fR M5 0 12 10 (fun b8 => cv M5 b7 5 (bV (F_Fram_countLayer b7 (iz z) b8 M5) (fun M9 => fR M9 0 12 5 (fun b10 => cv M9 b10 7 (bV (F_Outp_clear b10 M9) (fun M11 => F_NS_layer_L47 fu 0 0 M11)))))))) (D := fun M' => bV (F_Md_laysHeaps 70 p1 M') (fun M7 => sI M7 70 13 41 0 (fun M8 => F_Md_layer_L41 fu 70 (iz z) 0 M8))) hI s01 s1 s2 hs ?_ hMd0 (fun M' h' c' e => by rw [hMg M' h' c'.2.2.2.2.1 e, if_pos (by omega)]) (fun t M1 L O pt t1 t2 i1 c1 k1 => ?_)
  · unfold F_NS_layer
    rw [fR_eq (kd_0 h) (rr_0_2 h), cv_eq (kd_2 h), show (2 : Int32) = iz 2 from rfl, isC, bI_eq, if_neg (by decide), fR_eq (kd_0 h) (rr_0_7 h), cv_eq (kd_45 h)]
  have hk := c1.1
  have h1 := i1.1
  have a1 := i1.2.1
  have ll := fr_len hk k1
  have w0 := hk.1 0 (by omega) (by omega)
  have w1 := hk.1 1 (by omega) (by omega)
  have w2 := hk.1 2 (by omega) (by omega)
  subst pt
  obtain ⟨M2, e2, kc2, v2⟩ := cCountL hk (KC.of i1 c1 k1) z1 z2
  have f2 : Fr AO M1 M2 := (kc2.2.2.2.2.mono A75x).mono ASc_AO
  obtain ⟨M3, e3, pc3, f3⟩ := cClr kc2.1 kc2.2.2.2.1
  obtain ⟨M4, e4, pc4⟩ := cLay hk k1.1 (t := t) (by omega) (z := z) pc3 (fun k hk2 => by rw [AOc_75 f3]; exact v2 k hk2)
  have f4 : Fr AO M1 M4 := (f2.trans (f3.mono AOc_AO)).trans (pc4.2.2.2.mono AOc_AO)
  have h4 := pc4.1
  have c4 := c1.o a1 f4
  obtain ⟨M5, Lm, e5, g5, v5⟩ := mHeaps h4 c4 t1 t2 k1.1
  have f6 : Fr AOm M5 (wI M5 70 41 (iz 0)) := Fr.wI (Or.inr ⟨rfl, rfl⟩)
  have pm6 : PM (wI M5 70 41 (iz 0)) (wI M5 70 41 (iz 0)) S [] := ⟨g5.1.1.wI, g5.1.2.1.fr f6 (fun b j q => by unfold AOm at q; omega), ⟨by rw [rI_at rfl rfl]; rfl, fun i x q => by cases q⟩, Fr.refl _⟩
  obtain ⟨M7, e7, pm7⟩ := mLayG hk (t := t) (L := L) (by omega) g.1 (by omega) pm6 (fun k hk2 => by rw [AOm_93 f6]; exact v5 k hk2)
  have f7 : Fr AO M4 M7 := ((g5.1.2.2.2.2.mono ASc_AO).trans (f6.mono AOm_AO)).trans (pm7.2.2.2.mono AOm_AO)
  refine ⟨iz ((picL (lyS S t z L) (sW S 0).toNat (sW S 1).toNat 0).length : Int), M4, M7, ?_, h4, c4, ?_, two_told i1 f4 pc4.2.2.1 f7 (fun b j q => ?_) pm7.2.2.1 (picL_b _ (by omega) (by omega))⟩
  · show fR M1 0 12 7 _ = _
    rw [fR_eq (kd_0 h1) (rr_0_7 h1), fR_eq (kd_0 h1) (rr_0_10 h1), cv_eq (kd_45 h1), e2, bV_eq, fR_eq (kd_0 kc2.1) (rr_0_5 kc2.1), cv_eq (kd_16 kc2.1), e3, bV_eq]
    exact e4
  · show bV (F_Md_laysHeaps 70 (iz t) M4) _ = _
    rw [e5, bV_eq, sI_eq (kd_70 g5.1.1)]
    exact e7
  · rw [pm7.2.2.2.ri (fun z => by unfold AOm at z; omega), f6.ri (fun z => by unfold AOm at z; omega), g5.1.2.2.2.2.ri (fun z => by unfold ASc at z; omega)]
/-! picture -/
theorem kth_congr {p q : Int → Prop} : ∀ (K : List Int) (k : Int), (∀ c ∈ K, (p c ↔ q c)) → kth p k K = kth q k K
  | [], k, h => rfl
  | c :: K, k, h => by
    have h1 := h c (List.mem_cons_self ..)
    have ih := fun k => kth_congr K k (fun d hd => h d (List.mem_cons_of_mem _ hd))
    by_cases z : p c
    · by_cases e : k = 0
      · rw [e, kth_0 z, kth_0 (h1.mp z)]
      · rw [kth_s z e, kth_s (h1.mp z) e, ih]
    · rw [kth_f z, kth_f (fun y => z (h1.mpr y)), ih]
noncomputable def tpS (S : Sc) (t : Int) (O : List Int) (x y : Int) : Int := if kth (icp S t x y) 0 O.reverse = -1 then 46 else 48 + dr S (kth (icp S t x y) 0 O.reverse) 5 8
/-- the marks of a row's tops -/
def MK (M : am_M) (S : Sc) (t : Int) (L x : List Int) : Prop := ∀ k : Nat, k < 1600 → (rI M 69 k = iz 0 ∧ kth (fun c => clm S t c = k) 0 x.reverse = -1) ∨ ∃ (j : Nat) (c : Int), rI M 69 k = iz ((j : Int) + 1) ∧ L[j]? = some c ∧ kth (fun c => clm S t c = k) 0 x.reverse = c
theorem cMark (hk : scOK S) (hC : KC M0 M S t L O) : ∃ M', F_Fram_markTops 45 69 M = some (none, M') ∧ KC M0 M' S t L O ∧ MK M' S t L O := by
  have fg := fu_ge
  have ll := fr_len hk hC.2.2.1
  have ol := FO_len hC.2.2.1.1 hC.2.2.1.2.1
  have h := hC.1
  obtain ⟨Mz, ez, fz, zz⟩ := cFill (v := iz 0) (kd_69 h) (ln_69 h) (by decide)
  obtain ⟨M', e, r⟩ := fLoop (fun n (_ : List Int) i M => F_Fram_markTops_L7 n 45 69 i M) (fun _ M => some (none, M)) (fun x M => KC M0 M S t L O ∧ MK M S t L x) (fun x c => x ++ [c]) O (fun n x M hR => by
    show F_Fram_markTops_L7 (n + 1) 45 69 (iz (O.length : Int)) M = _
    rw [F_Fram_markTops_L7, fr_l hR.1.1 hR.1.2.2.1, ifE (by omega) (by omega) (by omega) (by omega), if_pos (by omega)]) (fun n x i c M hR hi => by
    obtain ⟨⟨h1, h2, h3, h4, h5⟩, hv⟩ := id hR
    have il := (List.getElem?_eq_some_iff.mp hi).1
    obtain ⟨j, j1, j2⟩ := fr_o h1 h2 h3 hi
    have fi := (fr_in h3 j1).1
    have jl := (fr_in h3 j1).2
    have cb := clm_bd hk fi
    obtain ⟨z, hz⟩ : ∃ z : Nat, clm S t c = (z : Int) := ⟨(clm S t c).toNat, by omega⟩
    refine ⟨wI M 69 z (iz ((j : Int) + 1)), ?_, hR.1.w, fun k hk2 => ?_⟩
    · show F_Fram_markTops_L7 (n + 1) 45 69 (iz (i : Int)) M = F_Fram_markTops_L7 n 45 69 (iz ((i + 1 : Nat) : Int)) _
      rw [F_Fram_markTops_L7, fr_l h1 h3, ifE (by omega) (by omega) (by omega) (by omega), if_neg (by omega), cv_eq (kd_45 h1), j2, bI_eq, cv_eq (kd_45 h1), cClm h1 h2 hk h3 j1, bI_eq, hz, show (0 : Int32) = iz 0 from rfl, ifL (by omega) (by omega) (by omega) (by omega), if_neg (by omega), aN_eq (by rw [kd_69 h1]; decide) (ln_69 h1), ifE (by omega) (by omega) (by omega) (by omega), if_neg (by omega), cv_eq (kd_45 h1), j2, bI_eq, show (1 : Int32) = iz 1 from rfl, iz_add, tI_eq (kd_69 h1) (ln_69 h1) (by omega) (by omega) (by omega), show ((z : Int)).toNat = z by omega, iz_add, nm_eq, show ((i : Int) + 1) = ((i + 1 : Nat) : Int) by omega]
    · rw [List.reverse_append]
      show (_ ∧ kth (fun c => clm S t c = k) 0 (c :: x.reverse) = -1) ∨ _
      by_cases e : k = z
      · subst e
        exact Or.inr ⟨j, c, by rw [rI_at rfl rfl], j1, by show kth (fun c => clm S t c = k) 0 (c :: x.reverse) = c; rw [kth_0 (p := fun c => clm S t c = (k : Int)) hz]⟩
      · have nf : ¬ clm S t c = (k : Int) := by rw [hz]; omega
        rw [rI_ne (by omega), kth_f (p := fun c => clm S t c = (k : Int)) nf]
        rcases hv k hk2 with y | ⟨j', c', y1, y2, y3⟩
        · exact Or.inl y
        · exact Or.inr ⟨j', c', y1, y2, by show kth (fun c => clm S t c = k) 0 (c :: x.reverse) = c'; rw [kth_f (p := fun c => clm S t c = (k : Int)) nf]; exact y3⟩) O.length fu 0 [] Mz (by omega) (by omega) ⟨hC.f fz, fun k hk2 => Or.inl ⟨zz k (by omega), rfl⟩⟩
  rw [List.drop_zero, foldl_app1, List.nil_append] at r
  refine ⟨M', ?_, r.1, r.2⟩
  unfold F_Fram_markTops
  rw [show (0 : Int32) = iz 0 from rfl, ez, bV_eq]
  exact e
theorem FrK.oc {M' : am_M} (h : FrK M S t L O) (ha : FrA M) (hf : Fr AOc M M') : FrK M' S t L O := by
  obtain ⟨l1, l2, ⟨l3, l4, l5⟩, l6⟩ := h
  obtain ⟨cap, b1, -⟩ := ha.at
  have e45 : ∀ j, rI M' 45 j = rI M 45 j := fun j => hf.ri (fun q => by unfold AOc at q; omega)
  have eA : ∀ k i, k < 2 → rI M' (fb M + k) i = rI M (fb M + k) i := fun k i hk => hf.ri (fun q => by unfold AOc at q; omega)
  refine ⟨l1, l2, ⟨by rw [e45]; exact l3, by rw [fb_fr hf, hf.ln]; exact l4, fun i c q => ?_⟩, fun i c q => ?_⟩
  · exact (l5 i c q).mv (fb_fr hf) (fun k _ => eA 0 _ (by omega))
  · obtain ⟨j, j1, j2⟩ := l6 i c q
    exact ⟨j, j1, by rw [fb_fr hf]; exact (eA 1 i (by omega)).trans j2⟩
theorem tp_eq (hk : scOK S) (hO : FO S t O) {x y : Int} (x1 : 0 ≤ x) (x2 : x < 40) : kth (fun c => clm S t c = y * 40 + x) 0 O.reverse = kth (icp S t x y) 0 O.reverse := by
  refine kth_congr _ _ (fun c hc => ?_)
  have fi := (hO.2 c).mp (List.mem_reverse.mp hc)
  have p0 := pz_b3 hk fi (i := 0) (by omega) (by omega)
  unfold clm icp
  omega
theorem cPic (hk : scOK S) (h : PC M M S []) (ha : FrA M) (hK : FrK M S t L O) (hv : MK M S t L O) : ∃ M', F_NS_picture_L34 fu 0 (iz 0) M = some (some (.int (iz ((picL (tpS S t O) (sW S 0).toNat (sW S 1).toNat 0).length : Int))), M') ∧ PC M M' S (picL (tpS S t O) (sW S 0).toNat (sW S 1).toNat 0) := by
  have w0 := hk.1 0 (by omega) (by omega)
  have w1 := hk.1 1 (by omega) (by omega)
  have ll := fr_len hk hK
  obtain ⟨M', z1, z2⟩ := grid (FY := fun n y M => F_NS_picture_L34 n 0 y M) (FX := fun n m y x M => F_NS_picture_L48 (F_NS_picture_L34 m) n 0 y x M) (K := fun M => fR M 0 12 5 (fun b12 => fI M b12 7 1 (fun x13 => some (some (.int x13), M)))) (R := fun M' Lst => PC M M' S Lst) (ch := tpS S t O) (w := (sW S 0).toNat) (hh := (sW S 1).toNat) (by omega) (by omega) (fun n m y x M1 Lst hR y1 y2 x1 x2 hl => by
    obtain ⟨h1, h2, h3, h4⟩ := id hR
    have ha1 := ha.fr h4
    have hK1 := hK.oc ha h4
    obtain ⟨M2, p1, p2⟩ := PC.put hR hl (tpS S t O x y)
    refine ⟨M2, ?_, p2⟩
    show F_NS_picture_L48 (F_NS_picture_L34 m) (n + 1) 0 (iz (y : Int)) (iz (x : Int)) M1 = F_NS_picture_L48 (F_NS_picture_L34 m) n 0 (iz (y : Int)) (iz ((x : Int) + 1)) M2
    have te := tp_eq hk hK.2.1 (x := (x : Int)) (y := (y : Int)) (by omega) (by omega)
    unfold tpS at p1
    rw [← te] at p1
    have hvk := hv (y * 40 + x) (by omega)
    rw [show ((y * 40 + x : Nat) : Int) = (y : Int) * 40 + (x : Int) by omega] at hvk
    rcases hvk with ⟨y1', y2'⟩ | ⟨j, c, y1', y2', y3'⟩
    · rw [y2', if_pos rfl] at p1
      rw [F_NS_picture_L48, fR_eq (kd_0 h1) (rr_0_2 h1), cv_eq (kd_2 h1), show (0 : Int32) = iz 0 from rfl, cW h1 h2 (by omega) (by omega), bI_eq, ifE (by omega) (by omega) (by omega) (by omega), if_neg (by omega), cv_eq (kd_0 h1), cCnt h1 (by omega) (by omega) (by omega) (by omega), bI_eq, show ((y : Int) * 40 + (x : Int)).toNat = y * 40 + x by omega, AOc_75 h4, y1', fR_eq (kd_0 h1) (rr_0_5 h1), ifE (by omega) (by omega) (by omega) (by omega), if_pos (by omega), cv_eq (kd_16 h1), show (46 : Int32) = iz 46 from rfl, p1, bV_eq, nm_eq, show (1 : Int32) = iz 1 from rfl, iz_add]
    · have fi := (fr_in hK y2').1
      have jl := (fr_in hK y2').2
      have c0 := fi.1.1
      rw [y3', if_neg (by omega)] at p1
      rw [F_NS_picture_L48, fR_eq (kd_0 h1) (rr_0_2 h1), cv_eq (kd_2 h1), show (0 : Int32) = iz 0 from rfl, cW h1 h2 (by omega) (by omega), bI_eq, ifE (by omega) (by omega) (by omega) (by omega), if_neg (by omega), cv_eq (kd_0 h1), cCnt h1 (by omega) (by omega) (by omega) (by omega), bI_eq, show ((y : Int) * 40 + (x : Int)).toNat = y * 40 + x by omega, AOc_75 h4, y1', fR_eq (kd_0 h1) (rr_0_5 h1), ifE (by omega) (by omega) (by omega) (by omega), if_neg (by omega), fR_eq (kd_0 h1) (rr_0_2 h1), fR_eq (kd_0 h1) (rr_0_7 h1), cv_eq (kd_45 h1), show (1 : Int32) = iz 1 from rfl, iz_sub, show (j : Int) + 1 - 1 = (j : Int) by omega, fr_cd h1 ha1 hK1 y2', bI_eq, cv_eq (kd_2 h1), cCol h1 h2 c, bI_eq, cv_eq (kd_16 h1), show (48 : Int32) = iz 48 from rfl, iz_add, p1, bV_eq, nm_eq, iz_add]) (fun n m y M1 Lst hR y1 y2 hl => by
    obtain ⟨h1, h2, h3, h4⟩ := id hR
    obtain ⟨M2, p1, p2⟩ := PC.put hR hl 10
    refine ⟨M2, ?_, p2⟩
    show F_NS_picture_L48 (F_NS_picture_L34 m) (n + 1) 0 (iz (y : Int)) (iz ((sW S 0).toNat : Int)) M1 = F_NS_picture_L34 m 0 (iz ((y : Int) + 1)) M2
    rw [F_NS_picture_L48, fR_eq (kd_0 h1) (rr_0_2 h1), cv_eq (kd_2 h1), show (0 : Int32) = iz 0 from rfl, cW h1 h2 (by omega) (by omega), bI_eq, ifE (by omega) (by omega) (by omega) (by omega), if_pos (by omega), fR_eq (kd_0 h1) (rr_0_5 h1), cv_eq (kd_16 h1), show (10 : Int32) = iz 10 from rfl, p1, bV_eq, nm_eq, show (1 : Int32) = iz 1 from rfl, iz_add]) (fun m y M1 Lst hR y1 y2 => by
    obtain ⟨h1, h2, h3, h4⟩ := id hR
    show F_NS_picture_L34 (m + 1) 0 (iz (y : Int)) M1 = F_NS_picture_L48 (F_NS_picture_L34 m) fu 0 (iz (y : Int)) (iz 0) M1
    rw [F_NS_picture_L34, fR_eq (kd_0 h1) (rr_0_2 h1), cv_eq (kd_2 h1), show (1 : Int32) = iz 1 from rfl, cW h1 h2 (by omega) (by omega), bI_eq, ifE (by omega) (by omega) (by omega) (by omega), if_neg (by omega)]
    rfl) (fun m M1 Lst hR => by
    obtain ⟨h1, h2, h3, h4⟩ := id hR
    show F_NS_picture_L34 (m + 1) 0 (iz ((sW S 1).toNat : Int)) M1 = _
    rw [F_NS_picture_L34, fR_eq (kd_0 h1) (rr_0_2 h1), cv_eq (kd_2 h1), show (1 : Int32) = iz 1 from rfl, cW h1 h2 (by omega) (by omega), bI_eq, ifE (by omega) (by omega) (by omega) (by omega), if_pos (by omega)]) h
  refine ⟨M', ?_, z2⟩
  have z1' : F_NS_picture_L34 fu 0 (iz 0) M = fR M' 0 12 5 (fun b12 => fI M' b12 7 1 (fun x13 => some (some (.int x13), M'))) := z1
  rw [z1', fR_eq (kd_0 z2.1) (rr_0_5 z2.1), fI_eq (kd_16 z2.1), z2.2.2.1.1]
/-- the reference, with its frame, telling -/
def PG (M0 M : am_M) (S : Sc) (t : Int) (O : List Int) (Lst : List Int) : Prop := MG M M S t O ∧ CF M S t O O.length ∧ PM M0 M S Lst
theorem PG.say (h : PG M0 M S t O L) (hn : L.length < 1640) {x : Int} (x1 : 0 ≤ x) (x2 : x < 128) : ∃ M', F_Md_says 70 (iz x) M = some (none, M') ∧ PG M0 M' S t O (L ++ [x]) := by
  obtain ⟨⟨a1, a2, a3, a4, a5⟩, hC, h1, h2, h3, h4⟩ := h
  obtain ⟨M', e, f, c⟩ := mSay h1 h3 (by omega) x1 x2
  obtain ⟨q1, q2, q3, q4⟩ := a4
  have m' := h2.fr f (fun b j q => by unfold AOm at q; omega)
  refine ⟨M', e, ⟨h1.fr f, m', by rw [f.ri (fun q => by unfold AOm at q; omega)]; exact a3, ⟨by rw [f.ri (fun q => by unfold AOm at q; omega)]; exact q1, q2, q3, fun i c z => by rw [f.rl (fun q => by unfold AOm at q; omega)]; exact q4 i c z⟩, Fr.refl _⟩, fun i c z1 z2 => by rw [f.ri (fun q => by unfold AOm at q; omega), f.ri (fun q => by unfold AOm at q; omega)]; exact hC i c z1 z2, h1.fr f, m', c, h4.trans f⟩
theorem mPic (hk : scOK S) (h : PG M M S t O []) : ∃ M', F_Md_picture_L28 fu 70 (iz 0) M = some (some (.int (iz ((picL (tpS S t O) (sW S 0).toNat (sW S 1).toNat 0).length : Int))), M') ∧ PG M M' S t O (picL (tpS S t O) (sW S 0).toNat (sW S 1).toNat 0) := by
  have w0 := hk.1 0 (by omega) (by omega)
  have w1 := hk.1 1 (by omega) (by omega)
  obtain ⟨M', y1, y2⟩ := grid (FY := fun n y M => F_Md_picture_L28 n 70 y M) (FX := fun n m y x M => F_Md_picture_L40 (F_Md_picture_L28 m) n 70 y x M) (K := fun M => fI M 70 13 41 (fun x8 => some (some (.int x8), M))) (R := fun M' Lst => PG M M' S t O Lst) (ch := tpS S t O) (w := (sW S 0).toNat) (hh := (sW S 1).toNat) (by omega) (by omega) (fun n m y x M1 Lst hR y1 y2 x1 x2 hl => by
    obtain ⟨g1, hC, h1, h2, h3, h4⟩ := id hR
    have sb : 0 ≤ tpS S t O x y ∧ tpS S t O x y < 128 := by
      have db := dr_bd S (kth (icp S t x y) 0 O.reverse) 5 (n := 8) (by omega)
      unfold tpS
      split <;> omega
    obtain ⟨M2, p1, p2⟩ := PG.say hR hl sb.1 sb.2
    refine ⟨M2, ?_, p2⟩
    show F_Md_picture_L40 (F_Md_picture_L28 m) (n + 1) 70 (iz (y : Int)) (iz (x : Int)) M1 = F_Md_picture_L40 (F_Md_picture_L28 m) n 70 (iz (y : Int)) (iz ((x : Int) + 1)) M2
    unfold tpS at p1
    rw [F_Md_picture_L40, fR_eq (kd_70 h1) (rr_70_2 h1), show (0 : Int32) = iz 0 from rfl, mWi h1 h2 (by omega) (by omega), ifE (by omega) (by omega) (by omega) (by omega), if_neg (by omega), cv_eq (kd_70 h1)]
    rcases mTopOf hk g1 hC (x := (x : Int)) (y := (y : Int)) (by omega) (by omega) (by omega) (by omega) with ⟨z1, z2⟩ | ⟨j, c, z1, z2, z3⟩
    · rw [z2, if_pos rfl] at p1
      rw [z1, bI_eq, if_pos (by decide), cv_eq (kd_70 h1), show (46 : Int32) = iz 46 from rfl, p1, bV_eq, nm_eq, show (1 : Int32) = iz 1 from rfl, iz_add]
    · have fi := (md_in g1.2.2.2.1 z2).1
      have jl := (md_in g1.2.2.2.1 z2).2
      have ll := md_len hk g1.2.2.2.1
      have c0 := fi.1.1
      rw [z3, if_neg (by omega)] at p1
      rw [z1, bI_eq, show (-1 : Int32) = iz (-1) from rfl, ifQ (by omega) (by omega) (by omega) (by omega), if_neg (by omega), cv_eq (kd_70 h1), mCode h1 hk g1.2.2.2.1 z2, bI_eq, cv_eq (kd_70 h1), show (5 : Int32) = iz 5 from rfl, show (8 : Int32) = iz 8 from rfl, mDraw h1 h2 c 5 (by omega) (by omega), bI_eq, cv_eq (kd_70 h1), show (48 : Int32) = iz 48 from rfl, iz_add, p1, bV_eq, nm_eq, show (1 : Int32) = iz 1 from rfl, iz_add]) (fun n m y M1 Lst hR y1 y2 hl => by
    obtain ⟨g1, hC, h1, h2, h3, h4⟩ := id hR
    obtain ⟨M2, p1, p2⟩ := PG.say hR hl (x := 10) (by omega) (by omega)
    refine ⟨M2, ?_, p2⟩
    show F_Md_picture_L40 (F_Md_picture_L28 m) (n + 1) 70 (iz (y : Int)) (iz ((sW S 0).toNat : Int)) M1 = F_Md_picture_L28 m 70 (iz ((y : Int) + 1)) M2
    rw [F_Md_picture_L40, fR_eq (kd_70 h1) (rr_70_2 h1), show (0 : Int32) = iz 0 from rfl, mWi h1 h2 (by omega) (by omega), ifE (by omega) (by omega) (by omega) (by omega), if_pos (by omega), cv_eq (kd_70 h1), show (10 : Int32) = iz 10 from rfl, p1, bV_eq, nm_eq, show (1 : Int32) = iz 1 from rfl, iz_add]) (fun m y M1 Lst hR y1 y2 => by
    obtain ⟨g1, hC, h1, h2, h3, h4⟩ := id hR
    show F_Md_picture_L28 (m + 1) 70 (iz (y : Int)) M1 = F_Md_picture_L40 (F_Md_picture_L28 m) fu 70 (iz (y : Int)) (iz 0) M1
    rw [F_Md_picture_L28, fR_eq (kd_70 h1) (rr_70_2 h1), show (1 : Int32) = iz 1 from rfl, mWi h1 h2 (by omega) (by omega), ifE (by omega) (by omega) (by omega) (by omega), if_neg (by omega)]
    rfl) (fun m M1 Lst hR => by
    obtain ⟨g1, hC, h1, h2, h3, h4⟩ := id hR
    show F_Md_picture_L28 (m + 1) 70 (iz ((sW S 1).toNat : Int)) M1 = _
    rw [F_Md_picture_L28, fR_eq (kd_70 h1) (rr_70_2 h1), show (1 : Int32) = iz 1 from rfl, mWi h1 h2 (by omega) (by omega), ifE (by omega) (by omega) (by omega) (by omega), if_pos (by omega)]) h
  refine ⟨M', ?_, y2⟩
  have y1' : F_Md_picture_L28 fu 70 (iz 0) M = fI M' 70 13 41 (fun x8 => some (some (.int x8), M')) := y1
  rw [y1', fI_eq (kd_70 y2.1.1), y2.2.2.2.2.1.1]
theorem ap_picture (hI : Inv M) (p1 : Int32) : Ag (F_NS_picture 0 p1) (F_Md_picture 70 p1) M := by
  obtain ⟨h, -⟩ := id hI
  obtain ⟨S, st, s01, s1, s2, hc, hm, hb, hs, h0⟩ := hI.sc
  refine ap_frm (mk := Value.int) (v0 := -2) (p := p1) (B := fun M2 => fR M2 0 12 7 (fun b4 => fR M2 0 12 10 (fun b5 => cv M2 b4 5 (bV (F_Fram_markTops b4 b5 M2) (fun M6 => fR M6 0 12 5 (fun b7 => cv M6 b7 7 (bV (F_Outp_clear b7 M6) (fun M8 => F_NS_picture_L34 fu 0 0 M8)))))))) (D := fun M' => bV (F_Md_laysFrame 70 p1 M') (fun M3 => cv M3 70 13 (bV (F_Md_laysColumns 70 p1 M3) (fun M4 => sI M4 70 13 41 0 (fun M5 => F_Md_picture_L28 fu 70 0 M5))))) hI s01 s1 s2 hs ?_ (fun M' h' e => ?_) (fun M' h' c' e => ?_) (fun t M1 L O pt t1 t2 i1 c1 k1 => ?_)
  · unfold F_NS_picture
    rw [fR_eq (kd_0 h) (rr_0_7 h), cv_eq (kd_45 h)]
  · unfold F_Md_picture; rw [cv_eq (kd_70 h'), e, bI_eq, if_pos (by decide)]
  · unfold F_Md_picture; rw [cv_eq (kd_70 h'), e, bI_eq, if_neg (by decide), cv_eq (kd_70 h')]
  have hk := c1.1
  have h1 := i1.1
  have a1 := i1.2.1
  have w0 := hk.1 0 (by omega) (by omega)
  have w1 := hk.1 1 (by omega) (by omega)
  subst pt
  obtain ⟨M2, e2, kc2, v2⟩ := cMark hk (KC.of i1 c1 k1)
  have f2 : Fr AO M1 M2 := (kc2.2.2.2.2.mono A75x).mono ASc_AO
  obtain ⟨M3, e3, pc3, f3⟩ := cClr kc2.1 kc2.2.2.2.1
  obtain ⟨M4, e4, pc4⟩ := cPic hk pc3 (kc2.2.1.fr f3) (kc2.2.2.1.oc kc2.2.1 f3) (fun k hk2 => by
    rw [AOc_75 f3]; exact v2 k hk2)
  have f4 : Fr AO M1 M4 := (f2.trans (f3.mono AOc_AO)).trans (pc4.2.2.2.mono AOc_AO)
  have h4 := pc4.1
  have c4 := c1.o a1 f4
  obtain ⟨M5, e5, g5⟩ := mFrame h4 c4 t1 t2 k1.2.1
  obtain ⟨M6, e6, g6, cf6⟩ := mCols hk g5
  have f7 : Fr AOm M6 (wI M6 70 41 (iz 0)) := Fr.wI (Or.inr ⟨rfl, rfl⟩)
  have pg7 : PG (wI M6 70 41 (iz 0)) (wI M6 70 41 (iz 0)) S t O [] := by
    obtain ⟨z1, z2, z3, ⟨q1, q2, q3, q4⟩, z5⟩ := g6
    have m' := z2.fr f7 (fun b j q => by unfold AOm at q; omega)
    exact ⟨⟨z1.wI, m', by rw [rI_ne (by omega)]; exact z3, ⟨by rw [rI_ne (by omega)]; exact q1, q2, q3, q4⟩, Fr.refl _⟩, fun i c y1 y2 => by rw [rI_ne (by omega), rI_ne (by omega)]; exact cf6 i c y1 y2, z1.wI, m', ⟨by rw [rI_at rfl rfl]; rfl, fun i x q => by cases q⟩, Fr.refl _⟩
  obtain ⟨M8, e8, pg8⟩ := mPic hk pg7
  have f8 : Fr AO M4 M8 := ((g6.2.2.2.2.mono ASc_AO).trans (f7.mono AOm_AO)).trans (pg8.2.2.2.2.2.mono AOm_AO)
  refine ⟨iz ((picL (tpS S t O) (sW S 0).toNat (sW S 1).toNat 0).length : Int), M4, M8, ?_, h4, c4, ?_, two_told i1 f4 pc4.2.2.1 f8 (fun b j q => ?_) pg8.2.2.2.2.1 (picL_b _ (by omega) (by omega))⟩
  · show fR M1 0 12 7 _ = _
    rw [fR_eq (kd_0 h1) (rr_0_7 h1), fR_eq (kd_0 h1) (rr_0_10 h1), cv_eq (kd_45 h1), e2, bV_eq, fR_eq (kd_0 kc2.1) (rr_0_5 kc2.1), cv_eq (kd_16 kc2.1), e3, bV_eq]
    exact e4
  · show bV (F_Md_laysFrame 70 (iz t) M4) _ = _
    rw [e5, bV_eq, cv_eq (kd_70 g5.1), e6, bV_eq, sI_eq (kd_70 g6.1)]
    exact e8
  · rw [pg8.2.2.2.2.2.ri (fun z => by unfold AOm at z; omega), f7.ri (fun z => by unfold AOm at z; omega), g6.2.2.2.2.ri (fun z => by unfold ASc at z; omega)]
end FrPic2
