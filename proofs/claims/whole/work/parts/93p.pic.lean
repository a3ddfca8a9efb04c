/-! ===== pictures: rows of signs ===== -/
section FrPic
variable {M M0 : am_M} {S : Sc} {t : Int} {L O : List Int}
def rowL (ch : Int → Int → Int) (y : Int) : Nat → Int → List Int
  | 0, _ => []
  | r + 1, x => ch x y :: rowL ch y r (x + 1)
def picL (ch : Int → Int → Int) (w : Nat) : Nat → Int → List Int
  | 0, _ => []
  | r + 1, y => (rowL ch y w 0 ++ [10]) ++ picL ch w r (y + 1)
theorem rowL_len (ch : Int → Int → Int) (y : Int) : ∀ (r : Nat) (x : Int), (rowL ch y r x).length = r
  | 0, x => rfl
  | r + 1, x => by rw [rowL, List.length_cons, rowL_len ch y r]
theorem picL_len (ch : Int → Int → Int) (w : Nat) : ∀ (r : Nat) (y : Int), (picL ch w r y).length = r * (w + 1)
  | 0, y => by rw [picL, Nat.zero_mul]; rfl
  | r + 1, y => by rw [picL, List.length_append, List.length_append, rowL_len, picL_len ch w r, Nat.add_mul]; show w + 1 + r * (w + 1) = _; omega
variable {FY : Nat → Int32 → am_M → am_R} {FX : Nat → Nat → Int32 → Int32 → am_M → am_R} {K : am_M → am_R} {R : am_M → List Int → Prop} {ch : Int → Int → Int} {w hh : Nat}
theorem gridX (hw : w ≤ 40) (hh4 : hh ≤ 40) (hs : ∀ n m y x M Lst, R M Lst → 0 ≤ y → y < hh → 0 ≤ x → x < w → Lst.length < 1640 → ∃ M', FX (n + 1) m (iz y) (iz x) M = FX n m (iz y) (iz (x + 1)) M' ∧ R M' (Lst ++ [ch x y])) (he : ∀ n m y M Lst, R M Lst → 0 ≤ y → y < hh → Lst.length < 1640 → ∃ M', FX (n + 1) m (iz y) (iz (w : Int)) M = FY m (iz (y + 1)) M' ∧ R M' (Lst ++ [10])) (m : Nat) {y : Nat} (y2 : y < hh) : ∀ (r n : Nat) (x : Nat) (M : am_M) (Lst : List Int), R M Lst → x + r = w → Lst.length = y * (w + 1) + x → r < n → ∃ M', FX n m (iz (y : Int)) (iz (x : Int)) M = FY m (iz ((y : Int) + 1)) M' ∧ R M' (Lst ++ (rowL ch y r x ++ [10]))
  | r, 0, x, M, Lst, hR, q1, q2, q3 => by omega
  | 0, n + 1, x, M, Lst, hR, q1, q2, q3 => by
    have e : x = w := by omega
    subst e
    have b : y * (x + 1) ≤ 39 * 41 := Nat.mul_le_mul (by omega) (by omega)
    exact he n m y M Lst hR (by omega) (by omega) (by omega)
  | r + 1, n + 1, x, M, Lst, hR, q1, q2, q3 => by
    have b : y * (w + 1) ≤ 39 * 41 := Nat.mul_le_mul (by omega) (by omega)
    obtain ⟨M1, e1, r1⟩ := hs n m y x M Lst hR (by omega) (by omega) (by omega) (by omega) (by omega)
    obtain ⟨M2, e2, r2⟩ := gridX hw hh4 hs he m y2 r n (x + 1) M1 (Lst ++ [ch x y]) r1 (by omega) (by rw [List.length_append]; show Lst.length + 1 = _; omega) (by omega)
    refine ⟨M2, e1.trans e2, ?_⟩
    rw [rowL, show Lst ++ (ch x y :: rowL ch y r (x + 1) ++ [10]) = Lst ++ [ch x y] ++ (rowL ch y r ((x + 1 : Nat) : Int) ++ [10]) by rw [List.append_assoc]; rfl]
    exact r2
theorem gridY (hw : w ≤ 40) (hh4 : hh ≤ 40) (hs : ∀ n m y x M Lst, R M Lst → 0 ≤ y → y < hh → 0 ≤ x → x < w → Lst.length < 1640 → ∃ M', FX (n + 1) m (iz y) (iz x) M = FX n m (iz y) (iz (x + 1)) M' ∧ R M' (Lst ++ [ch x y])) (he : ∀ n m y M Lst, R M Lst → 0 ≤ y → y < hh → Lst.length < 1640 → ∃ M', FX (n + 1) m (iz y) (iz (w : Int)) M = FY m (iz (y + 1)) M' ∧ R M' (Lst ++ [10])) (ys : ∀ m y M Lst, R M Lst → 0 ≤ y → y < hh → FY (m + 1) (iz y) M = FX fu m (iz y) (iz 0) M) (ye : ∀ m M Lst, R M Lst → FY (m + 1) (iz (hh : Int)) M = K M) : ∀ (r n : Nat) (y : Nat) (M : am_M) (Lst : List Int), R M Lst → y + r = hh → Lst.length = y * (w + 1) → r < n → ∃ M', FY n (iz (y : Int)) M = K M' ∧ R M' (Lst ++ picL ch w r y)
  | r, 0, y, M, Lst, hR, q1, q2, q3 => by omega
  | 0, n + 1, y, M, Lst, hR, q1, q2, q3 => by
    have e : y = hh := by omega
    subst e
    refine ⟨M, ye n M Lst hR, ?_⟩
    rw [picL, List.append_nil]; exact hR
  | r + 1, n + 1, y, M, Lst, hR, q1, q2, q3 => by
    have fg := fu_ge
    obtain ⟨M1, e1, r1⟩ := gridX hw hh4 hs he n (y := y) (by omega) w fu 0 M Lst hR (by omega) (by omega) (by omega)
    obtain ⟨M2, e2, r2⟩ := gridY hw hh4 hs he ys ye r n (y + 1) M1 _ r1 (by omega) (by rw [List.length_append, List.length_append, rowL_len, Nat.add_mul]; show Lst.length + (w + 1) = _; omega) (by omega)
    refine ⟨M2, ?_, ?_⟩
    · rw [ys n y M Lst hR (by omega) (by omega)]
      exact e1.trans e2
    · rw [picL, ← List.append_assoc]
      exact r2
/-- the row of signs, all of it -/
theorem grid (hw : w ≤ 40) (hh4 : hh ≤ 40) (hs : ∀ n m y x M Lst, R M Lst → 0 ≤ y → y < hh → 0 ≤ x → x < w → Lst.length < 1640 → ∃ M', FX (n + 1) m (iz y) (iz x) M = FX n m (iz y) (iz (x + 1)) M' ∧ R M' (Lst ++ [ch x y])) (he : ∀ n m y M Lst, R M Lst → 0 ≤ y → y < hh → Lst.length < 1640 → ∃ M', FX (n + 1) m (iz y) (iz (w : Int)) M = FY m (iz (y + 1)) M' ∧ R M' (Lst ++ [10])) (ys : ∀ m y M Lst, R M Lst → 0 ≤ y → y < hh → FY (m + 1) (iz y) M = FX fu m (iz y) (iz 0) M) (ye : ∀ m M Lst, R M Lst → FY (m + 1) (iz (hh : Int)) M = K M) {M : am_M} (hR : R M []) : ∃ M', FY fu (iz 0) M = K M' ∧ R M' (picL ch w hh 0) := by
  have fg := fu_ge
  exact gridY hw hh4 hs he ys ye hh fu 0 M [] hR (by omega) (by simp) (by omega)
theorem picL_b (ch : Int → Int → Int) {w hh : Nat} (hw : w ≤ 40) (hh4 : hh ≤ 40) : (picL ch w hh 0).length ≤ 1640 := by
  rw [picL_len]
  have : hh * (w + 1) ≤ 40 * 41 := Nat.mul_le_mul hh4 (by omega)
  omega
/-- the component, telling a picture -/
def PC (M0 M : am_M) (S : Sc) (Lst : List Int) : Prop := SH M ∧ CS M S ∧ CO M Lst ∧ Fr AOc M0 M
theorem PC.put (h : PC M0 M S L) (hn : L.length < 1640) (x : Int) : ∃ M', F_Outp_put 16 (iz x) M = some (none, M') ∧ PC M0 M' S (L ++ [x]) := by
  obtain ⟨h1, h2, h3, h4⟩ := h
  obtain ⟨M', e, f, c⟩ := cPut h1 h3 hn x
  exact ⟨M', e, h1.fr f, h2.fr f (fun b j q => by unfold AOc at q; omega), c, h4.trans f⟩
/-- the reference, telling a picture -/
def PM (M0 M : am_M) (S : Sc) (Lst : List Int) : Prop := SH M ∧ MS M S ∧ MO M Lst ∧ Fr AOm M0 M
theorem PM.say (h : PM M0 M S L) (hn : L.length < 1640) {x : Int} (x1 : 0 ≤ x) (x2 : x < 128) : ∃ M', F_Md_says 70 (iz x) M = some (none, M') ∧ PM M0 M' S (L ++ [x]) := by
  obtain ⟨h1, h2, h3, h4⟩ := h
  obtain ⟨M', e, f, c⟩ := mSay h1 h3 (by omega) x1 x2
  exact ⟨M', e, h1.fr f, h2.fr f (fun b j q => by unfold AOm at q; omega), c, h4.trans f⟩
theorem AOc_75 {k : Nat} (hf : Fr AOc M0 M) : rI M 69 k = rI M0 69 k := hf.ri (fun q => by unfold AOc at q; omega)
theorem AOm_93 {k : Nat} (hf : Fr AOm M0 M) : rI M 87 k = rI M0 87 k := hf.ri (fun q => by unfold AOm at q; omega)
/-! layer -/
noncomputable def lyc (S : Sc) (t z : Int) (L : List Int) (x y : Int) : Int := cnt (fun c => hcl S t c = (z * 40 + y) * 40 + x) L
noncomputable def lyS (S : Sc) (t z : Int) (L : List Int) (x y : Int) : Int := if lyc S t z L x y ≤ 0 then 46 else 48 + min 9 (lyc S t z L x y)
theorem cCountL (hk : scOK S) (hC : KC M0 M S t L O) {z0 : Int} (z1 : -2147483648 ≤ z0) (z2 : z0 < 2147483648) : ∃ M', F_Fram_countLayer 45 (iz z0) 69 M = some (none, M') ∧ KC M0 M' S t L O ∧ ∀ k : Nat, k < 2000 → rI M' 69 k = iz (cnt (fun c => l8 S t c = z0 ∧ clm S t c = k) L) := by
  have fg := fu_ge
  have ll := fr_len hk hC.2.2.1
  have h := hC.1
  obtain ⟨Mz, ez, fz, zz⟩ := cFill (v := iz 0) (kd_69 h) (ln_69 h) (by decide)
  obtain ⟨M', e, r⟩ := fLoop (fun n (_ : List Int) i M => F_Fram_countLayer_L7 n 45 (iz z0) 69 i M) (fun _ M => some (none, M)) (fun x M => KC M0 M S t L O ∧ ∀ k : Nat, k < 2000 → rI M 69 k = iz (cnt (fun c => l8 S t c = z0 ∧ clm S t c = k) x)) (fun x c => x ++ [c]) L (fun n x M hR => by
    show F_Fram_countLayer_L7 (n + 1) 45 (iz z0) 69 (iz (L.length : Int)) M = _
    rw [F_Fram_countLayer_L7, fr_l hR.1.1 hR.1.2.2.1, ifE (by omega) (by omega) (by omega) (by omega), if_pos (Int.le_refl _)]) (fun n x i c M hR hi => by
    obtain ⟨⟨h1, h2, h3, h4, h5⟩, hv⟩ := id hR
    have fi := (fr_in h3 hi).1
    have il := (fr_in h3 hi).2
    have p2 := pz_b3 hk fi (i := 2) (by omega) (by omega)
    have cb := clm_bd hk fi
    obtain ⟨z, hz⟩ : ∃ z : Nat, clm S t c = (z : Int) := ⟨(clm S t c).toNat, by omega⟩
    have hd : F_Fram_countLayer_L7 (n + 1) 45 (iz z0) 69 (iz (i : Int)) M = if pz S t c 2 / 8 = z0 then F_Fram_countLayer_L7 n 45 (iz z0) 69 (iz ((i + 1 : Nat) : Int)) (wI M 69 z (iz (cnt (fun c => l8 S t c = z0 ∧ clm S t c = z) x + 1))) else F_Fram_countLayer_L7 n 45 (iz z0) 69 (iz ((i + 1 : Nat) : Int)) M := by
      rw [F_Fram_countLayer_L7, fr_l h1 h3, ifE (by omega) (by omega) (by omega) (by omega), if_neg (by omega), cv_eq (kd_45 h1), cClm h1 h2 hk h3 hi, bI_eq, cv_eq (kd_45 h1), cLyOf h1 h2 hk h3 hi, bI_eq, ifQ (by omega) (by omega) z1 z2, hz, show (0 : Int32) = iz 0 from rfl, ifL (by omega) (by omega) (by omega) (by omega), if_neg (show ¬ (z : Int) < 0 by omega), aN_eq (by rw [kd_69 h1]; decide) (ln_69 h1), ifE (by omega) (by omega) (by omega) (by omega), if_neg (show ¬ ((2000 : Nat) : Int) ≤ (z : Int) by omega), aI_eq (kd_69 h1) (ln_69 h1) (by omega) (by omega) (by omega), show ((z : Int)).toNat = z by omega, hv z (by omega), show (1 : Int32) = iz 1 from rfl, iz_add, tI_eq (kd_69 h1) (ln_69 h1) (by omega) (by omega) (by omega), show ((z : Int)).toNat = z by omega, iz_add, nm_eq, nm_eq, show ((i : Int) + 1) = ((i + 1 : Nat) : Int) by omega]
    by_cases g : pz S t c 2 / 8 = z0
    · refine ⟨wI M 69 z (iz (cnt (fun c => l8 S t c = z0 ∧ clm S t c = z) x + 1)), by show F_Fram_countLayer_L7 (n + 1) 45 (iz z0) 69 (iz (i : Int)) M = _; rw [hd, if_pos g], hR.1.w, fun k hk2 => ?_⟩
      by_cases e : k = z
      · subst e
        rw [rI_at rfl rfl, cnt_1t (p := fun c => l8 S t c = z0 ∧ clm S t c = (k : Int)) (c := c) ⟨g, hz⟩]
      · rw [rI_ne (by omega), hv k hk2, cnt_1f (by rw [hz]; omega)]
    · refine ⟨M, by show F_Fram_countLayer_L7 (n + 1) 45 (iz z0) 69 (iz (i : Int)) M = _; rw [hd, if_neg g], hR.1, fun k hk2 => ?_⟩
      rw [hv k hk2, cnt_1f (fun q => g q.1)]) L.length fu 0 [] Mz (by omega) (by omega) ⟨hC.f fz, fun k hk2 => by rw [zz k hk2]; rfl⟩
  rw [List.drop_zero, foldl_app1, List.nil_append] at r
  refine ⟨M', ?_, r.1, r.2⟩
  unfold F_Fram_countLayer
  rw [show (0 : Int32) = iz 0 from rfl, ez, bV_eq]
  exact e
theorem ly_eq (hk : scOK S) (hL : FL S t L) {x y z : Int} (x1 : 0 ≤ x) (x2 : x < 40) (y1 : 0 ≤ y) (y2 : y < 40) : cnt (fun c => l8 S t c = z ∧ clm S t c = y * 40 + x) L = lyc S t z L x y := by
  unfold lyc
  refine cnt_congr (fun c hc => ?_)
  have fi := (hL.2 c).mp hc
  have cb := clm_bd hk fi
  have e1 : hcl S t c = l8 S t c * 1600 + clm S t c := by unfold hcl l8 clm; omega
  omega
theorem cLay (hk : scOK S) (hL : FL S t L) (ll : L.length ≤ 20000) {z : Int} (h : PC M M S []) (hv : ∀ k : Nat, k < 2000 → rI M 69 k = iz (cnt (fun c => l8 S t c = z ∧ clm S t c = k) L)) : ∃ M', F_NS_layer_L47 fu 0 (iz 0) M = some (some (.int (iz ((picL (lyS S t z L) (sW S 0).toNat (sW S 1).toNat 0).length : Int))), M') ∧ PC M M' S (picL (lyS S t z L) (sW S 0).toNat (sW S 1).toNat 0) := by
  have w0 := hk.1 0 (by omega) (by omega)
  have w1 := hk.1 1 (by omega) (by omega)
  have e0 : ((sW S 0).toNat : Int) = sW S 0 := by omega
  have e1 : ((sW S 1).toNat : Int) = sW S 1 := by omega
  obtain ⟨M', z1, z2⟩ := grid (FY := fun n y M => F_NS_layer_L47 n 0 y M) (FX := fun n m y x M => F_NS_layer_L62 (F_NS_layer_L47 m) n 0 y x M) (K := fun M => fR M 0 12 5 (fun b15 => fI M b15 7 1 (fun x16 => some (some (.int x16), M)))) (R := fun M' Lst => PC M M' S Lst) (ch := lyS S t z L) (w := (sW S 0).toNat) (hh := (sW S 1).toNat) (by omega) (by omega) (fun n m y x M1 Lst hR y1 y2 x1 x2 hl => by
    obtain ⟨h1, h2, h3, h4⟩ := id hR
    have cb := cnt_bd (fun c => hcl S t c = (z * 40 + y) * 40 + x) L
    have cbd : 0 ≤ lyc S t z L x y ∧ lyc S t z L x y ≤ 20000 := by unfold lyc; omega
    have rv : rI M1 69 ((y : Int) * 40 + (x : Int)).toNat = iz (lyc S t z L x y) := by
      rw [AOc_75 h4, hv _ (by omega), show ((((y : Int) * 40 + (x : Int)).toNat : Nat) : Int) = (y : Int) * 40 + (x : Int) by omega, ly_eq hk hL (by omega) (by omega) (by omega) (by omega)]
    obtain ⟨M2, p1, p2⟩ := PC.put hR hl (lyS S t z L x y)
    refine ⟨M2, ?_, p2⟩
    show F_NS_layer_L62 (F_NS_layer_L47 m) (n + 1) 0 (iz y) (iz x) M1 = F_NS_layer_L62 (F_NS_layer_L47 m) n 0 (iz y) (iz (x + 1)) M2
    unfold lyS at p1
    rw [F_NS_layer_L62, fR_eq (kd_0 h1) (rr_0_2 h1), cv_eq (kd_2 h1), show (0 : Int32) = iz 0 from rfl, cW h1 h2 (by omega) (by omega), bI_eq, ifE (by omega) (by omega) (by omega) (by omega), if_neg (by omega), cv_eq (kd_0 h1), cCnt h1 (by omega) (by omega) (by omega) (by omega), bI_eq, rv, fR_eq (kd_0 h1) (rr_0_5 h1), ifE (by omega) (by omega) (by omega) (by omega), cv_eq (kd_16 h1), show (46 : Int32) = iz 46 from rfl, show (9 : Int32) = iz 9 from rfl, min_eq (by omega) (by omega) (by omega) (by omega), bI_eq, cv_eq (kd_16 h1), show (48 : Int32) = iz 48 from rfl, iz_add]
    by_cases g : lyc S t z L x y ≤ 0
    · rw [if_pos g] at p1
      rw [if_pos g, p1, bV_eq, nm_eq, show (1 : Int32) = iz 1 from rfl, iz_add]
    · rw [if_neg g] at p1
      rw [if_neg g, p1, bV_eq, nm_eq, show (1 : Int32) = iz 1 from rfl, iz_add]) (fun n m y M1 Lst hR y1 y2 hl => by
    obtain ⟨h1, h2, h3, h4⟩ := id hR
    obtain ⟨M2, p1, p2⟩ := PC.put hR hl 10
    refine ⟨M2, ?_, p2⟩
    show F_NS_layer_L62 (F_NS_layer_L47 m) (n + 1) 0 (iz y) (iz ((sW S 0).toNat : Int)) M1 = F_NS_layer_L47 m 0 (iz (y + 1)) M2
    rw [F_NS_layer_L62, fR_eq (kd_0 h1) (rr_0_2 h1), cv_eq (kd_2 h1), show (0 : Int32) = iz 0 from rfl, cW h1 h2 (by omega) (by omega), bI_eq, ifE (by omega) (by omega) (by omega) (by omega), if_pos (by omega), fR_eq (kd_0 h1) (rr_0_5 h1), cv_eq (kd_16 h1), show (10 : Int32) = iz 10 from rfl, p1, bV_eq, nm_eq, show (1 : Int32) = iz 1 from rfl, iz_add]) (fun m y M1 Lst hR y1 y2 => by
    obtain ⟨h1, h2, h3, h4⟩ := id hR
    show F_NS_layer_L47 (m + 1) 0 (iz y) M1 = F_NS_layer_L62 (F_NS_layer_L47 m) fu 0 (iz y) (iz 0) M1
    rw [F_NS_layer_L47, fR_eq (kd_0 h1) (rr_0_2 h1), cv_eq (kd_2 h1), show (1 : Int32) = iz 1 from rfl, cW h1 h2 (by omega) (by omega), bI_eq, ifE (by omega) (by omega) (by omega) (by omega), if_neg (by omega)]
    rfl) (fun m M1 Lst hR => by
    obtain ⟨h1, h2, h3, h4⟩ := id hR
    show F_NS_layer_L47 (m + 1) 0 (iz ((sW S 1).toNat : Int)) M1 = _
    rw [F_NS_layer_L47, fR_eq (kd_0 h1) (rr_0_2 h1), cv_eq (kd_2 h1), show (1 : Int32) = iz 1 from rfl, cW h1 h2 (by omega) (by omega), bI_eq, ifE (by omega) (by omega) (by omega) (by omega), if_pos (by omega)]) h
  refine ⟨M', ?_, z2⟩
  have z1' : F_NS_layer_L47 fu 0 (iz 0) M = fR M' 0 12 5 (fun b15 => fI M' b15 7 1 (fun x16 => some (some (.int x16), M'))) := z1
  rw [z1', fR_eq (kd_0 z2.1) (rr_0_5 z2.1), fI_eq (kd_16 z2.1), z2.2.2.1.1]
theorem mLayG (hk : scOK S) (ll : L.length ≤ 20000) {z : Int} (z1 : 0 ≤ z) (z2 : z < 40) (h : PM M M S []) (hv : ∀ k : Nat, k < 64000 → rI M 87 k = iz (cnt (fun c => hcl S t c = k) L)) : ∃ M', F_Md_layer_L41 fu 70 (iz z) (iz 0) M = some (some (.int (iz ((picL (lyS S t z L) (sW S 0).toNat (sW S 1).toNat 0).length : Int))), M') ∧ PM M M' S (picL (lyS S t z L) (sW S 0).toNat (sW S 1).toNat 0) := by
  have w0 := hk.1 0 (by omega) (by omega)
  have w1 := hk.1 1 (by omega) (by omega)
  obtain ⟨M', y1, y2⟩ := grid (FY := fun n y M => F_Md_layer_L41 n 70 (iz z) y M) (FX := fun n m y x M => F_Md_layer_L54 (F_Md_layer_L41 m) n 70 (iz z) y x M) (K := fun M => fI M 70 13 41 (fun x11 => some (some (.int x11), M))) (R := fun M' Lst => PM M M' S Lst) (ch := lyS S t z L) (w := (sW S 0).toNat) (hh := (sW S 1).toNat) (by omega) (by omega) (fun n m y x M1 Lst hR y1 y2 x1 x2 hl => by
    obtain ⟨h1, h2, h3, h4⟩ := id hR
    have cb := cnt_bd (fun c => hcl S t c = (z * 40 + y) * 40 + x) L
    have cbd : 0 ≤ lyc S t z L x y ∧ lyc S t z L x y ≤ 20000 := by unfold lyc; omega
    have rv : rI M1 87 ((z * 40 + y) * 40 + x).toNat = iz (lyc S t z L x y) := by
      rw [AOm_93 h4, hv _ (by omega), show ((((z * 40 + y) * 40 + x).toNat : Nat) : Int) = (z * 40 + y) * 40 + x by omega]; rfl
    have sb : 0 ≤ lyS S t z L x y ∧ lyS S t z L x y < 128 := by unfold lyS; split <;> omega
    obtain ⟨M2, p1, p2⟩ := PM.say hR hl sb.1 sb.2
    refine ⟨M2, ?_, p2⟩
    show F_Md_layer_L54 (F_Md_layer_L41 m) (n + 1) 70 (iz z) (iz y) (iz x) M1 = F_Md_layer_L54 (F_Md_layer_L41 m) n 70 (iz z) (iz y) (iz (x + 1)) M2
    unfold lyS at p1
    rw [F_Md_layer_L54, fR_eq (kd_70 h1) (rr_70_2 h1), show (0 : Int32) = iz 0 from rfl, mWi h1 h2 (by omega) (by omega), ifE (by omega) (by omega) (by omega) (by omega), if_neg (by omega), fR_eq (kd_70 h1) (rr_70_38 h1), show (40 : Int32) = iz 40 from rfl, iz_mul, iz_add, iz_mul, iz_add, aI_eq (kd_87 h1) (ln_87 h1) (by omega) (by omega) (by omega), rv, ifQ (by omega) (by omega) (by omega) (by omega), cv_eq (kd_70 h1), show (46 : Int32) = iz 46 from rfl, show (9 : Int32) = iz 9 from rfl, min_eq (by omega) (by omega) (by omega) (by omega), bI_eq, cv_eq (kd_70 h1), show (48 : Int32) = iz 48 from rfl, iz_add]
    by_cases g : lyc S t z L x y ≤ 0
    · rw [if_pos g] at p1
      rw [if_pos (show lyc S t z L x y = 0 by omega), p1, bV_eq, nm_eq, show (1 : Int32) = iz 1 from rfl, iz_add]
    · rw [if_neg g] at p1
      rw [if_neg (show ¬ lyc S t z L x y = 0 by omega), p1, bV_eq, nm_eq, show (1 : Int32) = iz 1 from rfl, iz_add]) (fun n m y M1 Lst hR y1 y2 hl => by
    obtain ⟨h1, h2, h3, h4⟩ := id hR
    obtain ⟨M2, p1, p2⟩ := PM.say hR hl (x := 10) (by omega) (by omega)
    refine ⟨M2, ?_, p2⟩
    show F_Md_layer_L54 (F_Md_layer_L41 m) (n + 1) 70 (iz z) (iz y) (iz ((sW S 0).toNat : Int)) M1 = F_Md_layer_L41 m 70 (iz z) (iz (y + 1)) M2
    rw [F_Md_layer_L54, fR_eq (kd_70 h1) (rr_70_2 h1), show (0 : Int32) = iz 0 from rfl, mWi h1 h2 (by omega) (by omega), ifE (by omega) (by omega) (by omega) (by omega), if_pos (by omega), cv_eq (kd_70 h1), show (10 : Int32) = iz 10 from rfl, p1, bV_eq, nm_eq, show (1 : Int32) = iz 1 from rfl, iz_add]) (fun m y M1 Lst hR y1 y2 => by
    obtain ⟨h1, h2, h3, h4⟩ := id hR
    show F_Md_layer_L41 (m + 1) 70 (iz z) (iz y) M1 = F_Md_layer_L54 (F_Md_layer_L41 m) fu 70 (iz z) (iz y) (iz 0) M1
    rw [F_Md_layer_L41, fR_eq (kd_70 h1) (rr_70_2 h1), show (1 : Int32) = iz 1 from rfl, mWi h1 h2 (by omega) (by omega), ifE (by omega) (by omega) (by omega) (by omega), if_neg (by omega)]
    rfl) (fun m M1 Lst hR => by
    obtain ⟨h1, h2, h3, h4⟩ := id hR
    show F_Md_layer_L41 (m + 1) 70 (iz z) (iz ((sW S 1).toNat : Int)) M1 = _
    rw [F_Md_layer_L41, fR_eq (kd_70 h1) (rr_70_2 h1), show (1 : Int32) = iz 1 from rfl, mWi h1 h2 (by omega) (by omega), ifE (by omega) (by omega) (by omega) (by omega), if_pos (by omega)]) h
  refine ⟨M', ?_, y2⟩
  have y1' : F_Md_layer_L41 fu 70 (iz z) (iz 0) M = fI M' 70 13 41 (fun x11 => some (some (.int x11), M')) := y1
  rw [y1', fI_eq (kd_70 y2.1), y2.2.2.1.1]
end FrPic
