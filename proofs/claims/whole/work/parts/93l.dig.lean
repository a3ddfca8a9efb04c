/-! ===== digest; counted by columns ===== -/
section FrDig
variable {M M0 M1 : am_M} {S : Sc} {t : Int} {L O : List Int}
noncomputable def dgS (S : Sc) (t : Int) (z : Int64) (c : Int) : Int64 := 31 * (31 * (31 * (31 * z + jz c) + jz (pz S t c 0)) + jz (pz S t c 1)) + jz (pz S t c 2)
theorem mDig3 (hk : scOK S) {c : Int} (hf : inFr S t c) (h : SH M) (hm : MS M S) (l1 : MdL M (lay S c)) (k22 : Nat → Int32 → Int64 → Int32 → am_M → am_R) (z : Int64) (i : Nat) (n : Nat) : F_Md_digest_L58 k22 (n + 4) 70 (iz t) z (iz (i : Int)) (iz 0) M = k22 70 (iz t) (31 * (31 * (31 * z + jz (pz S t c 0)) + jz (pz S t c 1)) + jz (pz S t c 2)) (iz ((i + 1 : Nat) : Int)) M := by
  have p0 := pz_b3 hk hf (i := 0) (by omega) (by omega)
  have p1 := pz_b3 hk hf (i := 1) (by omega) (by omega)
  have p2 := pz_b3 hk hf (i := 2) (by omega) (by omega)
  have st : ∀ (m : Nat) (z : Int64) (a : Int), 0 ≤ a → a < 3 → F_Md_digest_L58 k22 (m + 1) 70 (iz t) z (iz (i : Int)) (iz a) M = F_Md_digest_L58 k22 m 70 (iz t) (31 * z + jz (pz S t c a)) (iz (i : Int)) (iz (a + 1)) M := fun m z a a1 a2 => by
    have pa := pz_b3 hk hf a1 a2
    rw [F_Md_digest_L58, show (3 : Int32) = iz 3 from rfl, ifE (by omega) (by omega) (by omega) (by omega), if_neg (by omega), fI_eq (kd_70 h), l1.2.1, cv_eq (kd_70 h), iz_sub, mdPl h hm hk hf.1 l1 hf.2.1 hf.2.2 a1 a2, bI_eq, jz_i2l (a := pz S t c a) (by omega) (by omega), show (1 : Int32) = iz 1 from rfl, iz_add, nm_eq, nm_eq]
  rw [show n + 4 = (n + 3) + 1 from rfl, st _ _ _ (by omega) (by omega), show n + 3 = (n + 2) + 1 from rfl, st _ _ _ (by omega) (by omega), show n + 2 = (n + 1) + 1 from rfl, st _ _ _ (by omega) (by omega), F_Md_digest_L58, show (3 : Int32) = iz 3 from rfl, ifE (by omega) (by omega) (by omega) (by omega), if_pos (by omega), nm_eq, show (1 : Int32) = iz 1 from rfl, iz_add, show ((i : Int) + 1) = ((i + 1 : Nat) : Int) by omega]
  rfl
theorem cDig3 (h : SH M) (ha : FrA M) (hk : scOK S) (hK : FrK M S t L O) {j : Nat} {c : Int} (hj : L[j]? = some c) (k20 : Nat → Int64 → Int32 → am_M → am_R) (z : Int64) (i : Nat) (n : Nat) : F_NS_digest_L63 k20 (n + 4) 0 z (iz (i : Int)) (iz (j : Int)) (iz 0) M = k20 0 (31 * (31 * (31 * z + jz (pz S t c 0)) + jz (pz S t c 1)) + jz (pz S t c 2)) (iz ((i + 1 : Nat) : Int)) M := by
  have fi := (fr_in hK hj).1
  have st : ∀ (m : Nat) (z : Int64) (a : Int), 0 ≤ a → a < 3 → F_NS_digest_L63 k20 (m + 1) 0 z (iz (i : Int)) (iz (j : Int)) (iz a) M = F_NS_digest_L63 k20 m 0 (31 * z + jz (pz S t c a)) (iz (i : Int)) (iz (j : Int)) (iz (a + 1)) M := fun m z a a1 a2 => by
    have pa := pz_b3 hk fi a1 a2
    rw [F_NS_digest_L63, show (3 : Int32) = iz 3 from rfl, ifE (by omega) (by omega) (by omega) (by omega), if_neg (by omega), fR_eq (kd_0 h) (rr_0_7 h), cv_eq (kd_45 h), cPlOf h ha hk hK hj a1 a2, bI_eq, jz_i2l (a := pz S t c a) (by omega) (by omega), nm_eq, show (1 : Int32) = iz 1 from rfl, iz_add, nm_eq]
  rw [show n + 4 = (n + 3) + 1 from rfl, st _ _ _ (by omega) (by omega), show n + 3 = (n + 2) + 1 from rfl, st _ _ _ (by omega) (by omega), show n + 2 = (n + 1) + 1 from rfl, st _ _ _ (by omega) (by omega), F_NS_digest_L63, show (3 : Int32) = iz 3 from rfl, ifE (by omega) (by omega) (by omega) (by omega), if_pos (by omega), nm_eq, show (1 : Int32) = iz 1 from rfl, iz_add, show ((i : Int) + 1) = ((i + 1 : Nat) : Int) by omega]
  rfl
theorem ap_digest (hI : Inv M) (p1 : Int32) : AgL (F_NS_digest 0 p1) (F_Md_digest 70 p1) M := by
  obtain ⟨h, -⟩ := id hI
  obtain ⟨S, st, s01, s1, s2, hc, hm, hb, hs, h0⟩ := hI.sc
  refine ap_frm (mk := Value.long) (v0 := 0) (p := p1) (B := fun M2 => F_NS_digest_L20 fu 0 17 (iz 0) M2) (D := fun M' => bV (F_Md_laysFrame 70 p1 M') (fun M3 => F_Md_digest_L22 fu 70 p1 17 (iz 0) M3)) hI s01 s1 s2 hs ?_ (fun M' h' e => ?_) (fun M' h' c' e => ?_) (fun t M1 L O pt t1 t2 i1 c1 k1 => ?_)
  · unfold F_NS_digest
    rw [fR_eq (kd_0 h) (rr_0_7 h), cv_eq (kd_45 h)]; rfl
  · unfold F_Md_digest; rw [cv_eq (kd_70 h'), e, bI_eq, if_pos (by decide)]
  · unfold F_Md_digest; rw [cv_eq (kd_70 h'), e, bI_eq, if_neg (by decide), cv_eq (kd_70 h')]; rfl
  have hk := c1.1
  have h1 := i1.1
  have a1 := i1.2.1
  have ll := fr_len hk k1
  have ol := FO_len k1.1 k1.2.1
  have fg := fu_ge
  subst pt
  obtain ⟨M2, e2, g2⟩ := mFrame h1 c1 t1 t2 k1.2.1
  obtain ⟨eC, -⟩ := cFold (M1 := M1) (L := O) (fun n (x : Int64) i M => F_NS_digest_L20 n 0 x i M) (fun x M => some (some (.long x), M)) (fun _ => True) (dgS S t) (fun n x _ => by
    show F_NS_digest_L20 (n + 1) 0 x (iz (O.length : Int)) M1 = _
    rw [F_NS_digest_L20, fR_eq (kd_0 h1) (rr_0_7 h1), fr_l h1 k1, ifE (by omega) (by omega) (by omega) (by omega), if_pos (by omega)]) (fun n x i c _ hi => by
    have il := (List.getElem?_eq_some_iff.mp hi).1
    obtain ⟨j, j1, j2⟩ := fr_o h1 a1 k1 hi
    have fi := (fr_in k1 j1).1
    have cb := sp_rt hk fi.1
    have c0 := fi.1.1
    have p0 := pz_b3 hk fi (i := 0) (by omega) (by omega)
    have p1 := pz_b3 hk fi (i := 1) (by omega) (by omega)
    have p2 := pz_b3 hk fi (i := 2) (by omega) (by omega)
    refine ⟨?_, trivial⟩
    show F_NS_digest_L20 (n + 1) 0 x (iz (i : Int)) M1 = F_NS_digest_L20 n 0 (dgS S t x c) (iz ((i + 1 : Nat) : Int)) M1
    obtain ⟨m, hm'⟩ : ∃ m, fu = m + 4 := ⟨fu - 4, by omega⟩
    have d3 := cDig3 h1 a1 hk k1 j1 (F_NS_digest_L20 n) (31 * x + jz c) i m
    rw [F_NS_digest_L20, fR_eq (kd_0 h1) (rr_0_7 h1), fr_l h1 k1, ifE (by omega) (by omega) (by omega) (by omega), if_neg (by omega), fR_eq (kd_0 h1) (rr_0_7 h1), cv_eq (kd_45 h1), j2, bI_eq, fR_eq (kd_0 h1) (rr_0_7 h1), cv_eq (kd_45 h1), fr_cd h1 a1 k1 j1, bI_eq, nm_eq, jz_i2l (a := c) (by omega) (by omega), show (0 : Int32) = iz 0 from rfl, show F_NS_digest_L63 (F_NS_digest_L20 n) fu 0 (31 * x + jz c) (iz (i : Int)) (iz (j : Int)) (iz 0) M1 = F_NS_digest_L63 (F_NS_digest_L20 n) (m + 4) 0 (31 * x + jz c) (iz (i : Int)) (iz (j : Int)) (iz 0) M1 from by rw [hm'], d3]
    rfl) (by omega) 17 trivial
  obtain ⟨M3, e3, -, g3⟩ := mFold (M0 := M1) (S := S) (t := t) (L := O) (fun n (x : Int64) i M => F_Md_digest_L22 n 70 (iz t) x i M) (fun x M => some (some (.long x), M)) (fun _ => True) (dgS S t) (fun n x M _ hG => by
    show F_Md_digest_L22 (n + 1) 70 (iz t) x (iz (O.length : Int)) M = _
    rw [F_Md_digest_L22, md_l hG.1 hG.2.2.2.1, ifE (by omega) (by omega) (by omega) (by omega), if_pos (Int.le_refl _)]) (fun n x i c M _ hG hi => by
    have fi := (md_in hG.2.2.2.1 hi).1
    have il := (md_in hG.2.2.2.1 hi).2
    have cb := sp_rt hk fi.1
    have c0 := fi.1.1
    obtain ⟨M', z1, z2, z3, z4⟩ := mLay1 hk hG hi
    refine ⟨M', ?_, trivial, z2⟩
    obtain ⟨m, hm'⟩ : ∃ m, fu = m + 4 := ⟨fu - 4, by omega⟩
    have d3 := mDig3 hk fi z2.1 z2.2.1 z4 (F_Md_digest_L22 n) (31 * x + jz c) i m
    show F_Md_digest_L22 (n + 1) 70 (iz t) x (iz (i : Int)) M = F_Md_digest_L22 n 70 (iz t) (dgS S t x c) (iz ((i + 1 : Nat) : Int)) M'
    rw [F_Md_digest_L22, md_l hG.1 hG.2.2.2.1, ifE (by omega) (by omega) (by omega) (by omega), if_neg (by omega), cv_eq (kd_70 hG.1), mCode hG.1 hk hG.2.2.2.1 hi, bI_eq, cv_eq (kd_70 hG.1), z1, bV_eq, cv_eq (kd_70 z2.1), mCode z2.1 hk z2.2.2.2.1 hi, bI_eq, nm_eq, jz_i2l (a := c) (by omega) (by omega), show (0 : Int32) = iz 0 from rfl, show F_Md_digest_L58 (F_Md_digest_L22 n) fu 70 (iz t) (31 * x + jz c) (iz (i : Int)) (iz 0) M' = F_Md_digest_L58 (F_Md_digest_L22 n) (m + 4) 70 (iz t) (31 * x + jz c) (iz (i : Int)) (iz 0) M' from by rw [hm'], d3]
    rfl) (by omega) 17 trivial g2
  refine ⟨O.foldl (dgS S t) 17, M1, M3, eC, h1, c1, ?_, i1.q g3.2.2.2.2⟩
  show bV (F_Md_laysFrame 70 (iz t) M1) _ = _
  rw [e2, bV_eq]
  exact e3
/-! counted by columns -/
noncomputable def clm (S : Sc) (t c : Int) : Int := pz S t c 1 / 8 * 40 + pz S t c 0 / 8
theorem clm_bd (hk : scOK S) {c : Int} (hf : inFr S t c) : 0 ≤ clm S t c ∧ clm S t c < 1600 := by
  have p0 := pz_b3 hk hf (i := 0) (by omega) (by omega)
  have p1 := pz_b3 hk hf (i := 1) (by omega) (by omega)
  unfold clm
  omega
theorem cClm (h : SH M) (ha : FrA M) (hk : scOK S) (hK : FrK M S t L O) {i : Nat} {c : Int} (hi : L[i]? = some c) : F_Fram_columnOf 45 (iz (i : Int)) M = some (some (.int (iz (clm S t c))), M) := by
  have fi := (fr_in hK hi).1
  have p0 := pz_b3 hk fi (i := 0) (by omega) (by omega)
  have p1 := pz_b3 hk fi (i := 1) (by omega) (by omega)
  unfold F_Fram_columnOf clm
  rw [cv_eq (kd_45 h), show (0 : Int32) = iz 0 from rfl, show (1 : Int32) = iz 1 from rfl, cPlOf h ha hk hK hi (by omega) (by omega), bI_eq, cv_eq (kd_45 h), cPlOf h ha hk hK hi (by omega) (by omega), bI_eq, show (8 : Int32) = iz 8 from rfl, iz_ediv (by omega) (by omega) (by omega) (by omega), iz_ediv (by omega) (by omega) (by omega) (by omega)]
  unfold F_NS_columnAt
  rw [bI_eq, show (40 : Int32) = iz 40 from rfl, iz_mul, iz_add]
theorem cCnt (h : SH M) {x y : Int} (x1 : 0 ≤ x) (x2 : x < 40) (y1 : 0 ≤ y) (y2 : y < 40) : F_NS_countOfColumn 0 (iz x) (iz y) M = some (some (.int (rI M 69 (y * 40 + x).toNat)), M) := by
  unfold F_NS_countOfColumn F_NS_columnAt
  rw [bI_eq, show (40 : Int32) = iz 40 from rfl, iz_mul, iz_add, show (0 : Int32) = iz 0 from rfl, ifL (by omega) (by omega) (by omega) (by omega), if_neg (by omega), fR_eq (kd_0 h) (rr_0_10 h), aN_eq (by rw [kd_69 h]; decide) (ln_69 h), ifE (by omega) (by omega) (by omega) (by omega), if_neg (by omega), fR_eq (kd_0 h) (rr_0_10 h), aI_eq (kd_69 h) (ln_69 h) (by omega) (by omega) (by omega)]
theorem foldl_app1 : ∀ (L K : List Int), L.foldl (fun (x : List Int) (c : Int) => x ++ [c]) K = K ++ L
  | [], K => by rw [List.foldl_nil, List.append_nil]
  | c :: L, K => by rw [List.foldl_cons, foldl_app1 L, List.append_assoc]; rfl
/-- a frame with its counts' row -/
def KC (M0 M : am_M) (S : Sc) (t : Int) (L O : List Int) : Prop := SH M ∧ FrA M ∧ FrK M S t L O ∧ CS M S ∧ Fr (fun x _ => x = 69) M0 M
theorem KC.w {j : Nat} {v : Int32} (h : KC M0 M S t L O) : KC M0 (wI M 69 j v) S t L O := by
  obtain ⟨h1, h2, h3, h4, h5⟩ := h
  have f : Fr (fun x _ => x = 69) M (wI M 69 j v) := Fr.wI rfl
  exact ⟨h1.wI, h2.fr f, h3.q h2 (f.mono A75x), h4.fr f (fun x j q => by omega), h5.trans f⟩
theorem KC.f {M' : am_M} (h : KC M0 M S t L O) (f : Fr (fun x _ => x = 69) M M') : KC M0 M' S t L O := by
  obtain ⟨h1, h2, h3, h4, h5⟩ := h
  exact ⟨h1.fr f, h2.fr f, h3.q h2 (f.mono A75x), h4.fr f (fun x j q => by omega), h5.trans f⟩
theorem cCountC (hk : scOK S) (hC : KC M0 M S t L O) : ∃ M', F_Fram_countColumns 45 69 M = some (none, M') ∧ KC M0 M' S t L O ∧ ∀ k : Nat, k < 2000 → rI M' 69 k = iz (cnt (fun c => clm S t c = k) L) := by
  have fg := fu_ge
  have ll := fr_len hk hC.2.2.1
  have h := hC.1
  obtain ⟨Mz, ez, fz, zz⟩ := cFill (v := iz 0) (kd_69 h) (ln_69 h) (by decide)
  obtain ⟨M', e, r⟩ := fLoop (fun n (_ : List Int) i M => F_Fram_countColumns_L7 n 45 69 i M) (fun _ M => some (none, M)) (fun x M => KC M0 M S t L O ∧ ∀ k : Nat, k < 2000 → rI M 69 k = iz (cnt (fun c => clm S t c = k) x)) (fun x c => x ++ [c]) L (fun n x M hR => by
    show F_Fram_countColumns_L7 (n + 1) 45 69 (iz (L.length : Int)) M = _
    rw [F_Fram_countColumns_L7, fr_l hR.1.1 hR.1.2.2.1, ifE (by omega) (by omega) (by omega) (by omega), if_pos (Int.le_refl _)]) (fun n x i c M hR hi => by
    obtain ⟨⟨h1, h2, h3, h4, h5⟩, hv⟩ := id hR
    have fi := (fr_in h3 hi).1
    have il := (fr_in h3 hi).2
    have cb := clm_bd hk fi
    obtain ⟨z, hz⟩ : ∃ z : Nat, clm S t c = (z : Int) := ⟨(clm S t c).toNat, by omega⟩
    refine ⟨wI M 69 z (iz (cnt (fun c => clm S t c = z) x + 1)), ?_, hR.1.w, fun k hk2 => ?_⟩
    · show F_Fram_countColumns_L7 (n + 1) 45 69 (iz (i : Int)) M = F_Fram_countColumns_L7 n 45 69 (iz ((i + 1 : Nat) : Int)) _
      rw [F_Fram_countColumns_L7, fr_l h1 h3, ifE (by omega) (by omega) (by omega) (by omega), if_neg (by omega), cv_eq (kd_45 h1), cClm h1 h2 hk h3 hi, bI_eq, hz, show (0 : Int32) = iz 0 from rfl, ifL (by omega) (by omega) (by omega) (by omega), if_neg (by omega), aN_eq (by rw [kd_69 h1]; decide) (ln_69 h1), ifE (by omega) (by omega) (by omega) (by omega), if_neg (by omega), aI_eq (kd_69 h1) (ln_69 h1) (by omega) (by omega) (by omega), show ((z : Int)).toNat = z by omega, hv z (by omega), show (1 : Int32) = iz 1 from rfl, iz_add, tI_eq (kd_69 h1) (ln_69 h1) (by omega) (by omega) (by omega), show ((z : Int)).toNat = z by omega, iz_add, nm_eq, show ((i : Int) + 1) = ((i + 1 : Nat) : Int) by omega]
    · by_cases e : k = z
      · subst e
        rw [rI_at rfl rfl, cnt_1t (p := fun c => clm S t c = (k : Int)) (c := c) hz]
      · rw [rI_ne (by omega), hv k hk2, cnt_1f (by rw [hz]; omega)]) L.length fu 0 [] Mz (by omega) (by omega) ⟨hC.f fz, fun k hk2 => by rw [zz k hk2]; rfl⟩
  rw [List.drop_zero, foldl_app1, List.nil_append] at r
  refine ⟨M', ?_, r.1, r.2⟩
  unfold F_Fram_countColumns
  rw [show (0 : Int32) = iz 0 from rfl, ez, bV_eq]
  exact e
end FrDig
