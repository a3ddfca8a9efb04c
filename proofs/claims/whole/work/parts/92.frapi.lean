/-! ===== what a frame is asked ===== -/
section Frapi
variable {M M' : am_M} {S : Sc} {t : Int} {L O : List Int}
/-- a loop over a row -/
theorem fLoop {X : Type} (F : Nat → X → Int32 → am_M → am_R) (K : X → am_M → am_R) (R : X → am_M → Prop) (stp : X → Int → X) (L : List Int) (he : ∀ n x M, R x M → F (n + 1) x (iz (L.length : Int)) M = K x M) (hs : ∀ n x (i : Nat) c M, R x M → L[i]? = some c → ∃ M', F (n + 1) x (iz (i : Int)) M = F n (stp x c) (iz ((i + 1 : Nat) : Int)) M' ∧ R (stp x c) M') : ∀ (r n i : Nat) (x : X) (M : am_M), i + r = L.length → r < n → R x M → ∃ M', F n x (iz (i : Int)) M = K ((L.drop i).foldl stp x) M' ∧ R ((L.drop i).foldl stp x) M'
  | r, 0, i, x, M, q1, q2, hR => by omega
  | 0, n + 1, i, x, M, q1, q2, hR => by
    have e : i = L.length := by omega
    subst e
    rw [List.drop_of_length_le (Nat.le_refl _)]
    exact ⟨M, he n x M hR, hR⟩
  | r + 1, n + 1, i, x, M, q1, q2, hR => by
    have il : i < L.length := by omega
    obtain ⟨M1, e1, r1⟩ := hs n x i L[i] M hR (List.getElem?_eq_getElem il)
    obtain ⟨M2, e2, r2⟩ := fLoop F K R stp L he hs r n (i + 1) (stp x L[i]) M1 (by omega) (by omega) r1
    rw [List.drop_eq_getElem_cons il, List.foldl_cons]
    exact ⟨M2, e1.trans e2, r2⟩
theorem foldl_lsm (f : Int → Int) : ∀ (L : List Int) (x : Int), L.foldl (fun x c => x + f c) x = x + lsm f L
  | [], x => by rw [lsm]; show x = x + 0; omega
  | c :: L, x => by rw [List.foldl_cons, foldl_lsm f L, lsm]; omega
/-- a count, as a fold -/
noncomputable def cst (p : Int → Prop) (x c : Int) : Int := x + @ite _ (p c) (Classical.propDecidable _) 1 0
theorem cst_t {p : Int → Prop} {x c : Int} (h : p c) : cst p x c = x + 1 := by unfold cst; rw [if_pos h]
theorem cst_f {p : Int → Prop} {x c : Int} (h : ¬ p c) : cst p x c = x := by unfold cst; rw [if_neg h, Int.add_zero]
theorem foldl_cst (p : Int → Prop) (L : List Int) : L.foldl (cst p) 0 = cnt p L := by
  have := foldl_lsm (fun c => @ite _ (p c) (Classical.propDecidable _) 1 0) L 0
  rw [Int.zero_add] at this
  exact this
theorem fr_l (h : SH M) (hK : FrK M S t L O) {f : Int32 → am_R} : fI M 45 5 2 f = f (iz (L.length : Int)) := by
  rw [fI_eq (kd_45 h), hK.2.2.1.1]
theorem fr_len (hk : scOK S) (hK : FrK M S t L O) : L.length ≤ 16080 := LB_all hk t L (pw_nd hK.1.1) (fun c hc => (hK.1.2 c).mp hc)
theorem fr_in (hK : FrK M S t L O) {i : Nat} {c : Int} (hi : L[i]? = some c) : inFr S t c ∧ i < L.length := ⟨(hK.1.2 c).mp (List.mem_of_getElem? hi), (List.getElem?_eq_some_iff.mp hi).1⟩
/-- a row's numbers -/
theorem fr_row (h : SH M) (ha : FrA M) (hK : FrK M S t L O) {i k : Nat} {c : Int} (hi : L[i]? = some c) (hk : k < 7) : F_Fram_ofRow 45 (iz (i : Int)) (iz (k : Int)) M = some (some (.int (rI M (fb M) (7 * i + k))), M) := rw_at h ha hK.2.2.1.2.1 (fr_in hK hi).2 hk
theorem fr_cd (h : SH M) (ha : FrA M) (hK : FrK M S t L O) {i : Nat} {c : Int} (hi : L[i]? = some c) : F_Fram_codeOf 45 (iz (i : Int)) M = some (some (.int (iz c)), M) := by
  have e := fr_row h ha hK hi (k := 0) (by omega)
  rw [Nat.add_zero, (hK.2.2.1.2.2 i c hi).1] at e
  unfold F_Fram_codeOf
  rw [cv_eq (kd_45 h), show (0 : Int32) = iz ((0 : Nat) : Int) from rfl, e, bI_eq]
theorem fr_kd (h : SH M) (ha : FrA M) (hK : FrK M S t L O) {i : Nat} {c : Int} (hi : L[i]? = some c) : F_Fram_kindOf 45 (iz (i : Int)) M = some (some (.int (iz (kKd (lay S c)))), M) := by
  have e := fr_row h ha hK hi (k := 1) (by omega)
  rw [(hK.2.2.1.2.2 i c hi).2.1] at e
  unfold F_Fram_kindOf
  rw [cv_eq (kd_45 h), show (1 : Int32) = iz ((1 : Nat) : Int) from rfl, e, bI_eq]
theorem fr_bn (h : SH M) (ha : FrA M) (hK : FrK M S t L O) {i : Nat} {c : Int} (hi : L[i]? = some c) : F_Fram_bornOf 45 (iz (i : Int)) M = some (some (.int (iz (kBn (lay S c)))), M) := by
  have e := fr_row h ha hK hi (k := 2) (by omega)
  rw [(hK.2.2.1.2.2 i c hi).2.2.1] at e
  unfold F_Fram_bornOf
  rw [cv_eq (kd_45 h), show (2 : Int32) = iz ((2 : Nat) : Int) from rfl, e, bI_eq]
theorem fr_en (h : SH M) (ha : FrA M) (hK : FrK M S t L O) {i : Nat} {c : Int} (hi : L[i]? = some c) : F_Fram_endOf 45 (iz (i : Int)) M = some (some (.int (iz (kEn (lay S c)))), M) := by
  have e := fr_row h ha hK hi (k := 3) (by omega)
  rw [(hK.2.2.1.2.2 i c hi).2.2.2.1] at e
  unfold F_Fram_endOf
  rw [cv_eq (kd_45 h), show (3 : Int32) = iz ((3 : Nat) : Int) from rfl, e, bI_eq]
/-- which row stands at a place of the frame -/
theorem fr_o (h : SH M) (ha : FrA M) (hK : FrK M S t L O) {i : Nat} {c : Int} (hi : O[i]? = some c) : ∃ j : Nat, L[j]? = some c ∧ F_Fram_rowAt 45 (iz (i : Int)) M = some (some (.int (iz (j : Int))), M) := by
  obtain ⟨j, j1, j2⟩ := hK.2.2.2 i c hi
  refine ⟨j, j1, ?_⟩
  have ln := FO_len hK.1 hK.2.1
  have il := (List.getElem?_eq_some_iff.mp hi).1
  obtain ⟨cap, b1, b2, c1, ⟨c2, -⟩, ⟨⟨a1, a2⟩, -, a5, a6⟩, -⟩ := ha.at
  have l2 := hK.2.2.1.2.1
  rw [a6] at l2
  unfold F_Fram_rowAt
  rw [show (0 : Int32) = iz 0 from rfl, ifL (by omega) (by omega) (by omega) (by omega), if_neg (by omega), fR_eq (kd_45 h) a2, aN_eq (by omega) a6, ifE (by omega) (by omega) (by omega) (by omega), if_neg (by omega), fR_eq (kd_45 h) a2, aI_eq a5 a6 (by omega) (by omega) (by omega), show ((i : Int)).toNat = i by omega, j2]
theorem cPlOf (h : SH M) (ha : FrA M) (_ : scOK S) (hK : FrK M S t L O) {i : Nat} {c a : Int} (hi : L[i]? = some c) (a1 : 0 ≤ a) (a2 : a < 3) : F_Fram_placeOf 45 (iz (i : Int)) (iz a) M = some (some (.int (iz (pz S t c a))), M) := by
  have e := fr_row h ha hK hi (k := 4 + a.toNat) (by omega)
  unfold F_Fram_placeOf
  rw [show (4 : Int32) = iz 4 from rfl, iz_add, cv_eq (kd_45 h), show (4 : Int) + a = ((4 + a.toNat : Nat) : Int) by omega, e, bI_eq]
  obtain ⟨-, -, -, -, y4, y5, y6⟩ := hK.2.2.1.2.2 i c hi
  rcases (show a = 0 ∨ a = 1 ∨ a = 2 by omega) with rfl | rfl | rfl
  · rw [show 7 * i + (4 + (0 : Int).toNat) = 7 * i + 4 from rfl, y4]
  · rw [show 7 * i + (4 + (1 : Int).toNat) = 7 * i + 5 from rfl, y5]
  · rw [show 7 * i + (4 + (2 : Int).toNat) = 7 * i + 6 from rfl, y6]
theorem cLyOf (h : SH M) (ha : FrA M) (hk : scOK S) (hK : FrK M S t L O) {i : Nat} {c : Int} (hi : L[i]? = some c) : F_Fram_layerOf 45 (iz (i : Int)) M = some (some (.int (iz (pz S t c 2 / 8))), M) := by
  have pb := pz_b3 hk (fr_in hK hi).1 (i := 2) (by omega) (by omega)
  unfold F_Fram_layerOf
  rw [cv_eq (kd_45 h), show (2 : Int32) = iz 2 from rfl, cPlOf h ha hk hK hi (by omega) (by omega), bI_eq, show (8 : Int32) = iz 8 from rfl, iz_ediv (by omega) (by omega) (by omega) (by omega)]
/-! the reference's side -/
theorem md_l (h : SH M) (hG : GF M S t L) {f : Int32 → am_R} : fI M 70 13 34 f = f (iz (L.length : Int)) := by rw [fI_eq (kd_70 h), hG.1]
theorem md_len (hk : scOK S) (hG : GF M S t L) : L.length ≤ 16080 := LB_all hk t L hG.2.1 (fun c hc => (hG.2.2.1 c).mp hc)
theorem md_in (hG : GF M S t L) {i : Nat} {c : Int} (hi : L[i]? = some c) : inFr S t c ∧ i < L.length := ⟨(hG.2.2.1 c).mp (List.mem_of_getElem? hi), (List.getElem?_eq_some_iff.mp hi).1⟩
theorem mCode (h : SH M) (hk : scOK S) (hG : GF M S t L) {i : Nat} {c : Int} (hi : L[i]? = some c) : F_Md_codeAt 70 (iz (i : Int)) M = some (some (.int (iz c)), M) := by
  have il := (md_in hG hi).2
  have ll := md_len hk hG
  unfold F_Md_codeAt
  rw [fR_eq (kd_70 h) (rr_70_35 h), aL_eq (kd_84 h) (ln_84 h) (by omega) (by omega) (by omega), show ((i : Int)).toNat = i by omega, hG.2.2.2 i c hi, kyz_code hk (md_in hG hi).1]
/-- what asking a frame may use up in the reference, its keys aside -/
def AGf (b j : Nat) : Prop := ALd b j ∨ b = 85 ∨ b = 86 ∨ b = 87
theorem AGf_ASc (b j : Nat) (h : AGf b j) : ASc b j := by
  rcases h with h | h
  · exact ALd_ASc b j h
  · unfold ASc; omega
theorem ALd_AGf (b j : Nat) (h : ALd b j) : AGf b j := Or.inl h
theorem GF.fr (h : GF M S t L) (hf : Fr AGf M M') : GF M' S t L := by
  obtain ⟨h1, h2, h3, h4⟩ := h
  exact ⟨by rw [hf.ri (fun q => by unfold AGf ALd at q; omega)]; exact h1, h2, h3, fun i c q => by rw [hf.rl (fun q => by unfold AGf ALd at q; omega)]; exact h4 i c q⟩
theorem MS.gf (hm : MS M S) (hf : Fr AGf M M') : MS M' S := hm.fr hf (fun b j q => by unfold AGf ALd at q; omega)
/-- how the reference stands with a frame -/
def MG (M0 M : am_M) (S : Sc) (t : Int) (L : List Int) : Prop := SH M ∧ MS M S ∧ rI M 70 1 = iz 1 ∧ GF M S t L ∧ Fr ASc M0 M
theorem MG.q {M0 : am_M} (h : MG M0 M S t L) (hf : Fr AGf M M') : MG M0 M' S t L := ⟨h.1.fr hf, h.2.1.gf hf, by rw [hf.ri (fun q => by unfold AGf ALd at q; omega)]; exact h.2.2.1, h.2.2.2.1.fr hf, h.2.2.2.2.trans (hf.mono AGf_ASc)⟩
theorem mGth (h : SH M) (hS : Sc1 M S) (t1 : 0 ≤ t) (t2 : t ≤ 30000) : ∃ M' L, F_Md_gathers 70 (iz t) M = some (none, M') ∧ MG M M' S t L := by
  obtain ⟨hk, s1, s2, hc, hm, -⟩ := hS
  obtain ⟨M1, L, e1, f1, g1⟩ := mGath h hm hk s2 (LB_all hk t) t1 (by omega)
  exact ⟨M1, L, e1, h.fr f1, hm.ga f1, by rw [st_ga f1]; exact s2, g1, f1.mono AGa_ASc⟩
theorem gf_perm (hG : GF M' S t L) {K : List Int} (hK : FL S t K) : L.Perm K := (List.perm_ext_iff_of_nodup hG.2.1 (pw_nd hK.1)).mpr (fun c => by rw [hG.2.2.1, hK.2])
/-- laid, with its place -/
theorem mLay1 {M0 : am_M} (hk : scOK S) (hG : MG M0 M S t L) {i : Nat} {c : Int} (hi : L[i]? = some c) : ∃ M1, F_Md_lays 70 (iz c) M = some (none, M1) ∧ MG M0 M1 S t L ∧ Fr ALd M M1 ∧ MdL M1 (lay S c) := by
  obtain ⟨M1, e1, f1, l1⟩ := mLays hG.1 hG.2.1 hk (md_in hG.2.2.2.1 hi).1.1
  exact ⟨M1, e1, hG.q (f1.mono ALd_AGf), f1, l1⟩
theorem mPlAt {M0 : am_M} (hk : scOK S) (hG : MG M0 M S t L) {i : Nat} {c a : Int} (hi : L[i]? = some c) (a1 : 0 ≤ a) (a2 : a < 3) : ∃ M1, F_Md_placeAt 70 (iz (i : Int)) (iz t) (iz a) M = some (some (.int (iz (pz S t c a))), M1) ∧ MG M0 M1 S t L ∧ Fr ALd M M1 := by
  obtain ⟨M1, e1, g1, f1, l1⟩ := mLay1 hk hG hi
  have fr := (md_in hG.2.2.2.1 hi).1
  refine ⟨M1, ?_, g1, f1⟩
  unfold F_Md_placeAt
  rw [cv_eq (kd_70 hG.1), mCode hG.1 hk hG.2.2.2.1 hi, bI_eq, cv_eq (kd_70 hG.1), e1, bV_eq, fI_eq (kd_70 g1.1), l1.2.1, cv_eq (kd_70 g1.1), iz_sub, mdPl g1.1 g1.2.1 hk fr.1 l1 fr.2.1 fr.2.2 a1 a2, bI_eq]
theorem mTick0 (h : SH M) (hst : rI M 70 1 = iz 0) (p : Int32) : F_Md_isTick 70 p M = some (some (.int (iz 0)), M) := by
  unfold F_Md_isTick
  rw [fI_eq (kd_70 h), hst, if_pos (by decide)]; rfl
/-- one question of a frame: both alike, where guards and bodies are -/
theorem ap_frm {α : Type} {mk : α → Value} {NS Md B D : am_M → am_R} {v0 : α} {p : Int32} {st : Int} (hI : Inv M) (s01 : st = 0 ∨ st = 1) (s1 : rI M 2 7 = iz st) (s2 : rI M 70 1 = iz st) (hs : st = 1 → Sc1 M S) (hN : NS M = bI (F_Fram_shows 45 p M) (fun r M2 => if r = 0 then some (some (mk v0), M2) else B M2)) (hD0 : ∀ M', SH M' → F_Md_isTick 70 p M' = some (some (.int (iz 0)), M') → Md M' = some (some (mk v0), M')) (hD1 : ∀ M', SH M' → Sc1 M' S → F_Md_isTick 70 p M' = some (some (.int (iz 1)), M') → Md M' = D M') (hB : ∀ t M1 L O, p = iz t → 0 ≤ t → t ≤ 30000 → Inv M1 → Sc1 M1 S → FrK M1 S t L O → ∃ v M2 M3, B M1 = some (some (mk v), M2) ∧ SH M2 ∧ Sc1 M2 S ∧ D M2 = some (some (mk v), M3) ∧ Inv M3) : ∃ v M1 M2, NS M = some (some (mk v), M1) ∧ Md M1 = some (some (mk v), M2) ∧ Inv M2 := by
  have h := hI.1
  obtain ⟨t, t1, t2, rfl⟩ := iz_of p
  rcases s01 with q | q
  · subst q
    refine ⟨v0, M, M, ?_, hD0 M h (mTick0 h s2 _), hI⟩
    rw [hN, cShows0 h s1, bI_eq, if_pos (by decide)]
  subst q
  have h1 := hs rfl
  by_cases g : 0 ≤ t ∧ t ≤ 30000
  · obtain ⟨M1, L, O, e1, i1, c1, k1⟩ := cShows hI h1 g.1 g.2
    obtain ⟨v, M2, M3, e2, h2, c2, e3, i3⟩ := hB t M1 L O rfl g.1 g.2 i1 c1 k1
    refine ⟨v, M2, M3, ?_, ?_, i3⟩
    · rw [hN, e1, bI_eq, if_neg (by decide)]; exact e2
    · have tk := mTick h2 c2 t1 t2
      rw [bz_t g] at tk
      rw [hD1 M2 h2 c2 tk]; exact e3
  · refine ⟨v0, M, M, ?_, ?_, hI⟩
    · rw [hN, cShowsN h s1 t1 t2 g, bI_eq, if_pos (by decide)]
    · have tk := mTick h h1 t1 t2
      rw [bz_f g] at tk
      exact hD0 M h tk
/-- where the guards say no -/
theorem ap_no {α : Type} {mk : α → Value} {NS Md : am_M → am_R} {v0 : α} (hI : Inv M) (hN : NS M = some (some (mk v0), M)) (hD : Md M = some (some (mk v0), M)) : ∃ v M1 M2, NS M = some (some (mk v), M1) ∧ Md M1 = some (some (mk v), M2) ∧ Inv M2 := ⟨v0, M, M, hN, hD, hI⟩
theorem mTk (hI : Inv M) {st : Int} (s01 : st = 0 ∨ st = 1) (s2 : rI M 70 1 = iz st) (hs : st = 1 → Sc1 M S) (p : Int32) : F_Md_isTick 70 p M = some (some (.int (iz 0)), M) ∨ (st = 1 ∧ F_Md_isTick 70 p M = some (some (.int (iz 1)), M)) := by
  have h := hI.1
  obtain ⟨t, t1, t2, rfl⟩ := iz_of p
  rcases s01 with q | q
  · subst q
    exact Or.inl (mTick0 h s2 _)
  · subst q
    have tk := mTick h (hs rfl) t1 t2
    by_cases g : 0 ≤ t ∧ t ≤ 30000
    · rw [bz_t g] at tk
      exact Or.inr ⟨rfl, tk⟩
    · rw [bz_f g] at tk
      exact Or.inl tk
end Frapi
