/-! ===== counted in a frame: many, both, colours, within ===== -/
section FrCnt
variable {M M1 M0 : am_M} {S : Sc} {t : Int} {L O : List Int}
theorem cFold {X : Type} (FN : Nat → X → Int32 → am_M → am_R) (K : X → am_M → am_R) (Q : X → Prop) (stp : X → Int → X) (he : ∀ n x, Q x → FN (n + 1) x (iz (L.length : Int)) M1 = K x M1) (hst : ∀ n x (i : Nat) c, Q x → L[i]? = some c → FN (n + 1) x (iz (i : Int)) M1 = FN n (stp x c) (iz ((i + 1 : Nat) : Int)) M1 ∧ Q (stp x c)) (ll : L.length ≤ 20000) (x0 : X) (q0 : Q x0) : FN fu x0 (iz 0) M1 = K (L.foldl stp x0) M1 ∧ Q (L.foldl stp x0) := by
  have fg := fu_ge
  obtain ⟨M', e, r⟩ := fLoop FN K (fun x M => Q x ∧ M = M1) stp L (fun n x M hR => by rw [hR.2]; exact he n x hR.1) (fun n x i c M hR hi => ⟨M1, by rw [hR.2]; exact (hst n x i c hR.1 hi).1, (hst n x i c hR.1 hi).2, rfl⟩) L.length fu 0 x0 M1 (by omega) (by omega) ⟨q0, rfl⟩
  rw [List.drop_zero] at e r
  rw [r.2] at e
  exact ⟨e, r.1⟩
theorem mFold {X : Type} (FM : Nat → X → Int32 → am_M → am_R) (K : X → am_M → am_R) (Q : X → Prop) (stp : X → Int → X) (he : ∀ n x M, Q x → MG M0 M S t L → FM (n + 1) x (iz (L.length : Int)) M = K x M) (hst : ∀ n x (i : Nat) c M, Q x → MG M0 M S t L → L[i]? = some c → ∃ M', FM (n + 1) x (iz (i : Int)) M = FM n (stp x c) (iz ((i + 1 : Nat) : Int)) M' ∧ Q (stp x c) ∧ MG M0 M' S t L) (ll : L.length ≤ 20000) (x0 : X) (q0 : Q x0) (hG : MG M0 M1 S t L) : ∃ M', FM fu x0 (iz 0) M1 = K (L.foldl stp x0) M' ∧ Q (L.foldl stp x0) ∧ MG M0 M' S t L := by
  have fg := fu_ge
  obtain ⟨M', e, r⟩ := fLoop FM K (fun x M => Q x ∧ MG M0 M S t L) stp L (fun n x M hR => he n x M hR.1 hR.2) (fun n x i c M hR hi => hst n x i c M hR.1 hR.2 hi) L.length fu 0 x0 M1 (by omega) (by omega) ⟨q0, hG⟩
  rw [List.drop_zero] at e r
  exact ⟨M', e, r.1, r.2⟩
/-- both count the same -/
theorem two_cnt (p : Int → Prop) {Lc Lm : List Int} (hp : Lm.Perm Lc) : Lm.foldl (cst p) 0 = Lc.foldl (cst p) 0 := by rw [foldl_cst, foldl_cst, cnt_perm p hp]
theorem ap_both (hI : Inv M) (p1 p2 : Int32) : Ag (F_NS_both 0 p1 p2) (F_Md_both 70 p1 p2) M := by
  obtain ⟨h, -⟩ := id hI
  obtain ⟨S, st, s01, s1, s2, hc, hm, hb, hs, h0⟩ := hI.sc
  obtain ⟨o, o1, o2, rfl⟩ := iz_of p2
  have ct := cTick (M := M) o1 o2
  have hMd0 : ∀ M', SH M' → F_Md_isTick 70 p1 M' = some (some (.int (iz 0)), M') → F_Md_both 70 p1 (iz o) M' = some (some (.int (-2)), M') := fun M' h' e => by
    unfold F_Md_both; rw [cv_eq (kd_70 h'), e, bI_eq, if_pos (by decide)]
  by_cases g : 0 ≤ o ∧ o ≤ 30000
  rotate_left
  · rw [bz_f g] at ct
    refine ap_no (mk := Value.int) (v0 := -2) hI (by unfold F_NS_both; rw [ct, bI_eq, if_pos (by decide)]) ?_
    rcases mTk hI s01 s2 hs p1 with e | ⟨e0, e⟩
    · exact hMd0 M h e
    · have tk := mTick h (hs e0) o1 o2
      rw [bz_f g] at tk
      unfold F_Md_both; rw [cv_eq (kd_70 h), e, bI_eq, if_neg (by decide), cv_eq (kd_70 h), tk, bI_eq, if_pos (by decide)]
  rw [bz_t g] at ct
  refine ap_frm (mk := Value.int) (v0 := -2) (p := p1) (B := fun M => F_NS_both_L26 fu 0 (iz o) (iz 0) (iz 0) M) (D := fun M => bV (F_Md_gathers 70 p1 M) (fun M5 => F_Md_both_L29 fu 70 (iz o) (iz 0) (iz 0) M5)) hI s01 s1 s2 hs ?_ hMd0 (fun M' h' c' e => ?_) (fun t M1 L O pt t1 t2 i1 c1 k1 => ?_)
  · unfold F_NS_both
    rw [ct, bI_eq, if_neg (by decide), fR_eq (kd_0 h) (rr_0_7 h), cv_eq (kd_45 h)]; rfl
  · have tk := mTick h' c' o1 o2
    rw [bz_t g] at tk
    unfold F_Md_both; rw [cv_eq (kd_70 h'), e, bI_eq, if_neg (by decide), cv_eq (kd_70 h'), tk, bI_eq, if_neg (by decide), cv_eq (kd_70 h')]; rfl
  · have hk := c1.1
    have h1 := i1.1
    have a1 := i1.2.1
    have ll := fr_len hk k1
    obtain ⟨eC, -⟩ := cFold (M1 := M1) (L := L) (fun n (x : Int) i M => F_NS_both_L26 n 0 (iz o) (iz x) i M) (fun x M => some (some (.int (iz x)), M)) (fun _ => True) (cst (fun c => kBn (lay S c) ≤ o ∧ o < kEn (lay S c))) (fun n x _ => by
      show F_NS_both_L26 (n + 1) 0 (iz o) (iz x) (iz (L.length : Int)) M1 = _
      rw [F_NS_both_L26, fR_eq (kd_0 h1) (rr_0_7 h1), fr_l h1 k1, ifE (by omega) (by omega) (by omega) (by omega), if_pos (by omega)]) (fun n x i c _ hi => by
      have il := (fr_in k1 hi).2
      have lg := (lay_g hk (fr_in k1 hi).1.1).1.2
      have bn := lay_bn hk (fr_in k1 hi).1.1
      refine ⟨?_, trivial⟩
      show F_NS_both_L26 (n + 1) 0 (iz o) (iz x) (iz (i : Int)) M1 = F_NS_both_L26 n 0 (iz o) (iz (cst _ x c)) (iz ((i + 1 : Nat) : Int)) M1
      rw [F_NS_both_L26, fR_eq (kd_0 h1) (rr_0_7 h1), fr_l h1 k1, ifE (by omega) (by omega) (by omega) (by omega), if_neg (by omega), fR_eq (kd_0 h1) (rr_0_7 h1), cv_eq (kd_45 h1), fr_bn h1 a1 k1 hi, bI_eq, ifL (by omega) (by omega) (by omega) (by omega), fR_eq (kd_0 h1) (rr_0_7 h1), cv_eq (kd_45 h1), fr_en h1 a1 k1 hi, bI_eq, ifE (by omega) (by omega) (by omega) (by omega), show (1 : Int32) = iz 1 from rfl, iz_add, iz_add, nm_eq, nm_eq, nm_eq, show ((i : Int) + 1) = ((i + 1 : Nat) : Int) by omega]
      by_cases q1 : o < kBn (lay S c)
      · rw [if_pos q1, cst_f (by omega)]
      · rw [if_neg q1]
        by_cases q2 : kEn (lay S c) ≤ o
        · rw [if_pos q2, cst_f (by omega)]
        · rw [if_neg q2, cst_t (by omega)]) (by omega) 0 trivial
    obtain ⟨M2, Lm, e2, g2⟩ := mGth h1 c1 t1 t2
    have lm := md_len hk g2.2.2.2.1
    obtain ⟨M3, e3, -, g3⟩ := mFold (M0 := M1) (S := S) (t := t) (L := Lm) (fun n (x : Int) i M => F_Md_both_L29 n 70 (iz o) (iz x) i M) (fun x M => some (some (.int (iz x)), M)) (fun _ => True) (cst (fun c => kBn (lay S c) ≤ o ∧ o < kEn (lay S c))) (fun n x M _ hG => by
      show F_Md_both_L29 (n + 1) 70 (iz o) (iz x) (iz (Lm.length : Int)) M = _
      rw [F_Md_both_L29, md_l hG.1 hG.2.2.2.1, ifE (by omega) (by omega) (by omega) (by omega), if_pos (by omega)]) (fun n x i c M _ hG hi => by
      have il := (md_in hG.2.2.2.1 hi).2
      have lg := (lay_g hk (md_in hG.2.2.2.1 hi).1.1).1.2
      have bn := lay_bn hk (md_in hG.2.2.2.1 hi).1.1
      obtain ⟨M', z1, z2, z3, z4⟩ := mLay1 hk hG hi
      refine ⟨M', ?_, trivial, z2⟩
      show F_Md_both_L29 (n + 1) 70 (iz o) (iz x) (iz (i : Int)) M = F_Md_both_L29 n 70 (iz o) (iz (cst _ x c)) (iz ((i + 1 : Nat) : Int)) M'
      rw [F_Md_both_L29, md_l hG.1 hG.2.2.2.1, ifE (by omega) (by omega) (by omega) (by omega), if_neg (by omega), cv_eq (kd_70 hG.1), mCode hG.1 hk hG.2.2.2.1 hi, bI_eq, cv_eq (kd_70 hG.1), z1, bV_eq, fI_eq (kd_70 z2.1), z4.2.1, ifL (by omega) (by omega) (by omega) (by omega), fI_eq (kd_70 z2.1), z4.2.2, ifE (by omega) (by omega) (by omega) (by omega), show (0 : Int32) = iz 0 from rfl, show (1 : Int32) = iz 1 from rfl, iz_add, iz_add, iz_add, nm_eq, nm_eq, nm_eq, Int.add_zero, show ((i : Int) + 1) = ((i + 1 : Nat) : Int) by omega]
      by_cases q1 : o < kBn (lay S c)
      · rw [if_pos q1, cst_f (by omega)]
      · rw [if_neg q1]
        by_cases q2 : kEn (lay S c) ≤ o
        · rw [if_pos q2, cst_f (by omega)]
        · rw [if_neg q2, cst_t (by omega)]; rfl) (by omega) 0 trivial g2
    rw [two_cnt _ (gf_perm g2.2.2.2.1 k1.1)] at e3
    refine ⟨_, M1, M3, eC, h1, c1, ?_, i1.q g3.2.2.2.2⟩
    show bV (F_Md_gathers 70 p1 M1) _ = _
    rw [pt, e2, bV_eq]
    exact e3
end FrCnt
