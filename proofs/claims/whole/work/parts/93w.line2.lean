/-! ===== line: both ===== -/
section Line2
variable {M M0 : am_M} {S : Sc}
noncomputable def lnS (S : Sc) (e : Int) (x : Int × Int) (c : Int) : Int × Int := @ite _ (frm e c) (Classical.propDecidable _) (x.1 + 1, max x.2 (kEn (lay S c))) x
theorem lnS_t {e c : Int} {x : Int × Int} (h : frm e c) : lnS S e x c = (x.1 + 1, max x.2 (kEn (lay S c))) := if_pos h
theorem lnS_f {e c : Int} {x : Int × Int} (h : ¬ frm e c) : lnS S e x c = x := if_neg h
def lnR (w : Int) (x : Int × Int) : Int := if w = 0 then x.1 else x.2
theorem cLnL (hk : scOK S) (h : SH M) {T : List Int} (hS : Shn M S T 7) {e w : Int} (e0 : 0 ≤ e) (e1 : e < 2147483648) (w1 : 0 ≤ w) (w2 : w ≤ 1) : ∀ (r n j : Nat) (x : Int × Int), -1 ≤ x.2 → x.2 ≤ 100000 → j + r = T.length → r < n → F_NS_line_L56 n 0 (iz e) (iz w) (iz x.1) (iz x.2) (iz (j : Int)) M = some (some (.int (iz (lnR w ((T.drop j).foldl (lnS S e) x)))), M)
  | r, 0, j, x, x1, x2, q1, q2 => by omega
  | 0, n + 1, j, x, x1, x2, q1, q2 => by
    have l7 := hS.2.2.1
    rw [F_NS_line_L56, fR_eq (kd_0 h) (rr_0_6 h), fI_eq (kd_18 h), hS.2.1, ifE (by omega) (by omega) (by omega) (by omega), if_pos (by omega), show (0 : Int32) = iz 0 from rfl, ifQ (by omega) (by omega) (by omega) (by omega), List.drop_of_length_le (by omega), List.foldl_nil]
    unfold lnR
    by_cases g : w = 0
    · rw [if_pos g, if_pos g]
    · rw [if_neg g, if_neg g]
  | r + 1, n + 1, j, x, x1, x2, q1, q2 => by
    have l7 := hS.2.2.1
    have jl : j < T.length := by omega
    have ej : T[j]? = some T[j] := List.getElem?_eq_getElem jl
    obtain ⟨sp, row, r1, r2, r3⟩ := cShown h hS ej
    rw [List.drop_eq_getElem_cons jl, List.foldl_cons]
    generalize T[j] = c at ej sp r3
    have cb := sp_rt hk sp
    have c0 := sp.1
    have lg := (lay_g hk sp).1.2
    have bn := lay_bn hk sp
    rw [F_NS_line_L56, fR_eq (kd_0 h) (rr_0_6 h), fI_eq (kd_18 h), hS.2.1, ifE (by omega) (by omega) (by omega) (by omega), if_neg (by omega), fR_eq (kd_0 h) (rr_0_6 h), cv_eq (kd_18 h), r2, bR_eq, fI_eq (spA_l h r1).1, r3.2.1]
    rcases cFrm (M := M) e0 e1 c0 (show c < 2147483648 by omega) with ⟨q, eq⟩ | ⟨q, eq⟩
    · rw [eq, bI_eq, if_neg (by decide), nm_eq, fI_eq (spA_l h r1).1, r3.2.2.2.2, max_eq (by omega) (by omega) (by omega) (by omega), bI_eq, nm_eq, show (1 : Int32) = iz 1 from rfl, iz_add, iz_add, lnS_t q, show ((j : Int) + 1) = ((j + 1 : Nat) : Int) by omega]
      exact cLnL hk h hS e0 e1 w1 w2 r n (j + 1) (x.1 + 1, max x.2 (kEn (lay S c))) (by show -1 ≤ max x.2 _; omega) (by show max x.2 _ ≤ 100000; omega) (by omega) (by omega)
    · rw [eq, bI_eq, if_pos (by decide), nm_eq, show (1 : Int32) = iz 1 from rfl, iz_add, lnS_f q, show ((j : Int) + 1) = ((j + 1 : Nat) : Int) by omega]
      exact cLnL hk h hS e0 e1 w1 w2 r n (j + 1) x x1 x2 (by omega) (by omega)
noncomputable def lsP (S : Sc) (R : Int) : Nat → Int → List Int
  | 0, _ => []
  | r + 1, i => @ite _ (i % 16 < 3 ∧ isSp S (R + i)) (Classical.propDecidable _) ((R + i) :: lsP S R r (i + 1)) (lsP S R r (i + 1))
theorem lsP_t {R i : Int} {r : Nat} (h : i % 16 < 3 ∧ isSp S (R + i)) : lsP S R (r + 1) i = (R + i) :: lsP S R r (i + 1) := by rw [lsP, if_pos h]
theorem lsP_f {R i : Int} {r : Nat} (h : ¬ (i % 16 < 3 ∧ isSp S (R + i))) : lsP S R (r + 1) i = lsP S R r (i + 1) := by rw [lsP, if_neg h]
theorem lsP_g {R : Int} : ∀ (r : Nat) (i : Int), (∀ c, c ∈ lsP S R r i ↔ isSp S c ∧ (c - R) % 16 < 3 ∧ R + i ≤ c ∧ c < R + i + r) ∧ (lsP S R r i).Pairwise (· < ·)
  | 0, i => ⟨fun c => ⟨fun q => (List.not_mem_nil q).elim, fun q => by omega⟩, List.Pairwise.nil⟩
  | r + 1, i => by
    obtain ⟨h1, h2⟩ := lsP_g (R := R) r (i + 1)
    by_cases q : i % 16 < 3 ∧ isSp S (R + i)
    · rw [lsP_t q]
      refine ⟨fun c => ?_, List.pairwise_cons.mpr ⟨fun c hc => by have := (h1 c).mp hc; omega, h2⟩⟩
      rw [List.mem_cons, h1]
      constructor
      · rintro (z | z)
        · rw [z]; exact ⟨q.2, by rw [show R + i - R = i by omega]; exact q.1, by omega, by omega⟩
        · exact ⟨z.1, z.2.1, by omega, by omega⟩
      · rintro ⟨z1, z2, z3, z4⟩
        by_cases e : c = R + i
        · exact Or.inl e
        · exact Or.inr ⟨z1, z2, by omega, by omega⟩
    · rw [lsP_f q]
      refine ⟨fun c => ?_, h2⟩
      rw [h1]
      constructor
      · rintro ⟨z1, z2, z3, z4⟩; exact ⟨z1, z2, by omega, by omega⟩
      · rintro ⟨z1, z2, z3, z4⟩
        refine ⟨z1, z2, ?_, by omega⟩
        by_cases e : c = R + i
        · rw [e] at z1 z2
          rw [show R + i - R = i by omega] at z2
          exact absurd ⟨z2, z1⟩ q
        · omega
theorem pw_eq {A B : List Int} (h1 : A.Pairwise (· < ·)) (h2 : B.Pairwise (· < ·)) (h : ∀ c, c ∈ A ↔ c ∈ B) : A = B := List.Perm.eq_of_pairwise (le := (· < ·)) (fun a b _ _ q1 q2 => by omega) h1 h2 ((List.perm_ext_iff_of_nodup (pw_nd h1) (pw_nd h2)).mpr h)
theorem lsP_shw (hk : scOK S) {R : Int} (hR : R % 256 = 0) : lsP S R 48 0 = shw S 0 30001 R := by
  obtain ⟨h1, h2⟩ := lsP_g (S := S) (R := R) 48 0
  refine pw_eq h2 shw_pw (fun c => ?_)
  rw [h1, shw_mem]
  constructor
  · rintro ⟨z1, z2, z3, z4⟩
    have ln := sp_line hk z1
    have lg := (lay_g hk z1).1.2
    have bn := lay_bn hk z1
    exact ⟨⟨z1, by omega, by omega⟩, by omega⟩
  · rintro ⟨⟨z1, -⟩, z2⟩
    exact ⟨z1, by omega, by omega, by omega⟩
theorem mFrm (hk : scOK S) {e c : Int} (he : isSp S e) (hc : isSp S c) (hr : c / 256 = e / 256) : Gd (F_Md_isFrom (iz c) (iz e)) M (frm e c) := by
  have eb := sp_rt hk he
  have cb := sp_rt hk hc
  have e0 := he.1
  have c0 := hc.1
  have gb := gen_bd e
  have gc := gen_c e
  unfold Gd F_Md_isFrom frm
  rw [mdGen e0 (by omega), bI_eq, show (0 : Int32) = iz 0 from rfl, show (1 : Int32) = iz 1 from rfl, show (16 : Int32) = iz 16 from rfl, iz_emod (by omega) (by omega) (by omega) (by omega), iz_sub, ifQ (by omega) (by omega) (by omega) (by omega), ifQ (by omega) (by omega) (by omega) (by omega), ifQ (by omega) (by omega) (by omega) (by omega), ifQ (by omega) (by omega) (by omega) (by omega)]
  by_cases g0 : gen e = 0
  · rw [if_pos g0, if_pos g0]; exact Or.inl ⟨by omega, rfl⟩
  rw [if_neg g0, if_neg g0]
  by_cases g1 : gen e = 1
  · rw [if_pos g1, if_pos g1]
    by_cases q : c = e
    · rw [if_pos q]; exact Or.inl ⟨by omega, rfl⟩
    · rw [if_neg q]
      by_cases q2 : c - c % 16 = e
      · rw [if_pos q2]; exact Or.inl ⟨q2, rfl⟩
      · rw [if_neg q2]; exact Or.inr ⟨q2, rfl⟩
  · rw [if_neg g1, if_neg g1]
    by_cases q : c = e
    · rw [if_pos q]; exact Or.inl ⟨q, rfl⟩
    · rw [if_neg q]; exact Or.inr ⟨q, rfl⟩
theorem mLnL (hk : scOK S) {e w : Int} (he : isSp S e) (w1 : 0 ≤ w) (w2 : w ≤ 1) : ∀ (r n : Nat) (i : Int) (x : Int × Int) (M : am_M), SH M → MS M S → rI M 70 1 = iz 1 → -1 ≤ x.2 → x.2 ≤ 100000 → 0 ≤ i → i + r = 48 → r < n → ∃ M', F_Md_line_L29 n 70 (iz e) (iz w) (iz x.1) (iz x.2) (iz i) M = some (some (.int (iz (lnR w ((lsP S (e - e % 256) r i).foldl (lnS S e) x)))), M') ∧ Fr ALd M M'
  | r, 0, i, x, M, h, hm, hst, x1, x2, q1, q2, q3 => by omega
  | 0, n + 1, i, x, M, h, hm, hst, x1, x2, q1, q2, q3 => by
    refine ⟨M, ?_, Fr.refl M⟩
    rw [F_Md_line_L29, show (48 : Int32) = iz 48 from rfl, ifE (by omega) (by omega) (by omega) (by omega), if_pos (by omega), show (0 : Int32) = iz 0 from rfl, ifQ (by omega) (by omega) (by omega) (by omega)]
    unfold lnR
    by_cases g : w = 0
    · rw [if_pos g, if_pos g]; rfl
    · rw [if_neg g, if_neg g]; rfl
  | r + 1, n + 1, i, x, M, h, hm, hst, x1, x2, q1, q2, q3 => by
    have eb := sp_rt hk he
    have e0 := he.1
    have ih0 := mLnL hk he w1 w2 r n (i + 1) x M h hm hst x1 x2 (by omega) (by omega) (by omega)
    have no : ∀ v6 : Int32, F_Md_line_L79 (F_Md_line_L29 n) 70 (iz e) (iz w) (iz x.1) (iz x.2) (iz i) v6 M = F_Md_line_L29 n 70 (iz e) (iz w) (iz x.1) (iz x.2) (iz (i + 1)) M := fun v6 => by
      unfold F_Md_line_L79 F_Md_line_L80
      rw [if_pos rfl, nm_eq, show (1 : Int32) = iz 1 from rfl, iz_add]
    rw [F_Md_line_L29, show (48 : Int32) = iz 48 from rfl, ifE (by omega) (by omega) (by omega) (by omega), if_neg (by omega), show (256 : Int32) = iz 256 from rfl, iz_emod (by omega) (by omega) (by omega) (by omega), iz_sub, iz_add, nm_eq, show (16 : Int32) = iz 16 from rfl, iz_emod (by omega) (by omega) (by omega) (by omega), show (3 : Int32) = iz 3 from rfl, ifE (by omega) (by omega) (by omega) (by omega), no]
    by_cases g1 : 3 ≤ i % 16
    · rw [if_pos g1, lsP_f (fun z => by omega)]; exact ih0
    rw [if_neg g1, cv_eq (kd_70 h), mIsSp h hm hk hst (by omega) (by omega), bI_eq, bz_if0, no]
    by_cases g2 : isSp S (e - e % 256 + i)
    rotate_left
    · rw [if_neg (fun z => g2 (spB_t.mp z)), lsP_f (fun z => g2 z.2)]; exact ih0
    rw [if_pos (spB_t.mpr g2), lsP_t ⟨by omega, g2⟩, List.foldl_cons]
    rcases mFrm (M := M) hk he g2 (by omega) with ⟨q, eq⟩ | ⟨q, eq⟩
    rotate_left
    · rw [eq, bI_eq, if_pos (by decide), no, lnS_f q]; exact ih0
    rw [eq, bI_eq, if_neg (by decide), lnS_t q]
    obtain ⟨M1, z1, f1, l1⟩ := mLays h hm hk g2
    have h1 := h.fr f1
    have lg := (lay_g hk g2).1.2
    have bn := lay_bn hk g2
    obtain ⟨M2, z2, f2⟩ := mLnL hk he w1 w2 r n (i + 1) (x.1 + 1, max x.2 (kEn (lay S (e - e % 256 + i)))) M1 h1 (hm.lays f1) (by rw [st_ld f1]; exact hst) (by show -1 ≤ max x.2 _; omega) (by show max x.2 _ ≤ 100000; omega) (by omega) (by omega) (by omega)
    refine ⟨M2, ?_, f1.trans f2⟩
    unfold F_Md_line_L80
    rw [if_neg (by decide), cv_eq (kd_70 h), z1, bV_eq, nm_eq, fI_eq (kd_70 h1), l1.2.2, max_eq (by omega) (by omega) (by omega) (by omega), bI_eq, nm_eq, show (1 : Int32) = iz 1 from rfl, iz_add, iz_add]
    exact z2
theorem ln_same (hk : scOK S) {e : Int} : ∀ (K : List Int) (x y : Int × Int), (∀ c ∈ K, isSp S c) → x.1 = y.1 → (x.2 = y.2 ∨ (x.2 = 0 ∧ y.2 = -1)) → (K.foldl (lnS S e) x).1 = (K.foldl (lnS S e) y).1 ∧ ((K.foldl (lnS S e) x).2 = (K.foldl (lnS S e) y).2 ∨ ∀ c ∈ K, ¬ frm e c)
  | [], x, y, hs, h1, h2 => ⟨h1, Or.inr (fun c hc => (List.not_mem_nil hc).elim)⟩
  | c :: K, x, y, hs, h1, h2 => by
    have sp := hs c (List.mem_cons_self ..)
    have lg := (lay_g hk sp).1.2
    have hs' : ∀ d ∈ K, isSp S d := fun d hd => hs d (List.mem_cons_of_mem _ hd)
    rw [List.foldl_cons, List.foldl_cons]
    by_cases q : frm e c
    · rw [lnS_t q, lnS_t q]
      have e2 : max x.2 (kEn (lay S c)) = max y.2 (kEn (lay S c)) := by omega
      have key : ((x.1 + 1, max x.2 (kEn (lay S c))) : Int × Int) = (y.1 + 1, max y.2 (kEn (lay S c))) := by rw [h1, e2]
      rw [key]
      exact ⟨rfl, Or.inl rfl⟩
    · rw [lnS_f q, lnS_f q]
      obtain ⟨z1, z2⟩ := ln_same hk K x y hs' h1 h2
      refine ⟨z1, ?_⟩
      rcases z2 with z | z
      · exact Or.inl z
      · refine Or.inr (fun d hd => ?_)
        rcases List.mem_cons.mp hd with y | y
        · rw [y]; exact q
        · exact z d y
theorem ap_line (hI : Inv M) (p1 p2 : Int32) : Ag (F_NS_line 0 p1 p2) (F_Md_line 70 p1 p2) M := by
  obtain ⟨h, ha, -⟩ := id hI
  obtain ⟨w, w1, w2, rfl⟩ := iz_of p2
  rcases one_cs hI p1 with ⟨n1, n2⟩ | ⟨S, e, rfl, hS, he, y1, y2⟩
  · refine Ag.p hI (v := -2) ?_ ?_
    · unfold F_NS_line; rw [fR_eq (kd_0 h) (rr_0_2 h), cv_eq (kd_2 h), n1, bI_eq, if_pos (by decide)]
    · unfold F_Md_line; rw [cv_eq (kd_70 h), n2, bI_eq, if_pos (by decide)]
  obtain ⟨hk, s1, s2, hc, hm, -⟩ := id hS
  have eb := sp_rt hk he
  have e0 := he.1
  have fg := fu_ge
  have md : ∀ M, SH M → F_Md_isSpark 70 (iz e) M = some (some (.int (iz 1)), M) → F_Md_line 70 (iz e) (iz w) M = if 0 ≤ w ∧ w ≤ 1 then F_Md_line_L29 fu 70 (iz e) (iz w) (iz 0) (iz (-1)) (iz 0) M else some (some (.int (-2)), M) := fun M h y2 => by
    unfold F_Md_line; rw [cv_eq (kd_70 h), y2, bI_eq, if_neg (by decide), show (0 : Int64) = jz 0 from rfl, show (1 : Int64) = jz 1 from rfl, mInL w 0 1 w1 w2 (by omega) (by omega) (by omega) (by omega), bI_eq, bz_if0]; rfl
  by_cases g : 0 ≤ w ∧ w ≤ 1
  rotate_left
  · refine Ag.p hI (v := -2) ?_ (by rw [md M h y2, if_neg g])
    unfold F_NS_line
    rw [fR_eq (kd_0 h) (rr_0_2 h), cv_eq (kd_2 h), y1, bI_eq, if_neg (by decide), show (0 : Int32) = iz 0 from rfl, show (1 : Int32) = iz 1 from rfl, ifL w1 w2 (by omega) (by omega), ifE w1 w2 (by omega) (by omega)]
    by_cases q : w < 0
    · rw [if_pos q]
    · rw [if_neg q, if_neg (by omega)]
  obtain ⟨M1, e1, f1, wk, ne, ls⟩ := cStartR h hc hk (s := e / 256 % 4) (k := e / 256 / 4) (by omega) he.2.1 (by omega) he.2.2.1
  have h1 := wk.1
  obtain ⟨-, M2, e2, f2, wk2, sh2⟩ := cStep hk (by omega) (by omega) (by omega) (by omega) wk ne ls (by omega)
  have rNs : rN (e / 256 % 4) (e / 256 / 4) (e / 256 % 4) = e / 256 / 4 := if_pos rfl
  rw [rNs, show 256 * (4 * (e / 256 / 4) + e / 256 % 4) = e - e % 256 by omega] at sh2
  have h2 := wk2.1
  have eC := cLnL hk h2 sh2 e0 (by omega) g.1 g.2 (shw S 0 30001 (e - e % 256)).length fu 0 (0, 0) (by show (-1 : Int) ≤ 0; omega) (by show (0 : Int) ≤ 100000; omega) (by omega) (by have := sh2.2.2.1; omega)
  have f12 : Fr ASc M M2 := (f1.trans f2).mono AWk_ASc
  have i2 := hI.q f12
  have S2 := hS.q ha f12
  obtain ⟨M3, e3, f3⟩ := mLnL hk he g.1 g.2 48 fu 0 (0, -1) M2 h2 S2.2.2.2.2.1 S2.2.2.1 (by show (-1 : Int) ≤ -1; omega) (by show (-1 : Int) ≤ 100000; omega) (by omega) rfl (by omega)
  rw [lsP_shw hk (by omega)] at e3
  have same : lnR w ((shw S 0 30001 (e - e % 256)).foldl (lnS S e) (0, -1)) = lnR w ((shw S 0 30001 (e - e % 256)).foldl (lnS S e) (0, 0)) := by
    obtain ⟨z1, z2⟩ := ln_same hk (e := e) (shw S 0 30001 (e - e % 256)) (0, 0) (0, -1) (fun c hc => (shw_mem.mp hc).1.1) rfl (Or.inr ⟨rfl, rfl⟩)
    rcases z2 with z | z
    · unfold lnR; rw [z1, z]
    · exfalso
      have ln := sp_line hk he
      have lg := (lay_g hk he).1.2
      have bn := lay_bn hk he
      have gc := gen_c e
      refine z e (shw_mem.mpr ⟨⟨he, by omega, by omega⟩, by omega⟩) ?_
      unfold frm
      by_cases q0 : gen e = 0
      · rw [if_pos q0]; omega
      · rw [if_neg q0]
        by_cases q1 : gen e = 1
        · rw [if_pos q1]; omega
        · rw [if_neg q1]
  rw [same] at e3
  rw [List.drop_zero] at eC
  refine Ag.q hI (v := iz (lnR w ((shw S 0 30001 (e - e % 256)).foldl (lnS S e) (0, 0)))) (M1 := M2) (M2 := M3) ?_ f12 ?_ (f3.mono ALd_ASc)
  · unfold F_NS_line
    rw [fR_eq (kd_0 h) (rr_0_2 h), cv_eq (kd_2 h), y1, bI_eq, if_neg (by decide), show (0 : Int32) = iz 0 from rfl, show (1 : Int32) = iz 1 from rfl, ifL w1 w2 (by omega) (by omega), if_neg (by omega), ifE w1 w2 (by omega) (by omega), if_pos (by omega), fR_eq (kd_0 h) (rr_0_6 h), nsSrc e0 (by omega), bI_eq, nsNum e0 (by omega), bI_eq, cv_eq (kd_18 h), show e / 1024 = e / 256 / 4 by omega, e1, bV_eq, fR_eq (kd_0 h1) (rr_0_6 h1), cv_eq (kd_18 h1), e2, bI_eq, if_neg (by decide)]
    exact eC
  · rw [md M2 h2 (mYes h2 S2 he), if_pos g]
    exact e3
end Line2
