/-! ===== firstIn ===== -/
section First
variable {M M0 : am_M} {S : Sc}
noncomputable def ficL (S : Sc) (x y c : Int) : Nat → Int → Int → Int
  | 0, _, v => v
  | r + 1, T, v => @ite _ (icp S T x y c) (Classical.propDecidable _) T (ficL S x y c r (T + 1) v)
theorem ficL_g {x y c : Int} : ∀ (r : Nat) (T v : Int), (ficL S x y c r T v = v ∧ ∀ k, T ≤ k → k < T + r → ¬ icp S k x y c) ∨ (T ≤ ficL S x y c r T v ∧ ficL S x y c r T v < T + r ∧ icp S (ficL S x y c r T v) x y c ∧ ∀ k, T ≤ k → k < ficL S x y c r T v → ¬ icp S k x y c)
  | 0, T, v => Or.inl ⟨rfl, fun k k1 k2 => by omega⟩
  | r + 1, T, v => by
    rw [ficL]
    by_cases q : icp S T x y c
    · rw [if_pos q]; exact Or.inr ⟨Int.le_refl _, by omega, q, fun k k1 k2 => by omega⟩
    · rw [if_neg q]
      rcases ficL_g r (T + 1) v with ⟨h1, h2⟩ | ⟨h1, h2, h3, h4⟩
      · refine Or.inl ⟨h1, fun k k1 k2 => ?_⟩
        by_cases e : k = T
        · rw [e]; exact q
        · exact h2 k (by omega) (by omega)
      · refine Or.inr ⟨by omega, by omega, h3, fun k k1 k2 => ?_⟩
        by_cases e : k = T
        · rw [e]; exact q
        · exact h4 k (by omega) k2
theorem cFicL (h : SH M) (hc : CS M S) (hk : scOK S) {b : Nat} {x y c : Int} (hsp : isSp S c) (hA : SpA M b) (hL : CpL M S b (lay S c) c (gen c)) (x1 : -2147483648 ≤ x) (x2 : x < 2147483648) (y1 : -2147483648 ≤ y) (y2 : y < 2147483648) {u v : Int} (u0 : 0 ≤ u) (u1 : u ≤ kEn (lay S c)) : ∀ (r n : Nat) (T : Int), kBn (lay S c) ≤ T → (T + r = u ∨ (r = 0 ∧ u ≤ T)) → T < 100000 → r < n → F_Sprk_firstInColumn_L20 n b (iz v) (iz x) (iz y) (iz u) (iz T) M = some (some (.int (iz (ficL S x y c r T v))), M)
  | r, 0, T, q1, q2, q3, q4 => by omega
  | 0, n + 1, T, q1, q2, q3, q4 => by
    have lg := (lay_g hk hsp).1.2
    have bn := lay_bn hk hsp
    rw [F_Sprk_firstInColumn_L20, ifE (by omega) (by omega) (by omega) (by omega), if_pos (by omega), ficL]
  | r + 1, n + 1, T, q1, q2, q3, q4 => by
    have lg := (lay_g hk hsp).1.2
    have bn := lay_bn hk hsp
    have fr : inFr S T c := ⟨hsp, q1, by omega⟩
    have p0 := pz_b3 hk fr (i := 0) (by omega) (by omega)
    have p1 := pz_b3 hk fr (i := 1) (by omega) (by omega)
    have ih := cFicL (v := v) h hc hk hsp hA hL x1 x2 y1 y2 u0 u1 r n (T + 1) (by omega) (by omega) (by omega) (by omega)
    rw [F_Sprk_firstInColumn_L20, ifE (by omega) (by omega) (by omega) (by omega), if_neg (by omega), fI_eq hA.1, hL.2.2.2.1, nm_eq, iz_sub, cv_eq hA.1, show (0 : Int32) = iz 0 from rfl, cPl h hc hk fr hA hL (by omega) (by omega), bI_eq, show (8 : Int32) = iz 8 from rfl, iz_ediv (by omega) (by omega) (by omega) (by omega), ifQ (by omega) (by omega) x1 x2, cv_eq hA.1, show (1 : Int32) = iz 1 from rfl, cPl h hc hk fr hA hL (by omega) (by omega), bI_eq, iz_ediv (by omega) (by omega) (by omega) (by omega), ifQ (by omega) (by omega) y1 y2, iz_add, nm_eq, ficL]
    by_cases g1 : pz S T c 0 / 8 = x
    · rw [if_pos g1]
      by_cases g2 : pz S T c 1 / 8 = y
      · rw [if_pos g2, if_pos (show icp S T x y c from ⟨g1, g2⟩)]
      · rw [if_neg g2, if_neg (fun z : icp S T x y c => g2 z.2)]; exact ih
    · rw [if_neg g1, if_neg (fun z : icp S T x y c => g1 z.1)]; exact ih
theorem cFic (h : SH M) (hc : CS M S) (hk : scOK S) {b : Nat} {x y c a v : Int} (hsp : isSp S c) (hA : SpA M b) (hL : CpL M S b (lay S c) c (gen c)) (x1 : -2147483648 ≤ x) (x2 : x < 2147483648) (y1 : -2147483648 ≤ y) (y2 : y < 2147483648) (a0 : 0 ≤ a) (a1 : a < 50000) (v0 : 0 ≤ v) (v1 : v < 50000) : F_Sprk_firstInColumn b (iz a) (iz v) (iz x) (iz y) M = some (some (.int (iz (ficL S x y c (min v (kEn (lay S c)) - max a (kBn (lay S c))).toNat (max a (kBn (lay S c))) v))), M) := by
  have fg := fu_ge
  have lg := (lay_g hk hsp).1.2
  have bn := lay_bn hk hsp
  unfold F_Sprk_firstInColumn
  rw [fI_eq hA.1, hL.2.2.2.2, min_eq (by omega) (by omega) (by omega) (by omega), bI_eq, fI_eq hA.1, hL.2.2.2.1, max_eq (by omega) (by omega) (by omega) (by omega), bI_eq]
  exact cFicL h hc hk hsp hA hL x1 x2 y1 y2 (by omega) (by omega) _ fu _ (by omega) (by omega) (by omega) (by omega)
/-- some spark is in a column in that tick -/
def hitC (S : Sc) (x y k : Int) : Prop := ∃ c, inFr S k c ∧ icp S k x y c
/-- the first tick so far -/
def FI (S : Sc) (x y t u : Int) (L : List Int) (v : Int) : Prop := (t ≤ v ∧ v ≤ u) ∧ (v < u → hitC S x y v) ∧ ∀ k, t ≤ k → k < v → ∀ c ∈ L, ¬ (inFr S k c ∧ icp S k x y c)
theorem FI_s {x y t u v c : Int} {L : List Int} (h : FI S x y t u L v) (hc : isSp S c) : FI S x y t u (L ++ [c]) (ficL S x y c (min v (kEn (lay S c)) - max t (kBn (lay S c))).toNat (max t (kBn (lay S c))) v) := by
  obtain ⟨h1, h2, h3⟩ := h
  rcases ficL_g (S := S) (x := x) (y := y) (c := c) (min v (kEn (lay S c)) - max t (kBn (lay S c))).toNat (max t (kBn (lay S c))) v with ⟨g1, g2⟩ | ⟨g1, g2, g3, g4⟩
  · rw [g1]
    refine ⟨h1, h2, fun k k1 k2 d hd => ?_⟩
    rcases List.mem_append.mp hd with q | q
    · exact h3 k k1 k2 d q
    · have e : d = c := by simpa using q
      rw [e]
      rintro ⟨z1, z2⟩
      have z3 := z1.2.1
      have z4 := z1.2.2
      exact g2 k (by omega) (by omega) z2
  · generalize ficL S x y c (min v (kEn (lay S c)) - max t (kBn (lay S c))).toNat (max t (kBn (lay S c))) v = w at g1 g2 g3 g4 ⊢
    refine ⟨by omega, fun _ => ⟨c, ⟨hc, by omega, by omega⟩, g3⟩, fun k k1 k2 d hd => ?_⟩
    rcases List.mem_append.mp hd with q | q
    · exact h3 k k1 (by omega) d q
    · have e : d = c := by simpa using q
      rw [e]
      rintro ⟨z1, z2⟩
      have z3 := z1.2.1
      exact g4 k (by omega) k2 z2
theorem lpFirst (hk : scOK S) (M0 : am_M) {t u x y : Int} (t1 : 0 ≤ t) (u2 : u ≤ 40000) (htu : t ≤ u) (x1 : -2147483648 ≤ x) (x2 : x < 2147483648) (y1 : -2147483648 ≤ y) (y2 : y < 2147483648) : LoopH (X := Int) S t u (wkl S t u) (fun n v i M => F_NS_firstIn_L63 n 0 (iz t) (iz x) (iz y) (iz u) (iz v) i M) (fun m n v i j M => F_NS_firstIn_L84 (F_NS_firstIn_L63 n) m 0 (iz t) (iz x) (iz y) (iz u) (iz v) i j M) (fun v M => if iz u ≤ iz v then some (some (.int (-1)), M) else some (some (.int (iz v)), M)) (fun L v M => Fr ASc M0 M ∧ FI S x y t u L v) := by
  refine ⟨fun n v i M h i0 i1 => ?_, fun m n v i j len M h hl l0 l7 hj => ?_, fun m n v i j row L c len M hP h hc hin hr hL hl jl l7 hs _ => ?_, fun L v M M' hP hf => ⟨hP.1.trans (hf.mono AWk_ASc), hP.2⟩⟩
  · show F_NS_firstIn_L63 (n + 1) 0 (iz t) (iz x) (iz y) (iz u) (iz v) (iz i) M = _
    rw [F_NS_firstIn_L63, show (1000000 : Int32) = iz 1000000 from rfl, ifE (a := 1000000) (b := i) (by omega) (by omega) (by omega) (by omega), if_neg (by omega), fR_eq (kd_0 h) (rr_0_6 h), cv_eq (kd_18 h)]
    rfl
  · show F_NS_firstIn_L84 (F_NS_firstIn_L63 n) (m + 1) 0 (iz t) (iz x) (iz y) (iz u) (iz v) (iz i) (iz j) M = _
    rw [F_NS_firstIn_L84, fR_eq (kd_0 h) (rr_0_6 h), fI_eq (kd_18 h), hl, ifE (by omega) (by omega) (by omega) (by omega), if_pos (by omega), nm_eq, show (1 : Int32) = iz 1 from rfl, iz_add]
  · have vb := hP.2.1
    refine ⟨_, M, ?_, ⟨hP.1, FI_s hP.2 hin.1⟩, KW.refl h⟩
    show F_NS_firstIn_L84 (F_NS_firstIn_L63 n) (m + 1) 0 (iz t) (iz x) (iz y) (iz u) (iz v) (iz i) (iz (j : Int)) M = _
    rw [F_NS_firstIn_L84, fR_eq (kd_0 h) (rr_0_6 h), fI_eq (kd_18 h), hl, ifE (by omega) (by omega) (by omega) (by omega), if_neg (by omega), fR_eq (kd_0 h) (rr_0_6 h), cv_eq (kd_18 h), hs, bR_eq, cv_eq (spA_l h hr).1, cFic h hc hk hin.1 (spA_l h hr) hL x1 x2 y1 y2 t1 (by omega) (by omega) (by omega), bI_eq, nm_eq, show (1 : Int32) = iz 1 from rfl, iz_add, show ((j : Int) + 1) = ((j + 1 : Nat) : Int) by omega]
theorem mFirL {t u x y : Int} (t1 : 0 ≤ t) (hu : u = min (t + 100) 30001) (hx : 0 ≤ x ∧ x < sW S 0) (hy : 0 ≤ y ∧ y < sW S 1) : ∀ (r n : Nat) (k : Int) (M : am_M), SH M → Sc1 M S → FrA M → t ≤ k → k + r = u → t ≤ 30000 → r < n → ∃ M' v, F_Md_firstIn_L23 n 70 (iz t) (iz x) (iz y) (iz k) M = some (some (.int (iz v)), M') ∧ Fr ASc M M' ∧ ((v = -1 ∧ ∀ k', k ≤ k' → k' < u → ¬ hitC S x y k') ∨ (k ≤ v ∧ v < u ∧ hitC S x y v ∧ ∀ k', k ≤ k' → k' < v → ¬ hitC S x y k'))
  | r, 0, k, M, h, hS, ha, q1, q2, q3, q4 => by omega
  | 0, n + 1, k, M, h, hS, ha, q1, q2, q3, q4 => by
    refine ⟨M, -1, ?_, Fr.refl M, Or.inl ⟨rfl, fun k' k1 k2 => by omega⟩⟩
    rw [F_Md_firstIn_L23, show (100 : Int32) = iz 100 from rfl, iz_add, ifE (by omega) (by omega) (by omega) (by omega), show (30000 : Int32) = iz 30000 from rfl, ifL (by omega) (by omega) (by omega) (by omega)]
    by_cases g : t + 100 ≤ k
    · rw [if_pos g]; rfl
    · rw [if_neg g, if_pos (by omega)]; rfl
  | r + 1, n + 1, k, M, h, hS, ha, q1, q2, q3, q4 => by
    have hk := hS.1
    obtain ⟨M1, e1, f1⟩ := mInCol h hS (t := k) (by omega) (by omega) hx hy
    have wf := wkl_FL hk k
    have cb := cnt_bd (icp S k x y) (wkl S k (k + 1))
    have ll := wkl_len (S := S) (t := k) hk
    have hit : ¬ cnt (icp S k x y) (wkl S k (k + 1)) ≤ 0 ↔ hitC S x y k := by
      constructor
      · intro z
        rw [cnt_flt] at z
        cases hq : flt (icp S k x y) (wkl S k (k + 1)) with
        | nil => rw [hq] at z; exact absurd (Int.le_refl 0) z
        | cons c K =>
          have mc : c ∈ flt (icp S k x y) (wkl S k (k + 1)) := by rw [hq]; exact List.mem_cons_self ..
          obtain ⟨m1, m2⟩ := flt_mem.mp mc
          exact ⟨c, (wf.2 c).mp m1, m2⟩
      · rintro ⟨c, m1, m2⟩ z
        rw [cnt_flt] at z
        have mc : c ∈ flt (icp S k x y) (wkl S k (k + 1)) := flt_mem.mpr ⟨(wf.2 c).mpr m1, m2⟩
        have := List.length_pos_of_mem mc
        omega
    rw [F_Md_firstIn_L23, show (100 : Int32) = iz 100 from rfl, iz_add, ifE (by omega) (by omega) (by omega) (by omega), show (30000 : Int32) = iz 30000 from rfl, ifL (by omega) (by omega) (by omega) (by omega), if_neg (by omega), if_neg (by omega), cv_eq (kd_70 h), e1, bI_eq, show (0 : Int32) = iz 0 from rfl, ifE (by omega) (by omega) (by omega) (by omega)]
    by_cases g : cnt (icp S k x y) (wkl S k (k + 1)) ≤ 0
    · rw [if_pos g, nm_eq, show (1 : Int32) = iz 1 from rfl, iz_add]
      have nh : ¬ hitC S x y k := fun z => hit.mpr z g
      obtain ⟨M2, v, e2, f2, r2⟩ := mFirL t1 hu hx hy r n (k + 1) M1 (h.fr f1) (hS.q ha f1) (ha.q f1) (by omega) (by omega) q3 (by omega)
      refine ⟨M2, v, e2, f1.trans f2, ?_⟩
      rcases r2 with ⟨z1, z2⟩ | ⟨z1, z2, z3, z4⟩
      · refine Or.inl ⟨z1, fun k' k1 k2 => ?_⟩
        by_cases e : k' = k
        · rw [e]; exact nh
        · exact z2 k' (by omega) k2
      · refine Or.inr ⟨by omega, z2, z3, fun k' k1 k2 => ?_⟩
        by_cases e : k' = k
        · rw [e]; exact nh
        · exact z4 k' (by omega) k2
    · rw [if_neg g]
      exact ⟨M1, k, rfl, f1, Or.inr ⟨Int.le_refl _, by omega, hit.mp g, fun k' k1 k2 => by omega⟩⟩
theorem ap_firstIn (hI : Inv M) (p1 p2 p3 : Int32) : Ag (F_NS_firstIn 0 p1 p2 p3) (F_Md_firstIn 70 p1 p2 p3) M := by
  obtain ⟨h, ha, -⟩ := id hI
  obtain ⟨S, st, s01, s1, s2, hc, hm, hb, hs, h0⟩ := hI.sc
  obtain ⟨t, t1, t2, rfl⟩ := iz_of p1
  obtain ⟨x, x1, x2, rfl⟩ := iz_of p2
  obtain ⟨y, y1, y2, rfl⟩ := iz_of p3
  have ct := cTick (M := M) t1 t2
  have hMd0 : F_Md_isTick 70 (iz t) M = some (some (.int (iz 0)), M) → F_Md_firstIn 70 (iz t) (iz x) (iz y) M = some (some (.int (-2)), M) := fun e => by
    unfold F_Md_firstIn; rw [cv_eq (kd_70 h), e, bI_eq, if_pos (by decide)]
  by_cases g0 : 0 ≤ t ∧ t ≤ 30000
  rotate_left
  · rw [bz_f g0] at ct
    refine Ag.p hI (v := -2) (by unfold F_NS_firstIn; rw [ct, bI_eq, if_pos (by decide)]) (hMd0 ?_)
    rcases s01 with q | q
    · subst q; exact mTick0 h s2 _
    · subst q
      have tk := mTick h (hs rfl) t1 t2
      rw [bz_f g0] at tk
      exact tk
  rw [bz_t g0] at ct
  rcases gCol hI s01 s2 hc hb x1 x2 y1 y2 with ⟨g, gc⟩ | ⟨g, gc⟩
  rotate_left
  · refine Ag.p hI (v := -2) ?_ ?_
    · unfold F_NS_firstIn
      rw [ct, bI_eq, if_neg (by decide)]
      exact gc _ _
    · rcases mTk hI s01 s2 hs (iz t) with e | ⟨e0, e⟩
      · exact hMd0 e
      · unfold F_Md_firstIn
        rw [cv_eq (kd_70 h), e, bI_eq, if_neg (by decide), cv_eq (kd_70 h)]
        rcases mCol h hm hb x1 x2 y1 y2 with ⟨q, e2⟩ | ⟨q, e2⟩
        · exact absurd q g
        · rw [e2, bI_eq, if_pos (by decide)]
  have st1 : st = 1 := by
    rcases s01 with q | q
    · have w0 : sW S 0 = 0 := by rw [h0 q]; rfl
      omega
    · exact q
  subst st1
  have hS := hs rfl
  have hk := hS.1
  have fg := fu_ge
  obtain ⟨u, hu⟩ : ∃ u, u = min (t + 100) 30001 := ⟨_, rfl⟩
  obtain ⟨M1, e1, f1, w1⟩ := cStart h hc hk (a := t) (b := u) (by omega) (by omega) (by omega) (by omega)
  obtain ⟨v, M2, e2, f2, p2⟩ := wAll hk (by omega) (by omega) (by omega) (by omega) (lpFirst hk M (t := t) (u := u) (x := x) (y := y) (by omega) (by omega) (by omega) x1 x2 y1 y2) w1 (x := u) ⟨f1.mono AWk_ASc, ⟨by omega, by omega⟩, fun z => by omega, fun k _ _ c hc => (List.not_mem_nil hc).elim⟩
  have i2 := hI.q f2
  have h2 := i2.1
  have S2 := hS.q ha f2
  obtain ⟨vb, vh, vn⟩ := p2
  have nohit : ∀ k, t ≤ k → k < v → ¬ hitC S x y k := fun k k1 k2 => by
    rintro ⟨c, c1, c2⟩
    have a1 := c1.2.1
    have a2 := c1.2.2
    exact vn k k1 k2 c (((wkl_g hk t u).1 c).mpr ⟨c1.1, by omega, by omega⟩) ⟨c1, c2⟩
  obtain ⟨M3, v', e3, f3, r3⟩ := mFirL (S := S) (t := t) (u := u) (x := x) (y := y) (by omega) hu g.1 g.2 (u - t).toNat fu t M2 h2 S2 i2.2.1 (by omega) (by omega) g0.2 (by omega)
  have tk := mTick h2 S2 t1 t2
  rw [bz_t g0] at tk
  have e2' : F_NS_firstIn_L63 fu 0 (iz t) (iz x) (iz y) (iz u) (iz u) (iz 0) M1 = if iz u ≤ iz v then some (some (.int (-1)), M2) else some (some (.int (iz v)), M2) := e2
  rw [ifE (by omega) (by omega) (by omega) (by omega)] at e2'
  have same : (if u ≤ v then some (some (Value.int (-1)), M2) else some (some (Value.int (iz v)), M2)) = some (some (Value.int (iz v')), M2) := by
    rcases r3 with ⟨z1, z2⟩ | ⟨z1, z2, z3, z4⟩
    · rw [if_pos (by
        rcases Int.lt_or_le v u with q | q
        · exact absurd (vh q) (z2 v vb.1 q)
        · exact q), z1]; rfl
    · have e : v = v' := by
        rcases Int.lt_trichotomy v v' with q | q | q
        · exact absurd (vh (by omega)) (z4 v vb.1 q)
        · exact q
        · exact absurd z3 (nohit v' z1 q)
      rw [if_neg (by omega), e]
  rw [same] at e2'
  refine Ag.q hI (v := iz v') (M1 := M2) (M2 := M3) ?_ f2 ?_ f3
  · unfold F_NS_firstIn
    rw [ct, bI_eq, if_neg (by decide)]
    refine (gc _ _).trans ?_
    rw [show (100 : Int32) = iz 100 from rfl, iz_add, show (30001 : Int32) = iz 30001 from rfl, min_eq (by omega) (by omega) (by omega) (by omega), bI_eq, ← hu, fR_eq (kd_0 h) (rr_0_6 h), cv_eq (kd_18 h), e1, bV_eq]
    exact e2'
  · unfold F_Md_firstIn
    rw [cv_eq (kd_70 h2), tk, bI_eq, if_neg (by decide), cv_eq (kd_70 h2)]
    rcases mCol h2 S2.2.2.2.2.1 hb x1 x2 y1 y2 with ⟨q, e4⟩ | ⟨q, e4⟩
    · rw [e4, bI_eq, if_neg (by decide)]
      exact e3
    · exact absurd g q
end First
