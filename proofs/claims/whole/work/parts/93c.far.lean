/-! ===== distances in a frame: within, nearest ===== -/
section FrFar
variable {M M0 : am_M} {S : Sc} {t : Int} {L O : List Int}
theorem sq_bd {v : Int} (h1 : -324 ≤ v) (h2 : v ≤ 324) : 0 ≤ v * v ∧ v * v ≤ 104976 := by
  rcases Int.lt_or_le v 0 with q | q
  · have e : v * v = (-v) * (-v) := by rw [Int.neg_mul_neg]
    rw [e]
    exact ⟨Int.mul_nonneg (by omega) (by omega), Int.mul_le_mul (c := 324) (d := 324) (by omega) (by omega) (by omega) (by omega)⟩
  · exact ⟨Int.mul_nonneg q q, Int.mul_le_mul (c := 324) (d := 324) h2 h2 q (by omega)⟩
noncomputable def dsq (S : Sc) (t x y z c : Int) : Int := (pz S t c 0 - (8 * x + 4)) * (pz S t c 0 - (8 * x + 4)) + (pz S t c 1 - (8 * y + 4)) * (pz S t c 1 - (8 * y + 4)) + (pz S t c 2 - (8 * z + 4)) * (pz S t c 2 - (8 * z + 4))
/-- a cell of the world -/
def inC (S : Sc) (x y z : Int) : Prop := (0 ≤ x ∧ x < sW S 0) ∧ (0 ≤ y ∧ y < sW S 1) ∧ (0 ≤ z ∧ z < sW S 2)
theorem dsq_bd (hk : scOK S) {x y z c : Int} (h : inC S x y z) (hf : inFr S t c) : 0 ≤ dsq S t x y z c ∧ dsq S t x y z c ≤ 314928 := by
  have w0 := hk.1 0 (by omega) (by omega)
  have w1 := hk.1 1 (by omega) (by omega)
  have w2 := hk.1 2 (by omega) (by omega)
  have p0 := pz_b3 hk hf (i := 0) (by omega) (by omega)
  have p1 := pz_b3 hk hf (i := 1) (by omega) (by omega)
  have p2 := pz_b3 hk hf (i := 2) (by omega) (by omega)
  obtain ⟨h0, h1, h2⟩ := h
  have s0 := sq_bd (v := pz S t c 0 - (8 * x + 4)) (by omega) (by omega)
  have s1 := sq_bd (v := pz S t c 1 - (8 * y + 4)) (by omega) (by omega)
  have s2 := sq_bd (v := pz S t c 2 - (8 * z + 4)) (by omega) (by omega)
  unfold dsq
  omega
theorem cFar (h : SH M) (ha : FrA M) (hk : scOK S) (hK : FrK M S t L O) {i : Nat} {c x y z : Int} (hi : L[i]? = some c) : F_Fram_farSquared 45 (iz (i : Int)) (iz x) (iz y) (iz z) M = some (some (.int (iz (dsq S t x y z c))), M) := by
  unfold F_Fram_farSquared dsq
  rw [cv_eq (kd_45 h), show (0 : Int32) = iz 0 from rfl, show (1 : Int32) = iz 1 from rfl, show (2 : Int32) = iz 2 from rfl, show (8 : Int32) = iz 8 from rfl, show (4 : Int32) = iz 4 from rfl, cPlOf h ha hk hK hi (by omega) (by omega), bI_eq, nm_eq, cv_eq (kd_45 h), cPlOf h ha hk hK hi (by omega) (by omega), bI_eq, nm_eq, cv_eq (kd_45 h), cPlOf h ha hk hK hi (by omega) (by omega), bI_eq, nm_eq, iz_mul, iz_mul, iz_mul, iz_add, iz_add, iz_add, iz_sub, iz_sub, iz_sub, iz_mul, iz_mul, iz_mul, iz_add, iz_add]
theorem mSqu (hk : scOK S) (hG : MG M0 M S t L) {i : Nat} {c x y z : Int} (hi : L[i]? = some c) (x1 : -2147483648 ≤ x) (x2 : x < 2147483648) (y1 : -2147483648 ≤ y) (y2 : y < 2147483648) (z1 : -2147483648 ≤ z) (z2 : z < 2147483648) : ∃ M1, F_Md_squares 70 (iz (i : Int)) (iz t) (iz x) (iz y) (iz z) M = some (some (.long (jz (dsq S t x y z c))), M1) ∧ MG M0 M1 S t L := by
  obtain ⟨M1, e1, g1, f1, l1⟩ := mLay1 hk hG hi
  have fr := (md_in hG.2.2.2.1 hi).1
  have p0 := pz_b3 hk fr (i := 0) (by omega) (by omega)
  have p1 := pz_b3 hk fr (i := 1) (by omega) (by omega)
  have p2 := pz_b3 hk fr (i := 2) (by omega) (by omega)
  refine ⟨M1, ?_, g1⟩
  unfold F_Md_squares dsq
  rw [cv_eq (kd_70 hG.1), mCode hG.1 hk hG.2.2.2.1 hi, bI_eq, cv_eq (kd_70 hG.1), e1, bV_eq, fI_eq (kd_70 g1.1), l1.2.1, cv_eq (kd_70 g1.1), iz_sub, show (0 : Int32) = iz 0 from rfl, show (1 : Int32) = iz 1 from rfl, show (2 : Int32) = iz 2 from rfl, mdPl g1.1 g1.2.1 hk fr.1 l1 fr.2.1 fr.2.2 (by omega) (by omega), bI_eq, nm_eq, fI_eq (kd_70 g1.1), l1.2.1, cv_eq (kd_70 g1.1), iz_sub, mdPl g1.1 g1.2.1 hk fr.1 l1 fr.2.1 fr.2.2 (by omega) (by omega), bI_eq, nm_eq, fI_eq (kd_70 g1.1), l1.2.1, cv_eq (kd_70 g1.1), iz_sub, mdPl g1.1 g1.2.1 hk fr.1 l1 fr.2.1 fr.2.2 (by omega) (by omega), bI_eq, nm_eq, jz_i2l (a := pz S t c 0) (by omega) (by omega), jz_i2l (a := pz S t c 1) (by omega) (by omega), jz_i2l (a := pz S t c 2) (by omega) (by omega), jz_i2l x1 x2, jz_i2l y1 y2, jz_i2l z1 z2, show (8 : Int64) = jz 8 from rfl, show (4 : Int64) = jz 4 from rfl, jz_mul, jz_mul, jz_mul, jz_sub, jz_sub, jz_sub, jz_sub, jz_sub, jz_sub, jz_mul, jz_mul, jz_mul, jz_add, jz_add, show pz S t c 0 - 8 * x - 4 = pz S t c 0 - (8 * x + 4) by omega, show pz S t c 1 - 8 * y - 4 = pz S t c 1 - (8 * y + 4) by omega, show pz S t c 2 - 8 * z - 4 = pz S t c 2 - (8 * z + 4) by omega]
/-- a guard's answer -/
def Gd (f : am_M → am_R) (M : am_M) (P : Prop) : Prop := (P ∧ f M = some (some (.int (iz 1)), M)) ∨ (¬ P ∧ f M = some (some (.int (iz 0)), M))
theorem Gd.of {f : am_M → am_R} {P : Prop} [Decidable P] (h : f M = some (some (.int (bz P)), M)) : Gd f M P := by
  by_cases q : P
  · rw [bz_t q] at h; exact Or.inl ⟨q, h⟩
  · rw [bz_f q] at h; exact Or.inr ⟨q, h⟩
theorem cCW (h : SH M) (hc : CS M S) (hb : scB S) {x y z : Int} (x1 : -2147483648 ≤ x) (x2 : x < 2147483648) (y1 : -2147483648 ≤ y) (y2 : y < 2147483648) (z1 : -2147483648 ≤ z) (z2 : z < 2147483648) : Gd (F_Scen_isCellOfWorld 2 (iz x) (iz y) (iz z)) M (inC S x y z) := by
  have wb := hb.2.2.2
  unfold Gd F_Scen_isCellOfWorld inC
  rw [cv_eq (kd_2 h), show (0 : Int32) = iz 0 from rfl, show (1 : Int32) = iz 1 from rfl, show (2 : Int32) = iz 2 from rfl, cIsC h hc (by omega) (by omega) (wb 0 (by omega) (by omega)) x1 x2, bI_eq, bz_if, cv_eq (kd_2 h), cIsC h hc (by omega) (by omega) (wb 1 (by omega) (by omega)) y1 y2, bI_eq, bz_if, cv_eq (kd_2 h), cIsC h hc (by omega) (by omega) (wb 2 (by omega) (by omega)) z1 z2, bI_eq, bz_if]
  by_cases q1 : 0 ≤ x ∧ x < sW S 0
  · rw [if_pos q1]
    by_cases q2 : 0 ≤ y ∧ y < sW S 1
    · rw [if_pos q2]
      by_cases q3 : 0 ≤ z ∧ z < sW S 2
      · rw [if_pos q3]; exact Or.inl ⟨⟨q1, q2, q3⟩, rfl⟩
      · rw [if_neg q3]; exact Or.inr ⟨fun w => q3 w.2.2, rfl⟩
    · rw [if_neg q2]; exact Or.inr ⟨fun w => q2 w.2.1, rfl⟩
  · rw [if_neg q1]; exact Or.inr ⟨fun w => q1 w.1, rfl⟩
theorem mCol (h : SH M) (hm : MS M S) (hb : scB S) {x y : Int} (x1 : -2147483648 ≤ x) (x2 : x < 2147483648) (y1 : -2147483648 ≤ y) (y2 : y < 2147483648) : Gd (F_Md_isColumn 70 (iz x) (iz y)) M ((0 ≤ x ∧ x < sW S 0) ∧ (0 ≤ y ∧ y < sW S 1)) := by
  have w0 := hb.2.2.2 0 (by omega) (by omega)
  have w1 := hb.2.2.2 1 (by omega) (by omega)
  unfold Gd F_Md_isColumn
  rw [fR_eq (kd_70 h) (rr_70_2 h), show (0 : Int32) = iz 0 from rfl, show (1 : Int32) = iz 1 from rfl, mWi h hm (by omega) (by omega), iz_sub, mIn x (sW S 0 - 1) x1 x2 (by omega) (by omega), bI_eq, bz_if, fR_eq (kd_70 h) (rr_70_2 h), mWi h hm (by omega) (by omega), iz_sub, mIn y (sW S 1 - 1) y1 y2 (by omega) (by omega), bI_eq, bz_if]
  by_cases q1 : 0 ≤ x ∧ x ≤ sW S 0 - 1
  · rw [if_pos q1]
    by_cases q2 : 0 ≤ y ∧ y ≤ sW S 1 - 1
    · rw [if_pos q2]; exact Or.inl ⟨by omega, rfl⟩
    · rw [if_neg q2]; exact Or.inr ⟨by omega, rfl⟩
  · rw [if_neg q1]; exact Or.inr ⟨by omega, rfl⟩
theorem mCell3 (h : SH M) (hm : MS M S) (hb : scB S) {x y z : Int} (x1 : -2147483648 ≤ x) (x2 : x < 2147483648) (y1 : -2147483648 ≤ y) (y2 : y < 2147483648) (z1 : -2147483648 ≤ z) (z2 : z < 2147483648) : Gd (F_Md_isCell 70 (iz x) (iz y) (iz z)) M (inC S x y z) := by
  have w2 := hb.2.2.2 2 (by omega) (by omega)
  unfold Gd F_Md_isCell inC
  rw [cv_eq (kd_70 h)]
  rcases mCol h hm hb x1 x2 y1 y2 with ⟨q, e⟩ | ⟨q, e⟩
  · rw [e, bI_eq, if_neg (by decide), fR_eq (kd_70 h) (rr_70_2 h), show (1 : Int32) = iz 1 from rfl, show (2 : Int32) = iz 2 from rfl, mWi h hm (by omega) (by omega), iz_sub, mIn z (sW S 2 - 1) z1 z2 (by omega) (by omega), bI_eq, bz_if0]
    by_cases q2 : 0 ≤ z ∧ z ≤ sW S 2 - 1
    · rw [if_pos q2]; exact Or.inl ⟨⟨q.1, q.2, by omega⟩, rfl⟩
    · rw [if_neg q2]; exact Or.inr ⟨fun w => q2 (by omega), rfl⟩
  · rw [e, bI_eq, if_pos (by decide)]; exact Or.inr ⟨fun w => q ⟨w.1, w.2.1⟩, rfl⟩
theorem ap_within (hI : Inv M) (p1 p2 p3 p4 p5 : Int32) : Ag (F_NS_within 0 p1 p2 p3 p4 p5) (F_Md_within 70 p1 p2 p3 p4 p5) M := by
  obtain ⟨h, -⟩ := id hI
  obtain ⟨S, st, s01, s1, s2, hc, hm, hb, hs, h0⟩ := hI.sc
  obtain ⟨x, x1, x2, rfl⟩ := iz_of p2
  obtain ⟨y, y1, y2, rfl⟩ := iz_of p3
  obtain ⟨z, z1, z2, rfl⟩ := iz_of p4
  obtain ⟨r, r1, r2, rfl⟩ := iz_of p5
  have hMd0 : ∀ M', SH M' → F_Md_isTick 70 p1 M' = some (some (.int (iz 0)), M') → F_Md_within 70 p1 (iz x) (iz y) (iz z) (iz r) M' = some (some (.int (-2)), M') := fun M' h' e => by
    unfold F_Md_within; rw [cv_eq (kd_70 h'), e, bI_eq, if_pos (by decide)]
  have hMg : ∀ M', SH M' → MS M' S → F_Md_isTick 70 p1 M' = some (some (.int (iz 1)), M') → (((0 ≤ r ∧ r ≤ 600) ∧ inC S x y z) ∧ F_Md_within 70 p1 (iz x) (iz y) (iz z) (iz r) M' = bV (F_Md_gathers 70 p1 M') (fun M5 => F_Md_within_L46 fu 70 p1 (iz x) (iz y) (iz z) (iz r) (iz 0) (iz 0) M5)) ∨ (¬ ((0 ≤ r ∧ r ≤ 600) ∧ inC S x y z) ∧ F_Md_within 70 p1 (iz x) (iz y) (iz z) (iz r) M' = some (some (.int (-2)), M')) := fun M' h' m' e => by
    unfold F_Md_within
    rw [cv_eq (kd_70 h'), e, bI_eq, if_neg (by decide), cv_eq (kd_70 h')]
    rcases mCell3 h' m' hb x1 x2 y1 y2 z1 z2 with ⟨q, e2⟩ | ⟨q, e2⟩
    · rw [e2, bI_eq, if_neg (by decide), show (0 : Int64) = jz 0 from rfl, show (600 : Int64) = jz 600 from rfl, mInL r 0 600 r1 r2 (by omega) (by omega) (by omega) (by omega), bI_eq, bz_if0, cv_eq (kd_70 h')]
      by_cases q2 : 0 ≤ r ∧ r ≤ 600
      · rw [if_pos q2]; exact Or.inl ⟨⟨q2, q⟩, rfl⟩
      · rw [if_neg q2]; exact Or.inr ⟨fun w => q2 w.1, rfl⟩
    · rw [e2, bI_eq, if_pos (by decide)]; exact Or.inr ⟨fun w => q w.2, rfl⟩
  have hNg : (((0 ≤ r ∧ r ≤ 600) ∧ inC S x y z) ∧ F_NS_within 0 p1 (iz x) (iz y) (iz z) (iz r) M = bI (F_Fram_shows 45 p1 M) (fun r3 M2 => if r3 = 0 then some (some (.int (-2)), M2) else F_NS_within_L47 fu 0 (iz x) (iz y) (iz z) (iz r) (iz 0) (iz 0) M2)) ∨ (¬ ((0 ≤ r ∧ r ≤ 600) ∧ inC S x y z) ∧ F_NS_within 0 p1 (iz x) (iz y) (iz z) (iz r) M = some (some (.int (-2)), M)) := by
    unfold F_NS_within
    rw [show (0 : Int32) = iz 0 from rfl, show (600 : Int32) = iz 600 from rfl, ifL r1 r2 (by omega) (by omega), ifL (by omega) (by omega) r1 r2, fR_eq (kd_0 h) (rr_0_2 h), cv_eq (kd_2 h)]
    by_cases q0 : r < 0
    · rw [if_pos q0]; exact Or.inr ⟨fun w => by omega, rfl⟩
    rw [if_neg q0]
    by_cases q1 : 600 < r
    · rw [if_pos q1]; exact Or.inr ⟨fun w => by omega, rfl⟩
    rw [if_neg q1]
    rcases cCW h hc hb x1 x2 y1 y2 z1 z2 with ⟨q, e2⟩ | ⟨q, e2⟩
    · rw [e2, bI_eq, if_neg (by decide), fR_eq (kd_0 h) (rr_0_7 h), cv_eq (kd_45 h)]; exact Or.inl ⟨⟨by omega, q⟩, rfl⟩
    · rw [e2, bI_eq, if_pos (by decide)]; exact Or.inr ⟨fun w => q w.2, rfl⟩
  rcases hNg with ⟨g, hNg⟩ | ⟨g, hNg⟩
  rotate_left
  · refine ap_no (mk := Value.int) (v0 := -2) hI hNg ?_
    rcases mTk hI s01 s2 hs p1 with e | ⟨e0, e⟩
    · exact hMd0 M h e
    · rcases hMg M h hm e with ⟨q, -⟩ | ⟨-, q⟩
      · exact absurd q g
      · exact q
  refine ap_frm (mk := Value.int) (v0 := -2) (p := p1) (B := fun M => F_NS_within_L47 fu 0 (iz x) (iz y) (iz z) (iz r) (iz 0) (iz 0) M) (D := fun M => bV (F_Md_gathers 70 p1 M) (fun M5 => F_Md_within_L46 fu 70 p1 (iz x) (iz y) (iz z) (iz r) (iz 0) (iz 0) M5)) hI s01 s1 s2 hs hNg hMd0 (fun M' h' c' e => ?_) (fun t M1 L O pt t1 t2 i1 c1 k1 => ?_)
  · rcases hMg M' h' c'.2.2.2.2.1 e with ⟨-, q⟩ | ⟨q, -⟩
    · exact q
    · exact absurd g q
  ·
    have hk := c1.1
    have h1 := i1.1
    have a1 := i1.2.1
    have cs1 := c1.2.2.2.1
    have ll := fr_len hk k1
    have rr : 0 ≤ r * r ∧ r * r ≤ 360000 := ⟨Int.mul_nonneg g.1.1 g.1.1, Int.mul_le_mul (c := 600) (d := 600) g.1.2 g.1.2 g.1.1 (by omega)⟩
    subst pt
    obtain ⟨eC, qC⟩ := cFold (M1 := M1) (L := L) (fun n (w : Int) i M => F_NS_within_L47 n 0 (iz x) (iz y) (iz z) (iz r) (iz w) i M) (fun x M => some (some (.int (iz x)), M)) (fun _ => True) (cst (fun c => dsq S t x y z c ≤ r * r)) (fun n w qx => by
      show F_NS_within_L47 (n + 1) 0 (iz x) (iz y) (iz z) (iz r) (iz w) (iz (L.length : Int)) M1 = _
      rw [F_NS_within_L47, fR_eq (kd_0 h1) (rr_0_7 h1), fr_l h1 k1, ifE (by omega) (by omega) (by omega) (by omega), if_pos (Int.le_refl _)]) (fun n w i c qx hi => by
      have fi := (fr_in k1 hi).1
      have il := (fr_in k1 hi).2
      have db := dsq_bd hk g.2 fi
      refine ⟨?_, trivial⟩
      show F_NS_within_L47 (n + 1) 0 (iz x) (iz y) (iz z) (iz r) (iz w) (iz (i : Int)) M1 = F_NS_within_L47 n 0 (iz x) (iz y) (iz z) (iz r) (iz (cst (fun c => dsq S t x y z c ≤ r * r) w c)) (iz ((i + 1 : Nat) : Int)) M1
      rw [F_NS_within_L47, fR_eq (kd_0 h1) (rr_0_7 h1), fr_l h1 k1, ifE (by omega) (by omega) (by omega) (by omega), if_neg (by omega), fR_eq (kd_0 h1) (rr_0_7 h1), cv_eq (kd_45 h1), cFar h1 a1 hk k1 hi, bI_eq, iz_mul, ifL (by omega) (by omega) (by omega) (by omega), show (1 : Int32) = iz 1 from rfl, iz_add, iz_add, nm_eq, nm_eq, nm_eq, show ((i : Int) + 1) = ((i + 1 : Nat) : Int) by omega]
      by_cases q1 : r * r < dsq S t x y z c
      · rw [if_pos q1, cst_f (by omega)]
      · rw [if_neg q1, cst_t (by omega)]) (by omega) 0 trivial
    obtain ⟨M2, Lm, e2, g2⟩ := mGth h1 c1 t1 t2
    have lm := md_len hk g2.2.2.2.1
    obtain ⟨M3, e3, qM, g3⟩ := mFold (M0 := M1) (S := S) (t := t) (L := Lm) (fun n (w : Int) i M => F_Md_within_L46 n 70 (iz t) (iz x) (iz y) (iz z) (iz r) (iz w) i M) (fun x M => some (some (.int (iz x)), M)) (fun _ => True) (cst (fun c => dsq S t x y z c ≤ r * r)) (fun n w M qx hG => by
      show F_Md_within_L46 (n + 1) 70 (iz t) (iz x) (iz y) (iz z) (iz r) (iz w) (iz (Lm.length : Int)) M = _
      rw [F_Md_within_L46, md_l hG.1 hG.2.2.2.1, ifE (by omega) (by omega) (by omega) (by omega), if_pos (Int.le_refl _)]) (fun n w i c M qx hG hi => by
      have fi := (md_in hG.2.2.2.1 hi).1
      have il := (md_in hG.2.2.2.1 hi).2
      have db := dsq_bd hk g.2 fi
      obtain ⟨M', y1', z2⟩ := mSqu hk hG hi x1 x2 y1 y2 z1 z2
      refine ⟨M', ?_, trivial, z2⟩
      show F_Md_within_L46 (n + 1) 70 (iz t) (iz x) (iz y) (iz z) (iz r) (iz w) (iz (i : Int)) M = F_Md_within_L46 n 70 (iz t) (iz x) (iz y) (iz z) (iz r) (iz (cst (fun c => dsq S t x y z c ≤ r * r) w c)) (iz ((i + 1 : Nat) : Int)) M'
      rw [F_Md_within_L46, md_l hG.1 hG.2.2.2.1, ifE (by omega) (by omega) (by omega) (by omega), if_neg (by omega), cv_eq (kd_70 hG.1), y1', bL_eq, jz_i2l r1 r2, jz_mul, show (0 : Int32) = iz 0 from rfl, show (1 : Int32) = iz 1 from rfl, iz_add, iz_add, iz_add, nm_eq, nm_eq, nm_eq, nm_eq, Int.add_zero, show ((i : Int) + 1) = ((i + 1 : Nat) : Int) by omega]
      by_cases q1 : r * r < dsq S t x y z c
      · rw [if_pos (show iz 0 < lg_cmp (jz (dsq S t x y z c)) (jz (r * r)) from (cmp_gt0 _ _).mpr ((jz_lt (by omega) (by omega) (by omega) (by omega)).mpr q1)), cst_f (by omega)]
      · rw [if_neg (show ¬ iz 0 < lg_cmp (jz (dsq S t x y z c)) (jz (r * r)) from fun q => q1 ((jz_lt (by omega) (by omega) (by omega) (by omega)).mp ((cmp_gt0 _ _).mp q))), cst_t (by omega)]) (by omega) 0 trivial g2
    rw [two_cnt _ (gf_perm g2.2.2.2.1 k1.1)] at e3
    refine ⟨_, M1, M3, eC, h1, c1, ?_, i1.q g3.2.2.2.2⟩
    show bV (F_Md_gathers 70 (iz t) M1) _ = _
    rw [e2, bV_eq]
    exact e3
end FrFar
