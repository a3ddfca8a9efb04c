/-! ===== edges, over, reach, kin ===== -/
theorem floorDiv_eq {M : am_M} {x y : Int} (h1 : -1000000000 ≤ x) (h2 : x < 1000000000) (h3 : 0 < y) (h4 : y < 1000000000) : F_Math_floorDiv (iz x) (iz y) M = some (some (.int (iz (x / y))), M) := by
  unfold F_Math_floorDiv
  have z0 : (0 : Int32) = iz 0 := rfl
  have sg : 0 ≤ (iz x ^^^ iz y) ↔ 0 ≤ x := by
    rw [xor_sg, z0, iz_le (by omega) (by omega) (by omega) (by omega), iz_le (by omega) (by omega) (by omega) (by omega)]
    constructor
    · intro q; exact q.mpr (by omega)
    · intro q; exact ⟨fun _ => by omega, fun _ => q⟩
  rw [dZ_eq h3 (by omega), nm_eq, iz_div (by omega) (by omega) h3 (by omega)]
  by_cases hx : 0 ≤ x
  · rw [if_pos (sg.mpr hx), Int.tdiv_eq_ediv_of_nonneg hx]
  · have b := tmod_neg h3 (Int.not_le.mp hx)
    have e := Int.mul_tdiv_add_tmod x y
    have e2 := emod_tmod h3 (Int.not_le.mp hx)
    have e3 := Int.mul_ediv_add_emod x y
    rw [if_neg (fun q => hx (sg.mp q)), iz_mul, show (1 : Int32) = iz 1 from rfl, iz_sub]
    have b1 : x ≤ y * x.tdiv y := by omega
    have b2 : y * x.tdiv y < x + y := by omega
    rw [Int.mul_comm] at b1 b2
    rw [ifQ (by omega) (by omega) (by omega) (by omega)]
    by_cases ht : x.tmod y = 0
    · rw [if_pos ht] at e2
      rw [if_pos (by rw [Int.mul_comm]; omega)]
      have : y * (x / y) = y * x.tdiv y := by omega
      rw [Int.eq_of_mul_eq_mul_left (by omega) this]
    · rw [if_neg ht] at e2
      rw [if_neg (fun q => ht (by rw [Int.mul_comm] at q; omega))]
      have : y * (x / y) = y * (x.tdiv y - 1) := by rw [Int.mul_sub]; omega
      rw [Int.eq_of_mul_eq_mul_left (by omega) this]
def az (x : Int) : Int := if 0 ≤ x then x else -x
theorem abs_eq {M : am_M} {x : Int} (h1 : -2147483648 ≤ x) (h2 : x < 2147483648) : F_Math_abs (iz x) M = some (some (.int (iz (az x))), M) := by
  unfold F_Math_abs az
  rw [show (0 : Int32) = iz 0 from rfl, ifE (by omega) (by omega) h1 h2, iz_neg]
  split <;> rfl
noncomputable def cr1 (S : Sc) (p : Sk) (a i : Int) : Int := az (raw S p i a / wl S i - raw S p i (a - 1) / wl S i)
noncomputable def crs (S : Sc) (p : Sk) (a : Int) : Int := if sK S (kKd p) 5 = 2 then 0 else 0 + cr1 S p a 0 + cr1 S p a 1 + cr1 S p a 2
theorem quo_bd {x y : Int} (h1 : -20000 ≤ x) (h2 : x ≤ 20000) (h3 : 1 ≤ y) : -20000 ≤ x / y ∧ x / y ≤ 20000 := by
  constructor
  · rw [Int.le_ediv_iff_mul_le (by omega)]
    omega
  · have := Int.ediv_le_ediv (c := y) (by omega) h2
    have := Int.ediv_le_self (a := 20000) y (by omega)
    omega
theorem cr1_bd {S : Sc} (hk : scOK S) {p : Sk} (hp : skG S p) {a i : Int} (h1 : 1 ≤ a) (h2 : a ≤ 61) (h3 : 0 ≤ i) (h4 : i < 3) : (-20000 ≤ raw S p i a / wl S i ∧ raw S p i a / wl S i ≤ 20000) ∧ (-20000 ≤ raw S p i (a - 1) / wl S i ∧ raw S p i (a - 1) / wl S i ≤ 20000) ∧ 0 ≤ cr1 S p a i ∧ cr1 S p a i ≤ 40000 := by
  have w := wl_bd hk h3 h4
  have bd := hp.bd hk h3 h4
  have r1 := raw_bd hk hp.1.1 bd.1 bd.2 (a := a) (by omega) h2
  have r2 := raw_bd hk hp.1.1 bd.1 bd.2 (a := a - 1) (by omega) (by omega)
  have q1 := quo_bd r1.1 r1.2 (y := wl S i) (by omega)
  have q2 := quo_bd r2.1 r2.2 (y := wl S i) (by omega)
  refine ⟨q1, q2, ?_⟩
  unfold cr1 az
  split <;> omega
theorem crs_bd {S : Sc} (hk : scOK S) {p : Sk} (hp : skG S p) {a : Int} (h1 : 1 ≤ a) (h2 : a ≤ 61) : 0 ≤ crs S p a ∧ crs S p a ≤ 120000 := by
  have := cr1_bd hk hp h1 h2 (i := 0) (by omega) (by omega)
  have := cr1_bd hk hp h1 h2 (i := 1) (by omega) (by omega)
  have := cr1_bd hk hp h1 h2 (i := 2) (by omega) (by omega)
  unfold crs
  split <;> omega
section Edges
variable {M : am_M} {S : Sc}
theorem cEdgesAt (h : SH M) (hc : CS M S) (hk : scOK S) {b : Nat} (hs : SpA M b) {p : Sk} (hp : skG S p) (hP : CpP M S b p) {a : Int} (h1 : 1 ≤ a) (h2 : a ≤ 61) : F_Sprk_edgesAt b (iz a) M = some (some (.int (iz (crs S p a))), M) := by
  obtain ⟨m, hm⟩ : ∃ m, fu = m + 1 + 1 + 1 + 1 := ⟨fu - 4, by have := fu_ge; omega⟩
  unfold F_Sprk_edgesAt crs
  have e5 := (hk.2.2.2.2.1 _ hp.1.1.1 hp.1.1.2).2.2.2.2.2.1
  by_cases g : sK S (kKd p) 5 = 2
  · rw [if_pos g, hm, F_Sprk_edgesAt_L4, if_neg (by decide), fI_eq hs.1, hP.2.2.1, g, if_pos (by decide)]; rfl
  · have step : ∀ (n : Nat) (v i : Int), 0 ≤ i → i < 3 → F_Sprk_edgesAt_L4 (n + 1) b (iz a) (iz v) (iz i) M = F_Sprk_edgesAt_L4 n b (iz a) (iz (v + cr1 S p a i)) (iz (i + 1)) M := fun n v i i1 i2 => by
      have w := wl_bd hk i1 i2
      have bd := hp.bd hk i1 i2
      have r1 := raw_bd hk hp.1.1 bd.1 bd.2 (a := a) (by omega) h2
      have r2 := raw_bd hk hp.1.1 bd.1 bd.2 (a := a - 1) (by omega) (by omega)
      have q := cr1_bd hk hp h1 h2 i1 i2
      have ww : sW S i * 8 = wl S i := by unfold wl; omega
      rw [F_Sprk_edgesAt_L4, show (3 : Int32) = iz 3 from rfl, ifE (by omega) (by omega) (by omega) (by omega), if_neg (by omega), fI_eq hs.1, hP.2.2.1, show (2 : Int32) = iz 2 from rfl, ifQ (by omega) (by omega) (by omega) (by omega), if_neg g, fR_eq hs.1 hs.2.1, cv_eq (kd_2 h), cW h hc i1 i2, bI_eq, show (8 : Int32) = iz 8 from rfl, show (1 : Int32) = iz 1 from rfl, iz_mul, ww, max_eq (by omega) (by omega) (by omega) (by omega), bI_eq, Int.max_eq_right (by omega), cv_eq hs.1, cFree hk hs hP hp.1.1 i1 i2 (by omega) h2, bI_eq, floorDiv_eq (by omega) (by omega) (by omega) (by omega), bI_eq, cv_eq hs.1, iz_sub, cFree hk hs hP hp.1.1 i1 i2 (by omega) (by omega), bI_eq, floorDiv_eq (by omega) (by omega) (by omega) (by omega), bI_eq, iz_sub, abs_eq (by omega) (by omega), bI_eq, iz_add, iz_add]
      rfl
    rw [if_neg g, hm, show (0 : Int32) = iz 0 from rfl, step _ _ 0 (by omega) (by omega), step _ _ (0 + 1) (by omega) (by omega), step _ _ (0 + 1 + 1) (by omega) (by omega), F_Sprk_edgesAt_L4, if_pos (by decide)]
    rfl
theorem mOverAt (h : SH M) (hc : MS M S) (hk : scOK S) {p : Sk} (hp : skG S p) (hP : MdP M p) {a : Int} (h1 : 1 ≤ a) (h2 : a ≤ 61) : F_Md_overAt 70 (iz a) M = some (some (.int (iz (crs S p a))), M) := by
  obtain ⟨m, hm⟩ : ∃ m, fu = m + 1 + 1 + 1 + 1 := ⟨fu - 4, by have := fu_ge; omega⟩
  have e5 := (hk.2.2.2.2.1 _ hp.1.1.1 hp.1.1.2).2.2.2.2.2.1
  unfold F_Md_overAt crs
  rw [cv_eq (kd_70 h), mEdge h hc hk hP.1 hp.1.1, bI_eq, show (2 : Int32) = iz 2 from rfl, ifQ (by omega) (by omega) (by omega) (by omega)]
  by_cases g : sK S (kKd p) 5 = 2
  · rw [if_pos g, if_pos g]; rfl
  · have step : ∀ (n : Nat) (v i : Int), 0 ≤ i → i < 3 → F_Md_overAt_L14 (n + 1) 70 (iz a) (iz v) (iz i) M = F_Md_overAt_L14 n 70 (iz a) (iz (v + cr1 S p a i)) (iz (i + 1)) M := fun n v i i1 i2 => by
      have w := wl_bd hk i1 i2
      have bd := hp.bd hk i1 i2
      have r1 := raw_bd hk hp.1.1 bd.1 bd.2 (a := a) (by omega) h2
      have r2 := raw_bd hk hp.1.1 bd.1 bd.2 (a := a - 1) (by omega) (by omega)
      have q := cr1_bd hk hp h1 h2 i1 i2
      rw [F_Md_overAt_L14, show (3 : Int32) = iz 3 from rfl, ifE (by omega) (by omega) (by omega) (by omega), if_neg (by omega), cv_eq (kd_70 h), mRaw h hc hk hP hp.1.1 i1 i2 (by omega) h2, bI_eq, cv_eq (kd_70 h), mWl h hc i1 i2, bI_eq, floorDiv_eq (by omega) (by omega) (by omega) (by omega), bI_eq, cv_eq (kd_70 h), show (1 : Int32) = iz 1 from rfl, iz_sub, mRaw h hc hk hP hp.1.1 i1 i2 (by omega) (by omega), bI_eq, cv_eq (kd_70 h), mWl h hc i1 i2, bI_eq, floorDiv_eq (by omega) (by omega) (by omega) (by omega), bI_eq, iz_sub, abs_eq (by omega) (by omega), bI_eq, iz_add, iz_add]
      rfl
    rw [if_neg g, if_neg g, hm, show (0 : Int32) = iz 0 from rfl, step _ _ 0 (by omega) (by omega), step _ _ (0 + 1) (by omega) (by omega), step _ _ (0 + 1 + 1) (by omega) (by omega), F_Md_overAt_L14, if_pos (by decide)]
    rfl
/-- a question that finds the spark first -/
theorem ap_fd {NS Md : am_M → am_R} {K : Nat → am_M → am_R} {G : am_M → am_R} {c : Int32} {v0 : Int32} (h : Inv M) (hN : ∀ M, NS M = fR M 0 12 8 (fun b1 => cv M b1 4 ( bR (F_Find_find b1 c M) (fun M2 => some (some (.int v0), M2)) (fun b3 M2 => K b3 M2)))) (hD : ∀ M, Md M = cv M 70 13 ( bI (F_Md_isSpark 70 c M) (fun r2 M1 => if r2 = 0 then (some (some (.int v0), M1)) else G M1))) (hb : ∀ S z b M1, c = iz z → SH M1 → Sc1 M1 S → isSp S z → SpA M1 b → 49 < b → b ≤ 56 → CpL M1 S b (lay S z) z (gen z) → ∃ v M2 M3, K b M1 = some (some (.int v), M2) ∧ Fr ASc M1 M2 ∧ G M2 = some (some (.int v), M3) ∧ Fr ASc M2 M3) : Ag NS Md M := by
  obtain ⟨hS, -⟩ := id h
  rcases one_fd h c (Or.inl rfl) with ⟨a, b⟩ | ⟨S, z, b, M1, rfl, hs1, hs, u1, fr, -, sp, b1, b2, hL⟩
  · refine Ag.p h (v := v0) ?_ ?_
    · rw [hN, fR_eq (kd_0 hS) (rr_0_8 hS), cv_eq (kd_49 hS), a, bR_null]
    · rw [hD, cv_eq (kd_70 hS), b, bI_eq, if_pos (by decide)]
  · obtain ⟨v, M2, M3, q1, q2, q3, q4⟩ := hb S z b M1 rfl (hS.fr fr) (hs1.q h.2.1 fr) hs sp b1 b2 hL
    have fr2 := fr.trans q2
    have hS2 := hS.fr fr2
    refine Ag.q h (v := v) ?_ fr2 ?_ q4
    · rw [hN, fR_eq (kd_0 hS) (rr_0_8 hS), cv_eq (kd_49 hS), u1, bR_eq, q1]
    · rw [hD, cv_eq (kd_70 hS2), mYes hS2 (hs1.q h.2.1 fr2) hs, bI_eq, if_neg (by decide), q3]
/-- a sum over ages -/
def smF (f : Int → Int) : Nat → Int → Int → Int
  | 0, _, v => v
  | n + 1, a, v => smF f n (a + 1) (v + f a)
theorem cEdL {b : Nat} (h : SH M) (hc : CS M S) (hk : scOK S) (hs : SpA M b) {p : Sk} {c g : Int} (hp : skG S p) (hL : CpL M S b p c g) (hbn : kBn p < 100000) : ∀ (r n : Nat) (a v : Int), 1 ≤ a → a + r = kEn p - kBn p → r < n → F_NS_edges_L21 n b (iz v) (iz a) M = some (some (.int (iz (smF (crs S p) r a v))), M)
  | r, 0, a, v, h1, h2, h3 => by omega
  | 0, n + 1, a, v, h1, h2, h3 => by
    obtain ⟨⟨a1, a2, a3, a4, a5, a6⟩, -⟩ := id hp
    rw [F_NS_edges_L21, fI_eq hs.1, hL.2.2.2.2, fI_eq hs.1, hL.2.2.2.1, iz_sub, ifE (by omega) (by omega) (by omega) (by omega), if_pos (by omega)]; rfl
  | r + 1, n + 1, a, v, h1, h2, h3 => by
    obtain ⟨⟨a1, a2, a3, a4, a5, a6⟩, -⟩ := id hp
    rw [F_NS_edges_L21, fI_eq hs.1, hL.2.2.2.2, fI_eq hs.1, hL.2.2.2.1, iz_sub, ifE (by omega) (by omega) (by omega) (by omega), if_neg (by omega), cv_eq hs.1, cEdgesAt h hc hk hs hp hL.1 h1 (by omega), bI_eq, iz_add, nm_eq, show (1 : Int32) = iz 1 from rfl, iz_add, nm_eq, cEdL h hc hk hs hp hL hbn r n (a + 1) _ (by omega) (by omega) (by omega)]
    rfl
theorem mEdL (h : SH M) (hc : MS M S) (hk : scOK S) {p : Sk} (hp : skG S p) (hL : MdL M p) (hbn : kBn p < 100000) : ∀ (r n : Nat) (a v : Int), 1 ≤ a → a + r = kEn p - kBn p → r < n → F_Md_edges_L20 n 70 (iz v) (iz a) M = some (some (.int (iz (smF (crs S p) r a v))), M)
  | r, 0, a, v, h1, h2, h3 => by omega
  | 0, n + 1, a, v, h1, h2, h3 => by
    obtain ⟨⟨a1, a2, a3, a4, a5, a6⟩, -⟩ := id hp
    rw [F_Md_edges_L20, fI_eq (kd_70 h), hL.2.2, fI_eq (kd_70 h), hL.2.1, iz_sub, ifE (by omega) (by omega) (by omega) (by omega), if_pos (by omega)]; rfl
  | r + 1, n + 1, a, v, h1, h2, h3 => by
    obtain ⟨⟨a1, a2, a3, a4, a5, a6⟩, -⟩ := id hp
    rw [F_Md_edges_L20, fI_eq (kd_70 h), hL.2.2, fI_eq (kd_70 h), hL.2.1, iz_sub, ifE (by omega) (by omega) (by omega) (by omega), if_neg (by omega), cv_eq (kd_70 h), mOverAt h hc hk hp hL.1 h1 (by omega), bI_eq, iz_add, nm_eq, show (1 : Int32) = iz 1 from rfl, iz_add, nm_eq, mEdL h hc hk hp hL hbn r n (a + 1) _ (by omega) (by omega) (by omega)]
    rfl
theorem ap_edges (h : Inv M) (c : Int32) : Ag (F_NS_edges 0 c) (F_Md_edges 70 c) M := by
  refine ap_fd h (K := fun b M => F_NS_edges_L21 fu b 0 1 M) (G := fun M => cv M 70 13 ( bV (F_Md_lays 70 c M) (fun M3 => F_Md_edges_L20 fu 70 0 1 M3))) (c := c) (v0 := -2) (fun M => rfl) (fun M => rfl) ?_
  intro S z b M1 ez hS hs1 hs sp b1 b2 hL
  obtain ⟨hk, s1, s2, hc, hm, -⟩ := id hs1
  obtain ⟨M2, u2, fr2, hm2⟩ := mLays hS hm hk hs
  have g := lay_g hk hs
  have lb := lay_bn hk hs
  obtain ⟨⟨a1, a2, a3, a4, a5, a6⟩, -⟩ := id g
  have fg := fu_ge
  have hS2 := hS.fr fr2
  obtain ⟨r, hr⟩ : ∃ r : Nat, 1 + (r : Int) = kEn (lay S z) - kBn (lay S z) := ⟨(kEn (lay S z) - kBn (lay S z) - 1).toNat, by omega⟩
  refine ⟨_, M1, M2, cEdL hS hc hk sp g hL (by omega) r fu 1 0 (by omega) hr (by omega), Fr.refl _, ?_, fr2.mono ALd_ASc⟩
  rw [cv_eq (kd_70 hS), ez, u2, bV_eq]
  exact mEdL hS2 (hm.lays fr2) hk g hm2 (by omega) r fu 1 0 (by omega) hr (by omega)
/-- the first age with an edge -/
def ovF (w : Int) (f : Int → Int) : Nat → Int → Int
  | 0, _ => -1
  | n + 1, a => if f a ≤ 0 then ovF w f n (a + 1) else w + a
theorem cOvL {b : Nat} (h : SH M) (hc : CS M S) (hk : scOK S) (hs : SpA M b) {p : Sk} {c g : Int} (hp : skG S p) (hL : CpL M S b p c g) (hbn : kBn p < 100000) : ∀ (r n : Nat) (a : Int), 1 ≤ a → a + r = kEn p - kBn p → r < n → F_NS_over_L18 n b (iz a) M = some (some (.int (iz (ovF (kBn p) (crs S p) r a))), M)
  | r, 0, a, h1, h2, h3 => by omega
  | 0, n + 1, a, h1, h2, h3 => by
    obtain ⟨⟨a1, a2, a3, a4, a5, a6⟩, -⟩ := id hp
    rw [F_NS_over_L18, fI_eq hs.1, hL.2.2.2.2, fI_eq hs.1, hL.2.2.2.1, iz_sub, ifE (by omega) (by omega) (by omega) (by omega), if_pos (by omega)]; rfl
  | r + 1, n + 1, a, h1, h2, h3 => by
    obtain ⟨⟨a1, a2, a3, a4, a5, a6⟩, -⟩ := id hp
    have cb := crs_bd hk hp h1 (by omega)
    rw [F_NS_over_L18, fI_eq hs.1, hL.2.2.2.2, fI_eq hs.1, hL.2.2.2.1, iz_sub, ifE (by omega) (by omega) (by omega) (by omega), if_neg (by omega), cv_eq hs.1, cEdgesAt h hc hk hs hp hL.1 h1 (by omega), bI_eq, show (0 : Int32) = iz 0 from rfl, ifE (by omega) (by omega) (by omega) (by omega), nm_eq, show (1 : Int32) = iz 1 from rfl, iz_add, cOvL h hc hk hs hp hL hbn r n (a + 1) (by omega) (by omega) (by omega), fI_eq hs.1, hL.2.2.2.1, iz_add]
    rw [ovF]
    split <;> rfl
theorem mOvL (h : SH M) (hc : MS M S) (hk : scOK S) {p : Sk} (hp : skG S p) (hL : MdL M p) (hbn : kBn p < 100000) : ∀ (r n : Nat) (a : Int), 1 ≤ a → a + r = kEn p - kBn p → r < n → F_Md_over_L18 n 70 (iz a) M = some (some (.int (iz (ovF (kBn p) (crs S p) r a))), M)
  | r, 0, a, h1, h2, h3 => by omega
  | 0, n + 1, a, h1, h2, h3 => by
    obtain ⟨⟨a1, a2, a3, a4, a5, a6⟩, -⟩ := id hp
    rw [F_Md_over_L18, fI_eq (kd_70 h), hL.2.2, fI_eq (kd_70 h), hL.2.1, iz_sub, ifE (by omega) (by omega) (by omega) (by omega), if_pos (by omega)]; rfl
  | r + 1, n + 1, a, h1, h2, h3 => by
    obtain ⟨⟨a1, a2, a3, a4, a5, a6⟩, -⟩ := id hp
    have cb := crs_bd hk hp h1 (by omega)
    rw [F_Md_over_L18, fI_eq (kd_70 h), hL.2.2, fI_eq (kd_70 h), hL.2.1, iz_sub, ifE (by omega) (by omega) (by omega) (by omega), if_neg (by omega), cv_eq (kd_70 h), mOverAt h hc hk hp hL.1 h1 (by omega), bI_eq, show (0 : Int32) = iz 0 from rfl, ifE (by omega) (by omega) (by omega) (by omega), nm_eq, show (1 : Int32) = iz 1 from rfl, iz_add, mOvL h hc hk hp hL hbn r n (a + 1) (by omega) (by omega) (by omega), fI_eq (kd_70 h), hL.2.1, iz_add]
    rw [ovF]
    split <;> rfl
theorem ap_over (h : Inv M) (c : Int32) : Ag (F_NS_over 0 c) (F_Md_over 70 c) M := by
  refine ap_fd h (K := fun b M => F_NS_over_L18 fu b 1 M) (G := fun M => cv M 70 13 ( bV (F_Md_lays 70 c M) (fun M3 => F_Md_over_L18 fu 70 1 M3))) (c := c) (v0 := -2) (fun M => rfl) (fun M => rfl) ?_
  intro S z b M1 ez hS hs1 hs sp b1 b2 hL
  obtain ⟨hk, s1, s2, hc, hm, -⟩ := id hs1
  obtain ⟨M2, u2, fr2, hm2⟩ := mLays hS hm hk hs
  have g := lay_g hk hs
  have lb := lay_bn hk hs
  obtain ⟨⟨a1, a2, a3, a4, a5, a6⟩, -⟩ := id g
  have fg := fu_ge
  have hS2 := hS.fr fr2
  obtain ⟨r, hr⟩ : ∃ r : Nat, 1 + (r : Int) = kEn (lay S z) - kBn (lay S z) := ⟨(kEn (lay S z) - kBn (lay S z) - 1).toNat, by omega⟩
  refine ⟨_, M1, M2, cOvL hS hc hk sp g hL (by omega) r fu 1 (by omega) hr (by omega), Fr.refl _, ?_, fr2.mono ALd_ASc⟩
  rw [cv_eq (kd_70 hS), ez, u2, bV_eq]
  exact mOvL hS2 (hm.lays fr2) hk g hm2 (by omega) r fu 1 (by omega) hr (by omega)
theorem ap_kin (h : Inv M) (c d : Int32) : Ag (F_NS_kin 0 c d) (F_Md_kin 70 c d) M := by
  obtain ⟨hS, -⟩ := id h
  rcases one_cs h c with ⟨a, b⟩ | ⟨S, z, rfl, hs1, hs, a, b⟩
  · refine Ag.p h (v := -2) ?_ ?_
    · unfold F_NS_kin; rw [fR_eq (kd_0 hS) (rr_0_2 hS), cv_eq (kd_2 hS), a, bI_eq, if_pos (by decide)]
    · unfold F_Md_kin; rw [cv_eq (kd_70 hS), b, bI_eq, if_pos (by decide)]
  rcases one_cs h d with ⟨a', b'⟩ | ⟨S', y, rfl, hs1', hs', a', b'⟩
  · refine Ag.p h (v := -2) ?_ ?_
    · unfold F_NS_kin; rw [fR_eq (kd_0 hS) (rr_0_2 hS), cv_eq (kd_2 hS), a, bI_eq, if_neg (by decide), fR_eq (kd_0 hS) (rr_0_2 hS), cv_eq (kd_2 hS), a', bI_eq, if_pos (by decide)]
    · unfold F_Md_kin; rw [cv_eq (kd_70 hS), b, bI_eq, if_neg (by decide), cv_eq (kd_70 hS), b', bI_eq, if_pos (by decide)]
  have rt := sp_rt hs1.1 hs
  have c0 := hs.1
  have rt' := sp_rt hs1'.1 hs'
  have c0' := hs'.1
  have ec : F_NS_kin 0 (iz z) (iz y) M = (if z = y then some (some (.int (iz z)), M) else if z / 16 = y / 16 then some (some (.int (iz (z - z % 16))), M) else if z / 256 = y / 256 then some (some (.int (iz (z - z % 256))), M) else some (some (.int (iz (-1))), M)) := by
    unfold F_NS_kin
    rw [fR_eq (kd_0 hS) (rr_0_2 hS), cv_eq (kd_2 hS), a, bI_eq, if_neg (by decide), fR_eq (kd_0 hS) (rr_0_2 hS), cv_eq (kd_2 hS), a', bI_eq, if_neg (by decide), ifQ (by omega) (by omega) (by omega) (by omega), show (4 : Int32) = iz 4 from rfl, show (8 : Int32) = iz 8 from rfl, show (31 : Int32) = iz 31 from rfl, show (-16 : Int32) = iz (-16) from rfl, show (-256 : Int32) = iz (-256) from rfl, show (-1 : Int32) = iz (-1) from rfl, iz_s4 c0 (by omega), iz_s4 c0' (by omega), iz_s8 c0 (by omega), iz_s8 c0' (by omega), iz_n16 c0 (by omega), iz_n256 c0 (by omega), ifQ (by omega) (by omega) (by omega) (by omega), ifQ (by omega) (by omega) (by omega) (by omega)]
  have em : F_Md_kin 70 (iz z) (iz y) M = (if z / 256 = y / 256 then (if z = y then some (some (.int (iz z)), M) else if z / 16 = y / 16 then some (some (.int (iz (z - z % 16))), M) else some (some (.int (iz (z - z % 256))), M)) else some (some (.int (iz (-1))), M)) := by
    unfold F_Md_kin
    rw [cv_eq (kd_70 hS), b, bI_eq, if_neg (by decide), cv_eq (kd_70 hS), b', bI_eq, if_neg (by decide), show (256 : Int32) = iz 256 from rfl, show (16 : Int32) = iz 16 from rfl, show (-1 : Int32) = iz (-1) from rfl, iz_emod (a := z) (b := 16) (by omega) (by omega) (by omega) (by omega), iz_emod (a := z) (b := 256) (by omega) (by omega) (by omega) (by omega), iz_ediv (a := z) (b := 256) (by omega) (by omega) (by omega) (by omega), iz_ediv (a := y) (b := 256) (by omega) (by omega) (by omega) (by omega), iz_ediv (a := z) (b := 16) (by omega) (by omega) (by omega) (by omega), iz_ediv (a := y) (b := 16) (by omega) (by omega) (by omega) (by omega), iz_sub, iz_sub, ifQ (by omega) (by omega) (by omega) (by omega), ifQ (by omega) (by omega) (by omega) (by omega), ifQ (by omega) (by omega) (by omega) (by omega)]
  by_cases g1 : z = y
  · exact Ag.p h (by rw [ec, if_pos g1]) (by rw [em, if_pos (by omega), if_pos g1])
  · by_cases g2 : z / 16 = y / 16
    · exact Ag.p h (by rw [ec, if_neg g1, if_pos g2]) (by rw [em, if_pos (by omega), if_neg g1, if_pos g2])
    · by_cases g3 : z / 256 = y / 256
      · exact Ag.p h (by rw [ec, if_neg g1, if_neg g2, if_pos g3]) (by rw [em, if_pos g3, if_neg g1, if_neg g2])
      · exact Ag.p h (by rw [ec, if_neg g1, if_neg g2, if_neg g3]) (by rw [em, if_neg g3])
end Edges
