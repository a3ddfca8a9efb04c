/-! ===== reach, cellsOf, meets ===== -/
section Cells
variable {M : am_M} {S : Sc}
def rcF (k : Int) (f : Int → Int) : Nat → Int → Int → Int
  | 0, _, v => v
  | n + 1, a, v => rcF k f n (a + 1) (if k = 0 then min v (f a) else max v (f a))
theorem cRcL {b : Nat} (h : SH M) (hc : CS M S) (hk : scOK S) (hs : SpA M b) {p : Sk} {c g : Int} (hp : skG S p) (hL : CpL M S b p c g) (hbn : kBn p < 100000) {i k : Int} (i1 : 0 ≤ i) (i2 : i < 3) (k1 : 0 ≤ k) (k2 : k ≤ 1) : ∀ (r n : Nat) (a v : Int), 1 ≤ a → a + r = kEn p - kBn p → r < n → 0 ≤ v → v < 320 → F_NS_reach_L46 n (iz i) (iz k) b (iz v) (iz a) M = some (some (.int (iz (rcF k (plc S p i) r a v))), M)
  | r, 0, a, v, h1, h2, h3, h4, h5 => by omega
  | 0, n + 1, a, v, h1, h2, h3, h4, h5 => by
    obtain ⟨⟨a1, a2, a3, a4, a5, a6⟩, -⟩ := id hp
    rw [F_NS_reach_L46, fI_eq hs.1, hL.2.2.2.2, fI_eq hs.1, hL.2.2.2.1, iz_sub, ifE (by omega) (by omega) (by omega) (by omega), if_pos (by omega)]; rfl
  | r + 1, n + 1, a, v, h1, h2, h3, h4, h5 => by
    obtain ⟨⟨a1, a2, a3, a4, a5, a6⟩, -⟩ := id hp
    have bd := hp.bd hk i1 i2
    have w := wl_bd hk i1 i2
    have pb := plc_in hk hp i1 i2 (a := a) (by omega) (by omega)
    have ih := fun v => cRcL h hc hk hs hp hL hbn i1 i2 k1 k2 r n (a + 1) v (by omega) (by omega) (by omega)
    rw [F_NS_reach_L46, fI_eq hs.1, hL.2.2.2.2, fI_eq hs.1, hL.2.2.2.1, iz_sub, ifE (by omega) (by omega) (by omega) (by omega), if_neg (by omega), cv_eq hs.1, cPlc h hc hk hs hL.1 a1 bd.1 bd.2 i1 i2 (by omega) (by omega), bI_eq, show (0 : Int32) = iz 0 from rfl, ifQ (by omega) (by omega) (by omega) (by omega), min_eq (by omega) (by omega) (by omega) (by omega), bI_eq, max_eq (by omega) (by omega) (by omega) (by omega), bI_eq, nm_eq, nm_eq, show (1 : Int32) = iz 1 from rfl, iz_add, ih _ (by omega) (by omega), ih _ (by omega) (by omega), rcF]
    split <;> rfl
theorem mRcL (h : SH M) (hc : MS M S) (hk : scOK S) {p : Sk} (hp : skG S p) (hL : MdL M p) (hbn : kBn p < 100000) {i k : Int} (i1 : 0 ≤ i) (i2 : i < 3) (k1 : 0 ≤ k) (k2 : k ≤ 1) : ∀ (r n : Nat) (a v : Int), 1 ≤ a → a + r = kEn p - kBn p → r < n → 0 ≤ v → v < 320 → F_Md_reach_L49 n 70 (iz i) (iz k) (iz v) (iz a) M = some (some (.int (iz (rcF k (plc S p i) r a v))), M)
  | r, 0, a, v, h1, h2, h3, h4, h5 => by omega
  | 0, n + 1, a, v, h1, h2, h3, h4, h5 => by
    obtain ⟨⟨a1, a2, a3, a4, a5, a6⟩, -⟩ := id hp
    rw [F_Md_reach_L49, fI_eq (kd_70 h), hL.2.2, fI_eq (kd_70 h), hL.2.1, iz_sub, ifE (by omega) (by omega) (by omega) (by omega), if_pos (by omega)]; rfl
  | r + 1, n + 1, a, v, h1, h2, h3, h4, h5 => by
    obtain ⟨⟨a1, a2, a3, a4, a5, a6⟩, -⟩ := id hp
    have bd := hp.bd hk i1 i2
    have w := wl_bd hk i1 i2
    have pb := plc_in hk hp i1 i2 (a := a) (by omega) (by omega)
    have ih := fun v => mRcL h hc hk hp hL hbn i1 i2 k1 k2 r n (a + 1) v (by omega) (by omega) (by omega)
    rw [F_Md_reach_L49, fI_eq (kd_70 h), hL.2.2, fI_eq (kd_70 h), hL.2.1, iz_sub, ifE (by omega) (by omega) (by omega) (by omega), if_neg (by omega), cv_eq (kd_70 h), cv_eq (kd_70 h), mPlc h hc hk hL.1 a1 bd.1 bd.2 i1 i2 (by omega) (by omega), bI_eq, bI_eq, show (0 : Int32) = iz 0 from rfl, ifQ (by omega) (by omega) (by omega) (by omega), min_eq (by omega) (by omega) (by omega) (by omega), bI_eq, max_eq (by omega) (by omega) (by omega) (by omega), bI_eq, nm_eq, nm_eq, show (1 : Int32) = iz 1 from rfl, iz_add, ih _ (by omega) (by omega), ih _ (by omega) (by omega), rcF]
    split <;> rfl
theorem ap_reach (h : Inv M) (c i k : Int32) : Ag (F_NS_reach 0 c i k) (F_Md_reach 70 c i k) M := by
  refine ap_fd h (K := fun b3 M2 => bI (F_NS_isAxis i M2) (fun r5 M4 => if r5 = 0 then (some (some (.int (-2)), M4)) else (if k < 0 then (some (some (.int (-2)), M4)) else (if k ≤ 1 then (cv M4 b3 10 ( bI (F_Sprk_placeAt b3 i 0 M4) (fun r7 M6 => F_NS_reach_L46 fu i k b3 r7 1 M6))) else (some (some (.int (-2)), M4)))))) (G := fun M1 => bI (F_Md_in (i.toInt64) 0 2 M1) (fun r4 M3 => if r4 = 0 then (some (some (.int (-2)), M3)) else (bI (F_Md_in (k.toInt64) 0 1 M3) (fun r6 M5 => if r6 = 0 then (some (some (.int (-2)), M5)) else (cv M5 70 13 ( bV (F_Md_lays 70 c M5) (fun M7 => cv M7 70 13 ( bI (F_Md_placeBy 70 i 0 M7) (fun r9 M8 => F_Md_reach_L49 fu 70 i k r9 1 M8)))))))) ) (c := c) (v0 := -2) (fun M => rfl) (fun M => rfl) ?_
  intro S z b M1 ez hS hs1 hs sp b1 b2 hL
  obtain ⟨hk, s1, s2, hc, hm, -⟩ := id hs1
  obtain ⟨M2, u2, fr2, hm2⟩ := mLays hS hm hk hs
  have g := lay_g hk hs
  have lb := lay_bn hk hs
  obtain ⟨⟨a1, a2, a3, a4, a5, a6⟩, -⟩ := id g
  have fg := fu_ge
  have hS2 := hS.fr fr2
  obtain ⟨j, j1, j2, rfl⟩ := iz_of i
  obtain ⟨w, w1, w2, rfl⟩ := iz_of k
  obtain ⟨r, hr⟩ : ∃ r : Nat, 1 + (r : Int) = kEn (lay S z) - kBn (lay S z) := ⟨(kEn (lay S z) - kBn (lay S z) - 1).toNat, by omega⟩
  simp only [cAxis j1 j2, bI_eq, bz_if0, bz_if, show (0 : Int32) = iz 0 from rfl, show (1 : Int32) = iz 1 from rfl, ifL w1 w2 (show (-2147483648 : Int) ≤ 0 by omega) (show (0 : Int) < 2147483648 by omega), ifE w1 w2 (show (-2147483648 : Int) ≤ 1 by omega) (show (1 : Int) < 2147483648 by omega), show (0 : Int64) = jz 0 from rfl, show (1 : Int64) = jz 1 from rfl, show (2 : Int64) = jz 2 from rfl, mInL j 0 2 j1 j2 (by omega) (by omega) (by omega) (by omega), mInL w 0 1 w1 w2 (by omega) (by omega) (by omega) (by omega)]
  by_cases g1 : 0 ≤ j ∧ j ≤ 2
  · by_cases g2 : 0 ≤ w ∧ w ≤ 1
    · have bd := g.bd hk (i := j) (by omega) (by omega)
      have wb := wl_bd hk (i := j) (by omega) (by omega)
      have pb := plc_in hk g (i := j) (by omega) (by omega) (a := 0) (by omega) (by omega)
      refine ⟨iz (rcF w (plc S (lay S z) j) r 1 (plc S (lay S z) j 0)), M1, M2, ?_, Fr.refl _, ?_, fr2.mono ALd_ASc⟩
      · rw [if_pos g1, if_neg (by omega), if_pos (by omega), cv_eq sp.1, cPlc hS hc hk sp hL.1 a1 bd.1 bd.2 (by omega) (by omega) (by omega) (by omega), bI_eq]
        exact cRcL hS hc hk sp g hL (by omega) (by omega) (by omega) g2.1 g2.2 r fu 1 _ (by omega) hr (by omega) (by omega) (by omega)
      · rw [if_pos g1]
        rw [if_pos g2, cv_eq (kd_70 hS), ez, u2, bV_eq, cv_eq (kd_70 hS2), mPlc hS2 (hm.lays fr2) hk hm2.1 a1 bd.1 bd.2 (by omega) (by omega) (by omega) (by omega), bI_eq]
        exact mRcL hS2 (hm.lays fr2) hk g hm2 (by omega) (by omega) (by omega) g2.1 g2.2 r fu 1 _ (by omega) hr (by omega) (by omega) (by omega)
    · refine ⟨-2, M1, M1, ?_, Fr.refl _, ?_, Fr.refl _⟩
      · rw [if_pos g1]
        by_cases g3 : w < 0
        · rw [if_pos g3]
        · rw [if_neg g3, if_neg (by omega)]
      · rw [if_pos g1]
        rw [if_neg g2]
  · exact ⟨-2, M1, M1, by rw [if_neg g1], Fr.refl _, by rw [if_neg g1], Fr.refl _⟩
noncomputable def clC (S : Sc) (p : Sk) (a : Int) : Int := (plc S p 2 a / 8 * 40 + plc S p 1 a / 8) * 40 + plc S p 0 a / 8
noncomputable def clM (S : Sc) (p : Sk) (a : Int) : Int := (plc S p 0 a / 8 * 64 + plc S p 1 a / 8) * 64 + plc S p 2 a / 8
theorem cl_bd (hk : scOK S) {p : Sk} (hp : skG S p) {i a : Int} (i1 : 0 ≤ i) (i2 : i < 3) (h1 : 0 ≤ a) (h2 : a < kEn p - kBn p) : 0 ≤ plc S p i a ∧ plc S p i a < 320 := by
  have := plc_in hk hp i1 i2 h1 h2
  have := wl_bd hk i1 i2
  omega
theorem clC_bd (hk : scOK S) {p : Sk} (hp : skG S p) {a : Int} (h1 : 0 ≤ a) (h2 : a < kEn p - kBn p) : 0 ≤ clC S p a ∧ clC S p a < 64000 := by
  have := cl_bd hk hp (i := 0) (by omega) (by omega) h1 h2
  have := cl_bd hk hp (i := 1) (by omega) (by omega) h1 h2
  have := cl_bd hk hp (i := 2) (by omega) (by omega) h1 h2
  unfold clC
  omega
theorem clM_bd (hk : scOK S) {p : Sk} (hp : skG S p) {a : Int} (h1 : 0 ≤ a) (h2 : a < kEn p - kBn p) : 0 ≤ clM S p a ∧ clM S p a < 170000 := by
  have := cl_bd hk hp (i := 0) (by omega) (by omega) h1 h2
  have := cl_bd hk hp (i := 1) (by omega) (by omega) h1 h2
  have := cl_bd hk hp (i := 2) (by omega) (by omega) h1 h2
  unfold clM
  omega
theorem cl_iff (hk : scOK S) {p q : Sk} (hp : skG S p) (hq : skG S q) {a b : Int} (h1 : 0 ≤ a) (h2 : a < kEn p - kBn p) (h3 : 0 ≤ b) (h4 : b < kEn q - kBn q) : clC S p a = clC S q b ↔ clM S p a = clM S q b := by
  have := cl_bd hk hp (i := 0) (by omega) (by omega) h1 h2
  have := cl_bd hk hp (i := 1) (by omega) (by omega) h1 h2
  have := cl_bd hk hp (i := 2) (by omega) (by omega) h1 h2
  have := cl_bd hk hq (i := 0) (by omega) (by omega) h3 h4
  have := cl_bd hk hq (i := 1) (by omega) (by omega) h3 h4
  have := cl_bd hk hq (i := 2) (by omega) (by omega) h3 h4
  unfold clC clM
  omega
theorem cCell (h : SH M) (hc : CS M S) (hk : scOK S) {b : Nat} (hs : SpA M b) {p : Sk} (hp : skG S p) (hP : CpP M S b p) {a : Int} (h1 : 0 ≤ a) (h2 : a < kEn p - kBn p) : F_Sprk_cellAt b (iz a) M = some (some (.int (iz (clC S p a))), M) := by
  obtain ⟨⟨a1, a2, a3, a4, a5, a6⟩, -⟩ := id hp
  have b0 := cl_bd hk hp (i := 0) (by omega) (by omega) h1 h2
  have b1 := cl_bd hk hp (i := 1) (by omega) (by omega) h1 h2
  have b2 := cl_bd hk hp (i := 2) (by omega) (by omega) h1 h2
  have d0 := hp.bd hk (i := 0) (by omega) (by omega)
  have d1 := hp.bd hk (i := 1) (by omega) (by omega)
  have d2 := hp.bd hk (i := 2) (by omega) (by omega)
  unfold F_Sprk_cellAt clC
  rw [show (0 : Int32) = iz 0 from rfl, show (1 : Int32) = iz 1 from rfl, show (2 : Int32) = iz 2 from rfl, show (8 : Int32) = iz 8 from rfl, show (40 : Int32) = iz 40 from rfl, cv_eq hs.1, cPlc h hc hk hs hP a1 d0.1 d0.2 (by omega) (by omega) h1 (by omega), bI_eq, nm_eq, cv_eq hs.1, cPlc h hc hk hs hP a1 d1.1 d1.2 (by omega) (by omega) h1 (by omega), bI_eq, nm_eq, cv_eq hs.1, cPlc h hc hk hs hP a1 d2.1 d2.2 (by omega) (by omega) h1 (by omega), bI_eq, nm_eq, iz_ediv (by omega) (by omega) (by omega) (by omega), iz_ediv (by omega) (by omega) (by omega) (by omega), iz_ediv (by omega) (by omega) (by omega) (by omega), iz_mul, iz_add, iz_mul, iz_add]
theorem mCell (h : SH M) (hc : MS M S) (hk : scOK S) {p : Sk} (hp : skG S p) (hP : MdP M p) {a : Int} (h1 : 0 ≤ a) (h2 : a < kEn p - kBn p) : F_Md_cellBy 70 (iz a) M = some (some (.int (iz (clM S p a))), M) := by
  obtain ⟨⟨a1, a2, a3, a4, a5, a6⟩, -⟩ := id hp
  have b0 := cl_bd hk hp (i := 0) (by omega) (by omega) h1 h2
  have b1 := cl_bd hk hp (i := 1) (by omega) (by omega) h1 h2
  have b2 := cl_bd hk hp (i := 2) (by omega) (by omega) h1 h2
  have d0 := hp.bd hk (i := 0) (by omega) (by omega)
  have d1 := hp.bd hk (i := 1) (by omega) (by omega)
  have d2 := hp.bd hk (i := 2) (by omega) (by omega)
  unfold F_Md_cellBy clM
  rw [show (0 : Int32) = iz 0 from rfl, show (1 : Int32) = iz 1 from rfl, show (2 : Int32) = iz 2 from rfl, show (8 : Int32) = iz 8 from rfl, show (64 : Int32) = iz 64 from rfl, cv_eq (kd_70 h), mPlc h hc hk hP a1 d0.1 d0.2 (by omega) (by omega) h1 (by omega), bI_eq, cv_eq (kd_70 h), mPlc h hc hk hP a1 d1.1 d1.2 (by omega) (by omega) h1 (by omega), bI_eq, cv_eq (kd_70 h), mPlc h hc hk hP a1 d2.1 d2.2 (by omega) (by omega) h1 (by omega), bI_eq, iz_ediv (by omega) (by omega) (by omega) (by omega), iz_ediv (by omega) (by omega) (by omega) (by omega), iz_ediv (by omega) (by omega) (by omega) (by omega), iz_mul, iz_add, iz_mul, iz_add]
end Cells
