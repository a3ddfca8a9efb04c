/-! ===== cellsOf, meets: the walks along a life ===== -/
/-- is it none of those before -/
def ndB (g : Int → Int) (a : Int) : Nat → Int → Int → Int
  | 0, _, v => v
  | d + 1, j, v => ndB g a d (j + 1) (if v = 0 then 0 else if g j = g a then 0 else 1)
theorem ndB_0 (g : Int → Int) (a : Int) : ∀ (d : Nat) (j : Int), ndB g a d j 0 = 0
  | 0, j => rfl
  | d + 1, j => by rw [ndB, if_pos rfl]; exact ndB_0 g a d (j + 1)
theorem ndB_f (g : Int → Int) (a : Int) : ∀ (d : Nat) (j b : Int), j ≤ b → b < j + d → g b = g a → ndB g a d j 1 = 0
  | 0, j, b, h1, h2, h3 => by omega
  | d + 1, j, b, h1, h2, h3 => by
    rw [ndB, if_neg (by omega)]
    by_cases q : g j = g a
    · rw [if_pos q]; exact ndB_0 g a d (j + 1)
    · rw [if_neg q]
      exact ndB_f g a d (j + 1) b (by rcases Int.lt_or_eq_of_le h1 with z | z; · omega
                                      · exact absurd (by rw [z]; exact h3) q) (by omega) h3
theorem ndB_t (g : Int → Int) (a : Int) : ∀ (d : Nat) (j : Int), (∀ b, j ≤ b → b < j + d → g b ≠ g a) → ndB g a d j 1 = 1
  | 0, j, h => rfl
  | d + 1, j, h => by
    rw [ndB, if_neg (by omega), if_neg (h j (by omega) (by omega))]
    exact ndB_t g a d (j + 1) (fun b q1 q2 => h b (by omega) (by omega))
theorem ndB_eq {g f : Int → Int} {a : Int} : ∀ (d : Nat) (j v : Int), (∀ b, j ≤ b → b < j + d → (g b = g a ↔ f b = f a)) → ndB g a d j v = ndB f a d j v
  | 0, j, v, h => rfl
  | d + 1, j, v, h => by
    rw [ndB, ndB, ndB_eq d (j + 1) _ (fun b q1 q2 => h b (by omega) (by omega))]
    have := h j (by omega) (by omega)
    by_cases q : g j = g a
    · rw [if_pos q, if_pos (this.mp q)]
    · rw [if_neg q, if_neg (fun z => q (this.mpr z))]
def nwF (g : Int → Int) (a : Int) : Int := ndB g a a.toNat 0 1
theorem smF_eq {g f : Int → Int} : ∀ (n : Nat) (a v : Int), (∀ b, a ≤ b → b < a + n → g b = f b) → smF g n a v = smF f n a v
  | 0, a, v, h => rfl
  | n + 1, a, v, h => by rw [smF, smF, h a (by omega) (by omega), smF_eq n (a + 1) _ (fun b q1 q2 => h b (by omega) (by omega))]
def A69 (b j : Nat) : Prop := b = 69
theorem A75_ASc (b j : Nat) (h : A69 b j) : ASc b j := by unfold A69 at h; unfold ASc; omega
section Cells2
variable {S : Sc}
theorem cAm {M : am_M} (h : SH M) {f : Nat → Int} {cnt : Nat} (hcnt : cnt ≤ 2000) (hE : ∀ j, j < cnt → rI M 69 j = iz (f j) ∧ 0 ≤ f j ∧ f j < 100000) {r : Int} (r1 : 0 ≤ r) (r2 : r < 100000) : ∀ (d n k : Nat), k + d = cnt → d < n → ((∃ j, k ≤ j ∧ j < cnt ∧ f j = r) → F_NS_isAmong_L2 n 0 (iz r) (iz (cnt : Int)) (iz (k : Int)) M = some (some (.int (iz 1)), M)) ∧ ((∀ j, k ≤ j → j < cnt → f j ≠ r) → F_NS_isAmong_L2 n 0 (iz r) (iz (cnt : Int)) (iz (k : Int)) M = some (some (.int (iz 0)), M))
  | d, 0, k, h1, h2 => by omega
  | 0, n + 1, k, h1, h2 => by
    refine ⟨fun ⟨j, q1, q2, _⟩ => by omega, fun _ => ?_⟩
    rw [F_NS_isAmong_L2, ifE (by omega) (by omega) (by omega) (by omega), if_pos (by omega)]; rfl
  | d + 1, n + 1, k, h1, h2 => by
    have ih := cAm h hcnt hE r1 r2 d n (k + 1) (by omega) (by omega)
    have e := hE k (by omega)
    have step : F_NS_isAmong_L2 (n + 1) 0 (iz r) (iz (cnt : Int)) (iz (k : Int)) M = if f k = r then some (some (.int (iz 1)), M) else F_NS_isAmong_L2 n 0 (iz r) (iz (cnt : Int)) (iz ((k + 1 : Nat) : Int)) M := by
      rw [F_NS_isAmong_L2, ifE (by omega) (by omega) (by omega) (by omega), if_neg (by omega), fR_eq (kd_0 h) (rr_0_10 h), aN_eq (show mKd M 69 < 4 by rw [kd_69 h]; decide) (ln_69 h), ifE (by omega) (by omega) (by omega) (by omega), if_neg (by omega), fR_eq (kd_0 h) (rr_0_10 h), aI_eq (kd_69 h) (ln_69 h) (by omega) (by omega) (by omega), Int.toNat_natCast, e.1, ifQ (by omega) (by omega) (by omega) (by omega), nm_eq, show (1 : Int32) = iz 1 from rfl, iz_add]
      rfl
    rw [step]
    by_cases q : f k = r
    · rw [if_pos q]
      exact ⟨fun _ => rfl, fun z => absurd q (z k (by omega) (by omega))⟩
    · rw [if_neg q]
      refine ⟨fun ⟨j, q1, q2, q3⟩ => ih.1 ⟨j, ?_, q2, q3⟩, fun z => ih.2 (fun j q1 q2 => z j (by omega) q2)⟩
      rcases Nat.lt_or_eq_of_le q1 with z | z
      · exact z
      · exact absurd (by rw [z]; exact q3) q
theorem cCoL (hk : scOK S) {b : Nat} (hb1 : 49 < b) (hb2 : b ≤ 56) {p : Sk} {c g : Int} (hp : skG S p) (hbn : kBn p < 100000) : ∀ (r n : Nat) (M : am_M) (a cnt : Nat) (f : Nat → Int), SH M → CS M S → SpA M b → CpL M S b p c g → (a : Int) + r = kEn p - kBn p → r < n → cnt ≤ a → (∀ j, j < cnt → rI M 69 j = iz (f j) ∧ 0 ≤ f j ∧ f j < 100000) → (∀ x, (∃ j, j < cnt ∧ f j = x) ↔ ∃ d : Int, 0 ≤ d ∧ d < a ∧ clC S p d = x) → ∃ M', F_NS_cellsOf_L21 n 0 b (iz (cnt : Int)) (iz (a : Int)) M = some (some (.int (iz (smF (nwF (clC S p)) r a cnt))), M') ∧ Fr A69 M M'
  | r, 0, M, a, cnt, f, h, hc, hs, hL, h1, h2, h3, h4, h5 => by omega
  | 0, n + 1, M, a, cnt, f, h, hc, hs, hL, h1, h2, h3, h4, h5 => by
    obtain ⟨⟨a1, a2, a3, a4, a5, a6⟩, -⟩ := id hp
    refine ⟨M, ?_, Fr.refl _⟩
    rw [F_NS_cellsOf_L21, fI_eq hs.1, hL.2.2.2.2, fI_eq hs.1, hL.2.2.2.1, iz_sub, ifE (by omega) (by omega) (by omega) (by omega), if_pos (by omega)]; rfl
  | r + 1, n + 1, M, a, cnt, f, h, hc, hs, hL, h1, h2, h3, h4, h5 => by
    obtain ⟨⟨a1, a2, a3, a4, a5, a6⟩, -⟩ := id hp
    have cb := clC_bd hk hp (a := a) (by omega) (by omega)
    have fg := fu_ge
    have am := cAm h (f := f) (cnt := cnt) (by omega) h4 cb.1 (show clC S p a < 100000 by omega) cnt fu 0 (by omega) (by omega)
    have pre : ∀ v, F_NS_isAmong 0 (iz (clC S p a)) (iz (cnt : Int)) M = some (some (.int v), M) → F_NS_cellsOf_L21 (n + 1) 0 b (iz (cnt : Int)) (iz (a : Int)) M = if v = 0 then F_NS_cellsOf_L21 n 0 b (iz ((cnt + 1 : Nat) : Int)) (iz ((a + 1 : Nat) : Int)) (wI M 69 cnt (iz (clC S p a))) else F_NS_cellsOf_L21 n 0 b (iz (cnt : Int)) (iz ((a + 1 : Nat) : Int)) M := fun v hv => by
      rw [F_NS_cellsOf_L21, fI_eq hs.1, hL.2.2.2.2, fI_eq hs.1, hL.2.2.2.1, iz_sub, ifE (by omega) (by omega) (by omega) (by omega), if_neg (by omega), cv_eq hs.1, cCell h hc hk hs hp hL.1 (by omega) (by omega), bI_eq, fR_eq (kd_0 h) (rr_0_10 h), aN_eq (show mKd M 69 < 4 by rw [kd_69 h]; decide) (ln_69 h), ifE (by omega) (by omega) (by omega) (by omega), if_neg (by omega), cv_eq (kd_0 h), hv, bI_eq, fR_eq (kd_0 h) (rr_0_10 h), tI_eq (kd_69 h) (ln_69 h) (by omega) (by omega) (by omega), nm_eq, nm_eq, nm_eq, show (1 : Int32) = iz 1 from rfl, iz_add, iz_add, Int.toNat_natCast]
      rfl
    have ea : ((a + 1 : Nat) : Int) = (a : Int) + 1 := by omega
    have ec : ((cnt + 1 : Nat) : Int) = (cnt : Int) + 1 := by omega
    by_cases q : ∃ d : Int, 0 ≤ d ∧ d < a ∧ clC S p d = clC S p a
    · obtain ⟨j, j1, j2⟩ := (h5 _).mpr q
      have e0 : nwF (clC S p) a = 0 := by
        obtain ⟨d, d1, d2, d3⟩ := q
        unfold nwF
        exact ndB_f _ _ _ 0 d d1 (by omega) d3
      obtain ⟨M', u1, u2⟩ := cCoL hk hb1 hb2 hp hbn r n M (a + 1) cnt f h hc hs hL (by omega) (by omega) (by omega) h4 (fun x => (h5 x).trans ⟨fun ⟨d, d1, d2, d3⟩ => ⟨d, d1, by omega, d3⟩, fun ⟨d, d1, d2, d3⟩ => by
        by_cases z : d < a
        · exact ⟨d, d1, z, d3⟩
        · have : d = a := by omega
          obtain ⟨d', e1, e2, e3⟩ := q
          exact ⟨d', e1, e2, by rw [e3, ← d3, this]⟩⟩)
      refine ⟨M', ?_, u2⟩
      rw [pre _ (am.1 ⟨j, by omega, j1, j2⟩), if_neg (by decide), u1, smF, e0, ea, Int.add_zero]
    · have e1 : nwF (clC S p) a = 1 := by
        unfold nwF
        exact ndB_t _ _ _ 0 (fun d d1 d2 d3 => q ⟨d, d1, by omega, d3⟩)
      have fr : Fr A69 M (wI M 69 cnt (iz (clC S p a))) := Fr.wI (show A69 69 cnt from rfl)
      obtain ⟨M', u1, u2⟩ := cCoL hk hb1 hb2 hp hbn r n (wI M 69 cnt (iz (clC S p a))) (a + 1) (cnt + 1) (fun j => if j = cnt then clC S p a else f j) (h.fr fr) (hc.fr fr (fun x j z => by unfold A69 at z; omega)) (hs.fr fr) (hL.fr fr (fun x j z => by unfold A69 at z; omega)) (by omega) (by omega) (by omega) (fun j hj => by
        by_cases z : j = cnt
        · rw [if_pos z, rI_at rfl z]; exact ⟨rfl, cb.1, by omega⟩
        · rw [if_neg z, rI_ne (by omega)]; exact h4 j (by omega)) (fun x => by
        constructor
        · rintro ⟨j, j1, j2⟩
          by_cases z : j = cnt
          · rw [if_pos z] at j2
            exact ⟨a, by omega, by omega, j2⟩
          · rw [if_neg z] at j2
            obtain ⟨d, d1, d2, d3⟩ := (h5 x).mp ⟨j, by omega, j2⟩
            exact ⟨d, d1, by omega, d3⟩
        · rintro ⟨d, d1, d2, d3⟩
          by_cases z : d < a
          · obtain ⟨j, j1, j2⟩ := (h5 x).mpr ⟨d, d1, z, d3⟩
            exact ⟨j, by omega, by rw [if_neg (by omega)]; exact j2⟩
          · have : d = a := by omega
            exact ⟨cnt, by omega, by rw [if_pos rfl, ← this]; exact d3⟩)
      refine ⟨M', ?_, fr.trans u2⟩
      rw [pre _ (am.2 (fun j _ j2 j3 => q ((h5 _).mp ⟨j, j2, j3⟩))), if_pos (by decide), u1, smF, e1, ea, ec]
theorem mCoI {M : am_M} (h : SH M) (hc : MS M S) (hk : scOK S) {p : Sk} (hp : skG S p) (hL : MdL M p) {a : Int} (a2 : a < kEn p - kBn p) (k20 : Nat → Int32 → Int32 → am_M → am_R) (v : Int) : ∀ (d m : Nat) (j fl : Int), 0 ≤ j → j + d = a → d < m → (fl = 0 ∨ fl = 1) → F_Md_cellsOf_L39 k20 m 70 (iz v) (iz a) (iz fl) (iz j) M = k20 70 (iz (v + ndB (clM S p) a d j fl)) (iz (a + 1)) M
  | d, 0, j, fl, h1, h2, h3, h4 => by omega
  | 0, m + 1, j, fl, h1, h2, h3, h4 => by
    obtain ⟨⟨a1, a2, a3, a4, a5, a6⟩, -⟩ := id hp
    rw [F_Md_cellsOf_L39, ifE (by omega) (by omega) (by omega) (by omega), if_pos (by omega), show (0 : Int32) = iz 0 from rfl, show (1 : Int32) = iz 1 from rfl, ifQ (by omega) (by omega) (by omega) (by omega), nm_eq, nm_eq, nm_eq, nm_eq, iz_add, iz_add, iz_add, ndB]
    rcases h4 with rfl | rfl
    · rw [if_pos rfl]
    · rw [if_neg (by omega)]
  | d + 1, m + 1, j, fl, h1, h2, h3, h4 => by
    obtain ⟨⟨a1, a2, a3, a4, a5, a6⟩, -⟩ := id hp
    have c1 := clM_bd hk hp (a := j) (by omega) (by omega)
    have c2 := clM_bd hk hp (a := a) (by omega) (by omega)
    have ih := fun fl => mCoI h hc hk hp hL (by omega) k20 v d m (j + 1) fl (by omega) (by omega) (by omega)
    rw [F_Md_cellsOf_L39, ifE (by omega) (by omega) (by omega) (by omega), if_neg (by omega), show (0 : Int32) = iz 0 from rfl, show (1 : Int32) = iz 1 from rfl, ifQ (by omega) (by omega) (by omega) (by omega), nm_eq, iz_add, ih 0 (Or.inl rfl), cv_eq (kd_70 h), mCell h hc hk hp hL.1 (by omega) (by omega), bI_eq, cv_eq (kd_70 h), mCell h hc hk hp hL.1 (by omega) (by omega), bI_eq, ifQ (by omega) (by omega) (by omega) (by omega), nm_eq, nm_eq, ih 0 (Or.inl rfl), ih 1 (Or.inr rfl), ndB]
    by_cases q : fl = 0
    · rw [if_pos q, if_pos q]
    · rw [if_neg q, if_neg q]
      split <;> rfl
theorem mCoL {M : am_M} (h : SH M) (hc : MS M S) (hk : scOK S) {p : Sk} (hp : skG S p) (hL : MdL M p) (hbn : kBn p < 100000) : ∀ (r n : Nat) (a v : Int), 0 ≤ a → a + r = kEn p - kBn p → r < n → F_Md_cellsOf_L20 n 70 (iz v) (iz a) M = some (some (.int (iz (smF (nwF (clM S p)) r a v))), M)
  | r, 0, a, v, h1, h2, h3 => by omega
  | 0, n + 1, a, v, h1, h2, h3 => by
    obtain ⟨⟨a1, a2, a3, a4, a5, a6⟩, -⟩ := id hp
    rw [F_Md_cellsOf_L20, fI_eq (kd_70 h), hL.2.2, fI_eq (kd_70 h), hL.2.1, iz_sub, ifE (by omega) (by omega) (by omega) (by omega), if_pos (by omega)]; rfl
  | r + 1, n + 1, a, v, h1, h2, h3 => by
    obtain ⟨⟨a1, a2, a3, a4, a5, a6⟩, -⟩ := id hp
    have fg := fu_ge
    rw [F_Md_cellsOf_L20, fI_eq (kd_70 h), hL.2.2, fI_eq (kd_70 h), hL.2.1, iz_sub, ifE (by omega) (by omega) (by omega) (by omega), if_neg (by omega), show (1 : Int32) = iz 1 from rfl, show (0 : Int32) = iz 0 from rfl, mCoI h hc hk hp hL (by omega) _ v a.toNat fu 0 1 (by omega) (by omega) (by omega) (Or.inr rfl), mCoL h hc hk hp hL hbn r n (a + 1) _ (by omega) (by omega) (by omega)]
    rfl
theorem ap_cellsOf {M : am_M} (h : Inv M) (c : Int32) : Ag (F_NS_cellsOf 0 c) (F_Md_cellsOf 70 c) M := by
  refine ap_fd h (K := fun b M => F_NS_cellsOf_L21 fu 0 b 0 0 M) (G := fun M => cv M 70 13 ( bV (F_Md_lays 70 c M) (fun M3 => F_Md_cellsOf_L20 fu 70 0 0 M3))) (c := c) (v0 := -2) (fun M => rfl) (fun M => rfl) ?_
  intro S z b M1 ez hS hs1 hs sp b1 b2 hL
  obtain ⟨hk, s1, s2, hc, hm, -⟩ := id hs1
  have g := lay_g hk hs
  have lb := lay_bn hk hs
  obtain ⟨⟨a1, a2, a3, a4, a5, a6⟩, -⟩ := id g
  have fg := fu_ge
  obtain ⟨r, hr⟩ : ∃ r : Nat, (r : Int) = kEn (lay S z) - kBn (lay S z) := ⟨(kEn (lay S z) - kBn (lay S z)).toNat, by omega⟩
  obtain ⟨M2, u1, f1⟩ := cCoL hk b1 b2 g (by omega) r fu M1 0 0 (fun _ => 0) hS hc sp hL (by omega) (by omega) (by omega) (fun j q => by omega) (fun x => ⟨fun ⟨j, j1, _⟩ => by omega, fun ⟨d, d1, d2, _⟩ => by omega⟩)
  have f1 := f1.mono A75_ASc
  have hS2 := hS.fr f1
  have hm2 := hm.q f1
  obtain ⟨M3, u2, fr2, hm3⟩ := mLays hS2 hm2 hk hs
  refine ⟨_, M2, M3, u1, f1, ?_, fr2.mono ALd_ASc⟩
  rw [cv_eq (kd_70 hS2), ez, u2, bV_eq]
  have e := mCoL (hS2.fr fr2) (hm2.lays fr2) hk g hm3 (by omega) r fu 0 0 (by omega) (by omega) (by omega)
  refine e.trans ?_
  rw [smF_eq (g := nwF (clM S (lay S z))) (f := nwF (clC S (lay S z)))]
  · rfl
  · intro a q1 q2
    exact ndB_eq _ _ _ (fun d e1 e2 => (cl_iff hk g g (by omega) (by omega) (by omega) (by omega)).symm)
end Cells2
