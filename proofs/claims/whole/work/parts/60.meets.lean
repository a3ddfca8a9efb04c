/-! ===== meets ===== -/
def mtF (f g : Int → Int) : Nat → Int → Int
  | 0, _ => -1
  | n + 1, t => if f t = g t then t else mtF f g n (t + 1)
theorem mtF_eq {f g f' g' : Int → Int} : ∀ (n : Nat) (t : Int), (∀ b, t ≤ b → b < t + n → (f b = g b ↔ f' b = g' b)) → mtF f g n t = mtF f' g' n t
  | 0, t, h => rfl
  | n + 1, t, h => by
    rw [mtF, mtF, mtF_eq n (t + 1) (fun b q1 q2 => h b (by omega) (by omega))]
    have := h t (by omega) (by omega)
    by_cases q : f t = g t
    · rw [if_pos q, if_pos (this.mp q)]
    · rw [if_neg q, if_neg (fun z => q (this.mpr z))]
def A83 (b j : Nat) : Prop := b = 83
section Meets
variable {S : Sc}
theorem cMtL {M : am_M} (h : SH M) (hc : CS M S) (hk : scOK S) {b d : Nat} (hs : SpA M b) (hs' : SpA M d) {p q : Sk} {c g c' g' : Int} (hp : skG S p) (hq : skG S q) (hL : CpL M S b p c g) (hL' : CpL M S d q c' g') (hbn : kBn p < 100000) (hbn' : kBn q < 100000) {e : Int} (e1 : e ≤ kEn p) (e2 : e ≤ kEn q) (e3 : -1000000 ≤ e) : ∀ (r n : Nat) (t : Int), kBn p ≤ t → kBn q ≤ t → (t + r = e ∨ (r = 0 ∧ e ≤ t)) → r < n → t < 1000000 → F_NS_meets_L64 n b d (iz e) (iz t) M = some (some (.int (iz (mtF (fun t => clC S p (t - kBn p)) (fun t => clC S q (t - kBn q)) r t))), M)
  | r, 0, t, h1, h2, h3, h4, h5 => by omega
  | 0, n + 1, t, h1, h2, h3, h4, h5 => by
    obtain ⟨⟨a1, a2, a3, a4, a5, a6⟩, -⟩ := id hp
    rw [F_NS_meets_L64, ifE (by omega) (by omega) (by omega) (by omega), if_pos (by omega)]; rfl
  | r + 1, n + 1, t, h1, h2, h3, h4, h5 => by
    obtain ⟨⟨a1, a2, a3, a4, a5, a6⟩, -⟩ := id hp
    obtain ⟨⟨-, b2, b3, b4, -⟩, -⟩ := id hq
    have c1 := clC_bd hk hp (a := t - kBn p) (by omega) (by omega)
    have c2 := clC_bd hk hq (a := t - kBn q) (by omega) (by omega)
    rw [F_NS_meets_L64, ifE (by omega) (by omega) (by omega) (by omega), if_neg (by omega), fI_eq hs.1, hL.2.2.2.1, cv_eq hs.1, iz_sub, cCell h hc hk hs hp hL.1 (by omega) (by omega), bI_eq, fI_eq hs'.1, hL'.2.2.2.1, cv_eq hs'.1, iz_sub, cCell h hc hk hs' hq hL'.1 (by omega) (by omega), bI_eq, ifQ (by omega) (by omega) (by omega) (by omega), nm_eq, show (1 : Int32) = iz 1 from rfl, iz_add, cMtL h hc hk hs hs' hp hq hL hL' hbn hbn' e1 e2 e3 r n (t + 1) (by omega) (by omega) (by omega) (by omega) (by omega), mtF]
    split <;> rfl
theorem mMtS (hk : scOK S) {p : Sk} (hp : skG S p) (hbn : kBn p < 100000) (d w e : Int32) : ∀ (r n : Nat) (M : am_M) (a : Int), SH M → MS M S → MdL M p → 0 ≤ a → a + r = kEn p - kBn p → r < n → (∀ j : Int, 0 ≤ j → j < a → rI M 83 j.toNat = iz (clM S p j)) → ∃ M' n', F_Md_meets_L43 n 70 d w e (iz a) M = F_Md_meets_L43 (n' + 1) 70 d w e (iz (kEn p - kBn p)) M' ∧ Fr A83 M M' ∧ MdL M' p ∧ ∀ j : Int, 0 ≤ j → j < kEn p - kBn p → rI M' 83 j.toNat = iz (clM S p j)
  | r, 0, M, a, h, hc, hL, h1, h2, h3, h4 => by omega
  | 0, n + 1, M, a, h, hc, hL, h1, h2, h3, h4 => ⟨M, n, by rw [show a = kEn p - kBn p by omega], Fr.refl _, hL, fun j q1 q2 => h4 j q1 (by omega)⟩
  | r + 1, n + 1, M, a, h, hc, hL, h1, h2, h3, h4 => by
    obtain ⟨⟨a1, a2, a3, a4, a5, a6⟩, -⟩ := id hp
    have fr : Fr A83 M (wI M 83 a.toNat (iz (clM S p a))) := Fr.wI (show A83 83 _ from rfl)
    have rk : ∀ x j, x ≠ 83 → rI (wI M 83 a.toNat (iz (clM S p a))) x j = rI M x j := fun x j q => rI_ne (by omega)
    have hL2 : MdL (wI M 83 a.toNat (iz (clM S p a))) p := by
      obtain ⟨⟨l1, l2, l3⟩, l4, l5⟩ := hL
      exact ⟨⟨by rw [rk _ _ (by omega)]; exact l1, fun i q1 q2 => by rw [rk _ _ (by omega)]; exact l2 i q1 q2, fun i q1 q2 => by rw [rk _ _ (by omega)]; exact l3 i q1 q2⟩, by rw [rk _ _ (by omega)]; exact l4, by rw [rk _ _ (by omega)]; exact l5⟩
    obtain ⟨M', n', u1, u2, u3, u4⟩ := mMtS hk hp hbn d w e r n (wI M 83 a.toNat (iz (clM S p a))) (a + 1) (h.fr fr) (hc.fr fr (fun x j q => by unfold A83 at q; omega)) hL2 (by omega) (by omega) (by omega) (fun j q1 q2 => by
      by_cases z : j = a
      · rw [rI_at rfl (by omega), z]
      · rw [rI_ne (by omega)]; exact h4 j q1 (by omega))
    refine ⟨M', n', ?_, fr.trans u2, u3, u4⟩
    rw [← u1, F_Md_meets_L43, fI_eq (kd_70 h), hL.2.2, fI_eq (kd_70 h), hL.2.1, iz_sub, ifE (by omega) (by omega) (by omega) (by omega), if_neg (by omega), fR_eq (kd_70 h) (rr_70_33 h), cv_eq (kd_70 h), mCell h hc hk hp hL.1 h1 (by omega), bI_eq, tI_eq (kd_83 h) (ln_83 h) (by omega) (by omega) (by omega), nm_eq, show (1 : Int32) = iz 1 from rfl, iz_add]
theorem mMtL {M : am_M} (h : SH M) (hc : MS M S) (hk : scOK S) {p q : Sk} (hp : skG S p) (hq : skG S q) (hL : MdL M q) (hA : ∀ j : Int, 0 ≤ j → j < kEn p - kBn p → rI M 83 j.toNat = iz (clM S p j)) (hbn : kBn p < 100000) (hbn' : kBn q < 100000) {e : Int} (ee : e = min (kEn p) (kEn q)) : ∀ (r n : Nat) (t : Int), kBn p ≤ t → kBn q ≤ t → (t + r = e ∨ (r = 0 ∧ e ≤ t)) → r < n → t < 1000000 → F_Md_meets_L91 n 70 (iz (kBn p)) (iz (kEn p)) (iz t) M = some (some (.int (iz (mtF (fun t => clM S p (t - kBn p)) (fun t => clM S q (t - kBn q)) r t))), M)
  | r, 0, t, h1, h2, h3, h4, h5 => by omega
  | 0, n + 1, t, h1, h2, h3, h4, h5 => by
    obtain ⟨⟨a1, a2, a3, a4, a5, a6⟩, -⟩ := id hp
    obtain ⟨⟨-, b2, b3, b4, -⟩, -⟩ := id hq
    rw [F_Md_meets_L91, fI_eq (kd_70 h), hL.2.2, min_eq (by omega) (by omega) (by omega) (by omega), bI_eq, ifE (by omega) (by omega) (by omega) (by omega), if_pos (by omega)]; rfl
  | r + 1, n + 1, t, h1, h2, h3, h4, h5 => by
    obtain ⟨⟨a1, a2, a3, a4, a5, a6⟩, -⟩ := id hp
    obtain ⟨⟨-, b2, b3, b4, -⟩, -⟩ := id hq
    have c1 := clM_bd hk hp (a := t - kBn p) (by omega) (by omega)
    have c2 := clM_bd hk hq (a := t - kBn q) (by omega) (by omega)
    rw [F_Md_meets_L91, fI_eq (kd_70 h), hL.2.2, min_eq (by omega) (by omega) (by omega) (by omega), bI_eq, ifE (by omega) (by omega) (by omega) (by omega), if_neg (by omega), fR_eq (kd_70 h) (rr_70_33 h), iz_sub, aI_eq (kd_83 h) (ln_83 h) (by omega) (by omega) (by omega), hA _ (by omega) (by omega), fI_eq (kd_70 h), hL.2.1, cv_eq (kd_70 h), iz_sub, mCell h hc hk hq hL.1 (by omega) (by omega), bI_eq, ifQ (by omega) (by omega) (by omega) (by omega), nm_eq, show (1 : Int32) = iz 1 from rfl, iz_add, mMtL h hc hk hp hq hL hA hbn hbn' ee r n (t + 1) (by omega) (by omega) (by omega) (by omega) (by omega), mtF]
    split <;> rfl
/-- a scene that stands: found or not -/
theorem fdS {M : am_M} (hS : SH M) (hs1 : Sc1 M S) {z : Int} (z1 : -2147483648 ≤ z) (z2 : z < 2147483648) {f : Nat} (hf5 : f = 49 ∨ f = 59) : (¬ isSp S z ∧ F_Find_find f (iz z) M = some (some .null, M)) ∨ (isSp S z ∧ ∃ (b : Nat) (M1 : am_M), F_Find_find f (iz z) M = some (some (.ref b), M1) ∧ Fr ASc M M1 ∧ Fr (AFd f) M M1 ∧ SpA M1 b ∧ f < b ∧ b ≤ f + 7 ∧ CpL M1 S b (lay S z) z (gen z)) := by
  have hf : FdA M f := by
    rcases hf5 with rfl | rfl
    · exact fdA_49 hS
    · exact fdA_59 hS
  obtain ⟨hk, s1, s2, hc, hm, -⟩ := id hs1
  by_cases g : isSp S z
  · obtain ⟨b, M1, u1, u2, u3, u4, u5, u6⟩ := cFind hS hc hk s1 hf (by omega) g
    exact Or.inr ⟨g, b, M1, u1, u2.mono (AFd_ASc hf5), u2, u3.fr u2, u4, u5, u6⟩
  · refine Or.inl ⟨g, cFind0 hS hf ?_⟩
    rw [cHas hS hc hk s1 z1 z2, bz_f (fun q => g (spB_t.mp q))]
theorem mNo {M : am_M} (hS : SH M) (h1 : Sc1 M S) {z : Int} (z1 : -2147483648 ≤ z) (z2 : z < 2147483648) (hs : ¬ isSp S z) : F_Md_isSpark 70 (iz z) M = some (some (.int (iz 0)), M) := by
  obtain ⟨hk, s1, s2, hc, hm, -⟩ := h1
  rw [mIsSp hS hm hk s2 z1 z2, bz_f (fun q => hs (spB_t.mp q))]
theorem ap_meets {M : am_M} (h : Inv M) (c d : Int32) : Ag (F_NS_meets 0 c d) (F_Md_meets 70 c d) M := by
  obtain ⟨hS, -⟩ := id h
  obtain ⟨S, st, s01, s1, s2, -, -, -, h1, -⟩ := h.sc
  rcases s01 with rfl | rfl
  · have n1 := cFind0 hS (fdA_49 hS) (cHas0 hS s1 c)
    have n2 := cFind0 hS (fdA_59 hS) (cHas0 hS s1 d)
    refine Ag.p h (v := -2) ?_ ?_
    · unfold F_NS_meets; rw [fR_eq (kd_0 hS) (rr_0_8 hS), cv_eq (kd_49 hS), n1, bR_null, fR_eq (kd_0 hS) (rr_0_9 hS), cv_eq (kd_59 hS), n2, bR_null]
    · unfold F_Md_meets; rw [cv_eq (kd_70 hS), mIsSp0 hS s2, bI_eq, if_pos (by decide)]
  have hs1 := h1 rfl
  obtain ⟨z, z1, z2, rfl⟩ := iz_of c
  obtain ⟨y, y1, y2, rfl⟩ := iz_of d
  rcases fdS hS hs1 z1 z2 (Or.inl rfl) with ⟨g, u1⟩ | ⟨hs, b, M1, u1, fr, -, sp, b1, b2, hL⟩
  · have em : ∀ M', Fr ASc M M' → F_Md_meets 70 (iz z) (iz y) M' = some (some (.int (-2)), M') := fun M' fr => by
      have hS' := hS.fr fr
      unfold F_Md_meets; rw [cv_eq (kd_70 hS'), mNo hS' (hs1.q h.2.1 fr) z1 z2 g, bI_eq, if_pos (by decide)]
    rcases fdS hS hs1 y1 y2 (Or.inr rfl) with ⟨g', u2⟩ | ⟨hs', b', M2, u2, fr2, -⟩
    · refine Ag.p h (v := -2) ?_ (em M (Fr.refl _))
      unfold F_NS_meets; rw [fR_eq (kd_0 hS) (rr_0_8 hS), cv_eq (kd_49 hS), u1, bR_null, fR_eq (kd_0 hS) (rr_0_9 hS), cv_eq (kd_59 hS), u2, bR_null]
    · refine Ag.q h (v := -2) ?_ fr2 (em M2 fr2) (Fr.refl _)
      unfold F_NS_meets; rw [fR_eq (kd_0 hS) (rr_0_8 hS), cv_eq (kd_49 hS), u1, bR_null, fR_eq (kd_0 hS) (rr_0_9 hS), cv_eq (kd_59 hS), u2, bR_eq]
  have hI := h.q fr
  have hS1 := hS.fr fr
  have hs1' := hs1.q h.2.1 fr
  rcases fdS hS1 hs1' y1 y2 (Or.inr rfl) with ⟨g', u2⟩ | ⟨hsy, b', M2, u2, fr2, fr2', sp', b1', b2', hL'⟩
  · refine Ag.q h (v := -2) (M1 := M1) (M2 := M1) ?_ fr ?_ (Fr.refl _)
    · unfold F_NS_meets; rw [fR_eq (kd_0 hS) (rr_0_8 hS), cv_eq (kd_49 hS), u1, bR_eq, fR_eq (kd_0 hS1) (rr_0_9 hS1), cv_eq (kd_59 hS1), u2, bR_null]
    · unfold F_Md_meets; rw [cv_eq (kd_70 hS1), mYes hS1 hs1' hs, bI_eq, if_neg (by decide), cv_eq (kd_70 hS1), mNo hS1 hs1' y1 y2 g', bI_eq, if_pos (by decide)]
  have hS2 := hS1.fr fr2
  have hs3 := hs1'.q hI.2.1 fr2
  have fr12 := fr.trans fr2
  obtain ⟨hk, s1, s2, hc, hm, -⟩ := id hs3
  have yes1 := mYes hS2 hs3 hs
  have yes2 := mYes hS2 hs3 hsy
  by_cases g0 : z = y
  · refine Ag.q h (v := -2) (M1 := M2) (M2 := M2) ?_ fr12 ?_ (Fr.refl _)
    · unfold F_NS_meets; rw [fR_eq (kd_0 hS) (rr_0_8 hS), cv_eq (kd_49 hS), u1, bR_eq, fR_eq (kd_0 hS1) (rr_0_9 hS1), cv_eq (kd_59 hS1), u2, bR_eq, if_pos (by rw [g0])]
    · unfold F_Md_meets; rw [cv_eq (kd_70 hS2), yes1, bI_eq, if_neg (by decide), cv_eq (kd_70 hS2), yes2, bI_eq, if_neg (by decide), if_pos (by rw [g0])]
  have gp := lay_g hk hs
  have lb := lay_bn hk hs
  have gq := lay_g hk hsy
  have lq := lay_bn hk hsy
  obtain ⟨⟨a1, a2, a3, a4, a5, a6⟩, -⟩ := id gp
  obtain ⟨⟨d1, d2, d3, d4, d5, d6⟩, -⟩ := id gq
  have fg := fu_ge
  have hL2 : CpL M2 S b (lay S z) z (gen z) := hL.fr fr2' (fun x j q => by unfold AFd at q; omega)
  have sp2 := sp.fr fr2
  generalize hp : lay S z = p at *
  generalize hq : lay S y = q at *
  obtain ⟨e, he⟩ : ∃ e, e = min (kEn p) (kEn q) := ⟨_, rfl⟩
  obtain ⟨t, ht⟩ : ∃ t, t = max (kBn p) (kBn q) := ⟨_, rfl⟩
  have cv1 := cMtL hS2 hc hk sp2 sp' gp gq hL2 hL' (by omega) (by omega) (e := e) (by omega) (by omega) (by omega) (e - t).toNat fu t (by omega) (by omega) (by omega) (by omega) (by omega)
  have zr : ¬ (iz z = iz y) := fun w => by
    have rt := sp_rt hk hs
    have c0 := hs.1
    have rt' := sp_rt hk hsy
    have c0' := hsy.1
    exact g0 ((iz_eq (by omega) (by omega) (by omega) (by omega)).mp w)
  obtain ⟨M3, v3, f3, m3⟩ := mLays hS2 hm hk hs
  rw [hp] at m3
  have hS3 := hS2.fr f3
  have hm3 := hm.lays f3
  obtain ⟨M4, n', v4, f4, m4, k4⟩ := mMtS hk gp (by omega) (iz y) (iz (kBn p)) (iz (kEn p)) (kEn p - kBn p).toNat fu M3 0 hS3 hm3 m3 (by omega) (by omega) (by omega) (fun j q1 q2 => by omega)
  have f4 := f4.mono (B := ASc) (fun x j w => by unfold A83 at w; unfold ASc; omega)
  have hS4 := hS3.fr f4
  have hm4 := hm3.q f4
  obtain ⟨M5, v5, f5, m5⟩ := mLays hS4 hm4 hk hsy
  rw [hq] at m5
  have hS5 := hS4.fr f5
  have hm5 := hm4.lays f5
  have k5 : ∀ j : Int, 0 ≤ j → j < kEn p - kBn p → rI M5 83 j.toNat = iz (clM S p j) := fun j q1 q2 => by
    rw [f5.ri (fun w => by unfold ALd at w; omega)]; exact k4 j q1 q2
  have cv2 := mMtL hS5 hm5 hk gp gq m5 k5 (by omega) (by omega) he (e - t).toNat fu t (by omega) (by omega) (by omega) (by omega) (by omega)
  have eqv : mtF (fun t => clC S p (t - kBn p)) (fun t => clC S q (t - kBn q)) (e - t).toNat t = mtF (fun t => clM S p (t - kBn p)) (fun t => clM S q (t - kBn q)) (e - t).toNat t := mtF_eq _ _ (fun w q1 q2 => cl_iff hk gp gq (by omega) (by omega) (by omega) (by omega))
  refine Ag.q h (v := iz (mtF (fun t => clC S p (t - kBn p)) (fun t => clC S q (t - kBn q)) (e - t).toNat t)) ?_ fr12 (M2 := M5) ?_ ((f3.mono ALd_ASc).trans (f4.trans (f5.mono ALd_ASc)))
  · unfold F_NS_meets
    rw [fR_eq (kd_0 hS) (rr_0_8 hS), cv_eq (kd_49 hS), u1, bR_eq, fR_eq (kd_0 hS1) (rr_0_9 hS1), cv_eq (kd_59 hS1), u2, bR_eq, if_neg zr, fI_eq sp2.1, hL2.2.2.2.2, fI_eq sp'.1, hL'.2.2.2.2, min_eq (by omega) (by omega) (by omega) (by omega), bI_eq, fI_eq sp2.1, hL2.2.2.2.1, fI_eq sp'.1, hL'.2.2.2.1, max_eq (by omega) (by omega) (by omega) (by omega), bI_eq, ← he, ← ht, cv1]
  · unfold F_Md_meets
    rw [cv_eq (kd_70 hS2), yes1, bI_eq, if_neg (by decide), cv_eq (kd_70 hS2), yes2, bI_eq, if_neg (by decide), if_neg zr, cv_eq (kd_70 hS2), v3, bV_eq, fI_eq (kd_70 hS3), m3.2.1, fI_eq (kd_70 hS3), m3.2.2, show (0 : Int32) = iz 0 from rfl, v4, F_Md_meets_L43, fI_eq (kd_70 hS4), m4.2.2, fI_eq (kd_70 hS4), m4.2.1, iz_sub, ifE (by omega) (by omega) (by omega) (by omega), if_pos (by omega), cv_eq (kd_70 hS4), v5, bV_eq, fI_eq (kd_70 hS5), m5.2.1, max_eq (by omega) (by omega) (by omega) (by omega), bI_eq, ← ht, cv2, eqv]
end Meets
