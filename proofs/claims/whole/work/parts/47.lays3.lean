/-! ===== a spark by its code ===== -/
def skG (S : Sc) (p : Sk) : Prop := skOK S p ∧ (sK S (kKd p) 5 = 2 → ∀ i a, 0 ≤ i → i < 3 → 0 ≤ a → a < kEn p - kBn p → 0 ≤ raw S p i a ∧ raw S p i a < wl S i)
theorem one_g {S : Sc} (hk : scOK S) {c k w : Int} {bg : Int → Int} (h1 : 0 ≤ k) (h2 : k < sNk S) (hw : 0 ≤ w) (hb : ∀ i, 0 ≤ i → i < 3 → 0 ≤ bg i ∧ bg i < wl S i) : skG S (one S c k w bg) := by
  refine ⟨one_ok hk h1 h2 hw hb, fun h5 i a q1 q2 q3 q4 => ?_⟩
  rw [one_kd] at h5
  rw [one_en, one_bn] at q4
  exact one_in q3 (by omega) q1 q2 h5
theorem plc_in {S : Sc} (hk : scOK S) {p : Sk} (hp : skG S p) {i a : Int} (h1 : 0 ≤ i) (h2 : i < 3) (h3 : 0 ≤ a) (h4 : a < kEn p - kBn p) : 0 ≤ plc S p i a ∧ plc S p i a < wl S i := plc_bd hk h1 h2 (fun h5 => hp.2 h5 i a h1 h2 h3 h4)
theorem skG.bd {S : Sc} (hk : scOK S) {p : Sk} (hp : skG S p) {i : Int} (h1 : 0 ≤ i) (h2 : i < 3) : (0 ≤ kBg p i ∧ kBg p i < 320) ∧ -20 ≤ kVl p i ∧ kVl p i ≤ 20 := by
  have a := hp.1.2.2.2.2.1 i h1 h2
  have b := hp.1.2.2.2.2.2 i h1 h2
  have w := wl_bd hk h1 h2
  omega
theorem layR_g {S : Sc} (hk : scOK S) {s k : Int} (h1 : 0 ≤ s) (h2 : s < sNs S) (h3 : 0 ≤ k) : skG S (layR S s k) := by
  obtain ⟨q0, q1, q4, q5, q6, q7, q8, -⟩ := hk.2.2.2.2.2 s h1 h2
  refine one_g hk q0.1 q0.2 ?_ (fun i g1 g2 => ?_)
  · have := dr_bd S (256 * (4 * k + s)) 0 (n := sQ S s 8 + 1) (by omega)
    have := Int.mul_nonneg (Int.ediv_nonneg (a := k) (b := sQ S s 6) h3 (by omega)) (b := sQ S s 5) (by omega)
    unfold bornR
    omega
  · have := q1 i g1 g2
    unfold wl
    omega
theorem layC_g {S : Sc} (hk : scOK S) {p : Sk} (hp : skG S p) (c : Int) (h1 : 0 ≤ sK S (kKd p) 7) (h2 : sK S (kKd p) 7 < sNk S) : skG S (layC S p c) := by
  obtain ⟨⟨a1, a2, a3, a4, a5, a6⟩, -⟩ := id hp
  exact one_g hk h1 h2 (by omega) (fun i g1 g2 => plc_in hk hp g1 g2 (by omega) (by omega))
/-- is there such a spark -/
def isSp (S : Sc) (c : Int) : Prop := 0 ≤ c ∧ c / 256 % 4 < sNs S ∧ c / 256 / 4 < rts S (c / 256 % 4) ∧ (c % 256 = 0 ∨ ((1 ≤ c % 256 / 16 ∧ c % 256 / 16 ≤ sK S (sQ S (c / 256 % 4) 0) 6) ∧ (c % 256 % 16 = 0 ∨ (1 ≤ c % 256 % 16 ∧ c % 256 % 16 ≤ sK S (sK S (sQ S (c / 256 % 4) 0) 7) 6))))
noncomputable def lay0 (S : Sc) (c : Int) : Sk := layR S (c / 256 % 4) (c / 256 / 4)
noncomputable def lay1 (S : Sc) (c : Int) : Sk := layC S (lay0 S c) (c - c % 256 % 16)
noncomputable def lay (S : Sc) (c : Int) : Sk := if c % 256 = 0 then lay0 S c else if c % 256 % 16 = 0 then lay1 S c else layC S (lay1 S c) c
theorem sp_rt {S : Sc} (hk : scOK S) {c : Int} (h : isSp S c) : c / 256 / 4 < 50000 ∧ c < 51200000 := by
  obtain ⟨h0, h1, h2, -⟩ := h
  have := rts_bd hk (s := c / 256 % 4) (by omega) h1
  omega
theorem lay0_g {S : Sc} (hk : scOK S) {c : Int} (h : isSp S c) : skG S (lay0 S c) := layR_g hk (by omega) h.2.1 (by have := h.1; omega)
theorem lay0_kd (S : Sc) (c : Int) : kKd (lay0 S c) = sQ S (c / 256 % 4) 0 := rfl
theorem lay1_kd (S : Sc) (c : Int) : kKd (lay1 S c) = sK S (kKd (lay0 S c)) 7 := rfl
/-- the kinds of those who come of one -/
theorem ch_kd {S : Sc} (hk : scOK S) {k : Int} (h1 : 0 ≤ k) (h2 : k < sNk S) (h3 : 1 ≤ sK S k 6) : 0 ≤ sK S k 7 ∧ sK S k 7 < sNk S := by
  have := (hk.2.2.2.2.1 k h1 h2).2.2.2.2.2.2
  omega
theorem sp_k1 {S : Sc} (hk : scOK S) {c : Int} (h : isSp S c) (hp : c % 256 ≠ 0) : 0 ≤ sK S (kKd (lay0 S c)) 7 ∧ sK S (kKd (lay0 S c)) 7 < sNk S := by
  obtain ⟨h0, h1, h2, h3⟩ := h
  have q := (hk.2.2.2.2.2 (c / 256 % 4) (by omega) h1).1
  rw [lay0_kd]
  exact ch_kd hk q.1 q.2 (by omega)
theorem lay1_g {S : Sc} (hk : scOK S) {c : Int} (h : isSp S c) (hp : c % 256 ≠ 0) : skG S (lay1 S c) := layC_g hk (lay0_g hk h) _ (sp_k1 hk h hp).1 (sp_k1 hk h hp).2
theorem sp_k2 {S : Sc} (hk : scOK S) {c : Int} (h : isSp S c) (hp : c % 256 % 16 ≠ 0) : 0 ≤ sK S (kKd (lay1 S c)) 7 ∧ sK S (kKd (lay1 S c)) 7 < sNk S := by
  have h256 : c % 256 ≠ 0 := by omega
  have k1 := sp_k1 hk h h256
  obtain ⟨h0, h1, h2, h3⟩ := h
  rw [lay1_kd]
  rw [lay0_kd] at k1 ⊢
  exact ch_kd hk k1.1 k1.2 (by omega)
theorem lay_g {S : Sc} (hk : scOK S) {c : Int} (h : isSp S c) : skG S (lay S c) := by
  unfold lay
  split
  · exact lay0_g hk h
  · split
    · exact lay1_g hk h (by assumption)
    · exact layC_g hk (lay1_g hk h (by assumption)) _ (sp_k2 hk h (by assumption)).1 (sp_k2 hk h (by assumption)).2
section Lays3
variable {M : am_M} {S : Sc}
theorem mL18s (h : SH M) (hc : MS M S) (hk : scOK S) {s i : Int} (k c : Int32) (h1 : 0 ≤ s) (h2 : s < sNs S) (h3 : 0 ≤ i) (h4 : i < 3) (n : Nat) : F_Md_laysRoot_L18 (n + 1) 70 (iz s) k c (iz i) M = F_Md_laysRoot_L18 n 70 (iz s) k c (iz (i + 1)) (wI M 80 i.toNat (iz (8 * sQ S s (1 + i) + 4))) := by
  rw [F_Md_laysRoot_L18]
  simp (disch := omega) only [iz_lit, iz_le, if_neg, fR_eq (kd_70 h) (rr_70_30 h), cv_eq (kd_70 h), iz_mul, iz_add, mQ h hc hk.2.2.1.2, bI_eq, tI_eq (kd_80 h) (ln_80 h), nm_eq]
theorem mRoot (h : SH M) (hc : MS M S) (hk : scOK S) {s k : Int} (h1 : 0 ≤ s) (h2 : s < sNs S) (h3 : 0 ≤ k) (h4 : k < 100000) : ∃ M', F_Md_laysRoot 70 (iz (4 * k + s)) M = some (none, M') ∧ Fr ALd M M' ∧ MdL M' (layR S s k) := by
  obtain ⟨q0, q1, q4, q5, q6, q7, q8, -⟩ := hk.2.2.2.2.2 s h1 h2
  have ns := hk.2.2.1
  have d := dr_bd S (256 * (4 * k + s)) 0 (n := sQ S s 8 + 1) (by omega)
  obtain ⟨m, hm⟩ : ∃ m, fu = m + 1 + 1 + 1 + 1 := ⟨fu - 4, by have := fu_ge; omega⟩
  have g1 : Fr ALd M (wI M 80 (0 : Int).toNat (iz (8 * sQ S s (1 + 0) + 4))) := Fr.wI (by unfold ALd; omega)
  have g2 := g1.trans (Fr.wI (k := (0 + 1 : Int).toNat) (v := iz (8 * sQ S s (1 + (0 + 1)) + 4)) (show ALd 80 _ by unfold ALd; omega))
  have g3 := g2.trans (Fr.wI (k := (0 + 1 + 1 : Int).toNat) (v := iz (8 * sQ S s (1 + (0 + 1 + 1)) + 4)) (show ALd 80 _ by unfold ALd; omega))
  have t0 := mL18s h hc hk (iz k) (iz (256 * (4 * k + s))) h1 h2 (i := 0) (by omega) (by omega) (m + 1 + 1 + 1)
  have t1 := mL18s (h.fr g1) (hc.lays g1) hk (iz k) (iz (256 * (4 * k + s))) h1 h2 (i := 0 + 1) (by omega) (by omega) (m + 1 + 1)
  have t2 := mL18s (h.fr g2) (hc.lays g2) hk (iz k) (iz (256 * (4 * k + s))) h1 h2 (i := 0 + 1 + 1) (by omega) (by omega) (m + 1)
  generalize hM3 : wI (wI (wI M 80 (0 : Int).toNat (iz (8 * sQ S s (1 + 0) + 4))) 80 (0 + 1 : Int).toNat (iz (8 * sQ S s (1 + (0 + 1)) + 4))) 80 (0 + 1 + 1 : Int).toNat (iz (8 * sQ S s (1 + (0 + 1 + 1)) + 4)) = M3 at *
  have b3 : ∀ i, 0 ≤ i → i < 3 → rI M3 80 i.toNat = iz (8 * sQ S s (1 + i) + 4) := iz3 (f := fun i => 8 * sQ S s (1 + i) + 4) (by rw [← hM3]; rfl) (by rw [← hM3]; rfl) (by rw [← hM3]; rfl)
  have s3 := h.fr g3
  have c3 := hc.lays g3
  obtain ⟨M', e1, e2, e3⟩ := mOne s3 c3 hk (c := 256 * (4 * k + s)) (w := bornR S s k) (bg := fun i => 8 * sQ S s (1 + i) + 4) q0.1 q0.2 (fun i g1 g2 => by have := q1 i g1 g2; unfold wl; omega) b3
  refine ⟨M', ?_, g3.trans e2, e3⟩
  have x1 : 4 * k + s - (4 * k + s) / 4 * 4 = s := by omega
  have x2 : (4 * k + s) / 4 = k := by omega
  have bR : sQ S s 4 + k / sQ S s 6 * sQ S s 5 + dr S (256 * (4 * k + s)) 0 (sQ S s 8 + 1) = bornR S s k := rfl
  unfold F_Md_laysRoot
  simp (disch := omega) only [iz_lit, iz_ediv, iz_mul, iz_sub, nm_eq, x1]
  rw [x2, hm, t0, t1, t2, show (0 : Int) + 1 + 1 + 1 = 3 from rfl, F_Md_laysRoot_L18]
  simp (disch := omega) only [iz_lit, iz_le, if_pos, cv_eq (kd_70 s3), mQ s3 c3 ns.2 h1 h2, bI_eq, dZ_eq, iz_ediv, iz_mul, iz_add, nm_eq, mDraw s3 c3, bR, e1, bV_eq]
theorem mL2s (h : SH M) (hc : MS M S) (hk : scOK S) {p : Sk} (hp : skG S p) (hL : MdL M p) {i : Int} (c : Int32) (h3 : 0 ≤ i) (h4 : i < 3) (n : Nat) : F_Md_laysChild_L2 (n + 1) 70 c (iz i) M = F_Md_laysChild_L2 n 70 c (iz (i + 1)) (wI M 82 i.toNat (iz (plc S p i (kEn p - 1 - kBn p)))) := by
  obtain ⟨⟨a1, a2, a3, a4, a5, a6⟩, -⟩ := id hp
  have b := hp.bd hk h3 h4
  have e := mPlc h hc hk hL.1 a1 b.1 b.2 h3 h4 (a := kEn p - 1 - kBn p) (by omega) (by omega)
  rw [F_Md_laysChild_L2]
  simp (disch := omega) only [iz_lit, iz_le, if_neg, fR_eq (kd_70 h) (rr_70_32 h), fI_eq (kd_70 h), hL.2.1, hL.2.2, iz_sub, cv_eq (kd_70 h), e, bI_eq, tI_eq (kd_82 h) (ln_82 h), nm_eq, iz_add]
theorem mL37s (h : SH M) {i v : Int} (c : Int32) (hv : rI M 82 i.toNat = iz v) (h3 : 0 ≤ i) (h4 : i < 3) (n : Nat) : F_Md_laysChild_L37 (n + 1) 70 c (iz i) M = F_Md_laysChild_L37 n 70 c (iz (i + 1)) (wI M 80 i.toNat (iz v)) := by
  rw [F_Md_laysChild_L37]
  simp (disch := omega) only [iz_lit, iz_le, if_neg, fR_eq (kd_70 h) (rr_70_30 h), fR_eq (kd_70 h) (rr_70_32 h), aI_eq (kd_82 h) (ln_82 h), hv, tI_eq (kd_80 h) (ln_80 h), nm_eq, iz_add]
theorem MdL.w88 {p : Sk} (h : MdL M p) {j : Nat} {v : Int32} : MdL (wI M 82 j v) p := by
  obtain ⟨⟨a, b, c⟩, d, e⟩ := h
  exact ⟨⟨a, fun i q1 q2 => b i q1 q2, fun i q1 q2 => c i q1 q2⟩, d, e⟩
theorem mChild (h : SH M) (hc : MS M S) (hk : scOK S) {p : Sk} (hp : skG S p) (hL : MdL M p) (c : Int) (h1 : 0 ≤ sK S (kKd p) 7) (h2 : sK S (kKd p) 7 < sNk S) : ∃ M', F_Md_laysChild 70 (iz c) M = some (none, M') ∧ Fr ALd M M' ∧ MdL M' (layC S p c) := by
  obtain ⟨⟨a1, a2, a3, a4, a5, a6⟩, -⟩ := id hp
  have k5 := hk.2.1
  obtain ⟨m, hm⟩ : ∃ m, fu = m + 1 + 1 + 1 + 1 := ⟨fu - 4, by have := fu_ge; omega⟩
  generalize hv : (fun i => plc S p i (kEn p - 1 - kBn p)) = bg
  have hvi : ∀ i, plc S p i (kEn p - 1 - kBn p) = bg i := fun i => by rw [← hv]
  have g1 : Fr ALd M (wI M 82 (0 : Int).toNat (iz (bg 0))) := Fr.wI (by unfold ALd; omega)
  have g2 := g1.trans (Fr.wI (k := (0 + 1 : Int).toNat) (v := iz (bg (0 + 1))) (show ALd 82 _ by unfold ALd; omega))
  have g3 := g2.trans (Fr.wI (k := (0 + 1 + 1 : Int).toNat) (v := iz (bg (0 + 1 + 1))) (show ALd 82 _ by unfold ALd; omega))
  have t0 := mL2s h hc hk hp hL (iz c) (i := 0) (by omega) (by omega) (m + 1 + 1 + 1)
  have t1 := mL2s (h.fr g1) (hc.lays g1) hk hp hL.w88 (iz c) (i := 0 + 1) (by omega) (by omega) (m + 1 + 1)
  have t2 := mL2s (h.fr g2) (hc.lays g2) hk hp hL.w88.w88 (iz c) (i := 0 + 1 + 1) (by omega) (by omega) (m + 1)
  rw [hvi] at t0 t1 t2
  have hL3 := hL.w88.w88.w88 (j := (0 + 1 + 1 : Int).toNat) (v := iz (bg (0 + 1 + 1))) (M := wI (wI M 82 (0 : Int).toNat (iz (bg 0))) 82 (0 + 1 : Int).toNat (iz (bg (0 + 1))))
  generalize hM3 : wI (wI (wI M 82 (0 : Int).toNat (iz (bg 0))) 82 (0 + 1 : Int).toNat (iz (bg (0 + 1)))) 82 (0 + 1 + 1 : Int).toNat (iz (bg (0 + 1 + 1))) = M3 at *
  have v0 : rI M3 82 (0 : Int).toNat = iz (bg 0) := by rw [← hM3]; rfl
  have v1 : rI M3 82 (0 + 1 : Int).toNat = iz (bg (0 + 1)) := by rw [← hM3]; rfl
  have v2 : rI M3 82 (0 + 1 + 1 : Int).toNat = iz (bg (0 + 1 + 1)) := by rw [← hM3]; rfl
  have s3 := h.fr g3
  have c3 := hc.lays g3
  have f1 : Fr ALd M3 (wI M3 80 (0 : Int).toNat (iz (bg 0))) := Fr.wI (by unfold ALd; omega)
  have f2 := f1.trans (Fr.wI (k := (0 + 1 : Int).toNat) (v := iz (bg (0 + 1))) (show ALd 80 _ by unfold ALd; omega))
  have f3 := f2.trans (Fr.wI (k := (0 + 1 + 1 : Int).toNat) (v := iz (bg (0 + 1 + 1))) (show ALd 80 _ by unfold ALd; omega))
  have u0 := mL37s s3 (iz c) v0 (by omega) (by omega) (m + 1 + 1 + 1)
  have u1 := mL37s (s3.fr f1) (iz c) (i := 0 + 1) (v := bg (0 + 1)) v1 (by omega) (by omega) (m + 1 + 1)
  have u2 := mL37s (s3.fr f2) (iz c) (i := 0 + 1 + 1) (v := bg (0 + 1 + 1)) v2 (by omega) (by omega) (m + 1)
  have k27 : rI M3 70 27 = iz (kKd p) := hL3.1.1
  have k29 : rI M3 70 29 = iz (kEn p) := hL3.2.2
  generalize hM6 : wI (wI (wI M3 80 (0 : Int).toNat (iz (bg 0))) 80 (0 + 1 : Int).toNat (iz (bg (0 + 1)))) 80 (0 + 1 + 1 : Int).toNat (iz (bg (0 + 1 + 1))) = M6 at *
  have i27 : rI M6 70 27 = iz (kKd p) := by rw [← hM6]; exact k27
  have i29 : rI M6 70 29 = iz (kEn p) := by rw [← hM6]; exact k29
  have b6 : ∀ i, 0 ≤ i → i < 3 → rI M6 80 i.toNat = iz (bg i) := iz3 (f := bg) (by rw [← hM6]; rfl) (by rw [← hM6]; rfl) (by rw [← hM6]; rfl)
  have s6 := s3.fr f3
  have c6 := c3.lays f3
  obtain ⟨M', e1, e2, e3⟩ := mOne s6 c6 hk (c := c) (w := kEn p) (bg := bg) h1 h2 (fun i z1 z2 => by rw [← hvi]; exact plc_in hk hp z1 z2 (by omega) (by omega)) b6
  refine ⟨M', ?_, (g3.trans f3).trans e2, by unfold layC; rw [hv]; exact e3⟩
  unfold F_Md_laysChild
  rw [hm, show (0 : Int32) = iz 0 from rfl, t0, t1, t2, show (0 : Int) + 1 + 1 + 1 = 3 from rfl, F_Md_laysChild_L2]
  rw [if_pos (by rw [show (3 : Int32) = iz 3 from rfl, iz_le (by omega) (by omega) (by omega) (by omega)]; omega), hm, show (0 : Int32) = iz 0 from rfl, u0, u1, u2, show (0 : Int) + 1 + 1 + 1 = 3 from rfl, F_Md_laysChild_L37]
  simp (disch := omega) only [iz_lit, iz_le, if_pos, fR_eq (kd_70 s6) (rr_70_5 s6), fI_eq (kd_70 s6), i27, i29, iz_mul, iz_add, aI_eq (kd_72 s6) (ln_72 s6), c6.2.1 (kKd p) 7 a1.1 a1.2 (by omega) (by omega), cv_eq (kd_70 s6), e1, bV_eq]
theorem mLays (h : SH M) (hc : MS M S) (hk : scOK S) {c : Int} (hs : isSp S c) : ∃ M', F_Md_lays 70 (iz c) M = some (none, M') ∧ Fr ALd M M' ∧ MdL M' (lay S c) := by
  have hr := sp_rt hk hs
  have hs0 := hs.1
  obtain ⟨M1, e1, f1, l1⟩ := mRoot h hc hk (s := c / 256 % 4) (k := c / 256 / 4) (by omega) hs.2.1 (by omega) (by omega)
  rw [show 4 * (c / 256 / 4) + c / 256 % 4 = c / 256 by omega] at e1
  have x1 : c - c / 256 * 256 = c % 256 := by omega
  have x2 : c % 256 - c % 256 / 16 * 16 = c % 256 % 16 := by omega
  have s1 := h.fr f1
  have c1 := hc.lays f1
  unfold F_Md_lays
  simp (disch := omega) only [iz_lit, iz_ediv, iz_mul, iz_sub, nm_eq, x1, x2, cv_eq (kd_70 h), cv_eq (kd_70 s1), e1, bV_eq, iz_lt, iz_le]
  by_cases g0 : c % 256 = 0
  · refine ⟨M1, ?_, f1, ?_⟩
    · rw [if_pos (by omega), if_pos (by omega)]
    · unfold lay
      rw [if_pos g0]
      exact l1
  · have g1 : ¬ c % 256 < 16 := by have := hs.2.2.2; omega
    have k1 := sp_k1 hk hs g0
    obtain ⟨M2, e2, f2, l2⟩ := mChild s1 c1 hk (lay0_g hk hs) l1 (c - c % 256 % 16) k1.1 k1.2
    have s2 := s1.fr f2
    have c2 := c1.lays f2
    rw [if_neg g1, e2, bV_eq]
    by_cases g2 : c % 256 % 16 = 0
    · refine ⟨M2, ?_, f1.trans f2, ?_⟩
      · rw [if_pos (by omega)]
      · unfold lay
        rw [if_neg g0, if_pos g2]
        exact l2
    · have k2 := sp_k2 hk hs g2
      obtain ⟨M3, e3, f3, l3⟩ := mChild s2 c2 hk (lay1_g hk hs g0) l2 c k2.1 k2.2
      refine ⟨M3, ?_, (f1.trans f2).trans f3, ?_⟩
      · rw [if_neg (by omega), cv_eq (kd_70 s2), e3, bV_eq]
      · unfold lay
        rw [if_neg g0, if_neg g2]
        exact l3
end Lays3
