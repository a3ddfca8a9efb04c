/-! ===== the component's sparks: begun ===== -/
section Begin
variable {M : am_M} {S : Sc} {a : Nat}
theorem cL83s (h : SH M) (hc : CS M S) (hs : SpA M a) {s i : Int} (h1 : 0 ≤ s) (h2 : s < 4) (h3 : 0 ≤ i) (h4 : i < 3) (n : Nat) : F_Sprk_beginAtSource_L83 (n + 1) a (iz s) (iz i) M = F_Sprk_beginAtSource_L83 n a (iz s) (iz (i + 1)) (wI M (a + 1) i.toNat (iz (8 * sQ S s (1 + i) + 4))) := by
  obtain ⟨q1, q2, q3, q4, q5, q6, q7, q8⟩ := hs
  rw [F_Sprk_beginAtSource_L83]
  simp (disch := omega) only [iz_lit, iz_le, if_neg, fR_eq q1 q3, fR_eq q1 q2, cv_eq (kd_2 h), iz_add, cQ h hc, bI_eq, iz_mul, tI_eq q5 q6, nm_eq]
theorem cBegR (h : SH M) (hc : CS M S) (hk : scOK S) (hs : SpA M a) (ha : 5 < a) {s k w : Int} (h1 : 0 ≤ s) (h2 : s < sNs S) : ∃ M', F_Sprk_beginAtSource a (iz s) (iz k) (iz w) M = some (none, M') ∧ Fr (ASp a) M M' ∧ CpB M' S a (sQ S s 0) w (fun i => 8 * sQ S s (1 + i) + 4) (256 * (4 * k + s)) 0 := by
  obtain ⟨z0, z1, -⟩ := hk.2.2.2.2.2 s h1 h2
  have nk := hk.2.1
  have ns := hk.2.2.1
  obtain ⟨y0, y1, -⟩ := hk.2.2.2.2.1 (sQ S s 0) z0.1 z0.2
  obtain ⟨m, hm⟩ : ∃ m, fu = m + 1 + 1 + 1 + 1 := ⟨fu - 4, by have := fu_ge; omega⟩
  have f1 : Fr (ASp a) M (wI M a 3 (iz (256 * (4 * k + s)))) := Fr.wI (by unfold ASp; omega)
  have f2 := f1.trans (Fr.wI (k := 4) (v := iz (sQ S s 0)) (show ASp a a _ by unfold ASp; omega))
  have f3 := f2.trans (Fr.wI (k := 5) (v := iz 0) (show ASp a a _ by unfold ASp; omega))
  have f4 := f3.trans (Fr.wI (k := 6) (v := iz w) (show ASp a a _ by unfold ASp; omega))
  have f5 := f4.trans (Fr.wI (k := 7) (v := iz (w + lif S (256 * (4 * k + s)) (sQ S s 0))) (show ASp a a _ by unfold ASp; omega))
  have r3 : rI (wI (wI (wI (wI M a 3 (iz (256 * (4 * k + s)))) a 4 (iz (sQ S s 0))) a 5 (iz 0)) a 6 (iz w)) a 3 = iz (256 * (4 * k + s)) := by simp (disch := omega) only [rI_ne, rI_at]
  have r4 : rI (wI (wI (wI (wI M a 3 (iz (256 * (4 * k + s)))) a 4 (iz (sQ S s 0))) a 5 (iz 0)) a 6 (iz w)) a 4 = iz (sQ S s 0) := by simp (disch := omega) only [rI_ne, rI_at]
  have r5 : rI (wI (wI (wI (wI M a 3 (iz (256 * (4 * k + s)))) a 4 (iz (sQ S s 0))) a 5 (iz 0)) a 6 (iz w)) a 5 = iz 0 := by simp (disch := omega) only [rI_ne, rI_at]
  have r6 : rI (wI (wI (wI (wI M a 3 (iz (256 * (4 * k + s)))) a 4 (iz (sQ S s 0))) a 5 (iz 0)) a 6 (iz w)) a 6 = iz w := by simp (disch := omega) only [rI_at]
  have s1 := h.fr f1
  have c1 := hc.sp ha f1
  have p1 := hs.fr f1
  have p2 := hs.fr f2
  have p3 := hs.fr f3
  have s4 := h.fr f4
  have c4 := hc.sp ha f4
  have p4 := hs.fr f4
  generalize hM4 : wI (wI (wI (wI M a 3 (iz (256 * (4 * k + s)))) a 4 (iz (sQ S s 0))) a 5 (iz 0)) a 6 (iz w) = M4 at *
  have eL : w + sK S (sQ S s 0) 0 + dr S (256 * (4 * k + s)) 1 (sK S (sQ S s 0) 1 + 1) = w + lif S (256 * (4 * k + s)) (sQ S s 0) := by unfold lif; omega
  have s5 := h.fr f5
  have c5 := hc.sp ha f5
  have p5 := hs.fr f5
  generalize hM5 : wI M4 a 7 (iz (w + lif S (256 * (4 * k + s)) (sQ S s 0))) = M5 at *
  have w3 : rI M5 a 3 = iz (256 * (4 * k + s)) := by rw [← hM5]; simp (disch := omega) only [rI_ne]; exact r3
  have w4 : rI M5 a 4 = iz (sQ S s 0) := by rw [← hM5]; simp (disch := omega) only [rI_ne]; exact r4
  have w5 : rI M5 a 5 = iz 0 := by rw [← hM5]; simp (disch := omega) only [rI_ne]; exact r5
  have w6 : rI M5 a 6 = iz w := by rw [← hM5]; simp (disch := omega) only [rI_ne]; exact r6
  have w7 : rI M5 a 7 = iz (w + lif S (256 * (4 * k + s)) (sQ S s 0)) := by rw [← hM5]; simp (disch := omega) only [rI_at]
  have g6 := f5.trans (Fr.wI (k := (0 : Int).toNat) (v := iz (8 * sQ S s (1 + 0) + 4)) (show ASp a (a + 1) _ by unfold ASp; omega))
  have g7 := g6.trans (Fr.wI (k := (0 + 1 : Int).toNat) (v := iz (8 * sQ S s (1 + (0 + 1)) + 4)) (show ASp a (a + 1) _ by unfold ASp; omega))
  have g8 := g7.trans (Fr.wI (k := (0 + 1 + 1 : Int).toNat) (v := iz (8 * sQ S s (1 + (0 + 1 + 1)) + 4)) (show ASp a (a + 1) _ by unfold ASp; omega))
  have t0 := cL83s s5 c5 p5 h1 (by omega) (i := 0) (by omega) (by omega) (m + 1 + 1 + 1)
  have t1 := cL83s (h.fr g6) (hc.sp ha g6) (hs.fr g6) h1 (by omega) (i := 0 + 1) (by omega) (by omega) (m + 1 + 1)
  have t2 := cL83s (h.fr g7) (hc.sp ha g7) (hs.fr g7) h1 (by omega) (i := 0 + 1 + 1) (by omega) (by omega) (m + 1)
  refine ⟨_, ?_, g8, ⟨?_, ?_, ?_, ?_, ?_, iz3 (f := fun i => 8 * sQ S s (1 + i) + 4) ?_ ?_ ?_⟩⟩
  · unfold F_Sprk_beginAtSource F_NS_codeOfRoot
    simp only [iz_lit, iz_mul, iz_add]
    rw [bI_eq, sI_eq hs.1, fR_eq p1.1 p1.2.1, cv_eq (kd_2 s1), cQ s1 c1 h1 (by omega) (by omega) (by omega), bI_eq, sI_eq p1.1, sI_eq p2.1, sI_eq p3.1, hM4, fI_eq p4.1, r6, fR_eq p4.1 p4.2.1, fI_eq p4.1, r4, cv_eq (kd_2 s4), cK s4 c4 z0.1 (by omega) (by omega) (by omega), bI_eq, fR_eq p4.1 p4.2.1, fI_eq p4.1, r3, fR_eq p4.1 p4.2.1, fI_eq p4.1, r4, cv_eq (kd_2 s4), cK s4 c4 z0.1 (by omega) (by omega) (by omega), bI_eq, cv_eq (kd_2 s4), iz_add, cDraw s4 c4 _ _ (by omega) (by omega), bI_eq, iz_add, iz_add, eL, sI_eq p4.1, hM5, hm, t0, t1, t2, show (0 : Int) + 1 + 1 + 1 = 3 from rfl, F_Sprk_beginAtSource_L83, if_pos (by rw [show (3 : Int32) = iz 3 from rfl, iz_le (by omega) (by omega) (by omega) (by omega)]; omega)]
  · simp (disch := omega) only [rI_ne]; exact w3
  · simp (disch := omega) only [rI_ne]; exact w4
  · simp (disch := omega) only [rI_ne]; exact w5
  · simp (disch := omega) only [rI_ne]; exact w6
  · simp (disch := omega) only [rI_ne]; exact w7
  · simp (disch := omega) only [rI_ne, rI_at]
  · simp (disch := omega) only [rI_ne, rI_at]; rfl
  · simp (disch := omega) only [rI_ne, rI_at]; rfl
theorem cL101s (h : SH M) (hc : CS M S) (hk : scOK S) (hs : SpA M a) {b : Nat} (hb : SpA M b) {p : Sk} {c g : Int} (hp : skG S p) (hL : CpL M S b p c g) {i : Int} (h3 : 0 ≤ i) (h4 : i < 3) (n : Nat) : F_Sprk_beginAsChild_L101 (n + 1) a b (iz i) M = F_Sprk_beginAsChild_L101 n a b (iz (i + 1)) (wI M (a + 1) i.toNat (iz (plc S p i (kEn p - 1 - kBn p)))) := by
  obtain ⟨q1, q2, q3, q4, q5, q6, q7, q8⟩ := hs
  obtain ⟨⟨a1, a2, a3, a4, a5, a6⟩, -⟩ := id hp
  have bd := hp.bd hk h3 h4
  have e := cPlc h hc hk hb hL.1 a1 bd.1 bd.2 h3 h4 (g := kEn p - 1 - kBn p) (by omega) (by omega)
  rw [F_Sprk_beginAsChild_L101]
  simp (disch := omega) only [iz_lit, iz_le, if_neg, fR_eq q1 q3, fI_eq hb.1, hL.2.2.2.1, hL.2.2.2.2, iz_sub, cv_eq hb.1, e, bI_eq, tI_eq q5 q6, nm_eq, iz_add]
theorem CpL.fr {A : Nat → Nat → Prop} {M M' : am_M} {b : Nat} {p : Sk} {c g : Int} (h : CpL M S b p c g) (hf : Fr A M M') (hA : ∀ x j, A x j → x < b ∨ b + 2 < x) : CpL M' S b p c g := by
  have e : ∀ x j, b ≤ x → x ≤ b + 2 → rI M' x j = rI M x j := fun x j q1 q2 => hf.ri (fun q => by have := hA x j q; omega)
  obtain ⟨⟨h1, h2, h3, h4, h5⟩, h6, h7, h8, h9⟩ := h
  exact ⟨⟨by rw [e b _ (by omega) (by omega)]; exact h1, by rw [e b _ (by omega) (by omega)]; exact h2, by rw [e b _ (by omega) (by omega)]; exact h3, fun i q1 q2 => by rw [e _ _ (by omega) (by omega)]; exact h4 i q1 q2, fun i q1 q2 => by rw [e _ _ (by omega) (by omega)]; exact h5 i q1 q2⟩, by rw [e b _ (by omega) (by omega)]; exact h6, by rw [e b _ (by omega) (by omega)]; exact h7, by rw [e b _ (by omega) (by omega)]; exact h8, by rw [e b _ (by omega) (by omega)]; exact h9⟩
/-- the code of a child -/
def chc (c g i : Int) : Int := c + (if g = 0 then 16 else 1) * (1 + i)
theorem cBegC (h : SH M) (hc : CS M S) (hk : scOK S) (hs : SpA M a) (ha : 5 < a) {b : Nat} (hb : SpA M b) (hab : a + 2 < b ∨ b + 2 < a) {p : Sk} {c g i : Int} (hp : skG S p) (hL : CpL M S b p c g) (hg : g = 0 ∨ g = 1) (h1 : 0 ≤ sK S (kKd p) 7) (h2 : sK S (kKd p) 7 < sNk S) : ∃ M', F_Sprk_beginAsChild a b (iz i) M = some (none, M') ∧ Fr (ASp a) M M' ∧ CpB M' S a (sK S (kKd p) 7) (kEn p) (fun i => plc S p i (kEn p - 1 - kBn p)) (chc c g i) (g + 1) := by
  obtain ⟨⟨a1, a2, a3, a4, a5, a6⟩, -⟩ := id hp
  have nk := hk.2.1
  obtain ⟨y0, y1, -⟩ := hk.2.2.2.2.1 (sK S (kKd p) 7) h1 h2
  obtain ⟨m, hm⟩ : ∃ m, fu = m + 1 + 1 + 1 + 1 := ⟨fu - 4, by have := fu_ge; omega⟩
  have hAb : ∀ x j, ASp a x j → x < b ∨ b + 2 < x := fun x j q => by unfold ASp at q; omega
  generalize hk' : sK S (kKd p) 7 = k' at *
  generalize hcc : chc c g i = cc
  generalize hv : (fun i => plc S p i (kEn p - 1 - kBn p)) = bg
  have hvi : ∀ i, plc S p i (kEn p - 1 - kBn p) = bg i := fun i => by rw [← hv]
  have f1 : Fr (ASp a) M (wI M a 3 (iz cc)) := Fr.wI (by unfold ASp; omega)
  have f2 := f1.trans (Fr.wI (k := 4) (v := iz k') (show ASp a a _ by unfold ASp; omega))
  have f3 := f2.trans (Fr.wI (k := 5) (v := iz (g + 1)) (show ASp a a _ by unfold ASp; omega))
  have f4 := f3.trans (Fr.wI (k := 6) (v := iz (kEn p)) (show ASp a a _ by unfold ASp; omega))
  have f5 := f4.trans (Fr.wI (k := 7) (v := iz (kEn p + lif S cc k')) (show ASp a a _ by unfold ASp; omega))
  have r3 : rI (wI (wI (wI (wI M a 3 (iz cc)) a 4 (iz k')) a 5 (iz (g + 1))) a 6 (iz (kEn p))) a 3 = iz cc := by simp (disch := omega) only [rI_ne, rI_at]
  have r4 : rI (wI (wI (wI (wI M a 3 (iz cc)) a 4 (iz k')) a 5 (iz (g + 1))) a 6 (iz (kEn p))) a 4 = iz k' := by simp (disch := omega) only [rI_ne, rI_at]
  have r5 : rI (wI (wI (wI (wI M a 3 (iz cc)) a 4 (iz k')) a 5 (iz (g + 1))) a 6 (iz (kEn p))) a 5 = iz (g + 1) := by simp (disch := omega) only [rI_ne, rI_at]
  have r6 : rI (wI (wI (wI (wI M a 3 (iz cc)) a 4 (iz k')) a 5 (iz (g + 1))) a 6 (iz (kEn p))) a 6 = iz (kEn p) := by simp (disch := omega) only [rI_at]
  have s1 := h.fr f1
  have c1 := hc.sp ha f1
  have p1 := hs.fr f1
  have L1 := hL.fr f1 hAb
  have b1 := hb.fr f1
  have p2 := hs.fr f2
  have L2 := hL.fr f2 hAb
  have b2 := hb.fr f2
  have p3 := hs.fr f3
  have L3 := hL.fr f3 hAb
  have b3 := hb.fr f3
  have s4 := h.fr f4
  have c4 := hc.sp ha f4
  have p4 := hs.fr f4
  generalize hM4 : wI (wI (wI (wI M a 3 (iz cc)) a 4 (iz k')) a 5 (iz (g + 1))) a 6 (iz (kEn p)) = M4 at *
  have eL : kEn p + sK S k' 0 + dr S cc 1 (sK S k' 1 + 1) = kEn p + lif S cc k' := by unfold lif; omega
  have s5 := h.fr f5
  have c5 := hc.sp ha f5
  have p5 := hs.fr f5
  have L5 := hL.fr f5 hAb
  generalize hM5 : wI M4 a 7 (iz (kEn p + lif S cc k')) = M5 at *
  have w3 : rI M5 a 3 = iz cc := by rw [← hM5]; simp (disch := omega) only [rI_ne]; exact r3
  have w4 : rI M5 a 4 = iz k' := by rw [← hM5]; simp (disch := omega) only [rI_ne]; exact r4
  have w5 : rI M5 a 5 = iz (g + 1) := by rw [← hM5]; simp (disch := omega) only [rI_ne]; exact r5
  have w6 : rI M5 a 6 = iz (kEn p) := by rw [← hM5]; simp (disch := omega) only [rI_ne]; exact r6
  have w7 : rI M5 a 7 = iz (kEn p + lif S cc k') := by rw [← hM5]; simp (disch := omega) only [rI_at]
  have g6 := f5.trans (Fr.wI (k := (0 : Int).toNat) (v := iz (bg 0)) (show ASp a (a + 1) _ by unfold ASp; omega))
  have g7 := g6.trans (Fr.wI (k := (0 + 1 : Int).toNat) (v := iz (bg (0 + 1))) (show ASp a (a + 1) _ by unfold ASp; omega))
  have g8 := g7.trans (Fr.wI (k := (0 + 1 + 1 : Int).toNat) (v := iz (bg (0 + 1 + 1))) (show ASp a (a + 1) _ by unfold ASp; omega))
  have t0 := cL101s s5 c5 hk p5 (hb.fr f5) hp L5 (i := 0) (by omega) (by omega) (m + 1 + 1 + 1)
  have t1 := cL101s (h.fr g6) (hc.sp ha g6) hk (hs.fr g6) (hb.fr g6) hp (hL.fr g6 hAb) (i := 0 + 1) (by omega) (by omega) (m + 1 + 1)
  have t2 := cL101s (h.fr g7) (hc.sp ha g7) hk (hs.fr g7) (hb.fr g7) hp (hL.fr g7 hAb) (i := 0 + 1 + 1) (by omega) (by omega) (m + 1)
  rw [hvi] at t0 t1 t2
  have ecc : F_NS_codeOfChild (iz c) (iz g) (iz i) M = some (some (.int (iz cc)), M) := by
    rw [← hcc]
    unfold F_NS_codeOfChild chc
    simp (disch := omega) only [iz_lit, iz_eq, iz_add, iz_mul]
    split <;> rfl
  refine ⟨_, ?_, g8, ⟨?_, ?_, ?_, ?_, ?_, iz3 (f := bg) ?_ ?_ ?_⟩⟩
  · unfold F_Sprk_beginAsChild
    rw [fI_eq hb.1, hL.2.1, fI_eq hb.1, hL.2.2.1, ecc, bI_eq, sI_eq hs.1, fR_eq p1.1 p1.2.1, fI_eq b1.1, L1.1.1, cv_eq (kd_2 s1), show (7 : Int32) = iz 7 from rfl, cK s1 c1 a1.1 (by omega) (by omega) (by omega), hk', bI_eq, sI_eq p1.1, fI_eq b2.1, L2.2.2.1, show (1 : Int32) = iz 1 from rfl, iz_add, sI_eq p2.1, fI_eq b3.1, L3.2.2.2.2, sI_eq p3.1, hM4, fI_eq p4.1, r6, fR_eq p4.1 p4.2.1, fI_eq p4.1, r4, cv_eq (kd_2 s4), show (0 : Int32) = iz 0 from rfl, cK s4 c4 h1 (by omega) (by omega) (by omega), bI_eq, fR_eq p4.1 p4.2.1, fI_eq p4.1, r3, fR_eq p4.1 p4.2.1, fI_eq p4.1, r4, cv_eq (kd_2 s4), cK s4 c4 h1 (by omega) (by omega) (by omega), bI_eq, cv_eq (kd_2 s4), iz_add, cDraw s4 c4 _ _ (by omega) (by omega), bI_eq, iz_add, iz_add, eL, sI_eq p4.1, hM5, hm, t0, t1, t2, show (0 : Int) + 1 + 1 + 1 = 3 from rfl, F_Sprk_beginAsChild_L101, if_pos (by rw [show (3 : Int32) = iz 3 from rfl, iz_le (by omega) (by omega) (by omega) (by omega)]; omega)]
  · simp (disch := omega) only [rI_ne]; exact w3
  · simp (disch := omega) only [rI_ne]; exact w4
  · simp (disch := omega) only [rI_ne]; exact w5
  · simp (disch := omega) only [rI_ne]; exact w6
  · simp (disch := omega) only [rI_ne]; exact w7
  · simp (disch := omega) only [rI_ne, rI_at]
  · simp (disch := omega) only [rI_ne, rI_at]; rfl
  · simp (disch := omega) only [rI_ne, rI_at]; rfl
end Begin
