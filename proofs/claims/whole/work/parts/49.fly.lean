/-! ===== the component's sparks: begun, sent off, found ===== -/
/-- begun, not yet sent off -/
def CpB (M : am_M) (S : Sc) (a : Nat) (k w : Int) (bg : Int → Int) (c g : Int) : Prop := rI M a 3 = iz c ∧ rI M a 4 = iz k ∧ rI M a 5 = iz g ∧ rI M a 6 = iz w ∧ rI M a 7 = iz (w + lif S c k) ∧ ∀ i, 0 ≤ i → i < 3 → rI M (a + 1) i.toNat = iz (bg i)
theorem out_bey {S : Sc} {p : Sk} {g : Int} : beyB S p g = true ↔ (outB S p 0 g = true ∨ outB S p 1 g = true ∨ outB S p 2 g = true) := by
  rw [beyB_t]
  unfold bey inW outB
  simp only [decide_eq_true_eq]
  omega
theorem fst3 {S : Sc} {p : Sk} {L0 : Int} (h0 : 1 ≤ L0) (hin : ∀ i, 0 ≤ i → i < 3 → 0 ≤ kBg p i ∧ kBg p i < wl S i) : fstB (outB S p 2) (fstB (outB S p 1) (fstB (outB S p 0) (L0 - 1).toNat 1 - 1).toNat 1 - 1).toNat 1 = fstB (beyB S p) L0.toNat 0 := by
  have a0 := fstB_le (outB S p 0) (L0 - 1).toNat 1
  generalize e1 : fstB (outB S p 0) (L0 - 1).toNat 1 = L1 at *
  have a1 := fstB_le (outB S p 1) (L1 - 1).toNat 1
  generalize e2 : fstB (outB S p 1) (L1 - 1).toNat 1 = L2 at *
  have a2 := fstB_le (outB S p 2) (L2 - 1).toNat 1
  generalize e3 : fstB (outB S p 2) (L2 - 1).toNat 1 = L3 at *
  symm
  have z : ∀ i, 0 ≤ i → i < 3 → outB S p i 0 = false := fun i q1 q2 => by
    have := hin i q1 q2
    unfold outB
    rw [raw_0]
    simp
    omega
  refine fstB_uniq _ (by omega) (by omega) (fun b g1 g2 => ?_) (fun g1 => ?_)
  · have n0 : outB S p 0 b = false := by
      by_cases hb : b = 0
      · rw [hb]; exact z 0 (by omega) (by omega)
      · exact fstB_not (outB S p 0) (L0 - 1).toNat 1 b (by omega) (by omega)
    have n1 : outB S p 1 b = false := by
      by_cases hb : b = 0
      · rw [hb]; exact z 1 (by omega) (by omega)
      · exact fstB_not (outB S p 1) (L1 - 1).toNat 1 b (by omega) (by omega)
    have n2 : outB S p 2 b = false := by
      by_cases hb : b = 0
      · rw [hb]; exact z 2 (by omega) (by omega)
      · exact fstB_not (outB S p 2) (L2 - 1).toNat 1 b (by omega) (by omega)
    cases hB : beyB S p b with
    | false => rfl
    | true =>
      have := out_bey.mp hB
      rw [n0, n1, n2] at this
      simp at this
  · rw [out_bey]
    by_cases h3 : L3 < L2
    · have := fstB_at (outB S p 2) (L2 - 1).toNat 1 (by omega)
      rw [e3] at this
      exact Or.inr (Or.inr this)
    · by_cases h2 : L2 < L1
      · have := fstB_at (outB S p 1) (L1 - 1).toNat 1 (by omega)
        rw [e2] at this
        rw [show L3 = L2 by omega]
        exact Or.inr (Or.inl this)
      · have := fstB_at (outB S p 0) (L0 - 1).toNat 1 (by omega)
        rw [e1] at this
        rw [show L3 = L1 by omega]
        exact Or.inl this
section Fly
variable {M : am_M} {S : Sc} {a : Nat}
theorem cL47s (h : SH M) (hc : CS M S) (hk : scOK S) (hs : SpA M a) {c k i : Int} (hcode : rI M a 3 = iz c) (h1 : 0 ≤ k) (h2 : k < sNk S) (h3 : 0 ≤ i) (h4 : i < 3) (n : Nat) : F_Sprk_fly_L47 (n + 1) a (iz (sK S k 2)) (iz i) M = F_Sprk_fly_L47 n a (iz (sK S k 2)) (iz (i + 1)) (wI M (a + 2) i.toNat (iz (spd S c k i))) := by
  obtain ⟨q1, q2, q3, q4, q5, q6, q7, q8⟩ := hs
  have b2 := (hk.2.2.2.2.1 k h1 h2).2.2.1
  rw [F_Sprk_fly_L47]
  simp (disch := omega) only [iz_lit, iz_le, if_neg, fR_eq q1 q4, fR_eq q1 q2, fI_eq q1, hcode, cv_eq (kd_2 h), iz_mul, iz_add, cDraw h hc, bI_eq, iz_sub, tI_eq q7 q8, nm_eq]
  rfl
theorem cL95s (h : SH M) (hc : CS M S) (hk : scOK S) (hs : SpA M a) {p : Sk} (hp : CpP M S a p) (h0 : 0 ≤ kKd p ∧ kKd p < sNk S) (hin : ∀ i, 0 ≤ i → i < 3 → 0 ≤ kBg p i ∧ kBg p i < wl S i) (hv : ∀ i, 0 ≤ i → i < 3 → -20 ≤ kVl p i ∧ kVl p i ≤ 20) {i w L : Int} (hw : rI M a 6 = iz w) (hL : rI M a 7 = iz (w + L)) (hw1 : 0 ≤ w) (hw2 : w < 1000000) (h1 : 0 ≤ i) (h2 : i < 3) (hL1 : 1 ≤ L) (hL2 : L ≤ 60) (n : Nat) : F_Sprk_fly_L95 (n + 1) a (iz i) M = F_Sprk_fly_L95 n a (iz (i + 1)) (wI M a 7 (iz (w + fstB (outB S p i) (L - 1).toNat 1))) := by
  have w9 := wl_bd hk h1 h2
  have b9 := hin i h1 h2
  have e := cAge h hc hk hs hp h0 (i := i) (L := L) b9.2 (by omega) (hv i h1 h2) h1 h2 hL1 hL2
  have f := fstB_le (outB S p i) (L - 1).toNat 1
  have q1 := hs.1
  rw [F_Sprk_fly_L95]
  simp (disch := omega) only [iz_lit, iz_le, if_neg, fI_eq q1, hw, hL, iz_sub, iz_add]
  rw [show w + L - w = L by omega, cv_eq q1, e, bI_eq, iz_add, min_eq (by omega) (by omega) (by omega) (by omega), bI_eq, sI_eq q1, nm_eq, Int.min_eq_right (by omega)]
theorem SpA.wI {M : am_M} {b j : Nat} {v : Int32} (h : SpA M a) : SpA (wI M b j v) a := h.fr (Fr.wI (A := fun _ _ => True) trivial)
theorem CpP.w7 {p : Sk} {v : Int32} (h : CpP M S a p) : CpP (wI M a 7 v) S a p := by
  obtain ⟨h1, h2, h3, h4, h5⟩ := h
  refine ⟨?_, ?_, ?_, fun i q1 q2 => ?_, fun i q1 q2 => ?_⟩
  · rw [rI_wI, if_neg (by omega)]; exact h1
  · rw [rI_wI, if_neg (by omega)]; exact h2
  · rw [rI_wI, if_neg (by omega)]; exact h3
  · rw [rI_wI, if_neg (by omega)]; exact h4 i q1 q2
  · rw [rI_wI, if_neg (by omega)]; exact h5 i q1 q2
/-- sent off -/
theorem cFly (h : SH M) (hc : CS M S) (hk : scOK S) (hs : SpA M a) (ha : 5 < a) {c g k w : Int} {bg : Int → Int} (hB : CpB M S a k w bg c g) (h1 : 0 ≤ k) (h2 : k < sNk S) (hw1 : 0 ≤ w) (hw2 : w < 1000000) (hin : ∀ i, 0 ≤ i → i < 3 → 0 ≤ bg i ∧ bg i < wl S i) : ∃ M', F_Sprk_fly a M = some (none, M') ∧ Fr (ASp a) M M' ∧ CpL M' S a (one S c k w bg) c g := by
  obtain ⟨i3, i4, i5, i6, i7, iB⟩ := hB
  obtain ⟨q1, q2, q3, q4, q5, q6, q7, q8⟩ := id hs
  have nk := hk.2.1
  have l := lif_bd hk c h1 h2
  have b5 := (hk.2.2.2.2.1 k h1 h2).2.2.2.2.2.1
  obtain ⟨m, hm⟩ : ∃ m, fu = m + 1 + 1 + 1 + 1 := ⟨fu - 4, by have := fu_ge; omega⟩
  have f1 : Fr (ASp a) M (wI M a 8 (iz (sK S k 3))) := Fr.wI (by unfold ASp; omega)
  have f2 := f1.trans (Fr.wI (k := 9) (v := iz (sK S k 5)) (show ASp a a _ by unfold ASp; omega))
  have s1 := h.fr f1
  have c1 := hc.sp ha f1
  have p1 := hs.fr f1
  have s2 := h.fr f2
  have c2 := hc.sp ha f2
  have p2 := hs.fr f2
  have g3 := f2.trans (Fr.wI (k := (0 : Int).toNat) (v := iz (spd S c k 0)) (show ASp a (a + 2) _ by unfold ASp; omega))
  have g4 := g3.trans (Fr.wI (k := (0 + 1 : Int).toNat) (v := iz (spd S c k (0 + 1))) (show ASp a (a + 2) _ by unfold ASp; omega))
  have g5 := g4.trans (Fr.wI (k := (0 + 1 + 1 : Int).toNat) (v := iz (spd S c k (0 + 1 + 1))) (show ASp a (a + 2) _ by unfold ASp; omega))
  have rd : ∀ {b j : Nat} {x : Int32} {N : am_M}, b = a + 2 → rI (wI N b j x) a 3 = rI N a 3 := fun hb => by rw [rI_wI, if_neg (by omega)]
  have k3 : rI (wI (wI M a 8 (iz (sK S k 3))) a 9 (iz (sK S k 5))) a 3 = iz c := by rw [rI_wI, if_neg (by omega), rI_wI, if_neg (by omega)]; exact i3
  have t0 := cL47s s2 c2 hk p2 k3 h1 h2 (i := 0) (by omega) (by omega) (m + 1 + 1 + 1)
  have t1 := cL47s (h.fr g3) (hc.sp ha g3) hk (hs.fr g3) (c := c) (by rw [rd rfl]; exact k3) h1 h2 (i := 0 + 1) (by omega) (by omega) (m + 1 + 1)
  have t2 := cL47s (h.fr g4) (hc.sp ha g4) hk (hs.fr g4) (c := c) (by rw [rd rfl, rd rfl]; exact k3) h1 h2 (i := 0 + 1 + 1) (by omega) (by omega) (m + 1)
  have r5 : ∀ j, j ≠ 8 → j ≠ 9 → rI (wI (wI (wI (wI (wI M a 8 (iz (sK S k 3))) a 9 (iz (sK S k 5))) (a + 2) (0 : Int).toNat (iz (spd S c k 0))) (a + 2) (0 + 1 : Int).toNat (iz (spd S c k (0 + 1)))) (a + 2) (0 + 1 + 1 : Int).toNat (iz (spd S c k (0 + 1 + 1)))) a j = rI M a j := fun j z1 z2 => by
    simp (disch := omega) only [rI_ne]
  have r8 : rI (wI (wI (wI (wI (wI M a 8 (iz (sK S k 3))) a 9 (iz (sK S k 5))) (a + 2) (0 : Int).toNat (iz (spd S c k 0))) (a + 2) (0 + 1 : Int).toNat (iz (spd S c k (0 + 1)))) (a + 2) (0 + 1 + 1 : Int).toNat (iz (spd S c k (0 + 1 + 1)))) a 8 = iz (sK S k 3) := by
    simp (disch := omega) only [rI_ne, rI_at]
  have r9 : rI (wI (wI (wI (wI (wI M a 8 (iz (sK S k 3))) a 9 (iz (sK S k 5))) (a + 2) (0 : Int).toNat (iz (spd S c k 0))) (a + 2) (0 + 1 : Int).toNat (iz (spd S c k (0 + 1)))) (a + 2) (0 + 1 + 1 : Int).toNat (iz (spd S c k (0 + 1 + 1)))) a 9 = iz (sK S k 5) := by
    simp (disch := omega) only [rI_ne, rI_at]
  have rB : ∀ j, rI (wI (wI (wI (wI (wI M a 8 (iz (sK S k 3))) a 9 (iz (sK S k 5))) (a + 2) (0 : Int).toNat (iz (spd S c k 0))) (a + 2) (0 + 1 : Int).toNat (iz (spd S c k (0 + 1)))) (a + 2) (0 + 1 + 1 : Int).toNat (iz (spd S c k (0 + 1 + 1)))) (a + 1) j = rI M (a + 1) j := fun j => by
    simp (disch := omega) only [rI_ne]
  have rV : ∀ i, 0 ≤ i → i < 3 → rI (wI (wI (wI (wI (wI M a 8 (iz (sK S k 3))) a 9 (iz (sK S k 5))) (a + 2) (0 : Int).toNat (iz (spd S c k 0))) (a + 2) (0 + 1 : Int).toNat (iz (spd S c k (0 + 1)))) (a + 2) (0 + 1 + 1 : Int).toNat (iz (spd S c k (0 + 1 + 1)))) (a + 2) i.toNat = iz (spd S c k i) := by
    refine iz3 (f := spd S c k) ?_ ?_ ?_
    · simp (disch := omega) only [rI_ne, rI_at]
    · simp (disch := omega) only [rI_ne, rI_at]
      rfl
    · simp (disch := omega) only [rI_ne, rI_at]
      rfl
  generalize hM5 : wI (wI (wI (wI (wI M a 8 (iz (sK S k 3))) a 9 (iz (sK S k 5))) (a + 2) (0 : Int).toNat (iz (spd S c k 0))) (a + 2) (0 + 1 : Int).toNat (iz (spd S c k (0 + 1)))) (a + 2) (0 + 1 + 1 : Int).toNat (iz (spd S c k (0 + 1 + 1))) = M5 at *
  have P5 : CpP M5 S a (k, w, w, bg, spd S c k) := ⟨by rw [r5 4 (by omega) (by omega)]; exact i4, r8, r9, fun i z1 z2 => by rw [rB]; exact iB i z1 z2, rV⟩
  have head : F_Sprk_fly a M = F_Sprk_fly_L47 (m + 1) a (iz (sK S k 2)) (iz 3) M5 := by
    unfold F_Sprk_fly
    rw [fR_eq q1 q2, fI_eq q1, i4, cv_eq (kd_2 h), show (3 : Int32) = iz 3 from rfl, cK h hc h1 (by omega) (by omega) (by omega), bI_eq, sI_eq q1, fR_eq p1.1 p1.2.1, fI_eq p1.1]
    rw [show rI (wI M a 8 (iz (sK S k 3))) a 4 = iz k by rw [rI_wI, if_neg (by omega)]; exact i4]
    rw [cv_eq (kd_2 s1), show (5 : Int32) = iz 5 from rfl, cK s1 c1 h1 (by omega) (by omega) (by omega), bI_eq, sI_eq p1.1, fR_eq p2.1 p2.2.1, fI_eq p2.1]
    rw [show rI (wI (wI M a 8 (iz (sK S k 3))) a 9 (iz (sK S k 5))) a 4 = iz k by rw [rI_wI, if_neg (by omega), rI_wI, if_neg (by omega)]; exact i4]
    rw [cv_eq (kd_2 s2), show (2 : Int32) = iz 2 from rfl, cK s2 c2 h1 (by omega) (by omega) (by omega), bI_eq, hm, show (0 : Int32) = iz 0 from rfl, t0, t1, t2]
    rfl
  have s5 := h.fr g5
  have c5 := hc.sp ha g5
  have p5 := hs.fr g5
  rw [head, F_Sprk_fly_L47, if_pos (by rw [show (3 : Int32) = iz 3 from rfl, iz_le (by omega) (by omega) (by omega) (by omega)]; omega), fI_eq p5.1, r9]
  by_cases g : sK S k 5 = 2
  · have hv : ∀ i, 0 ≤ i → i < 3 → -20 ≤ kVl (k, w, w, bg, spd S c k) i ∧ kVl (k, w, w, bg, spd S c k) i ≤ 20 := fun i _ _ => spd_bd hk c h1 h2 i
    have hw5 : rI M5 a 6 = iz w := by rw [r5 6 (by omega) (by omega)]; exact i6
    have h75 : rI M5 a 7 = iz (w + lif S c k) := by rw [r5 7 (by omega) (by omega)]; exact i7
    have eq3 := fst3 (S := S) (p := (k, w, w, bg, spd S c k)) (L0 := lif S c k) (by omega) hin
    have a0 := fstB_le (outB S (k, w, w, bg, spd S c k) 0) (lif S c k - 1).toNat 1
    generalize e1 : fstB (outB S (k, w, w, bg, spd S c k) 0) (lif S c k - 1).toNat 1 = L1 at *
    have a1 := fstB_le (outB S (k, w, w, bg, spd S c k) 1) (L1 - 1).toNat 1
    generalize e2 : fstB (outB S (k, w, w, bg, spd S c k) 1) (L1 - 1).toNat 1 = L2 at *
    have j1 : Fr (ASp a) M5 (wI M5 a 7 (iz (w + L1))) := Fr.wI (by unfold ASp; omega)
    have j2 := j1.trans (Fr.wI (k := 7) (v := iz (w + L2)) (show ASp a a _ by unfold ASp; omega))
    have u0 := cL95s s5 c5 hk p5 P5 ⟨h1, h2⟩ hin hv (i := 0) hw5 h75 hw1 hw2 (by omega) (by omega) (by omega) (by omega) (m + 1 + 1 + 1)
    rw [e1] at u0
    have u1 := cL95s (s5.fr j1) (c5.sp ha j1) hk (p5.fr j1) P5.w7 ⟨h1, h2⟩ hin hv (i := 0 + 1) (w := w) (L := L1) (by rw [rI_wI, if_neg (by omega)]; exact hw5) (by rw [rI_wI, if_pos (by omega)]) hw1 hw2 (by omega) (by omega) (by omega) (by omega) (m + 1 + 1)
    rw [show (0 : Int) + 1 = 1 from rfl, e2] at u1
    have u2 := cL95s (s5.fr j2) (c5.sp ha j2) hk (p5.fr j2) P5.w7.w7 ⟨h1, h2⟩ hin hv (i := 1 + 1) (w := w) (L := L2) (by rw [rI_wI, if_neg (by omega), rI_wI, if_neg (by omega)]; exact hw5) (by rw [rI_wI, if_pos (by omega)]) hw1 hw2 (by omega) (by omega) (by omega) (by omega) (m + 1)
    rw [show (1 : Int) + 1 = 2 from rfl, eq3] at u2
    have eL : oneL S c k w bg = fstB (beyB S (k, w, w, bg, spd S c k)) (lif S c k).toNat 0 := by unfold oneL; rw [if_pos g]
    refine ⟨wI (wI (wI M5 a 7 (iz (w + L1))) a 7 (iz (w + L2))) a 7 (iz (w + oneL S c k w bg)), ?_, (g5.trans j2).trans (Fr.wI (by unfold ASp; omega)), ⟨P5.w7.w7.w7, ?_, ?_, ?_, ?_⟩⟩
    · rw [if_pos (by rw [g]; rfl), hm, show (0 : Int32) = iz 0 from rfl, u0, show (0 : Int) + 1 = 1 from rfl, u1, show (1 : Int) + 1 = 2 from rfl, u2, eL, show (2 : Int) + 1 = 3 from rfl, F_Sprk_fly_L95, if_pos (by rw [show (3 : Int32) = iz 3 from rfl, iz_le (by omega) (by omega) (by omega) (by omega)]; omega)]
    · simp (disch := omega) only [rI_ne, rI_at]; rw [r5 3 (by omega) (by omega)]; exact i3
    · simp (disch := omega) only [rI_ne, rI_at]; rw [r5 5 (by omega) (by omega)]; exact i5
    · simp (disch := omega) only [rI_ne, rI_at]; rw [one_bn]; exact hw5
    · simp (disch := omega) only [rI_at]; rw [one_en]
  · refine ⟨M5, ?_, g5, ⟨P5, ?_, ?_, ?_, ?_⟩⟩
    · rw [show (2 : Int32) = iz 2 from rfl, if_neg (fun z => g ((iz_eq (by omega) (by omega) (by omega) (by omega)).mp z))]
    · rw [r5 3 (by omega) (by omega)]; exact i3
    · rw [r5 5 (by omega) (by omega)]; exact i5
    · rw [r5 6 (by omega) (by omega), one_bn]; exact i6
    · rw [r5 7 (by omega) (by omega), one_en]
      unfold oneL
      rw [if_neg g]
      exact i7
end Fly
