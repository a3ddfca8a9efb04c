/-! ===== the reference lays a spark: generations ===== -/
/-- what laying writes -/
def ALd (b j : Nat) : Prop := (b = 70 ∧ 27 ≤ j ∧ j ≤ 29) ∨ (80 ≤ b ∧ b ≤ 82)
section Lays2
variable {M : am_M} {S : Sc}
theorem MS.lays {M' : am_M} (h : MS M S) (hf : Fr ALd M M') : MS M' S := h.fr hf (fun b j q => by unfold ALd at q; omega)
theorem iz3 {M : am_M} {b : Nat} {f : Int → Int} (h0 : rI M b 0 = iz (f 0)) (h1 : rI M b 1 = iz (f 1)) (h2 : rI M b 2 = iz (f 2)) : ∀ i, 0 ≤ i → i < 3 → rI M b i.toNat = iz (f i) := by
  intro i q1 q2
  rcases (show i = 0 ∨ i = 1 ∨ i = 2 by omega) with rfl | rfl | rfl
  · exact h0
  · exact h1
  · exact h2
theorem mL26s (h : SH M) (hc : MS M S) (hk : scOK S) {c k i : Int} (h1 : 0 ≤ k) (h2 : k < sNk S) (h3 : 0 ≤ i) (h4 : i < 3) (n : Nat) : F_Md_laysOne_L26 (n + 1) 70 (iz c) (iz k) (iz (sK S k 2)) (iz i) M = F_Md_laysOne_L26 n 70 (iz c) (iz k) (iz (sK S k 2)) (iz (i + 1)) (wI M 81 i.toNat (iz (spd S c k i))) := by
  have q2 := (hk.2.2.2.2.1 k h1 h2).2.2.1
  rw [F_Md_laysOne_L26]
  simp (disch := omega) only [iz_lit, iz_le, if_neg, fR_eq (kd_70 h) (rr_70_31 h), cv_eq (kd_70 h), iz_mul, iz_add, mDraw h hc, bI_eq, iz_sub, tI_eq (kd_81 h) (ln_81 h), nm_eq]
  rfl
theorem mL26e (h : SH M) (hc : MS M S) (hk : scOK S) {c k w : Int} {bg : Int → Int} (h1 : 0 ≤ k) (h2 : k < sNk S) (hb : ∀ i, 0 ≤ i → i < 3 → 0 ≤ bg i ∧ bg i < wl S i) (hp : MdP M (k, w, w, bg, spd S c k)) (hw : rI M 70 28 = iz w) (n : Nat) : F_Md_laysOne_L26 (n + 1) 70 (iz c) (iz k) (iz (sK S k 2)) (iz 3) M = some (none, wI M 70 29 (iz (w + oneL S c k w bg))) := by
  obtain ⟨q0, q1, q2, q3, q4, q5, -⟩ := hk.2.2.2.2.1 k h1 h2
  have k5 := hk.2.1
  have l := lif_bd hk c h1 h2
  have d := dr_bd S c 1 (n := sK S k 1 + 1) (by omega)
  have hs : ∀ i, 0 ≤ i → i < 3 → (0 ≤ kBg (k, w, w, bg, spd S c k) i ∧ kBg (k, w, w, bg, spd S c k) i < 320) ∧ -20 ≤ kVl (k, w, w, bg, spd S c k) i ∧ kVl (k, w, w, bg, spd S c k) i ≤ 20 := fun i g1 g2 => by
    have a1 := hb i g1 g2
    have a2 := wl_bd hk g1 g2
    have a3 := spd_bd hk c h1 h2 i
    show (0 ≤ bg i ∧ bg i < 320) ∧ -20 ≤ spd S c k i ∧ spd S c k i ≤ 20
    omega
  have e0 : rI M 70 27 = iz (kKd (k, w, w, bg, spd S c k)) := hp.1
  have m111 := mL111 h hc hk hp ⟨h1, h2⟩ hs hw l.2 (lif S c k).toNat fu 0 (by omega) (by omega) (by have := fu_ge; omega)
  have eL : sK S k 0 + dr S c 1 (sK S k 1 + 1) = lif S c k := rfl
  have eE := mEdge h hc hk e0 ⟨h1, h2⟩
  rw [F_Md_laysOne_L26]
  simp (disch := omega) only [iz_lit, iz_le, if_pos, fR_eq (kd_70 h) (rr_70_5 h), cv_eq (kd_70 h), iz_mul, iz_add, aI_eq (kd_72 h) (ln_72 h), hc.2.1 k 0 h1 h2 (by omega) (by omega), hc.2.1 k 1 h1 h2 (by omega) (by omega), mDraw h hc, bI_eq, nm_eq, eE, eL, fI_eq (kd_70 h), sI_eq (kd_70 h), hw, m111]
  unfold oneL
  have eq5 : kKd (k, w, w, bg, spd S c k) = k := rfl
  rw [eq5]
  by_cases g : sK S k 5 = 2
  · rw [if_pos (by rw [g]), if_pos g]
  · rw [if_neg (fun z => g ((iz_eq (by omega) (by omega) (by omega) (by omega)).mp z)), if_neg g]
theorem mOne (h : SH M) (hc : MS M S) (hk : scOK S) {c k w : Int} {bg : Int → Int} (h1 : 0 ≤ k) (h2 : k < sNk S) (hb : ∀ i, 0 ≤ i → i < 3 → 0 ≤ bg i ∧ bg i < wl S i) (hg : ∀ i, 0 ≤ i → i < 3 → rI M 80 i.toNat = iz (bg i)) : ∃ M', F_Md_laysOne 70 (iz c) (iz k) (iz w) M = some (none, M') ∧ Fr ALd M M' ∧ MdL M' (one S c k w bg) := by
  have k5 := hk.2.1
  obtain ⟨m, hm⟩ : ∃ m, fu = m + 1 + 1 + 1 + 1 := ⟨fu - 4, by have := fu_ge; omega⟩
  have f1 : Fr ALd M (wI M 70 27 (iz k)) := Fr.wI (by unfold ALd; omega)
  have f2 : Fr ALd M (wI (wI M 70 27 (iz k)) 70 28 (iz w)) := f1.trans (Fr.wI (by unfold ALd; omega))
  generalize hM2 : wI (wI M 70 27 (iz k)) 70 28 (iz w) = M2 at f2
  have i27 : rI M2 70 27 = iz k := by rw [← hM2]; rfl
  have i28 : rI M2 70 28 = iz w := by rw [← hM2]; rfl
  have i86 : ∀ j, rI M2 80 j = rI M 80 j := fun j => by rw [← hM2]; simp [rI_wI]
  have g3 : Fr ALd M2 (wI (wI (wI M2 81 (0 : Int).toNat (iz (spd S c k 0))) 81 (0 + 1 : Int).toNat (iz (spd S c k (0 + 1)))) 81 (0 + 1 + 1 : Int).toNat (iz (spd S c k (0 + 1 + 1)))) := ((Fr.wI (by unfold ALd; omega)).trans (Fr.wI (by unfold ALd; omega))).trans (Fr.wI (by unfold ALd; omega))
  have s2 := h.fr f2
  have c2 := hc.lays f2
  have step0 := mL26s s2 c2 hk (c := c) h1 h2 (i := 0) (by omega) (by omega) (m + 1 + 1 + 1)
  have step1 := mL26s (M := wI M2 81 (0 : Int).toNat (iz (spd S c k 0))) s2.wI (c2.lays (Fr.wI (by unfold ALd; omega))) hk (c := c) h1 h2 (i := 0 + 1) (by omega) (by omega) (m + 1 + 1)
  have step2 := mL26s (M := wI (wI M2 81 (0 : Int).toNat (iz (spd S c k 0))) 81 (0 + 1 : Int).toNat (iz (spd S c k (0 + 1)))) s2.wI.wI (c2.lays ((Fr.wI (by unfold ALd; omega)).trans (Fr.wI (by unfold ALd; omega)))) hk (c := c) h1 h2 (i := 0 + 1 + 1) (by omega) (by omega) (m + 1)
  generalize hM5 : wI (wI (wI M2 81 (0 : Int).toNat (iz (spd S c k 0))) 81 (0 + 1 : Int).toNat (iz (spd S c k (0 + 1)))) 81 (0 + 1 + 1 : Int).toNat (iz (spd S c k (0 + 1 + 1))) = M5 at g3 step2
  have p5 : MdP M5 (k, w, w, bg, spd S c k) := by
    refine ⟨?_, fun i q1 q2 => ?_, iz3 (f := spd S c k) ?_ ?_ ?_⟩
    · rw [← hM5]; exact i27
    · rw [← hM5]
      have : rI M2 80 i.toNat = iz (bg i) := by rw [i86]; exact hg i q1 q2
      simpa [rI_wI, kBg] using this
    · rw [← hM5]; rfl
    · rw [← hM5]; rfl
    · rw [← hM5]; rfl
  have w5 : rI M5 70 28 = iz w := by rw [← hM5]; exact i28
  have fin := mL26e (s2.fr g3) (c2.lays g3) hk (c := c) (w := w) h1 h2 hb p5 w5 m
  refine ⟨wI M5 70 29 (iz (w + oneL S c k w bg)), ?_, (f2.trans g3).trans (Fr.wI (by unfold ALd; omega)), ⟨⟨?_, ?_, ?_⟩, ?_, rfl⟩⟩
  · unfold F_Md_laysOne
    rw [sI_eq (kd_70 h), sI_eq (kd_70 h.wI), hM2, fR_eq (kd_70 s2) (rr_70_5 s2)]
    simp (disch := omega) only [iz_lit, iz_mul, iz_add, aI_eq (kd_72 s2) (ln_72 s2), c2.2.1 k 2 h1 h2 (by omega) (by omega)]
    rw [hm, step0, step1, step2]
    exact fin
  · exact p5.1
  · exact p5.2.1
  · exact p5.2.2
  · exact w5
end Lays2
