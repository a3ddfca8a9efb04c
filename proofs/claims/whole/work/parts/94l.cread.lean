/-! ===== the component's whole reading ===== -/
def CZ (M : am_M) : Prop := (∀ j, j < 3 → rI M 8 j = iz 0) ∧ (∀ j, j < 40 → rI M 9 j = iz 0) ∧ (∀ j, j < 40 → rI M 10 j = iz 0) ∧ rI M 7 3 = iz 0 ∧ rI M 7 4 = iz 0 ∧ rI M 7 5 = iz 0 ∧ rI M 7 6 = iz 0
section Crd
variable {T : Nat → Int} {n : Nat} {M : am_M} {o : Lo} {D : Dr}
theorem wOK (g : gd (w5 T n o) = true) : scOK (wD T n o).1 := by
  have g4 : gd (w4 T n o) = true := gp_S g
  have g3 : gd (w3 T n o) = true := gp_num g4
  have g2 : gd (w2 T n o) = true := gp_num g3
  have b1 := num_bd (show gd (oNum T n 1 40 (w1 T n o)) = true from g2)
  have b2 := num_bd (show gd (oNum T n 1 40 (w2 T n o)) = true from g3)
  have b3 := num_bd (show gd (oNum T n 1 40 (w3 T n o)) = true from g4)
  have e0 : wW T n o 0 = oV T n (w1 T n o) := rfl
  have e1 : wW T n o 1 = oV T n (w2 T n o) := rfl
  have e2 : wW T n o 2 = oV T n (w3 T n o) := rfl
  refine ⟨fun i i0 i1 => ?_, ⟨Int.le_refl _, (by decide : (0 : Int) ≤ 5)⟩, ⟨Int.le_refl _, (by decide : (0 : Int) ≤ 4)⟩, ⟨Int.le_refl _, (by decide : (0 : Int) ≤ 999999)⟩, fun k k0 k1 => ?_, fun s s0 s1 => ?_⟩
  · show 1 ≤ wW T n o i ∧ wW T n o i ≤ 40
    rcases (show i = 0 ∨ i = 1 ∨ i = 2 by omega) with q | q | q
    · rw [q, e0]; exact b1
    · rw [q, e1]; exact b2
    · rw [q, e2]; exact b3
  · have : k < 0 := k1
    omega
  · have : s < 0 := s1
    omega
theorem cWrl (ht : TxO T n) (h : CSt T n M o) (hz : CZ M) : ∃ M', F_Read_readWorld 6 M = some (none, M') ∧ Fr A10 M M' ∧ CSt T n M' (w5 T n o) ∧ (gd (w5 T n o) = true → CD M' (wD T n o)) := by
  have hS := h.x.1
  have fg := fu_ge
  obtain ⟨f0, hf0⟩ : ∃ f0, fu = f0 + 1 + 1 + 1 + 1 := ⟨fu - 4, by omega⟩
  obtain ⟨M1, e1, f1, h1⟩ := cNeed ht h (k := 0) (by omega)
  have S1 := h1.x.1
  have stp : ∀ (M : am_M) (o : Lo) (i : Int), CSt T n M o → 0 ≤ i → i < 3 → ∃ v M2, (∀ X : am_M → am_R, fR M 6 8 0 (fun b3 => cv M 6 8 ( bI (F_Read_needNumber 6 1 40 M) (fun r5 M4 => cv M4 b3 9 ( bV (F_Scen_setCells b3 (iz i) r5 M4) X)))) = X M2) ∧ Fr (fun b j => AC6 b j ∨ (b = 8 ∧ j = i.toNat)) M M2 ∧ CSt T n M2 (oNum T n 1 40 o) ∧ (gd (oNum T n 1 40 o) = true → v = iz (oV T n o)) ∧ rI M2 8 i.toNat = v := fun M o i h i0 i1 => by
    have hS := h.x.1
    obtain ⟨v, M2, e2, f2, h2, v2⟩ := cNmb ht h (lo := 1) (hi := 40) (by omega) (by omega) (by omega) (by omega)
    have S2 := h2.x.1
    refine ⟨v, wI M2 8 i.toNat v, fun X => ?_, (f2.mono (fun b j q => Or.inl q)).trans (Fr.wI (Or.inr ⟨rfl, rfl⟩)), h2.f (Fr.wI (A := fun b _ => b = 8) rfl) (fun b j q => by omega), fun q => (v2 q).1, by rw [rI_at rfl rfl]⟩
    rw [fR_eq (kd_6 hS) (rr_6_0 hS), cv_eq (kd_6 hS), show F_Read_needNumber 6 1 40 M = _ from e2, bI_eq, cv_eq (kd_7 S2)]
    unfold F_Scen_setCells
    rw [show (0 : Int32) = iz 0 from rfl, ifL (by omega) (by omega) (by omega) (by omega), if_neg (by omega), fR_eq (kd_7 S2) (rr_7_0 S2), aN_eq (by rw [kd_8 S2]; decide) (ln_8 S2), ifE (by omega) (by omega) (by omega) (by omega), if_neg (by omega), fR_eq (kd_7 S2) (rr_7_0 S2), tI_eq (kd_8 S2) (ln_8 S2) (by omega) (by omega) (by omega), bV_eq]
  obtain ⟨v2, M2, e2, f2, h2, w2, z2⟩ := stp M1 _ 0 h1 (by omega) (by omega)
  obtain ⟨v3, M3, e3, f3, h3, w3, z3⟩ := stp M2 _ 1 h2 (by omega) (by omega)
  obtain ⟨v4, M4, e4, f4, h4, w4, z4⟩ := stp M3 _ 2 h3 (by omega) (by omega)
  obtain ⟨M5, e5, f5, h5⟩ := cSign ht h4 (c := 59) (by omega) (by omega)
  have S4 := h4.x.1
  unfold F_Read_readWorld
  rw [cv_eq (kd_6 hS), show F_Read_needWord 6 100 M = _ from e1, bV_eq, hf0, F_Read_readWorld_L8, if_neg (by decide)]
  rw [show (0 : Int32) = iz 0 from rfl, e2 (fun M7 => nm (iz 0 + 1) (fun x8 => F_Read_readWorld_L8 (f0 + 1 + 1 + 1) 6 x8 M7)), nm_eq, show iz 0 + 1 = iz 1 from rfl, F_Read_readWorld_L8, if_neg (by decide)]
  rw [e3 (fun M7 => nm (iz 1 + 1) (fun x8 => F_Read_readWorld_L8 (f0 + 1 + 1) 6 x8 M7)), nm_eq, show iz 1 + 1 = iz 2 from rfl, F_Read_readWorld_L8, if_neg (by decide)]
  rw [e4 (fun M7 => nm (iz 2 + 1) (fun x8 => F_Read_readWorld_L8 (f0 + 1) 6 x8 M7)), nm_eq, show iz 2 + 1 = iz 3 from rfl, F_Read_readWorld_L8, if_pos (by decide), cv_eq (kd_6 S4), show F_Read_needSign 6 59 M4 = _ from e5, bV_eq]
  have fx : ∀ (i : Int), 0 ≤ i → i < 3 → ∀ b j, (AC6 b j ∨ (b = 8 ∧ j = i.toNat)) → A10 b j := fun i i0 i1 b j q => by unfold AC6 at q; unfold A10; omega
  refine ⟨M5, rfl, (AC10 f1).trans ((f2.mono (fx 0 (by omega) (by omega))).trans ((f3.mono (fx 1 (by omega) (by omega))).trans ((f4.mono (fx 2 (by omega) (by omega))).trans (AC10 f5)))), h5, fun g => ?_⟩
  have g4 := gp_S g
  have g3 := gp_num g4
  have g2 := gp_num g3
  have e8 : ∀ b j, 7 ≤ b → b ≤ 10 → b ≠ 8 → rI M5 b j = rI M b j := fun b j q1 q2 q3 => by
    rw [f5.ri (fun q => by unfold AC6 at q; omega), f4.ri (fun q => by unfold AC6 at q; omega), f3.ri (fun q => by unfold AC6 at q; omega), f2.ri (fun q => by unfold AC6 at q; omega), f1.ri (fun q => by unfold AC6 at q; omega)]
  obtain ⟨y1, y2, y3, y4, y5, y6, y7⟩ := hz
  refine ⟨fun i i0 i1 => ?_, fun k f q1 q2 q3 q4 => by rw [e8 _ _ (by omega) (by omega) (by omega), y2 _ (by omega)]; rfl, fun k f q1 q2 q3 q4 => by rw [e8 _ _ (by omega) (by omega) (by omega), y3 _ (by omega)]; rfl, by rw [e8 _ _ (by omega) (by omega) (by omega), y4]; rfl, by rw [e8 _ _ (by omega) (by omega) (by omega), y5]; rfl, by rw [e8 _ _ (by omega) (by omega) (by omega), y6]; rfl, by rw [e8 _ _ (by omega) (by omega) (by omega), y7]; rfl⟩
  show _ = iz (wW T n o i)
  rcases (show i = 0 ∨ i = 1 ∨ i = 2 by omega) with q | q | q
  · rw [q, f5.ri (fun q => by unfold AC6 at q; omega), f4.ri (fun q => by unfold AC6 at q; omega), f3.ri (fun q => by unfold AC6 at q; omega), z2]; exact w2 g2
  · rw [q, f5.ri (fun q => by unfold AC6 at q; omega), f4.ri (fun q => by unfold AC6 at q; omega), z3]; exact w3 g3
  · rw [q, f5.ri (fun q => by unfold AC6 at q; omega), z4]; exact w4 g4
theorem cClrS (hS : SH M) : ∃ M', F_Scen_clear 7 M = some (none, M') ∧ Fr (fun b _ => 7 ≤ b ∧ b ≤ 10) M M' ∧ CZ M' := by
  unfold F_Scen_clear
  obtain ⟨M1, e1, f1, v1⟩ := cFill (v := 0) (kd_8 hS) (ln_8 hS) (by decide)
  have S1 := hS.fr f1
  obtain ⟨M2, e2, f2, v2⟩ := cFill (v := 0) (kd_9 S1) (ln_9 S1) (by decide)
  have S2 := S1.fr f2
  obtain ⟨M3, e3, f3, v3⟩ := cFill (v := 0) (kd_10 S2) (ln_10 S2) (by decide)
  have S3 := S2.fr f3
  rw [fR_eq (kd_7 hS) (rr_7_0 hS), e1, bV_eq, fR_eq (kd_7 S1) (rr_7_1 S1), e2, bV_eq, fR_eq (kd_7 S2) (rr_7_2 S2), e3, bV_eq, sI_eq (kd_7 S3), sI_eq (kd_7 S3.wI), sI_eq (kd_7 S3.wI.wI), sI_eq (kd_7 S3.wI.wI.wI)]
  refine ⟨_, rfl, (f1.mono (fun b j q => by omega)).trans ((f2.mono (fun b j q => by omega)).trans ((f3.mono (fun b j q => by omega)).trans ((Fr.wI ⟨by omega, by omega⟩).trans ((Fr.wI ⟨by omega, by omega⟩).trans ((Fr.wI ⟨by omega, by omega⟩).trans (Fr.wI ⟨by omega, by omega⟩)))))), fun j hj => ?_, fun j hj => ?_, fun j hj => ?_, ?_, ?_, ?_, ?_⟩
  · rw [rI_ne (by omega), rI_ne (by omega), rI_ne (by omega), rI_ne (by omega), f3.ri (by omega), f2.ri (by omega), v1 j hj]; rfl
  · rw [rI_ne (by omega), rI_ne (by omega), rI_ne (by omega), rI_ne (by omega), f3.ri (by omega), v2 j hj]; rfl
  · rw [rI_ne (by omega), rI_ne (by omega), rI_ne (by omega), rI_ne (by omega), v3 j hj]; rfl
  · rw [rI_ne (by omega), rI_ne (by omega), rI_ne (by omega), rI_at rfl rfl]; rfl
  · rw [rI_ne (by omega), rI_ne (by omega), rI_at rfl rfl]; rfl
  · rw [rI_ne (by omega), rI_at rfl rfl]; rfl
  · rw [rI_at rfl rfl]; rfl
/-- what reading a text comes to -/
def fin (T : Nat → Int) (n : Nat) : Dr × Lo × Int := aLp T n n (wD T n (.inr (sk T n 0))) (w5 T n (.inr (sk T n 0))) 1
theorem SH.w6 {v : Option Nat} (h : SH M) : SH (wR M 6 3 v) := ⟨h.1, h.2.1, fun q hq => by
  have e : ∀ q ∈ shR, ¬ (q.1 = 6 ∧ q.2.1 = 3) := by decide
  rw [rR_wR, if_neg (e q hq)]; exact h.2.2 q hq⟩
theorem cRead (ht : TxO T n) (hS : SH M) (hx : ∀ i, i < n → rI M 1 i = iz (T i)) : ∃ M', F_Read_read 6 1 (iz (n : Int)) M = some (some (.int (if gd (fin T n).2.1 = true then iz (fin T n).2.2 else -1)), M') ∧ Fr A10 (wR M 6 3 (some 1)) M' ∧ CSt T n M' (fin T n).2.1 ∧ (gd (fin T n).2.1 = true → CD M' (fin T n).1 ∧ scOK (fin T n).1.1) := by
  have h500 := ht.1
  have fg := fu_ge
  have S0 : SH (wR M 6 3 (some 1)) := hS.w6
  have x0 : ∀ i, i < n → rI (wR M 6 3 (some 1)) 1 i = iz (T i) := hx
  have r0 : rR (wR M 6 3 (some 1)) 6 3 = some 1 := by rw [rR_wR, if_pos ⟨rfl, rfl⟩]
  unfold F_Read_read
  rw [sR_eq (kd_6 hS)]
  generalize wR M 6 3 (some 1) = M0 at S0 x0 r0 ⊢
  have f1 : Fr A10 M0 (wI M0 6 4 (iz (n : Int))) := Fr.wI ⟨by omega, by omega⟩
  have S1 := S0.fr f1
  obtain ⟨M2, e2, f2, z2⟩ := cClrS S1
  have S2 := S1.fr f2
  rw [aN_eq (show mKd M0 1 < 4 by rw [kd_1 S0]; decide) (ln_1 S0), min_eq (by omega) (by omega) (by omega) (by omega), bI_eq, show min (n : Int) ((500 : Nat) : Int) = (n : Int) by omega, sI_eq (kd_6 S0), fR_eq (kd_6 S1) (rr_6_0 S1), cv_eq (kd_7 S1), e2, bV_eq, sI_eq (kd_6 S2), sI_eq (kd_6 S2.wI), sI_eq (kd_6 S2.wI.wI), cv_eq (kd_6 S2.wI.wI.wI)]
  have f3 : Fr (fun b j => b = 6 ∧ (j = 1 ∨ j = 2 ∨ j = 7)) M2 (wI (wI (wI M2 6 1 0) 6 2 (-1)) 6 7 0) := (Fr.wI ⟨rfl, by omega⟩).trans ((Fr.wI ⟨rfl, by omega⟩).trans (Fr.wI ⟨rfl, by omega⟩))
  have y1 : rI (wI (wI (wI M2 6 1 0) 6 2 (-1)) 6 7 0) 6 1 = iz 0 := by rw [rI_ne (by omega), rI_ne (by omega), rI_at rfl rfl]; rfl
  have y2 : rI (wI (wI (wI M2 6 1 0) 6 2 (-1)) 6 7 0) 6 2 = iz (-1) := by rw [rI_ne (by omega), rI_at rfl rfl]; rfl
  have y7 : rI (wI (wI (wI M2 6 1 0) 6 2 (-1)) 6 7 0) 6 7 = iz ((0 : Nat) : Int) := by rw [rI_at rfl rfl]; rfl
  generalize wI (wI (wI M2 6 1 0) 6 2 (-1)) 6 7 0 = M3 at f3 y1 y2 y7 ⊢
  have S3 := S2.fr f3
  have z3 : CZ M3 := by
    obtain ⟨a1, a2, a3, a4, a5, a6, a7⟩ := z2
    exact ⟨fun j hj => by rw [f3.ri (by omega)]; exact a1 j hj, fun j hj => by rw [f3.ri (by omega)]; exact a2 j hj, fun j hj => by rw [f3.ri (by omega)]; exact a3 j hj, by rw [f3.ri (by omega)]; exact a4, by rw [f3.ri (by omega)]; exact a5, by rw [f3.ri (by omega)]; exact a6, by rw [f3.ri (by omega)]; exact a7⟩
  have f03 : Fr A10 M0 M3 := f1.trans ((f2.mono (fun b j q => by unfold A10; omega)).trans (f3.mono (fun b j q => by unfold A10; omega)))
  have c3 : RdC T n M3 := ⟨S3, by rw [f03.rr]; exact r0, by rw [f3.ri (by omega), f2.ri (by omega), rI_at rfl rfl], fun i hi => by rw [f03.ri (fun q => by unfold A10 at q; omega)]; exact x0 i hi⟩
  obtain ⟨M4, e4, f4, l4⟩ := cAdv' ht c3 (p := 0) (by omega) y7
  have h4 : CSt T n M4 (.inr (sk T n 0)) := ⟨c3.f6 f4, (stop_le (by omega)).2, by rw [f4.ri (fun q => by unfold A6 at q; omega)]; exact y1, by rw [f4.ri (fun q => by unfold A6 at q; omega)]; exact y2, l4⟩
  have S4 := h4.x.1
  have z4 : CZ M4 := by
    obtain ⟨a1, a2, a3, a4, a5, a6, a7⟩ := z3
    have e : ∀ b j, b ≠ 6 → rI M4 b j = rI M3 b j := fun b j q => f4.ri (fun z => by unfold A6 at z; omega)
    exact ⟨fun j hj => by rw [e _ _ (by omega)]; exact a1 j hj, fun j hj => by rw [e _ _ (by omega)]; exact a2 j hj, fun j hj => by rw [e _ _ (by omega)]; exact a3 j hj, by rw [e _ _ (by omega)]; exact a4, by rw [e _ _ (by omega)]; exact a5, by rw [e _ _ (by omega)]; exact a6, by rw [e _ _ (by omega)]; exact a7⟩
  obtain ⟨M5, e5, f5, h5, d5⟩ := cWrl ht h4 z4
  obtain ⟨M6, e6, f6, h6, d6⟩ := cLoop ht n fu 1 0 M5 (wD T n (.inr (sk T n 0))) (w5 T n (.inr (sk T n 0))) h5 (fun q => by
    have p := (mo_S 59 _ q).2
    have p' : pos (w4 T n (.inr (sk T n 0))) < pos (w5 T n (.inr (sk T n 0))) := p
    exact ⟨d5 q, wOK q, by omega, by omega⟩) (by omega) (by omega) (by omega) (by omega) (by omega)
  rw [e4, bV_eq, cv_eq (kd_6 S4), e5, bV_eq]
  exact ⟨M6, e6, f03.trans ((f4.mono (fun b j q => by unfold A6 at q; unfold A10; omega)).trans (f5.trans f6)), h6, d6⟩
end Crd
