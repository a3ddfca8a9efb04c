/-! ===== the two constructors ===== -/
def am_0 : am_M := (0, 0, fun _ => (0, 0), fun _ _ => 0, fun _ _ => 0, fun _ _ => none)
noncomputable def W8 (a0 : Nat) (p1 : Nat) (M : am_M) : am_R :=
  nA M 3 7 (fun b1 M2 => sR M2 a0 11 1 b1 (fun M3 => nA M3 0 7 (fun b4 M5 => sR M5 a0 11 2 b4 (fun M6 => nA M6 0 4 (fun b7 M8 => sR M8 a0 11 3 b7 (fun M9 => nA M9 0 4 (fun b10 M11 => sR M11 a0 11 4 b10 (fun M12 => nA M12 0 15 (fun b13 M14 => sR M14 a0 11 5 b13 (fun M15 => sR M15 a0 11 0 p1 (fun M16 => F_Walk_init_L50 8 a0 p1 0 M16)))))))))))
noncomputable def N8 (a0 : Nat) (M : am_M) : am_R :=
  nA M 0 500 (fun b1 M2 => sR M2 a0 12 0 b1 (fun M3 => nO M3 9 8 (fun b4 M5 => bV (F_Scen_init b4 M5) (fun M6 => sR M6 a0 12 2 b4 (fun M7 => nO M7 8 9 (fun b8 M9 => bV (F_Read_init b8 M9) (fun M10 => sR M10 a0 12 3 b8 (fun M11 => nO M11 6 4 (fun b12 M13 => bV (F_Hist_init b12 M13) (fun M14 => sR M14 a0 12 4 b12 (fun M15 => nO M15 7 2 (fun b16 M17 => bV (F_Outp_init b16 M17) (fun M18 => sR M18 a0 12 5 b16 (fun M19 => nO M19 11 9 (fun b20 M21 => fR M21 a0 12 2 (fun b22 => bV (W8 b20 b22 M21) (fun M23 => sR M23 a0 12 6 b20 (fun M24 => nO M24 5 7 (fun b25 M26 => fR M26 a0 12 2 (fun b27 => fR M26 a0 12 6 (fun b28 => bV (F_Fram_init b25 b27 b28 M26) (fun M29 => sR M29 a0 12 7 b25 (fun M30 => nO M30 4 4 (fun b31 M32 => fR M32 a0 12 2 (fun b33 => bV (F_Find_init b31 b33 M32) (fun M34 => sR M34 a0 12 8 b31 (fun M35 => nO M35 4 4 (fun b36 M37 => fR M37 a0 12 2 (fun b38 => bV (F_Find_init b36 b38 M37) (fun M39 => sR M39 a0 12 9 b36 (fun M40 => nA M40 0 2000 (fun b41 M42 => sR M42 a0 12 10 b41 (fun M43 => some (none, M43))))))))))))))))))))))))))))))))))
theorem wfu {v0 v1 : Nat} : ∀ (r f g : Nat) (i : Int), i + r = 7 → 0 ≤ i → r < f → r < g → ∀ M, F_Walk_init_L50 f v0 v1 (iz i) M = F_Walk_init_L50 g v0 v1 (iz i) M
  | r, 0, g, i, h1, h0, h2, h3, M => by omega
  | r, f, 0, i, h1, h0, h2, h3, M => by omega
  | 0, f + 1, g + 1, i, h1, h0, h2, h3, M => by
    rw [F_Walk_init_L50, F_Walk_init_L50, show (7 : Int32) = iz 7 from rfl, ifE (by omega) (by omega) (by omega) (by omega), ifE (by omega) (by omega) (by omega) (by omega), if_pos (by omega), if_pos (by omega)]
  | r + 1, f + 1, g + 1, i, h1, h0, h2, h3, M => by
    have ih := wfu (v0 := v0) (v1 := v1) r f g (i + 1) (by omega) (by omega) (by omega) (by omega)
    rw [F_Walk_init_L50, F_Walk_init_L50]
    simp only [nm_eq, show iz i + 1 = iz (i + 1) from iz_add i 1, ih]
theorem W8_eq (a p : Nat) (M : am_M) : F_Walk_init a p M = W8 a p M := by
  have fg := fu_ge
  have e : ∀ a p M, F_Walk_init_L50 fu a p 0 M = F_Walk_init_L50 8 a p 0 M := fun a p M => wfu 7 fu 8 0 (by omega) (by omega) (by omega) (by omega) M
  unfold F_Walk_init W8
  simp only [e]
theorem N8_eq (a : Nat) (M : am_M) : F_NS_init a M = N8 a M := by
  unfold F_NS_init N8
  simp only [W8_eq]
def amS (r : am_R) : am_M := match r with
  | some (none, M) => M
  | _ => am_0
def okS (r : am_R) : Bool := match r with
  | some (none, _) => true
  | _ => false
theorem okS_eq {r : am_R} (h : okS r = true) : r = some (none, amS r) := by
  rcases r with _ | ⟨_ | v, M⟩
  · cases h
  · rfl
  · cases h
noncomputable def mC1 : am_M := amS (N8 0 (mkC am_0 12 11))
noncomputable def mC2 : am_M := amS (F_Md_init 70 (mkC mC1 13 42))
theorem mC1_ok : (okS (N8 0 (mkC am_0 12 11)) && (mNx mC1 == 70)) = true := by decide +kernel
theorem mC2_ok : okS (F_Md_init 70 (mkC mC1 13 42)) = true := by decide +kernel
theorem c_nx : mNx mC2 = 89 := by decide +kernel
theorem c_us : mUs mC2 = 161585 := by decide +kernel
theorem c_kd : ∀ a, a < 89 → mKd mC2 a = shK.getD a 0 ∧ mLn mC2 a = shL.getD a 0 := by decide +kernel
theorem c_rr : ∀ q ∈ shR, rR mC2 q.1 q.2.1 = some q.2.2 := by decide +kernel
theorem c_fr : rR mC2 45 3 = some 46 ∧ rR mC2 45 4 = some 47 := by decide +kernel
theorem c_w : ∀ i, i < 3 → rI mC2 3 i = 0 ∧ rI mC2 71 i = 0 := by decide +kernel
theorem c_k : ∀ i, i < 40 → rI mC2 4 i = 0 ∧ rI mC2 5 i = 0 := by decide +kernel
theorem c_s : (rI mC2 2 3 = 0 ∧ rI mC2 2 4 = 0 ∧ rI mC2 2 5 = 0 ∧ rI mC2 2 7 = 0) ∧ (rI mC2 70 1 = 0 ∧ rI mC2 70 3 = 0 ∧ rI mC2 70 4 = 0 ∧ rI mC2 70 6 = 0) ∧ (rI mC2 0 1 = 0 ∧ rI mC2 70 15 = 0 ∧ rI mC2 16 1 = 0 ∧ rI mC2 70 41 = 0) ∧ (rI mC2 6 1 = rI mC2 70 21 ∧ rI mC2 6 2 = rI mC2 70 22) := by decide +kernel
theorem c_46 : mKd mC2 46 = 0 ∧ mLn mC2 46 = 7 * 16 := c_kd 46 (by decide)
theorem c_47 : mKd mC2 47 = 0 ∧ mLn mC2 47 = 16 := c_kd 47 (by decide)
theorem mC2_inv : Inv mC2 := by
  obtain ⟨⟨a1, a2, a3, a4⟩, ⟨b1, b2, b3, b4⟩, ⟨d1, d2, d3, d4⟩, e1⟩ := c_s
  refine ⟨⟨by rw [c_nx]; decide, c_kd, c_rr⟩, ⟨46, 16, Or.inl rfl, by rw [c_nx]; decide, by decide, ⟨by decide, 4, by decide, rfl⟩, ⟨c_fr, c_46, c_47⟩, by rw [c_nx]; decide, by rw [c_us]; decide⟩, ⟨0, by decide, d1, d2, fun i hi => by omega⟩, e1, ⟨0, by decide, d3, d4, fun i hi => by omega⟩, Or.inl ⟨a4, b1, ⟨fun i q1 q2 => (c_w _ (by omega)).1, fun k f q1 q2 q3 q4 => (c_k _ (by omega)).1, fun k f q1 q2 q3 q4 => (c_k _ (by omega)).2, a1, a2, a3⟩, ⟨fun i q1 q2 => (c_w _ (by omega)).2, fun k f q1 q2 q3 q4 => ?_, fun k f q1 q2 q3 q4 => ?_, b3, b4, b2⟩⟩⟩
  · have : k < 0 := q2
    omega
  · have : k < 0 := q2
    omega
theorem law_init (L : Nat) (xs : Nat → Int32) : F_law L xs am_0 = F_law_L18 L xs fu 0 70 0 mC2 := by
  have h1 := Bool.and_eq_true _ _ |>.mp mC1_ok
  have e1 : N8 0 (mkC am_0 12 11) = some (none, mC1) := okS_eq h1.1
  have e2 : F_Md_init 70 (mkC mC1 13 42) = some (none, mC2) := okS_eq mC2_ok
  have n1 : mNx mC1 = 70 := beq_iff_eq.mp h1.2
  show bV (F_NS_init 0 (mkC am_0 12 11)) (fun M3 => bV (F_Md_init (mNx M3) (mkC M3 13 42)) (fun M6 => F_law_L18 L xs fu 0 (mNx M3) 0 M6)) = _
  rw [N8_eq, e1, bV_eq, n1, e2, bV_eq]
