/-! ===== scene ===== -/
def AZ (b j : Nat) : Prop := (b = 0 ∧ j = 1) ∨ (2 ≤ b ∧ b ≤ 10) ∨ (b = 12 ∧ j = 3) ∨ (b = 45 ∧ j = 6) ∨ (70 ≤ b ∧ b ≤ 76 ∧ (b = 70 → j ≠ 41))
def AZb (b j : Nat) : Prop := (b = 0 ∧ j = 1) ∨ (6 ≤ b ∧ b ≤ 10) ∨ (b = 70 ∧ 9 ≤ j ∧ j ≤ 23) ∨ (74 ≤ b ∧ b ≤ 76)
section KeepZ
variable {M M' : am_M} {S : Sc}
theorem Inv.z (h : Inv M) (hf : Fr AZ M M') (t : Tap M') (f : Flt M') (s : Sc0 M' ∨ ∃ S, Sc1 M' S) : Inv M' := by
  obtain ⟨h1, h2, -, -, h5, -⟩ := h
  refine ⟨h1.fr hf, ?_, t, f, ?_, s⟩
  · obtain ⟨b, cap, h1, h2, h3, h4, h5, h6, h7⟩ := h2
    exact ⟨b, cap, h1, by rw [hf.1]; exact h2, h3, h4, by unfold FrR; rw [hf.rr, hf.rr, hf.kd, hf.ln, hf.kd, hf.ln]; exact h5, by rw [hf.1]; exact h6, by rw [hf.2.1]; exact h7⟩
  · obtain ⟨n, h1, h2, h3, h4⟩ := h5
    have e : ∀ b j, (b = 16 ∨ b = 17 ∨ b = 88 ∨ (b = 70 ∧ j = 41)) → rI M' b j = rI M b j := fun b j hb => hf.ri (fun q => by unfold AZ at q; omega)
    refine ⟨n, h1, by rw [e _ _ (by omega)]; exact h2, by rw [e _ _ (by omega)]; exact h3, fun i hi => ?_⟩
    rw [e 17 i (by omega), e 88 i (by omega)]
    exact h4 i hi
theorem Frm.zb (h : Frm M S) (ha : FrA M) (hf : Fr AZb M M') : Frm M' S := by
  obtain ⟨cap, b1, -⟩ := ha.at
  have fb_t : fb M' = fb M := by unfold fb; rw [hf.rr]
  have e45 : ∀ j, rI M' 45 j = rI M 45 j := fun j => hf.ri (fun q => by unfold AZb at q; omega)
  have eA : ∀ k i, k < 2 → rI M' (fb M + k) i = rI M (fb M + k) i := fun k i hk => hf.ri (fun q => by unfold AZb at q; omega)
  rcases h with h | ⟨t, t1, t2, t3, L, O, l1, l2, ⟨l3, l4, l5⟩, l6⟩
  · exact Or.inl (by rw [e45]; exact h)
  · refine Or.inr ⟨t, t1, t2, by rw [e45]; exact t3, L, O, l1, l2, ⟨by rw [e45]; exact l3, by rw [fb_t, hf.ln]; exact l4, fun i c q => ?_⟩, fun i c q => ?_⟩
    · exact (l5 i c q).mv (fb_t) (fun k _ => eA 0 _ (by omega))
    · obtain ⟨j, j1, j2⟩ := l6 i c q
      exact ⟨j, j1, by rw [fb_t]; exact (eA 1 i (by omega)).trans j2⟩
theorem His.zb (h : His M S) (hf : Fr AZb M M') : His M' S := by
  obtain ⟨n, h1, h2, h3, h4⟩ := h
  have e : ∀ b j, (b = 12 ∨ b = 13 ∨ b = 14 ∨ b = 15 ∨ b = 78 ∨ b = 79 ∨ (b = 70 ∧ j = 24)) → rI M' b j = rI M b j := fun b j hb => hf.ri (fun q => by unfold AZb at q; omega)
  refine ⟨n, h1, by rw [e _ _ (by omega)]; exact h2, by rw [e _ _ (by omega)]; exact h3, fun i hi => ?_⟩
  have := h4 i hi
  unfold hs1 at this ⊢
  rw [e 15 i (by omega), e 79 i (by omega), e 13 i (by omega), e 78 i (by omega), e 14 i (by omega)]
  exact this
theorem Inv.zb (h : Inv M) (hf : Fr AZb M M') (t : Tap M') (f : Flt M') : Inv M' := by
  obtain ⟨-, h2, -, -, -, h6⟩ := id h
  refine h.z (hf.mono (fun b j q => by unfold AZb at q; unfold AZ; omega)) t f ?_
  have hA : ∀ b j, AZb b j → b < 2 ∨ 5 < b := fun b j q => by unfold AZb at q; omega
  have hB : ∀ b j, AZb b j → b < 70 ∨ 73 < b ∨ (b = 70 ∧ 8 ≤ j) := fun b j q => by unfold AZb at q; omega
  rcases h6 with ⟨a1, a2, a3, a4⟩ | ⟨S, a1, a2, a3, a4, a5, a6, a7⟩
  · exact Or.inl ⟨by rw [hf.ri (fun q => by unfold AZb at q; omega)]; exact a1, by rw [hf.ri (fun q => by unfold AZb at q; omega)]; exact a2, a3.fr hf hA, a4.fr hf hB⟩
  · exact Or.inr ⟨S, a1, by rw [hf.ri (fun q => by unfold AZb at q; omega)]; exact a2, by rw [hf.ri (fun q => by unfold AZb at q; omega)]; exact a3, a4.fr hf hA, a5.fr hf hB, a6.zb hf, a7.zb h2 hf⟩
theorem Inv.w (h : Inv M) : Inv (wR M 6 3 (some 1)) := by
  obtain ⟨h1, h2, h3, h4, h5, h6⟩ := h
  refine ⟨h1.w6, ?_, h3, h4, h5, ?_⟩
  · obtain ⟨b, cap, a1, a2, a3, a4, a5, a6, a7⟩ := h2
    exact ⟨b, cap, a1, a2, a3, a4, by unfold FrR; rw [rR_wR, if_neg (by omega), rR_wR, if_neg (by omega)]; exact a5, a6, a7⟩
  · rcases h6 with h6 | ⟨S, a1, a2, a3, a4, a5, a6, a7⟩
    · exact Or.inl h6
    · refine Or.inr ⟨S, a1, a2, a3, a4, a5, a6, ?_⟩
      have efb : fb (wR M 6 3 (some 1)) = fb M := by unfold fb; rw [rR_wR, if_neg (by omega)]
      rcases a7 with a7 | ⟨t, t1, t2, t3, L, O, l1, l2, ⟨l3, l4, l5⟩, l6⟩
      · exact Or.inl a7
      · refine Or.inr ⟨t, t1, t2, t3, L, O, l1, l2, ⟨l3, by rw [efb]; exact l4, fun i c q => ?_⟩, fun i c q => ?_⟩
        · have := l5 i c q
          unfold FrE at this ⊢
          rw [efb]; exact this
        · obtain ⟨j, j1, j2⟩ := l6 i c q
          exact ⟨j, j1, by rw [efb]; exact j2⟩
end KeepZ
section SceneC
variable {M : am_M} {D : Dr}
theorem cBec (hS : SH M) (hd : CD M D) : ∃ M', F_Scen_become 2 7 M = some (none, M') ∧ Fr (fun b _ => 2 ≤ b ∧ b ≤ 5) M M' ∧ CS M' D.1 ∧ rI M' 2 7 = iz 1 := by
  obtain ⟨a1, a2, a3, a4, a5, a6, -⟩ := hd
  have f1 : Fr (fun b _ => 2 ≤ b ∧ b ≤ 5) M (cpI M 8 0 3 0 3) := Fr.cpI (fun j => by omega)
  have S1 := hS.fr f1
  have f2 : Fr (fun b _ => 2 ≤ b ∧ b ≤ 5) M (cpI (cpI M 8 0 3 0 3) 9 0 4 0 40) := f1.trans (Fr.cpI (fun j => by omega))
  have S2 := hS.fr f2
  have f3 : Fr (fun b _ => 2 ≤ b ∧ b ≤ 5) M (cpI (cpI (cpI M 8 0 3 0 3) 9 0 4 0 40) 10 0 5 0 40) := f2.trans (Fr.cpI (fun j => by omega))
  have S3 := hS.fr f3
  have z3 : ∀ j, j < 3 → rI (cpI (cpI (cpI M 8 0 3 0 3) 9 0 4 0 40) 10 0 5 0 40) 3 j = rI M 8 j := fun j hj => by
    rw [rI_cpI, if_neg (by omega), rI_cpI, if_neg (by omega), rI_cpI, if_pos (by omega)]; congr 1; omega
  have z4 : ∀ j, j < 40 → rI (cpI (cpI (cpI M 8 0 3 0 3) 9 0 4 0 40) 10 0 5 0 40) 4 j = rI M 9 j := fun j hj => by
    rw [rI_cpI, if_neg (by omega), rI_cpI, if_pos (by omega), rI_cpI, if_neg (by omega)]; congr 1; omega
  have z5 : ∀ j, j < 40 → rI (cpI (cpI (cpI M 8 0 3 0 3) 9 0 4 0 40) 10 0 5 0 40) 5 j = rI M 10 j := fun j hj => by
    rw [rI_cpI, if_pos (by omega), rI_cpI, if_neg (by omega), rI_cpI, if_neg (by omega)]; congr 1; omega
  unfold F_Scen_become
  rw [fR_eq (kd_7 hS) (rr_7_0 hS), fR_eq (kd_2 hS) (rr_2_0 hS), fR_eq (kd_2 hS) (rr_2_0 hS), aN_eq (show mKd M 3 < 4 by rw [kd_3 hS]; decide) (ln_3 hS), show (0 : Int32) = iz 0 from rfl, cpy_eq (kd_8 hS) (kd_3 hS) (ln_8 hS) (ln_3 hS) (by omega) (by omega) (by omega) (by omega) (by omega) (by omega) (by omega), show Int.toNat 0 = 0 from rfl, show Int.toNat ((3 : Nat) : Int) = 3 from rfl, fR_eq (kd_7 S1) (rr_7_1 S1), fR_eq (kd_2 S1) (rr_2_1 S1), fR_eq (kd_2 S1) (rr_2_1 S1), aN_eq (show mKd _ 4 < 4 by rw [kd_4 S1]; decide) (ln_4 S1), cpy_eq (kd_9 S1) (kd_4 S1) (ln_9 S1) (ln_4 S1) (by omega) (by omega) (by omega) (by omega) (by omega) (by omega) (by omega), show Int.toNat 0 = 0 from rfl, show Int.toNat ((40 : Nat) : Int) = 40 from rfl, fR_eq (kd_7 S2) (rr_7_2 S2), fR_eq (kd_2 S2) (rr_2_2 S2), fR_eq (kd_2 S2) (rr_2_2 S2), aN_eq (show mKd _ 5 < 4 by rw [kd_5 S2]; decide) (ln_5 S2), cpy_eq (kd_10 S2) (kd_5 S2) (ln_10 S2) (ln_5 S2) (by omega) (by omega) (by omega) (by omega) (by omega) (by omega) (by omega), show Int.toNat 0 = 0 from rfl, show Int.toNat ((40 : Nat) : Int) = 40 from rfl]
  generalize cpI (cpI (cpI M 8 0 3 0 3) 9 0 4 0 40) 10 0 5 0 40 = X at f3 S3 z3 z4 z5 ⊢
  have e7 : ∀ j, rI X 7 j = rI M 7 j := fun j => f3.ri (by omega)
  rw [fI_eq (kd_7 S3), e7, sI_eq (kd_2 S3), fI_eq (kd_7 S3.wI), rI_ne (by omega), e7, sI_eq (kd_2 S3.wI), fI_eq (kd_7 S3.wI.wI), rI_ne (by omega), rI_ne (by omega), e7, sI_eq (kd_2 S3.wI.wI), sI_eq (kd_2 S3.wI.wI.wI)]
  refine ⟨_, rfl, f3.trans ((Fr.wI (by omega)).trans ((Fr.wI (by omega)).trans ((Fr.wI (by omega)).trans (Fr.wI (by omega))))), ⟨fun i q1 q2 => ?_, fun k f q1 q2 q3 q4 => ?_, fun k f q1 q2 q3 q4 => ?_, ?_, ?_, ?_⟩, ?_⟩
  · rw [rI_ne (by omega), rI_ne (by omega), rI_ne (by omega), rI_ne (by omega), z3 _ (by omega)]; exact a1 i q1 q2
  · rw [rI_ne (by omega), rI_ne (by omega), rI_ne (by omega), rI_ne (by omega), z4 _ (by omega)]; exact a2 k f q1 q2 q3 q4
  · rw [rI_ne (by omega), rI_ne (by omega), rI_ne (by omega), rI_ne (by omega), z5 _ (by omega)]; exact a3 k f q1 q2 q3 q4
  · rw [rI_ne (by omega), rI_ne (by omega), rI_ne (by omega), rI_at rfl rfl]; exact a4
  · rw [rI_ne (by omega), rI_ne (by omega), rI_at rfl rfl]; exact a5
  · rw [rI_ne (by omega), rI_at rfl rfl]; exact a6
  · rw [rI_at rfl rfl]; rfl
theorem mCp2 (v : Int32) {ns : Int} (n1 : ns ≤ 4) : ∀ (r f i : Nat) (M : am_M), SH M → rI M 70 6 = iz ns → (∀ j, j < i → rI M 73 j = rI M 76 j) → (i : Int) + r = 9 * ns → r < f → ∃ M', F_Md_scene_L192 f 70 v (iz (i : Int)) M = some (some (.int v), M') ∧ Fr (fun b j => b = 73 ∨ (b = 70 ∧ j = 24)) M M' ∧ (∀ j : Nat, (j : Int) < 9 * ns → rI M' 73 j = rI M 76 j) ∧ rI M' 70 24 = iz 0
  | r, 0, i, M, hS, hn, hi, h1, h2 => by omega
  | 0, f + 1, i, M, hS, hn, hi, h1, h2 => by
    rw [F_Md_scene_L192, fI_eq (kd_70 hS), hn, show (9 : Int32) = iz 9 from rfl, iz_mul, ifE (by omega) (by omega) (by omega) (by omega), if_pos (by omega), sI_eq (kd_70 hS)]
    exact ⟨_, rfl, Fr.wI (Or.inr ⟨rfl, rfl⟩), fun j hj => by rw [rI_ne (by omega)]; exact hi j (by omega), by rw [rI_at rfl rfl]; rfl⟩
  | r + 1, f + 1, i, M, hS, hn, hi, h1, h2 => by
    have f1 : Fr (fun b j => b = 73 ∨ (b = 70 ∧ j = 24)) M (wI M 73 i (rI M 76 i)) := Fr.wI (Or.inl rfl)
    have S1 := hS.fr f1
    rw [F_Md_scene_L192, fI_eq (kd_70 hS), hn, show (9 : Int32) = iz 9 from rfl, iz_mul, ifE (by omega) (by omega) (by omega) (by omega), if_neg (by omega), fR_eq (kd_70 hS) (rr_70_7 hS), fR_eq (kd_70 hS) (rr_70_13 hS), aI_eq (kd_76 hS) (ln_76 hS) (by omega) (by omega) (by omega), tI_eq (kd_73 hS) (ln_73 hS) (by omega) (by omega) (by omega), Int.toNat_natCast, nm_eq, show iz (i : Int) + 1 = iz ((i + 1 : Nat) : Int) from iz_add _ 1]
    obtain ⟨M', e1, f2, z1, z2⟩ := mCp2 v n1 r f (i + 1) _ S1 (by rw [rI_ne (by omega)]; exact hn) (fun j hj => by
      by_cases e : j = i
      · rw [e, rI_at rfl rfl, rI_ne (by omega)]
      · rw [rI_ne (by omega), rI_ne (by omega)]; exact hi j (by omega)) (by omega) (by omega)
    exact ⟨M', e1, f1.trans f2, fun j hj => by rw [z1 j hj, rI_ne (by omega)], z2⟩
theorem mCp1 (v : Int32) {nk : Int} (n1 : nk ≤ 5) : ∀ (r f i : Nat) (M : am_M), SH M → rI M 70 4 = iz nk → (∀ j, j < i → rI M 72 j = rI M 75 j) → (i : Int) + r = 8 * nk → r < f → ∃ M', F_Md_scene_L161 f 70 v (iz (i : Int)) M = F_Md_scene_L192 fu 70 v 0 M' ∧ Fr (fun b _ => b = 72) M M' ∧ (∀ j : Nat, (j : Int) < 8 * nk → rI M' 72 j = rI M 75 j)
  | r, 0, i, M, hS, hn, hi, h1, h2 => by omega
  | 0, f + 1, i, M, hS, hn, hi, h1, h2 => by
    rw [F_Md_scene_L161, fI_eq (kd_70 hS), hn, show (8 : Int32) = iz 8 from rfl, iz_mul, ifE (by omega) (by omega) (by omega) (by omega), if_pos (by omega)]
    exact ⟨_, rfl, Fr.refl M, fun j hj => hi j (by omega)⟩
  | r + 1, f + 1, i, M, hS, hn, hi, h1, h2 => by
    have f1 : Fr (fun b _ => b = 72) M (wI M 72 i (rI M 75 i)) := Fr.wI rfl
    have S1 := hS.fr f1
    rw [F_Md_scene_L161, fI_eq (kd_70 hS), hn, show (8 : Int32) = iz 8 from rfl, iz_mul, ifE (by omega) (by omega) (by omega) (by omega), if_neg (by omega), fR_eq (kd_70 hS) (rr_70_5 hS), fR_eq (kd_70 hS) (rr_70_11 hS), aI_eq (kd_75 hS) (ln_75 hS) (by omega) (by omega) (by omega), tI_eq (kd_72 hS) (ln_72 hS) (by omega) (by omega) (by omega), Int.toNat_natCast, nm_eq, show iz (i : Int) + 1 = iz ((i + 1 : Nat) : Int) from iz_add _ 1]
    obtain ⟨M', e1, f2, z1⟩ := mCp1 v n1 r f (i + 1) _ S1 (by rw [rI_ne (by omega)]; exact hn) (fun j hj => by
      by_cases e : j = i
      · rw [e, rI_at rfl rfl, rI_ne (by omega)]
      · rw [rI_ne (by omega), rI_ne (by omega)]; exact hi j (by omega)) (by omega) (by omega)
    exact ⟨M', e1, f1.trans f2, fun j hj => by rw [z1 j hj, rI_ne (by omega)]⟩
theorem mCp0 (v : Int32) : ∀ (r f i : Nat) (M : am_M), SH M → (∀ j, j < i → rI M 71 j = rI M 74 j) → i + r = 3 → r < f → ∃ M', F_Md_scene_L112 f 70 v (iz (i : Int)) M = F_Md_scene_L112 (f - r) 70 v (iz 3) M' ∧ Fr (fun b _ => b = 71) M M' ∧ (∀ j, j < 3 → rI M' 71 j = rI M 74 j)
  | r, 0, i, M, hS, hi, h1, h2 => by omega
  | 0, f + 1, i, M, hS, hi, h1, h2 => by
    have e : i = 3 := by omega
    subst e
    exact ⟨M, rfl, Fr.refl M, hi⟩
  | r + 1, f + 1, i, M, hS, hi, h1, h2 => by
    have f1 : Fr (fun b _ => b = 71) M (wI M 71 i (rI M 74 i)) := Fr.wI rfl
    have S1 := hS.fr f1
    rw [F_Md_scene_L112, show (3 : Int32) = iz 3 from rfl, ifE (by omega) (by omega) (by omega) (by omega), if_neg (by omega), fR_eq (kd_70 hS) (rr_70_2 hS), fR_eq (kd_70 hS) (rr_70_8 hS), aI_eq (kd_74 hS) (ln_74 hS) (by omega) (by omega) (by omega), tI_eq (kd_71 hS) (ln_71 hS) (by omega) (by omega) (by omega), Int.toNat_natCast, nm_eq, show iz (i : Int) + 1 = iz ((i + 1 : Nat) : Int) from iz_add _ 1]
    obtain ⟨M', e1, f2, z1⟩ := mCp0 v r f (i + 1) _ S1 (fun j hj => by
      by_cases e : j = i
      · rw [e, rI_at rfl rfl, rI_ne (by omega)]
      · rw [rI_ne (by omega), rI_ne (by omega)]; exact hi j (by omega)) (by omega) (by omega)
    exact ⟨M', by rw [e1, show f - r = f + 1 - (r + 1) by omega], f1.trans f2, fun j hj => by rw [z1 j hj, rI_ne (by omega)]⟩
theorem mBec {T : Nat → Int} {n : Nat} {o : Lo} (v : Int32) (h : MSt T n M o) (g : gd o = true) (hd : MD M D) (hk : scOK D.1) : ∃ M', F_Md_scene_L95 70 v M = some (some (.int v), M') ∧ Fr (fun b j => (71 ≤ b ∧ b ≤ 73) ∨ (b = 70 ∧ (j = 1 ∨ j = 3 ∨ j = 4 ∨ j = 6 ∨ j = 24))) M M' ∧ MS M' D.1 ∧ rI M' 70 1 = iz 1 ∧ rI M' 70 24 = iz 0 := by
  have hS := h.x.1
  have fg := fu_ge
  obtain ⟨a1, a2, a3, a4, a5, a6, -⟩ := hd
  obtain ⟨-, k2, k3, -⟩ := hk
  unfold F_Md_scene_L95
  rw [cv_eq (kd_70 hS), mGd h, bI_eq, bz_if0, if_pos g, sI_eq (kd_70 hS)]
  obtain ⟨M1, e1, f1, z1⟩ := mCp0 v 3 fu 0 (wI M 70 1 1) hS.wI (fun j hj => by omega) (by omega) (by omega)
  have S1 := hS.wI.fr f1
  obtain ⟨f0, hf0⟩ : ∃ f0, fu - 3 = f0 + 1 := ⟨fu - 4, by omega⟩
  have x : ∀ j, j ≠ 1 → rI M1 70 j = rI M 70 j := fun j q => by rw [f1.ri (by omega), rI_ne (by omega)]
  have f2 : Fr (fun b j => (71 ≤ b ∧ b ≤ 73) ∨ (b = 70 ∧ (j = 1 ∨ j = 3 ∨ j = 4 ∨ j = 6 ∨ j = 24))) M (wI (wI (wI M1 70 3 (rI M 70 9)) 70 4 (rI M 70 10)) 70 6 (rI M 70 12)) := (Fr.wI (by omega)).trans ((f1.mono (fun b j q => by omega)).trans ((Fr.wI (by omega)).trans ((Fr.wI (by omega)).trans (Fr.wI (by omega)))))
  rw [show F_Md_scene_L112 fu 70 v 0 (wI M 70 1 1) = _ from e1, hf0, F_Md_scene_L112, if_pos (by decide), fI_eq (kd_70 S1), x 9 (by omega), sI_eq (kd_70 S1), fI_eq (kd_70 S1.wI), rI_ne (by omega), x 10 (by omega), sI_eq (kd_70 S1.wI), fI_eq (kd_70 S1.wI.wI), rI_ne (by omega), rI_ne (by omega), x 12 (by omega), sI_eq (kd_70 S1.wI.wI)]
  have y3 : rI (wI (wI (wI M1 70 3 (rI M 70 9)) 70 4 (rI M 70 10)) 70 6 (rI M 70 12)) 70 3 = rI M 70 9 := by rw [rI_ne (by omega), rI_ne (by omega), rI_at rfl rfl]
  have y4 : rI (wI (wI (wI M1 70 3 (rI M 70 9)) 70 4 (rI M 70 10)) 70 6 (rI M 70 12)) 70 4 = rI M 70 10 := by rw [rI_ne (by omega), rI_at rfl rfl]
  have y6 : rI (wI (wI (wI M1 70 3 (rI M 70 9)) 70 4 (rI M 70 10)) 70 6 (rI M 70 12)) 70 6 = rI M 70 12 := by rw [rI_at rfl rfl]
  have y1 : rI (wI (wI (wI M1 70 3 (rI M 70 9)) 70 4 (rI M 70 10)) 70 6 (rI M 70 12)) 70 1 = iz 1 := by rw [rI_ne (by omega), rI_ne (by omega), rI_ne (by omega), f1.ri (by omega), rI_at rfl rfl]; rfl
  have y7 : ∀ j, j < 3 → rI (wI (wI (wI M1 70 3 (rI M 70 9)) 70 4 (rI M 70 10)) 70 6 (rI M 70 12)) 71 j = rI M 74 j := fun j hj => by rw [rI_ne (by omega), rI_ne (by omega), rI_ne (by omega), z1 j hj, rI_ne (by omega)]
  generalize wI (wI (wI M1 70 3 (rI M 70 9)) 70 4 (rI M 70 10)) 70 6 (rI M 70 12) = X at f2 y3 y4 y6 y1 y7 ⊢
  have SX := hS.fr f2
  obtain ⟨M3, e3, f3, z3⟩ := mCp1 v (nk := sNk D.1) k2.2 (8 * sNk D.1).toNat fu 0 X SX (by rw [y4]; exact a4) (fun j hj => by omega) (by omega) (by omega)
  have S3 := SX.fr f3
  obtain ⟨M4, e4, f4, z4, z5⟩ := mCp2 v (ns := sNs D.1) k3.2 (9 * sNs D.1).toNat fu 0 M3 S3 (by rw [f3.ri (by omega), y6]; exact a5) (fun j hj => by omega) (by omega) (by omega)
  rw [show F_Md_scene_L161 fu 70 v 0 X = _ from e3, show F_Md_scene_L192 fu 70 v 0 M3 = _ from e4]
  refine ⟨M4, rfl, f2.trans ((f3.mono (fun b j q => by omega)).trans (f4.mono (fun b j q => by omega))), ⟨fun i q1 q2 => ?_, fun k f q1 q2 q3 q4 => ?_, fun k f q1 q2 q3 q4 => ?_, ?_, ?_, ?_⟩, ?_, z5⟩
  · rw [f4.ri (by omega), f3.ri (by omega), y7 _ (by omega)]; exact a1 i q1 q2
  · rw [f4.ri (by omega), z3 _ (by omega), f2.ri (by omega)]; exact a2 k f q1 q2 q3 q4
  · rw [z4 _ (by omega), f3.ri (by omega), f2.ri (by omega)]; exact a3 k f q1 q2 q3 q4
  · rw [f4.ri (by omega), f3.ri (by omega), y4]; exact a4
  · rw [f4.ri (by omega), f3.ri (by omega), y6]; exact a5
  · rw [f4.ri (by omega), f3.ri (by omega), y3]; exact a6
  · rw [f4.ri (by omega), f3.ri (by omega), y1]
theorem aLp_c {T : Nat → Int} {n : Nat} : ∀ (r : Nat) (D : Dr) (o : Lo) (c : Int), c ≤ (aLp T n r D o c).2.2 ∧ (aLp T n r D o c).2.2 ≤ c + r
  | 0, D, o, c => by
    show c ≤ c ∧ c ≤ c + ((0 : Nat) : Int)
    omega
  | r + 1, D, o, c => by
    rw [aLp]
    split
    · have := aLp_c (T := T) (n := n) r (aLn T n D o).1 (oSg T n 59 (aLn T n D o).2) (c + 1)
      omega
    · show c ≤ c ∧ c ≤ c + ((r + 1 : Nat) : Int)
      omega
theorem ap_scene (h : Inv M) : Ag (F_NS_scene 0) (F_Md_scene 70) M := by
  obtain ⟨hS, -, hT, -⟩ := id h
  obtain ⟨n, n1, t1, t2, t3⟩ := hT
  obtain ⟨T, hT⟩ : ∃ T : Nat → Int, ∀ i, i < n → 0 ≤ T i ∧ T i < 256 ∧ rI M 1 i = iz (T i) ∧ BY (rI M 77 i) (T i) :=
    ⟨fun i => if hi : i < n then (t3 i hi).choose else 0, fun i hi => by
      have := (t3 i hi).choose_spec
      simp only [dif_pos hi]
      exact this⟩
  have ht : TxO T n := ⟨n1, fun i hi => ⟨(hT i hi).1, (hT i hi).2.1⟩⟩
  obtain ⟨M4, e4, f4, h4, d4⟩ := cRead ht hS (fun i hi => (hT i hi).2.2.1)
  have iw := h.w
  have cb := aLp_c (T := T) (n := n) n (wD T n (.inr (sk T n 0))) (w5 T n (.inr (sk T n 0))) 1
  have cb1 : 1 ≤ (fin T n).2.2 ∧ (fin T n).2.2 ≤ 1 + (n : Int) := cb
  have S4 := h4.x.1
  have f6 : Fr AZb (wR M 6 3 (some 1)) (wI M4 0 1 0) := (f4.mono (fun b j q => by unfold A10 at q; unfold AZb; omega)).trans (Fr.wI (by unfold AZb; omega))
  have ew : ∀ b j, rI (wR M 6 3 (some 1)) b j = rI M b j := fun _ _ => rfl
  have Fc : F_NS_scene 0 M = sI M4 0 12 1 0 (fun M6 => if 0 ≤ (if gd (fin T n).2.1 = true then iz (fin T n).2.2 else -1) then (fR M6 0 12 2 (fun b7 => fR M6 0 12 3 (fun b8 => fR M6 b8 8 0 (fun b9 => cv M6 b7 9 ( bV (F_Scen_become b7 b9 M6) (fun M10 => fR M10 0 12 4 (fun b11 => cv M10 b11 6 ( bV (F_Hist_forget b11 M10) (fun M12 => fR M12 0 12 7 (fun b13 => cv M12 b13 5 ( bV (F_Fram_forget b13 M12) (fun M14 => some (some (.int (if gd (fin T n).2.1 = true then iz (fin T n).2.2 else -1)), M14))))))))))))) else (some (some (.int (-4)), M6))) := by
    unfold F_NS_scene
    rw [fR_eq (kd_0 hS) (rr_0_3 hS), fR_eq (kd_0 hS) (rr_0_0 hS), fI_eq (kd_0 hS), t1, cv_eq (kd_6 hS), e4, bI_eq]
  have flt : ∀ X Y : am_M, CSt T n X (fin T n).2.1 → MSt T n Y (fin T n).2.1 → rI X 6 1 = rI Y 70 21 ∧ rI X 6 2 = rI Y 70 22 := fun X Y c m => by
    rcases hq : (fin T n).2.1 with ⟨fl, p⟩ | s
    · rw [hq] at c m
      exact ⟨c.2.2.1.trans m.2.2.1.symm, c.2.2.2.trans m.2.2.2.symm⟩
    · rw [hq] at c m
      exact ⟨c.2.2.1.trans m.2.2.1.symm, c.2.2.2.1.trans m.2.2.2.1.symm⟩
  by_cases g : gd (fin T n).2.1 = true
  · obtain ⟨cd, ok⟩ := d4 g
    have cd6 : CD (wI M4 0 1 0) (fin T n).1 := cd.f (Fr.wI (A := fun b _ => b = 0) rfl) (fun b j q => by omega)
    have h6 : CSt T n (wI M4 0 1 0) (fin T n).2.1 := h4.f (Fr.wI (A := fun b _ => b = 0) rfl) (fun b j q => by omega)
    obtain ⟨Ma, ea, fa, ca, za⟩ := cBec S4.wI cd6
    have Sa := S4.wI.fr fa
    have fb' : Fr AZ (wR M 6 3 (some 1)) (wI (wI Ma 12 3 0) 45 6 (-1)) := (f6.mono (fun b j q => by unfold AZb at q; unfold AZ; omega)).trans ((fa.mono (fun b j q => by unfold AZ; omega)).trans ((Fr.wI (by unfold AZ; omega)).trans (Fr.wI (by unfold AZ; omega))))
    have Ec : F_NS_scene 0 M = some (some (.int (iz (fin T n).2.2)), wI (wI Ma 12 3 0) 45 6 (-1)) := by
      rw [Fc, if_pos g, sI_eq (kd_0 S4), if_pos (show (0 : Int32) ≤ iz (fin T n).2.2 from (iz_le (by omega) (by omega) (by omega) (by omega)).mpr (show (0 : Int) ≤ _ by omega)), fR_eq (kd_0 S4.wI) (rr_0_2 S4.wI), fR_eq (kd_0 S4.wI) (rr_0_3 S4.wI), fR_eq (kd_6 S4.wI) (rr_6_0 S4.wI), cv_eq (kd_2 S4.wI), ea, bV_eq, fR_eq (kd_0 Sa) (rr_0_4 Sa), cv_eq (kd_12 Sa), F_Hist_forget, sI_eq (kd_12 Sa), bV_eq, fR_eq (kd_0 Sa.wI) (rr_0_7 Sa.wI), cv_eq (kd_45 Sa.wI), F_Fram_forget, sI_eq (kd_45 Sa.wI), bV_eq]
    have hX : CSt T n (wI (wI Ma 12 3 0) 45 6 (-1)) (fin T n).2.1 := (h6.f fa (fun b j q => by omega)).f ((Fr.wI (A := fun b _ => b = 12 ∨ b = 45) (Or.inl rfl)).trans (Fr.wI (Or.inr rfl))) (fun b j q => by omega)
    have cX : CS (wI (wI Ma 12 3 0) 45 6 (-1)) (fin T n).1.1 := ca.fr ((Fr.wI (A := fun b _ => b = 12 ∨ b = 45) (Or.inl rfl)).trans (Fr.wI (Or.inr rfl))) (fun b j q => by omega)
    have z0 : rI (wI (wI Ma 12 3 0) 45 6 (-1)) 0 1 = iz 0 := by rw [rI_ne (by omega), rI_ne (by omega), fa.ri (by omega), rI_at rfl rfl]; rfl
    have z2 : rI (wI (wI Ma 12 3 0) 45 6 (-1)) 2 7 = iz 1 := by rw [rI_ne (by omega), rI_ne (by omega), za]
    have z12 : rI (wI (wI Ma 12 3 0) 45 6 (-1)) 12 3 = iz 0 := by rw [rI_ne (by omega), rI_at rfl rfl]; rfl
    have z45 : rI (wI (wI Ma 12 3 0) 45 6 (-1)) 45 6 = iz (-1) := by rw [rI_at rfl rfl]; rfl
    have x15 : rI (wI (wI Ma 12 3 0) 45 6 (-1)) 70 15 = iz (n : Int) := by rw [rI_ne (by omega), rI_ne (by omega), fa.ri (by omega), rI_ne (by omega), f4.ri (fun q => by unfold A10 at q; omega), ew]; exact t2
    have x83 : ∀ i, rI (wI (wI Ma 12 3 0) 45 6 (-1)) 77 i = rI M 77 i := fun i => by rw [rI_ne (by omega), rI_ne (by omega), fa.ri (by omega), rI_ne (by omega), f4.ri (fun q => by unfold A10 at q; omega), ew]
    generalize wI (wI Ma 12 3 0) 45 6 (-1) = X at fb' Ec hX cX z0 z2 z12 z45 x15 x83
    obtain ⟨v, Y, eY, fY, hY, dY, y15⟩ := mRead ht (iw.1.fr fb') x15 (fun i hi => by rw [x83]; exact (hT i hi).2.2.2)
    obtain ⟨vY, mY⟩ := dY g
    obtain ⟨Z, eZ, fZ, mZ, w1, w24⟩ := mBec v hY g mY ok
    have fl := flt X Y hX hY
    have eX : ∀ b j, b < 70 → rI Z b j = rI X b j := fun b j q => by rw [fZ.ri (by omega), fY.ri (fun z => by unfold B80 at z; omega)]
    have fYZ : Fr AZ X Z := (fY.mono (fun b j q => by unfold B80 at q; unfold AZ; omega)).trans (fZ.mono (fun b j q => by unfold AZ; omega))
    have cZ : CS Z (fin T n).1.1 := by
      obtain ⟨c1, c2, c3, c4, c5, c6⟩ := cX
      exact ⟨fun i q1 q2 => by rw [eX _ _ (by omega)]; exact c1 i q1 q2, fun k f q1 q2 q3 q4 => by rw [eX _ _ (by omega)]; exact c2 k f q1 q2 q3 q4, fun k f q1 q2 q3 q4 => by rw [eX _ _ (by omega)]; exact c3 k f q1 q2 q3 q4, by rw [eX _ _ (by omega)]; exact c4, by rw [eX _ _ (by omega)]; exact c5, by rw [eX _ _ (by omega)]; exact c6⟩
    have tZ : Tap Z := ⟨0, by omega, by rw [eX _ _ (by omega)]; exact z0, by rw [fZ.ri (by omega)]; exact y15, fun i hi => by omega⟩
    have lZ : Flt Z := ⟨by rw [eX _ _ (by omega), fZ.ri (by omega)]; exact fl.1, by rw [eX _ _ (by omega), fZ.ri (by omega)]; exact fl.2⟩
    have hZ : His Z (fin T n).1.1 := ⟨0, by omega, by rw [eX _ _ (by omega)]; exact z12, w24, fun i hi => by omega⟩
    have rZ : Frm Z (fin T n).1.1 := Or.inl (by rw [eX _ _ (by omega)]; exact z45)
    exact ⟨iz (fin T n).2.2, X, Z, Ec, by rw [eY, eZ, vY], iw.z (fb'.trans fYZ) tZ lZ (Or.inr ⟨_, ok, by rw [eX _ _ (by omega)]; exact z2, w1, cZ, mZ, hZ, rZ⟩)⟩
  · have fail6 : F_NS_scene 0 M = some (some (.int (-4)), wI M4 0 1 0) := by
      rw [Fc, if_neg g, sI_eq (kd_0 S4), if_neg (by decide)]
    have h6 : CSt T n (wI M4 0 1 0) (fin T n).2.1 := h4.f (Fr.wI (A := fun b _ => b = 0) rfl) (fun b j q => by omega)
    have z0 : rI (wI M4 0 1 0) 0 1 = iz 0 := by rw [rI_at rfl rfl]; rfl
    have x15 : rI (wI M4 0 1 0) 70 15 = iz (n : Int) := by rw [rI_ne (by omega), f4.ri (fun q => by unfold A10 at q; omega), ew]; exact t2
    have x83 : ∀ i, rI (wI M4 0 1 0) 77 i = rI M 77 i := fun i => by rw [rI_ne (by omega), f4.ri (fun q => by unfold A10 at q; omega), ew]
    generalize wI M4 0 1 0 = X at f6 fail6 h6 z0 x15 x83
    obtain ⟨v, Y, eY, fY, hY, -, y15⟩ := mRead ht (iw.1.fr f6) x15 (fun i hi => by rw [x83]; exact (hT i hi).2.2.2)
    have fl := flt X Y h6 hY
    have eL : F_Md_scene_L95 70 v Y = some (some (.int (-4)), Y) := by
      unfold F_Md_scene_L95
      rw [cv_eq (kd_70 hY.x.1), mGd hY, bI_eq, bz_if0, if_neg g]
    have e6 : ∀ j, rI Y 6 j = rI X 6 j := fun j => fY.ri (fun z => by unfold B80 at z; omega)
    exact ⟨-4, X, Y, fail6, by rw [eY, eL], iw.zb (f6.trans (fY.mono (fun b j q => by unfold B80 at q; unfold AZb; omega))) ⟨0, by omega, by rw [fY.ri (fun z => by unfold B80 at z; omega)]; exact z0, y15, fun i hi => by omega⟩ ⟨by rw [e6]; exact fl.1, by rw [e6]; exact fl.2⟩⟩
end SceneC
