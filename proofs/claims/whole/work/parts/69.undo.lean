/-! ===== undo ===== -/
section Undo
variable {M : am_M}
theorem ap_undo (h : Inv M) : Ag (F_NS_undo 0) (F_Md_undo 70) M := by
  obtain ⟨hS, -⟩ := id h
  obtain ⟨S, st, s01, s1, s2, hc, hm, hb, h1, h0⟩ := h.sc
  rcases s01 with rfl | rfl
  · refine Ag.p h (v := -2) ?_ ?_
    · unfold F_NS_undo; rw [fR_eq (kd_0 hS) (rr_0_2 hS), fI_eq (kd_2 hS), s1, if_pos (by decide)]
    · unfold F_Md_undo; rw [fI_eq (kd_70 hS), s2, if_pos (by decide)]
  obtain ⟨hk, -, -, -, -, ⟨n, n1, n2, n3, n4⟩, -⟩ := h1 rfl
  have nk := hk.2.1
  by_cases g0 : n = 0
  · refine Ag.p h (v := -1) ?_ ?_
    · unfold F_NS_undo F_Hist_isEmpty
      rw [fR_eq (kd_0 hS) (rr_0_2 hS), fI_eq (kd_2 hS), s1, if_neg (by decide), fR_eq (kd_0 hS) (rr_0_4 hS), cv_eq (kd_12 hS), fI_eq (kd_12 hS), n2, g0, if_neg (by decide), bI_eq, if_neg (by decide)]
    · unfold F_Md_undo; rw [fI_eq (kd_70 hS), s2, if_neg (by decide), fI_eq (kd_70 hS), n3, g0, if_pos (by decide)]
  obtain ⟨m, rfl⟩ : ∃ m, n = m + 1 := ⟨n - 1, by omega⟩
  obtain ⟨v, v15, v85, hv⟩ := n4 m (by omega)
  have e1 : ((m + 1 : Nat) : Int) - 1 = (m : Int) := by omega
  have fa : Fr AS M (wI M 12 3 (iz (m : Int))) := Fr.wI (by unfold AS; omega)
  have hSa := hS.fr fa
  have ra : ∀ b j, ¬ (b = 12 ∧ j = 3) → rI (wI M 12 3 (iz (m : Int))) b j = rI M b j := fun b j q => rI_ne q
  have pos : (iz ((m + 1 : Nat) : Int) : Int32) ≠ iz 0 := fun q => by have := (iz_eq (by omega) (by omega) (by omega) (by omega)).mp q; omega
  have emp : ∀ M', SH M' → rI M' 12 3 = iz ((m + 1 : Nat) : Int) → F_Hist_isEmpty 12 M' = some (some (.int (iz 0)), M') := fun M' h' e => by
    unfold F_Hist_isEmpty
    rw [fI_eq (kd_12 h'), e, show (0 : Int32) = iz 0 from rfl, ifL (by omega) (by omega) (by omega) (by omega), if_pos (by omega)]
  have old : ∀ (M' : am_M) (S' : Sc), sNk S' = sNk S → rI M' 12 3 = iz (m : Int) → rI M' 70 24 = iz (m : Int) → (∀ b j, (b = 13 ∨ b = 14 ∨ b = 15 ∨ b = 78 ∨ b = 79) → rI M' b j = rI M b j) → His M' S' := fun M' S' q1 q2 q3 q4 => by
    refine ⟨m, by omega, q2, q3, fun i hi => ?_⟩
    have := n4 i (by omega)
    unfold hs1 at this ⊢
    rw [q4 15 i (by omega), q4 79 i (by omega), q4 13 i (by omega), q4 78 i (by omega), q4 14 i (by omega), q1]
    exact this
  have ec : ∀ R, (bV (if rI M 13 m = iz (-1) then some (none, wI (wI M 12 3 (iz (m : Int))) 2 5 (iz v)) else F_Scen_setKind 2 (rI M 13 m) (rI M 14 m) (iz v) (wI M 12 3 (iz (m : Int)))) (fun M8 => fR M8 0 12 7 (fun b9 => cv M8 b9 5 ( bV (F_Fram_forget b9 M8) (fun M10 => fR M10 0 12 4 (fun b11 => fI M10 b11 6 3 (fun x12 => some (some (.int x12), M10)))))))) = R → F_NS_undo 0 M = R := fun R hR => by
    rw [← hR]
    have tb : F_Hist_takeBack 12 2 M = if rI M 13 m = iz (-1) then some (none, wI (wI M 12 3 (iz (m : Int))) 2 5 (iz v)) else F_Scen_setKind 2 (rI M 13 m) (rI M 14 m) (iz v) (wI M 12 3 (iz (m : Int))) := by
      unfold F_Hist_takeBack
      have i3 : rI (wI M 12 3 (iz (m : Int))) 12 3 = iz (m : Int) := rI_at rfl rfl
      rw [cv_eq (kd_12 hS), emp M hS n2, bI_eq, if_pos (by decide), fI_eq (kd_12 hS), n2, show (1 : Int32) = iz 1 from rfl, iz_sub, e1, sI_eq (kd_12 hS)]
      simp only [fR_eq (kd_12 hSa) (rr_12_0 hSa), fR_eq (kd_12 hSa) (rr_12_1 hSa), fR_eq (kd_12 hSa) (rr_12_2 hSa), fI_eq (kd_12 hSa), i3]
      rw [aI_eq (kd_13 hSa) (ln_13 hSa) (by omega) (by omega) (by omega), aI_eq (kd_15 hSa) (ln_15 hSa) (by omega) (by omega) (by omega), aI_eq (kd_13 hSa) (ln_13 hSa) (by omega) (by omega) (by omega), aI_eq (kd_14 hSa) (ln_14 hSa) (by omega) (by omega) (by omega), aI_eq (kd_15 hSa) (ln_15 hSa) (by omega) (by omega) (by omega), Int.toNat_natCast, ra _ _ (by omega), ra _ _ (by omega), ra _ _ (by omega), v15, sI_eq (kd_2 hSa), cv_eq (kd_2 hSa)]
      have eb : bV (F_Scen_setKind 2 (rI M 13 m) (rI M 14 m) (iz v) (wI M 12 3 (iz (m : Int)))) (fun M21 => some (none, M21)) = F_Scen_setKind 2 (rI M 13 m) (rI M 14 m) (iz v) (wI M 12 3 (iz (m : Int))) ∨ rI M 13 m = iz (-1) := by
        rcases hv with ⟨q, -⟩ | ⟨k, w, k1, k2, q1, q2, -, q3⟩
        · exact Or.inr q
        · refine Or.inl ?_
          rw [q1, q2, setKind_eq (SA_2 hSa) k1 (by omega) (by unfold hsR at q3; omega) (by unfold hsR at q3; omega), bV_eq]
      rcases eb with eb | eb
      · rw [eb]; rfl
      · rw [if_pos eb, if_pos (by rw [eb]; rfl)]
    unfold F_NS_undo
    rw [fR_eq (kd_0 hS) (rr_0_2 hS), fI_eq (kd_2 hS), s1, if_neg (by decide), fR_eq (kd_0 hS) (rr_0_4 hS), cv_eq (kd_12 hS), emp M hS n2, bI_eq, if_pos (by decide), fR_eq (kd_0 hS) (rr_0_4 hS), fR_eq (kd_0 hS) (rr_0_2 hS), cv_eq (kd_12 hS), tb]
  have em : ∀ M', SH M' → rI M' 70 1 = iz 1 → rI M' 70 24 = iz ((m + 1 : Nat) : Int) → rI M' 78 m = rI M 78 m → rI M' 79 m = iz v → F_Md_undo 70 M' = if rI M 78 m = iz (-1) then some (some (.int (iz (m : Int))), wI (wI M' 70 24 (iz (m : Int))) 70 3 (iz v)) else tI (wI M' 70 24 (iz (m : Int))) 72 (rI M 78 m) (iz v) (fun M20 => fI M20 70 13 24 (fun x21 => some (some (.int x21), M20))) := fun M' h' q1 q2 q3 q4 => by
    have hb' : SH (wI M' 70 24 (iz (m : Int))) := h'.wI
    have hc' : SH (wI (wI M' 70 24 (iz (m : Int))) 70 3 (iz v)) := hb'.wI
    have i3 : rI (wI M' 70 24 (iz (m : Int))) 70 24 = iz (m : Int) := rI_at rfl rfl
    have r84 : rI (wI M' 70 24 (iz (m : Int))) 78 m = rI M 78 m := (rI_ne (by omega)).trans q3
    have r85 : rI (wI M' 70 24 (iz (m : Int))) 79 m = iz v := (rI_ne (by omega)).trans q4
    have i4 : rI (wI (wI M' 70 24 (iz (m : Int))) 70 3 (iz v)) 70 24 = iz (m : Int) := (rI_ne (by omega)).trans i3
    unfold F_Md_undo
    rw [fI_eq (kd_70 h'), q1, if_neg (by decide), fI_eq (kd_70 h'), q2, if_neg (show ¬ (iz ((m + 1 : Nat) : Int) = (0 : Int32)) from pos), fI_eq (kd_70 h'), q2, show (1 : Int32) = iz 1 from rfl, iz_sub, e1, sI_eq (kd_70 h')]
    simp only [fR_eq (kd_70 hb') (rr_70_25 hb'), fR_eq (kd_70 hb') (rr_70_26 hb'), fR_eq (kd_70 hb') (rr_70_5 hb'), fI_eq (kd_70 hb'), i3]
    rw [aI_eq (kd_78 hb') (ln_78 hb') (by omega) (by omega) (by omega), aI_eq (kd_79 hb') (ln_79 hb') (by omega) (by omega) (by omega), aI_eq (kd_78 hb') (ln_78 hb') (by omega) (by omega) (by omega), aI_eq (kd_79 hb') (ln_79 hb') (by omega) (by omega) (by omega), Int.toNat_natCast, r84, r85, sI_eq (kd_70 hb'), fI_eq (kd_70 hc'), i4]
    rfl
  rcases hv with ⟨q13, q84, v1, v2⟩ | ⟨k, w, k1, k2, q13, q14, q84, q3⟩
  · have f2 := fa.trans (Fr.wI (k := 5) (v := iz v) (show AS 2 _ by unfold AS; omega))
    have hS2 := hS.fr f2
    have f3 := f2.trans (Fr.wI (k := 6) (v := -1) (show AS 45 _ by unfold AS; omega))
    have hS3 := hS.fr f3
    have z3 : ∀ b j, ¬ (b = 12 ∧ j = 3) → ¬ (b = 2 ∧ j = 5) → ¬ (b = 45 ∧ j = 6) → rI (wI (wI (wI M 12 3 (iz (m : Int))) 2 5 (iz v)) 45 6 (-1)) b j = rI M b j := fun b j a1 a2 a3 => by
      rw [rI_ne (by omega), rI_ne (by omega), rI_ne (by omega)]
    have f5 := (f3.trans (Fr.wI (k := 24) (v := iz (m : Int)) (show AS 70 _ by unfold AS; omega))).trans (Fr.wI (k := 3) (v := iz v) (show AS 70 _ by unfold AS; omega))
    have z5 : ∀ b j, ¬ (b = 12 ∧ j = 3) → ¬ (b = 2 ∧ j = 5) → ¬ (b = 45 ∧ j = 6) → ¬ (b = 70 ∧ (j = 24 ∨ j = 3)) → rI (wI (wI (wI (wI (wI M 12 3 (iz (m : Int))) 2 5 (iz v)) 45 6 (-1)) 70 24 (iz (m : Int))) 70 3 (iz v)) b j = rI M b j := fun b j a1 a2 a3 a4 => by
      rw [rI_ne (by omega), rI_ne (by omega), z3 b j a1 a2 a3]
    refine ⟨iz (m : Int), wI (wI (wI M 12 3 (iz (m : Int))) 2 5 (iz v)) 45 6 (-1), _, ?_, ?_, h.s f5 ⟨setS S v, setS_ok hk v1 v2, ?_, ?_, ?_, ?_, ?_, ?_⟩⟩
    · refine ec _ ?_
      unfold F_Fram_forget
      rw [if_pos q13, bV_eq, fR_eq (kd_0 hS2) (rr_0_7 hS2), cv_eq (kd_45 hS2), sI_eq (kd_45 hS2), bV_eq, fR_eq (kd_0 hS3) (rr_0_4 hS3), fI_eq (kd_12 hS3), rI_ne (by omega), rI_ne (by omega), rI_at rfl rfl]
    · rw [em _ hS3 (by rw [z3 _ _ (by omega) (by omega) (by omega)]; exact s2) (by rw [z3 _ _ (by omega) (by omega) (by omega)]; exact n3) (z3 _ _ (by omega) (by omega) (by omega)) (by rw [z3 _ _ (by omega) (by omega) (by omega)]; exact v85), if_pos q84]
    · rw [z5 _ _ (by omega) (by omega) (by omega) (by omega)]; exact s1
    · rw [z5 _ _ (by omega) (by omega) (by omega) (by omega)]; exact s2
    · obtain ⟨w1, w2, w3, w4, w5, w6⟩ := hc
      refine ⟨fun i a1 a2 => ?_, fun k f a1 a2 a3 a4 => ?_, fun k f a1 a2 a3 a4 => ?_, ?_, ?_, ?_⟩
      · rw [z5 _ _ (by omega) (by omega) (by omega) (by omega)]; exact w1 i a1 a2
      · rw [z5 _ _ (by omega) (by omega) (by omega) (by omega)]; exact w2 k f a1 a2 a3 a4
      · rw [z5 _ _ (by omega) (by omega) (by omega) (by omega)]; exact w3 k f a1 a2 a3 a4
      · rw [z5 _ _ (by omega) (by omega) (by omega) (by omega)]; exact w4
      · rw [z5 _ _ (by omega) (by omega) (by omega) (by omega)]; exact w5
      · rw [rI_ne (by omega), rI_ne (by omega), rI_ne (by omega), rI_at rfl rfl]; rfl
    · obtain ⟨w1, w2, w3, w4, w5, w6⟩ := hm
      refine ⟨fun i a1 a2 => ?_, fun k f a1 a2 a3 a4 => ?_, fun k f a1 a2 a3 a4 => ?_, ?_, ?_, ?_⟩
      · rw [z5 _ _ (by omega) (by omega) (by omega) (by omega)]; exact w1 i a1 a2
      · rw [z5 _ _ (by omega) (by omega) (by omega) (by omega)]; exact w2 k f a1 a2 a3 a4
      · rw [z5 _ _ (by omega) (by omega) (by omega) (by omega)]; exact w3 k f a1 a2 a3 a4
      · rw [z5 _ _ (by omega) (by omega) (by omega) (by omega)]; exact w4
      · rw [z5 _ _ (by omega) (by omega) (by omega) (by omega)]; exact w5
      · rw [rI_at rfl rfl]; rfl
    · refine old _ _ rfl ?_ ?_ (fun b j hb => z5 b j (by omega) (by omega) (by omega) (by omega))
      · rw [rI_ne (by omega), rI_ne (by omega), rI_ne (by omega), rI_ne (by omega), rI_at rfl rfl]
      · rw [rI_ne (by omega), rI_at rfl rfl]
    · refine Or.inl ?_
      rw [rI_ne (by omega), rI_ne (by omega), rI_at rfl rfl]; rfl
  · have wb : 0 ≤ w ∧ w ≤ 4 := by unfold hsR at q3; omega
    have f2 := fa.trans (Fr.wI (k := (k * 8 + w).toNat) (v := iz v) (show AS 4 _ by unfold AS; omega))
    have hS2 := hS.fr f2
    have f3 := f2.trans (Fr.wI (k := 6) (v := -1) (show AS 45 _ by unfold AS; omega))
    have hS3 := hS.fr f3
    have z3 : ∀ b j, ¬ (b = 12 ∧ j = 3) → ¬ (b = 4 ∧ j = (k * 8 + w).toNat) → ¬ (b = 45 ∧ j = 6) → rI (wI (wI (wI M 12 3 (iz (m : Int))) 4 (k * 8 + w).toNat (iz v)) 45 6 (-1)) b j = rI M b j := fun b j a1 a2 a3 => by
      rw [rI_ne (by omega), rI_ne (by omega), rI_ne (by omega)]
    have f4 := f3.trans (Fr.wI (k := 24) (v := iz (m : Int)) (show AS 70 _ by unfold AS; omega))
    have hS4 := hS.fr f4
    have f5 := f4.trans (Fr.wI (k := (8 * k + w).toNat) (v := iz v) (show AS 72 _ by unfold AS; omega))
    have hS5 := hS.fr f5
    have z5 : ∀ b j, ¬ (b = 12 ∧ j = 3) → ¬ (b = 4 ∧ j = (k * 8 + w).toNat) → ¬ (b = 45 ∧ j = 6) → ¬ (b = 70 ∧ j = 24) → ¬ (b = 72 ∧ j = (8 * k + w).toNat) → rI (wI (wI (wI (wI (wI M 12 3 (iz (m : Int))) 4 (k * 8 + w).toNat (iz v)) 45 6 (-1)) 70 24 (iz (m : Int))) 72 (8 * k + w).toNat (iz v)) b j = rI M b j := fun b j a1 a2 a3 a4 a5 => by
      rw [rI_ne (by omega), rI_ne (by omega), z3 b j a1 a2 a3]
    have nq : ¬ rI M 13 m = iz (-1) := fun q => by
      rw [q13] at q
      have := (iz_eq (by omega) (by omega) (by omega) (by omega)).mp q
      omega
    have nq2 : ¬ rI M 78 m = iz (-1) := fun q => by
      rw [q84] at q
      have := (iz_eq (by omega) (by omega) (by omega) (by omega)).mp q
      omega
    refine ⟨iz (m : Int), wI (wI (wI M 12 3 (iz (m : Int))) 4 (k * 8 + w).toNat (iz v)) 45 6 (-1), _, ?_, ?_, h.s f5 ⟨setK S k w v, setK_ok hk q3, ?_, ?_, ?_, ?_, ?_, ?_⟩⟩
    · refine ec _ ?_
      unfold F_Fram_forget
      rw [if_neg nq, q13, q14, setKind_eq (SA_2 hSa) k1 (by omega) wb.1 (by omega), bV_eq, fR_eq (kd_0 hS2) (rr_0_7 hS2), cv_eq (kd_45 hS2), sI_eq (kd_45 hS2), bV_eq, fR_eq (kd_0 hS3) (rr_0_4 hS3), fI_eq (kd_12 hS3), rI_ne (by omega), rI_ne (by omega), rI_at rfl rfl]
    · rw [em _ hS3 (by rw [z3 _ _ (by omega) (by omega) (by omega)]; exact s2) (by rw [z3 _ _ (by omega) (by omega) (by omega)]; exact n3) (z3 _ _ (by omega) (by omega) (by omega)) (by rw [z3 _ _ (by omega) (by omega) (by omega)]; exact v85), if_neg nq2, q84, tI_eq (kd_72 hS4) (ln_72 hS4) (by omega) (by omega) (by omega), fI_eq (kd_70 hS5), rI_ne (by omega), rI_at rfl rfl]
    · rw [z5 _ _ (by omega) (by omega) (by omega) (by omega) (by omega)]; exact s1
    · rw [z5 _ _ (by omega) (by omega) (by omega) (by omega) (by omega)]; exact s2
    · obtain ⟨w1, w2, w3, w4, w5, w6⟩ := hc
      refine ⟨fun i a1 a2 => ?_, fun k' f a1 a2 a3 a4 => ?_, fun k' f a1 a2 a3 a4 => ?_, ?_, ?_, ?_⟩
      · rw [z5 _ _ (by omega) (by omega) (by omega) (by omega) (by omega)]; exact w1 i a1 a2
      · by_cases z : k' = k ∧ f = w
        · rw [z.1, z.2, rI_ne (by omega), rI_ne (by omega), rI_ne (by omega), rI_at rfl rfl, setK_i]
        · rw [z5 _ _ (by omega) (by omega) (by omega) (by omega) (by omega), setK_o z]; exact w2 k' f a1 a2 a3 a4
      · rw [z5 _ _ (by omega) (by omega) (by omega) (by omega) (by omega)]; exact w3 k' f a1 a2 a3 a4
      · rw [z5 _ _ (by omega) (by omega) (by omega) (by omega) (by omega)]; exact w4
      · rw [z5 _ _ (by omega) (by omega) (by omega) (by omega) (by omega)]; exact w5
      · rw [z5 _ _ (by omega) (by omega) (by omega) (by omega) (by omega)]; exact w6
    · obtain ⟨w1, w2, w3, w4, w5, w6⟩ := hm
      refine ⟨fun i a1 a2 => ?_, fun k' f a1 a2 a3 a4 => ?_, fun k' f a1 a2 a3 a4 => ?_, ?_, ?_, ?_⟩
      · rw [z5 _ _ (by omega) (by omega) (by omega) (by omega) (by omega)]; exact w1 i a1 a2
      · by_cases z : k' = k ∧ f = w
        · rw [z.1, z.2, rI_at rfl rfl, setK_i]
        · rw [z5 _ _ (by omega) (by omega) (by omega) (by omega) (by omega), setK_o z]; exact w2 k' f a1 a2 a3 a4
      · rw [z5 _ _ (by omega) (by omega) (by omega) (by omega) (by omega)]; exact w3 k' f a1 a2 a3 a4
      · rw [z5 _ _ (by omega) (by omega) (by omega) (by omega) (by omega)]; exact w4
      · rw [z5 _ _ (by omega) (by omega) (by omega) (by omega) (by omega)]; exact w5
      · rw [z5 _ _ (by omega) (by omega) (by omega) (by omega) (by omega)]; exact w6
    · refine old _ _ rfl ?_ ?_ (fun b j hb => z5 b j (by omega) (by omega) (by omega) (by omega) (by omega))
      · rw [rI_ne (by omega), rI_ne (by omega), rI_ne (by omega), rI_ne (by omega), rI_at rfl rfl]
      · rw [rI_ne (by omega), rI_at rfl rfl]
    · refine Or.inl ?_
      rw [rI_ne (by omega), rI_ne (by omega), rI_at rfl rfl]; rfl
end Undo
