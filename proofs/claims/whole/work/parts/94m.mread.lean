/-! ===== the reference reads a text ===== -/
def MD (M : am_M) (D : Dr) : Prop := (∀ i, 0 ≤ i → i < 3 → rI M 74 i.toNat = iz (sW D.1 i)) ∧ (∀ k f, 0 ≤ k → k < sNk D.1 → 0 ≤ f → f < 8 → rI M 75 (8 * k + f).toNat = iz (sK D.1 k f)) ∧ (∀ s f, 0 ≤ s → s < sNs D.1 → 0 ≤ f → f < 9 → rI M 76 (9 * s + f).toNat = iz (sQ D.1 s f)) ∧ rI M 70 10 = iz (sNk D.1) ∧ rI M 70 12 = iz (sNs D.1) ∧ rI M 70 9 = iz (sSd D.1) ∧ rI M 70 23 = bz (D.2 = true)
def B80 (b j : Nat) : Prop := (b = 70 ∧ (j = 9 ∨ j = 10 ∨ j = 12 ∨ (17 ≤ j ∧ j ≤ 23))) ∨ (74 ≤ b ∧ b ≤ 76)
section Mrd
variable {T : Nat → Int} {n : Nat} {M : am_M} {o : Lo} {D : Dr}
theorem MD.f {A : Nat → Nat → Prop} {M' : am_M} (h : MD M D) (hf : Fr A M M') (hA : ∀ b j, A b j → ¬ (74 ≤ b ∧ b ≤ 76) ∧ ¬ (b = 70 ∧ (j = 9 ∨ j = 10 ∨ j = 12 ∨ j = 23))) : MD M' D := by
  obtain ⟨h1, h2, h3, h4, h5, h6, h7⟩ := h
  have e : ∀ b j, ((74 ≤ b ∧ b ≤ 76) ∨ (b = 70 ∧ (j = 9 ∨ j = 10 ∨ j = 12 ∨ j = 23))) → rI M' b j = rI M b j := fun b j q1 => hf.ri (fun q => by have := hA b j q; omega)
  exact ⟨fun i q1 q2 => by rw [e 74 _ (by omega)]; exact h1 i q1 q2, fun k f q1 q2 q3 q4 => by rw [e 75 _ (by omega)]; exact h2 k f q1 q2 q3 q4, fun k f q1 q2 q3 q4 => by rw [e 76 _ (by omega)]; exact h3 k f q1 q2 q3 q4, by rw [e 70 _ (by omega)]; exact h4, by rw [e 70 _ (by omega)]; exact h5, by rw [e 70 _ (by omega)]; exact h6, by rw [e 70 _ (by omega)]; exact h7⟩
theorem MD.b {M' : am_M} (h : MD M D) (hf : Fr BM M M') : MD M' D := h.f hf (fun b j q => by unfold BM at q; omega)
theorem BM80 {M' : am_M} (h : Fr BM M M') : Fr B80 M M' := h.mono (fun b j q => by unfold BM at q; unfold B80; omega)
theorem mSeed (ht : TxO T n) (h : MSt T n M o) (g : gd o = true) (hd : MD M D) : ∃ M', F_Md_readSeed 70 M = some (none, M') ∧ Fr B80 M M' ∧ MSt T n M' (if D.2 = true then oFail 3 o else oNum T n 0 999999 (oA T n o)) ∧ (gd (if D.2 = true then oFail 3 o else oNum T n 0 999999 (oA T n o)) = true → MD M' (if D.2 = true then D else dSeed D (oV T n (oA T n o)))) := by
  have hS := h.x.1
  unfold F_Md_readSeed
  rw [fI_eq (kd_70 hS), hd.2.2.2.2.2.2, bz_if0]
  by_cases t : D.2 = true
  · obtain ⟨M1, e1, f1, h1⟩ := mErr h (f := 3) (by omega) (by omega)
    have nb : ¬ gd (oFail 3 o) = true := by rcases o with q | s <;> exact fun z => by cases z
    have S1 := h1.x.1
    have f2 : Fr B80 M1 (wI M1 70 23 1) := Fr.wI (by unfold B80; omega)
    have h2 : MSt T n (wI M1 70 23 1) (oFail 3 o) := h1.f (Fr.wI (A := fun b j => b = 70 ∧ j = 23) ⟨rfl, rfl⟩) (fun b j q => by omega)
    obtain ⟨v, M3, e3, f3, h3, v3⟩ := mNmb ht h2 (lo := 0) (hi := 999999) (by omega) (by omega) (by omega) (by omega)
    rw [ba_num nb] at h3
    have S3 := h3.x.1
    unfold F_Md_readSeed_L16
    rw [if_pos t, if_pos t, if_pos t, fI_eq (kd_70 hS), cv_eq (kd_70 hS), show F_Md_errs 70 3 (rI M 70 18) M = _ from e1, bV_eq, sI_eq (kd_70 S1), cv_eq (kd_70 S1.wI), mGd h2, bI_eq, bz_if0, if_neg nb, cv_eq (kd_70 S1.wI), show F_Md_number 70 0 999999 (wI M1 70 23 1) = _ from e3, bI_eq, sI_eq (kd_70 S3)]
    exact ⟨_, rfl, (BM80 f1).trans (f2.trans ((BM80 f3).trans (Fr.wI (by unfold B80; omega)))), h3.f (Fr.wI (A := fun b j => b = 70 ∧ j = 9) ⟨rfl, rfl⟩) (fun b j q => by omega), fun q => absurd q nb⟩
  · have f0 : Fr B80 M (wI M 70 23 1) := Fr.wI (by unfold B80; omega)
    have h0 : MSt T n (wI M 70 23 1) o := h.f (Fr.wI (A := fun b j => b = 70 ∧ j = 23) ⟨rfl, rfl⟩) (fun b j q => by omega)
    obtain ⟨M1, e1, f1, h1⟩ := mGo ht h0 g
    have S1 := h1.x.1
    obtain ⟨v, M3, e3, f3, h3, v3⟩ := mNmb ht h1 (lo := 0) (hi := 999999) (by omega) (by omega) (by omega) (by omega)
    have S3 := h3.x.1
    unfold F_Md_readSeed_L16
    rw [if_neg t, if_neg t, if_neg t, sI_eq (kd_70 hS), cv_eq (kd_70 hS.wI), mGd h0, bI_eq, bz_if0, if_pos g, cv_eq (kd_70 hS.wI), e1, bV_eq, cv_eq (kd_70 S1), show F_Md_number 70 0 999999 M1 = _ from e3, bI_eq, sI_eq (kd_70 S3)]
    refine ⟨_, rfl, f0.trans ((BM80 f1).trans ((BM80 f3).trans (Fr.wI (by unfold B80; omega)))), h3.f (Fr.wI (A := fun b j => b = 70 ∧ j = 9) ⟨rfl, rfl⟩) (fun b j q => by omega), fun q => ?_⟩
    obtain ⟨a1, a2, a3, a4, a5, a6, a7⟩ := hd
    have e : ∀ b j, (b = 70 → j ≠ 9 ∧ j ≠ 23 ∧ ¬ (17 ≤ j ∧ j ≤ 22)) → rI (wI M3 70 9 v) b j = rI M b j := fun b j z1 => by
      rw [rI_ne (by omega), f3.ri (fun q => by unfold BM at q; omega), f1.ri (fun q => by unfold BM at q; omega), rI_ne (by omega)]
    refine ⟨fun i q1 q2 => by rw [e _ _ (by omega)]; exact a1 i q1 q2, fun k f q1 q2 q3 q4 => by rw [e _ _ (by omega)]; exact a2 k f q1 q2 q3 q4, fun k f q1 q2 q3 q4 => by rw [e _ _ (by omega)]; exact a3 k f q1 q2 q3 q4, by rw [e _ _ (by omega)]; exact a4, by rw [e _ _ (by omega)]; exact a5, ?_, ?_⟩
    · rw [rI_at rfl rfl, (v3 q).1]; rfl
    · rw [rI_ne (by omega), f3.ri (fun q => by unfold BM at q; omega), f1.ri (fun q => by unfold BM at q; omega), rI_at rfl rfl]; rfl
theorem mRdLn (ht : TxO T n) (h : MSt T n M o) (g : gd o = true) (hd : MD M D) (hk : scOK D.1) {c : Int} (c0 : 1 ≤ c) (c1 : c ≤ 2000) : ∃ M', F_Md_readLine 70 (iz c) M = F_Md_readLine_L96 70 M' ∧ Fr B80 M M' ∧ MSt T n M' (aLn T n D o).2 ∧ (gd (aLn T n D o).2 = true → MD M' (aLn T n D o).1) := by
  have hS := h.x.1
  obtain ⟨k1, k2, k3, k4, k5, k6⟩ := id hk
  have i1 : F_Md_isWord 70 121 M = some (some (.int (bz (oW T n 1 o = true))), M) := by rw [← oW_cg (T := T) (n := n) (o := o) (k' := 21) (k := 1) rfl]; exact mIsW ht h (k := 21) (by omega)
  have i2 : F_Md_isWord 70 122 M = some (some (.int (bz (oW T n 2 o = true))), M) := by rw [← oW_cg (T := T) (n := n) (o := o) (k' := 22) (k := 2) rfl]; exact mIsW ht h (k := 22) (by omega)
  have i3 : F_Md_isWord 70 133 M = some (some (.int (bz (oW T n 13 o = true))), M) := by rw [← oW_cg (T := T) (n := n) (o := o) (k' := 33) (k := 13) rfl]; exact mIsW ht h (k := 33) (by omega)
  unfold F_Md_readLine aLn
  rw [if_neg (show ¬ iz c = 0 from fun q => by have := (iz_eq (a := c) (b := 0) (by omega) (by omega) (by omega) (by omega)).mp q; omega), cv_eq (kd_70 hS), i1, bI_eq, bz_if0]
  by_cases g1 : oW T n 1 o = true
  · obtain ⟨M1, e1, f1, h1, d1⟩ := mSeed ht h g hd
    rw [if_pos g1, if_pos g1, cv_eq (kd_70 hS), e1, bV_eq]
    refine ⟨M1, rfl, f1, ?_⟩
    by_cases t : D.2 = true
    · rw [if_pos t] at h1 d1 ⊢; rw [if_pos t] at d1; exact ⟨h1, d1⟩
    · rw [if_neg t] at h1 d1 ⊢; rw [if_neg t] at d1; exact ⟨h1, d1⟩
  rw [if_neg g1, if_neg g1, cv_eq (kd_70 hS), i2, bI_eq, bz_if0]
  by_cases g2 : oW T n 2 o = true
  · rw [if_pos g2, if_pos g2, cv_eq (kd_70 hS)]
    by_cases c5 : sNk D.1 = 5
    · obtain ⟨M1, e1, f1, h1⟩ := mErr h (f := 3) (by omega) (by omega)
      have nb : ¬ gd (oFail 3 o) = true := by rcases o with q | s <;> exact fun z => by cases z
      have e2 : F_Md_readKind 70 M = some (none, M1) := by
        unfold F_Md_readKind F_Md_readKind_L17
        rw [fI_eq (kd_70 hS), hd.2.2.2.1, show (5 : Int32) = iz 5 from rfl, ifQ (by omega) (by omega) (by omega) (by omega), if_pos c5, fI_eq (kd_70 hS), cv_eq (kd_70 hS), show F_Md_errs 70 3 (rI M 70 18) M = _ from e1, bV_eq, cv_eq (kd_70 h1.x.1), mGd h1, bI_eq, bz_if0, if_neg nb]
      rw [if_pos c5, e2, bV_eq]
      exact ⟨M1, rfl, BM80 f1, h1, fun q => absurd q nb⟩
    · obtain ⟨M1, e1, f1, h1, r1, n1⟩ := mKnd ht h g (k := sNk D.1) (by omega) (by omega) hd.2.2.2.1
      rw [if_neg c5, e1, bV_eq]
      refine ⟨M1, rfl, f1.mono (fun b j q => by unfold BK BM at q; unfold B80; omega), h1, fun q => ?_⟩
      obtain ⟨a1, a2, a3, a4, a5, a6, a7⟩ := hd
      have e : ∀ b j, ((74 ≤ b ∧ b ≤ 76) ∨ (b = 70 ∧ (j = 9 ∨ j = 12 ∨ j = 23))) → b ≠ 75 → rI M1 b j = rI M b j := fun b j z1 z3 => f1.ri (fun q => by unfold BK BM at q; omega)
      refine ⟨fun i q1 q2 => by rw [e _ _ (by omega) (by omega)]; exact a1 i q1 q2, fun k f q1 q2 q3 q4 => ?_, fun k f q1 q2 q3 q4 => by rw [e _ _ (by omega) (by omega)]; exact a3 k f q1 q2 q3 q4, n1, by rw [e _ _ (by omega) (by omega)]; exact a5, by rw [e _ _ (by omega) (by omega)]; exact a6, by rw [e _ _ (by omega) (by omega)]; exact a7⟩
      have q2' : k < sNk D.1 + 1 := q2
      show _ = iz (if k = sNk D.1 then kF T n o f else sK D.1 k f)
      by_cases ek : k = sNk D.1
      · rw [if_pos ek, ek]; exact r1 q f q3 q4
      · rw [if_neg ek, f1.ri (fun q => by unfold BK BM at q; omega)]; exact a2 k f q1 (by omega) q3 q4
  rw [if_neg g2, if_neg g2, cv_eq (kd_70 hS), i3, bI_eq, bz_if0]
  by_cases g3 : oW T n 13 o = true
  · rw [if_pos g3, if_pos g3, cv_eq (kd_70 hS)]
    by_cases c4 : sNs D.1 = 4
    · obtain ⟨M1, e1, f1, h1⟩ := mErr h (f := 3) (by omega) (by omega)
      have nb : ¬ gd (oFail 3 o) = true := by rcases o with q | s <;> exact fun z => by cases z
      have e2 : F_Md_readSource 70 M = some (none, M1) := by
        unfold F_Md_readSource F_Md_readSource_L17
        rw [fI_eq (kd_70 hS), hd.2.2.2.2.1, show (4 : Int32) = iz 4 from rfl, ifQ (by omega) (by omega) (by omega) (by omega), if_pos c4, fI_eq (kd_70 hS), cv_eq (kd_70 hS), show F_Md_errs 70 3 (rI M 70 18) M = _ from e1, bV_eq, cv_eq (kd_70 h1.x.1), mGd h1, bI_eq, bz_if0, if_neg nb]
      rw [if_pos c4, e2, bV_eq]
      exact ⟨M1, rfl, BM80 f1, h1, fun q => absurd q nb⟩
    · obtain ⟨M1, e1, f1, h1, r1, n1⟩ := mSrc ht h g (s := sNs D.1) (nk := sNk D.1) (W := sW D.1) (by omega) (by omega) (by omega) (by omega) hd.2.2.2.2.1 hd.2.2.2.1 (fun i i0 i1 => ⟨hd.1 i i0 i1, k1 i i0 i1⟩)
      rw [if_neg c4, e1, bV_eq]
      refine ⟨M1, rfl, f1.mono (fun b j q => by unfold BQ BM at q; unfold B80; omega), h1, fun q => ?_⟩
      obtain ⟨a1, a2, a3, a4, a5, a6, a7⟩ := hd
      have e : ∀ b j, ((74 ≤ b ∧ b ≤ 76) ∨ (b = 70 ∧ (j = 9 ∨ j = 10 ∨ j = 23))) → b ≠ 76 → rI M1 b j = rI M b j := fun b j z1 z3 => f1.ri (fun q => by unfold BQ BM at q; omega)
      refine ⟨fun i q1 q2 => by rw [e _ _ (by omega) (by omega)]; exact a1 i q1 q2, fun k f q1 q2 q3 q4 => by rw [e _ _ (by omega) (by omega)]; exact a2 k f q1 q2 q3 q4, fun k f q1 q2 q3 q4 => ?_, by rw [e _ _ (by omega) (by omega)]; exact a4, n1, by rw [e _ _ (by omega) (by omega)]; exact a6, by rw [e _ _ (by omega) (by omega)]; exact a7⟩
      have q2' : k < sNs D.1 + 1 := q2
      show _ = iz (if k = sNs D.1 then qF T n (sNk D.1) (sW D.1) o f else sQ D.1 k f)
      by_cases ek : k = sNs D.1
      · rw [if_pos ek, ek, show qF T n (sNk D.1) (sW D.1) o f = qG T n (sNk D.1) (sW D.1) o f from if_neg (by omega)]; exact r1 q f q3 q4
      · rw [if_neg ek, f1.ri (fun q => by unfold BQ BM at q; omega)]; exact a3 k f q1 (by omega) q3 q4
  · obtain ⟨M1, e1, f1, h1⟩ := mErr h (f := 1) (by omega) (by omega)
    rw [if_neg g3, if_neg g3, fI_eq (kd_70 hS), cv_eq (kd_70 hS), show F_Md_errs 70 1 (rI M 70 18) M = _ from e1, bV_eq]
    exact ⟨M1, rfl, BM80 f1, h1, fun _ => hd.b f1⟩
theorem mLoop (ht : TxO T n) : ∀ (r f : Nat) (c : Int) (M : am_M) (D : Dr) (o : Lo), MSt T n M o → (gd o = true → MD M D ∧ scOK D.1 ∧ n ≤ r + pos o) → r < f → 1 ≤ c → c + r ≤ 2000 → ∃ M', F_Md_scene_L70 f 70 (iz c) M = F_Md_scene_L95 70 (iz (aLp T n r D o c).2.2) M' ∧ Fr B80 M M' ∧ MSt T n M' (aLp T n r D o c).2.1 ∧ (gd (aLp T n r D o c).2.1 = true → MD M' (aLp T n r D o c).1)
  | r, 0, c, M, D, o, h, hg, h1, c0, c1 => by omega
  | r, f + 1, c, M, D, o, h, hg, h1, c0, c1 => by
    have hS := h.x.1
    have h500 := ht.1
    rw [F_Md_scene_L70, cv_eq (kd_70 hS), mGd h, bI_eq, bz_if0]
    by_cases g : gd o = true
    rotate_left
    · have nc : ¬ cont n o = true := fun q => g (cont_gd q).1
      rw [aLp_no r c nc, if_neg g]
      exact ⟨M, rfl, Fr.refl M, h, fun q => absurd q g⟩
    obtain ⟨hd, hk, hr⟩ := hg g
    rcases o with ⟨fl, p⟩ | s
    · cases g
    have hr' : n ≤ r + s := hr
    obtain ⟨a1, a2, a3, a4, a5⟩ := id h
    have tb := tk_bd (T := T) (n := n) s
    rw [if_pos g, fI_eq (kd_70 hS), a5.1, show (0 : Int32) = iz 0 from rfl, ifQ (by omega) (by omega) (by omega) (by omega)]
    by_cases e : s < n
    · have tn : ¬ tk T n s = 0 := by
        unfold tk; rw [if_pos e]; split
        · omega
        · split <;> omega
      have hc : cont n (.inr s) = true := decide_eq_true e
      obtain ⟨M1, e1, f1, h2, d2⟩ := mRdLn ht h g hd hk c0 (by omega)
      obtain ⟨M2, e2, f2, h3⟩ := mSign ht h2
      rw [if_neg tn, cv_eq (kd_70 hS), e1, e2, bV_eq, nm_eq, show iz c + 1 = iz (c + 1) from iz_add _ 1]
      match r with
      | 0 => omega
      | r + 1 =>
        have ea : aLp T n (r + 1) D (.inr s) c = aLp T n r (aLn T n D (.inr s)).1 (oSg T n 59 (aLn T n D (.inr s)).2) (c + 1) := by rw [aLp, if_pos hc]
        rw [ea]
        obtain ⟨M3, e3, f3, h4, d4⟩ := mLoop ht r f (c + 1) M2 (aLn T n D (.inr s)).1 (oSg T n 59 (aLn T n D (.inr s)).2) h3 (fun q => by
          obtain ⟨q1, q2⟩ := mo_S 59 _ q
          have q3 := (mo_l (T := T) (n := n) (o := .inr s) (D := D) q1).2
          have q4 : pos (.inr s : Lo) = s := rfl
          rw [q4] at q3
          exact ⟨(d2 q1).b f2, ln_ok hk q1, by omega⟩) (by omega) (by omega) (by omega)
        exact ⟨M3, e3, f1.trans ((BM80 f2).trans f3), h4, d4⟩
    · have tn : tk T n s = 0 := by unfold tk; rw [if_neg e]
      have hc : ¬ cont n (.inr s) = true := fun q => e (cont_gd q).2
      rw [if_pos tn, aLp_no r c hc]
      exact ⟨M, rfl, Fr.refl M, h, fun _ => hd⟩
theorem mWrl (ht : TxO T n) (h : MSt T n M o) (hz : rI M 70 10 = iz 0 ∧ rI M 70 12 = iz 0 ∧ rI M 70 9 = iz 0 ∧ rI M 70 23 = iz 0) : ∃ M', F_Md_readLine 70 0 M = some (none, M') ∧ Fr B80 M M' ∧ MSt T n M' (w5 T n o) ∧ (gd (w5 T n o) = true → MD M' (wD T n o)) := by
  have hS := h.x.1
  have fg := fu_ge
  obtain ⟨f0, hf0⟩ : ∃ f0, fu = f0 + 1 + 1 + 1 + 1 := ⟨fu - 4, by omega⟩
  obtain ⟨M1, e1, f1, h1⟩ := mNeed ht h (k' := 20) (k := 0) (by omega) rfl
  have stp : ∀ (M : am_M) (o : Lo) (i : Int), MSt T n M o → 0 ≤ i → i < 3 → ∃ v M2, (∀ X : am_M → am_R, fR M 70 13 8 (fun b17 => cv M 70 13 ( bI (F_Md_number 70 1 40 M) (fun r19 M18 => tI M18 b17 (iz i) r19 X))) = X M2) ∧ Fr (fun b j => BM b j ∨ (b = 74 ∧ j = i.toNat)) M M2 ∧ MSt T n M2 (oNum T n 1 40 o) ∧ (gd (oNum T n 1 40 o) = true → v = iz (oV T n o)) ∧ rI M2 74 i.toNat = v := fun M o i h i0 i1 => by
    have hS := h.x.1
    obtain ⟨v, M2, e2, f2, h2, v2⟩ := mNmb ht h (lo := 1) (hi := 40) (by omega) (by omega) (by omega) (by omega)
    have S2 := h2.x.1
    refine ⟨v, wI M2 74 i.toNat v, fun X => ?_, (f2.mono (fun b j q => Or.inl q)).trans (Fr.wI (Or.inr ⟨rfl, rfl⟩)), h2.f (Fr.wI (A := fun b _ => b = 74) rfl) (fun b j q => by omega), fun q => (v2 q).1, by rw [rI_at rfl rfl]⟩
    rw [fR_eq (kd_70 hS) (rr_70_8 hS), cv_eq (kd_70 hS), show F_Md_number 70 1 40 M = _ from e2, bI_eq, tI_eq (kd_74 S2) (ln_74 S2) (by omega) (by omega) (by omega)]
  obtain ⟨v2, M2, e2, f2, h2, w2, z2⟩ := stp M1 _ 0 h1 (by omega) (by omega)
  obtain ⟨v3, M3, e3, f3, h3, w3, z3⟩ := stp M2 _ 1 h2 (by omega) (by omega)
  obtain ⟨v4, M4, e4, f4, h4, w4, z4⟩ := stp M3 _ 2 h3 (by omega) (by omega)
  obtain ⟨M5, e5, f5, h5⟩ := mSign ht h4
  unfold F_Md_readLine
  rw [if_pos rfl, cv_eq (kd_70 hS), show F_Md_passes 70 120 M = _ from e1, bV_eq, hf0, F_Md_readLine_L12, if_neg (by decide)]
  rw [show (0 : Int32) = iz 0 from rfl, e2 (fun M7 => nm (iz 0 + 1) (fun x8 => F_Md_readLine_L12 (f0 + 1 + 1 + 1) 70 x8 M7)), nm_eq, show iz 0 + 1 = iz 1 from rfl, F_Md_readLine_L12, if_neg (by decide)]
  rw [e3 (fun M7 => nm (iz 1 + 1) (fun x8 => F_Md_readLine_L12 (f0 + 1 + 1) 70 x8 M7)), nm_eq, show iz 1 + 1 = iz 2 from rfl, F_Md_readLine_L12, if_neg (by decide)]
  rw [e4 (fun M7 => nm (iz 2 + 1) (fun x8 => F_Md_readLine_L12 (f0 + 1) 70 x8 M7)), nm_eq, show iz 2 + 1 = iz 3 from rfl, F_Md_readLine_L12, if_pos (by decide), e5]
  have fx : ∀ (i : Int), 0 ≤ i → i < 3 → ∀ b j, (BM b j ∨ (b = 74 ∧ j = i.toNat)) → B80 b j := fun i i0 i1 b j q => by unfold BM at q; unfold B80; omega
  refine ⟨M5, rfl, (BM80 f1).trans ((f2.mono (fx 0 (by omega) (by omega))).trans ((f3.mono (fx 1 (by omega) (by omega))).trans ((f4.mono (fx 2 (by omega) (by omega))).trans (BM80 f5)))), h5, fun g => ?_⟩
  have g4 := gp_S g
  have g3 := gp_num g4
  have g2 := gp_num g3
  have e8 : ∀ j, (j = 9 ∨ j = 10 ∨ j = 12 ∨ j = 23) → rI M5 70 j = rI M 70 j := fun j q1 => by
    rw [f5.ri (fun q => by unfold BM at q; omega), f4.ri (fun q => by unfold BM at q; omega), f3.ri (fun q => by unfold BM at q; omega), f2.ri (fun q => by unfold BM at q; omega), f1.ri (fun q => by unfold BM at q; omega)]
  obtain ⟨y4, y5, y6, y7⟩ := hz
  refine ⟨fun i i0 i1 => ?_, fun k f q1 q2 q3 q4 => ?_, fun k f q1 q2 q3 q4 => ?_, by rw [e8 _ (by omega), y4]; rfl, by rw [e8 _ (by omega), y5]; rfl, by rw [e8 _ (by omega), y6]; rfl, by rw [e8 _ (by omega), y7]; rfl⟩
  · show _ = iz (wW T n o i)
    rcases (show i = 0 ∨ i = 1 ∨ i = 2 by omega) with q | q | q
    · rw [q, f5.ri (fun q => by unfold BM at q; omega), f4.ri (fun q => by unfold BM at q; omega), f3.ri (fun q => by unfold BM at q; omega), z2]; exact w2 g2
    · rw [q, f5.ri (fun q => by unfold BM at q; omega), f4.ri (fun q => by unfold BM at q; omega), z3]; exact w3 g3
    · rw [q, f5.ri (fun q => by unfold BM at q; omega), z4]; exact w4 g4
  · have : k < 0 := q2
    omega
  · have : k < 0 := q2
    omega
theorem mRead (ht : TxO T n) (hS : SH M) (h15 : rI M 70 15 = iz (n : Int)) (hx : ∀ i, i < n → BY (rI M 77 i) (T i)) : ∃ v M', F_Md_scene 70 M = F_Md_scene_L95 70 v M' ∧ Fr (fun b j => B80 b j ∨ (b = 70 ∧ (j = 15 ∨ j = 16))) M M' ∧ MSt T n M' (fin T n).2.1 ∧ (gd (fin T n).2.1 = true → v = iz (fin T n).2.2 ∧ MD M' (fin T n).1) ∧ rI M' 70 15 = iz 0 := by
  have h500 := ht.1
  have fg := fu_ge
  obtain ⟨f0, hf0⟩ : ∃ f0, fu = f0 + 1 := ⟨fu - 1, by omega⟩
  unfold F_Md_scene
  rw [fI_eq (kd_70 hS), h15, sI_eq (kd_70 hS), sI_eq (kd_70 hS.wI), sI_eq (kd_70 hS.wI.wI), sI_eq (kd_70 hS.wI.wI.wI), sI_eq (kd_70 hS.wI.wI.wI.wI), sI_eq (kd_70 hS.wI.wI.wI.wI.wI), sI_eq (kd_70 hS.wI.wI.wI.wI.wI.wI), sI_eq (kd_70 hS.wI.wI.wI.wI.wI.wI.wI), sI_eq (kd_70 hS.wI.wI.wI.wI.wI.wI.wI.wI), cv_eq (kd_70 hS.wI.wI.wI.wI.wI.wI.wI.wI.wI)]
  have f3 : Fr (fun b j => B80 b j ∨ (b = 70 ∧ (j = 15 ∨ j = 16))) M (wI (wI (wI (wI (wI (wI (wI (wI (wI M 70 16 (iz (n : Int))) 70 15 0) 70 17 0) 70 21 0) 70 22 (-1)) 70 9 0) 70 10 0) 70 12 0) 70 23 0) := (Fr.wI (by unfold B80; omega)).trans ((Fr.wI (by unfold B80; omega)).trans ((Fr.wI (by unfold B80; omega)).trans ((Fr.wI (by unfold B80; omega)).trans ((Fr.wI (by unfold B80; omega)).trans ((Fr.wI (by unfold B80; omega)).trans ((Fr.wI (by unfold B80; omega)).trans ((Fr.wI (by unfold B80; omega)).trans (Fr.wI (by unfold B80; omega)))))))))
  have y16 : rI (wI (wI (wI (wI (wI (wI (wI (wI (wI M 70 16 (iz (n : Int))) 70 15 0) 70 17 0) 70 21 0) 70 22 (-1)) 70 9 0) 70 10 0) 70 12 0) 70 23 0) 70 16 = iz (n : Int) := by simp only [rI_wI]; rfl
  have y15 : rI (wI (wI (wI (wI (wI (wI (wI (wI (wI M 70 16 (iz (n : Int))) 70 15 0) 70 17 0) 70 21 0) 70 22 (-1)) 70 9 0) 70 10 0) 70 12 0) 70 23 0) 70 15 = iz 0 := by simp only [rI_wI]; rfl
  have y17 : rI (wI (wI (wI (wI (wI (wI (wI (wI (wI M 70 16 (iz (n : Int))) 70 15 0) 70 17 0) 70 21 0) 70 22 (-1)) 70 9 0) 70 10 0) 70 12 0) 70 23 0) 70 17 = iz ((0 : Nat) : Int) := by simp only [rI_wI]; rfl
  have y21 : rI (wI (wI (wI (wI (wI (wI (wI (wI (wI M 70 16 (iz (n : Int))) 70 15 0) 70 17 0) 70 21 0) 70 22 (-1)) 70 9 0) 70 10 0) 70 12 0) 70 23 0) 70 21 = iz 0 := by simp only [rI_wI]; rfl
  have y22 : rI (wI (wI (wI (wI (wI (wI (wI (wI (wI M 70 16 (iz (n : Int))) 70 15 0) 70 17 0) 70 21 0) 70 22 (-1)) 70 9 0) 70 10 0) 70 12 0) 70 23 0) 70 22 = iz (-1) := by simp only [rI_wI]; rfl
  have yz : rI (wI (wI (wI (wI (wI (wI (wI (wI (wI M 70 16 (iz (n : Int))) 70 15 0) 70 17 0) 70 21 0) 70 22 (-1)) 70 9 0) 70 10 0) 70 12 0) 70 23 0) 70 10 = iz 0 ∧ rI (wI (wI (wI (wI (wI (wI (wI (wI (wI M 70 16 (iz (n : Int))) 70 15 0) 70 17 0) 70 21 0) 70 22 (-1)) 70 9 0) 70 10 0) 70 12 0) 70 23 0) 70 12 = iz 0 ∧ rI (wI (wI (wI (wI (wI (wI (wI (wI (wI M 70 16 (iz (n : Int))) 70 15 0) 70 17 0) 70 21 0) 70 22 (-1)) 70 9 0) 70 10 0) 70 12 0) 70 23 0) 70 9 = iz 0 ∧ rI (wI (wI (wI (wI (wI (wI (wI (wI (wI M 70 16 (iz (n : Int))) 70 15 0) 70 17 0) 70 21 0) 70 22 (-1)) 70 9 0) 70 10 0) 70 12 0) 70 23 0) 70 23 = iz 0 := by
    refine ⟨?_, ?_, ?_, ?_⟩ <;> · simp only [rI_wI]; rfl
  generalize wI (wI (wI (wI (wI (wI (wI (wI (wI M 70 16 (iz (n : Int))) 70 15 0) 70 17 0) 70 21 0) 70 22 (-1)) 70 9 0) 70 10 0) 70 12 0) 70 23 0 = M3 at f3 y16 y15 y17 y21 y22 yz ⊢
  have S3 := hS.fr f3
  have c3 : RdM T n M3 := ⟨S3, y16, fun i hi => by rw [f3.ri (fun q => by unfold B80 at q; omega)]; exact hx i hi⟩
  obtain ⟨M4, e4, f4, l4⟩ := mAdv' ht c3 (p := 0) (by omega) y17
  have s0 : sk T n 0 ≤ n := (stop_le (by omega)).2
  have h4 : MSt T n M4 (.inr (sk T n 0)) := ⟨c3.f7 f4, s0, by rw [f4.ri (fun q => by unfold B7 at q; omega)]; exact y21, by rw [f4.ri (fun q => by unfold B7 at q; omega)]; exact y22, l4⟩
  have S4 := h4.x.1
  have tb := tk_bd (T := T) (n := n) (sk T n 0)
  have f34 : Fr (fun b j => B80 b j ∨ (b = 70 ∧ (j = 15 ∨ j = 16))) M M4 := f3.trans (f4.mono (fun b j q => by unfold B7 at q; unfold B80; omega))
  rw [e4, bV_eq, fI_eq (kd_70 S4), l4.1]
  by_cases e : sk T n 0 < n
  · have tn : ¬ tk T n (sk T n 0) = 0 := by
      unfold tk; rw [if_pos e]; split
      · omega
      · split <;> omega
    have tz : ¬ iz (tk T n (sk T n 0)) = 0 := fun q => tn ((iz_eq (by omega) (by omega) (by omega) (by omega)).mp q)
    have z4 : rI M4 70 10 = iz 0 ∧ rI M4 70 12 = iz 0 ∧ rI M4 70 9 = iz 0 ∧ rI M4 70 23 = iz 0 := by
      obtain ⟨a1, a2, a3, a4⟩ := yz
      exact ⟨by rw [f4.ri (fun q => by unfold B7 at q; omega)]; exact a1, by rw [f4.ri (fun q => by unfold B7 at q; omega)]; exact a2, by rw [f4.ri (fun q => by unfold B7 at q; omega)]; exact a3, by rw [f4.ri (fun q => by unfold B7 at q; omega)]; exact a4⟩
    obtain ⟨M5, e5, f5, h5, d5⟩ := mWrl ht h4 z4
    rw [if_neg tz, hf0, F_Md_scene_L70, cv_eq (kd_70 S4), mGd h4, bI_eq, bz_if0, if_pos (gd_r _), fI_eq (kd_70 S4), l4.1, if_neg tz, cv_eq (kd_70 S4), e5, bV_eq, nm_eq, show (0 : Int32) + 1 = iz 1 from rfl]
    obtain ⟨M6, e6, f6, h6, d6⟩ := mLoop ht n f0 1 M5 (wD T n (.inr (sk T n 0))) (w5 T n (.inr (sk T n 0))) h5 (fun q => ⟨d5 q, wOK q, by omega⟩) (by omega) (by omega) (by omega)
    refine ⟨_, M6, e6, f34.trans ((f5.mono (fun b j q => Or.inl q)).trans (f6.mono (fun b j q => Or.inl q))), h6, fun q => ⟨rfl, d6 q⟩, ?_⟩
    rw [f6.ri (fun q => by unfold B80 at q; omega), f5.ri (fun q => by unfold B80 at q; omega), f4.ri (fun q => by unfold B7 at q; omega)]
    exact y15
  · have tn : tk T n (sk T n 0) = 0 := by unfold tk; rw [if_neg e]
    obtain ⟨M5, e5, f5, h5⟩ := mErr h4 (f := 1) (by omega) (by omega)
    have nw : ¬ oW T n 0 (.inr (sk T n 0)) = true := fun q => by
      have := (of_decide_eq_true q).1
      omega
    have ew1 : w1 T n (.inr (sk T n 0)) = oFail 1 (.inr (sk T n 0)) := if_neg nw
    have ew5 : w5 T n (.inr (sk T n 0)) = oFail 1 (.inr (sk T n 0)) := by unfold w5 w4 w3 w2; rw [ew1]; rfl
    have ef : (fin T n).2.1 = oFail 1 (.inr (sk T n 0)) := by
      unfold fin
      rw [ew5, aLp_no n 1 (fun q => by cases q)]
    rw [ef, if_pos (show iz (tk T n (sk T n 0)) = 0 by rw [tn]; rfl), fI_eq (kd_70 S4), cv_eq (kd_70 S4), show F_Md_errs 70 1 (rI M4 70 18) M4 = _ from e5, bV_eq, hf0, F_Md_scene_L70, cv_eq (kd_70 h5.x.1), mGd h5, bI_eq, bz_if0, if_neg (fun q => by cases q)]
    refine ⟨_, M5, rfl, f34.trans (f5.mono (fun b j q => by unfold BM at q; unfold B80; omega)), h5, (fun q => by cases q), ?_⟩
    rw [f5.ri (fun q => by unfold BM at q; omega), f4.ri (fun q => by unfold B7 at q; omega)]
    exact y15
end Mrd
