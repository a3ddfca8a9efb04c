/-! ===== the component reads a text ===== -/
section WorldA
variable (T : Nat → Int) (n : Nat)
def w1 (o : Lo) : Lo := oN T n 0 o
def w2 (o : Lo) : Lo := oNum T n 1 40 (w1 T n o)
def w3 (o : Lo) : Lo := oNum T n 1 40 (w2 T n o)
def w4 (o : Lo) : Lo := oNum T n 1 40 (w3 T n o)
def w5 (o : Lo) : Lo := oSg T n 59 (w4 T n o)
def wW (o : Lo) (i : Int) : Int := if i = 0 then oV T n (w1 T n o) else if i = 1 then oV T n (w2 T n o) else oV T n (w3 T n o)
def wD (o : Lo) : Dr := ((wW T n o, fun _ _ => 0, fun _ _ => 0, 0, 0, 0), false)
end WorldA
def CD (M : am_M) (D : Dr) : Prop := (∀ i, 0 ≤ i → i < 3 → rI M 8 i.toNat = iz (sW D.1 i)) ∧ (∀ k f, 0 ≤ k → k < 5 → 0 ≤ f → f < 8 → rI M 9 (k * 8 + f).toNat = iz (sK D.1 k f)) ∧ (∀ s f, 0 ≤ s → s < 4 → 0 ≤ f → f < 10 → rI M 10 (s * 10 + f).toNat = iz (sQ D.1 s f)) ∧ rI M 7 3 = iz (sNk D.1) ∧ rI M 7 4 = iz (sNs D.1) ∧ rI M 7 5 = iz (sSd D.1) ∧ rI M 7 6 = bz (D.2 = true)
def A10 (b j : Nat) : Prop := 6 ≤ b ∧ b ≤ 10
section Rd
variable {T : Nat → Int} {n : Nat} {M : am_M} {o : Lo} {D : Dr}
theorem CD.f {A : Nat → Nat → Prop} {M' : am_M} (h : CD M D) (hf : Fr A M M') (hA : ∀ b j, A b j → ¬ (7 ≤ b ∧ b ≤ 10)) : CD M' D := by
  obtain ⟨h1, h2, h3, h4, h5, h6, h7⟩ := h
  have e : ∀ b j, 7 ≤ b → b ≤ 10 → rI M' b j = rI M b j := fun b j q1 q2 => hf.ri (fun q => by have := hA b j q; omega)
  exact ⟨fun i q1 q2 => by rw [e 8 _ (by omega) (by omega)]; exact h1 i q1 q2, fun k f q1 q2 q3 q4 => by rw [e 9 _ (by omega) (by omega)]; exact h2 k f q1 q2 q3 q4, fun k f q1 q2 q3 q4 => by rw [e 10 _ (by omega) (by omega)]; exact h3 k f q1 q2 q3 q4, by rw [e 7 _ (by omega) (by omega)]; exact h4, by rw [e 7 _ (by omega) (by omega)]; exact h5, by rw [e 7 _ (by omega) (by omega)]; exact h6, by rw [e 7 _ (by omega) (by omega)]; exact h7⟩
theorem AC10 {M' : am_M} (h : Fr AC6 M M') : Fr A10 M M' := h.mono (fun b j q => by unfold AC6 at q; unfold A10; omega)
theorem cSeed (ht : TxO T n) (h : CSt T n M o) (g : gd o = true) (hd : CD M D) : ∃ M', F_Read_readSeed 6 M = some (none, M') ∧ Fr A10 M M' ∧ CSt T n M' (if D.2 = true then oFail 3 o else oNum T n 0 999999 (oA T n o)) ∧ (gd (if D.2 = true then oFail 3 o else oNum T n 0 999999 (oA T n o)) = true → CD M' (if D.2 = true then D else dSeed D (oV T n (oA T n o)))) := by
  have hS := h.x.1
  unfold F_Read_readSeed
  rw [fR_eq (kd_6 hS) (rr_6_0 hS), fI_eq (kd_7 hS), hd.2.2.2.2.2.2, bz_if0, cv_eq (kd_6 hS), cv_eq (kd_6 hS)]
  by_cases t : D.2 = true
  · obtain ⟨M1, e1, f1, h1⟩ := cFail h (f := 3) (by omega) (by omega)
    rw [if_pos t, if_pos t, if_pos t, show F_Read_fail 6 3 M = _ from e1, bV_eq]
    exact ⟨M1, rfl, AC10 f1, h1, fun _ => hd.f f1 (fun b j q => by unfold AC6 at q; omega)⟩
  · obtain ⟨M1, e1, f1, h1⟩ := cGo ht h g
    have S1 := h1.x.1
    have f2 : Fr A10 M1 (wI M1 7 6 1) := Fr.wI ⟨by omega, by omega⟩
    have h2 : CSt T n (wI M1 7 6 1) (oA T n o) := h1.f (Fr.wI (A := fun b _ => b = 7) rfl) (fun b j q => by omega)
    have S2 := h2.x.1
    obtain ⟨v, M3, e3, f3, h3, v3⟩ := cNmb ht h2 (lo := 0) (hi := 999999) (by omega) (by omega) (by omega) (by omega)
    have S3 := h3.x.1
    rw [if_neg t, if_neg t, if_neg t, e1, bV_eq, fR_eq (kd_6 S1) (rr_6_0 S1), sI_eq (kd_7 S1), fR_eq (kd_6 S2) (rr_6_0 S2), cv_eq (kd_6 S2), show F_Read_needNumber 6 0 999999 (wI M1 7 6 1) = _ from e3, bI_eq, sI_eq (kd_7 S3)]
    refine ⟨_, rfl, (AC10 f1).trans (f2.trans ((AC10 f3).trans (Fr.wI ⟨by omega, by omega⟩))), h3.f (Fr.wI (A := fun b _ => b = 7) rfl) (fun b j q => by omega), fun q => ?_⟩
    have d1 := hd.f f1 (fun b j q => by unfold AC6 at q; omega)
    obtain ⟨a1, a2, a3, a4, a5, a6, a7⟩ := d1
    have e : ∀ b j, (b = 7 → j ≠ 6) → (b = 7 → j ≠ 5) → b ≠ 6 → rI (wI M3 7 5 v) b j = rI M1 b j := fun b j z1 z2 z3 => by
      rw [rI_ne (by omega), f3.ri (fun q => by unfold AC6 at q; omega), rI_ne (by omega)]
    refine ⟨fun i q1 q2 => by rw [e _ _ (by omega) (by omega) (by omega)]; exact a1 i q1 q2, fun k f q1 q2 q3 q4 => by rw [e _ _ (by omega) (by omega) (by omega)]; exact a2 k f q1 q2 q3 q4, fun k f q1 q2 q3 q4 => by rw [e _ _ (by omega) (by omega) (by omega)]; exact a3 k f q1 q2 q3 q4, by rw [e _ _ (by omega) (by omega) (by omega)]; exact a4, by rw [e _ _ (by omega) (by omega) (by omega)]; exact a5, ?_, ?_⟩
    · rw [rI_at rfl rfl, (v3 q).1]; rfl
    · rw [rI_ne (by omega), f3.ri (fun q => by unfold AC6 at q; omega), rI_at rfl rfl]; rfl
theorem cLn (ht : TxO T n) (h : CSt T n M o) (g : gd o = true) (hd : CD M D) (hk : scOK D.1) : ∃ M', (∀ X : am_M → am_R, cv M 6 8 ( bI (F_Read_isWord 6 101 M) (fun r18 M17 => if r18 = 0 then (cv M17 6 8 ( bI (F_Read_isWord 6 102 M17) (fun r20 M19 => if r20 = 0 then (cv M19 6 8 ( bI (F_Read_isWord 6 113 M19) (fun r22 M21 => if r22 = 0 then (cv M21 6 8 ( bV (F_Read_fail 6 1 M21) X)) else (cv M21 6 8 ( bV (F_Read_readSource 6 M21) X))))) else (cv M19 6 8 ( bV (F_Read_readKind 6 M19) X))))) else (cv M17 6 8 ( bV (F_Read_readSeed 6 M17) X)))) = X M') ∧ Fr A10 M M' ∧ CSt T n M' (aLn T n D o).2 ∧ (gd (aLn T n D o).2 = true → CD M' (aLn T n D o).1) := by
  have hS := h.x.1
  obtain ⟨k1, k2, k3, k4, k5, k6⟩ := id hk
  have i1 : F_Read_isWord 6 101 M = _ := cIsW ht h (k := 1) (by omega)
  have i2 : F_Read_isWord 6 102 M = _ := cIsW ht h (k := 2) (by omega)
  have i3 : F_Read_isWord 6 113 M = _ := cIsW ht h (k := 13) (by omega)
  unfold aLn
  by_cases g1 : oW T n 1 o = true
  · obtain ⟨M1, e1, f1, h1, d1⟩ := cSeed ht h g hd
    rw [if_pos g1]
    refine ⟨M1, fun X => by rw [cv_eq (kd_6 hS), i1, bI_eq, bz_if0, if_pos g1, cv_eq (kd_6 hS), e1, bV_eq], f1, ?_⟩
    by_cases t : D.2 = true
    · rw [if_pos t] at h1 d1 ⊢; rw [if_pos t] at d1; exact ⟨h1, d1⟩
    · rw [if_neg t] at h1 d1 ⊢; rw [if_neg t] at d1; exact ⟨h1, d1⟩
  rw [if_neg g1]
  by_cases g2 : oW T n 2 o = true
  · rw [if_pos g2]
    by_cases c5 : sNk D.1 = 5
    · obtain ⟨M1, e1, f1, h1⟩ := cFail h (f := 3) (by omega) (by omega)
      rw [if_pos c5]
      have e2 : F_Read_readKind 6 M = some (none, M1) := by
        unfold F_Read_readKind
        rw [fR_eq (kd_6 hS) (rr_6_0 hS), fI_eq (kd_7 hS), hd.2.2.2.1, show (5 : Int32) = iz 5 from rfl, ifL (by omega) (by omega) (by omega) (by omega), if_neg (by omega), cv_eq (kd_6 hS), show F_Read_fail 6 3 M = _ from e1, bV_eq]
      exact ⟨M1, fun X => by rw [cv_eq (kd_6 hS), i1, bI_eq, bz_if0, if_neg g1, cv_eq (kd_6 hS), i2, bI_eq, bz_if0, if_pos g2, cv_eq (kd_6 hS), e2, bV_eq], AC10 f1, h1, fun _ => hd.f f1 (fun b j q => by unfold AC6 at q; omega)⟩
    · obtain ⟨M1, e1, f1, h1, r1, n1⟩ := cKnd ht h g (k := sNk D.1) (by omega) (by omega) hd.2.2.2.1
      rw [if_neg c5]
      refine ⟨M1, fun X => by rw [cv_eq (kd_6 hS), i1, bI_eq, bz_if0, if_neg g1, cv_eq (kd_6 hS), i2, bI_eq, bz_if0, if_pos g2, cv_eq (kd_6 hS), e1, bV_eq], f1.mono (fun b j q => by unfold AK AC6 at q; unfold A10; omega), h1, fun q => ?_⟩
      obtain ⟨a1, a2, a3, a4, a5, a6, a7⟩ := hd
      have e : ∀ b j, 7 ≤ b → b ≤ 10 → b ≠ 9 → (b = 7 → j ≠ 3) → rI M1 b j = rI M b j := fun b j z1 z2 z3 z4 => f1.ri (fun q => by unfold AK AC6 at q; omega)
      refine ⟨fun i q1 q2 => by rw [e _ _ (by omega) (by omega) (by omega) (by omega)]; exact a1 i q1 q2, fun k f q1 q2 q3 q4 => ?_, fun k f q1 q2 q3 q4 => by rw [e _ _ (by omega) (by omega) (by omega) (by omega)]; exact a3 k f q1 q2 q3 q4, n1, by rw [e _ _ (by omega) (by omega) (by omega) (by omega)]; exact a5, by rw [e _ _ (by omega) (by omega) (by omega) (by omega)]; exact a6, by rw [e _ _ (by omega) (by omega) (by omega) (by omega)]; exact a7⟩
      show _ = iz (if k = sNk D.1 then kF T n o f else sK D.1 k f)
      by_cases ek : k = sNk D.1
      · rw [if_pos ek, ek]; exact r1 q f q3 q4
      · rw [if_neg ek, f1.ri (fun q => by unfold AK AC6 at q; omega)]; exact a2 k f q1 q2 q3 q4
  rw [if_neg g2]
  by_cases g3 : oW T n 13 o = true
  · rw [if_pos g3]
    by_cases c4 : sNs D.1 = 4
    · obtain ⟨M1, e1, f1, h1⟩ := cFail h (f := 3) (by omega) (by omega)
      rw [if_pos c4]
      have e2 : F_Read_readSource 6 M = some (none, M1) := by
        unfold F_Read_readSource
        rw [fR_eq (kd_6 hS) (rr_6_0 hS), fI_eq (kd_7 hS), hd.2.2.2.2.1, show (4 : Int32) = iz 4 from rfl, ifL (by omega) (by omega) (by omega) (by omega), if_neg (by omega), cv_eq (kd_6 hS), show F_Read_fail 6 3 M = _ from e1, bV_eq]
      exact ⟨M1, fun X => by rw [cv_eq (kd_6 hS), i1, bI_eq, bz_if0, if_neg g1, cv_eq (kd_6 hS), i2, bI_eq, bz_if0, if_neg g2, cv_eq (kd_6 hS), i3, bI_eq, bz_if0, if_pos g3, cv_eq (kd_6 hS), e2, bV_eq], AC10 f1, h1, fun _ => hd.f f1 (fun b j q => by unfold AC6 at q; omega)⟩
    · obtain ⟨M1, e1, f1, h1, r1, n1⟩ := cSrc ht h g (s := sNs D.1) (nk := sNk D.1) (W := sW D.1) (by omega) (by omega) (by omega) (by omega) hd.2.2.2.2.1 hd.2.2.2.1 (fun i i0 i1 => ⟨hd.1 i i0 i1, k1 i i0 i1⟩)
      rw [if_neg c4]
      refine ⟨M1, fun X => by rw [cv_eq (kd_6 hS), i1, bI_eq, bz_if0, if_neg g1, cv_eq (kd_6 hS), i2, bI_eq, bz_if0, if_neg g2, cv_eq (kd_6 hS), i3, bI_eq, bz_if0, if_pos g3, cv_eq (kd_6 hS), e1, bV_eq], f1.mono (fun b j q => by unfold AQ AC6 at q; unfold A10; omega), h1, fun q => ?_⟩
      obtain ⟨a1, a2, a3, a4, a5, a6, a7⟩ := hd
      have e : ∀ b j, 7 ≤ b → b ≤ 10 → b ≠ 10 → (b = 7 → j ≠ 4) → rI M1 b j = rI M b j := fun b j z1 z2 z3 z4 => f1.ri (fun q => by unfold AQ AC6 at q; omega)
      refine ⟨fun i q1 q2 => by rw [e _ _ (by omega) (by omega) (by omega) (by omega)]; exact a1 i q1 q2, fun k f q1 q2 q3 q4 => by rw [e _ _ (by omega) (by omega) (by omega) (by omega)]; exact a2 k f q1 q2 q3 q4, fun k f q1 q2 q3 q4 => ?_, by rw [e _ _ (by omega) (by omega) (by omega) (by omega)]; exact a4, n1, by rw [e _ _ (by omega) (by omega) (by omega) (by omega)]; exact a6, by rw [e _ _ (by omega) (by omega) (by omega) (by omega)]; exact a7⟩
      show _ = iz (if k = sNs D.1 then qF T n (sNk D.1) (sW D.1) o f else sQ D.1 k f)
      by_cases ek : k = sNs D.1
      · rw [if_pos ek, ek]; exact r1 q f q3 q4
      · rw [if_neg ek, f1.ri (fun q => by unfold AQ AC6 at q; omega)]; exact a3 k f q1 q2 q3 q4
  · obtain ⟨M1, e1, f1, h1⟩ := cFail h (f := 1) (by omega) (by omega)
    have e1' : F_Read_fail 6 1 M = some (none, M1) := e1
    rw [if_neg g3]
    exact ⟨M1, fun X => by rw [cv_eq (kd_6 hS), i1, bI_eq, bz_if0, if_neg g1, cv_eq (kd_6 hS), i2, bI_eq, bz_if0, if_neg g2, cv_eq (kd_6 hS), i3, bI_eq, bz_if0, if_neg g3, cv_eq (kd_6 hS), e1', bV_eq], AC10 f1, h1, fun _ => hd.f f1 (fun b j q => by unfold AC6 at q; omega)⟩
theorem CSt.le (h : CSt T n M o) (g : gd o = true) : pos o ≤ n := by
  rcases o with q | s
  · cases g
  · exact h.2.1
theorem cLoop (ht : TxO T n) : ∀ (r f : Nat) (c i : Int) (M : am_M) (D : Dr) (o : Lo), CSt T n M o → (gd o = true → CD M D ∧ scOK D.1 ∧ n ≤ r + pos o ∧ i < (pos o : Int)) → 0 ≤ i → i + r ≤ 2000 → r < f → 0 ≤ c → c + r ≤ 2000 → ∃ M', F_Read_read_L50 f 6 (iz c) (iz i) M = some (some (.int (if gd (aLp T n r D o c).2.1 = true then iz (aLp T n r D o c).2.2 else -1)), M') ∧ Fr A10 M M' ∧ CSt T n M' (aLp T n r D o c).2.1 ∧ (gd (aLp T n r D o c).2.1 = true → CD M' (aLp T n r D o c).1 ∧ scOK (aLp T n r D o c).1.1)
  | r, 0, c, i, M, D, o, h, hg, i0, i1, h1, c0, c1 => by omega
  | r, f + 1, c, i, M, D, o, h, hg, i0, i1, h1, c0, c1 => by
    have hS := h.x.1
    have h500 := ht.1
    rw [F_Read_read_L50, fI_eq (kd_6 hS), show (500 : Int32) = iz 500 from rfl, ifE (by omega) (by omega) (by omega) (by omega)]
    by_cases g : gd o = true
    rotate_left
    · have nc : ¬ cont n o = true := fun q => g (cont_gd q).1
      rw [aLp_no r c nc, if_neg g]
      rcases o with ⟨fl, p⟩ | s
      · obtain ⟨-, a2, a3, a4⟩ := id h
        refine ⟨M, ?_, Fr.refl M, h, fun q => absurd q g⟩
        by_cases z : 500 ≤ i
        · rw [if_pos z, a3, show (0 : Int32) = iz 0 from rfl, ifQ (by omega) (by omega) (by omega) (by omega), if_neg (show ¬ fl = 0 by omega)]
        · rw [if_neg z, fI_eq (kd_6 hS), a3, show (0 : Int32) = iz 0 from rfl, ifQ (by omega) (by omega) (by omega) (by omega), if_neg (show ¬ fl = 0 by omega), ifQ (by omega) (by omega) (by omega) (by omega), if_neg (show ¬ fl = 0 by omega)]
      · exact absurd rfl g
    obtain ⟨hd, hk, hr, hi⟩ := hg g
    have pl := h.le g
    rcases o with ⟨fl, p⟩ | s
    · cases g
    have pl' : s ≤ n := pl
    have hi' : i < (s : Int) := hi
    have hr' : n ≤ r + s := hr
    obtain ⟨a1, a2, a3, a4, a5⟩ := id h
    have tb := tk_bd (T := T) (n := n) s
    rw [if_neg (by omega), fI_eq (kd_6 hS), a3, if_pos (show iz 0 = 0 from rfl), fI_eq (kd_6 hS), a5.1, show (0 : Int32) = iz 0 from rfl, ifQ (by omega) (by omega) (by omega) (by omega), if_pos (show iz 0 = iz 0 from rfl)]
    by_cases e : s < n
    · have tn : ¬ tk T n s = 0 := by
        unfold tk; rw [if_pos e]; split
        · omega
        · split <;> omega
      have hc : cont n (.inr s) = true := decide_eq_true e
      obtain ⟨M1, e1, f1, h2, d2⟩ := cLn ht h g hd hk
      obtain ⟨M2, e2, f2, h3⟩ := cSign ht h2 (c := 59) (by omega) (by omega)
      have S1 := h2.x.1
      rw [if_neg tn, show (iz 0 : Int32) = 0 from rfl, e1 (fun M35 => cv M35 6 8 ( bV (F_Read_needSign 6 59 M35) (fun M36 => nm (iz c + 1) (fun x37 => nm (iz i + 1) (fun x38 => F_Read_read_L50 f 6 x37 x38 M36)))))]
      rw [cv_eq (kd_6 S1), show F_Read_needSign 6 59 M1 = _ from e2, bV_eq, nm_eq, nm_eq, show iz c + 1 = iz (c + 1) from iz_add _ 1, show iz i + 1 = iz (i + 1) from iz_add _ 1]
      match r with
      | 0 => omega
      | r + 1 =>
        have ea : aLp T n (r + 1) D (.inr s) c = aLp T n r (aLn T n D (.inr s)).1 (oSg T n 59 (aLn T n D (.inr s)).2) (c + 1) := by rw [aLp, if_pos hc]
        rw [ea]
        obtain ⟨M3, e3, f3, h4, d4⟩ := cLoop ht r f (c + 1) (i + 1) M2 (aLn T n D (.inr s)).1 (oSg T n 59 (aLn T n D (.inr s)).2) h3 (fun q => by
          obtain ⟨q1, q2⟩ := mo_S 59 _ q
          have q3 := (mo_l (T := T) (n := n) (o := .inr s) (D := D) q1).2
          have q4 : pos (.inr s : Lo) = s := rfl
          rw [q4] at q3
          exact ⟨(d2 q1).f f2 (fun b j q => by unfold AC6 at q; omega), ln_ok hk q1, by omega, by omega⟩) (by omega) (by omega) (by omega) (by omega) (by omega)
        exact ⟨M3, e3, f1.trans ((AC10 f2).trans f3), h4, d4⟩
    · have tn : tk T n s = 0 := by unfold tk; rw [if_neg e]
      have hc : ¬ cont n (.inr s) = true := fun q => e (cont_gd q).2
      rw [if_pos tn, aLp_no r c hc, if_pos g]
      exact ⟨M, rfl, Fr.refl M, h, fun _ => ⟨hd, hk⟩⟩
end Rd
