/-! ===== sets ===== -/
def setK (S : Sc) (k w v : Int) : Sc := (sW S, fun k' w' => if k' = k ∧ w' = w then v else sK S k' w', sQ S, sNk S, sNs S, sSd S)
theorem setK_o {S : Sc} {k w v k' w' : Int} (h : ¬ (k' = k ∧ w' = w)) : sK (setK S k w v) k' w' = sK S k' w' := if_neg h
theorem setK_i {S : Sc} {k w v : Int} : sK (setK S k w v) k w = v := if_pos ⟨rfl, rfl⟩
theorem setK_ok {S : Sc} (h : scOK S) {k w v : Int} (hr : hsR w v) : scOK (setK S k w v) := by
  refine ⟨h.1, h.2.1, h.2.2.1, h.2.2.2.1, fun k' q1 q2 => ?_, h.2.2.2.2.2⟩
  obtain ⟨y0, y1, y2, y3, y4, y5, y6⟩ := h.2.2.2.2.1 k' q1 q2
  have e : ∀ w', 5 ≤ w' → sK (setK S k w v) k' w' = sK S k' w' := fun w' q => setK_o (fun z => by unfold hsR at hr; omega)
  rw [e 5 (by omega), e 6 (by omega), e 7 (by omega)]
  have f : ∀ w', (k' = k ∧ w' = w ∧ sK (setK S k w v) k' w' = v) ∨ (¬ (k' = k ∧ w' = w) ∧ sK (setK S k w v) k' w' = sK S k' w') := fun w' => by
    by_cases z : k' = k ∧ w' = w
    · exact Or.inl ⟨z.1, z.2, by rw [z.1, z.2]; exact setK_i⟩
    · exact Or.inr ⟨z, setK_o z⟩
  unfold hsR at hr
  refine ⟨?_, ?_, ?_, ?_, ?_, y5, y6⟩
  · rcases f 0 with ⟨_, z, e⟩ | ⟨_, e⟩ <;> rw [e] <;> omega
  · rcases f 1 with ⟨_, z, e⟩ | ⟨_, e⟩ <;> rw [e] <;> omega
  · rcases f 2 with ⟨_, z, e⟩ | ⟨_, e⟩ <;> rw [e] <;> omega
  · rcases f 3 with ⟨_, z, e⟩ | ⟨_, e⟩ <;> rw [e] <;> omega
  · rcases f 4 with ⟨_, z, e⟩ | ⟨_, e⟩ <;> rw [e] <;> omega
def loW (w : Int) : Int := if w = 0 ∨ w = 4 then 1 else if w = 3 then -9 else 0
def hiW (w : Int) : Int := if w = 0 then 40 else if w = 3 ∨ w = 4 then 9 else 20
theorem lo_hi (w : Int) : -9 ≤ loW w ∧ loW w ≤ 1 ∧ 9 ≤ hiW w ∧ hiW w ≤ 40 := by
  unfold loW hiW
  repeat' split
  all_goals omega
theorem hsR_of {w v : Int} (h1 : 0 ≤ w) (h2 : w ≤ 4) (h3 : loW w ≤ v) (h4 : v ≤ hiW w) : hsR w v := by
  unfold loW at h3
  unfold hiW at h4
  unfold hsR
  rcases (show w = 0 ∨ w = 1 ∨ w = 2 ∨ w = 3 ∨ w = 4 by omega) with rfl | rfl | rfl | rfl | rfl <;> simp at h3 h4 ⊢ <;> omega
theorem xLo {w : Int} (h1 : 0 ≤ w) (h2 : w ≤ 4) (f : Int32 → am_R) : xI 2 (iz w) f = f (iz (loW w)) := by
  rcases (show w = 0 ∨ w = 1 ∨ w = 2 ∨ w = 3 ∨ w = 4 by omega) with rfl | rfl | rfl | rfl | rfl <;> (unfold xI; rw [if_pos (by decide)]; rfl)
theorem xHi {w : Int} (h1 : 0 ≤ w) (h2 : w ≤ 4) (f : Int32 → am_R) : xI 3 (iz w) f = f (iz (hiW w)) := by
  rcases (show w = 0 ∨ w = 1 ∨ w = 2 ∨ w = 3 ∨ w = 4 by omega) with rfl | rfl | rfl | rfl | rfl <;> (unfold xI; rw [if_pos (by decide)]; rfl)
section Sets
variable {M : am_M}
theorem mSets52 (k w v : Int32) (b : Int) (w1 : -2147483648 ≤ b) (w2 : b < 2147483648) (hw : w = iz b) : F_Md_sets 70 k w v M = F_Md_sets_L52 70 k w v (iz (loW b)) (iz (hiW b)) M := by
  subst hw
  unfold F_Md_sets F_Md_sets_L9 F_Md_sets_L24 F_Md_sets_L45 loW hiW
  rw [show (-9 : Int32) = iz (-9) from rfl, show (0 : Int32) = iz 0 from rfl, show (4 : Int32) = iz 4 from rfl, show (3 : Int32) = iz 3 from rfl, show (1 : Int32) = iz 1 from rfl, show (40 : Int32) = iz 40 from rfl, show (9 : Int32) = iz 9 from rfl, show (20 : Int32) = iz 20 from rfl]
  have e0 : iz b = iz 0 ↔ b = 0 := iz_eq w1 w2 (by omega) (by omega)
  have e3 : iz b = iz 3 ↔ b = 3 := iz_eq w1 w2 (by omega) (by omega)
  have e4 : iz b = iz 4 ↔ b = 4 := iz_eq w1 w2 (by omega) (by omega)
  by_cases q0 : b = 0
  · rw [if_pos (e0.mpr q0), if_pos (e0.mpr q0), if_pos (Or.inl q0), if_pos q0]
  · have n0 : ¬ iz b = iz 0 := fun z => q0 (e0.mp z)
    by_cases q4 : b = 4
    · have n3 : ¬ iz b = iz 3 := fun z => by have := e3.mp z; omega
      rw [if_neg n0, if_pos (e4.mpr q4), if_neg n0, if_neg n3, if_pos (e4.mpr q4), if_pos (Or.inr q4), if_neg q0, if_pos (Or.inr q4)]
    · have n4 : ¬ iz b = iz 4 := fun z => q4 (e4.mp z)
      by_cases q3 : b = 3
      · rw [if_neg n0, if_neg n4, if_pos (e3.mpr q3), if_neg n0, if_pos (e3.mpr q3), if_neg (by omega), if_pos q3, if_neg q0, if_pos (Or.inl q3)]
      · have n3 : ¬ iz b = iz 3 := fun z => q3 (e3.mp z)
        rw [if_neg n0, if_neg n4, if_neg n3, if_neg n0, if_neg n3, if_neg n4, if_neg (by omega), if_neg q3, if_neg q0, if_neg (by omega)]
theorem ap_sets (h : Inv M) (p1 p2 p3 : Int32) : Ag (F_NS_sets 0 p1 p2 p3) (F_Md_sets 70 p1 p2 p3) M := by
  obtain ⟨hS, -⟩ := id h
  obtain ⟨S, st, s01, s1, s2, hc, hm, hb, h1, h0⟩ := h.sc
  obtain ⟨k, k1, k2, rfl⟩ := iz_of p1
  obtain ⟨w, w1, w2, rfl⟩ := iz_of p2
  obtain ⟨v, v1, v2, rfl⟩ := iz_of p3
  have nk := hb.1
  have lh := lo_hi w
  have em : ∀ M', SH M' → rI M' 70 4 = iz (sNk S) → F_Md_sets 70 (iz k) (iz w) (iz v) M' = if 0 ≤ k ∧ k ≤ sNk S - 1 then (if 0 ≤ w ∧ w ≤ 4 then (if loW w ≤ v ∧ v ≤ hiW w then (aI M' 72 (iz (8 * k + w)) (fun x10 => if x10 = iz v then (tI M' 72 (iz (8 * k + w)) (iz v) (fun M12 => some (some (.int x10), M12))) else (bV (F_Md_keeps 70 (iz (8 * k + w)) x10 M') (fun M13 => fR M13 70 13 5 (fun b14 => tI M13 b14 (iz (8 * k + w)) (iz v) (fun M15 => some (some (.int x10), M15))))))) else some (some (.int (-99)), M')) else some (some (.int (-99)), M')) else some (some (.int (-99)), M') := fun M' h' q1 => by
    rw [mSets52 _ _ _ w w1 w2 rfl]
    unfold F_Md_sets_L52
    rw [fI_eq (kd_70 h'), q1, show (1 : Int32) = iz 1 from rfl, iz_sub, mIn k _ k1 k2 (by omega) (by omega), bI_eq, bz_if0, show (0 : Int64) = jz 0 from rfl, show (4 : Int64) = jz 4 from rfl, mInL w 0 4 w1 w2 (by omega) (by omega) (by omega) (by omega), bI_eq, bz_if0, jz_i2l (a := loW w) (by omega) (by omega), jz_i2l (a := hiW w) (by omega) (by omega), mInL v _ _ v1 v2 (by omega) (by omega) (by omega) (by omega), bI_eq, bz_if0, nm_eq, show (8 : Int32) = iz 8 from rfl, iz_mul, iz_add, fR_eq (kd_70 h') (rr_70_5 h')]
    simp only [fR_eq (kd_70 h') (rr_70_5 h'), cv_eq (kd_70 h')]
  have ec : F_NS_sets 0 (iz k) (iz w) (iz v) M = if 0 ≤ k ∧ k < sNk S then (if 0 ≤ w ∧ w ≤ 4 then (if loW w ≤ v ∧ v ≤ hiW w then (if v = sK S k w then some (some (.int (iz (sK S k w))), M) else (bV (F_Hist_remember 12 (iz k) (iz w) (iz (sK S k w)) M) (fun M10 => fR M10 0 12 2 (fun b11 => cv M10 b11 9 ( bV (F_Scen_setKind b11 (iz k) (iz w) (iz v) M10) (fun M12 => fR M12 0 12 7 (fun b13 => cv M12 b13 5 ( bV (F_Fram_forget b13 M12) (fun M14 => some (some (.int (iz (sK S k w))), M14)))))))))) else some (some (.int (-99)), M)) else some (some (.int (-99)), M)) else some (some (.int (-99)), M) := by
    unfold F_NS_sets
    rw [fR_eq (kd_0 hS) (rr_0_2 hS), cv_eq (kd_2 hS), cIsK hS hc nk k1 k2, bI_eq, bz_if0]
    by_cases g1 : 0 ≤ k ∧ k < sNk S
    rotate_left
    · rw [if_neg g1, if_neg g1]
    have hk : scOK S := by
      rcases s01 with q | q
      · rw [h0 q] at g1; exact absurd g1.2 (by show ¬ k < 0; omega)
      · exact (h1 q).1
    rw [if_pos g1, if_pos g1, show (0 : Int32) = iz 0 from rfl, show (4 : Int32) = iz 4 from rfl, ifL w1 w2 (by omega) (by omega), ifE w1 w2 (by omega) (by omega)]
    by_cases g2 : 0 ≤ w ∧ w ≤ 4
    rotate_left
    · rw [if_neg g2]
      by_cases g3 : w < 0
      · rw [if_pos g3]
      · rw [if_neg g3, if_neg (by omega)]
    obtain ⟨y0, y1, y2, y3, y4, y5, y6⟩ := hk.2.2.2.2.1 k g1.1 g1.2
    have yb : -100 ≤ sK S k w ∧ sK S k w ≤ 100 := by
      rcases (show w = 0 ∨ w = 1 ∨ w = 2 ∨ w = 3 ∨ w = 4 by omega) with rfl | rfl | rfl | rfl | rfl <;> omega
    rw [if_neg (by omega), if_pos g2.2, if_pos g2, xLo g2.1 g2.2, ifL v1 v2 (by omega) (by omega), xHi g2.1 g2.2, ifE v1 v2 (by omega) (by omega), fR_eq (kd_0 hS) (rr_0_2 hS), cv_eq (kd_2 hS), cK hS hc g1.1 (by omega) g2.1 (by omega), bI_eq, ifQ v1 v2 (by omega) (by omega), fR_eq (kd_0 hS) (rr_0_4 hS), cv_eq (kd_12 hS)]
    by_cases g3 : v < loW w
    · rw [if_pos g3, if_neg (show ¬ (loW w ≤ v ∧ v ≤ hiW w) by omega)]
    · by_cases g4 : v ≤ hiW w
      · rw [if_neg g3, if_pos g4, if_pos (show loW w ≤ v ∧ v ≤ hiW w by omega)]
      · rw [if_neg g3, if_neg g4, if_neg (show ¬ (loW w ≤ v ∧ v ≤ hiW w) by omega)]
  have nk3 := hm.2.2.2.1
  by_cases g1 : 0 ≤ k ∧ k < sNk S
  rotate_left
  · exact Ag.p h (by rw [ec, if_neg g1]) (by rw [em M hS nk3, if_neg (by omega)])
  by_cases g2 : 0 ≤ w ∧ w ≤ 4
  rotate_left
  · exact Ag.p h (by rw [ec, if_pos g1, if_neg g2]) (by rw [em M hS nk3, if_pos (by omega), if_neg g2])
  by_cases g3 : loW w ≤ v ∧ v ≤ hiW w
  rotate_left
  · exact Ag.p h (by rw [ec, if_pos g1, if_pos g2, if_neg g3]) (by rw [em M hS nk3, if_pos (by omega), if_pos g2, if_neg g3])
  have st1 : st = 1 := by
    rcases s01 with q | q
    · rw [h0 q] at g1; exact absurd g1.2 (by show ¬ k < 0; omega)
    · exact q
  subst st1
  obtain ⟨hk, -, -, -, -, ⟨n, n1, n2, n3, n4⟩, -⟩ := h1 rfl
  obtain ⟨y0, y1, y2, y3, y4, y5, y6⟩ := hk.2.2.2.2.1 k g1.1 g1.2
  have yb : hsR w (sK S k w) := by
    unfold hsR
    rcases (show w = 0 ∨ w = 1 ∨ w = 2 ∨ w = 3 ∨ w = 4 by omega) with rfl | rfl | rfl | rfl | rfl <;> omega
  have yc : -100 ≤ sK S k w ∧ sK S k w ≤ 100 := by unfold hsR at yb; omega
  have hr := hsR_of g2.1 g2.2 g3.1 g3.2
  have mv : ∀ M', SH M' → rI M' 72 (8 * k + w).toNat = iz (sK S k w) → ∀ f : Int32 → am_R, aI M' 72 (iz (8 * k + w)) f = f (iz (sK S k w)) := fun M' h' e f => by
    rw [aI_eq (kd_72 h') (ln_72 h') (by omega) (by omega) (by omega), e]
  have m78 := hm.2.1 k w g1.1 g1.2 g2.1 (by omega)
  by_cases g4 : v = sK S k w
  · refine Ag.p h (v := iz (sK S k w)) (by rw [ec, if_pos g1, if_pos g2, if_pos g3, if_pos g4]) ?_
    rw [em M hS nk3, if_pos (by omega), if_pos g2, if_pos g3, mv M hS m78, if_pos (by rw [g4]), tI_eq (kd_72 hS) (ln_72 hS) (by omega) (by omega) (by omega), wI_same (by rw [m78, g4])]
  obtain ⟨M1, u1, f1, r1, r2, r3, r4, r5⟩ := cRem hS n1 n2 (iz k) (iz w) (iz (sK S k w))
  have hS1 := hS.fr f1
  have g1' : Fr AS M M1 := f1.mono (fun b j q => by unfold AHc at q; unfold AS; omega)
  have g2' := g1'.trans (Fr.wI (k := (k * 8 + w).toNat) (v := iz v) (show AS 4 _ by unfold AS; omega))
  have hS2 := hS.fr g2'
  have g3' := g2'.trans (Fr.wI (k := 6) (v := -1) (show AS 45 _ by unfold AS; omega))
  have hS3 := hS.fr g3'
  have z3 : ∀ b j, ¬ (12 ≤ b ∧ b ≤ 15) → ¬ (b = 4 ∧ j = (k * 8 + w).toNat) → ¬ (b = 45 ∧ j = 6) → rI (wI (wI M1 4 (k * 8 + w).toNat (iz v)) 45 6 (-1)) b j = rI M b j := fun b j q1 q2 q3 => by
    rw [rI_ne (by omega), rI_ne (by omega), f1.ri (fun q => by unfold AHc at q; omega)]
  obtain ⟨M4, u4, f4, t1, t2, t3, t4⟩ := mKeep hS3 n1 (by rw [z3 _ _ (by omega) (by omega) (by omega)]; exact n3) (iz (8 * k + w)) (iz (sK S k w))
  have g4' := g3'.trans (f4.mono (B := AS) (fun b j q => by unfold AHm at q; unfold AS; omega))
  have hS4 := hS.fr g4'
  have g5' := g4'.trans (Fr.wI (k := (8 * k + w).toNat) (v := iz v) (show AS 72 _ by unfold AS; omega))
  have z4 : ∀ b j, ¬ (b = 78 ∨ b = 79 ∨ (b = 70 ∧ j = 24) ∨ (b = 72 ∧ j = (8 * k + w).toNat)) → rI (wI M4 72 (8 * k + w).toNat (iz v)) b j = rI (wI (wI M1 4 (k * 8 + w).toNat (iz v)) 45 6 (-1)) b j := fun b j q => by
    rw [rI_ne (by omega), f4.ri (fun z => by unfold AHm at z; omega)]
  refine ⟨iz (sK S k w), wI (wI M1 4 (k * 8 + w).toNat (iz v)) 45 6 (-1), wI M4 72 (8 * k + w).toNat (iz v), ?_, ?_, h.s g5' ⟨setK S k w v, setK_ok hk hr, ?_, ?_, ?_, ?_, ?_, ?_⟩⟩
  · have sk := setKind_eq (SA_2 hS1) (v := iz v) g1.1 (show k < 5 by omega) g2.1 (show w < 8 by omega)
    unfold F_Fram_forget at ec
    rw [ec, if_pos g1, if_pos g2, if_pos g3, if_neg g4, u1, bV_eq, fR_eq (kd_0 hS1) (rr_0_2 hS1), cv_eq (kd_2 hS1), sk, bV_eq, fR_eq (kd_0 hS2) (rr_0_7 hS2), cv_eq (kd_45 hS2), sI_eq (kd_45 hS2), bV_eq]
  · rw [em _ hS3 (by rw [z3 _ _ (by omega) (by omega) (by omega)]; exact nk3), if_pos (by omega), if_pos g2, if_pos g3, mv _ hS3 (by rw [z3 _ _ (by omega) (by omega) (by omega)]; exact m78), if_neg (fun q => g4 ((iz_eq (by omega) (by omega) v1 v2).mp q).symm), u4, bV_eq, fR_eq (kd_70 hS4) (rr_70_5 hS4), tI_eq (kd_72 hS4) (ln_72 hS4) (by omega) (by omega) (by omega)]
  · rw [z4 _ _ (by omega), z3 _ _ (by omega) (by omega) (by omega)]; exact s1
  · rw [z4 _ _ (by omega), z3 _ _ (by omega) (by omega) (by omega)]; exact s2
  · obtain ⟨w1, w2, w3, w4, w5, w6⟩ := hc
    refine ⟨fun i q1 q2 => ?_, fun k' f q1 q2 q3 q4 => ?_, fun k' f q1 q2 q3 q4 => ?_, ?_, ?_, ?_⟩
    · rw [z4 _ _ (by omega), z3 _ _ (by omega) (by omega) (by omega)]; exact w1 i q1 q2
    · rw [z4 _ _ (by omega), rI_ne (by omega)]
      by_cases z : k' = k ∧ f = w
      · rw [z.1, z.2, rI_at rfl rfl, setK_i]
      · rw [rI_ne (by omega), f1.ri (fun q => by unfold AHc at q; omega), setK_o z]; exact w2 k' f q1 q2 q3 q4
    · rw [z4 _ _ (by omega), z3 _ _ (by omega) (by omega) (by omega)]; exact w3 k' f q1 q2 q3 q4
    · rw [z4 _ _ (by omega), z3 _ _ (by omega) (by omega) (by omega)]; exact w4
    · rw [z4 _ _ (by omega), z3 _ _ (by omega) (by omega) (by omega)]; exact w5
    · rw [z4 _ _ (by omega), z3 _ _ (by omega) (by omega) (by omega)]; exact w6
  · obtain ⟨w1, w2, w3, w4, w5, w6⟩ := hm
    refine ⟨fun i q1 q2 => ?_, fun k' f q1 q2 q3 q4 => ?_, fun k' f q1 q2 q3 q4 => ?_, ?_, ?_, ?_⟩
    · rw [z4 _ _ (by omega), z3 _ _ (by omega) (by omega) (by omega)]; exact w1 i q1 q2
    · by_cases z : k' = k ∧ f = w
      · rw [z.1, z.2, rI_at rfl rfl, setK_i]
      · rw [z4 _ _ (by omega), z3 _ _ (by omega) (by omega) (by omega), setK_o z]; exact w2 k' f q1 q2 q3 q4
    · rw [z4 _ _ (by omega), z3 _ _ (by omega) (by omega) (by omega)]; exact w3 k' f q1 q2 q3 q4
    · rw [z4 _ _ (by omega), z3 _ _ (by omega) (by omega) (by omega)]; exact w4
    · rw [z4 _ _ (by omega), z3 _ _ (by omega) (by omega) (by omega)]; exact w5
    · rw [z4 _ _ (by omega), z3 _ _ (by omega) (by omega) (by omega)]; exact w6
  · refine His.push (M := M) (S := S) rfl n1 n4 ?_ ?_ ?_ ?_
    · rw [z4 _ _ (by omega), rI_ne (by omega), rI_ne (by omega)]; exact r1
    · rw [rI_ne (by omega)]; exact t1
    · intro b i hb hi
      rcases hb with rfl | rfl | rfl | rfl | rfl
      · rw [z4 _ _ (by omega), rI_ne (by omega), rI_ne (by omega)]; exact r2 _ i (by omega) (by omega) hi
      · rw [z4 _ _ (by omega), rI_ne (by omega), rI_ne (by omega)]; exact r2 _ i (by omega) (by omega) hi
      · rw [z4 _ _ (by omega), rI_ne (by omega), rI_ne (by omega)]; exact r2 _ i (by omega) (by omega) hi
      · rw [rI_ne (by omega), t2 _ i (by omega) hi]; exact z3 _ _ (by omega) (by omega) (by omega)
      · rw [rI_ne (by omega), t2 _ i (by omega) hi]; exact z3 _ _ (by omega) (by omega) (by omega)
    · refine ⟨sK S k w, ?_, ?_, Or.inr ⟨k, w, g1.1, g1.2, ?_, ?_, ?_, yb⟩⟩
      · rw [z4 _ _ (by omega), rI_ne (by omega), rI_ne (by omega)]; exact r5
      · rw [rI_ne (by omega)]; exact t4
      · rw [z4 _ _ (by omega), rI_ne (by omega), rI_ne (by omega)]; exact r3
      · rw [z4 _ _ (by omega), rI_ne (by omega), rI_ne (by omega)]; exact r4
      · rw [rI_ne (by omega)]; exact t3
  · refine Or.inl ?_
    rw [z4 _ _ (by omega), rI_at rfl rfl]; rfl
end Sets
