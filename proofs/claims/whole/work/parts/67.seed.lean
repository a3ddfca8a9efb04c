/-! ===== seed ===== -/
theorem wI_same {M : am_M} {a k : Nat} {v : Int32} (h : rI M a k = v) : wI M a k v = M := by
  have e : am_up M.2.2.2.1 a k v = M.2.2.2.1 := by
    funext b j
    unfold am_up
    split
    · rename_i q
      rw [q.1, q.2]
      exact h.symm
    · rfl
  unfold wI
  rw [e]
theorem His.push {M M' : am_M} {S S' : Sc} (hN : sNk S' = sNk S) {n : Nat} (hn : n ≤ 10) (old : ∀ i, i < n → hs1 M S i) (e1 : rI M' 12 3 = iz ((n - shf n + 1 : Nat) : Int)) (e2 : rI M' 70 24 = iz ((n - shf n + 1 : Nat) : Int)) (mv : ∀ b i, (b = 13 ∨ b = 14 ∨ b = 15 ∨ b = 78 ∨ b = 79) → i < n - shf n → rI M' b i = rI M b (i + shf n)) (nw : hs1 M' S' (n - shf n)) : His M' S' := by
  have sb : shf n ≤ 1 ∧ (n = 10 → shf n = 1) := by unfold shf; split <;> omega
  refine ⟨n - shf n + 1, by omega, e1, e2, fun i hi => ?_⟩
  by_cases g : i = n - shf n
  · rw [g]; exact nw
  · have := old (i + shf n) (by omega)
    unfold hs1 at this ⊢
    rw [mv 15 i (by omega) (by omega), mv 79 i (by omega) (by omega), mv 13 i (by omega) (by omega), mv 78 i (by omega) (by omega), mv 14 i (by omega) (by omega), hN]
    exact this
def setS (S : Sc) (a : Int) : Sc := (sW S, sK S, sQ S, sNk S, sNs S, a)
theorem setS_ok {S : Sc} (h : scOK S) {a : Int} (h1 : 0 ≤ a) (h2 : a ≤ 999999) : scOK (setS S a) := ⟨h.1, h.2.1, h.2.2.1, ⟨h1, h2⟩, h.2.2.2.2.1, h.2.2.2.2.2⟩
section Seed
variable {M : am_M}
theorem ap_seed (h : Inv M) (p : Int32) : Ag (F_NS_seed 0 p) (F_Md_seed 70 p) M := by
  obtain ⟨hS, -⟩ := id h
  obtain ⟨S, st, s01, s1, s2, hc, hm, hb, h1, -⟩ := h.sc
  obtain ⟨a, a1, a2, rfl⟩ := iz_of p
  rcases s01 with rfl | rfl
  · refine Ag.p h (v := -2) ?_ ?_
    · unfold F_NS_seed; rw [fR_eq (kd_0 hS) (rr_0_2 hS), fI_eq (kd_2 hS), s1, if_pos (by decide)]
    · unfold F_Md_seed; rw [fI_eq (kd_70 hS), s2, if_pos (by decide)]
  obtain ⟨hk, -, -, -, -, ⟨n, n1, n2, n3, n4⟩, -⟩ := h1 rfl
  have sd := hb.2.2.1
  have em : ∀ M', SH M' → rI M' 70 1 = iz 1 → rI M' 70 3 = iz (sSd S) → F_Md_seed 70 (iz a) M' = if 0 ≤ a ∧ a ≤ 999999 then (if sSd S = a then some (some (.int (iz (sSd S))), wI M' 70 3 (iz a)) else bV (F_Md_keeps 70 (iz (-1)) (iz (sSd S)) M') (fun M6 => sI M6 70 13 3 (iz a) (fun M7 => some (some (.int (iz (sSd S))), M7)))) else some (some (.int (-2)), M') := fun M' h' q1 q2 => by
    unfold F_Md_seed
    rw [fI_eq (kd_70 h'), q1, if_neg (by decide), show (0 : Int64) = jz 0 from rfl, show (999999 : Int64) = jz 999999 from rfl, mInL a 0 999999 a1 a2 (by omega) (by omega) (by omega) (by omega), bI_eq, bz_if0, fI_eq (kd_70 h'), q2, ifQ (by omega) (by omega) a1 a2, sI_eq (kd_70 h'), cv_eq (kd_70 h')]
    rfl
  have ec : F_NS_seed 0 (iz a) M = if a < 0 then some (some (.int (-2)), M) else if a ≤ 999999 then (if a = sSd S then some (some (.int (iz (sSd S))), M) else bV (F_Hist_remember 12 (iz (-1)) (iz 0) (iz (sSd S)) M) (fun M6 => fR M6 0 12 2 (fun b7 => sI M6 b7 9 5 (iz a) (fun M8 => fR M8 0 12 7 (fun b9 => cv M8 b9 5 ( bV (F_Fram_forget b9 M8) (fun M10 => some (some (.int (iz (sSd S))), M10)))))))) else some (some (.int (-2)), M) := by
    unfold F_NS_seed
    rw [fR_eq (kd_0 hS) (rr_0_2 hS), fI_eq (kd_2 hS), s1, if_neg (by decide), show (0 : Int32) = iz 0 from rfl, show (999999 : Int32) = iz 999999 from rfl, show (-1 : Int32) = iz (-1) from rfl, ifL a1 a2 (by omega) (by omega), ifE a1 a2 (by omega) (by omega), fR_eq (kd_0 hS) (rr_0_2 hS), fI_eq (kd_2 hS), hc.2.2.2.2.2, ifQ a1 a2 (by omega) (by omega), fR_eq (kd_0 hS) (rr_0_4 hS), cv_eq (kd_12 hS)]
  by_cases g : 0 ≤ a ∧ a ≤ 999999
  rotate_left
  · refine Ag.p h (v := -2) ?_ (by rw [em M hS s2 hm.2.2.2.2.2, if_neg g])
    rw [ec]
    by_cases g1 : a < 0
    · rw [if_pos g1]
    · rw [if_neg g1, if_neg (by omega)]
  by_cases g2 : a = sSd S
  · refine Ag.p h (v := iz (sSd S)) (by rw [ec, if_neg (by omega), if_pos (by omega), if_pos g2]) ?_
    rw [em M hS s2 hm.2.2.2.2.2, if_pos g, if_pos g2.symm, wI_same (by rw [hm.2.2.2.2.2, g2])]
  obtain ⟨M1, u1, f1, r1, r2, r3, r4, r5⟩ := cRem hS n1 n2 (iz (-1)) (iz 0) (iz (sSd S))
  have hS1 := hS.fr f1
  have g1' : Fr AS M M1 := f1.mono (fun b j q => by unfold AHc at q; unfold AS; omega)
  have g2' := g1'.trans (Fr.wI (k := 5) (v := iz a) (show AS 2 _ by unfold AS; omega))
  have hS2 := hS.fr g2'
  have g3' := g2'.trans (Fr.wI (k := 6) (v := -1) (show AS 45 _ by unfold AS; omega))
  have hS3 := hS.fr g3'
  have z3 : ∀ b j, ¬ (12 ≤ b ∧ b ≤ 15) → ¬ (b = 2 ∧ j = 5) → ¬ (b = 45 ∧ j = 6) → rI (wI (wI M1 2 5 (iz a)) 45 6 (-1)) b j = rI M b j := fun b j q1 q2 q3 => by
    rw [rI_ne (by omega), rI_ne (by omega), f1.ri (fun q => by unfold AHc at q; omega)]
  obtain ⟨M4, u4, f4, t1, t2, t3, t4⟩ := mKeep hS3 n1 (by rw [z3 _ _ (by omega) (by omega) (by omega)]; exact n3) (iz (-1)) (iz (sSd S))
  have g4' := g3'.trans (f4.mono (B := AS) (fun b j q => by unfold AHm at q; unfold AS; omega))
  have hS4 := hS.fr g4'
  have g5' := g4'.trans (Fr.wI (k := 3) (v := iz a) (show AS 70 _ by unfold AS; omega))
  have z4 : ∀ b j, ¬ (b = 78 ∨ b = 79 ∨ (b = 70 ∧ (j = 3 ∨ j = 24))) → rI (wI M4 70 3 (iz a)) b j = rI (wI (wI M1 2 5 (iz a)) 45 6 (-1)) b j := fun b j q => by
    rw [rI_ne (by omega), f4.ri (fun w => by unfold AHm at w; omega)]
  refine ⟨iz (sSd S), wI (wI M1 2 5 (iz a)) 45 6 (-1), wI M4 70 3 (iz a), ?_, ?_, h.s g5' ⟨setS S a, setS_ok hk g.1 g.2, ?_, ?_, ?_, ?_, ?_, ?_⟩⟩
  · unfold F_Fram_forget at ec
    rw [ec, if_neg (by omega), if_pos (by omega), if_neg g2, u1, bV_eq, fR_eq (kd_0 hS1) (rr_0_2 hS1), sI_eq (kd_2 hS1), fR_eq (kd_0 hS2) (rr_0_7 hS2), cv_eq (kd_45 hS2), sI_eq (kd_45 hS2), bV_eq]
  · rw [em _ hS3 (by rw [z3 _ _ (by omega) (by omega) (by omega)]; exact s2) (by rw [z3 _ _ (by omega) (by omega) (by omega)]; exact hm.2.2.2.2.2), if_pos g, if_neg (fun q => g2 q.symm), u4, bV_eq, sI_eq (kd_70 hS4)]
  · rw [z4 _ _ (by omega), z3 _ _ (by omega) (by omega) (by omega)]; exact s1
  · rw [z4 _ _ (by omega), z3 _ _ (by omega) (by omega) (by omega)]; exact s2
  · obtain ⟨w1, w2, w3, w4, w5, w6⟩ := hc
    refine ⟨fun i q1 q2 => ?_, fun k f q1 q2 q3 q4 => ?_, fun k f q1 q2 q3 q4 => ?_, ?_, ?_, ?_⟩
    · rw [z4 _ _ (by omega), z3 _ _ (by omega) (by omega) (by omega)]; exact w1 i q1 q2
    · rw [z4 _ _ (by omega), z3 _ _ (by omega) (by omega) (by omega)]; exact w2 k f q1 q2 q3 q4
    · rw [z4 _ _ (by omega), z3 _ _ (by omega) (by omega) (by omega)]; exact w3 k f q1 q2 q3 q4
    · rw [z4 _ _ (by omega), z3 _ _ (by omega) (by omega) (by omega)]; exact w4
    · rw [z4 _ _ (by omega), z3 _ _ (by omega) (by omega) (by omega)]; exact w5
    · rw [z4 _ _ (by omega), rI_ne (by omega), rI_at rfl rfl]; rfl
  · obtain ⟨w1, w2, w3, w4, w5, w6⟩ := hm
    refine ⟨fun i q1 q2 => ?_, fun k f q1 q2 q3 q4 => ?_, fun k f q1 q2 q3 q4 => ?_, ?_, ?_, ?_⟩
    · rw [z4 _ _ (by omega), z3 _ _ (by omega) (by omega) (by omega)]; exact w1 i q1 q2
    · rw [z4 _ _ (by omega), z3 _ _ (by omega) (by omega) (by omega)]; exact w2 k f q1 q2 q3 q4
    · rw [z4 _ _ (by omega), z3 _ _ (by omega) (by omega) (by omega)]; exact w3 k f q1 q2 q3 q4
    · rw [z4 _ _ (by omega), z3 _ _ (by omega) (by omega) (by omega)]; exact w4
    · rw [z4 _ _ (by omega), z3 _ _ (by omega) (by omega) (by omega)]; exact w5
    · rw [rI_at rfl rfl]; rfl
  · refine His.push (M := M) (S := S) rfl n1 n4 ?_ ?_ ?_ ?_
    · rw [z4 _ _ (by omega), rI_ne (by omega), rI_ne (by omega)]; exact r1
    · rw [rI_ne (by omega)]; exact t1
    · intro b i hb hi
      rcases hb with rfl | rfl | rfl | rfl | rfl
      · rw [z4 _ _ (by omega), rI_ne (by omega), rI_ne (by omega)]; exact r2 _ i (by omega) (by omega) hi
      · rw [z4 _ _ (by omega), rI_ne (by omega), rI_ne (by omega)]; exact r2 _ i (by omega) (by omega) hi
      · rw [z4 _ _ (by omega), rI_ne (by omega), rI_ne (by omega)]; exact r2 _ i (by omega) (by omega) hi
      · rw [rI_ne (by omega), t2 _ i (by omega) hi]; exact z3 _ _ (by omega) (by omega) (by omega)
      · rw [rI_ne (by omega), t2 _ i (by omega) hi]; exact z3 _ _ (by omega) (by omega) (by omega)
    · refine ⟨sSd S, ?_, ?_, Or.inl ⟨?_, ?_, sd.1, sd.2⟩⟩
      · rw [z4 _ _ (by omega), rI_ne (by omega), rI_ne (by omega)]; exact r5
      · rw [rI_ne (by omega)]; exact t4
      · rw [z4 _ _ (by omega), rI_ne (by omega), rI_ne (by omega)]; exact r3
      · rw [rI_ne (by omega)]; exact t3
  · refine Or.inl ?_
    rw [z4 _ _ (by omega), rI_at rfl rfl]; rfl
end Seed
