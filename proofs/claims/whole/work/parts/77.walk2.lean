/-! ===== the walk: its start, the least root ===== -/
section Walk2
variable {M : am_M} {S : Sc}
def nxr (S : Sc) (a s : Int) : Int := if s < sNs S then buT S s (a - sQ S s 8 - spn S 0 (sQ S s 0)) * sQ S s 6 else 0
def byr (S : Sc) (b s : Int) : Int := if s < sNs S then buT S s (b - 1) * sQ S s 6 else 0
def A212 (b j : Nat) : Prop := b = 21 ∨ b = 22
/-- how the walk stands -/
def WKs (M : am_M) (S : Sc) (a b : Int) (N E : Int → Int) : Prop := SH M ∧ CS M S ∧ rI M 18 6 = iz a ∧ rI M 18 7 = iz b ∧ SPg M S 0 ∧ ∀ s, 0 ≤ s → s < 4 → rI M 21 s.toNat = iz (N s) ∧ rI M 22 s.toNat = iz (E s)
theorem cStL (hk : scOK S) {a b : Int} (a1 : -100 ≤ a) (a2 : a ≤ 40000) (b1 : 0 ≤ b) (b2 : b ≤ 40000) : ∀ (r n : Nat) (s : Int) (M : am_M), SH M → CS M S → SPg M S 0 → (∀ s', 0 ≤ s' → s' < s → rI M 21 s'.toNat = iz (nxr S a s') ∧ rI M 22 s'.toNat = iz (byr S b s')) → 0 ≤ s → s + r = 4 → r < n → ∃ M', F_Walk_start_L16 n 18 (iz a) (iz b) (iz s) M = some (none, M') ∧ Fr A212 M M' ∧ ∀ s', 0 ≤ s' → s' < 4 → rI M' 21 s'.toNat = iz (nxr S a s') ∧ rI M' 22 s'.toNat = iz (byr S b s')
  | r, 0, s, M, h, hc, hs, hp, q1, q2, q3 => by omega
  | 0, n + 1, s, M, h, hc, hs, hp, q1, q2, q3 => by
    refine ⟨M, ?_, Fr.refl M, fun s' c1 c2 => hp s' c1 (by omega)⟩
    rw [F_Walk_start_L16, show (4 : Int32) = iz 4 from rfl, ifE (by omega) (by omega) (by omega) (by omega), if_pos (by omega)]
  | r + 1, n + 1, s, M, h, hc, hs, hp, q1, q2, q3 => by
    have ns := hk.2.2.1
    have hd : F_Walk_start_L16 (n + 1) 18 (iz a) (iz b) (iz s) M = cv (wI (wI M 21 s.toNat (iz 0)) 22 s.toNat (iz 0)) 2 9 (bI (F_Scen_isSource 2 (iz s) (wI (wI M 21 s.toNat (iz 0)) 22 s.toNat (iz 0))) (fun r10 M9 => if r10 = 0 then (nm ((iz s) + 1) (fun x11 => F_Walk_start_L16 n 18 (iz a) (iz b) x11 M9)) else (fR M9 18 11 0 (fun b12 => cv M9 b12 9 ( bI (F_Scen_ofSource b12 (iz s) 6 M9) (fun r14 M13 => fR M13 18 11 0 (fun b15 => cv M13 b15 9 ( bI (F_Scen_ofSource b15 (iz s) 0 M13) (fun r17 M16 => cv M16 18 11 ( bI (F_Walk_spanOf 18 0 r17 M16) (fun r19 M18 => fR M18 18 11 3 (fun b20 => fR M18 18 11 0 (fun b21 => fR M18 18 11 0 (fun b22 => cv M18 b22 9 ( bI (F_Scen_ofSource b22 (iz s) 8 M18) (fun r24 M23 => cv M23 b21 9 ( bI (F_Scen_burstsUpTo b21 (iz s) (((iz a) - r24) - r19) M23) (fun r26 M25 => tI M25 b20 (iz s) (r26 * r14) (fun M27 => fR M27 18 11 4 (fun b28 => fR M27 18 11 0 (fun b29 => cv M27 b29 9 ( bI (F_Scen_burstsUpTo b29 (iz s) ((iz b) - 1) M27) (fun r31 M30 => tI M30 b28 (iz s) (r31 * r14) (fun M32 => nm ((iz s) + 1) (fun x33 => F_Walk_start_L16 n 18 (iz a) (iz b) x33 M32))))))))))))))))))))))))) := by
      rw [F_Walk_start_L16, show (4 : Int32) = iz 4 from rfl, ifE (by omega) (by omega) (by omega) (by omega), if_neg (by omega), fR_eq (kd_18 h) (rr_18_3 h), show (0 : Int32) = iz 0 from rfl, tI_eq (kd_21 h) (ln_21 h) (by omega) (by omega) (by omega)]
      have h1 : SH (wI M 21 s.toNat (iz 0)) := h.wI
      rw [fR_eq (kd_18 h1) (rr_18_4 h1), tI_eq (kd_22 h1) (ln_22 h1) (by omega) (by omega) (by omega)]
      have h2 : SH (wI (wI M 21 s.toNat (iz 0)) 22 s.toNat (iz 0)) := h1.wI
      rw [fR_eq (kd_18 h2) (rr_18_0 h2)]
    have f1 : Fr A212 M (wI (wI M 21 s.toNat (iz 0)) 22 s.toNat (iz 0)) := (Fr.wI (Or.inl rfl)).trans (Fr.wI (Or.inr rfl))
    have p1 : ∀ s', 0 ≤ s' → s' < s → rI (wI (wI M 21 s.toNat (iz 0)) 22 s.toNat (iz 0)) 21 s'.toNat = iz (nxr S a s') ∧ rI (wI (wI M 21 s.toNat (iz 0)) 22 s.toNat (iz 0)) 22 s'.toNat = iz (byr S b s') := fun s' c1 c2 => by
      rw [rI_ne (by omega), rI_ne (by omega), rI_ne (by omega), rI_ne (by omega)]; exact hp s' c1 c2
    have v1 : rI (wI (wI M 21 s.toNat (iz 0)) 22 s.toNat (iz 0)) 21 s.toNat = iz 0 ∧ rI (wI (wI M 21 s.toNat (iz 0)) 22 s.toNat (iz 0)) 22 s.toNat = iz 0 := by
      rw [rI_ne (by omega), rI_at rfl rfl, rI_at rfl rfl]; exact ⟨rfl, rfl⟩
    rw [hd]
    generalize wI (wI M 21 s.toNat (iz 0)) 22 s.toNat (iz 0) = M1 at f1 p1 v1 ⊢
    have h1 := h.fr f1
    have c1 := hc.fr f1 (fun b j q => by unfold A212 at q; omega)
    have s1 : SPg M1 S 0 := fun g' k z1 z2 z3 z4 z5 => by rw [f1.ri (fun q => by unfold A212 at q; omega)]; exact hs g' k z1 z2 z3 z4 z5
    rw [cv_eq (kd_2 h1), cIsS h1 c1 ns (by omega) (by omega), bI_eq, bz_if0]
    by_cases g : s < sNs S
    rotate_left
    · rw [if_neg (by omega), nm_eq, show (1 : Int32) = iz 1 from rfl, iz_add]
      obtain ⟨M', e1, e2, e3⟩ := cStL hk a1 a2 b1 b2 r n (s + 1) M1 h1 c1 s1 (fun s' c1 c2 => by
        by_cases e : s' = s
        · subst e
          unfold nxr byr
          rw [if_neg g, if_neg g]
          exact v1
        · exact p1 s' c1 (by omega)) (by omega) (by omega) (by omega)
      exact ⟨M', e1, f1.trans e2, e3⟩
    obtain ⟨z0, -, z4, z5, z6, z7, z8, z9⟩ := hk.2.2.2.2.2 s q1 g
    have bs := sp2_bd hk z0.1 z0.2
    have bb := sbh_bd hk 0 z0.1 z0.2
    have bsp : 0 ≤ spn S 0 (sQ S s 0) ∧ spn S 0 (sQ S s 0) ≤ 180 := by unfold spn; omega
    rw [if_pos (show 0 ≤ s ∧ s < sNs S from ⟨q1, g⟩), fR_eq (kd_18 h1) (rr_18_0 h1), cv_eq (kd_2 h1), show (6 : Int32) = iz 6 from rfl, show (0 : Int32) = iz 0 from rfl, show (8 : Int32) = iz 8 from rfl, show (1 : Int32) = iz 1 from rfl, cQ h1 c1 q1 (by omega) (by omega) (by omega), bI_eq, fR_eq (kd_18 h1) (rr_18_0 h1), cv_eq (kd_2 h1), cQ h1 c1 q1 (by omega) (by omega) (by omega), bI_eq, cv_eq (kd_18 h1), cSpanOf h1 hk s1 (by omega) (by omega) (by omega) z0.1 z0.2, bI_eq, fR_eq (kd_18 h1) (rr_18_3 h1), fR_eq (kd_18 h1) (rr_18_0 h1), fR_eq (kd_18 h1) (rr_18_0 h1), cv_eq (kd_2 h1), cQ h1 c1 q1 (by omega) (by omega) (by omega), bI_eq, cv_eq (kd_2 h1), iz_sub, iz_sub, cBursts h1 c1 hk q1 g (by omega) (by omega), bI_eq, iz_mul, tI_eq (kd_21 h1) (ln_21 h1) (by omega) (by omega) (by omega)]
    have en : buT S s (a - sQ S s 8 - spn S 0 (sQ S s 0)) * sQ S s 6 = nxr S a s := by unfold nxr; rw [if_pos g]
    have ey : buT S s (b - 1) * sQ S s 6 = byr S b s := by unfold byr; rw [if_pos g]
    rw [en]
    have f2 : Fr A212 M1 (wI M1 21 s.toNat (iz (nxr S a s))) := Fr.wI (Or.inl rfl)
    have v2 : rI (wI M1 21 s.toNat (iz (nxr S a s))) 21 s.toNat = iz (nxr S a s) := rI_at rfl rfl
    have p2 : ∀ s', 0 ≤ s' → s' < s → rI (wI M1 21 s.toNat (iz (nxr S a s))) 21 s'.toNat = iz (nxr S a s') ∧ rI (wI M1 21 s.toNat (iz (nxr S a s))) 22 s'.toNat = iz (byr S b s') := fun s' c1 c2 => by
      rw [rI_ne (by omega), rI_ne (by omega)]; exact p1 s' c1 c2
    generalize wI M1 21 s.toNat (iz (nxr S a s)) = M2 at f2 v2 p2 ⊢
    have h2 := h1.fr f2
    have c2 := c1.fr f2 (fun b j q => by unfold A212 at q; omega)
    rw [fR_eq (kd_18 h2) (rr_18_4 h2), fR_eq (kd_18 h2) (rr_18_0 h2), cv_eq (kd_2 h2), iz_sub, cBursts h2 c2 hk q1 g (by omega) (by omega), bI_eq, iz_mul, tI_eq (kd_22 h2) (ln_22 h2) (by omega) (by omega) (by omega), ey, nm_eq, iz_add]
    have f3 : Fr A212 M2 (wI M2 22 s.toNat (iz (byr S b s))) := Fr.wI (Or.inr rfl)
    have v3 : rI (wI M2 22 s.toNat (iz (byr S b s))) 22 s.toNat = iz (byr S b s) := rI_at rfl rfl
    have v4 : rI (wI M2 22 s.toNat (iz (byr S b s))) 21 s.toNat = iz (nxr S a s) := by rw [rI_ne (by omega)]; exact v2
    have p3 : ∀ s', 0 ≤ s' → s' < s → rI (wI M2 22 s.toNat (iz (byr S b s))) 21 s'.toNat = iz (nxr S a s') ∧ rI (wI M2 22 s.toNat (iz (byr S b s))) 22 s'.toNat = iz (byr S b s') := fun s' c1 c2 => by
      rw [rI_ne (by omega), rI_ne (by omega)]; exact p2 s' c1 c2
    generalize wI M2 22 s.toNat (iz (byr S b s)) = M3 at f3 v3 v4 p3 ⊢
    have h3 := h2.fr f3
    have c3 := c2.fr f3 (fun b j q => by unfold A212 at q; omega)
    have f13 := f2.trans f3
    obtain ⟨M', e1, e2, e3⟩ := cStL hk a1 a2 b1 b2 r n (s + 1) M3 h3 c3 (fun g' k z1 z2 z3 z4 z5 => by rw [f13.ri (fun q => by unfold A212 at q; omega)]; exact s1 g' k z1 z2 z3 z4 z5) (fun s' c1 c2 => by
      by_cases e : s' = s
      · subst e; exact ⟨v4, v3⟩
      · exact p3 s' c1 (by omega)) (by omega) (by omega) (by omega)
    exact ⟨M', e1, (f1.trans f13).trans e2, e3⟩
theorem A23_AWk (b j : Nat) (h : A23 b j) : AWk b j := by unfold A23 at h; unfold AWk; omega
theorem A212_AWk (b j : Nat) (h : A212 b j) : AWk b j := by unfold A212 at h; unfold AWk; omega
theorem cStart (h : SH M) (hc : CS M S) (hk : scOK S) {a b : Int} (a1 : -100 ≤ a) (a2 : a ≤ 40000) (b1 : 0 ≤ b) (b2 : b ≤ 40000) : ∃ M', F_Walk_start 18 (iz a) (iz b) M = some (none, M') ∧ Fr AWk M M' ∧ WKs M' S a b (nxr S a) (byr S b) := by
  have fg := fu_ge
  unfold F_Walk_start
  have A : ∀ b j, AWk b j → b < 2 ∨ 5 < b := fun b j q => by unfold AWk at q; omega
  rw [sI_eq (kd_18 h)]
  have h1 : SH (wI M 18 6 (iz a)) := h.wI
  rw [sI_eq (kd_18 h1)]
  have f2 : Fr AWk M (wI (wI M 18 6 (iz a)) 18 7 (iz b)) := (Fr.wI (by unfold AWk; omega)).trans (Fr.wI (by unfold AWk; omega))
  have va : rI (wI (wI M 18 6 (iz a)) 18 7 (iz b)) 18 6 = iz a := by rw [rI_ne (by omega), rI_at rfl rfl]
  have vb : rI (wI (wI M 18 6 (iz a)) 18 7 (iz b)) 18 7 = iz b := rI_at rfl rfl
  generalize wI (wI M 18 6 (iz a)) 18 7 (iz b) = M2 at f2 va vb ⊢
  have h2 := h.fr f2
  have c2 := hc.fr f2 A
  obtain ⟨M3, e3, f3, s3⟩ := cMeas h2 c2 hk
  have h3 := h2.fr f3
  have c3 := c2.fr f3 (fun b j q => by unfold A23 at q; omega)
  obtain ⟨M4, e4, f4, s4⟩ := cStL hk a1 a2 b1 b2 4 fu 0 M3 h3 c3 s3 (fun s' c1 c2 => by omega) (by omega) rfl (by omega)
  refine ⟨M4, ?_, (f2.trans (f3.mono A23_AWk)).trans (f4.mono A212_AWk), h3.fr f4, c3.fr f4 (fun b j q => by unfold A212 at q; omega), ?_, ?_, ?_, s4⟩
  · rw [cv_eq (kd_18 h2), e3, bV_eq]; exact e4
  · rw [f4.ri (fun q => by unfold A212 at q; omega), f3.ri (fun q => by unfold A23 at q; omega)]; exact va
  · rw [f4.ri (fun q => by unfold A212 at q; omega), f3.ri (fun q => by unfold A23 at q; omega)]; exact vb
  · intro g' k z1 z2 z3 z4 z5
    rw [f4.ri (fun q => by unfold A212 at q; omega)]
    exact s3 g' k z1 z2 z3 z4 z5
/-! the least root -/
def lr1 (N E : Int → Int) (v s : Int) : Int := if E s ≤ N s then v else if v = -1 then s else if N v ≤ N s then v else s
def lrt (N E : Int → Int) : Int := lr1 N E (lr1 N E (lr1 N E (lr1 N E (-1) 0) 1) 2) 3
def lrG (N E : Int → Int) (v m : Int) : Prop := (v = -1 ∧ ∀ s, 0 ≤ s → s < m → E s ≤ N s) ∨ (0 ≤ v ∧ v < m ∧ N v < E v ∧ ∀ s, 0 ≤ s → s < m → N s < E s → 4 * N v + v ≤ 4 * N s + s)
theorem lr1_g {N E : Int → Int} {v m : Int} (hm : 0 ≤ m) (hm4 : m < 4) (h : lrG N E v m) : lrG N E (lr1 N E v m) (m + 1) := by
  have sp : ∀ s, 0 ≤ s → s < m + 1 → s < m ∨ s = m := fun s _ _ => by omega
  unfold lr1
  by_cases g : E m ≤ N m
  · rw [if_pos g]
    rcases h with ⟨h1, h2⟩ | ⟨h1, h2, h3, h4⟩
    · refine Or.inl ⟨h1, fun s a b => ?_⟩
      rcases sp s a b with q | rfl
      · exact h2 s a q
      · exact g
    · refine Or.inr ⟨h1, by omega, h3, fun s a b c => ?_⟩
      rcases sp s a b with q | rfl
      · exact h4 s a q c
      · omega
  · rw [if_neg g]
    rcases h with ⟨h1, h2⟩ | ⟨h1, h2, h3, h4⟩
    · rw [if_pos h1]
      refine Or.inr ⟨hm, by omega, by omega, fun s a b c => ?_⟩
      rcases sp s a b with q | rfl
      · have := h2 s a q; omega
      · omega
    · rw [if_neg (by omega)]
      by_cases g2 : N v ≤ N m
      · rw [if_pos g2]
        refine Or.inr ⟨h1, by omega, h3, fun s a b c => ?_⟩
        rcases sp s a b with q | rfl
        · exact h4 s a q c
        · omega
      · rw [if_neg g2]
        refine Or.inr ⟨hm, by omega, by omega, fun s a b c => ?_⟩
        rcases sp s a b with q | rfl
        · have := h4 s a q c; omega
        · omega
theorem lrt_g (N E : Int → Int) : lrG N E (lrt N E) 4 := lr1_g (m := 3) (by omega) (by omega) (lr1_g (m := 2) (by omega) (by omega) (lr1_g (m := 1) (by omega) (by omega) (lr1_g (m := 0) (v := -1) (by omega) (by omega) (Or.inl ⟨rfl, fun s a b => by omega⟩))))
/-- bounds of a walk's numbers -/
def NE (S : Sc) (N E : Int → Int) : Prop := ∀ s, 0 ≤ s → s < 4 → 0 ≤ N s ∧ N s ≤ 60000 ∧ 0 ≤ E s ∧ E s ≤ 60000 ∧ (N s < E s → s < sNs S ∧ E s ≤ rts S s)
theorem cLrs {a b : Int} {N E : Int → Int} (hw : WKs M S a b N E) (hb : NE S N E) {v s : Int} (hv : v = -1 ∨ (0 ≤ v ∧ v < 4)) (h1 : 0 ≤ s) (h2 : s < 4) (n : Nat) : F_Walk_sourceOfLeastRoot_L4 (n + 1) 18 (iz v) (iz s) M = F_Walk_sourceOfLeastRoot_L4 n 18 (iz (lr1 N E v s)) (iz (s + 1)) M := by
  obtain ⟨h, hc, -, -, -, hp⟩ := hw
  have bs := hb s h1 h2
  rw [F_Walk_sourceOfLeastRoot_L4, show (4 : Int32) = iz 4 from rfl, ifE (by omega) (by omega) (by omega) (by omega), if_neg (by omega), fR_eq (kd_18 h) (rr_18_3 h), aI_eq (kd_21 h) (ln_21 h) h1 (by omega) (by omega), fR_eq (kd_18 h) (rr_18_4 h), aI_eq (kd_22 h) (ln_22 h) h1 (by omega) (by omega), (hp s h1 h2).1, (hp s h1 h2).2, ifE (by omega) (by omega) (by omega) (by omega), show (-1 : Int32) = iz (-1) from rfl, show (1 : Int32) = iz 1 from rfl, ifQ (by omega) (by omega) (by omega) (by omega), iz_add, nm_eq, nm_eq, fR_eq (kd_18 h) (rr_18_3 h), aI_eq (kd_21 h) (ln_21 h) h1 (by omega) (by omega), fR_eq (kd_18 h) (rr_18_3 h), (hp s h1 h2).1]
  unfold lr1
  by_cases g1 : E s ≤ N s
  · rw [if_pos g1, if_pos g1]
  · rw [if_neg g1, if_neg g1]
    by_cases g2 : v = -1
    · rw [if_pos g2, if_pos g2]
    · rw [if_neg g2, if_neg g2]
      rcases hv with q | q
      · exact absurd q g2
      have bv := hb v q.1 q.2
      rw [aI_eq (kd_21 h) (ln_21 h) q.1 (by omega) (by omega), (hp v q.1 q.2).1, ifE (by omega) (by omega) (by omega) (by omega)]
      by_cases g3 : N v ≤ N s
      · rw [if_pos g3, if_pos g3]
      · rw [if_neg g3, if_neg g3]
theorem lrG.r {N E : Int → Int} {v m : Int} (h : lrG N E v m) (hm : m ≤ 4) : v = -1 ∨ (0 ≤ v ∧ v < 4) := by
  rcases h with h | h
  · exact Or.inl h.1
  · exact Or.inr ⟨h.1, by omega⟩
theorem cLeast {a b : Int} {N E : Int → Int} (hw : WKs M S a b N E) (hb : NE S N E) : F_Walk_sourceOfLeastRoot 18 M = some (some (.int (iz (lrt N E))), M) := by
  have fg := fu_ge
  obtain ⟨n, hn⟩ : ∃ n, fu = n + 5 := ⟨fu - 5, by omega⟩
  have g0 : lrG N E (-1) 0 := Or.inl ⟨rfl, fun s a b => by omega⟩
  have g1 := lr1_g (m := 0) (by omega) (by omega) g0
  have g2 := lr1_g (m := 0 + 1) (by omega) (by omega) g1
  have g3 := lr1_g (m := 0 + 1 + 1) (by omega) (by omega) g2
  have g4 := lr1_g (m := 0 + 1 + 1 + 1) (by omega) (by omega) g3
  unfold F_Walk_sourceOfLeastRoot
  rw [hn, show (-1 : Int32) = iz (-1) from rfl, show (0 : Int32) = iz 0 from rfl, cLrs hw hb (g0.r (by omega)) (by omega) (by omega), cLrs hw hb (g1.r (by omega)) (by omega) (by omega), cLrs hw hb (g2.r (by omega)) (by omega) (by omega), cLrs hw hb (g3.r (by omega)) (by omega) (by omega), F_Walk_sourceOfLeastRoot_L4, show (4 : Int32) = iz 4 from rfl, ifE (by omega) (by omega) (by omega) (by omega), if_pos (by omega)]
  rfl
end Walk2
