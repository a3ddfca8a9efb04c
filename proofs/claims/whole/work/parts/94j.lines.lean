/-! ===== reading lines: what is read ===== -/
def pos : Lo → Nat
  | .inl _ => 0
  | .inr s => s
/-- a step of reading: from no fault to no fault, and on -/
def Mo (o o' : Lo) : Prop := gd o' = true → gd o = true ∧ pos o ≤ pos o'
theorem Mo.refl (o : Lo) : Mo o o := fun h => ⟨h, Nat.le_refl _⟩
theorem Mo.trans {a b c : Lo} (h1 : Mo a b) (h2 : Mo b c) : Mo a c := fun h => ⟨(h1 (h2 h).1).1, Nat.le_trans (h1 (h2 h).1).2 (h2 h).2⟩
section Mon
variable {T : Nat → Int} {n : Nat}
theorem be_ge (s : Nat) : s ≤ be T n s := by
  unfold be stop
  split
  · split
    · exact (stopF_le T _ _).1
    · split
      · exact (stopF_le T _ _).1
      · omega
  · omega
theorem nx_ge (s : Nat) : be T n s ≤ nx T n s := (stopF_le T _ _).1
theorem mo_A (o : Lo) : Mo o (oA T n o) := fun h => by
  rcases o with q | s
  · cases h
  · exact ⟨rfl, Nat.le_trans (be_ge s) (nx_ge s)⟩
theorem mo_num (lo hi : Int) (o : Lo) : Mo o (oNum T n lo hi o) := fun h => by
  rcases o with q | s
  · cases h
  · refine ⟨rfl, ?_⟩
    unfold oNum at h ⊢
    simp only [] at h ⊢
    split at h
    · rename_i h1
      split at h
      · rename_i h2
        rw [if_pos h1, if_pos h2]
        exact Nat.le_trans (be_ge s) (nx_ge s)
      · cases h
    · cases h
theorem mo_Fl (f : Int) (o : Lo) : Mo o (oFail f o) := fun h => by
  rcases o with q | s <;> cases h
theorem mo_T (k : Nat) (o : Lo) : Mo o (oT T n k o) := by
  unfold oT
  by_cases g : oW T n k o = true
  · rw [if_pos g]; exact mo_A o
  · rw [if_neg g]; exact Mo.refl o
theorem mo_N (k : Nat) (o : Lo) : Mo o (oN T n k o) := by
  unfold oN
  by_cases g : oW T n k o = true
  · rw [if_pos g]; exact mo_A o
  · rw [if_neg g]; exact mo_Fl 1 o
theorem mo_B (k : Nat) (lo hi : Int) (o : Lo) : Mo o (oB T n k lo hi o) := by
  unfold oB
  by_cases g : oW T n k o = true
  · rw [if_pos g]; exact (mo_T k o).trans (mo_num _ _ _)
  · rw [if_neg g]; exact mo_T k o
theorem mo_M (o : Lo) : Mo o (oM T n o) := by
  unfold oM
  by_cases g : oMi T n o = true
  · rw [if_pos g]; exact mo_A o
  · rw [if_neg g]; exact Mo.refl o
theorem mo_F (o : Lo) : Mo o (oF T n o) := by
  unfold oF
  by_cases g : oW T n 6 o = true
  · rw [if_pos g]; exact (mo_T 6 o).trans ((mo_M _).trans (mo_num _ _ _))
  · rw [if_neg g]; exact mo_T 6 o
theorem mo_E (o : Lo) : Mo o (oE T n o) := by
  unfold oE
  by_cases g : oW T n 8 o = true
  · rw [if_pos g]; exact mo_A o
  · rw [if_neg g]
    by_cases g2 : oW T n 9 o = true
    · rw [if_pos g2]; exact mo_A o
    · rw [if_neg g2]; exact mo_T 10 o
theorem mo_S (c : Int) (o : Lo) (h : gd (oSg T n c o) = true) : gd o = true ∧ pos o < pos (oSg T n c o) := by
  rcases o with q | s
  · cases h
  · refine ⟨rfl, ?_⟩
    unfold oSg at h ⊢
    simp only [] at h ⊢
    split at h
    · rename_i h1
      rw [if_pos h1]
      have h2 : be T n s = s + 1 := by
        have h3 := h1.1
        unfold tk at h3
        unfold be
        split at h3
        · rename_i a
          rw [if_pos a]
          split at h3
          · omega
          · rename_i b
            rw [if_neg b]
            split at h3
            · omega
            · rename_i c
              rw [if_neg c]
        · omega
      have := nx_ge (T := T) (n := n) s
      show s < nx T n s
      omega
    · cases h
theorem mo_k (k : Int) (o : Lo) : Mo o (kO T n k o) := by
  have h9 : Mo o (k9 T n o) := (mo_A o).trans ((mo_N 3 _).trans ((mo_num 1 40 _).trans ((mo_B 4 0 20 _).trans ((mo_B 5 0 20 _).trans ((mo_F _).trans ((mo_B 7 1 9 _).trans ((mo_E _).trans (mo_B 11 1 2 _))))))))
  unfold kO
  by_cases g : oW T n 11 (k8 T n o) = true
  · rw [if_pos g]; exact h9.trans ((mo_N 12 _).trans (mo_num _ _ _))
  · rw [if_neg g]; exact h9
theorem mo_q (nk : Int) (W : Int → Int) (o : Lo) : Mo o (qO T n nk W o) :=
  (mo_A o).trans ((mo_num _ _ _).trans ((mo_N 14 _).trans ((mo_num _ _ _).trans ((mo_num _ _ _).trans ((mo_num _ _ _).trans ((mo_N 15 _).trans ((mo_num _ _ _).trans ((mo_N 16 _).trans ((mo_num _ _ _).trans ((mo_B 17 1 5 _).trans ((mo_B 18 0 9999 _).trans (mo_B 19 0 20 _))))))))))))
end Mon
/-- a draft: a scene, and whether its seed was told -/
abbrev Dr : Type := Sc × Bool
def dSeed (D : Dr) (v : Int) : Dr := ((D.1.1, D.1.2.1, D.1.2.2.1, D.1.2.2.2.1, D.1.2.2.2.2.1, v), true)
def dKind (D : Dr) (f : Int → Int) : Dr := ((D.1.1, (fun k i => if k = sNk D.1 then f i else sK D.1 k i), D.1.2.2.1, sNk D.1 + 1, D.1.2.2.2.2.1, D.1.2.2.2.2.2), D.2)
def dSrc (D : Dr) (f : Int → Int) : Dr := ((D.1.1, D.1.2.1, (fun s i => if s = sNs D.1 then f i else sQ D.1 s i), D.1.2.2.2.1, sNs D.1 + 1, D.1.2.2.2.2.2), D.2)
section LineA
variable (T : Nat → Int) (n : Nat)
def aLn (D : Dr) (o : Lo) : Dr × Lo :=
  if oW T n 1 o then (if D.2 then (D, oFail 3 o) else (dSeed D (oV T n (oA T n o)), oNum T n 0 999999 (oA T n o)))
  else if oW T n 2 o then (if sNk D.1 = 5 then (D, oFail 3 o) else (dKind D (kF T n o), kO T n (sNk D.1) o))
  else if oW T n 13 o then (if sNs D.1 = 4 then (D, oFail 3 o) else (dSrc D (qF T n (sNk D.1) (sW D.1) o), qO T n (sNk D.1) (sW D.1) o))
  else (D, oFail 1 o)
def cont : Lo → Bool
  | .inl _ => false
  | .inr s => decide (s < n)
def aLp : Nat → Dr → Lo → Int → Dr × Lo × Int
  | 0, D, o, c => (D, o, c)
  | r + 1, D, o, c => if cont n o then aLp r (aLn T n D o).1 (oSg T n 59 (aLn T n D o).2) (c + 1) else (D, o, c)
end LineA
section LineB
variable {T : Nat → Int} {n : Nat} {o : Lo} {D : Dr}
theorem mo_l : Mo o (aLn T n D o).2 := by
  unfold aLn
  split
  · split
    · exact mo_Fl 3 o
    · exact (mo_A o).trans (mo_num _ _ _)
  · split
    · split
      · exact mo_Fl 3 o
      · exact mo_k _ o
    · split
      · split
        · exact mo_Fl 3 o
        · exact mo_q _ _ o
      · exact mo_Fl 1 o
theorem aLp_no (r : Nat) (c : Int) (h : ¬ cont n o = true) : aLp T n r D o c = (D, o, c) := by
  cases r with
  | zero => rfl
  | succ r => rw [aLp, if_neg h]
theorem cont_gd (h : cont n o = true) : gd o = true ∧ pos o < n := by
  rcases o with q | s
  · cases h
  · exact ⟨rfl, of_decide_eq_true h⟩
/-! ranges of what is read -/
theorem kF_ok {k : Int} (h : gd (kO T n k o) = true) : (1 ≤ kF T n o 0 ∧ kF T n o 0 ≤ 40) ∧ (0 ≤ kF T n o 1 ∧ kF T n o 1 ≤ 20) ∧ (0 ≤ kF T n o 2 ∧ kF T n o 2 ≤ 20) ∧ (-9 ≤ kF T n o 3 ∧ kF T n o 3 ≤ 9) ∧ (1 ≤ kF T n o 4 ∧ kF T n o 4 ≤ 9) ∧ (0 ≤ kF T n o 5 ∧ kF T n o 5 ≤ 2) ∧ ((kF T n o 6 = 0 ∧ kF T n o 7 = -1) ∨ (1 ≤ kF T n o 6 ∧ kF T n o 6 ≤ 2 ∧ 0 ≤ kF T n o 7 ∧ kF T n o 7 < k)) := by
  have e0 : kF T n o 0 = oV T n (k2 T n o) := rfl
  have e1 : kF T n o 1 = oBv T n 4 0 (k3 T n o) := rfl
  have e2 : kF T n o 2 = oBv T n 5 0 (k4 T n o) := rfl
  have e3 : kF T n o 3 = oFv T n (k5 T n o) := rfl
  have e4 : kF T n o 4 = oBv T n 7 1 (k6 T n o) := rfl
  have e5 : kF T n o 5 = oEv T n (k7 T n o) := rfl
  have e6 : kF T n o 6 = oBv T n 11 0 (k8 T n o) := rfl
  have e7 : kF T n o 7 = if oW T n 11 (k8 T n o) then oV T n (oN T n 12 (k9 T n o)) else -1 := rfl
  have g9 : gd (k9 T n o) = true := by
    unfold kO at h
    by_cases gw : oW T n 11 (k8 T n o) = true
    · rw [if_pos gw] at h; exact gp_N (gp_num h)
    · rw [if_neg gw] at h; exact h
  have g8 : gd (k8 T n o) = true := gp_B g9
  have g7 : gd (k7 T n o) = true := gp_E g8
  have g6 : gd (k6 T n o) = true := gp_B g7
  have g5 : gd (k5 T n o) = true := gp_F g6
  have g4 : gd (k4 T n o) = true := gp_B g5
  have g3 : gd (k3 T n o) = true := gp_B g4
  rw [e0, e1, e2, e3, e4, e5, e6, e7]
  have bh : ∀ (k : Nat) (lo hi d : Int) (o : Lo), gd (oB T n k lo hi o) = true → lo ≤ d → d ≤ hi → lo ≤ oBv T n k d o ∧ oBv T n k d o ≤ hi := fun k lo hi d o hg h1 h2 => by
    have b := beh_bd (d := d) hg
    by_cases z : oW T n k o = true
    · exact b.1 z
    · rw [b.2 z]; exact ⟨h1, h2⟩
  refine ⟨num_bd g3, bh 4 0 20 0 _ g4 (by omega) (by omega), bh 5 0 20 0 _ g5 (by omega) (by omega), ?_, bh 7 1 9 1 _ g7 (by omega) (by omega), ?_, ?_⟩
  · have h6 : gd (oF T n (k5 T n o)) = true := g6
    unfold oF at h6
    unfold oFv
    by_cases z : oW T n 6 (k5 T n o) = true
    · rw [if_pos z] at h6
      have b := num_bd h6
      rw [if_pos z]
      split <;> omega
    · rw [if_neg z]; omega
  · unfold oEv
    split
    · omega
    · split <;> omega
  · have b := beh_bd (d := 0) (show gd (oB T n 11 1 2 (k8 T n o)) = true from g9)
    by_cases gw : oW T n 11 (k8 T n o) = true
    · right
      rw [if_pos gw]
      unfold kO at h
      rw [if_pos gw] at h
      have c := num_bd h
      have b1 := b.1 gw
      omega
    · left
      rw [if_neg gw]
      exact ⟨b.2 gw, rfl⟩
theorem qG_ok {nk : Int} {W : Int → Int} (h : gd (qO T n nk W o) = true) : (0 ≤ qG T n nk W o 0 ∧ qG T n nk W o 0 < nk) ∧ (0 ≤ qG T n nk W o 1 ∧ qG T n nk W o 1 < W 0) ∧ (0 ≤ qG T n nk W o 2 ∧ qG T n nk W o 2 < W 1) ∧ (0 ≤ qG T n nk W o 3 ∧ qG T n nk W o 3 < W 2) ∧ (0 ≤ qG T n nk W o 4 ∧ qG T n nk W o 4 ≤ 9999) ∧ (1 ≤ qG T n nk W o 5 ∧ qG T n nk W o 5 ≤ 99) ∧ (1 ≤ qG T n nk W o 6 ∧ qG T n nk W o 6 ≤ 5) ∧ (0 ≤ qG T n nk W o 7 ∧ qG T n nk W o 7 ≤ 9999) ∧ (0 ≤ qG T n nk W o 8 ∧ qG T n nk W o 8 ≤ 20) := by
  have e0 : qG T n nk W o 0 = oV T n (oA T n o) := rfl
  have e1 : qG T n nk W o 1 = oV T n (q3 T n nk o) := rfl
  have e2 : qG T n nk W o 2 = oV T n (q4 T n nk W o) := rfl
  have e3 : qG T n nk W o 3 = oV T n (q5 T n nk W o) := rfl
  have e4 : qG T n nk W o 4 = oV T n (q7 T n nk W o) := rfl
  have e5 : qG T n nk W o 5 = oV T n (q9 T n nk W o) := rfl
  have e6 : qG T n nk W o 6 = oBv T n 17 1 (q10 T n nk W o) := rfl
  have e7 : qG T n nk W o 7 = oBv T n 18 9999 (q11 T n nk W o) := rfl
  have e8 : qG T n nk W o 8 = oBv T n 19 0 (q12 T n nk W o) := rfl
  have g12 : gd (q12 T n nk W o) = true := gp_B h
  have g11 : gd (q11 T n nk W o) = true := gp_B g12
  have g10 : gd (q10 T n nk W o) = true := gp_B g11
  have g9 : gd (q9 T n nk W o) = true := gp_num g10
  have g8 : gd (q8 T n nk W o) = true := gp_N g9
  have g7 : gd (q7 T n nk W o) = true := gp_num g8
  have g6 : gd (q6 T n nk W o) = true := gp_N g7
  have g5 : gd (q5 T n nk W o) = true := gp_num g6
  have g4 : gd (q4 T n nk W o) = true := gp_num g5
  have g3 : gd (q3 T n nk o) = true := gp_num g4
  have g2 : gd (q2 T n nk o) = true := gp_N g3
  have bh : ∀ (k : Nat) (lo hi d : Int) (o : Lo), gd (oB T n k lo hi o) = true → lo ≤ d → d ≤ hi → lo ≤ oBv T n k d o ∧ oBv T n k d o ≤ hi := fun k lo hi d o hg h1 h2 => by
    have b := beh_bd (d := d) hg
    by_cases z : oW T n k o = true
    · exact b.1 z
    · rw [b.2 z]; exact ⟨h1, h2⟩
  have b0 := num_bd (show gd (oNum T n 0 (nk - 1) (oA T n o)) = true from g2)
  have b1 := num_bd (show gd (oNum T n 0 (W 0 - 1) (q3 T n nk o)) = true from g4)
  have b2 := num_bd (show gd (oNum T n 0 (W 1 - 1) (q4 T n nk W o)) = true from g5)
  have b3 := num_bd (show gd (oNum T n 0 (W 2 - 1) (q5 T n nk W o)) = true from g6)
  have b4 := num_bd (show gd (oNum T n 0 9999 (q7 T n nk W o)) = true from g8)
  have b5 := num_bd (show gd (oNum T n 1 99 (q9 T n nk W o)) = true from g10)
  have b6 := bh 17 1 5 1 _ g11 (by omega) (by omega)
  have b7 := bh 18 0 9999 9999 _ g12 (by omega) (by omega)
  have b8 := bh 19 0 20 0 _ h (by omega) (by omega)
  rw [e0, e1, e2, e3, e4, e5, e6, e7, e8]
  omega
theorem ln_ok (h : scOK D.1) (g : gd (aLn T n D o).2 = true) : scOK (aLn T n D o).1.1 := by
  obtain ⟨h1, h2, h3, h4, h5, h6⟩ := id h
  unfold aLn at g ⊢
  split at g
  · rename_i a1
    rw [if_pos a1]
    split at g
    · rename_i a2
      rw [if_pos a2]; exact h
    · rename_i a2
      rw [if_neg a2]
      exact ⟨h1, h2, h3, num_bd g, h5, h6⟩
  · rename_i a1
    rw [if_neg a1]
    split at g
    · rename_i a2
      rw [if_pos a2]
      split at g
      · rename_i a3
        rw [if_pos a3]; exact h
      · rename_i a3
        rw [if_neg a3]
        refine ⟨h1, ⟨?_, ?_⟩, h3, h4, fun k k0 k1 => ?_, fun s s0 s1 => ?_⟩
        · show 0 ≤ sNk D.1 + 1; omega
        · show sNk D.1 + 1 ≤ 5; omega
        · have k2 : k < sNk D.1 + 1 := k1
          have eK : ∀ i, sK (dKind D (kF T n o)).1 k i = if k = sNk D.1 then kF T n o i else sK D.1 k i := fun i => rfl
          simp only [eK]
          by_cases e : k = sNk D.1
          · simp only [if_pos e]; rw [e]; exact kF_ok g
          · simp only [if_neg e]; exact h5 k k0 (by omega)
        · have z := h6 s s0 s1
          obtain ⟨z0, z1⟩ := z
          refine ⟨⟨z0.1, ?_⟩, z1⟩
          show sQ D.1 s 0 < sNk D.1 + 1
          omega
    · rename_i a2
      rw [if_neg a2]
      split at g
      · rename_i a3
        rw [if_pos a3]
        split at g
        · rename_i a4
          rw [if_pos a4]; exact h
        · rename_i a4
          rw [if_neg a4]
          refine ⟨h1, h2, ⟨?_, ?_⟩, h4, h5, fun s s0 s1 => ?_⟩
          · show 0 ≤ sNs D.1 + 1; omega
          · show sNs D.1 + 1 ≤ 4; omega
          · have s2 : s < sNs D.1 + 1 := s1
            have eQ : ∀ i, sQ (dSrc D (qF T n (sNk D.1) (sW D.1) o)).1 s i = if s = sNs D.1 then qF T n (sNk D.1) (sW D.1) o i else sQ D.1 s i := fun i => rfl
            by_cases e : s = sNs D.1
            · have eQ2 : ∀ i, sQ (dSrc D (qF T n (sNk D.1) (sW D.1) o)).1 s i = qF T n (sNk D.1) (sW D.1) o i := fun i => by rw [eQ, if_pos e]
              have eG : ∀ i, i ≠ 9 → qF T n (sNk D.1) (sW D.1) o i = qG T n (sNk D.1) (sW D.1) o i := fun i hi => if_neg hi
              obtain ⟨b0, b1, b2, b3, b4, b5, b6, b7, b8⟩ := qG_ok g
              show (0 ≤ sQ (dSrc D (qF T n (sNk D.1) (sW D.1) o)).1 s 0 ∧ _) ∧ _
              unfold rts gps
              simp only [eQ2]
              refine ⟨b0, fun i i0 i1 => ?_, b4, b5, b6, b7, b8, rfl⟩
              rw [eG _ (by omega)]
              rcases (show i = 0 ∨ i = 1 ∨ i = 2 by omega) with q | q | q
              · rw [q]; exact b1
              · rw [q]; exact b2
              · rw [q]; exact b3
            · have eQ2 : ∀ i, sQ (dSrc D (qF T n (sNk D.1) (sW D.1) o)).1 s i = sQ D.1 s i := fun i => by rw [eQ, if_neg e]
              show (0 ≤ sQ (dSrc D (qF T n (sNk D.1) (sW D.1) o)).1 s 0 ∧ _) ∧ _
              unfold rts gps
              simp only [eQ2]
              exact h6 s s0 (by omega)
      · rename_i a3
        rw [if_neg a3]; exact h
end LineB
