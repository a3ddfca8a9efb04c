/-! ===== loops over a walk ===== -/
section Wloop
variable {S : Sc} {a b : Int} {N E : Int → Int} {X : Type}
/-- what a walk reads stays -/
def KW (M M' : am_M) : Prop := SH M' ∧ ∀ x j, ((2 ≤ x ∧ x ≤ 5) ∨ (18 ≤ x ∧ x ≤ 44)) → rI M' x j = rI M x j
theorem KW.refl {M : am_M} (h : SH M) : KW M M := ⟨h, fun _ _ _ => rfl⟩
theorem KW.trans {M M1 M2 : am_M} (h1 : KW M M1) (h2 : KW M1 M2) : KW M M2 := ⟨h2.1, fun x j q => (h2.2 x j q).trans (h1.2 x j q)⟩
theorem KW.of {A : Nat → Nat → Prop} {M M' : am_M} (h : SH M) (hf : Fr A M M') (hA : ∀ x j, A x j → ¬ ((2 ≤ x ∧ x ≤ 5) ∨ (18 ≤ x ∧ x ≤ 44))) : KW M M' := ⟨h.fr hf, fun x j q => hf.ri (fun z => hA x j z q)⟩
theorem CS.kw {M M' : am_M} (h : CS M S) (hf : KW M M') : CS M' S := by
  obtain ⟨h1, h2, h3, h4, h5, h6⟩ := h
  exact ⟨fun i q1 q2 => by rw [hf.2 _ _ (by omega)]; exact h1 i q1 q2, fun k f q1 q2 q3 q4 => by rw [hf.2 _ _ (by omega)]; exact h2 k f q1 q2 q3 q4, fun k f q1 q2 q3 q4 => by rw [hf.2 _ _ (by omega)]; exact h3 k f q1 q2 q3 q4, by rw [hf.2 _ _ (by omega)]; exact h4, by rw [hf.2 _ _ (by omega)]; exact h5, by rw [hf.2 _ _ (by omega)]; exact h6⟩
theorem WKs.kw {M M' : am_M} (h : WKs M S a b N E) (hf : KW M M') : WKs M' S a b N E := by
  obtain ⟨h1, h2, h3, h4, h5, h6⟩ := h
  exact ⟨hf.1, h2.kw hf, by rw [hf.2 _ _ (by omega)]; exact h3, by rw [hf.2 _ _ (by omega)]; exact h4, fun g' k z1 z2 z3 z4 z5 => by rw [hf.2 _ _ (by omega)]; exact h5 g' k z1 z2 z3 z4 z5, fun s q1 q2 => by rw [hf.2 _ _ (by omega), hf.2 _ _ (by omega)]; exact h6 s q1 q2⟩
theorem CpL.kw {M M' : am_M} {row : Nat} {p : Sk} {c g : Int} (h : CpL M S (24 + 3 * row) p c g) (hr : row < 7) (hf : KW M M') : CpL M' S (24 + 3 * row) p c g := by
  obtain ⟨⟨h1, h2, h3, h4, h5⟩, h6, h7, h8, h9⟩ := h
  exact ⟨⟨by rw [hf.2 _ _ (by omega)]; exact h1, by rw [hf.2 _ _ (by omega)]; exact h2, by rw [hf.2 _ _ (by omega)]; exact h3, fun i q1 q2 => by rw [hf.2 _ _ (by omega)]; exact h4 i q1 q2, fun i q1 q2 => by rw [hf.2 _ _ (by omega)]; exact h5 i q1 q2⟩, by rw [hf.2 _ _ (by omega)]; exact h6, by rw [hf.2 _ _ (by omega)]; exact h7, by rw [hf.2 _ _ (by omega)]; exact h8, by rw [hf.2 _ _ (by omega)]; exact h9⟩
theorem Shn.kw {M M' : am_M} {L : List Int} (h : Shn M S L 7) (hf : KW M M') : Shn M' S L 7 := by
  obtain ⟨h1, h2, h3, h4⟩ := h
  refine ⟨h1, by rw [hf.2 _ _ (by omega)]; exact h2, h3, fun j c q => ?_⟩
  obtain ⟨q1, row, r1, r2, r3⟩ := h4 j c q
  exact ⟨q1, row, r1, by rw [hf.2 _ _ (by omega)]; exact r2, r3.kw r1 hf⟩
theorem cShown {M : am_M} {L : List Int} (h : SH M) (hS : Shn M S L 7) {j : Nat} {c : Int} (hj : L[j]? = some c) : isSp S c ∧ ∃ row : Nat, row < 7 ∧ F_Walk_shown 18 (iz (j : Int)) M = some (some (.ref (24 + 3 * row)), M) ∧ CpL M S (24 + 3 * row) (lay S c) c (gen c) := by
  obtain ⟨h1, h2, h3, h4⟩ := hS
  obtain ⟨q1, row, r1, r2, r3⟩ := h4 j c hj
  have jl : j < L.length := (List.getElem?_eq_some_iff.mp hj).1
  refine ⟨q1, row, r1, ?_, r3⟩
  unfold F_Walk_shown
  rw [show (0 : Int32) = iz 0 from rfl, ifL (by omega) (by omega) (by omega) (by omega), if_neg (by omega), fI_eq (kd_18 h), h2, ifE (by omega) (by omega) (by omega) (by omega), if_neg (by omega), show (7 : Int32) = iz 7 from rfl, ifE (by omega) (by omega) (by omega) (by omega), if_neg (by omega), fR_eq (kd_18 h) (rr_18_2 h), aI_eq (kd_20 h) (ln_20 h) (by omega) (by omega) (by omega), show ((j : Int)).toNat = j by omega, r2]
  unfold F_Walk_shown_L28
  rw [fR_eq (kd_18 h) (rr_18_1 h), show (0 : Int32) = iz 0 from rfl, ifL (by omega) (by omega) (by omega) (by omega), if_neg (by omega), show (7 : Int32) = iz 7 from rfl, ifE (by omega) (by omega) (by omega) (by omega), if_neg (by omega), aLine h r1 rfl]
/-- how a loop over a walk must be -/
def LoopH (S : Sc) (a b : Int) (T : List Int) (OL : Nat → X → Int32 → am_M → am_R) (IL : Nat → Nat → X → Int32 → Int32 → am_M → am_R) (K : X → am_M → am_R) (P : List Int → X → am_M → Prop) : Prop :=
  (∀ n x i M, SH M → 0 ≤ i → i < 1000000 → OL (n + 1) x (iz i) M = bI (F_Walk_stepRoot 18 M) (fun r M1 => if r = 0 then K x M1 else IL fu n x (iz i) (iz 0) M1)) ∧
  (∀ m n x i j len M, SH M → rI M 18 8 = iz len → 0 ≤ len → len ≤ 7 → j = len → IL (m + 1) n x (iz i) (iz j) M = OL n x (iz (i + 1)) M) ∧
  (∀ m n x i (j row : Nat) L c len M, P L x M → SH M → CS M S → inWn S a b c → row < 7 → CpL M S (24 + 3 * row) (lay S c) c (gen c) → rI M 18 8 = iz len → (j : Int) < len → len ≤ 7 → F_Walk_shown 18 (iz (j : Int)) M = some (some (.ref (24 + 3 * row)), M) → (∃ rest, (L ++ [c]) ++ rest = T) → ∃ x' M', IL (m + 1) n x (iz i) (iz (j : Int)) M = IL m n x' (iz i) (iz ((j + 1 : Nat) : Int)) M' ∧ P (L ++ [c]) x' M' ∧ KW M M') ∧
  (∀ L x M M', P L x M → Fr AWk M M' → P L x M')
variable {T : List Int} {OL : Nat → X → Int32 → am_M → am_R} {IL : Nat → Nat → X → Int32 → Int32 → am_M → am_R} {K : X → am_M → am_R} {P : List Int → X → am_M → Prop}
theorem wInner (H : LoopH S a b T OL IL K P) {Lw : List Int} (hLw : ∀ c ∈ Lw, inWn S a b c) (n : Nat) (i : Int) (rest : List Int) : ∀ (r m j : Nat) (x : X) (M : am_M) (L : List Int), WKs M S a b N E → Shn M S Lw 7 → j + r = Lw.length → r < m → P L x M → L ++ (Lw.drop j ++ rest) = T → ∃ x' M', IL m n x (iz i) (iz (j : Int)) M = OL n x' (iz (i + 1)) M' ∧ P (L ++ Lw.drop j) x' M' ∧ KW M M'
  | r, 0, j, x, M, L, hw, hS, q1, q2, hP, hT => by omega
  | 0, m + 1, j, x, M, L, hw, hS, q1, q2, hP, hT => by
    have l7 := hS.2.2.1
    refine ⟨x, M, H.2.1 m n x i j Lw.length M hw.1 hS.2.1 (by omega) (by omega) (by omega), ?_, KW.refl hw.1⟩
    rw [List.drop_of_length_le (by omega), List.append_nil]; exact hP
  | r + 1, m + 1, j, x, M, L, hw, hS, q1, q2, hP, hT => by
    have hT' : (L ++ [Lw[j]'(by omega)]) ++ (Lw.drop (j + 1) ++ rest) = T := by
      rw [← hT, List.drop_eq_getElem_cons (show j < Lw.length by omega), List.append_assoc]; rfl
    have l7 := hS.2.2.1
    have jl : j < Lw.length := by omega
    have ej : Lw[j]? = some Lw[j] := List.getElem?_eq_getElem jl
    obtain ⟨sp, row, r1, r2, r3⟩ := cShown hw.1 hS ej
    obtain ⟨x1, M1, e1, p1, k1⟩ := H.2.2.1 m n x i j row L Lw[j] Lw.length M hP hw.1 hw.2.1 (hLw _ (List.getElem_mem jl)) r1 r3 hS.2.1 (by omega) (by omega) r2 ⟨_, hT'⟩
    obtain ⟨x2, M2, e2, p2, k2⟩ := wInner H hLw n i rest r m (j + 1) x1 M1 (L ++ [Lw[j]]) (hw.kw k1) (hS.kw k1) (by omega) (by omega) p1 hT'
    refine ⟨x2, M2, e1.trans e2, ?_, k1.trans k2⟩
    rw [List.drop_eq_getElem_cons jl, show L ++ Lw[j] :: Lw.drop (j + 1) = L ++ [Lw[j]] ++ Lw.drop (j + 1) by rw [List.append_assoc]; rfl]
    exact p2
theorem wOuter (hk : scOK S) (a1 : -100 ≤ a) (a2 : a ≤ 40000) (b1 : 0 ≤ b) (b2 : b ≤ 40000) (H : LoopH S a b T OL IL K P) : ∀ (r n : Nat) (i : Int) (N : Int → Int) (x : X) (M : am_M) (L : List Int), WKs M S a b N E → NE S N E → msr N E ≤ r → 0 ≤ i → i + r < 1000000 → r < n → P L x M → L ++ wks S a b E r N = T → ∃ x' M', OL n x (iz i) M = K x' M' ∧ P (L ++ wks S a b E r N) x' M'
  | r, 0, i, N, x, M, L, hw, hb, hm, i0, i1, q2, hP, hT => by omega
  | r, n + 1, i, N, x, M, L, hw, hb, hm, i0, i1, q2, hP, hT => by
    have fg := fu_ge
    by_cases hl : lrt N E = -1
    · have e := cStep0 hw hb hl
      have fr : Fr AWk M (wI M 18 8 (iz 0)) := Fr.wI (by unfold AWk; omega)
      refine ⟨x, wI M 18 8 (iz 0), ?_, ?_⟩
      · rw [H.1 n x i M hw.1 i0 (by omega), e, bI_eq, if_pos rfl]
      · have ew : wks S a b E r N = [] := by
          cases r with
          | zero => rfl
          | succ r => rw [wks, if_pos hl]
        rw [ew, List.append_nil]
        exact H.2.2.2 _ _ _ _ hP fr
    · cases r with
      | zero => exact absurd (msr_0 (by omega)) hl
      | succ r =>
        obtain ⟨z, M1, e1, f1, w1, S1⟩ := cStep hk a1 a2 b1 b2 hw hb rfl hl
        have l7 := S1.2.2.1
        obtain ⟨x2, M2, e2, p2, k2⟩ := wInner H (Lw := shw S a b (256 * (4 * N (lrt N E) + lrt N E))) (fun c hc => (shw_mem.mp hc).1) n i (wks S a b E r (updN N (lrt N E) (N (lrt N E) + 1))) _ fu 0 x M1 L w1 S1 (Nat.zero_add _) (by omega) (H.2.2.2 _ _ _ _ hP f1) (by rw [List.drop_zero, ← hT, wks, if_neg hl])
        have mu := msr_u hl
        obtain ⟨x3, M3, e3, p3⟩ := wOuter hk a1 a2 b1 b2 H r n (i + 1) _ x2 M2 _ (w1.kw k2) (hb.u hl) (by omega) (by omega) (by omega) (by omega) p2 (by rw [List.drop_zero, List.append_assoc, ← hT, wks, if_neg hl])
        refine ⟨x3, M3, ?_, ?_⟩
        · rw [H.1 n x i M hw.1 i0 (by omega), e1, bI_eq, if_neg (by decide)]
          exact e2.trans e3
        · rw [wks, if_neg hl, ← List.append_assoc]
          rw [List.drop_zero] at p3
          exact p3
/-- a walk from a to below b, all of it -/
theorem wAll (hk : scOK S) (a1 : -100 ≤ a) (a2 : a ≤ 40000) (b1 : 0 ≤ b) (b2 : b ≤ 40000) (H : LoopH S a b (wkl S a b) OL IL K P) {M : am_M} (hw : WKs M S a b (nxr S a) (byr S b)) {x : X} (hP : P [] x M) : ∃ x' M', OL fu x (iz 0) M = K x' M' ∧ P (wkl S a b) x' M' := by
  have fg := fu_ge
  have nb := NE_start hk a b
  have mb := msr_bd nb
  exact wOuter hk a1 a2 b1 b2 H (msr (nxr S a) (byr S b)) fu 0 (nxr S a) x M [] hw nb (Nat.le_refl _) (by omega) (by omega) (by omega) hP (List.nil_append _)
end Wloop
