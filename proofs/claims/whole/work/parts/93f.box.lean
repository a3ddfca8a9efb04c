/-! ===== box, ofAge ===== -/
section FrBox
variable {M : am_M} {S : Sc} {t : Int}
theorem bxM_g {w : Int} {f : Int → Int} {L : List Int} (h0 : ∀ c ∈ L, 0 ≤ f c) : (L = [] ∧ L.foldl (bxM w f) (-1) = -1) ∨ (L ≠ [] ∧ MX (3 ≤ w) f L (L.foldl (bxM w f) (-1))) := by
  refine foldl_ind (P := fun K x => (K = [] ∧ x = -1) ∨ (K ≠ [] ∧ MX (3 ≤ w) f K x)) (fun K x c hr h => ?_) L [] (-1) (List.nil_append _) (Or.inl ⟨rfl, rfl⟩)
  obtain ⟨rest, hr⟩ := hr
  refine Or.inr ⟨by simp, ?_⟩
  rcases h with ⟨e1, e2⟩ | ⟨e1, e2⟩
  · rw [e1, e2]
    unfold bxM
    rw [if_pos rfl]
    exact MX_1 c
  · have ne : x ≠ -1 := by
      obtain ⟨⟨d, dm, de⟩, -⟩ := e2
      have := h0 d (by rw [← hr]; exact List.mem_append.mpr (Or.inl dm))
      omega
    have e : bxM w f x c = bxC w f x c := by unfold bxM bxC; rw [if_neg ne]
    rw [e]
    exact MX_s e2
theorem bxC_g {w : Int} {f : Int → Int} {c0 : Int} {K : List Int} : MX (3 ≤ w) f (c0 :: K) (K.foldl (bxC w f) (f c0)) :=
  foldl_ind (P := fun K x => MX (3 ≤ w) f K x) (L := c0 :: K) (fun K x c _ h => MX_s h) K [c0] (f c0) rfl (MX_1 c0)
theorem ap_box (hI : Inv M) (p1 p2 : Int32) : Ag (F_NS_box 0 p1 p2) (F_Md_box 70 p1 p2) M := by
  obtain ⟨h, -⟩ := id hI
  obtain ⟨S, st, s01, s1, s2, hc, hm, hb, hs, h0⟩ := hI.sc
  obtain ⟨o, o1, o2, rfl⟩ := iz_of p2
  have hMd0 : ∀ M', SH M' → F_Md_isTick 70 p1 M' = some (some (.int (iz 0)), M') → F_Md_box 70 p1 (iz o) M' = some (some (.int (-2)), M') := fun M' h' e => by
    unfold F_Md_box; rw [cv_eq (kd_70 h'), e, bI_eq, if_pos (by decide)]
  have hMg : ∀ M', SH M' → F_Md_isTick 70 p1 M' = some (some (.int (iz 1)), M') → F_Md_box 70 p1 (iz o) M' = if 0 ≤ o ∧ o ≤ 5 then bV (F_Md_gathers 70 p1 M') (fun M5 => F_Md_box_L33 fu 70 p1 (iz o) (iz (-1)) (iz 0) M5) else some (some (.int (-2)), M') := fun M' h' e => by
    unfold F_Md_box; rw [cv_eq (kd_70 h'), e, bI_eq, if_neg (by decide), show (0 : Int64) = jz 0 from rfl, show (5 : Int64) = jz 5 from rfl, mInL o 0 5 o1 o2 (by omega) (by omega) (by omega) (by omega), bI_eq, bz_if0, cv_eq (kd_70 h')]; rfl
  have hNg : F_NS_box 0 p1 (iz o) M = if o < 0 then some (some (.int (-2)), M) else if 5 < o then some (some (.int (-2)), M) else bI (F_Fram_shows 45 p1 M) (fun r3 M2 => if r3 = 0 then some (some (.int (-2)), M2) else fR M2 0 12 7 (fun b4 => fI M2 b4 5 2 (fun x5 => if x5 = 0 then some (some (.int (-1)), M2) else fR M2 0 12 7 (fun b6 => cv M2 b6 5 (bI (F_Fram_placeOf b6 0 (iz o - iz o / 3 * 3) M2) (fun r8 M7 => F_NS_box_L50 fu 0 (iz o) r8 1 M7)))))) := by
    unfold F_NS_box
    rw [show (0 : Int32) = iz 0 from rfl, show (5 : Int32) = iz 5 from rfl, ifL o1 o2 (by omega) (by omega), ifL (by omega) (by omega) o1 o2, fR_eq (kd_0 h) (rr_0_7 h), cv_eq (kd_45 h)]
  by_cases g : 0 ≤ o ∧ o ≤ 5
  rotate_left
  · refine ap_no (mk := Value.int) (v0 := -2) hI ?_ ?_
    · rw [hNg]
      by_cases q : o < 0
      · rw [if_pos q]
      · rw [if_neg q, if_pos (by omega)]
    · rcases mTk hI s01 s2 hs p1 with e | ⟨e0, e⟩
      · exact hMd0 M h e
      · rw [hMg M h e, if_neg g]
  rw [if_neg (by omega), if_neg (by omega)] at hNg
  refine ap_frm (mk := Value.int) (v0 := -2) (p := p1) (B := fun M2 => fR M2 0 12 7 (fun b4 => fI M2 b4 5 2 (fun x5 => if x5 = 0 then some (some (.int (-1)), M2) else fR M2 0 12 7 (fun b6 => cv M2 b6 5 (bI (F_Fram_placeOf b6 0 (iz o - iz o / 3 * 3) M2) (fun r8 M7 => F_NS_box_L50 fu 0 (iz o) r8 1 M7)))))) (D := fun M => bV (F_Md_gathers 70 p1 M) (fun M5 => F_Md_box_L33 fu 70 p1 (iz o) (iz (-1)) (iz 0) M5)) hI s01 s1 s2 hs hNg hMd0 (fun M' h' c' e => by rw [hMg M' h' e, if_pos g]) (fun t M1 L O pt t1 t2 i1 c1 k1 => ?_)
  have hk := c1.1
  have h1 := i1.1
  have a1 := i1.2.1
  have cs1 := c1.2.2.2.1
  have ll := fr_len hk k1
  subst pt
  have fg := fu_ge
  have om : 0 ≤ o % 3 ∧ o % 3 < 3 := by omega
  obtain ⟨M2, Lm, e2, g2⟩ := mGth h1 c1 t1 t2
  have lm := md_len hk g2.2.2.2.1
  obtain ⟨M3, e3, qM, g3⟩ := mFold (M0 := M1) (S := S) (t := t) (L := Lm) (fun n (x : Int) i M => F_Md_box_L33 n 70 (iz t) (iz o) (iz x) i M) (fun x M => some (some (.int (iz x)), M)) (fun x => -1 ≤ x ∧ x ≤ 400) (bxM o (fun c => pz S t c (o % 3) / 8)) (fun n x M qx hG => by
      show F_Md_box_L33 (n + 1) 70 (iz t) (iz o) (iz x) (iz (Lm.length : Int)) M = _
      rw [F_Md_box_L33, md_l hG.1 hG.2.2.2.1, ifE (by omega) (by omega) (by omega) (by omega), if_pos (Int.le_refl _)]) (fun n x i c M qx hG hi => by
      have fi := (md_in hG.2.2.2.1 hi).1
      have il := (md_in hG.2.2.2.1 hi).2
      have pb := pz_b3 hk fi (i := o % 3) (by omega) (by omega)
      obtain ⟨M', y1', z2, -⟩ := mPlAt hk hG hi (a := o % 3) (by omega) (by omega)
      refine ⟨M', ?_, by unfold bxM; dsimp only; split <;> (try split) <;> omega, z2⟩
      show F_Md_box_L33 (n + 1) 70 (iz t) (iz o) (iz x) (iz (i : Int)) M = F_Md_box_L33 n 70 (iz t) (iz o) (iz (bxM o (fun c => pz S t c (o % 3) / 8) x c)) (iz ((i + 1 : Nat) : Int)) M'
      rw [F_Md_box_L33, md_l hG.1 hG.2.2.2.1, ifE (by omega) (by omega) (by omega) (by omega), if_neg (by omega), cv_eq (kd_70 hG.1), show (3 : Int32) = iz 3 from rfl, iz_emod (by omega) (by omega) (by omega) (by omega), y1', bI_eq, show (8 : Int32) = iz 8 from rfl, iz_ediv (by omega) (by omega) (by omega) (by omega), nm_eq, show (-1 : Int32) = iz (-1) from rfl, ifQ (by omega) (by omega) (by omega) (by omega), show (1 : Int32) = iz 1 from rfl, iz_add, nm_eq, ifE (by omega) (by omega) (by omega) (by omega), max_eq (by omega) (by omega) (by omega) (by omega), bI_eq, min_eq (by omega) (by omega) (by omega) (by omega), bI_eq, nm_eq, nm_eq, show ((i : Int) + 1) = ((i + 1 : Nat) : Int) by omega]
      unfold bxM
      by_cases q1 : x = -1
      · rw [if_pos q1, if_pos q1]
      · rw [if_neg q1, if_neg q1]
        by_cases q2 : 3 ≤ o
        · rw [if_pos q2, if_pos q2]
        · rw [if_neg q2, if_neg q2]) (by omega) (-1) (by omega) g2
  have lp := (gf_perm g2.2.2.2.1 k1.1).length_eq
  cases hLc : L with
  | nil =>
    rw [hLc] at k1 lp
    have lz : Lm = [] := List.length_eq_zero_iff.mp lp
    rw [lz] at e3
    refine ⟨-1, M1, M3, ?_, h1, c1, ?_, i1.q g3.2.2.2.2⟩
    · show fR M1 0 12 7 _ = _
      rw [fR_eq (kd_0 h1) (rr_0_7 h1), fr_l h1 k1, if_pos (show iz (([] : List Int).length : Int) = 0 from rfl)]
    · show bV (F_Md_gathers 70 (iz t) M1) _ = _
      rw [e2, bV_eq]; exact e3
  | cons c0 K =>
    have hi0 : L[0]? = some c0 := by rw [hLc]; rfl
    have fi0 := (fr_in k1 hi0).1
    have pb0 := pz_b3 hk fi0 (i := o % 3) (by omega) (by omega)
    have pl0 := cPlOf h1 a1 hk k1 hi0 om.1 om.2
    have lc : 0 < L.length := by rw [hLc]; exact Nat.succ_pos _
    obtain ⟨Mx, eC, -, eM⟩ := fLoop (fun n (x : Int) i M => F_NS_box_L50 n 0 (iz o) (iz x) i M) (fun x M => some (some (.int (iz (x / 8))), M)) (fun x M => (0 ≤ x ∧ x ≤ 400) ∧ M = M1) (bxC o (fun c => pz S t c (o % 3))) L (fun n x M hR => by
      obtain ⟨qx, eM⟩ := hR
      rw [eM]
      show F_NS_box_L50 (n + 1) 0 (iz o) (iz x) (iz (L.length : Int)) M1 = _
      rw [F_NS_box_L50, fR_eq (kd_0 h1) (rr_0_7 h1), fr_l h1 k1, ifE (by omega) (by omega) (by omega) (by omega), if_pos (Int.le_refl _), show (8 : Int32) = iz 8 from rfl, iz_ediv (by omega) (by omega) (by omega) (by omega)]) (fun n x i c M hR hi => by
      obtain ⟨qx, eM⟩ := hR
      rw [eM]
      have fi := (fr_in k1 hi).1
      have il := (fr_in k1 hi).2
      have pb := pz_b3 hk fi (i := o % 3) (by omega) (by omega)
      refine ⟨M1, ?_, ⟨by unfold bxC; dsimp only; split <;> omega, rfl⟩⟩
      show F_NS_box_L50 (n + 1) 0 (iz o) (iz x) (iz (i : Int)) M1 = F_NS_box_L50 n 0 (iz o) (iz (bxC o (fun c => pz S t c (o % 3)) x c)) (iz ((i + 1 : Nat) : Int)) M1
      rw [F_NS_box_L50, fR_eq (kd_0 h1) (rr_0_7 h1), fr_l h1 k1, ifE (by omega) (by omega) (by omega) (by omega), if_neg (by omega), fR_eq (kd_0 h1) (rr_0_7 h1), cv_eq (kd_45 h1), show (3 : Int32) = iz 3 from rfl, iz_emod (by omega) (by omega) (by omega) (by omega), cPlOf h1 a1 hk k1 hi om.1 om.2, bI_eq, ifE (by omega) (by omega) (by omega) (by omega), max_eq (by omega) (by omega) (by omega) (by omega), bI_eq, min_eq (by omega) (by omega) (by omega) (by omega), bI_eq, nm_eq, nm_eq, show (1 : Int32) = iz 1 from rfl, iz_add, show ((i : Int) + 1) = ((i + 1 : Nat) : Int) by omega]
      unfold bxC
      by_cases q2 : 3 ≤ o
      · rw [if_pos q2, if_pos q2]
      · rw [if_neg q2, if_neg q2]) (L.length - 1) fu 1 (pz S t c0 (o % 3)) M1 (by omega) (by omega) ⟨by omega, rfl⟩
    rw [eM, hLc] at eC
    have mc := bxC_g (w := o) (f := fun c => pz S t c (o % 3)) (c0 := c0) (K := K)
    have eC' : F_NS_box_L50 fu 0 (iz o) (iz (pz S t c0 (o % 3))) (iz 1) M1 = some (some (.int (iz (K.foldl (bxC o (fun c => pz S t c (o % 3))) (pz S t c0 (o % 3)) / 8))), M1) := eC
    have mm := bxM_g (w := o) (f := fun c => pz S t c (o % 3) / 8) (L := Lm) (fun c hc => by
      have := pz_b3 hk ((g2.2.2.2.1.2.2.1 c).mp hc) (i := o % 3) (by omega) (by omega)
      show 0 ≤ pz S t c (o % 3) / 8
      omega)
    have eq : Lm.foldl (bxM o (fun c => pz S t c (o % 3) / 8)) (-1) = K.foldl (bxC o (fun c => pz S t c (o % 3))) (pz S t c0 (o % 3)) / 8 := by
      rcases mm with ⟨z, -⟩ | ⟨-, ⟨d, dm, de⟩, mall⟩
      · rw [z] at lp; rw [← lp] at lc; exact absurd lc (Nat.lt_irrefl 0)
      · obtain ⟨⟨d', dm', de'⟩, mall'⟩ := mc
        have mem : ∀ c, c ∈ Lm ↔ c ∈ c0 :: K := fun c => by rw [g2.2.2.2.1.2.2.1, ← hLc, k1.1.2]
        have y1 := mall d' ((mem d').mpr dm')
        have y2 := mall' d ((mem d).mp dm)
        simp only at de de' y1 y2
        by_cases q2 : 3 ≤ o
        · have y1' := y1.1 q2
          have y2' := y2.1 q2
          omega
        · have y1' := y1.2 q2
          have y2' := y2.2 q2
          omega
    rw [eq] at e3
    refine ⟨iz (K.foldl (bxC o (fun c => pz S t c (o % 3))) (pz S t c0 (o % 3)) / 8), M1, M3, ?_, h1, c1, ?_, i1.q g3.2.2.2.2⟩
    · show fR M1 0 12 7 _ = _
      rw [fR_eq (kd_0 h1) (rr_0_7 h1), fr_l h1 k1, show (0 : Int32) = iz 0 from rfl, ifQ (by omega) (by omega) (by omega) (by omega), if_neg (by omega), fR_eq (kd_0 h1) (rr_0_7 h1), cv_eq (kd_45 h1), show (3 : Int32) = iz 3 from rfl, iz_emod (by omega) (by omega) (by omega) (by omega), show (iz 0) = iz ((0 : Nat) : Int) from rfl, pl0, bI_eq]
      exact eC'
    · show bV (F_Md_gathers 70 (iz t) M1) _ = _
      rw [e2, bV_eq]; exact e3
end FrBox
