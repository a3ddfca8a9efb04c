/-! ===== nearest ===== -/
section FrNear
variable {M : am_M} {S : Sc} {t : Int}
theorem foldl_ind {X : Type} {P : List Int → X → Prop} {stp : X → Int → X} {L : List Int} (hs : ∀ K x c, (∃ rest, K ++ c :: rest = L) → P K x → P (K ++ [c]) (stp x c)) : ∀ (R K : List Int) (x : X), K ++ R = L → P K x → P L (R.foldl stp x)
  | [], K, x, e, h => by rw [List.append_nil] at e; rw [← e]; exact h
  | c :: R, K, x, e, h => by
    rw [List.foldl_cons]
    exact foldl_ind hs R (K ++ [c]) (stp x c) (by rw [List.append_assoc]; exact e) (hs K x c ⟨R, e⟩ h)
/-- the least of a row by d, then by code -/
def AM (p : Int → Prop) (d : Int → Int) (K : List Int) (x : Int × Int) : Prop := ((∀ c ∈ K, ¬ p c) ∧ x.1 = -1) ∨ (x.1 ∈ K ∧ p x.1 ∧ x.2 = d x.1 ∧ ∀ c ∈ K, p c → d x.1 < d c ∨ (d x.1 = d c ∧ x.1 ≤ c))
theorem AM_uniq {p : Int → Prop} {d : Int → Int} {K K' : List Int} {x x' : Int × Int} (h : AM p d K x) (h' : AM p d K' x') (hm : ∀ c, c ∈ K ↔ c ∈ K') : x.1 = x'.1 := by
  rcases h with ⟨a1, a2⟩ | ⟨a1, a2, a3, a4⟩
  · rcases h' with ⟨b1, b2⟩ | ⟨b1, b2, b3, b4⟩
    · rw [a2, b2]
    · exact absurd b2 (a1 _ ((hm _).mpr b1))
  · rcases h' with ⟨b1, b2⟩ | ⟨b1, b2, b3, b4⟩
    · exact absurd a2 (b1 _ ((hm _).mp a1))
    · have z1 := a4 x'.1 ((hm _).mpr b1) b2
      have z2 := b4 x.1 ((hm _).mp a1) a2
      omega
theorem AM_no {p : Int → Prop} {d : Int → Int} {K : List Int} {x : Int × Int} {c : Int} (h : AM p d K x) (hp : ¬ p c) : AM p d (K ++ [c]) x := by
  rcases h with ⟨a1, a2⟩ | ⟨a1, a2, a3, a4⟩
  · refine Or.inl ⟨fun e he => ?_, a2⟩
    rcases List.mem_append.mp he with q | q
    · exact a1 e q
    · have : e = c := by simpa using q
      rw [this]; exact hp
  · refine Or.inr ⟨List.mem_append.mpr (Or.inl a1), a2, a3, fun e he pe => ?_⟩
    rcases List.mem_append.mp he with q | q
    · exact a4 e q pe
    · have : e = c := by simpa using q
      rw [this] at pe; exact absurd pe hp
theorem AM_keep {p : Int → Prop} {d : Int → Int} {K : List Int} {x : Int × Int} {c : Int} (h : AM p d K x) (hx : x.1 ≠ -1) (hc : x.2 < d c ∨ (x.2 = d c ∧ x.1 ≤ c)) : AM p d (K ++ [c]) x := by
  rcases h with ⟨a1, a2⟩ | ⟨a1, a2, a3, a4⟩
  · exact absurd a2 hx
  · refine Or.inr ⟨List.mem_append.mpr (Or.inl a1), a2, a3, fun e he pe => ?_⟩
    rcases List.mem_append.mp he with q | q
    · exact a4 e q pe
    · have : e = c := by simpa using q
      rw [this]; omega
theorem AM_take {p : Int → Prop} {d : Int → Int} {K : List Int} {x : Int × Int} {c : Int} (h : AM p d K x) (hp : p c) (hc : x.1 = -1 ∨ d c < x.2 ∨ (d c = x.2 ∧ c ≤ x.1)) (hK : ∀ e ∈ K, e ≠ -1) : AM p d (K ++ [c]) (c, d c) := by
  refine Or.inr ⟨List.mem_append.mpr (Or.inr (List.mem_singleton.mpr rfl)), hp, rfl, fun e he pe => ?_⟩
  show d c < d e ∨ (d c = d e ∧ c ≤ e)
  rcases List.mem_append.mp he with q | q
  · rcases h with ⟨a1, a2⟩ | ⟨a1, a2, a3, a4⟩
    · exact absurd pe (a1 e q)
    · have := a4 e q pe
      have := hK x.1 a1
      omega
  · have : e = c := by simpa using q
    rw [this]; omega
noncomputable def nrC (d : Int → Int) (x : Int × Int) (c : Int) : Int × Int := if x.1 = -1 then (c, d c) else if x.2 ≤ d c then x else (c, d c)
noncomputable def nrM (d : Int → Int) (x : Int × Int) (c : Int) : Int × Int := if x.1 = -1 then (c, d c) else if x.2 < d c then x else if d c = x.2 then (if c ≤ x.1 then (c, d c) else x) else (c, d c)
theorem nrC_am {d : Int → Int} {L : List Int} (hL : L.Pairwise (· < ·)) (h0 : ∀ c ∈ L, 0 ≤ c) : AM (fun _ => True) d L (L.foldl (nrC d) (-1, 0)) := by
  refine foldl_ind (P := fun K x => AM (fun _ => True) d K x) (fun K x c hr h => ?_) L [] (-1, 0) (List.nil_append _) (Or.inl ⟨fun c hc => (List.not_mem_nil hc).elim, rfl⟩)
  obtain ⟨rest, hr⟩ := hr
  have hp : ∀ e ∈ K, e < c := fun e he => by
    rw [← hr] at hL
    exact (List.pairwise_append.mp hL).2.2 e he c (List.mem_cons_self ..)
  have hK : ∀ e ∈ K, e ≠ -1 := fun e he => by have := h0 e (by rw [← hr]; exact List.mem_append.mpr (Or.inl he)); omega
  unfold nrC
  by_cases q1 : x.1 = -1
  · rw [if_pos q1]; exact AM_take h trivial (Or.inl q1) hK
  · rw [if_neg q1]
    by_cases q2 : x.2 ≤ d c
    · rw [if_pos q2]
      have xm : x.1 ∈ K := by
        rcases h with z | z
        · exact absurd z.2 q1
        · exact z.1
      have := hp x.1 xm
      exact AM_keep h q1 (by omega)
    · rw [if_neg q2]; exact AM_take h trivial (by omega) hK
theorem nrM_am {d : Int → Int} {L : List Int} (h0 : ∀ c ∈ L, 0 ≤ c) : AM (fun _ => True) d L (L.foldl (nrM d) (-1, 0)) := by
  refine foldl_ind (P := fun K x => AM (fun _ => True) d K x) (fun K x c hr h => ?_) L [] (-1, 0) (List.nil_append _) (Or.inl ⟨fun c hc => (List.not_mem_nil hc).elim, rfl⟩)
  obtain ⟨rest, hr⟩ := hr
  have hK : ∀ e ∈ K, e ≠ -1 := fun e he => by have := h0 e (by rw [← hr]; exact List.mem_append.mpr (Or.inl he)); omega
  unfold nrM
  by_cases q1 : x.1 = -1
  · rw [if_pos q1]; exact AM_take h trivial (Or.inl q1) hK
  · rw [if_neg q1]
    by_cases q2 : x.2 < d c
    · rw [if_pos q2]; exact AM_keep h q1 (by omega)
    · rw [if_neg q2]
      by_cases q3 : d c = x.2
      · rw [if_pos q3]
        by_cases q4 : c ≤ x.1
        · rw [if_pos q4]; exact AM_take h trivial (by omega) hK
        · rw [if_neg q4]; exact AM_keep h q1 (by omega)
      · rw [if_neg q3]; exact AM_take h trivial (by omega) hK
def NQ (x : Int × Int) : Prop := (-1 ≤ x.1 ∧ x.1 ≤ 51200000) ∧ (0 ≤ x.2 ∧ x.2 ≤ 400000)
theorem ap_nearest (hI : Inv M) (p1 p2 p3 p4 : Int32) : Ag (F_NS_nearest 0 p1 p2 p3 p4) (F_Md_nearest 70 p1 p2 p3 p4) M := by
  obtain ⟨h, -⟩ := id hI
  obtain ⟨S, st, s01, s1, s2, hc, hm, hb, hs, h0⟩ := hI.sc
  obtain ⟨x, x1, x2, rfl⟩ := iz_of p2
  obtain ⟨y, y1, y2, rfl⟩ := iz_of p3
  obtain ⟨z, z1, z2, rfl⟩ := iz_of p4
  have hMd0 : ∀ M', SH M' → F_Md_isTick 70 p1 M' = some (some (.int (iz 0)), M') → F_Md_nearest 70 p1 (iz x) (iz y) (iz z) M' = some (some (.int (-2)), M') := fun M' h' e => by
    unfold F_Md_nearest; rw [cv_eq (kd_70 h'), e, bI_eq, if_pos (by decide)]
  have hMg : ∀ M', SH M' → MS M' S → F_Md_isTick 70 p1 M' = some (some (.int (iz 1)), M') → (inC S x y z ∧ F_Md_nearest 70 p1 (iz x) (iz y) (iz z) M' = bV (F_Md_gathers 70 p1 M') (fun M5 => F_Md_nearest_L36 fu 70 p1 (iz x) (iz y) (iz z) (iz (-1)) (jz 0) (iz 0) M5)) ∨ (¬ inC S x y z ∧ F_Md_nearest 70 p1 (iz x) (iz y) (iz z) M' = some (some (.int (-2)), M')) := fun M' h' m' e => by
    unfold F_Md_nearest
    rw [cv_eq (kd_70 h'), e, bI_eq, if_neg (by decide), cv_eq (kd_70 h')]
    rcases mCell3 h' m' hb x1 x2 y1 y2 z1 z2 with ⟨q, e2⟩ | ⟨q, e2⟩
    · rw [e2, bI_eq, if_neg (by decide), cv_eq (kd_70 h')]; exact Or.inl ⟨q, rfl⟩
    · rw [e2, bI_eq, if_pos (by decide)]; exact Or.inr ⟨q, rfl⟩
  have hNg : (inC S x y z ∧ F_NS_nearest 0 p1 (iz x) (iz y) (iz z) M = bI (F_Fram_shows 45 p1 M) (fun r3 M2 => if r3 = 0 then some (some (.int (-2)), M2) else F_NS_nearest_L37 fu 0 (iz x) (iz y) (iz z) (iz (-1)) (iz 0) (iz 0) M2)) ∨ (¬ inC S x y z ∧ F_NS_nearest 0 p1 (iz x) (iz y) (iz z) M = some (some (.int (-2)), M)) := by
    unfold F_NS_nearest
    rw [fR_eq (kd_0 h) (rr_0_2 h), cv_eq (kd_2 h)]
    rcases cCW h hc hb x1 x2 y1 y2 z1 z2 with ⟨q, e2⟩ | ⟨q, e2⟩
    · rw [e2, bI_eq, if_neg (by decide), fR_eq (kd_0 h) (rr_0_7 h), cv_eq (kd_45 h)]; exact Or.inl ⟨q, rfl⟩
    · rw [e2, bI_eq, if_pos (by decide)]; exact Or.inr ⟨q, rfl⟩
  rcases hNg with ⟨g, hNg⟩ | ⟨g, hNg⟩
  rotate_left
  · refine ap_no (mk := Value.int) (v0 := -2) hI hNg ?_
    rcases mTk hI s01 s2 hs p1 with e | ⟨e0, e⟩
    · exact hMd0 M h e
    · rcases hMg M h hm e with ⟨q, -⟩ | ⟨-, q⟩
      · exact absurd q g
      · exact q
  refine ap_frm (mk := Value.int) (v0 := -2) (p := p1) (B := fun M => F_NS_nearest_L37 fu 0 (iz x) (iz y) (iz z) (iz (-1)) (iz 0) (iz 0) M) (D := fun M => bV (F_Md_gathers 70 p1 M) (fun M5 => F_Md_nearest_L36 fu 70 p1 (iz x) (iz y) (iz z) (iz (-1)) (jz 0) (iz 0) M5)) hI s01 s1 s2 hs hNg hMd0 (fun M' h' c' e => ?_) (fun t M1 L O pt t1 t2 i1 c1 k1 => ?_)
  · rcases hMg M' h' c'.2.2.2.2.1 e with ⟨-, q⟩ | ⟨q, -⟩
    · exact q
    · exact absurd g q
  ·
    have hk := c1.1
    have h1 := i1.1
    have a1 := i1.2.1
    have cs1 := c1.2.2.2.1
    have ll := fr_len hk k1
    subst pt
    obtain ⟨eC, qC⟩ := cFold (M1 := M1) (L := L) (fun n (w : Int × Int) i M => F_NS_nearest_L37 n 0 (iz x) (iz y) (iz z) (iz w.1) (iz w.2) i M) (fun w M => some (some (.int (iz w.1)), M)) (NQ) (nrC (dsq S t x y z)) (fun n w qx => by
      show F_NS_nearest_L37 (n + 1) 0 (iz x) (iz y) (iz z) (iz w.1) (iz w.2) (iz (L.length : Int)) M1 = _
      rw [F_NS_nearest_L37, fR_eq (kd_0 h1) (rr_0_7 h1), fr_l h1 k1, ifE (by omega) (by omega) (by omega) (by omega), if_pos (Int.le_refl _)]) (fun n w i c qx hi => by
      have fi := (fr_in k1 hi).1
      have il := (fr_in k1 hi).2
      have db := dsq_bd hk g fi
      have cb := sp_rt hk fi.1
      have c0 := fi.1.1
      have wx := qx.1
      have wy := qx.2
      refine ⟨?_, by unfold NQ at qx ⊢; unfold nrC; split <;> (try split) <;> (try split) <;> (try split) <;> (first | exact qx | (show (-1 ≤ c ∧ c ≤ 51200000) ∧ (0 ≤ dsq S t x y z c ∧ dsq S t x y z c ≤ 400000); omega))⟩
      show F_NS_nearest_L37 (n + 1) 0 (iz x) (iz y) (iz z) (iz w.1) (iz w.2) (iz (i : Int)) M1 = F_NS_nearest_L37 n 0 (iz x) (iz y) (iz z) (iz (nrC (dsq S t x y z) w c).1) (iz (nrC (dsq S t x y z) w c).2) (iz ((i + 1 : Nat) : Int)) M1
      rw [F_NS_nearest_L37, fR_eq (kd_0 h1) (rr_0_7 h1), fr_l h1 k1, ifE (by omega) (by omega) (by omega) (by omega), if_neg (by omega), fR_eq (kd_0 h1) (rr_0_7 h1), cv_eq (kd_45 h1), cFar h1 a1 hk k1 hi, bI_eq, show (-1 : Int32) = iz (-1) from rfl, ifQ (by omega) (by omega) (by omega) (by omega), ifE (by omega) (by omega) (by omega) (by omega), show (1 : Int32) = iz 1 from rfl, iz_add, nm_eq, show ((i : Int) + 1) = ((i + 1 : Nat) : Int) by omega]
      unfold nrC
      by_cases q1 : w.1 = -1
      · rw [if_pos q1, if_pos q1]
        unfold F_NS_nearest_L77
        rw [fR_eq (kd_0 h1) (rr_0_7 h1), cv_eq (kd_45 h1), fr_cd h1 a1 k1 hi, bI_eq, nm_eq, show (1 : Int32) = iz 1 from rfl, iz_add, show ((i : Int) + 1) = ((i + 1 : Nat) : Int) by omega]
      · rw [if_neg q1, if_neg q1]
        by_cases q2 : w.2 ≤ dsq S t x y z c
        · rw [if_pos q2, if_pos q2]
        · rw [if_neg q2, if_neg q2]
          unfold F_NS_nearest_L77
          rw [fR_eq (kd_0 h1) (rr_0_7 h1), cv_eq (kd_45 h1), fr_cd h1 a1 k1 hi, bI_eq, nm_eq, show (1 : Int32) = iz 1 from rfl, iz_add, show ((i : Int) + 1) = ((i + 1 : Nat) : Int) by omega]) (by omega) (-1, 0) (by unfold NQ; omega)
    obtain ⟨M2, Lm, e2, g2⟩ := mGth h1 c1 t1 t2
    have lm := md_len hk g2.2.2.2.1
    obtain ⟨M3, e3, qM, g3⟩ := mFold (M0 := M1) (S := S) (t := t) (L := Lm) (fun n (w : Int × Int) i M => F_Md_nearest_L36 n 70 (iz t) (iz x) (iz y) (iz z) (iz w.1) (jz w.2) i M) (fun w M => some (some (.int (iz w.1)), M)) (NQ) (nrM (dsq S t x y z)) (fun n w M qx hG => by
      show F_Md_nearest_L36 (n + 1) 70 (iz t) (iz x) (iz y) (iz z) (iz w.1) (jz w.2) (iz (Lm.length : Int)) M = _
      rw [F_Md_nearest_L36, md_l hG.1 hG.2.2.2.1, ifE (by omega) (by omega) (by omega) (by omega), if_pos (Int.le_refl _)]) (fun n w i c M qx hG hi => by
      have fi := (md_in hG.2.2.2.1 hi).1
      have il := (md_in hG.2.2.2.1 hi).2
      have db := dsq_bd hk g fi
      have cb := sp_rt hk fi.1
      have c0 := fi.1.1
      have wx := qx.1
      have wy := qx.2
      obtain ⟨M', y1', z2'⟩ := mSqu hk hG hi x1 x2 y1 y2 z1 z2
      refine ⟨M', ?_, by unfold NQ at qx ⊢; unfold nrM; split <;> (try split) <;> (try split) <;> (try split) <;> (first | exact qx | (show (-1 ≤ c ∧ c ≤ 51200000) ∧ (0 ≤ dsq S t x y z c ∧ dsq S t x y z c ≤ 400000); omega)), z2'⟩
      show F_Md_nearest_L36 (n + 1) 70 (iz t) (iz x) (iz y) (iz z) (iz w.1) (jz w.2) (iz (i : Int)) M = F_Md_nearest_L36 n 70 (iz t) (iz x) (iz y) (iz z) (iz (nrM (dsq S t x y z) w c).1) (jz (nrM (dsq S t x y z) w c).2) (iz ((i + 1 : Nat) : Int)) M'
      rw [F_Md_nearest_L36, md_l hG.1 hG.2.2.2.1, ifE (by omega) (by omega) (by omega) (by omega), if_neg (by omega), cv_eq (kd_70 hG.1), y1', bL_eq, cv_eq (kd_70 z2'.1), mCode z2'.1 hk z2'.2.2.2.1 hi, bI_eq, show (-1 : Int32) = iz (-1) from rfl, show (0 : Int32) = iz 0 from rfl, show (1 : Int32) = iz 1 from rfl, ifQ (by omega) (by omega) (by omega) (by omega), ifE (by omega) (by omega) (by omega) (by omega), iz_add, nm_eq, nm_eq, show ((i : Int) + 1) = ((i + 1 : Nat) : Int) by omega]
      unfold nrM
      by_cases q1 : w.1 = -1
      · rw [if_pos q1, if_pos q1]
      · rw [if_neg q1, if_neg q1]
        have cg : (iz 0 < lg_cmp (jz (dsq S t x y z c)) (jz w.2)) ↔ w.2 < dsq S t x y z c := (cmp_gt0 _ _).trans (jz_lt (by omega) (by omega) (by omega) (by omega))
        have cq : (lg_cmp (jz (dsq S t x y z c)) (jz w.2) = iz 0) ↔ dsq S t x y z c = w.2 := by
          have l := (cmp_le0 (jz (dsq S t x y z c)) (jz w.2)).trans (jz_le (by omega) (by omega) (by omega) (by omega))
          have r := (cmp_ge0 (jz (dsq S t x y z c)) (jz w.2)).trans (jz_le (by omega) (by omega) (by omega) (by omega))
          constructor
          · intro e
            have l1 := l.mp (by rw [e]; decide)
            have r1 := r.mp (by rw [e]; decide)
            omega
          · intro e
            have l1 := l.mpr (by omega)
            have r1 := r.mpr (by omega)
            exact Int32.le_antisymm l1 r1
        by_cases q2 : w.2 < dsq S t x y z c
        · rw [if_pos (cg.mpr q2), if_pos q2]
        · rw [if_neg (fun q => q2 (cg.mp q)), if_neg q2]
          by_cases q3 : dsq S t x y z c = w.2
          · rw [if_pos (cq.mpr q3), if_pos q3]
            by_cases q4 : c ≤ w.1
            · rw [if_pos q4, if_pos q4]
            · rw [if_neg q4, if_neg q4]
          · rw [if_neg (fun q => q3 (cq.mp q)), if_neg q3]) (by omega) (-1, 0) (by unfold NQ; omega) g2
    have am : (Lm.foldl (nrM (dsq S t x y z)) (-1, 0)).1 = (L.foldl (nrC (dsq S t x y z)) (-1, 0)).1 := AM_uniq (nrM_am (fun c hc => ((g2.2.2.2.1.2.2.1 c).mp hc).1.1)) (nrC_am k1.1.1 (fun c hc => ((k1.1.2 c).mp hc).1.1)) (fun c => by rw [g2.2.2.2.1.2.2.1, k1.1.2])
    refine ⟨iz (L.foldl (nrC (dsq S t x y z)) (-1, 0)).1, M1, M3, eC, h1, c1, ?_, i1.q g3.2.2.2.2⟩
    show bV (F_Md_gathers 70 (iz t) M1) _ = _
    rw [e2, bV_eq, ← am]
    exact e3
end FrNear
