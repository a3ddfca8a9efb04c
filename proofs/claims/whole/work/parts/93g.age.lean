/-! ===== ofAge ===== -/
section FrAge
variable {M : am_M} {S : Sc} {t : Int}
abbrev AgX : Type := (Int × Int) × (Int × Int)
noncomputable def nrA (d : Int → Int) (x : Int × Int) (c : Int) : Int × Int := if x.2 < d c then x else if d c = x.2 then (if c ≤ x.1 then (c, d c) else x) else (c, d c)
noncomputable def agC (S : Sc) (t g : Int) (x : AgX) (c : Int) : AgX := if gen c = g then ((x.1.1 + 1, x.1.2 + (t - kBn (lay S c))), nrC (fun c => kBn (lay S c)) x.2 c) else x
noncomputable def agM (S : Sc) (t g : Int) (x : AgX) (c : Int) : AgX := if gen c = g then ((x.1.1 + 1, x.1.2 + (t - kBn (lay S c))), nrA (fun c => kBn (lay S c)) x.2 c) else x
noncomputable def agS (S : Sc) (t g c : Int) : Int := if gen c = g then t - kBn (lay S c) else 0
theorem agC_g {g : Int} {L : List Int} (hL : L.Pairwise (· < ·)) (h0 : ∀ c ∈ L, 0 ≤ c) : (L.foldl (agC S t g) ((0, 0), (-1, 0))).1.1 = cnt (fun c => gen c = g) L ∧ (L.foldl (agC S t g) ((0, 0), (-1, 0))).1.2 = lsm (agS S t g) L ∧ AM (fun c => gen c = g) (fun c => kBn (lay S c)) L (L.foldl (agC S t g) ((0, 0), (-1, 0))).2 := by
  refine foldl_ind (P := fun K (x : AgX) => x.1.1 = cnt (fun c => gen c = g) K ∧ x.1.2 = lsm (agS S t g) K ∧ AM (fun c => gen c = g) (fun c => kBn (lay S c)) K x.2) (fun K x c hr h => ?_) L [] ((0, 0), (-1, 0)) (List.nil_append _) ⟨rfl, rfl, Or.inl ⟨fun c hc => (List.not_mem_nil hc).elim, rfl⟩⟩
  obtain ⟨rest, hr⟩ := hr
  obtain ⟨a1, a2, h⟩ := h
  have hp : ∀ e ∈ K, e < c := fun e he => by
    rw [← hr] at hL
    exact (List.pairwise_append.mp hL).2.2 e he c (List.mem_cons_self ..)
  have hK : ∀ e ∈ K, e ≠ -1 := fun e he => by have := h0 e (by rw [← hr]; exact List.mem_append.mpr (Or.inl he)); omega
  unfold agC
  by_cases q : gen c = g
  · rw [if_pos q, cnt_1t (p := fun c => gen c = g) q, lsm_1]
    refine ⟨by rw [← a1], by rw [← a2]; unfold agS; rw [if_pos q], ?_⟩
    show AM _ _ (K ++ [c]) (nrC (fun c => kBn (lay S c)) x.2 c)
    unfold nrC
    by_cases q1 : x.2.1 = -1
    · rw [if_pos q1]; exact AM_take (d := fun c => kBn (lay S c)) h q (Or.inl q1) hK
    · rw [if_neg q1]
      by_cases q2 : x.2.2 ≤ kBn (lay S c)
      · rw [if_pos q2]
        have xm : x.2.1 ∈ K := by
          rcases h with z | z
          · exact absurd z.2 q1
          · exact z.1
        have := hp x.2.1 xm
        exact AM_keep h q1 (show x.2.2 < kBn (lay S c) ∨ (x.2.2 = kBn (lay S c) ∧ x.2.1 ≤ c) by omega)
      · rw [if_neg q2]; exact AM_take (d := fun c => kBn (lay S c)) h q (show x.2.1 = -1 ∨ kBn (lay S c) < x.2.2 ∨ (kBn (lay S c) = x.2.2 ∧ c ≤ x.2.1) by omega) hK
  · rw [if_neg q, cnt_1f (p := fun c => gen c = g) q, lsm_1]
    exact ⟨a1, by rw [← a2]; unfold agS; rw [if_neg q, Int.add_zero], AM_no h q⟩
theorem agM_g {g : Int} {L : List Int} (h0 : ∀ c ∈ L, inFr S t c) : (L.foldl (agM S t g) ((0, 0), (-1, t + 1))).1.1 = cnt (fun c => gen c = g) L ∧ (L.foldl (agM S t g) ((0, 0), (-1, t + 1))).1.2 = lsm (agS S t g) L ∧ AM (fun c => gen c = g) (fun c => kBn (lay S c)) L (L.foldl (agM S t g) ((0, 0), (-1, t + 1))).2 := by
  have : (L.foldl (agM S t g) ((0, 0), (-1, t + 1))).1.1 = cnt (fun c => gen c = g) L ∧ (L.foldl (agM S t g) ((0, 0), (-1, t + 1))).1.2 = lsm (agS S t g) L ∧ AM (fun c => gen c = g) (fun c => kBn (lay S c)) L (L.foldl (agM S t g) ((0, 0), (-1, t + 1))).2 ∧ ((L.foldl (agM S t g) ((0, 0), (-1, t + 1))).2.1 = -1 → (L.foldl (agM S t g) ((0, 0), (-1, t + 1))).2.2 = t + 1) := by
    refine foldl_ind (P := fun K (x : AgX) => x.1.1 = cnt (fun c => gen c = g) K ∧ x.1.2 = lsm (agS S t g) K ∧ AM (fun c => gen c = g) (fun c => kBn (lay S c)) K x.2 ∧ (x.2.1 = -1 → x.2.2 = t + 1)) (fun K x c hr h => ?_) L [] ((0, 0), (-1, t + 1)) (List.nil_append _) ⟨rfl, rfl, Or.inl ⟨fun c hc => (List.not_mem_nil hc).elim, rfl⟩, fun _ => rfl⟩
    obtain ⟨rest, hr⟩ := hr
    obtain ⟨a1, a2, h, a4⟩ := h
    have hf : inFr S t c := h0 c (by rw [← hr]; exact List.mem_append.mpr (Or.inr (List.mem_cons_self ..)))
    have f1 := hf.2.1
    have c0 := hf.1.1
    have hK : ∀ e ∈ K, e ≠ -1 := fun e he => by have := (h0 e (by rw [← hr]; exact List.mem_append.mpr (Or.inl he))).1.1; omega
    unfold agM
    by_cases q : gen c = g
    · rw [if_pos q, cnt_1t (p := fun c => gen c = g) q, lsm_1]
      refine ⟨by rw [← a1], by rw [← a2]; unfold agS; rw [if_pos q], ?_⟩
      show AM _ _ (K ++ [c]) (nrA (fun c => kBn (lay S c)) x.2 c) ∧ ((nrA (fun c => kBn (lay S c)) x.2 c).1 = -1 → (nrA (fun c => kBn (lay S c)) x.2 c).2 = t + 1)
      unfold nrA
      by_cases q1 : x.2.2 < kBn (lay S c)
      · rw [if_pos q1]
        have ne : x.2.1 ≠ -1 := fun z => by have := a4 z; omega
        exact ⟨AM_keep h ne (Or.inl q1), a4⟩
      · rw [if_neg q1]
        by_cases q2 : kBn (lay S c) = x.2.2
        · rw [if_pos q2]
          have ne : x.2.1 ≠ -1 := fun z => by have := a4 z; omega
          by_cases q3 : c ≤ x.2.1
          · rw [if_pos q3]; exact ⟨AM_take (d := fun c => kBn (lay S c)) h q (Or.inr (Or.inr ⟨q2, q3⟩)) hK, fun z => by have : c = -1 := z; omega⟩
          · rw [if_neg q3]; exact ⟨AM_keep h ne (show x.2.2 < kBn (lay S c) ∨ (x.2.2 = kBn (lay S c) ∧ x.2.1 ≤ c) by omega), a4⟩
        · rw [if_neg q2]; exact ⟨AM_take (d := fun c => kBn (lay S c)) h q (show x.2.1 = -1 ∨ kBn (lay S c) < x.2.2 ∨ (kBn (lay S c) = x.2.2 ∧ c ≤ x.2.1) by omega) hK, fun z => by have : c = -1 := z; omega⟩
    · rw [if_neg q, cnt_1f (p := fun c => gen c = g) q, lsm_1]
      exact ⟨a1, by rw [← a2]; unfold agS; rw [if_neg q, Int.add_zero], AM_no h q, a4⟩
  exact ⟨this.1, this.2.1, this.2.2.1⟩
def AgQ (x : AgX) : Prop := (-1 ≤ x.2.1 ∧ x.2.1 ≤ 51200000) ∧ (0 ≤ x.2.2 ∧ x.2.2 ≤ 40000)
def agR (w : Int) (x : AgX) : Int := if w = 2 then x.2.1 else if w = 0 then x.1.1 else x.1.2
theorem ap_ofAge (hI : Inv M) (p1 p2 p3 : Int32) : Ag (F_NS_ofAge 0 p1 p2 p3) (F_Md_ofAge 70 p1 p2 p3) M := by
  obtain ⟨h, -⟩ := id hI
  obtain ⟨S, st, s01, s1, s2, hc, hm, hb, hs, h0⟩ := hI.sc
  obtain ⟨g, g1, g2', rfl⟩ := iz_of p2
  obtain ⟨w, w1, w2, rfl⟩ := iz_of p3
  have hMd0 : ∀ M', SH M' → F_Md_isTick 70 p1 M' = some (some (.int (iz 0)), M') → F_Md_ofAge 70 p1 (iz g) (iz w) M' = some (some (.int (-2)), M') := fun M' h' e => by
    unfold F_Md_ofAge; rw [cv_eq (kd_70 h'), e, bI_eq, if_pos (by decide)]
  have hMg : ∀ M', SH M' → F_Md_isTick 70 p1 M' = some (some (.int (iz 1)), M') → F_Md_ofAge 70 p1 (iz g) (iz w) M' = if (0 ≤ g ∧ g ≤ 2) ∧ (0 ≤ w ∧ w ≤ 2) then bV (F_Md_gathers 70 p1 M') (fun M5 => F_Md_ofAge_L55 fu 70 p1 (iz g) (iz w) (iz 0) (iz 0) (iz (-1)) (iz (-1)) (iz 0) M5) else some (some (.int (-2)), M') := fun M' h' e => by
    unfold F_Md_ofAge; rw [cv_eq (kd_70 h'), e, bI_eq, if_neg (by decide), show (0 : Int64) = jz 0 from rfl, show (2 : Int64) = jz 2 from rfl, mInL g 0 2 g1 g2' (by omega) (by omega) (by omega) (by omega), bI_eq, bz_if0, mInL w 0 2 w1 w2 (by omega) (by omega) (by omega) (by omega), bI_eq, bz_if0, cv_eq (kd_70 h')]
    by_cases q1 : 0 ≤ g ∧ g ≤ 2
    · rw [if_pos q1]
      by_cases q2 : 0 ≤ w ∧ w ≤ 2
      · rw [if_pos q2, if_pos ⟨q1, q2⟩]; rfl
      · rw [if_neg q2, if_neg (fun z => q2 z.2)]
    · rw [if_neg q1, if_neg (fun z => q1 z.1)]
  have hNg : F_NS_ofAge 0 p1 (iz g) (iz w) M = if g < 0 then some (some (.int (-2)), M) else if 3 ≤ g then some (some (.int (-2)), M) else if w < 0 then some (some (.int (-2)), M) else if 2 < w then some (some (.int (-2)), M) else bI (F_Fram_shows 45 p1 M) (fun r3 M2 => if r3 = 0 then some (some (.int (-2)), M2) else F_NS_ofAge_L47 fu 0 p1 (iz g) (iz w) (iz 0) (iz 0) (iz (-1)) (iz 0) (iz 0) M2) := by
    unfold F_NS_ofAge
    rw [show (0 : Int32) = iz 0 from rfl, show (3 : Int32) = iz 3 from rfl, show (2 : Int32) = iz 2 from rfl, ifL g1 g2' (by omega) (by omega), ifE (by omega) (by omega) g1 g2', ifL w1 w2 (by omega) (by omega), ifL (by omega) (by omega) w1 w2, fR_eq (kd_0 h) (rr_0_7 h), cv_eq (kd_45 h)]
    rfl
  by_cases gg : (0 ≤ g ∧ g ≤ 2) ∧ (0 ≤ w ∧ w ≤ 2)
  rotate_left
  · refine ap_no (mk := Value.int) (v0 := -2) hI ?_ ?_
    · rw [hNg]
      by_cases q : g < 0
      · rw [if_pos q]
      rw [if_neg q]
      by_cases q : 3 ≤ g
      · rw [if_pos q]
      rw [if_neg q]
      by_cases q : w < 0
      · rw [if_pos q]
      rw [if_neg q, if_pos (by omega)]
    · rcases mTk hI s01 s2 hs p1 with e | ⟨e0, e⟩
      · exact hMd0 M h e
      · rw [hMg M h e, if_neg gg]
  rw [if_neg (by omega), if_neg (by omega), if_neg (by omega), if_neg (by omega)] at hNg
  refine ap_frm (mk := Value.int) (v0 := -2) (p := p1) (B := fun M2 => F_NS_ofAge_L47 fu 0 p1 (iz g) (iz w) (iz 0) (iz 0) (iz (-1)) (iz 0) (iz 0) M2) (D := fun M => bV (F_Md_gathers 70 p1 M) (fun M5 => F_Md_ofAge_L55 fu 70 p1 (iz g) (iz w) (iz 0) (iz 0) (iz (-1)) (iz (-1)) (iz 0) M5)) hI s01 s1 s2 hs hNg hMd0 (fun M' h' c' e => by rw [hMg M' h' e, if_pos gg]) (fun t M1 L O pt t1 t2 i1 c1 k1 => ?_)
  ·
    have hk := c1.1
    have h1 := i1.1
    have a1 := i1.2.1
    have cs1 := c1.2.2.2.1
    have ll := fr_len hk k1
    subst pt
    obtain ⟨eC, qC⟩ := cFold (M1 := M1) (L := L) (fun n (x : AgX) i M => F_NS_ofAge_L47 n 0 (iz t) (iz g) (iz w) (iz x.1.1) (iz x.1.2) (iz x.2.1) (iz x.2.2) i M) (fun x M => some (some (.int (iz (agR w x))), M)) (AgQ) (agC S t g) (fun n x qx => by
      show F_NS_ofAge_L47 (n + 1) 0 (iz t) (iz g) (iz w) (iz x.1.1) (iz x.1.2) (iz x.2.1) (iz x.2.2) (iz (L.length : Int)) M1 = _
      rw [F_NS_ofAge_L47, fR_eq (kd_0 h1) (rr_0_7 h1), fr_l h1 k1, ifE (by omega) (by omega) (by omega) (by omega), if_pos (Int.le_refl _), show (2 : Int32) = iz 2 from rfl, show (0 : Int32) = iz 0 from rfl, ifQ w1 w2 (by omega) (by omega), ifQ w1 w2 (by omega) (by omega)]
      unfold agR
      by_cases q : w = 2
      · rw [if_pos q, if_pos q]
      · rw [if_neg q, if_neg q]
        by_cases q : w = 0
        · rw [if_pos q, if_pos q]
        · rw [if_neg q, if_neg q]) (fun n x i c qx hi => by
      have fi := (fr_in k1 hi).1
      have il := (fr_in k1 hi).2
      have gb := gen_bd c
      have cb := sp_rt hk fi.1
      have c0 := fi.1.1
      have lgx := (lay_g hk fi.1).1.2
      have bnx := lay_bn hk fi.1
      have wx := qx.1
      have wy := qx.2
      refine ⟨?_, by unfold AgQ at qx ⊢; unfold agC; split <;> (try exact qx); unfold nrC; split <;> (try split) <;> (try split) <;> (first | exact qx | (show (-1 ≤ c ∧ c ≤ 51200000) ∧ (0 ≤ kBn (lay S c) ∧ kBn (lay S c) ≤ 40000); omega))⟩
      show F_NS_ofAge_L47 (n + 1) 0 (iz t) (iz g) (iz w) (iz x.1.1) (iz x.1.2) (iz x.2.1) (iz x.2.2) (iz (i : Int)) M1 = F_NS_ofAge_L47 n 0 (iz t) (iz g) (iz w) (iz (agC S t g x c).1.1) (iz (agC S t g x c).1.2) (iz (agC S t g x c).2.1) (iz (agC S t g x c).2.2) (iz ((i + 1 : Nat) : Int)) M1
      rw [F_NS_ofAge_L47, fR_eq (kd_0 h1) (rr_0_7 h1), fr_l h1 k1, ifE (by omega) (by omega) (by omega) (by omega), if_neg (by omega), fR_eq (kd_0 h1) (rr_0_7 h1), cv_eq (kd_45 h1), fr_cd h1 a1 k1 hi, bI_eq, nsGen c0 (by omega), bI_eq, ifQ (by omega) (by omega) g1 g2', nm_eq, fR_eq (kd_0 h1) (rr_0_7 h1), cv_eq (kd_45 h1), fr_bn h1 a1 k1 hi, bI_eq, nm_eq, show (-1 : Int32) = iz (-1) from rfl, ifQ (by omega) (by omega) (by omega) (by omega), ifE (by omega) (by omega) (by omega) (by omega), show (1 : Int32) = iz 1 from rfl, iz_sub, iz_add, iz_add, iz_add, nm_eq, nm_eq, show ((i : Int) + 1) = ((i + 1 : Nat) : Int) by omega]
      unfold agC
      by_cases q : gen c = g
      · rw [if_pos q, if_pos q]
        unfold nrC
        by_cases q1 : x.2.1 = -1
        · rw [if_pos q1, if_pos q1]
          unfold F_NS_ofAge_L111
          rw [fR_eq (kd_0 h1) (rr_0_7 h1), cv_eq (kd_45 h1), fr_cd h1 a1 k1 hi, bI_eq, nm_eq, show (1 : Int32) = iz 1 from rfl, iz_add, show ((i : Int) + 1) = ((i + 1 : Nat) : Int) by omega]
        · rw [if_neg q1, if_neg q1]
          by_cases q2 : x.2.2 ≤ kBn (lay S c)
          · rw [if_pos q2, if_pos q2]
          · rw [if_neg q2, if_neg q2]
            unfold F_NS_ofAge_L111
            rw [fR_eq (kd_0 h1) (rr_0_7 h1), cv_eq (kd_45 h1), fr_cd h1 a1 k1 hi, bI_eq, nm_eq, show (1 : Int32) = iz 1 from rfl, iz_add, show ((i : Int) + 1) = ((i + 1 : Nat) : Int) by omega]
      · rw [if_neg q, if_neg q]) (by omega) ((0, 0), (-1, 0)) (by unfold AgQ; dsimp only; omega)
    obtain ⟨M2, Lm, e2, g2⟩ := mGth h1 c1 t1 t2
    have lm := md_len hk g2.2.2.2.1
    obtain ⟨M3, e3, qM, g3⟩ := mFold (M0 := M1) (S := S) (t := t) (L := Lm) (fun n (x : AgX) i M => F_Md_ofAge_L55 n 70 (iz t) (iz g) (iz w) (iz x.1.1) (iz x.1.2) (iz x.2.1) (iz (t - x.2.2)) i M) (fun x M => some (some (.int (iz (agR w x))), M)) (AgQ) (agM S t g) (fun n x M qx hG => by
      show F_Md_ofAge_L55 (n + 1) 70 (iz t) (iz g) (iz w) (iz x.1.1) (iz x.1.2) (iz x.2.1) (iz (t - x.2.2)) (iz (Lm.length : Int)) M = _
      rw [F_Md_ofAge_L55, md_l hG.1 hG.2.2.2.1, ifE (by omega) (by omega) (by omega) (by omega), if_pos (Int.le_refl _), show (0 : Int32) = iz 0 from rfl, show (1 : Int32) = iz 1 from rfl, ifQ w1 w2 (by omega) (by omega), ifQ w1 w2 (by omega) (by omega)]
      unfold agR
      by_cases q : w = 0
      · rw [if_pos q, if_neg (by omega), if_pos q]
      · rw [if_neg q]
        by_cases q1 : w = 1
        · rw [if_pos q1, if_neg (by omega), if_neg q]
        · rw [if_neg q1, if_pos (by omega)]) (fun n x i c M qx hG hi => by
      have fi := (md_in hG.2.2.2.1 hi).1
      have il := (md_in hG.2.2.2.1 hi).2
      have gb := gen_bd c
      have cb := sp_rt hk fi.1
      have c0 := fi.1.1
      have lgx := (lay_g hk fi.1).1.2
      have bnx := lay_bn hk fi.1
      have wx := qx.1
      have wy := qx.2
      have qn : AgQ (agM S t g x c) := by unfold AgQ at qx ⊢; unfold agM; split <;> (try exact qx); unfold nrA; split <;> (try split) <;> (try split) <;> (first | exact qx | (show (-1 ≤ c ∧ c ≤ 51200000) ∧ (0 ≤ kBn (lay S c) ∧ kBn (lay S c) ≤ 40000); omega))
      by_cases gq : gen c = g
      rotate_left
      · refine ⟨M, ?_, qn, hG⟩
        show F_Md_ofAge_L55 (n + 1) 70 (iz t) (iz g) (iz w) (iz x.1.1) (iz x.1.2) (iz x.2.1) (iz (t - x.2.2)) (iz (i : Int)) M = F_Md_ofAge_L55 n 70 (iz t) (iz g) (iz w) (iz (agM S t g x c).1.1) (iz (agM S t g x c).1.2) (iz (agM S t g x c).2.1) (iz (t - (agM S t g x c).2.2)) (iz ((i + 1 : Nat) : Int)) M
        rw [F_Md_ofAge_L55, md_l hG.1 hG.2.2.2.1, ifE (by omega) (by omega) (by omega) (by omega), if_neg (by omega), cv_eq (kd_70 hG.1), mCode hG.1 hk hG.2.2.2.1 hi, bI_eq, mdGen c0 (by omega), bI_eq, ifQ (by omega) (by omega) g1 g2', if_neg gq, nm_eq, show (1 : Int32) = iz 1 from rfl, iz_add, show ((i : Int) + 1) = ((i + 1 : Nat) : Int) by omega]
        unfold agM
        rw [if_neg gq]
      obtain ⟨M', z1, z2, z3, z4⟩ := mLay1 hk hG hi
      refine ⟨M', ?_, qn, z2⟩
      show F_Md_ofAge_L55 (n + 1) 70 (iz t) (iz g) (iz w) (iz x.1.1) (iz x.1.2) (iz x.2.1) (iz (t - x.2.2)) (iz (i : Int)) M = F_Md_ofAge_L55 n 70 (iz t) (iz g) (iz w) (iz (agM S t g x c).1.1) (iz (agM S t g x c).1.2) (iz (agM S t g x c).2.1) (iz (t - (agM S t g x c).2.2)) (iz ((i + 1 : Nat) : Int)) M'
      rw [F_Md_ofAge_L55, md_l hG.1 hG.2.2.2.1, ifE (by omega) (by omega) (by omega) (by omega), if_neg (by omega), cv_eq (kd_70 hG.1), mCode hG.1 hk hG.2.2.2.1 hi, bI_eq, mdGen c0 (by omega), bI_eq, ifQ (by omega) (by omega) g1 g2', cv_eq (kd_70 hG.1), z1, bV_eq, nm_eq, fI_eq (kd_70 z2.1), z4.2.1, nm_eq, fI_eq (kd_70 z2.1), z4.2.1, fI_eq (kd_70 z2.1), z4.2.1, show (1 : Int32) = iz 1 from rfl, iz_sub, ifL (by omega) (by omega) (by omega) (by omega), ifQ (by omega) (by omega) (by omega) (by omega), ifE (by omega) (by omega) (by omega) (by omega), iz_add, iz_add, iz_add, nm_eq, show ((i : Int) + 1) = ((i + 1 : Nat) : Int) by omega]
      unfold agM
      by_cases q : gen c = g
      · rw [if_pos q, if_pos q]
        unfold nrA
        by_cases q1 : x.2.2 < kBn (lay S c)
        · rw [if_pos (show t - kBn (lay S c) < t - x.2.2 by omega), if_pos q1]
        · rw [if_neg (show ¬ t - kBn (lay S c) < t - x.2.2 by omega), if_neg q1]
          by_cases q2 : kBn (lay S c) = x.2.2
          · rw [if_pos (show t - kBn (lay S c) = t - x.2.2 by omega), if_pos q2]
            by_cases q3 : c ≤ x.2.1
            · rw [if_pos q3, if_pos q3]
              unfold F_Md_ofAge_L136
              rw [fI_eq (kd_70 z2.1), z4.2.1, iz_sub, nm_eq, nm_eq, show (1 : Int32) = iz 1 from rfl, iz_add, show ((i : Int) + 1) = ((i + 1 : Nat) : Int) by omega]
            · rw [if_neg q3, if_neg q3]
          · rw [if_neg (show ¬ t - kBn (lay S c) = t - x.2.2 by omega), if_neg q2]
            unfold F_Md_ofAge_L136
            rw [fI_eq (kd_70 z2.1), z4.2.1, iz_sub, nm_eq, nm_eq, show (1 : Int32) = iz 1 from rfl, iz_add, show ((i : Int) + 1) = ((i + 1 : Nat) : Int) by omega]
      · exact absurd gq q) (by omega) ((0, 0), (-1, t + 1)) (by unfold AgQ; dsimp only; omega) g2
    have rC := agC_g (S := S) (t := t) (g := g) k1.1.1 (fun c hc => ((k1.1.2 c).mp hc).1.1)
    have rM := agM_g (S := S) (t := t) (g := g) (L := Lm) (fun c hc => (g2.2.2.2.1.2.2.1 c).mp hc)
    have pm := gf_perm g2.2.2.2.1 k1.1
    have same : agR w (Lm.foldl (agM S t g) ((0, 0), (-1, t + 1))) = agR w (L.foldl (agC S t g) ((0, 0), (-1, 0))) := by
      unfold agR
      rw [rC.1, rC.2.1, rM.1, rM.2.1, cnt_perm _ pm, lsm_perm _ pm, AM_uniq rM.2.2 rC.2.2 (fun c => pm.mem_iff)]
    refine ⟨iz (agR w (L.foldl (agC S t g) ((0, 0), (-1, 0)))), M1, M3, eC, h1, c1, ?_, i1.q g3.2.2.2.2⟩
    show bV (F_Md_gathers 70 (iz t) M1) _ = _
    rw [e2, bV_eq, ← same]
    have e3' : F_Md_ofAge_L55 fu 70 (iz t) (iz g) (iz w) (iz 0) (iz 0) (iz (-1)) (iz (t - (t + 1))) (iz 0) M2 = some (some (.int (iz (agR w (Lm.foldl (agM S t g) ((0, 0), (-1, t + 1)))))), M3) := e3
    rw [show t - (t + 1) = -1 by omega] at e3'
    exact e3'
end FrAge
