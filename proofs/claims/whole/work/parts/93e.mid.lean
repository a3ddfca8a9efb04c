/-! ===== middle, box ===== -/
section FrMid
variable {M : am_M} {S : Sc} {t : Int}
theorem jz_ediv {a b : Int} (h1 : 0 ≤ a) (h2 : a < 9223372036854775808) (h3 : 0 < b) (h4 : b < 9223372036854775808) : jz a / jz b = jz (a / b) := by
  have hb : jz b ≠ -1 := by
    intro h
    have := congrArg Int64.toInt h
    rw [jz_toInt (by omega) h4] at this
    have e : (-1 : Int64).toInt = -1 := by decide
    omega
  apply Int64.toInt_inj.mp
  have q1 : 0 ≤ a / b := Int.ediv_nonneg h1 (by omega)
  have q2 : a / b ≤ a := Int.ediv_le_self _ h1
  rw [Int64.toInt_div_of_ne_right _ _ hb, jz_toInt (by omega) h2, jz_toInt (by omega) h4, jz_toInt (by omega) (by omega), Int.tdiv_eq_ediv_of_nonneg h1]
noncomputable def mdS (S : Sc) (t a : Int) (x c : Int) : Int := x + pz S t c a
theorem lsm_0 (f : Int → Int) : lsm f [] = 0 := rfl
theorem ap_middle (hI : Inv M) (p1 p2 : Int32) : Ag (F_NS_middle 0 p1 p2) (F_Md_middle 70 p1 p2) M := by
  obtain ⟨h, -⟩ := id hI
  obtain ⟨S, st, s01, s1, s2, hc, hm, hb, hs, h0⟩ := hI.sc
  obtain ⟨o, o1, o2, rfl⟩ := iz_of p2
  have hMd0 : ∀ M', SH M' → F_Md_isTick 70 p1 M' = some (some (.int (iz 0)), M') → F_Md_middle 70 p1 (iz o) M' = some (some (.int (-2)), M') := fun M' h' e => by
    unfold F_Md_middle; rw [cv_eq (kd_70 h'), e, bI_eq, if_pos (by decide)]
  have hMg : ∀ M', SH M' → F_Md_isTick 70 p1 M' = some (some (.int (iz 1)), M') → F_Md_middle 70 p1 (iz o) M' = if 0 ≤ o ∧ o ≤ 2 then bV (F_Md_gathers 70 p1 M') (fun M5 => F_Md_middle_L33 fu 70 p1 (iz o) (jz 0) (iz 0) M5) else some (some (.int (-2)), M') := fun M' h' e => by
    unfold F_Md_middle; rw [cv_eq (kd_70 h'), e, bI_eq, if_neg (by decide), show (0 : Int64) = jz 0 from rfl, show (2 : Int64) = jz 2 from rfl, mInL o 0 2 o1 o2 (by omega) (by omega) (by omega) (by omega), bI_eq, bz_if0, cv_eq (kd_70 h')]; rfl
  have hNg : F_NS_middle 0 p1 (iz o) M = if 0 ≤ o ∧ o ≤ 2 then bI (F_Fram_shows 45 p1 M) (fun r3 M2 => if r3 = 0 then some (some (.int (-2)), M2) else fR M2 0 12 7 (fun b6 => fI M2 b6 5 2 (fun x7 => if 0 < x7 then F_NS_middle_L38 fu 0 (iz o) (iz 0) (iz 0) M2 else some (some (.int (-1)), M2)))) else some (some (.int (-2)), M) := by
    unfold F_NS_middle
    rw [cAxis o1 o2, bI_eq, bz_if0, fR_eq (kd_0 h) (rr_0_7 h), cv_eq (kd_45 h)]; rfl
  by_cases g : 0 ≤ o ∧ o ≤ 2
  rotate_left
  · refine ap_no (mk := Value.int) (v0 := -2) hI ?_ ?_
    · rw [hNg, if_neg g]
    · rcases mTk hI s01 s2 hs p1 with e | ⟨e0, e⟩
      · exact hMd0 M h e
      · rw [hMg M h e, if_neg g]
  refine ap_frm (mk := Value.int) (v0 := -2) (p := p1) (B := fun M2 => fR M2 0 12 7 (fun b6 => fI M2 b6 5 2 (fun x7 => if 0 < x7 then F_NS_middle_L38 fu 0 (iz o) (iz 0) (iz 0) M2 else some (some (.int (-1)), M2)))) (D := fun M => bV (F_Md_gathers 70 p1 M) (fun M5 => F_Md_middle_L33 fu 70 p1 (iz o) (jz 0) (iz 0) M5)) hI s01 s1 s2 hs (by rw [hNg, if_pos g]) hMd0 (fun M' h' c' e => by rw [hMg M' h' e, if_pos g]) (fun t M1 L O pt t1 t2 i1 c1 k1 => ?_)
  have hk := c1.1
  have h1 := i1.1
  have a1 := i1.2.1
  have cs1 := c1.2.2.2.1
  have ll := fr_len hk k1
  subst pt
  obtain ⟨M2, Lm, e2, g2⟩ := mGth h1 c1 t1 t2
  have lm := md_len hk g2.2.2.2.1
  obtain ⟨M3, e3, qM, g3⟩ := mFold (M0 := M1) (S := S) (t := t) (L := Lm) (fun n (x : Int) i M => F_Md_middle_L33 n 70 (iz t) (iz o) (jz x) i M) (fun x M => if Lm.length = 0 then some (some (.int (-1)), M) else some (some (.int ((jz x / (iz (Lm.length : Int)).toInt64).toInt32)), M)) (fun _ => True) (mdS S t o) (fun n x M qx hG => by
      show F_Md_middle_L33 (n + 1) 70 (iz t) (iz o) (jz x) (iz (Lm.length : Int)) M = _
      rw [F_Md_middle_L33, md_l hG.1 hG.2.2.2.1, ifE (by omega) (by omega) (by omega) (by omega), if_pos (Int.le_refl _), md_l hG.1 hG.2.2.2.1, md_l hG.1 hG.2.2.2.1, show (0 : Int32) = iz 0 from rfl, ifQ (by omega) (by omega) (by omega) (by omega)]
      by_cases q : Lm.length = 0
      · rw [if_pos (by omega), if_pos q]
      · rw [if_neg (by omega), if_neg q, dZL_eq (by omega) (by omega)]) (fun n x i c M qx hG hi => by
      have fi := (md_in hG.2.2.2.1 hi).1
      have il := (md_in hG.2.2.2.1 hi).2
      have pb := pz_b3 hk fi (i := o) (by omega) (by omega)
      obtain ⟨M', y1', z2, -⟩ := mPlAt hk hG hi (a := o) (by omega) (by omega)
      refine ⟨M', ?_, trivial, z2⟩
      show F_Md_middle_L33 (n + 1) 70 (iz t) (iz o) (jz x) (iz (i : Int)) M = F_Md_middle_L33 n 70 (iz t) (iz o) (jz (mdS S t o x c)) (iz ((i + 1 : Nat) : Int)) M'
      rw [F_Md_middle_L33, md_l hG.1 hG.2.2.2.1, ifE (by omega) (by omega) (by omega) (by omega), if_neg (by omega), cv_eq (kd_70 hG.1), y1', bI_eq, jz_i2l (a := pz S t c o) (by omega) (by omega), jz_add, show (1 : Int32) = iz 1 from rfl, iz_add, nm_eq, nm_eq, show ((i : Int) + 1) = ((i + 1 : Nat) : Int) by omega]
      rfl) (by omega) 0 trivial g2
  have lp := (gf_perm g2.2.2.2.1 k1.1).length_eq
  by_cases q0 : L.length = 0
  · refine ⟨-1, M1, M3, ?_, h1, c1, ?_, i1.q g3.2.2.2.2⟩
    · show fR M1 0 12 7 _ = _
      rw [fR_eq (kd_0 h1) (rr_0_7 h1), fr_l h1 k1, show (0 : Int32) = iz 0 from rfl, ifL (by omega) (by omega) (by omega) (by omega), if_neg (by omega)]
    · show bV (F_Md_gathers 70 (iz t) M1) _ = _
      rw [e2, bV_eq, e3, if_pos (by omega)]
  obtain ⟨eC, qC⟩ := cFold (M1 := M1) (L := L) (fun n (x : Int) i M => F_NS_middle_L38 n 0 (iz o) (iz x) i M) (fun x M => some (some (.int (iz x / iz (L.length : Int))), M)) (fun _ => True) (mdS S t o) (fun n x qx => by
      show F_NS_middle_L38 (n + 1) 0 (iz o) (iz x) (iz (L.length : Int)) M1 = _
      rw [F_NS_middle_L38, fR_eq (kd_0 h1) (rr_0_7 h1), fr_l h1 k1, ifE (by omega) (by omega) (by omega) (by omega), if_pos (Int.le_refl _), fR_eq (kd_0 h1) (rr_0_7 h1), fr_l h1 k1, dZ_eq (by omega) (by omega)]) (fun n x i c qx hi => by
      have fi := (fr_in k1 hi).1
      have il := (fr_in k1 hi).2
      refine ⟨?_, trivial⟩
      show F_NS_middle_L38 (n + 1) 0 (iz o) (iz x) (iz (i : Int)) M1 = F_NS_middle_L38 n 0 (iz o) (iz (mdS S t o x c)) (iz ((i + 1 : Nat) : Int)) M1
      rw [F_NS_middle_L38, fR_eq (kd_0 h1) (rr_0_7 h1), fr_l h1 k1, ifE (by omega) (by omega) (by omega) (by omega), if_neg (by omega), fR_eq (kd_0 h1) (rr_0_7 h1), cv_eq (kd_45 h1), cPlOf h1 a1 hk k1 hi (by omega) (by omega), bI_eq, show (1 : Int32) = iz 1 from rfl, iz_add, iz_add, nm_eq, nm_eq, show ((i : Int) + 1) = ((i + 1 : Nat) : Int) by omega]
      rfl) (by omega) 0 trivial
  have fs : ∀ (K : List Int) (x : Int), K.foldl (mdS S t o) x = x + lsm (fun c => pz S t c o) K := fun K x => foldl_lsm (fun c => pz S t c o) K x
  have sb := lsm_bd (f := fun c => pz S t c o) (m := 320) L (fun c hc => by have := pz_b3 hk ((k1.1.2 c).mp hc) (i := o) (by omega) (by omega); omega)
  rw [fs, Int.zero_add] at eC e3
  rw [lsm_perm _ (gf_perm g2.2.2.2.1 k1.1), lp] at e3
  refine ⟨iz (lsm (fun c => pz S t c o) L / (L.length : Int)), M1, M3, ?_, h1, c1, ?_, i1.q g3.2.2.2.2⟩
  · show fR M1 0 12 7 _ = _
    rw [fR_eq (kd_0 h1) (rr_0_7 h1), fr_l h1 k1, show (0 : Int32) = iz 0 from rfl, ifL (by omega) (by omega) (by omega) (by omega), if_pos (by omega), ← iz_ediv (by omega) (by omega) (by omega) (by omega)]
    exact eC
  · show bV (F_Md_gathers 70 (iz t) M1) _ = _
    rw [e2, bV_eq, e3, if_neg q0, jz_i2l (a := (L.length : Int)) (by omega) (by omega), jz_ediv (by omega) (by omega) (by omega) (by omega), jz_l2i]
/-- the greatest or the least of a row -/
def MX (up : Prop) (f : Int → Int) (K : List Int) (v : Int) : Prop := (∃ c ∈ K, v = f c) ∧ ∀ c ∈ K, (up → f c ≤ v) ∧ (¬ up → v ≤ f c)
noncomputable def bxC (w : Int) (f : Int → Int) (x c : Int) : Int := if 3 ≤ w then max x (f c) else min x (f c)
noncomputable def bxM (w : Int) (f : Int → Int) (x c : Int) : Int := if x = -1 then f c else if 3 ≤ w then max x (f c) else min x (f c)
theorem MX_1 {up : Prop} {f : Int → Int} (c : Int) : MX up f [c] (f c) := ⟨⟨c, List.mem_singleton.mpr rfl, rfl⟩, fun e he => by
  have : e = c := by simpa using he
  rw [this]; omega⟩
theorem MX_s {w : Int} {f : Int → Int} {K : List Int} {x c : Int} (h : MX (3 ≤ w) f K x) : MX (3 ≤ w) f (K ++ [c]) (bxC w f x c) := by
  obtain ⟨⟨c0, m0, e0⟩, h2⟩ := h
  unfold bxC
  by_cases q : 3 ≤ w
  · rw [if_pos q]
    refine ⟨?_, fun e he => ⟨fun _ => ?_, fun z => absurd q z⟩⟩
    · rcases Int.lt_or_le x (f c) with z | z
      · exact ⟨c, List.mem_append.mpr (Or.inr (List.mem_singleton.mpr rfl)), by omega⟩
      · exact ⟨c0, List.mem_append.mpr (Or.inl m0), by omega⟩
    · rcases List.mem_append.mp he with y | y
      · have := (h2 e y).1 q; omega
      · have : e = c := by simpa using y
        rw [this]; omega
  · rw [if_neg q]
    refine ⟨?_, fun e he => ⟨fun z => absurd z q, fun _ => ?_⟩⟩
    · rcases Int.lt_or_le (f c) x with z | z
      · exact ⟨c, List.mem_append.mpr (Or.inr (List.mem_singleton.mpr rfl)), by omega⟩
      · exact ⟨c0, List.mem_append.mpr (Or.inl m0), by omega⟩
    · rcases List.mem_append.mp he with y | y
      · have := (h2 e y).2 q; omega
      · have : e = c := by simpa using y
        rw [this]; omega
end FrMid
