/-! ===== questions of the scene and of the tape ===== -/
section Plain
variable {M : am_M}
/-- a scene, standing or not -/
def scB (S : Sc) : Prop := (0 ≤ sNk S ∧ sNk S ≤ 5) ∧ (0 ≤ sNs S ∧ sNs S ≤ 4) ∧ (0 ≤ sSd S ∧ sSd S ≤ 999999) ∧ ∀ i, 0 ≤ i → i < 3 → 0 ≤ sW S i ∧ sW S i ≤ 40
theorem scOK.b {S : Sc} (h : scOK S) : scB S := ⟨h.2.1, h.2.2.1, h.2.2.2.1, fun i a b => by have := h.1 i a b; omega⟩
theorem S0_b : scB S0 := ⟨⟨by decide, by decide⟩, ⟨by decide, by decide⟩, ⟨by decide, by decide⟩, fun i _ _ => by show 0 ≤ (0 : Int) ∧ (0 : Int) ≤ 40; omega⟩
theorem Inv.sc (h : Inv M) : ∃ S st, (st = 0 ∨ st = 1) ∧ rI M 2 7 = iz st ∧ rI M 70 1 = iz st ∧ CS M S ∧ MS M S ∧ scB S ∧ (st = 1 → Sc1 M S) ∧ (st = 0 → S = S0) := by
  obtain ⟨-, -, -, -, -, h6⟩ := h
  rcases h6 with ⟨a, b, c, d⟩ | ⟨S, h6⟩
  · exact ⟨S0, 0, Or.inl rfl, a, b, c, d, S0_b, fun q => by omega, fun _ => rfl⟩
  · obtain ⟨a, b, c, d, e, -⟩ := id h6
    exact ⟨S, 1, Or.inr rfl, b, c, d, e, a.b, fun _ => h6, fun q => by omega⟩
theorem ap_fault (h : Inv M) (p : Int32) : Ag (F_NS_fault 0 p) (F_Md_fault 70 p) M := by
  obtain ⟨hS, -, -, hF, -⟩ := id h
  by_cases q0 : p = 0
  · refine Ag.p h (v := rI M 6 1) ?_ ?_
    · unfold F_NS_fault; rw [if_pos q0, fR_eq (kd_0 hS) (rr_0_3 hS), fI_eq (kd_6 hS)]
    · unfold F_Md_fault; rw [if_pos q0, fI_eq (kd_70 hS), hF.1]
  · by_cases q1 : p = 1
    · refine Ag.p h (v := rI M 6 2) ?_ ?_
      · unfold F_NS_fault; rw [if_neg q0, if_pos q1, fR_eq (kd_0 hS) (rr_0_3 hS), fI_eq (kd_6 hS)]
      · unfold F_Md_fault; rw [if_neg q0, if_pos q1, fI_eq (kd_70 hS), hF.2]
    · refine Ag.p h (v := -1) ?_ ?_
      · unfold F_NS_fault; rw [if_neg q0, if_neg q1]
      · unfold F_Md_fault; rw [if_neg q0, if_neg q1]
theorem mWi (hS : SH M) {S : Sc} (hm : MS M S) {i : Int} (h1 : 0 ≤ i) (h2 : i < 3) {f : Int32 → am_R} : aI M 71 (iz i) f = f (iz (sW S i)) := by
  rw [aI_eq (kd_71 hS) (ln_71 hS) h1 (by omega) (by omega), hm.1 i h1 h2]
theorem ap_count (h : Inv M) (p : Int32) : Ag (F_NS_count 0 p) (F_Md_count 70 p) M := by
  obtain ⟨hS, -, hT, hF, hO, -⟩ := id h
  obtain ⟨S, st, s01, s1, s2, hc, hm, hb, -, h0⟩ := h.sc
  obtain ⟨tn, -, t1, t2, -⟩ := hT
  obtain ⟨on, -, o1, o2, -⟩ := hO
  have key : ∀ i : Int, 0 ≤ i → i < 3 → p = iz i → (F_NS_count 0 p M = some (some (.int (iz (sW S i))), M) ∧ F_Md_count 70 p M = some (some (.int (iz (sW S i))), M)) := by
    intro i i1 i2 ip
    have em : (fI M 70 13 1 (fun x1 => if x1 = 0 then (some (some (Value.int 0), M)) else (fR M 70 13 2 (fun b2 => aI M b2 p (fun x3 => some (some (Value.int x3), M))))) : am_R) = some (some (.int (iz (sW S i))), M) := by
      rw [fI_eq (kd_70 hS), s2]
      rcases s01 with rfl | rfl
      · rw [if_pos (by decide), h0 rfl]; rfl
      · rw [if_neg (by decide), fR_eq (kd_70 hS) (rr_70_2 hS), ip, mWi hS hm i1 i2]
    have ec : (fR M 0 12 2 (fun b1 => cv M b1 9 ( bI (F_Scen_cellsAlong b1 p M) (fun r3 M2 => some (some (Value.int r3), M2)))) : am_R) = some (some (.int (iz (sW S i))), M) := by
      rw [fR_eq (kd_0 hS) (rr_0_2 hS), cv_eq (kd_2 hS), ip, cW hS hc i1 i2, bI_eq]
    constructor
    · unfold F_NS_count
      rcases (show i = 0 ∨ i = 1 ∨ i = 2 by omega) with rfl | rfl | rfl
      · rw [if_pos (by rw [ip]; rfl), ec]
      · rw [if_neg (by rw [ip]; decide), if_pos (by rw [ip]; rfl), ec]
      · rw [if_neg (by rw [ip]; decide), if_neg (by rw [ip]; decide), if_pos (by rw [ip]; rfl), ec]
    · unfold F_Md_count
      rcases (show i = 0 ∨ i = 1 ∨ i = 2 by omega) with rfl | rfl | rfl
      · rw [if_pos (by rw [ip]; rfl), em]
      · rw [if_neg (by rw [ip]; decide), if_pos (by rw [ip]; rfl), em]
      · rw [if_neg (by rw [ip]; decide), if_neg (by rw [ip]; decide), if_pos (by rw [ip]; rfl), em]
  by_cases q0 : p = 0
  · exact Ag.p h (key 0 (by omega) (by omega) q0).1 (key 0 (by omega) (by omega) q0).2
  by_cases q1 : p = 1
  · exact Ag.p h (key 1 (by omega) (by omega) q1).1 (key 1 (by omega) (by omega) q1).2
  by_cases q2 : p = 2
  · exact Ag.p h (key 2 (by omega) (by omega) q2).1 (key 2 (by omega) (by omega) q2).2
  by_cases q3 : p = 3
  · refine Ag.p h (v := iz (sNk S)) ?_ ?_
    · unfold F_NS_count; rw [if_neg q0, if_neg q1, if_neg q2, if_pos q3, fR_eq (kd_0 hS) (rr_0_2 hS), fI_eq (kd_2 hS), hc.2.2.2.1]
    · unfold F_Md_count; rw [if_neg q0, if_neg q1, if_neg q2, if_pos q3, fI_eq (kd_70 hS), hm.2.2.2.1]
  by_cases q4 : p = 4
  · refine Ag.p h (v := iz (sNs S)) ?_ ?_
    · unfold F_NS_count; rw [if_neg q0, if_neg q1, if_neg q2, if_neg q3, if_pos q4, fR_eq (kd_0 hS) (rr_0_2 hS), fI_eq (kd_2 hS), hc.2.2.2.2.1]
    · unfold F_Md_count; rw [if_neg q0, if_neg q1, if_neg q2, if_neg q3, if_pos q4, fI_eq (kd_70 hS), hm.2.2.2.2.1]
  by_cases q5 : p = 5
  · refine Ag.p h (v := iz (sSd S)) ?_ ?_
    · unfold F_NS_count; rw [if_neg q0, if_neg q1, if_neg q2, if_neg q3, if_neg q4, if_pos q5, fR_eq (kd_0 hS) (rr_0_2 hS), fI_eq (kd_2 hS), hc.2.2.2.2.2]
    · unfold F_Md_count; rw [if_neg q0, if_neg q1, if_neg q2, if_neg q3, if_neg q4, if_pos q5, fI_eq (kd_70 hS), hm.2.2.2.2.2]
  by_cases q6 : p = 6
  · refine Ag.p h (v := iz (tn : Int)) ?_ ?_
    · unfold F_NS_count; rw [if_neg q0, if_neg q1, if_neg q2, if_neg q3, if_neg q4, if_neg q5, if_pos q6, fI_eq (kd_0 hS), t1]
    · unfold F_Md_count; rw [if_neg q0, if_neg q1, if_neg q2, if_neg q3, if_neg q4, if_neg q5, if_pos q6, fI_eq (kd_70 hS), t2]
  by_cases q7 : p = 7
  · refine Ag.p h (v := iz (on : Int)) ?_ ?_
    · unfold F_NS_count; rw [if_neg q0, if_neg q1, if_neg q2, if_neg q3, if_neg q4, if_neg q5, if_neg q6, if_pos q7, fR_eq (kd_0 hS) (rr_0_5 hS), fI_eq (kd_16 hS), o1]
    · unfold F_Md_count; rw [if_neg q0, if_neg q1, if_neg q2, if_neg q3, if_neg q4, if_neg q5, if_neg q6, if_pos q7, fI_eq (kd_70 hS), o2]
  refine Ag.p h (v := -1) ?_ ?_
  · unfold F_NS_count; rw [if_neg q0, if_neg q1, if_neg q2, if_neg q3, if_neg q4, if_neg q5, if_neg q6, if_neg q7]
  · unfold F_Md_count; rw [if_neg q0, if_neg q1, if_neg q2, if_neg q3, if_neg q4, if_neg q5, if_neg q6, if_neg q7]
/-- a kind, a source of the reference -/
theorem mIn (p : Int) (n : Int) (h1 : -2147483648 ≤ p) (h2 : p < 2147483648) (h3 : -2147483648 ≤ n) (h4 : n < 2147483648) : F_Md_in (iz p).toInt64 0 (iz n).toInt64 M = some (some (.int (bz (0 ≤ p ∧ p ≤ n))), M) := by
  rw [jz_i2l h1 h2, jz_i2l h3 h4, show (0 : Int64) = jz 0 from rfl, in_eq (by omega) (by omega) (by omega) (by omega) (by omega) (by omega)]
theorem mInL (p : Int) (a n : Int) (h1 : -2147483648 ≤ p) (h2 : p < 2147483648) (h3 : -2147483648 ≤ n) (h4 : n < 2147483648) (h5 : -2147483648 ≤ a) (h6 : a < 2147483648) : F_Md_in (iz p).toInt64 (jz a) (jz n) M = some (some (.int (bz (a ≤ p ∧ p ≤ n))), M) := by
  rw [jz_i2l h1 h2, in_eq (by omega) (by omega) (by omega) (by omega) (by omega) (by omega)]
theorem ap_kind (h : Inv M) (p1 p2 : Int32) : Ag (F_NS_kind 0 p1 p2) (F_Md_kind 70 p1 p2) M := by
  obtain ⟨hS, -⟩ := id h
  obtain ⟨S, st, s01, s1, s2, hc, hm, hb, h1, h0⟩ := h.sc
  obtain ⟨a, a1, a2, rfl⟩ := iz_of p1
  obtain ⟨b, b1, b2, rfl⟩ := iz_of p2
  have nk := hb.1
  have ec : F_NS_kind 0 (iz a) (iz b) M = (if 0 ≤ a ∧ a < sNk S then (if b < 0 then some (some (.int (-99)), M) else if b < 8 then (fR M 0 12 2 (fun b4 => cv M b4 9 ( bI (F_Scen_ofKind b4 (iz a) (iz b) M) (fun r6 M5 => some (some (.int r6), M5))))) else some (some (.int (-99)), M)) else some (some (.int (-99)), M)) := by
    unfold F_NS_kind
    rw [fR_eq (kd_0 hS) (rr_0_2 hS), cv_eq (kd_2 hS), cIsK hS hc nk a1 a2, bI_eq, bz_if0, show (0 : Int32) = iz 0 from rfl, show (8 : Int32) = iz 8 from rfl, ifL b1 b2 (by omega) (by omega), ifL b1 b2 (by omega) (by omega)]
  have em : F_Md_kind 70 (iz a) (iz b) M = (if 0 ≤ a ∧ a ≤ sNk S - 1 then (if 0 ≤ b ∧ b ≤ 7 then (fR M 70 13 5 (fun b6 => aI M b6 ((8 * iz a) + iz b) (fun x7 => some (some (.int x7), M)))) else some (some (.int (-99)), M)) else some (some (.int (-99)), M)) := by
    unfold F_Md_kind
    rw [fI_eq (kd_70 hS), hm.2.2.2.1, show (1 : Int32) = iz 1 from rfl, iz_sub, mIn a _ a1 a2 (by omega) (by omega), bI_eq, bz_if0, show (0 : Int64) = jz 0 from rfl, show (7 : Int64) = jz 7 from rfl, mInL b 0 7 b1 b2 (by omega) (by omega) (by omega) (by omega), bI_eq, bz_if0]
  by_cases g1 : 0 ≤ a ∧ a < sNk S
  · by_cases g2 : 0 ≤ b ∧ b < 8
    · refine Ag.p h (v := iz (sK S a b)) ?_ ?_
      · rw [ec, if_pos g1, if_neg (by omega), if_pos (by omega), fR_eq (kd_0 hS) (rr_0_2 hS), cv_eq (kd_2 hS), cK hS hc (by omega) (by omega) (by omega) (by omega), bI_eq]
      · rw [em, if_pos (by omega), if_pos (by omega), fR_eq (kd_70 hS) (rr_70_5 hS), show (8 : Int32) = iz 8 from rfl, iz_mul, iz_add, aI_eq (kd_72 hS) (ln_72 hS) (by omega) (by omega) (by omega), hm.2.1 a b (by omega) (by omega) (by omega) (by omega)]
    · refine Ag.p h (v := -99) ?_ ?_
      · rw [ec, if_pos g1]
        split
        · rfl
        · rw [if_neg (by omega)]
      · rw [em, if_pos (by omega), if_neg (by omega)]
  · refine Ag.p h (v := -99) ?_ ?_
    · rw [ec, if_neg g1]
    · rw [em, if_neg (by omega)]
theorem ap_source (h : Inv M) (p1 p2 : Int32) : Ag (F_NS_source 0 p1 p2) (F_Md_source 70 p1 p2) M := by
  obtain ⟨hS, -⟩ := id h
  obtain ⟨S, st, s01, s1, s2, hc, hm, hb, h1, h0⟩ := h.sc
  obtain ⟨a, a1, a2, rfl⟩ := iz_of p1
  obtain ⟨b, b1, b2, rfl⟩ := iz_of p2
  have ns := hb.2.1
  have ec : F_NS_source 0 (iz a) (iz b) M = (if 0 ≤ a ∧ a < sNs S then (if b < 0 then some (some (.int (-2)), M) else if b < 10 then (fR M 0 12 2 (fun b4 => cv M b4 9 ( bI (F_Scen_ofSource b4 (iz a) (iz b) M) (fun r6 M5 => some (some (.int r6), M5))))) else some (some (.int (-2)), M)) else some (some (.int (-2)), M)) := by
    unfold F_NS_source
    rw [fR_eq (kd_0 hS) (rr_0_2 hS), cv_eq (kd_2 hS), cIsS hS hc ns a1 a2, bI_eq, bz_if0, show (0 : Int32) = iz 0 from rfl, show (10 : Int32) = iz 10 from rfl, ifL b1 b2 (by omega) (by omega), ifL b1 b2 (by omega) (by omega)]
  have em : F_Md_source 70 (iz a) (iz b) M = (if 0 ≤ a ∧ a ≤ sNs S - 1 then (if 0 ≤ b ∧ b ≤ 9 then (if b = 9 then (cv M 70 13 ( bI (F_Md_roots 70 (iz a) M) (fun r7 M6 => some (some (.int r7), M6)))) else (cv M 70 13 ( bI (F_Md_ofSource 70 (iz a) (iz b) M) (fun r9 M8 => some (some (.int r9), M8))))) else some (some (.int (-2)), M)) else some (some (.int (-2)), M)) := by
    unfold F_Md_source
    rw [fI_eq (kd_70 hS), hm.2.2.2.2.1, show (1 : Int32) = iz 1 from rfl, iz_sub, mIn a _ a1 a2 (by omega) (by omega), bI_eq, bz_if0, show (0 : Int64) = jz 0 from rfl, show (9 : Int64) = jz 9 from rfl, mInL b 0 9 b1 b2 (by omega) (by omega) (by omega) (by omega), bI_eq, bz_if0, show (9 : Int32) = iz 9 from rfl, ifQ b1 b2 (by omega) (by omega)]
  by_cases g1 : 0 ≤ a ∧ a < sNs S
  · have hk : scOK S := by
      rcases s01 with q | q
      · rw [h0 q] at g1; exact absurd g1.2 (by show ¬ a < 0; omega)
      · exact (h1 q).1
    by_cases g2 : 0 ≤ b ∧ b < 10
    · refine Ag.p h (v := iz (sQ S a b)) ?_ ?_
      · rw [ec, if_pos g1, if_neg (by omega), if_pos (by omega), fR_eq (kd_0 hS) (rr_0_2 hS), cv_eq (kd_2 hS), cQ hS hc (by omega) (by omega) (by omega) (by omega), bI_eq]
      · rw [em, if_pos (by omega), if_pos (by omega)]
        by_cases g3 : b = 9
        · obtain ⟨-, -, -, -, -, -, -, z9⟩ := hk.2.2.2.2.2 a g1.1 g1.2
          rw [if_pos g3, cv_eq (kd_70 hS), mRts hS hm hk g1.1 g1.2, bI_eq, g3, z9]
        · rw [if_neg g3, cv_eq (kd_70 hS), mQ hS hm ns.2 g1.1 g1.2 (by omega) (by omega), bI_eq]
    · refine Ag.p h (v := -2) ?_ ?_
      · rw [ec, if_pos g1]
        split
        · rfl
        · rw [if_neg (by omega)]
      · rw [em, if_pos (by omega), if_neg (by omega)]
  · refine Ag.p h (v := -2) ?_ ?_
    · rw [ec, if_neg g1]
    · rw [em, if_neg (by omega)]
theorem ap_mixed (h : Inv M) (p1 p2 : Int32) : AgL (F_NS_mixed 0 p1 p2) (F_Md_mixed 70 p1 p2) M := by
  obtain ⟨hS, -⟩ := id h
  obtain ⟨S, st, s01, s1, s2, hc, hm, hb, h1, h0⟩ := h.sc
  rcases s01 with rfl | rfl
  · refine ⟨0, M, M, ?_, ?_, h⟩
    · unfold F_NS_mixed; rw [fR_eq (kd_0 hS) (rr_0_2 hS), fI_eq (kd_2 hS), s1, if_pos (by decide)]
    · unfold F_Md_mixed; rw [fI_eq (kd_70 hS), s2, if_pos (by decide)]
  · refine ⟨mxE (iz (sSd S)) p1 p2, M, M, ?_, ?_, h⟩
    · unfold F_NS_mixed; rw [fR_eq (kd_0 hS) (rr_0_2 hS), fI_eq (kd_2 hS), s1, if_neg (by decide), fR_eq (kd_0 hS) (rr_0_2 hS), cv_eq (kd_2 hS), cMix hS hc, bL_eq]
    · unfold F_Md_mixed; rw [fI_eq (kd_70 hS), s2, if_neg (by decide), cv_eq (kd_70 hS), mMix hS hm, bL_eq]
theorem ap_octet (h : Inv M) (p : Int32) : Ag (F_NS_octet 0 p) (F_Md_octet 70 p) M := by
  obtain ⟨hS, -, -, -, hO, -⟩ := id h
  obtain ⟨n, n1, o1, o2, o3⟩ := hO
  obtain ⟨a, a1, a2, rfl⟩ := iz_of p
  have ec : F_NS_octet 0 (iz a) M = (if a < 0 then some (some (.int (-1)), M) else if (n : Int) ≤ a then some (some (.int (-1)), M) else (fR M 16 7 0 (fun b2 => bI (aI M b2 (iz a) (fun x3 => some (some (.int x3), M))) (fun r3 M2 => some (some (.int r3), M2))))) := by
    unfold F_NS_octet F_Outp_byteAt
    rw [fR_eq (kd_0 hS) (rr_0_5 hS), cv_eq (kd_16 hS), fI_eq (kd_16 hS), o1, show (0 : Int32) = iz 0 from rfl, ifL a1 a2 (by omega) (by omega), ifE (by omega) (by omega) a1 a2, fR_eq (kd_16 hS) (rr_16_0 hS), fR_eq (kd_16 hS) (rr_16_0 hS)]
    split
    · rfl
    · split <;> rfl
  have em : F_Md_octet 70 (iz a) M = (if 0 ≤ a ∧ a ≤ n - 1 then (fR M 70 13 40 (fun b4 => aB M b4 (iz a) (fun x5 => some (some (.int x5), M)))) else some (some (.int (-1)), M)) := by
    unfold F_Md_octet
    rw [fI_eq (kd_70 hS), o2, show (1 : Int32) = iz 1 from rfl, iz_sub, mIn a _ a1 a2 (by omega) (by omega), bI_eq, bz_if0]
  by_cases g : 0 ≤ a ∧ a < n
  · refine Ag.p h (v := rI M 17 a.toNat) ?_ ?_
    · rw [ec, if_neg (by omega), if_neg (by omega), fR_eq (kd_16 hS) (rr_16_0 hS), aI_eq (kd_17 hS) (ln_17 hS) (by omega) (by omega) (by omega), bI_eq]
    · rw [em, if_pos (by omega), fR_eq (kd_70 hS) (rr_70_40 hS), aB_eq (kd_88 hS) (ln_88 hS) (by omega) (by omega) (by omega), o3 a.toNat (by omega)]
  · refine Ag.p h (v := -1) ?_ ?_
    · rw [ec]
      by_cases g1 : a < 0
      · rw [if_pos g1]
      · rw [if_neg g1, if_pos (by omega)]
    · rw [em, if_neg (by omega)]
end Plain
