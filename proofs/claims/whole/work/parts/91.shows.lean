/-! ===== a frame is shown ===== -/
section Shows
variable {M M' : am_M} {S : Sc} {t : Int}
def KF (M M' : am_M) : Prop := SH M' ∧ FrA M' ∧ ∀ x j, (x ≤ 17 ∨ (49 ≤ x ∧ x ≤ 88)) → rI M' x j = rI M x j
theorem CS.kf (h : CS M S) (hf : KF M M') : CS M' S := by
  obtain ⟨h1, h2, h3, h4, h5, h6⟩ := h
  exact ⟨fun i q1 q2 => by rw [hf.2.2 _ _ (by omega)]; exact h1 i q1 q2, fun k f q1 q2 q3 q4 => by rw [hf.2.2 _ _ (by omega)]; exact h2 k f q1 q2 q3 q4, fun k f q1 q2 q3 q4 => by rw [hf.2.2 _ _ (by omega)]; exact h3 k f q1 q2 q3 q4, by rw [hf.2.2 _ _ (by omega)]; exact h4, by rw [hf.2.2 _ _ (by omega)]; exact h5, by rw [hf.2.2 _ _ (by omega)]; exact h6⟩
theorem MS.kf (h : MS M S) (hf : KF M M') : MS M' S := by
  obtain ⟨h1, h2, h3, h4, h5, h6⟩ := h
  exact ⟨fun i q1 q2 => by rw [hf.2.2 _ _ (by omega)]; exact h1 i q1 q2, fun k f q1 q2 q3 q4 => by rw [hf.2.2 _ _ (by omega)]; exact h2 k f q1 q2 q3 q4, fun k f q1 q2 q3 q4 => by rw [hf.2.2 _ _ (by omega)]; exact h3 k f q1 q2 q3 q4, by rw [hf.2.2 _ _ (by omega)]; exact h4, by rw [hf.2.2 _ _ (by omega)]; exact h5, by rw [hf.2.2 _ _ (by omega)]; exact h6⟩
theorem His.kf (h : His M S) (hf : KF M M') : His M' S := by
  obtain ⟨n, h1, h2, h3, h4⟩ := h
  refine ⟨n, h1, by rw [hf.2.2 _ _ (by omega)]; exact h2, by rw [hf.2.2 _ _ (by omega)]; exact h3, fun i hi => ?_⟩
  have := h4 i hi
  unfold hs1 at this ⊢
  rw [hf.2.2 15 i (by omega), hf.2.2 79 i (by omega), hf.2.2 13 i (by omega), hf.2.2 78 i (by omega), hf.2.2 14 i (by omega)]
  exact this
theorem Tap.kf (h : Tap M) (hf : KF M M') : Tap M' := by
  obtain ⟨n, h1, h2, h3, h4⟩ := h
  refine ⟨n, h1, by rw [hf.2.2 _ _ (by omega)]; exact h2, by rw [hf.2.2 _ _ (by omega)]; exact h3, fun i hi => ?_⟩
  rw [hf.2.2 1 i (by omega), hf.2.2 77 i (by omega)]
  exact h4 i hi
theorem Flt.kf (h : Flt M) (hf : KF M M') : Flt M' := by
  unfold Flt
  rw [hf.2.2 _ _ (by omega), hf.2.2 _ _ (by omega), hf.2.2 _ _ (by omega), hf.2.2 _ _ (by omega)]
  exact h
theorem Out.kf (h : Out M) (hf : KF M M') : Out M' := by
  obtain ⟨n, h1, h2, h3, h4⟩ := h
  refine ⟨n, h1, by rw [hf.2.2 _ _ (by omega)]; exact h2, by rw [hf.2.2 _ _ (by omega)]; exact h3, fun i hi => ?_⟩
  rw [hf.2.2 17 i (by omega), hf.2.2 88 i (by omega)]
  exact h4 i hi
/-- what stands when a frame of t has been shown -/
def FrK (M : am_M) (S : Sc) (t : Int) (L O : List Int) : Prop := FL S t L ∧ FO S t O ∧ FrC M S t L ∧ ∀ (i : Nat) c, O[i]? = some c → ∃ j : Nat, L[j]? = some c ∧ rI M (fb M + 1) i = iz (j : Int)
theorem cShows0 (h : SH M) (hst : rI M 2 7 = iz 0) (p : Int32) : F_Fram_shows 45 p M = some (some (.int (iz 0)), M) := by
  unfold F_Fram_shows
  rw [fR_eq (kd_45 h) (rr_45_0 h), fI_eq (kd_2 h), hst, if_pos (by decide)]; rfl
theorem cShowsN (h : SH M) (hst : rI M 2 7 = iz 1) (t1 : -2147483648 ≤ t) (t2 : t < 2147483648) (hn : ¬ (0 ≤ t ∧ t ≤ 30000)) : F_Fram_shows 45 (iz t) M = some (some (.int (iz 0)), M) := by
  unfold F_Fram_shows
  rw [fR_eq (kd_45 h) (rr_45_0 h), fI_eq (kd_2 h), hst, if_neg (by decide), cTick t1 t2, bI_eq, bz_f hn, if_pos (by decide)]; rfl
theorem cShows (hI : Inv M) (h1 : Sc1 M S) (t1 : 0 ≤ t) (t2 : t ≤ 30000) : ∃ M' L O, F_Fram_shows 45 (iz t) M = some (some (.int (iz 1)), M') ∧ Inv M' ∧ Sc1 M' S ∧ FrK M' S t L O := by
  obtain ⟨h, ha, hT, hF, hOu, -⟩ := id hI
  obtain ⟨hk, s1, s2, hc, hm, hh, hfr⟩ := id h1
  have hd : F_Fram_shows 45 (iz t) M = if iz t = rI M 45 6 then some (some (.int (iz 1)), M) else (bV (F_Walk_start 18 (iz t) (iz (t + 1)) (wI M 45 2 (iz 0))) (fun M8 => F_Fram_shows_L47 fu 45 (iz t) (iz 0) M8)) := by
    unfold F_Fram_shows
    rw [fR_eq (kd_45 h) (rr_45_0 h), fI_eq (kd_2 h), s1, if_neg (by decide), cTick (by omega) (by omega), bI_eq, bz_t (by omega), if_neg (by decide), fI_eq (kd_45 h), sI_eq (kd_45 h)]
    have h' : SH (wI M 45 2 0) := h.wI
    rw [fR_eq (kd_45 h') (rr_45_1 h'), cv_eq (kd_18 h'), show (1 : Int32) = iz 1 from rfl, iz_add]
    rfl
  by_cases g : iz t = rI M 45 6
  · rw [hd, if_pos g]
    rcases hfr with q | ⟨t', q1, q2, q3, L, O, l1, l2, l3, l4⟩
    · rw [q, iz_eq (by omega) (by omega) (by omega) (by omega)] at g
      omega
    · rw [q3, iz_eq (by omega) (by omega) (by omega) (by omega)] at g
      subst g
      exact ⟨M, L, O, rfl, hI, h1, l1, l2, l3, l4⟩
  rw [hd, if_neg g]
  obtain ⟨O, hO⟩ := FO_ex hk t
  have hL := wkl_FL hk t
  have f0 : Fr (fun x j => x = 45 ∧ j = 2) M (wI M 45 2 (iz 0)) := Fr.wI ⟨rfl, rfl⟩
  obtain ⟨M1, e1, f1, w1⟩ := cStart (h.fr f0) (hc.fr f0 (fun x j q => by omega)) hk (a := t) (b := t + 1) (by omega) (by omega) (by omega) (by omega)
  have P0 : SH M1 ∧ FrA M1 ∧ FrC M1 S t [] ∧ ∀ x j, (x ≤ 17 ∨ (49 ≤ x ∧ x ≤ 88)) → rI M1 x j = rI M x j := by
    refine ⟨w1.1, (ha.fr f0).fr f1, ⟨?_, Nat.zero_le _, fun i c q => by cases q⟩, fun x j q => by rw [f1.ri (fun z => by unfold AWk at z; omega), f0.ri (by omega)]⟩
    rw [f1.ri (fun z => by unfold AWk at z; omega), rI_at rfl rfl]; rfl
  obtain ⟨x, M2, e2, p1, p2, p3, p4⟩ := wAll hk (by omega) (by omega) (by omega) (by omega) (lpShows hk M t1 t2) w1 (x := ()) P0
  obtain ⟨M3, e3, h3, a3, c3, f3, z3⟩ := cPutO hk p1 p2 p3 hL hO
  have f4 : Fr (fun x j => x = 45 ∧ j = 6) M3 (wI M3 45 6 (iz t)) := Fr.wI ⟨rfl, rfl⟩
  obtain ⟨cap, b1, -⟩ := p2.at
  obtain ⟨cap3, b3, -⟩ := a3.at
  have kf : KF M (wI M3 45 6 (iz t)) := ⟨h3.wI, a3.fr f4, fun x j q => by rw [f4.ri (by omega), f3.ri (by omega)]; exact p4 x j q⟩
  have fk : FrK (wI M3 45 6 (iz t)) S t (wkl S t (t + 1)) O := by
    obtain ⟨q1, q2, q3⟩ := c3
    have fe : fb (wI M3 45 6 (iz t)) = fb M3 := rfl
    refine ⟨hL, hO, ⟨by rw [f4.ri (by omega)]; exact q1, q2, fun i c z => ?_⟩, fun i c z => ?_⟩
    · exact (q3 i c z).mv fe (fun k _ => f4.ri (by omega))
    · have mc : c ∈ wkl S t (t + 1) := (hL.2 c).mpr ((hO.2 c).mp (List.mem_of_getElem? z))
      obtain ⟨j, jl, ej⟩ := List.mem_iff_getElem.mp mc
      have ej' : (wkl S t (t + 1))[j]? = some c := by rw [List.getElem?_eq_getElem jl, ej]
      refine ⟨j, ej', ?_⟩
      have := z3 j c ej'
      rw [FO_pos hk hL hO z] at this
      rw [fe, f4.ri (by omega)]
      rw [show ((i : Int)).toNat = i by omega] at this
      exact this
  have s1' : Sc1 (wI M3 45 6 (iz t)) S := ⟨hk, by rw [kf.2.2 _ _ (by omega)]; exact s1, by rw [kf.2.2 _ _ (by omega)]; exact s2, hc.kf kf, hm.kf kf, hh.kf kf, Or.inr ⟨t, t1, t2, rI_at rfl rfl, _, _, fk.1, fk.2.1, fk.2.2.1, fk.2.2.2⟩⟩
  refine ⟨wI M3 45 6 (iz t), wkl S t (t + 1), O, ?_, ⟨kf.1, kf.2.1, hT.kf kf, hF.kf kf, hOu.kf kf, Or.inr ⟨S, s1'⟩⟩, s1', fk⟩
  have e2' : F_Fram_shows_L47 fu 45 (iz t) (iz 0) M1 = cv M2 45 5 (bV (F_Fram_putInOrder 45 M2) (fun M14 => sI M14 45 5 6 (iz t) (fun M15 => some (some (.int 1), M15)))) := e2
  rw [e1, bV_eq, e2', cv_eq (kd_45 p1), e3, bV_eq, sI_eq (kd_45 h3)]
  rfl
/-- the frame stays, where only scratch is used up -/
theorem FrK.q {L O : List Int} (h : FrK M S t L O) (ha : FrA M) (hf : Fr ASc M M') : FrK M' S t L O := by
  obtain ⟨l1, l2, ⟨l3, l4, l5⟩, l6⟩ := h
  obtain ⟨cap, b1, -⟩ := ha.at
  have e45 : ∀ j, rI M' 45 j = rI M 45 j := fun j => hf.ri (fun q => by unfold ASc at q; omega)
  have eA : ∀ k i, k < 2 → rI M' (fb M + k) i = rI M (fb M + k) i := fun k i hk => hf.ri (fun q => by unfold ASc at q; omega)
  refine ⟨l1, l2, ⟨by rw [e45]; exact l3, by rw [fb_q hf, hf.ln]; exact l4, fun i c q => ?_⟩, fun i c q => ?_⟩
  · exact (l5 i c q).mv (fb_q hf) (fun k _ => eA 0 _ (by omega))
  · obtain ⟨j, j1, j2⟩ := l6 i c q
    exact ⟨j, j1, by rw [fb_q hf]; exact (eA 1 i (by omega)).trans j2⟩
end Shows
