/-! ===== what stands, when the tape or the scene changes ===== -/
def AT (b j : Nat) : Prop := b = 0 ∨ b = 1 ∨ b = 77 ∨ (b = 70 ∧ j = 15)
section KeepT
variable {M M' : am_M} {S : Sc}
theorem CS.t (h : CS M S) (hf : Fr AT M M') : CS M' S := h.fr hf (fun b j q => by unfold AT at q; omega)
theorem MS.t (h : MS M S) (hf : Fr AT M M') : MS M' S := h.fr hf (fun b j q => by unfold AT at q; omega)
theorem FrA.t (h : FrA M) (hf : Fr AT M M') : FrA M' := by
  obtain ⟨b, cap, h1, h2, h3, h4, h5, h6, h7⟩ := h
  exact ⟨b, cap, h1, by rw [hf.1]; exact h2, h3, h4, by unfold FrR; rw [hf.rr, hf.rr, hf.kd, hf.ln, hf.kd, hf.ln]; exact h5, by rw [hf.1]; exact h6, by rw [hf.2.1]; exact h7⟩
theorem fb_t (hf : Fr AT M M') : fb M' = fb M := by unfold fb; rw [hf.rr]
theorem Frm.t (h : Frm M S) (ha : FrA M) (hf : Fr AT M M') : Frm M' S := by
  obtain ⟨cap, b1, -⟩ := ha.at
  have e45 : ∀ j, rI M' 45 j = rI M 45 j := fun j => hf.ri (fun q => by unfold AT at q; omega)
  have eA : ∀ k i, k < 2 → rI M' (fb M + k) i = rI M (fb M + k) i := fun k i hk => hf.ri (fun q => by unfold AT at q; omega)
  rcases h with h | ⟨t, t1, t2, t3, L, O, l1, l2, ⟨l3, l4, l5⟩, l6⟩
  · exact Or.inl (by rw [e45]; exact h)
  · refine Or.inr ⟨t, t1, t2, by rw [e45]; exact t3, L, O, l1, l2, ⟨by rw [e45]; exact l3, by rw [fb_t hf, hf.ln]; exact l4, fun i c q => ?_⟩, fun i c q => ?_⟩
    · exact (l5 i c q).mv (fb_t hf) (fun k _ => eA 0 _ (by omega))
    · obtain ⟨j, j1, j2⟩ := l6 i c q
      exact ⟨j, j1, by rw [fb_t hf]; exact (eA 1 i (by omega)).trans j2⟩
theorem His.t (h : His M S) (hf : Fr AT M M') : His M' S := by
  obtain ⟨n, h1, h2, h3, h4⟩ := h
  have e : ∀ b j, (b = 12 ∨ b = 13 ∨ b = 14 ∨ b = 15 ∨ b = 78 ∨ b = 79 ∨ (b = 70 ∧ j = 24)) → rI M' b j = rI M b j := fun b j hb => hf.ri (fun q => by unfold AT at q; omega)
  refine ⟨n, h1, by rw [e _ _ (by omega)]; exact h2, by rw [e _ _ (by omega)]; exact h3, fun i hi => ?_⟩
  have := h4 i hi
  unfold hs1 at this ⊢
  rw [e 15 i (by omega), e 79 i (by omega), e 13 i (by omega), e 78 i (by omega), e 14 i (by omega)]
  exact this
theorem Flt.t (h : Flt M) (hf : Fr AT M M') : Flt M' := by
  have e : ∀ b j, (b = 6 ∨ (b = 70 ∧ 20 ≤ j ∧ j ≤ 22)) → rI M' b j = rI M b j := fun b j hb => hf.ri (fun q => by unfold AT at q; omega)
  unfold Flt
  rw [e _ _ (by omega), e _ _ (by omega), e _ _ (by omega), e _ _ (by omega)]
  exact h
theorem Out.t (h : Out M) (hf : Fr AT M M') : Out M' := by
  obtain ⟨n, h1, h2, h3, h4⟩ := h
  have e : ∀ b j, (b = 16 ∨ b = 17 ∨ b = 88 ∨ (b = 70 ∧ j = 41)) → rI M' b j = rI M b j := fun b j hb => hf.ri (fun q => by unfold AT at q; omega)
  refine ⟨n, h1, by rw [e _ _ (by omega)]; exact h2, by rw [e _ _ (by omega)]; exact h3, fun i hi => ?_⟩
  rw [e 17 i (by omega), e 88 i (by omega)]
  exact h4 i hi
theorem Sc0.t (h : Sc0 M) (hf : Fr AT M M') : Sc0 M' := by
  obtain ⟨h1, h2, h3, h4⟩ := h
  exact ⟨by rw [hf.ri (fun q => by unfold AT at q; omega)]; exact h1, by rw [hf.ri (fun q => by unfold AT at q; omega)]; exact h2, h3.t hf, h4.t hf⟩
theorem Sc1.t (h : Sc1 M S) (ha : FrA M) (hf : Fr AT M M') : Sc1 M' S := by
  obtain ⟨h1, h2, h3, h4, h5, h6, h7⟩ := h
  exact ⟨h1, by rw [hf.ri (fun q => by unfold AT at q; omega)]; exact h2, by rw [hf.ri (fun q => by unfold AT at q; omega)]; exact h3, h4.t hf, h5.t hf, h6.t hf, h7.t ha hf⟩
theorem Inv.t (h : Inv M) (hf : Fr AT M M') (ho : Tap M') : Inv M' := by
  obtain ⟨h1, h2, -, h4, h5, h6⟩ := h
  refine ⟨h1.fr hf, h2.t hf, ho, h4.t hf, h5.t hf, ?_⟩
  rcases h6 with h6 | ⟨S, h6⟩
  · exact Or.inl (h6.t hf)
  · exact Or.inr ⟨S, h6.t h2 hf⟩
end KeepT
def AS (b j : Nat) : Prop := (2 ≤ b ∧ b ≤ 5) ∨ (12 ≤ b ∧ b ≤ 15) ∨ (b = 45 ∧ j = 6) ∨ (71 ≤ b ∧ b ≤ 73) ∨ b = 78 ∨ b = 79 ∨ (b = 70 ∧ (j = 3 ∨ j = 24))
section KeepS
variable {M M' : am_M}
theorem FrA.s (h : FrA M) (hf : Fr AS M M') : FrA M' := by
  obtain ⟨b, cap, h1, h2, h3, h4, h5, h6, h7⟩ := h
  exact ⟨b, cap, h1, by rw [hf.1]; exact h2, h3, h4, by unfold FrR; rw [hf.rr, hf.rr, hf.kd, hf.ln, hf.kd, hf.ln]; exact h5, by rw [hf.1]; exact h6, by rw [hf.2.1]; exact h7⟩
theorem Tap.s (h : Tap M) (hf : Fr AS M M') : Tap M' := by
  obtain ⟨n, h1, h2, h3, h4⟩ := h
  have e : ∀ b j, (b = 0 ∨ b = 1 ∨ b = 77 ∨ (b = 70 ∧ j = 15)) → rI M' b j = rI M b j := fun b j hb => hf.ri (fun q => by unfold AS at q; omega)
  refine ⟨n, h1, by rw [e _ _ (by omega)]; exact h2, by rw [e _ _ (by omega)]; exact h3, fun i hi => ?_⟩
  rw [e 1 i (by omega), e 77 i (by omega)]
  exact h4 i hi
theorem Flt.s (h : Flt M) (hf : Fr AS M M') : Flt M' := by
  have e : ∀ b j, (b = 6 ∨ (b = 70 ∧ 20 ≤ j ∧ j ≤ 22)) → rI M' b j = rI M b j := fun b j hb => hf.ri (fun q => by unfold AS at q; omega)
  unfold Flt
  rw [e _ _ (by omega), e _ _ (by omega), e _ _ (by omega), e _ _ (by omega)]
  exact h
theorem Out.s (h : Out M) (hf : Fr AS M M') : Out M' := by
  obtain ⟨n, h1, h2, h3, h4⟩ := h
  have e : ∀ b j, (b = 16 ∨ b = 17 ∨ b = 88 ∨ (b = 70 ∧ j = 41)) → rI M' b j = rI M b j := fun b j hb => hf.ri (fun q => by unfold AS at q; omega)
  refine ⟨n, h1, by rw [e _ _ (by omega)]; exact h2, by rw [e _ _ (by omega)]; exact h3, fun i hi => ?_⟩
  rw [e 17 i (by omega), e 88 i (by omega)]
  exact h4 i hi
theorem Inv.s (h : Inv M) (hf : Fr AS M M') (ho : ∃ S, Sc1 M' S) : Inv M' := by
  obtain ⟨h1, h2, h3, h4, h5, -⟩ := h
  exact ⟨h1.fr hf, h2.s hf, h3.s hf, h4.s hf, h5.s hf, Or.inr ho⟩
end KeepS
section End
variable {M : am_M}
theorem ap_end (h : Inv M) (p : Int32) : Ag (F_NS_end 0 p) (F_Md_end 70 p) M := by
  obtain ⟨hS, -, hT, -⟩ := id h
  obtain ⟨n, n1, t1, t2, t3⟩ := hT
  obtain ⟨a, a1, a2, rfl⟩ := iz_of p
  by_cases g : 0 ≤ a ∧ a ≤ n
  · have f1 : Fr AT M (wI M 0 1 (iz a)) := Fr.wI (Or.inl rfl)
    have f2 := f1.trans (Fr.wI (k := 15) (v := iz a) (show AT 70 _ from Or.inr (Or.inr (Or.inr ⟨rfl, rfl⟩))))
    have hS1 := hS.fr f1
    refine ⟨iz a, wI M 0 1 (iz a), _, ?_, ?_, h.t f2 ⟨a.toNat, by omega, ?_, ?_, fun i hi => ?_⟩⟩
    · unfold F_NS_end
      rw [show (0 : Int32) = iz 0 from rfl, ifL a1 a2 (by omega) (by omega), if_neg (by omega), fI_eq (kd_0 hS), t1, ifE a1 a2 (by omega) (by omega), if_pos (by omega), sI_eq (kd_0 hS)]
    · unfold F_Md_end
      rw [fI_eq (kd_70 hS1), rI_ne (by omega), t2, mIn a _ a1 a2 (by omega) (by omega), bI_eq, bz_if0, if_pos g, sI_eq (kd_70 hS1)]
    · rw [rI_ne (by omega), rI_at rfl rfl, Int.toNat_of_nonneg g.1]
    · rw [rI_at rfl rfl, Int.toNat_of_nonneg g.1]
    · rw [rI_ne (by omega), rI_ne (by omega), rI_ne (by omega), rI_ne (by omega)]
      exact t3 i (by omega)
  · refine Ag.p h (v := -1) ?_ ?_
    · unfold F_NS_end
      rw [show (0 : Int32) = iz 0 from rfl, ifL a1 a2 (by omega) (by omega), fI_eq (kd_0 hS), t1, ifE a1 a2 (by omega) (by omega)]
      by_cases g1 : a < 0
      · rw [if_pos g1]
      · rw [if_neg g1, if_neg (by omega)]
    · unfold F_Md_end
      rw [fI_eq (kd_70 hS), t2, mIn a _ a1 a2 (by omega) (by omega), bI_eq, bz_if0, if_neg g]
end End
