/-! ===== what stands, when something is told ===== -/
def AO (b j : Nat) : Prop := ASc b j ∨ AOc b j ∨ AOm b j
section Keep2
variable {M M' : am_M} {S : Sc}
theorem CS.o (h : CS M S) (hf : Fr AO M M') : CS M' S := h.fr hf (fun b j q => by unfold AO ASc AOc AOm at q; omega)
theorem MS.o (h : MS M S) (hf : Fr AO M M') : MS M' S := h.fr hf (fun b j q => by unfold AO ASc AOc AOm at q; omega)
theorem FrA.o (h : FrA M) (hf : Fr AO M M') : FrA M' := by
  obtain ⟨b, cap, h1, h2, h3, h4, h5, h6, h7⟩ := h
  exact ⟨b, cap, h1, by rw [hf.1]; exact h2, h3, h4, by unfold FrR; rw [hf.rr, hf.rr, hf.kd, hf.ln, hf.kd, hf.ln]; exact h5, by rw [hf.1]; exact h6, by rw [hf.2.1]; exact h7⟩
theorem fb_o (hf : Fr AO M M') : fb M' = fb M := by unfold fb; rw [hf.rr]
theorem Frm.o (h : Frm M S) (ha : FrA M) (hf : Fr AO M M') : Frm M' S := by
  obtain ⟨cap, b1, -⟩ := ha.at
  have e45 : ∀ j, rI M' 45 j = rI M 45 j := fun j => hf.ri (fun q => by unfold AO ASc AOc AOm at q; omega)
  have eA : ∀ k i, k < 2 → rI M' (fb M + k) i = rI M (fb M + k) i := fun k i hk => hf.ri (fun q => by unfold AO ASc AOc AOm at q; omega)
  rcases h with h | ⟨t, t1, t2, t3, L, O, l1, l2, ⟨l3, l4, l5⟩, l6⟩
  · exact Or.inl (by rw [e45]; exact h)
  · refine Or.inr ⟨t, t1, t2, by rw [e45]; exact t3, L, O, l1, l2, ⟨by rw [e45]; exact l3, by rw [fb_o hf, hf.ln]; exact l4, fun i c q => ?_⟩, fun i c q => ?_⟩
    · exact (l5 i c q).mv (fb_o hf) (fun k _ => eA 0 _ (by omega))
    · obtain ⟨j, j1, j2⟩ := l6 i c q
      exact ⟨j, j1, by rw [fb_o hf]; exact (eA 1 i (by omega)).trans j2⟩
theorem His.o (h : His M S) (hf : Fr AO M M') : His M' S := by
  obtain ⟨n, h1, h2, h3, h4⟩ := h
  have e : ∀ b j, (b = 12 ∨ b = 13 ∨ b = 14 ∨ b = 15 ∨ b = 78 ∨ b = 79 ∨ (b = 70 ∧ j = 24)) → rI M' b j = rI M b j := fun b j hb => hf.ri (fun q => by unfold AO ASc AOc AOm at q; omega)
  refine ⟨n, h1, by rw [e _ _ (by omega)]; exact h2, by rw [e _ _ (by omega)]; exact h3, fun i hi => ?_⟩
  have := h4 i hi
  unfold hs1 at this ⊢
  rw [e 15 i (by omega), e 79 i (by omega), e 13 i (by omega), e 78 i (by omega), e 14 i (by omega)]
  exact this
theorem Tap.o (h : Tap M) (hf : Fr AO M M') : Tap M' := by
  obtain ⟨n, h1, h2, h3, h4⟩ := h
  have e : ∀ b j, (b = 0 ∨ b = 1 ∨ b = 77 ∨ (b = 70 ∧ j = 15)) → rI M' b j = rI M b j := fun b j hb => hf.ri (fun q => by unfold AO ASc AOc AOm at q; omega)
  refine ⟨n, h1, by rw [e _ _ (by omega)]; exact h2, by rw [e _ _ (by omega)]; exact h3, fun i hi => ?_⟩
  rw [e 1 i (by omega), e 77 i (by omega)]
  exact h4 i hi
theorem Flt.o (h : Flt M) (hf : Fr AO M M') : Flt M' := by
  have e : ∀ b j, (b = 6 ∨ (b = 70 ∧ 20 ≤ j ∧ j ≤ 22)) → rI M' b j = rI M b j := fun b j hb => hf.ri (fun q => by unfold AO ASc AOc AOm at q; omega)
  unfold Flt
  rw [e _ _ (by omega), e _ _ (by omega), e _ _ (by omega), e _ _ (by omega)]
  exact h
theorem Sc0.o (h : Sc0 M) (hf : Fr AO M M') : Sc0 M' := by
  obtain ⟨h1, h2, h3, h4⟩ := h
  exact ⟨by rw [hf.ri (fun q => by unfold AO ASc AOc AOm at q; omega)]; exact h1, by rw [hf.ri (fun q => by unfold AO ASc AOc AOm at q; omega)]; exact h2, h3.o hf, h4.o hf⟩
theorem Sc1.o (h : Sc1 M S) (ha : FrA M) (hf : Fr AO M M') : Sc1 M' S := by
  obtain ⟨h1, h2, h3, h4, h5, h6, h7⟩ := h
  exact ⟨h1, by rw [hf.ri (fun q => by unfold AO ASc AOc AOm at q; omega)]; exact h2, by rw [hf.ri (fun q => by unfold AO ASc AOc AOm at q; omega)]; exact h3, h4.o hf, h5.o hf, h6.o hf, h7.o ha hf⟩
theorem Inv.o (h : Inv M) (hf : Fr AO M M') (ho : Out M') : Inv M' := by
  obtain ⟨h1, h2, h3, h4, -, h6⟩ := h
  refine ⟨h1.fr hf, h2.o hf, h3.o hf, h4.o hf, ho, ?_⟩
  rcases h6 with h6 | ⟨S, h6⟩
  · exact Or.inl (h6.o hf)
  · exact Or.inr ⟨S, h6.o h2 hf⟩
end Keep2
theorem AOc_AO (b j : Nat) (h : AOc b j) : AO b j := Or.inr (Or.inl h)
theorem AOm_AO (b j : Nat) (h : AOm b j) : AO b j := Or.inr (Or.inr h)
theorem ASc_AO (b j : Nat) (h : ASc b j) : AO b j := Or.inl h
