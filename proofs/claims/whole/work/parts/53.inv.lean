/-! ===== what stands between calls ===== -/
/-- there at this tick -/
def inFr (S : Sc) (t c : Int) : Prop := isSp S c ∧ kBn (lay S c) ≤ t ∧ t < kEn (lay S c)
/-- the codes of a frame, in their order -/
def FL (S : Sc) (t : Int) (L : List Int) : Prop := L.Pairwise (· < ·) ∧ ∀ c, c ∈ L ↔ inFr S t c
noncomputable def pz (S : Sc) (t c i : Int) : Int := plc S (lay S c) i (t - kBn (lay S c))
/-- drawn before: deeper first, then the lesser code -/
def dlt (S : Sc) (t c d : Int) : Prop := pz S t d 2 < pz S t c 2 ∨ (pz S t c 2 = pz S t d 2 ∧ c < d)
def FO (S : Sc) (t : Int) (L : List Int) : Prop := L.Pairwise (dlt S t) ∧ ∀ c, c ∈ L ↔ inFr S t c
def fb (M : am_M) : Nat := (rR M 45 3).getD 0
/-- the frame's own arrays -/
def cpw (cap : Nat) : Prop := ∃ k : Nat, k ≤ 14 ∧ cap = 2 ^ k
theorem cpw_dbl {cap : Nat} (h : cpw cap) (hc : cap < 16384) : cpw (2 * cap) ∧ 2 * cap ≤ 16384 := by
  obtain ⟨k, k1, k2⟩ := h
  have k3 : k ≠ 14 := fun e => by rw [k2, e] at hc; exact absurd hc (by decide)
  refine ⟨⟨k + 1, by omega, by rw [k2, Nat.pow_succ, Nat.mul_comm]⟩, ?_⟩
  have h2 : 2 ^ (k + 1) ≤ 2 ^ 14 := Nat.pow_le_pow_right (by decide) (by omega)
  rw [Nat.pow_succ] at h2
  rw [k2]
  omega
/-- the frame's rows at b, seven numbers a spark; their order behind them -/
def FrR (M : am_M) (b cap : Nat) : Prop := (rR M 45 3 = some b ∧ rR M 45 4 = some (b + 1)) ∧ (mKd M b = 0 ∧ mLn M b = 7 * cap) ∧ mKd M (b + 1) = 0 ∧ mLn M (b + 1) = cap
def FrA (M : am_M) : Prop := ∃ b cap : Nat, (b = 46 ∨ 89 ≤ b) ∧ b + 2 ≤ mNx M ∧ 16 ≤ cap ∧ (cap ≤ 16384 ∧ cpw cap) ∧ FrR M b cap ∧ mNx M ≤ 89 + cap ∧ mUs M ≤ 161585 + 16 * cap
/-- what the frame holds of sparks -/
def FrE (M : am_M) (S : Sc) (t : Int) (i : Nat) (c : Int) : Prop := rI M (fb M) (7 * i) = iz c ∧ rI M (fb M) (7 * i + 1) = iz (kKd (lay S c)) ∧ rI M (fb M) (7 * i + 2) = iz (kBn (lay S c)) ∧ rI M (fb M) (7 * i + 3) = iz (kEn (lay S c)) ∧ rI M (fb M) (7 * i + 4) = iz (pz S t c 0) ∧ rI M (fb M) (7 * i + 5) = iz (pz S t c 1) ∧ rI M (fb M) (7 * i + 6) = iz (pz S t c 2)
theorem FrE.mv {M M' : am_M} {S : Sc} {t : Int} {i : Nat} {c : Int} (h : FrE M S t i c) (eb : fb M' = fb M) (e : ∀ k, k < 7 → rI M' (fb M) (7 * i + k) = rI M (fb M) (7 * i + k)) : FrE M' S t i c := by
  obtain ⟨a0, a1, a2, a3, a4, a5, a6⟩ := h
  have z := e 0 (by omega)
  rw [Nat.add_zero] at z
  unfold FrE
  rw [eb]
  exact ⟨z.trans a0, (e 1 (by omega)).trans a1, (e 2 (by omega)).trans a2, (e 3 (by omega)).trans a3, (e 4 (by omega)).trans a4, (e 5 (by omega)).trans a5, (e 6 (by omega)).trans a6⟩
def FrC (M : am_M) (S : Sc) (t : Int) (L : List Int) : Prop := rI M 45 2 = iz (L.length : Int) ∧ L.length ≤ mLn M (fb M + 1) ∧ ∀ i c, L[i]? = some c → FrE M S t i c
def FrV (M : am_M) (S : Sc) (t : Int) : Prop := ∃ L O : List Int, FL S t L ∧ FO S t O ∧ FrC M S t L ∧ ∀ i c, O[i]? = some c → ∃ j : Nat, L[j]? = some c ∧ rI M (fb M + 1) i = iz (j : Int)
def Frm (M : am_M) (S : Sc) : Prop := rI M 45 6 = iz (-1) ∨ ∃ t : Int, 0 ≤ t ∧ t ≤ 30000 ∧ rI M 45 6 = iz t ∧ FrV M S t
/-- what may be taken back -/
def hsR (w v : Int) : Prop := (w = 0 ∧ 1 ≤ v ∧ v ≤ 40) ∨ (w = 1 ∧ 0 ≤ v ∧ v ≤ 20) ∨ (w = 2 ∧ 0 ≤ v ∧ v ≤ 20) ∨ (w = 3 ∧ -9 ≤ v ∧ v ≤ 9) ∨ (w = 4 ∧ 1 ≤ v ∧ v ≤ 9)
def hs1 (M : am_M) (S : Sc) (i : Nat) : Prop := ∃ v : Int, rI M 15 i = iz v ∧ rI M 79 i = iz v ∧ ((rI M 13 i = iz (-1) ∧ rI M 78 i = iz (-1) ∧ 0 ≤ v ∧ v ≤ 999999) ∨ ∃ k w : Int, 0 ≤ k ∧ k < sNk S ∧ rI M 13 i = iz k ∧ rI M 14 i = iz w ∧ rI M 78 i = iz (8 * k + w) ∧ hsR w v)
def His (M : am_M) (S : Sc) : Prop := ∃ n : Nat, n ≤ 10 ∧ rI M 12 3 = iz (n : Int) ∧ rI M 70 24 = iz (n : Int) ∧ ∀ i, i < n → hs1 M S i
def Sc1 (M : am_M) (S : Sc) : Prop := scOK S ∧ rI M 2 7 = iz 1 ∧ rI M 70 1 = iz 1 ∧ CS M S ∧ MS M S ∧ His M S ∧ Frm M S
def S0 : Sc := (fun _ => 0, fun _ _ => 0, fun _ _ => 0, 0, 0, 0)
def Sc0 (M : am_M) : Prop := rI M 2 7 = iz 0 ∧ rI M 70 1 = iz 0 ∧ CS M S0 ∧ MS M S0
/-- a byte as it is held -/
def BY (y : Int32) (v : Int) : Prop := y &&& iz 255 = iz v ∧ (v < 128 → y = iz v)
def Tap (M : am_M) : Prop := ∃ n : Nat, n ≤ 500 ∧ rI M 0 1 = iz (n : Int) ∧ rI M 70 15 = iz (n : Int) ∧ ∀ i, i < n → ∃ v : Int, 0 ≤ v ∧ v < 256 ∧ rI M 1 i = iz v ∧ BY (rI M 77 i) v
def Flt (M : am_M) : Prop := rI M 6 1 = rI M 70 21 ∧ rI M 6 2 = rI M 70 22
def Out (M : am_M) : Prop := ∃ n : Nat, n ≤ 1640 ∧ rI M 16 1 = iz (n : Int) ∧ rI M 70 41 = iz (n : Int) ∧ ∀ i, i < n → rI M 17 i = rI M 88 i
def Inv (M : am_M) : Prop := SH M ∧ FrA M ∧ Tap M ∧ Flt M ∧ Out M ∧ (Sc0 M ∨ ∃ S, Sc1 M S)
/-- cells that a question may use up -/
def ASc (b j : Nat) : Prop := (18 ≤ b ∧ b ≤ 44) ∨ (49 ≤ b ∧ b ≤ 69) ∨ (80 ≤ b ∧ b ≤ 87) ∨ (b = 70 ∧ (j = 27 ∨ j = 28 ∨ j = 29 ∨ j = 34 ∨ j = 39))
theorem ALd_ASc (b j : Nat) (h : ALd b j) : ASc b j := by unfold ALd at h; unfold ASc; omega
theorem AFd_ASc {f : Nat} (hf : f = 49 ∨ f = 59) (b j : Nat) (h : AFd f b j) : ASc b j := by unfold AFd at h; unfold ASc; omega
section Keep
variable {M M' : am_M} {S : Sc}
theorem CS.q (h : CS M S) (hf : Fr ASc M M') : CS M' S := h.fr hf (fun b j q => by unfold ASc at q; omega)
theorem MS.q (h : MS M S) (hf : Fr ASc M M') : MS M' S := h.fr hf (fun b j q => by unfold ASc at q; omega)
theorem ASc.ri (hf : Fr ASc M M') {b j : Nat} (hb : ¬ ASc b j) : rI M' b j = rI M b j := hf.ri hb
theorem FrA.q (h : FrA M) (hf : Fr ASc M M') : FrA M' := by
  obtain ⟨b, cap, h1, h2, h3, h4, h5, h6, h7⟩ := h
  exact ⟨b, cap, h1, by rw [hf.1]; exact h2, h3, h4, by unfold FrR; rw [hf.rr, hf.rr, hf.kd, hf.ln, hf.kd, hf.ln]; exact h5, by rw [hf.1]; exact h6, by rw [hf.2.1]; exact h7⟩
theorem FrA.at (h : FrA M) : ∃ cap : Nat, (fb M = 46 ∨ 89 ≤ fb M) ∧ fb M + 2 ≤ mNx M ∧ 16 ≤ cap ∧ (cap ≤ 16384 ∧ cpw cap) ∧ FrR M (fb M) cap ∧ mNx M ≤ 89 + cap ∧ mUs M ≤ 161585 + 16 * cap := by
  obtain ⟨b, cap, h1, h2, h3, h4, h5, h6, h7⟩ := h
  have e : fb M = b := by unfold fb; rw [h5.1.1]; rfl
  rw [e]
  exact ⟨cap, h1, h2, h3, h4, h5, h6, h7⟩
theorem fb_q (hf : Fr ASc M M') : fb M' = fb M := by unfold fb; rw [hf.rr]
theorem Frm.q (h : Frm M S) (ha : FrA M) (hf : Fr ASc M M') : Frm M' S := by
  obtain ⟨cap, b1, -⟩ := ha.at
  have e45 : ∀ j, rI M' 45 j = rI M 45 j := fun j => hf.ri (fun q => by unfold ASc at q; omega)
  have eA : ∀ k i, k < 2 → rI M' (fb M + k) i = rI M (fb M + k) i := fun k i hk => hf.ri (fun q => by unfold ASc at q; omega)
  rcases h with h | ⟨t, t1, t2, t3, L, O, l1, l2, ⟨l3, l4, l5⟩, l6⟩
  · exact Or.inl (by rw [e45]; exact h)
  · refine Or.inr ⟨t, t1, t2, by rw [e45]; exact t3, L, O, l1, l2, ⟨by rw [e45]; exact l3, by rw [fb_q hf, hf.ln]; exact l4, fun i c q => ?_⟩, fun i c q => ?_⟩
    · exact (l5 i c q).mv (fb_q hf) (fun k _ => eA 0 _ (by omega))
    · obtain ⟨j, j1, j2⟩ := l6 i c q
      exact ⟨j, j1, by rw [fb_q hf]; exact (eA 1 i (by omega)).trans j2⟩
theorem His.q (h : His M S) (hf : Fr ASc M M') : His M' S := by
  obtain ⟨n, h1, h2, h3, h4⟩ := h
  have e : ∀ b j, (b = 12 ∨ b = 13 ∨ b = 14 ∨ b = 15 ∨ b = 78 ∨ b = 79 ∨ (b = 70 ∧ j = 24)) → rI M' b j = rI M b j := fun b j hb => hf.ri (fun q => by unfold ASc at q; omega)
  refine ⟨n, h1, by rw [e _ _ (by omega)]; exact h2, by rw [e _ _ (by omega)]; exact h3, fun i hi => ?_⟩
  have := h4 i hi
  unfold hs1 at this ⊢
  rw [e 15 i (by omega), e 79 i (by omega), e 13 i (by omega), e 78 i (by omega), e 14 i (by omega)]
  exact this
theorem Tap.q (h : Tap M) (hf : Fr ASc M M') : Tap M' := by
  obtain ⟨n, h1, h2, h3, h4⟩ := h
  have e : ∀ b j, (b = 0 ∨ b = 1 ∨ b = 77 ∨ (b = 70 ∧ j = 15)) → rI M' b j = rI M b j := fun b j hb => hf.ri (fun q => by unfold ASc at q; omega)
  refine ⟨n, h1, by rw [e _ _ (by omega)]; exact h2, by rw [e _ _ (by omega)]; exact h3, fun i hi => ?_⟩
  rw [e 1 i (by omega), e 77 i (by omega)]
  exact h4 i hi
theorem Flt.q (h : Flt M) (hf : Fr ASc M M') : Flt M' := by
  have e : ∀ b j, (b = 6 ∨ (b = 70 ∧ 20 ≤ j ∧ j ≤ 22)) → rI M' b j = rI M b j := fun b j hb => hf.ri (fun q => by unfold ASc at q; omega)
  unfold Flt
  rw [e _ _ (by omega), e _ _ (by omega), e _ _ (by omega), e _ _ (by omega)]
  exact h
theorem Out.q (h : Out M) (hf : Fr ASc M M') : Out M' := by
  obtain ⟨n, h1, h2, h3, h4⟩ := h
  have e : ∀ b j, (b = 16 ∨ b = 17 ∨ b = 88 ∨ (b = 70 ∧ j = 41)) → rI M' b j = rI M b j := fun b j hb => hf.ri (fun q => by unfold ASc at q; omega)
  refine ⟨n, h1, by rw [e _ _ (by omega)]; exact h2, by rw [e _ _ (by omega)]; exact h3, fun i hi => ?_⟩
  rw [e 17 i (by omega), e 88 i (by omega)]
  exact h4 i hi
theorem Sc0.q (h : Sc0 M) (hf : Fr ASc M M') : Sc0 M' := by
  obtain ⟨h1, h2, h3, h4⟩ := h
  exact ⟨by rw [hf.ri (fun q => by unfold ASc at q; omega)]; exact h1, by rw [hf.ri (fun q => by unfold ASc at q; omega)]; exact h2, h3.q hf, h4.q hf⟩
theorem Sc1.q (h : Sc1 M S) (ha : FrA M) (hf : Fr ASc M M') : Sc1 M' S := by
  obtain ⟨h1, h2, h3, h4, h5, h6, h7⟩ := h
  exact ⟨h1, by rw [hf.ri (fun q => by unfold ASc at q; omega)]; exact h2, by rw [hf.ri (fun q => by unfold ASc at q; omega)]; exact h3, h4.q hf, h5.q hf, h6.q hf, h7.q ha hf⟩
theorem Inv.q (h : Inv M) (hf : Fr ASc M M') : Inv M' := by
  obtain ⟨h1, h2, h3, h4, h5, h6⟩ := h
  refine ⟨h1.fr hf, h2.q hf, h3.q hf, h4.q hf, h5.q hf, ?_⟩
  rcases h6 with h6 | ⟨S, h6⟩
  · exact Or.inl (h6.q hf)
  · exact Or.inr ⟨S, h6.q h2 hf⟩
end Keep
/-- the two answer alike, and what stands stands on -/
def Ag (f g : am_M → am_R) (M : am_M) : Prop := ∃ v M1 M2, f M = some (some (.int v), M1) ∧ g M1 = some (some (.int v), M2) ∧ Inv M2
def AgL (f g : am_M → am_R) (M : am_M) : Prop := ∃ v M1 M2, f M = some (some (.long v), M1) ∧ g M1 = some (some (.long v), M2) ∧ Inv M2
theorem Ag.q {f g : am_M → am_R} {M M1 M2 : am_M} {v : Int32} (h : Inv M) (h1 : f M = some (some (.int v), M1)) (f1 : Fr ASc M M1) (h2 : g M1 = some (some (.int v), M2)) (f2 : Fr ASc M1 M2) : Ag f g M := ⟨v, M1, M2, h1, h2, (h.q f1).q f2⟩
theorem Ag.p {f g : am_M → am_R} {M : am_M} {v : Int32} (h : Inv M) (h1 : f M = some (some (.int v), M)) (h2 : g M = some (some (.int v), M)) : Ag f g M := ⟨v, M, M, h1, h2, h⟩
