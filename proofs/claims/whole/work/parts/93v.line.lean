/-! ===== line ===== -/
section Line
variable {M M0 : am_M} {S : Sc}
def rN (s k x : Int) : Int := if x = s then k else 0
def rE (s k x : Int) : Int := if x = s then k + 1 else 0
theorem cSwr {s k : Int} (s0 : 0 ≤ s) (s4 : s < 4) (k0 : 0 ≤ k) (k1 : k < 100000) : ∀ (r n : Nat) (i : Int) (M : am_M), SH M → (∀ j, 0 ≤ j → j < i → rI M 21 j.toNat = iz (rN s k j) ∧ rI M 22 j.toNat = iz (rE s k j)) → 0 ≤ i → i + r = 4 → r < n → ∃ M', F_Walk_startWithRoot_L10 n 18 (iz s) (iz k) (iz i) M = some (none, M') ∧ Fr A212 M M' ∧ ∀ j, 0 ≤ j → j < 4 → rI M' 21 j.toNat = iz (rN s k j) ∧ rI M' 22 j.toNat = iz (rE s k j)
  | r, 0, i, M, h, hp, q1, q2, q3 => by omega
  | 0, n + 1, i, M, h, hp, q1, q2, q3 => by
    refine ⟨M, ?_, Fr.refl M, fun j j1 j2 => hp j j1 (by omega)⟩
    rw [F_Walk_startWithRoot_L10, show (4 : Int32) = iz 4 from rfl, ifE (by omega) (by omega) (by omega) (by omega), if_pos (by omega)]
  | r + 1, n + 1, i, M, h, hp, q1, q2, q3 => by
    have f1 : Fr A212 M (wI M 21 i.toNat (iz (rN s k i))) := Fr.wI (Or.inl rfl)
    have h1 := h.fr f1
    have f2 : Fr A212 (wI M 21 i.toNat (iz (rN s k i))) (wI (wI M 21 i.toNat (iz (rN s k i))) 22 i.toNat (iz (rE s k i))) := Fr.wI (Or.inr rfl)
    obtain ⟨M', e1, e2, e3⟩ := cSwr s0 s4 k0 k1 r n (i + 1) (wI (wI M 21 i.toNat (iz (rN s k i))) 22 i.toNat (iz (rE s k i))) (h1.fr f2) (fun j j1 j2 => by
      by_cases e : j = i
      · subst e
        rw [rI_ne (by omega), rI_at rfl rfl, rI_at rfl rfl]; exact ⟨rfl, rfl⟩
      · rw [rI_ne (by omega), rI_ne (by omega), rI_ne (by omega), rI_ne (by omega)]; exact hp j j1 (by omega)) (by omega) (by omega) (by omega)
    refine ⟨M', ?_, (f1.trans f2).trans e2, e3⟩
    rw [F_Walk_startWithRoot_L10, show (4 : Int32) = iz 4 from rfl, ifE (by omega) (by omega) (by omega) (by omega), if_neg (by omega), fR_eq (kd_18 h) (rr_18_3 h), ifQ (by omega) (by omega) (by omega) (by omega)]
    unfold F_Walk_startWithRoot_L30
    unfold rN rE at e1
    unfold rN at h1
    by_cases g : i = s
    · rw [if_pos g, if_pos g] at e1
      rw [if_pos g] at h1
      rw [if_pos g, tI_eq (kd_21 h) (ln_21 h) (by omega) (by omega) (by omega), fR_eq (kd_18 h1) (rr_18_4 h1), ifQ (by omega) (by omega) (by omega) (by omega), if_pos g, show (1 : Int32) = iz 1 from rfl, iz_add, iz_add, tI_eq (kd_22 h1) (ln_22 h1) (by omega) (by omega) (by omega), nm_eq]
      exact e1
    · rw [if_neg g, if_neg g] at e1
      rw [if_neg g] at h1
      rw [if_neg g, show (0 : Int32) = iz 0 from rfl, tI_eq (kd_21 h) (ln_21 h) (by omega) (by omega) (by omega), fR_eq (kd_18 h1) (rr_18_4 h1), ifQ (by omega) (by omega) (by omega) (by omega), if_neg g, tI_eq (kd_22 h1) (ln_22 h1) (by omega) (by omega) (by omega), show (1 : Int32) = iz 1 from rfl, iz_add, nm_eq]
      exact e1
theorem cStartR (h : SH M) (hc : CS M S) (hk : scOK S) {s k : Int} (s0 : 0 ≤ s) (s1 : s < sNs S) (k0 : 0 ≤ k) (k1 : k < rts S s) : ∃ M', F_Walk_startWithRoot 18 (iz s) (iz k) M = some (none, M') ∧ Fr AWk M M' ∧ WKs M' S 0 30001 (rN s k) (rE s k) ∧ NE S (rN s k) (rE s k) ∧ lrt (rN s k) (rE s k) = s := by
  have fg := fu_ge
  have ns := hk.2.2.1
  have rb := rts_bd hk s0 s1
  obtain ⟨M1, e1, f1, w1⟩ := cStart h hc hk (a := 0) (b := 30001) (by omega) (by omega) (by omega) (by omega)
  obtain ⟨M2, e2, f2, p2⟩ := cSwr s0 (by omega) k0 (by omega) 4 fu 0 M1 w1.1 (fun j j1 j2 => by omega) (by omega) rfl (by omega)
  have ne : NE S (rN s k) (rE s k) := fun x x1 x2 => by
    unfold rN rE
    by_cases e : x = s
    · rw [if_pos e, if_pos e]
      subst e
      exact ⟨by omega, by omega, by omega, by omega, fun _ => ⟨s1, by omega⟩⟩
    · rw [if_neg e, if_neg e]
      exact ⟨by omega, by omega, by omega, by omega, fun z => by omega⟩
  have sN : rN s k s = k := if_pos rfl
  have sE : rE s k s = k + 1 := if_pos rfl
  have ls : lrt (rN s k) (rE s k) = s := by
    rcases lrt_g (rN s k) (rE s k) with ⟨_, z⟩ | ⟨z1, z2, z3, z4⟩
    · have := z s s0 (by omega); omega
    · by_cases e : lrt (rN s k) (rE s k) = s
      · exact e
      · have a : rN s k (lrt (rN s k) (rE s k)) = 0 := if_neg e
        have b : rE s k (lrt (rN s k) (rE s k)) = 0 := if_neg e
        omega
  obtain ⟨z1, z2, z3, z4, z5, -⟩ := w1
  refine ⟨M2, ?_, f1.trans (f2.mono A212_AWk), ⟨z1.fr f2, z2.fr f2 (fun b j q => by unfold A212 at q; omega), by rw [f2.ri (fun q => by unfold A212 at q; omega)]; exact z3, by rw [f2.ri (fun q => by unfold A212 at q; omega)]; exact z4, fun g' k y1 y2 y3 y4 y5 => by rw [f2.ri (fun q => by unfold A212 at q; omega)]; exact z5 g' k y1 y2 y3 y4 y5, p2⟩, ne, ls⟩
  unfold F_Walk_startWithRoot
  rw [cv_eq (kd_18 h), show (0 : Int32) = iz 0 from rfl, show (30001 : Int32) = iz 30001 from rfl, e1, bV_eq]
  exact e2
/-- comes of it, or is it -/
def frm (e c : Int) : Prop := if gen e = 0 then c - c % 256 = e else if gen e = 1 then c - c % 16 = e else c = e
theorem cFrm {e c : Int} (e0 : 0 ≤ e) (e1 : e < 2147483648) (c0 : 0 ≤ c) (c1 : c < 2147483648) : Gd (F_NS_comesOf (iz c) (iz e)) M (frm e c) := by
  have gb := gen_bd e
  have em : ∀ y : Int, 0 ≤ y → y < 2147483648 → ((if iz y = iz e then some (some (Value.int (iz 1)), M) else some (some (Value.int (iz 0)), M)) : am_R) = if y = e then some (some (Value.int (iz 1)), M) else some (some (Value.int (iz 0)), M) := fun y y1 y2 => ifQ (by omega) y2 (by omega) e1
  unfold Gd F_NS_comesOf frm
  rw [nsGen e0 e1, bI_eq, show (0 : Int32) = iz 0 from rfl, show (1 : Int32) = iz 1 from rfl, ifQ (by omega) (by omega) (by omega) (by omega), ifQ (by omega) (by omega) (by omega) (by omega)]
  unfold F_NS_comesOf_L26
  by_cases g0 : gen e = 0
  · rw [if_pos g0, if_pos g0, show (255 : Int32) ^^^ -1 = iz (-256) from by decide, iz_n256 c0 c1, show (0 : Int32) = iz 0 from rfl, show (1 : Int32) = iz 1 from rfl, em _ (by omega) (by omega)]
    by_cases q : c - c % 256 = e
    · rw [if_pos q]; exact Or.inl ⟨q, rfl⟩
    · rw [if_neg q]; exact Or.inr ⟨q, rfl⟩
  rw [if_neg g0, if_neg g0]
  by_cases g1 : gen e = 1
  · rw [if_pos g1, if_pos g1, show (15 : Int32) ^^^ -1 = iz (-16) from by decide, iz_n16 c0 c1, show (0 : Int32) = iz 0 from rfl, show (1 : Int32) = iz 1 from rfl, em _ (by omega) (by omega)]
    by_cases q : c - c % 16 = e
    · rw [if_pos q]; exact Or.inl ⟨q, rfl⟩
    · rw [if_neg q]; exact Or.inr ⟨q, rfl⟩
  rw [if_neg g1, if_neg g1]
  have a : iz c &&& (iz 0 ^^^ -1) = iz c := by
    rw [show (iz 0 ^^^ (-1 : Int32)) = -1 from by decide]
    exact Int32.and_neg_one
  rw [a, show (0 : Int32) = iz 0 from rfl, show (1 : Int32) = iz 1 from rfl, em _ c0 c1]
  by_cases q : c = e
  · rw [if_pos q]; exact Or.inl ⟨q, rfl⟩
  · rw [if_neg q]; exact Or.inr ⟨q, rfl⟩
end Line
