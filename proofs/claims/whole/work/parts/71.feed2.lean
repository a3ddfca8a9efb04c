/-! ===== feed ===== -/
theorem get_ap2 {α : Type} {L : List α} {y x : α} {i : Nat} (h : (L ++ [y])[i]? = some x) : (i < L.length ∧ L[i]? = some x) ∨ (i = L.length ∧ x = y) := by
  rcases Nat.lt_trichotomy i L.length with q | q | q
  · rw [List.getElem?_append_left q] at h
    exact Or.inl ⟨q, h⟩
  · subst q
    rw [List.getElem?_append_right (Nat.le_refl _), Nat.sub_self] at h
    injection h with h
    exact Or.inr ⟨rfl, h.symm⟩
  · rw [List.getElem?_eq_none (by rw [List.length_append]; show L.length + 1 ≤ i; omega)] at h
    cases h
def CT (M : am_M) (L : List Int32) : Prop := rI M 0 1 = iz (L.length : Int) ∧ ∀ i x, L[i]? = some x → rI M 1 i = x
def MT (M : am_M) (L : List Int32) : Prop := rI M 70 15 = iz (L.length : Int) ∧ ∀ i x, L[i]? = some x → rI M 77 i = x
def by1 (x : Int32) (s : Int) : Int32 := ((x.toUInt32 >>> ((iz s).toUInt32 &&& Int32.toUInt32 31)).toInt32) &&& 255
def by2 (x : Int32) (s : Int) : Int32 := (x >>> (iz s &&& 31)).toInt8.toInt32.toInt8.toInt32
set_option maxRecDepth 16384 in
theorem by_cs : ∀ n : Fin 256, (Int8.ofNat n.val).toInt32 &&& iz 255 = iz (n.val : Int) ∧ (n.val < 128 → (Int8.ofNat n.val).toInt32 = iz (n.val : Int)) := by decide
theorem by_BY {u : Int8} {v : Int} (v1 : 0 ≤ v) (h : u.toInt32 &&& iz 255 = iz v) : BY u.toInt32 v := by
  refine ⟨h, fun q => ?_⟩
  have e : u = Int8.ofNat u.toBitVec.toNat := by
    apply Int8.toBitVec_inj.mp
    rw [Int8.toBitVec_ofNat']
    exact (BitVec.ofNat_toNat 8 u.toBitVec).symm ▸ by simp
  have hl := u.toBitVec.isLt
  have c := by_cs ⟨u.toBitVec.toNat, hl⟩
  rw [e] at h ⊢
  have h2 := h.symm.trans c.1
  have hv : v = (u.toBitVec.toNat : Int) := (iz_eq (by omega) (by omega) (by omega) (by omega)).mp h2
  rw [hv]
  exact c.2 (show u.toBitVec.toNat < 128 by omega)
theorem by_eq (x : Int32) {s : Int} (hs : s = 24 ∨ s = 16 ∨ s = 8 ∨ s = 0) : ∃ v : Int, 0 ≤ v ∧ v < 256 ∧ by1 x s = iz v ∧ BY (by2 x s) v := by
  obtain ⟨v, v1, v2, v3⟩ := and255 ((x.toUInt32 >>> ((iz s).toUInt32 &&& Int32.toUInt32 31)).toInt32)
  refine ⟨v, v1, v2, v3, by_BY v1 ?_⟩
  rw [← v3]
  refine low8 (fun i hi => ?_)
  rw [i8_bit _ i hi, i8_bit _ i hi]
  rcases hs with rfl | rfl | rfl | rfl
  · rw [shr_bit x 24 (by omega) _ (by decide) i hi, ushr_bit x 24 (by omega) _ (by decide) i hi]
  · rw [shr_bit x 16 (by omega) _ (by decide) i hi, ushr_bit x 16 (by omega) _ (by decide) i hi]
  · rw [shr_bit x 8 (by omega) _ (by decide) i hi, ushr_bit x 8 (by omega) _ (by decide) i hi]
  · rw [shr_bit x 0 (by omega) _ (by decide) i hi, ushr_bit x 0 (by omega) _ (by decide) i hi]
def RB (L L' : List Int32) : Prop := L.length = L'.length ∧ ∀ (i : Nat) x y, L[i]? = some x → L'[i]? = some y → ∃ v : Int, 0 ≤ v ∧ v < 256 ∧ x = iz v ∧ BY y v
theorem RB.ap {L L' : List Int32} (h : RB L L') {x y : Int32} (hv : ∃ v : Int, 0 ≤ v ∧ v < 256 ∧ x = iz v ∧ BY y v) : RB (L ++ [x]) (L' ++ [y]) := by
  refine ⟨by rw [List.length_append, List.length_append, h.1]; rfl, fun i a b q1 q2 => ?_⟩
  rcases get_ap2 q1 with ⟨a1, a2⟩ | ⟨a1, a2⟩
  · rcases get_ap2 q2 with ⟨b1, b2⟩ | ⟨b1, b2⟩
    · exact h.2 i a b a2 b2
    · have := h.1; omega
  · rcases get_ap2 q2 with ⟨b1, b2⟩ | ⟨b1, b2⟩
    · have := h.1; omega
    · rw [a2, b2]; exact hv
def ATc (b j : Nat) : Prop := b = 0 ∨ b = 1
def ATm (b j : Nat) : Prop := b = 77 ∨ (b = 70 ∧ j = 15)
section Feed
theorem cPt {M : am_M} {L : List Int32} (h : SH M) (hL : CT M L) (hn : L.length < 500) (x : Int32) {s : Int} (s1 : 0 ≤ s) (s2 : s ≤ 24) (n : Nat) : ∃ M', F_NS_putOnTape_L3 (n + 1) 0 x (iz s) M = F_NS_putOnTape_L3 n 0 x (iz (s - 8)) M' ∧ Fr ATc M M' ∧ CT M' (L ++ [by1 x s]) := by
  have f1 : Fr ATc M (wI M 1 L.length (by1 x s)) := Fr.wI (Or.inr rfl)
  have h1 := h.fr f1
  have f2 := f1.trans (Fr.wI (k := 1) (v := iz (L.length + 1)) (show ATc 0 _ from Or.inl rfl))
  refine ⟨_, ?_, f2, ⟨?_, fun i y q => ?_⟩⟩
  · rw [F_NS_putOnTape_L3, show ((x.toUInt32 >>> ((iz s).toUInt32 &&& Int32.toUInt32 31)).toInt32) &&& 255 = by1 x s from rfl, show (0 : Int32) = iz 0 from rfl, ifL (by omega) (by omega) (by omega) (by omega), if_neg (by omega), fI_eq (kd_0 h), hL.1, ifL (by omega) (by omega) (by omega) (by omega), if_neg (by omega), fI_eq (kd_0 h), hL.1, fR_eq (kd_0 h) (rr_0_0 h), aN_eq (show mKd M 1 < 4 by rw [kd_1 h]; decide) (ln_1 h), ifE (by omega) (by omega) (by omega) (by omega), if_neg (by omega), fR_eq (kd_0 h) (rr_0_0 h), fI_eq (kd_0 h), hL.1, tI_eq (kd_1 h) (ln_1 h) (by omega) (by omega) (by omega), Int.toNat_natCast]
    rw [fI_eq (kd_0 h1), rI_ne (by omega), hL.1, show (1 : Int32) = iz 1 from rfl, iz_add, sI_eq (kd_0 h1), nm_eq, show (-8 : Int32) = iz (-8) from rfl, iz_add]
    rfl
  · rw [rI_at rfl rfl, List.length_append]; rfl
  · rw [rI_ne (by omega)]
    rcases get_ap2 q with ⟨q1, q2⟩ | ⟨q1, q2⟩
    · rw [rI_ne (by omega)]; exact hL.2 i y q2
    · rw [rI_at rfl q1, q2]
theorem mPt {M : am_M} {L : List Int32} (h : SH M) (hL : MT M L) (hn : L.length < 500) (x : Int32) {s : Int} (s1 : 0 ≤ s) (s2 : s ≤ 24) (n : Nat) : ∃ M', F_Md_puts4_L3 (n + 1) 70 x (iz s) M = F_Md_puts4_L3 n 70 x (iz (s - 8)) M' ∧ Fr ATm M M' ∧ MT M' (L ++ [by2 x s]) := by
  have f1 : Fr ATm M (wI M 77 L.length (by2 x s)) := Fr.wI (Or.inl rfl)
  have h1 := h.fr f1
  have f2 := f1.trans (Fr.wI (k := 15) (v := iz (L.length + 1)) (show ATm 70 _ from Or.inr ⟨rfl, rfl⟩))
  refine ⟨_, ?_, f2, ⟨?_, fun i y q => ?_⟩⟩
  · rw [F_Md_puts4_L3, show (0 : Int32) = iz 0 from rfl, ifL (by omega) (by omega) (by omega) (by omega), if_neg (by omega), fR_eq (kd_70 h) (rr_70_14 h), fI_eq (kd_70 h), hL.1, tB_eq (kd_77 h) (ln_77 h) (by omega) (by omega) (by omega), Int.toNat_natCast, show (x >>> (iz s &&& 31)).toInt8.toInt32.toInt8.toInt32 = by2 x s from rfl]
    rw [fI_eq (kd_70 h1), rI_ne (by omega), hL.1, show (1 : Int32) = iz 1 from rfl, iz_add, sI_eq (kd_70 h1), nm_eq, show (-8 : Int32) = iz (-8) from rfl, iz_add]
    rfl
  · rw [rI_at rfl rfl, List.length_append]; rfl
  · rw [rI_ne (by omega)]
    rcases get_ap2 q with ⟨q1, q2⟩ | ⟨q1, q2⟩
    · rw [rI_ne (by omega)]; exact hL.2 i y q2
    · rw [rI_at rfl q1, q2]
theorem cP4 {M : am_M} {L : List Int32} (h : SH M) (hL : CT M L) (hn : L.length + 4 ≤ 500) (x : Int32) : ∃ M', F_NS_putOnTape 0 x M = some (none, M') ∧ Fr ATc M M' ∧ CT M' (L ++ [by1 x 24] ++ [by1 x 16] ++ [by1 x 8] ++ [by1 x 0]) := by
  obtain ⟨m, hm⟩ : ∃ m, fu = m + 1 + 1 + 1 + 1 + 1 := ⟨fu - 5, by have := fu_ge; omega⟩
  have e1 : (L ++ [by1 x 24]).length = L.length + 1 := by rw [List.length_append]; rfl
  have e2 : (L ++ [by1 x 24] ++ [by1 x 16]).length = L.length + 2 := by rw [List.length_append, e1]; rfl
  have e3 : (L ++ [by1 x 24] ++ [by1 x 16] ++ [by1 x 8]).length = L.length + 3 := by rw [List.length_append, e2]; rfl
  obtain ⟨M1, u1, f1, o1⟩ := cPt h hL (by omega) x (s := 24) (by omega) (by omega) (m + 1 + 1 + 1 + 1)
  obtain ⟨M2, u2, f2, o2⟩ := cPt (h.fr f1) o1 (by omega) x (s := 24 - 8) (by omega) (by omega) (m + 1 + 1 + 1)
  obtain ⟨M3, u3, f3, o3⟩ := cPt ((h.fr f1).fr f2) o2 (by simp only [List.length_append, List.length_cons, List.length_nil]; omega) x (s := 24 - 8 - 8) (by omega) (by omega) (m + 1 + 1)
  obtain ⟨M4, u4, f4, o4⟩ := cPt (((h.fr f1).fr f2).fr f3) o3 (by simp only [List.length_append, List.length_cons, List.length_nil]; omega) x (s := 24 - 8 - 8 - 8) (by omega) (by omega) (m + 1)
  refine ⟨M4, ?_, f1.trans (f2.trans (f3.trans f4)), o4⟩
  unfold F_NS_putOnTape
  rw [hm, show (24 : Int32) = iz 24 from rfl, u1, u2, u3, u4, F_NS_putOnTape_L3, if_pos (by decide)]
theorem mP4 {M : am_M} {L : List Int32} (h : SH M) (hL : MT M L) (hn : L.length + 4 ≤ 500) (x : Int32) : ∃ M', F_Md_puts4 70 x M = some (none, M') ∧ Fr ATm M M' ∧ MT M' (L ++ [by2 x 24] ++ [by2 x 16] ++ [by2 x 8] ++ [by2 x 0]) := by
  obtain ⟨m, hm⟩ : ∃ m, fu = m + 1 + 1 + 1 + 1 + 1 := ⟨fu - 5, by have := fu_ge; omega⟩
  have e1 : (L ++ [by2 x 24]).length = L.length + 1 := by rw [List.length_append]; rfl
  have e2 : (L ++ [by2 x 24] ++ [by2 x 16]).length = L.length + 2 := by rw [List.length_append, e1]; rfl
  have e3 : (L ++ [by2 x 24] ++ [by2 x 16] ++ [by2 x 8]).length = L.length + 3 := by rw [List.length_append, e2]; rfl
  obtain ⟨M1, u1, f1, o1⟩ := mPt h hL (by omega) x (s := 24) (by omega) (by omega) (m + 1 + 1 + 1 + 1)
  obtain ⟨M2, u2, f2, o2⟩ := mPt (h.fr f1) o1 (by omega) x (s := 24 - 8) (by omega) (by omega) (m + 1 + 1 + 1)
  obtain ⟨M3, u3, f3, o3⟩ := mPt ((h.fr f1).fr f2) o2 (by simp only [List.length_append, List.length_cons, List.length_nil]; omega) x (s := 24 - 8 - 8) (by omega) (by omega) (m + 1 + 1)
  obtain ⟨M4, u4, f4, o4⟩ := mPt (((h.fr f1).fr f2).fr f3) o3 (by simp only [List.length_append, List.length_cons, List.length_nil]; omega) x (s := 24 - 8 - 8 - 8) (by omega) (by omega) (m + 1)
  refine ⟨M4, ?_, f1.trans (f2.trans (f3.trans f4)), o4⟩
  unfold F_Md_puts4
  rw [hm, show (24 : Int32) = iz 24 from rfl, u1, u2, u3, u4, F_Md_puts4_L3, if_pos (by decide)]
theorem RB.ap4 {L L' : List Int32} (h : RB L L') (x : Int32) : RB (L ++ [by1 x 24] ++ [by1 x 16] ++ [by1 x 8] ++ [by1 x 0]) (L' ++ [by2 x 24] ++ [by2 x 16] ++ [by2 x 8] ++ [by2 x 0]) := (((h.ap (by_eq x (by omega))).ap (by_eq x (by omega))).ap (by_eq x (by omega))).ap (by_eq x (by omega))
end Feed
