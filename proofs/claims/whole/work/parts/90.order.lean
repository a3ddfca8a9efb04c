/-! ===== a frame's order ===== -/
section Order
variable {M M0 : am_M} {S : Sc} {t : Int} {L O : List Int}
theorem cnt_app (p : Int → Prop) (L K : List Int) : cnt p (L ++ K) = cnt p L + cnt p K := lsm_app _ L K
theorem cnt_all {p : Int → Prop} : ∀ {L : List Int}, (∀ c ∈ L, p c) → cnt p L = (L.length : Int)
  | [], h => rfl
  | c :: L, h => by
    have ih := cnt_all (L := L) (fun d hd => h d (List.mem_cons_of_mem _ hd))
    unfold cnt at ih ⊢
    rw [lsm, ih, if_pos (h c (List.mem_cons_self ..)), List.length_cons]; omega
theorem cnt_none {p : Int → Prop} : ∀ {L : List Int}, (∀ c ∈ L, ¬ p c) → cnt p L = 0
  | [], h => rfl
  | c :: L, h => by
    have ih := cnt_none (L := L) (fun d hd => h d (List.mem_cons_of_mem _ hd))
    unfold cnt at ih ⊢
    rw [lsm, ih, if_neg (h c (List.mem_cons_self ..))]; rfl
theorem cnt_or {p q s : Int → Prop} {L : List Int} (h : ∀ c ∈ L, (s c ↔ p c ∨ q c) ∧ ¬ (p c ∧ q c)) : cnt s L = cnt p L + cnt q L := by
  unfold cnt
  refine lsm_add L (fun c hc => ?_)
  obtain ⟨h1, h2⟩ := h c hc
  by_cases a : p c
  · rw [if_pos (h1.mpr (Or.inl a)), if_pos a, if_neg (fun b => h2 ⟨a, b⟩)]; rfl
  · by_cases b : q c
    · rw [if_pos (h1.mpr (Or.inr b)), if_neg a, if_pos b]; rfl
    · rw [if_neg (fun z => (h1.mp z).elim a b), if_neg a, if_neg b]; rfl
theorem cnt_bd (p : Int → Prop) (L : List Int) : 0 ≤ cnt p L ∧ cnt p L ≤ (L.length : Int) := by
  rw [cnt_flt]
  have : (flt p L).length ≤ L.length := List.length_filter_le _ _
  omega
theorem FO_ex (hk : scOK S) (t : Int) : ∃ O, FO S t O := by
  have h := wkl_FL hk t
  have pm := List.mergeSort_perm (wkl S t (t + 1)) (fun c d => decide (kyz S t c ≤ kyz S t d))
  refine ⟨(wkl S t (t + 1)).mergeSort (fun c d => decide (kyz S t c ≤ kyz S t d)), ?_, fun c => by rw [pm.mem_iff, h.2]⟩
  have p1 := List.pairwise_mergeSort (le := fun c d => decide (kyz S t c ≤ kyz S t d)) (fun a b c => by simp only [decide_eq_true_eq]; omega) (fun a b => by simp only [Bool.or_eq_true, decide_eq_true_eq]; omega) (wkl S t (t + 1))
  have nd : ((wkl S t (t + 1)).mergeSort (fun c d => decide (kyz S t c ≤ kyz S t d))).Nodup := pm.symm.nodup (pw_nd h.1)
  have mm : ∀ c ∈ (wkl S t (t + 1)).mergeSort (fun c d => decide (kyz S t c ≤ kyz S t d)), inFr S t c := fun c hc => (h.2 c).mp (pm.mem_iff.mp hc)
  generalize (wkl S t (t + 1)).mergeSort (fun c d => decide (kyz S t c ≤ kyz S t d)) = K at p1 nd mm
  have p2 := List.pairwise_and_iff.mpr ⟨p1, nd⟩
  refine List.Pairwise.imp_of_mem (fun {x y} hx hy z => ?_) p2
  obtain ⟨z1, z2⟩ := z
  simp only [decide_eq_true_eq] at z1
  have bx := pz_b3 hk (mm x hx) (i := 2) (by omega) (by omega)
  have by' := pz_b3 hk (mm y hy) (i := 2) (by omega) (by omega)
  have cx := sp_rt hk (mm x hx).1
  have cy := sp_rt hk (mm y hy).1
  have dx := (mm x hx).1.1
  have dy := (mm y hy).1.1
  have z2' : x ≠ y := z2
  unfold kyz at z1
  unfold dlt
  omega
theorem dlt_as {c d : Int} (h1 : dlt S t c d) (h2 : dlt S t d c) : False := by unfold dlt at h1 h2; omega
theorem FO_idx (hO : FO S t O) {i : Nat} {c : Int} (hi : O[i]? = some c) : cnt (fun d => dlt S t d c) O = (i : Int) := by
  obtain ⟨il, ei⟩ := List.getElem?_eq_some_iff.mp hi
  have e : O = O.take i ++ c :: O.drop (i + 1) := by
    rw [← ei, ← List.drop_eq_getElem_cons il, List.take_append_drop]
  have pw := hO.1
  rw [e] at pw
  obtain ⟨p1, p2, p3⟩ := List.pairwise_append.mp pw
  obtain ⟨q1, q2⟩ := List.pairwise_cons.mp p2
  have lt : (O.take i).length = i := by rw [List.length_take]; omega
  have e2 : cnt (fun d => dlt S t d c) O = cnt (fun d => dlt S t d c) (O.take i ++ ([c] ++ O.drop (i + 1))) := by rw [show [c] ++ O.drop (i + 1) = c :: O.drop (i + 1) from rfl, ← e]
  rw [e2, cnt_app, cnt_app, cnt_all (fun d hd => p3 d hd c (List.mem_cons_self ..)), cnt_none (L := [c]) (fun d hd => by
    have : d = c := by simpa using hd
    rw [this]
    exact fun z => dlt_as z z), cnt_none (fun d hd z => dlt_as z (q1 d hd)), lt]
  omega
theorem FO_pos (hk : scOK S) (hL : FL S t L) (hO : FO S t O) {i : Nat} {c : Int} (hi : O[i]? = some c) : cnt (fun d => dlt S t d c) L = (i : Int) := by
  have nd : O.Nodup := List.Pairwise.imp (fun {x y} q => by
    intro e
    rw [e] at q
    exact dlt_as q q) hO.1
  have pm : L.Perm O := (List.perm_ext_iff_of_nodup (pw_nd hL.1) nd).mpr (fun c => by rw [hL.2, hO.2])
  rw [cnt_perm _ pm]
  exact FO_idx hO hi
theorem FO_len (hL : FL S t L) (hO : FO S t O) : O.length = L.length := by
  have nd : O.Nodup := List.Pairwise.imp (fun {x y} q => by
    intro e
    rw [e] at q
    exact dlt_as q q) hO.1
  exact ((List.perm_ext_iff_of_nodup nd (pw_nd hL.1)).mpr (fun c => by rw [hL.2, hO.2])).length_eq
/-- the place of a spark in the order -/
theorem pos_at (hk : scOK S) (hL : FL S t L) (hO : FO S t O) {c : Int} (hc : c ∈ L) : ∃ i : Nat, i < L.length ∧ O[i]? = some c ∧ cnt (fun d => dlt S t d c) L = (i : Int) := by
  have : c ∈ O := (hO.2 c).mpr ((hL.2 c).mp hc)
  obtain ⟨i, il, ei⟩ := List.mem_iff_getElem.mp this
  have e : O[i]? = some c := by rw [List.getElem?_eq_getElem il, ei]
  exact ⟨i, by rw [← FO_len hL hO]; exact il, e, FO_pos hk hL hO e⟩
theorem pos_eq (hL : FL S t L) {i : Nat} {c : Int} (hi : L[i]? = some c) : cnt (fun d => dlt S t d c) L = cnt (fun d => pz S t c 2 < pz S t d 2) L + cnt (fun d => pz S t d 2 = pz S t c 2) (L.take i) := by
  obtain ⟨il, ei⟩ := List.getElem?_eq_some_iff.mp hi
  rw [cnt_or (p := fun d => pz S t c 2 < pz S t d 2) (q := fun d => pz S t d 2 = pz S t c 2 ∧ d < c) (fun d hd => by
    unfold dlt
    omega)]
  congr 1
  have e : L = L.take i ++ c :: L.drop (i + 1) := by
    rw [← ei, ← List.drop_eq_getElem_cons il, List.take_append_drop]
  have pw := hL.1
  rw [e] at pw
  obtain ⟨p1, p2, p3⟩ := List.pairwise_append.mp pw
  obtain ⟨q1, q2⟩ := List.pairwise_cons.mp p2
  have e2 : cnt (fun d => pz S t d 2 = pz S t c 2 ∧ d < c) L = cnt (fun d => pz S t d 2 = pz S t c 2 ∧ d < c) (L.take i ++ c :: L.drop (i + 1)) := by rw [← e]
  rw [e2, cnt_app, cnt_none (L := c :: L.drop (i + 1)) (fun d hd => by
    rcases List.mem_cons.mp hd with z | z
    · omega
    · have := q1 d z; omega), Int.add_zero]
  refine cnt_congr (fun d hd => ?_)
  have := p3 d hd c (List.mem_cons_self ..)
  omega
/-- the frame's rows, while its order is made -/
def OSt (M0 M : am_M) (S : Sc) (t : Int) (L : List Int) : Prop := SH M ∧ FrA M ∧ FrC M S t L ∧ fb M = fb M0 ∧ Fr (fun x _ => x = 48 ∨ x = fb M0 + 1) M0 M
theorem OSt.w {x j : Nat} {v : Int32} (h : OSt M0 M S t L) (hx : x = 48 ∨ x = fb M0 + 1) : OSt M0 (wI M x j v) S t L := by
  obtain ⟨h1, h2, ⟨q1, q2, q3⟩, h4, h5⟩ := h
  obtain ⟨cap, b1, b2, c1, c2, hA, n1, n2⟩ := h2.at
  have f : Fr (fun y _ => y = x) M (wI M x j v) := Fr.wI rfl
  have e0 : fb (wI M x j v) = fb M := rfl
  refine ⟨h1.wI, h2.fr f, ⟨by rw [rI_ne (by omega)]; exact q1, q2, fun i c z => ?_⟩, h4, h5.trans (Fr.wI hx)⟩
  exact (q3 i c z).mv e0 (fun k _ => by rw [rI_ne (by omega)])
theorem rw_at (h : SH M) (ha : FrA M) {n i k : Nat} (hn : n ≤ mLn M (fb M + 1)) (hi : i < n) (hk : k < 7) : F_Fram_ofRow 45 (iz (i : Int)) (iz (k : Int)) M = some (some (.int (rI M (fb M) (7 * i + k))), M) := by
  obtain ⟨cap, b1, b2, c1, ⟨c2, -⟩, ⟨⟨a1, a2⟩, ⟨a3, a4⟩, a5, a6⟩, n1, n2⟩ := ha.at
  rw [a6] at hn
  unfold F_Fram_ofRow
  rw [show (7 : Int32) = iz 7 from rfl, iz_mul, iz_add, nm_eq, show (0 : Int32) = iz 0 from rfl, ifL (by omega) (by omega) (by omega) (by omega), if_neg (by omega), fR_eq (kd_45 h) a1, aN_eq (by omega) a4, ifE (by omega) (by omega) (by omega) (by omega), if_neg (by omega), fR_eq (kd_45 h) a1, aI_eq a3 a4 (by omega) (by omega) (by omega), show ((i : Int) * 7 + (k : Int)).toNat = 7 * i + k by omega]
theorem cDepth (hk : scOK S) (h : OSt M0 M S t L) (hL : FL S t L) {i : Nat} {c : Int} (hi : L[i]? = some c) : F_Fram_depthOf 45 (iz (i : Int)) M = some (some (.int (iz (pz S t c 2))), M) := by
  obtain ⟨h1, h2, ⟨q1, q2, q3⟩, h4, h5⟩ := h
  have il : i < L.length := (List.getElem?_eq_some_iff.mp hi).1
  have pb := pz_b3 hk ((hL.2 c).mp (List.mem_of_getElem? hi)) (i := 2) (by omega) (by omega)
  have e6 := rw_at h1 h2 q2 il (k := 6) (by omega)
  rw [(q3 i c hi).2.2.2.2.2.2] at e6
  have ep : F_Fram_placeOf 45 (iz (i : Int)) (iz 2) M = some (some (.int (iz (pz S t c 2))), M) := by
    unfold F_Fram_placeOf
    rw [show (4 : Int32) = iz 4 from rfl, iz_add, cv_eq (kd_45 h1), show ((4 : Int) + 2) = ((6 : Nat) : Int) from rfl, e6, bI_eq]
  unfold F_Fram_depthOf
  rw [fR_eq (kd_45 h1) (rr_45_5 h1), aN_eq (by rw [kd_48 h1]; decide) (ln_48 h1), show (2 : Int32) = iz 2 from rfl, cv_eq (kd_45 h1), ep, bI_eq, show (1 : Int32) = iz 1 from rfl, iz_sub, min_eq (by omega) (by omega) (by omega) (by omega), bI_eq, show (0 : Int32) = iz 0 from rfl, max_eq (by omega) (by omega) (by omega) (by omega), bI_eq]
  rw [show max 0 (min (((320 : Nat) : Int) - 1) (pz S t c 2)) = pz S t c 2 by omega]
theorem take_1 {i : Nat} {c : Int} (hi : L[i]? = some c) : L.take (i + 1) = L.take i ++ [c] := by
  rw [List.take_add_one, hi]; rfl
theorem cOrd1 (hk : scOK S) (hL : FL S t L) (hln : L.length ≤ 20000) : ∀ (r n i : Nat) (M : am_M), OSt M0 M S t L → (∀ d : Nat, d < 320 → rI M 48 d = iz (cnt (fun c => pz S t c 2 = d) (L.take i))) → i + r = L.length → r < n → ∃ M', F_Fram_putInOrder_L10 n 45 (iz (i : Int)) M = F_Fram_putInOrder_L48 fu 45 (iz 0) (iz 319) M' ∧ OSt M0 M' S t L ∧ ∀ d : Nat, d < 320 → rI M' 48 d = iz (cnt (fun c => pz S t c 2 = d) L)
  | r, 0, i, M, h, hd, q1, q2 => by omega
  | 0, n + 1, i, M, h, hd, q1, q2 => by
    have hS := h.1
    refine ⟨M, ?_, h, fun d hd2 => by rw [hd d hd2, List.take_of_length_le (by omega)]⟩
    rw [F_Fram_putInOrder_L10, fI_eq (kd_45 hS), h.2.2.1.1, ifE (by omega) (by omega) (by omega) (by omega), if_pos (by omega), fR_eq (kd_45 hS) (rr_45_5 hS), aN_eq (by rw [kd_48 hS]; decide) (ln_48 hS), show (1 : Int32) = iz 1 from rfl, iz_sub, nm_eq]
    rfl
  | r + 1, n + 1, i, M, h, hd, q1, q2 => by
    have hS := h.1
    have il : i < L.length := by omega
    have ei : L[i]? = some L[i] := List.getElem?_eq_getElem il
    have pb := pz_b3 hk ((hL.2 L[i]).mp (List.getElem_mem il)) (i := 2) (by omega) (by omega)
    have de := cDepth hk h hL ei
    generalize L[i] = c at ei pb de
    obtain ⟨z, hz⟩ : ∃ z : Nat, pz S t c 2 = (z : Int) := ⟨(pz S t c 2).toNat, by omega⟩
    rw [hz] at de
    obtain ⟨M', e1, e2, e3⟩ := cOrd1 hk hL hln r n (i + 1) (wI M 48 z (iz (cnt (fun c => pz S t c 2 = z) (L.take i) + 1))) (h.w (Or.inl rfl)) (fun d hd2 => by
      rw [take_1 ei]
      by_cases e : d = z
      · subst e
        rw [rI_at rfl rfl, cnt_1t (p := fun c => pz S t c 2 = (d : Int)) (c := c) hz]
      · rw [rI_ne (by omega), hd d hd2, cnt_1f (by rw [hz]; omega)]) (by omega) (by omega)
    refine ⟨M', ?_, e2, e3⟩
    rw [F_Fram_putInOrder_L10, fI_eq (kd_45 hS), h.2.2.1.1, ifE (by omega) (by omega) (by omega) (by omega), if_neg (by omega), fR_eq (kd_45 hS) (rr_45_5 hS), cv_eq (kd_45 hS), de, bI_eq, aI_eq (kd_48 hS) (ln_48 hS) (by omega) (by omega) (by omega), show ((z : Int)).toNat = z by omega, hd z (by omega), show (1 : Int32) = iz 1 from rfl, iz_add, tI_eq (kd_48 hS) (ln_48 hS) (by omega) (by omega) (by omega), show ((z : Int)).toNat = z by omega, iz_add, nm_eq, show ((i : Int) + 1) = ((i + 1 : Nat) : Int) by omega]
    exact e1
theorem cOrd2 (hln : L.length ≤ 20000) : ∀ (r n : Nat) (M : am_M), OSt M0 M S t L → r ≤ 320 → (∀ d : Nat, d < r → rI M 48 d = iz (cnt (fun c => pz S t c 2 = d) L)) → (∀ d : Nat, r ≤ d → d < 320 → rI M 48 d = iz (cnt (fun c => (d : Int) < pz S t c 2) L)) → r < n → ∃ M', F_Fram_putInOrder_L48 n 45 (iz (cnt (fun c => ((r : Int) - 1) < pz S t c 2) L)) (iz ((r : Int) - 1)) M = F_Fram_putInOrder_L78 fu 45 (iz 0) M' ∧ OSt M0 M' S t L ∧ ∀ d : Nat, d < 320 → rI M' 48 d = iz (cnt (fun c => (d : Int) < pz S t c 2) L)
  | r, 0, M, h, r3, hd, hu, q => by omega
  | 0, n + 1, M, h, r3, hd, hu, q => by
    refine ⟨M, ?_, h, fun d hd2 => hu d (by omega) hd2⟩
    rw [F_Fram_putInOrder_L48, show (0 : Int32) = iz 0 from rfl, ifL (by omega) (by omega) (by omega) (by omega), if_pos (by omega)]
  | r + 1, n + 1, M, h, r3, hd, hu, q => by
    have hS := h.1
    have sum : cnt (fun c => ((r : Int) - 1) < pz S t c 2) L = cnt (fun c => (r : Int) < pz S t c 2) L + cnt (fun c => pz S t c 2 = r) L := cnt_or (fun c _ => by omega)
    obtain ⟨M', e1, e2, e3⟩ := cOrd2 hln r n (wI M 48 r (iz (cnt (fun c => (r : Int) < pz S t c 2) L))) (h.w (Or.inl rfl)) (by omega) (fun d hd2 => by rw [rI_ne (by omega)]; exact hd d (by omega)) (fun d d1 d2 => by
      by_cases e : d = r
      · subst e; rw [rI_at rfl rfl]
      · rw [rI_ne (by omega)]; exact hu d (by omega) d2) (by omega)
    refine ⟨M', ?_, e2, e3⟩
    rw [show ((r + 1 : Nat) : Int) - 1 = (r : Int) by omega, F_Fram_putInOrder_L48, show (0 : Int32) = iz 0 from rfl, ifL (by omega) (by omega) (by omega) (by omega), if_neg (by omega), fR_eq (kd_45 hS) (rr_45_5 hS), aI_eq (kd_48 hS) (ln_48 hS) (by omega) (by omega) (by omega), fR_eq (kd_45 hS) (rr_45_5 hS), tI_eq (kd_48 hS) (ln_48 hS) (by omega) (by omega) (by omega), show ((r : Int)).toNat = r by omega, hd r (by omega), show (-1 : Int32) = iz (-1) from rfl, iz_add, iz_add, nm_eq, nm_eq, show (r : Int) + -1 = (r : Int) - 1 by omega, ← sum]
    exact e1
theorem cOrd3 (hk : scOK S) (hL : FL S t L) (hO : FO S t O) (hln : L.length ≤ 20000) : ∀ (r n i : Nat) (M : am_M), OSt M0 M S t L → (∀ d : Nat, d < 320 → rI M 48 d = iz (cnt (fun c => (d : Int) < pz S t c 2) L + cnt (fun c => pz S t c 2 = d) (L.take i))) → (∀ (j : Nat) c, j < i → L[j]? = some c → rI M (fb M0 + 1) (cnt (fun d => dlt S t d c) L).toNat = iz (j : Int)) → i + r = L.length → r < n → ∃ M', F_Fram_putInOrder_L78 n 45 (iz (i : Int)) M = some (none, M') ∧ OSt M0 M' S t L ∧ ∀ (j : Nat) c, L[j]? = some c → rI M' (fb M0 + 1) (cnt (fun d => dlt S t d c) L).toNat = iz (j : Int)
  | r, 0, i, M, h, hd, hp, q1, q2 => by omega
  | 0, n + 1, i, M, h, hd, hp, q1, q2 => by
    have hS := h.1
    refine ⟨M, ?_, h, fun j c hj => hp j c (by have := (List.getElem?_eq_some_iff.mp hj).1; omega) hj⟩
    rw [F_Fram_putInOrder_L78, fI_eq (kd_45 hS), h.2.2.1.1, ifE (by omega) (by omega) (by omega) (by omega), if_pos (by omega)]
  | r + 1, n + 1, i, M, h, hd, hp, q1, q2 => by
    have hS := h.1
    have il : i < L.length := by omega
    have ei : L[i]? = some L[i] := List.getElem?_eq_getElem il
    have pb := pz_b3 hk ((hL.2 L[i]).mp (List.getElem_mem il)) (i := 2) (by omega) (by omega)
    have de := cDepth hk h hL ei
    have mem := List.getElem_mem il
    generalize L[i] = c at ei pb de mem
    obtain ⟨z, hz⟩ : ∃ z : Nat, pz S t c 2 = (z : Int) := ⟨(pz S t c 2).toNat, by omega⟩
    have pe := pos_eq hL ei
    rw [hz] at de pe
    obtain ⟨p, pl, po, pp⟩ := pos_at hk hL hO mem
    have rz := hd z (by omega)
    rw [← pe, pp] at rz
    obtain ⟨cap, b1, b2, c1, c2, hA, n1, n2⟩ := h.2.1.at
    have e7 : rR M 45 4 = some (fb M + 1) ∧ mKd M (fb M + 1) = 0 ∧ mLn M (fb M + 1) = cap := ⟨hA.1.2, hA.2.2.1, hA.2.2.2⟩
    have lc := h.2.2.1.2.1
    rw [e7.2.2] at lc
    rw [h.2.2.2.1] at e7 b1
    have h1 : OSt M0 (wI M (fb M0 + 1) p (iz (i : Int))) S t L := h.w (Or.inr rfl)
    have rz1 : rI (wI M (fb M0 + 1) p (iz (i : Int))) 48 z = iz (p : Int) := by rw [rI_ne (by omega)]; exact rz
    obtain ⟨M', e1, e2, e3⟩ := cOrd3 hk hL hO hln r n (i + 1) (wI (wI M (fb M0 + 1) p (iz (i : Int))) 48 z (iz ((p : Int) + 1))) (h1.w (Or.inl rfl)) (fun d hd2 => by
      rw [take_1 ei]
      by_cases e : d = z
      · subst e
        rw [rI_at rfl rfl, cnt_1t (p := fun c => pz S t c 2 = (d : Int)) (c := c) hz, ← pp, pe, Int.add_assoc]
      · rw [rI_ne (by omega), rI_ne (by omega), hd d hd2, cnt_1f (by rw [hz]; omega)]) (fun j d hj hjd => by
      rw [rI_ne (by omega)]
      by_cases e : j = i
      · subst e
        rw [ei] at hjd
        have : c = d := by simpa using hjd
        rw [← this, pp, rI_at rfl (by omega)]
      · obtain ⟨p', pl', po', pp'⟩ := pos_at hk hL hO (List.mem_of_getElem? hjd)
        rw [pp']
        have ne : p' ≠ p := fun z => by
          rw [z, po] at po'
          have ecd : c = d := by simpa using po'
          rw [← ecd] at hjd
          have nd := pw_nd hL.1
          obtain ⟨jl, ej⟩ := List.getElem?_eq_some_iff.mp hjd
          obtain ⟨il', ej'⟩ := List.getElem?_eq_some_iff.mp ei
          exact e ((List.getElem_inj nd).mp (ej.trans ej'.symm))
        rw [rI_ne (by omega)]
        have := hp j d (by omega) hjd
        rw [pp'] at this
        exact this) (by omega) (by omega)
    refine ⟨M', ?_, e2, e3⟩
    have hS1 := h1.1
    rw [F_Fram_putInOrder_L78, fI_eq (kd_45 hS), h.2.2.1.1, ifE (by omega) (by omega) (by omega) (by omega), if_neg (by omega), cv_eq (kd_45 hS), de, bI_eq, fR_eq (kd_45 hS) (rr_45_5 hS), aI_eq (kd_48 hS) (ln_48 hS) (by omega) (by omega) (by omega), show ((z : Int)).toNat = z by omega, rz, show (0 : Int32) = iz 0 from rfl, ifL (by omega) (by omega) (by omega) (by omega), if_neg (by omega), fR_eq (kd_45 hS) e7.1, aN_eq (by omega) e7.2.2, ifE (by omega) (by omega) (by omega) (by omega), if_neg (by omega), fR_eq (kd_45 hS) e7.1, tI_eq e7.2.1 e7.2.2 (by omega) (by omega) (by omega), show ((p : Int)).toNat = p by omega]
    unfold F_Fram_putInOrder_L123
    rw [fR_eq (kd_45 hS1) (rr_45_5 hS1), aI_eq (kd_48 hS1) (ln_48 hS1) (by omega) (by omega) (by omega), show ((z : Int)).toNat = z by omega, rz1, show (1 : Int32) = iz 1 from rfl, iz_add, tI_eq (kd_48 hS1) (ln_48 hS1) (by omega) (by omega) (by omega), show ((z : Int)).toNat = z by omega, iz_add, nm_eq, show ((i : Int) + 1) = ((i + 1 : Nat) : Int) by omega]
    exact e1
theorem cPutO (hk : scOK S) (h : SH M) (ha : FrA M) (hC : FrC M S t L) (hL : FL S t L) (hO : FO S t O) : ∃ M', F_Fram_putInOrder 45 M = some (none, M') ∧ SH M' ∧ FrA M' ∧ FrC M' S t L ∧ Fr (fun x _ => x = 48 ∨ x = fb M + 1) M M' ∧ ∀ (j : Nat) c, L[j]? = some c → rI M' (fb M' + 1) (cnt (fun d => dlt S t d c) L).toNat = iz (j : Int) := by
  have fg := fu_ge
  have hln : L.length ≤ 16080 := LB_all hk t L (pw_nd hL.1) (fun c hc => (hL.2 c).mp hc)
  obtain ⟨M1, e1, f1, z1⟩ := cFill (v := iz 0) (kd_48 h) (ln_48 h) (by decide)
  have o1 : OSt M M1 S t L := by
    obtain ⟨q1, q2, q3⟩ := hC
    obtain ⟨cap, b1, b2, c1, c2, hA, n1, n2⟩ := ha.at
    refine ⟨h.fr f1, ha.fr f1, ⟨by rw [f1.ri (by omega)]; exact q1, by rw [fb_fr f1, f1.ln]; exact q2, fun i c z => ?_⟩, fb_fr f1, f1.mono (fun x j q => Or.inl q)⟩
    exact (q3 i c z).mv (fb_fr f1) (fun k _ => f1.ri (by omega))
  obtain ⟨M2, e2, o2, z2⟩ := cOrd1 hk hL (by omega) L.length fu 0 M1 o1 (fun d hd => by rw [z1 d hd]; rfl) (by omega) (by omega)
  obtain ⟨M3, e3, o3, z3⟩ := cOrd2 (by omega) 320 fu M2 o2 (by omega) z2 (fun d d1 d2 => by omega) (by omega)
  obtain ⟨M4, e4, o4, z4⟩ := cOrd3 hk hL hO (by omega) L.length fu 0 M3 o3 (fun d hd => by rw [z3 d hd, List.take_zero, show cnt (fun c => pz S t c 2 = (d : Int)) [] = 0 from rfl, Int.add_zero]) (fun j c hj => by omega) (by omega) (by omega)
  refine ⟨M4, ?_, o4.1, o4.2.1, o4.2.2.1, o4.2.2.2.2, fun j c hj => by rw [o4.2.2.2.1]; exact z4 j c hj⟩
  unfold F_Fram_putInOrder
  have c0 : cnt (fun c => (((320 : Nat) : Int) - 1) < pz S t c 2) L = 0 := cnt_none (fun c hc => by
    have := pz_b3 hk ((hL.2 c).mp hc) (i := 2) (by omega) (by omega)
    omega)
  rw [c0] at e3
  rw [fR_eq (kd_45 h) (rr_45_5 h), show (0 : Int32) = iz 0 from rfl, e1, bV_eq]
  exact (e2.trans e3).trans e4
end Order
