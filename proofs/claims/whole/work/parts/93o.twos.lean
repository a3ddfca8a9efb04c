/-! ===== twos ===== -/
section FrTwos
variable {M M0 : am_M} {S : Sc} {t : Int} {L O : List Int}
noncomputable def prX (S : Sc) (t : Int) (x : List Int × Int) (c : Int) : List Int × Int := (x.1 ++ [c], x.2 + cnt (fun d => hcl S t d = hcl S t c) x.1)
/-- how many twos are in one cell -/
noncomputable def prs (S : Sc) (t : Int) (L : List Int) : Int := (L.foldl (prX S t) ([], 0)).2
theorem prs_f : ∀ (L K : List Int) (v : Int), (L.foldl (prX S t) (K, v)).1 = K ++ L
  | [], K, v => by rw [List.foldl_nil, List.append_nil]
  | c :: L, K, v => by rw [List.foldl_cons, prX, prs_f L]; rw [List.append_assoc]; rfl
theorem prs_1 (K : List Int) (c : Int) : prs S t (K ++ [c]) = prs S t K + cnt (fun d => hcl S t d = hcl S t c) K := by
  unfold prs
  rw [List.foldl_append, List.foldl_cons, List.foldl_nil]
  show (K.foldl (prX S t) ([], 0)).2 + cnt (fun d => hcl S t d = hcl S t c) (K.foldl (prX S t) ([], 0)).1 = _
  rw [prs_f, List.nil_append]
def tri (n : Int) : Int := n * (n - 1) / 2
theorem tri_s (n : Int) : tri (n + 1) = tri n + n := by
  unfold tri
  have e : (n + 1) * (n + 1 - 1) = n * (n - 1) + n * 2 := by
    rw [show n + 1 - 1 = n by omega, Int.add_mul, Int.mul_sub]; omega
  rw [e, Int.add_mul_ediv_right _ _ (by decide)]
theorem smF_at {f g : Int → Int} {k0 d : Int} (h0 : f k0 = g k0 + d) (hn : ∀ k, k ≠ k0 → f k = g k) : ∀ (r : Nat) (k v w : Int), smF f r k v - smF g r k w = v - w + (if k ≤ k0 ∧ k0 < k + r then d else 0)
  | 0, k, v, w => by rw [smF, smF, if_neg (by omega)]; omega
  | r + 1, k, v, w => by
    rw [smF, smF, smF_at h0 hn r (k + 1)]
    by_cases e : k = k0
    · rw [e, h0, if_neg (by omega), if_pos (by omega)]; omega
    · rw [hn k e]
      by_cases q : k ≤ k0 ∧ k0 < k + ((r + 1 : Nat) : Int)
      · rw [if_pos q, if_pos (by omega)]; omega
      · rw [if_neg q, if_neg (by omega)]; omega
theorem smF_0 {f : Int → Int} (h : ∀ k, f k = 0) : ∀ (r : Nat) (k v : Int), smF f r k v = v
  | 0, k, v => rfl
  | r + 1, k, v => by rw [smF, h, smF_0 h r]; omega
/-- counted by cells it is the same -/
theorem prs_sm (hk : scOK S) {L : List Int} (hL : ∀ c ∈ L, inFr S t c) : smF (fun k => tri (cnt (fun c => hcl S t c = k) L)) 64000 0 0 = prs S t L := by
  have gen0 : ∀ (R K : List Int), K ++ R = L → smF (fun k => tri (cnt (fun c => hcl S t c = k) K)) 64000 0 0 = prs S t K → smF (fun k => tri (cnt (fun c => hcl S t c = k) L)) 64000 0 0 = prs S t L := fun R => by
    induction R with
    | nil => intro K e h; rw [List.append_nil] at e; rw [← e]; exact h
    | cons c R ih =>
      intro K e h
      refine ih (K ++ [c]) (by rw [List.append_assoc]; exact e) ?_
      have cb := hcl_bd hk (hL c (by rw [← e]; exact List.mem_append.mpr (Or.inr (List.mem_cons_self ..))))
      have := smF_at (f := fun k => tri (cnt (fun c => hcl S t c = k) (K ++ [c]))) (g := fun k => tri (cnt (fun c => hcl S t c = k) K)) (k0 := hcl S t c) (d := cnt (fun d => hcl S t d = hcl S t c) K) (by
        show tri (cnt (fun d => hcl S t d = hcl S t c) (K ++ [c])) = _
        rw [cnt_1t (p := fun d => hcl S t d = hcl S t c) rfl, tri_s]) (fun k hkk => by
        show tri (cnt (fun d => hcl S t d = k) (K ++ [c])) = _
        rw [cnt_1f (p := fun d => hcl S t d = k) (fun z => hkk z.symm)]) 64000 0 0 0
      rw [if_pos (by omega)] at this
      rw [prs_1, ← h]
      omega
  refine gen0 L [] (List.nil_append _) ?_
  rw [smF_0 (fun k => by show tri (cnt _ []) = 0; rfl)]
  rfl
noncomputable def l8 (S : Sc) (t c : Int) : Int := pz S t c 2 / 8
theorem hcl_eq (hk : scOK S) {c d : Int} (hc : inFr S t c) (hd : inFr S t d) : hcl S t d = hcl S t c ↔ clm S t d = clm S t c ∧ l8 S t d = l8 S t c := by
  have a := clm_bd hk hc
  have b := clm_bd hk hd
  have e1 : hcl S t d = l8 S t d * 1600 + clm S t d := by unfold hcl l8 clm; omega
  have e2 : hcl S t c = l8 S t c * 1600 + clm S t c := by unfold hcl l8 clm; omega
  omega
theorem td_mem {i ls : Nat} {d : Int} (h : d ∈ (O.take i).drop ls) : ∃ j : Nat, ls ≤ j ∧ j < i ∧ O[j]? = some d := by
  obtain ⟨m, hm⟩ := List.mem_iff_getElem?.mp h
  rw [List.getElem?_drop, List.getElem?_take] at hm
  by_cases q : ls + m < i
  · rw [if_pos q] at hm; exact ⟨ls + m, by omega, q, hm⟩
  · rw [if_neg q] at hm; cases hm
theorem tt_mem {i ls : Nat} {d : Int} (h : d ∈ (O.take i).take ls) : ∃ j : Nat, j < ls ∧ O[j]? = some d := by
  obtain ⟨m, hm⟩ := List.mem_iff_getElem?.mp h
  rw [List.getElem?_take] at hm
  by_cases q : m < ls
  · rw [if_pos q, List.getElem?_take] at hm
    by_cases q2 : m < i
    · rw [if_pos q2] at hm; exact ⟨m, q, hm⟩
    · rw [if_neg q2] at hm; cases hm
  · rw [if_neg q] at hm; cases hm
theorem FO_le (hO : FO S t O) {i j : Nat} {c d : Int} (hij : i < j) (hi : O[i]? = some c) (hj : O[j]? = some d) : pz S t d 2 ≤ pz S t c 2 := by
  obtain ⟨il, ei⟩ := List.getElem?_eq_some_iff.mp hi
  obtain ⟨jl, ej⟩ := List.getElem?_eq_some_iff.mp hj
  have := List.pairwise_iff_getElem.mp hO.1 i j il jl hij
  rw [ei, ej] at this
  unfold dlt at this
  omega
/-- how the loop stands at i, the layer begun at ls -/
def TW (M : am_M) (S : Sc) (t : Int) (O : List Int) (i ls : Nat) : Prop := ls ≤ i ∧ (ls < i ∨ i = 0) ∧ (∀ k : Nat, k < 1600 → rI M 69 k = iz (cnt (fun c => clm S t c = k) ((O.take i).drop ls))) ∧ (∀ (j : Nat) c e, ls ≤ j → j < i → O[j]? = some c → O[ls]? = some e → l8 S t c = l8 S t e) ∧ ∀ (j : Nat) c e, j < ls → O[j]? = some c → O[ls]? = some e → l8 S t e < l8 S t c
theorem cFg (hk : scOK S) {i ls : Nat} (il : i ≤ O.length) : ∀ (r n j : Nat) (M : am_M), KC M0 M S t L O → ls ≤ j → (∀ k : Nat, k < 1600 → rI M 69 k = iz 0 ∨ (rI M 69 k = iz (cnt (fun c => clm S t c = k) ((O.take i).drop ls)) ∧ ∀ (m : Nat) c, ls ≤ m → m < j → O[m]? = some c → clm S t c ≠ k)) → j + r = i → r < n → ∃ M', F_Fram_forgetColumns_L7 n 45 (iz (i : Int)) 69 (iz (j : Int)) M = some (none, M') ∧ KC M0 M' S t L O ∧ ∀ k : Nat, k < 1600 → rI M' 69 k = iz 0
  | r, 0, j, M, hC, lj, hv, q1, q2 => by omega
  | 0, n + 1, j, M, hC, lj, hv, q1, q2 => by
    have ll := fr_len hk hC.2.2.1
    have ol := FO_len hC.2.2.1.1 hC.2.2.1.2.1
    have e : j = i := by omega
    subst e
    refine ⟨M, ?_, hC, fun k hk2 => ?_⟩
    · rw [F_Fram_forgetColumns_L7, ifE (by omega) (by omega) (by omega) (by omega), if_pos (Int.le_refl _)]
    · rcases hv k hk2 with z | ⟨z1, z2⟩
      · exact z
      · rw [z1, cnt_none (fun c hc q => by
          obtain ⟨m, m1, m2, m3⟩ := td_mem hc
          exact z2 m c m1 m2 m3 q)]
  | r + 1, n + 1, j, M, hC, lj, hv, q1, q2 => by
    have ll := fr_len hk hC.2.2.1
    have ol := FO_len hC.2.2.1.1 hC.2.2.1.2.1
    obtain ⟨h, ha, hK, -⟩ := id hC
    have hi : O[j]? = some O[j] := List.getElem?_eq_getElem (by omega)
    generalize O[j] = c at hi
    obtain ⟨jj, j1, j2⟩ := fr_o h ha hK hi
    have cb := clm_bd hk (fr_in hK j1).1
    obtain ⟨z, hz⟩ : ∃ z : Nat, clm S t c = (z : Int) := ⟨(clm S t c).toNat, by omega⟩
    obtain ⟨M', e1, e2, e3⟩ := cFg (i := i) (ls := ls) hk il r n (j + 1) (wI M 69 z (iz 0)) hC.w (by omega) (fun k hk2 => by
      by_cases e : k = z
      · subst e; exact Or.inl (rI_at rfl rfl)
      · rw [rI_ne (by omega)]
        rcases hv k hk2 with y | ⟨y1, y2⟩
        · exact Or.inl y
        · refine Or.inr ⟨y1, fun m d m1 m2 m3 => ?_⟩
          by_cases em : m = j
          · rw [em, hi] at m3
            have : c = d := by simpa using m3
            rw [← this, hz]; omega
          · exact y2 m d m1 (by omega) m3) (by omega) (by omega)
    refine ⟨M', ?_, e2, e3⟩
    rw [F_Fram_forgetColumns_L7, ifE (by omega) (by omega) (by omega) (by omega), if_neg (by omega), fr_l h hK, ifE (by omega) (by omega) (by omega) (by omega), if_neg (by omega), cv_eq (kd_45 h), j2, bI_eq, cv_eq (kd_45 h), cClm h ha hk hK j1, bI_eq, hz, show (0 : Int32) = iz 0 from rfl, ifL (by omega) (by omega) (by omega) (by omega), if_neg (by omega), aN_eq (by rw [kd_69 h]; decide) (ln_69 h), ifE (by omega) (by omega) (by omega) (by omega), if_neg (by omega), tI_eq (kd_69 h) (ln_69 h) (by omega) (by omega) (by omega), show ((z : Int)).toNat = z by omega, nm_eq, show (1 : Int32) = iz 1 from rfl, iz_add, show ((j : Int) + 1) = ((j + 1 : Nat) : Int) by omega]
    exact e1
theorem td_1 {i ls : Nat} {c : Int} (hi : O[i]? = some c) (h : ls ≤ i) : (O.take (i + 1)).drop ls = (O.take i).drop ls ++ [c] := by
  have il := (List.getElem?_eq_some_iff.mp hi).1
  rw [take_1 hi, List.drop_append_of_le_length (by rw [List.length_take]; omega)]
theorem td_s {i : Nat} : (O.take i).drop i = [] := List.drop_of_length_le (by rw [List.length_take]; omega)
/-- what one more brings -/
theorem prs_s (hk : scOK S) (hO : FO S t O) {i ls : Nat} {c : Int} (hi : O[i]? = some c) (h4 : ∀ (j : Nat) d, ls ≤ j → j < i → O[j]? = some d → l8 S t d = l8 S t c) (h5 : ∀ (j : Nat) d, j < ls → O[j]? = some d → l8 S t c < l8 S t d) : prs S t (O.take (i + 1)) = prs S t (O.take i) + cnt (fun d => clm S t d = clm S t c) ((O.take i).drop ls) := by
  have fc := (hO.2 c).mp (List.mem_of_getElem? hi)
  rw [take_1 hi, prs_1]
  congr 1
  have e : O.take i = (O.take i).take ls ++ (O.take i).drop ls := (List.take_append_drop ls (O.take i)).symm
  have e2 : cnt (fun d => hcl S t d = hcl S t c) (O.take i) = cnt (fun d => hcl S t d = hcl S t c) ((O.take i).take ls ++ (O.take i).drop ls) := by rw [← e]
  rw [e2, cnt_app, cnt_none (L := (O.take i).take ls) (fun d hd q => by
    obtain ⟨j, j1, j2⟩ := tt_mem hd
    have fd := (hO.2 d).mp (List.mem_of_getElem? j2)
    have := ((hcl_eq hk fc fd).mp q).2
    have := h5 j d j1 j2
    omega), Int.zero_add]
  refine cnt_congr (fun d hd => ?_)
  obtain ⟨j, j1, j2, j3⟩ := td_mem hd
  have fd := (hO.2 d).mp (List.mem_of_getElem? j3)
  rw [hcl_eq hk fc fd]
  exact ⟨fun q => q.1, fun q => ⟨q, h4 j d j1 j2 j3⟩⟩
theorem cTw68 (hk : scOK S) (hC : KC M0 M S t L O) {i ls : Nat} {c : Int} {v : Int} (hi : O[i]? = some c) (hls : ls ≤ i) (hv : ∀ k : Nat, k < 1600 → rI M 69 k = iz (cnt (fun c => clm S t c = k) ((O.take i).drop ls))) (k13 : Nat → Nat → Int64 → Int32 → Int32 → am_M → am_R) : ∃ M', F_Fram_countTwos_L58 k13 45 69 (jz v) (iz (ls : Int)) (iz (i : Int)) M = k13 45 69 (jz (v + cnt (fun d => clm S t d = clm S t c) ((O.take i).drop ls))) (iz (ls : Int)) (iz ((i + 1 : Nat) : Int)) M' ∧ KC M0 M' S t L O ∧ ∀ k : Nat, k < 1600 → rI M' 69 k = iz (cnt (fun c => clm S t c = k) ((O.take (i + 1)).drop ls)) := by
  obtain ⟨h, ha, hK, -⟩ := id hC
  have ll := fr_len hk hK
  have ol := FO_len hK.1 hK.2.1
  have il := (List.getElem?_eq_some_iff.mp hi).1
  obtain ⟨jj, j1, j2⟩ := fr_o h ha hK hi
  have cb := clm_bd hk (fr_in hK j1).1
  obtain ⟨z, hz⟩ : ∃ z : Nat, clm S t c = (z : Int) := ⟨(clm S t c).toNat, by omega⟩
  have cbd := cnt_bd (fun d => clm S t d = (z : Int)) ((O.take i).drop ls)
  have lb : ((O.take i).drop ls).length ≤ 16080 := by rw [List.length_drop, List.length_take]; omega
  refine ⟨wI M 69 z (iz (cnt (fun d => clm S t d = (z : Int)) ((O.take i).drop ls) + 1)), ?_, hC.w, fun k hk2 => ?_⟩
  · unfold F_Fram_countTwos_L58
    rw [cv_eq (kd_45 h), j2, bI_eq, cv_eq (kd_45 h), cClm h ha hk hK j1, bI_eq, hz, show (0 : Int32) = iz 0 from rfl, ifL (by omega) (by omega) (by omega) (by omega), if_neg (by omega), aN_eq (by rw [kd_69 h]; decide) (ln_69 h), ifE (by omega) (by omega) (by omega) (by omega), if_neg (by omega), aI_eq (kd_69 h) (ln_69 h) (by omega) (by omega) (by omega), show ((z : Int)).toNat = z by omega, hv z (by omega), nm_eq, aI_eq (kd_69 h) (ln_69 h) (by omega) (by omega) (by omega), show ((z : Int)).toNat = z by omega, hv z (by omega), show (1 : Int32) = iz 1 from rfl, iz_add, tI_eq (kd_69 h) (ln_69 h) (by omega) (by omega) (by omega), show ((z : Int)).toNat = z by omega, iz_add, nm_eq, jz_i2l (a := cnt (fun d => clm S t d = (z : Int)) ((O.take i).drop ls)) (by omega) (by omega), jz_add, show ((i : Int) + 1) = ((i + 1 : Nat) : Int) by omega]
  · rw [td_1 hi hls]
    by_cases e : k = z
    · subst e
      rw [rI_at rfl rfl, cnt_1t (p := fun c => clm S t c = (k : Int)) (c := c) hz]
    · rw [rI_ne (by omega), hv k hk2, cnt_1f (by rw [hz]; omega)]
theorem cTwL (hk : scOK S) : ∀ (r n i ls : Nat) (M : am_M), KC M0 M S t L O → TW M S t O i ls → i + r = O.length → r < n → ∃ M', F_Fram_countTwos_L13 n 45 69 (jz (prs S t (O.take i))) (iz (ls : Int)) (iz (i : Int)) M = some (some (.long (jz (prs S t O))), M') ∧ KC M0 M' S t L O
  | r, 0, i, ls, M, hC, hT, q1, q2 => by omega
  | 0, n + 1, i, ls, M, hC, hT, q1, q2 => by
    obtain ⟨h, ha, hK, -⟩ := id hC
    have ll := fr_len hk hK
    have ol := FO_len hK.1 hK.2.1
    refine ⟨M, ?_, hC⟩
    rw [F_Fram_countTwos_L13, fr_l h hK, ifE (by omega) (by omega) (by omega) (by omega), if_pos (by omega), List.take_of_length_le (by omega)]
  | r + 1, n + 1, i, ls, M, hC, hT, q1, q2 => by
    obtain ⟨h, ha, hK, -⟩ := id hC
    obtain ⟨t0, t1, t2, t3, t4⟩ := hT
    have hO := hK.2.1
    have ll := fr_len hk hK
    have ol := FO_len hK.1 hK.2.1
    have fg := fu_ge
    have hi : O[i]? = some O[i] := List.getElem?_eq_getElem (by omega)
    have hl : O[ls]? = some O[ls] := List.getElem?_eq_getElem (by omega)
    generalize O[i] = c at hi
    generalize O[ls] = e at hl
    obtain ⟨ji, i1, i2⟩ := fr_o h ha hK hi
    obtain ⟨jl, l1, l2⟩ := fr_o h ha hK hl
    have pc := pz_b3 hk (fr_in hK i1).1 (i := 2) (by omega) (by omega)
    have pe := pz_b3 hk (fr_in hK l1).1 (i := 2) (by omega) (by omega)
    rw [F_Fram_countTwos_L13, fr_l h hK, ifE (by omega) (by omega) (by omega) (by omega), if_neg (by omega), cv_eq (kd_45 h), i2, bI_eq, cv_eq (kd_45 h), cLyOf h ha hk hK i1, bI_eq, cv_eq (kd_45 h), l2, bI_eq, cv_eq (kd_45 h), cLyOf h ha hk hK l1, bI_eq, ifQ (by omega) (by omega) (by omega) (by omega)]
    by_cases g : pz S t c 2 / 8 = pz S t e 2 / 8
    · rw [if_pos g]
      have ge : l8 S t c = l8 S t e := g
      obtain ⟨M1, e1, k1, v1⟩ := cTw68 (v := prs S t (O.take i)) hk hC hi t0 t2 (F_Fram_countTwos_L13 n)
      rw [← prs_s hk hO hi (fun j d j1 j2 j3 => by rw [ge]; exact t3 j d e j1 j2 j3 hl) (fun j d j1 j2 => by rw [ge]; exact t4 j d e j1 j2 hl)] at e1
      obtain ⟨M', e2, k2⟩ := cTwL hk r n (i + 1) ls M1 k1 ⟨by omega, Or.inl (by omega), v1, fun j d e' j1 j2 j3 j4 => by
        by_cases ej : j = i
        · rw [ej, hi] at j3
          have z : c = d := by simpa using j3
          rw [hl] at j4
          have z2 : e = e' := by simpa using j4
          rw [← z, ← z2]; exact ge
        · exact t3 j d e' j1 (by omega) j3 j4, t4⟩ (by omega) (by omega)
      exact ⟨M', e1.trans e2, k2⟩
    · rw [if_neg g]
      have lsi : ls < i := by
        rcases t1 with z | z
        · exact z
        · exfalso
          have : ls = i := by omega
          rw [this, hi] at hl
          have z2 : c = e := by simpa using hl
          rw [z2] at g
          exact g rfl
      have lt : l8 S t c < l8 S t e := by
        have := FO_le hO lsi hl hi
        unfold l8
        omega
      obtain ⟨Mf, ef, kf, vf⟩ := cFg (L := L) (ls := ls) hk (i := i) (by omega) (i - ls) fu ls M hC (Nat.le_refl _) (fun k hk2 => Or.inr ⟨t2 k hk2, fun m d m1 m2 => by omega⟩) (by omega) (by omega)
      have ef' : F_Fram_forgetColumns 45 (iz (ls : Int)) (iz (i : Int)) 69 M = some (none, Mf) := by
        unfold F_Fram_forgetColumns
        rw [show (0 : Int32) = iz 0 from rfl, max_eq (by omega) (by omega) (by omega) (by omega), bI_eq, show max 0 (ls : Int) = (ls : Int) by omega]
        exact ef
      obtain ⟨M1, e1, k1, v1⟩ := cTw68 (v := prs S t (O.take i)) hk kf hi (Nat.le_refl i) (fun k hk2 => by rw [vf k hk2, td_s]; rfl) (F_Fram_countTwos_L13 n)
      have up : ∀ (j : Nat) d, j < i → O[j]? = some d → l8 S t c < l8 S t d := fun j d j1 j2 => by
        by_cases q : j < ls
        · have := t4 j d e q j2 hl; omega
        · have := t3 j d e (by omega) j1 j2 hl; omega
      rw [← prs_s hk hO hi (fun j d j1 j2 j3 => by omega) up] at e1
      obtain ⟨M', e2, k2⟩ := cTwL hk r n (i + 1) i M1 k1 ⟨by omega, Or.inl (by omega), v1, fun j d e' j1 j2 j3 j4 => by
        have ej : j = i := by omega
        rw [ej, hi] at j3
        rw [hi] at j4
        have z : c = d := by simpa using j3
        have z2 : c = e' := by simpa using j4
        rw [← z, ← z2], fun j d e' j1 j2 j3 => by
        rw [hi] at j3
        have z2 : c = e' := by simpa using j3
        rw [← z2]; exact up j d j1 j2⟩ (by omega) (by omega)
      refine ⟨M', ?_, k2⟩
      rw [cv_eq (kd_45 h), ef', bV_eq]
      exact e1.trans e2
theorem mTw22 (h : SH M) {f : Int → Int} (hv : ∀ k : Nat, k < 64000 → rI M 87 k = iz (f k)) (hf : ∀ k, 0 ≤ f k ∧ f k ≤ 20000) : ∀ (r n k : Nat) (v : Int), k + r = 64000 → r < n → F_Md_twos_L22 n 70 (jz v) (iz (k : Int)) M = some (some (.long (jz (smF (fun k => tri (f k)) r k v))), M)
  | r, 0, k, v, q1, q2 => by omega
  | 0, n + 1, k, v, q1, q2 => by
    rw [F_Md_twos_L22, show (64000 : Int32) = iz 64000 from rfl, ifE (by omega) (by omega) (by omega) (by omega), if_pos (by omega), smF]
  | r + 1, n + 1, k, v, q1, q2 => by
    have fk := hf k
    have nn : 0 ≤ f k * (f k - 1) := by
      by_cases q : f k = 0
      · rw [q]; decide
      · exact Int.mul_nonneg (by omega) (by omega)
    have nb : f k * (f k - 1) ≤ 20000 * 20000 := by
      by_cases q : f k = 0
      · rw [q]; decide
      · exact Int.mul_le_mul fk.2 (by omega) (by omega) (by omega)
    rw [F_Md_twos_L22, show (64000 : Int32) = iz 64000 from rfl, ifE (by omega) (by omega) (by omega) (by omega), if_neg (by omega), fR_eq (kd_70 h) (rr_70_38 h), aI_eq (kd_87 h) (ln_87 h) (by omega) (by omega) (by omega), show ((k : Int)).toNat = k by omega, hv k (by omega), fR_eq (kd_70 h) (rr_70_38 h), aI_eq (kd_87 h) (ln_87 h) (by omega) (by omega) (by omega), show ((k : Int)).toNat = k by omega, hv k (by omega), show (1 : Int32) = iz 1 from rfl, iz_sub, jz_i2l (a := f k) (by omega) (by omega), jz_i2l (a := f k - 1) (by omega) (by omega), jz_mul, show (2 : Int64) = jz 2 from rfl, jz_ediv (by omega) (by omega) (by omega) (by omega), jz_add, iz_add, nm_eq, nm_eq, smF, show ((k : Int) + 1) = ((k + 1 : Nat) : Int) by omega]
    exact mTw22 h hv hf r n (k + 1) _ (by omega) (by omega)
theorem prs_pm (hk : scOK S) (hL : FL S t L) (hO : FO S t O) : prs S t O = prs S t L := by
  rw [← prs_sm hk (fun c hc => (hL.2 c).mp hc), ← prs_sm hk (fun c hc => (hO.2 c).mp hc)]
  have nd : O.Nodup := List.Pairwise.imp (fun {x y} q => by
    intro e
    rw [e] at q
    exact dlt_as q q) hO.1
  have pm : O.Perm L := (List.perm_ext_iff_of_nodup nd (pw_nd hL.1)).mpr (fun c => by rw [hL.2, hO.2])
  exact smF_congr (fun k => by rw [cnt_perm _ pm]) _ _ _
theorem ap_twos (hI : Inv M) (p1 : Int32) : AgL (F_NS_twos 0 p1) (F_Md_twos 70 p1) M := by
  obtain ⟨h, -⟩ := id hI
  obtain ⟨S, st, s01, s1, s2, hc, hm, hb, hs, h0⟩ := hI.sc
  refine ap_frm (mk := Value.long) (v0 := -2) (p := p1) (B := fun M2 => fR M2 0 12 7 (fun b4 => fR M2 0 12 10 (fun b5 => cv M2 b4 5 (bL (F_Fram_countTwos b4 b5 M2) (fun z7 M6 => some (some (.long z7), M6)))))) (D := fun M' => bV (F_Md_laysHeaps 70 p1 M') (fun M3 => F_Md_twos_L22 fu 70 (jz 0) (iz 0) M3)) hI s01 s1 s2 hs ?_ (fun M' h' e => ?_) (fun M' h' c' e => ?_) (fun t M1 L O pt t1 t2 i1 c1 k1 => ?_)
  · unfold F_NS_twos
    rw [fR_eq (kd_0 h) (rr_0_7 h), cv_eq (kd_45 h)]
  · unfold F_Md_twos; rw [cv_eq (kd_70 h'), e, bI_eq, if_pos (by decide)]
  · unfold F_Md_twos; rw [cv_eq (kd_70 h'), e, bI_eq, if_neg (by decide), cv_eq (kd_70 h')]; rfl
  have hk := c1.1
  have h1 := i1.1
  have a1 := i1.2.1
  have ll := fr_len hk k1
  have ol := FO_len k1.1 k1.2.1
  have fg := fu_ge
  subst pt
  obtain ⟨Mz, ez, fz, zz⟩ := cFill (v := iz 0) (kd_69 h1) (ln_69 h1) (by decide)
  have kz : KC M1 Mz S t L O := (KC.of i1 c1 k1).f fz
  obtain ⟨M2, e2, kc2⟩ := cTwL hk O.length fu 0 0 Mz kz ⟨Nat.le_refl 0, Or.inr rfl, fun k hk2 => by rw [zz k (by omega)]; rfl, fun j c e j1 j2 => by omega, fun j c e j1 => by omega⟩ (by omega) (by omega)
  have f2 : Fr ASc M1 M2 := kc2.2.2.2.2.mono A75x
  have c2 := c1.q a1 f2
  obtain ⟨M3, Lm, e3, g3, v3⟩ := mHeaps kc2.1 c2 t1 t2 k1.1
  have e4 := mTw22 (f := fun k => cnt (fun c => hcl S t c = k) L) g3.1.1 v3 (fun k => by have := cnt_bd (fun c => hcl S t c = k) L; omega) 64000 fu 0 0 (by omega) (by omega)
  have sm := prs_sm hk (t := t) (L := L) (fun c hc => (k1.1.2 c).mp hc)
  refine ⟨jz (prs S t L), M2, M3, ?_, kc2.1, c2, ?_, (i1.q f2).q g3.1.2.2.2.2⟩
  · show fR M1 0 12 7 _ = _
    have e2' : F_Fram_countTwos 45 69 M1 = some (some (.long (jz (prs S t O))), M2) := by
      unfold F_Fram_countTwos
      rw [show (0 : Int32) = iz 0 from rfl, ez, bV_eq]
      exact e2
    rw [fR_eq (kd_0 h1) (rr_0_7 h1), fR_eq (kd_0 h1) (rr_0_10 h1), cv_eq (kd_45 h1), e2', bL_eq, prs_pm hk k1.1 k1.2.1]
  · show bV (F_Md_laysHeaps 70 (iz t) M2) _ = _
    rw [e3, bV_eq, ← sm]
    exact e4
end FrTwos
