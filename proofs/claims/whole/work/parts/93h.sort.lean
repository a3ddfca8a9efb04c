/-! ===== the reference sorts ===== -/
section FrSort
variable {M M0 : am_M} {S : Sc} {t : Int}
/-- a row of n codes, each there, each once -/
def PF (S : Sc) (t : Int) (V : Nat → Int) (n : Nat) : Prop := (∀ a b, a < n → b < n → V a = V b → a = b) ∧ ∀ c, inFr S t c ↔ ∃ a, a < n ∧ V a = c
def swp (V : Nat → Int) (p q x : Nat) : Int := if x = p then V q else if x = q then V p else V x
theorem PF.sw {V : Nat → Int} {n p q : Nat} (h : PF S t V n) (hp : p < n) (hq : q < n) : PF S t (swp V p q) n := by
  obtain ⟨h1, h2⟩ := h
  refine ⟨fun a b ha hb e => ?_, fun c => ?_⟩
  · unfold swp at e
    by_cases a1 : a = p
    · rw [if_pos a1] at e
      by_cases b1 : b = p
      · omega
      · rw [if_neg b1] at e
        by_cases b2 : b = q
        · rw [if_pos b2] at e
          have := h1 q p hq hp e
          omega
        · rw [if_neg b2] at e
          have := h1 q b hq hb e
          omega
    · rw [if_neg a1] at e
      by_cases a2 : a = q
      · rw [if_pos a2] at e
        by_cases b1 : b = p
        · rw [if_pos b1] at e
          have := h1 p q hp hq e
          omega
        · rw [if_neg b1] at e
          by_cases b2 : b = q
          · omega
          · rw [if_neg b2] at e
            have := h1 p b hp hb e
            omega
      · rw [if_neg a2] at e
        by_cases b1 : b = p
        · rw [if_pos b1] at e
          have := h1 a q ha hq e
          omega
        · rw [if_neg b1] at e
          by_cases b2 : b = q
          · rw [if_pos b2] at e
            have := h1 a p ha hp e
            omega
          · rw [if_neg b2] at e
            exact h1 a b ha hb e
  · rw [h2]
    constructor
    · rintro ⟨a, ha, e⟩
      by_cases a1 : a = p
      · refine ⟨q, hq, ?_⟩
        unfold swp
        by_cases z : q = p
        · rw [if_pos z, z, ← a1]; exact e
        · rw [if_neg z, if_pos rfl, ← a1]; exact e
      · by_cases a2 : a = q
        · exact ⟨p, hp, by unfold swp; rw [if_pos rfl, ← a2]; exact e⟩
        · exact ⟨a, ha, by unfold swp; rw [if_neg a1, if_neg a2]; exact e⟩
    · rintro ⟨a, ha, e⟩
      unfold swp at e
      by_cases a1 : a = p
      · rw [if_pos a1] at e; exact ⟨q, hq, e⟩
      · rw [if_neg a1] at e
        by_cases a2 : a = q
        · rw [if_pos a2] at e; exact ⟨p, hp, e⟩
        · rw [if_neg a2] at e; exact ⟨a, ha, e⟩
theorem PF.lt {V : Nat → Int} {n a b : Nat} (hk : scOK S) (h : PF S t V n) (ha : a < n) (hb : b < n) (hab : a ≠ b) (hle : kyz S t (V a) ≤ kyz S t (V b)) : kyz S t (V a) < kyz S t (V b) := by
  have fa := (h.2 (V a)).mpr ⟨a, ha, rfl⟩
  have fb' := (h.2 (V b)).mpr ⟨b, hb, rfl⟩
  have ne : V a ≠ V b := fun e => hab (h.1 a b ha hb e)
  have bx := pz_b3 hk fa (i := 2) (by omega) (by omega)
  have by' := pz_b3 hk fb' (i := 2) (by omega) (by omega)
  have cx := sp_rt hk fa.1
  have cy := sp_rt hk fb'.1
  have dx := fa.1.1
  have dy := fb'.1.1
  unfold kyz at hle ⊢
  omega
/-- in order up to i, the one at k aside -/
def SI (S : Sc) (t : Int) (V : Nat → Int) (k i : Nat) : Prop := (∀ a b, a < b → b ≤ i → a ≠ k → b ≠ k → kyz S t (V a) < kyz S t (V b)) ∧ ∀ b, k < b → b ≤ i → kyz S t (V k) < kyz S t (V b)
/-- in order up to below i -/
def SO (S : Sc) (t : Int) (V : Nat → Int) (i : Nat) : Prop := ∀ a b, a < b → b < i → kyz S t (V a) < kyz S t (V b)
def A90 (b j : Nat) : Prop := b = 84
/-- the reference's row -/
def RW (M0 M : am_M) (S : Sc) (t : Int) (V : Nat → Int) (n : Nat) : Prop := SH M ∧ rI M 70 34 = iz (n : Int) ∧ Fr A90 M0 M ∧ PF S t V n ∧ ∀ a, a < n → rL M 84 a = jz (kyz S t (V a))
theorem mS28 (hk : scOK S) {n gap i : Nat} (hn : n ≤ 16080) (hg : 1 ≤ gap) (hg2 : gap ≤ 20000) (hi : i < n) (k4 : Nat → Int32 → am_M → am_R) (k10 : Nat → Int32 → Int32 → am_M → am_R) : ∀ (r m k : Nat) (M : am_M) (V : Nat → Int), SH M → rI M 70 34 = iz (n : Int) → Fr A90 M0 M → PF S t V n → (∀ a, a < n → a ≠ k → rL M 84 a = jz (kyz S t (V a))) → k ≤ i → (gap = 1 → SI S t V k i) → k ≤ r → r < m → ∃ M' V', F_Md_sorts_L28 k4 k10 m 70 (iz (gap : Int)) (iz (i : Int)) (jz (kyz S t (V k))) (iz (k : Int)) M = k10 70 (iz (gap : Int)) (iz ((i + 1 : Nat) : Int)) M' ∧ RW M0 M' S t V' n ∧ (gap = 1 → SO S t V' (i + 1))
  | r, 0, k, M, V, h, hl, hf, hp, hv, ki, hs, q1, q2 => by omega
  | r, m + 1, k, M, V, h, hl, hf, hp, hv, ki, hs, q1, q2 => by
    have fin : (gap = 1 → k = 0 ∨ kyz S t (V (k - 1)) ≤ kyz S t (V k)) → ∃ M' V', F_Md_sorts_L73 k4 k10 70 (iz (gap : Int)) (iz (i : Int)) (jz (kyz S t (V k))) (iz (k : Int)) M = k10 70 (iz (gap : Int)) (iz ((i + 1 : Nat) : Int)) M' ∧ RW M0 M' S t V' n ∧ (gap = 1 → SO S t V' (i + 1)) := fun hx => by
      refine ⟨wL M 84 k (jz (kyz S t (V k))), V, ?_, ⟨h.wL, hl, hf.trans (Fr.wL rfl), hp, fun a ha => ?_⟩, fun g1 => ?_⟩
      · unfold F_Md_sorts_L73
        rw [fR_eq (kd_70 h) (rr_70_35 h), tL_eq (kd_84 h) (ln_84 h) (by omega) (by omega) (by omega), show ((k : Int)).toNat = k by omega, nm_eq, show (1 : Int32) = iz 1 from rfl, iz_add, show ((i : Int) + 1) = ((i + 1 : Nat) : Int) by omega]
      · rw [rL_wL]
        by_cases e : a = k
        · rw [if_pos ⟨rfl, e⟩, e]
        · rw [if_neg (by omega)]; exact hv a ha e
      · obtain ⟨x1, x2⟩ := hs g1
        intro a b hab hb
        by_cases e1 : a = k
        · rw [e1] at hab ⊢; exact x2 b hab (by omega)
        · by_cases e2 : b = k
          · rw [e2] at hab ⊢
            rcases hx g1 with z | z
            · omega
            · have l1 := PF.lt hk hp (a := k - 1) (b := k) (by omega) (by omega) (by omega) z
              by_cases e3 : a = k - 1
              · rw [e3]; exact l1
              · have l2 := x1 a (k - 1) (by omega) (by omega) e1 (by omega)
                omega
          · exact x1 a b hab (by omega) e1 e2
    rw [F_Md_sorts_L28, ifL (by omega) (by omega) (by omega) (by omega)]
    by_cases g1 : (k : Int) < (gap : Int)
    · rw [if_pos g1]
      exact fin (fun e => Or.inl (by omega))
    rw [if_neg g1, fR_eq (kd_70 h) (rr_70_35 h), iz_sub, aL_eq (kd_84 h) (ln_84 h) (by omega) (by omega) (by omega), show ((k : Int) - (gap : Int)).toNat = k - gap by omega, hv (k - gap) (by omega) (by omega)]
    have fa := (hp.2 (V (k - gap))).mpr ⟨k - gap, by omega, rfl⟩
    have fb' := (hp.2 (V k)).mpr ⟨k, by omega, rfl⟩
    have ka := kyz_bd hk fa
    have kb := kyz_bd hk fb'
    have cle : (lg_cmp (jz (kyz S t (V (k - gap)))) (jz (kyz S t (V k))) ≤ 0) ↔ kyz S t (V (k - gap)) ≤ kyz S t (V k) := (cmp_le0 _ _).trans (jz_le (by omega) (by omega) (by omega) (by omega))
    by_cases g2 : kyz S t (V (k - gap)) ≤ kyz S t (V k)
    · rw [if_pos (cle.mpr g2)]
      exact fin (fun e => Or.inr (by rw [e] at g2; exact g2))
    rw [if_neg (fun q => g2 (cle.mp q)), fR_eq (kd_70 h) (rr_70_35 h), fR_eq (kd_70 h) (rr_70_35 h), aL_eq (kd_84 h) (ln_84 h) (by omega) (by omega) (by omega), show ((k : Int) - (gap : Int)).toNat = k - gap by omega, hv (k - gap) (by omega) (by omega), tL_eq (kd_84 h) (ln_84 h) (by omega) (by omega) (by omega), show ((k : Int)).toNat = k by omega, nm_eq, show (k : Int) - (gap : Int) = ((k - gap : Nat) : Int) by omega]
    have sk : swp V k (k - gap) (k - gap) = V k := by unfold swp; rw [if_neg (by omega), if_pos rfl]
    have sk2 : swp V k (k - gap) k = V (k - gap) := by unfold swp; rw [if_pos rfl]
    have so : ∀ x, x ≠ k → x ≠ k - gap → swp V k (k - gap) x = V x := fun x z1 z2 => by unfold swp; rw [if_neg z1, if_neg z2]
    obtain ⟨M', V', e1, e2, e3⟩ := mS28 hk hn hg hg2 hi k4 k10 (r - 1) m (k - gap) (wL M 84 k (jz (kyz S t (V (k - gap))))) (swp V k (k - gap)) h.wL hl (hf.trans (Fr.wL rfl)) (hp.sw (by omega) (by omega)) (fun a ha hne => by
      rw [rL_wL]
      by_cases e : a = k
      · rw [if_pos ⟨rfl, e⟩, e, sk2]
      · rw [if_neg (by omega), so a e hne]; exact hv a ha e) (by omega) (fun g => by
      obtain ⟨x1, x2⟩ := hs g
      subst g
      refine ⟨fun a b hab hb ha' hb' => ?_, fun b hb hb2 => ?_⟩
      · by_cases z1 : a = k
        · rw [z1, sk2, so b (by omega) hb']
          exact x1 (k - 1) b (by omega) hb (by omega) (by omega)
        · by_cases z2 : b = k
          · rw [z2, sk2, so a z1 ha']
            exact x1 a (k - 1) (by omega) (by omega) z1 (by omega)
          · rw [so a z1 ha', so b z2 hb']
            exact x1 a b hab hb z1 z2
      · rw [sk]
        by_cases z2 : b = k
        · rw [z2, sk2]; omega
        · rw [so b z2 (by omega)]
          exact x2 b (by omega) hb2) (by omega) (by omega)
    rw [sk] at e1
    exact ⟨M', V', e1, e2, e3⟩
theorem mS10 (hk : scOK S) {n gap : Nat} (hn : n ≤ 16080) (hg : 1 ≤ gap) (hg2 : gap ≤ 20000) (k4 : Nat → Int32 → am_M → am_R) : ∀ (r m i : Nat) (M : am_M) (V : Nat → Int), RW M0 M S t V n → (gap = 1 → SO S t V i) → n ≤ i + r → i ≤ 40000 → r < m → ∃ M' V', F_Md_sorts_L10 k4 m 70 (iz (gap : Int)) (iz (i : Int)) M = k4 70 (iz ((gap / 3 : Nat) : Int)) M' ∧ RW M0 M' S t V' n ∧ (gap = 1 → SO S t V' n)
  | r, 0, i, M, V, h, hs, q1, q2, q3 => by omega
  | r, m + 1, i, M, V, h, hs, q1, q2, q3 => by
    obtain ⟨h1, h2, h3, h4, h5⟩ := id h
    have fg := fu_ge
    rw [F_Md_sorts_L10, fI_eq (kd_70 h1), h2, ifE (by omega) (by omega) (by omega) (by omega)]
    by_cases g : (n : Int) ≤ (i : Int)
    · rw [if_pos g, nm_eq, show (3 : Int32) = iz 3 from rfl, iz_ediv (by omega) (by omega) (by omega) (by omega), show (gap : Int) / 3 = ((gap / 3 : Nat) : Int) by omega]
      exact ⟨M, V, rfl, h, fun e a b hab hb => hs e a b hab (by omega)⟩
    rw [if_neg g, fR_eq (kd_70 h1) (rr_70_35 h1), aL_eq (kd_84 h1) (ln_84 h1) (by omega) (by omega) (by omega), show ((i : Int)).toNat = i by omega, h5 i (by omega)]
    obtain ⟨M1, V1, e1, r1, s1⟩ := mS28 hk hn hg hg2 (i := i) (by omega) k4 (F_Md_sorts_L10 k4 m) i fu i M V h1 h2 h3 h4 (fun a ha _ => h5 a ha) (by omega) (fun e => ⟨fun a b hab hb ha' hb' => hs e a b hab (by omega), fun b hb hb2 => by omega⟩) (by omega) (by omega)
    cases r with
    | zero => omega
    | succ r =>
      obtain ⟨M2, V2, e2, r2, s2⟩ := mS10 hk hn hg hg2 k4 r m (i + 1) M1 V1 r1 s1 (by omega) (by omega) (by omega)
      exact ⟨M2, V2, e1.trans e2, r2, s2⟩
theorem mS4 (hk : scOK S) {n gap : Nat} {V : Nat → Int} (hn : n ≤ 16080) (hg : 1 ≤ gap) (hg2 : gap ≤ 20000) (h : RW M0 M S t V n) (m : Nat) : ∃ M' V', F_Md_sorts_L4 (m + 1) 70 (iz (gap : Int)) M = F_Md_sorts_L4 m 70 (iz ((gap / 3 : Nat) : Int)) M' ∧ RW M0 M' S t V' n ∧ (gap = 1 → SO S t V' n) := by
  have fg := fu_ge
  obtain ⟨M1, V1, e1, r1, s1⟩ := mS10 hk hn hg hg2 (F_Md_sorts_L4 m) n fu gap M V h (fun e a b hab hb => by omega) (by omega) (by omega) (by omega)
  refine ⟨M1, V1, ?_, r1, s1⟩
  rw [F_Md_sorts_L4, show (0 : Int32) = iz 0 from rfl, ifE (by omega) (by omega) (by omega) (by omega), if_neg (by omega)]
  exact e1
theorem mSorts (hk : scOK S) {n : Nat} {V : Nat → Int} (hn : n ≤ 16080) (h : RW M0 M S t V n) : ∃ M' V', F_Md_sorts 70 M = some (none, M') ∧ RW M0 M' S t V' n ∧ SO S t V' n := by
  have fg := fu_ge
  obtain ⟨m, hm⟩ : ∃ m, fu = m + 10 := ⟨fu - 10, by omega⟩
  obtain ⟨M1, V1, e1, r1, -⟩ := mS4 hk hn (gap := 9841) (by omega) (by omega) h (m + 9)
  obtain ⟨M2, V2, e2, r2, -⟩ := mS4 hk hn (gap := 3280) (by omega) (by omega) r1 (m + 8)
  obtain ⟨M3, V3, e3, r3, -⟩ := mS4 hk hn (gap := 1093) (by omega) (by omega) r2 (m + 7)
  obtain ⟨M4, V4, e4, r4, -⟩ := mS4 hk hn (gap := 364) (by omega) (by omega) r3 (m + 6)
  obtain ⟨M5, V5, e5, r5, -⟩ := mS4 hk hn (gap := 121) (by omega) (by omega) r4 (m + 5)
  obtain ⟨M6, V6, e6, r6, -⟩ := mS4 hk hn (gap := 40) (by omega) (by omega) r5 (m + 4)
  obtain ⟨M7, V7, e7, r7, -⟩ := mS4 hk hn (gap := 13) (by omega) (by omega) r6 (m + 3)
  obtain ⟨M8, V8, e8, r8, -⟩ := mS4 hk hn (gap := 4) (by omega) (by omega) r7 (m + 2)
  obtain ⟨M9, V9, e9, r9, s9⟩ := mS4 hk hn (gap := 1) (by omega) (by omega) r8 (m + 1)
  refine ⟨M9, V9, ?_, r9, s9 rfl⟩
  have last : F_Md_sorts_L4 (m + 1) 70 (iz ((1 / 3 : Nat) : Int)) M9 = some (none, M9) := by
    rw [F_Md_sorts_L4, show (0 : Int32) = iz 0 from rfl, ifE (by omega) (by omega) (by omega) (by omega), if_pos (by omega)]
  unfold F_Md_sorts
  rw [hm]
  exact ((((((((e1.trans e2).trans e3).trans e4).trans e5).trans e6).trans e7).trans e8).trans e9).trans last
theorem FO_uniq {O O' : List Int} (h : FO S t O) (h' : FO S t O') : O = O' := by
  have nd : ∀ {K : List Int}, K.Pairwise (dlt S t) → K.Nodup := fun {K} hK => List.Pairwise.imp (fun {x y} q => by
    intro e
    rw [e] at q
    exact dlt_as q q) hK
  exact List.Perm.eq_of_pairwise (le := dlt S t) (fun a b _ _ q1 q2 => (dlt_as q1 q2).elim) h.1 h'.1 ((List.perm_ext_iff_of_nodup (nd h.1) (nd h'.1)).mpr (fun c => by rw [h.2, h'.2]))
/-- a frame laid: gathered and sorted -/
theorem mFrame (h : SH M) (hS : Sc1 M S) (t1 : 0 ≤ t) (t2 : t ≤ 30000) {O : List Int} (hO : FO S t O) : ∃ M', F_Md_laysFrame 70 (iz t) M = some (none, M') ∧ MG M M' S t O := by
  have hk := hS.1
  obtain ⟨M2, L, e1, g1⟩ := mGth h hS t1 t2
  obtain ⟨q1, q2, q3, q4, q5⟩ := g1
  have ln := md_len hk q4
  have r0 : RW M2 M2 S t (fun a => L.getD a 0) L.length := by
    refine ⟨q1, q4.1, Fr.refl M2, ⟨fun a b ha hb e => ?_, fun c => ?_⟩, fun a ha => ?_⟩
    · simp only [List.getD_eq_getElem?_getD, List.getElem?_eq_getElem ha, List.getElem?_eq_getElem hb, Option.getD_some] at e
      exact (List.getElem_inj q4.2.1).mp e
    · rw [← q4.2.2.1, List.mem_iff_getElem]
      constructor
      · rintro ⟨a, ha, e⟩
        exact ⟨a, ha, by simp only [List.getD_eq_getElem?_getD, List.getElem?_eq_getElem ha, Option.getD_some]; exact e⟩
      · rintro ⟨a, ha, e⟩
        simp only [List.getD_eq_getElem?_getD, List.getElem?_eq_getElem ha, Option.getD_some] at e
        exact ⟨a, ha, e⟩
    · have := q4.2.2.2 a L[a] (List.getElem?_eq_getElem ha)
      simp only [List.getD_eq_getElem?_getD, List.getElem?_eq_getElem ha, Option.getD_some]
      exact this
  obtain ⟨M3, V, e2, ⟨z1, z2, z3, z4, z5⟩, so⟩ := mSorts hk ln r0
  have fo : FO S t ((List.range L.length).map V) := by
    refine ⟨?_, fun c => ?_⟩
    · rw [List.pairwise_map]
      refine List.Pairwise.imp_of_mem (fun {a b} ha hb hab => ?_) (List.pairwise_lt_range (n := L.length))
      have ha' := List.mem_range.mp ha
      have hb' := List.mem_range.mp hb
      have lt := so a b hab hb'
      have fa := (z4.2 (V a)).mpr ⟨a, ha', rfl⟩
      have fb' := (z4.2 (V b)).mpr ⟨b, hb', rfl⟩
      have bx := pz_b3 hk fa (i := 2) (by omega) (by omega)
      have by' := pz_b3 hk fb' (i := 2) (by omega) (by omega)
      have cx := sp_rt hk fa.1
      have cy := sp_rt hk fb'.1
      have dx := fa.1.1
      have dy := fb'.1.1
      unfold kyz at lt
      unfold dlt
      omega
    · rw [List.mem_map, z4.2]
      constructor
      · rintro ⟨a, ha, e⟩; exact ⟨a, List.mem_range.mp ha, e⟩
      · rintro ⟨a, ha, e⟩; exact ⟨a, List.mem_range.mpr ha, e⟩
  have eO := FO_uniq hO fo
  have nd : O.Nodup := List.Pairwise.imp (fun {x y} q => by
    intro e
    rw [e] at q
    exact dlt_as q q) hO.1
  have oL : O.length = L.length := by rw [eO, List.length_map, List.length_range]
  have fq : Fr AGa M2 M3 := z3.mono (fun x j q => Or.inr (Or.inr q))
  refine ⟨M3, ?_, z1, q2.ga fq, by rw [st_ga fq]; exact q3, ⟨by rw [z2, oL], nd, hO.2, fun i c hi => ?_⟩, q5.trans (fq.mono AGa_ASc)⟩
  · unfold F_Md_laysFrame
    rw [cv_eq (kd_70 h), e1, bV_eq, cv_eq (kd_70 q1), e2, bV_eq]
  · have il := (List.getElem?_eq_some_iff.mp hi).1
    rw [z5 i (by omega)]
    rw [eO, List.getElem?_map, List.getElem?_range (by omega)] at hi
    have : V i = c := by simpa using hi
    rw [this]
end FrSort
