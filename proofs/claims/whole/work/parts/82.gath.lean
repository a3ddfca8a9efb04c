/-! ===== the reference's frame: its keys, gathered ===== -/
section Gath
variable {M : am_M} {S : Sc} {t : Int}
theorem jz_bv {c : Int} (h1 : 0 ≤ c) (h2 : c < 9223372036854775808) : (jz c).toBitVec.toNat = c.toNat := by
  unfold jz
  rw [Int64.toBitVec_ofInt, BitVec.toNat_ofInt]
  omega
theorem jz_key {A c : Int} (h1 : 0 ≤ A) (h2 : A ≤ 2000) (h3 : 0 ≤ c) (h4 : c < 2147483648) : (jz A <<< ((32 : Int32).toInt64 &&& 63)) ||| jz c = jz (A * 4294967296 + c) := by
  apply Int64.toBitVec_inj.mp
  apply BitVec.eq_of_toNat_eq
  rw [Int64.toBitVec_or, Int64.toBitVec_shiftLeft, show ((32 : Int32).toInt64 &&& 63).toBitVec.smod 64 = 32#64 from by decide, BitVec.shiftLeft_eq', BitVec.toNat_or, BitVec.toNat_shiftLeft, jz_bv h1 (by omega), jz_bv h3 (by omega), jz_bv (by omega) (by omega), show (32#64).toNat = 32 from rfl]
  have e : A.toNat <<< 32 % 2 ^ 64 = A.toNat <<< 32 := by
    rw [Nat.shiftLeft_eq]
    omega
  rw [e, ← Nat.shiftLeft_add_eq_or_of_lt (by omega : c.toNat < 2 ^ 32), Nat.shiftLeft_eq]
  omega
/-- the key of a spark in a frame -/
noncomputable def kyz (S : Sc) (t c : Int) : Int := (1000 - pz S t c 2) * 4294967296 + c
theorem pz_bd (hk : scOK S) {c i : Int} (h : inFr S t c) (h1 : 0 ≤ i) (h2 : i < 3) : 0 ≤ pz S t c i ∧ pz S t c i < wl S i := by
  have a1 := h.2.1
  have a2 := h.2.2
  exact plc_in hk (lay_g hk h.1) h1 h2 (by omega) (by omega)
theorem pz_b3 (hk : scOK S) {c i : Int} (h : inFr S t c) (h1 : 0 ≤ i) (h2 : i < 3) : 0 ≤ pz S t c i ∧ pz S t c i < 320 := by
  have := pz_bd hk h h1 h2
  have := wl_bd hk h1 h2
  omega
theorem kyz_bd (hk : scOK S) {c : Int} (h : inFr S t c) : 0 ≤ kyz S t c ∧ kyz S t c < 4500000000000 := by
  have b := pz_b3 hk h (i := 2) (by omega) (by omega)
  have b2 := sp_rt hk h.1
  have b3 := h.1.1
  unfold kyz
  omega
theorem kyz_code (hk : scOK S) {c : Int} (h : inFr S t c) : (jz (kyz S t c) &&& 2147483647).toInt32 = iz c := by
  have b2 := sp_rt hk h.1
  have b3 := h.1.1
  rw [Int64.toInt32_and, jz_l2i]
  have e : iz (kyz S t c) = iz c := by
    unfold kyz
    rw [← iz_add, ← iz_mul, show iz 4294967296 = 0 from by decide, Int32.mul_zero, Int32.zero_add]
  rw [e, show (2147483647 : Int64).toInt32 = iz 2147483647 from by decide, iz_and b3 (by omega) 31 (by decide)]
  congr 1
  omega
/-- how the reference orders: by source, number, path -/
def rk (c : Int) : Int := (c / 256 % 4) * 1099511627776 + (c / 256 / 4) * 256 + c % 256
theorem rk_inj {c d : Int} (h1 : 0 ≤ c) (h2 : 0 ≤ d) (h3 : c < 51200000000) (h4 : d < 51200000000) (h : rk c = rk d) : c = d := by unfold rk at h; omega
/-- the length of a frame -/
def LB (S : Sc) (t : Int) : Prop := ∀ L : List Int, L.Nodup → (∀ c ∈ L, inFr S t c) → L.length ≤ 16080
/-- what is gathered so far -/
def GA (M : am_M) (S : Sc) (t u : Int) (L : List Int) : Prop := rI M 70 34 = iz (L.length : Int) ∧ L.Nodup ∧ (∀ c, c ∈ L ↔ inFr S t c ∧ rk c < u) ∧ ∀ (i : Nat) (c : Int), L[i]? = some c → rL M 84 i = jz (kyz S t c)
theorem GA.skip {u v : Int} {L : List Int} (h : GA M S t u L) (huv : u ≤ v) (hs : ∀ c, inFr S t c → u ≤ rk c → rk c < v → False) : GA M S t v L := by
  obtain ⟨h1, h2, h3, h4⟩ := h
  refine ⟨h1, h2, fun c => ?_, h4⟩
  rw [h3]
  refine ⟨fun q => ⟨q.1, by have := q.2; omega⟩, fun q => ⟨q.1, ?_⟩⟩
  rcases Int.lt_or_le (rk c) u with z | z
  · exact z
  · exact (hs c q.1 z q.2).elim
def AGa (b j : Nat) : Prop := ALd b j ∨ (b = 70 ∧ j = 34) ∨ b = 84
theorem AGa_ASc (b j : Nat) (h : AGa b j) : ASc b j := by
  rcases h with h | h | h
  · exact ALd_ASc b j h
  · unfold ASc; omega
  · unfold ASc; omega
theorem ALd_AGa (b j : Nat) (h : ALd b j) : AGa b j := Or.inl h
theorem GA.fr {u : Int} {L : List Int} {M' : am_M} (h : GA M S t u L) (hf : Fr ALd M M') : GA M' S t u L := by
  obtain ⟨h1, h2, h3, h4⟩ := h
  exact ⟨by rw [hf.ri (fun q => by unfold ALd at q; omega)]; exact h1, h2, h3, fun i c q => by rw [hf.rl (fun q => by unfold ALd at q; omega)]; exact h4 i c q⟩
theorem mdPl (h : SH M) (hm : MS M S) (hk : scOK S) {c i : Int} (hs : isSp S c) (hL : MdL M (lay S c)) (t1 : kBn (lay S c) ≤ t) (t2 : t < kEn (lay S c)) (h1 : 0 ≤ i) (h2 : i < 3) : F_Md_placeBy 70 (iz i) (iz (t - kBn (lay S c))) M = some (some (.int (iz (pz S t c i))), M) := by
  have lg := lay_g hk hs
  have bd := skG.bd hk lg h1 h2
  have l4 := lg.1.2.2.2.1
  exact mPlc h hm hk hL.1 lg.1.1 bd.1 bd.2 h1 h2 (by omega) (by omega)
theorem mComes (h : SH M) (hm : MS M S) (hk : scOK S) (hst : rI M 70 1 = iz 1) (lb : LB S t) (t1 : 0 ≤ t) (t2 : t ≤ 40000) {c : Int} (c1 : 0 ≤ c) (c2 : c < 2147483648) {L : List Int} (g : GA M S t (rk c) L) : ∃ M' L', F_Md_comes 70 (iz c) (iz t) M = some (none, M') ∧ Fr AGa M M' ∧ GA M' S t (rk c + 1) L' := by
  have sk : ¬ inFr S t c → ∀ d, inFr S t d → rk c ≤ rk d → rk d < rk c + 1 → False := fun hn d hd q1 q2 => by
    have b := sp_rt hk hd.1
    have b0 := hd.1.1
    have e : d = c := rk_inj b0 c1 (by omega) (by omega) (by omega)
    rw [e] at hd
    exact hn hd
  unfold F_Md_comes
  rw [cv_eq (kd_70 h), mIsSp h hm hk hst (by omega) c2, bI_eq, bz_if0]
  by_cases g1 : isSp S c
  rotate_left
  · rw [if_neg (fun q => g1 (spB_t.mp q))]
    exact ⟨M, L, rfl, Fr.refl M, g.skip (by omega) (sk (fun q => g1 q.1))⟩
  rw [if_pos (spB_t.mpr g1)]
  obtain ⟨M1, e1, f1, L1⟩ := mLays h hm hk g1
  have h1 := h.fr f1
  have m1 := hm.lays f1
  have ga1 := g.fr f1
  have lg := (lay_g hk g1).1.2
  have bn := lay_bn hk g1
  rw [cv_eq (kd_70 h), e1, bV_eq, fI_eq (kd_70 h1), L1.2.1, ifL (by omega) (by omega) (by omega) (by omega), fI_eq (kd_70 h1), L1.2.2, ifL (by omega) (by omega) (by omega) (by omega)]
  by_cases g2 : t < kBn (lay S c)
  · rw [if_pos g2]
    exact ⟨M1, L, rfl, f1.mono ALd_AGa, ga1.skip (by omega) (sk (fun q => by have := q.2.1; omega))⟩
  rw [if_neg g2]
  by_cases g3 : t < kEn (lay S c)
  rotate_left
  · rw [if_neg g3]
    exact ⟨M1, L, rfl, f1.mono ALd_AGa, ga1.skip (by omega) (sk (fun q => by have := q.2.2; omega))⟩
  have fr : inFr S t c := ⟨g1, by omega, g3⟩
  obtain ⟨ga, gb, gc, gd⟩ := ga1
  have lnb := lb L gb (fun d hd => ((gc d).mp hd).1)
  have pb := pz_b3 hk fr (i := 2) (by omega) (by omega)
  rw [if_pos g3, fR_eq (kd_70 h1) (rr_70_35 h1), fI_eq (kd_70 h1), fI_eq (kd_70 h1), L1.2.1, ga, cv_eq (kd_70 h1), iz_sub, show (2 : Int32) = iz 2 from rfl, mdPl h1 m1 hk g1 L1 (by omega) g3 (by omega) (by omega), bI_eq, show (1000 : Int32) = iz 1000 from rfl, iz_sub, jz_i2l (a := 1000 - pz S t c 2) (by omega) (by omega), jz_i2l (a := c) (by omega) c2, jz_key (by omega) (by omega) c1 c2, tL_eq (kd_84 h1) (ln_84 h1) (by omega) (by omega) (by omega), show ((L.length : Int)).toNat = L.length by omega]
  have h2 : SH (wL M1 84 L.length (jz ((1000 - pz S t c 2) * 4294967296 + c))) := h1.wL
  have ri : rI (wL M1 84 L.length (jz ((1000 - pz S t c 2) * 4294967296 + c))) 70 34 = rI M1 70 34 := rfl
  rw [fI_eq (kd_70 h2), ri, ga, show (1 : Int32) = iz 1 from rfl, iz_add, sI_eq (kd_70 h2)]
  refine ⟨_, L ++ [c], rfl, ((f1.mono ALd_AGa).trans (Fr.wL (Or.inr (Or.inr rfl)))).trans (Fr.wI (Or.inr (Or.inl ⟨rfl, rfl⟩))), ?_, ?_, fun d => ?_, fun i d q => ?_⟩
  · rw [rI_at rfl rfl, List.length_append]; rfl
  · rw [List.nodup_append]
    refine ⟨gb, by simp, fun x hx y hy => ?_⟩
    have ey : y = c := by simpa using hy
    have := ((gc x).mp hx).2
    intro e
    rw [e, ey] at this
    omega
  · rw [List.mem_append, gc, List.mem_singleton]
    constructor
    · rintro (q | rfl)
      · exact ⟨q.1, by have := q.2; omega⟩
      · exact ⟨fr, by omega⟩
    · rintro ⟨q1, q2⟩
      by_cases e : rk d < rk c
      · exact Or.inl ⟨q1, e⟩
      · have b := sp_rt hk q1.1
        have b0 := q1.1.1
        exact Or.inr (rk_inj b0 c1 (by omega) (by omega) (by omega))
  · show rL (wL M1 84 L.length (jz ((1000 - pz S t c 2) * 4294967296 + c))) 84 i = jz (kyz S t d)
    rw [rL_wL]
    by_cases e : i < L.length
    · rw [List.getElem?_append_left e] at q
      rw [if_neg (by omega)]
      exact gd i d q
    · rw [List.getElem?_append_right (by omega)] at q
      have ej : i = L.length := by
        rcases Nat.lt_or_ge (i - L.length) 1 with z | z
        · omega
        · rw [List.getElem?_eq_none (by simpa using z)] at q; cases q
      subst ej
      rw [Nat.sub_self] at q
      have ed : d = c := by simpa using q.symm
      rw [if_pos ⟨rfl, rfl⟩, ed]; rfl
theorem MS.ga {M' : am_M} (hm : MS M S) (hf : Fr AGa M M') : MS M' S := hm.fr hf (fun b j q => by unfold AGa ALd at q; omega)
theorem st_ga {M' : am_M} (hf : Fr AGa M M') : rI M' 70 1 = rI M 70 1 := hf.ri (fun q => by unfold AGa ALd at q; omega)
theorem rk_c {s k i : Int} (s1 : 0 ≤ s) (s2 : s < 4) (i1 : 0 ≤ i) (i2 : i < 256) : rk (256 * (4 * k + s) + i) = s * 1099511627776 + k * 256 + i := by
  unfold rk
  rw [show (256 * (4 * k + s) + i) / 256 % 4 = s by omega, show (256 * (4 * k + s) + i) / 256 / 4 = k by omega, show (256 * (4 * k + s) + i) % 256 = i by omega]
theorem mLineL (hk : scOK S) (lb : LB S t) (t1 : 0 ≤ t) (t2 : t ≤ 40000) {s k : Int} (s1 : 0 ≤ s) (s2 : s < 4) (k1 : 0 ≤ k) (k2 : k < 100000) : ∀ (r n : Nat) (i : Int) (M : am_M) (L : List Int), SH M → MS M S → rI M 70 1 = iz 1 → GA M S t (s * 1099511627776 + k * 256 + i) L → 0 ≤ i → i + r = 48 → r < n → ∃ M' L', F_Md_comesLine_L2 n 70 (iz (4 * k + s)) (iz t) (iz i) M = some (none, M') ∧ Fr AGa M M' ∧ GA M' S t (s * 1099511627776 + k * 256 + 48) L'
  | r, 0, i, M, L, h, hm, hst, g, q1, q2, q3 => by omega
  | 0, n + 1, i, M, L, h, hm, hst, g, q1, q2, q3 => by
    have ei : i = 48 := by omega
    subst ei
    refine ⟨M, L, ?_, Fr.refl M, g⟩
    rw [F_Md_comesLine_L2, show (48 : Int32) = iz 48 from rfl, ifE (by omega) (by omega) (by omega) (by omega), if_pos (by omega)]
  | r + 1, n + 1, i, M, L, h, hm, hst, g, q1, q2, q3 => by
    rw [F_Md_comesLine_L2, show (48 : Int32) = iz 48 from rfl, ifE (by omega) (by omega) (by omega) (by omega), if_neg (by omega), show (16 : Int32) = iz 16 from rfl, iz_emod (by omega) (by omega) (by omega) (by omega), show (3 : Int32) = iz 3 from rfl, ifE (by omega) (by omega) (by omega) (by omega), show (1 : Int32) = iz 1 from rfl, iz_add, nm_eq, show (256 : Int32) = iz 256 from rfl, iz_mul, iz_add]
    by_cases g1 : 3 ≤ i % 16
    · rw [if_pos g1]
      exact mLineL hk lb t1 t2 s1 s2 k1 k2 r n (i + 1) M L h hm hst (g.skip (by omega) (fun d hd z1 z2 => by
        have b := sp_rt hk hd.1
        have b0 := hd.1.1
        have e : d = 256 * (4 * k + s) + i := rk_inj b0 (by omega) (by omega) (by omega) (by rw [rk_c s1 s2 q1 (by omega)]; omega)
        have := sp_line hk hd.1
        omega)) (by omega) (by omega) (by omega)
    · rw [if_neg g1]
      rw [← rk_c s1 s2 q1 (by omega)] at g
      obtain ⟨M1, L1, e1, f1, g1'⟩ := mComes h hm hk hst lb t1 t2 (by omega) (by omega) g
      rw [rk_c s1 s2 q1 (by omega), show s * 1099511627776 + k * 256 + i + 1 = s * 1099511627776 + k * 256 + (i + 1) by omega] at g1'
      obtain ⟨M', L', e2, f2, g2⟩ := mLineL hk lb t1 t2 s1 s2 k1 k2 r n (i + 1) M1 L1 (h.fr f1) (hm.ga f1) (by rw [st_ga f1]; exact hst) g1' (by omega) (by omega) (by omega)
      exact ⟨M', L', by rw [cv_eq (kd_70 h), e1, bV_eq]; exact e2, f1.trans f2, g2⟩
theorem mLine (hk : scOK S) (lb : LB S t) (t1 : 0 ≤ t) (t2 : t ≤ 40000) {s k : Int} (s1 : 0 ≤ s) (s2 : s < 4) (k1 : 0 ≤ k) (k2 : k < 100000) {L : List Int} (h : SH M) (hm : MS M S) (hst : rI M 70 1 = iz 1) (g : GA M S t (s * 1099511627776 + k * 256) L) : ∃ M' L', F_Md_comesLine 70 (iz (4 * k + s)) (iz t) M = some (none, M') ∧ Fr AGa M M' ∧ GA M' S t (s * 1099511627776 + (k + 1) * 256) L' := by
  have fg := fu_ge
  obtain ⟨M', L', e, f, g'⟩ := mLineL hk lb t1 t2 s1 s2 k1 k2 48 fu 0 M L h hm hst (by rw [Int.add_zero]; exact g) (by omega) rfl (by omega)
  refine ⟨M', L', e, f, g'.skip (by omega) (fun d hd z1 z2 => ?_)⟩
  have := sp_line hk hd.1
  have b := sp_rt hk hd.1
  have b0 := hd.1.1
  unfold rk at z1 z2
  omega
end Gath
