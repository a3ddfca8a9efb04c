/-! ===== all that a walk shows ===== -/
section Walk5
variable {M : am_M} {S : Sc} {a b : Int} {N E : Int → Int}
theorem sh1_mem {c x : Int} : x ∈ sh1 S a b c ↔ x = c ∧ inWn S a b c := by
  by_cases q : inWn S a b c
  · rw [sh1_t q, List.mem_singleton]; exact ⟨fun e => ⟨e, q⟩, fun e => e.1⟩
  · rw [sh1_f q]; exact ⟨fun e => (List.not_mem_nil e).elim, fun e => absurd e.2 q⟩
theorem gcs_mem {C x : Int} : x ∈ gcs S a b C 2 0 ↔ inWn S a b x ∧ (x = C + 1 ∨ x = C + 2) := by
  rw [gcs, gcs, gcs, List.append_nil, List.mem_append, sh1_mem, sh1_mem]
  constructor
  · rintro (⟨rfl, q⟩ | ⟨rfl, q⟩)
    · exact ⟨q, Or.inl (by omega)⟩
    · exact ⟨q, Or.inr (by omega)⟩
  · rintro ⟨q, e | e⟩
    · have : x = C + 1 + 0 := by omega
      exact Or.inl ⟨this, this ▸ q⟩
    · have : x = C + 1 + (0 + 1) := by omega
      exact Or.inr ⟨this, this ▸ q⟩
theorem shw_mem {R x : Int} : x ∈ shw S a b R ↔ inWn S a b x ∧ (x = R ∨ x = R + 16 ∨ x = R + 17 ∨ x = R + 18 ∨ x = R + 32 ∨ x = R + 33 ∨ x = R + 34) := by
  unfold shw
  rw [cds, cds, cds, List.append_nil, List.mem_append, List.mem_append, List.mem_append, List.mem_append, gcs_mem, gcs_mem, sh1_mem, sh1_mem, sh1_mem, show R + 16 * (1 + 0) = R + 16 by omega, show R + 16 * (1 + (0 + 1)) = R + 32 by omega]
  constructor
  · rintro (⟨rfl, q⟩ | (⟨rfl, q⟩ | ⟨q, e⟩) | (⟨rfl, q⟩ | ⟨q, e⟩))
    · exact ⟨q, by omega⟩
    · exact ⟨q, by omega⟩
    · exact ⟨q, by omega⟩
    · exact ⟨q, by omega⟩
    · exact ⟨q, by omega⟩
  · rintro ⟨q, rfl | rfl | e | e | rfl | e | e⟩
    · exact Or.inl ⟨rfl, q⟩
    · exact Or.inr (Or.inl (Or.inl ⟨rfl, q⟩))
    · exact Or.inr (Or.inl (Or.inr ⟨q, by omega⟩))
    · exact Or.inr (Or.inl (Or.inr ⟨q, by omega⟩))
    · exact Or.inr (Or.inr (Or.inl ⟨rfl, q⟩))
    · exact Or.inr (Or.inr (Or.inr ⟨q, by omega⟩))
    · exact Or.inr (Or.inr (Or.inr ⟨q, by omega⟩))
theorem sh1_pw {c : Int} : (sh1 S a b c).Pairwise (· < ·) := by
  by_cases q : inWn S a b c
  · rw [sh1_t q]; exact List.pairwise_singleton _ _
  · rw [sh1_f q]; exact List.Pairwise.nil
theorem pw_app {A B : List Int} {m : Int} (h1 : A.Pairwise (· < ·)) (h2 : B.Pairwise (· < ·)) (h3 : ∀ x ∈ A, x < m) (h4 : ∀ x ∈ B, m ≤ x) : (A ++ B).Pairwise (· < ·) := List.pairwise_append.mpr ⟨h1, h2, fun x hx y hy => by have := h3 x hx; have := h4 y hy; omega⟩
theorem gcs_pw {C : Int} : (gcs S a b C 2 0).Pairwise (· < ·) := by
  rw [gcs, gcs, gcs, List.append_nil]
  exact pw_app (m := C + 2) sh1_pw sh1_pw (fun x hx => by have := (sh1_mem.mp hx).1; omega) (fun x hx => by have := (sh1_mem.mp hx).1; omega)
theorem cd1_pw {C : Int} : (sh1 S a b C ++ gcs S a b C 2 0).Pairwise (· < ·) := pw_app (m := C + 1) sh1_pw gcs_pw (fun x hx => by have := (sh1_mem.mp hx).1; omega) (fun x hx => by have := (gcs_mem.mp hx).2; omega)
theorem cd1_mem {C x : Int} (h : x ∈ sh1 S a b C ++ gcs S a b C 2 0) : C ≤ x ∧ x ≤ C + 2 := by
  rcases List.mem_append.mp h with q | q
  · have := (sh1_mem.mp q).1; omega
  · have := (gcs_mem.mp q).2; omega
theorem shw_pw {R : Int} : (shw S a b R).Pairwise (· < ·) := by
  unfold shw
  rw [cds, cds, cds, List.append_nil]
  refine pw_app (m := R + 1) sh1_pw (pw_app (m := R + 32) cd1_pw cd1_pw (fun x hx => ?_) (fun x hx => ?_)) (fun x hx => ?_) (fun x hx => ?_)
  · have := cd1_mem hx; omega
  · have := cd1_mem hx; omega
  · have := (sh1_mem.mp hx).1; omega
  · rcases List.mem_append.mp hx with q | q
    · have := cd1_mem q; omega
    · have := cd1_mem q; omega
/-- a spark is one of its root's line -/
theorem sp_line (hk : scOK S) {c : Int} (h : isSp S c) : c = 256 * (c / 256) ∨ c = 256 * (c / 256) + 16 ∨ c = 256 * (c / 256) + 17 ∨ c = 256 * (c / 256) + 18 ∨ c = 256 * (c / 256) + 32 ∨ c = 256 * (c / 256) + 33 ∨ c = 256 * (c / 256) + 34 := by
  have h0 := h.1
  have k0 := (hk.2.2.2.2.2 (c / 256 % 4) (by omega) h.2.1).1
  have k6 := (hk.2.2.2.2.1 _ k0.1 k0.2).2.2.2.2.2.2
  have hp := h.2.2.2
  by_cases q : c % 256 = 0
  · omega
  have k7 : sK S (sK S (sQ S (c / 256 % 4) 0) 7) 6 ≤ 2 := by
    have := (hk.2.2.2.2.1 (sK S (sQ S (c / 256 % 4) 0) 7) (by omega) (by omega)).2.2.2.2.2.2
    omega
  omega
noncomputable def wks (S : Sc) (a b : Int) (E : Int → Int) : Nat → (Int → Int) → List Int
  | 0, _ => []
  | n + 1, N => if lrt N E = -1 then [] else shw S a b (256 * (4 * N (lrt N E) + lrt N E)) ++ wks S a b E n (updN N (lrt N E) (N (lrt N E) + 1))
def msr (N E : Int → Int) : Nat := (E 0 - N 0).toNat + (E 1 - N 1).toNat + (E 2 - N 2).toNat + (E 3 - N 3).toNat
theorem upd_s (N : Int → Int) (s v : Int) : updN N s v s = v := if_pos rfl
theorem upd_n (N : Int → Int) {s v x : Int} (h : x ≠ s) : updN N s v x = N x := if_neg h
theorem msr_0 (h : msr N E = 0) : lrt N E = -1 := by
  rcases lrt_g N E with q | ⟨q1, q2, q3, -⟩
  · exact q.1
  · unfold msr at h
    rcases (show lrt N E = 0 ∨ lrt N E = 1 ∨ lrt N E = 2 ∨ lrt N E = 3 by omega) with e | e | e | e <;> rw [e] at q3 <;> omega
theorem msr_u (h : lrt N E ≠ -1) : msr (updN N (lrt N E) (N (lrt N E) + 1)) E + 1 = msr N E := by
  rcases lrt_g N E with q | ⟨q1, q2, q3, -⟩
  · exact absurd q.1 h
  · unfold msr
    rcases (show lrt N E = 0 ∨ lrt N E = 1 ∨ lrt N E = 2 ∨ lrt N E = 3 by omega) with e | e | e | e <;> rw [e] at q3 ⊢
    · rw [upd_s, upd_n N (by decide), upd_n N (by decide), upd_n N (by decide)]; omega
    · rw [upd_s, upd_n N (by decide), upd_n N (by decide), upd_n N (by decide)]; omega
    · rw [upd_s, upd_n N (by decide), upd_n N (by decide), upd_n N (by decide)]; omega
    · rw [upd_s, upd_n N (by decide), upd_n N (by decide), upd_n N (by decide)]; omega
theorem NE.u (h : NE S N E) (hl : lrt N E ≠ -1) : NE S (updN N (lrt N E) (N (lrt N E) + 1)) E := by
  rcases lrt_g N E with q | ⟨q1, q2, q3, -⟩
  · exact absurd q.1 hl
  intro s s1 s2
  have hs := h s s1 s2
  by_cases e : s = lrt N E
  · rw [e] at hs ⊢
    rw [upd_s]
    refine ⟨by omega, by omega, hs.2.2.1, hs.2.2.2.1, fun _ => hs.2.2.2.2 q3⟩
  · rw [upd_n N e]; exact hs
/-- what the walk will show: just these, in order -/
theorem wks_g (hk : scOK S) : ∀ (r : Nat) (N : Int → Int), NE S N E → msr N E ≤ r → (∀ c, c ∈ wks S a b E r N ↔ inWn S a b c ∧ N (c / 256 % 4) ≤ c / 256 / 4 ∧ c / 256 / 4 < E (c / 256 % 4)) ∧ (wks S a b E r N).Pairwise (· < ·)
  | 0, N, hb, hm => by
    refine ⟨fun c => ?_, List.Pairwise.nil⟩
    rw [wks]
    refine ⟨fun q => (List.not_mem_nil q).elim, fun ⟨q, q1, q2⟩ => ?_⟩
    unfold msr at hm
    rcases (show c / 256 % 4 = 0 ∨ c / 256 % 4 = 1 ∨ c / 256 % 4 = 2 ∨ c / 256 % 4 = 3 by omega) with e | e | e | e <;> rw [e] at q1 q2 <;> omega
  | r + 1, N, hb, hm => by
    rw [wks]
    by_cases hl : lrt N E = -1
    · rw [if_pos hl]
      refine ⟨fun c => ⟨fun q => (List.not_mem_nil q).elim, fun ⟨q, q1, q2⟩ => ?_⟩, List.Pairwise.nil⟩
      rcases lrt_g N E with ⟨_, z⟩ | ⟨z, -⟩
      · have := z (c / 256 % 4) (by omega) (by omega); omega
      · omega
    rw [if_neg hl]
    have mu := msr_u hl
    obtain ⟨i1, i2⟩ := wks_g hk r (updN N (lrt N E) (N (lrt N E) + 1)) (hb.u hl) (by omega)
    rcases lrt_g N E with z | ⟨l0, l4, lN, ll⟩
    · exact absurd z.1 hl
    generalize hs0 : lrt N E = s0 at *
    have e1 : ∀ c, c ∈ shw S a b (256 * (4 * N s0 + s0)) ↔ inWn S a b c ∧ c / 256 = 4 * N s0 + s0 := fun c => by
      rw [shw_mem]
      refine ⟨fun ⟨q, e⟩ => ⟨q, by omega⟩, fun ⟨q, e⟩ => ⟨q, ?_⟩⟩
      have := sp_line hk q.1
      omega
    refine ⟨fun c => ?_, List.pairwise_append.mpr ⟨shw_pw, i2, fun x hx y hy => ?_⟩⟩
    · rw [List.mem_append, e1, i1]
      constructor
      · rintro (⟨q, e⟩ | ⟨q, e, f⟩)
        · have es : c / 256 % 4 = s0 := by omega
          rw [es]
          exact ⟨q, by omega, by omega⟩
        · refine ⟨q, ?_, f⟩
          by_cases es : c / 256 % 4 = s0
          · rw [es] at e ⊢; rw [upd_s] at e; omega
          · rw [upd_n N es] at e; exact e
      · rintro ⟨q, e, f⟩
        by_cases es : c / 256 % 4 = s0
        · by_cases ek : c / 256 / 4 = N s0
          · exact Or.inl ⟨q, by omega⟩
          · refine Or.inr ⟨q, ?_, f⟩
            rw [es] at e ⊢
            rw [upd_s]; omega
        · refine Or.inr ⟨q, ?_, f⟩
          rw [upd_n N es]; exact e
    · obtain ⟨-, q1⟩ := (e1 x).mp hx
      obtain ⟨qq, q2, q3⟩ := (i1 y).mp hy
      by_cases es : y / 256 % 4 = s0
      · rw [es, upd_s] at q2; omega
      · rw [upd_n N es] at q2
        have := ll (y / 256 % 4) (by omega) (by omega) (by omega)
        omega
theorem sp_up0 {c : Int} (h : isSp S c) : isSp S (c - c % 256) := by
  obtain ⟨h0, h1, h2, h3⟩ := h
  unfold isSp
  rw [show (c - c % 256) / 256 = c / 256 by omega]
  exact ⟨by omega, h1, h2, Or.inl (by omega)⟩
theorem sp_up1 {c : Int} (h : isSp S c) (hc : c % 16 ≠ 0) : isSp S (c - c % 16) ∧ (c - c % 16) % 256 ≠ 0 := by
  obtain ⟨h0, h1, h2, h3⟩ := h
  unfold isSp
  rw [show (c - c % 16) / 256 = c / 256 by omega, show (c - c % 16) % 256 / 16 = c % 256 / 16 by omega]
  refine ⟨⟨by omega, h1, h2, Or.inr ⟨?_, Or.inl (by omega)⟩⟩, ?_⟩
  · rcases h3 with q | q
    · omega
    · exact q.1
  · rcases h3 with q | q <;> omega
theorem lay_c1 (hk : scOK S) {c : Int} (h : isSp S c) (h1 : c % 256 ≠ 0) (h2 : c % 16 = 0) : lay S c = layC S (lay S (c - c % 256)) c := by
  have := sp_line hk h
  have e := lay_ch (S := S) (R := c - c % 256) (c := c % 256 / 16 - 1) (by omega) (by omega) (by omega)
  rw [show c - c % 256 + 16 * (1 + (c % 256 / 16 - 1)) = c by omega] at e
  exact e
theorem lay_c2 (hk : scOK S) {c : Int} (h : isSp S c) (h1 : c % 16 ≠ 0) : lay S c = layC S (lay S (c - c % 16)) c := by
  have := sp_line hk h
  have u := sp_up1 h h1
  have e := lay_gc (S := S) (C := c - c % 16) (i := c % 16 - 1) (by omega) u.2 (by omega) (by omega)
  rw [show c - c % 16 + 1 + (c % 16 - 1) = c by omega] at e
  exact e
theorem lay_r0 {c : Int} : lay S (c - c % 256) = layR S (c / 256 % 4) (c / 256 / 4) := by
  have := lay_rt (S := S) (c / 256 % 4) (c / 256 / 4) (by omega) (by omega)
  rw [show 256 * (4 * (c / 256 / 4) + c / 256 % 4) = c - c % 256 by omega] at this
  exact this
theorem lay_b0 {c : Int} : kBn (lay S (c - c % 256)) = bornR S (c / 256 % 4) (c / 256 / 4) := by rw [lay_r0]; rfl
theorem lay_k0 {c : Int} : kKd (lay S (c - c % 256)) = sQ S (c / 256 % 4) 0 := by rw [lay_r0]; rfl
theorem lay_span (hk : scOK S) {c : Int} (h : isSp S c) : bornR S (c / 256 % 4) (c / 256 / 4) ≤ kBn (lay S c) ∧ kEn (lay S c) ≤ bornR S (c / 256 % 4) (c / 256 / 4) + spn S 0 (sQ S (c / 256 % 4) 0) := by
  have u0 := sp_up0 h
  have e0 := lay_en hk u0
  have kb := lay_kb hk u0
  have s0 := sb0_bd hk kb.1 kb.2
  rw [lay_b0] at e0
  rw [lay_k0] at e0 s0
  have es : spn S 0 (sQ S (c / 256 % 4) 0) = sp2 S (sQ S (c / 256 % 4) 0) + sb0 S (sQ S (c / 256 % 4) 0) := rfl
  have ln := sp_line hk h
  by_cases g0 : c % 256 = 0
  · have ec : c - c % 256 = c := by omega
    have b0 := lay_b0 (S := S) (c := c)
    rw [ec] at b0 e0
    rw [b0]
    omega
  by_cases g1 : c % 16 = 0
  · have l1 := lay_c1 hk h g0 g1
    have e1 := lay_en hk h
    have bn : kBn (lay S c) = kEn (lay S (c - c % 256)) := by rw [l1]; rfl
    have kd : kKd (lay S c) = sK S (sQ S (c / 256 % 4) 0) 7 := by rw [l1, layC_kd, lay_k0]
    have k6 : 1 ≤ sK S (sQ S (c / 256 % 4) 0) 6 := by have := h.2.2.2; omega
    have k1 := lay_kb hk h
    have b1 := sb1_bd hk k1.1 k1.2
    have z : sb0 S (sQ S (c / 256 % 4) 0) = sp2 S (sK S (sQ S (c / 256 % 4) 0) 7) + sb1 S (sK S (sQ S (c / 256 % 4) 0) 7) := by unfold sb0; rw [if_pos k6]
    rw [kd] at e1 b1
    omega
  · have u1 := sp_up1 h g1
    have l2 := lay_c2 hk h g1
    have l1 := lay_c1 hk u1.1 u1.2 (by omega)
    rw [show c - c % 16 - (c - c % 16) % 256 = c - c % 256 by omega] at l1
    have e1 := lay_en hk u1.1
    have e2 := lay_en hk h
    have bn : kBn (lay S (c - c % 16)) = kEn (lay S (c - c % 256)) := by rw [l1]; rfl
    have kd : kKd (lay S (c - c % 16)) = sK S (sQ S (c / 256 % 4) 0) 7 := by rw [l1, layC_kd, lay_k0]
    have bn2 : kBn (lay S c) = kEn (lay S (c - c % 16)) := by rw [l2]; rfl
    have kd2 : kKd (lay S c) = sK S (sK S (sQ S (c / 256 % 4) 0) 7) 7 := by rw [l2, layC_kd, kd]
    have hp := h.2.2.2
    have k6 : 1 ≤ sK S (sQ S (c / 256 % 4) 0) 6 := by omega
    have k7 : 1 ≤ sK S (sK S (sQ S (c / 256 % 4) 0) 7) 6 := by omega
    have z : sb0 S (sQ S (c / 256 % 4) 0) = sp2 S (sK S (sQ S (c / 256 % 4) 0) 7) + sb1 S (sK S (sQ S (c / 256 % 4) 0) 7) := by unfold sb0; rw [if_pos k6]
    have z1 : sb1 S (sK S (sQ S (c / 256 % 4) 0) 7) = sp2 S (sK S (sK S (sQ S (c / 256 % 4) 0) 7) 7) := by unfold sb1; rw [if_pos k7]
    rw [kd] at e1
    rw [kd2] at e2
    omega
theorem NE_start (hk : scOK S) (a b : Int) : NE S (nxr S a) (byr S b) := by
  intro s s1 s2
  unfold nxr byr
  by_cases g : s < sNs S
  · rw [if_pos g, if_pos g]
    obtain ⟨z0, -, z4, z5, z6, z7, z8, z9⟩ := hk.2.2.2.2.2 s s1 g
    have x1 := buT_bd hk s1 g (a - sQ S s 8 - spn S 0 (sQ S s 0))
    have x2 := buT_bd hk s1 g (b - 1)
    have m1 : 0 ≤ buT S s (a - sQ S s 8 - spn S 0 (sQ S s 0)) * sQ S s 6 := Int.mul_nonneg x1.1 (by omega)
    have m2 : buT S s (a - sQ S s 8 - spn S 0 (sQ S s 0)) * sQ S s 6 ≤ rts S s := Int.mul_le_mul_of_nonneg_right x1.2 (by omega)
    have m3 : 0 ≤ buT S s (b - 1) * sQ S s 6 := Int.mul_nonneg x2.1 (by omega)
    have m4 : buT S s (b - 1) * sQ S s 6 ≤ rts S s := Int.mul_le_mul_of_nonneg_right x2.2 (by omega)
    have rb := rts_bd hk s1 g
    exact ⟨m1, by omega, m3, by omega, fun _ => ⟨g, m4⟩⟩
  · rw [if_neg g, if_neg g]
    exact ⟨by omega, by omega, by omega, by omega, fun q => by omega⟩
noncomputable def wkl (S : Sc) (a b : Int) : List Int := wks S a b (byr S b) (msr (nxr S a) (byr S b)) (nxr S a)
theorem wkl_g (hk : scOK S) (a b : Int) : (∀ c, c ∈ wkl S a b ↔ inWn S a b c) ∧ (wkl S a b).Pairwise (· < ·) := by
  obtain ⟨h1, h2⟩ := wks_g (a := a) (b := b) hk (msr (nxr S a) (byr S b)) (nxr S a) (NE_start hk a b) (Nat.le_refl _)
  refine ⟨fun c => ?_, h2⟩
  unfold wkl
  rw [h1]
  refine ⟨fun q => q.1, fun q => ⟨q, ?_⟩⟩
  have sp := q.1
  have c0 := sp.1
  have ls := lay_span hk sp
  have bb := bornR_bd hk (s := c / 256 % 4) (k := c / 256 / 4) (by omega) sp.2.1 (by omega) sp.2.2.1
  have q1 := q.2.1
  have q2 := q.2.2
  unfold nxr byr
  rw [if_pos sp.2.1, if_pos sp.2.1]
  have i1 := buT_iff hk (s := c / 256 % 4) (k := c / 256 / 4) (t := b - 1) (by omega) sp.2.1 (by omega) sp.2.2.1
  have i2 := buT_iff hk (s := c / 256 % 4) (k := c / 256 / 4) (t := a - sQ S (c / 256 % 4) 8 - spn S 0 (sQ S (c / 256 % 4) 0)) (by omega) sp.2.1 (by omega) sp.2.2.1
  refine ⟨?_, i1.mpr (by omega)⟩
  rcases Int.lt_or_le (c / 256 / 4) (buT S (c / 256 % 4) (a - sQ S (c / 256 % 4) 8 - spn S 0 (sQ S (c / 256 % 4) 0)) * sQ S (c / 256 % 4) 6) with z | z
  · have := i2.mp z; omega
  · exact z
theorem wkl_FL (hk : scOK S) (t : Int) : FL S t (wkl S t (t + 1)) := by
  obtain ⟨h1, h2⟩ := wkl_g hk t (t + 1)
  refine ⟨h2, fun c => ?_⟩
  rw [h1]
  unfold inWn inFr
  exact ⟨fun ⟨q1, q2, q3⟩ => ⟨q1, by omega, q3⟩, fun ⟨q1, q2, q3⟩ => ⟨q1, by omega, q3⟩⟩
theorem msr_bd (h : NE S N E) : msr N E ≤ 240000 := by
  have a0 := h 0 (by omega) (by omega)
  have a1 := h 1 (by omega) (by omega)
  have a2 := h 2 (by omega) (by omega)
  have a3 := h 3 (by omega) (by omega)
  unfold msr
  omega
end Walk5
