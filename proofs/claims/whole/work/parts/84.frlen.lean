/-! ===== how long a frame is ===== -/
section Frlen
variable {S : Sc} {t : Int}
theorem nd_le (L K : List Int) (h : L.Nodup) (hs : ∀ x ∈ L, x ∈ K) : L.length ≤ K.length := h.length_le_of_subset (fun x hx => hs x hx)
theorem sh1_len {a b c : Int} : (sh1 S a b c).length ≤ 1 := by
  by_cases q : inWn S a b c
  · rw [sh1_t q]; exact Nat.le_refl 1
  · rw [sh1_f q]; exact Nat.zero_le 1
theorem cd1_len (hk : scOK S) {C : Int} (hC : C % 16 = 0) (hC2 : C % 256 ≠ 0) : (sh1 S t (t + 1) C ++ gcs S t (t + 1) C 2 0).length ≤ 2 := by
  rw [gcs, gcs, gcs, List.append_nil, List.length_append, List.length_append]
  by_cases q : inWn S t (t + 1) C
  · have e : ∀ i, 0 ≤ i → i < 2 → ¬ inWn S t (t + 1) (C + 1 + i) := fun i i1 i2 z => by
      have eb : kBn (lay S (C + 1 + i)) = kEn (lay S C) := by rw [lay_gc hC hC2 i1 i2]; rfl
      have z1 := z.2.1
      have z2 := q.2.2
      omega
    have := sh1_len (S := S) (a := t) (b := t + 1) (c := C)
    rw [sh1_f (e 0 (by omega) (by omega)), sh1_f (e (0 + 1) (by omega) (by omega))]
    simp only [List.length_nil]
    omega
  · have a1 := sh1_len (S := S) (a := t) (b := t + 1) (c := C + 1 + 0)
    have a2 := sh1_len (S := S) (a := t) (b := t + 1) (c := C + 1 + (0 + 1))
    rw [sh1_f q, List.length_nil]
    omega
theorem shw_len (hk : scOK S) {R : Int} (hR : R % 256 = 0) : (shw S t (t + 1) R).length ≤ 4 := by
  have b1 := cd1_len (t := t) hk (C := R + 16 * (1 + 0)) (by omega) (by omega)
  have b2 := cd1_len (t := t) hk (C := R + 16 * (1 + (0 + 1))) (by omega) (by omega)
  by_cases q : inWn S t (t + 1) R
  · have hs := q.1
    have n1 : ∀ j, 0 ≤ j → j < 2 → ¬ inWn S t (t + 1) (R + 16 * (1 + j)) ∧ ∀ i, 0 ≤ i → i < 2 → ¬ inWn S t (t + 1) (R + 16 * (1 + j) + 1 + i) := fun j j1 j2 => by
      have eb : kBn (lay S (R + 16 * (1 + j))) = kEn (lay S R) := by rw [lay_ch hR j1 j2]; rfl
      have q2 := q.2.2
      refine ⟨fun z => by have z1 := z.2.1; omega, fun i i1 i2 z => ?_⟩
      have sp := sp_up1 z.1 (by omega)
      rw [show R + 16 * (1 + j) + 1 + i - (R + 16 * (1 + j) + 1 + i) % 16 = R + 16 * (1 + j) by omega] at sp
      have ln := lay_en hk sp.1
      have eb2 : kBn (lay S (R + 16 * (1 + j) + 1 + i)) = kEn (lay S (R + 16 * (1 + j))) := by rw [lay_gc (by omega) (by omega) i1 i2]; rfl
      have z1 := z.2.1
      omega
    unfold shw
    rw [cds_nil 2 0 (fun j j1 j2 => n1 j j1 (by omega)), List.append_nil]
    have := sh1_len (S := S) (a := t) (b := t + 1) (c := R)
    omega
  · unfold shw
    rw [sh1_f q, List.nil_append, cds, cds, cds, List.append_nil, List.length_append]
    omega
theorem wks_len (hk : scOK S) {E : Int → Int} : ∀ (r : Nat) (N : Int → Int), (wks S t (t + 1) E r N).length ≤ 4 * r
  | 0, N => Nat.zero_le _
  | r + 1, N => by
    rw [wks]
    split
    · exact Nat.zero_le _
    · rw [List.length_append]
      have := shw_len (S := S) (t := t) hk (R := 256 * (4 * N (lrt N E) + lrt N E)) (by omega)
      have := wks_len hk r (updN N (lrt N E) (N (lrt N E) + 1)) (E := E)
      omega
theorem div_add_le {y d e : Int} (he : 1 ≤ e) (hd : 0 ≤ d) : (y + d) / e ≤ y / e + d := by
  have h1 : y < (y / e + 1) * e := Int.lt_ediv_add_one_mul_self y (by omega)
  have h2 : (y + d) / e < y / e + d + 1 := by
    rw [Int.ediv_lt_iff_lt_mul (by omega)]
    have e1 : (y / e + d + 1) * e = (y / e + 1) * e + d * e := by rw [show y / e + d + 1 = (y / e + 1) + d by omega, Int.add_mul]
    have e2 : d * 1 ≤ d * e := Int.mul_le_mul_of_nonneg_left he hd
    omega
  omega
theorem buT_diff (hk : scOK S) {s : Int} (s1 : 0 ≤ s) (s2 : s < sNs S) {d : Int} (d0 : 0 ≤ d) (d2 : d ≤ 200) : buT S s t - buT S s (t - d) ≤ 201 := by
  obtain ⟨z0, -, z4, z5, z6, z7, z8, z9⟩ := hk.2.2.2.2.2 s s1 s2
  have b1 := buT_bd hk s1 s2 (t - d)
  unfold buT at b1 ⊢
  by_cases g1 : min t (sQ S s 7) < sQ S s 4
  · rw [if_pos g1]; omega
  rw [if_neg g1]
  by_cases g2 : min (t - d) (sQ S s 7) < sQ S s 4
  · rw [if_pos g2]
    have := Int.ediv_le_self (a := min t (sQ S s 7) - sQ S s 4) (sQ S s 5) (by omega)
    omega
  · rw [if_neg g2]
    have m1 : min t (sQ S s 7) ≤ min (t - d) (sQ S s 7) + d := by omega
    have e1 : (min t (sQ S s 7) - sQ S s 4) / sQ S s 5 ≤ (min (t - d) (sQ S s 7) - sQ S s 4 + d) / sQ S s 5 := Int.ediv_le_ediv (by omega) (by omega)
    have e2 := div_add_le (y := min (t - d) (sQ S s 7) - sQ S s 4) (d := d) (e := sQ S s 5) (by omega) d0
    omega
theorem msr_f (hk : scOK S) : msr (nxr S t) (byr S (t + 1)) ≤ 4020 := by
  have one : ∀ s, 0 ≤ s → s < 4 → byr S (t + 1) s - nxr S t s ≤ 1005 := fun s s1 s4 => by
    unfold byr nxr
    by_cases g : s < sNs S
    · rw [if_pos g, if_pos g, show t + 1 - 1 = t by omega]
      obtain ⟨z0, -, z4, z5, z6, z7, z8, z9⟩ := hk.2.2.2.2.2 s s1 g
      have bs := sp2_bd hk z0.1 z0.2
      have bb2 := sbh_bd hk 0 z0.1 z0.2
      have es : spn S 0 (sQ S s 0) = sp2 S (sQ S s 0) + sbh S 0 (sQ S s 0) := rfl
      have df := buT_diff (t := t) hk s1 g (d := sQ S s 8 + spn S 0 (sQ S s 0)) (by omega) (by omega)
      rw [show t - (sQ S s 8 + spn S 0 (sQ S s 0)) = t - sQ S s 8 - spn S 0 (sQ S s 0) by omega] at df
      rw [← Int.sub_mul]
      rcases Int.lt_or_le (buT S s t - buT S s (t - sQ S s 8 - spn S 0 (sQ S s 0))) 0 with q | q
      · have : (buT S s t - buT S s (t - sQ S s 8 - spn S 0 (sQ S s 0))) * sQ S s 6 ≤ 0 * sQ S s 6 := Int.mul_le_mul_of_nonneg_right (by omega) (by omega)
        omega
      · have : (buT S s t - buT S s (t - sQ S s 8 - spn S 0 (sQ S s 0))) * sQ S s 6 ≤ 201 * 5 := Int.mul_le_mul df (by omega) (by omega) (by omega)
        omega
    · rw [if_neg g, if_neg g]; omega
  have a0 := one 0 (by omega) (by omega)
  have a1 := one 1 (by omega) (by omega)
  have a2 := one 2 (by omega) (by omega)
  have a3 := one 3 (by omega) (by omega)
  unfold msr
  omega
theorem wkl_len (hk : scOK S) : (wkl S t (t + 1)).length ≤ 16080 := by
  have h1 := wks_len (S := S) (t := t) hk (E := byr S (t + 1)) (msr (nxr S t) (byr S (t + 1))) (nxr S t)
  have h2 := msr_f (S := S) (t := t) hk
  unfold wkl
  omega
theorem LB_all (hk : scOK S) (t : Int) : LB S t := fun L hn hs => by
  have h := wkl_FL hk t
  have := nd_le L (wkl S t (t + 1)) hn (fun c hc => (h.2 c).mpr (hs c hc))
  have := wkl_len (S := S) (t := t) hk
  omega
end Frlen
