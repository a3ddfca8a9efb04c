/-! ===== the law ===== -/
section Law
variable {M M1 : am_M} {r : Option Value × am_M}
theorem fI_kd {a t k : Nat} {f : Int32 → am_R} (h : fI M a t k f = some r) : mKd M a = t := by
  by_cases q : mKd M a = t
  · exact q
  · unfold fI at h; rw [if_neg q] at h; cases h
theorem cv_kd {a t : Nat} {x : am_R} (h : cv M a t x = some r) : mKd M a = t := by
  by_cases q : mKd M a = t
  · exact q
  · unfold cv at h; rw [if_neg q] at h; cases h
theorem scI_at {L : Nat} {xs : Nat → Int32} {i : Nat} {f : Int32 → am_R} (h : i < L) (hL : L ≤ 100000) : scI L xs (iz (i : Int)) f = f (xs i) := by
  unfold scI
  rw [if_pos (iz_in (by omega) (by omega) (by omega)), iz_clamp (by omega) (by omega), Int.toNat_natCast]
theorem lgc (z : Int64) : lg_cmp z z = 0 := by
  have h1 : lg_cmp z z ≤ 0 := (lg_cmp_le z z).mpr (Int64.le_refl z)
  have h2 : 0 ≤ lg_cmp z z := (lg_cmp_ge z z).mpr (Int64.le_refl z)
  exact Int32.le_antisymm h1 h2
theorem k70_feed {a b c d e : Int32} (h : F_Md_feed 70 a b c d e M1 = some r) : mKd M1 70 = 13 := by
  unfold F_Md_feed at h; exact fI_kd h
theorem k70_end {a : Int32} (h : F_Md_end 70 a M1 = some r) : mKd M1 70 = 13 := by
  unfold F_Md_end at h; exact fI_kd h
theorem k70_scene (h : F_Md_scene 70 M1 = some r) : mKd M1 70 = 13 := by
  unfold F_Md_scene at h; exact fI_kd h
theorem k70_fault {a v : Int32} (hM : mKd M 70 = 13) (g : F_NS_fault 0 a M = some (some (.int v), M1)) (h : F_Md_fault 70 a M1 = some r) : mKd M1 70 = 13 := by
  unfold F_Md_fault at h
  unfold F_NS_fault at g
  by_cases q0 : a = 0
  · rw [if_pos q0] at h; exact fI_kd h
  rw [if_neg q0] at h g
  by_cases q1 : a = 1
  · rw [if_pos q1] at h; exact fI_kd h
  rw [if_neg q1] at h g
  injection g with g
  injection g with g1 g2
  rw [← g2]; exact hM
theorem k70_count {a v : Int32} (hM : mKd M 70 = 13) (g : F_NS_count 0 a M = some (some (.int v), M1)) (h : F_Md_count 70 a M1 = some r) : mKd M1 70 = 13 := by
  unfold F_Md_count at h
  unfold F_NS_count at g
  by_cases q0 : a = 0
  · rw [if_pos q0] at h; exact fI_kd h
  rw [if_neg q0] at h g
  by_cases q1 : a = 1
  · rw [if_pos q1] at h; exact fI_kd h
  rw [if_neg q1] at h g
  by_cases q2 : a = 2
  · rw [if_pos q2] at h; exact fI_kd h
  rw [if_neg q2] at h g
  by_cases q3 : a = 3
  · rw [if_pos q3] at h; exact fI_kd h
  rw [if_neg q3] at h g
  by_cases q4 : a = 4
  · rw [if_pos q4] at h; exact fI_kd h
  rw [if_neg q4] at h g
  by_cases q5 : a = 5
  · rw [if_pos q5] at h; exact fI_kd h
  rw [if_neg q5] at h g
  by_cases q6 : a = 6
  · rw [if_pos q6] at h; exact fI_kd h
  rw [if_neg q6] at h g
  by_cases q7 : a = 7
  · rw [if_pos q7] at h; exact fI_kd h
  rw [if_neg q7] at h g
  injection g with g
  injection g with g1 g2
  rw [← g2]; exact hM
theorem k70_kind {a b : Int32} (h : F_Md_kind 70 a b M1 = some r) : mKd M1 70 = 13 := by
  unfold F_Md_kind at h; exact fI_kd h
theorem k70_source {a b : Int32} (h : F_Md_source 70 a b M1 = some r) : mKd M1 70 = 13 := by
  unfold F_Md_source at h; exact fI_kd h
theorem k70_seed {a : Int32} (h : F_Md_seed 70 a M1 = some r) : mKd M1 70 = 13 := by
  unfold F_Md_seed at h; exact fI_kd h
theorem k70_mixed {a b : Int32} (h : F_Md_mixed 70 a b M1 = some r) : mKd M1 70 = 13 := by
  unfold F_Md_mixed at h; exact fI_kd h
theorem k70_is {a : Int32} (h : F_Md_is 70 a M1 = some r) : mKd M1 70 = 13 := by
  unfold F_Md_is at h; exact fI_kd h
theorem k70_child {a b : Int32} (h : F_Md_child 70 a b M1 = some r) : mKd M1 70 = 13 := by
  unfold F_Md_child at h; exact cv_kd h
theorem k70_parent {a : Int32} (h : F_Md_parent 70 a M1 = some r) : mKd M1 70 = 13 := by
  unfold F_Md_parent at h; exact cv_kd h
theorem k70_spark {a b : Int32} (h : F_Md_spark 70 a b M1 = some r) : mKd M1 70 = 13 := by
  unfold F_Md_spark at h; exact cv_kd h
theorem k70_place {a b c : Int32} (h : F_Md_place 70 a b c M1 = some r) : mKd M1 70 = 13 := by
  unfold F_Md_place at h; exact cv_kd h
theorem k70_size {a b : Int32} (h : F_Md_size 70 a b M1 = some r) : mKd M1 70 = 13 := by
  unfold F_Md_size at h; exact cv_kd h
theorem k70_edges {a : Int32} (h : F_Md_edges 70 a M1 = some r) : mKd M1 70 = 13 := by
  unfold F_Md_edges at h; exact cv_kd h
theorem k70_births {a b c : Int32} (h : F_Md_births 70 a b c M1 = some r) : mKd M1 70 = 13 := by
  unfold F_Md_births at h; exact fI_kd h
theorem k70_endings {a b : Int32} (h : F_Md_endings 70 a b M1 = some r) : mKd M1 70 = 13 := by
  unfold F_Md_endings at h; exact cv_kd h
theorem k70_many {a b : Int32} (h : F_Md_many 70 a b M1 = some r) : mKd M1 70 = 13 := by
  unfold F_Md_many at h; exact cv_kd h
theorem k70_drawn {a b : Int32} (h : F_Md_drawn 70 a b M1 = some r) : mKd M1 70 = 13 := by
  unfold F_Md_drawn at h; exact cv_kd h
theorem k70_digest {a : Int32} (h : F_Md_digest 70 a M1 = some r) : mKd M1 70 = 13 := by
  unfold F_Md_digest at h; exact cv_kd h
theorem k70_inColumn {a b c : Int32} (h : F_Md_inColumn 70 a b c M1 = some r) : mKd M1 70 = 13 := by
  unfold F_Md_inColumn at h; exact cv_kd h
theorem k70_top {a b c : Int32} (h : F_Md_top 70 a b c M1 = some r) : mKd M1 70 = 13 := by
  unfold F_Md_top at h; exact cv_kd h
theorem k70_fullest {a b : Int32} (h : F_Md_fullest 70 a b M1 = some r) : mKd M1 70 = 13 := by
  unfold F_Md_fullest at h; exact cv_kd h
theorem k70_nearest {a b c d : Int32} (h : F_Md_nearest 70 a b c d M1 = some r) : mKd M1 70 = 13 := by
  unfold F_Md_nearest at h; exact cv_kd h
theorem k70_twos {a : Int32} (h : F_Md_twos 70 a M1 = some r) : mKd M1 70 = 13 := by
  unfold F_Md_twos at h; exact cv_kd h
theorem k70_firstIn {a b c : Int32} (h : F_Md_firstIn 70 a b c M1 = some r) : mKd M1 70 = 13 := by
  unfold F_Md_firstIn at h; exact cv_kd h
theorem k70_peak {a b c : Int32} (h : F_Md_peak 70 a b c M1 = some r) : mKd M1 70 = 13 := by
  unfold F_Md_peak at h; exact fI_kd h
theorem k70_line {a b : Int32} (h : F_Md_line 70 a b M1 = some r) : mKd M1 70 = 13 := by
  unfold F_Md_line at h; exact cv_kd h
theorem k70_box {a b : Int32} (h : F_Md_box 70 a b M1 = some r) : mKd M1 70 = 13 := by
  unfold F_Md_box at h; exact cv_kd h
theorem k70_middle {a b : Int32} (h : F_Md_middle 70 a b M1 = some r) : mKd M1 70 = 13 := by
  unfold F_Md_middle at h; exact cv_kd h
theorem k70_picture {a : Int32} (h : F_Md_picture 70 a M1 = some r) : mKd M1 70 = 13 := by
  unfold F_Md_picture at h; exact cv_kd h
theorem k70_octet {a : Int32} (h : F_Md_octet 70 a M1 = some r) : mKd M1 70 = 13 := by
  unfold F_Md_octet at h; exact fI_kd h
theorem k70_cellsOf {a : Int32} (h : F_Md_cellsOf 70 a M1 = some r) : mKd M1 70 = 13 := by
  unfold F_Md_cellsOf at h; exact cv_kd h
theorem k70_meets {a b : Int32} (h : F_Md_meets 70 a b M1 = some r) : mKd M1 70 = 13 := by
  unfold F_Md_meets at h; exact cv_kd h
theorem k70_bornAs {a b : Int32} (h : F_Md_bornAs 70 a b M1 = some r) : mKd M1 70 = 13 := by
  unfold F_Md_bornAs at h; exact fI_kd h
theorem k70_latest {a b : Int32} (h : F_Md_latest 70 a b M1 = some r) : mKd M1 70 = 13 := by
  unfold F_Md_latest at h; exact fI_kd h
theorem k70_layer {a b : Int32} (h : F_Md_layer 70 a b M1 = some r) : mKd M1 70 = 13 := by
  unfold F_Md_layer at h; exact cv_kd h
theorem k70_both {a b : Int32} (h : F_Md_both 70 a b M1 = some r) : mKd M1 70 = 13 := by
  unfold F_Md_both at h; exact cv_kd h
theorem k70_within {a b c d e : Int32} (h : F_Md_within 70 a b c d e M1 = some r) : mKd M1 70 = 13 := by
  unfold F_Md_within at h; exact cv_kd h
theorem k70_ofAge {a b c : Int32} (h : F_Md_ofAge 70 a b c M1 = some r) : mKd M1 70 = 13 := by
  unfold F_Md_ofAge at h; exact cv_kd h
theorem k70_kin {a b : Int32} (h : F_Md_kin 70 a b M1 = some r) : mKd M1 70 = 13 := by
  unfold F_Md_kin at h; exact cv_kd h
theorem k70_reach {a b c : Int32} (h : F_Md_reach 70 a b c M1 = some r) : mKd M1 70 = 13 := by
  unfold F_Md_reach at h; exact cv_kd h
theorem k70_over {a : Int32} (h : F_Md_over 70 a M1 = some r) : mKd M1 70 = 13 := by
  unfold F_Md_over at h; exact cv_kd h
theorem k70_flux {a b c d : Int32} (h : F_Md_flux 70 a b c d M1 = some r) : mKd M1 70 = 13 := by
  unfold F_Md_flux at h; exact fI_kd h
theorem k70_s52 {a b c d e : Int32} (h : F_Md_sets_L52 70 a b c d e M1 = some r) : mKd M1 70 = 13 := by
  unfold F_Md_sets_L52 at h; exact fI_kd h
theorem k70_s24 {a b c d : Int32} (h : F_Md_sets_L24 70 a b c d M1 = some r) : mKd M1 70 = 13 := by
  unfold F_Md_sets_L24 F_Md_sets_L45 at h
  split at h
  · exact k70_s52 h
  · split at h
    · exact k70_s52 h
    · split at h
      · exact k70_s52 h
      · exact k70_s52 h
theorem k70_sets {a b c : Int32} (h : F_Md_sets 70 a b c M1 = some r) : mKd M1 70 = 13 := by
  unfold F_Md_sets F_Md_sets_L9 at h
  split at h
  · exact k70_s24 h
  · split at h
    · exact k70_s24 h
    · split at h
      · exact k70_s24 h
      · exact k70_s24 h
theorem k70_undo (h : F_Md_undo 70 M1 = some r) : mKd M1 70 = 13 := by
  unfold F_Md_undo at h; exact fI_kd h
theorem k70_tell {a : Int32} (h : F_Md_tell 70 a M1 = some r) : mKd M1 70 = 13 := by
  unfold F_Md_tell at h; exact cv_kd h
theorem k70_colours {a b : Int32} (h : F_Md_colours 70 a b M1 = some r) : mKd M1 70 = 13 := by
  unfold F_Md_colours at h; exact cv_kd h
theorem k70_columns {a : Int32} (h : F_Md_columns 70 a M1 = some r) : mKd M1 70 = 13 := by
  unfold F_Md_columns at h; exact cv_kd h
theorem k70_below {a b c d : Int32} (h : F_Md_below 70 a b c d M1 = some r) : mKd M1 70 = 13 := by
  unfold F_Md_below at h; exact cv_kd h
theorem k70_next {a b : Int32} (h : F_Md_next 70 a b M1 = some r) : mKd M1 70 = 13 := by
  unfold F_Md_next at h; exact fI_kd h
theorem k70_lull {a b c d : Int32} (h : F_Md_lull 70 a b c d M1 = some r) : mKd M1 70 = 13 := by
  unfold F_Md_lull at h; exact fI_kd h
theorem k70_twins {a : Int32} (h : F_Md_twins 70 a M1 = some r) : mKd M1 70 = 13 := by
  unfold F_Md_twins at h; exact cv_kd h
theorem law_L18 {L : Nat} {xs : Nat → Int32} (hL : L ≤ 100000) : ∀ (q f i : Nat) (M : am_M), Inv M → L ≤ i + q → q < f → i ≤ 200000 → ∃ M2, F_law_L18 L xs f 0 70 (iz (i : Int)) M = some (some (.int 1), M2) ∧ Inv M2
  | q, 0, i, M, hI, h1, h2, h3 => by omega
  | q, f + 1, i, M, hI, h1, h2, h3 => by
    have hS := hI.1
    rw [F_law_L18, iz_ofNat, show iz (L : Int) - 6 = iz ((L : Int) - 6) from iz_sub _ 6, ifL (by omega) (by omega) (by omega) (by omega)]
    by_cases g : (L : Int) - 6 < (i : Int)
    · rw [if_pos g]; exact ⟨M, rfl, hI⟩
    rw [if_neg g]
    have s0 : ∀ F : Int32 → am_R, scI L xs (iz (i : Int)) F = F (xs i) := fun F => scI_at (by omega) hL
    have s1 : ∀ F : Int32 → am_R, scI L xs (iz (i : Int) + 1) F = F (xs (i + 1)) := fun F => by rw [show iz (i : Int) + 1 = iz ((i + 1 : Nat) : Int) from iz_add _ 1]; exact scI_at (by omega) hL
    have s2 : ∀ F : Int32 → am_R, scI L xs (iz (i : Int) + 2) F = F (xs (i + 2)) := fun F => by rw [show iz (i : Int) + 2 = iz ((i + 2 : Nat) : Int) from iz_add _ 2]; exact scI_at (by omega) hL
    have s3 : ∀ F : Int32 → am_R, scI L xs (iz (i : Int) + 3) F = F (xs (i + 3)) := fun F => by rw [show iz (i : Int) + 3 = iz ((i + 3 : Nat) : Int) from iz_add _ 3]; exact scI_at (by omega) hL
    have s4 : ∀ F : Int32 → am_R, scI L xs (iz (i : Int) + 4) F = F (xs (i + 4)) := fun F => by rw [show iz (i : Int) + 4 = iz ((i + 4 : Nat) : Int) from iz_add _ 4]; exact scI_at (by omega) hL
    have s5 : ∀ F : Int32 → am_R, scI L xs (iz (i : Int) + 5) F = F (xs (i + 5)) := fun F => by rw [show iz (i : Int) + 5 = iz ((i + 5 : Nat) : Int) from iz_add _ 5]; exact scI_at (by omega) hL
    have ih : ∀ X, Inv X → ∃ M2, F_law_L18 L xs f 0 70 (iz (i : Int) + 6) X = some (some (.int 1), M2) ∧ Inv M2 := fun X hX => by
      match q with
      | 0 => omega
      | q + 1 =>
        rw [show iz (i : Int) + 6 = iz ((i + 6 : Nat) : Int) from iz_add _ 6]
        exact law_L18 hL q f (i + 6) X hX (by omega) (by omega) (by omega)
    rw [s0]
    generalize xs i &&& 63 = y
    generalize F_law_L18 L xs f = K at ih ⊢
    by_cases y0 : y = 0
    · obtain ⟨v, M1, M2, e1, e2, h2⟩ := ap_feed hI (xs (i + 1)) (xs (i + 2)) (xs (i + 3)) (xs (i + 4)) (xs (i + 5))
      rw [if_pos y0, s1, s2, s3, s4, s5, cv_eq (kd_0 hS), e1, bI_eq, s1, s2, s3, s4, s5, cv_eq (k70_feed e2), e2, bI_eq, if_pos rfl, nm_eq]
      exact ih M2 h2
    rw [if_neg y0]
    by_cases y1 : y = 1
    · obtain ⟨v, M1, M2, e1, e2, h2⟩ := ap_end hI (xs (i + 1))
      rw [if_pos y1, s1, cv_eq (kd_0 hS), e1, bI_eq, s1, cv_eq (k70_end e2), e2, bI_eq, if_pos rfl, nm_eq]
      exact ih M2 h2
    rw [if_neg y1]
    by_cases y2 : y = 2
    · obtain ⟨v, M1, M2, e1, e2, h2⟩ := ap_scene hI
      rw [if_pos y2, cv_eq (kd_0 hS), e1, bI_eq, cv_eq (k70_scene e2), e2, bI_eq, if_pos rfl, nm_eq]
      exact ih M2 h2
    rw [if_neg y2]
    by_cases y3 : y = 3
    · obtain ⟨v, M1, M2, e1, e2, h2⟩ := ap_fault hI (xs (i + 1))
      rw [if_pos y3, s1, cv_eq (kd_0 hS), e1, bI_eq, s1, cv_eq (k70_fault (kd_70 hS) e1 e2), e2, bI_eq, if_pos rfl, nm_eq]
      exact ih M2 h2
    rw [if_neg y3]
    by_cases y4 : y = 4
    · obtain ⟨v, M1, M2, e1, e2, h2⟩ := ap_count hI (xs (i + 1))
      rw [if_pos y4, s1, cv_eq (kd_0 hS), e1, bI_eq, s1, cv_eq (k70_count (kd_70 hS) e1 e2), e2, bI_eq, if_pos rfl, nm_eq]
      exact ih M2 h2
    rw [if_neg y4]
    by_cases y5 : y = 5
    · obtain ⟨v, M1, M2, e1, e2, h2⟩ := ap_kind hI (xs (i + 1)) (xs (i + 2))
      rw [if_pos y5, s1, s2, cv_eq (kd_0 hS), e1, bI_eq, s1, s2, cv_eq (k70_kind e2), e2, bI_eq, if_pos rfl, nm_eq]
      exact ih M2 h2
    rw [if_neg y5]
    by_cases y6 : y = 6
    · obtain ⟨v, M1, M2, e1, e2, h2⟩ := ap_source hI (xs (i + 1)) (xs (i + 2))
      rw [if_pos y6, s1, s2, cv_eq (kd_0 hS), e1, bI_eq, s1, s2, cv_eq (k70_source e2), e2, bI_eq, if_pos rfl, nm_eq]
      exact ih M2 h2
    rw [if_neg y6]
    by_cases y7 : y = 7
    · obtain ⟨v, M1, M2, e1, e2, h2⟩ := ap_seed hI (xs (i + 1))
      rw [if_pos y7, s1, cv_eq (kd_0 hS), e1, bI_eq, s1, cv_eq (k70_seed e2), e2, bI_eq, if_pos rfl, nm_eq]
      exact ih M2 h2
    rw [if_neg y7]
    by_cases y8 : y = 8
    · obtain ⟨v, M1, M2, e1, e2, h2⟩ := ap_mixed hI (xs (i + 1)) (xs (i + 2))
      rw [if_pos y8, s1, s2, cv_eq (kd_0 hS), e1, bL_eq, s1, s2, cv_eq (k70_mixed e2), e2, bL_eq, if_pos (lgc v), nm_eq]
      exact ih M2 h2
    rw [if_neg y8]
    by_cases y9 : y = 9
    · obtain ⟨v, M1, M2, e1, e2, h2⟩ := ap_is hI (xs (i + 1))
      rw [if_pos y9, s1, cv_eq (kd_0 hS), e1, bI_eq, s1, cv_eq (k70_is e2), e2, bI_eq, if_pos rfl, nm_eq]
      exact ih M2 h2
    rw [if_neg y9]
    by_cases y10 : y = 10
    · obtain ⟨v, M1, M2, e1, e2, h2⟩ := ap_child hI (xs (i + 1)) (xs (i + 2))
      rw [if_pos y10, s1, s2, cv_eq (kd_0 hS), e1, bI_eq, s1, s2, cv_eq (k70_child e2), e2, bI_eq, if_pos rfl, nm_eq]
      exact ih M2 h2
    rw [if_neg y10]
    by_cases y11 : y = 11
    · obtain ⟨v, M1, M2, e1, e2, h2⟩ := ap_parent hI (xs (i + 1))
      rw [if_pos y11, s1, cv_eq (kd_0 hS), e1, bI_eq, s1, cv_eq (k70_parent e2), e2, bI_eq, if_pos rfl, nm_eq]
      exact ih M2 h2
    rw [if_neg y11]
    by_cases y12 : y = 12
    · obtain ⟨v, M1, M2, e1, e2, h2⟩ := ap_spark hI (xs (i + 1)) (xs (i + 2))
      rw [if_pos y12, s1, s2, cv_eq (kd_0 hS), e1, bI_eq, s1, s2, cv_eq (k70_spark e2), e2, bI_eq, if_pos rfl, nm_eq]
      exact ih M2 h2
    rw [if_neg y12]
    by_cases y13 : y = 13
    · obtain ⟨v, M1, M2, e1, e2, h2⟩ := ap_place hI (xs (i + 1)) (xs (i + 2)) (xs (i + 3))
      rw [if_pos y13, s1, s2, s3, cv_eq (kd_0 hS), e1, bI_eq, s1, s2, s3, cv_eq (k70_place e2), e2, bI_eq, if_pos rfl, nm_eq]
      exact ih M2 h2
    rw [if_neg y13]
    by_cases y14 : y = 14
    · obtain ⟨v, M1, M2, e1, e2, h2⟩ := ap_size hI (xs (i + 1)) (xs (i + 2))
      rw [if_pos y14, s1, s2, cv_eq (kd_0 hS), e1, bI_eq, s1, s2, cv_eq (k70_size e2), e2, bI_eq, if_pos rfl, nm_eq]
      exact ih M2 h2
    rw [if_neg y14]
    by_cases y15 : y = 15
    · obtain ⟨v, M1, M2, e1, e2, h2⟩ := ap_edges hI (xs (i + 1))
      rw [if_pos y15, s1, cv_eq (kd_0 hS), e1, bI_eq, s1, cv_eq (k70_edges e2), e2, bI_eq, if_pos rfl, nm_eq]
      exact ih M2 h2
    rw [if_neg y15]
    by_cases y16 : y = 16
    · obtain ⟨v, M1, M2, e1, e2, h2⟩ := ap_births hI (xs (i + 1)) (xs (i + 2)) (xs (i + 3))
      rw [if_pos y16, s1, s2, s3, cv_eq (kd_0 hS), e1, bI_eq, s1, s2, s3, cv_eq (k70_births e2), e2, bI_eq, if_pos rfl, nm_eq]
      exact ih M2 h2
    rw [if_neg y16]
    by_cases y17 : y = 17
    · obtain ⟨v, M1, M2, e1, e2, h2⟩ := ap_endings hI (xs (i + 1)) (xs (i + 2))
      rw [if_pos y17, s1, s2, cv_eq (kd_0 hS), e1, bI_eq, s1, s2, cv_eq (k70_endings e2), e2, bI_eq, if_pos rfl, nm_eq]
      exact ih M2 h2
    rw [if_neg y17]
    by_cases y18 : y = 18
    · obtain ⟨v, M1, M2, e1, e2, h2⟩ := ap_many hI (xs (i + 1)) (xs (i + 2))
      rw [if_pos y18, s1, s2, cv_eq (kd_0 hS), e1, bI_eq, s1, s2, cv_eq (k70_many e2), e2, bI_eq, if_pos rfl, nm_eq]
      exact ih M2 h2
    rw [if_neg y18]
    by_cases y19 : y = 19
    · obtain ⟨v, M1, M2, e1, e2, h2⟩ := ap_drawn hI (xs (i + 1)) (xs (i + 2))
      rw [if_pos y19, s1, s2, cv_eq (kd_0 hS), e1, bI_eq, s1, s2, cv_eq (k70_drawn e2), e2, bI_eq, if_pos rfl, nm_eq]
      exact ih M2 h2
    rw [if_neg y19]
    by_cases y20 : y = 20
    · obtain ⟨v, M1, M2, e1, e2, h2⟩ := ap_digest hI (xs (i + 1))
      rw [if_pos y20, s1, cv_eq (kd_0 hS), e1, bL_eq, s1, cv_eq (k70_digest e2), e2, bL_eq, if_pos (lgc v), nm_eq]
      exact ih M2 h2
    rw [if_neg y20]
    by_cases y21 : y = 21
    · obtain ⟨v, M1, M2, e1, e2, h2⟩ := ap_inColumn hI (xs (i + 1)) (xs (i + 2)) (xs (i + 3))
      rw [if_pos y21, s1, s2, s3, cv_eq (kd_0 hS), e1, bI_eq, s1, s2, s3, cv_eq (k70_inColumn e2), e2, bI_eq, if_pos rfl, nm_eq]
      exact ih M2 h2
    rw [if_neg y21]
    by_cases y22 : y = 22
    · obtain ⟨v, M1, M2, e1, e2, h2⟩ := ap_top hI (xs (i + 1)) (xs (i + 2)) (xs (i + 3))
      rw [if_pos y22, s1, s2, s3, cv_eq (kd_0 hS), e1, bI_eq, s1, s2, s3, cv_eq (k70_top e2), e2, bI_eq, if_pos rfl, nm_eq]
      exact ih M2 h2
    rw [if_neg y22]
    by_cases y23 : y = 23
    · obtain ⟨v, M1, M2, e1, e2, h2⟩ := ap_fullest hI (xs (i + 1)) (xs (i + 2))
      rw [if_pos y23, s1, s2, cv_eq (kd_0 hS), e1, bI_eq, s1, s2, cv_eq (k70_fullest e2), e2, bI_eq, if_pos rfl, nm_eq]
      exact ih M2 h2
    rw [if_neg y23]
    by_cases y24 : y = 24
    · obtain ⟨v, M1, M2, e1, e2, h2⟩ := ap_nearest hI (xs (i + 1)) (xs (i + 2)) (xs (i + 3)) (xs (i + 4))
      rw [if_pos y24, s1, s2, s3, s4, cv_eq (kd_0 hS), e1, bI_eq, s1, s2, s3, s4, cv_eq (k70_nearest e2), e2, bI_eq, if_pos rfl, nm_eq]
      exact ih M2 h2
    rw [if_neg y24]
    by_cases y25 : y = 25
    · obtain ⟨v, M1, M2, e1, e2, h2⟩ := ap_twos hI (xs (i + 1))
      rw [if_pos y25, s1, cv_eq (kd_0 hS), e1, bL_eq, s1, cv_eq (k70_twos e2), e2, bL_eq, if_pos (lgc v), nm_eq]
      exact ih M2 h2
    rw [if_neg y25]
    by_cases y26 : y = 26
    · obtain ⟨v, M1, M2, e1, e2, h2⟩ := ap_firstIn hI (xs (i + 1)) (xs (i + 2)) (xs (i + 3))
      rw [if_pos y26, s1, s2, s3, cv_eq (kd_0 hS), e1, bI_eq, s1, s2, s3, cv_eq (k70_firstIn e2), e2, bI_eq, if_pos rfl, nm_eq]
      exact ih M2 h2
    rw [if_neg y26]
    by_cases y27 : y = 27
    · obtain ⟨v, M1, M2, e1, e2, h2⟩ := ap_peak hI (xs (i + 1)) (xs (i + 2)) (xs (i + 3))
      rw [if_pos y27, s1, s2, s3, cv_eq (kd_0 hS), e1, bI_eq, s1, s2, s3, cv_eq (k70_peak e2), e2, bI_eq, if_pos rfl, nm_eq]
      exact ih M2 h2
    rw [if_neg y27]
    by_cases y28 : y = 28
    · obtain ⟨v, M1, M2, e1, e2, h2⟩ := ap_line hI (xs (i + 1)) (xs (i + 2))
      rw [if_pos y28, s1, s2, cv_eq (kd_0 hS), e1, bI_eq, s1, s2, cv_eq (k70_line e2), e2, bI_eq, if_pos rfl, nm_eq]
      exact ih M2 h2
    rw [if_neg y28]
    by_cases y29 : y = 29
    · obtain ⟨v, M1, M2, e1, e2, h2⟩ := ap_box hI (xs (i + 1)) (xs (i + 2))
      rw [if_pos y29, s1, s2, cv_eq (kd_0 hS), e1, bI_eq, s1, s2, cv_eq (k70_box e2), e2, bI_eq, if_pos rfl, nm_eq]
      exact ih M2 h2
    rw [if_neg y29]
    by_cases y30 : y = 30
    · obtain ⟨v, M1, M2, e1, e2, h2⟩ := ap_middle hI (xs (i + 1)) (xs (i + 2))
      rw [if_pos y30, s1, s2, cv_eq (kd_0 hS), e1, bI_eq, s1, s2, cv_eq (k70_middle e2), e2, bI_eq, if_pos rfl, nm_eq]
      exact ih M2 h2
    rw [if_neg y30]
    by_cases y31 : y = 31
    · obtain ⟨v, M1, M2, e1, e2, h2⟩ := ap_picture hI (xs (i + 1))
      rw [if_pos y31, s1, cv_eq (kd_0 hS), e1, bI_eq, s1, cv_eq (k70_picture e2), e2, bI_eq, if_pos rfl, nm_eq]
      exact ih M2 h2
    rw [if_neg y31]
    by_cases y32 : y = 32
    · obtain ⟨v, M1, M2, e1, e2, h2⟩ := ap_octet hI (xs (i + 1))
      rw [if_pos y32, s1, cv_eq (kd_0 hS), e1, bI_eq, s1, cv_eq (k70_octet e2), e2, bI_eq, if_pos rfl, nm_eq]
      exact ih M2 h2
    rw [if_neg y32]
    by_cases y33 : y = 33
    · obtain ⟨v, M1, M2, e1, e2, h2⟩ := ap_cellsOf hI (xs (i + 1))
      rw [if_pos y33, s1, cv_eq (kd_0 hS), e1, bI_eq, s1, cv_eq (k70_cellsOf e2), e2, bI_eq, if_pos rfl, nm_eq]
      exact ih M2 h2
    rw [if_neg y33]
    by_cases y34 : y = 34
    · obtain ⟨v, M1, M2, e1, e2, h2⟩ := ap_meets hI (xs (i + 1)) (xs (i + 2))
      rw [if_pos y34, s1, s2, cv_eq (kd_0 hS), e1, bI_eq, s1, s2, cv_eq (k70_meets e2), e2, bI_eq, if_pos rfl, nm_eq]
      exact ih M2 h2
    rw [if_neg y34]
    by_cases y35 : y = 35
    · obtain ⟨v, M1, M2, e1, e2, h2⟩ := ap_bornAs hI (xs (i + 1)) (xs (i + 2))
      rw [if_pos y35, s1, s2, cv_eq (kd_0 hS), e1, bI_eq, s1, s2, cv_eq (k70_bornAs e2), e2, bI_eq, if_pos rfl, nm_eq]
      exact ih M2 h2
    rw [if_neg y35]
    by_cases y36 : y = 36
    · obtain ⟨v, M1, M2, e1, e2, h2⟩ := ap_latest hI (xs (i + 1)) (xs (i + 2))
      rw [if_pos y36, s1, s2, cv_eq (kd_0 hS), e1, bI_eq, s1, s2, cv_eq (k70_latest e2), e2, bI_eq, if_pos rfl, nm_eq]
      exact ih M2 h2
    rw [if_neg y36]
    by_cases y37 : y = 37
    · obtain ⟨v, M1, M2, e1, e2, h2⟩ := ap_layer hI (xs (i + 1)) (xs (i + 2))
      rw [if_pos y37, s1, s2, cv_eq (kd_0 hS), e1, bI_eq, s1, s2, cv_eq (k70_layer e2), e2, bI_eq, if_pos rfl, nm_eq]
      exact ih M2 h2
    rw [if_neg y37]
    by_cases y38 : y = 38
    · obtain ⟨v, M1, M2, e1, e2, h2⟩ := ap_both hI (xs (i + 1)) (xs (i + 2))
      rw [if_pos y38, s1, s2, cv_eq (kd_0 hS), e1, bI_eq, s1, s2, cv_eq (k70_both e2), e2, bI_eq, if_pos rfl, nm_eq]
      exact ih M2 h2
    rw [if_neg y38]
    by_cases y39 : y = 39
    · obtain ⟨v, M1, M2, e1, e2, h2⟩ := ap_within hI (xs (i + 1)) (xs (i + 2)) (xs (i + 3)) (xs (i + 4)) (xs (i + 5))
      rw [if_pos y39, s1, s2, s3, s4, s5, cv_eq (kd_0 hS), e1, bI_eq, s1, s2, s3, s4, s5, cv_eq (k70_within e2), e2, bI_eq, if_pos rfl, nm_eq]
      exact ih M2 h2
    rw [if_neg y39]
    by_cases y40 : y = 40
    · obtain ⟨v, M1, M2, e1, e2, h2⟩ := ap_ofAge hI (xs (i + 1)) (xs (i + 2)) (xs (i + 3))
      rw [if_pos y40, s1, s2, s3, cv_eq (kd_0 hS), e1, bI_eq, s1, s2, s3, cv_eq (k70_ofAge e2), e2, bI_eq, if_pos rfl, nm_eq]
      exact ih M2 h2
    rw [if_neg y40]
    by_cases y41 : y = 41
    · obtain ⟨v, M1, M2, e1, e2, h2⟩ := ap_kin hI (xs (i + 1)) (xs (i + 2))
      rw [if_pos y41, s1, s2, cv_eq (kd_0 hS), e1, bI_eq, s1, s2, cv_eq (k70_kin e2), e2, bI_eq, if_pos rfl, nm_eq]
      exact ih M2 h2
    rw [if_neg y41]
    by_cases y42 : y = 42
    · obtain ⟨v, M1, M2, e1, e2, h2⟩ := ap_reach hI (xs (i + 1)) (xs (i + 2)) (xs (i + 3))
      rw [if_pos y42, s1, s2, s3, cv_eq (kd_0 hS), e1, bI_eq, s1, s2, s3, cv_eq (k70_reach e2), e2, bI_eq, if_pos rfl, nm_eq]
      exact ih M2 h2
    rw [if_neg y42]
    by_cases y43 : y = 43
    · obtain ⟨v, M1, M2, e1, e2, h2⟩ := ap_over hI (xs (i + 1))
      rw [if_pos y43, s1, cv_eq (kd_0 hS), e1, bI_eq, s1, cv_eq (k70_over e2), e2, bI_eq, if_pos rfl, nm_eq]
      exact ih M2 h2
    rw [if_neg y43]
    by_cases y44 : y = 44
    · obtain ⟨v, M1, M2, e1, e2, h2⟩ := ap_flux hI (xs (i + 1)) (xs (i + 2)) (xs (i + 3)) (xs (i + 4))
      rw [if_pos y44, s1, s2, s3, s4, cv_eq (kd_0 hS), e1, bI_eq, s1, s2, s3, s4, cv_eq (k70_flux e2), e2, bI_eq, if_pos rfl, nm_eq]
      exact ih M2 h2
    rw [if_neg y44]
    by_cases y45 : y = 45
    · obtain ⟨v, M1, M2, e1, e2, h2⟩ := ap_sets hI (xs (i + 1)) (xs (i + 2)) (xs (i + 3))
      rw [if_pos y45, s1, s2, s3, cv_eq (kd_0 hS), e1, bI_eq, s1, s2, s3, cv_eq (k70_sets e2), e2, bI_eq, if_pos rfl, nm_eq]
      exact ih M2 h2
    rw [if_neg y45]
    by_cases y46 : y = 46
    · obtain ⟨v, M1, M2, e1, e2, h2⟩ := ap_undo hI
      rw [if_pos y46, cv_eq (kd_0 hS), e1, bI_eq, cv_eq (k70_undo e2), e2, bI_eq, if_pos rfl, nm_eq]
      exact ih M2 h2
    rw [if_neg y46]
    by_cases y47 : y = 47
    · obtain ⟨v, M1, M2, e1, e2, h2⟩ := ap_tell hI (xs (i + 1))
      rw [if_pos y47, s1, cv_eq (kd_0 hS), e1, bI_eq, s1, cv_eq (k70_tell e2), e2, bI_eq, if_pos rfl, nm_eq]
      exact ih M2 h2
    rw [if_neg y47]
    by_cases y48 : y = 48
    · obtain ⟨v, M1, M2, e1, e2, h2⟩ := ap_colours hI (xs (i + 1)) (xs (i + 2))
      rw [if_pos y48, s1, s2, cv_eq (kd_0 hS), e1, bI_eq, s1, s2, cv_eq (k70_colours e2), e2, bI_eq, if_pos rfl, nm_eq]
      exact ih M2 h2
    rw [if_neg y48]
    by_cases y49 : y = 49
    · obtain ⟨v, M1, M2, e1, e2, h2⟩ := ap_columns hI (xs (i + 1))
      rw [if_pos y49, s1, cv_eq (kd_0 hS), e1, bI_eq, s1, cv_eq (k70_columns e2), e2, bI_eq, if_pos rfl, nm_eq]
      exact ih M2 h2
    rw [if_neg y49]
    by_cases y50 : y = 50
    · obtain ⟨v, M1, M2, e1, e2, h2⟩ := ap_below hI (xs (i + 1)) (xs (i + 2)) (xs (i + 3)) (xs (i + 4))
      rw [if_pos y50, s1, s2, s3, s4, cv_eq (kd_0 hS), e1, bI_eq, s1, s2, s3, s4, cv_eq (k70_below e2), e2, bI_eq, if_pos rfl, nm_eq]
      exact ih M2 h2
    rw [if_neg y50]
    by_cases y51 : y = 51
    · obtain ⟨v, M1, M2, e1, e2, h2⟩ := ap_next hI (xs (i + 1)) (xs (i + 2))
      rw [if_pos y51, s1, s2, cv_eq (kd_0 hS), e1, bI_eq, s1, s2, cv_eq (k70_next e2), e2, bI_eq, if_pos rfl, nm_eq]
      exact ih M2 h2
    rw [if_neg y51]
    by_cases y52 : y = 52
    · obtain ⟨v, M1, M2, e1, e2, h2⟩ := ap_lull hI (xs (i + 1)) (xs (i + 2)) (xs (i + 3)) (xs (i + 4))
      rw [if_pos y52, s1, s2, s3, s4, cv_eq (kd_0 hS), e1, bI_eq, s1, s2, s3, s4, cv_eq (k70_lull e2), e2, bI_eq, if_pos rfl, nm_eq]
      exact ih M2 h2
    rw [if_neg y52]
    by_cases y53 : y = 53
    · obtain ⟨v, M1, M2, e1, e2, h2⟩ := ap_twins hI (xs (i + 1))
      rw [if_pos y53, s1, cv_eq (kd_0 hS), e1, bI_eq, s1, cv_eq (k70_twins e2), e2, bI_eq, if_pos rfl, nm_eq]
      exact ih M2 h2
    rw [if_neg y53]
    rw [nm_eq]
    exact ih M hI
theorem law_true {L : Nat} (hL : L ≤ 100000) (xs : Nat → Int32) : ∃ M2, F_law L xs am_0 = some (some (.int 1), M2) ∧ mNx M2 ≤ 600000 ∧ mUs M2 ≤ 7302250 := by
  have fg := fu_ge
  obtain ⟨M2, e, hI⟩ := law_L18 (xs := xs) hL L fu 0 mC2 mC2_inv (by omega) (by omega) (by omega)
  obtain ⟨b, cap, -, -, -, ⟨h4, -⟩, -, h6, h7⟩ := hI.2.1
  exact ⟨M2, by rw [law_init]; exact e, by omega, by omega⟩
end Law
