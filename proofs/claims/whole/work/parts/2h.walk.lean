/-! ===== the walks, row by row (printed by wip/whole/emit.py) ===== -/
set_option maxRecDepth 20000 in
set_option maxHeartbeats 2000000 in
theorem ct_Md_count {G : am_G} {l : Launch} (a0 : Nat) (p1 : Int32) (M : am_M) : Ct G l y_Md_count X_Md_count [.ref a0, .int p1] M (F_Md_count a0 p1 M) := by
  refine Ct.of (by decide +kernel) rfl rfl (Nat.le_of_ble_eq_true rfl) ?_
  unfold F_Md_count
  show Rf G l X_Md_count 0 [.ref a0, .int p1] [] M _
  refine r_iload_n (dt_Md_count.at 0 rfl) rfl ?_
  refine Rf.ite (fun h0 => ?_) (fun h0 => ?_)
  · refine r_tsIn (tgt := 48) (dt_Md_count.at 1 rfl) (by rw [h0]; decide) (by rw [h0]; decide) (by rw [h0]; rfl) (by decide) ?_
    refine r_aload_n (dt_Md_count.at 2 rfl) rfl ?_
    refine r_fI (dt_Md_count.at 3 rfl) fl_Md_219 rfl (fun x1 => ?_)
    refine r_if_eq (tgt := 64) (dt_Md_count.at 4 rfl) (by decide) ?_ ?_
    · refine r_iconst (dt_Md_count.at 10 rfl) 0 (by decide) ?_
      exact r_iret (dt_Md_count.at 11 rfl) rfl
    · refine r_aload_n (dt_Md_count.at 5 rfl) rfl ?_
      refine r_fR (dt_Md_count.at 6 rfl) fl_Md_7 rfl (fun b2 => ?_)
      refine r_iload_n (dt_Md_count.at 7 rfl) rfl ?_
      refine r_aI (dt_Md_count.at 8 rfl) (fun x3 => ?_)
      refine r_goto (tgt := 65) (dt_Md_count.at 9 rfl) (by decide) ?_
      exact r_iret (dt_Md_count.at 11 rfl) rfl
  refine Rf.ite (fun h1 => ?_) (fun h1 => ?_)
  · refine r_tsIn (tgt := 48) (dt_Md_count.at 1 rfl) (by rw [h1]; decide) (by rw [h1]; decide) (by rw [h1]; rfl) (by decide) ?_
    refine r_aload_n (dt_Md_count.at 2 rfl) rfl ?_
    refine r_fI (dt_Md_count.at 3 rfl) fl_Md_219 rfl (fun x4 => ?_)
    refine r_if_eq (tgt := 64) (dt_Md_count.at 4 rfl) (by decide) ?_ ?_
    · refine r_iconst (dt_Md_count.at 10 rfl) 0 (by decide) ?_
      exact r_iret (dt_Md_count.at 11 rfl) rfl
    · refine r_aload_n (dt_Md_count.at 5 rfl) rfl ?_
      refine r_fR (dt_Md_count.at 6 rfl) fl_Md_7 rfl (fun b5 => ?_)
      refine r_iload_n (dt_Md_count.at 7 rfl) rfl ?_
      refine r_aI (dt_Md_count.at 8 rfl) (fun x6 => ?_)
      refine r_goto (tgt := 65) (dt_Md_count.at 9 rfl) (by decide) ?_
      exact r_iret (dt_Md_count.at 11 rfl) rfl
  refine Rf.ite (fun h2 => ?_) (fun h2 => ?_)
  · refine r_tsIn (tgt := 48) (dt_Md_count.at 1 rfl) (by rw [h2]; decide) (by rw [h2]; decide) (by rw [h2]; rfl) (by decide) ?_
    refine r_aload_n (dt_Md_count.at 2 rfl) rfl ?_
    refine r_fI (dt_Md_count.at 3 rfl) fl_Md_219 rfl (fun x7 => ?_)
    refine r_if_eq (tgt := 64) (dt_Md_count.at 4 rfl) (by decide) ?_ ?_
    · refine r_iconst (dt_Md_count.at 10 rfl) 0 (by decide) ?_
      exact r_iret (dt_Md_count.at 11 rfl) rfl
    · refine r_aload_n (dt_Md_count.at 5 rfl) rfl ?_
      refine r_fR (dt_Md_count.at 6 rfl) fl_Md_7 rfl (fun b8 => ?_)
      refine r_iload_n (dt_Md_count.at 7 rfl) rfl ?_
      refine r_aI (dt_Md_count.at 8 rfl) (fun x9 => ?_)
      refine r_goto (tgt := 65) (dt_Md_count.at 9 rfl) (by decide) ?_
      exact r_iret (dt_Md_count.at 11 rfl) rfl
  refine Rf.ite (fun h3 => ?_) (fun h3 => ?_)
  · refine r_tsIn (tgt := 66) (dt_Md_count.at 1 rfl) (by rw [h3]; decide) (by rw [h3]; decide) (by rw [h3]; rfl) (by decide) ?_
    refine r_aload_n (dt_Md_count.at 12 rfl) rfl ?_
    refine r_fI (dt_Md_count.at 13 rfl) fl_Md_224 rfl (fun x10 => ?_)
    exact r_iret (dt_Md_count.at 14 rfl) rfl
  refine Rf.ite (fun h4 => ?_) (fun h4 => ?_)
  · refine r_tsIn (tgt := 71) (dt_Md_count.at 1 rfl) (by rw [h4]; decide) (by rw [h4]; decide) (by rw [h4]; rfl) (by decide) ?_
    refine r_aload_n (dt_Md_count.at 15 rfl) rfl ?_
    refine r_fI (dt_Md_count.at 16 rfl) fl_Md_227 rfl (fun x11 => ?_)
    exact r_iret (dt_Md_count.at 17 rfl) rfl
  refine Rf.ite (fun h5 => ?_) (fun h5 => ?_)
  · refine r_tsIn (tgt := 76) (dt_Md_count.at 1 rfl) (by rw [h5]; decide) (by rw [h5]; decide) (by rw [h5]; rfl) (by decide) ?_
    refine r_aload_n (dt_Md_count.at 18 rfl) rfl ?_
    refine r_fI (dt_Md_count.at 19 rfl) fl_Md_222 rfl (fun x12 => ?_)
    exact r_iret (dt_Md_count.at 20 rfl) rfl
  refine Rf.ite (fun h6 => ?_) (fun h6 => ?_)
  · refine r_tsIn (tgt := 81) (dt_Md_count.at 1 rfl) (by rw [h6]; decide) (by rw [h6]; decide) (by rw [h6]; rfl) (by decide) ?_
    refine r_aload_n (dt_Md_count.at 21 rfl) rfl ?_
    refine r_fI (dt_Md_count.at 22 rfl) fl_Md_74 rfl (fun x13 => ?_)
    exact r_iret (dt_Md_count.at 23 rfl) rfl
  refine Rf.ite (fun h7 => ?_) (fun h7 => ?_)
  · refine r_tsIn (tgt := 86) (dt_Md_count.at 1 rfl) (by rw [h7]; decide) (by rw [h7]; decide) (by rw [h7]; rfl) (by decide) ?_
    refine r_aload_n (dt_Md_count.at 24 rfl) rfl ?_
    refine r_fI (dt_Md_count.at 25 rfl) fl_Md_233 rfl (fun x14 => ?_)
    exact r_iret (dt_Md_count.at 26 rfl) rfl
  refine r_tsOut (tgt := 91) (dt_Md_count.at 1 rfl) (by have g0 := swn (k := 0) (v := 0) (by decide) h0; have g1 := swn (k := 1) (v := 1) (by decide) h1; have g2 := swn (k := 2) (v := 2) (by decide) h2; have g3 := swn (k := 3) (v := 3) (by decide) h3; have g4 := swn (k := 4) (v := 4) (by decide) h4; have g5 := swn (k := 5) (v := 5) (by decide) h5; have g6 := swn (k := 6) (v := 6) (by decide) h6; have g7 := swn (k := 7) (v := 7) (by decide) h7; omega) (by decide) ?_
  refine r_iconst (dt_Md_count.at 27 rfl) (-1) (by decide) ?_
  exact r_iret (dt_Md_count.at 28 rfl) rfl
set_option maxRecDepth 20000 in
set_option maxHeartbeats 2000000 in
theorem ct_Md_kind {G : am_G} {l : Launch} (a0 : Nat) (p1 : Int32) (p2 : Int32) (M : am_M) : Ct G l y_Md_kind X_Md_kind [.ref a0, .int p1, .int p2] M (F_Md_kind a0 p1 p2 M) := by
  refine Ct.of (by decide +kernel) rfl rfl (Nat.le_of_ble_eq_true rfl) ?_
  unfold F_Md_kind
  show Rf G l X_Md_kind 0 [.ref a0, .int p1, .int p2] [] M _
  refine r_iload_n (dt_Md_kind.at 0 rfl) rfl ?_
  refine r_i2l (dt_Md_kind.at 1 rfl) ?_
  refine r_lconst (dt_Md_kind.at 2 rfl) 0 (by decide) ?_
  refine r_aload_n (dt_Md_kind.at 3 rfl) rfl ?_
  refine r_fI (dt_Md_kind.at 4 rfl) fl_Md_224 rfl (fun x1 => ?_)
  refine r_iconst (dt_Md_kind.at 5 rfl) 1 (by decide) ?_
  refine r_isub (dt_Md_kind.at 6 rfl) ?_
  refine r_i2l (dt_Md_kind.at 7 rfl) ?_
  refine r_csI (rest := []) (ct_Md_in (p1.toInt64) 0 ((x1 - 1).toInt64) _) (dt_Md_kind.at 8 rfl) mb_Md_in wd_1289 wd_1290 (by decide) rfl rfl (Nat.le_of_ble_eq_true rfl) (fun r3 M2 => ?_)
  refine r_if_eq (tgt := 42) (dt_Md_kind.at 9 rfl) (by decide) ?_ ?_
  · refine r_bipush (dt_Md_kind.at 25 rfl) (-99) (by decide) ?_
    exact r_iret (dt_Md_kind.at 26 rfl) rfl
  · refine r_iload_n (dt_Md_kind.at 10 rfl) rfl ?_
    refine r_i2l (dt_Md_kind.at 11 rfl) ?_
    refine r_lconst (dt_Md_kind.at 12 rfl) 0 (by decide) ?_
    refine r_ldc2 (dt_Md_kind.at 13 rfl) 7 wd_1389 ?_
    refine r_csI (rest := []) (ct_Md_in (p2.toInt64) 0 7 _) (dt_Md_kind.at 14 rfl) mb_Md_in wd_1289 wd_1290 (by decide) rfl rfl (Nat.le_of_ble_eq_true rfl) (fun r5 M4 => ?_)
    refine r_if_eq (tgt := 42) (dt_Md_kind.at 15 rfl) (by decide) ?_ ?_
    · refine r_bipush (dt_Md_kind.at 25 rfl) (-99) (by decide) ?_
      exact r_iret (dt_Md_kind.at 26 rfl) rfl
    · refine r_aload_n (dt_Md_kind.at 16 rfl) rfl ?_
      refine r_fR (dt_Md_kind.at 17 rfl) fl_Md_13 rfl (fun b6 => ?_)
      refine r_bipush (dt_Md_kind.at 18 rfl) 8 (by decide) ?_
      refine r_iload_n (dt_Md_kind.at 19 rfl) rfl ?_
      refine r_imul (dt_Md_kind.at 20 rfl) ?_
      refine r_iload_n (dt_Md_kind.at 21 rfl) rfl ?_
      refine r_iadd (dt_Md_kind.at 22 rfl) ?_
      refine r_aI (dt_Md_kind.at 23 rfl) (fun x7 => ?_)
      refine r_goto (tgt := 44) (dt_Md_kind.at 24 rfl) (by decide) ?_
      exact r_iret (dt_Md_kind.at 26 rfl) rfl
set_option maxRecDepth 20000 in
set_option maxHeartbeats 2000000 in
theorem ct_Md_ofSource {G : am_G} {l : Launch} (a0 : Nat) (p1 : Int32) (p2 : Int32) (M : am_M) : Ct G l y_Md_ofSource X_Md_ofSource [.ref a0, .int p1, .int p2] M (F_Md_ofSource a0 p1 p2 M) := by
  refine Ct.of (by decide +kernel) rfl rfl (Nat.le_of_ble_eq_true rfl) ?_
  unfold F_Md_ofSource
  show Rf G l X_Md_ofSource 0 [.ref a0, .int p1, .int p2] [] M _
  refine r_aload_n (dt_Md_ofSource.at 0 rfl) rfl ?_
  refine r_fR (dt_Md_ofSource.at 1 rfl) fl_Md_16 rfl (fun b1 => ?_)
  refine r_bipush (dt_Md_ofSource.at 2 rfl) 9 (by decide) ?_
  refine r_iload_n (dt_Md_ofSource.at 3 rfl) rfl ?_
  refine r_imul (dt_Md_ofSource.at 4 rfl) ?_
  refine r_iload_n (dt_Md_ofSource.at 5 rfl) rfl ?_
  refine r_iadd (dt_Md_ofSource.at 6 rfl) ?_
  refine r_aI (dt_Md_ofSource.at 7 rfl) (fun x2 => ?_)
  exact r_iret (dt_Md_ofSource.at 8 rfl) rfl
set_option maxRecDepth 20000 in
set_option maxHeartbeats 2000000 in
theorem ct_Md_groups {G : am_G} {l : Launch} (a0 : Nat) (p1 : Int32) (M : am_M) : Ct G l y_Md_groups X_Md_groups [.ref a0, .int p1] M (F_Md_groups a0 p1 M) := by
  refine Ct.of (by decide +kernel) rfl rfl (Nat.le_of_ble_eq_true rfl) ?_
  unfold F_Md_groups
  show Rf G l X_Md_groups 0 [.ref a0, .int p1, .retAddr 0] [] M _
  refine r_aload_n (dt_Md_groups.at 0 rfl) rfl ?_
  refine r_iload_n (dt_Md_groups.at 1 rfl) rfl ?_
  refine r_bipush (dt_Md_groups.at 2 rfl) 7 (by decide) ?_
  refine r_cvI (c := 9) (rest := []) (ct_Md_ofSource a0 p1 7 _) (dt_Md_groups.at 3 rfl) mb_Md_ofSource wd_1403 wd_1405 wp_53 rfl (by decide) rfl rfl (Nat.le_of_ble_eq_true rfl) (fun r2 M1 => ?_)
  refine r_aload_n (dt_Md_groups.at 4 rfl) rfl ?_
  refine r_iload_n (dt_Md_groups.at 5 rfl) rfl ?_
  refine r_iconst (dt_Md_groups.at 6 rfl) 4 (by decide) ?_
  refine r_cvI (c := 9) (rest := [.int r2]) (ct_Md_ofSource a0 p1 4 _) (dt_Md_groups.at 7 rfl) mb_Md_ofSource wd_1403 wd_1405 wp_53 rfl (by decide) rfl rfl (Nat.le_of_ble_eq_true rfl) (fun r4 M3 => ?_)
  refine r_isub (dt_Md_groups.at 8 rfl) ?_
  refine r_nmi (fun x5 => ?_)
  refine r_istore_n (ls' := [.ref a0, .int p1, .int x5]) (dt_Md_groups.at 9 rfl) (by decide) rfl ?_
  refine r_iload_n (dt_Md_groups.at 10 rfl) rfl ?_
  refine r_if_ge (tgt := 23) (dt_Md_groups.at 11 rfl) (by decide) ?_ ?_
  · refine r_iload_n (dt_Md_groups.at 14 rfl) rfl ?_
    refine r_aload_n (dt_Md_groups.at 15 rfl) rfl ?_
    refine r_iload_n (dt_Md_groups.at 16 rfl) rfl ?_
    refine r_iconst (dt_Md_groups.at 17 rfl) 5 (by decide) ?_
    refine r_cvI (c := 9) (rest := [.int x5]) (ct_Md_ofSource a0 p1 5 _) (dt_Md_groups.at 18 rfl) mb_Md_ofSource wd_1403 wd_1405 wp_53 rfl (by decide) rfl rfl (Nat.le_of_ble_eq_true rfl) (fun r7 M6 => ?_)
    refine r_idiv (dt_Md_groups.at 19 rfl) ?_
    refine r_iconst (dt_Md_groups.at 20 rfl) 1 (by decide) ?_
    refine r_iadd (dt_Md_groups.at 21 rfl) ?_
    exact r_iret (dt_Md_groups.at 22 rfl) rfl
  · refine r_iconst (dt_Md_groups.at 12 rfl) 0 (by decide) ?_
    refine r_goto (tgt := 33) (dt_Md_groups.at 13 rfl) (by decide) ?_
    exact r_iret (dt_Md_groups.at 22 rfl) rfl
set_option maxRecDepth 20000 in
set_option maxHeartbeats 2000000 in
theorem ct_Md_roots {G : am_G} {l : Launch} (a0 : Nat) (p1 : Int32) (M : am_M) : Ct G l y_Md_roots X_Md_roots [.ref a0, .int p1] M (F_Md_roots a0 p1 M) := by
  refine Ct.of (by decide +kernel) rfl rfl (Nat.le_of_ble_eq_true rfl) ?_
  unfold F_Md_roots
  show Rf G l X_Md_roots 0 [.ref a0, .int p1] [] M _
  refine r_aload_n (dt_Md_roots.at 0 rfl) rfl ?_
  refine r_iload_n (dt_Md_roots.at 1 rfl) rfl ?_
  refine r_cvI (c := 9) (rest := []) (ct_Md_groups a0 p1 _) (dt_Md_roots.at 2 rfl) mb_Md_groups wd_1399 wd_1401 wp_52 rfl (by decide) rfl rfl (Nat.le_of_ble_eq_true rfl) (fun r2 M1 => ?_)
  refine r_aload_n (dt_Md_roots.at 3 rfl) rfl ?_
  refine r_iload_n (dt_Md_roots.at 4 rfl) rfl ?_
  refine r_bipush (dt_Md_roots.at 5 rfl) 6 (by decide) ?_
  refine r_cvI (c := 9) (rest := [.int r2]) (ct_Md_ofSource a0 p1 6 _) (dt_Md_roots.at 6 rfl) mb_Md_ofSource wd_1403 wd_1405 wp_53 rfl (by decide) rfl rfl (Nat.le_of_ble_eq_true rfl) (fun r4 M3 => ?_)
  refine r_imul (dt_Md_roots.at 7 rfl) ?_
  exact r_iret (dt_Md_roots.at 8 rfl) rfl
set_option maxRecDepth 20000 in
set_option maxHeartbeats 2000000 in
theorem ct_Md_source {G : am_G} {l : Launch} (a0 : Nat) (p1 : Int32) (p2 : Int32) (M : am_M) : Ct G l y_Md_source X_Md_source [.ref a0, .int p1, .int p2] M (F_Md_source a0 p1 p2 M) := by
  refine Ct.of (by decide +kernel) rfl rfl (Nat.le_of_ble_eq_true rfl) ?_
  unfold F_Md_source
  show Rf G l X_Md_source 0 [.ref a0, .int p1, .int p2] [] M _
  refine r_iload_n (dt_Md_source.at 0 rfl) rfl ?_
  refine r_i2l (dt_Md_source.at 1 rfl) ?_
  refine r_lconst (dt_Md_source.at 2 rfl) 0 (by decide) ?_
  refine r_aload_n (dt_Md_source.at 3 rfl) rfl ?_
  refine r_fI (dt_Md_source.at 4 rfl) fl_Md_227 rfl (fun x1 => ?_)
  refine r_iconst (dt_Md_source.at 5 rfl) 1 (by decide) ?_
  refine r_isub (dt_Md_source.at 6 rfl) ?_
  refine r_i2l (dt_Md_source.at 7 rfl) ?_
  refine r_csI (rest := []) (ct_Md_in (p1.toInt64) 0 ((x1 - 1).toInt64) _) (dt_Md_source.at 8 rfl) mb_Md_in wd_1289 wd_1290 (by decide) rfl rfl (Nat.le_of_ble_eq_true rfl) (fun r3 M2 => ?_)
  refine r_if_eq (tgt := 28) (dt_Md_source.at 9 rfl) (by decide) ?_ ?_
  · refine r_bipush (dt_Md_source.at 16 rfl) (-2) (by decide) ?_
    exact r_iret (dt_Md_source.at 17 rfl) rfl
  · refine r_iload_n (dt_Md_source.at 10 rfl) rfl ?_
    refine r_i2l (dt_Md_source.at 11 rfl) ?_
    refine r_lconst (dt_Md_source.at 12 rfl) 0 (by decide) ?_
    refine r_ldc2 (dt_Md_source.at 13 rfl) 9 wd_1394 ?_
    refine r_csI (rest := []) (ct_Md_in (p2.toInt64) 0 9 _) (dt_Md_source.at 14 rfl) mb_Md_in wd_1289 wd_1290 (by decide) rfl rfl (Nat.le_of_ble_eq_true rfl) (fun r5 M4 => ?_)
    refine r_if_ne (tgt := 31) (dt_Md_source.at 15 rfl) (by decide) ?_ ?_
    · refine r_bipush (dt_Md_source.at 16 rfl) (-2) (by decide) ?_
      exact r_iret (dt_Md_source.at 17 rfl) rfl
    · refine r_iload_n (dt_Md_source.at 18 rfl) rfl ?_
      refine r_bipush (dt_Md_source.at 19 rfl) 9 (by decide) ?_
      refine r_icmp_ne (tgt := 45) (dt_Md_source.at 20 rfl) (by decide) ?_ ?_
      · refine r_aload_n (dt_Md_source.at 21 rfl) rfl ?_
        refine r_iload_n (dt_Md_source.at 22 rfl) rfl ?_
        refine r_cvI (c := 9) (rest := []) (ct_Md_roots a0 p1 _) (dt_Md_source.at 23 rfl) mb_Md_roots wd_1395 wd_1397 wp_51 rfl (by decide) rfl rfl (Nat.le_of_ble_eq_true rfl) (fun r7 M6 => ?_)
        refine r_goto (tgt := 51) (dt_Md_source.at 24 rfl) (by decide) ?_
        exact r_iret (dt_Md_source.at 29 rfl) rfl
      · refine r_aload_n (dt_Md_source.at 25 rfl) rfl ?_
        refine r_iload_n (dt_Md_source.at 26 rfl) rfl ?_
        refine r_iload_n (dt_Md_source.at 27 rfl) rfl ?_
        refine r_cvI (c := 9) (rest := []) (ct_Md_ofSource a0 p1 p2 _) (dt_Md_source.at 28 rfl) mb_Md_ofSource wd_1403 wd_1405 wp_53 rfl (by decide) rfl rfl (Nat.le_of_ble_eq_true rfl) (fun r9 M8 => ?_)
        exact r_iret (dt_Md_source.at 29 rfl) rfl
set_option maxRecDepth 20000 in
set_option maxHeartbeats 2000000 in
theorem rf_Md_keeps_L61 {G : am_G} {l : Launch}   (v0 : Nat) (v1 : Int32) (v2 : Int32) (M : am_M) : Rf G l X_Md_keeps 61 [.ref v0, .int v1, .int v2, .retAddr 0] [] M (F_Md_keeps_L61 v0 v1 v2 M) := by
  unfold F_Md_keeps_L61
  refine r_aload_n (dt_Md_keeps.at 37 rfl) rfl ?_
  refine r_fR (dt_Md_keeps.at 38 rfl) fl_Md_36 rfl (fun b4 => ?_)
  refine r_aload_n (dt_Md_keeps.at 39 rfl) rfl ?_
  refine r_fI (dt_Md_keeps.at 40 rfl) fl_Md_230 rfl (fun x5 => ?_)
  refine r_iload_n (dt_Md_keeps.at 41 rfl) rfl ?_
  refine r_tI (dt_Md_keeps.at 42 rfl) (fun M6 => ?_)
  refine r_aload_n (dt_Md_keeps.at 43 rfl) rfl ?_
  refine r_fR (dt_Md_keeps.at 44 rfl) fl_Md_39 rfl (fun b7 => ?_)
  refine r_aload_n (dt_Md_keeps.at 45 rfl) rfl ?_
  refine r_fI (dt_Md_keeps.at 46 rfl) fl_Md_230 rfl (fun x8 => ?_)
  refine r_iload_n (dt_Md_keeps.at 47 rfl) rfl ?_
  refine r_tI (dt_Md_keeps.at 48 rfl) (fun M9 => ?_)
  refine r_aload_n (dt_Md_keeps.at 49 rfl) rfl ?_
  refine r_dup (dt_Md_keeps.at 50 rfl) rfl ?_
  refine r_fI (dt_Md_keeps.at 51 rfl) fl_Md_230 rfl (fun x10 => ?_)
  refine r_iconst (dt_Md_keeps.at 52 rfl) 1 (by decide) ?_
  refine r_iadd (dt_Md_keeps.at 53 rfl) ?_
  refine r_sI (dt_Md_keeps.at 54 rfl) fl_Md_230 rfl rfl rfl (fun M11 => ?_)
  exact r_vret (dt_Md_keeps.at 55 rfl) rfl
set_option maxRecDepth 20000 in
set_option maxHeartbeats 2000000 in
theorem rf_Md_keeps_L11 {G : am_G} {l : Launch}   : ∀ (n : Nat) (v0 : Nat) (v1 : Int32) (v2 : Int32) (v3 : Int32) (M : am_M), Rf G l X_Md_keeps 11 [.ref v0, .int v1, .int v2, .int v3] [] M (F_Md_keeps_L11 n v0 v1 v2 v3 M) := by
  intro n
  induction n with
  | zero => intro v0 v1 v2 v3 M; exact Rf.no
  | succ n ih =>
    intro v0 v1 v2 v3 M
    unfold F_Md_keeps_L11
    refine r_iload_n (dt_Md_keeps.at 6 rfl) rfl ?_
    refine r_bipush (dt_Md_keeps.at 7 rfl) 10 (by decide) ?_
    refine r_icmp_ge (tgt := 51) (dt_Md_keeps.at 8 rfl) (by decide) ?_ ?_
    · refine r_aload_n (dt_Md_keeps.at 31 rfl) rfl ?_
      refine r_dup (dt_Md_keeps.at 32 rfl) rfl ?_
      refine r_fI (dt_Md_keeps.at 33 rfl) fl_Md_230 rfl (fun x2 => ?_)
      refine r_iconst (dt_Md_keeps.at 34 rfl) 1 (by decide) ?_
      refine r_isub (dt_Md_keeps.at 35 rfl) ?_
      refine r_sI (dt_Md_keeps.at 36 rfl) fl_Md_230 rfl rfl rfl (fun M3 => ?_)
      exact Rf.msk [true, true, true, false] (rf_Md_keeps_L61 v0 v1 v2 M3)
    · refine r_aload_n (dt_Md_keeps.at 9 rfl) rfl ?_
      refine r_fR (dt_Md_keeps.at 10 rfl) fl_Md_36 rfl (fun b12 => ?_)
      refine r_iload_n (dt_Md_keeps.at 11 rfl) rfl ?_
      refine r_iconst (dt_Md_keeps.at 12 rfl) 1 (by decide) ?_
      refine r_isub (dt_Md_keeps.at 13 rfl) ?_
      refine r_aload_n (dt_Md_keeps.at 14 rfl) rfl ?_
      refine r_fR (dt_Md_keeps.at 15 rfl) fl_Md_36 rfl (fun b13 => ?_)
      refine r_iload_n (dt_Md_keeps.at 16 rfl) rfl ?_
      refine r_aI (dt_Md_keeps.at 17 rfl) (fun x14 => ?_)
      refine r_tI (dt_Md_keeps.at 18 rfl) (fun M15 => ?_)
      refine r_aload_n (dt_Md_keeps.at 19 rfl) rfl ?_
      refine r_fR (dt_Md_keeps.at 20 rfl) fl_Md_39 rfl (fun b16 => ?_)
      refine r_iload_n (dt_Md_keeps.at 21 rfl) rfl ?_
      refine r_iconst (dt_Md_keeps.at 22 rfl) 1 (by decide) ?_
      refine r_isub (dt_Md_keeps.at 23 rfl) ?_
      refine r_aload_n (dt_Md_keeps.at 24 rfl) rfl ?_
      refine r_fR (dt_Md_keeps.at 25 rfl) fl_Md_39 rfl (fun b17 => ?_)
      refine r_iload_n (dt_Md_keeps.at 26 rfl) rfl ?_
      refine r_aI (dt_Md_keeps.at 27 rfl) (fun x18 => ?_)
      refine r_tI (dt_Md_keeps.at 28 rfl) (fun M19 => ?_)
      refine r_iincn (v := 1) (dt_Md_keeps.at 29 rfl) (by decide) rfl (by decide) (fun y => [.ref v0, .int v1, .int v2, .int y]) (fun _ => rfl) (fun x20 => ?_)
      refine r_goto (tgt := 11) (dt_Md_keeps.at 30 rfl) (by decide) ?_
      exact Rf.msk [true, true, true, true] (ih v0 v1 v2 x20 M19)
set_option maxRecDepth 20000 in
set_option maxHeartbeats 2000000 in
theorem ct_Md_keeps {G : am_G} {l : Launch} (a0 : Nat) (p1 : Int32) (p2 : Int32) (M : am_M) : Ct G l y_Md_keeps X_Md_keeps [.ref a0, .int p1, .int p2] M (F_Md_keeps a0 p1 p2 M) := by
  refine Ct.of (by decide +kernel) rfl rfl (Nat.le_of_ble_eq_true rfl) ?_
  unfold F_Md_keeps
  show Rf G l X_Md_keeps 0 [.ref a0, .int p1, .int p2, .retAddr 0] [] M _
  refine r_aload_n (dt_Md_keeps.at 0 rfl) rfl ?_
  refine r_fI (dt_Md_keeps.at 1 rfl) fl_Md_230 rfl (fun x1 => ?_)
  refine r_bipush (dt_Md_keeps.at 2 rfl) 10 (by decide) ?_
  refine r_icmp_ne (tgt := 61) (dt_Md_keeps.at 3 rfl) (by decide) ?_ ?_
  · refine r_iconst (dt_Md_keeps.at 4 rfl) 1 (by decide) ?_
    refine r_istore_n (ls' := [.ref a0, .int p1, .int p2, .int 1]) (dt_Md_keeps.at 5 rfl) (by decide) rfl ?_
    exact Rf.msk [true, true, true, true] (rf_Md_keeps_L11 fu a0 p1 p2 1 M)
  · exact Rf.msk [true, true, true, false] (rf_Md_keeps_L61 a0 p1 p2 M)
set_option maxRecDepth 20000 in
set_option maxHeartbeats 2000000 in
theorem ct_Md_seed {G : am_G} {l : Launch} (a0 : Nat) (p1 : Int32) (M : am_M) : Ct G l y_Md_seed X_Md_seed [.ref a0, .int p1] M (F_Md_seed a0 p1 M) := by
  refine Ct.of (by decide +kernel) rfl rfl (Nat.le_of_ble_eq_true rfl) ?_
  unfold F_Md_seed
  show Rf G l X_Md_seed 0 [.ref a0, .int p1, .retAddr 0] [] M _
  refine r_aload_n (dt_Md_seed.at 0 rfl) rfl ?_
  refine r_fI (dt_Md_seed.at 1 rfl) fl_Md_219 rfl (fun x1 => ?_)
  refine r_if_eq (tgt := 19) (dt_Md_seed.at 2 rfl) (by decide) ?_ ?_
  · refine r_bipush (dt_Md_seed.at 9 rfl) (-2) (by decide) ?_
    exact r_iret (dt_Md_seed.at 10 rfl) rfl
  · refine r_iload_n (dt_Md_seed.at 3 rfl) rfl ?_
    refine r_i2l (dt_Md_seed.at 4 rfl) ?_
    refine r_lconst (dt_Md_seed.at 5 rfl) 0 (by decide) ?_
    refine r_ldc2 (dt_Md_seed.at 6 rfl) 999999 wd_1411 ?_
    refine r_csI (rest := []) (ct_Md_in (p1.toInt64) 0 999999 _) (dt_Md_seed.at 7 rfl) mb_Md_in wd_1289 wd_1290 (by decide) rfl rfl (Nat.le_of_ble_eq_true rfl) (fun r3 M2 => ?_)
    refine r_if_ne (tgt := 22) (dt_Md_seed.at 8 rfl) (by decide) ?_ ?_
    · refine r_bipush (dt_Md_seed.at 9 rfl) (-2) (by decide) ?_
      exact r_iret (dt_Md_seed.at 10 rfl) rfl
    · refine r_aload_n (dt_Md_seed.at 11 rfl) rfl ?_
      refine r_fI (dt_Md_seed.at 12 rfl) fl_Md_222 rfl (fun x4 => ?_)
      refine r_istore_n (ls' := [.ref a0, .int p1, .int x4]) (dt_Md_seed.at 13 rfl) (by decide) rfl ?_
      refine r_iload_n (dt_Md_seed.at 14 rfl) rfl ?_
      refine r_iload_n (dt_Md_seed.at 15 rfl) rfl ?_
      refine r_icmp_eq (tgt := 38) (dt_Md_seed.at 16 rfl) (by decide) ?_ ?_
      · refine r_aload_n (dt_Md_seed.at 21 rfl) rfl ?_
        refine r_iload_n (dt_Md_seed.at 22 rfl) rfl ?_
        refine r_sI (dt_Md_seed.at 23 rfl) fl_Md_222 rfl rfl rfl (fun M5 => ?_)
        refine r_iload_n (dt_Md_seed.at 24 rfl) rfl ?_
        exact r_iret (dt_Md_seed.at 25 rfl) rfl
      · refine r_aload_n (dt_Md_seed.at 17 rfl) rfl ?_
        refine r_iconst (dt_Md_seed.at 18 rfl) (-1) (by decide) ?_
        refine r_iload_n (dt_Md_seed.at 19 rfl) rfl ?_
        refine r_cvV (c := 9) (rest := []) (ct_Md_keeps a0 (-1) x4 _) (dt_Md_seed.at 20 rfl) mb_Md_keeps wd_1412 wd_1414 wp_54 rfl (by decide) rfl rfl (Nat.le_of_ble_eq_true rfl) (fun M6 => ?_)
        refine r_aload_n (dt_Md_seed.at 21 rfl) rfl ?_
        refine r_iload_n (dt_Md_seed.at 22 rfl) rfl ?_
        refine r_sI (dt_Md_seed.at 23 rfl) fl_Md_222 rfl rfl rfl (fun M7 => ?_)
        refine r_iload_n (dt_Md_seed.at 24 rfl) rfl ?_
        exact r_iret (dt_Md_seed.at 25 rfl) rfl
set_option maxRecDepth 20000 in
set_option maxHeartbeats 2000000 in
theorem rf_Md_sets_L52 {G : am_G} {l : Launch}   (v0 : Nat) (v1 : Int32) (v2 : Int32) (v3 : Int32) (v4 : Int32) (s0 : Int32) (M : am_M) : Rf G l X_Md_sets 52 [.ref v0, .int v1, .int v2, .int v3, .int v4, .retAddr 0, .retAddr 0, .retAddr 0] [.int s0] M (F_Md_sets_L52 v0 v1 v2 v3 v4 s0 M) := by
  unfold F_Md_sets_L52
  refine r_istore (ls' := [.ref v0, .int v1, .int v2, .int v3, .int v4, .int s0, .retAddr 0, .retAddr 0]) (dt_Md_sets.at 27 rfl) (by decide) rfl ?_
  refine r_iload_n (dt_Md_sets.at 28 rfl) rfl ?_
  refine r_i2l (dt_Md_sets.at 29 rfl) ?_
  refine r_lconst (dt_Md_sets.at 30 rfl) 0 (by decide) ?_
  refine r_aload_n (dt_Md_sets.at 31 rfl) rfl ?_
  refine r_fI (dt_Md_sets.at 32 rfl) fl_Md_224 rfl (fun x1 => ?_)
  refine r_iconst (dt_Md_sets.at 33 rfl) 1 (by decide) ?_
  refine r_isub (dt_Md_sets.at 34 rfl) ?_
  refine r_i2l (dt_Md_sets.at 35 rfl) ?_
  refine r_csI (rest := []) (ct_Md_in (v1.toInt64) 0 ((x1 - 1).toInt64) _) (dt_Md_sets.at 36 rfl) mb_Md_in wd_1289 wd_1290 (by decide) rfl rfl (Nat.le_of_ble_eq_true rfl) (fun r3 M2 => ?_)
  refine r_if_eq (tgt := 96) (dt_Md_sets.at 37 rfl) (by decide) ?_ ?_
  · refine r_bipush (dt_Md_sets.at 52 rfl) (-99) (by decide) ?_
    exact r_iret (dt_Md_sets.at 53 rfl) rfl
  · refine r_iload_n (dt_Md_sets.at 38 rfl) rfl ?_
    refine r_i2l (dt_Md_sets.at 39 rfl) ?_
    refine r_lconst (dt_Md_sets.at 40 rfl) 0 (by decide) ?_
    refine r_ldc2 (dt_Md_sets.at 41 rfl) 4 wd_1420 ?_
    refine r_csI (rest := []) (ct_Md_in (v2.toInt64) 0 4 _) (dt_Md_sets.at 42 rfl) mb_Md_in wd_1289 wd_1290 (by decide) rfl rfl (Nat.le_of_ble_eq_true rfl) (fun r5 M4 => ?_)
    refine r_if_eq (tgt := 96) (dt_Md_sets.at 43 rfl) (by decide) ?_ ?_
    · refine r_bipush (dt_Md_sets.at 52 rfl) (-99) (by decide) ?_
      exact r_iret (dt_Md_sets.at 53 rfl) rfl
    · refine r_iload_n (dt_Md_sets.at 44 rfl) rfl ?_
      refine r_i2l (dt_Md_sets.at 45 rfl) ?_
      refine r_iload (dt_Md_sets.at 46 rfl) rfl ?_
      refine r_i2l (dt_Md_sets.at 47 rfl) ?_
      refine r_iload (dt_Md_sets.at 48 rfl) rfl ?_
      refine r_i2l (dt_Md_sets.at 49 rfl) ?_
      refine r_csI (rest := []) (ct_Md_in (v3.toInt64) (v4.toInt64) (s0.toInt64) _) (dt_Md_sets.at 50 rfl) mb_Md_in wd_1289 wd_1290 (by decide) rfl rfl (Nat.le_of_ble_eq_true rfl) (fun r7 M6 => ?_)
      refine r_if_ne (tgt := 99) (dt_Md_sets.at 51 rfl) (by decide) ?_ ?_
      · refine r_bipush (dt_Md_sets.at 52 rfl) (-99) (by decide) ?_
        exact r_iret (dt_Md_sets.at 53 rfl) rfl
      · refine r_bipush (dt_Md_sets.at 54 rfl) 8 (by decide) ?_
        refine r_iload_n (dt_Md_sets.at 55 rfl) rfl ?_
        refine r_imul (dt_Md_sets.at 56 rfl) ?_
        refine r_iload_n (dt_Md_sets.at 57 rfl) rfl ?_
        refine r_iadd (dt_Md_sets.at 58 rfl) ?_
        refine r_nmi (fun x8 => ?_)
        refine r_istore (ls' := [.ref v0, .int v1, .int v2, .int v3, .int v4, .int s0, .int x8, .retAddr 0]) (dt_Md_sets.at 59 rfl) (by decide) rfl ?_
        refine r_aload_n (dt_Md_sets.at 60 rfl) rfl ?_
        refine r_fR (dt_Md_sets.at 61 rfl) fl_Md_13 rfl (fun b9 => ?_)
        refine r_iload (dt_Md_sets.at 62 rfl) rfl ?_
        refine r_aI (dt_Md_sets.at 63 rfl) (fun x10 => ?_)
        refine r_istore (ls' := [.ref v0, .int v1, .int v2, .int v3, .int v4, .int s0, .int x8, .int x10]) (dt_Md_sets.at 64 rfl) (by decide) rfl ?_
        refine r_iload (dt_Md_sets.at 65 rfl) rfl ?_
        refine r_iload_n (dt_Md_sets.at 66 rfl) rfl ?_
        refine r_icmp_eq (tgt := 130) (dt_Md_sets.at 67 rfl) (by decide) ?_ ?_
        · refine r_aload_n (dt_Md_sets.at 72 rfl) rfl ?_
          refine r_fR (dt_Md_sets.at 73 rfl) fl_Md_13 rfl (fun b11 => ?_)
          refine r_iload (dt_Md_sets.at 74 rfl) rfl ?_
          refine r_iload_n (dt_Md_sets.at 75 rfl) rfl ?_
          refine r_tI (dt_Md_sets.at 76 rfl) (fun M12 => ?_)
          refine r_iload (dt_Md_sets.at 77 rfl) rfl ?_
          exact r_iret (dt_Md_sets.at 78 rfl) rfl
        · refine r_aload_n (dt_Md_sets.at 68 rfl) rfl ?_
          refine r_iload (dt_Md_sets.at 69 rfl) rfl ?_
          refine r_iload (dt_Md_sets.at 70 rfl) rfl ?_
          refine r_cvV (c := 9) (rest := []) (ct_Md_keeps v0 x8 x10 _) (dt_Md_sets.at 71 rfl) mb_Md_keeps wd_1412 wd_1414 wp_54 rfl (by decide) rfl rfl (Nat.le_of_ble_eq_true rfl) (fun M13 => ?_)
          refine r_aload_n (dt_Md_sets.at 72 rfl) rfl ?_
          refine r_fR (dt_Md_sets.at 73 rfl) fl_Md_13 rfl (fun b14 => ?_)
          refine r_iload (dt_Md_sets.at 74 rfl) rfl ?_
          refine r_iload_n (dt_Md_sets.at 75 rfl) rfl ?_
          refine r_tI (dt_Md_sets.at 76 rfl) (fun M15 => ?_)
          refine r_iload (dt_Md_sets.at 77 rfl) rfl ?_
          exact r_iret (dt_Md_sets.at 78 rfl) rfl
set_option maxRecDepth 20000 in
set_option maxHeartbeats 2000000 in
theorem rf_Md_sets_L45 {G : am_G} {l : Launch}   (v0 : Nat) (v1 : Int32) (v2 : Int32) (v3 : Int32) (v4 : Int32) (M : am_M) : Rf G l X_Md_sets 45 [.ref v0, .int v1, .int v2, .int v3, .int v4, .retAddr 0, .retAddr 0, .retAddr 0] [] M (F_Md_sets_L45 v0 v1 v2 v3 v4 M) := by
  unfold F_Md_sets_L45
  refine r_bipush (dt_Md_sets.at 24 rfl) 9 (by decide) ?_
  refine r_goto (tgt := 52) (dt_Md_sets.at 25 rfl) (by decide) ?_
  exact Rf.msk [true, true, true, true, true, false, false, false] (rf_Md_sets_L52 v0 v1 v2 v3 v4 9 M)
set_option maxRecDepth 20000 in
set_option maxHeartbeats 2000000 in
theorem rf_Md_sets_L24 {G : am_G} {l : Launch}   (v0 : Nat) (v1 : Int32) (v2 : Int32) (v3 : Int32) (s0 : Int32) (M : am_M) : Rf G l X_Md_sets 24 [.ref v0, .int v1, .int v2, .int v3, .retAddr 0, .retAddr 0, .retAddr 0, .retAddr 0] [.int s0] M (F_Md_sets_L24 v0 v1 v2 v3 s0 M) := by
  unfold F_Md_sets_L24
  refine r_istore (ls' := [.ref v0, .int v1, .int v2, .int v3, .int s0, .retAddr 0, .retAddr 0, .retAddr 0]) (dt_Md_sets.at 13 rfl) (by decide) rfl ?_
  refine r_iload_n (dt_Md_sets.at 14 rfl) rfl ?_
  refine r_if_ne (tgt := 35) (dt_Md_sets.at 15 rfl) (by decide) ?_ ?_
  · refine r_bipush (dt_Md_sets.at 16 rfl) 40 (by decide) ?_
    refine r_goto (tgt := 52) (dt_Md_sets.at 17 rfl) (by decide) ?_
    exact Rf.msk [true, true, true, true, true, false, false, false] (rf_Md_sets_L52 v0 v1 v2 v3 s0 40 M)
  · refine r_iload_n (dt_Md_sets.at 18 rfl) rfl ?_
    refine r_iconst (dt_Md_sets.at 19 rfl) 3 (by decide) ?_
    refine r_icmp_eq (tgt := 45) (dt_Md_sets.at 20 rfl) (by decide) ?_ ?_
    · exact Rf.msk [true, true, true, true, true, false, false, false] (rf_Md_sets_L45 v0 v1 v2 v3 s0 M)
    · refine r_iload_n (dt_Md_sets.at 21 rfl) rfl ?_
      refine r_iconst (dt_Md_sets.at 22 rfl) 4 (by decide) ?_
      refine r_icmp_ne (tgt := 50) (dt_Md_sets.at 23 rfl) (by decide) ?_ ?_
      · exact Rf.msk [true, true, true, true, true, false, false, false] (rf_Md_sets_L45 v0 v1 v2 v3 s0 M)
      · refine r_bipush (dt_Md_sets.at 26 rfl) 20 (by decide) ?_
        exact Rf.msk [true, true, true, true, true, false, false, false] (rf_Md_sets_L52 v0 v1 v2 v3 s0 20 M)
set_option maxRecDepth 20000 in
set_option maxHeartbeats 2000000 in
theorem rf_Md_sets_L9 {G : am_G} {l : Launch}   (v0 : Nat) (v1 : Int32) (v2 : Int32) (v3 : Int32) (M : am_M) : Rf G l X_Md_sets 9 [.ref v0, .int v1, .int v2, .int v3, .retAddr 0, .retAddr 0, .retAddr 0, .retAddr 0] [] M (F_Md_sets_L9 v0 v1 v2 v3 M) := by
  unfold F_Md_sets_L9
  refine r_iconst (dt_Md_sets.at 5 rfl) 1 (by decide) ?_
  refine r_goto (tgt := 24) (dt_Md_sets.at 6 rfl) (by decide) ?_
  exact Rf.msk [true, true, true, true, false, false, false, false] (rf_Md_sets_L24 v0 v1 v2 v3 1 M)
set_option maxRecDepth 20000 in
set_option maxHeartbeats 2000000 in
theorem ct_Md_sets {G : am_G} {l : Launch} (a0 : Nat) (p1 : Int32) (p2 : Int32) (p3 : Int32) (M : am_M) : Ct G l y_Md_sets X_Md_sets [.ref a0, .int p1, .int p2, .int p3] M (F_Md_sets a0 p1 p2 p3 M) := by
  refine Ct.of (by decide +kernel) rfl rfl (Nat.le_of_ble_eq_true rfl) ?_
  unfold F_Md_sets
  show Rf G l X_Md_sets 0 [.ref a0, .int p1, .int p2, .int p3, .retAddr 0, .retAddr 0, .retAddr 0, .retAddr 0] [] M _
  refine r_iload_n (dt_Md_sets.at 0 rfl) rfl ?_
  refine r_if_eq (tgt := 9) (dt_Md_sets.at 1 rfl) (by decide) ?_ ?_
  · exact Rf.msk [true, true, true, true, false, false, false, false] (rf_Md_sets_L9 a0 p1 p2 p3 M)
  · refine r_iload_n (dt_Md_sets.at 2 rfl) rfl ?_
    refine r_iconst (dt_Md_sets.at 3 rfl) 4 (by decide) ?_
    refine r_icmp_ne (tgt := 13) (dt_Md_sets.at 4 rfl) (by decide) ?_ ?_
    · exact Rf.msk [true, true, true, true, false, false, false, false] (rf_Md_sets_L9 a0 p1 p2 p3 M)
    · refine r_iload_n (dt_Md_sets.at 7 rfl) rfl ?_
      refine r_iconst (dt_Md_sets.at 8 rfl) 3 (by decide) ?_
      refine r_icmp_ne (tgt := 23) (dt_Md_sets.at 9 rfl) (by decide) ?_ ?_
      · refine r_bipush (dt_Md_sets.at 10 rfl) (-9) (by decide) ?_
        refine r_goto (tgt := 24) (dt_Md_sets.at 11 rfl) (by decide) ?_
        exact Rf.msk [true, true, true, true, false, false, false, false] (rf_Md_sets_L24 a0 p1 p2 p3 (-9) M)
      · refine r_iconst (dt_Md_sets.at 12 rfl) 0 (by decide) ?_
        exact Rf.msk [true, true, true, true, false, false, false, false] (rf_Md_sets_L24 a0 p1 p2 p3 0 M)
set_option maxRecDepth 20000 in
set_option maxHeartbeats 2000000 in
theorem ct_Md_undo {G : am_G} {l : Launch} (a0 : Nat) (M : am_M) : Ct G l y_Md_undo X_Md_undo [.ref a0] M (F_Md_undo a0 M) := by
  refine Ct.of (by decide +kernel) rfl rfl (Nat.le_of_ble_eq_true rfl) ?_
  unfold F_Md_undo
  show Rf G l X_Md_undo 0 [.ref a0] [] M _
  refine r_aload_n (dt_Md_undo.at 0 rfl) rfl ?_
  refine r_fI (dt_Md_undo.at 1 rfl) fl_Md_219 rfl (fun x1 => ?_)
  refine r_if_ne (tgt := 10) (dt_Md_undo.at 2 rfl) (by decide) ?_ ?_
  · refine r_bipush (dt_Md_undo.at 3 rfl) (-2) (by decide) ?_
    exact r_iret (dt_Md_undo.at 4 rfl) rfl
  · refine r_aload_n (dt_Md_undo.at 5 rfl) rfl ?_
    refine r_fI (dt_Md_undo.at 6 rfl) fl_Md_230 rfl (fun x2 => ?_)
    refine r_if_ne (tgt := 19) (dt_Md_undo.at 7 rfl) (by decide) ?_ ?_
    · refine r_iconst (dt_Md_undo.at 8 rfl) (-1) (by decide) ?_
      exact r_iret (dt_Md_undo.at 9 rfl) rfl
    · refine r_aload_n (dt_Md_undo.at 10 rfl) rfl ?_
      refine r_dup (dt_Md_undo.at 11 rfl) rfl ?_
      refine r_fI (dt_Md_undo.at 12 rfl) fl_Md_230 rfl (fun x3 => ?_)
      refine r_iconst (dt_Md_undo.at 13 rfl) 1 (by decide) ?_
      refine r_isub (dt_Md_undo.at 14 rfl) ?_
      refine r_sI (dt_Md_undo.at 15 rfl) fl_Md_230 rfl rfl rfl (fun M4 => ?_)
      refine r_aload_n (dt_Md_undo.at 16 rfl) rfl ?_
      refine r_fR (dt_Md_undo.at 17 rfl) fl_Md_36 rfl (fun b5 => ?_)
      refine r_aload_n (dt_Md_undo.at 18 rfl) rfl ?_
      refine r_fI (dt_Md_undo.at 19 rfl) fl_Md_230 rfl (fun x6 => ?_)
      refine r_aI (dt_Md_undo.at 20 rfl) (fun x7 => ?_)
      refine r_iconst (dt_Md_undo.at 21 rfl) (-1) (by decide) ?_
      refine r_icmp_ne (tgt := 58) (dt_Md_undo.at 22 rfl) (by decide) ?_ ?_
      · refine r_aload_n (dt_Md_undo.at 23 rfl) rfl ?_
        refine r_aload_n (dt_Md_undo.at 24 rfl) rfl ?_
        refine r_fR (dt_Md_undo.at 25 rfl) fl_Md_39 rfl (fun b8 => ?_)
        refine r_aload_n (dt_Md_undo.at 26 rfl) rfl ?_
        refine r_fI (dt_Md_undo.at 27 rfl) fl_Md_230 rfl (fun x9 => ?_)
        refine r_aI (dt_Md_undo.at 28 rfl) (fun x10 => ?_)
        refine r_sI (dt_Md_undo.at 29 rfl) fl_Md_222 rfl rfl rfl (fun M11 => ?_)
        refine r_goto (tgt := 81) (dt_Md_undo.at 30 rfl) (by decide) ?_
        refine r_aload_n (dt_Md_undo.at 44 rfl) rfl ?_
        refine r_fI (dt_Md_undo.at 45 rfl) fl_Md_230 rfl (fun x12 => ?_)
        exact r_iret (dt_Md_undo.at 46 rfl) rfl
      · refine r_aload_n (dt_Md_undo.at 31 rfl) rfl ?_
        refine r_fR (dt_Md_undo.at 32 rfl) fl_Md_13 rfl (fun b13 => ?_)
        refine r_aload_n (dt_Md_undo.at 33 rfl) rfl ?_
        refine r_fR (dt_Md_undo.at 34 rfl) fl_Md_36 rfl (fun b14 => ?_)
        refine r_aload_n (dt_Md_undo.at 35 rfl) rfl ?_
        refine r_fI (dt_Md_undo.at 36 rfl) fl_Md_230 rfl (fun x15 => ?_)
        refine r_aI (dt_Md_undo.at 37 rfl) (fun x16 => ?_)
        refine r_aload_n (dt_Md_undo.at 38 rfl) rfl ?_
        refine r_fR (dt_Md_undo.at 39 rfl) fl_Md_39 rfl (fun b17 => ?_)
        refine r_aload_n (dt_Md_undo.at 40 rfl) rfl ?_
        refine r_fI (dt_Md_undo.at 41 rfl) fl_Md_230 rfl (fun x18 => ?_)
        refine r_aI (dt_Md_undo.at 42 rfl) (fun x19 => ?_)
        refine r_tI (dt_Md_undo.at 43 rfl) (fun M20 => ?_)
        refine r_aload_n (dt_Md_undo.at 44 rfl) rfl ?_
        refine r_fI (dt_Md_undo.at 45 rfl) fl_Md_230 rfl (fun x21 => ?_)
        exact r_iret (dt_Md_undo.at 46 rfl) rfl
set_option maxRecDepth 20000 in
set_option maxHeartbeats 2000000 in
theorem ct_Md_mixedOf {G : am_G} {l : Launch} (a0 : Nat) (p1 : Int32) (p2 : Int32) (M : am_M) : Ct G l y_Md_mixedOf X_Md_mixedOf [.ref a0, .int p1, .int p2] M (F_Md_mixedOf a0 p1 p2 M) := by
  refine Ct.of (by decide +kernel) rfl rfl (Nat.le_of_ble_eq_true rfl) ?_
  unfold F_Md_mixedOf
  show Rf G l X_Md_mixedOf 0 [.ref a0, .int p1, .int p2, .retAddr 0, .retAddr 0] [] M _
  refine r_aload_n (dt_Md_mixedOf.at 0 rfl) rfl ?_
  refine r_fI (dt_Md_mixedOf.at 1 rfl) fl_Md_222 rfl (fun x1 => ?_)
  refine r_i2l (dt_Md_mixedOf.at 2 rfl) ?_
  refine r_iload_n (dt_Md_mixedOf.at 3 rfl) rfl ?_
  refine r_i2l (dt_Md_mixedOf.at 4 rfl) ?_
  refine r_ldc2 (dt_Md_mixedOf.at 5 rfl) (-7046029254386353131) wd_1433 ?_
  refine r_lmul (dt_Md_mixedOf.at 6 rfl) ?_
  refine r_ladd (dt_Md_mixedOf.at 7 rfl) ?_
  refine r_iload_n (dt_Md_mixedOf.at 8 rfl) rfl ?_
  refine r_i2l (dt_Md_mixedOf.at 9 rfl) ?_
  refine r_ldc2 (dt_Md_mixedOf.at 10 rfl) (-3335678366873096957) wd_1434 ?_
  refine r_lmul (dt_Md_mixedOf.at 11 rfl) ?_
  refine r_ladd (dt_Md_mixedOf.at 12 rfl) ?_
  refine r_nml (fun z2 => ?_)
  refine r_lstore_n (ls' := [.ref a0, .int p1, .int p2, .long z2, .retAddr 0]) (dt_Md_mixedOf.at 13 rfl) (by decide) rfl ?_
  refine r_lload_n (dt_Md_mixedOf.at 14 rfl) rfl ?_
  refine r_lload_n (dt_Md_mixedOf.at 15 rfl) rfl ?_
  refine r_bipush (dt_Md_mixedOf.at 16 rfl) 30 (by decide) ?_
  refine r_lushr (dt_Md_mixedOf.at 17 rfl) ?_
  refine r_lxor (dt_Md_mixedOf.at 18 rfl) ?_
  refine r_ldc2 (dt_Md_mixedOf.at 19 rfl) (-4658895280553007687) wd_1435 ?_
  refine r_lmul (dt_Md_mixedOf.at 20 rfl) ?_
  refine r_nml (fun z3 => ?_)
  refine r_lstore_n (ls' := [.ref a0, .int p1, .int p2, .long z3, .retAddr 0]) (dt_Md_mixedOf.at 21 rfl) (by decide) rfl ?_
  refine r_lload_n (dt_Md_mixedOf.at 22 rfl) rfl ?_
  refine r_lload_n (dt_Md_mixedOf.at 23 rfl) rfl ?_
  refine r_bipush (dt_Md_mixedOf.at 24 rfl) 27 (by decide) ?_
  refine r_lushr (dt_Md_mixedOf.at 25 rfl) ?_
  refine r_lxor (dt_Md_mixedOf.at 26 rfl) ?_
  refine r_ldc2 (dt_Md_mixedOf.at 27 rfl) (-7723592293110705685) wd_1436 ?_
  refine r_lmul (dt_Md_mixedOf.at 28 rfl) ?_
  refine r_nml (fun z4 => ?_)
  refine r_lstore_n (ls' := [.ref a0, .int p1, .int p2, .long z4, .retAddr 0]) (dt_Md_mixedOf.at 29 rfl) (by decide) rfl ?_
  refine r_lload_n (dt_Md_mixedOf.at 30 rfl) rfl ?_
  refine r_lload_n (dt_Md_mixedOf.at 31 rfl) rfl ?_
  refine r_bipush (dt_Md_mixedOf.at 32 rfl) 31 (by decide) ?_
  refine r_lushr (dt_Md_mixedOf.at 33 rfl) ?_
  refine r_lxor (dt_Md_mixedOf.at 34 rfl) ?_
  exact r_lret (dt_Md_mixedOf.at 35 rfl) rfl
set_option maxRecDepth 20000 in
set_option maxHeartbeats 2000000 in
theorem ct_Md_mixed {G : am_G} {l : Launch} (a0 : Nat) (p1 : Int32) (p2 : Int32) (M : am_M) : Ct G l y_Md_mixed X_Md_mixed [.ref a0, .int p1, .int p2] M (F_Md_mixed a0 p1 p2 M) := by
  refine Ct.of (by decide +kernel) rfl rfl (Nat.le_of_ble_eq_true rfl) ?_
  unfold F_Md_mixed
  show Rf G l X_Md_mixed 0 [.ref a0, .int p1, .int p2] [] M _
  refine r_aload_n (dt_Md_mixed.at 0 rfl) rfl ?_
  refine r_fI (dt_Md_mixed.at 1 rfl) fl_Md_219 rfl (fun x1 => ?_)
  refine r_if_eq (tgt := 16) (dt_Md_mixed.at 2 rfl) (by decide) ?_ ?_
  · refine r_lconst (dt_Md_mixed.at 8 rfl) 0 (by decide) ?_
    exact r_lret (dt_Md_mixed.at 9 rfl) rfl
  · refine r_aload_n (dt_Md_mixed.at 3 rfl) rfl ?_
    refine r_iload_n (dt_Md_mixed.at 4 rfl) rfl ?_
    refine r_iload_n (dt_Md_mixed.at 5 rfl) rfl ?_
    refine r_cvL (c := 9) (rest := []) (ct_Md_mixedOf a0 p1 p2 _) (dt_Md_mixed.at 6 rfl) mb_Md_mixedOf wd_1429 wd_1431 wp_55 rfl (by decide) rfl rfl (Nat.le_of_ble_eq_true rfl) (fun z3 M2 => ?_)
    refine r_goto (tgt := 17) (dt_Md_mixed.at 7 rfl) (by decide) ?_
    exact r_lret (dt_Md_mixed.at 9 rfl) rfl
set_option maxRecDepth 20000 in
set_option maxHeartbeats 2000000 in
theorem ct_Md_first {G : am_G} {l : Launch} (p1 : Int32) (M : am_M) : Ct G l y_Md_first X_Md_first [.int p1] M (F_Md_first p1 M) := by
  refine Ct.of (by decide +kernel) rfl rfl (Nat.le_of_ble_eq_true rfl) ?_
  unfold F_Md_first
  show Rf G l X_Md_first 0 [.int p1] [] M _
  refine r_iload_n (dt_Md_first.at 0 rfl) rfl ?_
  refine r_bipush (dt_Md_first.at 1 rfl) 16 (by decide) ?_
  refine r_idivk (dt_Md_first.at 2 rfl) (by decide) ?_
  refine r_iconst (dt_Md_first.at 3 rfl) 1 (by decide) ?_
  refine r_isub (dt_Md_first.at 4 rfl) ?_
  exact r_iret (dt_Md_first.at 5 rfl) rfl
set_option maxRecDepth 20000 in
set_option maxHeartbeats 2000000 in
theorem ct_Md_hasChild {G : am_G} {l : Launch} (a0 : Nat) (p1 : Int32) (p2 : Int32) (M : am_M) : Ct G l y_Md_hasChild X_Md_hasChild [.ref a0, .int p1, .int p2] M (F_Md_hasChild a0 p1 p2 M) := by
  refine Ct.of (by decide +kernel) rfl rfl (Nat.le_of_ble_eq_true rfl) ?_
  unfold F_Md_hasChild
  show Rf G l X_Md_hasChild 0 [.ref a0, .int p1, .int p2] [] M _
  refine r_iload_n (dt_Md_hasChild.at 0 rfl) rfl ?_
  refine r_i2l (dt_Md_hasChild.at 1 rfl) ?_
  refine r_lconst (dt_Md_hasChild.at 2 rfl) 0 (by decide) ?_
  refine r_aload_n (dt_Md_hasChild.at 3 rfl) rfl ?_
  refine r_fR (dt_Md_hasChild.at 4 rfl) fl_Md_13 rfl (fun b1 => ?_)
  refine r_bipush (dt_Md_hasChild.at 5 rfl) 8 (by decide) ?_
  refine r_iload_n (dt_Md_hasChild.at 6 rfl) rfl ?_
  refine r_imul (dt_Md_hasChild.at 7 rfl) ?_
  refine r_bipush (dt_Md_hasChild.at 8 rfl) 6 (by decide) ?_
  refine r_iadd (dt_Md_hasChild.at 9 rfl) ?_
  refine r_aI (dt_Md_hasChild.at 10 rfl) (fun x2 => ?_)
  refine r_iconst (dt_Md_hasChild.at 11 rfl) 1 (by decide) ?_
  refine r_isub (dt_Md_hasChild.at 12 rfl) ?_
  refine r_i2l (dt_Md_hasChild.at 13 rfl) ?_
  refine r_csI (rest := []) (ct_Md_in (p2.toInt64) 0 ((x2 - 1).toInt64) _) (dt_Md_hasChild.at 14 rfl) mb_Md_in wd_1289 wd_1290 (by decide) rfl rfl (Nat.le_of_ble_eq_true rfl) (fun r4 M3 => ?_)
  exact r_zretC (dt_Md_hasChild.at 15 rfl) rfl
set_option maxRecDepth 20000 in
set_option maxHeartbeats 2000000 in
theorem ct_Md_second {G : am_G} {l : Launch} (p1 : Int32) (M : am_M) : Ct G l y_Md_second X_Md_second [.int p1] M (F_Md_second p1 M) := by
  refine Ct.of (by decide +kernel) rfl rfl (Nat.le_of_ble_eq_true rfl) ?_
  unfold F_Md_second
  show Rf G l X_Md_second 0 [.int p1] [] M _
  refine r_iload_n (dt_Md_second.at 0 rfl) rfl ?_
  refine r_bipush (dt_Md_second.at 1 rfl) 16 (by decide) ?_
  refine r_iremk (dt_Md_second.at 2 rfl) (by decide) ?_
  refine r_iconst (dt_Md_second.at 3 rfl) 1 (by decide) ?_
  refine r_isub (dt_Md_second.at 4 rfl) ?_
  exact r_iret (dt_Md_second.at 5 rfl) rfl
set_option maxRecDepth 20000 in
set_option maxHeartbeats 2000000 in
theorem ct_Md_isSpark {G : am_G} {l : Launch} (a0 : Nat) (p1 : Int32) (M : am_M) : Ct G l y_Md_isSpark X_Md_isSpark [.ref a0, .int p1] M (F_Md_isSpark a0 p1 M) := by
  refine Ct.of (by decide +kernel) rfl rfl (Nat.le_of_ble_eq_true rfl) ?_
  unfold F_Md_isSpark
  show Rf G l X_Md_isSpark 0 [.ref a0, .int p1, .retAddr 0, .retAddr 0, .retAddr 0] [] M _
  refine r_aload_n (dt_Md_isSpark.at 0 rfl) rfl ?_
  refine r_fI (dt_Md_isSpark.at 1 rfl) fl_Md_219 rfl (fun x1 => ?_)
  refine r_if_eq (tgt := 11) (dt_Md_isSpark.at 2 rfl) (by decide) ?_ ?_
  · refine r_iconst (dt_Md_isSpark.at 5 rfl) 0 (by decide) ?_
    exact r_zret (dt_Md_isSpark.at 6 rfl) rfl rfl
  · refine r_iload_n (dt_Md_isSpark.at 3 rfl) rfl ?_
    refine r_if_ge (tgt := 13) (dt_Md_isSpark.at 4 rfl) (by decide) ?_ ?_
    · refine r_iload_n (dt_Md_isSpark.at 7 rfl) rfl ?_
      refine r_sipush (dt_Md_isSpark.at 8 rfl) 256 (by decide) ?_
      refine r_idivk (dt_Md_isSpark.at 9 rfl) (by decide) ?_
      refine r_iconst (dt_Md_isSpark.at 10 rfl) 4 (by decide) ?_
      refine r_iremk (dt_Md_isSpark.at 11 rfl) (by decide) ?_
      refine r_nmi (fun x2 => ?_)
      refine r_istore_n (ls' := [.ref a0, .int p1, .int x2, .retAddr 0, .retAddr 0]) (dt_Md_isSpark.at 12 rfl) (by decide) rfl ?_
      refine r_iload_n (dt_Md_isSpark.at 13 rfl) rfl ?_
      refine r_aload_n (dt_Md_isSpark.at 14 rfl) rfl ?_
      refine r_fI (dt_Md_isSpark.at 15 rfl) fl_Md_227 rfl (fun x3 => ?_)
      refine r_icmp_ge (tgt := 44) (dt_Md_isSpark.at 16 rfl) (by decide) ?_ ?_
      · refine r_iconst (dt_Md_isSpark.at 26 rfl) 0 (by decide) ?_
        exact r_zret (dt_Md_isSpark.at 27 rfl) rfl rfl
      · refine r_iload_n (dt_Md_isSpark.at 17 rfl) rfl ?_
        refine r_sipush (dt_Md_isSpark.at 18 rfl) 256 (by decide) ?_
        refine r_idivk (dt_Md_isSpark.at 19 rfl) (by decide) ?_
        refine r_iconst (dt_Md_isSpark.at 20 rfl) 4 (by decide) ?_
        refine r_idivk (dt_Md_isSpark.at 21 rfl) (by decide) ?_
        refine r_aload_n (dt_Md_isSpark.at 22 rfl) rfl ?_
        refine r_iload_n (dt_Md_isSpark.at 23 rfl) rfl ?_
        refine r_cvI (c := 9) (rest := [.int ((p1 / 256) / 4)]) (ct_Md_roots a0 x2 _) (dt_Md_isSpark.at 24 rfl) mb_Md_roots wd_1395 wd_1397 wp_51 rfl (by decide) rfl rfl (Nat.le_of_ble_eq_true rfl) (fun r5 M4 => ?_)
        refine r_icmp_lt (tgt := 46) (dt_Md_isSpark.at 25 rfl) (by decide) ?_ ?_
        · refine r_iload_n (dt_Md_isSpark.at 28 rfl) rfl ?_
          refine r_sipush (dt_Md_isSpark.at 29 rfl) 256 (by decide) ?_
          refine r_iremk (dt_Md_isSpark.at 30 rfl) (by decide) ?_
          refine r_nmi (fun x6 => ?_)
          refine r_istore_n (ls' := [.ref a0, .int p1, .int x2, .int x6, .retAddr 0]) (dt_Md_isSpark.at 31 rfl) (by decide) rfl ?_
          refine r_iload_n (dt_Md_isSpark.at 32 rfl) rfl ?_
          refine r_if_ne (tgt := 58) (dt_Md_isSpark.at 33 rfl) (by decide) ?_ ?_
          · refine r_iconst (dt_Md_isSpark.at 34 rfl) 1 (by decide) ?_
            exact r_zret (dt_Md_isSpark.at 35 rfl) rfl rfl
          · refine r_aload_n (dt_Md_isSpark.at 36 rfl) rfl ?_
            refine r_iload_n (dt_Md_isSpark.at 37 rfl) rfl ?_
            refine r_iconst (dt_Md_isSpark.at 38 rfl) 0 (by decide) ?_
            refine r_cvI (c := 9) (rest := []) (ct_Md_ofSource a0 x2 0 _) (dt_Md_isSpark.at 39 rfl) mb_Md_ofSource wd_1403 wd_1405 wp_53 rfl (by decide) rfl rfl (Nat.le_of_ble_eq_true rfl) (fun r8 M7 => ?_)
            refine r_istore (ls' := [.ref a0, .int p1, .int x2, .int x6, .int r8]) (dt_Md_isSpark.at 40 rfl) (by decide) rfl ?_
            refine r_aload_n (dt_Md_isSpark.at 41 rfl) rfl ?_
            refine r_iload (dt_Md_isSpark.at 42 rfl) rfl ?_
            refine r_iload_n (dt_Md_isSpark.at 43 rfl) rfl ?_
            refine r_csI (rest := [.int r8, .ref a0]) (ct_Md_first x6 _) (dt_Md_isSpark.at 44 rfl) mb_Md_first wd_1445 wd_1446 (by decide) rfl rfl (Nat.le_of_ble_eq_true rfl) (fun r10 M9 => ?_)
            refine r_cvI (c := 9) (rest := []) (ct_Md_hasChild a0 r8 r10 _) (dt_Md_isSpark.at 45 rfl) mb_Md_hasChild wd_1448 wd_1450 wp_57 rfl (by decide) rfl rfl (Nat.le_of_ble_eq_true rfl) (fun r12 M11 => ?_)
            refine r_if_ne (tgt := 81) (dt_Md_isSpark.at 46 rfl) (by decide) ?_ ?_
            · refine r_iconst (dt_Md_isSpark.at 47 rfl) 0 (by decide) ?_
              exact r_zret (dt_Md_isSpark.at 48 rfl) rfl rfl
            · refine r_iload_n (dt_Md_isSpark.at 49 rfl) rfl ?_
              refine r_bipush (dt_Md_isSpark.at 50 rfl) 16 (by decide) ?_
              refine r_iremk (dt_Md_isSpark.at 51 rfl) (by decide) ?_
              refine r_if_eq (tgt := 112) (dt_Md_isSpark.at 52 rfl) (by decide) ?_ ?_
              · refine r_iconst (dt_Md_isSpark.at 66 rfl) 1 (by decide) ?_
                refine r_goto (tgt := 117) (dt_Md_isSpark.at 67 rfl) (by decide) ?_
                exact r_zret (dt_Md_isSpark.at 69 rfl) rfl rfl
              · refine r_aload_n (dt_Md_isSpark.at 53 rfl) rfl ?_
                refine r_aload_n (dt_Md_isSpark.at 54 rfl) rfl ?_
                refine r_fR (dt_Md_isSpark.at 55 rfl) fl_Md_13 rfl (fun b13 => ?_)
                refine r_bipush (dt_Md_isSpark.at 56 rfl) 8 (by decide) ?_
                refine r_iload (dt_Md_isSpark.at 57 rfl) rfl ?_
                refine r_imul (dt_Md_isSpark.at 58 rfl) ?_
                refine r_bipush (dt_Md_isSpark.at 59 rfl) 7 (by decide) ?_
                refine r_iadd (dt_Md_isSpark.at 60 rfl) ?_
                refine r_aI (dt_Md_isSpark.at 61 rfl) (fun x14 => ?_)
                refine r_iload_n (dt_Md_isSpark.at 62 rfl) rfl ?_
                refine r_csI (rest := [.int x14, .ref a0]) (ct_Md_second x6 _) (dt_Md_isSpark.at 63 rfl) mb_Md_second wd_1452 wd_1453 (by decide) rfl rfl (Nat.le_of_ble_eq_true rfl) (fun r16 M15 => ?_)
                refine r_cvI (c := 9) (rest := []) (ct_Md_hasChild a0 x14 r16 _) (dt_Md_isSpark.at 64 rfl) mb_Md_hasChild wd_1448 wd_1450 wp_57 rfl (by decide) rfl rfl (Nat.le_of_ble_eq_true rfl) (fun r18 M17 => ?_)
                refine r_if_eq (tgt := 116) (dt_Md_isSpark.at 65 rfl) (by decide) ?_ ?_
                · refine r_iconst (dt_Md_isSpark.at 68 rfl) 0 (by decide) ?_
                  exact r_zret (dt_Md_isSpark.at 69 rfl) rfl rfl
                · refine r_iconst (dt_Md_isSpark.at 66 rfl) 1 (by decide) ?_
                  refine r_goto (tgt := 117) (dt_Md_isSpark.at 67 rfl) (by decide) ?_
                  exact r_zret (dt_Md_isSpark.at 69 rfl) rfl rfl
        · refine r_iconst (dt_Md_isSpark.at 26 rfl) 0 (by decide) ?_
          exact r_zret (dt_Md_isSpark.at 27 rfl) rfl rfl
    · refine r_iconst (dt_Md_isSpark.at 5 rfl) 0 (by decide) ?_
      exact r_zret (dt_Md_isSpark.at 6 rfl) rfl rfl
set_option maxRecDepth 20000 in
set_option maxHeartbeats 2000000 in
theorem ct_Md_is {G : am_G} {l : Launch} (a0 : Nat) (p1 : Int32) (M : am_M) : Ct G l y_Md_is X_Md_is [.ref a0, .int p1] M (F_Md_is a0 p1 M) := by
  refine Ct.of (by decide +kernel) rfl rfl (Nat.le_of_ble_eq_true rfl) ?_
  unfold F_Md_is
  show Rf G l X_Md_is 0 [.ref a0, .int p1] [] M _
  refine r_aload_n (dt_Md_is.at 0 rfl) rfl ?_
  refine r_fI (dt_Md_is.at 1 rfl) fl_Md_219 rfl (fun x1 => ?_)
  refine r_if_ne (tgt := 12) (dt_Md_is.at 2 rfl) (by decide) ?_ ?_
  · refine r_bipush (dt_Md_is.at 3 rfl) (-2) (by decide) ?_
    refine r_goto (tgt := 25) (dt_Md_is.at 4 rfl) (by decide) ?_
    exact r_iret (dt_Md_is.at 12 rfl) rfl
  · refine r_aload_n (dt_Md_is.at 5 rfl) rfl ?_
    refine r_iload_n (dt_Md_is.at 6 rfl) rfl ?_
    refine r_cvI (c := 9) (rest := []) (ct_Md_isSpark a0 p1 _) (dt_Md_is.at 7 rfl) mb_Md_isSpark wd_1441 wd_1443 wp_56 rfl (by decide) rfl rfl (Nat.le_of_ble_eq_true rfl) (fun r3 M2 => ?_)
    refine r_if_eq (tgt := 24) (dt_Md_is.at 8 rfl) (by decide) ?_ ?_
    · refine r_iconst (dt_Md_is.at 11 rfl) 0 (by decide) ?_
      exact r_iret (dt_Md_is.at 12 rfl) rfl
    · refine r_iconst (dt_Md_is.at 9 rfl) 1 (by decide) ?_
      refine r_goto (tgt := 25) (dt_Md_is.at 10 rfl) (by decide) ?_
      exact r_iret (dt_Md_is.at 12 rfl) rfl
set_option maxRecDepth 20000 in
set_option maxHeartbeats 2000000 in
theorem ct_Md_generation {G : am_G} {l : Launch} (p1 : Int32) (M : am_M) : Ct G l y_Md_generation X_Md_generation [.int p1] M (F_Md_generation p1 M) := by
  refine Ct.of (by decide +kernel) rfl rfl (Nat.le_of_ble_eq_true rfl) ?_
  unfold F_Md_generation
  show Rf G l X_Md_generation 0 [.int p1] [] M _
  refine r_iload_n (dt_Md_generation.at 0 rfl) rfl ?_
  refine r_sipush (dt_Md_generation.at 1 rfl) 256 (by decide) ?_
  refine r_iremk (dt_Md_generation.at 2 rfl) (by decide) ?_
  refine r_if_ne (tgt := 12) (dt_Md_generation.at 3 rfl) (by decide) ?_ ?_
  · refine r_iconst (dt_Md_generation.at 4 rfl) 0 (by decide) ?_
    refine r_goto (tgt := 24) (dt_Md_generation.at 5 rfl) (by decide) ?_
    exact r_iret (dt_Md_generation.at 13 rfl) rfl
  · refine r_iload_n (dt_Md_generation.at 6 rfl) rfl ?_
    refine r_bipush (dt_Md_generation.at 7 rfl) 16 (by decide) ?_
    refine r_iremk (dt_Md_generation.at 8 rfl) (by decide) ?_
    refine r_if_ne (tgt := 23) (dt_Md_generation.at 9 rfl) (by decide) ?_ ?_
    · refine r_iconst (dt_Md_generation.at 10 rfl) 1 (by decide) ?_
      refine r_goto (tgt := 24) (dt_Md_generation.at 11 rfl) (by decide) ?_
      exact r_iret (dt_Md_generation.at 13 rfl) rfl
    · refine r_iconst (dt_Md_generation.at 12 rfl) 2 (by decide) ?_
      exact r_iret (dt_Md_generation.at 13 rfl) rfl
set_option maxRecDepth 20000 in
set_option maxHeartbeats 2000000 in
theorem rf_Md_kindOf_L29 {G : am_G} {l : Launch}   : ∀ (n : Nat) (v0 : Nat) (v3 : Int32) (v4 : Int32) (M : am_M), Rf G l X_Md_kindOf 29 [.ref v0, .retAddr 0, .retAddr 0, .int v3, .int v4] [] M (F_Md_kindOf_L29 n v0 v3 v4 M) := by
  intro n
  induction n with
  | zero => intro v0 v3 v4 M; exact Rf.no
  | succ n ih =>
    intro v0 v3 v4 M
    unfold F_Md_kindOf_L29
    refine r_iload (dt_Md_kindOf.at 18 rfl) rfl ?_
    refine r_if_le (tgt := 53) (dt_Md_kindOf.at 19 rfl) (by decide) ?_ ?_
    · refine r_iload_n (dt_Md_kindOf.at 31 rfl) rfl ?_
      exact r_iret (dt_Md_kindOf.at 32 rfl) rfl
    · refine r_aload_n (dt_Md_kindOf.at 20 rfl) rfl ?_
      refine r_fR (dt_Md_kindOf.at 21 rfl) fl_Md_13 rfl (fun b6 => ?_)
      refine r_bipush (dt_Md_kindOf.at 22 rfl) 8 (by decide) ?_
      refine r_iload_n (dt_Md_kindOf.at 23 rfl) rfl ?_
      refine r_imul (dt_Md_kindOf.at 24 rfl) ?_
      refine r_bipush (dt_Md_kindOf.at 25 rfl) 7 (by decide) ?_
      refine r_iadd (dt_Md_kindOf.at 26 rfl) ?_
      refine r_aI (dt_Md_kindOf.at 27 rfl) (fun x7 => ?_)
      refine r_istore_n (ls' := [.ref v0, .retAddr 0, .retAddr 0, .int x7, .int v4]) (dt_Md_kindOf.at 28 rfl) (by decide) rfl ?_
      refine r_iincn (v := (-1)) (dt_Md_kindOf.at 29 rfl) (by decide) rfl (by decide) (fun y => [.ref v0, .retAddr 0, .retAddr 0, .int x7, .int y]) (fun _ => rfl) (fun x8 => ?_)
      refine r_goto (tgt := 29) (dt_Md_kindOf.at 30 rfl) (by decide) ?_
      exact Rf.msk [true, false, false, true, true] (ih v0 x7 x8 M)
set_option maxRecDepth 20000 in
set_option maxHeartbeats 2000000 in
theorem ct_Md_kindOf {G : am_G} {l : Launch} (a0 : Nat) (p1 : Int32) (M : am_M) : Ct G l y_Md_kindOf X_Md_kindOf [.ref a0, .int p1] M (F_Md_kindOf a0 p1 M) := by
  refine Ct.of (by decide +kernel) rfl rfl (Nat.le_of_ble_eq_true rfl) ?_
  unfold F_Md_kindOf
  show Rf G l X_Md_kindOf 0 [.ref a0, .int p1, .retAddr 0, .retAddr 0, .retAddr 0] [] M _
  refine r_iload_n (dt_Md_kindOf.at 0 rfl) rfl ?_
  refine r_sipush (dt_Md_kindOf.at 1 rfl) 256 (by decide) ?_
  refine r_iremk (dt_Md_kindOf.at 2 rfl) (by decide) ?_
  refine r_nmi (fun x1 => ?_)
  refine r_istore_n (ls' := [.ref a0, .int p1, .int x1, .retAddr 0, .retAddr 0]) (dt_Md_kindOf.at 3 rfl) (by decide) rfl ?_
  refine r_aload_n (dt_Md_kindOf.at 4 rfl) rfl ?_
  refine r_iload_n (dt_Md_kindOf.at 5 rfl) rfl ?_
  refine r_sipush (dt_Md_kindOf.at 6 rfl) 256 (by decide) ?_
  refine r_idivk (dt_Md_kindOf.at 7 rfl) (by decide) ?_
  refine r_iconst (dt_Md_kindOf.at 8 rfl) 4 (by decide) ?_
  refine r_iremk (dt_Md_kindOf.at 9 rfl) (by decide) ?_
  refine r_iconst (dt_Md_kindOf.at 10 rfl) 0 (by decide) ?_
  refine r_cvI (c := 9) (rest := []) (ct_Md_ofSource a0 ((p1 / 256) - (p1 / 256) / 4 * 4) 0 _) (dt_Md_kindOf.at 11 rfl) mb_Md_ofSource wd_1403 wd_1405 wp_53 rfl (by decide) rfl rfl (Nat.le_of_ble_eq_true rfl) (fun r3 M2 => ?_)
  refine r_istore_n (ls' := [.ref a0, .int p1, .int x1, .int r3, .retAddr 0]) (dt_Md_kindOf.at 12 rfl) (by decide) rfl ?_
  refine r_sipush (dt_Md_kindOf.at 13 rfl) 256 (by decide) ?_
  refine r_iload_n (dt_Md_kindOf.at 14 rfl) rfl ?_
  refine r_iadd (dt_Md_kindOf.at 15 rfl) ?_
  refine r_csI (rest := []) (ct_Md_generation (256 + x1) _) (dt_Md_kindOf.at 16 rfl) mb_Md_generation wd_1463 wd_1464 (by decide) rfl rfl (Nat.le_of_ble_eq_true rfl) (fun r5 M4 => ?_)
  refine r_istore (ls' := [.ref a0, .int p1, .int x1, .int r3, .int r5]) (dt_Md_kindOf.at 17 rfl) (by decide) rfl ?_
  exact Rf.msk [true, false, false, true, true] (rf_Md_kindOf_L29 fu a0 r3 r5 M4)
set_option maxRecDepth 20000 in
set_option maxHeartbeats 2000000 in
theorem ct_Md_childOf {G : am_G} {l : Launch} (a0 : Nat) (p1 : Int32) (p2 : Int32) (M : am_M) : Ct G l y_Md_childOf X_Md_childOf [.ref a0, .int p1, .int p2] M (F_Md_childOf a0 p1 p2 M) := by
  refine Ct.of (by decide +kernel) rfl rfl (Nat.le_of_ble_eq_true rfl) ?_
  unfold F_Md_childOf
  show Rf G l X_Md_childOf 0 [.ref a0, .int p1, .int p2, .retAddr 0] [] M _
  refine r_iload_n (dt_Md_childOf.at 0 rfl) rfl ?_
  refine r_csI (rest := []) (ct_Md_generation p1 _) (dt_Md_childOf.at 1 rfl) mb_Md_generation wd_1463 wd_1464 (by decide) rfl rfl (Nat.le_of_ble_eq_true rfl) (fun r2 M1 => ?_)
  refine r_istore_n (ls' := [.ref a0, .int p1, .int p2, .int r2]) (dt_Md_childOf.at 2 rfl) (by decide) rfl ?_
  refine r_iload_n (dt_Md_childOf.at 3 rfl) rfl ?_
  refine r_iconst (dt_Md_childOf.at 4 rfl) 2 (by decide) ?_
  refine r_icmp_eq (tgt := 23) (dt_Md_childOf.at 5 rfl) (by decide) ?_ ?_
  · refine r_iconst (dt_Md_childOf.at 13 rfl) (-1) (by decide) ?_
    refine r_goto (tgt := 43) (dt_Md_childOf.at 14 rfl) (by decide) ?_
    exact r_iret (dt_Md_childOf.at 26 rfl) rfl
  · refine r_aload_n (dt_Md_childOf.at 6 rfl) rfl ?_
    refine r_aload_n (dt_Md_childOf.at 7 rfl) rfl ?_
    refine r_iload_n (dt_Md_childOf.at 8 rfl) rfl ?_
    refine r_cvI (c := 9) (rest := [.ref a0]) (ct_Md_kindOf a0 p1 _) (dt_Md_childOf.at 9 rfl) mb_Md_kindOf wd_1466 wd_1468 wp_59 rfl (by decide) rfl rfl (Nat.le_of_ble_eq_true rfl) (fun r4 M3 => ?_)
    refine r_iload_n (dt_Md_childOf.at 10 rfl) rfl ?_
    refine r_cvI (c := 9) (rest := []) (ct_Md_hasChild a0 r4 p2 _) (dt_Md_childOf.at 11 rfl) mb_Md_hasChild wd_1448 wd_1450 wp_57 rfl (by decide) rfl rfl (Nat.le_of_ble_eq_true rfl) (fun r6 M5 => ?_)
    refine r_if_ne (tgt := 27) (dt_Md_childOf.at 12 rfl) (by decide) ?_ ?_
    · refine r_iconst (dt_Md_childOf.at 13 rfl) (-1) (by decide) ?_
      refine r_goto (tgt := 43) (dt_Md_childOf.at 14 rfl) (by decide) ?_
      exact r_iret (dt_Md_childOf.at 26 rfl) rfl
    · refine r_iload_n (dt_Md_childOf.at 15 rfl) rfl ?_
      refine r_iload_n (dt_Md_childOf.at 16 rfl) rfl ?_
      refine r_if_ne (tgt := 37) (dt_Md_childOf.at 17 rfl) (by decide) ?_ ?_
      · refine r_bipush (dt_Md_childOf.at 18 rfl) 16 (by decide) ?_
        refine r_goto (tgt := 38) (dt_Md_childOf.at 19 rfl) (by decide) ?_
        refine r_iconst (dt_Md_childOf.at 21 rfl) 1 (by decide) ?_
        refine r_iload_n (dt_Md_childOf.at 22 rfl) rfl ?_
        refine r_iadd (dt_Md_childOf.at 23 rfl) ?_
        refine r_imul (dt_Md_childOf.at 24 rfl) ?_
        refine r_iadd (dt_Md_childOf.at 25 rfl) ?_
        exact r_iret (dt_Md_childOf.at 26 rfl) rfl
      · refine r_iconst (dt_Md_childOf.at 20 rfl) 1 (by decide) ?_
        refine r_iconst (dt_Md_childOf.at 21 rfl) 1 (by decide) ?_
        refine r_iload_n (dt_Md_childOf.at 22 rfl) rfl ?_
        refine r_iadd (dt_Md_childOf.at 23 rfl) ?_
        refine r_imul (dt_Md_childOf.at 24 rfl) ?_
        refine r_iadd (dt_Md_childOf.at 25 rfl) ?_
        exact r_iret (dt_Md_childOf.at 26 rfl) rfl
set_option maxRecDepth 20000 in
set_option maxHeartbeats 2000000 in
theorem ct_Md_child {G : am_G} {l : Launch} (a0 : Nat) (p1 : Int32) (p2 : Int32) (M : am_M) : Ct G l y_Md_child X_Md_child [.ref a0, .int p1, .int p2] M (F_Md_child a0 p1 p2 M) := by
  refine Ct.of (by decide +kernel) rfl rfl (Nat.le_of_ble_eq_true rfl) ?_
  unfold F_Md_child
  show Rf G l X_Md_child 0 [.ref a0, .int p1, .int p2] [] M _
  refine r_aload_n (dt_Md_child.at 0 rfl) rfl ?_
  refine r_iload_n (dt_Md_child.at 1 rfl) rfl ?_
  refine r_cvI (c := 9) (rest := []) (ct_Md_isSpark a0 p1 _) (dt_Md_child.at 2 rfl) mb_Md_isSpark wd_1441 wd_1443 wp_56 rfl (by decide) rfl rfl (Nat.le_of_ble_eq_true rfl) (fun r2 M1 => ?_)
  refine r_if_eq (tgt := 17) (dt_Md_child.at 3 rfl) (by decide) ?_ ?_
  · refine r_bipush (dt_Md_child.at 9 rfl) (-2) (by decide) ?_
    exact r_iret (dt_Md_child.at 10 rfl) rfl
  · refine r_aload_n (dt_Md_child.at 4 rfl) rfl ?_
    refine r_iload_n (dt_Md_child.at 5 rfl) rfl ?_
    refine r_iload_n (dt_Md_child.at 6 rfl) rfl ?_
    refine r_cvI (c := 9) (rest := []) (ct_Md_childOf a0 p1 p2 _) (dt_Md_child.at 7 rfl) mb_Md_childOf wd_1459 wd_1461 wp_58 rfl (by decide) rfl rfl (Nat.le_of_ble_eq_true rfl) (fun r4 M3 => ?_)
    refine r_goto (tgt := 19) (dt_Md_child.at 8 rfl) (by decide) ?_
    exact r_iret (dt_Md_child.at 10 rfl) rfl
set_option maxRecDepth 20000 in
set_option maxHeartbeats 2000000 in
theorem ct_Md_parentOf {G : am_G} {l : Launch} (p1 : Int32) (M : am_M) : Ct G l y_Md_parentOf X_Md_parentOf [.int p1] M (F_Md_parentOf p1 M) := by
  refine Ct.of (by decide +kernel) rfl rfl (Nat.le_of_ble_eq_true rfl) ?_
  unfold F_Md_parentOf
  show Rf G l X_Md_parentOf 0 [.int p1] [] M _
  refine r_iload_n (dt_Md_parentOf.at 0 rfl) rfl ?_
  refine r_csI (rest := []) (ct_Md_generation p1 _) (dt_Md_parentOf.at 1 rfl) mb_Md_generation wd_1463 wd_1464 (by decide) rfl rfl (Nat.le_of_ble_eq_true rfl) (fun r2 M1 => ?_)
  refine r_iconst (dt_Md_parentOf.at 2 rfl) 2 (by decide) ?_
  refine r_icmp_ne (tgt := 17) (dt_Md_parentOf.at 3 rfl) (by decide) ?_ ?_
  · refine r_iload_n (dt_Md_parentOf.at 4 rfl) rfl ?_
    refine r_iload_n (dt_Md_parentOf.at 5 rfl) rfl ?_
    refine r_bipush (dt_Md_parentOf.at 6 rfl) 16 (by decide) ?_
    refine r_iremk (dt_Md_parentOf.at 7 rfl) (by decide) ?_
    refine r_isub (dt_Md_parentOf.at 8 rfl) ?_
    refine r_goto (tgt := 24) (dt_Md_parentOf.at 9 rfl) (by decide) ?_
    exact r_iret (dt_Md_parentOf.at 15 rfl) rfl
  · refine r_iload_n (dt_Md_parentOf.at 10 rfl) rfl ?_
    refine r_iload_n (dt_Md_parentOf.at 11 rfl) rfl ?_
    refine r_sipush (dt_Md_parentOf.at 12 rfl) 256 (by decide) ?_
    refine r_iremk (dt_Md_parentOf.at 13 rfl) (by decide) ?_
    refine r_isub (dt_Md_parentOf.at 14 rfl) ?_
    exact r_iret (dt_Md_parentOf.at 15 rfl) rfl
set_option maxRecDepth 20000 in
set_option maxHeartbeats 2000000 in
theorem ct_Md_parent {G : am_G} {l : Launch} (a0 : Nat) (p1 : Int32) (M : am_M) : Ct G l y_Md_parent X_Md_parent [.ref a0, .int p1] M (F_Md_parent a0 p1 M) := by
  refine Ct.of (by decide +kernel) rfl rfl (Nat.le_of_ble_eq_true rfl) ?_
  unfold F_Md_parent
  show Rf G l X_Md_parent 0 [.ref a0, .int p1] [] M _
  refine r_aload_n (dt_Md_parent.at 0 rfl) rfl ?_
  refine r_iload_n (dt_Md_parent.at 1 rfl) rfl ?_
  refine r_cvI (c := 9) (rest := []) (ct_Md_isSpark a0 p1 _) (dt_Md_parent.at 2 rfl) mb_Md_isSpark wd_1441 wd_1443 wp_56 rfl (by decide) rfl rfl (Nat.le_of_ble_eq_true rfl) (fun r2 M1 => ?_)
  refine r_if_ne (tgt := 11) (dt_Md_parent.at 3 rfl) (by decide) ?_ ?_
  · refine r_bipush (dt_Md_parent.at 4 rfl) (-2) (by decide) ?_
    exact r_iret (dt_Md_parent.at 5 rfl) rfl
  · refine r_iload_n (dt_Md_parent.at 6 rfl) rfl ?_
    refine r_csI (rest := []) (ct_Md_generation p1 _) (dt_Md_parent.at 7 rfl) mb_Md_generation wd_1463 wd_1464 (by decide) rfl rfl (Nat.le_of_ble_eq_true rfl) (fun r4 M3 => ?_)
    refine r_if_ne (tgt := 22) (dt_Md_parent.at 8 rfl) (by decide) ?_ ?_
    · refine r_iconst (dt_Md_parent.at 9 rfl) (-1) (by decide) ?_
      refine r_goto (tgt := 26) (dt_Md_parent.at 10 rfl) (by decide) ?_
      exact r_iret (dt_Md_parent.at 13 rfl) rfl
    · refine r_iload_n (dt_Md_parent.at 11 rfl) rfl ?_
      refine r_csI (rest := []) (ct_Md_parentOf p1 _) (dt_Md_parent.at 12 rfl) mb_Md_parentOf wd_1474 wd_1475 (by decide) rfl rfl (Nat.le_of_ble_eq_true rfl) (fun r6 M5 => ?_)
      exact r_iret (dt_Md_parent.at 13 rfl) rfl
set_option maxRecDepth 20000 in
set_option maxHeartbeats 2000000 in
theorem ct_Md_draw {G : am_G} {l : Launch} (a0 : Nat) (p1 : Int32) (p2 : Int32) (p3 : Int32) (M : am_M) : Ct G l y_Md_draw X_Md_draw [.ref a0, .int p1, .int p2, .int p3] M (F_Md_draw a0 p1 p2 p3 M) := by
  refine Ct.of (by decide +kernel) rfl rfl (Nat.le_of_ble_eq_true rfl) ?_
  unfold F_Md_draw
  show Rf G l X_Md_draw 0 [.ref a0, .int p1, .int p2, .int p3] [] M _
  refine r_aload_n (dt_Md_draw.at 0 rfl) rfl ?_
  refine r_iload_n (dt_Md_draw.at 1 rfl) rfl ?_
  refine r_iload_n (dt_Md_draw.at 2 rfl) rfl ?_
  refine r_cvL (c := 9) (rest := []) (ct_Md_mixedOf a0 p1 p2 _) (dt_Md_draw.at 3 rfl) mb_Md_mixedOf wd_1429 wd_1431 wp_55 rfl (by decide) rfl rfl (Nat.le_of_ble_eq_true rfl) (fun z2 M1 => ?_)
  refine r_bipush (dt_Md_draw.at 4 rfl) 33 (by decide) ?_
  refine r_lushr (dt_Md_draw.at 5 rfl) ?_
  refine r_iload_n (dt_Md_draw.at 6 rfl) rfl ?_
  refine r_i2l (dt_Md_draw.at 7 rfl) ?_
  refine r_lrem (dt_Md_draw.at 8 rfl) ?_
  refine r_l2i (dt_Md_draw.at 9 rfl) ?_
  exact r_iret (dt_Md_draw.at 10 rfl) rfl
set_option maxRecDepth 20000 in
set_option maxHeartbeats 2000000 in
theorem ct_Md_edge {G : am_G} {l : Launch} (a0 : Nat) (M : am_M) : Ct G l y_Md_edge X_Md_edge [.ref a0] M (F_Md_edge a0 M) := by
  refine Ct.of (by decide +kernel) rfl rfl (Nat.le_of_ble_eq_true rfl) ?_
  unfold F_Md_edge
  show Rf G l X_Md_edge 0 [.ref a0] [] M _
  refine r_aload_n (dt_Md_edge.at 0 rfl) rfl ?_
  refine r_fR (dt_Md_edge.at 1 rfl) fl_Md_13 rfl (fun b1 => ?_)
  refine r_bipush (dt_Md_edge.at 2 rfl) 8 (by decide) ?_
  refine r_aload_n (dt_Md_edge.at 3 rfl) rfl ?_
  refine r_fI (dt_Md_edge.at 4 rfl) fl_Md_278 rfl (fun x2 => ?_)
  refine r_imul (dt_Md_edge.at 5 rfl) ?_
  refine r_iconst (dt_Md_edge.at 6 rfl) 5 (by decide) ?_
  refine r_iadd (dt_Md_edge.at 7 rfl) ?_
  refine r_aI (dt_Md_edge.at 8 rfl) (fun x3 => ?_)
  exact r_iret (dt_Md_edge.at 9 rfl) rfl
set_option maxRecDepth 20000 in
set_option maxHeartbeats 2000000 in
theorem rf_Md_raw_L31 {G : am_G} {l : Launch}   (v0 : Nat) (v1 : Int32) (v2 : Int32) (s0 : Int32) (M : am_M) : Rf G l X_Md_raw 31 [.ref v0, .int v1, .int v2, .retAddr 0] [.int s0] M (F_Md_raw_L31 v0 v1 v2 s0 M) := by
  unfold F_Md_raw_L31
  refine r_istore_n (ls' := [.ref v0, .int v1, .int v2, .int s0]) (dt_Md_raw.at 22 rfl) (by decide) rfl ?_
  refine r_aload_n (dt_Md_raw.at 23 rfl) rfl ?_
  refine r_fR (dt_Md_raw.at 24 rfl) fl_Md_42 rfl (fun b4 => ?_)
  refine r_iload_n (dt_Md_raw.at 25 rfl) rfl ?_
  refine r_aI (dt_Md_raw.at 26 rfl) (fun x5 => ?_)
  refine r_iload_n (dt_Md_raw.at 27 rfl) rfl ?_
  refine r_aload_n (dt_Md_raw.at 28 rfl) rfl ?_
  refine r_fR (dt_Md_raw.at 29 rfl) fl_Md_45 rfl (fun b6 => ?_)
  refine r_iload_n (dt_Md_raw.at 30 rfl) rfl ?_
  refine r_aI (dt_Md_raw.at 31 rfl) (fun x7 => ?_)
  refine r_imul (dt_Md_raw.at 32 rfl) ?_
  refine r_iadd (dt_Md_raw.at 33 rfl) ?_
  refine r_iload_n (dt_Md_raw.at 34 rfl) rfl ?_
  refine r_iadd (dt_Md_raw.at 35 rfl) ?_
  exact r_iret (dt_Md_raw.at 36 rfl) rfl
set_option maxRecDepth 20000 in
set_option maxHeartbeats 2000000 in
theorem ct_Md_raw {G : am_G} {l : Launch} (a0 : Nat) (p1 : Int32) (p2 : Int32) (M : am_M) : Ct G l y_Md_raw X_Md_raw [.ref a0, .int p1, .int p2] M (F_Md_raw a0 p1 p2 M) := by
  refine Ct.of (by decide +kernel) rfl rfl (Nat.le_of_ble_eq_true rfl) ?_
  unfold F_Md_raw
  show Rf G l X_Md_raw 0 [.ref a0, .int p1, .int p2, .retAddr 0] [] M _
  refine r_iload_n (dt_Md_raw.at 0 rfl) rfl ?_
  refine r_iconst (dt_Md_raw.at 1 rfl) 1 (by decide) ?_
  refine r_icmp_ne (tgt := 30) (dt_Md_raw.at 2 rfl) (by decide) ?_ ?_
  · refine r_aload_n (dt_Md_raw.at 3 rfl) rfl ?_
    refine r_fR (dt_Md_raw.at 4 rfl) fl_Md_13 rfl (fun b1 => ?_)
    refine r_bipush (dt_Md_raw.at 5 rfl) 8 (by decide) ?_
    refine r_aload_n (dt_Md_raw.at 6 rfl) rfl ?_
    refine r_fI (dt_Md_raw.at 7 rfl) fl_Md_278 rfl (fun x2 => ?_)
    refine r_imul (dt_Md_raw.at 8 rfl) ?_
    refine r_iconst (dt_Md_raw.at 9 rfl) 3 (by decide) ?_
    refine r_iadd (dt_Md_raw.at 10 rfl) ?_
    refine r_aI (dt_Md_raw.at 11 rfl) (fun x3 => ?_)
    refine r_iload_n (dt_Md_raw.at 12 rfl) rfl ?_
    refine r_iload_n (dt_Md_raw.at 13 rfl) rfl ?_
    refine r_iconst (dt_Md_raw.at 14 rfl) 1 (by decide) ?_
    refine r_isub (dt_Md_raw.at 15 rfl) ?_
    refine r_imul (dt_Md_raw.at 16 rfl) ?_
    refine r_iconst (dt_Md_raw.at 17 rfl) 2 (by decide) ?_
    refine r_idivk (dt_Md_raw.at 18 rfl) (by decide) ?_
    refine r_imul (dt_Md_raw.at 19 rfl) ?_
    refine r_goto (tgt := 31) (dt_Md_raw.at 20 rfl) (by decide) ?_
    exact Rf.msk [true, true, true, false] (rf_Md_raw_L31 a0 p1 p2 (x3 * ((p2 * (p2 - 1)) / 2)) M)
  · refine r_iconst (dt_Md_raw.at 21 rfl) 0 (by decide) ?_
    exact Rf.msk [true, true, true, false] (rf_Md_raw_L31 a0 p1 p2 0 M)
set_option maxRecDepth 20000 in
set_option maxHeartbeats 2000000 in
theorem ct_Md_world {G : am_G} {l : Launch} (a0 : Nat) (p1 : Int32) (M : am_M) : Ct G l y_Md_world X_Md_world [.ref a0, .int p1] M (F_Md_world a0 p1 M) := by
  refine Ct.of (by decide +kernel) rfl rfl (Nat.le_of_ble_eq_true rfl) ?_
  unfold F_Md_world
  show Rf G l X_Md_world 0 [.ref a0, .int p1] [] M _
  refine r_bipush (dt_Md_world.at 0 rfl) 8 (by decide) ?_
  refine r_aload_n (dt_Md_world.at 1 rfl) rfl ?_
  refine r_fR (dt_Md_world.at 2 rfl) fl_Md_7 rfl (fun b1 => ?_)
  refine r_iload_n (dt_Md_world.at 3 rfl) rfl ?_
  refine r_aI (dt_Md_world.at 4 rfl) (fun x2 => ?_)
  refine r_imul (dt_Md_world.at 5 rfl) ?_
  exact r_iret (dt_Md_world.at 6 rfl) rfl
set_option maxRecDepth 20000 in
set_option maxHeartbeats 2000000 in
theorem rf_Md_isBeyond_L4 {G : am_G} {l : Launch}   : ∀ (n : Nat) (v0 : Nat) (v1 : Int32) (v2 : Int32) (v3 : Int32) (M : am_M), Rf G l X_Md_isBeyond 4 [.ref v0, .int v1, .int v2, .int v3] [] M (F_Md_isBeyond_L4 n v0 v1 v2 v3 M) := by
  intro n
  induction n with
  | zero => intro v0 v1 v2 v3 M; exact Rf.no
  | succ n ih =>
    intro v0 v1 v2 v3 M
    unfold F_Md_isBeyond_L4
    refine r_iload_n (dt_Md_isBeyond.at 4 rfl) rfl ?_
    refine r_iconst (dt_Md_isBeyond.at 5 rfl) 3 (by decide) ?_
    refine r_icmp_ge (tgt := 47) (dt_Md_isBeyond.at 6 rfl) (by decide) ?_ ?_
    · refine r_iload_n (dt_Md_isBeyond.at 29 rfl) rfl ?_
      exact r_zretC (dt_Md_isBeyond.at 30 rfl) rfl
    · refine r_iload_n (dt_Md_isBeyond.at 7 rfl) rfl ?_
      refine r_if_ne (tgt := 35) (dt_Md_isBeyond.at 8 rfl) (by decide) ?_ ?_
      · refine r_aload_n (dt_Md_isBeyond.at 9 rfl) rfl ?_
        refine r_iload_n (dt_Md_isBeyond.at 10 rfl) rfl ?_
        refine r_iload_n (dt_Md_isBeyond.at 11 rfl) rfl ?_
        refine r_cvI (c := 9) (rest := []) (ct_Md_raw v0 v3 v1 _) (dt_Md_isBeyond.at 12 rfl) mb_Md_raw wd_1505 wd_1507 wp_66 rfl (by decide) rfl rfl (Nat.le_of_ble_eq_true rfl) (fun r2 M1 => ?_)
        refine r_i2l (dt_Md_isBeyond.at 13 rfl) ?_
        refine r_lconst (dt_Md_isBeyond.at 14 rfl) 0 (by decide) ?_
        refine r_aload_n (dt_Md_isBeyond.at 15 rfl) rfl ?_
        refine r_iload_n (dt_Md_isBeyond.at 16 rfl) rfl ?_
        refine r_cvI (c := 9) (rest := [.long 0, .long (r2.toInt64)]) (ct_Md_world v0 v3 _) (dt_Md_isBeyond.at 17 rfl) mb_Md_world wd_1509 wd_1511 wp_67 rfl (by decide) rfl rfl (Nat.le_of_ble_eq_true rfl) (fun r4 M3 => ?_)
        refine r_iconst (dt_Md_isBeyond.at 18 rfl) 1 (by decide) ?_
        refine r_isub (dt_Md_isBeyond.at 19 rfl) ?_
        refine r_i2l (dt_Md_isBeyond.at 20 rfl) ?_
        refine r_csI (rest := []) (ct_Md_in (r2.toInt64) 0 ((r4 - 1).toInt64) _) (dt_Md_isBeyond.at 21 rfl) mb_Md_in wd_1289 wd_1290 (by decide) rfl rfl (Nat.le_of_ble_eq_true rfl) (fun r6 M5 => ?_)
        refine r_if_ne (tgt := 39) (dt_Md_isBeyond.at 22 rfl) (by decide) ?_ ?_
        · refine r_iconst (dt_Md_isBeyond.at 23 rfl) 1 (by decide) ?_
          refine r_goto (tgt := 40) (dt_Md_isBeyond.at 24 rfl) (by decide) ?_
          refine r_istore_n (ls' := [.ref v0, .int v1, .int 1, .int v3]) (dt_Md_isBeyond.at 26 rfl) (by decide) rfl ?_
          refine r_iincn (v := 1) (dt_Md_isBeyond.at 27 rfl) (by decide) rfl (by decide) (fun y => [.ref v0, .int v1, .int 1, .int y]) (fun _ => rfl) (fun x7 => ?_)
          refine r_goto (tgt := 4) (dt_Md_isBeyond.at 28 rfl) (by decide) ?_
          exact Rf.msk [true, true, true, true] (ih v0 v1 1 x7 M5)
        · refine r_iconst (dt_Md_isBeyond.at 25 rfl) 0 (by decide) ?_
          refine r_istore_n (ls' := [.ref v0, .int v1, .int 0, .int v3]) (dt_Md_isBeyond.at 26 rfl) (by decide) rfl ?_
          refine r_iincn (v := 1) (dt_Md_isBeyond.at 27 rfl) (by decide) rfl (by decide) (fun y => [.ref v0, .int v1, .int 0, .int y]) (fun _ => rfl) (fun x8 => ?_)
          refine r_goto (tgt := 4) (dt_Md_isBeyond.at 28 rfl) (by decide) ?_
          exact Rf.msk [true, true, true, true] (ih v0 v1 0 x8 M5)
      · refine r_iconst (dt_Md_isBeyond.at 23 rfl) 1 (by decide) ?_
        refine r_goto (tgt := 40) (dt_Md_isBeyond.at 24 rfl) (by decide) ?_
        refine r_istore_n (ls' := [.ref v0, .int v1, .int 1, .int v3]) (dt_Md_isBeyond.at 26 rfl) (by decide) rfl ?_
        refine r_iincn (v := 1) (dt_Md_isBeyond.at 27 rfl) (by decide) rfl (by decide) (fun y => [.ref v0, .int v1, .int 1, .int y]) (fun _ => rfl) (fun x9 => ?_)
        refine r_goto (tgt := 4) (dt_Md_isBeyond.at 28 rfl) (by decide) ?_
        exact Rf.msk [true, true, true, true] (ih v0 v1 1 x9 M)
set_option maxRecDepth 20000 in
set_option maxHeartbeats 2000000 in
theorem ct_Md_isBeyond {G : am_G} {l : Launch} (a0 : Nat) (p1 : Int32) (M : am_M) : Ct G l y_Md_isBeyond X_Md_isBeyond [.ref a0, .int p1] M (F_Md_isBeyond a0 p1 M) := by
  refine Ct.of (by decide +kernel) rfl rfl (Nat.le_of_ble_eq_true rfl) ?_
  unfold F_Md_isBeyond
  show Rf G l X_Md_isBeyond 0 [.ref a0, .int p1, .retAddr 0, .retAddr 0] [] M _
  refine r_iconst (dt_Md_isBeyond.at 0 rfl) 0 (by decide) ?_
  refine r_istore_n (ls' := [.ref a0, .int p1, .int 0, .retAddr 0]) (dt_Md_isBeyond.at 1 rfl) (by decide) rfl ?_
  refine r_iconst (dt_Md_isBeyond.at 2 rfl) 0 (by decide) ?_
  refine r_istore_n (ls' := [.ref a0, .int p1, .int 0, .int 0]) (dt_Md_isBeyond.at 3 rfl) (by decide) rfl ?_
  exact Rf.msk [true, true, true, true] (rf_Md_isBeyond_L4 fu a0 p1 0 0 M)
set_option maxRecDepth 20000 in
set_option maxHeartbeats 2000000 in
theorem rf_Md_laysOne_L111 {G : am_G} {l : Launch}   : ∀ (n : Nat) (v0 : Nat) (v5 : Int32) (v6 : Int32) (M : am_M), Rf G l X_Md_laysOne 111 [.ref v0, .retAddr 0, .retAddr 0, .retAddr 0, .retAddr 0, .int v5, .int v6] [] M (F_Md_laysOne_L111 n v0 v5 v6 M) := by
  intro n
  induction n with
  | zero => intro v0 v5 v6 M; exact Rf.no
  | succ n ih =>
    intro v0 v5 v6 M
    unfold F_Md_laysOne_L111
    refine r_iload (dt_Md_laysOne.at 71 rfl) rfl ?_
    refine r_iload (dt_Md_laysOne.at 72 rfl) rfl ?_
    refine r_icmp_ge (tgt := 133) (dt_Md_laysOne.at 73 rfl) (by decide) ?_ ?_
    · refine r_aload_n (dt_Md_laysOne.at 80 rfl) rfl ?_
      refine r_aload_n (dt_Md_laysOne.at 81 rfl) rfl ?_
      refine r_fI (dt_Md_laysOne.at 82 rfl) fl_Md_292 rfl (fun x14 => ?_)
      refine r_iload (dt_Md_laysOne.at 83 rfl) rfl ?_
      refine r_iadd (dt_Md_laysOne.at 84 rfl) ?_
      refine r_sI (dt_Md_laysOne.at 85 rfl) fl_Md_303 rfl rfl rfl (fun M15 => ?_)
      exact r_vret (dt_Md_laysOne.at 86 rfl) rfl
    · refine r_aload_n (dt_Md_laysOne.at 74 rfl) rfl ?_
      refine r_iload (dt_Md_laysOne.at 75 rfl) rfl ?_
      refine r_cvI (c := 9) (rest := []) (ct_Md_isBeyond v0 v6 _) (dt_Md_laysOne.at 76 rfl) mb_Md_isBeyond wd_1501 wd_1503 wp_65 rfl (by decide) rfl rfl (Nat.le_of_ble_eq_true rfl) (fun r17 M16 => ?_)
      refine r_if_ne (tgt := 133) (dt_Md_laysOne.at 77 rfl) (by decide) ?_ ?_
      · refine r_iincn (v := 1) (dt_Md_laysOne.at 78 rfl) (by decide) rfl (by decide) (fun y => [.ref v0, .retAddr 0, .retAddr 0, .retAddr 0, .retAddr 0, .int v5, .int y]) (fun _ => rfl) (fun x18 => ?_)
        refine r_goto (tgt := 111) (dt_Md_laysOne.at 79 rfl) (by decide) ?_
        exact Rf.msk [true, false, false, false, false, true, true] (ih v0 v5 x18 M16)
      · refine r_aload_n (dt_Md_laysOne.at 80 rfl) rfl ?_
        refine r_aload_n (dt_Md_laysOne.at 81 rfl) rfl ?_
        refine r_fI (dt_Md_laysOne.at 82 rfl) fl_Md_292 rfl (fun x19 => ?_)
        refine r_iload (dt_Md_laysOne.at 83 rfl) rfl ?_
        refine r_iadd (dt_Md_laysOne.at 84 rfl) ?_
        refine r_sI (dt_Md_laysOne.at 85 rfl) fl_Md_303 rfl rfl rfl (fun M20 => ?_)
        exact r_vret (dt_Md_laysOne.at 86 rfl) rfl
set_option maxRecDepth 20000 in
set_option maxHeartbeats 2000000 in
theorem rf_Md_laysOne_L26 {G : am_G} {l : Launch}   : ∀ (n : Nat) (v0 : Nat) (v1 : Int32) (v2 : Int32) (v4 : Int32) (v5 : Int32) (M : am_M), Rf G l X_Md_laysOne 26 [.ref v0, .int v1, .int v2, .retAddr 0, .int v4, .int v5, .retAddr 0] [] M (F_Md_laysOne_L26 n v0 v1 v2 v4 v5 M) := by
  intro n
  induction n with
  | zero => intro v0 v1 v2 v4 v5 M; exact Rf.no
  | succ n ih =>
    intro v0 v1 v2 v4 v5 M
    unfold F_Md_laysOne_L26
    refine r_iload (dt_Md_laysOne.at 17 rfl) rfl ?_
    refine r_iconst (dt_Md_laysOne.at 18 rfl) 3 (by decide) ?_
    refine r_icmp_ge (tgt := 63) (dt_Md_laysOne.at 19 rfl) (by decide) ?_ ?_
    · refine r_aload_n (dt_Md_laysOne.at 39 rfl) rfl ?_
      refine r_fR (dt_Md_laysOne.at 40 rfl) fl_Md_13 rfl (fun b5 => ?_)
      refine r_bipush (dt_Md_laysOne.at 41 rfl) 8 (by decide) ?_
      refine r_iload_n (dt_Md_laysOne.at 42 rfl) rfl ?_
      refine r_imul (dt_Md_laysOne.at 43 rfl) ?_
      refine r_iconst (dt_Md_laysOne.at 44 rfl) 0 (by decide) ?_
      refine r_iadd (dt_Md_laysOne.at 45 rfl) ?_
      refine r_aI (dt_Md_laysOne.at 46 rfl) (fun x6 => ?_)
      refine r_aload_n (dt_Md_laysOne.at 47 rfl) rfl ?_
      refine r_iload_n (dt_Md_laysOne.at 48 rfl) rfl ?_
      refine r_iconst (dt_Md_laysOne.at 49 rfl) 1 (by decide) ?_
      refine r_aload_n (dt_Md_laysOne.at 50 rfl) rfl ?_
      refine r_fR (dt_Md_laysOne.at 51 rfl) fl_Md_13 rfl (fun b7 => ?_)
      refine r_bipush (dt_Md_laysOne.at 52 rfl) 8 (by decide) ?_
      refine r_iload_n (dt_Md_laysOne.at 53 rfl) rfl ?_
      refine r_imul (dt_Md_laysOne.at 54 rfl) ?_
      refine r_iconst (dt_Md_laysOne.at 55 rfl) 1 (by decide) ?_
      refine r_iadd (dt_Md_laysOne.at 56 rfl) ?_
      refine r_aI (dt_Md_laysOne.at 57 rfl) (fun x8 => ?_)
      refine r_iconst (dt_Md_laysOne.at 58 rfl) 1 (by decide) ?_
      refine r_iadd (dt_Md_laysOne.at 59 rfl) ?_
      refine r_cvI (c := 9) (rest := [.int x6]) (ct_Md_draw v0 v1 1 (x8 + 1) _) (dt_Md_laysOne.at 60 rfl) mb_Md_draw wd_1489 wd_1491 wp_62 rfl (by decide) rfl rfl (Nat.le_of_ble_eq_true rfl) (fun r10 M9 => ?_)
      refine r_iadd (dt_Md_laysOne.at 61 rfl) ?_
      refine r_nmi (fun x11 => ?_)
      refine r_istore (ls' := [.ref v0, .int v1, .int v2, .retAddr 0, .int v4, .int x11, .retAddr 0]) (dt_Md_laysOne.at 62 rfl) (by decide) rfl ?_
      refine r_iload (dt_Md_laysOne.at 63 rfl) rfl ?_
      refine r_istore (ls' := [.ref v0, .int v1, .int v2, .retAddr 0, .int v4, .int x11, .int x11]) (dt_Md_laysOne.at 64 rfl) (by decide) rfl ?_
      refine r_aload_n (dt_Md_laysOne.at 65 rfl) rfl ?_
      refine r_cvI (c := 9) (rest := []) (ct_Md_edge v0 _) (dt_Md_laysOne.at 66 rfl) mb_Md_edge wd_1497 wd_1499 wp_64 rfl (by decide) rfl rfl (Nat.le_of_ble_eq_true rfl) (fun r13 M12 => ?_)
      refine r_iconst (dt_Md_laysOne.at 67 rfl) 2 (by decide) ?_
      refine r_icmp_ne (tgt := 133) (dt_Md_laysOne.at 68 rfl) (by decide) ?_ ?_
      · refine r_iconst (dt_Md_laysOne.at 69 rfl) 0 (by decide) ?_
        refine r_istore (ls' := [.ref v0, .int v1, .int v2, .retAddr 0, .int v4, .int x11, .int 0]) (dt_Md_laysOne.at 70 rfl) (by decide) rfl ?_
        exact Rf.msk [true, false, false, false, false, true, true] (rf_Md_laysOne_L111 fu v0 x11 0 M12)
      · refine r_aload_n (dt_Md_laysOne.at 80 rfl) rfl ?_
        refine r_aload_n (dt_Md_laysOne.at 81 rfl) rfl ?_
        refine r_fI (dt_Md_laysOne.at 82 rfl) fl_Md_292 rfl (fun x21 => ?_)
        refine r_iload (dt_Md_laysOne.at 83 rfl) rfl ?_
        refine r_iadd (dt_Md_laysOne.at 84 rfl) ?_
        refine r_sI (dt_Md_laysOne.at 85 rfl) fl_Md_303 rfl rfl rfl (fun M22 => ?_)
        exact r_vret (dt_Md_laysOne.at 86 rfl) rfl
    · refine r_aload_n (dt_Md_laysOne.at 20 rfl) rfl ?_
      refine r_fR (dt_Md_laysOne.at 21 rfl) fl_Md_45 rfl (fun b23 => ?_)
      refine r_iload (dt_Md_laysOne.at 22 rfl) rfl ?_
      refine r_aload_n (dt_Md_laysOne.at 23 rfl) rfl ?_
      refine r_iload_n (dt_Md_laysOne.at 24 rfl) rfl ?_
      refine r_iconst (dt_Md_laysOne.at 25 rfl) 2 (by decide) ?_
      refine r_iload (dt_Md_laysOne.at 26 rfl) rfl ?_
      refine r_iadd (dt_Md_laysOne.at 27 rfl) ?_
      refine r_iconst (dt_Md_laysOne.at 28 rfl) 2 (by decide) ?_
      refine r_iload (dt_Md_laysOne.at 29 rfl) rfl ?_
      refine r_imul (dt_Md_laysOne.at 30 rfl) ?_
      refine r_iconst (dt_Md_laysOne.at 31 rfl) 1 (by decide) ?_
      refine r_iadd (dt_Md_laysOne.at 32 rfl) ?_
      refine r_cvI (c := 9) (rest := [.int v5, .ref b23]) (ct_Md_draw v0 v1 (2 + v5) ((2 * v4) + 1) _) (dt_Md_laysOne.at 33 rfl) mb_Md_draw wd_1489 wd_1491 wp_62 rfl (by decide) rfl rfl (Nat.le_of_ble_eq_true rfl) (fun r25 M24 => ?_)
      refine r_iload (dt_Md_laysOne.at 34 rfl) rfl ?_
      refine r_isub (dt_Md_laysOne.at 35 rfl) ?_
      refine r_tI (dt_Md_laysOne.at 36 rfl) (fun M26 => ?_)
      refine r_iincn (v := 1) (dt_Md_laysOne.at 37 rfl) (by decide) rfl (by decide) (fun y => [.ref v0, .int v1, .int v2, .retAddr 0, .int v4, .int y, .retAddr 0]) (fun _ => rfl) (fun x27 => ?_)
      refine r_goto (tgt := 26) (dt_Md_laysOne.at 38 rfl) (by decide) ?_
      exact Rf.msk [true, true, true, false, true, true, false] (ih v0 v1 v2 v4 x27 M26)
set_option maxRecDepth 20000 in
set_option maxHeartbeats 2000000 in
theorem ct_Md_laysOne {G : am_G} {l : Launch} (a0 : Nat) (p1 : Int32) (p2 : Int32) (p3 : Int32) (M : am_M) : Ct G l y_Md_laysOne X_Md_laysOne [.ref a0, .int p1, .int p2, .int p3] M (F_Md_laysOne a0 p1 p2 p3 M) := by
  refine Ct.of (by decide +kernel) rfl rfl (Nat.le_of_ble_eq_true rfl) ?_
  unfold F_Md_laysOne
  show Rf G l X_Md_laysOne 0 [.ref a0, .int p1, .int p2, .int p3, .retAddr 0, .retAddr 0, .retAddr 0] [] M _
  refine r_aload_n (dt_Md_laysOne.at 0 rfl) rfl ?_
  refine r_iload_n (dt_Md_laysOne.at 1 rfl) rfl ?_
  refine r_sI (dt_Md_laysOne.at 2 rfl) fl_Md_278 rfl rfl rfl (fun M1 => ?_)
  refine r_aload_n (dt_Md_laysOne.at 3 rfl) rfl ?_
  refine r_iload_n (dt_Md_laysOne.at 4 rfl) rfl ?_
  refine r_sI (dt_Md_laysOne.at 5 rfl) fl_Md_292 rfl rfl rfl (fun M2 => ?_)
  refine r_aload_n (dt_Md_laysOne.at 6 rfl) rfl ?_
  refine r_fR (dt_Md_laysOne.at 7 rfl) fl_Md_13 rfl (fun b3 => ?_)
  refine r_bipush (dt_Md_laysOne.at 8 rfl) 8 (by decide) ?_
  refine r_iload_n (dt_Md_laysOne.at 9 rfl) rfl ?_
  refine r_imul (dt_Md_laysOne.at 10 rfl) ?_
  refine r_iconst (dt_Md_laysOne.at 11 rfl) 2 (by decide) ?_
  refine r_iadd (dt_Md_laysOne.at 12 rfl) ?_
  refine r_aI (dt_Md_laysOne.at 13 rfl) (fun x4 => ?_)
  refine r_istore (ls' := [.ref a0, .int p1, .int p2, .int p3, .int x4, .retAddr 0, .retAddr 0]) (dt_Md_laysOne.at 14 rfl) (by decide) rfl ?_
  refine r_iconst (dt_Md_laysOne.at 15 rfl) 0 (by decide) ?_
  refine r_istore (ls' := [.ref a0, .int p1, .int p2, .int p3, .int x4, .int 0, .retAddr 0]) (dt_Md_laysOne.at 16 rfl) (by decide) rfl ?_
  exact Rf.msk [true, true, true, false, true, true, false] (rf_Md_laysOne_L26 fu a0 p1 p2 x4 0 M2)
set_option maxRecDepth 20000 in
set_option maxHeartbeats 2000000 in
theorem rf_Md_laysRoot_L18 {G : am_G} {l : Launch}   : ∀ (n : Nat) (v0 : Nat) (v2 : Int32) (v3 : Int32) (v4 : Int32) (v5 : Int32) (M : am_M), Rf G l X_Md_laysRoot 18 [.ref v0, .retAddr 0, .int v2, .int v3, .int v4, .int v5] [] M (F_Md_laysRoot_L18 n v0 v2 v3 v4 v5 M) := by
  intro n
  induction n with
  | zero => intro v0 v2 v3 v4 v5 M; exact Rf.no
  | succ n ih =>
    intro v0 v2 v3 v4 v5 M
    unfold F_Md_laysRoot_L18
    refine r_iload (dt_Md_laysRoot.at 14 rfl) rfl ?_
    refine r_iconst (dt_Md_laysRoot.at 15 rfl) 3 (by decide) ?_
    refine r_icmp_ge (tgt := 51) (dt_Md_laysRoot.at 16 rfl) (by decide) ?_ ?_
    · refine r_aload_n (dt_Md_laysRoot.at 33 rfl) rfl ?_
      refine r_iload_n (dt_Md_laysRoot.at 34 rfl) rfl ?_
      refine r_iconst (dt_Md_laysRoot.at 35 rfl) 4 (by decide) ?_
      refine r_cvI (c := 9) (rest := []) (ct_Md_ofSource v0 v2 4 _) (dt_Md_laysRoot.at 36 rfl) mb_Md_ofSource wd_1403 wd_1405 wp_53 rfl (by decide) rfl rfl (Nat.le_of_ble_eq_true rfl) (fun r5 M4 => ?_)
      refine r_iload_n (dt_Md_laysRoot.at 37 rfl) rfl ?_
      refine r_aload_n (dt_Md_laysRoot.at 38 rfl) rfl ?_
      refine r_iload_n (dt_Md_laysRoot.at 39 rfl) rfl ?_
      refine r_bipush (dt_Md_laysRoot.at 40 rfl) 6 (by decide) ?_
      refine r_cvI (c := 9) (rest := [.int v3, .int r5]) (ct_Md_ofSource v0 v2 6 _) (dt_Md_laysRoot.at 41 rfl) mb_Md_ofSource wd_1403 wd_1405 wp_53 rfl (by decide) rfl rfl (Nat.le_of_ble_eq_true rfl) (fun r7 M6 => ?_)
      refine r_idiv (dt_Md_laysRoot.at 42 rfl) ?_
      refine r_aload_n (dt_Md_laysRoot.at 43 rfl) rfl ?_
      refine r_iload_n (dt_Md_laysRoot.at 44 rfl) rfl ?_
      refine r_iconst (dt_Md_laysRoot.at 45 rfl) 5 (by decide) ?_
      refine r_cvI (c := 9) (rest := [.int (v3 / r7), .int r5]) (ct_Md_ofSource v0 v2 5 _) (dt_Md_laysRoot.at 46 rfl) mb_Md_ofSource wd_1403 wd_1405 wp_53 rfl (by decide) rfl rfl (Nat.le_of_ble_eq_true rfl) (fun r9 M8 => ?_)
      refine r_imul (dt_Md_laysRoot.at 47 rfl) ?_
      refine r_iadd (dt_Md_laysRoot.at 48 rfl) ?_
      refine r_nmi (fun x10 => ?_)
      refine r_istore (ls' := [.ref v0, .retAddr 0, .int v2, .int v3, .int v4, .int x10]) (dt_Md_laysRoot.at 49 rfl) (by decide) rfl ?_
      refine r_aload_n (dt_Md_laysRoot.at 50 rfl) rfl ?_
      refine r_iload (dt_Md_laysRoot.at 51 rfl) rfl ?_
      refine r_aload_n (dt_Md_laysRoot.at 52 rfl) rfl ?_
      refine r_iload_n (dt_Md_laysRoot.at 53 rfl) rfl ?_
      refine r_iconst (dt_Md_laysRoot.at 54 rfl) 0 (by decide) ?_
      refine r_cvI (c := 9) (rest := [.int v4, .ref v0]) (ct_Md_ofSource v0 v2 0 _) (dt_Md_laysRoot.at 55 rfl) mb_Md_ofSource wd_1403 wd_1405 wp_53 rfl (by decide) rfl rfl (Nat.le_of_ble_eq_true rfl) (fun r12 M11 => ?_)
      refine r_iload (dt_Md_laysRoot.at 56 rfl) rfl ?_
      refine r_aload_n (dt_Md_laysRoot.at 57 rfl) rfl ?_
      refine r_iload (dt_Md_laysRoot.at 58 rfl) rfl ?_
      refine r_iconst (dt_Md_laysRoot.at 59 rfl) 0 (by decide) ?_
      refine r_aload_n (dt_Md_laysRoot.at 60 rfl) rfl ?_
      refine r_iload_n (dt_Md_laysRoot.at 61 rfl) rfl ?_
      refine r_bipush (dt_Md_laysRoot.at 62 rfl) 8 (by decide) ?_
      refine r_cvI (c := 9) (rest := [.int 0, .int v4, .ref v0, .int x10, .int r12, .int v4, .ref v0]) (ct_Md_ofSource v0 v2 8 _) (dt_Md_laysRoot.at 63 rfl) mb_Md_ofSource wd_1403 wd_1405 wp_53 rfl (by decide) rfl rfl (Nat.le_of_ble_eq_true rfl) (fun r14 M13 => ?_)
      refine r_iconst (dt_Md_laysRoot.at 64 rfl) 1 (by decide) ?_
      refine r_iadd (dt_Md_laysRoot.at 65 rfl) ?_
      refine r_cvI (c := 9) (rest := [.int x10, .int r12, .int v4, .ref v0]) (ct_Md_draw v0 v4 0 (r14 + 1) _) (dt_Md_laysRoot.at 66 rfl) mb_Md_draw wd_1489 wd_1491 wp_62 rfl (by decide) rfl rfl (Nat.le_of_ble_eq_true rfl) (fun r16 M15 => ?_)
      refine r_iadd (dt_Md_laysRoot.at 67 rfl) ?_
      refine r_cvV (c := 9) (rest := []) (ct_Md_laysOne v0 v4 r12 (x10 + r16) _) (dt_Md_laysRoot.at 68 rfl) mb_Md_laysOne wd_1493 wd_1495 wp_63 rfl (by decide) rfl rfl (Nat.le_of_ble_eq_true rfl) (fun M17 => ?_)
      exact r_vret (dt_Md_laysRoot.at 69 rfl) rfl
    · refine r_aload_n (dt_Md_laysRoot.at 17 rfl) rfl ?_
      refine r_fR (dt_Md_laysRoot.at 18 rfl) fl_Md_42 rfl (fun b18 => ?_)
      refine r_iload (dt_Md_laysRoot.at 19 rfl) rfl ?_
      refine r_bipush (dt_Md_laysRoot.at 20 rfl) 8 (by decide) ?_
      refine r_aload_n (dt_Md_laysRoot.at 21 rfl) rfl ?_
      refine r_iload_n (dt_Md_laysRoot.at 22 rfl) rfl ?_
      refine r_iconst (dt_Md_laysRoot.at 23 rfl) 1 (by decide) ?_
      refine r_iload (dt_Md_laysRoot.at 24 rfl) rfl ?_
      refine r_iadd (dt_Md_laysRoot.at 25 rfl) ?_
      refine r_cvI (c := 9) (rest := [.int 8, .int v5, .ref b18]) (ct_Md_ofSource v0 v2 (1 + v5) _) (dt_Md_laysRoot.at 26 rfl) mb_Md_ofSource wd_1403 wd_1405 wp_53 rfl (by decide) rfl rfl (Nat.le_of_ble_eq_true rfl) (fun r20 M19 => ?_)
      refine r_imul (dt_Md_laysRoot.at 27 rfl) ?_
      refine r_iconst (dt_Md_laysRoot.at 28 rfl) 4 (by decide) ?_
      refine r_iadd (dt_Md_laysRoot.at 29 rfl) ?_
      refine r_tI (dt_Md_laysRoot.at 30 rfl) (fun M21 => ?_)
      refine r_iincn (v := 1) (dt_Md_laysRoot.at 31 rfl) (by decide) rfl (by decide) (fun y => [.ref v0, .retAddr 0, .int v2, .int v3, .int v4, .int y]) (fun _ => rfl) (fun x22 => ?_)
      refine r_goto (tgt := 18) (dt_Md_laysRoot.at 32 rfl) (by decide) ?_
      exact Rf.msk [true, false, true, true, true, true] (ih v0 v2 v3 v4 x22 M21)
set_option maxRecDepth 20000 in
set_option maxHeartbeats 2000000 in
theorem ct_Md_laysRoot {G : am_G} {l : Launch} (a0 : Nat) (p1 : Int32) (M : am_M) : Ct G l y_Md_laysRoot X_Md_laysRoot [.ref a0, .int p1] M (F_Md_laysRoot a0 p1 M) := by
  refine Ct.of (by decide +kernel) rfl rfl (Nat.le_of_ble_eq_true rfl) ?_
  unfold F_Md_laysRoot
  show Rf G l X_Md_laysRoot 0 [.ref a0, .int p1, .retAddr 0, .retAddr 0, .retAddr 0, .retAddr 0] [] M _
  refine r_iload_n (dt_Md_laysRoot.at 0 rfl) rfl ?_
  refine r_iconst (dt_Md_laysRoot.at 1 rfl) 4 (by decide) ?_
  refine r_iremk (dt_Md_laysRoot.at 2 rfl) (by decide) ?_
  refine r_nmi (fun x1 => ?_)
  refine r_istore_n (ls' := [.ref a0, .int p1, .int x1, .retAddr 0, .retAddr 0, .retAddr 0]) (dt_Md_laysRoot.at 3 rfl) (by decide) rfl ?_
  refine r_iload_n (dt_Md_laysRoot.at 4 rfl) rfl ?_
  refine r_iconst (dt_Md_laysRoot.at 5 rfl) 4 (by decide) ?_
  refine r_idivk (dt_Md_laysRoot.at 6 rfl) (by decide) ?_
  refine r_nmi (fun x2 => ?_)
  refine r_istore_n (ls' := [.ref a0, .int p1, .int x1, .int x2, .retAddr 0, .retAddr 0]) (dt_Md_laysRoot.at 7 rfl) (by decide) rfl ?_
  refine r_sipush (dt_Md_laysRoot.at 8 rfl) 256 (by decide) ?_
  refine r_iload_n (dt_Md_laysRoot.at 9 rfl) rfl ?_
  refine r_imul (dt_Md_laysRoot.at 10 rfl) ?_
  refine r_nmi (fun x3 => ?_)
  refine r_istore (ls' := [.ref a0, .int p1, .int x1, .int x2, .int x3, .retAddr 0]) (dt_Md_laysRoot.at 11 rfl) (by decide) rfl ?_
  refine r_iconst (dt_Md_laysRoot.at 12 rfl) 0 (by decide) ?_
  refine r_istore (ls' := [.ref a0, .int p1, .int x1, .int x2, .int x3, .int 0]) (dt_Md_laysRoot.at 13 rfl) (by decide) rfl ?_
  exact Rf.msk [true, false, true, true, true, true] (rf_Md_laysRoot_L18 fu a0 x1 x2 x3 0 M)
set_option maxRecDepth 20000 in
set_option maxHeartbeats 2000000 in
theorem ct_Md_placeBy {G : am_G} {l : Launch} (a0 : Nat) (p1 : Int32) (p2 : Int32) (M : am_M) : Ct G l y_Md_placeBy X_Md_placeBy [.ref a0, .int p1, .int p2] M (F_Md_placeBy a0 p1 p2 M) := by
  refine Ct.of (by decide +kernel) rfl rfl (Nat.le_of_ble_eq_true rfl) ?_
  unfold F_Md_placeBy
  show Rf G l X_Md_placeBy 0 [.ref a0, .int p1, .int p2, .retAddr 0, .retAddr 0, .retAddr 0] [] M _
  refine r_aload_n (dt_Md_placeBy.at 0 rfl) rfl ?_
  refine r_iload_n (dt_Md_placeBy.at 1 rfl) rfl ?_
  refine r_iload_n (dt_Md_placeBy.at 2 rfl) rfl ?_
  refine r_cvI (c := 9) (rest := []) (ct_Md_raw a0 p1 p2 _) (dt_Md_placeBy.at 3 rfl) mb_Md_raw wd_1505 wd_1507 wp_66 rfl (by decide) rfl rfl (Nat.le_of_ble_eq_true rfl) (fun r2 M1 => ?_)
  refine r_istore_n (ls' := [.ref a0, .int p1, .int p2, .int r2, .retAddr 0, .retAddr 0]) (dt_Md_placeBy.at 4 rfl) (by decide) rfl ?_
  refine r_aload_n (dt_Md_placeBy.at 5 rfl) rfl ?_
  refine r_iload_n (dt_Md_placeBy.at 6 rfl) rfl ?_
  refine r_cvI (c := 9) (rest := []) (ct_Md_world a0 p1 _) (dt_Md_placeBy.at 7 rfl) mb_Md_world wd_1509 wd_1511 wp_67 rfl (by decide) rfl rfl (Nat.le_of_ble_eq_true rfl) (fun r4 M3 => ?_)
  refine r_istore (ls' := [.ref a0, .int p1, .int p2, .int r2, .int r4, .retAddr 0]) (dt_Md_placeBy.at 8 rfl) (by decide) rfl ?_
  refine r_aload_n (dt_Md_placeBy.at 9 rfl) rfl ?_
  refine r_cvI (c := 9) (rest := []) (ct_Md_edge a0 _) (dt_Md_placeBy.at 10 rfl) mb_Md_edge wd_1497 wd_1499 wp_64 rfl (by decide) rfl rfl (Nat.le_of_ble_eq_true rfl) (fun r6 M5 => ?_)
  refine r_if_ne (tgt := 28) (dt_Md_placeBy.at 11 rfl) (by decide) ?_ ?_
  · refine r_iload_n (dt_Md_placeBy.at 12 rfl) rfl ?_
    refine r_iload (dt_Md_placeBy.at 13 rfl) rfl ?_
    refine r_csI (rest := []) (ct_Math_floorMod r2 r4 _) (dt_Md_placeBy.at 14 rfl) mb_Math_floorMod wd_1521 wd_698 (by decide) rfl rfl (Nat.le_of_ble_eq_true rfl) (fun r8 M7 => ?_)
    exact r_iret (dt_Md_placeBy.at 15 rfl) rfl
  · refine r_aload_n (dt_Md_placeBy.at 16 rfl) rfl ?_
    refine r_cvI (c := 9) (rest := []) (ct_Md_edge a0 _) (dt_Md_placeBy.at 17 rfl) mb_Md_edge wd_1497 wd_1499 wp_64 rfl (by decide) rfl rfl (Nat.le_of_ble_eq_true rfl) (fun r10 M9 => ?_)
    refine r_iconst (dt_Md_placeBy.at 18 rfl) 2 (by decide) ?_
    refine r_icmp_ne (tgt := 38) (dt_Md_placeBy.at 19 rfl) (by decide) ?_ ?_
    · refine r_iload_n (dt_Md_placeBy.at 20 rfl) rfl ?_
      exact r_iret (dt_Md_placeBy.at 21 rfl) rfl
    · refine r_iload_n (dt_Md_placeBy.at 22 rfl) rfl ?_
      refine r_iconst (dt_Md_placeBy.at 23 rfl) 2 (by decide) ?_
      refine r_iload (dt_Md_placeBy.at 24 rfl) rfl ?_
      refine r_imul (dt_Md_placeBy.at 25 rfl) ?_
      refine r_csI (rest := []) (ct_Math_floorMod r2 (2 * r4) _) (dt_Md_placeBy.at 26 rfl) mb_Math_floorMod wd_1521 wd_698 (by decide) rfl rfl (Nat.le_of_ble_eq_true rfl) (fun r12 M11 => ?_)
      refine r_istore (ls' := [.ref a0, .int p1, .int p2, .int r2, .int r4, .int r12]) (dt_Md_placeBy.at 27 rfl) (by decide) rfl ?_
      refine r_iload (dt_Md_placeBy.at 28 rfl) rfl ?_
      refine r_iload (dt_Md_placeBy.at 29 rfl) rfl ?_
      refine r_icmp_lt (tgt := 67) (dt_Md_placeBy.at 30 rfl) (by decide) ?_ ?_
      · refine r_iload (dt_Md_placeBy.at 39 rfl) rfl ?_
        exact r_iret (dt_Md_placeBy.at 40 rfl) rfl
      · refine r_iconst (dt_Md_placeBy.at 31 rfl) 2 (by decide) ?_
        refine r_iload (dt_Md_placeBy.at 32 rfl) rfl ?_
        refine r_imul (dt_Md_placeBy.at 33 rfl) ?_
        refine r_iconst (dt_Md_placeBy.at 34 rfl) 1 (by decide) ?_
        refine r_isub (dt_Md_placeBy.at 35 rfl) ?_
        refine r_iload (dt_Md_placeBy.at 36 rfl) rfl ?_
        refine r_isub (dt_Md_placeBy.at 37 rfl) ?_
        refine r_goto (tgt := 69) (dt_Md_placeBy.at 38 rfl) (by decide) ?_
        exact r_iret (dt_Md_placeBy.at 40 rfl) rfl
set_option maxRecDepth 20000 in
set_option maxHeartbeats 2000000 in
theorem rf_Md_laysChild_L37 {G : am_G} {l : Launch}   : ∀ (n : Nat) (v0 : Nat) (v1 : Int32) (v2 : Int32) (M : am_M), Rf G l X_Md_laysChild 37 [.ref v0, .int v1, .int v2] [] M (F_Md_laysChild_L37 n v0 v1 v2 M) := by
  intro n
  induction n with
  | zero => intro v0 v1 v2 M; exact Rf.no
  | succ n ih =>
    intro v0 v1 v2 M
    unfold F_Md_laysChild_L37
    refine r_iload_n (dt_Md_laysChild.at 23 rfl) rfl ?_
    refine r_iconst (dt_Md_laysChild.at 24 rfl) 3 (by decide) ?_
    refine r_icmp_ge (tgt := 60) (dt_Md_laysChild.at 25 rfl) (by decide) ?_ ?_
    · refine r_aload_n (dt_Md_laysChild.at 36 rfl) rfl ?_
      refine r_iload_n (dt_Md_laysChild.at 37 rfl) rfl ?_
      refine r_aload_n (dt_Md_laysChild.at 38 rfl) rfl ?_
      refine r_fR (dt_Md_laysChild.at 39 rfl) fl_Md_13 rfl (fun b1 => ?_)
      refine r_bipush (dt_Md_laysChild.at 40 rfl) 8 (by decide) ?_
      refine r_aload_n (dt_Md_laysChild.at 41 rfl) rfl ?_
      refine r_fI (dt_Md_laysChild.at 42 rfl) fl_Md_278 rfl (fun x2 => ?_)
      refine r_imul (dt_Md_laysChild.at 43 rfl) ?_
      refine r_bipush (dt_Md_laysChild.at 44 rfl) 7 (by decide) ?_
      refine r_iadd (dt_Md_laysChild.at 45 rfl) ?_
      refine r_aI (dt_Md_laysChild.at 46 rfl) (fun x3 => ?_)
      refine r_aload_n (dt_Md_laysChild.at 47 rfl) rfl ?_
      refine r_fI (dt_Md_laysChild.at 48 rfl) fl_Md_303 rfl (fun x4 => ?_)
      refine r_cvV (c := 9) (rest := []) (ct_Md_laysOne v0 v1 x3 x4 _) (dt_Md_laysChild.at 49 rfl) mb_Md_laysOne wd_1493 wd_1495 wp_63 rfl (by decide) rfl rfl (Nat.le_of_ble_eq_true rfl) (fun M5 => ?_)
      exact r_vret (dt_Md_laysChild.at 50 rfl) rfl
    · refine r_aload_n (dt_Md_laysChild.at 26 rfl) rfl ?_
      refine r_fR (dt_Md_laysChild.at 27 rfl) fl_Md_42 rfl (fun b6 => ?_)
      refine r_iload_n (dt_Md_laysChild.at 28 rfl) rfl ?_
      refine r_aload_n (dt_Md_laysChild.at 29 rfl) rfl ?_
      refine r_fR (dt_Md_laysChild.at 30 rfl) fl_Md_48 rfl (fun b7 => ?_)
      refine r_iload_n (dt_Md_laysChild.at 31 rfl) rfl ?_
      refine r_aI (dt_Md_laysChild.at 32 rfl) (fun x8 => ?_)
      refine r_tI (dt_Md_laysChild.at 33 rfl) (fun M9 => ?_)
      refine r_iincn (v := 1) (dt_Md_laysChild.at 34 rfl) (by decide) rfl (by decide) (fun y => [.ref v0, .int v1, .int y]) (fun _ => rfl) (fun x10 => ?_)
      refine r_goto (tgt := 37) (dt_Md_laysChild.at 35 rfl) (by decide) ?_
      exact Rf.msk [true, true, true] (ih v0 v1 x10 M9)
set_option maxRecDepth 20000 in
set_option maxHeartbeats 2000000 in
theorem rf_Md_laysChild_L2 {G : am_G} {l : Launch}   : ∀ (n : Nat) (v0 : Nat) (v1 : Int32) (v2 : Int32) (M : am_M), Rf G l X_Md_laysChild 2 [.ref v0, .int v1, .int v2] [] M (F_Md_laysChild_L2 n v0 v1 v2 M) := by
  intro n
  induction n with
  | zero => intro v0 v1 v2 M; exact Rf.no
  | succ n ih =>
    intro v0 v1 v2 M
    unfold F_Md_laysChild_L2
    refine r_iload_n (dt_Md_laysChild.at 2 rfl) rfl ?_
    refine r_iconst (dt_Md_laysChild.at 3 rfl) 3 (by decide) ?_
    refine r_icmp_ge (tgt := 35) (dt_Md_laysChild.at 4 rfl) (by decide) ?_ ?_
    · refine r_iconst (dt_Md_laysChild.at 21 rfl) 0 (by decide) ?_
      refine r_istore_n (ls' := [.ref v0, .int v1, .int 0]) (dt_Md_laysChild.at 22 rfl) (by decide) rfl ?_
      exact Rf.msk [true, true, true] (rf_Md_laysChild_L37 fu v0 v1 0 M)
    · refine r_aload_n (dt_Md_laysChild.at 5 rfl) rfl ?_
      refine r_fR (dt_Md_laysChild.at 6 rfl) fl_Md_48 rfl (fun b11 => ?_)
      refine r_iload_n (dt_Md_laysChild.at 7 rfl) rfl ?_
      refine r_aload_n (dt_Md_laysChild.at 8 rfl) rfl ?_
      refine r_iload_n (dt_Md_laysChild.at 9 rfl) rfl ?_
      refine r_aload_n (dt_Md_laysChild.at 10 rfl) rfl ?_
      refine r_fI (dt_Md_laysChild.at 11 rfl) fl_Md_303 rfl (fun x12 => ?_)
      refine r_iconst (dt_Md_laysChild.at 12 rfl) 1 (by decide) ?_
      refine r_isub (dt_Md_laysChild.at 13 rfl) ?_
      refine r_aload_n (dt_Md_laysChild.at 14 rfl) rfl ?_
      refine r_fI (dt_Md_laysChild.at 15 rfl) fl_Md_292 rfl (fun x13 => ?_)
      refine r_isub (dt_Md_laysChild.at 16 rfl) ?_
      refine r_cvI (c := 9) (rest := [.int v2, .ref b11]) (ct_Md_placeBy v0 v2 ((x12 - 1) - x13) _) (dt_Md_laysChild.at 17 rfl) mb_Md_placeBy wd_1517 wd_1519 wp_69 rfl (by decide) rfl rfl (Nat.le_of_ble_eq_true rfl) (fun r15 M14 => ?_)
      refine r_tI (dt_Md_laysChild.at 18 rfl) (fun M16 => ?_)
      refine r_iincn (v := 1) (dt_Md_laysChild.at 19 rfl) (by decide) rfl (by decide) (fun y => [.ref v0, .int v1, .int y]) (fun _ => rfl) (fun x17 => ?_)
      refine r_goto (tgt := 2) (dt_Md_laysChild.at 20 rfl) (by decide) ?_
      exact Rf.msk [true, true, true] (ih v0 v1 x17 M16)
set_option maxRecDepth 20000 in
set_option maxHeartbeats 2000000 in
theorem ct_Md_laysChild {G : am_G} {l : Launch} (a0 : Nat) (p1 : Int32) (M : am_M) : Ct G l y_Md_laysChild X_Md_laysChild [.ref a0, .int p1] M (F_Md_laysChild a0 p1 M) := by
  refine Ct.of (by decide +kernel) rfl rfl (Nat.le_of_ble_eq_true rfl) ?_
  unfold F_Md_laysChild
  show Rf G l X_Md_laysChild 0 [.ref a0, .int p1, .retAddr 0] [] M _
  refine r_iconst (dt_Md_laysChild.at 0 rfl) 0 (by decide) ?_
  refine r_istore_n (ls' := [.ref a0, .int p1, .int 0]) (dt_Md_laysChild.at 1 rfl) (by decide) rfl ?_
  exact Rf.msk [true, true, true] (rf_Md_laysChild_L2 fu a0 p1 0 M)
set_option maxRecDepth 20000 in
set_option maxHeartbeats 2000000 in
theorem ct_Md_lays {G : am_G} {l : Launch} (a0 : Nat) (p1 : Int32) (M : am_M) : Ct G l y_Md_lays X_Md_lays [.ref a0, .int p1] M (F_Md_lays a0 p1 M) := by
  refine Ct.of (by decide +kernel) rfl rfl (Nat.le_of_ble_eq_true rfl) ?_
  unfold F_Md_lays
  show Rf G l X_Md_lays 0 [.ref a0, .int p1, .retAddr 0] [] M _
  refine r_iload_n (dt_Md_lays.at 0 rfl) rfl ?_
  refine r_sipush (dt_Md_lays.at 1 rfl) 256 (by decide) ?_
  refine r_iremk (dt_Md_lays.at 2 rfl) (by decide) ?_
  refine r_nmi (fun x1 => ?_)
  refine r_istore_n (ls' := [.ref a0, .int p1, .int x1]) (dt_Md_lays.at 3 rfl) (by decide) rfl ?_
  refine r_aload_n (dt_Md_lays.at 4 rfl) rfl ?_
  refine r_iload_n (dt_Md_lays.at 5 rfl) rfl ?_
  refine r_sipush (dt_Md_lays.at 6 rfl) 256 (by decide) ?_
  refine r_idivk (dt_Md_lays.at 7 rfl) (by decide) ?_
  refine r_cvV (c := 9) (rest := []) (ct_Md_laysRoot a0 (p1 / 256) _) (dt_Md_lays.at 8 rfl) mb_Md_laysRoot wd_1485 wd_1487 wp_61 rfl (by decide) rfl rfl (Nat.le_of_ble_eq_true rfl) (fun M2 => ?_)
  refine r_iload_n (dt_Md_lays.at 9 rfl) rfl ?_
  refine r_bipush (dt_Md_lays.at 10 rfl) 16 (by decide) ?_
  refine r_icmp_lt (tgt := 31) (dt_Md_lays.at 11 rfl) (by decide) ?_ ?_
  · refine r_iload_n (dt_Md_lays.at 19 rfl) rfl ?_
    refine r_bipush (dt_Md_lays.at 20 rfl) 16 (by decide) ?_
    refine r_iremk (dt_Md_lays.at 21 rfl) (by decide) ?_
    refine r_if_le (tgt := 43) (dt_Md_lays.at 22 rfl) (by decide) ?_ ?_
    · exact r_vret (dt_Md_lays.at 26 rfl) rfl
    · refine r_aload_n (dt_Md_lays.at 23 rfl) rfl ?_
      refine r_iload_n (dt_Md_lays.at 24 rfl) rfl ?_
      refine r_cvV (c := 9) (rest := []) (ct_Md_laysChild a0 p1 _) (dt_Md_lays.at 25 rfl) mb_Md_laysChild wd_1513 wd_1515 wp_68 rfl (by decide) rfl rfl (Nat.le_of_ble_eq_true rfl) (fun M3 => ?_)
      exact r_vret (dt_Md_lays.at 26 rfl) rfl
  · refine r_aload_n (dt_Md_lays.at 12 rfl) rfl ?_
    refine r_iload_n (dt_Md_lays.at 13 rfl) rfl ?_
    refine r_iload_n (dt_Md_lays.at 14 rfl) rfl ?_
    refine r_bipush (dt_Md_lays.at 15 rfl) 16 (by decide) ?_
    refine r_iremk (dt_Md_lays.at 16 rfl) (by decide) ?_
    refine r_isub (dt_Md_lays.at 17 rfl) ?_
    refine r_cvV (c := 9) (rest := []) (ct_Md_laysChild a0 (p1 - (x1 - x1 / 16 * 16)) _) (dt_Md_lays.at 18 rfl) mb_Md_laysChild wd_1513 wd_1515 wp_68 rfl (by decide) rfl rfl (Nat.le_of_ble_eq_true rfl) (fun M4 => ?_)
    refine r_iload_n (dt_Md_lays.at 19 rfl) rfl ?_
    refine r_bipush (dt_Md_lays.at 20 rfl) 16 (by decide) ?_
    refine r_iremk (dt_Md_lays.at 21 rfl) (by decide) ?_
    refine r_if_le (tgt := 43) (dt_Md_lays.at 22 rfl) (by decide) ?_ ?_
    · exact r_vret (dt_Md_lays.at 26 rfl) rfl
    · refine r_aload_n (dt_Md_lays.at 23 rfl) rfl ?_
      refine r_iload_n (dt_Md_lays.at 24 rfl) rfl ?_
      refine r_cvV (c := 9) (rest := []) (ct_Md_laysChild a0 p1 _) (dt_Md_lays.at 25 rfl) mb_Md_laysChild wd_1513 wd_1515 wp_68 rfl (by decide) rfl rfl (Nat.le_of_ble_eq_true rfl) (fun M5 => ?_)
      exact r_vret (dt_Md_lays.at 26 rfl) rfl
set_option maxRecDepth 20000 in
set_option maxHeartbeats 2000000 in
theorem ct_Md_spark {G : am_G} {l : Launch} (a0 : Nat) (p1 : Int32) (p2 : Int32) (M : am_M) : Ct G l y_Md_spark X_Md_spark [.ref a0, .int p1, .int p2] M (F_Md_spark a0 p1 p2 M) := by
  refine Ct.of (by decide +kernel) rfl rfl (Nat.le_of_ble_eq_true rfl) ?_
  unfold F_Md_spark
  show Rf G l X_Md_spark 0 [.ref a0, .int p1, .int p2] [] M _
  refine r_aload_n (dt_Md_spark.at 0 rfl) rfl ?_
  refine r_iload_n (dt_Md_spark.at 1 rfl) rfl ?_
  refine r_cvI (c := 9) (rest := []) (ct_Md_isSpark a0 p1 _) (dt_Md_spark.at 2 rfl) mb_Md_isSpark wd_1441 wd_1443 wp_56 rfl (by decide) rfl rfl (Nat.le_of_ble_eq_true rfl) (fun r2 M1 => ?_)
  refine r_if_eq (tgt := 20) (dt_Md_spark.at 3 rfl) (by decide) ?_ ?_
  · refine r_bipush (dt_Md_spark.at 10 rfl) (-99) (by decide) ?_
    exact r_iret (dt_Md_spark.at 11 rfl) rfl
  · refine r_iload_n (dt_Md_spark.at 4 rfl) rfl ?_
    refine r_i2l (dt_Md_spark.at 5 rfl) ?_
    refine r_lconst (dt_Md_spark.at 6 rfl) 0 (by decide) ?_
    refine r_ldc2 (dt_Md_spark.at 7 rfl) 9 wd_1394 ?_
    refine r_csI (rest := []) (ct_Md_in (p2.toInt64) 0 9 _) (dt_Md_spark.at 8 rfl) mb_Md_in wd_1289 wd_1290 (by decide) rfl rfl (Nat.le_of_ble_eq_true rfl) (fun r4 M3 => ?_)
    refine r_if_ne (tgt := 23) (dt_Md_spark.at 9 rfl) (by decide) ?_ ?_
    · refine r_bipush (dt_Md_spark.at 10 rfl) (-99) (by decide) ?_
      exact r_iret (dt_Md_spark.at 11 rfl) rfl
    · refine r_aload_n (dt_Md_spark.at 12 rfl) rfl ?_
      refine r_iload_n (dt_Md_spark.at 13 rfl) rfl ?_
      refine r_cvV (c := 9) (rest := []) (ct_Md_lays a0 p1 _) (dt_Md_spark.at 14 rfl) mb_Md_lays wd_1481 wd_1483 wp_60 rfl (by decide) rfl rfl (Nat.le_of_ble_eq_true rfl) (fun M5 => ?_)
      refine r_iload_n (dt_Md_spark.at 15 rfl) rfl ?_
      refine Rf.ite (fun h0 => ?_) (fun h0 => ?_)
      · refine r_tsIn (tgt := 72) (dt_Md_spark.at 16 rfl) (by rw [h0]; decide) (by rw [h0]; decide) (by rw [h0]; rfl) (by decide) ?_
        refine r_aload_n (dt_Md_spark.at 17 rfl) rfl ?_
        refine r_fI (dt_Md_spark.at 18 rfl) fl_Md_278 rfl (fun x6 => ?_)
        exact r_iret (dt_Md_spark.at 19 rfl) rfl
      refine Rf.ite (fun h1 => ?_) (fun h1 => ?_)
      · refine r_tsIn (tgt := 77) (dt_Md_spark.at 16 rfl) (by rw [h1]; decide) (by rw [h1]; decide) (by rw [h1]; rfl) (by decide) ?_
        refine r_iload_n (dt_Md_spark.at 20 rfl) rfl ?_
        refine r_sipush (dt_Md_spark.at 21 rfl) 256 (by decide) ?_
        refine r_idivk (dt_Md_spark.at 22 rfl) (by decide) ?_
        refine r_iconst (dt_Md_spark.at 23 rfl) 4 (by decide) ?_
        refine r_iremk (dt_Md_spark.at 24 rfl) (by decide) ?_
        exact r_iret (dt_Md_spark.at 25 rfl) rfl
      refine Rf.ite (fun h2 => ?_) (fun h2 => ?_)
      · refine r_tsIn (tgt := 85) (dt_Md_spark.at 16 rfl) (by rw [h2]; decide) (by rw [h2]; decide) (by rw [h2]; rfl) (by decide) ?_
        refine r_iload_n (dt_Md_spark.at 26 rfl) rfl ?_
        refine r_sipush (dt_Md_spark.at 27 rfl) 1024 (by decide) ?_
        refine r_idivk (dt_Md_spark.at 28 rfl) (by decide) ?_
        exact r_iret (dt_Md_spark.at 29 rfl) rfl
      refine Rf.ite (fun h3 => ?_) (fun h3 => ?_)
      · refine r_tsIn (tgt := 91) (dt_Md_spark.at 16 rfl) (by rw [h3]; decide) (by rw [h3]; decide) (by rw [h3]; rfl) (by decide) ?_
        refine r_iload_n (dt_Md_spark.at 30 rfl) rfl ?_
        refine r_csI (rest := []) (ct_Md_generation p1 _) (dt_Md_spark.at 31 rfl) mb_Md_generation wd_1463 wd_1464 (by decide) rfl rfl (Nat.le_of_ble_eq_true rfl) (fun r8 M7 => ?_)
        exact r_iret (dt_Md_spark.at 32 rfl) rfl
      refine Rf.ite (fun h4 => ?_) (fun h4 => ?_)
      · refine r_tsIn (tgt := 96) (dt_Md_spark.at 16 rfl) (by rw [h4]; decide) (by rw [h4]; decide) (by rw [h4]; rfl) (by decide) ?_
        refine r_aload_n (dt_Md_spark.at 33 rfl) rfl ?_
        refine r_iload_n (dt_Md_spark.at 34 rfl) rfl ?_
        refine r_iconst (dt_Md_spark.at 35 rfl) 5 (by decide) ?_
        refine r_bipush (dt_Md_spark.at 36 rfl) 8 (by decide) ?_
        refine r_cvI (c := 9) (rest := []) (ct_Md_draw a0 p1 5 8 _) (dt_Md_spark.at 37 rfl) mb_Md_draw wd_1489 wd_1491 wp_62 rfl (by decide) rfl rfl (Nat.le_of_ble_eq_true rfl) (fun r10 M9 => ?_)
        exact r_iret (dt_Md_spark.at 38 rfl) rfl
      refine Rf.ite (fun h5 => ?_) (fun h5 => ?_)
      · refine r_tsIn (tgt := 105) (dt_Md_spark.at 16 rfl) (by rw [h5]; decide) (by rw [h5]; decide) (by rw [h5]; rfl) (by decide) ?_
        refine r_aload_n (dt_Md_spark.at 39 rfl) rfl ?_
        refine r_fI (dt_Md_spark.at 40 rfl) fl_Md_292 rfl (fun x11 => ?_)
        exact r_iret (dt_Md_spark.at 41 rfl) rfl
      refine Rf.ite (fun h6 => ?_) (fun h6 => ?_)
      · refine r_tsIn (tgt := 110) (dt_Md_spark.at 16 rfl) (by rw [h6]; decide) (by rw [h6]; decide) (by rw [h6]; rfl) (by decide) ?_
        refine r_aload_n (dt_Md_spark.at 42 rfl) rfl ?_
        refine r_fI (dt_Md_spark.at 43 rfl) fl_Md_303 rfl (fun x12 => ?_)
        exact r_iret (dt_Md_spark.at 44 rfl) rfl
      refine r_tsOut (tgt := 115) (dt_Md_spark.at 16 rfl) (by have g0 := swn (k := 0) (v := 0) (by decide) h0; have g1 := swn (k := 1) (v := 1) (by decide) h1; have g2 := swn (k := 2) (v := 2) (by decide) h2; have g3 := swn (k := 3) (v := 3) (by decide) h3; have g4 := swn (k := 4) (v := 4) (by decide) h4; have g5 := swn (k := 5) (v := 5) (by decide) h5; have g6 := swn (k := 6) (v := 6) (by decide) h6; omega) (by decide) ?_
      refine r_aload_n (dt_Md_spark.at 45 rfl) rfl ?_
      refine r_fR (dt_Md_spark.at 46 rfl) fl_Md_45 rfl (fun b13 => ?_)
      refine r_iload_n (dt_Md_spark.at 47 rfl) rfl ?_
      refine r_bipush (dt_Md_spark.at 48 rfl) 7 (by decide) ?_
      refine r_isub (dt_Md_spark.at 49 rfl) ?_
      refine r_aI (dt_Md_spark.at 50 rfl) (fun x14 => ?_)
      exact r_iret (dt_Md_spark.at 51 rfl) rfl
set_option maxRecDepth 20000 in
set_option maxHeartbeats 2000000 in
theorem ct_Md_isTick {G : am_G} {l : Launch} (a0 : Nat) (p1 : Int32) (M : am_M) : Ct G l y_Md_isTick X_Md_isTick [.ref a0, .int p1] M (F_Md_isTick a0 p1 M) := by
  refine Ct.of (by decide +kernel) rfl rfl (Nat.le_of_ble_eq_true rfl) ?_
  unfold F_Md_isTick
  show Rf G l X_Md_isTick 0 [.ref a0, .int p1] [] M _
  refine r_aload_n (dt_Md_isTick.at 0 rfl) rfl ?_
  refine r_fI (dt_Md_isTick.at 1 rfl) fl_Md_219 rfl (fun x1 => ?_)
  refine r_if_eq (tgt := 23) (dt_Md_isTick.at 2 rfl) (by decide) ?_ ?_
  · refine r_iconst (dt_Md_isTick.at 11 rfl) 0 (by decide) ?_
    exact r_zret (dt_Md_isTick.at 12 rfl) rfl rfl
  · refine r_iload_n (dt_Md_isTick.at 3 rfl) rfl ?_
    refine r_i2l (dt_Md_isTick.at 4 rfl) ?_
    refine r_lconst (dt_Md_isTick.at 5 rfl) 0 (by decide) ?_
    refine r_ldc2 (dt_Md_isTick.at 6 rfl) 30000 wd_1530 ?_
    refine r_csI (rest := []) (ct_Md_in (p1.toInt64) 0 30000 _) (dt_Md_isTick.at 7 rfl) mb_Md_in wd_1289 wd_1290 (by decide) rfl rfl (Nat.le_of_ble_eq_true rfl) (fun r3 M2 => ?_)
    refine r_if_eq (tgt := 23) (dt_Md_isTick.at 8 rfl) (by decide) ?_ ?_
    · refine r_iconst (dt_Md_isTick.at 11 rfl) 0 (by decide) ?_
      exact r_zret (dt_Md_isTick.at 12 rfl) rfl rfl
    · refine r_iconst (dt_Md_isTick.at 9 rfl) 1 (by decide) ?_
      refine r_goto (tgt := 24) (dt_Md_isTick.at 10 rfl) (by decide) ?_
      exact r_zret (dt_Md_isTick.at 12 rfl) rfl rfl
