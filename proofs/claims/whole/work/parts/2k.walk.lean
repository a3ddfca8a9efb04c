/-! ===== the walks, row by row (printed by wip/whole/emit.py) ===== -/
set_option maxRecDepth 20000 in
set_option maxHeartbeats 2000000 in
theorem rf_Md_columns_L85 {G : am_G} {l : Launch}   : ∀ (n : Nat) (v0 : Nat) (v2 : Int32) (v3 : Int32) (M : am_M), Rf G l X_Md_columns 85 [.ref v0, .retAddr 0, .int v2, .int v3] [] M (F_Md_columns_L85 n v0 v2 v3 M) := by
  intro n
  induction n with
  | zero => intro v0 v2 v3 M; exact Rf.no
  | succ n ih =>
    intro v0 v2 v3 M
    unfold F_Md_columns_L85
    refine r_iload_n (dt_Md_columns.at 51 rfl) rfl ?_
    refine r_sipush (dt_Md_columns.at 52 rfl) 1600 (by decide) ?_
    refine r_icmp_ge (tgt := 107) (dt_Md_columns.at 53 rfl) (by decide) ?_ ?_
    · refine r_iload_n (dt_Md_columns.at 63 rfl) rfl ?_
      exact r_iret (dt_Md_columns.at 64 rfl) rfl
    · refine r_iload_n (dt_Md_columns.at 54 rfl) rfl ?_
      refine r_aload_n (dt_Md_columns.at 55 rfl) rfl ?_
      refine r_fR (dt_Md_columns.at 56 rfl) fl_Md_65 rfl (fun b6 => ?_)
      refine r_iload_n (dt_Md_columns.at 57 rfl) rfl ?_
      refine r_aI (dt_Md_columns.at 58 rfl) (fun x7 => ?_)
      refine r_iadd (dt_Md_columns.at 59 rfl) ?_
      refine r_nmi (fun x8 => ?_)
      refine r_istore_n (ls' := [.ref v0, .retAddr 0, .int x8, .int v3]) (dt_Md_columns.at 60 rfl) (by decide) rfl ?_
      refine r_iincn (v := 1) (dt_Md_columns.at 61 rfl) (by decide) rfl (by decide) (fun y => [.ref v0, .retAddr 0, .int x8, .int y]) (fun _ => rfl) (fun x9 => ?_)
      refine r_goto (tgt := 85) (dt_Md_columns.at 62 rfl) (by decide) ?_
      exact Rf.msk [true, false, true, true] (ih v0 x8 x9 M)
set_option maxRecDepth 20000 in
set_option maxHeartbeats 2000000 in
theorem rf_Md_columns_L45 {G : am_G} {l : Launch}   : ∀ (n : Nat) (v0 : Nat) (v2 : Int32) (M : am_M), Rf G l X_Md_columns 45 [.ref v0, .retAddr 0, .int v2, .retAddr 0] [] M (F_Md_columns_L45 n v0 v2 M) := by
  intro n
  induction n with
  | zero => intro v0 v2 M; exact Rf.no
  | succ n ih =>
    intro v0 v2 M
    unfold F_Md_columns_L45
    refine r_iload_n (dt_Md_columns.at 26 rfl) rfl ?_
    refine r_aload_n (dt_Md_columns.at 27 rfl) rfl ?_
    refine r_fI (dt_Md_columns.at 28 rfl) fl_Md_361 rfl (fun x5 => ?_)
    refine r_icmp_ge (tgt := 81) (dt_Md_columns.at 29 rfl) (by decide) ?_ ?_
    · refine r_iconst (dt_Md_columns.at 47 rfl) 0 (by decide) ?_
      refine r_istore_n (ls' := [.ref v0, .retAddr 0, .int 0, .retAddr 0]) (dt_Md_columns.at 48 rfl) (by decide) rfl ?_
      refine r_iconst (dt_Md_columns.at 49 rfl) 0 (by decide) ?_
      refine r_istore_n (ls' := [.ref v0, .retAddr 0, .int 0, .int 0]) (dt_Md_columns.at 50 rfl) (by decide) rfl ?_
      exact Rf.msk [true, false, true, true] (rf_Md_columns_L85 fu v0 0 0 M)
    · refine r_aload_n (dt_Md_columns.at 30 rfl) rfl ?_
      refine r_fR (dt_Md_columns.at 31 rfl) fl_Md_65 rfl (fun b10 => ?_)
      refine r_bipush (dt_Md_columns.at 32 rfl) 40 (by decide) ?_
      refine r_aload_n (dt_Md_columns.at 33 rfl) rfl ?_
      refine r_fR (dt_Md_columns.at 34 rfl) fl_Md_61 rfl (fun b11 => ?_)
      refine r_iload_n (dt_Md_columns.at 35 rfl) rfl ?_
      refine r_aI (dt_Md_columns.at 36 rfl) (fun x12 => ?_)
      refine r_imul (dt_Md_columns.at 37 rfl) ?_
      refine r_aload_n (dt_Md_columns.at 38 rfl) rfl ?_
      refine r_fR (dt_Md_columns.at 39 rfl) fl_Md_58 rfl (fun b13 => ?_)
      refine r_iload_n (dt_Md_columns.at 40 rfl) rfl ?_
      refine r_aI (dt_Md_columns.at 41 rfl) (fun x14 => ?_)
      refine r_iadd (dt_Md_columns.at 42 rfl) ?_
      refine r_iconst (dt_Md_columns.at 43 rfl) 1 (by decide) ?_
      refine r_tI (dt_Md_columns.at 44 rfl) (fun M15 => ?_)
      refine r_iincn (v := 1) (dt_Md_columns.at 45 rfl) (by decide) rfl (by decide) (fun y => [.ref v0, .retAddr 0, .int y, .retAddr 0]) (fun _ => rfl) (fun x16 => ?_)
      refine r_goto (tgt := 45) (dt_Md_columns.at 46 rfl) (by decide) ?_
      exact Rf.msk [true, false, true, false] (ih v0 x16 M15)
set_option maxRecDepth 20000 in
set_option maxHeartbeats 2000000 in
theorem rf_Md_columns_L23 {G : am_G} {l : Launch}   : ∀ (n : Nat) (v0 : Nat) (v2 : Int32) (M : am_M), Rf G l X_Md_columns 23 [.ref v0, .retAddr 0, .int v2, .retAddr 0] [] M (F_Md_columns_L23 n v0 v2 M) := by
  intro n
  induction n with
  | zero => intro v0 v2 M; exact Rf.no
  | succ n ih =>
    intro v0 v2 M
    unfold F_Md_columns_L23
    refine r_iload_n (dt_Md_columns.at 14 rfl) rfl ?_
    refine r_sipush (dt_Md_columns.at 15 rfl) 1600 (by decide) ?_
    refine r_icmp_ge (tgt := 43) (dt_Md_columns.at 16 rfl) (by decide) ?_ ?_
    · refine r_iconst (dt_Md_columns.at 24 rfl) 0 (by decide) ?_
      refine r_istore_n (ls' := [.ref v0, .retAddr 0, .int 0, .retAddr 0]) (dt_Md_columns.at 25 rfl) (by decide) rfl ?_
      exact Rf.msk [true, false, true, false] (rf_Md_columns_L45 fu v0 0 M)
    · refine r_aload_n (dt_Md_columns.at 17 rfl) rfl ?_
      refine r_fR (dt_Md_columns.at 18 rfl) fl_Md_65 rfl (fun b17 => ?_)
      refine r_iload_n (dt_Md_columns.at 19 rfl) rfl ?_
      refine r_iconst (dt_Md_columns.at 20 rfl) 0 (by decide) ?_
      refine r_tI (dt_Md_columns.at 21 rfl) (fun M18 => ?_)
      refine r_iincn (v := 1) (dt_Md_columns.at 22 rfl) (by decide) rfl (by decide) (fun y => [.ref v0, .retAddr 0, .int y, .retAddr 0]) (fun _ => rfl) (fun x19 => ?_)
      refine r_goto (tgt := 23) (dt_Md_columns.at 23 rfl) (by decide) ?_
      exact Rf.msk [true, false, true, false] (ih v0 x19 M18)
set_option maxRecDepth 20000 in
set_option maxHeartbeats 2000000 in
theorem ct_Md_columns {G : am_G} {l : Launch} (a0 : Nat) (p1 : Int32) (M : am_M) : Ct G l y_Md_columns X_Md_columns [.ref a0, .int p1] M (F_Md_columns a0 p1 M) := by
  refine Ct.of (by decide +kernel) rfl rfl (Nat.le_of_ble_eq_true rfl) ?_
  unfold F_Md_columns
  show Rf G l X_Md_columns 0 [.ref a0, .int p1, .retAddr 0, .retAddr 0] [] M _
  refine r_aload_n (dt_Md_columns.at 0 rfl) rfl ?_
  refine r_iload_n (dt_Md_columns.at 1 rfl) rfl ?_
  refine r_cvI (c := 9) (rest := []) (ct_Md_isTick a0 p1 _) (dt_Md_columns.at 2 rfl) mb_Md_isTick wd_1526 wd_1528 wp_70 rfl (by decide) rfl rfl (Nat.le_of_ble_eq_true rfl) (fun r2 M1 => ?_)
  refine r_if_ne (tgt := 11) (dt_Md_columns.at 3 rfl) (by decide) ?_ ?_
  · refine r_bipush (dt_Md_columns.at 4 rfl) (-2) (by decide) ?_
    exact r_iret (dt_Md_columns.at 5 rfl) rfl
  · refine r_aload_n (dt_Md_columns.at 6 rfl) rfl ?_
    refine r_iload_n (dt_Md_columns.at 7 rfl) rfl ?_
    refine r_cvV (c := 9) (rest := []) (ct_Md_gathers a0 p1 _) (dt_Md_columns.at 8 rfl) mb_Md_gathers wd_1583 wd_1585 wp_73 rfl (by decide) rfl rfl (Nat.le_of_ble_eq_true rfl) (fun M3 => ?_)
    refine r_aload_n (dt_Md_columns.at 9 rfl) rfl ?_
    refine r_iload_n (dt_Md_columns.at 10 rfl) rfl ?_
    refine r_cvV (c := 9) (rest := []) (ct_Md_laysColumns a0 p1 _) (dt_Md_columns.at 11 rfl) mb_Md_laysColumns wd_1634 wd_1636 wp_82 rfl (by decide) rfl rfl (Nat.le_of_ble_eq_true rfl) (fun M4 => ?_)
    refine r_iconst (dt_Md_columns.at 12 rfl) 0 (by decide) ?_
    refine r_istore_n (ls' := [.ref a0, .int p1, .int 0, .retAddr 0]) (dt_Md_columns.at 13 rfl) (by decide) rfl ?_
    exact Rf.msk [true, false, true, false] (rf_Md_columns_L23 fu a0 0 M4)
set_option maxRecDepth 20000 in
set_option maxHeartbeats 2000000 in
theorem rf_Md_below_L47 {G : am_G} {l : Launch}   : ∀ (n : Nat) (v0 : Nat) (v2 : Int32) (v3 : Int32) (v5 : Int32) (v6 : Int32) (M : am_M), Rf G l X_Md_below 47 [.ref v0, .retAddr 0, .int v2, .int v3, .retAddr 0, .int v5, .int v6] [] M (F_Md_below_L47 n v0 v2 v3 v5 v6 M) := by
  intro n
  induction n with
  | zero => intro v0 v2 v3 v5 v6 M; exact Rf.no
  | succ n ih =>
    intro v0 v2 v3 v5 v6 M
    unfold F_Md_below_L47
    refine r_iload (dt_Md_below.at 26 rfl) rfl ?_
    refine r_if_lt (tgt := 98) (dt_Md_below.at 27 rfl) (by decide) ?_ ?_
    · refine r_iconst (dt_Md_below.at 50 rfl) (-1) (by decide) ?_
      exact r_iret (dt_Md_below.at 51 rfl) rfl
    · refine r_aload_n (dt_Md_below.at 28 rfl) rfl ?_
      refine r_fR (dt_Md_below.at 29 rfl) fl_Md_58 rfl (fun b9 => ?_)
      refine r_iload (dt_Md_below.at 30 rfl) rfl ?_
      refine r_aI (dt_Md_below.at 31 rfl) (fun x10 => ?_)
      refine r_iload_n (dt_Md_below.at 32 rfl) rfl ?_
      refine r_icmp_ne (tgt := 92) (dt_Md_below.at 33 rfl) (by decide) ?_ ?_
      · refine r_aload_n (dt_Md_below.at 34 rfl) rfl ?_
        refine r_fR (dt_Md_below.at 35 rfl) fl_Md_61 rfl (fun b11 => ?_)
        refine r_iload (dt_Md_below.at 36 rfl) rfl ?_
        refine r_aI (dt_Md_below.at 37 rfl) (fun x12 => ?_)
        refine r_iload_n (dt_Md_below.at 38 rfl) rfl ?_
        refine r_icmp_eq (tgt := 77) (dt_Md_below.at 39 rfl) (by decide) ?_ ?_
        · refine r_iload (dt_Md_below.at 41 rfl) rfl ?_
          refine r_if_ne (tgt := 89) (dt_Md_below.at 42 rfl) (by decide) ?_ ?_
          · refine r_aload_n (dt_Md_below.at 43 rfl) rfl ?_
            refine r_iload (dt_Md_below.at 44 rfl) rfl ?_
            refine r_cvI (c := 9) (rest := []) (ct_Md_codeAt v0 v6 _) (dt_Md_below.at 45 rfl) mb_Md_codeAt wd_1603 wd_1605 wp_78 rfl (by decide) rfl rfl (Nat.le_of_ble_eq_true rfl) (fun r14 M13 => ?_)
            exact r_iret (dt_Md_below.at 46 rfl) rfl
          · refine r_iincn (v := (-1)) (dt_Md_below.at 47 rfl) (by decide) rfl (by decide) (fun y => [.ref v0, .retAddr 0, .int v2, .int v3, .retAddr 0, .int y, .int v6]) (fun _ => rfl) (fun x15 => ?_)
            refine r_iincn (v := (-1)) (dt_Md_below.at 48 rfl) (by decide) rfl (by decide) (fun y => [.ref v0, .retAddr 0, .int v2, .int v3, .retAddr 0, .int x15, .int y]) (fun _ => rfl) (fun x16 => ?_)
            refine r_goto (tgt := 47) (dt_Md_below.at 49 rfl) (by decide) ?_
            exact Rf.msk [true, false, true, true, false, true, true] (ih v0 v2 v3 x15 x16 M)
        · refine r_goto (tgt := 92) (dt_Md_below.at 40 rfl) (by decide) ?_
          refine r_iincn (v := (-1)) (dt_Md_below.at 48 rfl) (by decide) rfl (by decide) (fun y => [.ref v0, .retAddr 0, .int v2, .int v3, .retAddr 0, .int v5, .int y]) (fun _ => rfl) (fun x17 => ?_)
          refine r_goto (tgt := 47) (dt_Md_below.at 49 rfl) (by decide) ?_
          exact Rf.msk [true, false, true, true, false, true, true] (ih v0 v2 v3 v5 x17 M)
      · refine r_iincn (v := (-1)) (dt_Md_below.at 48 rfl) (by decide) rfl (by decide) (fun y => [.ref v0, .retAddr 0, .int v2, .int v3, .retAddr 0, .int v5, .int y]) (fun _ => rfl) (fun x18 => ?_)
        refine r_goto (tgt := 47) (dt_Md_below.at 49 rfl) (by decide) ?_
        exact Rf.msk [true, false, true, true, false, true, true] (ih v0 v2 v3 v5 x18 M)
set_option maxRecDepth 20000 in
set_option maxHeartbeats 2000000 in
theorem ct_Md_below {G : am_G} {l : Launch} (a0 : Nat) (p1 : Int32) (p2 : Int32) (p3 : Int32) (p4 : Int32) (M : am_M) : Ct G l y_Md_below X_Md_below [.ref a0, .int p1, .int p2, .int p3, .int p4] M (F_Md_below a0 p1 p2 p3 p4 M) := by
  refine Ct.of (by decide +kernel) rfl rfl (Nat.le_of_ble_eq_true rfl) ?_
  unfold F_Md_below
  show Rf G l X_Md_below 0 [.ref a0, .int p1, .int p2, .int p3, .int p4, .retAddr 0, .retAddr 0] [] M _
  refine r_aload_n (dt_Md_below.at 0 rfl) rfl ?_
  refine r_iload_n (dt_Md_below.at 1 rfl) rfl ?_
  refine r_cvI (c := 9) (rest := []) (ct_Md_isTick a0 p1 _) (dt_Md_below.at 2 rfl) mb_Md_isTick wd_1526 wd_1528 wp_70 rfl (by decide) rfl rfl (Nat.le_of_ble_eq_true rfl) (fun r2 M1 => ?_)
  refine r_if_eq (tgt := 22) (dt_Md_below.at 3 rfl) (by decide) ?_ ?_
  · refine r_bipush (dt_Md_below.at 11 rfl) (-2) (by decide) ?_
    exact r_iret (dt_Md_below.at 12 rfl) rfl
  · refine r_aload_n (dt_Md_below.at 4 rfl) rfl ?_
    refine r_iload_n (dt_Md_below.at 5 rfl) rfl ?_
    refine r_iload_n (dt_Md_below.at 6 rfl) rfl ?_
    refine r_cvI (c := 9) (rest := []) (ct_Md_isColumn a0 p2 p3 _) (dt_Md_below.at 7 rfl) mb_Md_isColumn wd_1630 wd_1632 wp_81 rfl (by decide) rfl rfl (Nat.le_of_ble_eq_true rfl) (fun r4 M3 => ?_)
    refine r_if_eq (tgt := 22) (dt_Md_below.at 8 rfl) (by decide) ?_ ?_
    · refine r_bipush (dt_Md_below.at 11 rfl) (-2) (by decide) ?_
      exact r_iret (dt_Md_below.at 12 rfl) rfl
    · refine r_iload (dt_Md_below.at 9 rfl) rfl ?_
      refine r_if_ge (tgt := 25) (dt_Md_below.at 10 rfl) (by decide) ?_ ?_
      · refine r_aload_n (dt_Md_below.at 13 rfl) rfl ?_
        refine r_iload_n (dt_Md_below.at 14 rfl) rfl ?_
        refine r_cvV (c := 9) (rest := []) (ct_Md_laysFrame a0 p1 _) (dt_Md_below.at 15 rfl) mb_Md_laysFrame wd_1612 wd_1614 wp_79 rfl (by decide) rfl rfl (Nat.le_of_ble_eq_true rfl) (fun M5 => ?_)
        refine r_aload_n (dt_Md_below.at 16 rfl) rfl ?_
        refine r_iload_n (dt_Md_below.at 17 rfl) rfl ?_
        refine r_cvV (c := 9) (rest := []) (ct_Md_laysColumns a0 p1 _) (dt_Md_below.at 18 rfl) mb_Md_laysColumns wd_1634 wd_1636 wp_82 rfl (by decide) rfl rfl (Nat.le_of_ble_eq_true rfl) (fun M6 => ?_)
        refine r_iload (dt_Md_below.at 19 rfl) rfl ?_
        refine r_istore (ls' := [.ref a0, .int p1, .int p2, .int p3, .int p4, .int p4, .retAddr 0]) (dt_Md_below.at 20 rfl) (by decide) rfl ?_
        refine r_aload_n (dt_Md_below.at 21 rfl) rfl ?_
        refine r_fI (dt_Md_below.at 22 rfl) fl_Md_361 rfl (fun x7 => ?_)
        refine r_iconst (dt_Md_below.at 23 rfl) 1 (by decide) ?_
        refine r_isub (dt_Md_below.at 24 rfl) ?_
        refine r_nmi (fun x8 => ?_)
        refine r_istore (ls' := [.ref a0, .int p1, .int p2, .int p3, .int p4, .int p4, .int x8]) (dt_Md_below.at 25 rfl) (by decide) rfl ?_
        exact Rf.msk [true, false, true, true, false, true, true] (rf_Md_below_L47 fu a0 p2 p3 p4 x8 M6)
      · refine r_bipush (dt_Md_below.at 11 rfl) (-2) (by decide) ?_
        exact r_iret (dt_Md_below.at 12 rfl) rfl
set_option maxRecDepth 20000 in
set_option maxHeartbeats 2000000 in
theorem rf_Md_twins_L92 {G : am_G} {l : Launch} (k20 : Nat → Int32 → Int32 → Int32 → am_M → am_R) (hk20 : ∀ v0 v1 v2 v3 M, Rf G l X_Md_twins 20 [.ref v0, .int v1, .int v2, .int v3, .retAddr 0, .retAddr 0, .retAddr 0, .retAddr 0] [] M (k20 v0 v1 v2 v3 M)) (v0 : Nat) (v1 : Int32) (v2 : Int32) (v3 : Int32) (s0 : Int32) (M : am_M) : Rf G l X_Md_twins 92 [.ref v0, .int v1, .int v2, .int v3, .retAddr 0, .retAddr 0, .retAddr 0, .retAddr 0] [.int s0] M (F_Md_twins_L92 k20 v0 v1 v2 v3 s0 M) := by
  unfold F_Md_twins_L92
  refine r_istore (ls' := [.ref v0, .int v1, .int v2, .int v3, .retAddr 0, .retAddr 0, .retAddr 0, .int s0]) (dt_Md_twins.at 49 rfl) (by decide) rfl ?_
  refine r_aload_n (dt_Md_twins.at 50 rfl) rfl ?_
  refine r_iload (dt_Md_twins.at 51 rfl) rfl ?_
  refine r_cvI (c := 9) (rest := []) (ct_Md_isSpark v0 s0 _) (dt_Md_twins.at 52 rfl) mb_Md_isSpark wd_1441 wd_1443 wp_56 rfl (by decide) rfl rfl (Nat.le_of_ble_eq_true rfl) (fun r14 M13 => ?_)
  refine r_if_ne (tgt := 106) (dt_Md_twins.at 53 rfl) (by decide) ?_ ?_
  · refine r_goto (tgt := 136) (dt_Md_twins.at 54 rfl) (by decide) ?_
    refine r_iincn (v := 1) (dt_Md_twins.at 72 rfl) (by decide) rfl (by decide) (fun y => [.ref v0, .int v1, .int v2, .int y, .retAddr 0, .retAddr 0, .retAddr 0, .int s0]) (fun _ => rfl) (fun x15 => ?_)
    refine r_goto (tgt := 20) (dt_Md_twins.at 73 rfl) (by decide) ?_
    exact Rf.msk [true, true, true, true, false, false, false, false] (hk20 v0 v1 v2 x15 M13)
  · refine r_aload_n (dt_Md_twins.at 55 rfl) rfl ?_
    refine r_iload (dt_Md_twins.at 56 rfl) rfl ?_
    refine r_cvV (c := 9) (rest := []) (ct_Md_lays v0 s0 _) (dt_Md_twins.at 57 rfl) mb_Md_lays wd_1481 wd_1483 wp_60 rfl (by decide) rfl rfl (Nat.le_of_ble_eq_true rfl) (fun M16 => ?_)
    refine r_iload_n (dt_Md_twins.at 58 rfl) rfl ?_
    refine r_iload_n (dt_Md_twins.at 59 rfl) rfl ?_
    refine r_aload_n (dt_Md_twins.at 60 rfl) rfl ?_
    refine r_fI (dt_Md_twins.at 61 rfl) fl_Md_292 rfl (fun x17 => ?_)
    refine r_icmp_lt (tgt := 133) (dt_Md_twins.at 62 rfl) (by decide) ?_ ?_
    · refine r_iconst (dt_Md_twins.at 69 rfl) 0 (by decide) ?_
      refine r_iadd (dt_Md_twins.at 70 rfl) ?_
      refine r_nmi (fun x18 => ?_)
      refine r_istore_n (ls' := [.ref v0, .int v1, .int x18, .int v3, .retAddr 0, .retAddr 0, .retAddr 0, .int s0]) (dt_Md_twins.at 71 rfl) (by decide) rfl ?_
      refine r_iincn (v := 1) (dt_Md_twins.at 72 rfl) (by decide) rfl (by decide) (fun y => [.ref v0, .int v1, .int x18, .int y, .retAddr 0, .retAddr 0, .retAddr 0, .int s0]) (fun _ => rfl) (fun x19 => ?_)
      refine r_goto (tgt := 20) (dt_Md_twins.at 73 rfl) (by decide) ?_
      exact Rf.msk [true, true, true, true, false, false, false, false] (hk20 v0 v1 x18 x19 M16)
    · refine r_iload_n (dt_Md_twins.at 63 rfl) rfl ?_
      refine r_aload_n (dt_Md_twins.at 64 rfl) rfl ?_
      refine r_fI (dt_Md_twins.at 65 rfl) fl_Md_303 rfl (fun x20 => ?_)
      refine r_icmp_ge (tgt := 133) (dt_Md_twins.at 66 rfl) (by decide) ?_ ?_
      · refine r_iconst (dt_Md_twins.at 69 rfl) 0 (by decide) ?_
        refine r_iadd (dt_Md_twins.at 70 rfl) ?_
        refine r_nmi (fun x21 => ?_)
        refine r_istore_n (ls' := [.ref v0, .int v1, .int x21, .int v3, .retAddr 0, .retAddr 0, .retAddr 0, .int s0]) (dt_Md_twins.at 71 rfl) (by decide) rfl ?_
        refine r_iincn (v := 1) (dt_Md_twins.at 72 rfl) (by decide) rfl (by decide) (fun y => [.ref v0, .int v1, .int x21, .int y, .retAddr 0, .retAddr 0, .retAddr 0, .int s0]) (fun _ => rfl) (fun x22 => ?_)
        refine r_goto (tgt := 20) (dt_Md_twins.at 73 rfl) (by decide) ?_
        exact Rf.msk [true, true, true, true, false, false, false, false] (hk20 v0 v1 x21 x22 M16)
      · refine r_iconst (dt_Md_twins.at 67 rfl) 1 (by decide) ?_
        refine r_goto (tgt := 134) (dt_Md_twins.at 68 rfl) (by decide) ?_
        refine r_iadd (dt_Md_twins.at 70 rfl) ?_
        refine r_nmi (fun x23 => ?_)
        refine r_istore_n (ls' := [.ref v0, .int v1, .int x23, .int v3, .retAddr 0, .retAddr 0, .retAddr 0, .int s0]) (dt_Md_twins.at 71 rfl) (by decide) rfl ?_
        refine r_iincn (v := 1) (dt_Md_twins.at 72 rfl) (by decide) rfl (by decide) (fun y => [.ref v0, .int v1, .int x23, .int y, .retAddr 0, .retAddr 0, .retAddr 0, .int s0]) (fun _ => rfl) (fun x24 => ?_)
        refine r_goto (tgt := 20) (dt_Md_twins.at 73 rfl) (by decide) ?_
        exact Rf.msk [true, true, true, true, false, false, false, false] (hk20 v0 v1 x23 x24 M16)
set_option maxRecDepth 20000 in
set_option maxHeartbeats 2000000 in
theorem rf_Md_twins_L61 {G : am_G} {l : Launch} (k20 : Nat → Int32 → Int32 → Int32 → am_M → am_R) (hk20 : ∀ v0 v1 v2 v3 M, Rf G l X_Md_twins 20 [.ref v0, .int v1, .int v2, .int v3, .retAddr 0, .retAddr 0, .retAddr 0, .retAddr 0] [] M (k20 v0 v1 v2 v3 M)) (v0 : Nat) (v1 : Int32) (v2 : Int32) (v3 : Int32) (v4 : Int32) (s0 : Int32) (M : am_M) : Rf G l X_Md_twins 61 [.ref v0, .int v1, .int v2, .int v3, .int v4, .retAddr 0, .retAddr 0, .retAddr 0] [.int s0] M (F_Md_twins_L61 k20 v0 v1 v2 v3 v4 s0 M) := by
  unfold F_Md_twins_L61
  refine r_istore (ls' := [.ref v0, .int v1, .int v2, .int v3, .int v4, .int s0, .retAddr 0, .retAddr 0]) (dt_Md_twins.at 32 rfl) (by decide) rfl ?_
  refine r_iload (dt_Md_twins.at 33 rfl) rfl ?_
  refine r_iload (dt_Md_twins.at 34 rfl) rfl ?_
  refine r_idiv (dt_Md_twins.at 35 rfl) ?_
  refine r_bipush (dt_Md_twins.at 36 rfl) 16 (by decide) ?_
  refine r_iremk (dt_Md_twins.at 37 rfl) (by decide) ?_
  refine r_nmi (fun x12 => ?_)
  refine r_istore (ls' := [.ref v0, .int v1, .int v2, .int v3, .int v4, .int s0, .int x12, .retAddr 0]) (dt_Md_twins.at 38 rfl) (by decide) rfl ?_
  refine r_iload (dt_Md_twins.at 39 rfl) rfl ?_
  refine r_iconst (dt_Md_twins.at 40 rfl) 1 (by decide) ?_
  refine r_icmp_ne (tgt := 87) (dt_Md_twins.at 41 rfl) (by decide) ?_ ?_
  · refine r_iload (dt_Md_twins.at 42 rfl) rfl ?_
    refine r_iload (dt_Md_twins.at 43 rfl) rfl ?_
    refine r_iadd (dt_Md_twins.at 44 rfl) ?_
    refine r_goto (tgt := 92) (dt_Md_twins.at 45 rfl) (by decide) ?_
    exact Rf.msk [true, true, true, true, false, false, false, false] (rf_Md_twins_L92 k20 hk20 v0 v1 v2 v3 (v4 + s0) M)
  · refine r_iload (dt_Md_twins.at 46 rfl) rfl ?_
    refine r_iload (dt_Md_twins.at 47 rfl) rfl ?_
    refine r_isub (dt_Md_twins.at 48 rfl) ?_
    exact Rf.msk [true, true, true, true, false, false, false, false] (rf_Md_twins_L92 k20 hk20 v0 v1 v2 v3 (v4 - s0) M)
set_option maxRecDepth 20000 in
set_option maxHeartbeats 2000000 in
theorem rf_Md_twins_L20 {G : am_G} {l : Launch}   : ∀ (n : Nat) (v0 : Nat) (v1 : Int32) (v2 : Int32) (v3 : Int32) (M : am_M), Rf G l X_Md_twins 20 [.ref v0, .int v1, .int v2, .int v3, .retAddr 0, .retAddr 0, .retAddr 0, .retAddr 0] [] M (F_Md_twins_L20 n v0 v1 v2 v3 M) := by
  intro n
  induction n with
  | zero => intro v0 v1 v2 v3 M; exact Rf.no
  | succ n ih =>
    intro v0 v1 v2 v3 M
    unfold F_Md_twins_L20
    refine r_iload_n (dt_Md_twins.at 13 rfl) rfl ?_
    refine r_aload_n (dt_Md_twins.at 14 rfl) rfl ?_
    refine r_fI (dt_Md_twins.at 15 rfl) fl_Md_361 rfl (fun x4 => ?_)
    refine r_icmp_ge (tgt := 142) (dt_Md_twins.at 16 rfl) (by decide) ?_ ?_
    · refine r_iload_n (dt_Md_twins.at 74 rfl) rfl ?_
      exact r_iret (dt_Md_twins.at 75 rfl) rfl
    · refine r_aload_n (dt_Md_twins.at 17 rfl) rfl ?_
      refine r_iload_n (dt_Md_twins.at 18 rfl) rfl ?_
      refine r_cvI (c := 9) (rest := []) (ct_Md_codeAt v0 v3 _) (dt_Md_twins.at 19 rfl) mb_Md_codeAt wd_1603 wd_1605 wp_78 rfl (by decide) rfl rfl (Nat.le_of_ble_eq_true rfl) (fun r6 M5 => ?_)
      refine r_istore (ls' := [.ref v0, .int v1, .int v2, .int v3, .int r6, .retAddr 0, .retAddr 0, .retAddr 0]) (dt_Md_twins.at 20 rfl) (by decide) rfl ?_
      refine r_iload (dt_Md_twins.at 21 rfl) rfl ?_
      refine r_csI (rest := []) (ct_Md_generation r6 _) (dt_Md_twins.at 22 rfl) mb_Md_generation wd_1463 wd_1464 (by decide) rfl rfl (Nat.le_of_ble_eq_true rfl) (fun r8 M7 => ?_)
      refine r_if_ne (tgt := 46) (dt_Md_twins.at 23 rfl) (by decide) ?_ ?_
      · refine r_goto (tgt := 136) (dt_Md_twins.at 24 rfl) (by decide) ?_
        refine r_iincn (v := 1) (dt_Md_twins.at 72 rfl) (by decide) rfl (by decide) (fun y => [.ref v0, .int v1, .int v2, .int y, .int r6, .retAddr 0, .retAddr 0, .retAddr 0]) (fun _ => rfl) (fun x9 => ?_)
        refine r_goto (tgt := 20) (dt_Md_twins.at 73 rfl) (by decide) ?_
        exact Rf.msk [true, true, true, true, false, false, false, false] (ih v0 v1 v2 x9 M7)
      · refine r_iload (dt_Md_twins.at 25 rfl) rfl ?_
        refine r_csI (rest := []) (ct_Md_generation r6 _) (dt_Md_twins.at 26 rfl) mb_Md_generation wd_1463 wd_1464 (by decide) rfl rfl (Nat.le_of_ble_eq_true rfl) (fun r11 M10 => ?_)
        refine r_iconst (dt_Md_twins.at 27 rfl) 1 (by decide) ?_
        refine r_icmp_ne (tgt := 60) (dt_Md_twins.at 28 rfl) (by decide) ?_ ?_
        · refine r_bipush (dt_Md_twins.at 29 rfl) 16 (by decide) ?_
          refine r_goto (tgt := 61) (dt_Md_twins.at 30 rfl) (by decide) ?_
          exact Rf.msk [true, true, true, true, true, false, false, false] (rf_Md_twins_L61 (F_Md_twins_L20 n) ih v0 v1 v2 v3 r6 16 M10)
        · refine r_iconst (dt_Md_twins.at 31 rfl) 1 (by decide) ?_
          exact Rf.msk [true, true, true, true, true, false, false, false] (rf_Md_twins_L61 (F_Md_twins_L20 n) ih v0 v1 v2 v3 r6 1 M10)
set_option maxRecDepth 20000 in
set_option maxHeartbeats 2000000 in
theorem ct_Md_twins {G : am_G} {l : Launch} (a0 : Nat) (p1 : Int32) (M : am_M) : Ct G l y_Md_twins X_Md_twins [.ref a0, .int p1] M (F_Md_twins a0 p1 M) := by
  refine Ct.of (by decide +kernel) rfl rfl (Nat.le_of_ble_eq_true rfl) ?_
  unfold F_Md_twins
  show Rf G l X_Md_twins 0 [.ref a0, .int p1, .retAddr 0, .retAddr 0, .retAddr 0, .retAddr 0, .retAddr 0, .retAddr 0] [] M _
  refine r_aload_n (dt_Md_twins.at 0 rfl) rfl ?_
  refine r_iload_n (dt_Md_twins.at 1 rfl) rfl ?_
  refine r_cvI (c := 9) (rest := []) (ct_Md_isTick a0 p1 _) (dt_Md_twins.at 2 rfl) mb_Md_isTick wd_1526 wd_1528 wp_70 rfl (by decide) rfl rfl (Nat.le_of_ble_eq_true rfl) (fun r2 M1 => ?_)
  refine r_if_ne (tgt := 11) (dt_Md_twins.at 3 rfl) (by decide) ?_ ?_
  · refine r_bipush (dt_Md_twins.at 4 rfl) (-2) (by decide) ?_
    exact r_iret (dt_Md_twins.at 5 rfl) rfl
  · refine r_aload_n (dt_Md_twins.at 6 rfl) rfl ?_
    refine r_iload_n (dt_Md_twins.at 7 rfl) rfl ?_
    refine r_cvV (c := 9) (rest := []) (ct_Md_gathers a0 p1 _) (dt_Md_twins.at 8 rfl) mb_Md_gathers wd_1583 wd_1585 wp_73 rfl (by decide) rfl rfl (Nat.le_of_ble_eq_true rfl) (fun M3 => ?_)
    refine r_iconst (dt_Md_twins.at 9 rfl) 0 (by decide) ?_
    refine r_istore_n (ls' := [.ref a0, .int p1, .int 0, .retAddr 0, .retAddr 0, .retAddr 0, .retAddr 0, .retAddr 0]) (dt_Md_twins.at 10 rfl) (by decide) rfl ?_
    refine r_iconst (dt_Md_twins.at 11 rfl) 0 (by decide) ?_
    refine r_istore_n (ls' := [.ref a0, .int p1, .int 0, .int 0, .retAddr 0, .retAddr 0, .retAddr 0, .retAddr 0]) (dt_Md_twins.at 12 rfl) (by decide) rfl ?_
    exact Rf.msk [true, true, true, true, false, false, false, false] (rf_Md_twins_L20 fu a0 p1 0 0 M3)
set_option maxRecDepth 20000 in
set_option maxHeartbeats 2000000 in
theorem ct_Md_isSpan {G : am_G} {l : Launch} (a0 : Nat) (p1 : Int32) (p2 : Int32) (p3 : Int32) (M : am_M) : Ct G l y_Md_isSpan X_Md_isSpan [.ref a0, .int p1, .int p2, .int p3] M (F_Md_isSpan a0 p1 p2 p3 M) := by
  refine Ct.of (by decide +kernel) rfl rfl (Nat.le_of_ble_eq_true rfl) ?_
  unfold F_Md_isSpan
  show Rf G l X_Md_isSpan 0 [.ref a0, .int p1, .int p2, .int p3] [] M _
  refine r_aload_n (dt_Md_isSpan.at 0 rfl) rfl ?_
  refine r_fI (dt_Md_isSpan.at 1 rfl) fl_Md_219 rfl (fun x1 => ?_)
  refine r_if_eq (tgt := 49) (dt_Md_isSpan.at 2 rfl) (by decide) ?_ ?_
  · refine r_iconst (dt_Md_isSpan.at 27 rfl) 0 (by decide) ?_
    exact r_zret (dt_Md_isSpan.at 28 rfl) rfl rfl
  · refine r_iload_n (dt_Md_isSpan.at 3 rfl) rfl ?_
    refine r_i2l (dt_Md_isSpan.at 4 rfl) ?_
    refine r_lconst (dt_Md_isSpan.at 5 rfl) 0 (by decide) ?_
    refine r_ldc2 (dt_Md_isSpan.at 6 rfl) 30001 wd_1690 ?_
    refine r_csI (rest := []) (ct_Md_in (p1.toInt64) 0 30001 _) (dt_Md_isSpan.at 7 rfl) mb_Md_in wd_1289 wd_1290 (by decide) rfl rfl (Nat.le_of_ble_eq_true rfl) (fun r3 M2 => ?_)
    refine r_if_eq (tgt := 49) (dt_Md_isSpan.at 8 rfl) (by decide) ?_ ?_
    · refine r_iconst (dt_Md_isSpan.at 27 rfl) 0 (by decide) ?_
      exact r_zret (dt_Md_isSpan.at 28 rfl) rfl rfl
    · refine r_iload_n (dt_Md_isSpan.at 9 rfl) rfl ?_
      refine r_i2l (dt_Md_isSpan.at 10 rfl) ?_
      refine r_lconst (dt_Md_isSpan.at 11 rfl) 0 (by decide) ?_
      refine r_ldc2 (dt_Md_isSpan.at 12 rfl) 30001 wd_1690 ?_
      refine r_csI (rest := []) (ct_Md_in (p2.toInt64) 0 30001 _) (dt_Md_isSpan.at 13 rfl) mb_Md_in wd_1289 wd_1290 (by decide) rfl rfl (Nat.le_of_ble_eq_true rfl) (fun r5 M4 => ?_)
      refine r_if_eq (tgt := 49) (dt_Md_isSpan.at 14 rfl) (by decide) ?_ ?_
      · refine r_iconst (dt_Md_isSpan.at 27 rfl) 0 (by decide) ?_
        exact r_zret (dt_Md_isSpan.at 28 rfl) rfl rfl
      · refine r_iload_n (dt_Md_isSpan.at 15 rfl) rfl ?_
        refine r_i2l (dt_Md_isSpan.at 16 rfl) ?_
        refine r_iload_n (dt_Md_isSpan.at 17 rfl) rfl ?_
        refine r_i2l (dt_Md_isSpan.at 18 rfl) ?_
        refine r_lsub (dt_Md_isSpan.at 19 rfl) ?_
        refine r_lconst (dt_Md_isSpan.at 20 rfl) 0 (by decide) ?_
        refine r_iload_n (dt_Md_isSpan.at 21 rfl) rfl ?_
        refine r_i2l (dt_Md_isSpan.at 22 rfl) ?_
        refine r_csI (rest := []) (ct_Md_in ((p2.toInt64) - (p1.toInt64)) 0 (p3.toInt64) _) (dt_Md_isSpan.at 23 rfl) mb_Md_in wd_1289 wd_1290 (by decide) rfl rfl (Nat.le_of_ble_eq_true rfl) (fun r7 M6 => ?_)
        refine r_if_eq (tgt := 49) (dt_Md_isSpan.at 24 rfl) (by decide) ?_ ?_
        · refine r_iconst (dt_Md_isSpan.at 27 rfl) 0 (by decide) ?_
          exact r_zret (dt_Md_isSpan.at 28 rfl) rfl rfl
        · refine r_iconst (dt_Md_isSpan.at 25 rfl) 1 (by decide) ?_
          refine r_goto (tgt := 50) (dt_Md_isSpan.at 26 rfl) (by decide) ?_
          exact r_zret (dt_Md_isSpan.at 28 rfl) rfl rfl
set_option maxRecDepth 20000 in
set_option maxHeartbeats 2000000 in
theorem ct_Md_bornOf {G : am_G} {l : Launch} (a0 : Nat) (p1 : Int32) (M : am_M) : Ct G l y_Md_bornOf X_Md_bornOf [.ref a0, .int p1] M (F_Md_bornOf a0 p1 M) := by
  refine Ct.of (by decide +kernel) rfl rfl (Nat.le_of_ble_eq_true rfl) ?_
  unfold F_Md_bornOf
  show Rf G l X_Md_bornOf 0 [.ref a0, .int p1, .retAddr 0, .retAddr 0] [] M _
  refine r_iload_n (dt_Md_bornOf.at 0 rfl) rfl ?_
  refine r_iconst (dt_Md_bornOf.at 1 rfl) 4 (by decide) ?_
  refine r_iremk (dt_Md_bornOf.at 2 rfl) (by decide) ?_
  refine r_nmi (fun x1 => ?_)
  refine r_istore_n (ls' := [.ref a0, .int p1, .int x1, .retAddr 0]) (dt_Md_bornOf.at 3 rfl) (by decide) rfl ?_
  refine r_iload_n (dt_Md_bornOf.at 4 rfl) rfl ?_
  refine r_iconst (dt_Md_bornOf.at 5 rfl) 4 (by decide) ?_
  refine r_idivk (dt_Md_bornOf.at 6 rfl) (by decide) ?_
  refine r_nmi (fun x2 => ?_)
  refine r_istore_n (ls' := [.ref a0, .int p1, .int x1, .int x2]) (dt_Md_bornOf.at 7 rfl) (by decide) rfl ?_
  refine r_aload_n (dt_Md_bornOf.at 8 rfl) rfl ?_
  refine r_iload_n (dt_Md_bornOf.at 9 rfl) rfl ?_
  refine r_iconst (dt_Md_bornOf.at 10 rfl) 4 (by decide) ?_
  refine r_cvI (c := 9) (rest := []) (ct_Md_ofSource a0 x1 4 _) (dt_Md_bornOf.at 11 rfl) mb_Md_ofSource wd_1403 wd_1405 wp_53 rfl (by decide) rfl rfl (Nat.le_of_ble_eq_true rfl) (fun r4 M3 => ?_)
  refine r_iload_n (dt_Md_bornOf.at 12 rfl) rfl ?_
  refine r_aload_n (dt_Md_bornOf.at 13 rfl) rfl ?_
  refine r_iload_n (dt_Md_bornOf.at 14 rfl) rfl ?_
  refine r_bipush (dt_Md_bornOf.at 15 rfl) 6 (by decide) ?_
  refine r_cvI (c := 9) (rest := [.int x2, .int r4]) (ct_Md_ofSource a0 x1 6 _) (dt_Md_bornOf.at 16 rfl) mb_Md_ofSource wd_1403 wd_1405 wp_53 rfl (by decide) rfl rfl (Nat.le_of_ble_eq_true rfl) (fun r6 M5 => ?_)
  refine r_idiv (dt_Md_bornOf.at 17 rfl) ?_
  refine r_aload_n (dt_Md_bornOf.at 18 rfl) rfl ?_
  refine r_iload_n (dt_Md_bornOf.at 19 rfl) rfl ?_
  refine r_iconst (dt_Md_bornOf.at 20 rfl) 5 (by decide) ?_
  refine r_cvI (c := 9) (rest := [.int (x2 / r6), .int r4]) (ct_Md_ofSource a0 x1 5 _) (dt_Md_bornOf.at 21 rfl) mb_Md_ofSource wd_1403 wd_1405 wp_53 rfl (by decide) rfl rfl (Nat.le_of_ble_eq_true rfl) (fun r8 M7 => ?_)
  refine r_imul (dt_Md_bornOf.at 22 rfl) ?_
  refine r_iadd (dt_Md_bornOf.at 23 rfl) ?_
  refine r_aload_n (dt_Md_bornOf.at 24 rfl) rfl ?_
  refine r_sipush (dt_Md_bornOf.at 25 rfl) 256 (by decide) ?_
  refine r_iload_n (dt_Md_bornOf.at 26 rfl) rfl ?_
  refine r_imul (dt_Md_bornOf.at 27 rfl) ?_
  refine r_iconst (dt_Md_bornOf.at 28 rfl) 0 (by decide) ?_
  refine r_aload_n (dt_Md_bornOf.at 29 rfl) rfl ?_
  refine r_iload_n (dt_Md_bornOf.at 30 rfl) rfl ?_
  refine r_bipush (dt_Md_bornOf.at 31 rfl) 8 (by decide) ?_
  refine r_cvI (c := 9) (rest := [.int 0, .int (256 * p1), .ref a0, .int (r4 + ((x2 / r6) * r8))]) (ct_Md_ofSource a0 x1 8 _) (dt_Md_bornOf.at 32 rfl) mb_Md_ofSource wd_1403 wd_1405 wp_53 rfl (by decide) rfl rfl (Nat.le_of_ble_eq_true rfl) (fun r10 M9 => ?_)
  refine r_iconst (dt_Md_bornOf.at 33 rfl) 1 (by decide) ?_
  refine r_iadd (dt_Md_bornOf.at 34 rfl) ?_
  refine r_cvI (c := 9) (rest := [.int (r4 + ((x2 / r6) * r8))]) (ct_Md_draw a0 (256 * p1) 0 (r10 + 1) _) (dt_Md_bornOf.at 35 rfl) mb_Md_draw wd_1489 wd_1491 wp_62 rfl (by decide) rfl rfl (Nat.le_of_ble_eq_true rfl) (fun r12 M11 => ?_)
  refine r_iadd (dt_Md_bornOf.at 36 rfl) ?_
  exact r_iret (dt_Md_bornOf.at 37 rfl) rfl
set_option maxRecDepth 20000 in
set_option maxHeartbeats 2000000 in
theorem rf_Md_births_L37 {G : am_G} {l : Launch}   : ∀ (n : Nat) (v0 : Nat) (v1 : Int32) (v2 : Int32) (v3 : Int32) (v4 : Int32) (v5 : Int32) (M : am_M), Rf G l X_Md_births 37 [.ref v0, .int v1, .int v2, .int v3, .int v4, .int v5] [] M (F_Md_births_L37 n v0 v1 v2 v3 v4 v5 M) := by
  intro n
  induction n with
  | zero => intro v0 v1 v2 v3 v4 v5 M; exact Rf.no
  | succ n ih =>
    intro v0 v1 v2 v3 v4 v5 M
    unfold F_Md_births_L37
    refine r_iload (dt_Md_births.at 22 rfl) rfl ?_
    refine r_aload_n (dt_Md_births.at 23 rfl) rfl ?_
    refine r_iload_n (dt_Md_births.at 24 rfl) rfl ?_
    refine r_cvI (c := 9) (rest := [.int v5]) (ct_Md_roots v0 v1 _) (dt_Md_births.at 25 rfl) mb_Md_roots wd_1395 wd_1397 wp_51 rfl (by decide) rfl rfl (Nat.le_of_ble_eq_true rfl) (fun r7 M6 => ?_)
    refine r_icmp_ge (tgt := 86) (dt_Md_births.at 26 rfl) (by decide) ?_ ?_
    · refine r_iload (dt_Md_births.at 51 rfl) rfl ?_
      exact r_iret (dt_Md_births.at 52 rfl) rfl
    · refine r_iload (dt_Md_births.at 27 rfl) rfl ?_
      refine r_aload_n (dt_Md_births.at 28 rfl) rfl ?_
      refine r_iconst (dt_Md_births.at 29 rfl) 4 (by decide) ?_
      refine r_iload (dt_Md_births.at 30 rfl) rfl ?_
      refine r_imul (dt_Md_births.at 31 rfl) ?_
      refine r_iload_n (dt_Md_births.at 32 rfl) rfl ?_
      refine r_iadd (dt_Md_births.at 33 rfl) ?_
      refine r_cvI (c := 9) (rest := [.int v4]) (ct_Md_bornOf v0 ((4 * v5) + v1) _) (dt_Md_births.at 34 rfl) mb_Md_bornOf wd_1737 wd_1739 wp_89 rfl (by decide) rfl rfl (Nat.le_of_ble_eq_true rfl) (fun r9 M8 => ?_)
      refine r_i2l (dt_Md_births.at 35 rfl) ?_
      refine r_iload_n (dt_Md_births.at 36 rfl) rfl ?_
      refine r_i2l (dt_Md_births.at 37 rfl) ?_
      refine r_iload_n (dt_Md_births.at 38 rfl) rfl ?_
      refine r_iconst (dt_Md_births.at 39 rfl) 1 (by decide) ?_
      refine r_isub (dt_Md_births.at 40 rfl) ?_
      refine r_i2l (dt_Md_births.at 41 rfl) ?_
      refine r_csI (rest := [.int v4]) (ct_Md_in (r9.toInt64) (v2.toInt64) ((v3 - 1).toInt64) _) (dt_Md_births.at 42 rfl) mb_Md_in wd_1289 wd_1290 (by decide) rfl rfl (Nat.le_of_ble_eq_true rfl) (fun r11 M10 => ?_)
      refine r_if_eq (tgt := 76) (dt_Md_births.at 43 rfl) (by decide) ?_ ?_
      · refine r_iconst (dt_Md_births.at 46 rfl) 0 (by decide) ?_
        refine r_iadd (dt_Md_births.at 47 rfl) ?_
        refine r_nmi (fun x12 => ?_)
        refine r_istore (ls' := [.ref v0, .int v1, .int v2, .int v3, .int x12, .int v5]) (dt_Md_births.at 48 rfl) (by decide) rfl ?_
        refine r_iincn (v := 1) (dt_Md_births.at 49 rfl) (by decide) rfl (by decide) (fun y => [.ref v0, .int v1, .int v2, .int v3, .int x12, .int y]) (fun _ => rfl) (fun x13 => ?_)
        refine r_goto (tgt := 37) (dt_Md_births.at 50 rfl) (by decide) ?_
        exact Rf.msk [true, true, true, true, true, true] (ih v0 v1 v2 v3 x12 x13 M10)
      · refine r_iconst (dt_Md_births.at 44 rfl) 1 (by decide) ?_
        refine r_goto (tgt := 77) (dt_Md_births.at 45 rfl) (by decide) ?_
        refine r_iadd (dt_Md_births.at 47 rfl) ?_
        refine r_nmi (fun x14 => ?_)
        refine r_istore (ls' := [.ref v0, .int v1, .int v2, .int v3, .int x14, .int v5]) (dt_Md_births.at 48 rfl) (by decide) rfl ?_
        refine r_iincn (v := 1) (dt_Md_births.at 49 rfl) (by decide) rfl (by decide) (fun y => [.ref v0, .int v1, .int v2, .int v3, .int x14, .int y]) (fun _ => rfl) (fun x15 => ?_)
        refine r_goto (tgt := 37) (dt_Md_births.at 50 rfl) (by decide) ?_
        exact Rf.msk [true, true, true, true, true, true] (ih v0 v1 v2 v3 x14 x15 M10)
set_option maxRecDepth 20000 in
set_option maxHeartbeats 2000000 in
theorem ct_Md_births {G : am_G} {l : Launch} (a0 : Nat) (p1 : Int32) (p2 : Int32) (p3 : Int32) (M : am_M) : Ct G l y_Md_births X_Md_births [.ref a0, .int p1, .int p2, .int p3] M (F_Md_births a0 p1 p2 p3 M) := by
  refine Ct.of (by decide +kernel) rfl rfl (Nat.le_of_ble_eq_true rfl) ?_
  unfold F_Md_births
  show Rf G l X_Md_births 0 [.ref a0, .int p1, .int p2, .int p3, .retAddr 0, .retAddr 0] [] M _
  refine r_iload_n (dt_Md_births.at 0 rfl) rfl ?_
  refine r_i2l (dt_Md_births.at 1 rfl) ?_
  refine r_lconst (dt_Md_births.at 2 rfl) 0 (by decide) ?_
  refine r_aload_n (dt_Md_births.at 3 rfl) rfl ?_
  refine r_fI (dt_Md_births.at 4 rfl) fl_Md_227 rfl (fun x1 => ?_)
  refine r_iconst (dt_Md_births.at 5 rfl) 1 (by decide) ?_
  refine r_isub (dt_Md_births.at 6 rfl) ?_
  refine r_i2l (dt_Md_births.at 7 rfl) ?_
  refine r_csI (rest := []) (ct_Md_in (p1.toInt64) 0 ((x1 - 1).toInt64) _) (dt_Md_births.at 8 rfl) mb_Md_in wd_1289 wd_1290 (by decide) rfl rfl (Nat.le_of_ble_eq_true rfl) (fun r3 M2 => ?_)
  refine r_if_eq (tgt := 28) (dt_Md_births.at 9 rfl) (by decide) ?_ ?_
  · refine r_bipush (dt_Md_births.at 16 rfl) (-2) (by decide) ?_
    exact r_iret (dt_Md_births.at 17 rfl) rfl
  · refine r_aload_n (dt_Md_births.at 10 rfl) rfl ?_
    refine r_iload_n (dt_Md_births.at 11 rfl) rfl ?_
    refine r_iload_n (dt_Md_births.at 12 rfl) rfl ?_
    refine r_sipush (dt_Md_births.at 13 rfl) 30001 (by decide) ?_
    refine r_cvI (c := 9) (rest := []) (ct_Md_isSpan a0 p2 p3 30001 _) (dt_Md_births.at 14 rfl) mb_Md_isSpan wd_1733 wd_1735 wp_88 rfl (by decide) rfl rfl (Nat.le_of_ble_eq_true rfl) (fun r5 M4 => ?_)
    refine r_if_ne (tgt := 31) (dt_Md_births.at 15 rfl) (by decide) ?_ ?_
    · refine r_bipush (dt_Md_births.at 16 rfl) (-2) (by decide) ?_
      exact r_iret (dt_Md_births.at 17 rfl) rfl
    · refine r_iconst (dt_Md_births.at 18 rfl) 0 (by decide) ?_
      refine r_istore (ls' := [.ref a0, .int p1, .int p2, .int p3, .int 0, .retAddr 0]) (dt_Md_births.at 19 rfl) (by decide) rfl ?_
      refine r_iconst (dt_Md_births.at 20 rfl) 0 (by decide) ?_
      refine r_istore (ls' := [.ref a0, .int p1, .int p2, .int p3, .int 0, .int 0]) (dt_Md_births.at 21 rfl) (by decide) rfl ?_
      exact Rf.msk [true, true, true, true, true, true] (rf_Md_births_L37 fu a0 p1 p2 p3 0 0 M4)
set_option maxRecDepth 20000 in
set_option maxHeartbeats 2000000 in
theorem rf_Md_endingsOf_L6 {G : am_G} {l : Launch}   : ∀ (n : Nat) (v0 : Nat) (v1 : Int32) (v2 : Int32) (v3 : Int32) (v4 : Int32) (v5 : Int32) (M : am_M), Rf G l X_Md_endingsOf 6 [.ref v0, .int v1, .int v2, .int v3, .int v4, .int v5] [] M (F_Md_endingsOf_L6 n v0 v1 v2 v3 v4 v5 M) := by
  intro n
  induction n with
  | zero => intro v0 v1 v2 v3 v4 v5 M; exact Rf.no
  | succ n ih =>
    intro v0 v1 v2 v3 v4 v5 M
    unfold F_Md_endingsOf_L6
    refine r_iload (dt_Md_endingsOf.at 4 rfl) rfl ?_
    refine r_bipush (dt_Md_endingsOf.at 5 rfl) 48 (by decide) ?_
    refine r_icmp_ge (tgt := 85) (dt_Md_endingsOf.at 6 rfl) (by decide) ?_ ?_
    · refine r_iload (dt_Md_endingsOf.at 47 rfl) rfl ?_
      exact r_iret (dt_Md_endingsOf.at 48 rfl) rfl
    · refine r_iload (dt_Md_endingsOf.at 7 rfl) rfl ?_
      refine r_bipush (dt_Md_endingsOf.at 8 rfl) 16 (by decide) ?_
      refine r_iremk (dt_Md_endingsOf.at 9 rfl) (by decide) ?_
      refine r_iconst (dt_Md_endingsOf.at 10 rfl) 2 (by decide) ?_
      refine r_icmp_gt (tgt := 79) (dt_Md_endingsOf.at 11 rfl) (by decide) ?_ ?_
      · refine r_iincn (v := 1) (dt_Md_endingsOf.at 45 rfl) (by decide) rfl (by decide) (fun y => [.ref v0, .int v1, .int v2, .int v3, .int v4, .int y]) (fun _ => rfl) (fun x1 => ?_)
        refine r_goto (tgt := 6) (dt_Md_endingsOf.at 46 rfl) (by decide) ?_
        exact Rf.msk [true, true, true, true, true, true] (ih v0 v1 v2 v3 v4 x1 M)
      · refine r_aload_n (dt_Md_endingsOf.at 12 rfl) rfl ?_
        refine r_sipush (dt_Md_endingsOf.at 13 rfl) 256 (by decide) ?_
        refine r_iload_n (dt_Md_endingsOf.at 14 rfl) rfl ?_
        refine r_imul (dt_Md_endingsOf.at 15 rfl) ?_
        refine r_iload (dt_Md_endingsOf.at 16 rfl) rfl ?_
        refine r_iadd (dt_Md_endingsOf.at 17 rfl) ?_
        refine r_cvI (c := 9) (rest := []) (ct_Md_isSpark v0 ((256 * v1) + v5) _) (dt_Md_endingsOf.at 18 rfl) mb_Md_isSpark wd_1441 wd_1443 wp_56 rfl (by decide) rfl rfl (Nat.le_of_ble_eq_true rfl) (fun r3 M2 => ?_)
        refine r_if_ne (tgt := 40) (dt_Md_endingsOf.at 19 rfl) (by decide) ?_ ?_
        · refine r_goto (tgt := 79) (dt_Md_endingsOf.at 20 rfl) (by decide) ?_
          refine r_iincn (v := 1) (dt_Md_endingsOf.at 45 rfl) (by decide) rfl (by decide) (fun y => [.ref v0, .int v1, .int v2, .int v3, .int v4, .int y]) (fun _ => rfl) (fun x4 => ?_)
          refine r_goto (tgt := 6) (dt_Md_endingsOf.at 46 rfl) (by decide) ?_
          exact Rf.msk [true, true, true, true, true, true] (ih v0 v1 v2 v3 v4 x4 M2)
        · refine r_aload_n (dt_Md_endingsOf.at 21 rfl) rfl ?_
          refine r_sipush (dt_Md_endingsOf.at 22 rfl) 256 (by decide) ?_
          refine r_iload_n (dt_Md_endingsOf.at 23 rfl) rfl ?_
          refine r_imul (dt_Md_endingsOf.at 24 rfl) ?_
          refine r_iload (dt_Md_endingsOf.at 25 rfl) rfl ?_
          refine r_iadd (dt_Md_endingsOf.at 26 rfl) ?_
          refine r_cvV (c := 9) (rest := []) (ct_Md_lays v0 ((256 * v1) + v5) _) (dt_Md_endingsOf.at 27 rfl) mb_Md_lays wd_1481 wd_1483 wp_60 rfl (by decide) rfl rfl (Nat.le_of_ble_eq_true rfl) (fun M5 => ?_)
          refine r_iload (dt_Md_endingsOf.at 28 rfl) rfl ?_
          refine r_aload_n (dt_Md_endingsOf.at 29 rfl) rfl ?_
          refine r_fI (dt_Md_endingsOf.at 30 rfl) fl_Md_303 rfl (fun x6 => ?_)
          refine r_i2l (dt_Md_endingsOf.at 31 rfl) ?_
          refine r_iload_n (dt_Md_endingsOf.at 32 rfl) rfl ?_
          refine r_i2l (dt_Md_endingsOf.at 33 rfl) ?_
          refine r_iload_n (dt_Md_endingsOf.at 34 rfl) rfl ?_
          refine r_iconst (dt_Md_endingsOf.at 35 rfl) 1 (by decide) ?_
          refine r_isub (dt_Md_endingsOf.at 36 rfl) ?_
          refine r_i2l (dt_Md_endingsOf.at 37 rfl) ?_
          refine r_csI (rest := [.int v4]) (ct_Md_in (x6.toInt64) (v2.toInt64) ((v3 - 1).toInt64) _) (dt_Md_endingsOf.at 38 rfl) mb_Md_in wd_1289 wd_1290 (by decide) rfl rfl (Nat.le_of_ble_eq_true rfl) (fun r8 M7 => ?_)
          refine r_if_eq (tgt := 75) (dt_Md_endingsOf.at 39 rfl) (by decide) ?_ ?_
          · refine r_iconst (dt_Md_endingsOf.at 42 rfl) 0 (by decide) ?_
            refine r_iadd (dt_Md_endingsOf.at 43 rfl) ?_
            refine r_nmi (fun x9 => ?_)
            refine r_istore (ls' := [.ref v0, .int v1, .int v2, .int v3, .int x9, .int v5]) (dt_Md_endingsOf.at 44 rfl) (by decide) rfl ?_
            refine r_iincn (v := 1) (dt_Md_endingsOf.at 45 rfl) (by decide) rfl (by decide) (fun y => [.ref v0, .int v1, .int v2, .int v3, .int x9, .int y]) (fun _ => rfl) (fun x10 => ?_)
            refine r_goto (tgt := 6) (dt_Md_endingsOf.at 46 rfl) (by decide) ?_
            exact Rf.msk [true, true, true, true, true, true] (ih v0 v1 v2 v3 x9 x10 M7)
          · refine r_iconst (dt_Md_endingsOf.at 40 rfl) 1 (by decide) ?_
            refine r_goto (tgt := 76) (dt_Md_endingsOf.at 41 rfl) (by decide) ?_
            refine r_iadd (dt_Md_endingsOf.at 43 rfl) ?_
            refine r_nmi (fun x11 => ?_)
            refine r_istore (ls' := [.ref v0, .int v1, .int v2, .int v3, .int x11, .int v5]) (dt_Md_endingsOf.at 44 rfl) (by decide) rfl ?_
            refine r_iincn (v := 1) (dt_Md_endingsOf.at 45 rfl) (by decide) rfl (by decide) (fun y => [.ref v0, .int v1, .int v2, .int v3, .int x11, .int y]) (fun _ => rfl) (fun x12 => ?_)
            refine r_goto (tgt := 6) (dt_Md_endingsOf.at 46 rfl) (by decide) ?_
            exact Rf.msk [true, true, true, true, true, true] (ih v0 v1 v2 v3 x11 x12 M7)
set_option maxRecDepth 20000 in
set_option maxHeartbeats 2000000 in
theorem ct_Md_endingsOf {G : am_G} {l : Launch} (a0 : Nat) (p1 : Int32) (p2 : Int32) (p3 : Int32) (M : am_M) : Ct G l y_Md_endingsOf X_Md_endingsOf [.ref a0, .int p1, .int p2, .int p3] M (F_Md_endingsOf a0 p1 p2 p3 M) := by
  refine Ct.of (by decide +kernel) rfl rfl (Nat.le_of_ble_eq_true rfl) ?_
  unfold F_Md_endingsOf
  show Rf G l X_Md_endingsOf 0 [.ref a0, .int p1, .int p2, .int p3, .retAddr 0, .retAddr 0] [] M _
  refine r_iconst (dt_Md_endingsOf.at 0 rfl) 0 (by decide) ?_
  refine r_istore (ls' := [.ref a0, .int p1, .int p2, .int p3, .int 0, .retAddr 0]) (dt_Md_endingsOf.at 1 rfl) (by decide) rfl ?_
  refine r_iconst (dt_Md_endingsOf.at 2 rfl) 0 (by decide) ?_
  refine r_istore (ls' := [.ref a0, .int p1, .int p2, .int p3, .int 0, .int 0]) (dt_Md_endingsOf.at 3 rfl) (by decide) rfl ?_
  exact Rf.msk [true, true, true, true, true, true] (rf_Md_endingsOf_L6 fu a0 p1 p2 p3 0 0 M)
set_option maxRecDepth 20000 in
set_option maxHeartbeats 2000000 in
theorem rf_Md_endings_L67 {G : am_G} {l : Launch} (k20 : Nat → Int32 → Int32 → Int32 → Int32 → am_M → am_R) (k48 : Nat → Int32 → Int32 → Int32 → Int32 → Int32 → Int32 → am_M → am_R) (hk20 : ∀ v0 v1 v2 v3 v4 M, Rf G l X_Md_endings 20 [.ref v0, .int v1, .int v2, .int v3, .int v4, .retAddr 0, .retAddr 0, .retAddr 0] [] M (k20 v0 v1 v2 v3 v4 M)) (hk48 : ∀ v0 v1 v2 v3 v4 v5 v6 M, Rf G l X_Md_endings 48 [.ref v0, .int v1, .int v2, .int v3, .int v4, .int v5, .int v6, .retAddr 0] [] M (k48 v0 v1 v2 v3 v4 v5 v6 M)) : ∀ (n : Nat) (v0 : Nat) (v1 : Int32) (v2 : Int32) (v3 : Int32) (v4 : Int32) (v5 : Int32) (v6 : Int32) (v7 : Int32) (M : am_M), Rf G l X_Md_endings 67 [.ref v0, .int v1, .int v2, .int v3, .int v4, .int v5, .int v6, .int v7] [] M (F_Md_endings_L67 k20 k48 n v0 v1 v2 v3 v4 v5 v6 v7 M) := by
  intro n
  induction n with
  | zero => intro v0 v1 v2 v3 v4 v5 v6 v7 M; exact Rf.no
  | succ n ih =>
    intro v0 v1 v2 v3 v4 v5 v6 v7 M
    unfold F_Md_endings_L67
    refine r_iload (dt_Md_endings.at 36 rfl) rfl ?_
    refine r_iload (dt_Md_endings.at 37 rfl) rfl ?_
    refine r_iload (dt_Md_endings.at 38 rfl) rfl ?_
    refine r_imul (dt_Md_endings.at 39 rfl) ?_
    refine r_iload (dt_Md_endings.at 40 rfl) rfl ?_
    refine r_iadd (dt_Md_endings.at 41 rfl) ?_
    refine r_icmp_ge (tgt := 102) (dt_Md_endings.at 42 rfl) (by decide) ?_ ?_
    · refine r_iincn (v := 1) (dt_Md_endings.at 57 rfl) (by decide) rfl (by decide) (fun y => [.ref v0, .int v1, .int v2, .int v3, .int v4, .int v5, .int y, .int v7]) (fun _ => rfl) (fun x12 => ?_)
      refine r_goto (tgt := 48) (dt_Md_endings.at 58 rfl) (by decide) ?_
      exact Rf.msk [true, true, true, true, true, true, true, false] (hk48 v0 v1 v2 v3 v4 v5 x12 M)
    · refine r_iload_n (dt_Md_endings.at 43 rfl) rfl ?_
      refine r_aload_n (dt_Md_endings.at 44 rfl) rfl ?_
      refine r_iconst (dt_Md_endings.at 45 rfl) 4 (by decide) ?_
      refine r_iload (dt_Md_endings.at 46 rfl) rfl ?_
      refine r_imul (dt_Md_endings.at 47 rfl) ?_
      refine r_iload (dt_Md_endings.at 48 rfl) rfl ?_
      refine r_iadd (dt_Md_endings.at 49 rfl) ?_
      refine r_iload_n (dt_Md_endings.at 50 rfl) rfl ?_
      refine r_iload_n (dt_Md_endings.at 51 rfl) rfl ?_
      refine r_cvI (c := 9) (rest := [.int v3]) (ct_Md_endingsOf v0 ((4 * v7) + v4) v1 v2 _) (dt_Md_endings.at 52 rfl) mb_Md_endingsOf wd_1745 wd_1747 wp_90 rfl (by decide) rfl rfl (Nat.le_of_ble_eq_true rfl) (fun r14 M13 => ?_)
      refine r_iadd (dt_Md_endings.at 53 rfl) ?_
      refine r_nmi (fun x15 => ?_)
      refine r_istore_n (ls' := [.ref v0, .int v1, .int v2, .int x15, .int v4, .int v5, .int v6, .int v7]) (dt_Md_endings.at 54 rfl) (by decide) rfl ?_
      refine r_iincn (v := 1) (dt_Md_endings.at 55 rfl) (by decide) rfl (by decide) (fun y => [.ref v0, .int v1, .int v2, .int x15, .int v4, .int v5, .int v6, .int y]) (fun _ => rfl) (fun x16 => ?_)
      refine r_goto (tgt := 67) (dt_Md_endings.at 56 rfl) (by decide) ?_
      exact Rf.msk [true, true, true, true, true, true, true, true] (ih v0 v1 v2 x15 v4 v5 v6 x16 M13)
set_option maxRecDepth 20000 in
set_option maxHeartbeats 2000000 in
theorem rf_Md_endings_L48 {G : am_G} {l : Launch} (k20 : Nat → Int32 → Int32 → Int32 → Int32 → am_M → am_R) (hk20 : ∀ v0 v1 v2 v3 v4 M, Rf G l X_Md_endings 20 [.ref v0, .int v1, .int v2, .int v3, .int v4, .retAddr 0, .retAddr 0, .retAddr 0] [] M (k20 v0 v1 v2 v3 v4 M)) : ∀ (n : Nat) (v0 : Nat) (v1 : Int32) (v2 : Int32) (v3 : Int32) (v4 : Int32) (v5 : Int32) (v6 : Int32) (M : am_M), Rf G l X_Md_endings 48 [.ref v0, .int v1, .int v2, .int v3, .int v4, .int v5, .int v6, .retAddr 0] [] M (F_Md_endings_L48 k20 n v0 v1 v2 v3 v4 v5 v6 M) := by
  intro n
  induction n with
  | zero => intro v0 v1 v2 v3 v4 v5 v6 M; exact Rf.no
  | succ n ih =>
    intro v0 v1 v2 v3 v4 v5 v6 M
    unfold F_Md_endings_L48
    refine r_aload_n (dt_Md_endings.at 26 rfl) rfl ?_
    refine r_iload (dt_Md_endings.at 27 rfl) rfl ?_
    refine r_iload (dt_Md_endings.at 28 rfl) rfl ?_
    refine r_iload_n (dt_Md_endings.at 29 rfl) rfl ?_
    refine r_cvI (c := 9) (rest := []) (ct_Md_isGroup v0 v4 v6 v2 _) (dt_Md_endings.at 30 rfl) mb_Md_isGroup wd_1591 wd_1593 wp_75 rfl (by decide) rfl rfl (Nat.le_of_ble_eq_true rfl) (fun r9 M8 => ?_)
    refine r_if_eq (tgt := 108) (dt_Md_endings.at 31 rfl) (by decide) ?_ ?_
    · refine r_iincn (v := 1) (dt_Md_endings.at 59 rfl) (by decide) rfl (by decide) (fun y => [.ref v0, .int v1, .int v2, .int v3, .int y, .int v5, .int v6, .retAddr 0]) (fun _ => rfl) (fun x10 => ?_)
      refine r_goto (tgt := 20) (dt_Md_endings.at 60 rfl) (by decide) ?_
      exact Rf.msk [true, true, true, true, true, false, false, false] (hk20 v0 v1 v2 v3 x10 M8)
    · refine r_iload (dt_Md_endings.at 32 rfl) rfl ?_
      refine r_iload (dt_Md_endings.at 33 rfl) rfl ?_
      refine r_imul (dt_Md_endings.at 34 rfl) ?_
      refine r_nmi (fun x11 => ?_)
      refine r_istore (ls' := [.ref v0, .int v1, .int v2, .int v3, .int v4, .int v5, .int v6, .int x11]) (dt_Md_endings.at 35 rfl) (by decide) rfl ?_
      exact Rf.msk [true, true, true, true, true, true, true, true] (rf_Md_endings_L67 k20 (F_Md_endings_L48 k20 n) hk20 ih fu v0 v1 v2 v3 v4 v5 v6 x11 M8)
set_option maxRecDepth 20000 in
set_option maxHeartbeats 2000000 in
theorem rf_Md_endings_L20 {G : am_G} {l : Launch}   : ∀ (n : Nat) (v0 : Nat) (v1 : Int32) (v2 : Int32) (v3 : Int32) (v4 : Int32) (M : am_M), Rf G l X_Md_endings 20 [.ref v0, .int v1, .int v2, .int v3, .int v4, .retAddr 0, .retAddr 0, .retAddr 0] [] M (F_Md_endings_L20 n v0 v1 v2 v3 v4 M) := by
  intro n
  induction n with
  | zero => intro v0 v1 v2 v3 v4 M; exact Rf.no
  | succ n ih =>
    intro v0 v1 v2 v3 v4 M
    unfold F_Md_endings_L20
    refine r_iload (dt_Md_endings.at 12 rfl) rfl ?_
    refine r_aload_n (dt_Md_endings.at 13 rfl) rfl ?_
    refine r_fI (dt_Md_endings.at 14 rfl) fl_Md_227 rfl (fun x3 => ?_)
    refine r_icmp_ge (tgt := 114) (dt_Md_endings.at 15 rfl) (by decide) ?_ ?_
    · refine r_iload_n (dt_Md_endings.at 61 rfl) rfl ?_
      exact r_iret (dt_Md_endings.at 62 rfl) rfl
    · refine r_aload_n (dt_Md_endings.at 16 rfl) rfl ?_
      refine r_iload (dt_Md_endings.at 17 rfl) rfl ?_
      refine r_bipush (dt_Md_endings.at 18 rfl) 6 (by decide) ?_
      refine r_cvI (c := 9) (rest := []) (ct_Md_ofSource v0 v4 6 _) (dt_Md_endings.at 19 rfl) mb_Md_ofSource wd_1403 wd_1405 wp_53 rfl (by decide) rfl rfl (Nat.le_of_ble_eq_true rfl) (fun r5 M4 => ?_)
      refine r_istore (ls' := [.ref v0, .int v1, .int v2, .int v3, .int v4, .int r5, .retAddr 0, .retAddr 0]) (dt_Md_endings.at 20 rfl) (by decide) rfl ?_
      refine r_aload_n (dt_Md_endings.at 21 rfl) rfl ?_
      refine r_iload (dt_Md_endings.at 22 rfl) rfl ?_
      refine r_iload_n (dt_Md_endings.at 23 rfl) rfl ?_
      refine r_cvI (c := 9) (rest := []) (ct_Md_firstGroup v0 v4 v1 _) (dt_Md_endings.at 24 rfl) mb_Md_firstGroup wd_1587 wd_1589 wp_74 rfl (by decide) rfl rfl (Nat.le_of_ble_eq_true rfl) (fun r7 M6 => ?_)
      refine r_istore (ls' := [.ref v0, .int v1, .int v2, .int v3, .int v4, .int r5, .int r7, .retAddr 0]) (dt_Md_endings.at 25 rfl) (by decide) rfl ?_
      exact Rf.msk [true, true, true, true, true, true, true, false] (rf_Md_endings_L48 (F_Md_endings_L20 n) ih fu v0 v1 v2 v3 v4 r5 r7 M6)
set_option maxRecDepth 20000 in
set_option maxHeartbeats 2000000 in
theorem ct_Md_endings {G : am_G} {l : Launch} (a0 : Nat) (p1 : Int32) (p2 : Int32) (M : am_M) : Ct G l y_Md_endings X_Md_endings [.ref a0, .int p1, .int p2] M (F_Md_endings a0 p1 p2 M) := by
  refine Ct.of (by decide +kernel) rfl rfl (Nat.le_of_ble_eq_true rfl) ?_
  unfold F_Md_endings
  show Rf G l X_Md_endings 0 [.ref a0, .int p1, .int p2, .retAddr 0, .retAddr 0, .retAddr 0, .retAddr 0, .retAddr 0] [] M _
  refine r_aload_n (dt_Md_endings.at 0 rfl) rfl ?_
  refine r_iload_n (dt_Md_endings.at 1 rfl) rfl ?_
  refine r_iload_n (dt_Md_endings.at 2 rfl) rfl ?_
  refine r_sipush (dt_Md_endings.at 3 rfl) 300 (by decide) ?_
  refine r_cvI (c := 9) (rest := []) (ct_Md_isSpan a0 p1 p2 300 _) (dt_Md_endings.at 4 rfl) mb_Md_isSpan wd_1733 wd_1735 wp_88 rfl (by decide) rfl rfl (Nat.le_of_ble_eq_true rfl) (fun r2 M1 => ?_)
  refine r_if_ne (tgt := 15) (dt_Md_endings.at 5 rfl) (by decide) ?_ ?_
  · refine r_bipush (dt_Md_endings.at 6 rfl) (-2) (by decide) ?_
    exact r_iret (dt_Md_endings.at 7 rfl) rfl
  · refine r_iconst (dt_Md_endings.at 8 rfl) 0 (by decide) ?_
    refine r_istore_n (ls' := [.ref a0, .int p1, .int p2, .int 0, .retAddr 0, .retAddr 0, .retAddr 0, .retAddr 0]) (dt_Md_endings.at 9 rfl) (by decide) rfl ?_
    refine r_iconst (dt_Md_endings.at 10 rfl) 0 (by decide) ?_
    refine r_istore (ls' := [.ref a0, .int p1, .int p2, .int 0, .int 0, .retAddr 0, .retAddr 0, .retAddr 0]) (dt_Md_endings.at 11 rfl) (by decide) rfl ?_
    exact Rf.msk [true, true, true, true, true, false, false, false] (rf_Md_endings_L20 fu a0 p1 p2 0 0 M1)
set_option maxRecDepth 20000 in
set_option maxHeartbeats 2000000 in
theorem ct_Md_lastBirth {G : am_G} {l : Launch} (a0 : Nat) (p1 : Int32) (M : am_M) : Ct G l y_Md_lastBirth X_Md_lastBirth [.ref a0, .int p1] M (F_Md_lastBirth a0 p1 M) := by
  refine Ct.of (by decide +kernel) rfl rfl (Nat.le_of_ble_eq_true rfl) ?_
  unfold F_Md_lastBirth
  show Rf G l X_Md_lastBirth 0 [.ref a0, .int p1] [] M _
  refine r_aload_n (dt_Md_lastBirth.at 0 rfl) rfl ?_
  refine r_iload_n (dt_Md_lastBirth.at 1 rfl) rfl ?_
  refine r_iconst (dt_Md_lastBirth.at 2 rfl) 4 (by decide) ?_
  refine r_cvI (c := 9) (rest := []) (ct_Md_ofSource a0 p1 4 _) (dt_Md_lastBirth.at 3 rfl) mb_Md_ofSource wd_1403 wd_1405 wp_53 rfl (by decide) rfl rfl (Nat.le_of_ble_eq_true rfl) (fun r2 M1 => ?_)
  refine r_aload_n (dt_Md_lastBirth.at 4 rfl) rfl ?_
  refine r_iload_n (dt_Md_lastBirth.at 5 rfl) rfl ?_
  refine r_cvI (c := 9) (rest := [.int r2]) (ct_Md_groups a0 p1 _) (dt_Md_lastBirth.at 6 rfl) mb_Md_groups wd_1399 wd_1401 wp_52 rfl (by decide) rfl rfl (Nat.le_of_ble_eq_true rfl) (fun r4 M3 => ?_)
  refine r_iconst (dt_Md_lastBirth.at 7 rfl) 1 (by decide) ?_
  refine r_isub (dt_Md_lastBirth.at 8 rfl) ?_
  refine r_aload_n (dt_Md_lastBirth.at 9 rfl) rfl ?_
  refine r_iload_n (dt_Md_lastBirth.at 10 rfl) rfl ?_
  refine r_iconst (dt_Md_lastBirth.at 11 rfl) 5 (by decide) ?_
  refine r_cvI (c := 9) (rest := [.int (r4 - 1), .int r2]) (ct_Md_ofSource a0 p1 5 _) (dt_Md_lastBirth.at 12 rfl) mb_Md_ofSource wd_1403 wd_1405 wp_53 rfl (by decide) rfl rfl (Nat.le_of_ble_eq_true rfl) (fun r6 M5 => ?_)
  refine r_imul (dt_Md_lastBirth.at 13 rfl) ?_
  refine r_iadd (dt_Md_lastBirth.at 14 rfl) ?_
  refine r_aload_n (dt_Md_lastBirth.at 15 rfl) rfl ?_
  refine r_iload_n (dt_Md_lastBirth.at 16 rfl) rfl ?_
  refine r_bipush (dt_Md_lastBirth.at 17 rfl) 8 (by decide) ?_
  refine r_cvI (c := 9) (rest := [.int (r2 + ((r4 - 1) * r6))]) (ct_Md_ofSource a0 p1 8 _) (dt_Md_lastBirth.at 18 rfl) mb_Md_ofSource wd_1403 wd_1405 wp_53 rfl (by decide) rfl rfl (Nat.le_of_ble_eq_true rfl) (fun r8 M7 => ?_)
  refine r_iadd (dt_Md_lastBirth.at 19 rfl) ?_
  exact r_iret (dt_Md_lastBirth.at 20 rfl) rfl
set_option maxRecDepth 20000 in
set_option maxHeartbeats 2000000 in
theorem rf_Md_bornIn_L80 {G : am_G} {l : Launch} (k62 : Nat → Int32 → Int32 → Int32 → Int32 → Int32 → Int32 → Int32 → am_M → am_R) (hk62 : ∀ v0 v1 v2 v4 v5 v8 v9 v10 M, Rf G l X_Md_bornIn 62 [.ref v0, .int v1, .int v2, .retAddr 0, .int v4, .int v5, .retAddr 0, .retAddr 0, .int v8, .int v9, .int v10, .retAddr 0] [] M (k62 v0 v1 v2 v4 v5 v8 v9 v10 M)) : ∀ (n : Nat) (v0 : Nat) (v1 : Int32) (v2 : Int32) (v4 : Int32) (v5 : Int32) (v8 : Int32) (v9 : Int32) (v10 : Int32) (v11 : Int32) (M : am_M), Rf G l X_Md_bornIn 80 [.ref v0, .int v1, .int v2, .retAddr 0, .int v4, .int v5, .retAddr 0, .retAddr 0, .int v8, .int v9, .int v10, .int v11] [] M (F_Md_bornIn_L80 k62 n v0 v1 v2 v4 v5 v8 v9 v10 v11 M) := by
  intro n
  induction n with
  | zero => intro v0 v1 v2 v4 v5 v8 v9 v10 v11 M; exact Rf.no
  | succ n ih =>
    intro v0 v1 v2 v4 v5 v8 v9 v10 v11 M
    unfold F_Md_bornIn_L80
    refine r_iload (dt_Md_bornIn.at 48 rfl) rfl ?_
    refine r_iload (dt_Md_bornIn.at 49 rfl) rfl ?_
    refine r_iload (dt_Md_bornIn.at 50 rfl) rfl ?_
    refine r_imul (dt_Md_bornIn.at 51 rfl) ?_
    refine r_iload (dt_Md_bornIn.at 52 rfl) rfl ?_
    refine r_iadd (dt_Md_bornIn.at 53 rfl) ?_
    refine r_icmp_ge (tgt := 144) (dt_Md_bornIn.at 54 rfl) (by decide) ?_ ?_
    · refine r_iincn (v := 1) (dt_Md_bornIn.at 82 rfl) (by decide) rfl (by decide) (fun y => [.ref v0, .int v1, .int v2, .retAddr 0, .int v4, .int v5, .retAddr 0, .retAddr 0, .int v8, .int v9, .int y, .int v11]) (fun _ => rfl) (fun x15 => ?_)
      refine r_goto (tgt := 62) (dt_Md_bornIn.at 83 rfl) (by decide) ?_
      exact Rf.msk [true, true, true, false, true, true, false, false, true, true, true, false] (hk62 v0 v1 v2 v4 v5 v8 v9 x15 M)
    · refine r_aload_n (dt_Md_bornIn.at 55 rfl) rfl ?_
      refine r_iconst (dt_Md_bornIn.at 56 rfl) 4 (by decide) ?_
      refine r_iload (dt_Md_bornIn.at 57 rfl) rfl ?_
      refine r_imul (dt_Md_bornIn.at 58 rfl) ?_
      refine r_iload_n (dt_Md_bornIn.at 59 rfl) rfl ?_
      refine r_iadd (dt_Md_bornIn.at 60 rfl) ?_
      refine r_cvI (c := 9) (rest := []) (ct_Md_bornOf v0 ((4 * v11) + v1) _) (dt_Md_bornIn.at 61 rfl) mb_Md_bornOf wd_1737 wd_1739 wp_89 rfl (by decide) rfl rfl (Nat.le_of_ble_eq_true rfl) (fun r17 M16 => ?_)
      refine r_iload_n (dt_Md_bornIn.at 62 rfl) rfl ?_
      refine r_icmp_eq (tgt := 110) (dt_Md_bornIn.at 63 rfl) (by decide) ?_ ?_
      · refine r_sipush (dt_Md_bornIn.at 65 rfl) 256 (by decide) ?_
        refine r_iconst (dt_Md_bornIn.at 66 rfl) 4 (by decide) ?_
        refine r_iload (dt_Md_bornIn.at 67 rfl) rfl ?_
        refine r_imul (dt_Md_bornIn.at 68 rfl) ?_
        refine r_iload_n (dt_Md_bornIn.at 69 rfl) rfl ?_
        refine r_iadd (dt_Md_bornIn.at 70 rfl) ?_
        refine r_imul (dt_Md_bornIn.at 71 rfl) ?_
        refine r_nmi (fun x18 => ?_)
        refine r_istore (ls' := [.ref v0, .int v1, .int v2, .retAddr 0, .int v4, .int v5, .retAddr 0, .retAddr 0, .int v8, .int x18, .int v10, .int v11]) (dt_Md_bornIn.at 72 rfl) (by decide) rfl ?_
        refine r_iload (dt_Md_bornIn.at 73 rfl) rfl ?_
        refine r_if_ne (tgt := 135) (dt_Md_bornIn.at 74 rfl) (by decide) ?_ ?_
        · refine r_iload (dt_Md_bornIn.at 75 rfl) rfl ?_
          refine r_if_ne (tgt := 135) (dt_Md_bornIn.at 76 rfl) (by decide) ?_ ?_
          · refine r_iload (dt_Md_bornIn.at 77 rfl) rfl ?_
            exact r_iret (dt_Md_bornIn.at 78 rfl) rfl
          · refine r_iincn (v := (-1)) (dt_Md_bornIn.at 79 rfl) (by decide) rfl (by decide) (fun y => [.ref v0, .int v1, .int v2, .retAddr 0, .int v4, .int v5, .retAddr 0, .retAddr 0, .int y, .int x18, .int v10, .int v11]) (fun _ => rfl) (fun x19 => ?_)
            refine r_iincn (v := 1) (dt_Md_bornIn.at 80 rfl) (by decide) rfl (by decide) (fun y => [.ref v0, .int v1, .int v2, .retAddr 0, .int v4, .int v5, .retAddr 0, .retAddr 0, .int x19, .int x18, .int v10, .int y]) (fun _ => rfl) (fun x20 => ?_)
            refine r_goto (tgt := 80) (dt_Md_bornIn.at 81 rfl) (by decide) ?_
            exact Rf.msk [true, true, true, false, true, true, false, false, true, true, true, true] (ih v0 v1 v2 v4 v5 x19 x18 v10 x20 M16)
        · refine r_iincn (v := (-1)) (dt_Md_bornIn.at 79 rfl) (by decide) rfl (by decide) (fun y => [.ref v0, .int v1, .int v2, .retAddr 0, .int v4, .int v5, .retAddr 0, .retAddr 0, .int y, .int x18, .int v10, .int v11]) (fun _ => rfl) (fun x21 => ?_)
          refine r_iincn (v := 1) (dt_Md_bornIn.at 80 rfl) (by decide) rfl (by decide) (fun y => [.ref v0, .int v1, .int v2, .retAddr 0, .int v4, .int v5, .retAddr 0, .retAddr 0, .int x21, .int x18, .int v10, .int y]) (fun _ => rfl) (fun x22 => ?_)
          refine r_goto (tgt := 80) (dt_Md_bornIn.at 81 rfl) (by decide) ?_
          exact Rf.msk [true, true, true, false, true, true, false, false, true, true, true, true] (ih v0 v1 v2 v4 v5 x21 x18 v10 x22 M16)
      · refine r_goto (tgt := 138) (dt_Md_bornIn.at 64 rfl) (by decide) ?_
        refine r_iincn (v := 1) (dt_Md_bornIn.at 80 rfl) (by decide) rfl (by decide) (fun y => [.ref v0, .int v1, .int v2, .retAddr 0, .int v4, .int v5, .retAddr 0, .retAddr 0, .int v8, .int v9, .int v10, .int y]) (fun _ => rfl) (fun x23 => ?_)
        refine r_goto (tgt := 80) (dt_Md_bornIn.at 81 rfl) (by decide) ?_
        exact Rf.msk [true, true, true, false, true, true, false, false, true, true, true, true] (ih v0 v1 v2 v4 v5 v8 v9 v10 x23 M16)
set_option maxRecDepth 20000 in
set_option maxHeartbeats 2000000 in
theorem rf_Md_bornIn_L62 {G : am_G} {l : Launch}   : ∀ (n : Nat) (v0 : Nat) (v1 : Int32) (v2 : Int32) (v4 : Int32) (v5 : Int32) (v8 : Int32) (v9 : Int32) (v10 : Int32) (M : am_M), Rf G l X_Md_bornIn 62 [.ref v0, .int v1, .int v2, .retAddr 0, .int v4, .int v5, .retAddr 0, .retAddr 0, .int v8, .int v9, .int v10, .retAddr 0] [] M (F_Md_bornIn_L62 n v0 v1 v2 v4 v5 v8 v9 v10 M) := by
  intro n
  induction n with
  | zero => intro v0 v1 v2 v4 v5 v8 v9 v10 M; exact Rf.no
  | succ n ih =>
    intro v0 v1 v2 v4 v5 v8 v9 v10 M
    unfold F_Md_bornIn_L62
    refine r_aload_n (dt_Md_bornIn.at 38 rfl) rfl ?_
    refine r_iload_n (dt_Md_bornIn.at 39 rfl) rfl ?_
    refine r_iload (dt_Md_bornIn.at 40 rfl) rfl ?_
    refine r_iload_n (dt_Md_bornIn.at 41 rfl) rfl ?_
    refine r_cvI (c := 9) (rest := []) (ct_Md_isGroup v0 v1 v10 v2 _) (dt_Md_bornIn.at 42 rfl) mb_Md_isGroup wd_1591 wd_1593 wp_75 rfl (by decide) rfl rfl (Nat.le_of_ble_eq_true rfl) (fun r12 M11 => ?_)
    refine r_if_eq (tgt := 150) (dt_Md_bornIn.at 43 rfl) (by decide) ?_ ?_
    · refine r_aload_n (dt_Md_bornIn.at 84 rfl) rfl ?_
      refine r_iload (dt_Md_bornIn.at 85 rfl) rfl ?_
      refine r_sI (dt_Md_bornIn.at 86 rfl) fl_Md_443 rfl rfl rfl (fun M13 => ?_)
      refine r_iload (dt_Md_bornIn.at 87 rfl) rfl ?_
      refine r_if_eq (tgt := 166) (dt_Md_bornIn.at 88 rfl) (by decide) ?_ ?_
      · refine r_iconst (dt_Md_bornIn.at 91 rfl) (-1) (by decide) ?_
        exact r_iret (dt_Md_bornIn.at 92 rfl) rfl
      · refine r_iload (dt_Md_bornIn.at 89 rfl) rfl ?_
        refine r_goto (tgt := 167) (dt_Md_bornIn.at 90 rfl) (by decide) ?_
        exact r_iret (dt_Md_bornIn.at 92 rfl) rfl
    · refine r_iload (dt_Md_bornIn.at 44 rfl) rfl ?_
      refine r_iload (dt_Md_bornIn.at 45 rfl) rfl ?_
      refine r_imul (dt_Md_bornIn.at 46 rfl) ?_
      refine r_nmi (fun x14 => ?_)
      refine r_istore (ls' := [.ref v0, .int v1, .int v2, .retAddr 0, .int v4, .int v5, .retAddr 0, .retAddr 0, .int v8, .int v9, .int v10, .int x14]) (dt_Md_bornIn.at 47 rfl) (by decide) rfl ?_
      exact Rf.msk [true, true, true, false, true, true, false, false, true, true, true, true] (rf_Md_bornIn_L80 (F_Md_bornIn_L62 n) ih fu v0 v1 v2 v4 v5 v8 v9 v10 x14 M11)
set_option maxRecDepth 20000 in
set_option maxHeartbeats 2000000 in
theorem ct_Md_bornIn {G : am_G} {l : Launch} (a0 : Nat) (p1 : Int32) (p2 : Int32) (p3 : Int32) (p4 : Int32) (M : am_M) : Ct G l y_Md_bornIn X_Md_bornIn [.ref a0, .int p1, .int p2, .int p3, .int p4] M (F_Md_bornIn a0 p1 p2 p3 p4 M) := by
  refine Ct.of (by decide +kernel) rfl rfl (Nat.le_of_ble_eq_true rfl) ?_
  unfold F_Md_bornIn
  show Rf G l X_Md_bornIn 0 [.ref a0, .int p1, .int p2, .int p3, .int p4, .retAddr 0, .retAddr 0, .retAddr 0, .retAddr 0, .retAddr 0, .retAddr 0, .retAddr 0] [] M _
  refine r_aload_n (dt_Md_bornIn.at 0 rfl) rfl ?_
  refine r_iload_n (dt_Md_bornIn.at 1 rfl) rfl ?_
  refine r_bipush (dt_Md_bornIn.at 2 rfl) 6 (by decide) ?_
  refine r_cvI (c := 9) (rest := []) (ct_Md_ofSource a0 p1 6 _) (dt_Md_bornIn.at 3 rfl) mb_Md_ofSource wd_1403 wd_1405 wp_53 rfl (by decide) rfl rfl (Nat.le_of_ble_eq_true rfl) (fun r2 M1 => ?_)
  refine r_istore (ls' := [.ref a0, .int p1, .int p2, .int p3, .int p4, .int r2, .retAddr 0, .retAddr 0, .retAddr 0, .retAddr 0, .retAddr 0, .retAddr 0]) (dt_Md_bornIn.at 4 rfl) (by decide) rfl ?_
  refine r_aload_n (dt_Md_bornIn.at 5 rfl) rfl ?_
  refine r_iload_n (dt_Md_bornIn.at 6 rfl) rfl ?_
  refine r_iconst (dt_Md_bornIn.at 7 rfl) 5 (by decide) ?_
  refine r_cvI (c := 9) (rest := []) (ct_Md_ofSource a0 p1 5 _) (dt_Md_bornIn.at 8 rfl) mb_Md_ofSource wd_1403 wd_1405 wp_53 rfl (by decide) rfl rfl (Nat.le_of_ble_eq_true rfl) (fun r4 M3 => ?_)
  refine r_istore (ls' := [.ref a0, .int p1, .int p2, .int p3, .int p4, .int r2, .int r4, .retAddr 0, .retAddr 0, .retAddr 0, .retAddr 0, .retAddr 0]) (dt_Md_bornIn.at 9 rfl) (by decide) rfl ?_
  refine r_iload_n (dt_Md_bornIn.at 10 rfl) rfl ?_
  refine r_aload_n (dt_Md_bornIn.at 11 rfl) rfl ?_
  refine r_iload_n (dt_Md_bornIn.at 12 rfl) rfl ?_
  refine r_bipush (dt_Md_bornIn.at 13 rfl) 8 (by decide) ?_
  refine r_cvI (c := 9) (rest := [.int p2]) (ct_Md_ofSource a0 p1 8 _) (dt_Md_bornIn.at 14 rfl) mb_Md_ofSource wd_1403 wd_1405 wp_53 rfl (by decide) rfl rfl (Nat.le_of_ble_eq_true rfl) (fun r6 M5 => ?_)
  refine r_isub (dt_Md_bornIn.at 15 rfl) ?_
  refine r_aload_n (dt_Md_bornIn.at 16 rfl) rfl ?_
  refine r_iload_n (dt_Md_bornIn.at 17 rfl) rfl ?_
  refine r_iconst (dt_Md_bornIn.at 18 rfl) 4 (by decide) ?_
  refine r_cvI (c := 9) (rest := [.int (p2 - r6)]) (ct_Md_ofSource a0 p1 4 _) (dt_Md_bornIn.at 19 rfl) mb_Md_ofSource wd_1403 wd_1405 wp_53 rfl (by decide) rfl rfl (Nat.le_of_ble_eq_true rfl) (fun r8 M7 => ?_)
  refine r_isub (dt_Md_bornIn.at 20 rfl) ?_
  refine r_nmi (fun x9 => ?_)
  refine r_istore (ls' := [.ref a0, .int p1, .int p2, .int p3, .int p4, .int r2, .int r4, .int x9, .retAddr 0, .retAddr 0, .retAddr 0, .retAddr 0]) (dt_Md_bornIn.at 21 rfl) (by decide) rfl ?_
  refine r_iload_n (dt_Md_bornIn.at 22 rfl) rfl ?_
  refine r_istore (ls' := [.ref a0, .int p1, .int p2, .int p3, .int p4, .int r2, .int r4, .int x9, .int p3, .retAddr 0, .retAddr 0, .retAddr 0]) (dt_Md_bornIn.at 23 rfl) (by decide) rfl ?_
  refine r_iconst (dt_Md_bornIn.at 24 rfl) (-1) (by decide) ?_
  refine r_istore (ls' := [.ref a0, .int p1, .int p2, .int p3, .int p4, .int r2, .int r4, .int x9, .int p3, .int (-1), .retAddr 0, .retAddr 0]) (dt_Md_bornIn.at 25 rfl) (by decide) rfl ?_
  refine r_iload (dt_Md_bornIn.at 26 rfl) rfl ?_
  refine r_if_gt (tgt := 50) (dt_Md_bornIn.at 27 rfl) (by decide) ?_ ?_
  · refine r_iload (dt_Md_bornIn.at 30 rfl) rfl ?_
    refine r_iload (dt_Md_bornIn.at 31 rfl) rfl ?_
    refine r_iadd (dt_Md_bornIn.at 32 rfl) ?_
    refine r_iconst (dt_Md_bornIn.at 33 rfl) 1 (by decide) ?_
    refine r_isub (dt_Md_bornIn.at 34 rfl) ?_
    refine r_iload (dt_Md_bornIn.at 35 rfl) rfl ?_
    refine r_idiv (dt_Md_bornIn.at 36 rfl) ?_
    refine r_nmi (fun x10 => ?_)
    refine r_istore (ls' := [.ref a0, .int p1, .int p2, .int p3, .int p4, .int r2, .int r4, .int x9, .int p3, .int (-1), .int x10, .retAddr 0]) (dt_Md_bornIn.at 37 rfl) (by decide) rfl ?_
    exact Rf.msk [true, true, true, false, true, true, false, false, true, true, true, false] (rf_Md_bornIn_L62 fu a0 p1 p2 p4 r2 p3 (-1) x10 M7)
  · refine r_iconst (dt_Md_bornIn.at 28 rfl) 0 (by decide) ?_
    refine r_goto (tgt := 60) (dt_Md_bornIn.at 29 rfl) (by decide) ?_
    refine r_istore (ls' := [.ref a0, .int p1, .int p2, .int p3, .int p4, .int r2, .int r4, .int x9, .int p3, .int (-1), .int 0, .retAddr 0]) (dt_Md_bornIn.at 37 rfl) (by decide) rfl ?_
    exact Rf.msk [true, true, true, false, true, true, false, false, true, true, true, false] (rf_Md_bornIn_L62 fu a0 p1 p2 p4 r2 p3 (-1) 0 M7)
set_option maxRecDepth 20000 in
set_option maxHeartbeats 2000000 in
theorem rf_Md_bornAs_L44 {G : am_G} {l : Launch}   : ∀ (n : Nat) (v0 : Nat) (v1 : Int32) (v3 : Int32) (v4 : Int32) (M : am_M), Rf G l X_Md_bornAs 44 [.ref v0, .int v1, .retAddr 0, .int v3, .int v4, .retAddr 0] [] M (F_Md_bornAs_L44 n v0 v1 v3 v4 M) := by
  intro n
  induction n with
  | zero => intro v0 v1 v3 v4 M; exact Rf.no
  | succ n ih =>
    intro v0 v1 v3 v4 M
    unfold F_Md_bornAs_L44
    refine r_iload (dt_Md_bornAs.at 28 rfl) rfl ?_
    refine r_aload_n (dt_Md_bornAs.at 29 rfl) rfl ?_
    refine r_iload_n (dt_Md_bornAs.at 30 rfl) rfl ?_
    refine r_cvI (c := 9) (rest := [.int v4]) (ct_Md_lastBirth v0 v1 _) (dt_Md_bornAs.at 31 rfl) mb_Md_lastBirth wd_1753 wd_1755 wp_91 rfl (by decide) rfl rfl (Nat.le_of_ble_eq_true rfl) (fun r9 M8 => ?_)
    refine r_icmp_gt (tgt := 85) (dt_Md_bornAs.at 32 rfl) (by decide) ?_ ?_
    · refine r_iconst (dt_Md_bornAs.at 50 rfl) (-1) (by decide) ?_
      exact r_iret (dt_Md_bornAs.at 51 rfl) rfl
    · refine r_aload_n (dt_Md_bornAs.at 33 rfl) rfl ?_
      refine r_iload_n (dt_Md_bornAs.at 34 rfl) rfl ?_
      refine r_iload (dt_Md_bornAs.at 35 rfl) rfl ?_
      refine r_iload_n (dt_Md_bornAs.at 36 rfl) rfl ?_
      refine r_iconst (dt_Md_bornAs.at 37 rfl) 0 (by decide) ?_
      refine r_cvI (c := 9) (rest := []) (ct_Md_bornIn v0 v1 v4 v3 0 _) (dt_Md_bornAs.at 38 rfl) mb_Md_bornIn wd_1757 wd_1759 wp_92 rfl (by decide) rfl rfl (Nat.le_of_ble_eq_true rfl) (fun r11 M10 => ?_)
      refine r_istore (ls' := [.ref v0, .int v1, .retAddr 0, .int v3, .int v4, .int r11]) (dt_Md_bornAs.at 39 rfl) (by decide) rfl ?_
      refine r_iload (dt_Md_bornAs.at 40 rfl) rfl ?_
      refine r_iconst (dt_Md_bornAs.at 41 rfl) (-1) (by decide) ?_
      refine r_icmp_eq (tgt := 74) (dt_Md_bornAs.at 42 rfl) (by decide) ?_ ?_
      · refine r_aload_n (dt_Md_bornAs.at 45 rfl) rfl ?_
        refine r_fI (dt_Md_bornAs.at 46 rfl) fl_Md_443 rfl (fun x12 => ?_)
        refine r_istore_n (ls' := [.ref v0, .int v1, .retAddr 0, .int x12, .int v4, .int r11]) (dt_Md_bornAs.at 47 rfl) (by decide) rfl ?_
        refine r_iincn (v := 1) (dt_Md_bornAs.at 48 rfl) (by decide) rfl (by decide) (fun y => [.ref v0, .int v1, .retAddr 0, .int x12, .int y, .int r11]) (fun _ => rfl) (fun x13 => ?_)
        refine r_goto (tgt := 44) (dt_Md_bornAs.at 49 rfl) (by decide) ?_
        exact Rf.msk [true, true, false, true, true, false] (ih v0 v1 x12 x13 M10)
      · refine r_iload (dt_Md_bornAs.at 43 rfl) rfl ?_
        exact r_iret (dt_Md_bornAs.at 44 rfl) rfl
set_option maxRecDepth 20000 in
set_option maxHeartbeats 2000000 in
theorem ct_Md_bornAs {G : am_G} {l : Launch} (a0 : Nat) (p1 : Int32) (p2 : Int32) (M : am_M) : Ct G l y_Md_bornAs X_Md_bornAs [.ref a0, .int p1, .int p2] M (F_Md_bornAs a0 p1 p2 M) := by
  refine Ct.of (by decide +kernel) rfl rfl (Nat.le_of_ble_eq_true rfl) ?_
  unfold F_Md_bornAs
  show Rf G l X_Md_bornAs 0 [.ref a0, .int p1, .int p2, .retAddr 0, .retAddr 0, .retAddr 0] [] M _
  refine r_iload_n (dt_Md_bornAs.at 0 rfl) rfl ?_
  refine r_i2l (dt_Md_bornAs.at 1 rfl) ?_
  refine r_lconst (dt_Md_bornAs.at 2 rfl) 0 (by decide) ?_
  refine r_aload_n (dt_Md_bornAs.at 3 rfl) rfl ?_
  refine r_fI (dt_Md_bornAs.at 4 rfl) fl_Md_227 rfl (fun x1 => ?_)
  refine r_iconst (dt_Md_bornAs.at 5 rfl) 1 (by decide) ?_
  refine r_isub (dt_Md_bornAs.at 6 rfl) ?_
  refine r_i2l (dt_Md_bornAs.at 7 rfl) ?_
  refine r_csI (rest := []) (ct_Md_in (p1.toInt64) 0 ((x1 - 1).toInt64) _) (dt_Md_bornAs.at 8 rfl) mb_Md_in wd_1289 wd_1290 (by decide) rfl rfl (Nat.le_of_ble_eq_true rfl) (fun r3 M2 => ?_)
  refine r_if_eq (tgt := 20) (dt_Md_bornAs.at 9 rfl) (by decide) ?_ ?_
  · refine r_bipush (dt_Md_bornAs.at 12 rfl) (-2) (by decide) ?_
    exact r_iret (dt_Md_bornAs.at 13 rfl) rfl
  · refine r_iload_n (dt_Md_bornAs.at 10 rfl) rfl ?_
    refine r_if_ge (tgt := 23) (dt_Md_bornAs.at 11 rfl) (by decide) ?_ ?_
    · refine r_iload_n (dt_Md_bornAs.at 14 rfl) rfl ?_
      refine r_aload_n (dt_Md_bornAs.at 15 rfl) rfl ?_
      refine r_iload_n (dt_Md_bornAs.at 16 rfl) rfl ?_
      refine r_cvI (c := 9) (rest := [.int p2]) (ct_Md_roots a0 p1 _) (dt_Md_bornAs.at 17 rfl) mb_Md_roots wd_1395 wd_1397 wp_51 rfl (by decide) rfl rfl (Nat.le_of_ble_eq_true rfl) (fun r5 M4 => ?_)
      refine r_icmp_lt (tgt := 34) (dt_Md_bornAs.at 18 rfl) (by decide) ?_ ?_
      · refine r_iload_n (dt_Md_bornAs.at 21 rfl) rfl ?_
        refine r_istore_n (ls' := [.ref a0, .int p1, .int p2, .int p2, .retAddr 0, .retAddr 0]) (dt_Md_bornAs.at 22 rfl) (by decide) rfl ?_
        refine r_aload_n (dt_Md_bornAs.at 23 rfl) rfl ?_
        refine r_iload_n (dt_Md_bornAs.at 24 rfl) rfl ?_
        refine r_iconst (dt_Md_bornAs.at 25 rfl) 4 (by decide) ?_
        refine r_cvI (c := 9) (rest := []) (ct_Md_ofSource a0 p1 4 _) (dt_Md_bornAs.at 26 rfl) mb_Md_ofSource wd_1403 wd_1405 wp_53 rfl (by decide) rfl rfl (Nat.le_of_ble_eq_true rfl) (fun r7 M6 => ?_)
        refine r_istore (ls' := [.ref a0, .int p1, .int p2, .int p2, .int r7, .retAddr 0]) (dt_Md_bornAs.at 27 rfl) (by decide) rfl ?_
        exact Rf.msk [true, true, false, true, true, false] (rf_Md_bornAs_L44 fu a0 p1 p2 r7 M6)
      · refine r_iconst (dt_Md_bornAs.at 19 rfl) (-1) (by decide) ?_
        exact r_iret (dt_Md_bornAs.at 20 rfl) rfl
    · refine r_bipush (dt_Md_bornAs.at 12 rfl) (-2) (by decide) ?_
      exact r_iret (dt_Md_bornAs.at 13 rfl) rfl
set_option maxRecDepth 20000 in
set_option maxHeartbeats 2000000 in
theorem rf_Md_latest_L47 {G : am_G} {l : Launch}   : ∀ (n : Nat) (v0 : Nat) (v1 : Int32) (v3 : Int32) (M : am_M), Rf G l X_Md_latest 47 [.ref v0, .int v1, .retAddr 0, .int v3, .retAddr 0] [] M (F_Md_latest_L47 n v0 v1 v3 M) := by
  intro n
  induction n with
  | zero => intro v0 v1 v3 M; exact Rf.no
  | succ n ih =>
    intro v0 v1 v3 M
    unfold F_Md_latest_L47
    refine r_iload_n (dt_Md_latest.at 28 rfl) rfl ?_
    refine r_aload_n (dt_Md_latest.at 29 rfl) rfl ?_
    refine r_iload_n (dt_Md_latest.at 30 rfl) rfl ?_
    refine r_iconst (dt_Md_latest.at 31 rfl) 4 (by decide) ?_
    refine r_cvI (c := 9) (rest := [.int v3]) (ct_Md_ofSource v0 v1 4 _) (dt_Md_latest.at 32 rfl) mb_Md_ofSource wd_1403 wd_1405 wp_53 rfl (by decide) rfl rfl (Nat.le_of_ble_eq_true rfl) (fun r13 M12 => ?_)
    refine r_icmp_lt (tgt := 82) (dt_Md_latest.at 33 rfl) (by decide) ?_ ?_
    · refine r_iconst (dt_Md_latest.at 48 rfl) (-1) (by decide) ?_
      exact r_iret (dt_Md_latest.at 49 rfl) rfl
    · refine r_aload_n (dt_Md_latest.at 34 rfl) rfl ?_
      refine r_iload_n (dt_Md_latest.at 35 rfl) rfl ?_
      refine r_iload_n (dt_Md_latest.at 36 rfl) rfl ?_
      refine r_iconst (dt_Md_latest.at 37 rfl) 0 (by decide) ?_
      refine r_iconst (dt_Md_latest.at 38 rfl) 1 (by decide) ?_
      refine r_cvI (c := 9) (rest := []) (ct_Md_bornIn v0 v1 v3 0 1 _) (dt_Md_latest.at 39 rfl) mb_Md_bornIn wd_1757 wd_1759 wp_92 rfl (by decide) rfl rfl (Nat.le_of_ble_eq_true rfl) (fun r15 M14 => ?_)
      refine r_istore (ls' := [.ref v0, .int v1, .retAddr 0, .int v3, .int r15]) (dt_Md_latest.at 40 rfl) (by decide) rfl ?_
      refine r_iload (dt_Md_latest.at 41 rfl) rfl ?_
      refine r_iconst (dt_Md_latest.at 42 rfl) (-1) (by decide) ?_
      refine r_icmp_eq (tgt := 76) (dt_Md_latest.at 43 rfl) (by decide) ?_ ?_
      · refine r_iincn (v := (-1)) (dt_Md_latest.at 46 rfl) (by decide) rfl (by decide) (fun y => [.ref v0, .int v1, .retAddr 0, .int y, .int r15]) (fun _ => rfl) (fun x16 => ?_)
        refine r_goto (tgt := 47) (dt_Md_latest.at 47 rfl) (by decide) ?_
        exact Rf.msk [true, true, false, true, false] (ih v0 v1 x16 M14)
      · refine r_iload (dt_Md_latest.at 44 rfl) rfl ?_
        exact r_iret (dt_Md_latest.at 45 rfl) rfl
set_option maxRecDepth 20000 in
set_option maxHeartbeats 2000000 in
theorem ct_Md_latest {G : am_G} {l : Launch} (a0 : Nat) (p1 : Int32) (p2 : Int32) (M : am_M) : Ct G l y_Md_latest X_Md_latest [.ref a0, .int p1, .int p2] M (F_Md_latest a0 p1 p2 M) := by
  refine Ct.of (by decide +kernel) rfl rfl (Nat.le_of_ble_eq_true rfl) ?_
  unfold F_Md_latest
  show Rf G l X_Md_latest 0 [.ref a0, .int p1, .int p2, .retAddr 0, .retAddr 0] [] M _
  refine r_iload_n (dt_Md_latest.at 0 rfl) rfl ?_
  refine r_i2l (dt_Md_latest.at 1 rfl) ?_
  refine r_lconst (dt_Md_latest.at 2 rfl) 0 (by decide) ?_
  refine r_aload_n (dt_Md_latest.at 3 rfl) rfl ?_
  refine r_fI (dt_Md_latest.at 4 rfl) fl_Md_227 rfl (fun x1 => ?_)
  refine r_iconst (dt_Md_latest.at 5 rfl) 1 (by decide) ?_
  refine r_isub (dt_Md_latest.at 6 rfl) ?_
  refine r_i2l (dt_Md_latest.at 7 rfl) ?_
  refine r_csI (rest := []) (ct_Md_in (p1.toInt64) 0 ((x1 - 1).toInt64) _) (dt_Md_latest.at 8 rfl) mb_Md_in wd_1289 wd_1290 (by decide) rfl rfl (Nat.le_of_ble_eq_true rfl) (fun r3 M2 => ?_)
  refine r_if_eq (tgt := 24) (dt_Md_latest.at 9 rfl) (by decide) ?_ ?_
  · refine r_bipush (dt_Md_latest.at 14 rfl) (-2) (by decide) ?_
    exact r_iret (dt_Md_latest.at 15 rfl) rfl
  · refine r_aload_n (dt_Md_latest.at 10 rfl) rfl ?_
    refine r_iload_n (dt_Md_latest.at 11 rfl) rfl ?_
    refine r_cvI (c := 9) (rest := []) (ct_Md_isTick a0 p2 _) (dt_Md_latest.at 12 rfl) mb_Md_isTick wd_1526 wd_1528 wp_70 rfl (by decide) rfl rfl (Nat.le_of_ble_eq_true rfl) (fun r5 M4 => ?_)
    refine r_if_ne (tgt := 27) (dt_Md_latest.at 13 rfl) (by decide) ?_ ?_
    · refine r_bipush (dt_Md_latest.at 14 rfl) (-2) (by decide) ?_
      exact r_iret (dt_Md_latest.at 15 rfl) rfl
    · refine r_aload_n (dt_Md_latest.at 16 rfl) rfl ?_
      refine r_iload_n (dt_Md_latest.at 17 rfl) rfl ?_
      refine r_cvI (c := 9) (rest := []) (ct_Md_roots a0 p1 _) (dt_Md_latest.at 18 rfl) mb_Md_roots wd_1395 wd_1397 wp_51 rfl (by decide) rfl rfl (Nat.le_of_ble_eq_true rfl) (fun r7 M6 => ?_)
      refine r_if_ne (tgt := 37) (dt_Md_latest.at 19 rfl) (by decide) ?_ ?_
      · refine r_iconst (dt_Md_latest.at 20 rfl) (-1) (by decide) ?_
        exact r_iret (dt_Md_latest.at 21 rfl) rfl
      · refine r_iload_n (dt_Md_latest.at 22 rfl) rfl ?_
        refine r_aload_n (dt_Md_latest.at 23 rfl) rfl ?_
        refine r_iload_n (dt_Md_latest.at 24 rfl) rfl ?_
        refine r_cvI (c := 9) (rest := [.int p2]) (ct_Md_lastBirth a0 p1 _) (dt_Md_latest.at 25 rfl) mb_Md_lastBirth wd_1753 wd_1755 wp_91 rfl (by decide) rfl rfl (Nat.le_of_ble_eq_true rfl) (fun r9 M8 => ?_)
        refine r_csI (rest := []) (ct_Math_min p2 r9 _) (dt_Md_latest.at 26 rfl) mb_Math_min wd_1309 wd_334 (by decide) rfl rfl (Nat.le_of_ble_eq_true rfl) (fun r11 M10 => ?_)
        refine r_istore_n (ls' := [.ref a0, .int p1, .int p2, .int r11, .retAddr 0]) (dt_Md_latest.at 27 rfl) (by decide) rfl ?_
        exact Rf.msk [true, true, false, true, false] (rf_Md_latest_L47 fu a0 p1 r11 M10)
set_option maxRecDepth 20000 in
set_option maxHeartbeats 2000000 in
theorem rf_Md_next_L38 {G : am_G} {l : Launch}   : ∀ (n : Nat) (v0 : Nat) (v1 : Int32) (v3 : Int32) (M : am_M), Rf G l X_Md_next 38 [.ref v0, .int v1, .retAddr 0, .int v3] [] M (F_Md_next_L38 n v0 v1 v3 M) := by
  intro n
  induction n with
  | zero => intro v0 v1 v3 M; exact Rf.no
  | succ n ih =>
    intro v0 v1 v3 M
    unfold F_Md_next_L38
    refine r_aload_n (dt_Md_next.at 23 rfl) rfl ?_
    refine r_iload_n (dt_Md_next.at 24 rfl) rfl ?_
    refine r_cvI (c := 9) (rest := []) (ct_Md_roots v0 v1 _) (dt_Md_next.at 25 rfl) mb_Md_roots wd_1395 wd_1397 wp_51 rfl (by decide) rfl rfl (Nat.le_of_ble_eq_true rfl) (fun r11 M10 => ?_)
    refine r_if_le (tgt := 75) (dt_Md_next.at 26 rfl) (by decide) ?_ ?_
    · refine r_iconst (dt_Md_next.at 44 rfl) (-1) (by decide) ?_
      exact r_iret (dt_Md_next.at 45 rfl) rfl
    · refine r_iload_n (dt_Md_next.at 27 rfl) rfl ?_
      refine r_aload_n (dt_Md_next.at 28 rfl) rfl ?_
      refine r_iload_n (dt_Md_next.at 29 rfl) rfl ?_
      refine r_cvI (c := 9) (rest := [.int v3]) (ct_Md_lastBirth v0 v1 _) (dt_Md_next.at 30 rfl) mb_Md_lastBirth wd_1753 wd_1755 wp_91 rfl (by decide) rfl rfl (Nat.le_of_ble_eq_true rfl) (fun r13 M12 => ?_)
      refine r_icmp_gt (tgt := 75) (dt_Md_next.at 31 rfl) (by decide) ?_ ?_
      · refine r_iconst (dt_Md_next.at 44 rfl) (-1) (by decide) ?_
        exact r_iret (dt_Md_next.at 45 rfl) rfl
      · refine r_aload_n (dt_Md_next.at 32 rfl) rfl ?_
        refine r_iload_n (dt_Md_next.at 33 rfl) rfl ?_
        refine r_iload_n (dt_Md_next.at 34 rfl) rfl ?_
        refine r_iconst (dt_Md_next.at 35 rfl) 0 (by decide) ?_
        refine r_iconst (dt_Md_next.at 36 rfl) 0 (by decide) ?_
        refine r_cvI (c := 9) (rest := []) (ct_Md_bornIn v0 v1 v3 0 0 _) (dt_Md_next.at 37 rfl) mb_Md_bornIn wd_1757 wd_1759 wp_92 rfl (by decide) rfl rfl (Nat.le_of_ble_eq_true rfl) (fun r15 M14 => ?_)
        refine r_iconst (dt_Md_next.at 38 rfl) (-1) (by decide) ?_
        refine r_icmp_eq (tgt := 69) (dt_Md_next.at 39 rfl) (by decide) ?_ ?_
        · refine r_iincn (v := 1) (dt_Md_next.at 42 rfl) (by decide) rfl (by decide) (fun y => [.ref v0, .int v1, .retAddr 0, .int y]) (fun _ => rfl) (fun x16 => ?_)
          refine r_goto (tgt := 38) (dt_Md_next.at 43 rfl) (by decide) ?_
          exact Rf.msk [true, true, false, true] (ih v0 v1 x16 M14)
        · refine r_iload_n (dt_Md_next.at 40 rfl) rfl ?_
          exact r_iret (dt_Md_next.at 41 rfl) rfl
set_option maxRecDepth 20000 in
set_option maxHeartbeats 2000000 in
theorem ct_Md_next {G : am_G} {l : Launch} (a0 : Nat) (p1 : Int32) (p2 : Int32) (M : am_M) : Ct G l y_Md_next X_Md_next [.ref a0, .int p1, .int p2] M (F_Md_next a0 p1 p2 M) := by
  refine Ct.of (by decide +kernel) rfl rfl (Nat.le_of_ble_eq_true rfl) ?_
  unfold F_Md_next
  show Rf G l X_Md_next 0 [.ref a0, .int p1, .int p2, .retAddr 0] [] M _
  refine r_iload_n (dt_Md_next.at 0 rfl) rfl ?_
  refine r_i2l (dt_Md_next.at 1 rfl) ?_
  refine r_lconst (dt_Md_next.at 2 rfl) 0 (by decide) ?_
  refine r_aload_n (dt_Md_next.at 3 rfl) rfl ?_
  refine r_fI (dt_Md_next.at 4 rfl) fl_Md_227 rfl (fun x1 => ?_)
  refine r_iconst (dt_Md_next.at 5 rfl) 1 (by decide) ?_
  refine r_isub (dt_Md_next.at 6 rfl) ?_
  refine r_i2l (dt_Md_next.at 7 rfl) ?_
  refine r_csI (rest := []) (ct_Md_in (p1.toInt64) 0 ((x1 - 1).toInt64) _) (dt_Md_next.at 8 rfl) mb_Md_in wd_1289 wd_1290 (by decide) rfl rfl (Nat.le_of_ble_eq_true rfl) (fun r3 M2 => ?_)
  refine r_if_eq (tgt := 24) (dt_Md_next.at 9 rfl) (by decide) ?_ ?_
  · refine r_bipush (dt_Md_next.at 14 rfl) (-2) (by decide) ?_
    exact r_iret (dt_Md_next.at 15 rfl) rfl
  · refine r_aload_n (dt_Md_next.at 10 rfl) rfl ?_
    refine r_iload_n (dt_Md_next.at 11 rfl) rfl ?_
    refine r_cvI (c := 9) (rest := []) (ct_Md_isTick a0 p2 _) (dt_Md_next.at 12 rfl) mb_Md_isTick wd_1526 wd_1528 wp_70 rfl (by decide) rfl rfl (Nat.le_of_ble_eq_true rfl) (fun r5 M4 => ?_)
    refine r_if_ne (tgt := 27) (dt_Md_next.at 13 rfl) (by decide) ?_ ?_
    · refine r_bipush (dt_Md_next.at 14 rfl) (-2) (by decide) ?_
      exact r_iret (dt_Md_next.at 15 rfl) rfl
    · refine r_iload_n (dt_Md_next.at 16 rfl) rfl ?_
      refine r_aload_n (dt_Md_next.at 17 rfl) rfl ?_
      refine r_iload_n (dt_Md_next.at 18 rfl) rfl ?_
      refine r_iconst (dt_Md_next.at 19 rfl) 4 (by decide) ?_
      refine r_cvI (c := 9) (rest := [.int p2]) (ct_Md_ofSource a0 p1 4 _) (dt_Md_next.at 20 rfl) mb_Md_ofSource wd_1403 wd_1405 wp_53 rfl (by decide) rfl rfl (Nat.le_of_ble_eq_true rfl) (fun r7 M6 => ?_)
      refine r_csI (rest := []) (ct_Math_max p2 r7 _) (dt_Md_next.at 21 rfl) mb_Math_max wd_1536 wd_655 (by decide) rfl rfl (Nat.le_of_ble_eq_true rfl) (fun r9 M8 => ?_)
      refine r_istore_n (ls' := [.ref a0, .int p1, .int p2, .int r9]) (dt_Md_next.at 22 rfl) (by decide) rfl ?_
      exact Rf.msk [true, true, false, true] (rf_Md_next_L38 fu a0 p1 r9 M8)
set_option maxRecDepth 20000 in
set_option maxHeartbeats 2000000 in
theorem rf_Md_lull_L86 {G : am_G} {l : Launch} (k59 : Nat → Int32 → Int32 → Int32 → Int32 → Int32 → Int32 → Int32 → am_M → am_R) (hk59 : ∀ v0 v1 v3 v4 v5 v6 v7 v8 M, Rf G l X_Md_lull 59 [.ref v0, .int v1, .retAddr 0, .int v3, .int v4, .int v5, .int v6, .int v7, .int v8] [] M (k59 v0 v1 v3 v4 v5 v6 v7 v8 M)) (v0 : Nat) (v1 : Int32) (v3 : Int32) (v4 : Int32) (v5 : Int32) (v6 : Int32) (v8 : Int32) (s0 : Int32) (M : am_M) : Rf G l X_Md_lull 86 [.ref v0, .int v1, .retAddr 0, .int v3, .int v4, .int v5, .int v6, .retAddr 0, .int v8] [.int s0] M (F_Md_lull_L86 k59 v0 v1 v3 v4 v5 v6 v8 s0 M) := by
  unfold F_Md_lull_L86
  refine r_istore (ls' := [.ref v0, .int v1, .retAddr 0, .int v3, .int v4, .int v5, .int v6, .int s0, .int v8]) (dt_Md_lull.at 51 rfl) (by decide) rfl ?_
  refine r_iload (dt_Md_lull.at 52 rfl) rfl ?_
  refine r_iload (dt_Md_lull.at 53 rfl) rfl ?_
  refine r_icmp_gt (tgt := 98) (dt_Md_lull.at 54 rfl) (by decide) ?_ ?_
  · refine r_iload (dt_Md_lull.at 56 rfl) rfl ?_
    refine r_istore (ls' := [.ref v0, .int v1, .retAddr 0, .int v3, .int v4, .int s0, .int v6, .int s0, .int v8]) (dt_Md_lull.at 57 rfl) (by decide) rfl ?_
    refine r_iload (dt_Md_lull.at 58 rfl) rfl ?_
    refine r_iload (dt_Md_lull.at 59 rfl) rfl ?_
    refine r_isub (dt_Md_lull.at 60 rfl) ?_
    refine r_iconst (dt_Md_lull.at 61 rfl) 1 (by decide) ?_
    refine r_iadd (dt_Md_lull.at 62 rfl) ?_
    refine r_nmi (fun x10 => ?_)
    refine r_istore (ls' := [.ref v0, .int v1, .retAddr 0, .int v3, .int v4, .int s0, .int x10, .int s0, .int v8]) (dt_Md_lull.at 63 rfl) (by decide) rfl ?_
    refine r_iincn (v := 1) (dt_Md_lull.at 64 rfl) (by decide) rfl (by decide) (fun y => [.ref v0, .int v1, .retAddr 0, .int v3, .int v4, .int s0, .int x10, .int s0, .int y]) (fun _ => rfl) (fun x11 => ?_)
    refine r_goto (tgt := 59) (dt_Md_lull.at 65 rfl) (by decide) ?_
    exact Rf.msk [true, true, false, true, true, true, true, true, true] (hk59 v0 v1 v3 v4 s0 x10 s0 x11 M)
  · refine r_goto (tgt := 111) (dt_Md_lull.at 55 rfl) (by decide) ?_
    refine r_iincn (v := 1) (dt_Md_lull.at 64 rfl) (by decide) rfl (by decide) (fun y => [.ref v0, .int v1, .retAddr 0, .int v3, .int v4, .int v5, .int v6, .int s0, .int y]) (fun _ => rfl) (fun x12 => ?_)
    refine r_goto (tgt := 59) (dt_Md_lull.at 65 rfl) (by decide) ?_
    exact Rf.msk [true, true, false, true, true, true, true, true, true] (hk59 v0 v1 v3 v4 v5 v6 s0 x12 M)
set_option maxRecDepth 20000 in
set_option maxHeartbeats 2000000 in
theorem rf_Md_lull_L59 {G : am_G} {l : Launch}   : ∀ (n : Nat) (v0 : Nat) (v1 : Int32) (v3 : Int32) (v4 : Int32) (v5 : Int32) (v6 : Int32) (v7 : Int32) (v8 : Int32) (M : am_M), Rf G l X_Md_lull 59 [.ref v0, .int v1, .retAddr 0, .int v3, .int v4, .int v5, .int v6, .int v7, .int v8] [] M (F_Md_lull_L59 n v0 v1 v3 v4 v5 v6 v7 v8 M) := by
  intro n
  induction n with
  | zero => intro v0 v1 v3 v4 v5 v6 v7 v8 M; exact Rf.no
  | succ n ih =>
    intro v0 v1 v3 v4 v5 v6 v7 v8 M
    unfold F_Md_lull_L59
    refine r_iload (dt_Md_lull.at 35 rfl) rfl ?_
    refine r_iload_n (dt_Md_lull.at 36 rfl) rfl ?_
    refine r_icmp_ge (tgt := 117) (dt_Md_lull.at 37 rfl) (by decide) ?_ ?_
    · refine r_iload (dt_Md_lull.at 66 rfl) rfl ?_
      refine r_if_ne (tgt := 127) (dt_Md_lull.at 67 rfl) (by decide) ?_ ?_
      · refine r_iload (dt_Md_lull.at 68 rfl) rfl ?_
        refine r_goto (tgt := 129) (dt_Md_lull.at 69 rfl) (by decide) ?_
        exact r_iret (dt_Md_lull.at 71 rfl) rfl
      · refine r_iload (dt_Md_lull.at 70 rfl) rfl ?_
        exact r_iret (dt_Md_lull.at 71 rfl) rfl
    · refine r_aload_n (dt_Md_lull.at 38 rfl) rfl ?_
      refine r_iload_n (dt_Md_lull.at 39 rfl) rfl ?_
      refine r_iload (dt_Md_lull.at 40 rfl) rfl ?_
      refine r_iconst (dt_Md_lull.at 41 rfl) 0 (by decide) ?_
      refine r_iconst (dt_Md_lull.at 42 rfl) 0 (by decide) ?_
      refine r_cvI (c := 9) (rest := []) (ct_Md_bornIn v0 v1 v8 0 0 _) (dt_Md_lull.at 43 rfl) mb_Md_bornIn wd_1757 wd_1759 wp_92 rfl (by decide) rfl rfl (Nat.le_of_ble_eq_true rfl) (fun r9 M8 => ?_)
      refine r_iconst (dt_Md_lull.at 44 rfl) (-1) (by decide) ?_
      refine r_icmp_ne (tgt := 85) (dt_Md_lull.at 45 rfl) (by decide) ?_ ?_
      · refine r_iload (dt_Md_lull.at 46 rfl) rfl ?_
        refine r_iconst (dt_Md_lull.at 47 rfl) 1 (by decide) ?_
        refine r_iadd (dt_Md_lull.at 48 rfl) ?_
        refine r_goto (tgt := 86) (dt_Md_lull.at 49 rfl) (by decide) ?_
        exact Rf.msk [true, true, false, true, true, true, true, false, true] (rf_Md_lull_L86 (F_Md_lull_L59 n) ih v0 v1 v3 v4 v5 v6 v8 (v7 + 1) M8)
      · refine r_iconst (dt_Md_lull.at 50 rfl) 0 (by decide) ?_
        exact Rf.msk [true, true, false, true, true, true, true, false, true] (rf_Md_lull_L86 (F_Md_lull_L59 n) ih v0 v1 v3 v4 v5 v6 v8 0 M8)
set_option maxRecDepth 20000 in
set_option maxHeartbeats 2000000 in
theorem ct_Md_lull {G : am_G} {l : Launch} (a0 : Nat) (p1 : Int32) (p2 : Int32) (p3 : Int32) (p4 : Int32) (M : am_M) : Ct G l y_Md_lull X_Md_lull [.ref a0, .int p1, .int p2, .int p3, .int p4] M (F_Md_lull a0 p1 p2 p3 p4 M) := by
  refine Ct.of (by decide +kernel) rfl rfl (Nat.le_of_ble_eq_true rfl) ?_
  unfold F_Md_lull
  show Rf G l X_Md_lull 0 [.ref a0, .int p1, .int p2, .int p3, .int p4, .retAddr 0, .retAddr 0, .retAddr 0, .retAddr 0] [] M _
  refine r_iload_n (dt_Md_lull.at 0 rfl) rfl ?_
  refine r_i2l (dt_Md_lull.at 1 rfl) ?_
  refine r_lconst (dt_Md_lull.at 2 rfl) 0 (by decide) ?_
  refine r_aload_n (dt_Md_lull.at 3 rfl) rfl ?_
  refine r_fI (dt_Md_lull.at 4 rfl) fl_Md_227 rfl (fun x1 => ?_)
  refine r_iconst (dt_Md_lull.at 5 rfl) 1 (by decide) ?_
  refine r_isub (dt_Md_lull.at 6 rfl) ?_
  refine r_i2l (dt_Md_lull.at 7 rfl) ?_
  refine r_csI (rest := []) (ct_Md_in (p1.toInt64) 0 ((x1 - 1).toInt64) _) (dt_Md_lull.at 8 rfl) mb_Md_in wd_1289 wd_1290 (by decide) rfl rfl (Nat.le_of_ble_eq_true rfl) (fun r3 M2 => ?_)
  refine r_if_eq (tgt := 44) (dt_Md_lull.at 9 rfl) (by decide) ?_ ?_
  · refine r_bipush (dt_Md_lull.at 25 rfl) (-2) (by decide) ?_
    exact r_iret (dt_Md_lull.at 26 rfl) rfl
  · refine r_aload_n (dt_Md_lull.at 10 rfl) rfl ?_
    refine r_iload_n (dt_Md_lull.at 11 rfl) rfl ?_
    refine r_iload_n (dt_Md_lull.at 12 rfl) rfl ?_
    refine r_sipush (dt_Md_lull.at 13 rfl) 2000 (by decide) ?_
    refine r_cvI (c := 9) (rest := []) (ct_Md_isSpan a0 p2 p3 2000 _) (dt_Md_lull.at 14 rfl) mb_Md_isSpan wd_1733 wd_1735 wp_88 rfl (by decide) rfl rfl (Nat.le_of_ble_eq_true rfl) (fun r5 M4 => ?_)
    refine r_if_eq (tgt := 44) (dt_Md_lull.at 15 rfl) (by decide) ?_ ?_
    · refine r_bipush (dt_Md_lull.at 25 rfl) (-2) (by decide) ?_
      exact r_iret (dt_Md_lull.at 26 rfl) rfl
    · refine r_iload_n (dt_Md_lull.at 16 rfl) rfl ?_
      refine r_iload_n (dt_Md_lull.at 17 rfl) rfl ?_
      refine r_icmp_eq (tgt := 44) (dt_Md_lull.at 18 rfl) (by decide) ?_ ?_
      · refine r_bipush (dt_Md_lull.at 25 rfl) (-2) (by decide) ?_
        exact r_iret (dt_Md_lull.at 26 rfl) rfl
      · refine r_iload (dt_Md_lull.at 19 rfl) rfl ?_
        refine r_i2l (dt_Md_lull.at 20 rfl) ?_
        refine r_lconst (dt_Md_lull.at 21 rfl) 0 (by decide) ?_
        refine r_lconst (dt_Md_lull.at 22 rfl) 1 (by decide) ?_
        refine r_csI (rest := []) (ct_Md_in (p4.toInt64) 0 1 _) (dt_Md_lull.at 23 rfl) mb_Md_in wd_1289 wd_1290 (by decide) rfl rfl (Nat.le_of_ble_eq_true rfl) (fun r7 M6 => ?_)
        refine r_if_ne (tgt := 47) (dt_Md_lull.at 24 rfl) (by decide) ?_ ?_
        · refine r_bipush (dt_Md_lull.at 25 rfl) (-2) (by decide) ?_
          exact r_iret (dt_Md_lull.at 26 rfl) rfl
        · refine r_iconst (dt_Md_lull.at 27 rfl) 0 (by decide) ?_
          refine r_istore (ls' := [.ref a0, .int p1, .int p2, .int p3, .int p4, .int 0, .retAddr 0, .retAddr 0, .retAddr 0]) (dt_Md_lull.at 28 rfl) (by decide) rfl ?_
          refine r_iconst (dt_Md_lull.at 29 rfl) (-1) (by decide) ?_
          refine r_istore (ls' := [.ref a0, .int p1, .int p2, .int p3, .int p4, .int 0, .int (-1), .retAddr 0, .retAddr 0]) (dt_Md_lull.at 30 rfl) (by decide) rfl ?_
          refine r_iconst (dt_Md_lull.at 31 rfl) 0 (by decide) ?_
          refine r_istore (ls' := [.ref a0, .int p1, .int p2, .int p3, .int p4, .int 0, .int (-1), .int 0, .retAddr 0]) (dt_Md_lull.at 32 rfl) (by decide) rfl ?_
          refine r_iload_n (dt_Md_lull.at 33 rfl) rfl ?_
          refine r_istore (ls' := [.ref a0, .int p1, .int p2, .int p3, .int p4, .int 0, .int (-1), .int 0, .int p2]) (dt_Md_lull.at 34 rfl) (by decide) rfl ?_
          exact Rf.msk [true, true, false, true, true, true, true, true, true] (rf_Md_lull_L59 fu a0 p1 p3 p4 0 (-1) 0 p2 M6)
set_option maxRecDepth 20000 in
set_option maxHeartbeats 2000000 in
theorem ct_Md_says {G : am_G} {l : Launch} (a0 : Nat) (p1 : Int32) (M : am_M) : Ct G l y_Md_says X_Md_says [.ref a0, .int p1] M (F_Md_says a0 p1 M) := by
  refine Ct.of (by decide +kernel) rfl rfl (Nat.le_of_ble_eq_true rfl) ?_
  unfold F_Md_says
  show Rf G l X_Md_says 0 [.ref a0, .int p1] [] M _
  refine r_aload_n (dt_Md_says.at 0 rfl) rfl ?_
  refine r_fR (dt_Md_says.at 1 rfl) fl_Md_68 rfl (fun b1 => ?_)
  refine r_aload_n (dt_Md_says.at 2 rfl) rfl ?_
  refine r_fI (dt_Md_says.at 3 rfl) fl_Md_233 rfl (fun x2 => ?_)
  refine r_iload_n (dt_Md_says.at 4 rfl) rfl ?_
  refine r_i2b (dt_Md_says.at 5 rfl) ?_
  refine r_tB (dt_Md_says.at 6 rfl) (fun M3 => ?_)
  refine r_aload_n (dt_Md_says.at 7 rfl) rfl ?_
  refine r_dup (dt_Md_says.at 8 rfl) rfl ?_
  refine r_fI (dt_Md_says.at 9 rfl) fl_Md_233 rfl (fun x4 => ?_)
  refine r_iconst (dt_Md_says.at 10 rfl) 1 (by decide) ?_
  refine r_iadd (dt_Md_says.at 11 rfl) ?_
  refine r_sI (dt_Md_says.at 12 rfl) fl_Md_233 rfl rfl rfl (fun M5 => ?_)
  exact r_vret (dt_Md_says.at 13 rfl) rfl
set_option maxRecDepth 20000 in
set_option maxHeartbeats 2000000 in
theorem rf_Md_picture_L40 {G : am_G} {l : Launch} (k28 : Nat → Int32 → am_M → am_R) (hk28 : ∀ v0 v2 M, Rf G l X_Md_picture 28 [.ref v0, .retAddr 0, .int v2, .retAddr 0, .retAddr 0] [] M (k28 v0 v2 M)) : ∀ (n : Nat) (v0 : Nat) (v2 : Int32) (v3 : Int32) (M : am_M), Rf G l X_Md_picture 40 [.ref v0, .retAddr 0, .int v2, .int v3, .retAddr 0] [] M (F_Md_picture_L40 k28 n v0 v2 v3 M) := by
  intro n
  induction n with
  | zero => intro v0 v2 v3 M; exact Rf.no
  | succ n ih =>
    intro v0 v2 v3 M
    unfold F_Md_picture_L40
    refine r_iload_n (dt_Md_picture.at 25 rfl) rfl ?_
    refine r_aload_n (dt_Md_picture.at 26 rfl) rfl ?_
    refine r_fR (dt_Md_picture.at 27 rfl) fl_Md_7 rfl (fun b9 => ?_)
    refine r_iconst (dt_Md_picture.at 28 rfl) 0 (by decide) ?_
    refine r_aI (dt_Md_picture.at 29 rfl) (fun x10 => ?_)
    refine r_icmp_ge (tgt := 95) (dt_Md_picture.at 30 rfl) (by decide) ?_ ?_
    · refine r_aload_n (dt_Md_picture.at 54 rfl) rfl ?_
      refine r_bipush (dt_Md_picture.at 55 rfl) 10 (by decide) ?_
      refine r_cvV (c := 9) (rest := []) (ct_Md_says v0 10 _) (dt_Md_picture.at 56 rfl) mb_Md_says wd_1777 wd_1779 wp_93 rfl (by decide) rfl rfl (Nat.le_of_ble_eq_true rfl) (fun M11 => ?_)
      refine r_iincn (v := 1) (dt_Md_picture.at 57 rfl) (by decide) rfl (by decide) (fun y => [.ref v0, .retAddr 0, .int y, .int v3, .retAddr 0]) (fun _ => rfl) (fun x12 => ?_)
      refine r_goto (tgt := 28) (dt_Md_picture.at 58 rfl) (by decide) ?_
      exact Rf.msk [true, false, true, false, false] (hk28 v0 x12 M11)
    · refine r_aload_n (dt_Md_picture.at 31 rfl) rfl ?_
      refine r_iload_n (dt_Md_picture.at 32 rfl) rfl ?_
      refine r_iload_n (dt_Md_picture.at 33 rfl) rfl ?_
      refine r_cvI (c := 9) (rest := []) (ct_Md_topOf v0 v3 v2 _) (dt_Md_picture.at 34 rfl) mb_Md_topOf wd_1642 wd_1644 wp_83 rfl (by decide) rfl rfl (Nat.le_of_ble_eq_true rfl) (fun r14 M13 => ?_)
      refine r_istore (ls' := [.ref v0, .retAddr 0, .int v2, .int v3, .int r14]) (dt_Md_picture.at 35 rfl) (by decide) rfl ?_
      refine r_aload_n (dt_Md_picture.at 36 rfl) rfl ?_
      refine r_iload (dt_Md_picture.at 37 rfl) rfl ?_
      refine r_iconst (dt_Md_picture.at 38 rfl) (-1) (by decide) ?_
      refine r_icmp_ne (tgt := 70) (dt_Md_picture.at 39 rfl) (by decide) ?_ ?_
      · refine r_bipush (dt_Md_picture.at 40 rfl) 46 (by decide) ?_
        refine r_goto (tgt := 86) (dt_Md_picture.at 41 rfl) (by decide) ?_
        refine r_cvV (c := 9) (rest := []) (ct_Md_says v0 46 _) (dt_Md_picture.at 51 rfl) mb_Md_says wd_1777 wd_1779 wp_93 rfl (by decide) rfl rfl (Nat.le_of_ble_eq_true rfl) (fun M15 => ?_)
        refine r_iincn (v := 1) (dt_Md_picture.at 52 rfl) (by decide) rfl (by decide) (fun y => [.ref v0, .retAddr 0, .int v2, .int y, .int r14]) (fun _ => rfl) (fun x16 => ?_)
        refine r_goto (tgt := 40) (dt_Md_picture.at 53 rfl) (by decide) ?_
        exact Rf.msk [true, false, true, true, false] (ih v0 v2 x16 M15)
      · refine r_bipush (dt_Md_picture.at 42 rfl) 48 (by decide) ?_
        refine r_aload_n (dt_Md_picture.at 43 rfl) rfl ?_
        refine r_aload_n (dt_Md_picture.at 44 rfl) rfl ?_
        refine r_iload (dt_Md_picture.at 45 rfl) rfl ?_
        refine r_cvI (c := 9) (rest := [.ref v0, .int 48, .ref v0]) (ct_Md_codeAt v0 r14 _) (dt_Md_picture.at 46 rfl) mb_Md_codeAt wd_1603 wd_1605 wp_78 rfl (by decide) rfl rfl (Nat.le_of_ble_eq_true rfl) (fun r18 M17 => ?_)
        refine r_iconst (dt_Md_picture.at 47 rfl) 5 (by decide) ?_
        refine r_bipush (dt_Md_picture.at 48 rfl) 8 (by decide) ?_
        refine r_cvI (c := 9) (rest := [.int 48, .ref v0]) (ct_Md_draw v0 r18 5 8 _) (dt_Md_picture.at 49 rfl) mb_Md_draw wd_1489 wd_1491 wp_62 rfl (by decide) rfl rfl (Nat.le_of_ble_eq_true rfl) (fun r20 M19 => ?_)
        refine r_iadd (dt_Md_picture.at 50 rfl) ?_
        refine r_cvV (c := 9) (rest := []) (ct_Md_says v0 (48 + r20) _) (dt_Md_picture.at 51 rfl) mb_Md_says wd_1777 wd_1779 wp_93 rfl (by decide) rfl rfl (Nat.le_of_ble_eq_true rfl) (fun M21 => ?_)
        refine r_iincn (v := 1) (dt_Md_picture.at 52 rfl) (by decide) rfl (by decide) (fun y => [.ref v0, .retAddr 0, .int v2, .int y, .int r14]) (fun _ => rfl) (fun x22 => ?_)
        refine r_goto (tgt := 40) (dt_Md_picture.at 53 rfl) (by decide) ?_
        exact Rf.msk [true, false, true, true, false] (ih v0 v2 x22 M21)
set_option maxRecDepth 20000 in
set_option maxHeartbeats 2000000 in
theorem rf_Md_picture_L28 {G : am_G} {l : Launch}   : ∀ (n : Nat) (v0 : Nat) (v2 : Int32) (M : am_M), Rf G l X_Md_picture 28 [.ref v0, .retAddr 0, .int v2, .retAddr 0, .retAddr 0] [] M (F_Md_picture_L28 n v0 v2 M) := by
  intro n
  induction n with
  | zero => intro v0 v2 M; exact Rf.no
  | succ n ih =>
    intro v0 v2 M
    unfold F_Md_picture_L28
    refine r_iload_n (dt_Md_picture.at 17 rfl) rfl ?_
    refine r_aload_n (dt_Md_picture.at 18 rfl) rfl ?_
    refine r_fR (dt_Md_picture.at 19 rfl) fl_Md_7 rfl (fun b6 => ?_)
    refine r_iconst (dt_Md_picture.at 20 rfl) 1 (by decide) ?_
    refine r_aI (dt_Md_picture.at 21 rfl) (fun x7 => ?_)
    refine r_icmp_ge (tgt := 107) (dt_Md_picture.at 22 rfl) (by decide) ?_ ?_
    · refine r_aload_n (dt_Md_picture.at 59 rfl) rfl ?_
      refine r_fI (dt_Md_picture.at 60 rfl) fl_Md_233 rfl (fun x8 => ?_)
      exact r_iret (dt_Md_picture.at 61 rfl) rfl
    · refine r_iconst (dt_Md_picture.at 23 rfl) 0 (by decide) ?_
      refine r_istore_n (ls' := [.ref v0, .retAddr 0, .int v2, .int 0, .retAddr 0]) (dt_Md_picture.at 24 rfl) (by decide) rfl ?_
      exact Rf.msk [true, false, true, true, false] (rf_Md_picture_L40 (F_Md_picture_L28 n) ih fu v0 v2 0 M)
set_option maxRecDepth 20000 in
set_option maxHeartbeats 2000000 in
theorem ct_Md_picture {G : am_G} {l : Launch} (a0 : Nat) (p1 : Int32) (M : am_M) : Ct G l y_Md_picture X_Md_picture [.ref a0, .int p1] M (F_Md_picture a0 p1 M) := by
  refine Ct.of (by decide +kernel) rfl rfl (Nat.le_of_ble_eq_true rfl) ?_
  unfold F_Md_picture
  show Rf G l X_Md_picture 0 [.ref a0, .int p1, .retAddr 0, .retAddr 0, .retAddr 0] [] M _
  refine r_aload_n (dt_Md_picture.at 0 rfl) rfl ?_
  refine r_iload_n (dt_Md_picture.at 1 rfl) rfl ?_
  refine r_cvI (c := 9) (rest := []) (ct_Md_isTick a0 p1 _) (dt_Md_picture.at 2 rfl) mb_Md_isTick wd_1526 wd_1528 wp_70 rfl (by decide) rfl rfl (Nat.le_of_ble_eq_true rfl) (fun r2 M1 => ?_)
  refine r_if_ne (tgt := 11) (dt_Md_picture.at 3 rfl) (by decide) ?_ ?_
  · refine r_bipush (dt_Md_picture.at 4 rfl) (-2) (by decide) ?_
    exact r_iret (dt_Md_picture.at 5 rfl) rfl
  · refine r_aload_n (dt_Md_picture.at 6 rfl) rfl ?_
    refine r_iload_n (dt_Md_picture.at 7 rfl) rfl ?_
    refine r_cvV (c := 9) (rest := []) (ct_Md_laysFrame a0 p1 _) (dt_Md_picture.at 8 rfl) mb_Md_laysFrame wd_1612 wd_1614 wp_79 rfl (by decide) rfl rfl (Nat.le_of_ble_eq_true rfl) (fun M3 => ?_)
    refine r_aload_n (dt_Md_picture.at 9 rfl) rfl ?_
    refine r_iload_n (dt_Md_picture.at 10 rfl) rfl ?_
    refine r_cvV (c := 9) (rest := []) (ct_Md_laysColumns a0 p1 _) (dt_Md_picture.at 11 rfl) mb_Md_laysColumns wd_1634 wd_1636 wp_82 rfl (by decide) rfl rfl (Nat.le_of_ble_eq_true rfl) (fun M4 => ?_)
    refine r_aload_n (dt_Md_picture.at 12 rfl) rfl ?_
    refine r_iconst (dt_Md_picture.at 13 rfl) 0 (by decide) ?_
    refine r_sI (dt_Md_picture.at 14 rfl) fl_Md_233 rfl rfl rfl (fun M5 => ?_)
    refine r_iconst (dt_Md_picture.at 15 rfl) 0 (by decide) ?_
    refine r_istore_n (ls' := [.ref a0, .int p1, .int 0, .retAddr 0, .retAddr 0]) (dt_Md_picture.at 16 rfl) (by decide) rfl ?_
    exact Rf.msk [true, false, true, false, false] (rf_Md_picture_L28 fu a0 0 M5)
set_option maxRecDepth 20000 in
set_option maxHeartbeats 2000000 in
theorem rf_Md_layer_L54 {G : am_G} {l : Launch} (k41 : Nat → Int32 → Int32 → am_M → am_R) (hk41 : ∀ v0 v2 v3 M, Rf G l X_Md_layer 41 [.ref v0, .retAddr 0, .int v2, .int v3, .retAddr 0, .retAddr 0] [] M (k41 v0 v2 v3 M)) : ∀ (n : Nat) (v0 : Nat) (v2 : Int32) (v3 : Int32) (v4 : Int32) (M : am_M), Rf G l X_Md_layer 54 [.ref v0, .retAddr 0, .int v2, .int v3, .int v4, .retAddr 0] [] M (F_Md_layer_L54 k41 n v0 v2 v3 v4 M) := by
  intro n
  induction n with
  | zero => intro v0 v2 v3 v4 M; exact Rf.no
  | succ n ih =>
    intro v0 v2 v3 v4 M
    unfold F_Md_layer_L54
    refine r_iload (dt_Md_layer.at 34 rfl) rfl ?_
    refine r_aload_n (dt_Md_layer.at 35 rfl) rfl ?_
    refine r_fR (dt_Md_layer.at 36 rfl) fl_Md_7 rfl (fun b12 => ?_)
    refine r_iconst (dt_Md_layer.at 37 rfl) 0 (by decide) ?_
    refine r_aI (dt_Md_layer.at 38 rfl) (fun x13 => ?_)
    refine r_icmp_ge (tgt := 114) (dt_Md_layer.at 39 rfl) (by decide) ?_ ?_
    · refine r_aload_n (dt_Md_layer.at 66 rfl) rfl ?_
      refine r_bipush (dt_Md_layer.at 67 rfl) 10 (by decide) ?_
      refine r_cvV (c := 9) (rest := []) (ct_Md_says v0 10 _) (dt_Md_layer.at 68 rfl) mb_Md_says wd_1777 wd_1779 wp_93 rfl (by decide) rfl rfl (Nat.le_of_ble_eq_true rfl) (fun M14 => ?_)
      refine r_iincn (v := 1) (dt_Md_layer.at 69 rfl) (by decide) rfl (by decide) (fun y => [.ref v0, .retAddr 0, .int v2, .int y, .int v4, .retAddr 0]) (fun _ => rfl) (fun x15 => ?_)
      refine r_goto (tgt := 41) (dt_Md_layer.at 70 rfl) (by decide) ?_
      exact Rf.msk [true, false, true, true, false, false] (hk41 v0 v2 x15 M14)
    · refine r_aload_n (dt_Md_layer.at 40 rfl) rfl ?_
      refine r_fR (dt_Md_layer.at 41 rfl) fl_Md_65 rfl (fun b16 => ?_)
      refine r_iload_n (dt_Md_layer.at 42 rfl) rfl ?_
      refine r_bipush (dt_Md_layer.at 43 rfl) 40 (by decide) ?_
      refine r_imul (dt_Md_layer.at 44 rfl) ?_
      refine r_iload_n (dt_Md_layer.at 45 rfl) rfl ?_
      refine r_iadd (dt_Md_layer.at 46 rfl) ?_
      refine r_bipush (dt_Md_layer.at 47 rfl) 40 (by decide) ?_
      refine r_imul (dt_Md_layer.at 48 rfl) ?_
      refine r_iload (dt_Md_layer.at 49 rfl) rfl ?_
      refine r_iadd (dt_Md_layer.at 50 rfl) ?_
      refine r_aI (dt_Md_layer.at 51 rfl) (fun x17 => ?_)
      refine r_istore (ls' := [.ref v0, .retAddr 0, .int v2, .int v3, .int v4, .int x17]) (dt_Md_layer.at 52 rfl) (by decide) rfl ?_
      refine r_aload_n (dt_Md_layer.at 53 rfl) rfl ?_
      refine r_iload (dt_Md_layer.at 54 rfl) rfl ?_
      refine r_if_ne (tgt := 95) (dt_Md_layer.at 55 rfl) (by decide) ?_ ?_
      · refine r_bipush (dt_Md_layer.at 56 rfl) 46 (by decide) ?_
        refine r_goto (tgt := 105) (dt_Md_layer.at 57 rfl) (by decide) ?_
        refine r_cvV (c := 9) (rest := []) (ct_Md_says v0 46 _) (dt_Md_layer.at 63 rfl) mb_Md_says wd_1777 wd_1779 wp_93 rfl (by decide) rfl rfl (Nat.le_of_ble_eq_true rfl) (fun M18 => ?_)
        refine r_iincn (v := 1) (dt_Md_layer.at 64 rfl) (by decide) rfl (by decide) (fun y => [.ref v0, .retAddr 0, .int v2, .int v3, .int y, .int x17]) (fun _ => rfl) (fun x19 => ?_)
        refine r_goto (tgt := 54) (dt_Md_layer.at 65 rfl) (by decide) ?_
        exact Rf.msk [true, false, true, true, true, false] (ih v0 v2 v3 x19 M18)
      · refine r_bipush (dt_Md_layer.at 58 rfl) 48 (by decide) ?_
        refine r_bipush (dt_Md_layer.at 59 rfl) 9 (by decide) ?_
        refine r_iload (dt_Md_layer.at 60 rfl) rfl ?_
        refine r_csI (rest := [.int 48, .ref v0]) (ct_Math_min 9 x17 _) (dt_Md_layer.at 61 rfl) mb_Math_min wd_1309 wd_334 (by decide) rfl rfl (Nat.le_of_ble_eq_true rfl) (fun r21 M20 => ?_)
        refine r_iadd (dt_Md_layer.at 62 rfl) ?_
        refine r_cvV (c := 9) (rest := []) (ct_Md_says v0 (48 + r21) _) (dt_Md_layer.at 63 rfl) mb_Md_says wd_1777 wd_1779 wp_93 rfl (by decide) rfl rfl (Nat.le_of_ble_eq_true rfl) (fun M22 => ?_)
        refine r_iincn (v := 1) (dt_Md_layer.at 64 rfl) (by decide) rfl (by decide) (fun y => [.ref v0, .retAddr 0, .int v2, .int v3, .int y, .int x17]) (fun _ => rfl) (fun x23 => ?_)
        refine r_goto (tgt := 54) (dt_Md_layer.at 65 rfl) (by decide) ?_
        exact Rf.msk [true, false, true, true, true, false] (ih v0 v2 v3 x23 M22)
set_option maxRecDepth 20000 in
set_option maxHeartbeats 2000000 in
theorem rf_Md_layer_L41 {G : am_G} {l : Launch}   : ∀ (n : Nat) (v0 : Nat) (v2 : Int32) (v3 : Int32) (M : am_M), Rf G l X_Md_layer 41 [.ref v0, .retAddr 0, .int v2, .int v3, .retAddr 0, .retAddr 0] [] M (F_Md_layer_L41 n v0 v2 v3 M) := by
  intro n
  induction n with
  | zero => intro v0 v2 v3 M; exact Rf.no
  | succ n ih =>
    intro v0 v2 v3 M
    unfold F_Md_layer_L41
    refine r_iload_n (dt_Md_layer.at 26 rfl) rfl ?_
    refine r_aload_n (dt_Md_layer.at 27 rfl) rfl ?_
    refine r_fR (dt_Md_layer.at 28 rfl) fl_Md_7 rfl (fun b9 => ?_)
    refine r_iconst (dt_Md_layer.at 29 rfl) 1 (by decide) ?_
    refine r_aI (dt_Md_layer.at 30 rfl) (fun x10 => ?_)
    refine r_icmp_ge (tgt := 126) (dt_Md_layer.at 31 rfl) (by decide) ?_ ?_
    · refine r_aload_n (dt_Md_layer.at 71 rfl) rfl ?_
      refine r_fI (dt_Md_layer.at 72 rfl) fl_Md_233 rfl (fun x11 => ?_)
      exact r_iret (dt_Md_layer.at 73 rfl) rfl
    · refine r_iconst (dt_Md_layer.at 32 rfl) 0 (by decide) ?_
      refine r_istore (ls' := [.ref v0, .retAddr 0, .int v2, .int v3, .int 0, .retAddr 0]) (dt_Md_layer.at 33 rfl) (by decide) rfl ?_
      exact Rf.msk [true, false, true, true, true, false] (rf_Md_layer_L54 (F_Md_layer_L41 n) ih fu v0 v2 v3 0 M)
set_option maxRecDepth 20000 in
set_option maxHeartbeats 2000000 in
theorem ct_Md_layer {G : am_G} {l : Launch} (a0 : Nat) (p1 : Int32) (p2 : Int32) (M : am_M) : Ct G l y_Md_layer X_Md_layer [.ref a0, .int p1, .int p2] M (F_Md_layer a0 p1 p2 M) := by
  refine Ct.of (by decide +kernel) rfl rfl (Nat.le_of_ble_eq_true rfl) ?_
  unfold F_Md_layer
  show Rf G l X_Md_layer 0 [.ref a0, .int p1, .int p2, .retAddr 0, .retAddr 0, .retAddr 0] [] M _
  refine r_aload_n (dt_Md_layer.at 0 rfl) rfl ?_
  refine r_iload_n (dt_Md_layer.at 1 rfl) rfl ?_
  refine r_cvI (c := 9) (rest := []) (ct_Md_isTick a0 p1 _) (dt_Md_layer.at 2 rfl) mb_Md_isTick wd_1526 wd_1528 wp_70 rfl (by decide) rfl rfl (Nat.le_of_ble_eq_true rfl) (fun r2 M1 => ?_)
  refine r_if_eq (tgt := 26) (dt_Md_layer.at 3 rfl) (by decide) ?_ ?_
  · refine r_bipush (dt_Md_layer.at 16 rfl) (-2) (by decide) ?_
    exact r_iret (dt_Md_layer.at 17 rfl) rfl
  · refine r_iload_n (dt_Md_layer.at 4 rfl) rfl ?_
    refine r_i2l (dt_Md_layer.at 5 rfl) ?_
    refine r_lconst (dt_Md_layer.at 6 rfl) 0 (by decide) ?_
    refine r_aload_n (dt_Md_layer.at 7 rfl) rfl ?_
    refine r_fR (dt_Md_layer.at 8 rfl) fl_Md_7 rfl (fun b3 => ?_)
    refine r_iconst (dt_Md_layer.at 9 rfl) 2 (by decide) ?_
    refine r_aI (dt_Md_layer.at 10 rfl) (fun x4 => ?_)
    refine r_iconst (dt_Md_layer.at 11 rfl) 1 (by decide) ?_
    refine r_isub (dt_Md_layer.at 12 rfl) ?_
    refine r_i2l (dt_Md_layer.at 13 rfl) ?_
    refine r_csI (rest := []) (ct_Md_in (p2.toInt64) 0 ((x4 - 1).toInt64) _) (dt_Md_layer.at 14 rfl) mb_Md_in wd_1289 wd_1290 (by decide) rfl rfl (Nat.le_of_ble_eq_true rfl) (fun r6 M5 => ?_)
    refine r_if_ne (tgt := 29) (dt_Md_layer.at 15 rfl) (by decide) ?_ ?_
    · refine r_bipush (dt_Md_layer.at 16 rfl) (-2) (by decide) ?_
      exact r_iret (dt_Md_layer.at 17 rfl) rfl
    · refine r_aload_n (dt_Md_layer.at 18 rfl) rfl ?_
      refine r_iload_n (dt_Md_layer.at 19 rfl) rfl ?_
      refine r_cvV (c := 9) (rest := []) (ct_Md_laysHeaps a0 p1 _) (dt_Md_layer.at 20 rfl) mb_Md_laysHeaps wd_1673 wd_1675 wp_86 rfl (by decide) rfl rfl (Nat.le_of_ble_eq_true rfl) (fun M7 => ?_)
      refine r_aload_n (dt_Md_layer.at 21 rfl) rfl ?_
      refine r_iconst (dt_Md_layer.at 22 rfl) 0 (by decide) ?_
      refine r_sI (dt_Md_layer.at 23 rfl) fl_Md_233 rfl rfl rfl (fun M8 => ?_)
      refine r_iconst (dt_Md_layer.at 24 rfl) 0 (by decide) ?_
      refine r_istore_n (ls' := [.ref a0, .int p1, .int p2, .int 0, .retAddr 0, .retAddr 0]) (dt_Md_layer.at 25 rfl) (by decide) rfl ?_
      exact Rf.msk [true, false, true, true, false, false] (rf_Md_layer_L41 fu a0 p2 0 M8)
set_option maxRecDepth 20000 in
set_option maxHeartbeats 2000000 in
theorem rf_Md_saysNumber_L18 {G : am_G} {l : Launch}   : ∀ (n : Nat) (v0 : Nat) (v1 : Int32) (v2 : Int32) (M : am_M), Rf G l X_Md_saysNumber 18 [.ref v0, .int v1, .int v2] [] M (F_Md_saysNumber_L18 n v0 v1 v2 M) := by
  intro n
  induction n with
  | zero => intro v0 v1 v2 M; exact Rf.no
  | succ n ih =>
    intro v0 v1 v2 M
    unfold F_Md_saysNumber_L18
    refine r_iload_n (dt_Md_saysNumber.at 12 rfl) rfl ?_
    refine r_if_le (tgt := 43) (dt_Md_saysNumber.at 13 rfl) (by decide) ?_ ?_
    · exact r_vret (dt_Md_saysNumber.at 28 rfl) rfl
    · refine r_aload_n (dt_Md_saysNumber.at 14 rfl) rfl ?_
      refine r_bipush (dt_Md_saysNumber.at 15 rfl) 48 (by decide) ?_
      refine r_iload_n (dt_Md_saysNumber.at 16 rfl) rfl ?_
      refine r_iload_n (dt_Md_saysNumber.at 17 rfl) rfl ?_
      refine r_idiv (dt_Md_saysNumber.at 18 rfl) ?_
      refine r_bipush (dt_Md_saysNumber.at 19 rfl) 10 (by decide) ?_
      refine r_iremk (dt_Md_saysNumber.at 20 rfl) (by decide) ?_
      refine r_iadd (dt_Md_saysNumber.at 21 rfl) ?_
      refine r_cvV (c := 9) (rest := []) (ct_Md_says v0 (48 + ((v1 / v2) - (v1 / v2) / 10 * 10)) _) (dt_Md_saysNumber.at 22 rfl) mb_Md_says wd_1777 wd_1779 wp_93 rfl (by decide) rfl rfl (Nat.le_of_ble_eq_true rfl) (fun M1 => ?_)
      refine r_iload_n (dt_Md_saysNumber.at 23 rfl) rfl ?_
      refine r_bipush (dt_Md_saysNumber.at 24 rfl) 10 (by decide) ?_
      refine r_idivk (dt_Md_saysNumber.at 25 rfl) (by decide) ?_
      refine r_nmi (fun x2 => ?_)
      refine r_istore_n (ls' := [.ref v0, .int v1, .int x2]) (dt_Md_saysNumber.at 26 rfl) (by decide) rfl ?_
      refine r_goto (tgt := 18) (dt_Md_saysNumber.at 27 rfl) (by decide) ?_
      exact Rf.msk [true, true, true] (ih v0 v1 x2 M1)
set_option maxRecDepth 20000 in
set_option maxHeartbeats 2000000 in
theorem rf_Md_saysNumber_L2 {G : am_G} {l : Launch}   : ∀ (n : Nat) (v0 : Nat) (v1 : Int32) (v2 : Int32) (M : am_M), Rf G l X_Md_saysNumber 2 [.ref v0, .int v1, .int v2] [] M (F_Md_saysNumber_L2 n v0 v1 v2 M) := by
  intro n
  induction n with
  | zero => intro v0 v1 v2 M; exact Rf.no
  | succ n ih =>
    intro v0 v1 v2 M
    unfold F_Md_saysNumber_L2
    refine r_iload_n (dt_Md_saysNumber.at 2 rfl) rfl ?_
    refine r_iload_n (dt_Md_saysNumber.at 3 rfl) rfl ?_
    refine r_idiv (dt_Md_saysNumber.at 4 rfl) ?_
    refine r_bipush (dt_Md_saysNumber.at 5 rfl) 10 (by decide) ?_
    refine r_icmp_lt (tgt := 18) (dt_Md_saysNumber.at 6 rfl) (by decide) ?_ ?_
    · exact Rf.msk [true, true, true] (rf_Md_saysNumber_L18 fu v0 v1 v2 M)
    · refine r_iload_n (dt_Md_saysNumber.at 7 rfl) rfl ?_
      refine r_bipush (dt_Md_saysNumber.at 8 rfl) 10 (by decide) ?_
      refine r_imul (dt_Md_saysNumber.at 9 rfl) ?_
      refine r_nmi (fun x3 => ?_)
      refine r_istore_n (ls' := [.ref v0, .int v1, .int x3]) (dt_Md_saysNumber.at 10 rfl) (by decide) rfl ?_
      refine r_goto (tgt := 2) (dt_Md_saysNumber.at 11 rfl) (by decide) ?_
      exact Rf.msk [true, true, true] (ih v0 v1 x3 M)
set_option maxRecDepth 20000 in
set_option maxHeartbeats 2000000 in
theorem ct_Md_saysNumber {G : am_G} {l : Launch} (a0 : Nat) (p1 : Int32) (M : am_M) : Ct G l y_Md_saysNumber X_Md_saysNumber [.ref a0, .int p1] M (F_Md_saysNumber a0 p1 M) := by
  refine Ct.of (by decide +kernel) rfl rfl (Nat.le_of_ble_eq_true rfl) ?_
  unfold F_Md_saysNumber
  show Rf G l X_Md_saysNumber 0 [.ref a0, .int p1, .retAddr 0] [] M _
  refine r_iconst (dt_Md_saysNumber.at 0 rfl) 1 (by decide) ?_
  refine r_istore_n (ls' := [.ref a0, .int p1, .int 1]) (dt_Md_saysNumber.at 1 rfl) (by decide) rfl ?_
  exact Rf.msk [true, true, true] (rf_Md_saysNumber_L2 fu a0 p1 1 M)
set_option maxRecDepth 20000 in
set_option maxHeartbeats 2000000 in
theorem rf_Md_tell_L133 {G : am_G} {l : Launch}   : ∀ (n : Nat) (v0 : Nat) (v2 : Int32) (M : am_M), Rf G l X_Md_tell 133 [.ref v0, .retAddr 0, .int v2] [] M (F_Md_tell_L133 n v0 v2 M) := by
  intro n
  induction n with
  | zero => intro v0 v2 M; exact Rf.no
  | succ n ih =>
    intro v0 v2 M
    unfold F_Md_tell_L133
    refine r_iload_n (dt_Md_tell.at 72 rfl) rfl ?_
    refine r_iconst (dt_Md_tell.at 73 rfl) 3 (by decide) ?_
    refine r_icmp_ge (tgt := 160) (dt_Md_tell.at 74 rfl) (by decide) ?_ ?_
    · refine r_aload_n (dt_Md_tell.at 86 rfl) rfl ?_
      refine r_fI (dt_Md_tell.at 87 rfl) fl_Md_233 rfl (fun x15 => ?_)
      exact r_iret (dt_Md_tell.at 88 rfl) rfl
    · refine r_aload_n (dt_Md_tell.at 75 rfl) rfl ?_
      refine r_bipush (dt_Md_tell.at 76 rfl) 32 (by decide) ?_
      refine r_cvV (c := 9) (rest := []) (ct_Md_says v0 32 _) (dt_Md_tell.at 77 rfl) mb_Md_says wd_1777 wd_1779 wp_93 rfl (by decide) rfl rfl (Nat.le_of_ble_eq_true rfl) (fun M16 => ?_)
      refine r_aload_n (dt_Md_tell.at 78 rfl) rfl ?_
      refine r_aload_n (dt_Md_tell.at 79 rfl) rfl ?_
      refine r_fR (dt_Md_tell.at 80 rfl) fl_Md_42 rfl (fun b17 => ?_)
      refine r_iload_n (dt_Md_tell.at 81 rfl) rfl ?_
      refine r_aI (dt_Md_tell.at 82 rfl) (fun x18 => ?_)
      refine r_cvV (c := 9) (rest := []) (ct_Md_saysNumber v0 x18 _) (dt_Md_tell.at 83 rfl) mb_Md_saysNumber wd_1789 wd_1791 wp_94 rfl (by decide) rfl rfl (Nat.le_of_ble_eq_true rfl) (fun M19 => ?_)
      refine r_iincn (v := 1) (dt_Md_tell.at 84 rfl) (by decide) rfl (by decide) (fun y => [.ref v0, .retAddr 0, .int y]) (fun _ => rfl) (fun x20 => ?_)
      refine r_goto (tgt := 133) (dt_Md_tell.at 85 rfl) (by decide) ?_
      exact Rf.msk [true, false, true] (ih v0 x20 M19)
set_option maxRecDepth 20000 in
set_option maxHeartbeats 2000000 in
theorem rf_Md_tell_L103 {G : am_G} {l : Launch}   (v0 : Nat) (M : am_M) : Rf G l X_Md_tell 103 [.ref v0, .retAddr 0, .retAddr 0] [] M (F_Md_tell_L103 v0 M) := by
  unfold F_Md_tell_L103
  refine r_aload_n (dt_Md_tell.at 56 rfl) rfl ?_
  refine r_bipush (dt_Md_tell.at 57 rfl) 32 (by decide) ?_
  refine r_cvV (c := 9) (rest := []) (ct_Md_says v0 32 _) (dt_Md_tell.at 58 rfl) mb_Md_says wd_1777 wd_1779 wp_93 rfl (by decide) rfl rfl (Nat.le_of_ble_eq_true rfl) (fun M9 => ?_)
  refine r_aload_n (dt_Md_tell.at 59 rfl) rfl ?_
  refine r_aload_n (dt_Md_tell.at 60 rfl) rfl ?_
  refine r_fI (dt_Md_tell.at 61 rfl) fl_Md_292 rfl (fun x10 => ?_)
  refine r_cvV (c := 9) (rest := []) (ct_Md_saysNumber v0 x10 _) (dt_Md_tell.at 62 rfl) mb_Md_saysNumber wd_1789 wd_1791 wp_94 rfl (by decide) rfl rfl (Nat.le_of_ble_eq_true rfl) (fun M11 => ?_)
  refine r_aload_n (dt_Md_tell.at 63 rfl) rfl ?_
  refine r_bipush (dt_Md_tell.at 64 rfl) 45 (by decide) ?_
  refine r_cvV (c := 9) (rest := []) (ct_Md_says v0 45 _) (dt_Md_tell.at 65 rfl) mb_Md_says wd_1777 wd_1779 wp_93 rfl (by decide) rfl rfl (Nat.le_of_ble_eq_true rfl) (fun M12 => ?_)
  refine r_aload_n (dt_Md_tell.at 66 rfl) rfl ?_
  refine r_aload_n (dt_Md_tell.at 67 rfl) rfl ?_
  refine r_fI (dt_Md_tell.at 68 rfl) fl_Md_303 rfl (fun x13 => ?_)
  refine r_cvV (c := 9) (rest := []) (ct_Md_saysNumber v0 x13 _) (dt_Md_tell.at 69 rfl) mb_Md_saysNumber wd_1789 wd_1791 wp_94 rfl (by decide) rfl rfl (Nat.le_of_ble_eq_true rfl) (fun M14 => ?_)
  refine r_iconst (dt_Md_tell.at 70 rfl) 0 (by decide) ?_
  refine r_istore_n (ls' := [.ref v0, .retAddr 0, .int 0]) (dt_Md_tell.at 71 rfl) (by decide) rfl ?_
  exact Rf.msk [true, false, true] (rf_Md_tell_L133 fu v0 0 M14)
set_option maxRecDepth 20000 in
set_option maxHeartbeats 2000000 in
theorem rf_Md_tell_L78 {G : am_G} {l : Launch}   (v0 : Nat) (v1 : Int32) (M : am_M) : Rf G l X_Md_tell 78 [.ref v0, .int v1, .retAddr 0] [] M (F_Md_tell_L78 v0 v1 M) := by
  unfold F_Md_tell_L78
  refine r_iload_n (dt_Md_tell.at 43 rfl) rfl ?_
  refine r_bipush (dt_Md_tell.at 44 rfl) 16 (by decide) ?_
  refine r_iremk (dt_Md_tell.at 45 rfl) (by decide) ?_
  refine r_if_le (tgt := 103) (dt_Md_tell.at 46 rfl) (by decide) ?_ ?_
  · exact Rf.msk [true, false, false] (rf_Md_tell_L103 v0 M)
  · refine r_aload_n (dt_Md_tell.at 47 rfl) rfl ?_
    refine r_bipush (dt_Md_tell.at 48 rfl) 46 (by decide) ?_
    refine r_cvV (c := 9) (rest := []) (ct_Md_says v0 46 _) (dt_Md_tell.at 49 rfl) mb_Md_says wd_1777 wd_1779 wp_93 rfl (by decide) rfl rfl (Nat.le_of_ble_eq_true rfl) (fun M21 => ?_)
    refine r_aload_n (dt_Md_tell.at 50 rfl) rfl ?_
    refine r_iload_n (dt_Md_tell.at 51 rfl) rfl ?_
    refine r_sipush (dt_Md_tell.at 52 rfl) 256 (by decide) ?_
    refine r_iremk (dt_Md_tell.at 53 rfl) (by decide) ?_
    refine r_csI (rest := [.ref v0]) (ct_Md_second (v1 - v1 / 256 * 256) _) (dt_Md_tell.at 54 rfl) mb_Md_second wd_1452 wd_1453 (by decide) rfl rfl (Nat.le_of_ble_eq_true rfl) (fun r23 M22 => ?_)
    refine r_cvV (c := 9) (rest := []) (ct_Md_saysNumber v0 r23 _) (dt_Md_tell.at 55 rfl) mb_Md_saysNumber wd_1789 wd_1791 wp_94 rfl (by decide) rfl rfl (Nat.le_of_ble_eq_true rfl) (fun M24 => ?_)
    exact Rf.msk [true, false, false] (rf_Md_tell_L103 v0 M24)
set_option maxRecDepth 20000 in
set_option maxHeartbeats 2000000 in
theorem ct_Md_tell {G : am_G} {l : Launch} (a0 : Nat) (p1 : Int32) (M : am_M) : Ct G l y_Md_tell X_Md_tell [.ref a0, .int p1] M (F_Md_tell a0 p1 M) := by
  refine Ct.of (by decide +kernel) rfl rfl (Nat.le_of_ble_eq_true rfl) ?_
  unfold F_Md_tell
  show Rf G l X_Md_tell 0 [.ref a0, .int p1, .retAddr 0] [] M _
  refine r_aload_n (dt_Md_tell.at 0 rfl) rfl ?_
  refine r_iload_n (dt_Md_tell.at 1 rfl) rfl ?_
  refine r_cvI (c := 9) (rest := []) (ct_Md_isSpark a0 p1 _) (dt_Md_tell.at 2 rfl) mb_Md_isSpark wd_1441 wd_1443 wp_56 rfl (by decide) rfl rfl (Nat.le_of_ble_eq_true rfl) (fun r2 M1 => ?_)
  refine r_if_ne (tgt := 11) (dt_Md_tell.at 3 rfl) (by decide) ?_ ?_
  · refine r_bipush (dt_Md_tell.at 4 rfl) (-2) (by decide) ?_
    exact r_iret (dt_Md_tell.at 5 rfl) rfl
  · refine r_aload_n (dt_Md_tell.at 6 rfl) rfl ?_
    refine r_iload_n (dt_Md_tell.at 7 rfl) rfl ?_
    refine r_cvV (c := 9) (rest := []) (ct_Md_lays a0 p1 _) (dt_Md_tell.at 8 rfl) mb_Md_lays wd_1481 wd_1483 wp_60 rfl (by decide) rfl rfl (Nat.le_of_ble_eq_true rfl) (fun M3 => ?_)
    refine r_aload_n (dt_Md_tell.at 9 rfl) rfl ?_
    refine r_iconst (dt_Md_tell.at 10 rfl) 0 (by decide) ?_
    refine r_sI (dt_Md_tell.at 11 rfl) fl_Md_233 rfl rfl rfl (fun M4 => ?_)
    refine r_aload_n (dt_Md_tell.at 12 rfl) rfl ?_
    refine r_bipush (dt_Md_tell.at 13 rfl) 97 (by decide) ?_
    refine r_aload_n (dt_Md_tell.at 14 rfl) rfl ?_
    refine r_fI (dt_Md_tell.at 15 rfl) fl_Md_278 rfl (fun x5 => ?_)
    refine r_iadd (dt_Md_tell.at 16 rfl) ?_
    refine r_cvV (c := 9) (rest := []) (ct_Md_says a0 (97 + x5) _) (dt_Md_tell.at 17 rfl) mb_Md_says wd_1777 wd_1779 wp_93 rfl (by decide) rfl rfl (Nat.le_of_ble_eq_true rfl) (fun M6 => ?_)
    refine r_aload_n (dt_Md_tell.at 18 rfl) rfl ?_
    refine r_iload_n (dt_Md_tell.at 19 rfl) rfl ?_
    refine r_sipush (dt_Md_tell.at 20 rfl) 256 (by decide) ?_
    refine r_idivk (dt_Md_tell.at 21 rfl) (by decide) ?_
    refine r_iconst (dt_Md_tell.at 22 rfl) 4 (by decide) ?_
    refine r_iremk (dt_Md_tell.at 23 rfl) (by decide) ?_
    refine r_cvV (c := 9) (rest := []) (ct_Md_saysNumber a0 ((p1 / 256) - (p1 / 256) / 4 * 4) _) (dt_Md_tell.at 24 rfl) mb_Md_saysNumber wd_1789 wd_1791 wp_94 rfl (by decide) rfl rfl (Nat.le_of_ble_eq_true rfl) (fun M7 => ?_)
    refine r_aload_n (dt_Md_tell.at 25 rfl) rfl ?_
    refine r_iload_n (dt_Md_tell.at 26 rfl) rfl ?_
    refine r_sipush (dt_Md_tell.at 27 rfl) 1024 (by decide) ?_
    refine r_idivk (dt_Md_tell.at 28 rfl) (by decide) ?_
    refine r_cvV (c := 9) (rest := []) (ct_Md_saysNumber a0 (p1 / 1024) _) (dt_Md_tell.at 29 rfl) mb_Md_saysNumber wd_1789 wd_1791 wp_94 rfl (by decide) rfl rfl (Nat.le_of_ble_eq_true rfl) (fun M8 => ?_)
    refine r_iload_n (dt_Md_tell.at 30 rfl) rfl ?_
    refine r_sipush (dt_Md_tell.at 31 rfl) 256 (by decide) ?_
    refine r_iremk (dt_Md_tell.at 32 rfl) (by decide) ?_
    refine r_if_le (tgt := 78) (dt_Md_tell.at 33 rfl) (by decide) ?_ ?_
    · exact Rf.msk [true, true, false] (rf_Md_tell_L78 a0 p1 M8)
    · refine r_aload_n (dt_Md_tell.at 34 rfl) rfl ?_
      refine r_bipush (dt_Md_tell.at 35 rfl) 46 (by decide) ?_
      refine r_cvV (c := 9) (rest := []) (ct_Md_says a0 46 _) (dt_Md_tell.at 36 rfl) mb_Md_says wd_1777 wd_1779 wp_93 rfl (by decide) rfl rfl (Nat.le_of_ble_eq_true rfl) (fun M25 => ?_)
      refine r_aload_n (dt_Md_tell.at 37 rfl) rfl ?_
      refine r_iload_n (dt_Md_tell.at 38 rfl) rfl ?_
      refine r_sipush (dt_Md_tell.at 39 rfl) 256 (by decide) ?_
      refine r_iremk (dt_Md_tell.at 40 rfl) (by decide) ?_
      refine r_csI (rest := [.ref a0]) (ct_Md_first (p1 - p1 / 256 * 256) _) (dt_Md_tell.at 41 rfl) mb_Md_first wd_1445 wd_1446 (by decide) rfl rfl (Nat.le_of_ble_eq_true rfl) (fun r27 M26 => ?_)
      refine r_cvV (c := 9) (rest := []) (ct_Md_saysNumber a0 r27 _) (dt_Md_tell.at 42 rfl) mb_Md_saysNumber wd_1789 wd_1791 wp_94 rfl (by decide) rfl rfl (Nat.le_of_ble_eq_true rfl) (fun M28 => ?_)
      exact Rf.msk [true, true, false] (rf_Md_tell_L78 a0 p1 M28)
