/-! ===== the walks, row by row (printed by wip/whole/emit.py) ===== -/
set_option maxRecDepth 20000 in
set_option maxHeartbeats 2000000 in
theorem rf_Md_topOf_L5 {G : am_G} {l : Launch}   : ∀ (n : Nat) (v0 : Nat) (v1 : Int32) (v2 : Int32) (v3 : Int32) (v4 : Int32) (M : am_M), Rf G l X_Md_topOf 5 [.ref v0, .int v1, .int v2, .int v3, .int v4] [] M (F_Md_topOf_L5 n v0 v1 v2 v3 v4 M) := by
  intro n
  induction n with
  | zero => intro v0 v1 v2 v3 v4 M; exact Rf.no
  | succ n ih =>
    intro v0 v1 v2 v3 v4 M
    unfold F_Md_topOf_L5
    refine r_iload (dt_Md_topOf.at 4 rfl) rfl ?_
    refine r_aload_n (dt_Md_topOf.at 5 rfl) rfl ?_
    refine r_fI (dt_Md_topOf.at 6 rfl) fl_Md_361 rfl (fun x1 => ?_)
    refine r_icmp_ge (tgt := 49) (dt_Md_topOf.at 7 rfl) (by decide) ?_ ?_
    · refine r_iload_n (dt_Md_topOf.at 26 rfl) rfl ?_
      exact r_iret (dt_Md_topOf.at 27 rfl) rfl
    · refine r_aload_n (dt_Md_topOf.at 8 rfl) rfl ?_
      refine r_fR (dt_Md_topOf.at 9 rfl) fl_Md_58 rfl (fun b2 => ?_)
      refine r_iload (dt_Md_topOf.at 10 rfl) rfl ?_
      refine r_aI (dt_Md_topOf.at 11 rfl) (fun x3 => ?_)
      refine r_iload_n (dt_Md_topOf.at 12 rfl) rfl ?_
      refine r_icmp_ne (tgt := 41) (dt_Md_topOf.at 13 rfl) (by decide) ?_ ?_
      · refine r_aload_n (dt_Md_topOf.at 14 rfl) rfl ?_
        refine r_fR (dt_Md_topOf.at 15 rfl) fl_Md_61 rfl (fun b4 => ?_)
        refine r_iload (dt_Md_topOf.at 16 rfl) rfl ?_
        refine r_aI (dt_Md_topOf.at 17 rfl) (fun x5 => ?_)
        refine r_iload_n (dt_Md_topOf.at 18 rfl) rfl ?_
        refine r_icmp_ne (tgt := 41) (dt_Md_topOf.at 19 rfl) (by decide) ?_ ?_
        · refine r_iload (dt_Md_topOf.at 20 rfl) rfl ?_
          refine r_goto (tgt := 42) (dt_Md_topOf.at 21 rfl) (by decide) ?_
          refine r_istore_n (ls' := [.ref v0, .int v1, .int v2, .int v4, .int v4]) (dt_Md_topOf.at 23 rfl) (by decide) rfl ?_
          refine r_iincn (v := 1) (dt_Md_topOf.at 24 rfl) (by decide) rfl (by decide) (fun y => [.ref v0, .int v1, .int v2, .int v4, .int y]) (fun _ => rfl) (fun x6 => ?_)
          refine r_goto (tgt := 5) (dt_Md_topOf.at 25 rfl) (by decide) ?_
          exact Rf.msk [true, true, true, true, true] (ih v0 v1 v2 v4 x6 M)
        · refine r_iload_n (dt_Md_topOf.at 22 rfl) rfl ?_
          refine r_istore_n (ls' := [.ref v0, .int v1, .int v2, .int v3, .int v4]) (dt_Md_topOf.at 23 rfl) (by decide) rfl ?_
          refine r_iincn (v := 1) (dt_Md_topOf.at 24 rfl) (by decide) rfl (by decide) (fun y => [.ref v0, .int v1, .int v2, .int v3, .int y]) (fun _ => rfl) (fun x7 => ?_)
          refine r_goto (tgt := 5) (dt_Md_topOf.at 25 rfl) (by decide) ?_
          exact Rf.msk [true, true, true, true, true] (ih v0 v1 v2 v3 x7 M)
      · refine r_iload_n (dt_Md_topOf.at 22 rfl) rfl ?_
        refine r_istore_n (ls' := [.ref v0, .int v1, .int v2, .int v3, .int v4]) (dt_Md_topOf.at 23 rfl) (by decide) rfl ?_
        refine r_iincn (v := 1) (dt_Md_topOf.at 24 rfl) (by decide) rfl (by decide) (fun y => [.ref v0, .int v1, .int v2, .int v3, .int y]) (fun _ => rfl) (fun x8 => ?_)
        refine r_goto (tgt := 5) (dt_Md_topOf.at 25 rfl) (by decide) ?_
        exact Rf.msk [true, true, true, true, true] (ih v0 v1 v2 v3 x8 M)
set_option maxRecDepth 20000 in
set_option maxHeartbeats 2000000 in
theorem ct_Md_topOf {G : am_G} {l : Launch} (a0 : Nat) (p1 : Int32) (p2 : Int32) (M : am_M) : Ct G l y_Md_topOf X_Md_topOf [.ref a0, .int p1, .int p2] M (F_Md_topOf a0 p1 p2 M) := by
  refine Ct.of (by decide +kernel) rfl rfl (Nat.le_of_ble_eq_true rfl) ?_
  unfold F_Md_topOf
  show Rf G l X_Md_topOf 0 [.ref a0, .int p1, .int p2, .retAddr 0, .retAddr 0] [] M _
  refine r_iconst (dt_Md_topOf.at 0 rfl) (-1) (by decide) ?_
  refine r_istore_n (ls' := [.ref a0, .int p1, .int p2, .int (-1), .retAddr 0]) (dt_Md_topOf.at 1 rfl) (by decide) rfl ?_
  refine r_iconst (dt_Md_topOf.at 2 rfl) 0 (by decide) ?_
  refine r_istore (ls' := [.ref a0, .int p1, .int p2, .int (-1), .int 0]) (dt_Md_topOf.at 3 rfl) (by decide) rfl ?_
  exact Rf.msk [true, true, true, true, true] (rf_Md_topOf_L5 fu a0 p1 p2 (-1) 0 M)
set_option maxRecDepth 20000 in
set_option maxHeartbeats 2000000 in
theorem ct_Md_top {G : am_G} {l : Launch} (a0 : Nat) (p1 : Int32) (p2 : Int32) (p3 : Int32) (M : am_M) : Ct G l y_Md_top X_Md_top [.ref a0, .int p1, .int p2, .int p3] M (F_Md_top a0 p1 p2 p3 M) := by
  refine Ct.of (by decide +kernel) rfl rfl (Nat.le_of_ble_eq_true rfl) ?_
  unfold F_Md_top
  show Rf G l X_Md_top 0 [.ref a0, .int p1, .int p2, .int p3, .retAddr 0] [] M _
  refine r_aload_n (dt_Md_top.at 0 rfl) rfl ?_
  refine r_iload_n (dt_Md_top.at 1 rfl) rfl ?_
  refine r_cvI (c := 9) (rest := []) (ct_Md_isTick a0 p1 _) (dt_Md_top.at 2 rfl) mb_Md_isTick wd_1526 wd_1528 wp_70 rfl (by decide) rfl rfl (Nat.le_of_ble_eq_true rfl) (fun r2 M1 => ?_)
  refine r_if_eq (tgt := 17) (dt_Md_top.at 3 rfl) (by decide) ?_ ?_
  · refine r_bipush (dt_Md_top.at 9 rfl) (-2) (by decide) ?_
    exact r_iret (dt_Md_top.at 10 rfl) rfl
  · refine r_aload_n (dt_Md_top.at 4 rfl) rfl ?_
    refine r_iload_n (dt_Md_top.at 5 rfl) rfl ?_
    refine r_iload_n (dt_Md_top.at 6 rfl) rfl ?_
    refine r_cvI (c := 9) (rest := []) (ct_Md_isColumn a0 p2 p3 _) (dt_Md_top.at 7 rfl) mb_Md_isColumn wd_1630 wd_1632 wp_81 rfl (by decide) rfl rfl (Nat.le_of_ble_eq_true rfl) (fun r4 M3 => ?_)
    refine r_if_ne (tgt := 20) (dt_Md_top.at 8 rfl) (by decide) ?_ ?_
    · refine r_bipush (dt_Md_top.at 9 rfl) (-2) (by decide) ?_
      exact r_iret (dt_Md_top.at 10 rfl) rfl
    · refine r_aload_n (dt_Md_top.at 11 rfl) rfl ?_
      refine r_iload_n (dt_Md_top.at 12 rfl) rfl ?_
      refine r_cvV (c := 9) (rest := []) (ct_Md_laysFrame a0 p1 _) (dt_Md_top.at 13 rfl) mb_Md_laysFrame wd_1612 wd_1614 wp_79 rfl (by decide) rfl rfl (Nat.le_of_ble_eq_true rfl) (fun M5 => ?_)
      refine r_aload_n (dt_Md_top.at 14 rfl) rfl ?_
      refine r_iload_n (dt_Md_top.at 15 rfl) rfl ?_
      refine r_cvV (c := 9) (rest := []) (ct_Md_laysColumns a0 p1 _) (dt_Md_top.at 16 rfl) mb_Md_laysColumns wd_1634 wd_1636 wp_82 rfl (by decide) rfl rfl (Nat.le_of_ble_eq_true rfl) (fun M6 => ?_)
      refine r_aload_n (dt_Md_top.at 17 rfl) rfl ?_
      refine r_iload_n (dt_Md_top.at 18 rfl) rfl ?_
      refine r_iload_n (dt_Md_top.at 19 rfl) rfl ?_
      refine r_cvI (c := 9) (rest := []) (ct_Md_topOf a0 p2 p3 _) (dt_Md_top.at 20 rfl) mb_Md_topOf wd_1642 wd_1644 wp_83 rfl (by decide) rfl rfl (Nat.le_of_ble_eq_true rfl) (fun r8 M7 => ?_)
      refine r_istore (ls' := [.ref a0, .int p1, .int p2, .int p3, .int r8]) (dt_Md_top.at 21 rfl) (by decide) rfl ?_
      refine r_iload (dt_Md_top.at 22 rfl) rfl ?_
      refine r_iconst (dt_Md_top.at 23 rfl) (-1) (by decide) ?_
      refine r_icmp_ne (tgt := 48) (dt_Md_top.at 24 rfl) (by decide) ?_ ?_
      · refine r_iconst (dt_Md_top.at 25 rfl) (-1) (by decide) ?_
        refine r_goto (tgt := 54) (dt_Md_top.at 26 rfl) (by decide) ?_
        exact r_iret (dt_Md_top.at 30 rfl) rfl
      · refine r_aload_n (dt_Md_top.at 27 rfl) rfl ?_
        refine r_iload (dt_Md_top.at 28 rfl) rfl ?_
        refine r_cvI (c := 9) (rest := []) (ct_Md_codeAt a0 r8 _) (dt_Md_top.at 29 rfl) mb_Md_codeAt wd_1603 wd_1605 wp_78 rfl (by decide) rfl rfl (Nat.le_of_ble_eq_true rfl) (fun r10 M9 => ?_)
        exact r_iret (dt_Md_top.at 30 rfl) rfl
set_option maxRecDepth 20000 in
set_option maxHeartbeats 2000000 in
theorem rf_Md_fullest_L105 {G : am_G} {l : Launch}   : ∀ (n : Nat) (v0 : Nat) (v2 : Int32) (v3 : Int32) (v4 : Int32) (M : am_M), Rf G l X_Md_fullest 105 [.ref v0, .retAddr 0, .int v2, .int v3, .int v4] [] M (F_Md_fullest_L105 n v0 v2 v3 v4 M) := by
  intro n
  induction n with
  | zero => intro v0 v2 v3 v4 M; exact Rf.no
  | succ n ih =>
    intro v0 v2 v3 v4 M
    unfold F_Md_fullest_L105
    refine r_iload (dt_Md_fullest.at 60 rfl) rfl ?_
    refine r_sipush (dt_Md_fullest.at 61 rfl) 1600 (by decide) ?_
    refine r_icmp_ge (tgt := 153) (dt_Md_fullest.at 62 rfl) (by decide) ?_ ?_
    · refine r_iload_n (dt_Md_fullest.at 84 rfl) rfl ?_
      refine r_iconst (dt_Md_fullest.at 85 rfl) (-1) (by decide) ?_
      refine r_icmp_ne (tgt := 160) (dt_Md_fullest.at 86 rfl) (by decide) ?_ ?_
      · refine r_iconst (dt_Md_fullest.at 87 rfl) (-1) (by decide) ?_
        exact r_iret (dt_Md_fullest.at 88 rfl) rfl
      · refine r_iload_n (dt_Md_fullest.at 89 rfl) rfl ?_
        refine r_if_ne (tgt := 171) (dt_Md_fullest.at 90 rfl) (by decide) ?_ ?_
        · refine r_iload_n (dt_Md_fullest.at 91 rfl) rfl ?_
          refine r_bipush (dt_Md_fullest.at 92 rfl) 40 (by decide) ?_
          refine r_iremk (dt_Md_fullest.at 93 rfl) (by decide) ?_
          refine r_goto (tgt := 189) (dt_Md_fullest.at 94 rfl) (by decide) ?_
          exact r_iret (dt_Md_fullest.at 106 rfl) rfl
        · refine r_iload_n (dt_Md_fullest.at 95 rfl) rfl ?_
          refine r_iconst (dt_Md_fullest.at 96 rfl) 1 (by decide) ?_
          refine r_icmp_ne (tgt := 183) (dt_Md_fullest.at 97 rfl) (by decide) ?_ ?_
          · refine r_iload_n (dt_Md_fullest.at 98 rfl) rfl ?_
            refine r_bipush (dt_Md_fullest.at 99 rfl) 40 (by decide) ?_
            refine r_idivk (dt_Md_fullest.at 100 rfl) (by decide) ?_
            refine r_goto (tgt := 189) (dt_Md_fullest.at 101 rfl) (by decide) ?_
            exact r_iret (dt_Md_fullest.at 106 rfl) rfl
          · refine r_aload_n (dt_Md_fullest.at 102 rfl) rfl ?_
            refine r_fR (dt_Md_fullest.at 103 rfl) fl_Md_65 rfl (fun b8 => ?_)
            refine r_iload_n (dt_Md_fullest.at 104 rfl) rfl ?_
            refine r_aI (dt_Md_fullest.at 105 rfl) (fun x9 => ?_)
            exact r_iret (dt_Md_fullest.at 106 rfl) rfl
    · refine r_aload_n (dt_Md_fullest.at 63 rfl) rfl ?_
      refine r_fR (dt_Md_fullest.at 64 rfl) fl_Md_65 rfl (fun b10 => ?_)
      refine r_iload (dt_Md_fullest.at 65 rfl) rfl ?_
      refine r_aI (dt_Md_fullest.at 66 rfl) (fun x11 => ?_)
      refine r_if_le (tgt := 147) (dt_Md_fullest.at 67 rfl) (by decide) ?_ ?_
      · refine r_iincn (v := 1) (dt_Md_fullest.at 82 rfl) (by decide) rfl (by decide) (fun y => [.ref v0, .retAddr 0, .int v2, .int v3, .int y]) (fun _ => rfl) (fun x12 => ?_)
        refine r_goto (tgt := 105) (dt_Md_fullest.at 83 rfl) (by decide) ?_
        exact Rf.msk [true, false, true, true, true] (ih v0 v2 v3 x12 M)
      · refine r_iload_n (dt_Md_fullest.at 68 rfl) rfl ?_
        refine r_iconst (dt_Md_fullest.at 69 rfl) (-1) (by decide) ?_
        refine r_icmp_eq (tgt := 144) (dt_Md_fullest.at 70 rfl) (by decide) ?_ ?_
        · refine r_iload (dt_Md_fullest.at 80 rfl) rfl ?_
          refine r_istore_n (ls' := [.ref v0, .retAddr 0, .int v2, .int v4, .int v4]) (dt_Md_fullest.at 81 rfl) (by decide) rfl ?_
          refine r_iincn (v := 1) (dt_Md_fullest.at 82 rfl) (by decide) rfl (by decide) (fun y => [.ref v0, .retAddr 0, .int v2, .int v4, .int y]) (fun _ => rfl) (fun x13 => ?_)
          refine r_goto (tgt := 105) (dt_Md_fullest.at 83 rfl) (by decide) ?_
          exact Rf.msk [true, false, true, true, true] (ih v0 v2 v4 x13 M)
        · refine r_aload_n (dt_Md_fullest.at 71 rfl) rfl ?_
          refine r_fR (dt_Md_fullest.at 72 rfl) fl_Md_65 rfl (fun b14 => ?_)
          refine r_iload (dt_Md_fullest.at 73 rfl) rfl ?_
          refine r_aI (dt_Md_fullest.at 74 rfl) (fun x15 => ?_)
          refine r_aload_n (dt_Md_fullest.at 75 rfl) rfl ?_
          refine r_fR (dt_Md_fullest.at 76 rfl) fl_Md_65 rfl (fun b16 => ?_)
          refine r_iload_n (dt_Md_fullest.at 77 rfl) rfl ?_
          refine r_aI (dt_Md_fullest.at 78 rfl) (fun x17 => ?_)
          refine r_icmp_le (tgt := 147) (dt_Md_fullest.at 79 rfl) (by decide) ?_ ?_
          · refine r_iincn (v := 1) (dt_Md_fullest.at 82 rfl) (by decide) rfl (by decide) (fun y => [.ref v0, .retAddr 0, .int v2, .int v3, .int y]) (fun _ => rfl) (fun x18 => ?_)
            refine r_goto (tgt := 105) (dt_Md_fullest.at 83 rfl) (by decide) ?_
            exact Rf.msk [true, false, true, true, true] (ih v0 v2 v3 x18 M)
          · refine r_iload (dt_Md_fullest.at 80 rfl) rfl ?_
            refine r_istore_n (ls' := [.ref v0, .retAddr 0, .int v2, .int v4, .int v4]) (dt_Md_fullest.at 81 rfl) (by decide) rfl ?_
            refine r_iincn (v := 1) (dt_Md_fullest.at 82 rfl) (by decide) rfl (by decide) (fun y => [.ref v0, .retAddr 0, .int v2, .int v4, .int y]) (fun _ => rfl) (fun x19 => ?_)
            refine r_goto (tgt := 105) (dt_Md_fullest.at 83 rfl) (by decide) ?_
            exact Rf.msk [true, false, true, true, true] (ih v0 v2 v4 x19 M)
set_option maxRecDepth 20000 in
set_option maxHeartbeats 2000000 in
theorem rf_Md_fullest_L60 {G : am_G} {l : Launch}   : ∀ (n : Nat) (v0 : Nat) (v2 : Int32) (v3 : Int32) (v4 : Int32) (M : am_M), Rf G l X_Md_fullest 60 [.ref v0, .retAddr 0, .int v2, .int v3, .int v4] [] M (F_Md_fullest_L60 n v0 v2 v3 v4 M) := by
  intro n
  induction n with
  | zero => intro v0 v2 v3 v4 M; exact Rf.no
  | succ n ih =>
    intro v0 v2 v3 v4 M
    unfold F_Md_fullest_L60
    refine r_iload (dt_Md_fullest.at 34 rfl) rfl ?_
    refine r_aload_n (dt_Md_fullest.at 35 rfl) rfl ?_
    refine r_fI (dt_Md_fullest.at 36 rfl) fl_Md_361 rfl (fun x7 => ?_)
    refine r_icmp_ge (tgt := 102) (dt_Md_fullest.at 37 rfl) (by decide) ?_ ?_
    · refine r_iconst (dt_Md_fullest.at 58 rfl) 0 (by decide) ?_
      refine r_istore (ls' := [.ref v0, .retAddr 0, .int v2, .int v3, .int 0]) (dt_Md_fullest.at 59 rfl) (by decide) rfl ?_
      exact Rf.msk [true, false, true, true, true] (rf_Md_fullest_L105 fu v0 v2 v3 0 M)
    · refine r_aload_n (dt_Md_fullest.at 38 rfl) rfl ?_
      refine r_fR (dt_Md_fullest.at 39 rfl) fl_Md_65 rfl (fun b20 => ?_)
      refine r_bipush (dt_Md_fullest.at 40 rfl) 40 (by decide) ?_
      refine r_aload_n (dt_Md_fullest.at 41 rfl) rfl ?_
      refine r_fR (dt_Md_fullest.at 42 rfl) fl_Md_61 rfl (fun b21 => ?_)
      refine r_iload (dt_Md_fullest.at 43 rfl) rfl ?_
      refine r_aI (dt_Md_fullest.at 44 rfl) (fun x22 => ?_)
      refine r_imul (dt_Md_fullest.at 45 rfl) ?_
      refine r_aload_n (dt_Md_fullest.at 46 rfl) rfl ?_
      refine r_fR (dt_Md_fullest.at 47 rfl) fl_Md_58 rfl (fun b23 => ?_)
      refine r_iload (dt_Md_fullest.at 48 rfl) rfl ?_
      refine r_aI (dt_Md_fullest.at 49 rfl) (fun x24 => ?_)
      refine r_iadd (dt_Md_fullest.at 50 rfl) ?_
      refine r_dup2 (dt_Md_fullest.at 51 rfl) rfl rfl ?_
      refine r_aI (dt_Md_fullest.at 52 rfl) (fun x25 => ?_)
      refine r_iconst (dt_Md_fullest.at 53 rfl) 1 (by decide) ?_
      refine r_iadd (dt_Md_fullest.at 54 rfl) ?_
      refine r_tI (dt_Md_fullest.at 55 rfl) (fun M26 => ?_)
      refine r_iincn (v := 1) (dt_Md_fullest.at 56 rfl) (by decide) rfl (by decide) (fun y => [.ref v0, .retAddr 0, .int v2, .int v3, .int y]) (fun _ => rfl) (fun x27 => ?_)
      refine r_goto (tgt := 60) (dt_Md_fullest.at 57 rfl) (by decide) ?_
      exact Rf.msk [true, false, true, true, true] (ih v0 v2 v3 x27 M26)
set_option maxRecDepth 20000 in
set_option maxHeartbeats 2000000 in
theorem rf_Md_fullest_L35 {G : am_G} {l : Launch}   : ∀ (n : Nat) (v0 : Nat) (v2 : Int32) (v3 : Int32) (M : am_M), Rf G l X_Md_fullest 35 [.ref v0, .retAddr 0, .int v2, .int v3, .retAddr 0] [] M (F_Md_fullest_L35 n v0 v2 v3 M) := by
  intro n
  induction n with
  | zero => intro v0 v2 v3 M; exact Rf.no
  | succ n ih =>
    intro v0 v2 v3 M
    unfold F_Md_fullest_L35
    refine r_iload_n (dt_Md_fullest.at 20 rfl) rfl ?_
    refine r_sipush (dt_Md_fullest.at 21 rfl) 1600 (by decide) ?_
    refine r_icmp_ge (tgt := 55) (dt_Md_fullest.at 22 rfl) (by decide) ?_ ?_
    · refine r_iconst (dt_Md_fullest.at 30 rfl) (-1) (by decide) ?_
      refine r_istore_n (ls' := [.ref v0, .retAddr 0, .int v2, .int (-1), .retAddr 0]) (dt_Md_fullest.at 31 rfl) (by decide) rfl ?_
      refine r_iconst (dt_Md_fullest.at 32 rfl) 0 (by decide) ?_
      refine r_istore (ls' := [.ref v0, .retAddr 0, .int v2, .int (-1), .int 0]) (dt_Md_fullest.at 33 rfl) (by decide) rfl ?_
      exact Rf.msk [true, false, true, true, true] (rf_Md_fullest_L60 fu v0 v2 (-1) 0 M)
    · refine r_aload_n (dt_Md_fullest.at 23 rfl) rfl ?_
      refine r_fR (dt_Md_fullest.at 24 rfl) fl_Md_65 rfl (fun b28 => ?_)
      refine r_iload_n (dt_Md_fullest.at 25 rfl) rfl ?_
      refine r_iconst (dt_Md_fullest.at 26 rfl) 0 (by decide) ?_
      refine r_tI (dt_Md_fullest.at 27 rfl) (fun M29 => ?_)
      refine r_iincn (v := 1) (dt_Md_fullest.at 28 rfl) (by decide) rfl (by decide) (fun y => [.ref v0, .retAddr 0, .int v2, .int y, .retAddr 0]) (fun _ => rfl) (fun x30 => ?_)
      refine r_goto (tgt := 35) (dt_Md_fullest.at 29 rfl) (by decide) ?_
      exact Rf.msk [true, false, true, true, false] (ih v0 v2 x30 M29)
set_option maxRecDepth 20000 in
set_option maxHeartbeats 2000000 in
theorem ct_Md_fullest {G : am_G} {l : Launch} (a0 : Nat) (p1 : Int32) (p2 : Int32) (M : am_M) : Ct G l y_Md_fullest X_Md_fullest [.ref a0, .int p1, .int p2] M (F_Md_fullest a0 p1 p2 M) := by
  refine Ct.of (by decide +kernel) rfl rfl (Nat.le_of_ble_eq_true rfl) ?_
  unfold F_Md_fullest
  show Rf G l X_Md_fullest 0 [.ref a0, .int p1, .int p2, .retAddr 0, .retAddr 0] [] M _
  refine r_aload_n (dt_Md_fullest.at 0 rfl) rfl ?_
  refine r_iload_n (dt_Md_fullest.at 1 rfl) rfl ?_
  refine r_cvI (c := 9) (rest := []) (ct_Md_isTick a0 p1 _) (dt_Md_fullest.at 2 rfl) mb_Md_isTick wd_1526 wd_1528 wp_70 rfl (by decide) rfl rfl (Nat.le_of_ble_eq_true rfl) (fun r2 M1 => ?_)
  refine r_if_eq (tgt := 20) (dt_Md_fullest.at 3 rfl) (by decide) ?_ ?_
  · refine r_bipush (dt_Md_fullest.at 10 rfl) (-2) (by decide) ?_
    exact r_iret (dt_Md_fullest.at 11 rfl) rfl
  · refine r_iload_n (dt_Md_fullest.at 4 rfl) rfl ?_
    refine r_i2l (dt_Md_fullest.at 5 rfl) ?_
    refine r_lconst (dt_Md_fullest.at 6 rfl) 0 (by decide) ?_
    refine r_ldc2 (dt_Md_fullest.at 7 rfl) 2 wd_1531 ?_
    refine r_csI (rest := []) (ct_Md_in (p2.toInt64) 0 2 _) (dt_Md_fullest.at 8 rfl) mb_Md_in wd_1289 wd_1290 (by decide) rfl rfl (Nat.le_of_ble_eq_true rfl) (fun r4 M3 => ?_)
    refine r_if_ne (tgt := 23) (dt_Md_fullest.at 9 rfl) (by decide) ?_ ?_
    · refine r_bipush (dt_Md_fullest.at 10 rfl) (-2) (by decide) ?_
      exact r_iret (dt_Md_fullest.at 11 rfl) rfl
    · refine r_aload_n (dt_Md_fullest.at 12 rfl) rfl ?_
      refine r_iload_n (dt_Md_fullest.at 13 rfl) rfl ?_
      refine r_cvV (c := 9) (rest := []) (ct_Md_gathers a0 p1 _) (dt_Md_fullest.at 14 rfl) mb_Md_gathers wd_1583 wd_1585 wp_73 rfl (by decide) rfl rfl (Nat.le_of_ble_eq_true rfl) (fun M5 => ?_)
      refine r_aload_n (dt_Md_fullest.at 15 rfl) rfl ?_
      refine r_iload_n (dt_Md_fullest.at 16 rfl) rfl ?_
      refine r_cvV (c := 9) (rest := []) (ct_Md_laysColumns a0 p1 _) (dt_Md_fullest.at 17 rfl) mb_Md_laysColumns wd_1634 wd_1636 wp_82 rfl (by decide) rfl rfl (Nat.le_of_ble_eq_true rfl) (fun M6 => ?_)
      refine r_iconst (dt_Md_fullest.at 18 rfl) 0 (by decide) ?_
      refine r_istore_n (ls' := [.ref a0, .int p1, .int p2, .int 0, .retAddr 0]) (dt_Md_fullest.at 19 rfl) (by decide) rfl ?_
      exact Rf.msk [true, false, true, true, false] (rf_Md_fullest_L35 fu a0 p2 0 M6)
set_option maxRecDepth 20000 in
set_option maxHeartbeats 2000000 in
theorem ct_Md_isCell {G : am_G} {l : Launch} (a0 : Nat) (p1 : Int32) (p2 : Int32) (p3 : Int32) (M : am_M) : Ct G l y_Md_isCell X_Md_isCell [.ref a0, .int p1, .int p2, .int p3] M (F_Md_isCell a0 p1 p2 p3 M) := by
  refine Ct.of (by decide +kernel) rfl rfl (Nat.le_of_ble_eq_true rfl) ?_
  unfold F_Md_isCell
  show Rf G l X_Md_isCell 0 [.ref a0, .int p1, .int p2, .int p3] [] M _
  refine r_aload_n (dt_Md_isCell.at 0 rfl) rfl ?_
  refine r_iload_n (dt_Md_isCell.at 1 rfl) rfl ?_
  refine r_iload_n (dt_Md_isCell.at 2 rfl) rfl ?_
  refine r_cvI (c := 9) (rest := []) (ct_Md_isColumn a0 p1 p2 _) (dt_Md_isCell.at 3 rfl) mb_Md_isColumn wd_1630 wd_1632 wp_81 rfl (by decide) rfl rfl (Nat.le_of_ble_eq_true rfl) (fun r2 M1 => ?_)
  refine r_if_eq (tgt := 31) (dt_Md_isCell.at 4 rfl) (by decide) ?_ ?_
  · refine r_iconst (dt_Md_isCell.at 19 rfl) 0 (by decide) ?_
    exact r_zret (dt_Md_isCell.at 20 rfl) rfl rfl
  · refine r_iload_n (dt_Md_isCell.at 5 rfl) rfl ?_
    refine r_i2l (dt_Md_isCell.at 6 rfl) ?_
    refine r_lconst (dt_Md_isCell.at 7 rfl) 0 (by decide) ?_
    refine r_aload_n (dt_Md_isCell.at 8 rfl) rfl ?_
    refine r_fR (dt_Md_isCell.at 9 rfl) fl_Md_7 rfl (fun b3 => ?_)
    refine r_iconst (dt_Md_isCell.at 10 rfl) 2 (by decide) ?_
    refine r_aI (dt_Md_isCell.at 11 rfl) (fun x4 => ?_)
    refine r_iconst (dt_Md_isCell.at 12 rfl) 1 (by decide) ?_
    refine r_isub (dt_Md_isCell.at 13 rfl) ?_
    refine r_i2l (dt_Md_isCell.at 14 rfl) ?_
    refine r_csI (rest := []) (ct_Md_in (p3.toInt64) 0 ((x4 - 1).toInt64) _) (dt_Md_isCell.at 15 rfl) mb_Md_in wd_1289 wd_1290 (by decide) rfl rfl (Nat.le_of_ble_eq_true rfl) (fun r6 M5 => ?_)
    refine r_if_eq (tgt := 31) (dt_Md_isCell.at 16 rfl) (by decide) ?_ ?_
    · refine r_iconst (dt_Md_isCell.at 19 rfl) 0 (by decide) ?_
      exact r_zret (dt_Md_isCell.at 20 rfl) rfl rfl
    · refine r_iconst (dt_Md_isCell.at 17 rfl) 1 (by decide) ?_
      refine r_goto (tgt := 32) (dt_Md_isCell.at 18 rfl) (by decide) ?_
      exact r_zret (dt_Md_isCell.at 20 rfl) rfl rfl
set_option maxRecDepth 20000 in
set_option maxHeartbeats 2000000 in
theorem ct_Md_squares {G : am_G} {l : Launch} (a0 : Nat) (p1 : Int32) (p2 : Int32) (p3 : Int32) (p4 : Int32) (p5 : Int32) (M : am_M) : Ct G l y_Md_squares X_Md_squares [.ref a0, .int p1, .int p2, .int p3, .int p4, .int p5] M (F_Md_squares a0 p1 p2 p3 p4 p5 M) := by
  refine Ct.of (by decide +kernel) rfl rfl (Nat.le_of_ble_eq_true rfl) ?_
  unfold F_Md_squares
  show Rf G l X_Md_squares 0 [.ref a0, .int p1, .int p2, .int p3, .int p4, .int p5, .retAddr 0, .retAddr 0, .retAddr 0, .retAddr 0, .retAddr 0, .retAddr 0] [] M _
  refine r_aload_n (dt_Md_squares.at 0 rfl) rfl ?_
  refine r_aload_n (dt_Md_squares.at 1 rfl) rfl ?_
  refine r_iload_n (dt_Md_squares.at 2 rfl) rfl ?_
  refine r_cvI (c := 9) (rest := [.ref a0]) (ct_Md_codeAt a0 p1 _) (dt_Md_squares.at 3 rfl) mb_Md_codeAt wd_1603 wd_1605 wp_78 rfl (by decide) rfl rfl (Nat.le_of_ble_eq_true rfl) (fun r2 M1 => ?_)
  refine r_cvV (c := 9) (rest := []) (ct_Md_lays a0 r2 _) (dt_Md_squares.at 4 rfl) mb_Md_lays wd_1481 wd_1483 wp_60 rfl (by decide) rfl rfl (Nat.le_of_ble_eq_true rfl) (fun M3 => ?_)
  refine r_aload_n (dt_Md_squares.at 5 rfl) rfl ?_
  refine r_iconst (dt_Md_squares.at 6 rfl) 0 (by decide) ?_
  refine r_iload_n (dt_Md_squares.at 7 rfl) rfl ?_
  refine r_aload_n (dt_Md_squares.at 8 rfl) rfl ?_
  refine r_fI (dt_Md_squares.at 9 rfl) fl_Md_292 rfl (fun x4 => ?_)
  refine r_isub (dt_Md_squares.at 10 rfl) ?_
  refine r_cvI (c := 9) (rest := []) (ct_Md_placeBy a0 0 (p2 - x4) _) (dt_Md_squares.at 11 rfl) mb_Md_placeBy wd_1517 wd_1519 wp_69 rfl (by decide) rfl rfl (Nat.le_of_ble_eq_true rfl) (fun r6 M5 => ?_)
  refine r_i2l (dt_Md_squares.at 12 rfl) ?_
  refine r_ldc2 (dt_Md_squares.at 13 rfl) 8 wd_1662 ?_
  refine r_iload_n (dt_Md_squares.at 14 rfl) rfl ?_
  refine r_i2l (dt_Md_squares.at 15 rfl) ?_
  refine r_lmul (dt_Md_squares.at 16 rfl) ?_
  refine r_lsub (dt_Md_squares.at 17 rfl) ?_
  refine r_ldc2 (dt_Md_squares.at 18 rfl) 4 wd_1420 ?_
  refine r_lsub (dt_Md_squares.at 19 rfl) ?_
  refine r_nml (fun z7 => ?_)
  refine r_lstore (ls' := [.ref a0, .int p1, .int p2, .int p3, .int p4, .int p5, .long z7, .retAddr 0, .retAddr 0, .retAddr 0, .retAddr 0, .retAddr 0]) (dt_Md_squares.at 20 rfl) (by decide) rfl ?_
  refine r_aload_n (dt_Md_squares.at 21 rfl) rfl ?_
  refine r_iconst (dt_Md_squares.at 22 rfl) 1 (by decide) ?_
  refine r_iload_n (dt_Md_squares.at 23 rfl) rfl ?_
  refine r_aload_n (dt_Md_squares.at 24 rfl) rfl ?_
  refine r_fI (dt_Md_squares.at 25 rfl) fl_Md_292 rfl (fun x8 => ?_)
  refine r_isub (dt_Md_squares.at 26 rfl) ?_
  refine r_cvI (c := 9) (rest := []) (ct_Md_placeBy a0 1 (p2 - x8) _) (dt_Md_squares.at 27 rfl) mb_Md_placeBy wd_1517 wd_1519 wp_69 rfl (by decide) rfl rfl (Nat.le_of_ble_eq_true rfl) (fun r10 M9 => ?_)
  refine r_i2l (dt_Md_squares.at 28 rfl) ?_
  refine r_ldc2 (dt_Md_squares.at 29 rfl) 8 wd_1662 ?_
  refine r_iload (dt_Md_squares.at 30 rfl) rfl ?_
  refine r_i2l (dt_Md_squares.at 31 rfl) ?_
  refine r_lmul (dt_Md_squares.at 32 rfl) ?_
  refine r_lsub (dt_Md_squares.at 33 rfl) ?_
  refine r_ldc2 (dt_Md_squares.at 34 rfl) 4 wd_1420 ?_
  refine r_lsub (dt_Md_squares.at 35 rfl) ?_
  refine r_nml (fun z11 => ?_)
  refine r_lstore (ls' := [.ref a0, .int p1, .int p2, .int p3, .int p4, .int p5, .long z7, .retAddr 0, .long z11, .retAddr 0, .retAddr 0, .retAddr 0]) (dt_Md_squares.at 36 rfl) (by decide) rfl ?_
  refine r_aload_n (dt_Md_squares.at 37 rfl) rfl ?_
  refine r_iconst (dt_Md_squares.at 38 rfl) 2 (by decide) ?_
  refine r_iload_n (dt_Md_squares.at 39 rfl) rfl ?_
  refine r_aload_n (dt_Md_squares.at 40 rfl) rfl ?_
  refine r_fI (dt_Md_squares.at 41 rfl) fl_Md_292 rfl (fun x12 => ?_)
  refine r_isub (dt_Md_squares.at 42 rfl) ?_
  refine r_cvI (c := 9) (rest := []) (ct_Md_placeBy a0 2 (p2 - x12) _) (dt_Md_squares.at 43 rfl) mb_Md_placeBy wd_1517 wd_1519 wp_69 rfl (by decide) rfl rfl (Nat.le_of_ble_eq_true rfl) (fun r14 M13 => ?_)
  refine r_i2l (dt_Md_squares.at 44 rfl) ?_
  refine r_ldc2 (dt_Md_squares.at 45 rfl) 8 wd_1662 ?_
  refine r_iload (dt_Md_squares.at 46 rfl) rfl ?_
  refine r_i2l (dt_Md_squares.at 47 rfl) ?_
  refine r_lmul (dt_Md_squares.at 48 rfl) ?_
  refine r_lsub (dt_Md_squares.at 49 rfl) ?_
  refine r_ldc2 (dt_Md_squares.at 50 rfl) 4 wd_1420 ?_
  refine r_lsub (dt_Md_squares.at 51 rfl) ?_
  refine r_nml (fun z15 => ?_)
  refine r_lstore (ls' := [.ref a0, .int p1, .int p2, .int p3, .int p4, .int p5, .long z7, .retAddr 0, .long z11, .retAddr 0, .long z15, .retAddr 0]) (dt_Md_squares.at 52 rfl) (by decide) rfl ?_
  refine r_lload (dt_Md_squares.at 53 rfl) rfl ?_
  refine r_lload (dt_Md_squares.at 54 rfl) rfl ?_
  refine r_lmul (dt_Md_squares.at 55 rfl) ?_
  refine r_lload (dt_Md_squares.at 56 rfl) rfl ?_
  refine r_lload (dt_Md_squares.at 57 rfl) rfl ?_
  refine r_lmul (dt_Md_squares.at 58 rfl) ?_
  refine r_ladd (dt_Md_squares.at 59 rfl) ?_
  refine r_lload (dt_Md_squares.at 60 rfl) rfl ?_
  refine r_lload (dt_Md_squares.at 61 rfl) rfl ?_
  refine r_lmul (dt_Md_squares.at 62 rfl) ?_
  refine r_ladd (dt_Md_squares.at 63 rfl) ?_
  exact r_lret (dt_Md_squares.at 64 rfl) rfl
set_option maxRecDepth 20000 in
set_option maxHeartbeats 2000000 in
theorem rf_Md_nearest_L36 {G : am_G} {l : Launch}   : ∀ (n : Nat) (v0 : Nat) (v1 : Int32) (v2 : Int32) (v3 : Int32) (v4 : Int32) (v5 : Int32) (v6 : Int64) (v8 : Int32) (M : am_M), Rf G l X_Md_nearest 36 [.ref v0, .int v1, .int v2, .int v3, .int v4, .int v5, .long v6, .retAddr 0, .int v8, .retAddr 0, .retAddr 0, .retAddr 0] [] M (F_Md_nearest_L36 n v0 v1 v2 v3 v4 v5 v6 v8 M) := by
  intro n
  induction n with
  | zero => intro v0 v1 v2 v3 v4 v5 v6 v8 M; exact Rf.no
  | succ n ih =>
    intro v0 v1 v2 v3 v4 v5 v6 v8 M
    unfold F_Md_nearest_L36
    refine r_iload (dt_Md_nearest.at 21 rfl) rfl ?_
    refine r_aload_n (dt_Md_nearest.at 22 rfl) rfl ?_
    refine r_fI (dt_Md_nearest.at 23 rfl) fl_Md_361 rfl (fun x6 => ?_)
    refine r_icmp_ge (tgt := 112) (dt_Md_nearest.at 24 rfl) (by decide) ?_ ?_
    · refine r_iload (dt_Md_nearest.at 58 rfl) rfl ?_
      exact r_iret (dt_Md_nearest.at 59 rfl) rfl
    · refine r_aload_n (dt_Md_nearest.at 25 rfl) rfl ?_
      refine r_iload (dt_Md_nearest.at 26 rfl) rfl ?_
      refine r_iload_n (dt_Md_nearest.at 27 rfl) rfl ?_
      refine r_iload_n (dt_Md_nearest.at 28 rfl) rfl ?_
      refine r_iload_n (dt_Md_nearest.at 29 rfl) rfl ?_
      refine r_iload (dt_Md_nearest.at 30 rfl) rfl ?_
      refine r_cvL (c := 9) (rest := []) (ct_Md_squares v0 v8 v1 v2 v3 v4 _) (dt_Md_nearest.at 31 rfl) mb_Md_squares wd_1658 wd_1660 wp_85 rfl (by decide) rfl rfl (Nat.le_of_ble_eq_true rfl) (fun z8 M7 => ?_)
      refine r_lstore (ls' := [.ref v0, .int v1, .int v2, .int v3, .int v4, .int v5, .long v6, .retAddr 0, .int v8, .long z8, .retAddr 0, .retAddr 0]) (dt_Md_nearest.at 32 rfl) (by decide) rfl ?_
      refine r_aload_n (dt_Md_nearest.at 33 rfl) rfl ?_
      refine r_iload (dt_Md_nearest.at 34 rfl) rfl ?_
      refine r_cvI (c := 9) (rest := []) (ct_Md_codeAt v0 v8 _) (dt_Md_nearest.at 35 rfl) mb_Md_codeAt wd_1603 wd_1605 wp_78 rfl (by decide) rfl rfl (Nat.le_of_ble_eq_true rfl) (fun r10 M9 => ?_)
      refine r_istore (ls' := [.ref v0, .int v1, .int v2, .int v3, .int v4, .int v5, .long v6, .retAddr 0, .int v8, .long z8, .retAddr 0, .int r10]) (dt_Md_nearest.at 36 rfl) (by decide) rfl ?_
      refine r_iload (dt_Md_nearest.at 37 rfl) rfl ?_
      refine r_iconst (dt_Md_nearest.at 38 rfl) (-1) (by decide) ?_
      refine r_icmp_eq (tgt := 98) (dt_Md_nearest.at 39 rfl) (by decide) ?_ ?_
      · refine r_iload (dt_Md_nearest.at 52 rfl) rfl ?_
        refine r_istore (ls' := [.ref v0, .int v1, .int v2, .int v3, .int v4, .int r10, .long v6, .retAddr 0, .int v8, .long z8, .retAddr 0, .int r10]) (dt_Md_nearest.at 53 rfl) (by decide) rfl ?_
        refine r_lload (dt_Md_nearest.at 54 rfl) rfl ?_
        refine r_lstore (ls' := [.ref v0, .int v1, .int v2, .int v3, .int v4, .int r10, .long z8, .retAddr 0, .int v8, .long z8, .retAddr 0, .int r10]) (dt_Md_nearest.at 55 rfl) (by decide) rfl ?_
        refine r_iincn (v := 1) (dt_Md_nearest.at 56 rfl) (by decide) rfl (by decide) (fun y => [.ref v0, .int v1, .int v2, .int v3, .int v4, .int r10, .long z8, .retAddr 0, .int y, .long z8, .retAddr 0, .int r10]) (fun _ => rfl) (fun x11 => ?_)
        refine r_goto (tgt := 36) (dt_Md_nearest.at 57 rfl) (by decide) ?_
        exact Rf.msk [true, true, true, true, true, true, true, false, true, false, false, false] (ih v0 v1 v2 v3 v4 r10 z8 x11 M9)
      · refine r_lload (dt_Md_nearest.at 40 rfl) rfl ?_
        refine r_lload (dt_Md_nearest.at 41 rfl) rfl ?_
        refine r_lcmp (dt_Md_nearest.at 42 rfl) ?_
        refine r_if_gt (tgt := 106) (dt_Md_nearest.at 43 rfl) (by decide) ?_ ?_
        · refine r_iincn (v := 1) (dt_Md_nearest.at 56 rfl) (by decide) rfl (by decide) (fun y => [.ref v0, .int v1, .int v2, .int v3, .int v4, .int v5, .long v6, .retAddr 0, .int y, .long z8, .retAddr 0, .int r10]) (fun _ => rfl) (fun x12 => ?_)
          refine r_goto (tgt := 36) (dt_Md_nearest.at 57 rfl) (by decide) ?_
          exact Rf.msk [true, true, true, true, true, true, true, false, true, false, false, false] (ih v0 v1 v2 v3 v4 v5 v6 x12 M9)
        · refine r_lload (dt_Md_nearest.at 44 rfl) rfl ?_
          refine r_lload (dt_Md_nearest.at 45 rfl) rfl ?_
          refine r_lcmp (dt_Md_nearest.at 46 rfl) ?_
          refine r_if_ne (tgt := 98) (dt_Md_nearest.at 47 rfl) (by decide) ?_ ?_
          · refine r_iload (dt_Md_nearest.at 48 rfl) rfl ?_
            refine r_iload (dt_Md_nearest.at 49 rfl) rfl ?_
            refine r_icmp_le (tgt := 98) (dt_Md_nearest.at 50 rfl) (by decide) ?_ ?_
            · refine r_iload (dt_Md_nearest.at 52 rfl) rfl ?_
              refine r_istore (ls' := [.ref v0, .int v1, .int v2, .int v3, .int v4, .int r10, .long v6, .retAddr 0, .int v8, .long z8, .retAddr 0, .int r10]) (dt_Md_nearest.at 53 rfl) (by decide) rfl ?_
              refine r_lload (dt_Md_nearest.at 54 rfl) rfl ?_
              refine r_lstore (ls' := [.ref v0, .int v1, .int v2, .int v3, .int v4, .int r10, .long z8, .retAddr 0, .int v8, .long z8, .retAddr 0, .int r10]) (dt_Md_nearest.at 55 rfl) (by decide) rfl ?_
              refine r_iincn (v := 1) (dt_Md_nearest.at 56 rfl) (by decide) rfl (by decide) (fun y => [.ref v0, .int v1, .int v2, .int v3, .int v4, .int r10, .long z8, .retAddr 0, .int y, .long z8, .retAddr 0, .int r10]) (fun _ => rfl) (fun x13 => ?_)
              refine r_goto (tgt := 36) (dt_Md_nearest.at 57 rfl) (by decide) ?_
              exact Rf.msk [true, true, true, true, true, true, true, false, true, false, false, false] (ih v0 v1 v2 v3 v4 r10 z8 x13 M9)
            · refine r_goto (tgt := 106) (dt_Md_nearest.at 51 rfl) (by decide) ?_
              refine r_iincn (v := 1) (dt_Md_nearest.at 56 rfl) (by decide) rfl (by decide) (fun y => [.ref v0, .int v1, .int v2, .int v3, .int v4, .int v5, .long v6, .retAddr 0, .int y, .long z8, .retAddr 0, .int r10]) (fun _ => rfl) (fun x14 => ?_)
              refine r_goto (tgt := 36) (dt_Md_nearest.at 57 rfl) (by decide) ?_
              exact Rf.msk [true, true, true, true, true, true, true, false, true, false, false, false] (ih v0 v1 v2 v3 v4 v5 v6 x14 M9)
          · refine r_iload (dt_Md_nearest.at 52 rfl) rfl ?_
            refine r_istore (ls' := [.ref v0, .int v1, .int v2, .int v3, .int v4, .int r10, .long v6, .retAddr 0, .int v8, .long z8, .retAddr 0, .int r10]) (dt_Md_nearest.at 53 rfl) (by decide) rfl ?_
            refine r_lload (dt_Md_nearest.at 54 rfl) rfl ?_
            refine r_lstore (ls' := [.ref v0, .int v1, .int v2, .int v3, .int v4, .int r10, .long z8, .retAddr 0, .int v8, .long z8, .retAddr 0, .int r10]) (dt_Md_nearest.at 55 rfl) (by decide) rfl ?_
            refine r_iincn (v := 1) (dt_Md_nearest.at 56 rfl) (by decide) rfl (by decide) (fun y => [.ref v0, .int v1, .int v2, .int v3, .int v4, .int r10, .long z8, .retAddr 0, .int y, .long z8, .retAddr 0, .int r10]) (fun _ => rfl) (fun x15 => ?_)
            refine r_goto (tgt := 36) (dt_Md_nearest.at 57 rfl) (by decide) ?_
            exact Rf.msk [true, true, true, true, true, true, true, false, true, false, false, false] (ih v0 v1 v2 v3 v4 r10 z8 x15 M9)
set_option maxRecDepth 20000 in
set_option maxHeartbeats 2000000 in
theorem ct_Md_nearest {G : am_G} {l : Launch} (a0 : Nat) (p1 : Int32) (p2 : Int32) (p3 : Int32) (p4 : Int32) (M : am_M) : Ct G l y_Md_nearest X_Md_nearest [.ref a0, .int p1, .int p2, .int p3, .int p4] M (F_Md_nearest a0 p1 p2 p3 p4 M) := by
  refine Ct.of (by decide +kernel) rfl rfl (Nat.le_of_ble_eq_true rfl) ?_
  unfold F_Md_nearest
  show Rf G l X_Md_nearest 0 [.ref a0, .int p1, .int p2, .int p3, .int p4, .retAddr 0, .retAddr 0, .retAddr 0, .retAddr 0, .retAddr 0, .retAddr 0, .retAddr 0] [] M _
  refine r_aload_n (dt_Md_nearest.at 0 rfl) rfl ?_
  refine r_iload_n (dt_Md_nearest.at 1 rfl) rfl ?_
  refine r_cvI (c := 9) (rest := []) (ct_Md_isTick a0 p1 _) (dt_Md_nearest.at 2 rfl) mb_Md_isTick wd_1526 wd_1528 wp_70 rfl (by decide) rfl rfl (Nat.le_of_ble_eq_true rfl) (fun r2 M1 => ?_)
  refine r_if_eq (tgt := 19) (dt_Md_nearest.at 3 rfl) (by decide) ?_ ?_
  · refine r_bipush (dt_Md_nearest.at 10 rfl) (-2) (by decide) ?_
    exact r_iret (dt_Md_nearest.at 11 rfl) rfl
  · refine r_aload_n (dt_Md_nearest.at 4 rfl) rfl ?_
    refine r_iload_n (dt_Md_nearest.at 5 rfl) rfl ?_
    refine r_iload_n (dt_Md_nearest.at 6 rfl) rfl ?_
    refine r_iload (dt_Md_nearest.at 7 rfl) rfl ?_
    refine r_cvI (c := 9) (rest := []) (ct_Md_isCell a0 p2 p3 p4 _) (dt_Md_nearest.at 8 rfl) mb_Md_isCell wd_1654 wd_1656 wp_84 rfl (by decide) rfl rfl (Nat.le_of_ble_eq_true rfl) (fun r4 M3 => ?_)
    refine r_if_ne (tgt := 22) (dt_Md_nearest.at 9 rfl) (by decide) ?_ ?_
    · refine r_bipush (dt_Md_nearest.at 10 rfl) (-2) (by decide) ?_
      exact r_iret (dt_Md_nearest.at 11 rfl) rfl
    · refine r_aload_n (dt_Md_nearest.at 12 rfl) rfl ?_
      refine r_iload_n (dt_Md_nearest.at 13 rfl) rfl ?_
      refine r_cvV (c := 9) (rest := []) (ct_Md_gathers a0 p1 _) (dt_Md_nearest.at 14 rfl) mb_Md_gathers wd_1583 wd_1585 wp_73 rfl (by decide) rfl rfl (Nat.le_of_ble_eq_true rfl) (fun M5 => ?_)
      refine r_iconst (dt_Md_nearest.at 15 rfl) (-1) (by decide) ?_
      refine r_istore (ls' := [.ref a0, .int p1, .int p2, .int p3, .int p4, .int (-1), .retAddr 0, .retAddr 0, .retAddr 0, .retAddr 0, .retAddr 0, .retAddr 0]) (dt_Md_nearest.at 16 rfl) (by decide) rfl ?_
      refine r_lconst (dt_Md_nearest.at 17 rfl) 0 (by decide) ?_
      refine r_lstore (ls' := [.ref a0, .int p1, .int p2, .int p3, .int p4, .int (-1), .long 0, .retAddr 0, .retAddr 0, .retAddr 0, .retAddr 0, .retAddr 0]) (dt_Md_nearest.at 18 rfl) (by decide) rfl ?_
      refine r_iconst (dt_Md_nearest.at 19 rfl) 0 (by decide) ?_
      refine r_istore (ls' := [.ref a0, .int p1, .int p2, .int p3, .int p4, .int (-1), .long 0, .retAddr 0, .int 0, .retAddr 0, .retAddr 0, .retAddr 0]) (dt_Md_nearest.at 20 rfl) (by decide) rfl ?_
      exact Rf.msk [true, true, true, true, true, true, true, false, true, false, false, false] (rf_Md_nearest_L36 fu a0 p1 p2 p3 p4 (-1) 0 0 M5)
set_option maxRecDepth 20000 in
set_option maxHeartbeats 2000000 in
theorem rf_Md_within_L46 {G : am_G} {l : Launch}   : ∀ (n : Nat) (v0 : Nat) (v1 : Int32) (v2 : Int32) (v3 : Int32) (v4 : Int32) (v5 : Int32) (v6 : Int32) (v7 : Int32) (M : am_M), Rf G l X_Md_within 46 [.ref v0, .int v1, .int v2, .int v3, .int v4, .int v5, .int v6, .int v7] [] M (F_Md_within_L46 n v0 v1 v2 v3 v4 v5 v6 v7 M) := by
  intro n
  induction n with
  | zero => intro v0 v1 v2 v3 v4 v5 v6 v7 M; exact Rf.no
  | succ n ih =>
    intro v0 v1 v2 v3 v4 v5 v6 v7 M
    unfold F_Md_within_L46
    refine r_iload (dt_Md_within.at 25 rfl) rfl ?_
    refine r_aload_n (dt_Md_within.at 26 rfl) rfl ?_
    refine r_fI (dt_Md_within.at 27 rfl) fl_Md_361 rfl (fun x8 => ?_)
    refine r_icmp_ge (tgt := 93) (dt_Md_within.at 28 rfl) (by decide) ?_ ?_
    · refine r_iload (dt_Md_within.at 51 rfl) rfl ?_
      exact r_iret (dt_Md_within.at 52 rfl) rfl
    · refine r_iload (dt_Md_within.at 29 rfl) rfl ?_
      refine r_aload_n (dt_Md_within.at 30 rfl) rfl ?_
      refine r_iload (dt_Md_within.at 31 rfl) rfl ?_
      refine r_iload_n (dt_Md_within.at 32 rfl) rfl ?_
      refine r_iload_n (dt_Md_within.at 33 rfl) rfl ?_
      refine r_iload_n (dt_Md_within.at 34 rfl) rfl ?_
      refine r_iload (dt_Md_within.at 35 rfl) rfl ?_
      refine r_cvL (c := 9) (rest := [.int v6]) (ct_Md_squares v0 v7 v1 v2 v3 v4 _) (dt_Md_within.at 36 rfl) mb_Md_squares wd_1658 wd_1660 wp_85 rfl (by decide) rfl rfl (Nat.le_of_ble_eq_true rfl) (fun z10 M9 => ?_)
      refine r_iload (dt_Md_within.at 37 rfl) rfl ?_
      refine r_i2l (dt_Md_within.at 38 rfl) ?_
      refine r_iload (dt_Md_within.at 39 rfl) rfl ?_
      refine r_i2l (dt_Md_within.at 40 rfl) ?_
      refine r_lmul (dt_Md_within.at 41 rfl) ?_
      refine r_lcmp (dt_Md_within.at 42 rfl) ?_
      refine r_if_gt (tgt := 83) (dt_Md_within.at 43 rfl) (by decide) ?_ ?_
      · refine r_iconst (dt_Md_within.at 46 rfl) 0 (by decide) ?_
        refine r_iadd (dt_Md_within.at 47 rfl) ?_
        refine r_nmi (fun x11 => ?_)
        refine r_istore (ls' := [.ref v0, .int v1, .int v2, .int v3, .int v4, .int v5, .int x11, .int v7]) (dt_Md_within.at 48 rfl) (by decide) rfl ?_
        refine r_iincn (v := 1) (dt_Md_within.at 49 rfl) (by decide) rfl (by decide) (fun y => [.ref v0, .int v1, .int v2, .int v3, .int v4, .int v5, .int x11, .int y]) (fun _ => rfl) (fun x12 => ?_)
        refine r_goto (tgt := 46) (dt_Md_within.at 50 rfl) (by decide) ?_
        exact Rf.msk [true, true, true, true, true, true, true, true] (ih v0 v1 v2 v3 v4 v5 x11 x12 M9)
      · refine r_iconst (dt_Md_within.at 44 rfl) 1 (by decide) ?_
        refine r_goto (tgt := 84) (dt_Md_within.at 45 rfl) (by decide) ?_
        refine r_iadd (dt_Md_within.at 47 rfl) ?_
        refine r_nmi (fun x13 => ?_)
        refine r_istore (ls' := [.ref v0, .int v1, .int v2, .int v3, .int v4, .int v5, .int x13, .int v7]) (dt_Md_within.at 48 rfl) (by decide) rfl ?_
        refine r_iincn (v := 1) (dt_Md_within.at 49 rfl) (by decide) rfl (by decide) (fun y => [.ref v0, .int v1, .int v2, .int v3, .int v4, .int v5, .int x13, .int y]) (fun _ => rfl) (fun x14 => ?_)
        refine r_goto (tgt := 46) (dt_Md_within.at 50 rfl) (by decide) ?_
        exact Rf.msk [true, true, true, true, true, true, true, true] (ih v0 v1 v2 v3 v4 v5 x13 x14 M9)
set_option maxRecDepth 20000 in
set_option maxHeartbeats 2000000 in
theorem ct_Md_within {G : am_G} {l : Launch} (a0 : Nat) (p1 : Int32) (p2 : Int32) (p3 : Int32) (p4 : Int32) (p5 : Int32) (M : am_M) : Ct G l y_Md_within X_Md_within [.ref a0, .int p1, .int p2, .int p3, .int p4, .int p5] M (F_Md_within a0 p1 p2 p3 p4 p5 M) := by
  refine Ct.of (by decide +kernel) rfl rfl (Nat.le_of_ble_eq_true rfl) ?_
  unfold F_Md_within
  show Rf G l X_Md_within 0 [.ref a0, .int p1, .int p2, .int p3, .int p4, .int p5, .retAddr 0, .retAddr 0] [] M _
  refine r_aload_n (dt_Md_within.at 0 rfl) rfl ?_
  refine r_iload_n (dt_Md_within.at 1 rfl) rfl ?_
  refine r_cvI (c := 9) (rest := []) (ct_Md_isTick a0 p1 _) (dt_Md_within.at 2 rfl) mb_Md_isTick wd_1526 wd_1528 wp_70 rfl (by decide) rfl rfl (Nat.le_of_ble_eq_true rfl) (fun r2 M1 => ?_)
  refine r_if_eq (tgt := 32) (dt_Md_within.at 3 rfl) (by decide) ?_ ?_
  · refine r_bipush (dt_Md_within.at 16 rfl) (-2) (by decide) ?_
    exact r_iret (dt_Md_within.at 17 rfl) rfl
  · refine r_aload_n (dt_Md_within.at 4 rfl) rfl ?_
    refine r_iload_n (dt_Md_within.at 5 rfl) rfl ?_
    refine r_iload_n (dt_Md_within.at 6 rfl) rfl ?_
    refine r_iload (dt_Md_within.at 7 rfl) rfl ?_
    refine r_cvI (c := 9) (rest := []) (ct_Md_isCell a0 p2 p3 p4 _) (dt_Md_within.at 8 rfl) mb_Md_isCell wd_1654 wd_1656 wp_84 rfl (by decide) rfl rfl (Nat.le_of_ble_eq_true rfl) (fun r4 M3 => ?_)
    refine r_if_eq (tgt := 32) (dt_Md_within.at 9 rfl) (by decide) ?_ ?_
    · refine r_bipush (dt_Md_within.at 16 rfl) (-2) (by decide) ?_
      exact r_iret (dt_Md_within.at 17 rfl) rfl
    · refine r_iload (dt_Md_within.at 10 rfl) rfl ?_
      refine r_i2l (dt_Md_within.at 11 rfl) ?_
      refine r_lconst (dt_Md_within.at 12 rfl) 0 (by decide) ?_
      refine r_ldc2 (dt_Md_within.at 13 rfl) 600 wd_1667 ?_
      refine r_csI (rest := []) (ct_Md_in (p5.toInt64) 0 600 _) (dt_Md_within.at 14 rfl) mb_Md_in wd_1289 wd_1290 (by decide) rfl rfl (Nat.le_of_ble_eq_true rfl) (fun r6 M5 => ?_)
      refine r_if_ne (tgt := 35) (dt_Md_within.at 15 rfl) (by decide) ?_ ?_
      · refine r_bipush (dt_Md_within.at 16 rfl) (-2) (by decide) ?_
        exact r_iret (dt_Md_within.at 17 rfl) rfl
      · refine r_aload_n (dt_Md_within.at 18 rfl) rfl ?_
        refine r_iload_n (dt_Md_within.at 19 rfl) rfl ?_
        refine r_cvV (c := 9) (rest := []) (ct_Md_gathers a0 p1 _) (dt_Md_within.at 20 rfl) mb_Md_gathers wd_1583 wd_1585 wp_73 rfl (by decide) rfl rfl (Nat.le_of_ble_eq_true rfl) (fun M7 => ?_)
        refine r_iconst (dt_Md_within.at 21 rfl) 0 (by decide) ?_
        refine r_istore (ls' := [.ref a0, .int p1, .int p2, .int p3, .int p4, .int p5, .int 0, .retAddr 0]) (dt_Md_within.at 22 rfl) (by decide) rfl ?_
        refine r_iconst (dt_Md_within.at 23 rfl) 0 (by decide) ?_
        refine r_istore (ls' := [.ref a0, .int p1, .int p2, .int p3, .int p4, .int p5, .int 0, .int 0]) (dt_Md_within.at 24 rfl) (by decide) rfl ?_
        exact Rf.msk [true, true, true, true, true, true, true, true] (rf_Md_within_L46 fu a0 p1 p2 p3 p4 p5 0 0 M7)
set_option maxRecDepth 20000 in
set_option maxHeartbeats 2000000 in
theorem ct_Md_placeAt {G : am_G} {l : Launch} (a0 : Nat) (p1 : Int32) (p2 : Int32) (p3 : Int32) (M : am_M) : Ct G l y_Md_placeAt X_Md_placeAt [.ref a0, .int p1, .int p2, .int p3] M (F_Md_placeAt a0 p1 p2 p3 M) := by
  refine Ct.of (by decide +kernel) rfl rfl (Nat.le_of_ble_eq_true rfl) ?_
  unfold F_Md_placeAt
  show Rf G l X_Md_placeAt 0 [.ref a0, .int p1, .int p2, .int p3] [] M _
  refine r_aload_n (dt_Md_placeAt.at 0 rfl) rfl ?_
  refine r_aload_n (dt_Md_placeAt.at 1 rfl) rfl ?_
  refine r_iload_n (dt_Md_placeAt.at 2 rfl) rfl ?_
  refine r_cvI (c := 9) (rest := [.ref a0]) (ct_Md_codeAt a0 p1 _) (dt_Md_placeAt.at 3 rfl) mb_Md_codeAt wd_1603 wd_1605 wp_78 rfl (by decide) rfl rfl (Nat.le_of_ble_eq_true rfl) (fun r2 M1 => ?_)
  refine r_cvV (c := 9) (rest := []) (ct_Md_lays a0 r2 _) (dt_Md_placeAt.at 4 rfl) mb_Md_lays wd_1481 wd_1483 wp_60 rfl (by decide) rfl rfl (Nat.le_of_ble_eq_true rfl) (fun M3 => ?_)
  refine r_aload_n (dt_Md_placeAt.at 5 rfl) rfl ?_
  refine r_iload_n (dt_Md_placeAt.at 6 rfl) rfl ?_
  refine r_iload_n (dt_Md_placeAt.at 7 rfl) rfl ?_
  refine r_aload_n (dt_Md_placeAt.at 8 rfl) rfl ?_
  refine r_fI (dt_Md_placeAt.at 9 rfl) fl_Md_292 rfl (fun x4 => ?_)
  refine r_isub (dt_Md_placeAt.at 10 rfl) ?_
  refine r_cvI (c := 9) (rest := []) (ct_Md_placeBy a0 p3 (p2 - x4) _) (dt_Md_placeAt.at 11 rfl) mb_Md_placeBy wd_1517 wd_1519 wp_69 rfl (by decide) rfl rfl (Nat.le_of_ble_eq_true rfl) (fun r6 M5 => ?_)
  exact r_iret (dt_Md_placeAt.at 12 rfl) rfl
set_option maxRecDepth 20000 in
set_option maxHeartbeats 2000000 in
theorem rf_Md_laysHeaps_L33 {G : am_G} {l : Launch}   : ∀ (n : Nat) (v0 : Nat) (v1 : Int32) (v2 : Int32) (M : am_M), Rf G l X_Md_laysHeaps 33 [.ref v0, .int v1, .int v2] [] M (F_Md_laysHeaps_L33 n v0 v1 v2 M) := by
  intro n
  induction n with
  | zero => intro v0 v1 v2 M; exact Rf.no
  | succ n ih =>
    intro v0 v1 v2 M
    unfold F_Md_laysHeaps_L33
    refine r_iload_n (dt_Md_laysHeaps.at 20 rfl) rfl ?_
    refine r_aload_n (dt_Md_laysHeaps.at 21 rfl) rfl ?_
    refine r_fI (dt_Md_laysHeaps.at 22 rfl) fl_Md_361 rfl (fun x3 => ?_)
    refine r_icmp_ge (tgt := 86) (dt_Md_laysHeaps.at 23 rfl) (by decide) ?_ ?_
    · exact r_vret (dt_Md_laysHeaps.at 54 rfl) rfl
    · refine r_aload_n (dt_Md_laysHeaps.at 24 rfl) rfl ?_
      refine r_fR (dt_Md_laysHeaps.at 25 rfl) fl_Md_65 rfl (fun b4 => ?_)
      refine r_aload_n (dt_Md_laysHeaps.at 26 rfl) rfl ?_
      refine r_iload_n (dt_Md_laysHeaps.at 27 rfl) rfl ?_
      refine r_iload_n (dt_Md_laysHeaps.at 28 rfl) rfl ?_
      refine r_iconst (dt_Md_laysHeaps.at 29 rfl) 2 (by decide) ?_
      refine r_cvI (c := 9) (rest := [.ref b4]) (ct_Md_placeAt v0 v2 v1 2 _) (dt_Md_laysHeaps.at 30 rfl) mb_Md_placeAt wd_1677 wd_1679 wp_87 rfl (by decide) rfl rfl (Nat.le_of_ble_eq_true rfl) (fun r6 M5 => ?_)
      refine r_bipush (dt_Md_laysHeaps.at 31 rfl) 8 (by decide) ?_
      refine r_idivk (dt_Md_laysHeaps.at 32 rfl) (by decide) ?_
      refine r_bipush (dt_Md_laysHeaps.at 33 rfl) 40 (by decide) ?_
      refine r_imul (dt_Md_laysHeaps.at 34 rfl) ?_
      refine r_aload_n (dt_Md_laysHeaps.at 35 rfl) rfl ?_
      refine r_fR (dt_Md_laysHeaps.at 36 rfl) fl_Md_61 rfl (fun b7 => ?_)
      refine r_iload_n (dt_Md_laysHeaps.at 37 rfl) rfl ?_
      refine r_aI (dt_Md_laysHeaps.at 38 rfl) (fun x8 => ?_)
      refine r_iadd (dt_Md_laysHeaps.at 39 rfl) ?_
      refine r_bipush (dt_Md_laysHeaps.at 40 rfl) 40 (by decide) ?_
      refine r_imul (dt_Md_laysHeaps.at 41 rfl) ?_
      refine r_aload_n (dt_Md_laysHeaps.at 42 rfl) rfl ?_
      refine r_fR (dt_Md_laysHeaps.at 43 rfl) fl_Md_58 rfl (fun b9 => ?_)
      refine r_iload_n (dt_Md_laysHeaps.at 44 rfl) rfl ?_
      refine r_aI (dt_Md_laysHeaps.at 45 rfl) (fun x10 => ?_)
      refine r_iadd (dt_Md_laysHeaps.at 46 rfl) ?_
      refine r_dup2 (dt_Md_laysHeaps.at 47 rfl) rfl rfl ?_
      refine r_aI (dt_Md_laysHeaps.at 48 rfl) (fun x11 => ?_)
      refine r_iconst (dt_Md_laysHeaps.at 49 rfl) 1 (by decide) ?_
      refine r_iadd (dt_Md_laysHeaps.at 50 rfl) ?_
      refine r_tI (dt_Md_laysHeaps.at 51 rfl) (fun M12 => ?_)
      refine r_iincn (v := 1) (dt_Md_laysHeaps.at 52 rfl) (by decide) rfl (by decide) (fun y => [.ref v0, .int v1, .int y]) (fun _ => rfl) (fun x13 => ?_)
      refine r_goto (tgt := 33) (dt_Md_laysHeaps.at 53 rfl) (by decide) ?_
      exact Rf.msk [true, true, true] (ih v0 v1 x13 M12)
set_option maxRecDepth 20000 in
set_option maxHeartbeats 2000000 in
theorem rf_Md_laysHeaps_L12 {G : am_G} {l : Launch}   : ∀ (n : Nat) (v0 : Nat) (v1 : Int32) (v2 : Int32) (M : am_M), Rf G l X_Md_laysHeaps 12 [.ref v0, .int v1, .int v2] [] M (F_Md_laysHeaps_L12 n v0 v1 v2 M) := by
  intro n
  induction n with
  | zero => intro v0 v1 v2 M; exact Rf.no
  | succ n ih =>
    intro v0 v1 v2 M
    unfold F_Md_laysHeaps_L12
    refine r_iload_n (dt_Md_laysHeaps.at 8 rfl) rfl ?_
    refine r_ldc (dt_Md_laysHeaps.at 9 rfl) 64000 wd_1149 ?_
    refine r_icmp_ge (tgt := 31) (dt_Md_laysHeaps.at 10 rfl) (by decide) ?_ ?_
    · refine r_iconst (dt_Md_laysHeaps.at 18 rfl) 0 (by decide) ?_
      refine r_istore_n (ls' := [.ref v0, .int v1, .int 0]) (dt_Md_laysHeaps.at 19 rfl) (by decide) rfl ?_
      exact Rf.msk [true, true, true] (rf_Md_laysHeaps_L33 fu v0 v1 0 M)
    · refine r_aload_n (dt_Md_laysHeaps.at 11 rfl) rfl ?_
      refine r_fR (dt_Md_laysHeaps.at 12 rfl) fl_Md_65 rfl (fun b14 => ?_)
      refine r_iload_n (dt_Md_laysHeaps.at 13 rfl) rfl ?_
      refine r_iconst (dt_Md_laysHeaps.at 14 rfl) 0 (by decide) ?_
      refine r_tI (dt_Md_laysHeaps.at 15 rfl) (fun M15 => ?_)
      refine r_iincn (v := 1) (dt_Md_laysHeaps.at 16 rfl) (by decide) rfl (by decide) (fun y => [.ref v0, .int v1, .int y]) (fun _ => rfl) (fun x16 => ?_)
      refine r_goto (tgt := 12) (dt_Md_laysHeaps.at 17 rfl) (by decide) ?_
      exact Rf.msk [true, true, true] (ih v0 v1 x16 M15)
set_option maxRecDepth 20000 in
set_option maxHeartbeats 2000000 in
theorem ct_Md_laysHeaps {G : am_G} {l : Launch} (a0 : Nat) (p1 : Int32) (M : am_M) : Ct G l y_Md_laysHeaps X_Md_laysHeaps [.ref a0, .int p1] M (F_Md_laysHeaps a0 p1 M) := by
  refine Ct.of (by decide +kernel) rfl rfl (Nat.le_of_ble_eq_true rfl) ?_
  unfold F_Md_laysHeaps
  show Rf G l X_Md_laysHeaps 0 [.ref a0, .int p1, .retAddr 0] [] M _
  refine r_aload_n (dt_Md_laysHeaps.at 0 rfl) rfl ?_
  refine r_iload_n (dt_Md_laysHeaps.at 1 rfl) rfl ?_
  refine r_cvV (c := 9) (rest := []) (ct_Md_gathers a0 p1 _) (dt_Md_laysHeaps.at 2 rfl) mb_Md_gathers wd_1583 wd_1585 wp_73 rfl (by decide) rfl rfl (Nat.le_of_ble_eq_true rfl) (fun M1 => ?_)
  refine r_aload_n (dt_Md_laysHeaps.at 3 rfl) rfl ?_
  refine r_iload_n (dt_Md_laysHeaps.at 4 rfl) rfl ?_
  refine r_cvV (c := 9) (rest := []) (ct_Md_laysColumns a0 p1 _) (dt_Md_laysHeaps.at 5 rfl) mb_Md_laysColumns wd_1634 wd_1636 wp_82 rfl (by decide) rfl rfl (Nat.le_of_ble_eq_true rfl) (fun M2 => ?_)
  refine r_iconst (dt_Md_laysHeaps.at 6 rfl) 0 (by decide) ?_
  refine r_istore_n (ls' := [.ref a0, .int p1, .int 0]) (dt_Md_laysHeaps.at 7 rfl) (by decide) rfl ?_
  exact Rf.msk [true, true, true] (rf_Md_laysHeaps_L12 fu a0 p1 0 M2)
set_option maxRecDepth 20000 in
set_option maxHeartbeats 2000000 in
theorem rf_Md_twos_L22 {G : am_G} {l : Launch}   : ∀ (n : Nat) (v0 : Nat) (v2 : Int64) (v4 : Int32) (M : am_M), Rf G l X_Md_twos 22 [.ref v0, .retAddr 0, .long v2, .retAddr 0, .int v4] [] M (F_Md_twos_L22 n v0 v2 v4 M) := by
  intro n
  induction n with
  | zero => intro v0 v2 v4 M; exact Rf.no
  | succ n ih =>
    intro v0 v2 v4 M
    unfold F_Md_twos_L22
    refine r_iload (dt_Md_twos.at 13 rfl) rfl ?_
    refine r_ldc (dt_Md_twos.at 14 rfl) 64000 wd_1149 ?_
    refine r_icmp_ge (tgt := 61) (dt_Md_twos.at 15 rfl) (by decide) ?_ ?_
    · refine r_lload_n (dt_Md_twos.at 36 rfl) rfl ?_
      exact r_lret (dt_Md_twos.at 37 rfl) rfl
    · refine r_lload_n (dt_Md_twos.at 16 rfl) rfl ?_
      refine r_aload_n (dt_Md_twos.at 17 rfl) rfl ?_
      refine r_fR (dt_Md_twos.at 18 rfl) fl_Md_65 rfl (fun b4 => ?_)
      refine r_iload (dt_Md_twos.at 19 rfl) rfl ?_
      refine r_aI (dt_Md_twos.at 20 rfl) (fun x5 => ?_)
      refine r_i2l (dt_Md_twos.at 21 rfl) ?_
      refine r_aload_n (dt_Md_twos.at 22 rfl) rfl ?_
      refine r_fR (dt_Md_twos.at 23 rfl) fl_Md_65 rfl (fun b6 => ?_)
      refine r_iload (dt_Md_twos.at 24 rfl) rfl ?_
      refine r_aI (dt_Md_twos.at 25 rfl) (fun x7 => ?_)
      refine r_iconst (dt_Md_twos.at 26 rfl) 1 (by decide) ?_
      refine r_isub (dt_Md_twos.at 27 rfl) ?_
      refine r_i2l (dt_Md_twos.at 28 rfl) ?_
      refine r_lmul (dt_Md_twos.at 29 rfl) ?_
      refine r_ldc2 (dt_Md_twos.at 30 rfl) 2 wd_1531 ?_
      refine r_ldivk (dt_Md_twos.at 31 rfl) (by decide) ?_
      refine r_ladd (dt_Md_twos.at 32 rfl) ?_
      refine r_nml (fun z8 => ?_)
      refine r_lstore_n (ls' := [.ref v0, .retAddr 0, .long z8, .retAddr 0, .int v4]) (dt_Md_twos.at 33 rfl) (by decide) rfl ?_
      refine r_iincn (v := 1) (dt_Md_twos.at 34 rfl) (by decide) rfl (by decide) (fun y => [.ref v0, .retAddr 0, .long z8, .retAddr 0, .int y]) (fun _ => rfl) (fun x9 => ?_)
      refine r_goto (tgt := 22) (dt_Md_twos.at 35 rfl) (by decide) ?_
      exact Rf.msk [true, false, true, false, true] (ih v0 z8 x9 M)
set_option maxRecDepth 20000 in
set_option maxHeartbeats 2000000 in
theorem ct_Md_twos {G : am_G} {l : Launch} (a0 : Nat) (p1 : Int32) (M : am_M) : Ct G l y_Md_twos X_Md_twos [.ref a0, .int p1] M (F_Md_twos a0 p1 M) := by
  refine Ct.of (by decide +kernel) rfl rfl (Nat.le_of_ble_eq_true rfl) ?_
  unfold F_Md_twos
  show Rf G l X_Md_twos 0 [.ref a0, .int p1, .retAddr 0, .retAddr 0, .retAddr 0] [] M _
  refine r_aload_n (dt_Md_twos.at 0 rfl) rfl ?_
  refine r_iload_n (dt_Md_twos.at 1 rfl) rfl ?_
  refine r_cvI (c := 9) (rest := []) (ct_Md_isTick a0 p1 _) (dt_Md_twos.at 2 rfl) mb_Md_isTick wd_1526 wd_1528 wp_70 rfl (by decide) rfl rfl (Nat.le_of_ble_eq_true rfl) (fun r2 M1 => ?_)
  refine r_if_ne (tgt := 12) (dt_Md_twos.at 3 rfl) (by decide) ?_ ?_
  · refine r_ldc2 (dt_Md_twos.at 4 rfl) (-2) wd_1672 ?_
    exact r_lret (dt_Md_twos.at 5 rfl) rfl
  · refine r_aload_n (dt_Md_twos.at 6 rfl) rfl ?_
    refine r_iload_n (dt_Md_twos.at 7 rfl) rfl ?_
    refine r_cvV (c := 9) (rest := []) (ct_Md_laysHeaps a0 p1 _) (dt_Md_twos.at 8 rfl) mb_Md_laysHeaps wd_1673 wd_1675 wp_86 rfl (by decide) rfl rfl (Nat.le_of_ble_eq_true rfl) (fun M3 => ?_)
    refine r_lconst (dt_Md_twos.at 9 rfl) 0 (by decide) ?_
    refine r_lstore_n (ls' := [.ref a0, .int p1, .long 0, .retAddr 0, .retAddr 0]) (dt_Md_twos.at 10 rfl) (by decide) rfl ?_
    refine r_iconst (dt_Md_twos.at 11 rfl) 0 (by decide) ?_
    refine r_istore (ls' := [.ref a0, .int p1, .long 0, .retAddr 0, .int 0]) (dt_Md_twos.at 12 rfl) (by decide) rfl ?_
    exact Rf.msk [true, false, true, false, true] (rf_Md_twos_L22 fu a0 0 0 M3)
set_option maxRecDepth 20000 in
set_option maxHeartbeats 2000000 in
theorem rf_Md_firstIn_L23 {G : am_G} {l : Launch}   : ∀ (n : Nat) (v0 : Nat) (v1 : Int32) (v2 : Int32) (v3 : Int32) (v4 : Int32) (M : am_M), Rf G l X_Md_firstIn 23 [.ref v0, .int v1, .int v2, .int v3, .int v4] [] M (F_Md_firstIn_L23 n v0 v1 v2 v3 v4 M) := by
  intro n
  induction n with
  | zero => intro v0 v1 v2 v3 v4 M; exact Rf.no
  | succ n ih =>
    intro v0 v1 v2 v3 v4 M
    unfold F_Md_firstIn_L23
    refine r_iload (dt_Md_firstIn.at 13 rfl) rfl ?_
    refine r_iload_n (dt_Md_firstIn.at 14 rfl) rfl ?_
    refine r_bipush (dt_Md_firstIn.at 15 rfl) 100 (by decide) ?_
    refine r_iadd (dt_Md_firstIn.at 16 rfl) ?_
    refine r_icmp_ge (tgt := 60) (dt_Md_firstIn.at 17 rfl) (by decide) ?_ ?_
    · refine r_iconst (dt_Md_firstIn.at 31 rfl) (-1) (by decide) ?_
      exact r_iret (dt_Md_firstIn.at 32 rfl) rfl
    · refine r_iload (dt_Md_firstIn.at 18 rfl) rfl ?_
      refine r_sipush (dt_Md_firstIn.at 19 rfl) 30000 (by decide) ?_
      refine r_icmp_gt (tgt := 60) (dt_Md_firstIn.at 20 rfl) (by decide) ?_ ?_
      · refine r_iconst (dt_Md_firstIn.at 31 rfl) (-1) (by decide) ?_
        exact r_iret (dt_Md_firstIn.at 32 rfl) rfl
      · refine r_aload_n (dt_Md_firstIn.at 21 rfl) rfl ?_
        refine r_iload (dt_Md_firstIn.at 22 rfl) rfl ?_
        refine r_iload_n (dt_Md_firstIn.at 23 rfl) rfl ?_
        refine r_iload_n (dt_Md_firstIn.at 24 rfl) rfl ?_
        refine r_cvI (c := 9) (rest := []) (ct_Md_inColumn v0 v4 v2 v3 _) (dt_Md_firstIn.at 25 rfl) mb_Md_inColumn wd_1685 wd_1627 wd_1628 rfl (by decide) rfl rfl (Nat.le_of_ble_eq_true rfl) (fun r6 M5 => ?_)
        refine r_if_le (tgt := 54) (dt_Md_firstIn.at 26 rfl) (by decide) ?_ ?_
        · refine r_iincn (v := 1) (dt_Md_firstIn.at 29 rfl) (by decide) rfl (by decide) (fun y => [.ref v0, .int v1, .int v2, .int v3, .int y]) (fun _ => rfl) (fun x7 => ?_)
          refine r_goto (tgt := 23) (dt_Md_firstIn.at 30 rfl) (by decide) ?_
          exact Rf.msk [true, true, true, true, true] (ih v0 v1 v2 v3 x7 M5)
        · refine r_iload (dt_Md_firstIn.at 27 rfl) rfl ?_
          exact r_iret (dt_Md_firstIn.at 28 rfl) rfl
set_option maxRecDepth 20000 in
set_option maxHeartbeats 2000000 in
theorem ct_Md_firstIn {G : am_G} {l : Launch} (a0 : Nat) (p1 : Int32) (p2 : Int32) (p3 : Int32) (M : am_M) : Ct G l y_Md_firstIn X_Md_firstIn [.ref a0, .int p1, .int p2, .int p3] M (F_Md_firstIn a0 p1 p2 p3 M) := by
  refine Ct.of (by decide +kernel) rfl rfl (Nat.le_of_ble_eq_true rfl) ?_
  unfold F_Md_firstIn
  show Rf G l X_Md_firstIn 0 [.ref a0, .int p1, .int p2, .int p3, .retAddr 0] [] M _
  refine r_aload_n (dt_Md_firstIn.at 0 rfl) rfl ?_
  refine r_iload_n (dt_Md_firstIn.at 1 rfl) rfl ?_
  refine r_cvI (c := 9) (rest := []) (ct_Md_isTick a0 p1 _) (dt_Md_firstIn.at 2 rfl) mb_Md_isTick wd_1526 wd_1528 wp_70 rfl (by decide) rfl rfl (Nat.le_of_ble_eq_true rfl) (fun r2 M1 => ?_)
  refine r_if_eq (tgt := 17) (dt_Md_firstIn.at 3 rfl) (by decide) ?_ ?_
  · refine r_bipush (dt_Md_firstIn.at 9 rfl) (-2) (by decide) ?_
    exact r_iret (dt_Md_firstIn.at 10 rfl) rfl
  · refine r_aload_n (dt_Md_firstIn.at 4 rfl) rfl ?_
    refine r_iload_n (dt_Md_firstIn.at 5 rfl) rfl ?_
    refine r_iload_n (dt_Md_firstIn.at 6 rfl) rfl ?_
    refine r_cvI (c := 9) (rest := []) (ct_Md_isColumn a0 p2 p3 _) (dt_Md_firstIn.at 7 rfl) mb_Md_isColumn wd_1630 wd_1632 wp_81 rfl (by decide) rfl rfl (Nat.le_of_ble_eq_true rfl) (fun r4 M3 => ?_)
    refine r_if_ne (tgt := 20) (dt_Md_firstIn.at 8 rfl) (by decide) ?_ ?_
    · refine r_bipush (dt_Md_firstIn.at 9 rfl) (-2) (by decide) ?_
      exact r_iret (dt_Md_firstIn.at 10 rfl) rfl
    · refine r_iload_n (dt_Md_firstIn.at 11 rfl) rfl ?_
      refine r_istore (ls' := [.ref a0, .int p1, .int p2, .int p3, .int p1]) (dt_Md_firstIn.at 12 rfl) (by decide) rfl ?_
      exact Rf.msk [true, true, true, true, true] (rf_Md_firstIn_L23 fu a0 p1 p2 p3 p1 M3)
set_option maxRecDepth 20000 in
set_option maxHeartbeats 2000000 in
theorem rf_Md_peak_L68 {G : am_G} {l : Launch}   : ∀ (n : Nat) (v0 : Nat) (v2 : Int32) (v3 : Int32) (v4 : Int32) (v5 : Int32) (v6 : Int32) (M : am_M), Rf G l X_Md_peak 68 [.ref v0, .retAddr 0, .int v2, .int v3, .int v4, .int v5, .int v6] [] M (F_Md_peak_L68 n v0 v2 v3 v4 v5 v6 M) := by
  intro n
  induction n with
  | zero => intro v0 v2 v3 v4 v5 v6 M; exact Rf.no
  | succ n ih =>
    intro v0 v2 v3 v4 v5 v6 M
    unfold F_Md_peak_L68
    refine r_iload (dt_Md_peak.at 38 rfl) rfl ?_
    refine r_iload_n (dt_Md_peak.at 39 rfl) rfl ?_
    refine r_icmp_ge (tgt := 108) (dt_Md_peak.at 40 rfl) (by decide) ?_ ?_
    · refine r_iload_n (dt_Md_peak.at 56 rfl) rfl ?_
      refine r_if_ne (tgt := 117) (dt_Md_peak.at 57 rfl) (by decide) ?_ ?_
      · refine r_iload (dt_Md_peak.at 58 rfl) rfl ?_
        refine r_goto (tgt := 119) (dt_Md_peak.at 59 rfl) (by decide) ?_
        exact r_iret (dt_Md_peak.at 61 rfl) rfl
      · refine r_iload (dt_Md_peak.at 60 rfl) rfl ?_
        exact r_iret (dt_Md_peak.at 61 rfl) rfl
    · refine r_aload_n (dt_Md_peak.at 41 rfl) rfl ?_
      refine r_iload (dt_Md_peak.at 42 rfl) rfl ?_
      refine r_cvV (c := 9) (rest := []) (ct_Md_gathers v0 v6 _) (dt_Md_peak.at 43 rfl) mb_Md_gathers wd_1583 wd_1585 wp_73 rfl (by decide) rfl rfl (Nat.le_of_ble_eq_true rfl) (fun M10 => ?_)
      refine r_aload_n (dt_Md_peak.at 44 rfl) rfl ?_
      refine r_fI (dt_Md_peak.at 45 rfl) fl_Md_361 rfl (fun x11 => ?_)
      refine r_iload (dt_Md_peak.at 46 rfl) rfl ?_
      refine r_icmp_gt (tgt := 92) (dt_Md_peak.at 47 rfl) (by decide) ?_ ?_
      · refine r_aload_n (dt_Md_peak.at 49 rfl) rfl ?_
        refine r_fI (dt_Md_peak.at 50 rfl) fl_Md_361 rfl (fun x12 => ?_)
        refine r_istore (ls' := [.ref v0, .retAddr 0, .int v2, .int v3, .int v4, .int x12, .int v6]) (dt_Md_peak.at 51 rfl) (by decide) rfl ?_
        refine r_iload (dt_Md_peak.at 52 rfl) rfl ?_
        refine r_istore (ls' := [.ref v0, .retAddr 0, .int v2, .int v3, .int v6, .int x12, .int v6]) (dt_Md_peak.at 53 rfl) (by decide) rfl ?_
        refine r_iincn (v := 1) (dt_Md_peak.at 54 rfl) (by decide) rfl (by decide) (fun y => [.ref v0, .retAddr 0, .int v2, .int v3, .int v6, .int x12, .int y]) (fun _ => rfl) (fun x13 => ?_)
        refine r_goto (tgt := 68) (dt_Md_peak.at 55 rfl) (by decide) ?_
        exact Rf.msk [true, false, true, true, true, true, true] (ih v0 v2 v3 v6 x12 x13 M10)
      · refine r_goto (tgt := 102) (dt_Md_peak.at 48 rfl) (by decide) ?_
        refine r_iincn (v := 1) (dt_Md_peak.at 54 rfl) (by decide) rfl (by decide) (fun y => [.ref v0, .retAddr 0, .int v2, .int v3, .int v4, .int v5, .int y]) (fun _ => rfl) (fun x14 => ?_)
        refine r_goto (tgt := 68) (dt_Md_peak.at 55 rfl) (by decide) ?_
        exact Rf.msk [true, false, true, true, true, true, true] (ih v0 v2 v3 v4 v5 x14 M10)
set_option maxRecDepth 20000 in
set_option maxHeartbeats 2000000 in
theorem ct_Md_peak {G : am_G} {l : Launch} (a0 : Nat) (p1 : Int32) (p2 : Int32) (p3 : Int32) (M : am_M) : Ct G l y_Md_peak X_Md_peak [.ref a0, .int p1, .int p2, .int p3] M (F_Md_peak a0 p1 p2 p3 M) := by
  refine Ct.of (by decide +kernel) rfl rfl (Nat.le_of_ble_eq_true rfl) ?_
  unfold F_Md_peak
  show Rf G l X_Md_peak 0 [.ref a0, .int p1, .int p2, .int p3, .retAddr 0, .retAddr 0, .retAddr 0] [] M _
  refine r_aload_n (dt_Md_peak.at 0 rfl) rfl ?_
  refine r_fI (dt_Md_peak.at 1 rfl) fl_Md_219 rfl (fun x1 => ?_)
  refine r_if_eq (tgt := 56) (dt_Md_peak.at 2 rfl) (by decide) ?_ ?_
  · refine r_bipush (dt_Md_peak.at 30 rfl) (-2) (by decide) ?_
    exact r_iret (dt_Md_peak.at 31 rfl) rfl
  · refine r_iload_n (dt_Md_peak.at 3 rfl) rfl ?_
    refine r_i2l (dt_Md_peak.at 4 rfl) ?_
    refine r_lconst (dt_Md_peak.at 5 rfl) 0 (by decide) ?_
    refine r_ldc2 (dt_Md_peak.at 6 rfl) 30001 wd_1690 ?_
    refine r_csI (rest := []) (ct_Md_in (p1.toInt64) 0 30001 _) (dt_Md_peak.at 7 rfl) mb_Md_in wd_1289 wd_1290 (by decide) rfl rfl (Nat.le_of_ble_eq_true rfl) (fun r3 M2 => ?_)
    refine r_if_eq (tgt := 56) (dt_Md_peak.at 8 rfl) (by decide) ?_ ?_
    · refine r_bipush (dt_Md_peak.at 30 rfl) (-2) (by decide) ?_
      exact r_iret (dt_Md_peak.at 31 rfl) rfl
    · refine r_iload_n (dt_Md_peak.at 9 rfl) rfl ?_
      refine r_i2l (dt_Md_peak.at 10 rfl) ?_
      refine r_lconst (dt_Md_peak.at 11 rfl) 0 (by decide) ?_
      refine r_ldc2 (dt_Md_peak.at 12 rfl) 30001 wd_1690 ?_
      refine r_csI (rest := []) (ct_Md_in (p2.toInt64) 0 30001 _) (dt_Md_peak.at 13 rfl) mb_Md_in wd_1289 wd_1290 (by decide) rfl rfl (Nat.le_of_ble_eq_true rfl) (fun r5 M4 => ?_)
      refine r_if_eq (tgt := 56) (dt_Md_peak.at 14 rfl) (by decide) ?_ ?_
      · refine r_bipush (dt_Md_peak.at 30 rfl) (-2) (by decide) ?_
        exact r_iret (dt_Md_peak.at 31 rfl) rfl
      · refine r_iload_n (dt_Md_peak.at 15 rfl) rfl ?_
        refine r_i2l (dt_Md_peak.at 16 rfl) ?_
        refine r_iload_n (dt_Md_peak.at 17 rfl) rfl ?_
        refine r_i2l (dt_Md_peak.at 18 rfl) ?_
        refine r_lsub (dt_Md_peak.at 19 rfl) ?_
        refine r_lconst (dt_Md_peak.at 20 rfl) 1 (by decide) ?_
        refine r_ldc2 (dt_Md_peak.at 21 rfl) 60 wd_1691 ?_
        refine r_csI (rest := []) (ct_Md_in ((p2.toInt64) - (p1.toInt64)) 1 60 _) (dt_Md_peak.at 22 rfl) mb_Md_in wd_1289 wd_1290 (by decide) rfl rfl (Nat.le_of_ble_eq_true rfl) (fun r7 M6 => ?_)
        refine r_if_eq (tgt := 56) (dt_Md_peak.at 23 rfl) (by decide) ?_ ?_
        · refine r_bipush (dt_Md_peak.at 30 rfl) (-2) (by decide) ?_
          exact r_iret (dt_Md_peak.at 31 rfl) rfl
        · refine r_iload_n (dt_Md_peak.at 24 rfl) rfl ?_
          refine r_i2l (dt_Md_peak.at 25 rfl) ?_
          refine r_lconst (dt_Md_peak.at 26 rfl) 0 (by decide) ?_
          refine r_lconst (dt_Md_peak.at 27 rfl) 1 (by decide) ?_
          refine r_csI (rest := []) (ct_Md_in (p3.toInt64) 0 1 _) (dt_Md_peak.at 28 rfl) mb_Md_in wd_1289 wd_1290 (by decide) rfl rfl (Nat.le_of_ble_eq_true rfl) (fun r9 M8 => ?_)
          refine r_if_ne (tgt := 59) (dt_Md_peak.at 29 rfl) (by decide) ?_ ?_
          · refine r_bipush (dt_Md_peak.at 30 rfl) (-2) (by decide) ?_
            exact r_iret (dt_Md_peak.at 31 rfl) rfl
          · refine r_iconst (dt_Md_peak.at 32 rfl) (-1) (by decide) ?_
            refine r_istore (ls' := [.ref a0, .int p1, .int p2, .int p3, .int (-1), .retAddr 0, .retAddr 0]) (dt_Md_peak.at 33 rfl) (by decide) rfl ?_
            refine r_iconst (dt_Md_peak.at 34 rfl) (-1) (by decide) ?_
            refine r_istore (ls' := [.ref a0, .int p1, .int p2, .int p3, .int (-1), .int (-1), .retAddr 0]) (dt_Md_peak.at 35 rfl) (by decide) rfl ?_
            refine r_iload_n (dt_Md_peak.at 36 rfl) rfl ?_
            refine r_istore (ls' := [.ref a0, .int p1, .int p2, .int p3, .int (-1), .int (-1), .int p1]) (dt_Md_peak.at 37 rfl) (by decide) rfl ?_
            exact Rf.msk [true, false, true, true, true, true, true] (rf_Md_peak_L68 fu a0 p2 p3 (-1) (-1) p1 M8)
set_option maxRecDepth 20000 in
set_option maxHeartbeats 2000000 in
theorem rf_Md_box_L33 {G : am_G} {l : Launch}   : ∀ (n : Nat) (v0 : Nat) (v1 : Int32) (v2 : Int32) (v3 : Int32) (v4 : Int32) (M : am_M), Rf G l X_Md_box 33 [.ref v0, .int v1, .int v2, .int v3, .int v4, .retAddr 0] [] M (F_Md_box_L33 n v0 v1 v2 v3 v4 M) := by
  intro n
  induction n with
  | zero => intro v0 v1 v2 v3 v4 M; exact Rf.no
  | succ n ih =>
    intro v0 v1 v2 v3 v4 M
    unfold F_Md_box_L33
    refine r_iload (dt_Md_box.at 19 rfl) rfl ?_
    refine r_aload_n (dt_Md_box.at 20 rfl) rfl ?_
    refine r_fI (dt_Md_box.at 21 rfl) fl_Md_361 rfl (fun x6 => ?_)
    refine r_icmp_ge (tgt := 94) (dt_Md_box.at 22 rfl) (by decide) ?_ ?_
    · refine r_iload_n (dt_Md_box.at 51 rfl) rfl ?_
      exact r_iret (dt_Md_box.at 52 rfl) rfl
    · refine r_aload_n (dt_Md_box.at 23 rfl) rfl ?_
      refine r_iload (dt_Md_box.at 24 rfl) rfl ?_
      refine r_iload_n (dt_Md_box.at 25 rfl) rfl ?_
      refine r_iload_n (dt_Md_box.at 26 rfl) rfl ?_
      refine r_iconst (dt_Md_box.at 27 rfl) 3 (by decide) ?_
      refine r_iremk (dt_Md_box.at 28 rfl) (by decide) ?_
      refine r_cvI (c := 9) (rest := []) (ct_Md_placeAt v0 v4 v1 (v2 - v2 / 3 * 3) _) (dt_Md_box.at 29 rfl) mb_Md_placeAt wd_1677 wd_1679 wp_87 rfl (by decide) rfl rfl (Nat.le_of_ble_eq_true rfl) (fun r8 M7 => ?_)
      refine r_bipush (dt_Md_box.at 30 rfl) 8 (by decide) ?_
      refine r_idivk (dt_Md_box.at 31 rfl) (by decide) ?_
      refine r_nmi (fun x9 => ?_)
      refine r_istore (ls' := [.ref v0, .int v1, .int v2, .int v3, .int v4, .int x9]) (dt_Md_box.at 32 rfl) (by decide) rfl ?_
      refine r_iload_n (dt_Md_box.at 33 rfl) rfl ?_
      refine r_iconst (dt_Md_box.at 34 rfl) (-1) (by decide) ?_
      refine r_icmp_ne (tgt := 67) (dt_Md_box.at 35 rfl) (by decide) ?_ ?_
      · refine r_iload (dt_Md_box.at 36 rfl) rfl ?_
        refine r_goto (tgt := 87) (dt_Md_box.at 37 rfl) (by decide) ?_
        refine r_istore_n (ls' := [.ref v0, .int v1, .int v2, .int x9, .int v4, .int x9]) (dt_Md_box.at 48 rfl) (by decide) rfl ?_
        refine r_iincn (v := 1) (dt_Md_box.at 49 rfl) (by decide) rfl (by decide) (fun y => [.ref v0, .int v1, .int v2, .int x9, .int y, .int x9]) (fun _ => rfl) (fun x10 => ?_)
        refine r_goto (tgt := 33) (dt_Md_box.at 50 rfl) (by decide) ?_
        exact Rf.msk [true, true, true, true, true, false] (ih v0 v1 v2 x9 x10 M7)
      · refine r_iload_n (dt_Md_box.at 38 rfl) rfl ?_
        refine r_iconst (dt_Md_box.at 39 rfl) 3 (by decide) ?_
        refine r_icmp_ge (tgt := 81) (dt_Md_box.at 40 rfl) (by decide) ?_ ?_
        · refine r_iload_n (dt_Md_box.at 45 rfl) rfl ?_
          refine r_iload (dt_Md_box.at 46 rfl) rfl ?_
          refine r_csI (rest := []) (ct_Math_max v3 x9 _) (dt_Md_box.at 47 rfl) mb_Math_max wd_1536 wd_655 (by decide) rfl rfl (Nat.le_of_ble_eq_true rfl) (fun r12 M11 => ?_)
          refine r_istore_n (ls' := [.ref v0, .int v1, .int v2, .int r12, .int v4, .int x9]) (dt_Md_box.at 48 rfl) (by decide) rfl ?_
          refine r_iincn (v := 1) (dt_Md_box.at 49 rfl) (by decide) rfl (by decide) (fun y => [.ref v0, .int v1, .int v2, .int r12, .int y, .int x9]) (fun _ => rfl) (fun x13 => ?_)
          refine r_goto (tgt := 33) (dt_Md_box.at 50 rfl) (by decide) ?_
          exact Rf.msk [true, true, true, true, true, false] (ih v0 v1 v2 r12 x13 M11)
        · refine r_iload_n (dt_Md_box.at 41 rfl) rfl ?_
          refine r_iload (dt_Md_box.at 42 rfl) rfl ?_
          refine r_csI (rest := []) (ct_Math_min v3 x9 _) (dt_Md_box.at 43 rfl) mb_Math_min wd_1309 wd_334 (by decide) rfl rfl (Nat.le_of_ble_eq_true rfl) (fun r15 M14 => ?_)
          refine r_goto (tgt := 87) (dt_Md_box.at 44 rfl) (by decide) ?_
          refine r_istore_n (ls' := [.ref v0, .int v1, .int v2, .int r15, .int v4, .int x9]) (dt_Md_box.at 48 rfl) (by decide) rfl ?_
          refine r_iincn (v := 1) (dt_Md_box.at 49 rfl) (by decide) rfl (by decide) (fun y => [.ref v0, .int v1, .int v2, .int r15, .int y, .int x9]) (fun _ => rfl) (fun x16 => ?_)
          refine r_goto (tgt := 33) (dt_Md_box.at 50 rfl) (by decide) ?_
          exact Rf.msk [true, true, true, true, true, false] (ih v0 v1 v2 r15 x16 M14)
set_option maxRecDepth 20000 in
set_option maxHeartbeats 2000000 in
theorem ct_Md_box {G : am_G} {l : Launch} (a0 : Nat) (p1 : Int32) (p2 : Int32) (M : am_M) : Ct G l y_Md_box X_Md_box [.ref a0, .int p1, .int p2] M (F_Md_box a0 p1 p2 M) := by
  refine Ct.of (by decide +kernel) rfl rfl (Nat.le_of_ble_eq_true rfl) ?_
  unfold F_Md_box
  show Rf G l X_Md_box 0 [.ref a0, .int p1, .int p2, .retAddr 0, .retAddr 0, .retAddr 0] [] M _
  refine r_aload_n (dt_Md_box.at 0 rfl) rfl ?_
  refine r_iload_n (dt_Md_box.at 1 rfl) rfl ?_
  refine r_cvI (c := 9) (rest := []) (ct_Md_isTick a0 p1 _) (dt_Md_box.at 2 rfl) mb_Md_isTick wd_1526 wd_1528 wp_70 rfl (by decide) rfl rfl (Nat.le_of_ble_eq_true rfl) (fun r2 M1 => ?_)
  refine r_if_eq (tgt := 20) (dt_Md_box.at 3 rfl) (by decide) ?_ ?_
  · refine r_bipush (dt_Md_box.at 10 rfl) (-2) (by decide) ?_
    exact r_iret (dt_Md_box.at 11 rfl) rfl
  · refine r_iload_n (dt_Md_box.at 4 rfl) rfl ?_
    refine r_i2l (dt_Md_box.at 5 rfl) ?_
    refine r_lconst (dt_Md_box.at 6 rfl) 0 (by decide) ?_
    refine r_ldc2 (dt_Md_box.at 7 rfl) 5 wd_1696 ?_
    refine r_csI (rest := []) (ct_Md_in (p2.toInt64) 0 5 _) (dt_Md_box.at 8 rfl) mb_Md_in wd_1289 wd_1290 (by decide) rfl rfl (Nat.le_of_ble_eq_true rfl) (fun r4 M3 => ?_)
    refine r_if_ne (tgt := 23) (dt_Md_box.at 9 rfl) (by decide) ?_ ?_
    · refine r_bipush (dt_Md_box.at 10 rfl) (-2) (by decide) ?_
      exact r_iret (dt_Md_box.at 11 rfl) rfl
    · refine r_aload_n (dt_Md_box.at 12 rfl) rfl ?_
      refine r_iload_n (dt_Md_box.at 13 rfl) rfl ?_
      refine r_cvV (c := 9) (rest := []) (ct_Md_gathers a0 p1 _) (dt_Md_box.at 14 rfl) mb_Md_gathers wd_1583 wd_1585 wp_73 rfl (by decide) rfl rfl (Nat.le_of_ble_eq_true rfl) (fun M5 => ?_)
      refine r_iconst (dt_Md_box.at 15 rfl) (-1) (by decide) ?_
      refine r_istore_n (ls' := [.ref a0, .int p1, .int p2, .int (-1), .retAddr 0, .retAddr 0]) (dt_Md_box.at 16 rfl) (by decide) rfl ?_
      refine r_iconst (dt_Md_box.at 17 rfl) 0 (by decide) ?_
      refine r_istore (ls' := [.ref a0, .int p1, .int p2, .int (-1), .int 0, .retAddr 0]) (dt_Md_box.at 18 rfl) (by decide) rfl ?_
      exact Rf.msk [true, true, true, true, true, false] (rf_Md_box_L33 fu a0 p1 p2 (-1) 0 M5)
set_option maxRecDepth 20000 in
set_option maxHeartbeats 2000000 in
theorem rf_Md_middle_L33 {G : am_G} {l : Launch}   : ∀ (n : Nat) (v0 : Nat) (v1 : Int32) (v2 : Int32) (v3 : Int64) (v5 : Int32) (M : am_M), Rf G l X_Md_middle 33 [.ref v0, .int v1, .int v2, .long v3, .retAddr 0, .int v5] [] M (F_Md_middle_L33 n v0 v1 v2 v3 v5 M) := by
  intro n
  induction n with
  | zero => intro v0 v1 v2 v3 v5 M; exact Rf.no
  | succ n ih =>
    intro v0 v1 v2 v3 v5 M
    unfold F_Md_middle_L33
    refine r_iload (dt_Md_middle.at 19 rfl) rfl ?_
    refine r_aload_n (dt_Md_middle.at 20 rfl) rfl ?_
    refine r_fI (dt_Md_middle.at 21 rfl) fl_Md_361 rfl (fun x6 => ?_)
    refine r_icmp_ge (tgt := 60) (dt_Md_middle.at 22 rfl) (by decide) ?_ ?_
    · refine r_aload_n (dt_Md_middle.at 34 rfl) rfl ?_
      refine r_fI (dt_Md_middle.at 35 rfl) fl_Md_361 rfl (fun x7 => ?_)
      refine r_if_ne (tgt := 71) (dt_Md_middle.at 36 rfl) (by decide) ?_ ?_
      · refine r_iconst (dt_Md_middle.at 37 rfl) (-1) (by decide) ?_
        refine r_goto (tgt := 79) (dt_Md_middle.at 38 rfl) (by decide) ?_
        exact r_iret (dt_Md_middle.at 45 rfl) rfl
      · refine r_lload_n (dt_Md_middle.at 39 rfl) rfl ?_
        refine r_aload_n (dt_Md_middle.at 40 rfl) rfl ?_
        refine r_fI (dt_Md_middle.at 41 rfl) fl_Md_361 rfl (fun x8 => ?_)
        refine r_i2l (dt_Md_middle.at 42 rfl) ?_
        refine r_ldiv (dt_Md_middle.at 43 rfl) ?_
        refine r_l2i (dt_Md_middle.at 44 rfl) ?_
        exact r_iret (dt_Md_middle.at 45 rfl) rfl
    · refine r_lload_n (dt_Md_middle.at 23 rfl) rfl ?_
      refine r_aload_n (dt_Md_middle.at 24 rfl) rfl ?_
      refine r_iload (dt_Md_middle.at 25 rfl) rfl ?_
      refine r_iload_n (dt_Md_middle.at 26 rfl) rfl ?_
      refine r_iload_n (dt_Md_middle.at 27 rfl) rfl ?_
      refine r_cvI (c := 9) (rest := [.long v3]) (ct_Md_placeAt v0 v5 v1 v2 _) (dt_Md_middle.at 28 rfl) mb_Md_placeAt wd_1677 wd_1679 wp_87 rfl (by decide) rfl rfl (Nat.le_of_ble_eq_true rfl) (fun r10 M9 => ?_)
      refine r_i2l (dt_Md_middle.at 29 rfl) ?_
      refine r_ladd (dt_Md_middle.at 30 rfl) ?_
      refine r_nml (fun z11 => ?_)
      refine r_lstore_n (ls' := [.ref v0, .int v1, .int v2, .long z11, .retAddr 0, .int v5]) (dt_Md_middle.at 31 rfl) (by decide) rfl ?_
      refine r_iincn (v := 1) (dt_Md_middle.at 32 rfl) (by decide) rfl (by decide) (fun y => [.ref v0, .int v1, .int v2, .long z11, .retAddr 0, .int y]) (fun _ => rfl) (fun x12 => ?_)
      refine r_goto (tgt := 33) (dt_Md_middle.at 33 rfl) (by decide) ?_
      exact Rf.msk [true, true, true, true, false, true] (ih v0 v1 v2 z11 x12 M9)
set_option maxRecDepth 20000 in
set_option maxHeartbeats 2000000 in
theorem ct_Md_middle {G : am_G} {l : Launch} (a0 : Nat) (p1 : Int32) (p2 : Int32) (M : am_M) : Ct G l y_Md_middle X_Md_middle [.ref a0, .int p1, .int p2] M (F_Md_middle a0 p1 p2 M) := by
  refine Ct.of (by decide +kernel) rfl rfl (Nat.le_of_ble_eq_true rfl) ?_
  unfold F_Md_middle
  show Rf G l X_Md_middle 0 [.ref a0, .int p1, .int p2, .retAddr 0, .retAddr 0, .retAddr 0] [] M _
  refine r_aload_n (dt_Md_middle.at 0 rfl) rfl ?_
  refine r_iload_n (dt_Md_middle.at 1 rfl) rfl ?_
  refine r_cvI (c := 9) (rest := []) (ct_Md_isTick a0 p1 _) (dt_Md_middle.at 2 rfl) mb_Md_isTick wd_1526 wd_1528 wp_70 rfl (by decide) rfl rfl (Nat.le_of_ble_eq_true rfl) (fun r2 M1 => ?_)
  refine r_if_eq (tgt := 20) (dt_Md_middle.at 3 rfl) (by decide) ?_ ?_
  · refine r_bipush (dt_Md_middle.at 10 rfl) (-2) (by decide) ?_
    exact r_iret (dt_Md_middle.at 11 rfl) rfl
  · refine r_iload_n (dt_Md_middle.at 4 rfl) rfl ?_
    refine r_i2l (dt_Md_middle.at 5 rfl) ?_
    refine r_lconst (dt_Md_middle.at 6 rfl) 0 (by decide) ?_
    refine r_ldc2 (dt_Md_middle.at 7 rfl) 2 wd_1531 ?_
    refine r_csI (rest := []) (ct_Md_in (p2.toInt64) 0 2 _) (dt_Md_middle.at 8 rfl) mb_Md_in wd_1289 wd_1290 (by decide) rfl rfl (Nat.le_of_ble_eq_true rfl) (fun r4 M3 => ?_)
    refine r_if_ne (tgt := 23) (dt_Md_middle.at 9 rfl) (by decide) ?_ ?_
    · refine r_bipush (dt_Md_middle.at 10 rfl) (-2) (by decide) ?_
      exact r_iret (dt_Md_middle.at 11 rfl) rfl
    · refine r_aload_n (dt_Md_middle.at 12 rfl) rfl ?_
      refine r_iload_n (dt_Md_middle.at 13 rfl) rfl ?_
      refine r_cvV (c := 9) (rest := []) (ct_Md_gathers a0 p1 _) (dt_Md_middle.at 14 rfl) mb_Md_gathers wd_1583 wd_1585 wp_73 rfl (by decide) rfl rfl (Nat.le_of_ble_eq_true rfl) (fun M5 => ?_)
      refine r_lconst (dt_Md_middle.at 15 rfl) 0 (by decide) ?_
      refine r_lstore_n (ls' := [.ref a0, .int p1, .int p2, .long 0, .retAddr 0, .retAddr 0]) (dt_Md_middle.at 16 rfl) (by decide) rfl ?_
      refine r_iconst (dt_Md_middle.at 17 rfl) 0 (by decide) ?_
      refine r_istore (ls' := [.ref a0, .int p1, .int p2, .long 0, .retAddr 0, .int 0]) (dt_Md_middle.at 18 rfl) (by decide) rfl ?_
      exact Rf.msk [true, true, true, true, false, true] (rf_Md_middle_L33 fu a0 p1 p2 0 0 M5)
set_option maxRecDepth 20000 in
set_option maxHeartbeats 2000000 in
theorem rf_Md_both_L29 {G : am_G} {l : Launch}   : ∀ (n : Nat) (v0 : Nat) (v2 : Int32) (v3 : Int32) (v4 : Int32) (M : am_M), Rf G l X_Md_both 29 [.ref v0, .retAddr 0, .int v2, .int v3, .int v4] [] M (F_Md_both_L29 n v0 v2 v3 v4 M) := by
  intro n
  induction n with
  | zero => intro v0 v2 v3 v4 M; exact Rf.no
  | succ n ih =>
    intro v0 v2 v3 v4 M
    unfold F_Md_both_L29
    refine r_iload (dt_Md_both.at 17 rfl) rfl ?_
    refine r_aload_n (dt_Md_both.at 18 rfl) rfl ?_
    refine r_fI (dt_Md_both.at 19 rfl) fl_Md_361 rfl (fun x6 => ?_)
    refine r_icmp_ge (tgt := 78) (dt_Md_both.at 20 rfl) (by decide) ?_ ?_
    · refine r_iload_n (dt_Md_both.at 42 rfl) rfl ?_
      exact r_iret (dt_Md_both.at 43 rfl) rfl
    · refine r_aload_n (dt_Md_both.at 21 rfl) rfl ?_
      refine r_aload_n (dt_Md_both.at 22 rfl) rfl ?_
      refine r_iload (dt_Md_both.at 23 rfl) rfl ?_
      refine r_cvI (c := 9) (rest := [.ref v0]) (ct_Md_codeAt v0 v4 _) (dt_Md_both.at 24 rfl) mb_Md_codeAt wd_1603 wd_1605 wp_78 rfl (by decide) rfl rfl (Nat.le_of_ble_eq_true rfl) (fun r8 M7 => ?_)
      refine r_cvV (c := 9) (rest := []) (ct_Md_lays v0 r8 _) (dt_Md_both.at 25 rfl) mb_Md_lays wd_1481 wd_1483 wp_60 rfl (by decide) rfl rfl (Nat.le_of_ble_eq_true rfl) (fun M9 => ?_)
      refine r_iload_n (dt_Md_both.at 26 rfl) rfl ?_
      refine r_iload_n (dt_Md_both.at 27 rfl) rfl ?_
      refine r_aload_n (dt_Md_both.at 28 rfl) rfl ?_
      refine r_fI (dt_Md_both.at 29 rfl) fl_Md_292 rfl (fun x10 => ?_)
      refine r_icmp_lt (tgt := 69) (dt_Md_both.at 30 rfl) (by decide) ?_ ?_
      · refine r_iconst (dt_Md_both.at 37 rfl) 0 (by decide) ?_
        refine r_iadd (dt_Md_both.at 38 rfl) ?_
        refine r_nmi (fun x11 => ?_)
        refine r_istore_n (ls' := [.ref v0, .retAddr 0, .int v2, .int x11, .int v4]) (dt_Md_both.at 39 rfl) (by decide) rfl ?_
        refine r_iincn (v := 1) (dt_Md_both.at 40 rfl) (by decide) rfl (by decide) (fun y => [.ref v0, .retAddr 0, .int v2, .int x11, .int y]) (fun _ => rfl) (fun x12 => ?_)
        refine r_goto (tgt := 29) (dt_Md_both.at 41 rfl) (by decide) ?_
        exact Rf.msk [true, false, true, true, true] (ih v0 v2 x11 x12 M9)
      · refine r_iload_n (dt_Md_both.at 31 rfl) rfl ?_
        refine r_aload_n (dt_Md_both.at 32 rfl) rfl ?_
        refine r_fI (dt_Md_both.at 33 rfl) fl_Md_303 rfl (fun x13 => ?_)
        refine r_icmp_ge (tgt := 69) (dt_Md_both.at 34 rfl) (by decide) ?_ ?_
        · refine r_iconst (dt_Md_both.at 37 rfl) 0 (by decide) ?_
          refine r_iadd (dt_Md_both.at 38 rfl) ?_
          refine r_nmi (fun x14 => ?_)
          refine r_istore_n (ls' := [.ref v0, .retAddr 0, .int v2, .int x14, .int v4]) (dt_Md_both.at 39 rfl) (by decide) rfl ?_
          refine r_iincn (v := 1) (dt_Md_both.at 40 rfl) (by decide) rfl (by decide) (fun y => [.ref v0, .retAddr 0, .int v2, .int x14, .int y]) (fun _ => rfl) (fun x15 => ?_)
          refine r_goto (tgt := 29) (dt_Md_both.at 41 rfl) (by decide) ?_
          exact Rf.msk [true, false, true, true, true] (ih v0 v2 x14 x15 M9)
        · refine r_iconst (dt_Md_both.at 35 rfl) 1 (by decide) ?_
          refine r_goto (tgt := 70) (dt_Md_both.at 36 rfl) (by decide) ?_
          refine r_iadd (dt_Md_both.at 38 rfl) ?_
          refine r_nmi (fun x16 => ?_)
          refine r_istore_n (ls' := [.ref v0, .retAddr 0, .int v2, .int x16, .int v4]) (dt_Md_both.at 39 rfl) (by decide) rfl ?_
          refine r_iincn (v := 1) (dt_Md_both.at 40 rfl) (by decide) rfl (by decide) (fun y => [.ref v0, .retAddr 0, .int v2, .int x16, .int y]) (fun _ => rfl) (fun x17 => ?_)
          refine r_goto (tgt := 29) (dt_Md_both.at 41 rfl) (by decide) ?_
          exact Rf.msk [true, false, true, true, true] (ih v0 v2 x16 x17 M9)
set_option maxRecDepth 20000 in
set_option maxHeartbeats 2000000 in
theorem ct_Md_both {G : am_G} {l : Launch} (a0 : Nat) (p1 : Int32) (p2 : Int32) (M : am_M) : Ct G l y_Md_both X_Md_both [.ref a0, .int p1, .int p2] M (F_Md_both a0 p1 p2 M) := by
  refine Ct.of (by decide +kernel) rfl rfl (Nat.le_of_ble_eq_true rfl) ?_
  unfold F_Md_both
  show Rf G l X_Md_both 0 [.ref a0, .int p1, .int p2, .retAddr 0, .retAddr 0] [] M _
  refine r_aload_n (dt_Md_both.at 0 rfl) rfl ?_
  refine r_iload_n (dt_Md_both.at 1 rfl) rfl ?_
  refine r_cvI (c := 9) (rest := []) (ct_Md_isTick a0 p1 _) (dt_Md_both.at 2 rfl) mb_Md_isTick wd_1526 wd_1528 wp_70 rfl (by decide) rfl rfl (Nat.le_of_ble_eq_true rfl) (fun r2 M1 => ?_)
  refine r_if_eq (tgt := 16) (dt_Md_both.at 3 rfl) (by decide) ?_ ?_
  · refine r_bipush (dt_Md_both.at 8 rfl) (-2) (by decide) ?_
    exact r_iret (dt_Md_both.at 9 rfl) rfl
  · refine r_aload_n (dt_Md_both.at 4 rfl) rfl ?_
    refine r_iload_n (dt_Md_both.at 5 rfl) rfl ?_
    refine r_cvI (c := 9) (rest := []) (ct_Md_isTick a0 p2 _) (dt_Md_both.at 6 rfl) mb_Md_isTick wd_1526 wd_1528 wp_70 rfl (by decide) rfl rfl (Nat.le_of_ble_eq_true rfl) (fun r4 M3 => ?_)
    refine r_if_ne (tgt := 19) (dt_Md_both.at 7 rfl) (by decide) ?_ ?_
    · refine r_bipush (dt_Md_both.at 8 rfl) (-2) (by decide) ?_
      exact r_iret (dt_Md_both.at 9 rfl) rfl
    · refine r_aload_n (dt_Md_both.at 10 rfl) rfl ?_
      refine r_iload_n (dt_Md_both.at 11 rfl) rfl ?_
      refine r_cvV (c := 9) (rest := []) (ct_Md_gathers a0 p1 _) (dt_Md_both.at 12 rfl) mb_Md_gathers wd_1583 wd_1585 wp_73 rfl (by decide) rfl rfl (Nat.le_of_ble_eq_true rfl) (fun M5 => ?_)
      refine r_iconst (dt_Md_both.at 13 rfl) 0 (by decide) ?_
      refine r_istore_n (ls' := [.ref a0, .int p1, .int p2, .int 0, .retAddr 0]) (dt_Md_both.at 14 rfl) (by decide) rfl ?_
      refine r_iconst (dt_Md_both.at 15 rfl) 0 (by decide) ?_
      refine r_istore (ls' := [.ref a0, .int p1, .int p2, .int 0, .int 0]) (dt_Md_both.at 16 rfl) (by decide) rfl ?_
      exact Rf.msk [true, false, true, true, true] (rf_Md_both_L29 fu a0 p2 0 0 M5)
set_option maxRecDepth 20000 in
set_option maxHeartbeats 2000000 in
theorem rf_Md_ofAge_L136 {G : am_G} {l : Launch} (k55 : Nat → Int32 → Int32 → Int32 → Int32 → Int32 → Int32 → Int32 → Int32 → am_M → am_R) (hk55 : ∀ v0 v1 v2 v3 v4 v5 v6 v7 v8 M, Rf G l X_Md_ofAge 55 [.ref v0, .int v1, .int v2, .int v3, .int v4, .int v5, .int v6, .int v7, .int v8, .retAddr 0] [] M (k55 v0 v1 v2 v3 v4 v5 v6 v7 v8 M)) (v0 : Nat) (v1 : Int32) (v2 : Int32) (v3 : Int32) (v4 : Int32) (v5 : Int32) (v8 : Int32) (v9 : Int32) (M : am_M) : Rf G l X_Md_ofAge 136 [.ref v0, .int v1, .int v2, .int v3, .int v4, .int v5, .retAddr 0, .retAddr 0, .int v8, .int v9] [] M (F_Md_ofAge_L136 k55 v0 v1 v2 v3 v4 v5 v8 v9 M) := by
  unfold F_Md_ofAge_L136
  refine r_iload_n (dt_Md_ofAge.at 71 rfl) rfl ?_
  refine r_aload_n (dt_Md_ofAge.at 72 rfl) rfl ?_
  refine r_fI (dt_Md_ofAge.at 73 rfl) fl_Md_292 rfl (fun x20 => ?_)
  refine r_isub (dt_Md_ofAge.at 74 rfl) ?_
  refine r_nmi (fun x21 => ?_)
  refine r_istore (ls' := [.ref v0, .int v1, .int v2, .int v3, .int v4, .int v5, .retAddr 0, .int x21, .int v8, .int v9]) (dt_Md_ofAge.at 75 rfl) (by decide) rfl ?_
  refine r_iload (dt_Md_ofAge.at 76 rfl) rfl ?_
  refine r_istore (ls' := [.ref v0, .int v1, .int v2, .int v3, .int v4, .int v5, .int v9, .int x21, .int v8, .int v9]) (dt_Md_ofAge.at 77 rfl) (by decide) rfl ?_
  refine r_iincn (v := 1) (dt_Md_ofAge.at 78 rfl) (by decide) rfl (by decide) (fun y => [.ref v0, .int v1, .int v2, .int v3, .int v4, .int v5, .int v9, .int x21, .int y, .int v9]) (fun _ => rfl) (fun x22 => ?_)
  refine r_goto (tgt := 55) (dt_Md_ofAge.at 79 rfl) (by decide) ?_
  exact Rf.msk [true, true, true, true, true, true, true, true, true, false] (hk55 v0 v1 v2 v3 v4 v5 v9 x21 x22 M)
set_option maxRecDepth 20000 in
set_option maxHeartbeats 2000000 in
theorem rf_Md_ofAge_L55 {G : am_G} {l : Launch}   : ∀ (n : Nat) (v0 : Nat) (v1 : Int32) (v2 : Int32) (v3 : Int32) (v4 : Int32) (v5 : Int32) (v6 : Int32) (v7 : Int32) (v8 : Int32) (M : am_M), Rf G l X_Md_ofAge 55 [.ref v0, .int v1, .int v2, .int v3, .int v4, .int v5, .int v6, .int v7, .int v8, .retAddr 0] [] M (F_Md_ofAge_L55 n v0 v1 v2 v3 v4 v5 v6 v7 v8 M) := by
  intro n
  induction n with
  | zero => intro v0 v1 v2 v3 v4 v5 v6 v7 v8 M; exact Rf.no
  | succ n ih =>
    intro v0 v1 v2 v3 v4 v5 v6 v7 v8 M
    unfold F_Md_ofAge_L55
    refine r_iload (dt_Md_ofAge.at 31 rfl) rfl ?_
    refine r_aload_n (dt_Md_ofAge.at 32 rfl) rfl ?_
    refine r_fI (dt_Md_ofAge.at 33 rfl) fl_Md_361 rfl (fun x8 => ?_)
    refine r_icmp_ge (tgt := 154) (dt_Md_ofAge.at 34 rfl) (by decide) ?_ ?_
    · refine r_iload_n (dt_Md_ofAge.at 80 rfl) rfl ?_
      refine r_if_ne (tgt := 163) (dt_Md_ofAge.at 81 rfl) (by decide) ?_ ?_
      · refine r_iload (dt_Md_ofAge.at 82 rfl) rfl ?_
        refine r_goto (tgt := 175) (dt_Md_ofAge.at 83 rfl) (by decide) ?_
        exact r_iret (dt_Md_ofAge.at 90 rfl) rfl
      · refine r_iload_n (dt_Md_ofAge.at 84 rfl) rfl ?_
        refine r_iconst (dt_Md_ofAge.at 85 rfl) 1 (by decide) ?_
        refine r_icmp_ne (tgt := 173) (dt_Md_ofAge.at 86 rfl) (by decide) ?_ ?_
        · refine r_iload (dt_Md_ofAge.at 87 rfl) rfl ?_
          refine r_goto (tgt := 175) (dt_Md_ofAge.at 88 rfl) (by decide) ?_
          exact r_iret (dt_Md_ofAge.at 90 rfl) rfl
        · refine r_iload (dt_Md_ofAge.at 89 rfl) rfl ?_
          exact r_iret (dt_Md_ofAge.at 90 rfl) rfl
    · refine r_aload_n (dt_Md_ofAge.at 35 rfl) rfl ?_
      refine r_iload (dt_Md_ofAge.at 36 rfl) rfl ?_
      refine r_cvI (c := 9) (rest := []) (ct_Md_codeAt v0 v8 _) (dt_Md_ofAge.at 37 rfl) mb_Md_codeAt wd_1603 wd_1605 wp_78 rfl (by decide) rfl rfl (Nat.le_of_ble_eq_true rfl) (fun r10 M9 => ?_)
      refine r_istore (ls' := [.ref v0, .int v1, .int v2, .int v3, .int v4, .int v5, .int v6, .int v7, .int v8, .int r10]) (dt_Md_ofAge.at 38 rfl) (by decide) rfl ?_
      refine r_iload (dt_Md_ofAge.at 39 rfl) rfl ?_
      refine r_csI (rest := []) (ct_Md_generation r10 _) (dt_Md_ofAge.at 40 rfl) mb_Md_generation wd_1463 wd_1464 (by decide) rfl rfl (Nat.le_of_ble_eq_true rfl) (fun r12 M11 => ?_)
      refine r_iload_n (dt_Md_ofAge.at 41 rfl) rfl ?_
      refine r_icmp_eq (tgt := 84) (dt_Md_ofAge.at 42 rfl) (by decide) ?_ ?_
      · refine r_aload_n (dt_Md_ofAge.at 44 rfl) rfl ?_
        refine r_iload (dt_Md_ofAge.at 45 rfl) rfl ?_
        refine r_cvV (c := 9) (rest := []) (ct_Md_lays v0 r10 _) (dt_Md_ofAge.at 46 rfl) mb_Md_lays wd_1481 wd_1483 wp_60 rfl (by decide) rfl rfl (Nat.le_of_ble_eq_true rfl) (fun M13 => ?_)
        refine r_iincn (v := 1) (dt_Md_ofAge.at 47 rfl) (by decide) rfl (by decide) (fun y => [.ref v0, .int v1, .int v2, .int v3, .int y, .int v5, .int v6, .int v7, .int v8, .int r10]) (fun _ => rfl) (fun x14 => ?_)
        refine r_iload (dt_Md_ofAge.at 48 rfl) rfl ?_
        refine r_iload_n (dt_Md_ofAge.at 49 rfl) rfl ?_
        refine r_aload_n (dt_Md_ofAge.at 50 rfl) rfl ?_
        refine r_fI (dt_Md_ofAge.at 51 rfl) fl_Md_292 rfl (fun x15 => ?_)
        refine r_isub (dt_Md_ofAge.at 52 rfl) ?_
        refine r_iadd (dt_Md_ofAge.at 53 rfl) ?_
        refine r_nmi (fun x16 => ?_)
        refine r_istore (ls' := [.ref v0, .int v1, .int v2, .int v3, .int x14, .int x16, .int v6, .int v7, .int v8, .int r10]) (dt_Md_ofAge.at 54 rfl) (by decide) rfl ?_
        refine r_iload_n (dt_Md_ofAge.at 55 rfl) rfl ?_
        refine r_aload_n (dt_Md_ofAge.at 56 rfl) rfl ?_
        refine r_fI (dt_Md_ofAge.at 57 rfl) fl_Md_292 rfl (fun x17 => ?_)
        refine r_isub (dt_Md_ofAge.at 58 rfl) ?_
        refine r_iload (dt_Md_ofAge.at 59 rfl) rfl ?_
        refine r_icmp_lt (tgt := 148) (dt_Md_ofAge.at 60 rfl) (by decide) ?_ ?_
        · refine r_iincn (v := 1) (dt_Md_ofAge.at 78 rfl) (by decide) rfl (by decide) (fun y => [.ref v0, .int v1, .int v2, .int v3, .int x14, .int x16, .int v6, .int v7, .int y, .int r10]) (fun _ => rfl) (fun x18 => ?_)
          refine r_goto (tgt := 55) (dt_Md_ofAge.at 79 rfl) (by decide) ?_
          exact Rf.msk [true, true, true, true, true, true, true, true, true, false] (ih v0 v1 v2 v3 x14 x16 v6 v7 x18 M13)
        · refine r_iload_n (dt_Md_ofAge.at 61 rfl) rfl ?_
          refine r_aload_n (dt_Md_ofAge.at 62 rfl) rfl ?_
          refine r_fI (dt_Md_ofAge.at 63 rfl) fl_Md_292 rfl (fun x19 => ?_)
          refine r_isub (dt_Md_ofAge.at 64 rfl) ?_
          refine r_iload (dt_Md_ofAge.at 65 rfl) rfl ?_
          refine r_icmp_ne (tgt := 136) (dt_Md_ofAge.at 66 rfl) (by decide) ?_ ?_
          · refine r_iload (dt_Md_ofAge.at 67 rfl) rfl ?_
            refine r_iload (dt_Md_ofAge.at 68 rfl) rfl ?_
            refine r_icmp_le (tgt := 136) (dt_Md_ofAge.at 69 rfl) (by decide) ?_ ?_
            · exact Rf.msk [true, true, true, true, true, true, false, false, true, true] (rf_Md_ofAge_L136 (F_Md_ofAge_L55 n) ih v0 v1 v2 v3 x14 x16 v8 r10 M13)
            · refine r_goto (tgt := 148) (dt_Md_ofAge.at 70 rfl) (by decide) ?_
              refine r_iincn (v := 1) (dt_Md_ofAge.at 78 rfl) (by decide) rfl (by decide) (fun y => [.ref v0, .int v1, .int v2, .int v3, .int x14, .int x16, .int v6, .int v7, .int y, .int r10]) (fun _ => rfl) (fun x23 => ?_)
              refine r_goto (tgt := 55) (dt_Md_ofAge.at 79 rfl) (by decide) ?_
              exact Rf.msk [true, true, true, true, true, true, true, true, true, false] (ih v0 v1 v2 v3 x14 x16 v6 v7 x23 M13)
          · exact Rf.msk [true, true, true, true, true, true, false, false, true, true] (rf_Md_ofAge_L136 (F_Md_ofAge_L55 n) ih v0 v1 v2 v3 x14 x16 v8 r10 M13)
      · refine r_goto (tgt := 148) (dt_Md_ofAge.at 43 rfl) (by decide) ?_
        refine r_iincn (v := 1) (dt_Md_ofAge.at 78 rfl) (by decide) rfl (by decide) (fun y => [.ref v0, .int v1, .int v2, .int v3, .int v4, .int v5, .int v6, .int v7, .int y, .int r10]) (fun _ => rfl) (fun x24 => ?_)
        refine r_goto (tgt := 55) (dt_Md_ofAge.at 79 rfl) (by decide) ?_
        exact Rf.msk [true, true, true, true, true, true, true, true, true, false] (ih v0 v1 v2 v3 v4 v5 v6 v7 x24 M11)
set_option maxRecDepth 20000 in
set_option maxHeartbeats 2000000 in
theorem ct_Md_ofAge {G : am_G} {l : Launch} (a0 : Nat) (p1 : Int32) (p2 : Int32) (p3 : Int32) (M : am_M) : Ct G l y_Md_ofAge X_Md_ofAge [.ref a0, .int p1, .int p2, .int p3] M (F_Md_ofAge a0 p1 p2 p3 M) := by
  refine Ct.of (by decide +kernel) rfl rfl (Nat.le_of_ble_eq_true rfl) ?_
  unfold F_Md_ofAge
  show Rf G l X_Md_ofAge 0 [.ref a0, .int p1, .int p2, .int p3, .retAddr 0, .retAddr 0, .retAddr 0, .retAddr 0, .retAddr 0, .retAddr 0] [] M _
  refine r_aload_n (dt_Md_ofAge.at 0 rfl) rfl ?_
  refine r_iload_n (dt_Md_ofAge.at 1 rfl) rfl ?_
  refine r_cvI (c := 9) (rest := []) (ct_Md_isTick a0 p1 _) (dt_Md_ofAge.at 2 rfl) mb_Md_isTick wd_1526 wd_1528 wp_70 rfl (by decide) rfl rfl (Nat.le_of_ble_eq_true rfl) (fun r2 M1 => ?_)
  refine r_if_eq (tgt := 32) (dt_Md_ofAge.at 3 rfl) (by decide) ?_ ?_
  · refine r_bipush (dt_Md_ofAge.at 16 rfl) (-2) (by decide) ?_
    exact r_iret (dt_Md_ofAge.at 17 rfl) rfl
  · refine r_iload_n (dt_Md_ofAge.at 4 rfl) rfl ?_
    refine r_i2l (dt_Md_ofAge.at 5 rfl) ?_
    refine r_lconst (dt_Md_ofAge.at 6 rfl) 0 (by decide) ?_
    refine r_ldc2 (dt_Md_ofAge.at 7 rfl) 2 wd_1531 ?_
    refine r_csI (rest := []) (ct_Md_in (p2.toInt64) 0 2 _) (dt_Md_ofAge.at 8 rfl) mb_Md_in wd_1289 wd_1290 (by decide) rfl rfl (Nat.le_of_ble_eq_true rfl) (fun r4 M3 => ?_)
    refine r_if_eq (tgt := 32) (dt_Md_ofAge.at 9 rfl) (by decide) ?_ ?_
    · refine r_bipush (dt_Md_ofAge.at 16 rfl) (-2) (by decide) ?_
      exact r_iret (dt_Md_ofAge.at 17 rfl) rfl
    · refine r_iload_n (dt_Md_ofAge.at 10 rfl) rfl ?_
      refine r_i2l (dt_Md_ofAge.at 11 rfl) ?_
      refine r_lconst (dt_Md_ofAge.at 12 rfl) 0 (by decide) ?_
      refine r_ldc2 (dt_Md_ofAge.at 13 rfl) 2 wd_1531 ?_
      refine r_csI (rest := []) (ct_Md_in (p3.toInt64) 0 2 _) (dt_Md_ofAge.at 14 rfl) mb_Md_in wd_1289 wd_1290 (by decide) rfl rfl (Nat.le_of_ble_eq_true rfl) (fun r6 M5 => ?_)
      refine r_if_ne (tgt := 35) (dt_Md_ofAge.at 15 rfl) (by decide) ?_ ?_
      · refine r_bipush (dt_Md_ofAge.at 16 rfl) (-2) (by decide) ?_
        exact r_iret (dt_Md_ofAge.at 17 rfl) rfl
      · refine r_aload_n (dt_Md_ofAge.at 18 rfl) rfl ?_
        refine r_iload_n (dt_Md_ofAge.at 19 rfl) rfl ?_
        refine r_cvV (c := 9) (rest := []) (ct_Md_gathers a0 p1 _) (dt_Md_ofAge.at 20 rfl) mb_Md_gathers wd_1583 wd_1585 wp_73 rfl (by decide) rfl rfl (Nat.le_of_ble_eq_true rfl) (fun M7 => ?_)
        refine r_iconst (dt_Md_ofAge.at 21 rfl) 0 (by decide) ?_
        refine r_istore (ls' := [.ref a0, .int p1, .int p2, .int p3, .int 0, .retAddr 0, .retAddr 0, .retAddr 0, .retAddr 0, .retAddr 0]) (dt_Md_ofAge.at 22 rfl) (by decide) rfl ?_
        refine r_iconst (dt_Md_ofAge.at 23 rfl) 0 (by decide) ?_
        refine r_istore (ls' := [.ref a0, .int p1, .int p2, .int p3, .int 0, .int 0, .retAddr 0, .retAddr 0, .retAddr 0, .retAddr 0]) (dt_Md_ofAge.at 24 rfl) (by decide) rfl ?_
        refine r_iconst (dt_Md_ofAge.at 25 rfl) (-1) (by decide) ?_
        refine r_istore (ls' := [.ref a0, .int p1, .int p2, .int p3, .int 0, .int 0, .int (-1), .retAddr 0, .retAddr 0, .retAddr 0]) (dt_Md_ofAge.at 26 rfl) (by decide) rfl ?_
        refine r_iconst (dt_Md_ofAge.at 27 rfl) (-1) (by decide) ?_
        refine r_istore (ls' := [.ref a0, .int p1, .int p2, .int p3, .int 0, .int 0, .int (-1), .int (-1), .retAddr 0, .retAddr 0]) (dt_Md_ofAge.at 28 rfl) (by decide) rfl ?_
        refine r_iconst (dt_Md_ofAge.at 29 rfl) 0 (by decide) ?_
        refine r_istore (ls' := [.ref a0, .int p1, .int p2, .int p3, .int 0, .int 0, .int (-1), .int (-1), .int 0, .retAddr 0]) (dt_Md_ofAge.at 30 rfl) (by decide) rfl ?_
        exact Rf.msk [true, true, true, true, true, true, true, true, true, false] (rf_Md_ofAge_L55 fu a0 p1 p2 p3 0 0 (-1) (-1) 0 M7)
set_option maxRecDepth 20000 in
set_option maxHeartbeats 2000000 in
theorem rf_Md_flux_L206 {G : am_G} {l : Launch} (k84 : Nat → Int32 → Int32 → Int32 → Int32 → Int32 → am_M → am_R) (k99 : Nat → Int32 → Int32 → Int32 → Int32 → Int32 → Int32 → am_M → am_R) (hk84 : ∀ v0 v2 v3 v4 v5 v6 M, Rf G l X_Md_flux 84 [.ref v0, .retAddr 0, .int v2, .int v3, .int v4, .int v5, .int v6, .retAddr 0, .retAddr 0, .retAddr 0] [] M (k84 v0 v2 v3 v4 v5 v6 M)) (hk99 : ∀ v0 v2 v3 v4 v5 v6 v7 M, Rf G l X_Md_flux 99 [.ref v0, .retAddr 0, .int v2, .int v3, .int v4, .int v5, .int v6, .int v7, .retAddr 0, .retAddr 0] [] M (k99 v0 v2 v3 v4 v5 v6 v7 M)) (v0 : Nat) (v2 : Int32) (v3 : Int32) (v4 : Int32) (v6 : Int32) (v7 : Int32) (s0 : Int32) (s1 : Int32) (s2 : Int32) (M : am_M) : Rf G l X_Md_flux 206 [.ref v0, .retAddr 0, .int v2, .int v3, .int v4, .retAddr 0, .int v6, .int v7, .retAddr 0, .retAddr 0] [.int s2, .int s1, .int s0] M (F_Md_flux_L206 k84 k99 v0 v2 v3 v4 v6 v7 s0 s1 s2 M) := by
  unfold F_Md_flux_L206
  refine r_icmp_ne (tgt := 213) (dt_Md_flux.at 113 rfl) (by decide) ?_ ?_
  · refine r_iconst (dt_Md_flux.at 114 rfl) 1 (by decide) ?_
    refine r_goto (tgt := 214) (dt_Md_flux.at 115 rfl) (by decide) ?_
    refine r_iadd (dt_Md_flux.at 117 rfl) ?_
    refine r_nmi (fun x30 => ?_)
    refine r_istore (ls' := [.ref v0, .retAddr 0, .int v2, .int v3, .int v4, .int x30, .int v6, .int v7, .retAddr 0, .retAddr 0]) (dt_Md_flux.at 118 rfl) (by decide) rfl ?_
    refine r_iincn (v := 1) (dt_Md_flux.at 119 rfl) (by decide) rfl (by decide) (fun y => [.ref v0, .retAddr 0, .int v2, .int v3, .int v4, .int x30, .int v6, .int y, .retAddr 0, .retAddr 0]) (fun _ => rfl) (fun x31 => ?_)
    refine r_goto (tgt := 99) (dt_Md_flux.at 120 rfl) (by decide) ?_
    exact Rf.msk [true, false, true, true, true, true, true, true, false, false] (hk99 v0 v2 v3 v4 x30 v6 x31 M)
  · refine r_iconst (dt_Md_flux.at 116 rfl) 0 (by decide) ?_
    refine r_iadd (dt_Md_flux.at 117 rfl) ?_
    refine r_nmi (fun x32 => ?_)
    refine r_istore (ls' := [.ref v0, .retAddr 0, .int v2, .int v3, .int v4, .int x32, .int v6, .int v7, .retAddr 0, .retAddr 0]) (dt_Md_flux.at 118 rfl) (by decide) rfl ?_
    refine r_iincn (v := 1) (dt_Md_flux.at 119 rfl) (by decide) rfl (by decide) (fun y => [.ref v0, .retAddr 0, .int v2, .int v3, .int v4, .int x32, .int v6, .int y, .retAddr 0, .retAddr 0]) (fun _ => rfl) (fun x33 => ?_)
    refine r_goto (tgt := 99) (dt_Md_flux.at 120 rfl) (by decide) ?_
    exact Rf.msk [true, false, true, true, true, true, true, true, false, false] (hk99 v0 v2 v3 v4 x32 v6 x33 M)
set_option maxRecDepth 20000 in
set_option maxHeartbeats 2000000 in
theorem rf_Md_flux_L182 {G : am_G} {l : Launch} (k84 : Nat → Int32 → Int32 → Int32 → Int32 → Int32 → am_M → am_R) (k99 : Nat → Int32 → Int32 → Int32 → Int32 → Int32 → Int32 → am_M → am_R) (hk84 : ∀ v0 v2 v3 v4 v5 v6 M, Rf G l X_Md_flux 84 [.ref v0, .retAddr 0, .int v2, .int v3, .int v4, .int v5, .int v6, .retAddr 0, .retAddr 0, .retAddr 0] [] M (k84 v0 v2 v3 v4 v5 v6 M)) (hk99 : ∀ v0 v2 v3 v4 v5 v6 v7 M, Rf G l X_Md_flux 99 [.ref v0, .retAddr 0, .int v2, .int v3, .int v4, .int v5, .int v6, .int v7, .retAddr 0, .retAddr 0] [] M (k99 v0 v2 v3 v4 v5 v6 v7 M)) (v0 : Nat) (v2 : Int32) (v3 : Int32) (v4 : Int32) (v5 : Int32) (v6 : Int32) (v7 : Int32) (v8 : Int32) (s0 : Int32) (M : am_M) : Rf G l X_Md_flux 182 [.ref v0, .retAddr 0, .int v2, .int v3, .int v4, .int v5, .int v6, .int v7, .int v8, .retAddr 0] [.int s0] M (F_Md_flux_L182 k84 k99 v0 v2 v3 v4 v5 v6 v7 v8 s0 M) := by
  unfold F_Md_flux_L182
  refine r_istore (ls' := [.ref v0, .retAddr 0, .int v2, .int v3, .int v4, .int v5, .int v6, .int v7, .int v8, .int s0]) (dt_Md_flux.at 101 rfl) (by decide) rfl ?_
  refine r_iload (dt_Md_flux.at 102 rfl) rfl ?_
  refine r_iload (dt_Md_flux.at 103 rfl) rfl ?_
  refine r_iload (dt_Md_flux.at 104 rfl) rfl ?_
  refine r_icmp_eq (tgt := 213) (dt_Md_flux.at 105 rfl) (by decide) ?_ ?_
  · refine r_iconst (dt_Md_flux.at 116 rfl) 0 (by decide) ?_
    refine r_iadd (dt_Md_flux.at 117 rfl) ?_
    refine r_nmi (fun x28 => ?_)
    refine r_istore (ls' := [.ref v0, .retAddr 0, .int v2, .int v3, .int v4, .int x28, .int v6, .int v7, .int v8, .int s0]) (dt_Md_flux.at 118 rfl) (by decide) rfl ?_
    refine r_iincn (v := 1) (dt_Md_flux.at 119 rfl) (by decide) rfl (by decide) (fun y => [.ref v0, .retAddr 0, .int v2, .int v3, .int v4, .int x28, .int v6, .int y, .int v8, .int s0]) (fun _ => rfl) (fun x29 => ?_)
    refine r_goto (tgt := 99) (dt_Md_flux.at 120 rfl) (by decide) ?_
    exact Rf.msk [true, false, true, true, true, true, true, true, false, false] (hk99 v0 v2 v3 v4 x28 v6 x29 M)
  · refine r_iload (dt_Md_flux.at 106 rfl) rfl ?_
    refine r_iload (dt_Md_flux.at 107 rfl) rfl ?_
    refine r_iconst (dt_Md_flux.at 108 rfl) 1 (by decide) ?_
    refine r_icmp_ne (tgt := 205) (dt_Md_flux.at 109 rfl) (by decide) ?_ ?_
    · refine r_iconst (dt_Md_flux.at 110 rfl) 1 (by decide) ?_
      refine r_goto (tgt := 206) (dt_Md_flux.at 111 rfl) (by decide) ?_
      exact Rf.msk [true, false, true, true, true, false, true, true, false, false] (rf_Md_flux_L206 k84 k99 hk84 hk99 v0 v2 v3 v4 v6 v7 v5 v8 1 M)
    · refine r_iconst (dt_Md_flux.at 112 rfl) 0 (by decide) ?_
      exact Rf.msk [true, false, true, true, true, false, true, true, false, false] (rf_Md_flux_L206 k84 k99 hk84 hk99 v0 v2 v3 v4 v6 v7 v5 v8 0 M)
set_option maxRecDepth 20000 in
set_option maxHeartbeats 2000000 in
theorem rf_Md_flux_L156 {G : am_G} {l : Launch} (k84 : Nat → Int32 → Int32 → Int32 → Int32 → Int32 → am_M → am_R) (k99 : Nat → Int32 → Int32 → Int32 → Int32 → Int32 → Int32 → am_M → am_R) (hk84 : ∀ v0 v2 v3 v4 v5 v6 M, Rf G l X_Md_flux 84 [.ref v0, .retAddr 0, .int v2, .int v3, .int v4, .int v5, .int v6, .retAddr 0, .retAddr 0, .retAddr 0] [] M (k84 v0 v2 v3 v4 v5 v6 M)) (hk99 : ∀ v0 v2 v3 v4 v5 v6 v7 M, Rf G l X_Md_flux 99 [.ref v0, .retAddr 0, .int v2, .int v3, .int v4, .int v5, .int v6, .int v7, .retAddr 0, .retAddr 0] [] M (k99 v0 v2 v3 v4 v5 v6 v7 M)) (v0 : Nat) (v2 : Int32) (v3 : Int32) (v4 : Int32) (v5 : Int32) (v6 : Int32) (v7 : Int32) (s0 : Int32) (M : am_M) : Rf G l X_Md_flux 156 [.ref v0, .retAddr 0, .int v2, .int v3, .int v4, .int v5, .int v6, .int v7, .retAddr 0, .retAddr 0] [.int s0] M (F_Md_flux_L156 k84 k99 v0 v2 v3 v4 v5 v6 v7 s0 M) := by
  unfold F_Md_flux_L156
  refine r_istore (ls' := [.ref v0, .retAddr 0, .int v2, .int v3, .int v4, .int v5, .int v6, .int v7, .int s0, .retAddr 0]) (dt_Md_flux.at 86 rfl) (by decide) rfl ?_
  refine r_aload_n (dt_Md_flux.at 87 rfl) rfl ?_
  refine r_iconst (dt_Md_flux.at 88 rfl) 0 (by decide) ?_
  refine r_iload (dt_Md_flux.at 89 rfl) rfl ?_
  refine r_aload_n (dt_Md_flux.at 90 rfl) rfl ?_
  refine r_fI (dt_Md_flux.at 91 rfl) fl_Md_292 rfl (fun x25 => ?_)
  refine r_isub (dt_Md_flux.at 92 rfl) ?_
  refine r_cvI (c := 9) (rest := []) (ct_Md_placeBy v0 0 (v6 - x25) _) (dt_Md_flux.at 93 rfl) mb_Md_placeBy wd_1517 wd_1519 wp_69 rfl (by decide) rfl rfl (Nat.le_of_ble_eq_true rfl) (fun r27 M26 => ?_)
  refine r_bipush (dt_Md_flux.at 94 rfl) 8 (by decide) ?_
  refine r_idivk (dt_Md_flux.at 95 rfl) (by decide) ?_
  refine r_iload_n (dt_Md_flux.at 96 rfl) rfl ?_
  refine r_icmp_ge (tgt := 181) (dt_Md_flux.at 97 rfl) (by decide) ?_ ?_
  · refine r_iconst (dt_Md_flux.at 100 rfl) 0 (by decide) ?_
    exact Rf.msk [true, false, true, true, true, true, true, true, true, false] (rf_Md_flux_L182 k84 k99 hk84 hk99 v0 v2 v3 v4 v5 v6 v7 s0 0 M26)
  · refine r_iconst (dt_Md_flux.at 98 rfl) 1 (by decide) ?_
    refine r_goto (tgt := 182) (dt_Md_flux.at 99 rfl) (by decide) ?_
    exact Rf.msk [true, false, true, true, true, true, true, true, true, false] (rf_Md_flux_L182 k84 k99 hk84 hk99 v0 v2 v3 v4 v5 v6 v7 s0 1 M26)
set_option maxRecDepth 20000 in
set_option maxHeartbeats 2000000 in
theorem rf_Md_flux_L99 {G : am_G} {l : Launch} (k84 : Nat → Int32 → Int32 → Int32 → Int32 → Int32 → am_M → am_R) (hk84 : ∀ v0 v2 v3 v4 v5 v6 M, Rf G l X_Md_flux 84 [.ref v0, .retAddr 0, .int v2, .int v3, .int v4, .int v5, .int v6, .retAddr 0, .retAddr 0, .retAddr 0] [] M (k84 v0 v2 v3 v4 v5 v6 M)) : ∀ (n : Nat) (v0 : Nat) (v2 : Int32) (v3 : Int32) (v4 : Int32) (v5 : Int32) (v6 : Int32) (v7 : Int32) (M : am_M), Rf G l X_Md_flux 99 [.ref v0, .retAddr 0, .int v2, .int v3, .int v4, .int v5, .int v6, .int v7, .retAddr 0, .retAddr 0] [] M (F_Md_flux_L99 k84 n v0 v2 v3 v4 v5 v6 v7 M) := by
  intro n
  induction n with
  | zero => intro v0 v2 v3 v4 v5 v6 v7 M; exact Rf.no
  | succ n ih =>
    intro v0 v2 v3 v4 v5 v6 v7 M
    unfold F_Md_flux_L99
    refine r_iload (dt_Md_flux.at 56 rfl) rfl ?_
    refine r_aload_n (dt_Md_flux.at 57 rfl) rfl ?_
    refine r_fI (dt_Md_flux.at 58 rfl) fl_Md_361 rfl (fun x15 => ?_)
    refine r_icmp_ge (tgt := 223) (dt_Md_flux.at 59 rfl) (by decide) ?_ ?_
    · refine r_iincn (v := 1) (dt_Md_flux.at 121 rfl) (by decide) rfl (by decide) (fun y => [.ref v0, .retAddr 0, .int v2, .int v3, .int v4, .int v5, .int y, .int v7, .retAddr 0, .retAddr 0]) (fun _ => rfl) (fun x16 => ?_)
      refine r_goto (tgt := 84) (dt_Md_flux.at 122 rfl) (by decide) ?_
      exact Rf.msk [true, false, true, true, true, true, true, false, false, false] (hk84 v0 v2 v3 v4 v5 x16 M)
    · refine r_aload_n (dt_Md_flux.at 60 rfl) rfl ?_
      refine r_aload_n (dt_Md_flux.at 61 rfl) rfl ?_
      refine r_iload (dt_Md_flux.at 62 rfl) rfl ?_
      refine r_cvI (c := 9) (rest := [.ref v0]) (ct_Md_codeAt v0 v7 _) (dt_Md_flux.at 63 rfl) mb_Md_codeAt wd_1603 wd_1605 wp_78 rfl (by decide) rfl rfl (Nat.le_of_ble_eq_true rfl) (fun r18 M17 => ?_)
      refine r_cvV (c := 9) (rest := []) (ct_Md_lays v0 r18 _) (dt_Md_flux.at 64 rfl) mb_Md_lays wd_1481 wd_1483 wp_60 rfl (by decide) rfl rfl (Nat.le_of_ble_eq_true rfl) (fun M19 => ?_)
      refine r_iload (dt_Md_flux.at 65 rfl) rfl ?_
      refine r_aload_n (dt_Md_flux.at 66 rfl) rfl ?_
      refine r_fI (dt_Md_flux.at 67 rfl) fl_Md_292 rfl (fun x20 => ?_)
      refine r_icmp_ne (tgt := 130) (dt_Md_flux.at 68 rfl) (by decide) ?_ ?_
      · refine r_goto (tgt := 217) (dt_Md_flux.at 69 rfl) (by decide) ?_
        refine r_iincn (v := 1) (dt_Md_flux.at 119 rfl) (by decide) rfl (by decide) (fun y => [.ref v0, .retAddr 0, .int v2, .int v3, .int v4, .int v5, .int v6, .int y, .retAddr 0, .retAddr 0]) (fun _ => rfl) (fun x21 => ?_)
        refine r_goto (tgt := 99) (dt_Md_flux.at 120 rfl) (by decide) ?_
        exact Rf.msk [true, false, true, true, true, true, true, true, false, false] (ih v0 v2 v3 v4 v5 v6 x21 M19)
      · refine r_aload_n (dt_Md_flux.at 70 rfl) rfl ?_
        refine r_iconst (dt_Md_flux.at 71 rfl) 0 (by decide) ?_
        refine r_iload (dt_Md_flux.at 72 rfl) rfl ?_
        refine r_iconst (dt_Md_flux.at 73 rfl) 1 (by decide) ?_
        refine r_isub (dt_Md_flux.at 74 rfl) ?_
        refine r_aload_n (dt_Md_flux.at 75 rfl) rfl ?_
        refine r_fI (dt_Md_flux.at 76 rfl) fl_Md_292 rfl (fun x22 => ?_)
        refine r_isub (dt_Md_flux.at 77 rfl) ?_
        refine r_cvI (c := 9) (rest := []) (ct_Md_placeBy v0 0 ((v6 - 1) - x22) _) (dt_Md_flux.at 78 rfl) mb_Md_placeBy wd_1517 wd_1519 wp_69 rfl (by decide) rfl rfl (Nat.le_of_ble_eq_true rfl) (fun r24 M23 => ?_)
        refine r_bipush (dt_Md_flux.at 79 rfl) 8 (by decide) ?_
        refine r_idivk (dt_Md_flux.at 80 rfl) (by decide) ?_
        refine r_iload_n (dt_Md_flux.at 81 rfl) rfl ?_
        refine r_icmp_ge (tgt := 155) (dt_Md_flux.at 82 rfl) (by decide) ?_ ?_
        · refine r_iconst (dt_Md_flux.at 85 rfl) 0 (by decide) ?_
          exact Rf.msk [true, false, true, true, true, true, true, true, false, false] (rf_Md_flux_L156 k84 (F_Md_flux_L99 k84 n) hk84 ih v0 v2 v3 v4 v5 v6 v7 0 M23)
        · refine r_iconst (dt_Md_flux.at 83 rfl) 1 (by decide) ?_
          refine r_goto (tgt := 156) (dt_Md_flux.at 84 rfl) (by decide) ?_
          exact Rf.msk [true, false, true, true, true, true, true, true, false, false] (rf_Md_flux_L156 k84 (F_Md_flux_L99 k84 n) hk84 ih v0 v2 v3 v4 v5 v6 v7 1 M23)
set_option maxRecDepth 20000 in
set_option maxHeartbeats 2000000 in
theorem rf_Md_flux_L84 {G : am_G} {l : Launch}   : ∀ (n : Nat) (v0 : Nat) (v2 : Int32) (v3 : Int32) (v4 : Int32) (v5 : Int32) (v6 : Int32) (M : am_M), Rf G l X_Md_flux 84 [.ref v0, .retAddr 0, .int v2, .int v3, .int v4, .int v5, .int v6, .retAddr 0, .retAddr 0, .retAddr 0] [] M (F_Md_flux_L84 n v0 v2 v3 v4 v5 v6 M) := by
  intro n
  induction n with
  | zero => intro v0 v2 v3 v4 v5 v6 M; exact Rf.no
  | succ n ih =>
    intro v0 v2 v3 v4 v5 v6 M
    unfold F_Md_flux_L84
    refine r_iload (dt_Md_flux.at 48 rfl) rfl ?_
    refine r_iload_n (dt_Md_flux.at 49 rfl) rfl ?_
    refine r_icmp_ge (tgt := 229) (dt_Md_flux.at 50 rfl) (by decide) ?_ ?_
    · refine r_iload (dt_Md_flux.at 123 rfl) rfl ?_
      exact r_iret (dt_Md_flux.at 124 rfl) rfl
    · refine r_aload_n (dt_Md_flux.at 51 rfl) rfl ?_
      refine r_iload (dt_Md_flux.at 52 rfl) rfl ?_
      refine r_cvV (c := 9) (rest := []) (ct_Md_gathers v0 v6 _) (dt_Md_flux.at 53 rfl) mb_Md_gathers wd_1583 wd_1585 wp_73 rfl (by decide) rfl rfl (Nat.le_of_ble_eq_true rfl) (fun M14 => ?_)
      refine r_iconst (dt_Md_flux.at 54 rfl) 0 (by decide) ?_
      refine r_istore (ls' := [.ref v0, .retAddr 0, .int v2, .int v3, .int v4, .int v5, .int v6, .int 0, .retAddr 0, .retAddr 0]) (dt_Md_flux.at 55 rfl) (by decide) rfl ?_
      exact Rf.msk [true, false, true, true, true, true, true, true, false, false] (rf_Md_flux_L99 (F_Md_flux_L84 n) ih fu v0 v2 v3 v4 v5 v6 0 M14)
set_option maxRecDepth 20000 in
set_option maxHeartbeats 2000000 in
theorem ct_Md_flux {G : am_G} {l : Launch} (a0 : Nat) (p1 : Int32) (p2 : Int32) (p3 : Int32) (p4 : Int32) (M : am_M) : Ct G l y_Md_flux X_Md_flux [.ref a0, .int p1, .int p2, .int p3, .int p4] M (F_Md_flux a0 p1 p2 p3 p4 M) := by
  refine Ct.of (by decide +kernel) rfl rfl (Nat.le_of_ble_eq_true rfl) ?_
  unfold F_Md_flux
  show Rf G l X_Md_flux 0 [.ref a0, .int p1, .int p2, .int p3, .int p4, .retAddr 0, .retAddr 0, .retAddr 0, .retAddr 0, .retAddr 0] [] M _
  refine r_aload_n (dt_Md_flux.at 0 rfl) rfl ?_
  refine r_fI (dt_Md_flux.at 1 rfl) fl_Md_219 rfl (fun x1 => ?_)
  refine r_if_eq (tgt := 75) (dt_Md_flux.at 2 rfl) (by decide) ?_ ?_
  · refine r_bipush (dt_Md_flux.at 42 rfl) (-2) (by decide) ?_
    exact r_iret (dt_Md_flux.at 43 rfl) rfl
  · refine r_iload_n (dt_Md_flux.at 3 rfl) rfl ?_
    refine r_i2l (dt_Md_flux.at 4 rfl) ?_
    refine r_lconst (dt_Md_flux.at 5 rfl) 0 (by decide) ?_
    refine r_ldc2 (dt_Md_flux.at 6 rfl) 30001 wd_1690 ?_
    refine r_csI (rest := []) (ct_Md_in (p1.toInt64) 0 30001 _) (dt_Md_flux.at 7 rfl) mb_Md_in wd_1289 wd_1290 (by decide) rfl rfl (Nat.le_of_ble_eq_true rfl) (fun r3 M2 => ?_)
    refine r_if_eq (tgt := 75) (dt_Md_flux.at 8 rfl) (by decide) ?_ ?_
    · refine r_bipush (dt_Md_flux.at 42 rfl) (-2) (by decide) ?_
      exact r_iret (dt_Md_flux.at 43 rfl) rfl
    · refine r_iload_n (dt_Md_flux.at 9 rfl) rfl ?_
      refine r_i2l (dt_Md_flux.at 10 rfl) ?_
      refine r_lconst (dt_Md_flux.at 11 rfl) 0 (by decide) ?_
      refine r_ldc2 (dt_Md_flux.at 12 rfl) 30001 wd_1690 ?_
      refine r_csI (rest := []) (ct_Md_in (p2.toInt64) 0 30001 _) (dt_Md_flux.at 13 rfl) mb_Md_in wd_1289 wd_1290 (by decide) rfl rfl (Nat.le_of_ble_eq_true rfl) (fun r5 M4 => ?_)
      refine r_if_eq (tgt := 75) (dt_Md_flux.at 14 rfl) (by decide) ?_ ?_
      · refine r_bipush (dt_Md_flux.at 42 rfl) (-2) (by decide) ?_
        exact r_iret (dt_Md_flux.at 43 rfl) rfl
      · refine r_iload_n (dt_Md_flux.at 15 rfl) rfl ?_
        refine r_i2l (dt_Md_flux.at 16 rfl) ?_
        refine r_iload_n (dt_Md_flux.at 17 rfl) rfl ?_
        refine r_i2l (dt_Md_flux.at 18 rfl) ?_
        refine r_lsub (dt_Md_flux.at 19 rfl) ?_
        refine r_lconst (dt_Md_flux.at 20 rfl) 0 (by decide) ?_
        refine r_ldc2 (dt_Md_flux.at 21 rfl) 60 wd_1691 ?_
        refine r_csI (rest := []) (ct_Md_in ((p2.toInt64) - (p1.toInt64)) 0 60 _) (dt_Md_flux.at 22 rfl) mb_Md_in wd_1289 wd_1290 (by decide) rfl rfl (Nat.le_of_ble_eq_true rfl) (fun r7 M6 => ?_)
        refine r_if_eq (tgt := 75) (dt_Md_flux.at 23 rfl) (by decide) ?_ ?_
        · refine r_bipush (dt_Md_flux.at 42 rfl) (-2) (by decide) ?_
          exact r_iret (dt_Md_flux.at 43 rfl) rfl
        · refine r_iload_n (dt_Md_flux.at 24 rfl) rfl ?_
          refine r_i2l (dt_Md_flux.at 25 rfl) ?_
          refine r_lconst (dt_Md_flux.at 26 rfl) 1 (by decide) ?_
          refine r_aload_n (dt_Md_flux.at 27 rfl) rfl ?_
          refine r_fR (dt_Md_flux.at 28 rfl) fl_Md_7 rfl (fun b8 => ?_)
          refine r_iconst (dt_Md_flux.at 29 rfl) 0 (by decide) ?_
          refine r_aI (dt_Md_flux.at 30 rfl) (fun x9 => ?_)
          refine r_iconst (dt_Md_flux.at 31 rfl) 1 (by decide) ?_
          refine r_isub (dt_Md_flux.at 32 rfl) ?_
          refine r_i2l (dt_Md_flux.at 33 rfl) ?_
          refine r_csI (rest := []) (ct_Md_in (p3.toInt64) 1 ((x9 - 1).toInt64) _) (dt_Md_flux.at 34 rfl) mb_Md_in wd_1289 wd_1290 (by decide) rfl rfl (Nat.le_of_ble_eq_true rfl) (fun r11 M10 => ?_)
          refine r_if_eq (tgt := 75) (dt_Md_flux.at 35 rfl) (by decide) ?_ ?_
          · refine r_bipush (dt_Md_flux.at 42 rfl) (-2) (by decide) ?_
            exact r_iret (dt_Md_flux.at 43 rfl) rfl
          · refine r_iload (dt_Md_flux.at 36 rfl) rfl ?_
            refine r_i2l (dt_Md_flux.at 37 rfl) ?_
            refine r_lconst (dt_Md_flux.at 38 rfl) 0 (by decide) ?_
            refine r_lconst (dt_Md_flux.at 39 rfl) 1 (by decide) ?_
            refine r_csI (rest := []) (ct_Md_in (p4.toInt64) 0 1 _) (dt_Md_flux.at 40 rfl) mb_Md_in wd_1289 wd_1290 (by decide) rfl rfl (Nat.le_of_ble_eq_true rfl) (fun r13 M12 => ?_)
            refine r_if_ne (tgt := 78) (dt_Md_flux.at 41 rfl) (by decide) ?_ ?_
            · refine r_bipush (dt_Md_flux.at 42 rfl) (-2) (by decide) ?_
              exact r_iret (dt_Md_flux.at 43 rfl) rfl
            · refine r_iconst (dt_Md_flux.at 44 rfl) 0 (by decide) ?_
              refine r_istore (ls' := [.ref a0, .int p1, .int p2, .int p3, .int p4, .int 0, .retAddr 0, .retAddr 0, .retAddr 0, .retAddr 0]) (dt_Md_flux.at 45 rfl) (by decide) rfl ?_
              refine r_iload_n (dt_Md_flux.at 46 rfl) rfl ?_
              refine r_istore (ls' := [.ref a0, .int p1, .int p2, .int p3, .int p4, .int 0, .int p1, .retAddr 0, .retAddr 0, .retAddr 0]) (dt_Md_flux.at 47 rfl) (by decide) rfl ?_
              exact Rf.msk [true, false, true, true, true, true, true, false, false, false] (rf_Md_flux_L84 fu a0 p2 p3 p4 0 p1 M12)
set_option maxRecDepth 20000 in
set_option maxHeartbeats 2000000 in
theorem rf_Md_colours_L33 {G : am_G} {l : Launch}   : ∀ (n : Nat) (v0 : Nat) (v2 : Int32) (v3 : Int32) (v4 : Int32) (M : am_M), Rf G l X_Md_colours 33 [.ref v0, .retAddr 0, .int v2, .int v3, .int v4] [] M (F_Md_colours_L33 n v0 v2 v3 v4 M) := by
  intro n
  induction n with
  | zero => intro v0 v2 v3 v4 M; exact Rf.no
  | succ n ih =>
    intro v0 v2 v3 v4 M
    unfold F_Md_colours_L33
    refine r_iload (dt_Md_colours.at 19 rfl) rfl ?_
    refine r_aload_n (dt_Md_colours.at 20 rfl) rfl ?_
    refine r_fI (dt_Md_colours.at 21 rfl) fl_Md_361 rfl (fun x6 => ?_)
    refine r_icmp_ge (tgt := 73) (dt_Md_colours.at 22 rfl) (by decide) ?_ ?_
    · refine r_iload_n (dt_Md_colours.at 40 rfl) rfl ?_
      exact r_iret (dt_Md_colours.at 41 rfl) rfl
    · refine r_iload_n (dt_Md_colours.at 23 rfl) rfl ?_
      refine r_aload_n (dt_Md_colours.at 24 rfl) rfl ?_
      refine r_aload_n (dt_Md_colours.at 25 rfl) rfl ?_
      refine r_iload (dt_Md_colours.at 26 rfl) rfl ?_
      refine r_cvI (c := 9) (rest := [.ref v0, .int v3]) (ct_Md_codeAt v0 v4 _) (dt_Md_colours.at 27 rfl) mb_Md_codeAt wd_1603 wd_1605 wp_78 rfl (by decide) rfl rfl (Nat.le_of_ble_eq_true rfl) (fun r8 M7 => ?_)
      refine r_iconst (dt_Md_colours.at 28 rfl) 5 (by decide) ?_
      refine r_bipush (dt_Md_colours.at 29 rfl) 8 (by decide) ?_
      refine r_cvI (c := 9) (rest := [.int v3]) (ct_Md_draw v0 r8 5 8 _) (dt_Md_colours.at 30 rfl) mb_Md_draw wd_1489 wd_1491 wp_62 rfl (by decide) rfl rfl (Nat.le_of_ble_eq_true rfl) (fun r10 M9 => ?_)
      refine r_iload_n (dt_Md_colours.at 31 rfl) rfl ?_
      refine r_icmp_ne (tgt := 64) (dt_Md_colours.at 32 rfl) (by decide) ?_ ?_
      · refine r_iconst (dt_Md_colours.at 33 rfl) 1 (by decide) ?_
        refine r_goto (tgt := 65) (dt_Md_colours.at 34 rfl) (by decide) ?_
        refine r_iadd (dt_Md_colours.at 36 rfl) ?_
        refine r_nmi (fun x11 => ?_)
        refine r_istore_n (ls' := [.ref v0, .retAddr 0, .int v2, .int x11, .int v4]) (dt_Md_colours.at 37 rfl) (by decide) rfl ?_
        refine r_iincn (v := 1) (dt_Md_colours.at 38 rfl) (by decide) rfl (by decide) (fun y => [.ref v0, .retAddr 0, .int v2, .int x11, .int y]) (fun _ => rfl) (fun x12 => ?_)
        refine r_goto (tgt := 33) (dt_Md_colours.at 39 rfl) (by decide) ?_
        exact Rf.msk [true, false, true, true, true] (ih v0 v2 x11 x12 M9)
      · refine r_iconst (dt_Md_colours.at 35 rfl) 0 (by decide) ?_
        refine r_iadd (dt_Md_colours.at 36 rfl) ?_
        refine r_nmi (fun x13 => ?_)
        refine r_istore_n (ls' := [.ref v0, .retAddr 0, .int v2, .int x13, .int v4]) (dt_Md_colours.at 37 rfl) (by decide) rfl ?_
        refine r_iincn (v := 1) (dt_Md_colours.at 38 rfl) (by decide) rfl (by decide) (fun y => [.ref v0, .retAddr 0, .int v2, .int x13, .int y]) (fun _ => rfl) (fun x14 => ?_)
        refine r_goto (tgt := 33) (dt_Md_colours.at 39 rfl) (by decide) ?_
        exact Rf.msk [true, false, true, true, true] (ih v0 v2 x13 x14 M9)
set_option maxRecDepth 20000 in
set_option maxHeartbeats 2000000 in
theorem ct_Md_colours {G : am_G} {l : Launch} (a0 : Nat) (p1 : Int32) (p2 : Int32) (M : am_M) : Ct G l y_Md_colours X_Md_colours [.ref a0, .int p1, .int p2] M (F_Md_colours a0 p1 p2 M) := by
  refine Ct.of (by decide +kernel) rfl rfl (Nat.le_of_ble_eq_true rfl) ?_
  unfold F_Md_colours
  show Rf G l X_Md_colours 0 [.ref a0, .int p1, .int p2, .retAddr 0, .retAddr 0] [] M _
  refine r_aload_n (dt_Md_colours.at 0 rfl) rfl ?_
  refine r_iload_n (dt_Md_colours.at 1 rfl) rfl ?_
  refine r_cvI (c := 9) (rest := []) (ct_Md_isTick a0 p1 _) (dt_Md_colours.at 2 rfl) mb_Md_isTick wd_1526 wd_1528 wp_70 rfl (by decide) rfl rfl (Nat.le_of_ble_eq_true rfl) (fun r2 M1 => ?_)
  refine r_if_eq (tgt := 20) (dt_Md_colours.at 3 rfl) (by decide) ?_ ?_
  · refine r_bipush (dt_Md_colours.at 10 rfl) (-2) (by decide) ?_
    exact r_iret (dt_Md_colours.at 11 rfl) rfl
  · refine r_iload_n (dt_Md_colours.at 4 rfl) rfl ?_
    refine r_i2l (dt_Md_colours.at 5 rfl) ?_
    refine r_lconst (dt_Md_colours.at 6 rfl) 0 (by decide) ?_
    refine r_ldc2 (dt_Md_colours.at 7 rfl) 7 wd_1389 ?_
    refine r_csI (rest := []) (ct_Md_in (p2.toInt64) 0 7 _) (dt_Md_colours.at 8 rfl) mb_Md_in wd_1289 wd_1290 (by decide) rfl rfl (Nat.le_of_ble_eq_true rfl) (fun r4 M3 => ?_)
    refine r_if_ne (tgt := 23) (dt_Md_colours.at 9 rfl) (by decide) ?_ ?_
    · refine r_bipush (dt_Md_colours.at 10 rfl) (-2) (by decide) ?_
      exact r_iret (dt_Md_colours.at 11 rfl) rfl
    · refine r_aload_n (dt_Md_colours.at 12 rfl) rfl ?_
      refine r_iload_n (dt_Md_colours.at 13 rfl) rfl ?_
      refine r_cvV (c := 9) (rest := []) (ct_Md_gathers a0 p1 _) (dt_Md_colours.at 14 rfl) mb_Md_gathers wd_1583 wd_1585 wp_73 rfl (by decide) rfl rfl (Nat.le_of_ble_eq_true rfl) (fun M5 => ?_)
      refine r_iconst (dt_Md_colours.at 15 rfl) 0 (by decide) ?_
      refine r_istore_n (ls' := [.ref a0, .int p1, .int p2, .int 0, .retAddr 0]) (dt_Md_colours.at 16 rfl) (by decide) rfl ?_
      refine r_iconst (dt_Md_colours.at 17 rfl) 0 (by decide) ?_
      refine r_istore (ls' := [.ref a0, .int p1, .int p2, .int 0, .int 0]) (dt_Md_colours.at 18 rfl) (by decide) rfl ?_
      exact Rf.msk [true, false, true, true, true] (rf_Md_colours_L33 fu a0 p2 0 0 M5)
