/-! ===== the walks, row by row (printed by wip/whole/emit.py) ===== -/
set_option maxRecDepth 20000 in
set_option maxHeartbeats 2000000 in
theorem rf_Read_readSource_L54 {G : am_G} {l : Launch}   : ∀ (n : Nat) (v0 : Nat) (v1 : Int32) (v2 : Int32) (M : am_M), Rf G l X_Read_readSource 54 [.ref v0, .int v1, .int v2] [] M (F_Read_readSource_L54 n v0 v1 v2 M) := by
  intro n
  induction n with
  | zero => intro v0 v1 v2 M; exact Rf.no
  | succ n ih =>
    intro v0 v1 v2 M
    unfold F_Read_readSource_L54
    refine r_iload_n (dt_Read_readSource.at 31 rfl) rfl ?_
    refine r_iconst (dt_Read_readSource.at 32 rfl) 3 (by decide) ?_
    refine r_icmp_ge (tgt := 91) (dt_Read_readSource.at 33 rfl) (by decide) ?_ ?_
    · refine r_aload_n (dt_Read_readSource.at 52 rfl) rfl ?_
      refine r_ldcS (dt_Read_readSource.at 53 rfl) 15 rfl ?_
      refine r_cvV (c := 4) (rest := []) (ct_Read_needWord v0 115 _) (dt_Read_readSource.at 54 rfl) mb_Read_needWord wd_363 wd_365 wp_4 rfl (by decide) rfl rfl (Nat.le_of_ble_eq_true rfl) (fun M11 => ?_)
      refine r_aload_n (dt_Read_readSource.at 55 rfl) rfl ?_
      refine r_fR (dt_Read_readSource.at 56 rfl) fl_Read_12 rfl (fun b12 => ?_)
      refine r_iload_n (dt_Read_readSource.at 57 rfl) rfl ?_
      refine r_iconst (dt_Read_readSource.at 58 rfl) 4 (by decide) ?_
      refine r_aload_n (dt_Read_readSource.at 59 rfl) rfl ?_
      refine r_iconst (dt_Read_readSource.at 60 rfl) 0 (by decide) ?_
      refine r_sipush (dt_Read_readSource.at 61 rfl) 9999 (by decide) ?_
      refine r_cvI (c := 4) (rest := [.int 4, .int v1, .ref b12]) (ct_Read_needNumber v0 0 9999 _) (dt_Read_readSource.at 62 rfl) mb_Read_needNumber wd_427 wd_429 wp_8 rfl (by decide) rfl rfl (Nat.le_of_ble_eq_true rfl) (fun r14 M13 => ?_)
      refine r_cvV (c := 5) (rest := []) (ct_Scen_setSource b12 v1 4 r14 _) (dt_Read_readSource.at 63 rfl) mb_Scen_setSource wd_485 wd_486 wd_487 rfl (by decide) rfl rfl (Nat.le_of_ble_eq_true rfl) (fun M15 => ?_)
      refine r_aload_n (dt_Read_readSource.at 64 rfl) rfl ?_
      refine r_ldcS (dt_Read_readSource.at 65 rfl) 16 rfl ?_
      refine r_cvV (c := 4) (rest := []) (ct_Read_needWord v0 116 _) (dt_Read_readSource.at 66 rfl) mb_Read_needWord wd_363 wd_365 wp_4 rfl (by decide) rfl rfl (Nat.le_of_ble_eq_true rfl) (fun M16 => ?_)
      refine r_aload_n (dt_Read_readSource.at 67 rfl) rfl ?_
      refine r_fR (dt_Read_readSource.at 68 rfl) fl_Read_12 rfl (fun b17 => ?_)
      refine r_iload_n (dt_Read_readSource.at 69 rfl) rfl ?_
      refine r_iconst (dt_Read_readSource.at 70 rfl) 5 (by decide) ?_
      refine r_aload_n (dt_Read_readSource.at 71 rfl) rfl ?_
      refine r_iconst (dt_Read_readSource.at 72 rfl) 1 (by decide) ?_
      refine r_bipush (dt_Read_readSource.at 73 rfl) 99 (by decide) ?_
      refine r_cvI (c := 4) (rest := [.int 5, .int v1, .ref b17]) (ct_Read_needNumber v0 1 99 _) (dt_Read_readSource.at 74 rfl) mb_Read_needNumber wd_427 wd_429 wp_8 rfl (by decide) rfl rfl (Nat.le_of_ble_eq_true rfl) (fun r19 M18 => ?_)
      refine r_cvV (c := 5) (rest := []) (ct_Scen_setSource b17 v1 5 r19 _) (dt_Read_readSource.at 75 rfl) mb_Scen_setSource wd_485 wd_486 wd_487 rfl (by decide) rfl rfl (Nat.le_of_ble_eq_true rfl) (fun M20 => ?_)
      refine r_aload_n (dt_Read_readSource.at 76 rfl) rfl ?_
      refine r_fR (dt_Read_readSource.at 77 rfl) fl_Read_12 rfl (fun b21 => ?_)
      refine r_iload_n (dt_Read_readSource.at 78 rfl) rfl ?_
      refine r_bipush (dt_Read_readSource.at 79 rfl) 6 (by decide) ?_
      refine r_aload_n (dt_Read_readSource.at 80 rfl) rfl ?_
      refine r_ldcS (dt_Read_readSource.at 81 rfl) 17 rfl ?_
      refine r_iconst (dt_Read_readSource.at 82 rfl) 1 (by decide) ?_
      refine r_iconst (dt_Read_readSource.at 83 rfl) 5 (by decide) ?_
      refine r_iconst (dt_Read_readSource.at 84 rfl) 1 (by decide) ?_
      refine r_cvI (c := 4) (rest := [.int 6, .int v1, .ref b21]) (ct_Read_numberBehind v0 117 1 5 1 _) (dt_Read_readSource.at 85 rfl) mb_Read_numberBehind wd_456 wd_458 wp_12 rfl (by decide) rfl rfl (Nat.le_of_ble_eq_true rfl) (fun r23 M22 => ?_)
      refine r_cvV (c := 5) (rest := []) (ct_Scen_setSource b21 v1 6 r23 _) (dt_Read_readSource.at 86 rfl) mb_Scen_setSource wd_485 wd_486 wd_487 rfl (by decide) rfl rfl (Nat.le_of_ble_eq_true rfl) (fun M24 => ?_)
      refine r_aload_n (dt_Read_readSource.at 87 rfl) rfl ?_
      refine r_fR (dt_Read_readSource.at 88 rfl) fl_Read_12 rfl (fun b25 => ?_)
      refine r_iload_n (dt_Read_readSource.at 89 rfl) rfl ?_
      refine r_bipush (dt_Read_readSource.at 90 rfl) 7 (by decide) ?_
      refine r_aload_n (dt_Read_readSource.at 91 rfl) rfl ?_
      refine r_ldcS (dt_Read_readSource.at 92 rfl) 18 rfl ?_
      refine r_iconst (dt_Read_readSource.at 93 rfl) 0 (by decide) ?_
      refine r_sipush (dt_Read_readSource.at 94 rfl) 9999 (by decide) ?_
      refine r_sipush (dt_Read_readSource.at 95 rfl) 9999 (by decide) ?_
      refine r_cvI (c := 4) (rest := [.int 7, .int v1, .ref b25]) (ct_Read_numberBehind v0 118 0 9999 9999 _) (dt_Read_readSource.at 96 rfl) mb_Read_numberBehind wd_456 wd_458 wp_12 rfl (by decide) rfl rfl (Nat.le_of_ble_eq_true rfl) (fun r27 M26 => ?_)
      refine r_cvV (c := 5) (rest := []) (ct_Scen_setSource b25 v1 7 r27 _) (dt_Read_readSource.at 97 rfl) mb_Scen_setSource wd_485 wd_486 wd_487 rfl (by decide) rfl rfl (Nat.le_of_ble_eq_true rfl) (fun M28 => ?_)
      refine r_aload_n (dt_Read_readSource.at 98 rfl) rfl ?_
      refine r_fR (dt_Read_readSource.at 99 rfl) fl_Read_12 rfl (fun b29 => ?_)
      refine r_iload_n (dt_Read_readSource.at 100 rfl) rfl ?_
      refine r_bipush (dt_Read_readSource.at 101 rfl) 8 (by decide) ?_
      refine r_aload_n (dt_Read_readSource.at 102 rfl) rfl ?_
      refine r_ldcS (dt_Read_readSource.at 103 rfl) 19 rfl ?_
      refine r_iconst (dt_Read_readSource.at 104 rfl) 0 (by decide) ?_
      refine r_bipush (dt_Read_readSource.at 105 rfl) 20 (by decide) ?_
      refine r_iconst (dt_Read_readSource.at 106 rfl) 0 (by decide) ?_
      refine r_cvI (c := 4) (rest := [.int 8, .int v1, .ref b29]) (ct_Read_numberBehind v0 119 0 20 0 _) (dt_Read_readSource.at 107 rfl) mb_Read_numberBehind wd_456 wd_458 wp_12 rfl (by decide) rfl rfl (Nat.le_of_ble_eq_true rfl) (fun r31 M30 => ?_)
      refine r_cvV (c := 5) (rest := []) (ct_Scen_setSource b29 v1 8 r31 _) (dt_Read_readSource.at 108 rfl) mb_Scen_setSource wd_485 wd_486 wd_487 rfl (by decide) rfl rfl (Nat.le_of_ble_eq_true rfl) (fun M32 => ?_)
      refine r_aload_n (dt_Read_readSource.at 109 rfl) rfl ?_
      refine r_fR (dt_Read_readSource.at 110 rfl) fl_Read_12 rfl (fun b33 => ?_)
      refine r_iload_n (dt_Read_readSource.at 111 rfl) rfl ?_
      refine r_aload_n (dt_Read_readSource.at 112 rfl) rfl ?_
      refine r_fR (dt_Read_readSource.at 113 rfl) fl_Read_12 rfl (fun b34 => ?_)
      refine r_iload_n (dt_Read_readSource.at 114 rfl) rfl ?_
      refine r_bipush (dt_Read_readSource.at 115 rfl) 7 (by decide) ?_
      refine r_cvI (c := 5) (rest := [.int v1, .ref b33]) (ct_Scen_ofSource b34 v1 7 _) (dt_Read_readSource.at 116 rfl) mb_Scen_ofSource wd_499 wd_500 wd_501 rfl (by decide) rfl rfl (Nat.le_of_ble_eq_true rfl) (fun r36 M35 => ?_)
      refine r_cvI (c := 5) (rest := []) (ct_Scen_burstsUpTo b33 v1 r36 _) (dt_Read_readSource.at 117 rfl) mb_Scen_burstsUpTo wd_503 wd_504 wd_505 rfl (by decide) rfl rfl (Nat.le_of_ble_eq_true rfl) (fun r38 M37 => ?_)
      refine r_istore_n (ls' := [.ref v0, .int v1, .int r38]) (dt_Read_readSource.at 118 rfl) (by decide) rfl ?_
      refine r_aload_n (dt_Read_readSource.at 119 rfl) rfl ?_
      refine r_fR (dt_Read_readSource.at 120 rfl) fl_Read_12 rfl (fun b39 => ?_)
      refine r_iload_n (dt_Read_readSource.at 121 rfl) rfl ?_
      refine r_bipush (dt_Read_readSource.at 122 rfl) 9 (by decide) ?_
      refine r_iload_n (dt_Read_readSource.at 123 rfl) rfl ?_
      refine r_aload_n (dt_Read_readSource.at 124 rfl) rfl ?_
      refine r_fR (dt_Read_readSource.at 125 rfl) fl_Read_12 rfl (fun b40 => ?_)
      refine r_iload_n (dt_Read_readSource.at 126 rfl) rfl ?_
      refine r_bipush (dt_Read_readSource.at 127 rfl) 6 (by decide) ?_
      refine r_cvI (c := 5) (rest := [.int r38, .int 9, .int v1, .ref b39]) (ct_Scen_ofSource b40 v1 6 _) (dt_Read_readSource.at 128 rfl) mb_Scen_ofSource wd_499 wd_500 wd_501 rfl (by decide) rfl rfl (Nat.le_of_ble_eq_true rfl) (fun r42 M41 => ?_)
      refine r_imul (dt_Read_readSource.at 129 rfl) ?_
      refine r_cvV (c := 5) (rest := []) (ct_Scen_setSource b39 v1 9 (r38 * r42) _) (dt_Read_readSource.at 130 rfl) mb_Scen_setSource wd_485 wd_486 wd_487 rfl (by decide) rfl rfl (Nat.le_of_ble_eq_true rfl) (fun M43 => ?_)
      refine r_aload_n (dt_Read_readSource.at 131 rfl) rfl ?_
      refine r_fR (dt_Read_readSource.at 132 rfl) fl_Read_12 rfl (fun b44 => ?_)
      refine r_dup (dt_Read_readSource.at 133 rfl) rfl ?_
      refine r_fI (dt_Read_readSource.at 134 rfl) fl_Read_147 rfl (fun x45 => ?_)
      refine r_iconst (dt_Read_readSource.at 135 rfl) 1 (by decide) ?_
      refine r_iadd (dt_Read_readSource.at 136 rfl) ?_
      refine r_sI (dt_Read_readSource.at 137 rfl) fl_Read_147 rfl rfl rfl (fun M46 => ?_)
      exact r_vret (dt_Read_readSource.at 138 rfl) rfl
    · refine r_aload_n (dt_Read_readSource.at 34 rfl) rfl ?_
      refine r_fR (dt_Read_readSource.at 35 rfl) fl_Read_12 rfl (fun b47 => ?_)
      refine r_iload_n (dt_Read_readSource.at 36 rfl) rfl ?_
      refine r_iconst (dt_Read_readSource.at 37 rfl) 1 (by decide) ?_
      refine r_iload_n (dt_Read_readSource.at 38 rfl) rfl ?_
      refine r_iadd (dt_Read_readSource.at 39 rfl) ?_
      refine r_aload_n (dt_Read_readSource.at 40 rfl) rfl ?_
      refine r_iconst (dt_Read_readSource.at 41 rfl) 0 (by decide) ?_
      refine r_aload_n (dt_Read_readSource.at 42 rfl) rfl ?_
      refine r_fR (dt_Read_readSource.at 43 rfl) fl_Read_12 rfl (fun b48 => ?_)
      refine r_iload_n (dt_Read_readSource.at 44 rfl) rfl ?_
      refine r_cvI (c := 5) (rest := [.int 0, .ref v0, .int (1 + v2), .int v1, .ref b47]) (ct_Scen_cellsAlong b48 v2 _) (dt_Read_readSource.at 45 rfl) mb_Scen_cellsAlong wd_490 wd_491 wd_492 rfl (by decide) rfl rfl (Nat.le_of_ble_eq_true rfl) (fun r50 M49 => ?_)
      refine r_iconst (dt_Read_readSource.at 46 rfl) 1 (by decide) ?_
      refine r_isub (dt_Read_readSource.at 47 rfl) ?_
      refine r_cvI (c := 4) (rest := [.int (1 + v2), .int v1, .ref b47]) (ct_Read_needNumber v0 0 (r50 - 1) _) (dt_Read_readSource.at 48 rfl) mb_Read_needNumber wd_427 wd_429 wp_8 rfl (by decide) rfl rfl (Nat.le_of_ble_eq_true rfl) (fun r52 M51 => ?_)
      refine r_cvV (c := 5) (rest := []) (ct_Scen_setSource b47 v1 (1 + v2) r52 _) (dt_Read_readSource.at 49 rfl) mb_Scen_setSource wd_485 wd_486 wd_487 rfl (by decide) rfl rfl (Nat.le_of_ble_eq_true rfl) (fun M53 => ?_)
      refine r_iincn (v := 1) (dt_Read_readSource.at 50 rfl) (by decide) rfl (by decide) (fun y => [.ref v0, .int v1, .int y]) (fun _ => rfl) (fun x54 => ?_)
      refine r_goto (tgt := 54) (dt_Read_readSource.at 51 rfl) (by decide) ?_
      exact Rf.msk [true, true, true] (ih v0 v1 x54 M53)
set_option maxRecDepth 20000 in
set_option maxHeartbeats 2000000 in
theorem ct_Read_readSource {G : am_G} {l : Launch} (a0 : Nat) (M : am_M) : Ct G l y_Read_readSource X_Read_readSource [.ref a0] M (F_Read_readSource a0 M) := by
  refine Ct.of (by decide +kernel) rfl rfl (Nat.le_of_ble_eq_true rfl) ?_
  unfold F_Read_readSource
  show Rf G l X_Read_readSource 0 [.ref a0, .retAddr 0, .retAddr 0] [] M _
  refine r_aload_n (dt_Read_readSource.at 0 rfl) rfl ?_
  refine r_fR (dt_Read_readSource.at 1 rfl) fl_Read_12 rfl (fun b1 => ?_)
  refine r_fI (dt_Read_readSource.at 2 rfl) fl_Read_147 rfl (fun x2 => ?_)
  refine r_istore_n (ls' := [.ref a0, .int x2, .retAddr 0]) (dt_Read_readSource.at 3 rfl) (by decide) rfl ?_
  refine r_iload_n (dt_Read_readSource.at 4 rfl) rfl ?_
  refine r_iconst (dt_Read_readSource.at 5 rfl) 4 (by decide) ?_
  refine r_icmp_lt (tgt := 19) (dt_Read_readSource.at 6 rfl) (by decide) ?_ ?_
  · refine r_aload_n (dt_Read_readSource.at 11 rfl) rfl ?_
    refine r_cvV (c := 4) (rest := []) (ct_Read_advance a0 _) (dt_Read_readSource.at 12 rfl) mb_Read_advance wd_343 wd_345 wp_1 rfl (by decide) rfl rfl (Nat.le_of_ble_eq_true rfl) (fun M3 => ?_)
    refine r_aload_n (dt_Read_readSource.at 13 rfl) rfl ?_
    refine r_fR (dt_Read_readSource.at 14 rfl) fl_Read_12 rfl (fun b4 => ?_)
    refine r_iload_n (dt_Read_readSource.at 15 rfl) rfl ?_
    refine r_iconst (dt_Read_readSource.at 16 rfl) 0 (by decide) ?_
    refine r_aload_n (dt_Read_readSource.at 17 rfl) rfl ?_
    refine r_iconst (dt_Read_readSource.at 18 rfl) 0 (by decide) ?_
    refine r_aload_n (dt_Read_readSource.at 19 rfl) rfl ?_
    refine r_fR (dt_Read_readSource.at 20 rfl) fl_Read_12 rfl (fun b5 => ?_)
    refine r_fI (dt_Read_readSource.at 21 rfl) fl_Read_100 rfl (fun x6 => ?_)
    refine r_iconst (dt_Read_readSource.at 22 rfl) 1 (by decide) ?_
    refine r_isub (dt_Read_readSource.at 23 rfl) ?_
    refine r_cvI (c := 4) (rest := [.int 0, .int x2, .ref b4]) (ct_Read_needNumber a0 0 (x6 - 1) _) (dt_Read_readSource.at 24 rfl) mb_Read_needNumber wd_427 wd_429 wp_8 rfl (by decide) rfl rfl (Nat.le_of_ble_eq_true rfl) (fun r8 M7 => ?_)
    refine r_cvV (c := 5) (rest := []) (ct_Scen_setSource b4 x2 0 r8 _) (dt_Read_readSource.at 25 rfl) mb_Scen_setSource wd_485 wd_486 wd_487 rfl (by decide) rfl rfl (Nat.le_of_ble_eq_true rfl) (fun M9 => ?_)
    refine r_aload_n (dt_Read_readSource.at 26 rfl) rfl ?_
    refine r_ldcS (dt_Read_readSource.at 27 rfl) 14 rfl ?_
    refine r_cvV (c := 4) (rest := []) (ct_Read_needWord a0 114 _) (dt_Read_readSource.at 28 rfl) mb_Read_needWord wd_363 wd_365 wp_4 rfl (by decide) rfl rfl (Nat.le_of_ble_eq_true rfl) (fun M10 => ?_)
    refine r_iconst (dt_Read_readSource.at 29 rfl) 0 (by decide) ?_
    refine r_istore_n (ls' := [.ref a0, .int x2, .int 0]) (dt_Read_readSource.at 30 rfl) (by decide) rfl ?_
    exact Rf.msk [true, true, true] (rf_Read_readSource_L54 fu a0 x2 0 M10)
  · refine r_aload_n (dt_Read_readSource.at 7 rfl) rfl ?_
    refine r_iconst (dt_Read_readSource.at 8 rfl) 3 (by decide) ?_
    refine r_cvV (c := 4) (rest := []) (ct_Read_fail a0 3 _) (dt_Read_readSource.at 9 rfl) mb_Read_fail wd_423 wd_425 wp_7 rfl (by decide) rfl rfl (Nat.le_of_ble_eq_true rfl) (fun M55 => ?_)
    exact r_vret (dt_Read_readSource.at 10 rfl) rfl
set_option maxRecDepth 20000 in
set_option maxHeartbeats 2000000 in
theorem rf_Read_read_L50 {G : am_G} {l : Launch}   : ∀ (n : Nat) (v0 : Nat) (v3 : Int32) (v4 : Int32) (M : am_M), Rf G l X_Read_read 50 [.ref v0, .retAddr 0, .retAddr 0, .int v3, .int v4] [] M (F_Read_read_L50 n v0 v3 v4 M) := by
  intro n
  induction n with
  | zero => intro v0 v3 v4 M; exact Rf.no
  | succ n ih =>
    intro v0 v3 v4 M
    unfold F_Read_read_L50
    refine r_iload (dt_Read_read.at 29 rfl) rfl ?_
    refine r_sipush (dt_Read_read.at 30 rfl) 500 (by decide) ?_
    refine r_icmp_ge (tgt := 140) (dt_Read_read.at 31 rfl) (by decide) ?_ ?_
    · refine r_aload_n (dt_Read_read.at 68 rfl) rfl ?_
      refine r_fI (dt_Read_read.at 69 rfl) fl_Read_38 rfl (fun x13 => ?_)
      refine r_if_ne (tgt := 151) (dt_Read_read.at 70 rfl) (by decide) ?_ ?_
      · refine r_iload_n (dt_Read_read.at 71 rfl) rfl ?_
        refine r_goto (tgt := 152) (dt_Read_read.at 72 rfl) (by decide) ?_
        exact r_iret (dt_Read_read.at 74 rfl) rfl
      · refine r_iconst (dt_Read_read.at 73 rfl) (-1) (by decide) ?_
        exact r_iret (dt_Read_read.at 74 rfl) rfl
    · refine r_aload_n (dt_Read_read.at 32 rfl) rfl ?_
      refine r_fI (dt_Read_read.at 33 rfl) fl_Read_38 rfl (fun x14 => ?_)
      refine r_if_ne (tgt := 140) (dt_Read_read.at 34 rfl) (by decide) ?_ ?_
      · refine r_aload_n (dt_Read_read.at 35 rfl) rfl ?_
        refine r_fI (dt_Read_read.at 36 rfl) fl_Read_50 rfl (fun x15 => ?_)
        refine r_if_eq (tgt := 140) (dt_Read_read.at 37 rfl) (by decide) ?_ ?_
        · refine r_aload_n (dt_Read_read.at 68 rfl) rfl ?_
          refine r_fI (dt_Read_read.at 69 rfl) fl_Read_38 rfl (fun x16 => ?_)
          refine r_if_ne (tgt := 151) (dt_Read_read.at 70 rfl) (by decide) ?_ ?_
          · refine r_iload_n (dt_Read_read.at 71 rfl) rfl ?_
            refine r_goto (tgt := 152) (dt_Read_read.at 72 rfl) (by decide) ?_
            exact r_iret (dt_Read_read.at 74 rfl) rfl
          · refine r_iconst (dt_Read_read.at 73 rfl) (-1) (by decide) ?_
            exact r_iret (dt_Read_read.at 74 rfl) rfl
        · refine r_aload_n (dt_Read_read.at 38 rfl) rfl ?_
          refine r_ldcS (dt_Read_read.at 39 rfl) 1 rfl ?_
          refine r_cvI (c := 4) (rest := []) (ct_Read_isWord v0 101 _) (dt_Read_read.at 40 rfl) mb_Read_isWord wd_371 wd_373 wp_6 rfl (by decide) rfl rfl (Nat.le_of_ble_eq_true rfl) (fun r18 M17 => ?_)
          refine r_if_eq (tgt := 88) (dt_Read_read.at 41 rfl) (by decide) ?_ ?_
          · refine r_aload_n (dt_Read_read.at 45 rfl) rfl ?_
            refine r_ldcS (dt_Read_read.at 46 rfl) 2 rfl ?_
            refine r_cvI (c := 4) (rest := []) (ct_Read_isWord v0 102 _) (dt_Read_read.at 47 rfl) mb_Read_isWord wd_371 wd_373 wp_6 rfl (by decide) rfl rfl (Nat.le_of_ble_eq_true rfl) (fun r20 M19 => ?_)
            refine r_if_eq (tgt := 104) (dt_Read_read.at 48 rfl) (by decide) ?_ ?_
            · refine r_aload_n (dt_Read_read.at 52 rfl) rfl ?_
              refine r_ldcS (dt_Read_read.at 53 rfl) 13 rfl ?_
              refine r_cvI (c := 4) (rest := []) (ct_Read_isWord v0 113 _) (dt_Read_read.at 54 rfl) mb_Read_isWord wd_371 wd_373 wp_6 rfl (by decide) rfl rfl (Nat.le_of_ble_eq_true rfl) (fun r22 M21 => ?_)
              refine r_if_eq (tgt := 120) (dt_Read_read.at 55 rfl) (by decide) ?_ ?_
              · refine r_aload_n (dt_Read_read.at 59 rfl) rfl ?_
                refine r_iconst (dt_Read_read.at 60 rfl) 1 (by decide) ?_
                refine r_cvV (c := 4) (rest := []) (ct_Read_fail v0 1 _) (dt_Read_read.at 61 rfl) mb_Read_fail wd_423 wd_425 wp_7 rfl (by decide) rfl rfl (Nat.le_of_ble_eq_true rfl) (fun M23 => ?_)
                refine r_aload_n (dt_Read_read.at 62 rfl) rfl ?_
                refine r_bipush (dt_Read_read.at 63 rfl) 59 (by decide) ?_
                refine r_cvV (c := 4) (rest := []) (ct_Read_needSign v0 59 _) (dt_Read_read.at 64 rfl) mb_Read_needSign wd_435 wd_437 wp_9 rfl (by decide) rfl rfl (Nat.le_of_ble_eq_true rfl) (fun M24 => ?_)
                refine r_iincn (v := 1) (dt_Read_read.at 65 rfl) (by decide) rfl (by decide) (fun y => [.ref v0, .retAddr 0, .retAddr 0, .int y, .int v4]) (fun _ => rfl) (fun x25 => ?_)
                refine r_iincn (v := 1) (dt_Read_read.at 66 rfl) (by decide) rfl (by decide) (fun y => [.ref v0, .retAddr 0, .retAddr 0, .int x25, .int y]) (fun _ => rfl) (fun x26 => ?_)
                refine r_goto (tgt := 50) (dt_Read_read.at 67 rfl) (by decide) ?_
                exact Rf.msk [true, false, false, true, true] (ih v0 x25 x26 M24)
              · refine r_aload_n (dt_Read_read.at 56 rfl) rfl ?_
                refine r_cvV (c := 4) (rest := []) (ct_Read_readSource v0 _) (dt_Read_read.at 57 rfl) mb_Read_readSource wd_481 wd_483 wp_15 rfl (by decide) rfl rfl (Nat.le_of_ble_eq_true rfl) (fun M27 => ?_)
                refine r_goto (tgt := 125) (dt_Read_read.at 58 rfl) (by decide) ?_
                refine r_aload_n (dt_Read_read.at 62 rfl) rfl ?_
                refine r_bipush (dt_Read_read.at 63 rfl) 59 (by decide) ?_
                refine r_cvV (c := 4) (rest := []) (ct_Read_needSign v0 59 _) (dt_Read_read.at 64 rfl) mb_Read_needSign wd_435 wd_437 wp_9 rfl (by decide) rfl rfl (Nat.le_of_ble_eq_true rfl) (fun M28 => ?_)
                refine r_iincn (v := 1) (dt_Read_read.at 65 rfl) (by decide) rfl (by decide) (fun y => [.ref v0, .retAddr 0, .retAddr 0, .int y, .int v4]) (fun _ => rfl) (fun x29 => ?_)
                refine r_iincn (v := 1) (dt_Read_read.at 66 rfl) (by decide) rfl (by decide) (fun y => [.ref v0, .retAddr 0, .retAddr 0, .int x29, .int y]) (fun _ => rfl) (fun x30 => ?_)
                refine r_goto (tgt := 50) (dt_Read_read.at 67 rfl) (by decide) ?_
                exact Rf.msk [true, false, false, true, true] (ih v0 x29 x30 M28)
            · refine r_aload_n (dt_Read_read.at 49 rfl) rfl ?_
              refine r_cvV (c := 4) (rest := []) (ct_Read_readKind v0 _) (dt_Read_read.at 50 rfl) mb_Read_readKind wd_446 wd_448 wp_11 rfl (by decide) rfl rfl (Nat.le_of_ble_eq_true rfl) (fun M31 => ?_)
              refine r_goto (tgt := 125) (dt_Read_read.at 51 rfl) (by decide) ?_
              refine r_aload_n (dt_Read_read.at 62 rfl) rfl ?_
              refine r_bipush (dt_Read_read.at 63 rfl) 59 (by decide) ?_
              refine r_cvV (c := 4) (rest := []) (ct_Read_needSign v0 59 _) (dt_Read_read.at 64 rfl) mb_Read_needSign wd_435 wd_437 wp_9 rfl (by decide) rfl rfl (Nat.le_of_ble_eq_true rfl) (fun M32 => ?_)
              refine r_iincn (v := 1) (dt_Read_read.at 65 rfl) (by decide) rfl (by decide) (fun y => [.ref v0, .retAddr 0, .retAddr 0, .int y, .int v4]) (fun _ => rfl) (fun x33 => ?_)
              refine r_iincn (v := 1) (dt_Read_read.at 66 rfl) (by decide) rfl (by decide) (fun y => [.ref v0, .retAddr 0, .retAddr 0, .int x33, .int y]) (fun _ => rfl) (fun x34 => ?_)
              refine r_goto (tgt := 50) (dt_Read_read.at 67 rfl) (by decide) ?_
              exact Rf.msk [true, false, false, true, true] (ih v0 x33 x34 M32)
          · refine r_aload_n (dt_Read_read.at 42 rfl) rfl ?_
            refine r_cvV (c := 4) (rest := []) (ct_Read_readSeed v0 _) (dt_Read_read.at 43 rfl) mb_Read_readSeed wd_440 wd_442 wp_10 rfl (by decide) rfl rfl (Nat.le_of_ble_eq_true rfl) (fun M35 => ?_)
            refine r_goto (tgt := 125) (dt_Read_read.at 44 rfl) (by decide) ?_
            refine r_aload_n (dt_Read_read.at 62 rfl) rfl ?_
            refine r_bipush (dt_Read_read.at 63 rfl) 59 (by decide) ?_
            refine r_cvV (c := 4) (rest := []) (ct_Read_needSign v0 59 _) (dt_Read_read.at 64 rfl) mb_Read_needSign wd_435 wd_437 wp_9 rfl (by decide) rfl rfl (Nat.le_of_ble_eq_true rfl) (fun M36 => ?_)
            refine r_iincn (v := 1) (dt_Read_read.at 65 rfl) (by decide) rfl (by decide) (fun y => [.ref v0, .retAddr 0, .retAddr 0, .int y, .int v4]) (fun _ => rfl) (fun x37 => ?_)
            refine r_iincn (v := 1) (dt_Read_read.at 66 rfl) (by decide) rfl (by decide) (fun y => [.ref v0, .retAddr 0, .retAddr 0, .int x37, .int y]) (fun _ => rfl) (fun x38 => ?_)
            refine r_goto (tgt := 50) (dt_Read_read.at 67 rfl) (by decide) ?_
            exact Rf.msk [true, false, false, true, true] (ih v0 x37 x38 M36)
      · refine r_aload_n (dt_Read_read.at 68 rfl) rfl ?_
        refine r_fI (dt_Read_read.at 69 rfl) fl_Read_38 rfl (fun x39 => ?_)
        refine r_if_ne (tgt := 151) (dt_Read_read.at 70 rfl) (by decide) ?_ ?_
        · refine r_iload_n (dt_Read_read.at 71 rfl) rfl ?_
          refine r_goto (tgt := 152) (dt_Read_read.at 72 rfl) (by decide) ?_
          exact r_iret (dt_Read_read.at 74 rfl) rfl
        · refine r_iconst (dt_Read_read.at 73 rfl) (-1) (by decide) ?_
          exact r_iret (dt_Read_read.at 74 rfl) rfl
set_option maxRecDepth 20000 in
set_option maxHeartbeats 2000000 in
theorem ct_Read_read {G : am_G} {l : Launch} (a0 : Nat) (p1 : Nat) (p2 : Int32) (M : am_M) : Ct G l y_Read_read X_Read_read [.ref a0, .ref p1, .int p2] M (F_Read_read a0 p1 p2 M) := by
  refine Ct.of (by decide +kernel) rfl rfl (Nat.le_of_ble_eq_true rfl) ?_
  unfold F_Read_read
  show Rf G l X_Read_read 0 [.ref a0, .ref p1, .int p2, .retAddr 0, .retAddr 0] [] M _
  refine r_aload_n (dt_Read_read.at 0 rfl) rfl ?_
  refine r_aload_n (dt_Read_read.at 1 rfl) rfl ?_
  refine r_sR (dt_Read_read.at 2 rfl) fl_Read_22 rfl (Or.inl rfl) (fun _ => rfl) (fun _ => rfl) (fun M1 => ?_)
  refine r_aload_n (dt_Read_read.at 3 rfl) rfl ?_
  refine r_iload_n (dt_Read_read.at 4 rfl) rfl ?_
  refine r_aload_n (dt_Read_read.at 5 rfl) rfl ?_
  refine r_aN (dt_Read_read.at 6 rfl) (fun x2 => ?_)
  refine r_csI (rest := [.ref a0]) (ct_Math_min p2 x2 _) (dt_Read_read.at 7 rfl) mb_Math_min wd_333 wd_334 (by decide) rfl rfl (Nat.le_of_ble_eq_true rfl) (fun r4 M3 => ?_)
  refine r_sI (dt_Read_read.at 8 rfl) fl_Read_32 rfl rfl rfl (fun M5 => ?_)
  refine r_aload_n (dt_Read_read.at 9 rfl) rfl ?_
  refine r_fR (dt_Read_read.at 10 rfl) fl_Read_12 rfl (fun b6 => ?_)
  refine r_cvV (c := 5) (rest := []) (ct_Scen_clear b6 _) (dt_Read_read.at 11 rfl) mb_Scen_clear wd_336 wd_337 wd_338 rfl (by decide) rfl rfl (Nat.le_of_ble_eq_true rfl) (fun M7 => ?_)
  refine r_aload_n (dt_Read_read.at 12 rfl) rfl ?_
  refine r_iconst (dt_Read_read.at 13 rfl) 0 (by decide) ?_
  refine r_sI (dt_Read_read.at 14 rfl) fl_Read_38 rfl rfl rfl (fun M8 => ?_)
  refine r_aload_n (dt_Read_read.at 15 rfl) rfl ?_
  refine r_iconst (dt_Read_read.at 16 rfl) (-1) (by decide) ?_
  refine r_sI (dt_Read_read.at 17 rfl) fl_Read_18 rfl rfl rfl (fun M9 => ?_)
  refine r_aload_n (dt_Read_read.at 18 rfl) rfl ?_
  refine r_iconst (dt_Read_read.at 19 rfl) 0 (by decide) ?_
  refine r_sI (dt_Read_read.at 20 rfl) fl_Read_41 rfl rfl rfl (fun M10 => ?_)
  refine r_aload_n (dt_Read_read.at 21 rfl) rfl ?_
  refine r_cvV (c := 4) (rest := []) (ct_Read_advance a0 _) (dt_Read_read.at 22 rfl) mb_Read_advance wd_343 wd_345 wp_1 rfl (by decide) rfl rfl (Nat.le_of_ble_eq_true rfl) (fun M11 => ?_)
  refine r_aload_n (dt_Read_read.at 23 rfl) rfl ?_
  refine r_cvV (c := 4) (rest := []) (ct_Read_readWorld a0 _) (dt_Read_read.at 24 rfl) mb_Read_readWorld wd_358 wd_360 wp_3 rfl (by decide) rfl rfl (Nat.le_of_ble_eq_true rfl) (fun M12 => ?_)
  refine r_iconst (dt_Read_read.at 25 rfl) 1 (by decide) ?_
  refine r_istore_n (ls' := [.ref a0, .ref p1, .int p2, .int 1, .retAddr 0]) (dt_Read_read.at 26 rfl) (by decide) rfl ?_
  refine r_iconst (dt_Read_read.at 27 rfl) 0 (by decide) ?_
  refine r_istore (ls' := [.ref a0, .ref p1, .int p2, .int 1, .int 0]) (dt_Read_read.at 28 rfl) (by decide) rfl ?_
  exact Rf.msk [true, false, false, true, true] (rf_Read_read_L50 fu a0 1 0 M12)
set_option maxRecDepth 20000 in
set_option maxHeartbeats 2000000 in
theorem ct_Scen_become {G : am_G} {l : Launch} (a0 : Nat) (p1 : Nat) (M : am_M) : Ct G l y_Scen_become X_Scen_become [.ref a0, .ref p1] M (F_Scen_become a0 p1 M) := by
  refine Ct.of (by decide +kernel) rfl rfl (Nat.le_of_ble_eq_true rfl) ?_
  unfold F_Scen_become
  show Rf G l X_Scen_become 0 [.ref a0, .ref p1] [] M _
  refine r_aload_n (dt_Scen_become.at 0 rfl) rfl ?_
  refine r_fR (dt_Scen_become.at 1 rfl) fl_Scen_9 rfl (fun b1 => ?_)
  refine r_iconst (dt_Scen_become.at 2 rfl) 0 (by decide) ?_
  refine r_aload_n (dt_Scen_become.at 3 rfl) rfl ?_
  refine r_fR (dt_Scen_become.at 4 rfl) fl_Scen_9 rfl (fun b2 => ?_)
  refine r_iconst (dt_Scen_become.at 5 rfl) 0 (by decide) ?_
  refine r_aload_n (dt_Scen_become.at 6 rfl) rfl ?_
  refine r_fR (dt_Scen_become.at 7 rfl) fl_Scen_9 rfl (fun b3 => ?_)
  refine r_aN (dt_Scen_become.at 8 rfl) (fun x4 => ?_)
  refine r_cpy (rest := []) (dt_Scen_become.at 9 rfl) wd_513 wd_515 wd_514 wd_17 (Nat.le_of_ble_eq_true rfl) (by decide) (fun M5 => ?_)
  refine r_aload_n (dt_Scen_become.at 10 rfl) rfl ?_
  refine r_fR (dt_Scen_become.at 11 rfl) fl_Scen_15 rfl (fun b6 => ?_)
  refine r_iconst (dt_Scen_become.at 12 rfl) 0 (by decide) ?_
  refine r_aload_n (dt_Scen_become.at 13 rfl) rfl ?_
  refine r_fR (dt_Scen_become.at 14 rfl) fl_Scen_15 rfl (fun b7 => ?_)
  refine r_iconst (dt_Scen_become.at 15 rfl) 0 (by decide) ?_
  refine r_aload_n (dt_Scen_become.at 16 rfl) rfl ?_
  refine r_fR (dt_Scen_become.at 17 rfl) fl_Scen_15 rfl (fun b8 => ?_)
  refine r_aN (dt_Scen_become.at 18 rfl) (fun x9 => ?_)
  refine r_cpy (rest := []) (dt_Scen_become.at 19 rfl) wd_513 wd_515 wd_514 wd_17 (Nat.le_of_ble_eq_true rfl) (by decide) (fun M10 => ?_)
  refine r_aload_n (dt_Scen_become.at 20 rfl) rfl ?_
  refine r_fR (dt_Scen_become.at 21 rfl) fl_Scen_18 rfl (fun b11 => ?_)
  refine r_iconst (dt_Scen_become.at 22 rfl) 0 (by decide) ?_
  refine r_aload_n (dt_Scen_become.at 23 rfl) rfl ?_
  refine r_fR (dt_Scen_become.at 24 rfl) fl_Scen_18 rfl (fun b12 => ?_)
  refine r_iconst (dt_Scen_become.at 25 rfl) 0 (by decide) ?_
  refine r_aload_n (dt_Scen_become.at 26 rfl) rfl ?_
  refine r_fR (dt_Scen_become.at 27 rfl) fl_Scen_18 rfl (fun b13 => ?_)
  refine r_aN (dt_Scen_become.at 28 rfl) (fun x14 => ?_)
  refine r_cpy (rest := []) (dt_Scen_become.at 29 rfl) wd_513 wd_515 wd_514 wd_17 (Nat.le_of_ble_eq_true rfl) (by decide) (fun M15 => ?_)
  refine r_aload_n (dt_Scen_become.at 30 rfl) rfl ?_
  refine r_aload_n (dt_Scen_become.at 31 rfl) rfl ?_
  refine r_fI (dt_Scen_become.at 32 rfl) fl_Scen_27 rfl (fun x16 => ?_)
  refine r_sI (dt_Scen_become.at 33 rfl) fl_Scen_27 rfl rfl rfl (fun M17 => ?_)
  refine r_aload_n (dt_Scen_become.at 34 rfl) rfl ?_
  refine r_aload_n (dt_Scen_become.at 35 rfl) rfl ?_
  refine r_fI (dt_Scen_become.at 36 rfl) fl_Scen_31 rfl (fun x18 => ?_)
  refine r_sI (dt_Scen_become.at 37 rfl) fl_Scen_31 rfl rfl rfl (fun M19 => ?_)
  refine r_aload_n (dt_Scen_become.at 38 rfl) rfl ?_
  refine r_aload_n (dt_Scen_become.at 39 rfl) rfl ?_
  refine r_fI (dt_Scen_become.at 40 rfl) fl_Scen_34 rfl (fun x20 => ?_)
  refine r_sI (dt_Scen_become.at 41 rfl) fl_Scen_34 rfl rfl rfl (fun M21 => ?_)
  refine r_aload_n (dt_Scen_become.at 42 rfl) rfl ?_
  refine r_iconst (dt_Scen_become.at 43 rfl) 1 (by decide) ?_
  refine r_sI (dt_Scen_become.at 44 rfl) fl_Scen_47 rfl rfl rfl (fun M22 => ?_)
  exact r_vret (dt_Scen_become.at 45 rfl) rfl
set_option maxRecDepth 20000 in
set_option maxHeartbeats 2000000 in
theorem ct_Hist_forget {G : am_G} {l : Launch} (a0 : Nat) (M : am_M) : Ct G l y_Hist_forget X_Hist_forget [.ref a0] M (F_Hist_forget a0 M) := by
  refine Ct.of (by decide +kernel) rfl rfl (Nat.le_of_ble_eq_true rfl) ?_
  unfold F_Hist_forget
  show Rf G l X_Hist_forget 0 [.ref a0] [] M _
  refine r_aload_n (dt_Hist_forget.at 0 rfl) rfl ?_
  refine r_iconst (dt_Hist_forget.at 1 rfl) 0 (by decide) ?_
  refine r_sI (dt_Hist_forget.at 2 rfl) fl_Hist_21 rfl rfl rfl (fun M1 => ?_)
  exact r_vret (dt_Hist_forget.at 3 rfl) rfl
set_option maxRecDepth 20000 in
set_option maxHeartbeats 2000000 in
theorem ct_Fram_forget {G : am_G} {l : Launch} (a0 : Nat) (M : am_M) : Ct G l y_Fram_forget X_Fram_forget [.ref a0] M (F_Fram_forget a0 M) := by
  refine Ct.of (by decide +kernel) rfl rfl (Nat.le_of_ble_eq_true rfl) ?_
  unfold F_Fram_forget
  show Rf G l X_Fram_forget 0 [.ref a0] [] M _
  refine r_aload_n (dt_Fram_forget.at 0 rfl) rfl ?_
  refine r_iconst (dt_Fram_forget.at 1 rfl) (-1) (by decide) ?_
  refine r_sI (dt_Fram_forget.at 2 rfl) fl_Fram_21 rfl rfl rfl (fun M1 => ?_)
  exact r_vret (dt_Fram_forget.at 3 rfl) rfl
set_option maxRecDepth 20000 in
set_option maxHeartbeats 2000000 in
theorem ct_NS_scene {G : am_G} {l : Launch} (a0 : Nat) (M : am_M) : Ct G l y_NS_scene X_NS_scene [.ref a0] M (F_NS_scene a0 M) := by
  refine Ct.of (by decide +kernel) rfl rfl (Nat.le_of_ble_eq_true rfl) ?_
  unfold F_NS_scene
  show Rf G l X_NS_scene 0 [.ref a0, .retAddr 0] [] M _
  refine r_aload_n (dt_NS_scene.at 0 rfl) rfl ?_
  refine r_fR (dt_NS_scene.at 1 rfl) fl_NS_23 rfl (fun b1 => ?_)
  refine r_aload_n (dt_NS_scene.at 2 rfl) rfl ?_
  refine r_fR (dt_NS_scene.at 3 rfl) fl_NS_9 rfl (fun b2 => ?_)
  refine r_aload_n (dt_NS_scene.at 4 rfl) rfl ?_
  refine r_fI (dt_NS_scene.at 5 rfl) fl_NS_72 rfl (fun x3 => ?_)
  refine r_cvI (c := 4) (rest := []) (ct_Read_read b1 b2 x3 _) (dt_NS_scene.at 6 rfl) mb_Read_read wd_329 wd_330 wd_331 rfl (by decide) rfl rfl (Nat.le_of_ble_eq_true rfl) (fun r5 M4 => ?_)
  refine r_istore_n (ls' := [.ref a0, .int r5]) (dt_NS_scene.at 7 rfl) (by decide) rfl ?_
  refine r_aload_n (dt_NS_scene.at 8 rfl) rfl ?_
  refine r_iconst (dt_NS_scene.at 9 rfl) 0 (by decide) ?_
  refine r_sI (dt_NS_scene.at 10 rfl) fl_NS_72 rfl rfl rfl (fun M6 => ?_)
  refine r_iload_n (dt_NS_scene.at 11 rfl) rfl ?_
  refine r_if_ge (tgt := 28) (dt_NS_scene.at 12 rfl) (by decide) ?_ ?_
  · refine r_aload_n (dt_NS_scene.at 15 rfl) rfl ?_
    refine r_fR (dt_NS_scene.at 16 rfl) fl_NS_16 rfl (fun b7 => ?_)
    refine r_aload_n (dt_NS_scene.at 17 rfl) rfl ?_
    refine r_fR (dt_NS_scene.at 18 rfl) fl_NS_23 rfl (fun b8 => ?_)
    refine r_fR (dt_NS_scene.at 19 rfl) fl_NS_84 rfl (fun b9 => ?_)
    refine r_cvV (c := 5) (rest := []) (ct_Scen_become b7 b9 _) (dt_NS_scene.at 20 rfl) mb_Scen_become wd_509 wd_510 wd_511 rfl (by decide) rfl rfl (Nat.le_of_ble_eq_true rfl) (fun M10 => ?_)
    refine r_aload_n (dt_NS_scene.at 21 rfl) rfl ?_
    refine r_fR (dt_NS_scene.at 22 rfl) fl_NS_30 rfl (fun b11 => ?_)
    refine r_cvV (c := 2) (rest := []) (ct_Hist_forget b11 _) (dt_NS_scene.at 23 rfl) mb_Hist_forget wd_516 wd_517 wd_518 rfl (by decide) rfl rfl (Nat.le_of_ble_eq_true rfl) (fun M12 => ?_)
    refine r_aload_n (dt_NS_scene.at 24 rfl) rfl ?_
    refine r_fR (dt_NS_scene.at 25 rfl) fl_NS_55 rfl (fun b13 => ?_)
    refine r_cvV (c := 1) (rest := []) (ct_Fram_forget b13 _) (dt_NS_scene.at 26 rfl) mb_Fram_forget wd_520 wd_521 wd_522 rfl (by decide) rfl rfl (Nat.le_of_ble_eq_true rfl) (fun M14 => ?_)
    refine r_iload_n (dt_NS_scene.at 27 rfl) rfl ?_
    exact r_iret (dt_NS_scene.at 28 rfl) rfl
  · refine r_bipush (dt_NS_scene.at 13 rfl) (-4) (by decide) ?_
    exact r_iret (dt_NS_scene.at 14 rfl) rfl
set_option maxRecDepth 20000 in
set_option maxHeartbeats 2000000 in
theorem ct_NS_fault {G : am_G} {l : Launch} (a0 : Nat) (p1 : Int32) (M : am_M) : Ct G l y_NS_fault X_NS_fault [.ref a0, .int p1] M (F_NS_fault a0 p1 M) := by
  refine Ct.of (by decide +kernel) rfl rfl (Nat.le_of_ble_eq_true rfl) ?_
  unfold F_NS_fault
  show Rf G l X_NS_fault 0 [.ref a0, .int p1] [] M _
  refine r_iload_n (dt_NS_fault.at 0 rfl) rfl ?_
  refine r_if_ne (tgt := 12) (dt_NS_fault.at 1 rfl) (by decide) ?_ ?_
  · refine r_aload_n (dt_NS_fault.at 2 rfl) rfl ?_
    refine r_fR (dt_NS_fault.at 3 rfl) fl_NS_23 rfl (fun b1 => ?_)
    refine r_fI (dt_NS_fault.at 4 rfl) fl_NS_94 rfl (fun x2 => ?_)
    exact r_iret (dt_NS_fault.at 5 rfl) rfl
  · refine r_iload_n (dt_NS_fault.at 6 rfl) rfl ?_
    refine r_iconst (dt_NS_fault.at 7 rfl) 1 (by decide) ?_
    refine r_icmp_ne (tgt := 27) (dt_NS_fault.at 8 rfl) (by decide) ?_ ?_
    · refine r_aload_n (dt_NS_fault.at 9 rfl) rfl ?_
      refine r_fR (dt_NS_fault.at 10 rfl) fl_NS_23 rfl (fun b3 => ?_)
      refine r_fI (dt_NS_fault.at 11 rfl) fl_NS_97 rfl (fun x4 => ?_)
      refine r_goto (tgt := 28) (dt_NS_fault.at 12 rfl) (by decide) ?_
      exact r_iret (dt_NS_fault.at 14 rfl) rfl
    · refine r_iconst (dt_NS_fault.at 13 rfl) (-1) (by decide) ?_
      exact r_iret (dt_NS_fault.at 14 rfl) rfl
set_option maxRecDepth 20000 in
set_option maxHeartbeats 2000000 in
theorem ct_NS_count {G : am_G} {l : Launch} (a0 : Nat) (p1 : Int32) (M : am_M) : Ct G l y_NS_count X_NS_count [.ref a0, .int p1] M (F_NS_count a0 p1 M) := by
  refine Ct.of (by decide +kernel) rfl rfl (Nat.le_of_ble_eq_true rfl) ?_
  unfold F_NS_count
  show Rf G l X_NS_count 0 [.ref a0, .int p1] [] M _
  refine r_iload_n (dt_NS_count.at 0 rfl) rfl ?_
  refine Rf.ite (fun h0 => ?_) (fun h0 => ?_)
  · refine r_tsIn (tgt := 48) (dt_NS_count.at 1 rfl) (by rw [h0]; decide) (by rw [h0]; decide) (by rw [h0]; rfl) (by decide) ?_
    refine r_aload_n (dt_NS_count.at 2 rfl) rfl ?_
    refine r_fR (dt_NS_count.at 3 rfl) fl_NS_16 rfl (fun b1 => ?_)
    refine r_iload_n (dt_NS_count.at 4 rfl) rfl ?_
    refine r_cvI (c := 5) (rest := []) (ct_Scen_cellsAlong b1 p1 _) (dt_NS_count.at 5 rfl) mb_Scen_cellsAlong wd_533 wd_491 wd_492 rfl (by decide) rfl rfl (Nat.le_of_ble_eq_true rfl) (fun r3 M2 => ?_)
    exact r_iret (dt_NS_count.at 6 rfl) rfl
  refine Rf.ite (fun h1 => ?_) (fun h1 => ?_)
  · refine r_tsIn (tgt := 48) (dt_NS_count.at 1 rfl) (by rw [h1]; decide) (by rw [h1]; decide) (by rw [h1]; rfl) (by decide) ?_
    refine r_aload_n (dt_NS_count.at 2 rfl) rfl ?_
    refine r_fR (dt_NS_count.at 3 rfl) fl_NS_16 rfl (fun b4 => ?_)
    refine r_iload_n (dt_NS_count.at 4 rfl) rfl ?_
    refine r_cvI (c := 5) (rest := []) (ct_Scen_cellsAlong b4 p1 _) (dt_NS_count.at 5 rfl) mb_Scen_cellsAlong wd_533 wd_491 wd_492 rfl (by decide) rfl rfl (Nat.le_of_ble_eq_true rfl) (fun r6 M5 => ?_)
    exact r_iret (dt_NS_count.at 6 rfl) rfl
  refine Rf.ite (fun h2 => ?_) (fun h2 => ?_)
  · refine r_tsIn (tgt := 48) (dt_NS_count.at 1 rfl) (by rw [h2]; decide) (by rw [h2]; decide) (by rw [h2]; rfl) (by decide) ?_
    refine r_aload_n (dt_NS_count.at 2 rfl) rfl ?_
    refine r_fR (dt_NS_count.at 3 rfl) fl_NS_16 rfl (fun b7 => ?_)
    refine r_iload_n (dt_NS_count.at 4 rfl) rfl ?_
    refine r_cvI (c := 5) (rest := []) (ct_Scen_cellsAlong b7 p1 _) (dt_NS_count.at 5 rfl) mb_Scen_cellsAlong wd_533 wd_491 wd_492 rfl (by decide) rfl rfl (Nat.le_of_ble_eq_true rfl) (fun r9 M8 => ?_)
    exact r_iret (dt_NS_count.at 6 rfl) rfl
  refine Rf.ite (fun h3 => ?_) (fun h3 => ?_)
  · refine r_tsIn (tgt := 57) (dt_NS_count.at 1 rfl) (by rw [h3]; decide) (by rw [h3]; decide) (by rw [h3]; rfl) (by decide) ?_
    refine r_aload_n (dt_NS_count.at 7 rfl) rfl ?_
    refine r_fR (dt_NS_count.at 8 rfl) fl_NS_16 rfl (fun b10 => ?_)
    refine r_fI (dt_NS_count.at 9 rfl) fl_NS_104 rfl (fun x11 => ?_)
    exact r_iret (dt_NS_count.at 10 rfl) rfl
  refine Rf.ite (fun h4 => ?_) (fun h4 => ?_)
  · refine r_tsIn (tgt := 65) (dt_NS_count.at 1 rfl) (by rw [h4]; decide) (by rw [h4]; decide) (by rw [h4]; rfl) (by decide) ?_
    refine r_aload_n (dt_NS_count.at 11 rfl) rfl ?_
    refine r_fR (dt_NS_count.at 12 rfl) fl_NS_16 rfl (fun b12 => ?_)
    refine r_fI (dt_NS_count.at 13 rfl) fl_NS_107 rfl (fun x13 => ?_)
    exact r_iret (dt_NS_count.at 14 rfl) rfl
  refine Rf.ite (fun h5 => ?_) (fun h5 => ?_)
  · refine r_tsIn (tgt := 73) (dt_NS_count.at 1 rfl) (by rw [h5]; decide) (by rw [h5]; decide) (by rw [h5]; rfl) (by decide) ?_
    refine r_aload_n (dt_NS_count.at 15 rfl) rfl ?_
    refine r_fR (dt_NS_count.at 16 rfl) fl_NS_16 rfl (fun b14 => ?_)
    refine r_fI (dt_NS_count.at 17 rfl) fl_NS_110 rfl (fun x15 => ?_)
    exact r_iret (dt_NS_count.at 18 rfl) rfl
  refine Rf.ite (fun h6 => ?_) (fun h6 => ?_)
  · refine r_tsIn (tgt := 81) (dt_NS_count.at 1 rfl) (by rw [h6]; decide) (by rw [h6]; decide) (by rw [h6]; rfl) (by decide) ?_
    refine r_aload_n (dt_NS_count.at 19 rfl) rfl ?_
    refine r_fI (dt_NS_count.at 20 rfl) fl_NS_72 rfl (fun x16 => ?_)
    exact r_iret (dt_NS_count.at 21 rfl) rfl
  refine Rf.ite (fun h7 => ?_) (fun h7 => ?_)
  · refine r_tsIn (tgt := 86) (dt_NS_count.at 1 rfl) (by rw [h7]; decide) (by rw [h7]; decide) (by rw [h7]; rfl) (by decide) ?_
    refine r_aload_n (dt_NS_count.at 22 rfl) rfl ?_
    refine r_fR (dt_NS_count.at 23 rfl) fl_NS_37 rfl (fun b17 => ?_)
    refine r_fI (dt_NS_count.at 24 rfl) fl_NS_113 rfl (fun x18 => ?_)
    exact r_iret (dt_NS_count.at 25 rfl) rfl
  refine r_tsOut (tgt := 94) (dt_NS_count.at 1 rfl) (by have g0 := swn (k := 0) (v := 0) (by decide) h0; have g1 := swn (k := 1) (v := 1) (by decide) h1; have g2 := swn (k := 2) (v := 2) (by decide) h2; have g3 := swn (k := 3) (v := 3) (by decide) h3; have g4 := swn (k := 4) (v := 4) (by decide) h4; have g5 := swn (k := 5) (v := 5) (by decide) h5; have g6 := swn (k := 6) (v := 6) (by decide) h6; have g7 := swn (k := 7) (v := 7) (by decide) h7; omega) (by decide) ?_
  refine r_iconst (dt_NS_count.at 26 rfl) (-1) (by decide) ?_
  exact r_iret (dt_NS_count.at 27 rfl) rfl
set_option maxRecDepth 20000 in
set_option maxHeartbeats 2000000 in
theorem ct_Scen_isKind {G : am_G} {l : Launch} (a0 : Nat) (p1 : Int32) (M : am_M) : Ct G l y_Scen_isKind X_Scen_isKind [.ref a0, .int p1] M (F_Scen_isKind a0 p1 M) := by
  refine Ct.of (by decide +kernel) rfl rfl (Nat.le_of_ble_eq_true rfl) ?_
  unfold F_Scen_isKind
  show Rf G l X_Scen_isKind 0 [.ref a0, .int p1] [] M _
  refine r_iload_n (dt_Scen_isKind.at 0 rfl) rfl ?_
  refine r_if_lt (tgt := 16) (dt_Scen_isKind.at 1 rfl) (by decide) ?_ ?_
  · refine r_iconst (dt_Scen_isKind.at 8 rfl) 0 (by decide) ?_
    exact r_zret (dt_Scen_isKind.at 9 rfl) rfl rfl
  · refine r_iload_n (dt_Scen_isKind.at 2 rfl) rfl ?_
    refine r_aload_n (dt_Scen_isKind.at 3 rfl) rfl ?_
    refine r_fI (dt_Scen_isKind.at 4 rfl) fl_Scen_27 rfl (fun x1 => ?_)
    refine r_icmp_ge (tgt := 16) (dt_Scen_isKind.at 5 rfl) (by decide) ?_ ?_
    · refine r_iconst (dt_Scen_isKind.at 8 rfl) 0 (by decide) ?_
      exact r_zret (dt_Scen_isKind.at 9 rfl) rfl rfl
    · refine r_iconst (dt_Scen_isKind.at 6 rfl) 1 (by decide) ?_
      refine r_goto (tgt := 17) (dt_Scen_isKind.at 7 rfl) (by decide) ?_
      exact r_zret (dt_Scen_isKind.at 9 rfl) rfl rfl
set_option maxRecDepth 20000 in
set_option maxHeartbeats 2000000 in
theorem ct_NS_kind {G : am_G} {l : Launch} (a0 : Nat) (p1 : Int32) (p2 : Int32) (M : am_M) : Ct G l y_NS_kind X_NS_kind [.ref a0, .int p1, .int p2] M (F_NS_kind a0 p1 p2 M) := by
  refine Ct.of (by decide +kernel) rfl rfl (Nat.le_of_ble_eq_true rfl) ?_
  unfold F_NS_kind
  show Rf G l X_NS_kind 0 [.ref a0, .int p1, .int p2] [] M _
  refine r_aload_n (dt_NS_kind.at 0 rfl) rfl ?_
  refine r_fR (dt_NS_kind.at 1 rfl) fl_NS_16 rfl (fun b1 => ?_)
  refine r_iload_n (dt_NS_kind.at 2 rfl) rfl ?_
  refine r_cvI (c := 5) (rest := []) (ct_Scen_isKind b1 p1 _) (dt_NS_kind.at 3 rfl) mb_Scen_isKind wd_538 wd_539 wd_540 rfl (by decide) rfl rfl (Nat.le_of_ble_eq_true rfl) (fun r3 M2 => ?_)
  refine r_if_eq (tgt := 21) (dt_NS_kind.at 4 rfl) (by decide) ?_ ?_
  · refine r_bipush (dt_NS_kind.at 10 rfl) (-99) (by decide) ?_
    exact r_iret (dt_NS_kind.at 11 rfl) rfl
  · refine r_iload_n (dt_NS_kind.at 5 rfl) rfl ?_
    refine r_if_lt (tgt := 21) (dt_NS_kind.at 6 rfl) (by decide) ?_ ?_
    · refine r_bipush (dt_NS_kind.at 10 rfl) (-99) (by decide) ?_
      exact r_iret (dt_NS_kind.at 11 rfl) rfl
    · refine r_iload_n (dt_NS_kind.at 7 rfl) rfl ?_
      refine r_bipush (dt_NS_kind.at 8 rfl) 8 (by decide) ?_
      refine r_icmp_lt (tgt := 24) (dt_NS_kind.at 9 rfl) (by decide) ?_ ?_
      · refine r_aload_n (dt_NS_kind.at 12 rfl) rfl ?_
        refine r_fR (dt_NS_kind.at 13 rfl) fl_NS_16 rfl (fun b4 => ?_)
        refine r_iload_n (dt_NS_kind.at 14 rfl) rfl ?_
        refine r_iload_n (dt_NS_kind.at 15 rfl) rfl ?_
        refine r_cvI (c := 5) (rest := []) (ct_Scen_ofKind b4 p1 p2 _) (dt_NS_kind.at 16 rfl) mb_Scen_ofKind wd_542 wd_476 wd_477 rfl (by decide) rfl rfl (Nat.le_of_ble_eq_true rfl) (fun r6 M5 => ?_)
        exact r_iret (dt_NS_kind.at 17 rfl) rfl
      · refine r_bipush (dt_NS_kind.at 10 rfl) (-99) (by decide) ?_
        exact r_iret (dt_NS_kind.at 11 rfl) rfl
set_option maxRecDepth 20000 in
set_option maxHeartbeats 2000000 in
theorem ct_Scen_isSource {G : am_G} {l : Launch} (a0 : Nat) (p1 : Int32) (M : am_M) : Ct G l y_Scen_isSource X_Scen_isSource [.ref a0, .int p1] M (F_Scen_isSource a0 p1 M) := by
  refine Ct.of (by decide +kernel) rfl rfl (Nat.le_of_ble_eq_true rfl) ?_
  unfold F_Scen_isSource
  show Rf G l X_Scen_isSource 0 [.ref a0, .int p1] [] M _
  refine r_iload_n (dt_Scen_isSource.at 0 rfl) rfl ?_
  refine r_if_lt (tgt := 16) (dt_Scen_isSource.at 1 rfl) (by decide) ?_ ?_
  · refine r_iconst (dt_Scen_isSource.at 8 rfl) 0 (by decide) ?_
    exact r_zret (dt_Scen_isSource.at 9 rfl) rfl rfl
  · refine r_iload_n (dt_Scen_isSource.at 2 rfl) rfl ?_
    refine r_aload_n (dt_Scen_isSource.at 3 rfl) rfl ?_
    refine r_fI (dt_Scen_isSource.at 4 rfl) fl_Scen_31 rfl (fun x1 => ?_)
    refine r_icmp_ge (tgt := 16) (dt_Scen_isSource.at 5 rfl) (by decide) ?_ ?_
    · refine r_iconst (dt_Scen_isSource.at 8 rfl) 0 (by decide) ?_
      exact r_zret (dt_Scen_isSource.at 9 rfl) rfl rfl
    · refine r_iconst (dt_Scen_isSource.at 6 rfl) 1 (by decide) ?_
      refine r_goto (tgt := 17) (dt_Scen_isSource.at 7 rfl) (by decide) ?_
      exact r_zret (dt_Scen_isSource.at 9 rfl) rfl rfl
set_option maxRecDepth 20000 in
set_option maxHeartbeats 2000000 in
theorem ct_NS_source {G : am_G} {l : Launch} (a0 : Nat) (p1 : Int32) (p2 : Int32) (M : am_M) : Ct G l y_NS_source X_NS_source [.ref a0, .int p1, .int p2] M (F_NS_source a0 p1 p2 M) := by
  refine Ct.of (by decide +kernel) rfl rfl (Nat.le_of_ble_eq_true rfl) ?_
  unfold F_NS_source
  show Rf G l X_NS_source 0 [.ref a0, .int p1, .int p2] [] M _
  refine r_aload_n (dt_NS_source.at 0 rfl) rfl ?_
  refine r_fR (dt_NS_source.at 1 rfl) fl_NS_16 rfl (fun b1 => ?_)
  refine r_iload_n (dt_NS_source.at 2 rfl) rfl ?_
  refine r_cvI (c := 5) (rest := []) (ct_Scen_isSource b1 p1 _) (dt_NS_source.at 3 rfl) mb_Scen_isSource wd_547 wd_548 wd_549 rfl (by decide) rfl rfl (Nat.le_of_ble_eq_true rfl) (fun r3 M2 => ?_)
  refine r_if_eq (tgt := 21) (dt_NS_source.at 4 rfl) (by decide) ?_ ?_
  · refine r_bipush (dt_NS_source.at 10 rfl) (-2) (by decide) ?_
    exact r_iret (dt_NS_source.at 11 rfl) rfl
  · refine r_iload_n (dt_NS_source.at 5 rfl) rfl ?_
    refine r_if_lt (tgt := 21) (dt_NS_source.at 6 rfl) (by decide) ?_ ?_
    · refine r_bipush (dt_NS_source.at 10 rfl) (-2) (by decide) ?_
      exact r_iret (dt_NS_source.at 11 rfl) rfl
    · refine r_iload_n (dt_NS_source.at 7 rfl) rfl ?_
      refine r_bipush (dt_NS_source.at 8 rfl) 10 (by decide) ?_
      refine r_icmp_lt (tgt := 24) (dt_NS_source.at 9 rfl) (by decide) ?_ ?_
      · refine r_aload_n (dt_NS_source.at 12 rfl) rfl ?_
        refine r_fR (dt_NS_source.at 13 rfl) fl_NS_16 rfl (fun b4 => ?_)
        refine r_iload_n (dt_NS_source.at 14 rfl) rfl ?_
        refine r_iload_n (dt_NS_source.at 15 rfl) rfl ?_
        refine r_cvI (c := 5) (rest := []) (ct_Scen_ofSource b4 p1 p2 _) (dt_NS_source.at 16 rfl) mb_Scen_ofSource wd_551 wd_500 wd_501 rfl (by decide) rfl rfl (Nat.le_of_ble_eq_true rfl) (fun r6 M5 => ?_)
        exact r_iret (dt_NS_source.at 17 rfl) rfl
      · refine r_bipush (dt_NS_source.at 10 rfl) (-2) (by decide) ?_
        exact r_iret (dt_NS_source.at 11 rfl) rfl
set_option maxRecDepth 20000 in
set_option maxHeartbeats 2000000 in
theorem rf_Hist_remember_L60 {G : am_G} {l : Launch}   (v0 : Nat) (v1 : Int32) (v2 : Int32) (v3 : Int32) (M : am_M) : Rf G l X_Hist_remember 60 [.ref v0, .int v1, .int v2, .int v3] [] M (F_Hist_remember_L60 v0 v1 v2 v3 M) := by
  unfold F_Hist_remember_L60
  refine r_aload_n (dt_Hist_remember.at 31 rfl) rfl ?_
  refine r_fR (dt_Hist_remember.at 32 rfl) fl_Hist_11 rfl (fun b2 => ?_)
  refine r_aload_n (dt_Hist_remember.at 33 rfl) rfl ?_
  refine r_fI (dt_Hist_remember.at 34 rfl) fl_Hist_21 rfl (fun x3 => ?_)
  refine r_iload_n (dt_Hist_remember.at 35 rfl) rfl ?_
  refine r_tI (dt_Hist_remember.at 36 rfl) (fun M4 => ?_)
  refine r_aload_n (dt_Hist_remember.at 37 rfl) rfl ?_
  refine r_fR (dt_Hist_remember.at 38 rfl) fl_Hist_15 rfl (fun b5 => ?_)
  refine r_aload_n (dt_Hist_remember.at 39 rfl) rfl ?_
  refine r_fI (dt_Hist_remember.at 40 rfl) fl_Hist_21 rfl (fun x6 => ?_)
  refine r_iload_n (dt_Hist_remember.at 41 rfl) rfl ?_
  refine r_tI (dt_Hist_remember.at 42 rfl) (fun M7 => ?_)
  refine r_aload_n (dt_Hist_remember.at 43 rfl) rfl ?_
  refine r_fR (dt_Hist_remember.at 44 rfl) fl_Hist_18 rfl (fun b8 => ?_)
  refine r_aload_n (dt_Hist_remember.at 45 rfl) rfl ?_
  refine r_fI (dt_Hist_remember.at 46 rfl) fl_Hist_21 rfl (fun x9 => ?_)
  refine r_iload_n (dt_Hist_remember.at 47 rfl) rfl ?_
  refine r_tI (dt_Hist_remember.at 48 rfl) (fun M10 => ?_)
  refine r_aload_n (dt_Hist_remember.at 49 rfl) rfl ?_
  refine r_dup (dt_Hist_remember.at 50 rfl) rfl ?_
  refine r_fI (dt_Hist_remember.at 51 rfl) fl_Hist_21 rfl (fun x11 => ?_)
  refine r_iconst (dt_Hist_remember.at 52 rfl) 1 (by decide) ?_
  refine r_iadd (dt_Hist_remember.at 53 rfl) ?_
  refine r_sI (dt_Hist_remember.at 54 rfl) fl_Hist_21 rfl rfl rfl (fun M12 => ?_)
  exact r_vret (dt_Hist_remember.at 55 rfl) rfl
set_option maxRecDepth 20000 in
set_option maxHeartbeats 2000000 in
theorem ct_Hist_remember {G : am_G} {l : Launch} (a0 : Nat) (p1 : Int32) (p2 : Int32) (p3 : Int32) (M : am_M) : Ct G l y_Hist_remember X_Hist_remember [.ref a0, .int p1, .int p2, .int p3] M (F_Hist_remember a0 p1 p2 p3 M) := by
  refine Ct.of (by decide +kernel) rfl rfl (Nat.le_of_ble_eq_true rfl) ?_
  unfold F_Hist_remember
  show Rf G l X_Hist_remember 0 [.ref a0, .int p1, .int p2, .int p3] [] M _
  refine r_aload_n (dt_Hist_remember.at 0 rfl) rfl ?_
  refine r_fI (dt_Hist_remember.at 1 rfl) fl_Hist_21 rfl (fun x1 => ?_)
  refine r_bipush (dt_Hist_remember.at 2 rfl) 10 (by decide) ?_
  refine r_icmp_lt (tgt := 60) (dt_Hist_remember.at 3 rfl) (by decide) ?_ ?_
  · exact Rf.msk [true, true, true, true] (rf_Hist_remember_L60 a0 p1 p2 p3 M)
  · refine r_aload_n (dt_Hist_remember.at 4 rfl) rfl ?_
    refine r_fR (dt_Hist_remember.at 5 rfl) fl_Hist_11 rfl (fun b13 => ?_)
    refine r_iconst (dt_Hist_remember.at 6 rfl) 1 (by decide) ?_
    refine r_aload_n (dt_Hist_remember.at 7 rfl) rfl ?_
    refine r_fR (dt_Hist_remember.at 8 rfl) fl_Hist_11 rfl (fun b14 => ?_)
    refine r_iconst (dt_Hist_remember.at 9 rfl) 0 (by decide) ?_
    refine r_bipush (dt_Hist_remember.at 10 rfl) 9 (by decide) ?_
    refine r_cpy (rest := []) (dt_Hist_remember.at 11 rfl) wd_561 wd_515 wd_514 wd_17 (Nat.le_of_ble_eq_true rfl) (by decide) (fun M15 => ?_)
    refine r_aload_n (dt_Hist_remember.at 12 rfl) rfl ?_
    refine r_fR (dt_Hist_remember.at 13 rfl) fl_Hist_15 rfl (fun b16 => ?_)
    refine r_iconst (dt_Hist_remember.at 14 rfl) 1 (by decide) ?_
    refine r_aload_n (dt_Hist_remember.at 15 rfl) rfl ?_
    refine r_fR (dt_Hist_remember.at 16 rfl) fl_Hist_15 rfl (fun b17 => ?_)
    refine r_iconst (dt_Hist_remember.at 17 rfl) 0 (by decide) ?_
    refine r_bipush (dt_Hist_remember.at 18 rfl) 9 (by decide) ?_
    refine r_cpy (rest := []) (dt_Hist_remember.at 19 rfl) wd_561 wd_515 wd_514 wd_17 (Nat.le_of_ble_eq_true rfl) (by decide) (fun M18 => ?_)
    refine r_aload_n (dt_Hist_remember.at 20 rfl) rfl ?_
    refine r_fR (dt_Hist_remember.at 21 rfl) fl_Hist_18 rfl (fun b19 => ?_)
    refine r_iconst (dt_Hist_remember.at 22 rfl) 1 (by decide) ?_
    refine r_aload_n (dt_Hist_remember.at 23 rfl) rfl ?_
    refine r_fR (dt_Hist_remember.at 24 rfl) fl_Hist_18 rfl (fun b20 => ?_)
    refine r_iconst (dt_Hist_remember.at 25 rfl) 0 (by decide) ?_
    refine r_bipush (dt_Hist_remember.at 26 rfl) 9 (by decide) ?_
    refine r_cpy (rest := []) (dt_Hist_remember.at 27 rfl) wd_561 wd_515 wd_514 wd_17 (Nat.le_of_ble_eq_true rfl) (by decide) (fun M21 => ?_)
    refine r_aload_n (dt_Hist_remember.at 28 rfl) rfl ?_
    refine r_bipush (dt_Hist_remember.at 29 rfl) 9 (by decide) ?_
    refine r_sI (dt_Hist_remember.at 30 rfl) fl_Hist_21 rfl rfl rfl (fun M22 => ?_)
    exact Rf.msk [true, true, true, true] (rf_Hist_remember_L60 a0 p1 p2 p3 M22)
set_option maxRecDepth 20000 in
set_option maxHeartbeats 2000000 in
theorem ct_NS_seed {G : am_G} {l : Launch} (a0 : Nat) (p1 : Int32) (M : am_M) : Ct G l y_NS_seed X_NS_seed [.ref a0, .int p1] M (F_NS_seed a0 p1 M) := by
  refine Ct.of (by decide +kernel) rfl rfl (Nat.le_of_ble_eq_true rfl) ?_
  unfold F_NS_seed
  show Rf G l X_NS_seed 0 [.ref a0, .int p1, .retAddr 0] [] M _
  refine r_aload_n (dt_NS_seed.at 0 rfl) rfl ?_
  refine r_fR (dt_NS_seed.at 1 rfl) fl_NS_16 rfl (fun b1 => ?_)
  refine r_fI (dt_NS_seed.at 2 rfl) fl_NS_130 rfl (fun x2 => ?_)
  refine r_if_eq (tgt := 20) (dt_NS_seed.at 3 rfl) (by decide) ?_ ?_
  · refine r_bipush (dt_NS_seed.at 9 rfl) (-2) (by decide) ?_
    exact r_iret (dt_NS_seed.at 10 rfl) rfl
  · refine r_iload_n (dt_NS_seed.at 4 rfl) rfl ?_
    refine r_if_lt (tgt := 20) (dt_NS_seed.at 5 rfl) (by decide) ?_ ?_
    · refine r_bipush (dt_NS_seed.at 9 rfl) (-2) (by decide) ?_
      exact r_iret (dt_NS_seed.at 10 rfl) rfl
    · refine r_iload_n (dt_NS_seed.at 6 rfl) rfl ?_
      refine r_ldc (dt_NS_seed.at 7 rfl) 999999 wd_556 ?_
      refine r_icmp_le (tgt := 23) (dt_NS_seed.at 8 rfl) (by decide) ?_ ?_
      · refine r_aload_n (dt_NS_seed.at 11 rfl) rfl ?_
        refine r_fR (dt_NS_seed.at 12 rfl) fl_NS_16 rfl (fun b3 => ?_)
        refine r_fI (dt_NS_seed.at 13 rfl) fl_NS_110 rfl (fun x4 => ?_)
        refine r_istore_n (ls' := [.ref a0, .int p1, .int x4]) (dt_NS_seed.at 14 rfl) (by decide) rfl ?_
        refine r_iload_n (dt_NS_seed.at 15 rfl) rfl ?_
        refine r_iload_n (dt_NS_seed.at 16 rfl) rfl ?_
        refine r_icmp_eq (tgt := 61) (dt_NS_seed.at 17 rfl) (by decide) ?_ ?_
        · refine r_iload_n (dt_NS_seed.at 31 rfl) rfl ?_
          exact r_iret (dt_NS_seed.at 32 rfl) rfl
        · refine r_aload_n (dt_NS_seed.at 18 rfl) rfl ?_
          refine r_fR (dt_NS_seed.at 19 rfl) fl_NS_30 rfl (fun b5 => ?_)
          refine r_iconst (dt_NS_seed.at 20 rfl) (-1) (by decide) ?_
          refine r_iconst (dt_NS_seed.at 21 rfl) 0 (by decide) ?_
          refine r_iload_n (dt_NS_seed.at 22 rfl) rfl ?_
          refine r_cvV (c := 2) (rest := []) (ct_Hist_remember b5 (-1) 0 x4 _) (dt_NS_seed.at 23 rfl) mb_Hist_remember wd_557 wd_558 wd_559 rfl (by decide) rfl rfl (Nat.le_of_ble_eq_true rfl) (fun M6 => ?_)
          refine r_aload_n (dt_NS_seed.at 24 rfl) rfl ?_
          refine r_fR (dt_NS_seed.at 25 rfl) fl_NS_16 rfl (fun b7 => ?_)
          refine r_iload_n (dt_NS_seed.at 26 rfl) rfl ?_
          refine r_sI (dt_NS_seed.at 27 rfl) fl_NS_110 rfl rfl rfl (fun M8 => ?_)
          refine r_aload_n (dt_NS_seed.at 28 rfl) rfl ?_
          refine r_fR (dt_NS_seed.at 29 rfl) fl_NS_55 rfl (fun b9 => ?_)
          refine r_cvV (c := 1) (rest := []) (ct_Fram_forget b9 _) (dt_NS_seed.at 30 rfl) mb_Fram_forget wd_520 wd_521 wd_522 rfl (by decide) rfl rfl (Nat.le_of_ble_eq_true rfl) (fun M10 => ?_)
          refine r_iload_n (dt_NS_seed.at 31 rfl) rfl ?_
          exact r_iret (dt_NS_seed.at 32 rfl) rfl
      · refine r_bipush (dt_NS_seed.at 9 rfl) (-2) (by decide) ?_
        exact r_iret (dt_NS_seed.at 10 rfl) rfl
set_option maxRecDepth 20000 in
set_option maxHeartbeats 2000000 in
theorem ct_NS_sets {G : am_G} {l : Launch} (a0 : Nat) (p1 : Int32) (p2 : Int32) (p3 : Int32) (M : am_M) : Ct G l y_NS_sets X_NS_sets [.ref a0, .int p1, .int p2, .int p3] M (F_NS_sets a0 p1 p2 p3 M) := by
  refine Ct.of (by decide +kernel) rfl rfl (Nat.le_of_ble_eq_true rfl) ?_
  unfold F_NS_sets
  show Rf G l X_NS_sets 0 [.ref a0, .int p1, .int p2, .int p3, .retAddr 0] [] M _
  refine r_aload_n (dt_NS_sets.at 0 rfl) rfl ?_
  refine r_fR (dt_NS_sets.at 1 rfl) fl_NS_16 rfl (fun b1 => ?_)
  refine r_iload_n (dt_NS_sets.at 2 rfl) rfl ?_
  refine r_cvI (c := 5) (rest := []) (ct_Scen_isKind b1 p1 _) (dt_NS_sets.at 3 rfl) mb_Scen_isKind wd_538 wd_539 wd_540 rfl (by decide) rfl rfl (Nat.le_of_ble_eq_true rfl) (fun r3 M2 => ?_)
  refine r_if_eq (tgt := 20) (dt_NS_sets.at 4 rfl) (by decide) ?_ ?_
  · refine r_bipush (dt_NS_sets.at 10 rfl) (-99) (by decide) ?_
    exact r_iret (dt_NS_sets.at 11 rfl) rfl
  · refine r_iload_n (dt_NS_sets.at 5 rfl) rfl ?_
    refine r_if_lt (tgt := 20) (dt_NS_sets.at 6 rfl) (by decide) ?_ ?_
    · refine r_bipush (dt_NS_sets.at 10 rfl) (-99) (by decide) ?_
      exact r_iret (dt_NS_sets.at 11 rfl) rfl
    · refine r_iload_n (dt_NS_sets.at 7 rfl) rfl ?_
      refine r_iconst (dt_NS_sets.at 8 rfl) 4 (by decide) ?_
      refine r_icmp_le (tgt := 23) (dt_NS_sets.at 9 rfl) (by decide) ?_ ?_
      · refine r_iload_n (dt_NS_sets.at 12 rfl) rfl ?_
        refine r_getKL (dt_NS_sets.at 13 rfl) wd_566 ?_
        refine r_iload_n (dt_NS_sets.at 14 rfl) rfl ?_
        refine r_xI (dt_NS_sets.at 15 rfl) (fun x4 => ?_)
        refine r_icmp_lt (tgt := 41) (dt_NS_sets.at 16 rfl) (by decide) ?_ ?_
        · refine r_bipush (dt_NS_sets.at 22 rfl) (-99) (by decide) ?_
          exact r_iret (dt_NS_sets.at 23 rfl) rfl
        · refine r_iload_n (dt_NS_sets.at 17 rfl) rfl ?_
          refine r_getKM (dt_NS_sets.at 18 rfl) wd_568 ?_
          refine r_iload_n (dt_NS_sets.at 19 rfl) rfl ?_
          refine r_xI (dt_NS_sets.at 20 rfl) (fun x5 => ?_)
          refine r_icmp_le (tgt := 44) (dt_NS_sets.at 21 rfl) (by decide) ?_ ?_
          · refine r_aload_n (dt_NS_sets.at 24 rfl) rfl ?_
            refine r_fR (dt_NS_sets.at 25 rfl) fl_NS_16 rfl (fun b6 => ?_)
            refine r_iload_n (dt_NS_sets.at 26 rfl) rfl ?_
            refine r_iload_n (dt_NS_sets.at 27 rfl) rfl ?_
            refine r_cvI (c := 5) (rest := []) (ct_Scen_ofKind b6 p1 p2 _) (dt_NS_sets.at 28 rfl) mb_Scen_ofKind wd_542 wd_476 wd_477 rfl (by decide) rfl rfl (Nat.le_of_ble_eq_true rfl) (fun r8 M7 => ?_)
            refine r_istore (ls' := [.ref a0, .int p1, .int p2, .int p3, .int r8]) (dt_NS_sets.at 29 rfl) (by decide) rfl ?_
            refine r_iload_n (dt_NS_sets.at 30 rfl) rfl ?_
            refine r_iload (dt_NS_sets.at 31 rfl) rfl ?_
            refine r_icmp_eq (tgt := 89) (dt_NS_sets.at 32 rfl) (by decide) ?_ ?_
            · refine r_iload (dt_NS_sets.at 48 rfl) rfl ?_
              exact r_iret (dt_NS_sets.at 49 rfl) rfl
            · refine r_aload_n (dt_NS_sets.at 33 rfl) rfl ?_
              refine r_fR (dt_NS_sets.at 34 rfl) fl_NS_30 rfl (fun b9 => ?_)
              refine r_iload_n (dt_NS_sets.at 35 rfl) rfl ?_
              refine r_iload_n (dt_NS_sets.at 36 rfl) rfl ?_
              refine r_iload (dt_NS_sets.at 37 rfl) rfl ?_
              refine r_cvV (c := 2) (rest := []) (ct_Hist_remember b9 p1 p2 r8 _) (dt_NS_sets.at 38 rfl) mb_Hist_remember wd_557 wd_558 wd_559 rfl (by decide) rfl rfl (Nat.le_of_ble_eq_true rfl) (fun M10 => ?_)
              refine r_aload_n (dt_NS_sets.at 39 rfl) rfl ?_
              refine r_fR (dt_NS_sets.at 40 rfl) fl_NS_16 rfl (fun b11 => ?_)
              refine r_iload_n (dt_NS_sets.at 41 rfl) rfl ?_
              refine r_iload_n (dt_NS_sets.at 42 rfl) rfl ?_
              refine r_iload_n (dt_NS_sets.at 43 rfl) rfl ?_
              refine r_cvV (c := 5) (rest := []) (ct_Scen_setKind b11 p1 p2 p3 _) (dt_NS_sets.at 44 rfl) mb_Scen_setKind wd_570 wd_452 wd_453 rfl (by decide) rfl rfl (Nat.le_of_ble_eq_true rfl) (fun M12 => ?_)
              refine r_aload_n (dt_NS_sets.at 45 rfl) rfl ?_
              refine r_fR (dt_NS_sets.at 46 rfl) fl_NS_55 rfl (fun b13 => ?_)
              refine r_cvV (c := 1) (rest := []) (ct_Fram_forget b13 _) (dt_NS_sets.at 47 rfl) mb_Fram_forget wd_520 wd_521 wd_522 rfl (by decide) rfl rfl (Nat.le_of_ble_eq_true rfl) (fun M14 => ?_)
              refine r_iload (dt_NS_sets.at 48 rfl) rfl ?_
              exact r_iret (dt_NS_sets.at 49 rfl) rfl
          · refine r_bipush (dt_NS_sets.at 22 rfl) (-99) (by decide) ?_
            exact r_iret (dt_NS_sets.at 23 rfl) rfl
      · refine r_bipush (dt_NS_sets.at 10 rfl) (-99) (by decide) ?_
        exact r_iret (dt_NS_sets.at 11 rfl) rfl
set_option maxRecDepth 20000 in
set_option maxHeartbeats 2000000 in
theorem ct_Hist_isEmpty {G : am_G} {l : Launch} (a0 : Nat) (M : am_M) : Ct G l y_Hist_isEmpty X_Hist_isEmpty [.ref a0] M (F_Hist_isEmpty a0 M) := by
  refine Ct.of (by decide +kernel) rfl rfl (Nat.le_of_ble_eq_true rfl) ?_
  unfold F_Hist_isEmpty
  show Rf G l X_Hist_isEmpty 0 [.ref a0] [] M _
  refine r_aload_n (dt_Hist_isEmpty.at 0 rfl) rfl ?_
  refine r_fI (dt_Hist_isEmpty.at 1 rfl) fl_Hist_21 rfl (fun x1 => ?_)
  refine r_if_gt (tgt := 11) (dt_Hist_isEmpty.at 2 rfl) (by decide) ?_ ?_
  · refine r_iconst (dt_Hist_isEmpty.at 5 rfl) 0 (by decide) ?_
    exact r_zret (dt_Hist_isEmpty.at 6 rfl) rfl rfl
  · refine r_iconst (dt_Hist_isEmpty.at 3 rfl) 1 (by decide) ?_
    refine r_goto (tgt := 12) (dt_Hist_isEmpty.at 4 rfl) (by decide) ?_
    exact r_zret (dt_Hist_isEmpty.at 6 rfl) rfl rfl
set_option maxRecDepth 20000 in
set_option maxHeartbeats 2000000 in
theorem ct_Hist_takeBack {G : am_G} {l : Launch} (a0 : Nat) (p1 : Nat) (M : am_M) : Ct G l y_Hist_takeBack X_Hist_takeBack [.ref a0, .ref p1] M (F_Hist_takeBack a0 p1 M) := by
  refine Ct.of (by decide +kernel) rfl rfl (Nat.le_of_ble_eq_true rfl) ?_
  unfold F_Hist_takeBack
  show Rf G l X_Hist_takeBack 0 [.ref a0, .ref p1] [] M _
  refine r_aload_n (dt_Hist_takeBack.at 0 rfl) rfl ?_
  refine r_cvI (c := 2) (rest := []) (ct_Hist_isEmpty a0 _) (dt_Hist_takeBack.at 1 rfl) mb_Hist_isEmpty wd_583 wd_576 wd_577 rfl (by decide) rfl rfl (Nat.le_of_ble_eq_true rfl) (fun r2 M1 => ?_)
  refine r_if_eq (tgt := 8) (dt_Hist_takeBack.at 2 rfl) (by decide) ?_ ?_
  · refine r_aload_n (dt_Hist_takeBack.at 4 rfl) rfl ?_
    refine r_dup (dt_Hist_takeBack.at 5 rfl) rfl ?_
    refine r_fI (dt_Hist_takeBack.at 6 rfl) fl_Hist_21 rfl (fun x3 => ?_)
    refine r_iconst (dt_Hist_takeBack.at 7 rfl) 1 (by decide) ?_
    refine r_isub (dt_Hist_takeBack.at 8 rfl) ?_
    refine r_sI (dt_Hist_takeBack.at 9 rfl) fl_Hist_21 rfl rfl rfl (fun M4 => ?_)
    refine r_aload_n (dt_Hist_takeBack.at 10 rfl) rfl ?_
    refine r_fR (dt_Hist_takeBack.at 11 rfl) fl_Hist_11 rfl (fun b5 => ?_)
    refine r_aload_n (dt_Hist_takeBack.at 12 rfl) rfl ?_
    refine r_fI (dt_Hist_takeBack.at 13 rfl) fl_Hist_21 rfl (fun x6 => ?_)
    refine r_aI (dt_Hist_takeBack.at 14 rfl) (fun x7 => ?_)
    refine r_iconst (dt_Hist_takeBack.at 15 rfl) (-1) (by decide) ?_
    refine r_icmp_ne (tgt := 47) (dt_Hist_takeBack.at 16 rfl) (by decide) ?_ ?_
    · refine r_aload_n (dt_Hist_takeBack.at 17 rfl) rfl ?_
      refine r_aload_n (dt_Hist_takeBack.at 18 rfl) rfl ?_
      refine r_fR (dt_Hist_takeBack.at 19 rfl) fl_Hist_18 rfl (fun b8 => ?_)
      refine r_aload_n (dt_Hist_takeBack.at 20 rfl) rfl ?_
      refine r_fI (dt_Hist_takeBack.at 21 rfl) fl_Hist_21 rfl (fun x9 => ?_)
      refine r_aI (dt_Hist_takeBack.at 22 rfl) (fun x10 => ?_)
      refine r_sI (dt_Hist_takeBack.at 23 rfl) fl_Hist_35 rfl rfl rfl (fun M11 => ?_)
      refine r_goto (tgt := 78) (dt_Hist_takeBack.at 24 rfl) (by decide) ?_
      exact r_vret (dt_Hist_takeBack.at 42 rfl) rfl
    · refine r_aload_n (dt_Hist_takeBack.at 25 rfl) rfl ?_
      refine r_aload_n (dt_Hist_takeBack.at 26 rfl) rfl ?_
      refine r_fR (dt_Hist_takeBack.at 27 rfl) fl_Hist_11 rfl (fun b12 => ?_)
      refine r_aload_n (dt_Hist_takeBack.at 28 rfl) rfl ?_
      refine r_fI (dt_Hist_takeBack.at 29 rfl) fl_Hist_21 rfl (fun x13 => ?_)
      refine r_aI (dt_Hist_takeBack.at 30 rfl) (fun x14 => ?_)
      refine r_aload_n (dt_Hist_takeBack.at 31 rfl) rfl ?_
      refine r_fR (dt_Hist_takeBack.at 32 rfl) fl_Hist_15 rfl (fun b15 => ?_)
      refine r_aload_n (dt_Hist_takeBack.at 33 rfl) rfl ?_
      refine r_fI (dt_Hist_takeBack.at 34 rfl) fl_Hist_21 rfl (fun x16 => ?_)
      refine r_aI (dt_Hist_takeBack.at 35 rfl) (fun x17 => ?_)
      refine r_aload_n (dt_Hist_takeBack.at 36 rfl) rfl ?_
      refine r_fR (dt_Hist_takeBack.at 37 rfl) fl_Hist_18 rfl (fun b18 => ?_)
      refine r_aload_n (dt_Hist_takeBack.at 38 rfl) rfl ?_
      refine r_fI (dt_Hist_takeBack.at 39 rfl) fl_Hist_21 rfl (fun x19 => ?_)
      refine r_aI (dt_Hist_takeBack.at 40 rfl) (fun x20 => ?_)
      refine r_cvV (c := 5) (rest := []) (ct_Scen_setKind p1 x14 x17 x20 _) (dt_Hist_takeBack.at 41 rfl) mb_Scen_setKind wd_584 wd_452 wd_453 rfl (by decide) rfl rfl (Nat.le_of_ble_eq_true rfl) (fun M21 => ?_)
      exact r_vret (dt_Hist_takeBack.at 42 rfl) rfl
  · exact r_vret (dt_Hist_takeBack.at 3 rfl) rfl
set_option maxRecDepth 20000 in
set_option maxHeartbeats 2000000 in
theorem ct_NS_undo {G : am_G} {l : Launch} (a0 : Nat) (M : am_M) : Ct G l y_NS_undo X_NS_undo [.ref a0] M (F_NS_undo a0 M) := by
  refine Ct.of (by decide +kernel) rfl rfl (Nat.le_of_ble_eq_true rfl) ?_
  unfold F_NS_undo
  show Rf G l X_NS_undo 0 [.ref a0] [] M _
  refine r_aload_n (dt_NS_undo.at 0 rfl) rfl ?_
  refine r_fR (dt_NS_undo.at 1 rfl) fl_NS_16 rfl (fun b1 => ?_)
  refine r_fI (dt_NS_undo.at 2 rfl) fl_NS_130 rfl (fun x2 => ?_)
  refine r_if_ne (tgt := 13) (dt_NS_undo.at 3 rfl) (by decide) ?_ ?_
  · refine r_bipush (dt_NS_undo.at 4 rfl) (-2) (by decide) ?_
    exact r_iret (dt_NS_undo.at 5 rfl) rfl
  · refine r_aload_n (dt_NS_undo.at 6 rfl) rfl ?_
    refine r_fR (dt_NS_undo.at 7 rfl) fl_NS_30 rfl (fun b3 => ?_)
    refine r_cvI (c := 2) (rest := []) (ct_Hist_isEmpty b3 _) (dt_NS_undo.at 8 rfl) mb_Hist_isEmpty wd_575 wd_576 wd_577 rfl (by decide) rfl rfl (Nat.le_of_ble_eq_true rfl) (fun r5 M4 => ?_)
    refine r_if_eq (tgt := 25) (dt_NS_undo.at 9 rfl) (by decide) ?_ ?_
    · refine r_aload_n (dt_NS_undo.at 12 rfl) rfl ?_
      refine r_fR (dt_NS_undo.at 13 rfl) fl_NS_30 rfl (fun b6 => ?_)
      refine r_aload_n (dt_NS_undo.at 14 rfl) rfl ?_
      refine r_fR (dt_NS_undo.at 15 rfl) fl_NS_16 rfl (fun b7 => ?_)
      refine r_cvV (c := 2) (rest := []) (ct_Hist_takeBack b6 b7 _) (dt_NS_undo.at 16 rfl) mb_Hist_takeBack wd_579 wd_580 wd_581 rfl (by decide) rfl rfl (Nat.le_of_ble_eq_true rfl) (fun M8 => ?_)
      refine r_aload_n (dt_NS_undo.at 17 rfl) rfl ?_
      refine r_fR (dt_NS_undo.at 18 rfl) fl_NS_55 rfl (fun b9 => ?_)
      refine r_cvV (c := 1) (rest := []) (ct_Fram_forget b9 _) (dt_NS_undo.at 19 rfl) mb_Fram_forget wd_520 wd_521 wd_522 rfl (by decide) rfl rfl (Nat.le_of_ble_eq_true rfl) (fun M10 => ?_)
      refine r_aload_n (dt_NS_undo.at 20 rfl) rfl ?_
      refine r_fR (dt_NS_undo.at 21 rfl) fl_NS_30 rfl (fun b11 => ?_)
      refine r_fI (dt_NS_undo.at 22 rfl) fl_NS_155 rfl (fun x12 => ?_)
      exact r_iret (dt_NS_undo.at 23 rfl) rfl
    · refine r_iconst (dt_NS_undo.at 10 rfl) (-1) (by decide) ?_
      exact r_iret (dt_NS_undo.at 11 rfl) rfl
set_option maxRecDepth 20000 in
set_option maxHeartbeats 2000000 in
theorem ct_Scen_mix {G : am_G} {l : Launch} (a0 : Nat) (p1 : Int32) (p2 : Int32) (M : am_M) : Ct G l y_Scen_mix X_Scen_mix [.ref a0, .int p1, .int p2] M (F_Scen_mix a0 p1 p2 M) := by
  refine Ct.of (by decide +kernel) rfl rfl (Nat.le_of_ble_eq_true rfl) ?_
  unfold F_Scen_mix
  show Rf G l X_Scen_mix 0 [.ref a0, .int p1, .int p2, .retAddr 0, .retAddr 0] [] M _
  refine r_aload_n (dt_Scen_mix.at 0 rfl) rfl ?_
  refine r_fI (dt_Scen_mix.at 1 rfl) fl_Scen_34 rfl (fun x1 => ?_)
  refine r_i2l (dt_Scen_mix.at 2 rfl) ?_
  refine r_iload_n (dt_Scen_mix.at 3 rfl) rfl ?_
  refine r_i2l (dt_Scen_mix.at 4 rfl) ?_
  refine r_ldc2 (dt_Scen_mix.at 5 rfl) (-7046029254386353131) wd_593 ?_
  refine r_lmul (dt_Scen_mix.at 6 rfl) ?_
  refine r_ladd (dt_Scen_mix.at 7 rfl) ?_
  refine r_iload_n (dt_Scen_mix.at 8 rfl) rfl ?_
  refine r_i2l (dt_Scen_mix.at 9 rfl) ?_
  refine r_ldc2 (dt_Scen_mix.at 10 rfl) (-3335678366873096957) wd_594 ?_
  refine r_lmul (dt_Scen_mix.at 11 rfl) ?_
  refine r_ladd (dt_Scen_mix.at 12 rfl) ?_
  refine r_nml (fun z2 => ?_)
  refine r_lstore_n (ls' := [.ref a0, .int p1, .int p2, .long z2, .retAddr 0]) (dt_Scen_mix.at 13 rfl) (by decide) rfl ?_
  refine r_lload_n (dt_Scen_mix.at 14 rfl) rfl ?_
  refine r_lload_n (dt_Scen_mix.at 15 rfl) rfl ?_
  refine r_bipush (dt_Scen_mix.at 16 rfl) 30 (by decide) ?_
  refine r_lushr (dt_Scen_mix.at 17 rfl) ?_
  refine r_lxor (dt_Scen_mix.at 18 rfl) ?_
  refine r_ldc2 (dt_Scen_mix.at 19 rfl) (-4658895280553007687) wd_595 ?_
  refine r_lmul (dt_Scen_mix.at 20 rfl) ?_
  refine r_nml (fun z3 => ?_)
  refine r_lstore_n (ls' := [.ref a0, .int p1, .int p2, .long z3, .retAddr 0]) (dt_Scen_mix.at 21 rfl) (by decide) rfl ?_
  refine r_lload_n (dt_Scen_mix.at 22 rfl) rfl ?_
  refine r_lload_n (dt_Scen_mix.at 23 rfl) rfl ?_
  refine r_bipush (dt_Scen_mix.at 24 rfl) 27 (by decide) ?_
  refine r_lushr (dt_Scen_mix.at 25 rfl) ?_
  refine r_lxor (dt_Scen_mix.at 26 rfl) ?_
  refine r_ldc2 (dt_Scen_mix.at 27 rfl) (-7723592293110705685) wd_596 ?_
  refine r_lmul (dt_Scen_mix.at 28 rfl) ?_
  refine r_nml (fun z4 => ?_)
  refine r_lstore_n (ls' := [.ref a0, .int p1, .int p2, .long z4, .retAddr 0]) (dt_Scen_mix.at 29 rfl) (by decide) rfl ?_
  refine r_lload_n (dt_Scen_mix.at 30 rfl) rfl ?_
  refine r_lload_n (dt_Scen_mix.at 31 rfl) rfl ?_
  refine r_bipush (dt_Scen_mix.at 32 rfl) 31 (by decide) ?_
  refine r_lushr (dt_Scen_mix.at 33 rfl) ?_
  refine r_lxor (dt_Scen_mix.at 34 rfl) ?_
  exact r_lret (dt_Scen_mix.at 35 rfl) rfl
set_option maxRecDepth 20000 in
set_option maxHeartbeats 2000000 in
theorem ct_NS_mixed {G : am_G} {l : Launch} (a0 : Nat) (p1 : Int32) (p2 : Int32) (M : am_M) : Ct G l y_NS_mixed X_NS_mixed [.ref a0, .int p1, .int p2] M (F_NS_mixed a0 p1 p2 M) := by
  refine Ct.of (by decide +kernel) rfl rfl (Nat.le_of_ble_eq_true rfl) ?_
  unfold F_NS_mixed
  show Rf G l X_NS_mixed 0 [.ref a0, .int p1, .int p2] [] M _
  refine r_aload_n (dt_NS_mixed.at 0 rfl) rfl ?_
  refine r_fR (dt_NS_mixed.at 1 rfl) fl_NS_16 rfl (fun b1 => ?_)
  refine r_fI (dt_NS_mixed.at 2 rfl) fl_NS_130 rfl (fun x2 => ?_)
  refine r_if_eq (tgt := 22) (dt_NS_mixed.at 3 rfl) (by decide) ?_ ?_
  · refine r_lconst (dt_NS_mixed.at 10 rfl) 0 (by decide) ?_
    exact r_lret (dt_NS_mixed.at 11 rfl) rfl
  · refine r_aload_n (dt_NS_mixed.at 4 rfl) rfl ?_
    refine r_fR (dt_NS_mixed.at 5 rfl) fl_NS_16 rfl (fun b3 => ?_)
    refine r_iload_n (dt_NS_mixed.at 6 rfl) rfl ?_
    refine r_iload_n (dt_NS_mixed.at 7 rfl) rfl ?_
    refine r_cvL (c := 5) (rest := []) (ct_Scen_mix b3 p1 p2 _) (dt_NS_mixed.at 8 rfl) mb_Scen_mix wd_589 wd_590 wd_591 rfl (by decide) rfl rfl (Nat.le_of_ble_eq_true rfl) (fun z5 M4 => ?_)
    refine r_goto (tgt := 23) (dt_NS_mixed.at 9 rfl) (by decide) ?_
    exact r_lret (dt_NS_mixed.at 11 rfl) rfl
set_option maxRecDepth 20000 in
set_option maxHeartbeats 2000000 in
theorem ct_NS_sourceOf {G : am_G} {l : Launch} (p1 : Int32) (M : am_M) : Ct G l y_NS_sourceOf X_NS_sourceOf [.int p1] M (F_NS_sourceOf p1 M) := by
  refine Ct.of (by decide +kernel) rfl rfl (Nat.le_of_ble_eq_true rfl) ?_
  unfold F_NS_sourceOf
  show Rf G l X_NS_sourceOf 0 [.int p1] [] M _
  refine r_iload_n (dt_NS_sourceOf.at 0 rfl) rfl ?_
  refine r_bipush (dt_NS_sourceOf.at 1 rfl) 8 (by decide) ?_
  refine r_ishr (dt_NS_sourceOf.at 2 rfl) ?_
  refine r_iconst (dt_NS_sourceOf.at 3 rfl) 3 (by decide) ?_
  refine r_iand (dt_NS_sourceOf.at 4 rfl) ?_
  exact r_iret (dt_NS_sourceOf.at 5 rfl) rfl
set_option maxRecDepth 20000 in
set_option maxHeartbeats 2000000 in
theorem ct_NS_numberOf {G : am_G} {l : Launch} (p1 : Int32) (M : am_M) : Ct G l y_NS_numberOf X_NS_numberOf [.int p1] M (F_NS_numberOf p1 M) := by
  refine Ct.of (by decide +kernel) rfl rfl (Nat.le_of_ble_eq_true rfl) ?_
  unfold F_NS_numberOf
  show Rf G l X_NS_numberOf 0 [.int p1] [] M _
  refine r_iload_n (dt_NS_numberOf.at 0 rfl) rfl ?_
  refine r_bipush (dt_NS_numberOf.at 1 rfl) 10 (by decide) ?_
  refine r_ishr (dt_NS_numberOf.at 2 rfl) ?_
  exact r_iret (dt_NS_numberOf.at 3 rfl) rfl
set_option maxRecDepth 20000 in
set_option maxHeartbeats 2000000 in
theorem ct_Scen_hasSpark {G : am_G} {l : Launch} (a0 : Nat) (p1 : Int32) (M : am_M) : Ct G l y_Scen_hasSpark X_Scen_hasSpark [.ref a0, .int p1] M (F_Scen_hasSpark a0 p1 M) := by
  refine Ct.of (by decide +kernel) rfl rfl (Nat.le_of_ble_eq_true rfl) ?_
  unfold F_Scen_hasSpark
  show Rf G l X_Scen_hasSpark 0 [.ref a0, .int p1, .retAddr 0, .retAddr 0, .retAddr 0, .retAddr 0] [] M _
  refine r_aload_n (dt_Scen_hasSpark.at 0 rfl) rfl ?_
  refine r_fI (dt_Scen_hasSpark.at 1 rfl) fl_Scen_47 rfl (fun x1 => ?_)
  refine r_if_eq (tgt := 11) (dt_Scen_hasSpark.at 2 rfl) (by decide) ?_ ?_
  · refine r_iconst (dt_Scen_hasSpark.at 5 rfl) 0 (by decide) ?_
    exact r_zret (dt_Scen_hasSpark.at 6 rfl) rfl rfl
  · refine r_iload_n (dt_Scen_hasSpark.at 3 rfl) rfl ?_
    refine r_if_ge (tgt := 13) (dt_Scen_hasSpark.at 4 rfl) (by decide) ?_ ?_
    · refine r_iload_n (dt_Scen_hasSpark.at 7 rfl) rfl ?_
      refine r_cnI (rest := []) (ct_NS_sourceOf p1 _) (dt_Scen_hasSpark.at 8 rfl) mb_NS_sourceOf wd_605 wd_606 (by decide) rfl rfl (Nat.le_of_ble_eq_true rfl) (fun r3 M2 => ?_)
      refine r_istore_n (ls' := [.ref a0, .int p1, .int r3, .retAddr 0, .retAddr 0, .retAddr 0]) (dt_Scen_hasSpark.at 9 rfl) (by decide) rfl ?_
      refine r_aload_n (dt_Scen_hasSpark.at 10 rfl) rfl ?_
      refine r_iload_n (dt_Scen_hasSpark.at 11 rfl) rfl ?_
      refine r_cvI (c := 5) (rest := []) (ct_Scen_isSource a0 r3 _) (dt_Scen_hasSpark.at 12 rfl) mb_Scen_isSource wd_608 wd_548 wd_549 rfl (by decide) rfl rfl (Nat.le_of_ble_eq_true rfl) (fun r5 M4 => ?_)
      refine r_if_eq (tgt := 40) (dt_Scen_hasSpark.at 13 rfl) (by decide) ?_ ?_
      · refine r_iconst (dt_Scen_hasSpark.at 21 rfl) 0 (by decide) ?_
        exact r_zret (dt_Scen_hasSpark.at 22 rfl) rfl rfl
      · refine r_iload_n (dt_Scen_hasSpark.at 14 rfl) rfl ?_
        refine r_cnI (rest := []) (ct_NS_numberOf p1 _) (dt_Scen_hasSpark.at 15 rfl) mb_NS_numberOf wd_609 wd_610 (by decide) rfl rfl (Nat.le_of_ble_eq_true rfl) (fun r7 M6 => ?_)
        refine r_aload_n (dt_Scen_hasSpark.at 16 rfl) rfl ?_
        refine r_iload_n (dt_Scen_hasSpark.at 17 rfl) rfl ?_
        refine r_bipush (dt_Scen_hasSpark.at 18 rfl) 9 (by decide) ?_
        refine r_cvI (c := 5) (rest := [.int r7]) (ct_Scen_ofSource a0 r3 9 _) (dt_Scen_hasSpark.at 19 rfl) mb_Scen_ofSource wd_507 wd_500 wd_501 rfl (by decide) rfl rfl (Nat.le_of_ble_eq_true rfl) (fun r9 M8 => ?_)
        refine r_icmp_lt (tgt := 42) (dt_Scen_hasSpark.at 20 rfl) (by decide) ?_ ?_
        · refine r_aload_n (dt_Scen_hasSpark.at 23 rfl) rfl ?_
          refine r_iload_n (dt_Scen_hasSpark.at 24 rfl) rfl ?_
          refine r_iconst (dt_Scen_hasSpark.at 25 rfl) 0 (by decide) ?_
          refine r_cvI (c := 5) (rest := []) (ct_Scen_ofSource a0 r3 0 _) (dt_Scen_hasSpark.at 26 rfl) mb_Scen_ofSource wd_507 wd_500 wd_501 rfl (by decide) rfl rfl (Nat.le_of_ble_eq_true rfl) (fun r11 M10 => ?_)
          refine r_istore_n (ls' := [.ref a0, .int p1, .int r3, .int r11, .retAddr 0, .retAddr 0]) (dt_Scen_hasSpark.at 27 rfl) (by decide) rfl ?_
          refine r_iload_n (dt_Scen_hasSpark.at 28 rfl) rfl ?_
          refine r_iconst (dt_Scen_hasSpark.at 29 rfl) 4 (by decide) ?_
          refine r_ishr (dt_Scen_hasSpark.at 30 rfl) ?_
          refine r_bipush (dt_Scen_hasSpark.at 31 rfl) 15 (by decide) ?_
          refine r_iand (dt_Scen_hasSpark.at 32 rfl) ?_
          refine r_nmi (fun x12 => ?_)
          refine r_istore (ls' := [.ref a0, .int p1, .int r3, .int r11, .int x12, .retAddr 0]) (dt_Scen_hasSpark.at 33 rfl) (by decide) rfl ?_
          refine r_iload_n (dt_Scen_hasSpark.at 34 rfl) rfl ?_
          refine r_bipush (dt_Scen_hasSpark.at 35 rfl) 15 (by decide) ?_
          refine r_iand (dt_Scen_hasSpark.at 36 rfl) ?_
          refine r_nmi (fun x13 => ?_)
          refine r_istore (ls' := [.ref a0, .int p1, .int r3, .int r11, .int x12, .int x13]) (dt_Scen_hasSpark.at 37 rfl) (by decide) rfl ?_
          refine r_iload (dt_Scen_hasSpark.at 38 rfl) rfl ?_
          refine r_if_ne (tgt := 79) (dt_Scen_hasSpark.at 39 rfl) (by decide) ?_ ?_
          · refine r_iload (dt_Scen_hasSpark.at 40 rfl) rfl ?_
            refine r_if_ne (tgt := 77) (dt_Scen_hasSpark.at 41 rfl) (by decide) ?_ ?_
            · refine r_iconst (dt_Scen_hasSpark.at 42 rfl) 1 (by decide) ?_
              refine r_goto (tgt := 78) (dt_Scen_hasSpark.at 43 rfl) (by decide) ?_
              exact r_zret (dt_Scen_hasSpark.at 45 rfl) rfl rfl
            · refine r_iconst (dt_Scen_hasSpark.at 44 rfl) 0 (by decide) ?_
              exact r_zret (dt_Scen_hasSpark.at 45 rfl) rfl rfl
          · refine r_iload (dt_Scen_hasSpark.at 46 rfl) rfl ?_
            refine r_aload_n (dt_Scen_hasSpark.at 47 rfl) rfl ?_
            refine r_iload_n (dt_Scen_hasSpark.at 48 rfl) rfl ?_
            refine r_bipush (dt_Scen_hasSpark.at 49 rfl) 6 (by decide) ?_
            refine r_cvI (c := 5) (rest := [.int x12]) (ct_Scen_ofKind a0 r11 6 _) (dt_Scen_hasSpark.at 50 rfl) mb_Scen_ofKind wd_612 wd_476 wd_477 rfl (by decide) rfl rfl (Nat.le_of_ble_eq_true rfl) (fun r15 M14 => ?_)
            refine r_icmp_le (tgt := 93) (dt_Scen_hasSpark.at 51 rfl) (by decide) ?_ ?_
            · refine r_iload (dt_Scen_hasSpark.at 54 rfl) rfl ?_
              refine r_aload_n (dt_Scen_hasSpark.at 55 rfl) rfl ?_
              refine r_aload_n (dt_Scen_hasSpark.at 56 rfl) rfl ?_
              refine r_iload_n (dt_Scen_hasSpark.at 57 rfl) rfl ?_
              refine r_bipush (dt_Scen_hasSpark.at 58 rfl) 7 (by decide) ?_
              refine r_cvI (c := 5) (rest := [.ref a0, .int x13]) (ct_Scen_ofKind a0 r11 7 _) (dt_Scen_hasSpark.at 59 rfl) mb_Scen_ofKind wd_612 wd_476 wd_477 rfl (by decide) rfl rfl (Nat.le_of_ble_eq_true rfl) (fun r17 M16 => ?_)
              refine r_bipush (dt_Scen_hasSpark.at 60 rfl) 6 (by decide) ?_
              refine r_cvI (c := 5) (rest := [.int x13]) (ct_Scen_ofKind a0 r17 6 _) (dt_Scen_hasSpark.at 61 rfl) mb_Scen_ofKind wd_612 wd_476 wd_477 rfl (by decide) rfl rfl (Nat.le_of_ble_eq_true rfl) (fun r19 M18 => ?_)
              refine r_icmp_gt (tgt := 115) (dt_Scen_hasSpark.at 62 rfl) (by decide) ?_ ?_
              · refine r_iconst (dt_Scen_hasSpark.at 65 rfl) 0 (by decide) ?_
                exact r_zret (dt_Scen_hasSpark.at 66 rfl) rfl rfl
              · refine r_iconst (dt_Scen_hasSpark.at 63 rfl) 1 (by decide) ?_
                refine r_goto (tgt := 116) (dt_Scen_hasSpark.at 64 rfl) (by decide) ?_
                exact r_zret (dt_Scen_hasSpark.at 66 rfl) rfl rfl
            · refine r_iconst (dt_Scen_hasSpark.at 52 rfl) 0 (by decide) ?_
              exact r_zret (dt_Scen_hasSpark.at 53 rfl) rfl rfl
        · refine r_iconst (dt_Scen_hasSpark.at 21 rfl) 0 (by decide) ?_
          exact r_zret (dt_Scen_hasSpark.at 22 rfl) rfl rfl
    · refine r_iconst (dt_Scen_hasSpark.at 5 rfl) 0 (by decide) ?_
      exact r_zret (dt_Scen_hasSpark.at 6 rfl) rfl rfl
set_option maxRecDepth 20000 in
set_option maxHeartbeats 2000000 in
theorem ct_NS_is {G : am_G} {l : Launch} (a0 : Nat) (p1 : Int32) (M : am_M) : Ct G l y_NS_is X_NS_is [.ref a0, .int p1] M (F_NS_is a0 p1 M) := by
  refine Ct.of (by decide +kernel) rfl rfl (Nat.le_of_ble_eq_true rfl) ?_
  unfold F_NS_is
  show Rf G l X_NS_is 0 [.ref a0, .int p1] [] M _
  refine r_aload_n (dt_NS_is.at 0 rfl) rfl ?_
  refine r_fR (dt_NS_is.at 1 rfl) fl_NS_16 rfl (fun b1 => ?_)
  refine r_fI (dt_NS_is.at 2 rfl) fl_NS_130 rfl (fun x2 => ?_)
  refine r_if_ne (tgt := 13) (dt_NS_is.at 3 rfl) (by decide) ?_ ?_
  · refine r_bipush (dt_NS_is.at 4 rfl) (-2) (by decide) ?_
    exact r_iret (dt_NS_is.at 5 rfl) rfl
  · refine r_aload_n (dt_NS_is.at 6 rfl) rfl ?_
    refine r_fR (dt_NS_is.at 7 rfl) fl_NS_16 rfl (fun b3 => ?_)
    refine r_iload_n (dt_NS_is.at 8 rfl) rfl ?_
    refine r_cvI (c := 5) (rest := []) (ct_Scen_hasSpark b3 p1 _) (dt_NS_is.at 9 rfl) mb_Scen_hasSpark wd_601 wd_602 wd_603 rfl (by decide) rfl rfl (Nat.le_of_ble_eq_true rfl) (fun r5 M4 => ?_)
    refine r_if_eq (tgt := 28) (dt_NS_is.at 10 rfl) (by decide) ?_ ?_
    · refine r_iconst (dt_NS_is.at 13 rfl) 0 (by decide) ?_
      exact r_iret (dt_NS_is.at 14 rfl) rfl
    · refine r_iconst (dt_NS_is.at 11 rfl) 1 (by decide) ?_
      refine r_goto (tgt := 29) (dt_NS_is.at 12 rfl) (by decide) ?_
      exact r_iret (dt_NS_is.at 14 rfl) rfl
set_option maxRecDepth 20000 in
set_option maxHeartbeats 2000000 in
theorem ct_NS_generationOf {G : am_G} {l : Launch} (p1 : Int32) (M : am_M) : Ct G l y_NS_generationOf X_NS_generationOf [.int p1] M (F_NS_generationOf p1 M) := by
  refine Ct.of (by decide +kernel) rfl rfl (Nat.le_of_ble_eq_true rfl) ?_
  unfold F_NS_generationOf
  show Rf G l X_NS_generationOf 0 [.int p1] [] M _
  refine r_iload_n (dt_NS_generationOf.at 0 rfl) rfl ?_
  refine r_bipush (dt_NS_generationOf.at 1 rfl) 15 (by decide) ?_
  refine r_iand (dt_NS_generationOf.at 2 rfl) ?_
  refine r_if_eq (tgt := 9) (dt_NS_generationOf.at 3 rfl) (by decide) ?_ ?_
  · refine r_iload_n (dt_NS_generationOf.at 6 rfl) rfl ?_
    refine r_sipush (dt_NS_generationOf.at 7 rfl) 255 (by decide) ?_
    refine r_iand (dt_NS_generationOf.at 8 rfl) ?_
    refine r_if_eq (tgt := 21) (dt_NS_generationOf.at 9 rfl) (by decide) ?_ ?_
    · refine r_iconst (dt_NS_generationOf.at 12 rfl) 0 (by decide) ?_
      exact r_iret (dt_NS_generationOf.at 13 rfl) rfl
    · refine r_iconst (dt_NS_generationOf.at 10 rfl) 1 (by decide) ?_
      refine r_goto (tgt := 22) (dt_NS_generationOf.at 11 rfl) (by decide) ?_
      exact r_iret (dt_NS_generationOf.at 13 rfl) rfl
  · refine r_iconst (dt_NS_generationOf.at 4 rfl) 2 (by decide) ?_
    exact r_iret (dt_NS_generationOf.at 5 rfl) rfl
set_option maxRecDepth 20000 in
set_option maxHeartbeats 2000000 in
theorem rf_Scen_kindOfSpark_L12 {G : am_G} {l : Launch}   : ∀ (n : Nat) (v0 : Nat) (v1 : Int32) (v2 : Int32) (v3 : Int32) (M : am_M), Rf G l X_Scen_kindOfSpark 12 [.ref v0, .int v1, .int v2, .int v3] [] M (F_Scen_kindOfSpark_L12 n v0 v1 v2 v3 M) := by
  intro n
  induction n with
  | zero => intro v0 v1 v2 v3 M; exact Rf.no
  | succ n ih =>
    intro v0 v1 v2 v3 M
    unfold F_Scen_kindOfSpark_L12
    refine r_iload_n (dt_Scen_kindOfSpark.at 8 rfl) rfl ?_
    refine r_iload_n (dt_Scen_kindOfSpark.at 9 rfl) rfl ?_
    refine r_cnI (rest := [.int v3]) (ct_NS_generationOf v1 _) (dt_Scen_kindOfSpark.at 10 rfl) mb_NS_generationOf wd_624 wd_618 (by decide) rfl rfl (Nat.le_of_ble_eq_true rfl) (fun r6 M5 => ?_)
    refine r_icmp_ge (tgt := 39) (dt_Scen_kindOfSpark.at 11 rfl) (by decide) ?_ ?_
    · refine r_iload_n (dt_Scen_kindOfSpark.at 22 rfl) rfl ?_
      exact r_iret (dt_Scen_kindOfSpark.at 23 rfl) rfl
    · refine r_iload_n (dt_Scen_kindOfSpark.at 12 rfl) rfl ?_
      refine r_iconst (dt_Scen_kindOfSpark.at 13 rfl) 3 (by decide) ?_
      refine r_icmp_ge (tgt := 39) (dt_Scen_kindOfSpark.at 14 rfl) (by decide) ?_ ?_
      · refine r_iload_n (dt_Scen_kindOfSpark.at 22 rfl) rfl ?_
        exact r_iret (dt_Scen_kindOfSpark.at 23 rfl) rfl
      · refine r_aload_n (dt_Scen_kindOfSpark.at 15 rfl) rfl ?_
        refine r_iload_n (dt_Scen_kindOfSpark.at 16 rfl) rfl ?_
        refine r_bipush (dt_Scen_kindOfSpark.at 17 rfl) 7 (by decide) ?_
        refine r_cvI (c := 5) (rest := []) (ct_Scen_ofKind v0 v2 7 _) (dt_Scen_kindOfSpark.at 18 rfl) mb_Scen_ofKind wd_612 wd_476 wd_477 rfl (by decide) rfl rfl (Nat.le_of_ble_eq_true rfl) (fun r8 M7 => ?_)
        refine r_istore_n (ls' := [.ref v0, .int v1, .int r8, .int v3]) (dt_Scen_kindOfSpark.at 19 rfl) (by decide) rfl ?_
        refine r_iincn (v := 1) (dt_Scen_kindOfSpark.at 20 rfl) (by decide) rfl (by decide) (fun y => [.ref v0, .int v1, .int r8, .int y]) (fun _ => rfl) (fun x9 => ?_)
        refine r_goto (tgt := 12) (dt_Scen_kindOfSpark.at 21 rfl) (by decide) ?_
        exact Rf.msk [true, true, true, true] (ih v0 v1 r8 x9 M7)
set_option maxRecDepth 20000 in
set_option maxHeartbeats 2000000 in
theorem ct_Scen_kindOfSpark {G : am_G} {l : Launch} (a0 : Nat) (p1 : Int32) (M : am_M) : Ct G l y_Scen_kindOfSpark X_Scen_kindOfSpark [.ref a0, .int p1] M (F_Scen_kindOfSpark a0 p1 M) := by
  refine Ct.of (by decide +kernel) rfl rfl (Nat.le_of_ble_eq_true rfl) ?_
  unfold F_Scen_kindOfSpark
  show Rf G l X_Scen_kindOfSpark 0 [.ref a0, .int p1, .retAddr 0, .retAddr 0] [] M _
  refine r_aload_n (dt_Scen_kindOfSpark.at 0 rfl) rfl ?_
  refine r_iload_n (dt_Scen_kindOfSpark.at 1 rfl) rfl ?_
  refine r_cnI (rest := [.ref a0]) (ct_NS_sourceOf p1 _) (dt_Scen_kindOfSpark.at 2 rfl) mb_NS_sourceOf wd_605 wd_606 (by decide) rfl rfl (Nat.le_of_ble_eq_true rfl) (fun r2 M1 => ?_)
  refine r_iconst (dt_Scen_kindOfSpark.at 3 rfl) 0 (by decide) ?_
  refine r_cvI (c := 5) (rest := []) (ct_Scen_ofSource a0 r2 0 _) (dt_Scen_kindOfSpark.at 4 rfl) mb_Scen_ofSource wd_507 wd_500 wd_501 rfl (by decide) rfl rfl (Nat.le_of_ble_eq_true rfl) (fun r4 M3 => ?_)
  refine r_istore_n (ls' := [.ref a0, .int p1, .int r4, .retAddr 0]) (dt_Scen_kindOfSpark.at 5 rfl) (by decide) rfl ?_
  refine r_iconst (dt_Scen_kindOfSpark.at 6 rfl) 0 (by decide) ?_
  refine r_istore_n (ls' := [.ref a0, .int p1, .int r4, .int 0]) (dt_Scen_kindOfSpark.at 7 rfl) (by decide) rfl ?_
  exact Rf.msk [true, true, true, true] (rf_Scen_kindOfSpark_L12 fu a0 p1 r4 0 M3)
set_option maxRecDepth 20000 in
set_option maxHeartbeats 2000000 in
theorem ct_NS_codeOfChild {G : am_G} {l : Launch} (p1 : Int32) (p2 : Int32) (p3 : Int32) (M : am_M) : Ct G l y_NS_codeOfChild X_NS_codeOfChild [.int p1, .int p2, .int p3] M (F_NS_codeOfChild p1 p2 p3 M) := by
  refine Ct.of (by decide +kernel) rfl rfl (Nat.le_of_ble_eq_true rfl) ?_
  unfold F_NS_codeOfChild
  show Rf G l X_NS_codeOfChild 0 [.int p1, .int p2, .int p3] [] M _
  refine r_iload_n (dt_NS_codeOfChild.at 0 rfl) rfl ?_
  refine r_iload_n (dt_NS_codeOfChild.at 1 rfl) rfl ?_
  refine r_if_ne (tgt := 10) (dt_NS_codeOfChild.at 2 rfl) (by decide) ?_ ?_
  · refine r_bipush (dt_NS_codeOfChild.at 3 rfl) 16 (by decide) ?_
    refine r_goto (tgt := 11) (dt_NS_codeOfChild.at 4 rfl) (by decide) ?_
    refine r_iconst (dt_NS_codeOfChild.at 6 rfl) 1 (by decide) ?_
    refine r_iload_n (dt_NS_codeOfChild.at 7 rfl) rfl ?_
    refine r_iadd (dt_NS_codeOfChild.at 8 rfl) ?_
    refine r_imul (dt_NS_codeOfChild.at 9 rfl) ?_
    refine r_iadd (dt_NS_codeOfChild.at 10 rfl) ?_
    exact r_iret (dt_NS_codeOfChild.at 11 rfl) rfl
  · refine r_iconst (dt_NS_codeOfChild.at 5 rfl) 1 (by decide) ?_
    refine r_iconst (dt_NS_codeOfChild.at 6 rfl) 1 (by decide) ?_
    refine r_iload_n (dt_NS_codeOfChild.at 7 rfl) rfl ?_
    refine r_iadd (dt_NS_codeOfChild.at 8 rfl) ?_
    refine r_imul (dt_NS_codeOfChild.at 9 rfl) ?_
    refine r_iadd (dt_NS_codeOfChild.at 10 rfl) ?_
    exact r_iret (dt_NS_codeOfChild.at 11 rfl) rfl
set_option maxRecDepth 20000 in
set_option maxHeartbeats 2000000 in
theorem ct_NS_child {G : am_G} {l : Launch} (a0 : Nat) (p1 : Int32) (p2 : Int32) (M : am_M) : Ct G l y_NS_child X_NS_child [.ref a0, .int p1, .int p2] M (F_NS_child a0 p1 p2 M) := by
  refine Ct.of (by decide +kernel) rfl rfl (Nat.le_of_ble_eq_true rfl) ?_
  unfold F_NS_child
  show Rf G l X_NS_child 0 [.ref a0, .int p1, .int p2, .retAddr 0] [] M _
  refine r_aload_n (dt_NS_child.at 0 rfl) rfl ?_
  refine r_fR (dt_NS_child.at 1 rfl) fl_NS_16 rfl (fun b1 => ?_)
  refine r_iload_n (dt_NS_child.at 2 rfl) rfl ?_
  refine r_cvI (c := 5) (rest := []) (ct_Scen_hasSpark b1 p1 _) (dt_NS_child.at 3 rfl) mb_Scen_hasSpark wd_601 wd_602 wd_603 rfl (by decide) rfl rfl (Nat.le_of_ble_eq_true rfl) (fun r3 M2 => ?_)
  refine r_if_ne (tgt := 14) (dt_NS_child.at 4 rfl) (by decide) ?_ ?_
  · refine r_bipush (dt_NS_child.at 5 rfl) (-2) (by decide) ?_
    exact r_iret (dt_NS_child.at 6 rfl) rfl
  · refine r_iload_n (dt_NS_child.at 7 rfl) rfl ?_
    refine r_csI (rest := []) (ct_NS_generationOf p1 _) (dt_NS_child.at 8 rfl) mb_NS_generationOf wd_617 wd_618 (by decide) rfl rfl (Nat.le_of_ble_eq_true rfl) (fun r5 M4 => ?_)
    refine r_istore_n (ls' := [.ref a0, .int p1, .int p2, .int r5]) (dt_NS_child.at 9 rfl) (by decide) rfl ?_
    refine r_iload_n (dt_NS_child.at 10 rfl) rfl ?_
    refine r_iconst (dt_NS_child.at 11 rfl) 2 (by decide) ?_
    refine r_icmp_eq (tgt := 49) (dt_NS_child.at 12 rfl) (by decide) ?_ ?_
    · refine r_iconst (dt_NS_child.at 25 rfl) (-1) (by decide) ?_
      exact r_iret (dt_NS_child.at 26 rfl) rfl
    · refine r_iload_n (dt_NS_child.at 13 rfl) rfl ?_
      refine r_if_lt (tgt := 49) (dt_NS_child.at 14 rfl) (by decide) ?_ ?_
      · refine r_iconst (dt_NS_child.at 25 rfl) (-1) (by decide) ?_
        exact r_iret (dt_NS_child.at 26 rfl) rfl
      · refine r_iload_n (dt_NS_child.at 15 rfl) rfl ?_
        refine r_aload_n (dt_NS_child.at 16 rfl) rfl ?_
        refine r_fR (dt_NS_child.at 17 rfl) fl_NS_16 rfl (fun b6 => ?_)
        refine r_aload_n (dt_NS_child.at 18 rfl) rfl ?_
        refine r_fR (dt_NS_child.at 19 rfl) fl_NS_16 rfl (fun b7 => ?_)
        refine r_iload_n (dt_NS_child.at 20 rfl) rfl ?_
        refine r_cvI (c := 5) (rest := [.ref b6, .int p2]) (ct_Scen_kindOfSpark b7 p1 _) (dt_NS_child.at 21 rfl) mb_Scen_kindOfSpark wd_620 wd_621 wd_622 rfl (by decide) rfl rfl (Nat.le_of_ble_eq_true rfl) (fun r9 M8 => ?_)
        refine r_bipush (dt_NS_child.at 22 rfl) 6 (by decide) ?_
        refine r_cvI (c := 5) (rest := [.int p2]) (ct_Scen_ofKind b6 r9 6 _) (dt_NS_child.at 23 rfl) mb_Scen_ofKind wd_542 wd_476 wd_477 rfl (by decide) rfl rfl (Nat.le_of_ble_eq_true rfl) (fun r11 M10 => ?_)
        refine r_icmp_lt (tgt := 51) (dt_NS_child.at 24 rfl) (by decide) ?_ ?_
        · refine r_iload_n (dt_NS_child.at 27 rfl) rfl ?_
          refine r_iload_n (dt_NS_child.at 28 rfl) rfl ?_
          refine r_iload_n (dt_NS_child.at 29 rfl) rfl ?_
          refine r_csI (rest := []) (ct_NS_codeOfChild p1 r5 p2 _) (dt_NS_child.at 30 rfl) mb_NS_codeOfChild wd_625 wd_626 (by decide) rfl rfl (Nat.le_of_ble_eq_true rfl) (fun r13 M12 => ?_)
          exact r_iret (dt_NS_child.at 31 rfl) rfl
        · refine r_iconst (dt_NS_child.at 25 rfl) (-1) (by decide) ?_
          exact r_iret (dt_NS_child.at 26 rfl) rfl
set_option maxRecDepth 20000 in
set_option maxHeartbeats 2000000 in
theorem ct_NS_codeOfParent {G : am_G} {l : Launch} (p1 : Int32) (M : am_M) : Ct G l y_NS_codeOfParent X_NS_codeOfParent [.int p1] M (F_NS_codeOfParent p1 M) := by
  refine Ct.of (by decide +kernel) rfl rfl (Nat.le_of_ble_eq_true rfl) ?_
  unfold F_NS_codeOfParent
  show Rf G l X_NS_codeOfParent 0 [.int p1] [] M _
  refine r_iload_n (dt_NS_codeOfParent.at 0 rfl) rfl ?_
  refine r_bipush (dt_NS_codeOfParent.at 1 rfl) 15 (by decide) ?_
  refine r_iand (dt_NS_codeOfParent.at 2 rfl) ?_
  refine r_if_eq (tgt := 12) (dt_NS_codeOfParent.at 3 rfl) (by decide) ?_ ?_
  · refine r_iload_n (dt_NS_codeOfParent.at 8 rfl) rfl ?_
    refine r_sipush (dt_NS_codeOfParent.at 9 rfl) 255 (by decide) ?_
    refine r_iand (dt_NS_codeOfParent.at 10 rfl) ?_
    refine r_if_eq (tgt := 28) (dt_NS_codeOfParent.at 11 rfl) (by decide) ?_ ?_
    · refine r_iconst (dt_NS_codeOfParent.at 16 rfl) (-1) (by decide) ?_
      exact r_iret (dt_NS_codeOfParent.at 17 rfl) rfl
    · refine r_iload_n (dt_NS_codeOfParent.at 12 rfl) rfl ?_
      refine r_sipush (dt_NS_codeOfParent.at 13 rfl) (-256) (by decide) ?_
      refine r_iand (dt_NS_codeOfParent.at 14 rfl) ?_
      refine r_goto (tgt := 29) (dt_NS_codeOfParent.at 15 rfl) (by decide) ?_
      exact r_iret (dt_NS_codeOfParent.at 17 rfl) rfl
  · refine r_iload_n (dt_NS_codeOfParent.at 4 rfl) rfl ?_
    refine r_bipush (dt_NS_codeOfParent.at 5 rfl) (-16) (by decide) ?_
    refine r_iand (dt_NS_codeOfParent.at 6 rfl) ?_
    exact r_iret (dt_NS_codeOfParent.at 7 rfl) rfl
set_option maxRecDepth 20000 in
set_option maxHeartbeats 2000000 in
theorem ct_NS_parent {G : am_G} {l : Launch} (a0 : Nat) (p1 : Int32) (M : am_M) : Ct G l y_NS_parent X_NS_parent [.ref a0, .int p1] M (F_NS_parent a0 p1 M) := by
  refine Ct.of (by decide +kernel) rfl rfl (Nat.le_of_ble_eq_true rfl) ?_
  unfold F_NS_parent
  show Rf G l X_NS_parent 0 [.ref a0, .int p1] [] M _
  refine r_aload_n (dt_NS_parent.at 0 rfl) rfl ?_
  refine r_fR (dt_NS_parent.at 1 rfl) fl_NS_16 rfl (fun b1 => ?_)
  refine r_iload_n (dt_NS_parent.at 2 rfl) rfl ?_
  refine r_cvI (c := 5) (rest := []) (ct_Scen_hasSpark b1 p1 _) (dt_NS_parent.at 3 rfl) mb_Scen_hasSpark wd_601 wd_602 wd_603 rfl (by decide) rfl rfl (Nat.le_of_ble_eq_true rfl) (fun r3 M2 => ?_)
  refine r_if_ne (tgt := 14) (dt_NS_parent.at 4 rfl) (by decide) ?_ ?_
  · refine r_bipush (dt_NS_parent.at 5 rfl) (-2) (by decide) ?_
    exact r_iret (dt_NS_parent.at 6 rfl) rfl
  · refine r_iload_n (dt_NS_parent.at 7 rfl) rfl ?_
    refine r_csI (rest := []) (ct_NS_codeOfParent p1 _) (dt_NS_parent.at 8 rfl) mb_NS_codeOfParent wd_632 wd_633 (by decide) rfl rfl (Nat.le_of_ble_eq_true rfl) (fun r5 M4 => ?_)
    exact r_iret (dt_NS_parent.at 9 rfl) rfl
set_option maxRecDepth 20000 in
set_option maxHeartbeats 2000000 in
theorem ct_Math_max {G : am_G} {l : Launch} (p1 : Int32) (p2 : Int32) (M : am_M) : Ct G l y_Math_max X_Math_max [.int p1, .int p2] M (F_Math_max p1 p2 M) := by
  refine Ct.ofF (by decide +kernel) rfl rfl (Nat.le_of_ble_eq_true rfl) ?_
  unfold F_Math_max
  show Rf G l X_Math_max 0 [.int p1, .int p2] [] M _
  refine r_iload_n (dt_Math_max.at 0 rfl) rfl ?_
  refine r_iload_n (dt_Math_max.at 1 rfl) rfl ?_
  refine r_icmp_lt (tgt := 9) (dt_Math_max.at 2 rfl) (by decide) ?_ ?_
  · refine r_iload_n (dt_Math_max.at 5 rfl) rfl ?_
    exact r_iret (dt_Math_max.at 6 rfl) rfl
  · refine r_iload_n (dt_Math_max.at 3 rfl) rfl ?_
    refine r_goto (tgt := 10) (dt_Math_max.at 4 rfl) (by decide) ?_
    exact r_iret (dt_Math_max.at 6 rfl) rfl
set_option maxRecDepth 20000 in
set_option maxHeartbeats 2000000 in
theorem ct_Scen_plannedTick {G : am_G} {l : Launch} (a0 : Nat) (p1 : Int32) (p2 : Int32) (M : am_M) : Ct G l y_Scen_plannedTick X_Scen_plannedTick [.ref a0, .int p1, .int p2] M (F_Scen_plannedTick a0 p1 p2 M) := by
  refine Ct.of (by decide +kernel) rfl rfl (Nat.le_of_ble_eq_true rfl) ?_
  unfold F_Scen_plannedTick
  show Rf G l X_Scen_plannedTick 0 [.ref a0, .int p1, .int p2, .retAddr 0] [] M _
  refine r_iconst (dt_Scen_plannedTick.at 0 rfl) 1 (by decide) ?_
  refine r_aload_n (dt_Scen_plannedTick.at 1 rfl) rfl ?_
  refine r_iload_n (dt_Scen_plannedTick.at 2 rfl) rfl ?_
  refine r_bipush (dt_Scen_plannedTick.at 3 rfl) 6 (by decide) ?_
  refine r_cvI (c := 5) (rest := [.int 1]) (ct_Scen_ofSource a0 p1 6 _) (dt_Scen_plannedTick.at 4 rfl) mb_Scen_ofSource wd_507 wd_500 wd_501 rfl (by decide) rfl rfl (Nat.le_of_ble_eq_true rfl) (fun r2 M1 => ?_)
  refine r_csI (rest := []) (ct_Math_max 1 r2 _) (dt_Scen_plannedTick.at 5 rfl) mb_Math_max wd_654 wd_655 (by decide) rfl rfl (Nat.le_of_ble_eq_true rfl) (fun r4 M3 => ?_)
  refine r_istore_n (ls' := [.ref a0, .int p1, .int p2, .int r4]) (dt_Scen_plannedTick.at 6 rfl) (by decide) rfl ?_
  refine r_aload_n (dt_Scen_plannedTick.at 7 rfl) rfl ?_
  refine r_iload_n (dt_Scen_plannedTick.at 8 rfl) rfl ?_
  refine r_iconst (dt_Scen_plannedTick.at 9 rfl) 4 (by decide) ?_
  refine r_cvI (c := 5) (rest := []) (ct_Scen_ofSource a0 p1 4 _) (dt_Scen_plannedTick.at 10 rfl) mb_Scen_ofSource wd_507 wd_500 wd_501 rfl (by decide) rfl rfl (Nat.le_of_ble_eq_true rfl) (fun r6 M5 => ?_)
  refine r_iload_n (dt_Scen_plannedTick.at 11 rfl) rfl ?_
  refine r_iload_n (dt_Scen_plannedTick.at 12 rfl) rfl ?_
  refine r_idiv (dt_Scen_plannedTick.at 13 rfl) ?_
  refine r_aload_n (dt_Scen_plannedTick.at 14 rfl) rfl ?_
  refine r_iload_n (dt_Scen_plannedTick.at 15 rfl) rfl ?_
  refine r_iconst (dt_Scen_plannedTick.at 16 rfl) 5 (by decide) ?_
  refine r_cvI (c := 5) (rest := [.int (p2 / r4), .int r6]) (ct_Scen_ofSource a0 p1 5 _) (dt_Scen_plannedTick.at 17 rfl) mb_Scen_ofSource wd_507 wd_500 wd_501 rfl (by decide) rfl rfl (Nat.le_of_ble_eq_true rfl) (fun r8 M7 => ?_)
  refine r_imul (dt_Scen_plannedTick.at 18 rfl) ?_
  refine r_iadd (dt_Scen_plannedTick.at 19 rfl) ?_
  exact r_iret (dt_Scen_plannedTick.at 20 rfl) rfl
set_option maxRecDepth 20000 in
set_option maxHeartbeats 2000000 in
theorem ct_NS_codeOfRoot {G : am_G} {l : Launch} (p1 : Int32) (p2 : Int32) (M : am_M) : Ct G l y_NS_codeOfRoot X_NS_codeOfRoot [.int p1, .int p2] M (F_NS_codeOfRoot p1 p2 M) := by
  refine Ct.of (by decide +kernel) rfl rfl (Nat.le_of_ble_eq_true rfl) ?_
  unfold F_NS_codeOfRoot
  show Rf G l X_NS_codeOfRoot 0 [.int p1, .int p2] [] M _
  refine r_sipush (dt_NS_codeOfRoot.at 0 rfl) 256 (by decide) ?_
  refine r_iconst (dt_NS_codeOfRoot.at 1 rfl) 4 (by decide) ?_
  refine r_iload_n (dt_NS_codeOfRoot.at 2 rfl) rfl ?_
  refine r_imul (dt_NS_codeOfRoot.at 3 rfl) ?_
  refine r_iload_n (dt_NS_codeOfRoot.at 4 rfl) rfl ?_
  refine r_iadd (dt_NS_codeOfRoot.at 5 rfl) ?_
  refine r_imul (dt_NS_codeOfRoot.at 6 rfl) ?_
  exact r_iret (dt_NS_codeOfRoot.at 7 rfl) rfl
set_option maxRecDepth 20000 in
set_option maxHeartbeats 2000000 in
theorem ct_Scen_draw {G : am_G} {l : Launch} (a0 : Nat) (p1 : Int32) (p2 : Int32) (p3 : Int32) (M : am_M) : Ct G l y_Scen_draw X_Scen_draw [.ref a0, .int p1, .int p2, .int p3] M (F_Scen_draw a0 p1 p2 p3 M) := by
  refine Ct.of (by decide +kernel) rfl rfl (Nat.le_of_ble_eq_true rfl) ?_
  unfold F_Scen_draw
  show Rf G l X_Scen_draw 0 [.ref a0, .int p1, .int p2, .int p3] [] M _
  refine r_iload_n (dt_Scen_draw.at 0 rfl) rfl ?_
  refine r_iconst (dt_Scen_draw.at 1 rfl) 1 (by decide) ?_
  refine r_icmp_le (tgt := 21) (dt_Scen_draw.at 2 rfl) (by decide) ?_ ?_
  · refine r_iconst (dt_Scen_draw.at 14 rfl) 0 (by decide) ?_
    exact r_iret (dt_Scen_draw.at 15 rfl) rfl
  · refine r_aload_n (dt_Scen_draw.at 3 rfl) rfl ?_
    refine r_iload_n (dt_Scen_draw.at 4 rfl) rfl ?_
    refine r_iload_n (dt_Scen_draw.at 5 rfl) rfl ?_
    refine r_cvL (c := 5) (rest := []) (ct_Scen_mix a0 p1 p2 _) (dt_Scen_draw.at 6 rfl) mb_Scen_mix wd_664 wd_590 wd_591 rfl (by decide) rfl rfl (Nat.le_of_ble_eq_true rfl) (fun z2 M1 => ?_)
    refine r_bipush (dt_Scen_draw.at 7 rfl) 33 (by decide) ?_
    refine r_lushr (dt_Scen_draw.at 8 rfl) ?_
    refine r_iload_n (dt_Scen_draw.at 9 rfl) rfl ?_
    refine r_i2l (dt_Scen_draw.at 10 rfl) ?_
    refine r_lrem (dt_Scen_draw.at 11 rfl) ?_
    refine r_l2i (dt_Scen_draw.at 12 rfl) ?_
    refine r_goto (tgt := 22) (dt_Scen_draw.at 13 rfl) (by decide) ?_
    exact r_iret (dt_Scen_draw.at 15 rfl) rfl
set_option maxRecDepth 20000 in
set_option maxHeartbeats 2000000 in
theorem ct_Scen_birthTick {G : am_G} {l : Launch} (a0 : Nat) (p1 : Int32) (p2 : Int32) (M : am_M) : Ct G l y_Scen_birthTick X_Scen_birthTick [.ref a0, .int p1, .int p2] M (F_Scen_birthTick a0 p1 p2 M) := by
  refine Ct.of (by decide +kernel) rfl rfl (Nat.le_of_ble_eq_true rfl) ?_
  unfold F_Scen_birthTick
  show Rf G l X_Scen_birthTick 0 [.ref a0, .int p1, .int p2] [] M _
  refine r_aload_n (dt_Scen_birthTick.at 0 rfl) rfl ?_
  refine r_iload_n (dt_Scen_birthTick.at 1 rfl) rfl ?_
  refine r_iload_n (dt_Scen_birthTick.at 2 rfl) rfl ?_
  refine r_cvI (c := 5) (rest := []) (ct_Scen_plannedTick a0 p1 p2 _) (dt_Scen_birthTick.at 3 rfl) mb_Scen_plannedTick wd_650 wd_651 wd_652 rfl (by decide) rfl rfl (Nat.le_of_ble_eq_true rfl) (fun r2 M1 => ?_)
  refine r_aload_n (dt_Scen_birthTick.at 4 rfl) rfl ?_
  refine r_iload_n (dt_Scen_birthTick.at 5 rfl) rfl ?_
  refine r_iload_n (dt_Scen_birthTick.at 6 rfl) rfl ?_
  refine r_cnI (rest := [.ref a0, .int r2]) (ct_NS_codeOfRoot p1 p2 _) (dt_Scen_birthTick.at 7 rfl) mb_NS_codeOfRoot wd_657 wd_658 (by decide) rfl rfl (Nat.le_of_ble_eq_true rfl) (fun r4 M3 => ?_)
  refine r_iconst (dt_Scen_birthTick.at 8 rfl) 0 (by decide) ?_
  refine r_aload_n (dt_Scen_birthTick.at 9 rfl) rfl ?_
  refine r_iload_n (dt_Scen_birthTick.at 10 rfl) rfl ?_
  refine r_bipush (dt_Scen_birthTick.at 11 rfl) 8 (by decide) ?_
  refine r_cvI (c := 5) (rest := [.int 0, .int r4, .ref a0, .int r2]) (ct_Scen_ofSource a0 p1 8 _) (dt_Scen_birthTick.at 12 rfl) mb_Scen_ofSource wd_507 wd_500 wd_501 rfl (by decide) rfl rfl (Nat.le_of_ble_eq_true rfl) (fun r6 M5 => ?_)
  refine r_iconst (dt_Scen_birthTick.at 13 rfl) 1 (by decide) ?_
  refine r_iadd (dt_Scen_birthTick.at 14 rfl) ?_
  refine r_cvI (c := 5) (rest := [.int r2]) (ct_Scen_draw a0 r4 0 (r6 + 1) _) (dt_Scen_birthTick.at 15 rfl) mb_Scen_draw wd_660 wd_661 wd_662 rfl (by decide) rfl rfl (Nat.le_of_ble_eq_true rfl) (fun r8 M7 => ?_)
  refine r_iadd (dt_Scen_birthTick.at 16 rfl) ?_
  exact r_iret (dt_Scen_birthTick.at 17 rfl) rfl
set_option maxRecDepth 20000 in
set_option maxHeartbeats 2000000 in
theorem rf_Sprk_beginAtSource_L83 {G : am_G} {l : Launch}   : ∀ (n : Nat) (v0 : Nat) (v1 : Int32) (v4 : Int32) (M : am_M), Rf G l X_Sprk_beginAtSource 83 [.ref v0, .int v1, .retAddr 0, .retAddr 0, .int v4] [] M (F_Sprk_beginAtSource_L83 n v0 v1 v4 M) := by
  intro n
  induction n with
  | zero => intro v0 v1 v4 M; exact Rf.no
  | succ n ih =>
    intro v0 v1 v4 M
    unfold F_Sprk_beginAtSource_L83
    refine r_iload (dt_Sprk_beginAtSource.at 46 rfl) rfl ?_
    refine r_iconst (dt_Sprk_beginAtSource.at 47 rfl) 3 (by decide) ?_
    refine r_icmp_ge (tgt := 119) (dt_Sprk_beginAtSource.at 48 rfl) (by decide) ?_ ?_
    · exact r_vret (dt_Sprk_beginAtSource.at 66 rfl) rfl
    · refine r_aload_n (dt_Sprk_beginAtSource.at 49 rfl) rfl ?_
      refine r_fR (dt_Sprk_beginAtSource.at 50 rfl) fl_Sprk_9 rfl (fun b24 => ?_)
      refine r_iload (dt_Sprk_beginAtSource.at 51 rfl) rfl ?_
      refine r_bipush (dt_Sprk_beginAtSource.at 52 rfl) 8 (by decide) ?_
      refine r_aload_n (dt_Sprk_beginAtSource.at 53 rfl) rfl ?_
      refine r_fR (dt_Sprk_beginAtSource.at 54 rfl) fl_Sprk_18 rfl (fun b25 => ?_)
      refine r_iload_n (dt_Sprk_beginAtSource.at 55 rfl) rfl ?_
      refine r_iconst (dt_Sprk_beginAtSource.at 56 rfl) 1 (by decide) ?_
      refine r_iload (dt_Sprk_beginAtSource.at 57 rfl) rfl ?_
      refine r_iadd (dt_Sprk_beginAtSource.at 58 rfl) ?_
      refine r_cvI (c := 5) (rest := [.int 8, .int v4, .ref b24]) (ct_Scen_ofSource b25 v1 (1 + v4) _) (dt_Sprk_beginAtSource.at 59 rfl) mb_Scen_ofSource wd_670 wd_500 wd_501 rfl (by decide) rfl rfl (Nat.le_of_ble_eq_true rfl) (fun r27 M26 => ?_)
      refine r_imul (dt_Sprk_beginAtSource.at 60 rfl) ?_
      refine r_iconst (dt_Sprk_beginAtSource.at 61 rfl) 4 (by decide) ?_
      refine r_iadd (dt_Sprk_beginAtSource.at 62 rfl) ?_
      refine r_tI (dt_Sprk_beginAtSource.at 63 rfl) (fun M28 => ?_)
      refine r_iincn (v := 1) (dt_Sprk_beginAtSource.at 64 rfl) (by decide) rfl (by decide) (fun y => [.ref v0, .int v1, .retAddr 0, .retAddr 0, .int y]) (fun _ => rfl) (fun x29 => ?_)
      refine r_goto (tgt := 83) (dt_Sprk_beginAtSource.at 65 rfl) (by decide) ?_
      exact Rf.msk [true, true, false, false, true] (ih v0 v1 x29 M28)
set_option maxRecDepth 20000 in
set_option maxHeartbeats 2000000 in
theorem ct_Sprk_beginAtSource {G : am_G} {l : Launch} (a0 : Nat) (p1 : Int32) (p2 : Int32) (p3 : Int32) (M : am_M) : Ct G l y_Sprk_beginAtSource X_Sprk_beginAtSource [.ref a0, .int p1, .int p2, .int p3] M (F_Sprk_beginAtSource a0 p1 p2 p3 M) := by
  refine Ct.of (by decide +kernel) rfl rfl (Nat.le_of_ble_eq_true rfl) ?_
  unfold F_Sprk_beginAtSource
  show Rf G l X_Sprk_beginAtSource 0 [.ref a0, .int p1, .int p2, .int p3, .retAddr 0] [] M _
  refine r_aload_n (dt_Sprk_beginAtSource.at 0 rfl) rfl ?_
  refine r_iload_n (dt_Sprk_beginAtSource.at 1 rfl) rfl ?_
  refine r_iload_n (dt_Sprk_beginAtSource.at 2 rfl) rfl ?_
  refine r_cnI (rest := [.ref a0]) (ct_NS_codeOfRoot p1 p2 _) (dt_Sprk_beginAtSource.at 3 rfl) mb_NS_codeOfRoot wd_669 wd_658 (by decide) rfl rfl (Nat.le_of_ble_eq_true rfl) (fun r2 M1 => ?_)
  refine r_sI (dt_Sprk_beginAtSource.at 4 rfl) fl_Sprk_26 rfl rfl rfl (fun M3 => ?_)
  refine r_aload_n (dt_Sprk_beginAtSource.at 5 rfl) rfl ?_
  refine r_aload_n (dt_Sprk_beginAtSource.at 6 rfl) rfl ?_
  refine r_fR (dt_Sprk_beginAtSource.at 7 rfl) fl_Sprk_18 rfl (fun b4 => ?_)
  refine r_iload_n (dt_Sprk_beginAtSource.at 8 rfl) rfl ?_
  refine r_iconst (dt_Sprk_beginAtSource.at 9 rfl) 0 (by decide) ?_
  refine r_cvI (c := 5) (rest := [.ref a0]) (ct_Scen_ofSource b4 p1 0 _) (dt_Sprk_beginAtSource.at 10 rfl) mb_Scen_ofSource wd_670 wd_500 wd_501 rfl (by decide) rfl rfl (Nat.le_of_ble_eq_true rfl) (fun r6 M5 => ?_)
  refine r_sI (dt_Sprk_beginAtSource.at 11 rfl) fl_Sprk_35 rfl rfl rfl (fun M7 => ?_)
  refine r_aload_n (dt_Sprk_beginAtSource.at 12 rfl) rfl ?_
  refine r_iconst (dt_Sprk_beginAtSource.at 13 rfl) 0 (by decide) ?_
  refine r_sI (dt_Sprk_beginAtSource.at 14 rfl) fl_Sprk_38 rfl rfl rfl (fun M8 => ?_)
  refine r_aload_n (dt_Sprk_beginAtSource.at 15 rfl) rfl ?_
  refine r_iload_n (dt_Sprk_beginAtSource.at 16 rfl) rfl ?_
  refine r_sI (dt_Sprk_beginAtSource.at 17 rfl) fl_Sprk_41 rfl rfl rfl (fun M9 => ?_)
  refine r_aload_n (dt_Sprk_beginAtSource.at 18 rfl) rfl ?_
  refine r_aload_n (dt_Sprk_beginAtSource.at 19 rfl) rfl ?_
  refine r_fI (dt_Sprk_beginAtSource.at 20 rfl) fl_Sprk_41 rfl (fun x10 => ?_)
  refine r_aload_n (dt_Sprk_beginAtSource.at 21 rfl) rfl ?_
  refine r_fR (dt_Sprk_beginAtSource.at 22 rfl) fl_Sprk_18 rfl (fun b11 => ?_)
  refine r_aload_n (dt_Sprk_beginAtSource.at 23 rfl) rfl ?_
  refine r_fI (dt_Sprk_beginAtSource.at 24 rfl) fl_Sprk_35 rfl (fun x12 => ?_)
  refine r_iconst (dt_Sprk_beginAtSource.at 25 rfl) 0 (by decide) ?_
  refine r_cvI (c := 5) (rest := [.int x10, .ref a0]) (ct_Scen_ofKind b11 x12 0 _) (dt_Sprk_beginAtSource.at 26 rfl) mb_Scen_ofKind wd_671 wd_476 wd_477 rfl (by decide) rfl rfl (Nat.le_of_ble_eq_true rfl) (fun r14 M13 => ?_)
  refine r_iadd (dt_Sprk_beginAtSource.at 27 rfl) ?_
  refine r_aload_n (dt_Sprk_beginAtSource.at 28 rfl) rfl ?_
  refine r_fR (dt_Sprk_beginAtSource.at 29 rfl) fl_Sprk_18 rfl (fun b15 => ?_)
  refine r_aload_n (dt_Sprk_beginAtSource.at 30 rfl) rfl ?_
  refine r_fI (dt_Sprk_beginAtSource.at 31 rfl) fl_Sprk_26 rfl (fun x16 => ?_)
  refine r_iconst (dt_Sprk_beginAtSource.at 32 rfl) 1 (by decide) ?_
  refine r_aload_n (dt_Sprk_beginAtSource.at 33 rfl) rfl ?_
  refine r_fR (dt_Sprk_beginAtSource.at 34 rfl) fl_Sprk_18 rfl (fun b17 => ?_)
  refine r_aload_n (dt_Sprk_beginAtSource.at 35 rfl) rfl ?_
  refine r_fI (dt_Sprk_beginAtSource.at 36 rfl) fl_Sprk_35 rfl (fun x18 => ?_)
  refine r_iconst (dt_Sprk_beginAtSource.at 37 rfl) 1 (by decide) ?_
  refine r_cvI (c := 5) (rest := [.int 1, .int x16, .ref b15, .int (x10 + r14), .ref a0]) (ct_Scen_ofKind b17 x18 1 _) (dt_Sprk_beginAtSource.at 38 rfl) mb_Scen_ofKind wd_671 wd_476 wd_477 rfl (by decide) rfl rfl (Nat.le_of_ble_eq_true rfl) (fun r20 M19 => ?_)
  refine r_iconst (dt_Sprk_beginAtSource.at 39 rfl) 1 (by decide) ?_
  refine r_iadd (dt_Sprk_beginAtSource.at 40 rfl) ?_
  refine r_cvI (c := 5) (rest := [.int (x10 + r14), .ref a0]) (ct_Scen_draw b15 x16 1 (r20 + 1) _) (dt_Sprk_beginAtSource.at 41 rfl) mb_Scen_draw wd_672 wd_661 wd_662 rfl (by decide) rfl rfl (Nat.le_of_ble_eq_true rfl) (fun r22 M21 => ?_)
  refine r_iadd (dt_Sprk_beginAtSource.at 42 rfl) ?_
  refine r_sI (dt_Sprk_beginAtSource.at 43 rfl) fl_Sprk_51 rfl rfl rfl (fun M23 => ?_)
  refine r_iconst (dt_Sprk_beginAtSource.at 44 rfl) 0 (by decide) ?_
  refine r_istore (ls' := [.ref a0, .int p1, .int p2, .int p3, .int 0]) (dt_Sprk_beginAtSource.at 45 rfl) (by decide) rfl ?_
  exact Rf.msk [true, true, false, false, true] (rf_Sprk_beginAtSource_L83 fu a0 p1 0 M23)
set_option maxRecDepth 20000 in
set_option maxHeartbeats 2000000 in
theorem rf_Sprk_ageBeyond_L58 {G : am_G} {l : Launch}   : ∀ (n : Nat) (v2 : Int32) (v3 : Int32) (v4 : Int32) (v5 : Int32) (v6 : Int32) (v7 : Int32) (M : am_M), Rf G l X_Sprk_ageBeyond 58 [.retAddr 0, .retAddr 0, .int v2, .int v3, .int v4, .int v5, .int v6, .int v7] [] M (F_Sprk_ageBeyond_L58 n v2 v3 v4 v5 v6 v7 M) := by
  intro n
  induction n with
  | zero => intro v2 v3 v4 v5 v6 v7 M; exact Rf.no
  | succ n ih =>
    intro v2 v3 v4 v5 v6 v7 M
    unfold F_Sprk_ageBeyond_L58
    refine r_iload (dt_Sprk_ageBeyond.at 33 rfl) rfl ?_
    refine r_iload_n (dt_Sprk_ageBeyond.at 34 rfl) rfl ?_
    refine r_icmp_ge (tgt := 98) (dt_Sprk_ageBeyond.at 35 rfl) (by decide) ?_ ?_
    · refine r_iload_n (dt_Sprk_ageBeyond.at 53 rfl) rfl ?_
      exact r_iret (dt_Sprk_ageBeyond.at 54 rfl) rfl
    · refine r_iload (dt_Sprk_ageBeyond.at 36 rfl) rfl ?_
      refine r_iload (dt_Sprk_ageBeyond.at 37 rfl) rfl ?_
      refine r_iadd (dt_Sprk_ageBeyond.at 38 rfl) ?_
      refine r_nmi (fun x10 => ?_)
      refine r_istore (ls' := [.retAddr 0, .retAddr 0, .int v2, .int v3, .int x10, .int v5, .int v6, .int v7]) (dt_Sprk_ageBeyond.at 39 rfl) (by decide) rfl ?_
      refine r_iload (dt_Sprk_ageBeyond.at 40 rfl) rfl ?_
      refine r_iload (dt_Sprk_ageBeyond.at 41 rfl) rfl ?_
      refine r_iadd (dt_Sprk_ageBeyond.at 42 rfl) ?_
      refine r_nmi (fun x11 => ?_)
      refine r_istore (ls' := [.retAddr 0, .retAddr 0, .int v2, .int v3, .int x10, .int x11, .int v6, .int v7]) (dt_Sprk_ageBeyond.at 43 rfl) (by decide) rfl ?_
      refine r_iload (dt_Sprk_ageBeyond.at 44 rfl) rfl ?_
      refine r_if_lt (tgt := 89) (dt_Sprk_ageBeyond.at 45 rfl) (by decide) ?_ ?_
      · refine r_iload (dt_Sprk_ageBeyond.at 49 rfl) rfl ?_
        exact r_iret (dt_Sprk_ageBeyond.at 50 rfl) rfl
      · refine r_iload (dt_Sprk_ageBeyond.at 46 rfl) rfl ?_
        refine r_iload_n (dt_Sprk_ageBeyond.at 47 rfl) rfl ?_
        refine r_icmp_lt (tgt := 92) (dt_Sprk_ageBeyond.at 48 rfl) (by decide) ?_ ?_
        · refine r_iincn (v := 1) (dt_Sprk_ageBeyond.at 51 rfl) (by decide) rfl (by decide) (fun y => [.retAddr 0, .retAddr 0, .int v2, .int v3, .int x10, .int x11, .int v6, .int y]) (fun _ => rfl) (fun x12 => ?_)
          refine r_goto (tgt := 58) (dt_Sprk_ageBeyond.at 52 rfl) (by decide) ?_
          exact Rf.msk [false, false, true, true, true, true, true, true] (ih v2 v3 x10 x11 v6 x12 M)
        · refine r_iload (dt_Sprk_ageBeyond.at 49 rfl) rfl ?_
          exact r_iret (dt_Sprk_ageBeyond.at 50 rfl) rfl
set_option maxRecDepth 20000 in
set_option maxHeartbeats 2000000 in
theorem rf_Sprk_ageBeyond_L41 {G : am_G} {l : Launch}   (v2 : Int32) (v3 : Int32) (v4 : Int32) (v5 : Int32) (s0 : Int32) (M : am_M) : Rf G l X_Sprk_ageBeyond 41 [.retAddr 0, .retAddr 0, .int v2, .int v3, .int v4, .int v5, .retAddr 0, .retAddr 0] [.int s0] M (F_Sprk_ageBeyond_L41 v2 v3 v4 v5 s0 M) := by
  unfold F_Sprk_ageBeyond_L41
  refine r_istore (ls' := [.retAddr 0, .retAddr 0, .int v2, .int v3, .int v4, .int v5, .int s0, .retAddr 0]) (dt_Sprk_ageBeyond.at 24 rfl) (by decide) rfl ?_
  refine r_iload (dt_Sprk_ageBeyond.at 25 rfl) rfl ?_
  refine r_if_ne (tgt := 55) (dt_Sprk_ageBeyond.at 26 rfl) (by decide) ?_ ?_
  · refine r_iload (dt_Sprk_ageBeyond.at 27 rfl) rfl ?_
    refine r_if_ne (tgt := 55) (dt_Sprk_ageBeyond.at 28 rfl) (by decide) ?_ ?_
    · refine r_iload_n (dt_Sprk_ageBeyond.at 29 rfl) rfl ?_
      exact r_iret (dt_Sprk_ageBeyond.at 30 rfl) rfl
    · refine r_iconst (dt_Sprk_ageBeyond.at 31 rfl) 1 (by decide) ?_
      refine r_istore (ls' := [.retAddr 0, .retAddr 0, .int v2, .int v3, .int v4, .int v5, .int s0, .int 1]) (dt_Sprk_ageBeyond.at 32 rfl) (by decide) rfl ?_
      exact Rf.msk [false, false, true, true, true, true, true, true] (rf_Sprk_ageBeyond_L58 fu v2 v3 v4 v5 s0 1 M)
  · refine r_iconst (dt_Sprk_ageBeyond.at 31 rfl) 1 (by decide) ?_
    refine r_istore (ls' := [.retAddr 0, .retAddr 0, .int v2, .int v3, .int v4, .int v5, .int s0, .int 1]) (dt_Sprk_ageBeyond.at 32 rfl) (by decide) rfl ?_
    exact Rf.msk [false, false, true, true, true, true, true, true] (rf_Sprk_ageBeyond_L58 fu v2 v3 v4 v5 s0 1 M)
set_option maxRecDepth 20000 in
set_option maxHeartbeats 2000000 in
theorem ct_Sprk_ageBeyond {G : am_G} {l : Launch} (a0 : Nat) (p1 : Int32) (p2 : Int32) (M : am_M) : Ct G l y_Sprk_ageBeyond X_Sprk_ageBeyond [.ref a0, .int p1, .int p2] M (F_Sprk_ageBeyond a0 p1 p2 M) := by
  refine Ct.of (by decide +kernel) rfl rfl (Nat.le_of_ble_eq_true rfl) ?_
  unfold F_Sprk_ageBeyond
  show Rf G l X_Sprk_ageBeyond 0 [.ref a0, .int p1, .int p2, .retAddr 0, .retAddr 0, .retAddr 0, .retAddr 0, .retAddr 0] [] M _
  refine r_aload_n (dt_Sprk_ageBeyond.at 0 rfl) rfl ?_
  refine r_fR (dt_Sprk_ageBeyond.at 1 rfl) fl_Sprk_18 rfl (fun b1 => ?_)
  refine r_iload_n (dt_Sprk_ageBeyond.at 2 rfl) rfl ?_
  refine r_cvI (c := 5) (rest := []) (ct_Scen_cellsAlong b1 p1 _) (dt_Sprk_ageBeyond.at 3 rfl) mb_Scen_cellsAlong wd_681 wd_491 wd_492 rfl (by decide) rfl rfl (Nat.le_of_ble_eq_true rfl) (fun r3 M2 => ?_)
  refine r_bipush (dt_Sprk_ageBeyond.at 4 rfl) 8 (by decide) ?_
  refine r_imul (dt_Sprk_ageBeyond.at 5 rfl) ?_
  refine r_nmi (fun x4 => ?_)
  refine r_istore_n (ls' := [.ref a0, .int p1, .int p2, .int x4, .retAddr 0, .retAddr 0, .retAddr 0, .retAddr 0]) (dt_Sprk_ageBeyond.at 6 rfl) (by decide) rfl ?_
  refine r_aload_n (dt_Sprk_ageBeyond.at 7 rfl) rfl ?_
  refine r_fR (dt_Sprk_ageBeyond.at 8 rfl) fl_Sprk_9 rfl (fun b5 => ?_)
  refine r_iload_n (dt_Sprk_ageBeyond.at 9 rfl) rfl ?_
  refine r_aI (dt_Sprk_ageBeyond.at 10 rfl) (fun x6 => ?_)
  refine r_istore (ls' := [.ref a0, .int p1, .int p2, .int x4, .int x6, .retAddr 0, .retAddr 0, .retAddr 0]) (dt_Sprk_ageBeyond.at 11 rfl) (by decide) rfl ?_
  refine r_aload_n (dt_Sprk_ageBeyond.at 12 rfl) rfl ?_
  refine r_fR (dt_Sprk_ageBeyond.at 13 rfl) fl_Sprk_15 rfl (fun b7 => ?_)
  refine r_iload_n (dt_Sprk_ageBeyond.at 14 rfl) rfl ?_
  refine r_aI (dt_Sprk_ageBeyond.at 15 rfl) (fun x8 => ?_)
  refine r_istore (ls' := [.ref a0, .int p1, .int p2, .int x4, .int x6, .int x8, .retAddr 0, .retAddr 0]) (dt_Sprk_ageBeyond.at 16 rfl) (by decide) rfl ?_
  refine r_iload_n (dt_Sprk_ageBeyond.at 17 rfl) rfl ?_
  refine r_iconst (dt_Sprk_ageBeyond.at 18 rfl) 1 (by decide) ?_
  refine r_icmp_ne (tgt := 40) (dt_Sprk_ageBeyond.at 19 rfl) (by decide) ?_ ?_
  · refine r_aload_n (dt_Sprk_ageBeyond.at 20 rfl) rfl ?_
    refine r_fI (dt_Sprk_ageBeyond.at 21 rfl) fl_Sprk_60 rfl (fun x9 => ?_)
    refine r_goto (tgt := 41) (dt_Sprk_ageBeyond.at 22 rfl) (by decide) ?_
    exact Rf.msk [false, false, true, true, true, true, false, false] (rf_Sprk_ageBeyond_L41 p2 x4 x6 x8 x9 M2)
  · refine r_iconst (dt_Sprk_ageBeyond.at 23 rfl) 0 (by decide) ?_
    exact Rf.msk [false, false, true, true, true, true, false, false] (rf_Sprk_ageBeyond_L41 p2 x4 x6 x8 0 M2)
