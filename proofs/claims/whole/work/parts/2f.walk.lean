/-! ===== the walks, row by row (printed by wip/whole/emit.py) ===== -/
set_option maxRecDepth 20000 in
set_option maxHeartbeats 2000000 in
theorem rf_Fram_fromTop_L11 {G : am_G} {l : Launch}   : ∀ (n : Nat) (v0 : Nat) (v1 : Int32) (v2 : Int32) (v4 : Int32) (v5 : Int32) (M : am_M), Rf G l X_Fram_fromTop 11 [.ref v0, .int v1, .int v2, .retAddr 0, .int v4, .int v5] [] M (F_Fram_fromTop_L11 n v0 v1 v2 v4 v5 M) := by
  intro n
  induction n with
  | zero => intro v0 v1 v2 v4 v5 M; exact Rf.no
  | succ n ih =>
    intro v0 v1 v2 v4 v5 M
    unfold F_Fram_fromTop_L11
    refine r_iload (dt_Fram_fromTop.at 7 rfl) rfl ?_
    refine r_if_lt (tgt := 56) (dt_Fram_fromTop.at 8 rfl) (by decide) ?_ ?_
    · refine r_iconst (dt_Fram_fromTop.at 28 rfl) (-1) (by decide) ?_
      exact r_iret (dt_Fram_fromTop.at 29 rfl) rfl
    · refine r_aload_n (dt_Fram_fromTop.at 9 rfl) rfl ?_
      refine r_aload_n (dt_Fram_fromTop.at 10 rfl) rfl ?_
      refine r_iload (dt_Fram_fromTop.at 11 rfl) rfl ?_
      refine r_cvI (c := 1) (rest := [.ref v0]) (ct_Fram_rowAt v0 v5 _) (dt_Fram_fromTop.at 12 rfl) mb_Fram_rowAt wd_1030 wd_1000 wd_1001 rfl (by decide) rfl rfl (Nat.le_of_ble_eq_true rfl) (fun r4 M3 => ?_)
      refine r_iload_n (dt_Fram_fromTop.at 13 rfl) rfl ?_
      refine r_iload_n (dt_Fram_fromTop.at 14 rfl) rfl ?_
      refine r_cvI (c := 1) (rest := []) (ct_Fram_isInColumn v0 r4 v1 v2 _) (dt_Fram_fromTop.at 15 rfl) mb_Fram_isInColumn wd_1031 wd_1019 wd_1020 rfl (by decide) rfl rfl (Nat.le_of_ble_eq_true rfl) (fun r6 M5 => ?_)
      refine r_if_eq (tgt := 50) (dt_Fram_fromTop.at 16 rfl) (by decide) ?_ ?_
      · refine r_iincn (v := (-1)) (dt_Fram_fromTop.at 26 rfl) (by decide) rfl (by decide) (fun y => [.ref v0, .int v1, .int v2, .retAddr 0, .int v4, .int y]) (fun _ => rfl) (fun x7 => ?_)
        refine r_goto (tgt := 11) (dt_Fram_fromTop.at 27 rfl) (by decide) ?_
        exact Rf.msk [true, true, true, false, true, true] (ih v0 v1 v2 v4 x7 M5)
      · refine r_iload (dt_Fram_fromTop.at 17 rfl) rfl ?_
        refine r_if_ne (tgt := 47) (dt_Fram_fromTop.at 18 rfl) (by decide) ?_ ?_
        · refine r_aload_n (dt_Fram_fromTop.at 19 rfl) rfl ?_
          refine r_aload_n (dt_Fram_fromTop.at 20 rfl) rfl ?_
          refine r_iload (dt_Fram_fromTop.at 21 rfl) rfl ?_
          refine r_cvI (c := 1) (rest := [.ref v0]) (ct_Fram_rowAt v0 v5 _) (dt_Fram_fromTop.at 22 rfl) mb_Fram_rowAt wd_1030 wd_1000 wd_1001 rfl (by decide) rfl rfl (Nat.le_of_ble_eq_true rfl) (fun r9 M8 => ?_)
          refine r_cvI (c := 1) (rest := []) (ct_Fram_codeOf v0 r9 _) (dt_Fram_fromTop.at 23 rfl) mb_Fram_codeOf wd_1032 wd_1004 wd_1005 rfl (by decide) rfl rfl (Nat.le_of_ble_eq_true rfl) (fun r11 M10 => ?_)
          exact r_iret (dt_Fram_fromTop.at 24 rfl) rfl
        · refine r_iincn (v := (-1)) (dt_Fram_fromTop.at 25 rfl) (by decide) rfl (by decide) (fun y => [.ref v0, .int v1, .int v2, .retAddr 0, .int y, .int v5]) (fun _ => rfl) (fun x12 => ?_)
          refine r_iincn (v := (-1)) (dt_Fram_fromTop.at 26 rfl) (by decide) rfl (by decide) (fun y => [.ref v0, .int v1, .int v2, .retAddr 0, .int x12, .int y]) (fun _ => rfl) (fun x13 => ?_)
          refine r_goto (tgt := 11) (dt_Fram_fromTop.at 27 rfl) (by decide) ?_
          exact Rf.msk [true, true, true, false, true, true] (ih v0 v1 v2 x12 x13 M5)
set_option maxRecDepth 20000 in
set_option maxHeartbeats 2000000 in
theorem ct_Fram_fromTop {G : am_G} {l : Launch} (a0 : Nat) (p1 : Int32) (p2 : Int32) (p3 : Int32) (M : am_M) : Ct G l y_Fram_fromTop X_Fram_fromTop [.ref a0, .int p1, .int p2, .int p3] M (F_Fram_fromTop a0 p1 p2 p3 M) := by
  refine Ct.of (by decide +kernel) rfl rfl (Nat.le_of_ble_eq_true rfl) ?_
  unfold F_Fram_fromTop
  show Rf G l X_Fram_fromTop 0 [.ref a0, .int p1, .int p2, .int p3, .retAddr 0, .retAddr 0] [] M _
  refine r_iload_n (dt_Fram_fromTop.at 0 rfl) rfl ?_
  refine r_istore (ls' := [.ref a0, .int p1, .int p2, .int p3, .int p3, .retAddr 0]) (dt_Fram_fromTop.at 1 rfl) (by decide) rfl ?_
  refine r_aload_n (dt_Fram_fromTop.at 2 rfl) rfl ?_
  refine r_fI (dt_Fram_fromTop.at 3 rfl) fl_Fram_43 rfl (fun x1 => ?_)
  refine r_iconst (dt_Fram_fromTop.at 4 rfl) 1 (by decide) ?_
  refine r_isub (dt_Fram_fromTop.at 5 rfl) ?_
  refine r_nmi (fun x2 => ?_)
  refine r_istore (ls' := [.ref a0, .int p1, .int p2, .int p3, .int p3, .int x2]) (dt_Fram_fromTop.at 6 rfl) (by decide) rfl ?_
  exact Rf.msk [true, true, true, false, true, true] (rf_Fram_fromTop_L11 fu a0 p1 p2 p3 x2 M)
set_option maxRecDepth 20000 in
set_option maxHeartbeats 2000000 in
theorem ct_NS_top {G : am_G} {l : Launch} (a0 : Nat) (p1 : Int32) (p2 : Int32) (p3 : Int32) (M : am_M) : Ct G l y_NS_top X_NS_top [.ref a0, .int p1, .int p2, .int p3] M (F_NS_top a0 p1 p2 p3 M) := by
  refine Ct.of (by decide +kernel) rfl rfl (Nat.le_of_ble_eq_true rfl) ?_
  unfold F_NS_top
  show Rf G l X_NS_top 0 [.ref a0, .int p1, .int p2, .int p3] [] M _
  refine r_aload_n (dt_NS_top.at 0 rfl) rfl ?_
  refine r_fR (dt_NS_top.at 1 rfl) fl_NS_16 rfl (fun b1 => ?_)
  refine r_iconst (dt_NS_top.at 2 rfl) 0 (by decide) ?_
  refine r_iload_n (dt_NS_top.at 3 rfl) rfl ?_
  refine r_cvI (c := 5) (rest := []) (ct_Scen_isCell b1 0 p2 _) (dt_NS_top.at 4 rfl) mb_Scen_isCell wd_921 wd_922 wd_923 rfl (by decide) rfl rfl (Nat.le_of_ble_eq_true rfl) (fun r3 M2 => ?_)
  refine r_if_eq (tgt := 35) (dt_NS_top.at 5 rfl) (by decide) ?_ ?_
  · refine r_bipush (dt_NS_top.at 17 rfl) (-2) (by decide) ?_
    exact r_iret (dt_NS_top.at 18 rfl) rfl
  · refine r_aload_n (dt_NS_top.at 6 rfl) rfl ?_
    refine r_fR (dt_NS_top.at 7 rfl) fl_NS_16 rfl (fun b4 => ?_)
    refine r_iconst (dt_NS_top.at 8 rfl) 1 (by decide) ?_
    refine r_iload_n (dt_NS_top.at 9 rfl) rfl ?_
    refine r_cvI (c := 5) (rest := []) (ct_Scen_isCell b4 1 p3 _) (dt_NS_top.at 10 rfl) mb_Scen_isCell wd_921 wd_922 wd_923 rfl (by decide) rfl rfl (Nat.le_of_ble_eq_true rfl) (fun r6 M5 => ?_)
    refine r_if_eq (tgt := 35) (dt_NS_top.at 11 rfl) (by decide) ?_ ?_
    · refine r_bipush (dt_NS_top.at 17 rfl) (-2) (by decide) ?_
      exact r_iret (dt_NS_top.at 18 rfl) rfl
    · refine r_aload_n (dt_NS_top.at 12 rfl) rfl ?_
      refine r_fR (dt_NS_top.at 13 rfl) fl_NS_55 rfl (fun b7 => ?_)
      refine r_iload_n (dt_NS_top.at 14 rfl) rfl ?_
      refine r_cvI (c := 1) (rest := []) (ct_Fram_shows b7 p1 _) (dt_NS_top.at 15 rfl) mb_Fram_shows wd_942 wd_943 wd_944 rfl (by decide) rfl rfl (Nat.le_of_ble_eq_true rfl) (fun r9 M8 => ?_)
      refine r_if_ne (tgt := 38) (dt_NS_top.at 16 rfl) (by decide) ?_ ?_
      · refine r_bipush (dt_NS_top.at 17 rfl) (-2) (by decide) ?_
        exact r_iret (dt_NS_top.at 18 rfl) rfl
      · refine r_aload_n (dt_NS_top.at 19 rfl) rfl ?_
        refine r_fR (dt_NS_top.at 20 rfl) fl_NS_55 rfl (fun b10 => ?_)
        refine r_iload_n (dt_NS_top.at 21 rfl) rfl ?_
        refine r_iload_n (dt_NS_top.at 22 rfl) rfl ?_
        refine r_iconst (dt_NS_top.at 23 rfl) 0 (by decide) ?_
        refine r_cvI (c := 1) (rest := []) (ct_Fram_fromTop b10 p2 p3 0 _) (dt_NS_top.at 24 rfl) mb_Fram_fromTop wd_1026 wd_1027 wd_1028 rfl (by decide) rfl rfl (Nat.le_of_ble_eq_true rfl) (fun r12 M11 => ?_)
        exact r_iret (dt_NS_top.at 25 rfl) rfl
set_option maxRecDepth 20000 in
set_option maxHeartbeats 2000000 in
theorem ct_NS_below {G : am_G} {l : Launch} (a0 : Nat) (p1 : Int32) (p2 : Int32) (p3 : Int32) (p4 : Int32) (M : am_M) : Ct G l y_NS_below X_NS_below [.ref a0, .int p1, .int p2, .int p3, .int p4] M (F_NS_below a0 p1 p2 p3 p4 M) := by
  refine Ct.of (by decide +kernel) rfl rfl (Nat.le_of_ble_eq_true rfl) ?_
  unfold F_NS_below
  show Rf G l X_NS_below 0 [.ref a0, .int p1, .int p2, .int p3, .int p4] [] M _
  refine r_iload (dt_NS_below.at 0 rfl) rfl ?_
  refine r_if_lt (tgt := 40) (dt_NS_below.at 1 rfl) (by decide) ?_ ?_
  · refine r_bipush (dt_NS_below.at 19 rfl) (-2) (by decide) ?_
    exact r_iret (dt_NS_below.at 20 rfl) rfl
  · refine r_aload_n (dt_NS_below.at 2 rfl) rfl ?_
    refine r_fR (dt_NS_below.at 3 rfl) fl_NS_16 rfl (fun b1 => ?_)
    refine r_iconst (dt_NS_below.at 4 rfl) 0 (by decide) ?_
    refine r_iload_n (dt_NS_below.at 5 rfl) rfl ?_
    refine r_cvI (c := 5) (rest := []) (ct_Scen_isCell b1 0 p2 _) (dt_NS_below.at 6 rfl) mb_Scen_isCell wd_921 wd_922 wd_923 rfl (by decide) rfl rfl (Nat.le_of_ble_eq_true rfl) (fun r3 M2 => ?_)
    refine r_if_eq (tgt := 40) (dt_NS_below.at 7 rfl) (by decide) ?_ ?_
    · refine r_bipush (dt_NS_below.at 19 rfl) (-2) (by decide) ?_
      exact r_iret (dt_NS_below.at 20 rfl) rfl
    · refine r_aload_n (dt_NS_below.at 8 rfl) rfl ?_
      refine r_fR (dt_NS_below.at 9 rfl) fl_NS_16 rfl (fun b4 => ?_)
      refine r_iconst (dt_NS_below.at 10 rfl) 1 (by decide) ?_
      refine r_iload_n (dt_NS_below.at 11 rfl) rfl ?_
      refine r_cvI (c := 5) (rest := []) (ct_Scen_isCell b4 1 p3 _) (dt_NS_below.at 12 rfl) mb_Scen_isCell wd_921 wd_922 wd_923 rfl (by decide) rfl rfl (Nat.le_of_ble_eq_true rfl) (fun r6 M5 => ?_)
      refine r_if_eq (tgt := 40) (dt_NS_below.at 13 rfl) (by decide) ?_ ?_
      · refine r_bipush (dt_NS_below.at 19 rfl) (-2) (by decide) ?_
        exact r_iret (dt_NS_below.at 20 rfl) rfl
      · refine r_aload_n (dt_NS_below.at 14 rfl) rfl ?_
        refine r_fR (dt_NS_below.at 15 rfl) fl_NS_55 rfl (fun b7 => ?_)
        refine r_iload_n (dt_NS_below.at 16 rfl) rfl ?_
        refine r_cvI (c := 1) (rest := []) (ct_Fram_shows b7 p1 _) (dt_NS_below.at 17 rfl) mb_Fram_shows wd_942 wd_943 wd_944 rfl (by decide) rfl rfl (Nat.le_of_ble_eq_true rfl) (fun r9 M8 => ?_)
        refine r_if_ne (tgt := 43) (dt_NS_below.at 18 rfl) (by decide) ?_ ?_
        · refine r_bipush (dt_NS_below.at 19 rfl) (-2) (by decide) ?_
          exact r_iret (dt_NS_below.at 20 rfl) rfl
        · refine r_aload_n (dt_NS_below.at 21 rfl) rfl ?_
          refine r_fR (dt_NS_below.at 22 rfl) fl_NS_55 rfl (fun b10 => ?_)
          refine r_iload_n (dt_NS_below.at 23 rfl) rfl ?_
          refine r_iload_n (dt_NS_below.at 24 rfl) rfl ?_
          refine r_iload (dt_NS_below.at 25 rfl) rfl ?_
          refine r_cvI (c := 1) (rest := []) (ct_Fram_fromTop b10 p2 p3 p4 _) (dt_NS_below.at 26 rfl) mb_Fram_fromTop wd_1026 wd_1027 wd_1028 rfl (by decide) rfl rfl (Nat.le_of_ble_eq_true rfl) (fun r12 M11 => ?_)
          exact r_iret (dt_NS_below.at 27 rfl) rfl
set_option maxRecDepth 20000 in
set_option maxHeartbeats 2000000 in
theorem ct_NS_columnAt {G : am_G} {l : Launch} (p1 : Int32) (p2 : Int32) (M : am_M) : Ct G l y_NS_columnAt X_NS_columnAt [.int p1, .int p2] M (F_NS_columnAt p1 p2 M) := by
  refine Ct.of (by decide +kernel) rfl rfl (Nat.le_of_ble_eq_true rfl) ?_
  unfold F_NS_columnAt
  show Rf G l X_NS_columnAt 0 [.int p1, .int p2] [] M _
  refine r_iload_n (dt_NS_columnAt.at 0 rfl) rfl ?_
  refine r_bipush (dt_NS_columnAt.at 1 rfl) 40 (by decide) ?_
  refine r_imul (dt_NS_columnAt.at 2 rfl) ?_
  refine r_iload_n (dt_NS_columnAt.at 3 rfl) rfl ?_
  refine r_iadd (dt_NS_columnAt.at 4 rfl) ?_
  exact r_iret (dt_NS_columnAt.at 5 rfl) rfl
set_option maxRecDepth 20000 in
set_option maxHeartbeats 2000000 in
theorem ct_Fram_columnOf {G : am_G} {l : Launch} (a0 : Nat) (p1 : Int32) (M : am_M) : Ct G l y_Fram_columnOf X_Fram_columnOf [.ref a0, .int p1] M (F_Fram_columnOf a0 p1 M) := by
  refine Ct.of (by decide +kernel) rfl rfl (Nat.le_of_ble_eq_true rfl) ?_
  unfold F_Fram_columnOf
  show Rf G l X_Fram_columnOf 0 [.ref a0, .int p1] [] M _
  refine r_aload_n (dt_Fram_columnOf.at 0 rfl) rfl ?_
  refine r_iload_n (dt_Fram_columnOf.at 1 rfl) rfl ?_
  refine r_iconst (dt_Fram_columnOf.at 2 rfl) 0 (by decide) ?_
  refine r_cvI (c := 1) (rest := []) (ct_Fram_placeOf a0 p1 0 _) (dt_Fram_columnOf.at 3 rfl) mb_Fram_placeOf wd_981 wd_982 wd_983 rfl (by decide) rfl rfl (Nat.le_of_ble_eq_true rfl) (fun r2 M1 => ?_)
  refine r_bipush (dt_Fram_columnOf.at 4 rfl) 8 (by decide) ?_
  refine r_idivk (dt_Fram_columnOf.at 5 rfl) (by decide) ?_
  refine r_aload_n (dt_Fram_columnOf.at 6 rfl) rfl ?_
  refine r_iload_n (dt_Fram_columnOf.at 7 rfl) rfl ?_
  refine r_iconst (dt_Fram_columnOf.at 8 rfl) 1 (by decide) ?_
  refine r_cvI (c := 1) (rest := [.int (r2 / 8)]) (ct_Fram_placeOf a0 p1 1 _) (dt_Fram_columnOf.at 9 rfl) mb_Fram_placeOf wd_981 wd_982 wd_983 rfl (by decide) rfl rfl (Nat.le_of_ble_eq_true rfl) (fun r4 M3 => ?_)
  refine r_bipush (dt_Fram_columnOf.at 10 rfl) 8 (by decide) ?_
  refine r_idivk (dt_Fram_columnOf.at 11 rfl) (by decide) ?_
  refine r_cnI (rest := []) (ct_NS_columnAt (r2 / 8) (r4 / 8) _) (dt_Fram_columnOf.at 12 rfl) mb_NS_columnAt wd_1049 wd_1050 (by decide) rfl rfl (Nat.le_of_ble_eq_true rfl) (fun r6 M5 => ?_)
  exact r_iret (dt_Fram_columnOf.at 13 rfl) rfl
set_option maxRecDepth 20000 in
set_option maxHeartbeats 2000000 in
theorem rf_Fram_countColumns_L7 {G : am_G} {l : Launch}   : ∀ (n : Nat) (v0 : Nat) (v1 : Nat) (v2 : Int32) (M : am_M), Rf G l X_Fram_countColumns 7 [.ref v0, .ref v1, .int v2, .retAddr 0] [] M (F_Fram_countColumns_L7 n v0 v1 v2 M) := by
  intro n
  induction n with
  | zero => intro v0 v1 v2 M; exact Rf.no
  | succ n ih =>
    intro v0 v1 v2 M
    unfold F_Fram_countColumns_L7
    refine r_iload_n (dt_Fram_countColumns.at 5 rfl) rfl ?_
    refine r_aload_n (dt_Fram_countColumns.at 6 rfl) rfl ?_
    refine r_fI (dt_Fram_countColumns.at 7 rfl) fl_Fram_43 rfl (fun x2 => ?_)
    refine r_icmp_ge (tgt := 44) (dt_Fram_countColumns.at 8 rfl) (by decide) ?_ ?_
    · exact r_vret (dt_Fram_countColumns.at 28 rfl) rfl
    · refine r_aload_n (dt_Fram_countColumns.at 9 rfl) rfl ?_
      refine r_iload_n (dt_Fram_countColumns.at 10 rfl) rfl ?_
      refine r_cvI (c := 1) (rest := []) (ct_Fram_columnOf v0 v2 _) (dt_Fram_countColumns.at 11 rfl) mb_Fram_columnOf wd_1045 wd_1047 wp_33 rfl (by decide) rfl rfl (Nat.le_of_ble_eq_true rfl) (fun r4 M3 => ?_)
      refine r_istore_n (ls' := [.ref v0, .ref v1, .int v2, .int r4]) (dt_Fram_countColumns.at 12 rfl) (by decide) rfl ?_
      refine r_iload_n (dt_Fram_countColumns.at 13 rfl) rfl ?_
      refine r_if_lt (tgt := 38) (dt_Fram_countColumns.at 14 rfl) (by decide) ?_ ?_
      · refine r_iincn (v := 1) (dt_Fram_countColumns.at 26 rfl) (by decide) rfl (by decide) (fun y => [.ref v0, .ref v1, .int y, .int r4]) (fun _ => rfl) (fun x5 => ?_)
        refine r_goto (tgt := 7) (dt_Fram_countColumns.at 27 rfl) (by decide) ?_
        exact Rf.msk [true, true, true, false] (ih v0 v1 x5 M3)
      · refine r_iload_n (dt_Fram_countColumns.at 15 rfl) rfl ?_
        refine r_aload_n (dt_Fram_countColumns.at 16 rfl) rfl ?_
        refine r_aN (dt_Fram_countColumns.at 17 rfl) (fun x6 => ?_)
        refine r_icmp_ge (tgt := 38) (dt_Fram_countColumns.at 18 rfl) (by decide) ?_ ?_
        · refine r_iincn (v := 1) (dt_Fram_countColumns.at 26 rfl) (by decide) rfl (by decide) (fun y => [.ref v0, .ref v1, .int y, .int r4]) (fun _ => rfl) (fun x7 => ?_)
          refine r_goto (tgt := 7) (dt_Fram_countColumns.at 27 rfl) (by decide) ?_
          exact Rf.msk [true, true, true, false] (ih v0 v1 x7 M3)
        · refine r_aload_n (dt_Fram_countColumns.at 19 rfl) rfl ?_
          refine r_iload_n (dt_Fram_countColumns.at 20 rfl) rfl ?_
          refine r_dup2 (dt_Fram_countColumns.at 21 rfl) rfl rfl ?_
          refine r_aI (dt_Fram_countColumns.at 22 rfl) (fun x8 => ?_)
          refine r_iconst (dt_Fram_countColumns.at 23 rfl) 1 (by decide) ?_
          refine r_iadd (dt_Fram_countColumns.at 24 rfl) ?_
          refine r_tI (dt_Fram_countColumns.at 25 rfl) (fun M9 => ?_)
          refine r_iincn (v := 1) (dt_Fram_countColumns.at 26 rfl) (by decide) rfl (by decide) (fun y => [.ref v0, .ref v1, .int y, .int r4]) (fun _ => rfl) (fun x10 => ?_)
          refine r_goto (tgt := 7) (dt_Fram_countColumns.at 27 rfl) (by decide) ?_
          exact Rf.msk [true, true, true, false] (ih v0 v1 x10 M9)
set_option maxRecDepth 20000 in
set_option maxHeartbeats 2000000 in
theorem ct_Fram_countColumns {G : am_G} {l : Launch} (a0 : Nat) (p1 : Nat) (M : am_M) : Ct G l y_Fram_countColumns X_Fram_countColumns [.ref a0, .ref p1] M (F_Fram_countColumns a0 p1 M) := by
  refine Ct.of (by decide +kernel) rfl rfl (Nat.le_of_ble_eq_true rfl) ?_
  unfold F_Fram_countColumns
  show Rf G l X_Fram_countColumns 0 [.ref a0, .ref p1, .retAddr 0, .retAddr 0] [] M _
  refine r_aload_n (dt_Fram_countColumns.at 0 rfl) rfl ?_
  refine r_iconst (dt_Fram_countColumns.at 1 rfl) 0 (by decide) ?_
  refine r_csV (rest := []) (ct_Arr_fill p1 0 _) (dt_Fram_countColumns.at 2 rfl) mb_Arr_fill wd_976 wd_341 (by decide) rfl rfl (Nat.le_of_ble_eq_true rfl) (fun M1 => ?_)
  refine r_iconst (dt_Fram_countColumns.at 3 rfl) 0 (by decide) ?_
  refine r_istore_n (ls' := [.ref a0, .ref p1, .int 0, .retAddr 0]) (dt_Fram_countColumns.at 4 rfl) (by decide) rfl ?_
  exact Rf.msk [true, true, true, false] (rf_Fram_countColumns_L7 fu a0 p1 0 M1)
set_option maxRecDepth 20000 in
set_option maxHeartbeats 2000000 in
theorem rf_NS_fullest_L94 {G : am_G} {l : Launch}   (v0 : Nat) (v2 : Int32) (v3 : Int32) (M : am_M) : Rf G l X_NS_fullest 94 [.ref v0, .retAddr 0, .int v2, .int v3, .retAddr 0] [] M (F_NS_fullest_L94 v0 v2 v3 M) := by
  unfold F_NS_fullest_L94
  refine r_iload_n (dt_NS_fullest.at 48 rfl) rfl ?_
  refine r_iconst (dt_NS_fullest.at 49 rfl) 2 (by decide) ?_
  refine r_icmp_ne (tgt := 106) (dt_NS_fullest.at 50 rfl) (by decide) ?_ ?_
  · refine r_aload_n (dt_NS_fullest.at 51 rfl) rfl ?_
    refine r_fR (dt_NS_fullest.at 52 rfl) fl_NS_69 rfl (fun b9 => ?_)
    refine r_iload_n (dt_NS_fullest.at 53 rfl) rfl ?_
    refine r_aI (dt_NS_fullest.at 54 rfl) (fun x10 => ?_)
    exact r_iret (dt_NS_fullest.at 55 rfl) rfl
  · refine r_iload_n (dt_NS_fullest.at 56 rfl) rfl ?_
    refine r_if_ne (tgt := 117) (dt_NS_fullest.at 57 rfl) (by decide) ?_ ?_
    · refine r_iload_n (dt_NS_fullest.at 58 rfl) rfl ?_
      refine r_bipush (dt_NS_fullest.at 59 rfl) 40 (by decide) ?_
      refine r_iremk (dt_NS_fullest.at 60 rfl) (by decide) ?_
      refine r_goto (tgt := 121) (dt_NS_fullest.at 61 rfl) (by decide) ?_
      exact r_iret (dt_NS_fullest.at 65 rfl) rfl
    · refine r_iload_n (dt_NS_fullest.at 62 rfl) rfl ?_
      refine r_bipush (dt_NS_fullest.at 63 rfl) 40 (by decide) ?_
      refine r_idivk (dt_NS_fullest.at 64 rfl) (by decide) ?_
      exact r_iret (dt_NS_fullest.at 65 rfl) rfl
set_option maxRecDepth 20000 in
set_option maxHeartbeats 2000000 in
theorem rf_NS_fullest_L51 {G : am_G} {l : Launch}   : ∀ (n : Nat) (v0 : Nat) (v2 : Int32) (v3 : Int32) (v4 : Int32) (M : am_M), Rf G l X_NS_fullest 51 [.ref v0, .retAddr 0, .int v2, .int v3, .int v4] [] M (F_NS_fullest_L51 n v0 v2 v3 v4 M) := by
  intro n
  induction n with
  | zero => intro v0 v2 v3 v4 M; exact Rf.no
  | succ n ih =>
    intro v0 v2 v3 v4 M
    unfold F_NS_fullest_L51
    refine r_iload (dt_NS_fullest.at 27 rfl) rfl ?_
    refine r_sipush (dt_NS_fullest.at 28 rfl) 1600 (by decide) ?_
    refine r_icmp_ge (tgt := 94) (dt_NS_fullest.at 29 rfl) (by decide) ?_ ?_
    · exact Rf.msk [true, false, true, true, false] (rf_NS_fullest_L94 v0 v2 v3 M)
    · refine r_iload (dt_NS_fullest.at 30 rfl) rfl ?_
      refine r_aload_n (dt_NS_fullest.at 31 rfl) rfl ?_
      refine r_fR (dt_NS_fullest.at 32 rfl) fl_NS_69 rfl (fun b11 => ?_)
      refine r_aN (dt_NS_fullest.at 33 rfl) (fun x12 => ?_)
      refine r_icmp_ge (tgt := 94) (dt_NS_fullest.at 34 rfl) (by decide) ?_ ?_
      · exact Rf.msk [true, false, true, true, false] (rf_NS_fullest_L94 v0 v2 v3 M)
      · refine r_aload_n (dt_NS_fullest.at 35 rfl) rfl ?_
        refine r_fR (dt_NS_fullest.at 36 rfl) fl_NS_69 rfl (fun b13 => ?_)
        refine r_iload (dt_NS_fullest.at 37 rfl) rfl ?_
        refine r_aI (dt_NS_fullest.at 38 rfl) (fun x14 => ?_)
        refine r_aload_n (dt_NS_fullest.at 39 rfl) rfl ?_
        refine r_fR (dt_NS_fullest.at 40 rfl) fl_NS_69 rfl (fun b15 => ?_)
        refine r_iload_n (dt_NS_fullest.at 41 rfl) rfl ?_
        refine r_aI (dt_NS_fullest.at 42 rfl) (fun x16 => ?_)
        refine r_icmp_le (tgt := 88) (dt_NS_fullest.at 43 rfl) (by decide) ?_ ?_
        · refine r_iincn (v := 1) (dt_NS_fullest.at 46 rfl) (by decide) rfl (by decide) (fun y => [.ref v0, .retAddr 0, .int v2, .int v3, .int y]) (fun _ => rfl) (fun x17 => ?_)
          refine r_goto (tgt := 51) (dt_NS_fullest.at 47 rfl) (by decide) ?_
          exact Rf.msk [true, false, true, true, true] (ih v0 v2 v3 x17 M)
        · refine r_iload (dt_NS_fullest.at 44 rfl) rfl ?_
          refine r_istore_n (ls' := [.ref v0, .retAddr 0, .int v2, .int v4, .int v4]) (dt_NS_fullest.at 45 rfl) (by decide) rfl ?_
          refine r_iincn (v := 1) (dt_NS_fullest.at 46 rfl) (by decide) rfl (by decide) (fun y => [.ref v0, .retAddr 0, .int v2, .int v4, .int y]) (fun _ => rfl) (fun x18 => ?_)
          refine r_goto (tgt := 51) (dt_NS_fullest.at 47 rfl) (by decide) ?_
          exact Rf.msk [true, false, true, true, true] (ih v0 v2 v4 x18 M)
set_option maxRecDepth 20000 in
set_option maxHeartbeats 2000000 in
theorem ct_NS_fullest {G : am_G} {l : Launch} (a0 : Nat) (p1 : Int32) (p2 : Int32) (M : am_M) : Ct G l y_NS_fullest X_NS_fullest [.ref a0, .int p1, .int p2] M (F_NS_fullest a0 p1 p2 M) := by
  refine Ct.of (by decide +kernel) rfl rfl (Nat.le_of_ble_eq_true rfl) ?_
  unfold F_NS_fullest
  show Rf G l X_NS_fullest 0 [.ref a0, .int p1, .int p2, .retAddr 0, .retAddr 0] [] M _
  refine r_iload_n (dt_NS_fullest.at 0 rfl) rfl ?_
  refine r_if_lt (tgt := 20) (dt_NS_fullest.at 1 rfl) (by decide) ?_ ?_
  · refine r_bipush (dt_NS_fullest.at 10 rfl) (-2) (by decide) ?_
    exact r_iret (dt_NS_fullest.at 11 rfl) rfl
  · refine r_iload_n (dt_NS_fullest.at 2 rfl) rfl ?_
    refine r_iconst (dt_NS_fullest.at 3 rfl) 2 (by decide) ?_
    refine r_icmp_gt (tgt := 20) (dt_NS_fullest.at 4 rfl) (by decide) ?_ ?_
    · refine r_bipush (dt_NS_fullest.at 10 rfl) (-2) (by decide) ?_
      exact r_iret (dt_NS_fullest.at 11 rfl) rfl
    · refine r_aload_n (dt_NS_fullest.at 5 rfl) rfl ?_
      refine r_fR (dt_NS_fullest.at 6 rfl) fl_NS_55 rfl (fun b1 => ?_)
      refine r_iload_n (dt_NS_fullest.at 7 rfl) rfl ?_
      refine r_cvI (c := 1) (rest := []) (ct_Fram_shows b1 p1 _) (dt_NS_fullest.at 8 rfl) mb_Fram_shows wd_942 wd_943 wd_944 rfl (by decide) rfl rfl (Nat.le_of_ble_eq_true rfl) (fun r3 M2 => ?_)
      refine r_if_ne (tgt := 23) (dt_NS_fullest.at 9 rfl) (by decide) ?_ ?_
      · refine r_bipush (dt_NS_fullest.at 10 rfl) (-2) (by decide) ?_
        exact r_iret (dt_NS_fullest.at 11 rfl) rfl
      · refine r_aload_n (dt_NS_fullest.at 12 rfl) rfl ?_
        refine r_fR (dt_NS_fullest.at 13 rfl) fl_NS_55 rfl (fun b4 => ?_)
        refine r_fI (dt_NS_fullest.at 14 rfl) fl_NS_310 rfl (fun x5 => ?_)
        refine r_if_ne (tgt := 35) (dt_NS_fullest.at 15 rfl) (by decide) ?_ ?_
        · refine r_iconst (dt_NS_fullest.at 16 rfl) (-1) (by decide) ?_
          exact r_iret (dt_NS_fullest.at 17 rfl) rfl
        · refine r_aload_n (dt_NS_fullest.at 18 rfl) rfl ?_
          refine r_fR (dt_NS_fullest.at 19 rfl) fl_NS_55 rfl (fun b6 => ?_)
          refine r_aload_n (dt_NS_fullest.at 20 rfl) rfl ?_
          refine r_fR (dt_NS_fullest.at 21 rfl) fl_NS_69 rfl (fun b7 => ?_)
          refine r_cvV (c := 1) (rest := []) (ct_Fram_countColumns b6 b7 _) (dt_NS_fullest.at 22 rfl) mb_Fram_countColumns wd_1041 wd_1042 wd_1043 rfl (by decide) rfl rfl (Nat.le_of_ble_eq_true rfl) (fun M8 => ?_)
          refine r_iconst (dt_NS_fullest.at 23 rfl) 0 (by decide) ?_
          refine r_istore_n (ls' := [.ref a0, .int p1, .int p2, .int 0, .retAddr 0]) (dt_NS_fullest.at 24 rfl) (by decide) rfl ?_
          refine r_iconst (dt_NS_fullest.at 25 rfl) 1 (by decide) ?_
          refine r_istore (ls' := [.ref a0, .int p1, .int p2, .int 0, .int 1]) (dt_NS_fullest.at 26 rfl) (by decide) rfl ?_
          exact Rf.msk [true, false, true, true, true] (rf_NS_fullest_L51 fu a0 p2 0 1 M8)
set_option maxRecDepth 20000 in
set_option maxHeartbeats 2000000 in
theorem rf_NS_columns_L29 {G : am_G} {l : Launch}   : ∀ (n : Nat) (v0 : Nat) (v2 : Int32) (v3 : Int32) (M : am_M), Rf G l X_NS_columns 29 [.ref v0, .retAddr 0, .int v2, .int v3] [] M (F_NS_columns_L29 n v0 v2 v3 M) := by
  intro n
  induction n with
  | zero => intro v0 v2 v3 M; exact Rf.no
  | succ n ih =>
    intro v0 v2 v3 M
    unfold F_NS_columns_L29
    refine r_iload_n (dt_NS_columns.at 16 rfl) rfl ?_
    refine r_sipush (dt_NS_columns.at 17 rfl) 1600 (by decide) ?_
    refine r_icmp_ge (tgt := 63) (dt_NS_columns.at 18 rfl) (by decide) ?_ ?_
    · refine r_iload_n (dt_NS_columns.at 32 rfl) rfl ?_
      exact r_iret (dt_NS_columns.at 33 rfl) rfl
    · refine r_iload_n (dt_NS_columns.at 19 rfl) rfl ?_
      refine r_aload_n (dt_NS_columns.at 20 rfl) rfl ?_
      refine r_fR (dt_NS_columns.at 21 rfl) fl_NS_69 rfl (fun b7 => ?_)
      refine r_aN (dt_NS_columns.at 22 rfl) (fun x8 => ?_)
      refine r_icmp_ge (tgt := 63) (dt_NS_columns.at 23 rfl) (by decide) ?_ ?_
      · refine r_iload_n (dt_NS_columns.at 32 rfl) rfl ?_
        exact r_iret (dt_NS_columns.at 33 rfl) rfl
      · refine r_aload_n (dt_NS_columns.at 24 rfl) rfl ?_
        refine r_fR (dt_NS_columns.at 25 rfl) fl_NS_69 rfl (fun b9 => ?_)
        refine r_iload_n (dt_NS_columns.at 26 rfl) rfl ?_
        refine r_aI (dt_NS_columns.at 27 rfl) (fun x10 => ?_)
        refine r_if_le (tgt := 57) (dt_NS_columns.at 28 rfl) (by decide) ?_ ?_
        · refine r_iincn (v := 1) (dt_NS_columns.at 30 rfl) (by decide) rfl (by decide) (fun y => [.ref v0, .retAddr 0, .int v2, .int y]) (fun _ => rfl) (fun x11 => ?_)
          refine r_goto (tgt := 29) (dt_NS_columns.at 31 rfl) (by decide) ?_
          exact Rf.msk [true, false, true, true] (ih v0 v2 x11 M)
        · refine r_iincn (v := 1) (dt_NS_columns.at 29 rfl) (by decide) rfl (by decide) (fun y => [.ref v0, .retAddr 0, .int y, .int v3]) (fun _ => rfl) (fun x12 => ?_)
          refine r_iincn (v := 1) (dt_NS_columns.at 30 rfl) (by decide) rfl (by decide) (fun y => [.ref v0, .retAddr 0, .int x12, .int y]) (fun _ => rfl) (fun x13 => ?_)
          refine r_goto (tgt := 29) (dt_NS_columns.at 31 rfl) (by decide) ?_
          exact Rf.msk [true, false, true, true] (ih v0 x12 x13 M)
set_option maxRecDepth 20000 in
set_option maxHeartbeats 2000000 in
theorem ct_NS_columns {G : am_G} {l : Launch} (a0 : Nat) (p1 : Int32) (M : am_M) : Ct G l y_NS_columns X_NS_columns [.ref a0, .int p1] M (F_NS_columns a0 p1 M) := by
  refine Ct.of (by decide +kernel) rfl rfl (Nat.le_of_ble_eq_true rfl) ?_
  unfold F_NS_columns
  show Rf G l X_NS_columns 0 [.ref a0, .int p1, .retAddr 0, .retAddr 0] [] M _
  refine r_aload_n (dt_NS_columns.at 0 rfl) rfl ?_
  refine r_fR (dt_NS_columns.at 1 rfl) fl_NS_55 rfl (fun b1 => ?_)
  refine r_iload_n (dt_NS_columns.at 2 rfl) rfl ?_
  refine r_cvI (c := 1) (rest := []) (ct_Fram_shows b1 p1 _) (dt_NS_columns.at 3 rfl) mb_Fram_shows wd_942 wd_943 wd_944 rfl (by decide) rfl rfl (Nat.le_of_ble_eq_true rfl) (fun r3 M2 => ?_)
  refine r_if_ne (tgt := 14) (dt_NS_columns.at 4 rfl) (by decide) ?_ ?_
  · refine r_bipush (dt_NS_columns.at 5 rfl) (-2) (by decide) ?_
    exact r_iret (dt_NS_columns.at 6 rfl) rfl
  · refine r_aload_n (dt_NS_columns.at 7 rfl) rfl ?_
    refine r_fR (dt_NS_columns.at 8 rfl) fl_NS_55 rfl (fun b4 => ?_)
    refine r_aload_n (dt_NS_columns.at 9 rfl) rfl ?_
    refine r_fR (dt_NS_columns.at 10 rfl) fl_NS_69 rfl (fun b5 => ?_)
    refine r_cvV (c := 1) (rest := []) (ct_Fram_countColumns b4 b5 _) (dt_NS_columns.at 11 rfl) mb_Fram_countColumns wd_1041 wd_1042 wd_1043 rfl (by decide) rfl rfl (Nat.le_of_ble_eq_true rfl) (fun M6 => ?_)
    refine r_iconst (dt_NS_columns.at 12 rfl) 0 (by decide) ?_
    refine r_istore_n (ls' := [.ref a0, .int p1, .int 0, .retAddr 0]) (dt_NS_columns.at 13 rfl) (by decide) rfl ?_
    refine r_iconst (dt_NS_columns.at 14 rfl) 0 (by decide) ?_
    refine r_istore_n (ls' := [.ref a0, .int p1, .int 0, .int 0]) (dt_NS_columns.at 15 rfl) (by decide) rfl ?_
    exact Rf.msk [true, false, true, true] (rf_NS_columns_L29 fu a0 0 0 M6)
set_option maxRecDepth 20000 in
set_option maxHeartbeats 2000000 in
theorem ct_Scen_isCellOfWorld {G : am_G} {l : Launch} (a0 : Nat) (p1 : Int32) (p2 : Int32) (p3 : Int32) (M : am_M) : Ct G l y_Scen_isCellOfWorld X_Scen_isCellOfWorld [.ref a0, .int p1, .int p2, .int p3] M (F_Scen_isCellOfWorld a0 p1 p2 p3 M) := by
  refine Ct.of (by decide +kernel) rfl rfl (Nat.le_of_ble_eq_true rfl) ?_
  unfold F_Scen_isCellOfWorld
  show Rf G l X_Scen_isCellOfWorld 0 [.ref a0, .int p1, .int p2, .int p3] [] M _
  refine r_aload_n (dt_Scen_isCellOfWorld.at 0 rfl) rfl ?_
  refine r_iconst (dt_Scen_isCellOfWorld.at 1 rfl) 0 (by decide) ?_
  refine r_iload_n (dt_Scen_isCellOfWorld.at 2 rfl) rfl ?_
  refine r_cvI (c := 5) (rest := []) (ct_Scen_isCell a0 0 p1 _) (dt_Scen_isCellOfWorld.at 3 rfl) mb_Scen_isCell wd_1064 wd_922 wd_923 rfl (by decide) rfl rfl (Nat.le_of_ble_eq_true rfl) (fun r2 M1 => ?_)
  refine r_if_eq (tgt := 31) (dt_Scen_isCellOfWorld.at 4 rfl) (by decide) ?_ ?_
  · refine r_iconst (dt_Scen_isCellOfWorld.at 17 rfl) 0 (by decide) ?_
    exact r_zret (dt_Scen_isCellOfWorld.at 18 rfl) rfl rfl
  · refine r_aload_n (dt_Scen_isCellOfWorld.at 5 rfl) rfl ?_
    refine r_iconst (dt_Scen_isCellOfWorld.at 6 rfl) 1 (by decide) ?_
    refine r_iload_n (dt_Scen_isCellOfWorld.at 7 rfl) rfl ?_
    refine r_cvI (c := 5) (rest := []) (ct_Scen_isCell a0 1 p2 _) (dt_Scen_isCellOfWorld.at 8 rfl) mb_Scen_isCell wd_1064 wd_922 wd_923 rfl (by decide) rfl rfl (Nat.le_of_ble_eq_true rfl) (fun r4 M3 => ?_)
    refine r_if_eq (tgt := 31) (dt_Scen_isCellOfWorld.at 9 rfl) (by decide) ?_ ?_
    · refine r_iconst (dt_Scen_isCellOfWorld.at 17 rfl) 0 (by decide) ?_
      exact r_zret (dt_Scen_isCellOfWorld.at 18 rfl) rfl rfl
    · refine r_aload_n (dt_Scen_isCellOfWorld.at 10 rfl) rfl ?_
      refine r_iconst (dt_Scen_isCellOfWorld.at 11 rfl) 2 (by decide) ?_
      refine r_iload_n (dt_Scen_isCellOfWorld.at 12 rfl) rfl ?_
      refine r_cvI (c := 5) (rest := []) (ct_Scen_isCell a0 2 p3 _) (dt_Scen_isCellOfWorld.at 13 rfl) mb_Scen_isCell wd_1064 wd_922 wd_923 rfl (by decide) rfl rfl (Nat.le_of_ble_eq_true rfl) (fun r6 M5 => ?_)
      refine r_if_eq (tgt := 31) (dt_Scen_isCellOfWorld.at 14 rfl) (by decide) ?_ ?_
      · refine r_iconst (dt_Scen_isCellOfWorld.at 17 rfl) 0 (by decide) ?_
        exact r_zret (dt_Scen_isCellOfWorld.at 18 rfl) rfl rfl
      · refine r_iconst (dt_Scen_isCellOfWorld.at 15 rfl) 1 (by decide) ?_
        refine r_goto (tgt := 32) (dt_Scen_isCellOfWorld.at 16 rfl) (by decide) ?_
        exact r_zret (dt_Scen_isCellOfWorld.at 18 rfl) rfl rfl
set_option maxRecDepth 20000 in
set_option maxHeartbeats 2000000 in
theorem ct_Fram_farSquared {G : am_G} {l : Launch} (a0 : Nat) (p1 : Int32) (p2 : Int32) (p3 : Int32) (p4 : Int32) (M : am_M) : Ct G l y_Fram_farSquared X_Fram_farSquared [.ref a0, .int p1, .int p2, .int p3, .int p4] M (F_Fram_farSquared a0 p1 p2 p3 p4 M) := by
  refine Ct.of (by decide +kernel) rfl rfl (Nat.le_of_ble_eq_true rfl) ?_
  unfold F_Fram_farSquared
  show Rf G l X_Fram_farSquared 0 [.ref a0, .int p1, .int p2, .int p3, .int p4, .retAddr 0, .retAddr 0, .retAddr 0] [] M _
  refine r_aload_n (dt_Fram_farSquared.at 0 rfl) rfl ?_
  refine r_iload_n (dt_Fram_farSquared.at 1 rfl) rfl ?_
  refine r_iconst (dt_Fram_farSquared.at 2 rfl) 0 (by decide) ?_
  refine r_cvI (c := 1) (rest := []) (ct_Fram_placeOf a0 p1 0 _) (dt_Fram_farSquared.at 3 rfl) mb_Fram_placeOf wd_981 wd_982 wd_983 rfl (by decide) rfl rfl (Nat.le_of_ble_eq_true rfl) (fun r2 M1 => ?_)
  refine r_bipush (dt_Fram_farSquared.at 4 rfl) 8 (by decide) ?_
  refine r_iload_n (dt_Fram_farSquared.at 5 rfl) rfl ?_
  refine r_imul (dt_Fram_farSquared.at 6 rfl) ?_
  refine r_iconst (dt_Fram_farSquared.at 7 rfl) 4 (by decide) ?_
  refine r_iadd (dt_Fram_farSquared.at 8 rfl) ?_
  refine r_isub (dt_Fram_farSquared.at 9 rfl) ?_
  refine r_nmi (fun x3 => ?_)
  refine r_istore (ls' := [.ref a0, .int p1, .int p2, .int p3, .int p4, .int x3, .retAddr 0, .retAddr 0]) (dt_Fram_farSquared.at 10 rfl) (by decide) rfl ?_
  refine r_aload_n (dt_Fram_farSquared.at 11 rfl) rfl ?_
  refine r_iload_n (dt_Fram_farSquared.at 12 rfl) rfl ?_
  refine r_iconst (dt_Fram_farSquared.at 13 rfl) 1 (by decide) ?_
  refine r_cvI (c := 1) (rest := []) (ct_Fram_placeOf a0 p1 1 _) (dt_Fram_farSquared.at 14 rfl) mb_Fram_placeOf wd_981 wd_982 wd_983 rfl (by decide) rfl rfl (Nat.le_of_ble_eq_true rfl) (fun r5 M4 => ?_)
  refine r_bipush (dt_Fram_farSquared.at 15 rfl) 8 (by decide) ?_
  refine r_iload_n (dt_Fram_farSquared.at 16 rfl) rfl ?_
  refine r_imul (dt_Fram_farSquared.at 17 rfl) ?_
  refine r_iconst (dt_Fram_farSquared.at 18 rfl) 4 (by decide) ?_
  refine r_iadd (dt_Fram_farSquared.at 19 rfl) ?_
  refine r_isub (dt_Fram_farSquared.at 20 rfl) ?_
  refine r_nmi (fun x6 => ?_)
  refine r_istore (ls' := [.ref a0, .int p1, .int p2, .int p3, .int p4, .int x3, .int x6, .retAddr 0]) (dt_Fram_farSquared.at 21 rfl) (by decide) rfl ?_
  refine r_aload_n (dt_Fram_farSquared.at 22 rfl) rfl ?_
  refine r_iload_n (dt_Fram_farSquared.at 23 rfl) rfl ?_
  refine r_iconst (dt_Fram_farSquared.at 24 rfl) 2 (by decide) ?_
  refine r_cvI (c := 1) (rest := []) (ct_Fram_placeOf a0 p1 2 _) (dt_Fram_farSquared.at 25 rfl) mb_Fram_placeOf wd_981 wd_982 wd_983 rfl (by decide) rfl rfl (Nat.le_of_ble_eq_true rfl) (fun r8 M7 => ?_)
  refine r_bipush (dt_Fram_farSquared.at 26 rfl) 8 (by decide) ?_
  refine r_iload (dt_Fram_farSquared.at 27 rfl) rfl ?_
  refine r_imul (dt_Fram_farSquared.at 28 rfl) ?_
  refine r_iconst (dt_Fram_farSquared.at 29 rfl) 4 (by decide) ?_
  refine r_iadd (dt_Fram_farSquared.at 30 rfl) ?_
  refine r_isub (dt_Fram_farSquared.at 31 rfl) ?_
  refine r_nmi (fun x9 => ?_)
  refine r_istore (ls' := [.ref a0, .int p1, .int p2, .int p3, .int p4, .int x3, .int x6, .int x9]) (dt_Fram_farSquared.at 32 rfl) (by decide) rfl ?_
  refine r_iload (dt_Fram_farSquared.at 33 rfl) rfl ?_
  refine r_iload (dt_Fram_farSquared.at 34 rfl) rfl ?_
  refine r_imul (dt_Fram_farSquared.at 35 rfl) ?_
  refine r_iload (dt_Fram_farSquared.at 36 rfl) rfl ?_
  refine r_iload (dt_Fram_farSquared.at 37 rfl) rfl ?_
  refine r_imul (dt_Fram_farSquared.at 38 rfl) ?_
  refine r_iadd (dt_Fram_farSquared.at 39 rfl) ?_
  refine r_iload (dt_Fram_farSquared.at 40 rfl) rfl ?_
  refine r_iload (dt_Fram_farSquared.at 41 rfl) rfl ?_
  refine r_imul (dt_Fram_farSquared.at 42 rfl) ?_
  refine r_iadd (dt_Fram_farSquared.at 43 rfl) ?_
  exact r_iret (dt_Fram_farSquared.at 44 rfl) rfl
set_option maxRecDepth 20000 in
set_option maxHeartbeats 2000000 in
theorem rf_NS_nearest_L77 {G : am_G} {l : Launch} (k37 : Nat → Int32 → Int32 → Int32 → Int32 → Int32 → Int32 → am_M → am_R) (hk37 : ∀ v0 v2 v3 v4 v5 v6 v7 M, Rf G l X_NS_nearest 37 [.ref v0, .retAddr 0, .int v2, .int v3, .int v4, .int v5, .int v6, .int v7, .retAddr 0] [] M (k37 v0 v2 v3 v4 v5 v6 v7 M)) (v0 : Nat) (v2 : Int32) (v3 : Int32) (v4 : Int32) (v7 : Int32) (v8 : Int32) (M : am_M) : Rf G l X_NS_nearest 77 [.ref v0, .retAddr 0, .int v2, .int v3, .int v4, .retAddr 0, .retAddr 0, .int v7, .int v8] [] M (F_NS_nearest_L77 k37 v0 v2 v3 v4 v7 v8 M) := by
  unfold F_NS_nearest_L77
  refine r_aload_n (dt_NS_nearest.at 39 rfl) rfl ?_
  refine r_fR (dt_NS_nearest.at 40 rfl) fl_NS_55 rfl (fun b12 => ?_)
  refine r_iload (dt_NS_nearest.at 41 rfl) rfl ?_
  refine r_cvI (c := 1) (rest := []) (ct_Fram_codeOf b12 v7 _) (dt_NS_nearest.at 42 rfl) mb_Fram_codeOf wd_1003 wd_1004 wd_1005 rfl (by decide) rfl rfl (Nat.le_of_ble_eq_true rfl) (fun r14 M13 => ?_)
  refine r_istore (ls' := [.ref v0, .retAddr 0, .int v2, .int v3, .int v4, .int r14, .retAddr 0, .int v7, .int v8]) (dt_NS_nearest.at 43 rfl) (by decide) rfl ?_
  refine r_iload (dt_NS_nearest.at 44 rfl) rfl ?_
  refine r_istore (ls' := [.ref v0, .retAddr 0, .int v2, .int v3, .int v4, .int r14, .int v8, .int v7, .int v8]) (dt_NS_nearest.at 45 rfl) (by decide) rfl ?_
  refine r_iincn (v := 1) (dt_NS_nearest.at 46 rfl) (by decide) rfl (by decide) (fun y => [.ref v0, .retAddr 0, .int v2, .int v3, .int v4, .int r14, .int v8, .int y, .int v8]) (fun _ => rfl) (fun x15 => ?_)
  refine r_goto (tgt := 37) (dt_NS_nearest.at 47 rfl) (by decide) ?_
  exact Rf.msk [true, false, true, true, true, true, true, true, false] (hk37 v0 v2 v3 v4 r14 v8 x15 M13)
set_option maxRecDepth 20000 in
set_option maxHeartbeats 2000000 in
theorem rf_NS_nearest_L37 {G : am_G} {l : Launch}   : ∀ (n : Nat) (v0 : Nat) (v2 : Int32) (v3 : Int32) (v4 : Int32) (v5 : Int32) (v6 : Int32) (v7 : Int32) (M : am_M), Rf G l X_NS_nearest 37 [.ref v0, .retAddr 0, .int v2, .int v3, .int v4, .int v5, .int v6, .int v7, .retAddr 0] [] M (F_NS_nearest_L37 n v0 v2 v3 v4 v5 v6 v7 M) := by
  intro n
  induction n with
  | zero => intro v0 v2 v3 v4 v5 v6 v7 M; exact Rf.no
  | succ n ih =>
    intro v0 v2 v3 v4 v5 v6 v7 M
    unfold F_NS_nearest_L37
    refine r_iload (dt_NS_nearest.at 20 rfl) rfl ?_
    refine r_aload_n (dt_NS_nearest.at 21 rfl) rfl ?_
    refine r_fR (dt_NS_nearest.at 22 rfl) fl_NS_55 rfl (fun b7 => ?_)
    refine r_fI (dt_NS_nearest.at 23 rfl) fl_NS_310 rfl (fun x8 => ?_)
    refine r_icmp_ge (tgt := 98) (dt_NS_nearest.at 24 rfl) (by decide) ?_ ?_
    · refine r_iload (dt_NS_nearest.at 48 rfl) rfl ?_
      exact r_iret (dt_NS_nearest.at 49 rfl) rfl
    · refine r_aload_n (dt_NS_nearest.at 25 rfl) rfl ?_
      refine r_fR (dt_NS_nearest.at 26 rfl) fl_NS_55 rfl (fun b9 => ?_)
      refine r_iload (dt_NS_nearest.at 27 rfl) rfl ?_
      refine r_iload_n (dt_NS_nearest.at 28 rfl) rfl ?_
      refine r_iload_n (dt_NS_nearest.at 29 rfl) rfl ?_
      refine r_iload (dt_NS_nearest.at 30 rfl) rfl ?_
      refine r_cvI (c := 1) (rest := []) (ct_Fram_farSquared b9 v7 v2 v3 v4 _) (dt_NS_nearest.at 31 rfl) mb_Fram_farSquared wd_1065 wd_1066 wd_1067 rfl (by decide) rfl rfl (Nat.le_of_ble_eq_true rfl) (fun r11 M10 => ?_)
      refine r_istore (ls' := [.ref v0, .retAddr 0, .int v2, .int v3, .int v4, .int v5, .int v6, .int v7, .int r11]) (dt_NS_nearest.at 32 rfl) (by decide) rfl ?_
      refine r_iload (dt_NS_nearest.at 33 rfl) rfl ?_
      refine r_iconst (dt_NS_nearest.at 34 rfl) (-1) (by decide) ?_
      refine r_icmp_eq (tgt := 77) (dt_NS_nearest.at 35 rfl) (by decide) ?_ ?_
      · exact Rf.msk [true, false, true, true, true, false, false, true, true] (rf_NS_nearest_L77 (F_NS_nearest_L37 n) ih v0 v2 v3 v4 v7 r11 M10)
      · refine r_iload (dt_NS_nearest.at 36 rfl) rfl ?_
        refine r_iload (dt_NS_nearest.at 37 rfl) rfl ?_
        refine r_icmp_ge (tgt := 92) (dt_NS_nearest.at 38 rfl) (by decide) ?_ ?_
        · refine r_iincn (v := 1) (dt_NS_nearest.at 46 rfl) (by decide) rfl (by decide) (fun y => [.ref v0, .retAddr 0, .int v2, .int v3, .int v4, .int v5, .int v6, .int y, .int r11]) (fun _ => rfl) (fun x16 => ?_)
          refine r_goto (tgt := 37) (dt_NS_nearest.at 47 rfl) (by decide) ?_
          exact Rf.msk [true, false, true, true, true, true, true, true, false] (ih v0 v2 v3 v4 v5 v6 x16 M10)
        · exact Rf.msk [true, false, true, true, true, false, false, true, true] (rf_NS_nearest_L77 (F_NS_nearest_L37 n) ih v0 v2 v3 v4 v7 r11 M10)
set_option maxRecDepth 20000 in
set_option maxHeartbeats 2000000 in
theorem ct_NS_nearest {G : am_G} {l : Launch} (a0 : Nat) (p1 : Int32) (p2 : Int32) (p3 : Int32) (p4 : Int32) (M : am_M) : Ct G l y_NS_nearest X_NS_nearest [.ref a0, .int p1, .int p2, .int p3, .int p4] M (F_NS_nearest a0 p1 p2 p3 p4 M) := by
  refine Ct.of (by decide +kernel) rfl rfl (Nat.le_of_ble_eq_true rfl) ?_
  unfold F_NS_nearest
  show Rf G l X_NS_nearest 0 [.ref a0, .int p1, .int p2, .int p3, .int p4, .retAddr 0, .retAddr 0, .retAddr 0, .retAddr 0] [] M _
  refine r_aload_n (dt_NS_nearest.at 0 rfl) rfl ?_
  refine r_fR (dt_NS_nearest.at 1 rfl) fl_NS_16 rfl (fun b1 => ?_)
  refine r_iload_n (dt_NS_nearest.at 2 rfl) rfl ?_
  refine r_iload_n (dt_NS_nearest.at 3 rfl) rfl ?_
  refine r_iload (dt_NS_nearest.at 4 rfl) rfl ?_
  refine r_cvI (c := 5) (rest := []) (ct_Scen_isCellOfWorld b1 p2 p3 p4 _) (dt_NS_nearest.at 5 rfl) mb_Scen_isCellOfWorld wd_1060 wd_1061 wd_1062 rfl (by decide) rfl rfl (Nat.le_of_ble_eq_true rfl) (fun r3 M2 => ?_)
  refine r_if_eq (tgt := 25) (dt_NS_nearest.at 6 rfl) (by decide) ?_ ?_
  · refine r_bipush (dt_NS_nearest.at 12 rfl) (-2) (by decide) ?_
    exact r_iret (dt_NS_nearest.at 13 rfl) rfl
  · refine r_aload_n (dt_NS_nearest.at 7 rfl) rfl ?_
    refine r_fR (dt_NS_nearest.at 8 rfl) fl_NS_55 rfl (fun b4 => ?_)
    refine r_iload_n (dt_NS_nearest.at 9 rfl) rfl ?_
    refine r_cvI (c := 1) (rest := []) (ct_Fram_shows b4 p1 _) (dt_NS_nearest.at 10 rfl) mb_Fram_shows wd_942 wd_943 wd_944 rfl (by decide) rfl rfl (Nat.le_of_ble_eq_true rfl) (fun r6 M5 => ?_)
    refine r_if_ne (tgt := 28) (dt_NS_nearest.at 11 rfl) (by decide) ?_ ?_
    · refine r_bipush (dt_NS_nearest.at 12 rfl) (-2) (by decide) ?_
      exact r_iret (dt_NS_nearest.at 13 rfl) rfl
    · refine r_iconst (dt_NS_nearest.at 14 rfl) (-1) (by decide) ?_
      refine r_istore (ls' := [.ref a0, .int p1, .int p2, .int p3, .int p4, .int (-1), .retAddr 0, .retAddr 0, .retAddr 0]) (dt_NS_nearest.at 15 rfl) (by decide) rfl ?_
      refine r_iconst (dt_NS_nearest.at 16 rfl) 0 (by decide) ?_
      refine r_istore (ls' := [.ref a0, .int p1, .int p2, .int p3, .int p4, .int (-1), .int 0, .retAddr 0, .retAddr 0]) (dt_NS_nearest.at 17 rfl) (by decide) rfl ?_
      refine r_iconst (dt_NS_nearest.at 18 rfl) 0 (by decide) ?_
      refine r_istore (ls' := [.ref a0, .int p1, .int p2, .int p3, .int p4, .int (-1), .int 0, .int 0, .retAddr 0]) (dt_NS_nearest.at 19 rfl) (by decide) rfl ?_
      exact Rf.msk [true, false, true, true, true, true, true, true, false] (rf_NS_nearest_L37 fu a0 p2 p3 p4 (-1) 0 0 M5)
set_option maxRecDepth 20000 in
set_option maxHeartbeats 2000000 in
theorem rf_NS_within_L47 {G : am_G} {l : Launch}   : ∀ (n : Nat) (v0 : Nat) (v2 : Int32) (v3 : Int32) (v4 : Int32) (v5 : Int32) (v6 : Int32) (v7 : Int32) (M : am_M), Rf G l X_NS_within 47 [.ref v0, .retAddr 0, .int v2, .int v3, .int v4, .int v5, .int v6, .int v7] [] M (F_NS_within_L47 n v0 v2 v3 v4 v5 v6 v7 M) := by
  intro n
  induction n with
  | zero => intro v0 v2 v3 v4 v5 v6 v7 M; exact Rf.no
  | succ n ih =>
    intro v0 v2 v3 v4 v5 v6 v7 M
    unfold F_NS_within_L47
    refine r_iload (dt_NS_within.at 23 rfl) rfl ?_
    refine r_aload_n (dt_NS_within.at 24 rfl) rfl ?_
    refine r_fR (dt_NS_within.at 25 rfl) fl_NS_55 rfl (fun b7 => ?_)
    refine r_fI (dt_NS_within.at 26 rfl) fl_NS_310 rfl (fun x8 => ?_)
    refine r_icmp_ge (tgt := 89) (dt_NS_within.at 27 rfl) (by decide) ?_ ?_
    · refine r_iload (dt_NS_within.at 42 rfl) rfl ?_
      exact r_iret (dt_NS_within.at 43 rfl) rfl
    · refine r_aload_n (dt_NS_within.at 28 rfl) rfl ?_
      refine r_fR (dt_NS_within.at 29 rfl) fl_NS_55 rfl (fun b9 => ?_)
      refine r_iload (dt_NS_within.at 30 rfl) rfl ?_
      refine r_iload_n (dt_NS_within.at 31 rfl) rfl ?_
      refine r_iload_n (dt_NS_within.at 32 rfl) rfl ?_
      refine r_iload (dt_NS_within.at 33 rfl) rfl ?_
      refine r_cvI (c := 1) (rest := []) (ct_Fram_farSquared b9 v7 v2 v3 v4 _) (dt_NS_within.at 34 rfl) mb_Fram_farSquared wd_1065 wd_1066 wd_1067 rfl (by decide) rfl rfl (Nat.le_of_ble_eq_true rfl) (fun r11 M10 => ?_)
      refine r_iload (dt_NS_within.at 35 rfl) rfl ?_
      refine r_iload (dt_NS_within.at 36 rfl) rfl ?_
      refine r_imul (dt_NS_within.at 37 rfl) ?_
      refine r_icmp_gt (tgt := 83) (dt_NS_within.at 38 rfl) (by decide) ?_ ?_
      · refine r_iincn (v := 1) (dt_NS_within.at 40 rfl) (by decide) rfl (by decide) (fun y => [.ref v0, .retAddr 0, .int v2, .int v3, .int v4, .int v5, .int v6, .int y]) (fun _ => rfl) (fun x12 => ?_)
        refine r_goto (tgt := 47) (dt_NS_within.at 41 rfl) (by decide) ?_
        exact Rf.msk [true, false, true, true, true, true, true, true] (ih v0 v2 v3 v4 v5 v6 x12 M10)
      · refine r_iincn (v := 1) (dt_NS_within.at 39 rfl) (by decide) rfl (by decide) (fun y => [.ref v0, .retAddr 0, .int v2, .int v3, .int v4, .int v5, .int y, .int v7]) (fun _ => rfl) (fun x13 => ?_)
        refine r_iincn (v := 1) (dt_NS_within.at 40 rfl) (by decide) rfl (by decide) (fun y => [.ref v0, .retAddr 0, .int v2, .int v3, .int v4, .int v5, .int x13, .int y]) (fun _ => rfl) (fun x14 => ?_)
        refine r_goto (tgt := 47) (dt_NS_within.at 41 rfl) (by decide) ?_
        exact Rf.msk [true, false, true, true, true, true, true, true] (ih v0 v2 v3 v4 v5 x13 x14 M10)
set_option maxRecDepth 20000 in
set_option maxHeartbeats 2000000 in
theorem ct_NS_within {G : am_G} {l : Launch} (a0 : Nat) (p1 : Int32) (p2 : Int32) (p3 : Int32) (p4 : Int32) (p5 : Int32) (M : am_M) : Ct G l y_NS_within X_NS_within [.ref a0, .int p1, .int p2, .int p3, .int p4, .int p5] M (F_NS_within a0 p1 p2 p3 p4 p5 M) := by
  refine Ct.of (by decide +kernel) rfl rfl (Nat.le_of_ble_eq_true rfl) ?_
  unfold F_NS_within
  show Rf G l X_NS_within 0 [.ref a0, .int p1, .int p2, .int p3, .int p4, .int p5, .retAddr 0, .retAddr 0] [] M _
  refine r_iload (dt_NS_within.at 0 rfl) rfl ?_
  refine r_if_lt (tgt := 38) (dt_NS_within.at 1 rfl) (by decide) ?_ ?_
  · refine r_bipush (dt_NS_within.at 17 rfl) (-2) (by decide) ?_
    exact r_iret (dt_NS_within.at 18 rfl) rfl
  · refine r_iload (dt_NS_within.at 2 rfl) rfl ?_
    refine r_sipush (dt_NS_within.at 3 rfl) 600 (by decide) ?_
    refine r_icmp_gt (tgt := 38) (dt_NS_within.at 4 rfl) (by decide) ?_ ?_
    · refine r_bipush (dt_NS_within.at 17 rfl) (-2) (by decide) ?_
      exact r_iret (dt_NS_within.at 18 rfl) rfl
    · refine r_aload_n (dt_NS_within.at 5 rfl) rfl ?_
      refine r_fR (dt_NS_within.at 6 rfl) fl_NS_16 rfl (fun b1 => ?_)
      refine r_iload_n (dt_NS_within.at 7 rfl) rfl ?_
      refine r_iload_n (dt_NS_within.at 8 rfl) rfl ?_
      refine r_iload (dt_NS_within.at 9 rfl) rfl ?_
      refine r_cvI (c := 5) (rest := []) (ct_Scen_isCellOfWorld b1 p2 p3 p4 _) (dt_NS_within.at 10 rfl) mb_Scen_isCellOfWorld wd_1060 wd_1061 wd_1062 rfl (by decide) rfl rfl (Nat.le_of_ble_eq_true rfl) (fun r3 M2 => ?_)
      refine r_if_eq (tgt := 38) (dt_NS_within.at 11 rfl) (by decide) ?_ ?_
      · refine r_bipush (dt_NS_within.at 17 rfl) (-2) (by decide) ?_
        exact r_iret (dt_NS_within.at 18 rfl) rfl
      · refine r_aload_n (dt_NS_within.at 12 rfl) rfl ?_
        refine r_fR (dt_NS_within.at 13 rfl) fl_NS_55 rfl (fun b4 => ?_)
        refine r_iload_n (dt_NS_within.at 14 rfl) rfl ?_
        refine r_cvI (c := 1) (rest := []) (ct_Fram_shows b4 p1 _) (dt_NS_within.at 15 rfl) mb_Fram_shows wd_942 wd_943 wd_944 rfl (by decide) rfl rfl (Nat.le_of_ble_eq_true rfl) (fun r6 M5 => ?_)
        refine r_if_ne (tgt := 41) (dt_NS_within.at 16 rfl) (by decide) ?_ ?_
        · refine r_bipush (dt_NS_within.at 17 rfl) (-2) (by decide) ?_
          exact r_iret (dt_NS_within.at 18 rfl) rfl
        · refine r_iconst (dt_NS_within.at 19 rfl) 0 (by decide) ?_
          refine r_istore (ls' := [.ref a0, .int p1, .int p2, .int p3, .int p4, .int p5, .int 0, .retAddr 0]) (dt_NS_within.at 20 rfl) (by decide) rfl ?_
          refine r_iconst (dt_NS_within.at 21 rfl) 0 (by decide) ?_
          refine r_istore (ls' := [.ref a0, .int p1, .int p2, .int p3, .int p4, .int p5, .int 0, .int 0]) (dt_NS_within.at 22 rfl) (by decide) rfl ?_
          exact Rf.msk [true, false, true, true, true, true, true, true] (rf_NS_within_L47 fu a0 p2 p3 p4 p5 0 0 M5)
set_option maxRecDepth 20000 in
set_option maxHeartbeats 2000000 in
theorem ct_Fram_layerOf {G : am_G} {l : Launch} (a0 : Nat) (p1 : Int32) (M : am_M) : Ct G l y_Fram_layerOf X_Fram_layerOf [.ref a0, .int p1] M (F_Fram_layerOf a0 p1 M) := by
  refine Ct.of (by decide +kernel) rfl rfl (Nat.le_of_ble_eq_true rfl) ?_
  unfold F_Fram_layerOf
  show Rf G l X_Fram_layerOf 0 [.ref a0, .int p1] [] M _
  refine r_aload_n (dt_Fram_layerOf.at 0 rfl) rfl ?_
  refine r_iload_n (dt_Fram_layerOf.at 1 rfl) rfl ?_
  refine r_iconst (dt_Fram_layerOf.at 2 rfl) 2 (by decide) ?_
  refine r_cvI (c := 1) (rest := []) (ct_Fram_placeOf a0 p1 2 _) (dt_Fram_layerOf.at 3 rfl) mb_Fram_placeOf wd_981 wd_982 wd_983 rfl (by decide) rfl rfl (Nat.le_of_ble_eq_true rfl) (fun r2 M1 => ?_)
  refine r_bipush (dt_Fram_layerOf.at 4 rfl) 8 (by decide) ?_
  refine r_idivk (dt_Fram_layerOf.at 5 rfl) (by decide) ?_
  exact r_iret (dt_Fram_layerOf.at 6 rfl) rfl
set_option maxRecDepth 20000 in
set_option maxHeartbeats 2000000 in
theorem rf_Fram_forgetColumns_L7 {G : am_G} {l : Launch}   : ∀ (n : Nat) (v0 : Nat) (v2 : Int32) (v3 : Nat) (v4 : Int32) (M : am_M), Rf G l X_Fram_forgetColumns 7 [.ref v0, .retAddr 0, .int v2, .ref v3, .int v4, .retAddr 0] [] M (F_Fram_forgetColumns_L7 n v0 v2 v3 v4 M) := by
  intro n
  induction n with
  | zero => intro v0 v2 v3 v4 M; exact Rf.no
  | succ n ih =>
    intro v0 v2 v3 v4 M
    unfold F_Fram_forgetColumns_L7
    refine r_iload (dt_Fram_forgetColumns.at 4 rfl) rfl ?_
    refine r_iload_n (dt_Fram_forgetColumns.at 5 rfl) rfl ?_
    refine r_icmp_ge (tgt := 57) (dt_Fram_forgetColumns.at 6 rfl) (by decide) ?_ ?_
    · exact r_vret (dt_Fram_forgetColumns.at 29 rfl) rfl
    · refine r_iload (dt_Fram_forgetColumns.at 7 rfl) rfl ?_
      refine r_aload_n (dt_Fram_forgetColumns.at 8 rfl) rfl ?_
      refine r_fI (dt_Fram_forgetColumns.at 9 rfl) fl_Fram_43 rfl (fun x3 => ?_)
      refine r_icmp_ge (tgt := 57) (dt_Fram_forgetColumns.at 10 rfl) (by decide) ?_ ?_
      · exact r_vret (dt_Fram_forgetColumns.at 29 rfl) rfl
      · refine r_aload_n (dt_Fram_forgetColumns.at 11 rfl) rfl ?_
        refine r_aload_n (dt_Fram_forgetColumns.at 12 rfl) rfl ?_
        refine r_iload (dt_Fram_forgetColumns.at 13 rfl) rfl ?_
        refine r_cvI (c := 1) (rest := [.ref v0]) (ct_Fram_rowAt v0 v4 _) (dt_Fram_forgetColumns.at 14 rfl) mb_Fram_rowAt wd_1030 wd_1000 wd_1001 rfl (by decide) rfl rfl (Nat.le_of_ble_eq_true rfl) (fun r5 M4 => ?_)
        refine r_cvI (c := 1) (rest := []) (ct_Fram_columnOf v0 r5 _) (dt_Fram_forgetColumns.at 15 rfl) mb_Fram_columnOf wd_1045 wd_1047 wp_33 rfl (by decide) rfl rfl (Nat.le_of_ble_eq_true rfl) (fun r7 M6 => ?_)
        refine r_istore (ls' := [.ref v0, .retAddr 0, .int v2, .ref v3, .int v4, .int r7]) (dt_Fram_forgetColumns.at 16 rfl) (by decide) rfl ?_
        refine r_iload (dt_Fram_forgetColumns.at 17 rfl) rfl ?_
        refine r_if_lt (tgt := 51) (dt_Fram_forgetColumns.at 18 rfl) (by decide) ?_ ?_
        · refine r_iincn (v := 1) (dt_Fram_forgetColumns.at 27 rfl) (by decide) rfl (by decide) (fun y => [.ref v0, .retAddr 0, .int v2, .ref v3, .int y, .int r7]) (fun _ => rfl) (fun x8 => ?_)
          refine r_goto (tgt := 7) (dt_Fram_forgetColumns.at 28 rfl) (by decide) ?_
          exact Rf.msk [true, false, true, true, true, false] (ih v0 v2 v3 x8 M6)
        · refine r_iload (dt_Fram_forgetColumns.at 19 rfl) rfl ?_
          refine r_aload_n (dt_Fram_forgetColumns.at 20 rfl) rfl ?_
          refine r_aN (dt_Fram_forgetColumns.at 21 rfl) (fun x9 => ?_)
          refine r_icmp_ge (tgt := 51) (dt_Fram_forgetColumns.at 22 rfl) (by decide) ?_ ?_
          · refine r_iincn (v := 1) (dt_Fram_forgetColumns.at 27 rfl) (by decide) rfl (by decide) (fun y => [.ref v0, .retAddr 0, .int v2, .ref v3, .int y, .int r7]) (fun _ => rfl) (fun x10 => ?_)
            refine r_goto (tgt := 7) (dt_Fram_forgetColumns.at 28 rfl) (by decide) ?_
            exact Rf.msk [true, false, true, true, true, false] (ih v0 v2 v3 x10 M6)
          · refine r_aload_n (dt_Fram_forgetColumns.at 23 rfl) rfl ?_
            refine r_iload (dt_Fram_forgetColumns.at 24 rfl) rfl ?_
            refine r_iconst (dt_Fram_forgetColumns.at 25 rfl) 0 (by decide) ?_
            refine r_tI (dt_Fram_forgetColumns.at 26 rfl) (fun M11 => ?_)
            refine r_iincn (v := 1) (dt_Fram_forgetColumns.at 27 rfl) (by decide) rfl (by decide) (fun y => [.ref v0, .retAddr 0, .int v2, .ref v3, .int y, .int r7]) (fun _ => rfl) (fun x12 => ?_)
            refine r_goto (tgt := 7) (dt_Fram_forgetColumns.at 28 rfl) (by decide) ?_
            exact Rf.msk [true, false, true, true, true, false] (ih v0 v2 v3 x12 M11)
set_option maxRecDepth 20000 in
set_option maxHeartbeats 2000000 in
theorem ct_Fram_forgetColumns {G : am_G} {l : Launch} (a0 : Nat) (p1 : Int32) (p2 : Int32) (p3 : Nat) (M : am_M) : Ct G l y_Fram_forgetColumns X_Fram_forgetColumns [.ref a0, .int p1, .int p2, .ref p3] M (F_Fram_forgetColumns a0 p1 p2 p3 M) := by
  refine Ct.of (by decide +kernel) rfl rfl (Nat.le_of_ble_eq_true rfl) ?_
  unfold F_Fram_forgetColumns
  show Rf G l X_Fram_forgetColumns 0 [.ref a0, .int p1, .int p2, .ref p3, .retAddr 0, .retAddr 0] [] M _
  refine r_iconst (dt_Fram_forgetColumns.at 0 rfl) 0 (by decide) ?_
  refine r_iload_n (dt_Fram_forgetColumns.at 1 rfl) rfl ?_
  refine r_csI (rest := []) (ct_Math_max 0 p1 _) (dt_Fram_forgetColumns.at 2 rfl) mb_Math_max wd_990 wd_655 (by decide) rfl rfl (Nat.le_of_ble_eq_true rfl) (fun r2 M1 => ?_)
  refine r_istore (ls' := [.ref a0, .int p1, .int p2, .ref p3, .int r2, .retAddr 0]) (dt_Fram_forgetColumns.at 3 rfl) (by decide) rfl ?_
  exact Rf.msk [true, false, true, true, true, false] (rf_Fram_forgetColumns_L7 fu a0 p2 p3 r2 M1)
set_option maxRecDepth 20000 in
set_option maxHeartbeats 2000000 in
theorem rf_Fram_countTwos_L58 {G : am_G} {l : Launch} (k13 : Nat → Nat → Int64 → Int32 → Int32 → am_M → am_R) (hk13 : ∀ v0 v1 v2 v4 v5 M, Rf G l X_Fram_countTwos 13 [.ref v0, .ref v1, .long v2, .retAddr 0, .int v4, .int v5, .retAddr 0] [] M (k13 v0 v1 v2 v4 v5 M)) (v0 : Nat) (v1 : Nat) (v2 : Int64) (v4 : Int32) (v5 : Int32) (M : am_M) : Rf G l X_Fram_countTwos 58 [.ref v0, .ref v1, .long v2, .retAddr 0, .int v4, .int v5, .retAddr 0] [] M (F_Fram_countTwos_L58 k13 v0 v1 v2 v4 v5 M) := by
  unfold F_Fram_countTwos_L58
  refine r_aload_n (dt_Fram_countTwos.at 31 rfl) rfl ?_
  refine r_aload_n (dt_Fram_countTwos.at 32 rfl) rfl ?_
  refine r_iload (dt_Fram_countTwos.at 33 rfl) rfl ?_
  refine r_cvI (c := 1) (rest := [.ref v0]) (ct_Fram_rowAt v0 v5 _) (dt_Fram_countTwos.at 34 rfl) mb_Fram_rowAt wd_1030 wd_1000 wd_1001 rfl (by decide) rfl rfl (Nat.le_of_ble_eq_true rfl) (fun r12 M11 => ?_)
  refine r_cvI (c := 1) (rest := []) (ct_Fram_columnOf v0 r12 _) (dt_Fram_countTwos.at 35 rfl) mb_Fram_columnOf wd_1045 wd_1047 wp_33 rfl (by decide) rfl rfl (Nat.le_of_ble_eq_true rfl) (fun r14 M13 => ?_)
  refine r_istore (ls' := [.ref v0, .ref v1, .long v2, .retAddr 0, .int v4, .int v5, .int r14]) (dt_Fram_countTwos.at 36 rfl) (by decide) rfl ?_
  refine r_iload (dt_Fram_countTwos.at 37 rfl) rfl ?_
  refine r_if_lt (tgt := 98) (dt_Fram_countTwos.at 38 rfl) (by decide) ?_ ?_
  · refine r_iincn (v := 1) (dt_Fram_countTwos.at 57 rfl) (by decide) rfl (by decide) (fun y => [.ref v0, .ref v1, .long v2, .retAddr 0, .int v4, .int y, .int r14]) (fun _ => rfl) (fun x15 => ?_)
    refine r_goto (tgt := 13) (dt_Fram_countTwos.at 58 rfl) (by decide) ?_
    exact Rf.msk [true, true, true, false, true, true, false] (hk13 v0 v1 v2 v4 x15 M13)
  · refine r_iload (dt_Fram_countTwos.at 39 rfl) rfl ?_
    refine r_aload_n (dt_Fram_countTwos.at 40 rfl) rfl ?_
    refine r_aN (dt_Fram_countTwos.at 41 rfl) (fun x16 => ?_)
    refine r_icmp_ge (tgt := 98) (dt_Fram_countTwos.at 42 rfl) (by decide) ?_ ?_
    · refine r_iincn (v := 1) (dt_Fram_countTwos.at 57 rfl) (by decide) rfl (by decide) (fun y => [.ref v0, .ref v1, .long v2, .retAddr 0, .int v4, .int y, .int r14]) (fun _ => rfl) (fun x17 => ?_)
      refine r_goto (tgt := 13) (dt_Fram_countTwos.at 58 rfl) (by decide) ?_
      exact Rf.msk [true, true, true, false, true, true, false] (hk13 v0 v1 v2 v4 x17 M13)
    · refine r_lload_n (dt_Fram_countTwos.at 43 rfl) rfl ?_
      refine r_aload_n (dt_Fram_countTwos.at 44 rfl) rfl ?_
      refine r_iload (dt_Fram_countTwos.at 45 rfl) rfl ?_
      refine r_aI (dt_Fram_countTwos.at 46 rfl) (fun x18 => ?_)
      refine r_i2l (dt_Fram_countTwos.at 47 rfl) ?_
      refine r_ladd (dt_Fram_countTwos.at 48 rfl) ?_
      refine r_nml (fun z19 => ?_)
      refine r_lstore_n (ls' := [.ref v0, .ref v1, .long z19, .retAddr 0, .int v4, .int v5, .int r14]) (dt_Fram_countTwos.at 49 rfl) (by decide) rfl ?_
      refine r_aload_n (dt_Fram_countTwos.at 50 rfl) rfl ?_
      refine r_iload (dt_Fram_countTwos.at 51 rfl) rfl ?_
      refine r_dup2 (dt_Fram_countTwos.at 52 rfl) rfl rfl ?_
      refine r_aI (dt_Fram_countTwos.at 53 rfl) (fun x20 => ?_)
      refine r_iconst (dt_Fram_countTwos.at 54 rfl) 1 (by decide) ?_
      refine r_iadd (dt_Fram_countTwos.at 55 rfl) ?_
      refine r_tI (dt_Fram_countTwos.at 56 rfl) (fun M21 => ?_)
      refine r_iincn (v := 1) (dt_Fram_countTwos.at 57 rfl) (by decide) rfl (by decide) (fun y => [.ref v0, .ref v1, .long z19, .retAddr 0, .int v4, .int y, .int r14]) (fun _ => rfl) (fun x22 => ?_)
      refine r_goto (tgt := 13) (dt_Fram_countTwos.at 58 rfl) (by decide) ?_
      exact Rf.msk [true, true, true, false, true, true, false] (hk13 v0 v1 z19 v4 x22 M21)
set_option maxRecDepth 20000 in
set_option maxHeartbeats 2000000 in
theorem rf_Fram_countTwos_L13 {G : am_G} {l : Launch}   : ∀ (n : Nat) (v0 : Nat) (v1 : Nat) (v2 : Int64) (v4 : Int32) (v5 : Int32) (M : am_M), Rf G l X_Fram_countTwos 13 [.ref v0, .ref v1, .long v2, .retAddr 0, .int v4, .int v5, .retAddr 0] [] M (F_Fram_countTwos_L13 n v0 v1 v2 v4 v5 M) := by
  intro n
  induction n with
  | zero => intro v0 v1 v2 v4 v5 M; exact Rf.no
  | succ n ih =>
    intro v0 v1 v2 v4 v5 M
    unfold F_Fram_countTwos_L13
    refine r_iload (dt_Fram_countTwos.at 9 rfl) rfl ?_
    refine r_aload_n (dt_Fram_countTwos.at 10 rfl) rfl ?_
    refine r_fI (dt_Fram_countTwos.at 11 rfl) fl_Fram_43 rfl (fun x2 => ?_)
    refine r_icmp_ge (tgt := 104) (dt_Fram_countTwos.at 12 rfl) (by decide) ?_ ?_
    · refine r_lload_n (dt_Fram_countTwos.at 59 rfl) rfl ?_
      exact r_lret (dt_Fram_countTwos.at 60 rfl) rfl
    · refine r_aload_n (dt_Fram_countTwos.at 13 rfl) rfl ?_
      refine r_aload_n (dt_Fram_countTwos.at 14 rfl) rfl ?_
      refine r_iload (dt_Fram_countTwos.at 15 rfl) rfl ?_
      refine r_cvI (c := 1) (rest := [.ref v0]) (ct_Fram_rowAt v0 v5 _) (dt_Fram_countTwos.at 16 rfl) mb_Fram_rowAt wd_1030 wd_1000 wd_1001 rfl (by decide) rfl rfl (Nat.le_of_ble_eq_true rfl) (fun r4 M3 => ?_)
      refine r_cvI (c := 1) (rest := []) (ct_Fram_layerOf v0 r4 _) (dt_Fram_countTwos.at 17 rfl) mb_Fram_layerOf wd_1082 wd_1084 wp_34 rfl (by decide) rfl rfl (Nat.le_of_ble_eq_true rfl) (fun r6 M5 => ?_)
      refine r_aload_n (dt_Fram_countTwos.at 18 rfl) rfl ?_
      refine r_aload_n (dt_Fram_countTwos.at 19 rfl) rfl ?_
      refine r_iload (dt_Fram_countTwos.at 20 rfl) rfl ?_
      refine r_cvI (c := 1) (rest := [.ref v0, .int r6]) (ct_Fram_rowAt v0 v4 _) (dt_Fram_countTwos.at 21 rfl) mb_Fram_rowAt wd_1030 wd_1000 wd_1001 rfl (by decide) rfl rfl (Nat.le_of_ble_eq_true rfl) (fun r8 M7 => ?_)
      refine r_cvI (c := 1) (rest := [.int r6]) (ct_Fram_layerOf v0 r8 _) (dt_Fram_countTwos.at 22 rfl) mb_Fram_layerOf wd_1082 wd_1084 wp_34 rfl (by decide) rfl rfl (Nat.le_of_ble_eq_true rfl) (fun r10 M9 => ?_)
      refine r_icmp_eq (tgt := 58) (dt_Fram_countTwos.at 23 rfl) (by decide) ?_ ?_
      · exact Rf.msk [true, true, true, false, true, true, false] (rf_Fram_countTwos_L58 (F_Fram_countTwos_L13 n) ih v0 v1 v2 v4 v5 M9)
      · refine r_aload_n (dt_Fram_countTwos.at 24 rfl) rfl ?_
        refine r_iload (dt_Fram_countTwos.at 25 rfl) rfl ?_
        refine r_iload (dt_Fram_countTwos.at 26 rfl) rfl ?_
        refine r_aload_n (dt_Fram_countTwos.at 27 rfl) rfl ?_
        refine r_cvV (c := 1) (rest := []) (ct_Fram_forgetColumns v0 v4 v5 v1 _) (dt_Fram_countTwos.at 28 rfl) mb_Fram_forgetColumns wd_1086 wd_1088 wp_35 rfl (by decide) rfl rfl (Nat.le_of_ble_eq_true rfl) (fun M23 => ?_)
        refine r_iload (dt_Fram_countTwos.at 29 rfl) rfl ?_
        refine r_istore (ls' := [.ref v0, .ref v1, .long v2, .retAddr 0, .int v5, .int v5, .retAddr 0]) (dt_Fram_countTwos.at 30 rfl) (by decide) rfl ?_
        exact Rf.msk [true, true, true, false, true, true, false] (rf_Fram_countTwos_L58 (F_Fram_countTwos_L13 n) ih v0 v1 v2 v5 v5 M23)
set_option maxRecDepth 20000 in
set_option maxHeartbeats 2000000 in
theorem ct_Fram_countTwos {G : am_G} {l : Launch} (a0 : Nat) (p1 : Nat) (M : am_M) : Ct G l y_Fram_countTwos X_Fram_countTwos [.ref a0, .ref p1] M (F_Fram_countTwos a0 p1 M) := by
  refine Ct.of (by decide +kernel) rfl rfl (Nat.le_of_ble_eq_true rfl) ?_
  unfold F_Fram_countTwos
  show Rf G l X_Fram_countTwos 0 [.ref a0, .ref p1, .retAddr 0, .retAddr 0, .retAddr 0, .retAddr 0, .retAddr 0] [] M _
  refine r_aload_n (dt_Fram_countTwos.at 0 rfl) rfl ?_
  refine r_iconst (dt_Fram_countTwos.at 1 rfl) 0 (by decide) ?_
  refine r_csV (rest := []) (ct_Arr_fill p1 0 _) (dt_Fram_countTwos.at 2 rfl) mb_Arr_fill wd_976 wd_341 (by decide) rfl rfl (Nat.le_of_ble_eq_true rfl) (fun M1 => ?_)
  refine r_lconst (dt_Fram_countTwos.at 3 rfl) 0 (by decide) ?_
  refine r_lstore_n (ls' := [.ref a0, .ref p1, .long 0, .retAddr 0, .retAddr 0, .retAddr 0, .retAddr 0]) (dt_Fram_countTwos.at 4 rfl) (by decide) rfl ?_
  refine r_iconst (dt_Fram_countTwos.at 5 rfl) 0 (by decide) ?_
  refine r_istore (ls' := [.ref a0, .ref p1, .long 0, .retAddr 0, .int 0, .retAddr 0, .retAddr 0]) (dt_Fram_countTwos.at 6 rfl) (by decide) rfl ?_
  refine r_iconst (dt_Fram_countTwos.at 7 rfl) 0 (by decide) ?_
  refine r_istore (ls' := [.ref a0, .ref p1, .long 0, .retAddr 0, .int 0, .int 0, .retAddr 0]) (dt_Fram_countTwos.at 8 rfl) (by decide) rfl ?_
  exact Rf.msk [true, true, true, false, true, true, false] (rf_Fram_countTwos_L13 fu a0 p1 0 0 0 M1)
set_option maxRecDepth 20000 in
set_option maxHeartbeats 2000000 in
theorem ct_NS_twos {G : am_G} {l : Launch} (a0 : Nat) (p1 : Int32) (M : am_M) : Ct G l y_NS_twos X_NS_twos [.ref a0, .int p1] M (F_NS_twos a0 p1 M) := by
  refine Ct.of (by decide +kernel) rfl rfl (Nat.le_of_ble_eq_true rfl) ?_
  unfold F_NS_twos
  show Rf G l X_NS_twos 0 [.ref a0, .int p1] [] M _
  refine r_aload_n (dt_NS_twos.at 0 rfl) rfl ?_
  refine r_fR (dt_NS_twos.at 1 rfl) fl_NS_55 rfl (fun b1 => ?_)
  refine r_iload_n (dt_NS_twos.at 2 rfl) rfl ?_
  refine r_cvI (c := 1) (rest := []) (ct_Fram_shows b1 p1 _) (dt_NS_twos.at 3 rfl) mb_Fram_shows wd_942 wd_943 wd_944 rfl (by decide) rfl rfl (Nat.le_of_ble_eq_true rfl) (fun r3 M2 => ?_)
  refine r_if_ne (tgt := 15) (dt_NS_twos.at 4 rfl) (by decide) ?_ ?_
  · refine r_ldc2 (dt_NS_twos.at 5 rfl) (-2) wd_1077 ?_
    exact r_lret (dt_NS_twos.at 6 rfl) rfl
  · refine r_aload_n (dt_NS_twos.at 7 rfl) rfl ?_
    refine r_fR (dt_NS_twos.at 8 rfl) fl_NS_55 rfl (fun b4 => ?_)
    refine r_aload_n (dt_NS_twos.at 9 rfl) rfl ?_
    refine r_fR (dt_NS_twos.at 10 rfl) fl_NS_69 rfl (fun b5 => ?_)
    refine r_cvL (c := 1) (rest := []) (ct_Fram_countTwos b4 b5 _) (dt_NS_twos.at 11 rfl) mb_Fram_countTwos wd_1078 wd_1079 wd_1080 rfl (by decide) rfl rfl (Nat.le_of_ble_eq_true rfl) (fun z7 M6 => ?_)
    exact r_lret (dt_NS_twos.at 12 rfl) rfl
set_option maxRecDepth 20000 in
set_option maxHeartbeats 2000000 in
theorem rf_NS_box_L50 {G : am_G} {l : Launch}   : ∀ (n : Nat) (v0 : Nat) (v2 : Int32) (v3 : Int32) (v4 : Int32) (M : am_M), Rf G l X_NS_box 50 [.ref v0, .retAddr 0, .int v2, .int v3, .int v4, .retAddr 0] [] M (F_NS_box_L50 n v0 v2 v3 v4 M) := by
  intro n
  induction n with
  | zero => intro v0 v2 v3 v4 M; exact Rf.no
  | succ n ih =>
    intro v0 v2 v3 v4 M
    unfold F_NS_box_L50
    refine r_iload (dt_NS_box.at 28 rfl) rfl ?_
    refine r_aload_n (dt_NS_box.at 29 rfl) rfl ?_
    refine r_fR (dt_NS_box.at 30 rfl) fl_NS_55 rfl (fun b9 => ?_)
    refine r_fI (dt_NS_box.at 31 rfl) fl_NS_310 rfl (fun x10 => ?_)
    refine r_icmp_ge (tgt := 103) (dt_NS_box.at 32 rfl) (by decide) ?_ ?_
    · refine r_iload_n (dt_NS_box.at 54 rfl) rfl ?_
      refine r_bipush (dt_NS_box.at 55 rfl) 8 (by decide) ?_
      refine r_idivk (dt_NS_box.at 56 rfl) (by decide) ?_
      exact r_iret (dt_NS_box.at 57 rfl) rfl
    · refine r_aload_n (dt_NS_box.at 33 rfl) rfl ?_
      refine r_fR (dt_NS_box.at 34 rfl) fl_NS_55 rfl (fun b11 => ?_)
      refine r_iload (dt_NS_box.at 35 rfl) rfl ?_
      refine r_iload_n (dt_NS_box.at 36 rfl) rfl ?_
      refine r_iconst (dt_NS_box.at 37 rfl) 3 (by decide) ?_
      refine r_iremk (dt_NS_box.at 38 rfl) (by decide) ?_
      refine r_cvI (c := 1) (rest := []) (ct_Fram_placeOf b11 v4 (v2 - v2 / 3 * 3) _) (dt_NS_box.at 39 rfl) mb_Fram_placeOf wd_1013 wd_982 wd_983 rfl (by decide) rfl rfl (Nat.le_of_ble_eq_true rfl) (fun r13 M12 => ?_)
      refine r_istore (ls' := [.ref v0, .retAddr 0, .int v2, .int v3, .int v4, .int r13]) (dt_NS_box.at 40 rfl) (by decide) rfl ?_
      refine r_iload_n (dt_NS_box.at 41 rfl) rfl ?_
      refine r_iconst (dt_NS_box.at 42 rfl) 3 (by decide) ?_
      refine r_icmp_ge (tgt := 90) (dt_NS_box.at 43 rfl) (by decide) ?_ ?_
      · refine r_iload_n (dt_NS_box.at 48 rfl) rfl ?_
        refine r_iload (dt_NS_box.at 49 rfl) rfl ?_
        refine r_csI (rest := []) (ct_Math_max v3 r13 _) (dt_NS_box.at 50 rfl) mb_Math_max wd_729 wd_655 (by decide) rfl rfl (Nat.le_of_ble_eq_true rfl) (fun r15 M14 => ?_)
        refine r_istore_n (ls' := [.ref v0, .retAddr 0, .int v2, .int r15, .int v4, .int r13]) (dt_NS_box.at 51 rfl) (by decide) rfl ?_
        refine r_iincn (v := 1) (dt_NS_box.at 52 rfl) (by decide) rfl (by decide) (fun y => [.ref v0, .retAddr 0, .int v2, .int r15, .int y, .int r13]) (fun _ => rfl) (fun x16 => ?_)
        refine r_goto (tgt := 50) (dt_NS_box.at 53 rfl) (by decide) ?_
        exact Rf.msk [true, false, true, true, true, false] (ih v0 v2 r15 x16 M14)
      · refine r_iload_n (dt_NS_box.at 44 rfl) rfl ?_
        refine r_iload (dt_NS_box.at 45 rfl) rfl ?_
        refine r_csI (rest := []) (ct_Math_min v3 r13 _) (dt_NS_box.at 46 rfl) mb_Math_min wd_753 wd_334 (by decide) rfl rfl (Nat.le_of_ble_eq_true rfl) (fun r18 M17 => ?_)
        refine r_goto (tgt := 96) (dt_NS_box.at 47 rfl) (by decide) ?_
        refine r_istore_n (ls' := [.ref v0, .retAddr 0, .int v2, .int r18, .int v4, .int r13]) (dt_NS_box.at 51 rfl) (by decide) rfl ?_
        refine r_iincn (v := 1) (dt_NS_box.at 52 rfl) (by decide) rfl (by decide) (fun y => [.ref v0, .retAddr 0, .int v2, .int r18, .int y, .int r13]) (fun _ => rfl) (fun x19 => ?_)
        refine r_goto (tgt := 50) (dt_NS_box.at 53 rfl) (by decide) ?_
        exact Rf.msk [true, false, true, true, true, false] (ih v0 v2 r18 x19 M17)
set_option maxRecDepth 20000 in
set_option maxHeartbeats 2000000 in
theorem ct_NS_box {G : am_G} {l : Launch} (a0 : Nat) (p1 : Int32) (p2 : Int32) (M : am_M) : Ct G l y_NS_box X_NS_box [.ref a0, .int p1, .int p2] M (F_NS_box a0 p1 p2 M) := by
  refine Ct.of (by decide +kernel) rfl rfl (Nat.le_of_ble_eq_true rfl) ?_
  unfold F_NS_box
  show Rf G l X_NS_box 0 [.ref a0, .int p1, .int p2, .retAddr 0, .retAddr 0, .retAddr 0] [] M _
  refine r_iload_n (dt_NS_box.at 0 rfl) rfl ?_
  refine r_if_lt (tgt := 20) (dt_NS_box.at 1 rfl) (by decide) ?_ ?_
  · refine r_bipush (dt_NS_box.at 10 rfl) (-2) (by decide) ?_
    exact r_iret (dt_NS_box.at 11 rfl) rfl
  · refine r_iload_n (dt_NS_box.at 2 rfl) rfl ?_
    refine r_iconst (dt_NS_box.at 3 rfl) 5 (by decide) ?_
    refine r_icmp_gt (tgt := 20) (dt_NS_box.at 4 rfl) (by decide) ?_ ?_
    · refine r_bipush (dt_NS_box.at 10 rfl) (-2) (by decide) ?_
      exact r_iret (dt_NS_box.at 11 rfl) rfl
    · refine r_aload_n (dt_NS_box.at 5 rfl) rfl ?_
      refine r_fR (dt_NS_box.at 6 rfl) fl_NS_55 rfl (fun b1 => ?_)
      refine r_iload_n (dt_NS_box.at 7 rfl) rfl ?_
      refine r_cvI (c := 1) (rest := []) (ct_Fram_shows b1 p1 _) (dt_NS_box.at 8 rfl) mb_Fram_shows wd_942 wd_943 wd_944 rfl (by decide) rfl rfl (Nat.le_of_ble_eq_true rfl) (fun r3 M2 => ?_)
      refine r_if_ne (tgt := 23) (dt_NS_box.at 9 rfl) (by decide) ?_ ?_
      · refine r_bipush (dt_NS_box.at 10 rfl) (-2) (by decide) ?_
        exact r_iret (dt_NS_box.at 11 rfl) rfl
      · refine r_aload_n (dt_NS_box.at 12 rfl) rfl ?_
        refine r_fR (dt_NS_box.at 13 rfl) fl_NS_55 rfl (fun b4 => ?_)
        refine r_fI (dt_NS_box.at 14 rfl) fl_NS_310 rfl (fun x5 => ?_)
        refine r_if_ne (tgt := 35) (dt_NS_box.at 15 rfl) (by decide) ?_ ?_
        · refine r_iconst (dt_NS_box.at 16 rfl) (-1) (by decide) ?_
          exact r_iret (dt_NS_box.at 17 rfl) rfl
        · refine r_aload_n (dt_NS_box.at 18 rfl) rfl ?_
          refine r_fR (dt_NS_box.at 19 rfl) fl_NS_55 rfl (fun b6 => ?_)
          refine r_iconst (dt_NS_box.at 20 rfl) 0 (by decide) ?_
          refine r_iload_n (dt_NS_box.at 21 rfl) rfl ?_
          refine r_iconst (dt_NS_box.at 22 rfl) 3 (by decide) ?_
          refine r_iremk (dt_NS_box.at 23 rfl) (by decide) ?_
          refine r_cvI (c := 1) (rest := []) (ct_Fram_placeOf b6 0 (p2 - p2 / 3 * 3) _) (dt_NS_box.at 24 rfl) mb_Fram_placeOf wd_1013 wd_982 wd_983 rfl (by decide) rfl rfl (Nat.le_of_ble_eq_true rfl) (fun r8 M7 => ?_)
          refine r_istore_n (ls' := [.ref a0, .int p1, .int p2, .int r8, .retAddr 0, .retAddr 0]) (dt_NS_box.at 25 rfl) (by decide) rfl ?_
          refine r_iconst (dt_NS_box.at 26 rfl) 1 (by decide) ?_
          refine r_istore (ls' := [.ref a0, .int p1, .int p2, .int r8, .int 1, .retAddr 0]) (dt_NS_box.at 27 rfl) (by decide) rfl ?_
          exact Rf.msk [true, false, true, true, true, false] (rf_NS_box_L50 fu a0 p2 r8 1 M7)
set_option maxRecDepth 20000 in
set_option maxHeartbeats 2000000 in
theorem rf_NS_middle_L38 {G : am_G} {l : Launch}   : ∀ (n : Nat) (v0 : Nat) (v2 : Int32) (v3 : Int32) (v4 : Int32) (M : am_M), Rf G l X_NS_middle 38 [.ref v0, .retAddr 0, .int v2, .int v3, .int v4] [] M (F_NS_middle_L38 n v0 v2 v3 v4 M) := by
  intro n
  induction n with
  | zero => intro v0 v2 v3 v4 M; exact Rf.no
  | succ n ih =>
    intro v0 v2 v3 v4 M
    unfold F_NS_middle_L38
    refine r_iload (dt_NS_middle.at 20 rfl) rfl ?_
    refine r_aload_n (dt_NS_middle.at 21 rfl) rfl ?_
    refine r_fR (dt_NS_middle.at 22 rfl) fl_NS_55 rfl (fun b8 => ?_)
    refine r_fI (dt_NS_middle.at 23 rfl) fl_NS_310 rfl (fun x9 => ?_)
    refine r_icmp_ge (tgt := 69) (dt_NS_middle.at 24 rfl) (by decide) ?_ ?_
    · refine r_iload_n (dt_NS_middle.at 35 rfl) rfl ?_
      refine r_aload_n (dt_NS_middle.at 36 rfl) rfl ?_
      refine r_fR (dt_NS_middle.at 37 rfl) fl_NS_55 rfl (fun b10 => ?_)
      refine r_fI (dt_NS_middle.at 38 rfl) fl_NS_310 rfl (fun x11 => ?_)
      refine r_idiv (dt_NS_middle.at 39 rfl) ?_
      exact r_iret (dt_NS_middle.at 40 rfl) rfl
    · refine r_iload_n (dt_NS_middle.at 25 rfl) rfl ?_
      refine r_aload_n (dt_NS_middle.at 26 rfl) rfl ?_
      refine r_fR (dt_NS_middle.at 27 rfl) fl_NS_55 rfl (fun b12 => ?_)
      refine r_iload (dt_NS_middle.at 28 rfl) rfl ?_
      refine r_iload_n (dt_NS_middle.at 29 rfl) rfl ?_
      refine r_cvI (c := 1) (rest := [.int v3]) (ct_Fram_placeOf b12 v4 v2 _) (dt_NS_middle.at 30 rfl) mb_Fram_placeOf wd_1013 wd_982 wd_983 rfl (by decide) rfl rfl (Nat.le_of_ble_eq_true rfl) (fun r14 M13 => ?_)
      refine r_iadd (dt_NS_middle.at 31 rfl) ?_
      refine r_nmi (fun x15 => ?_)
      refine r_istore_n (ls' := [.ref v0, .retAddr 0, .int v2, .int x15, .int v4]) (dt_NS_middle.at 32 rfl) (by decide) rfl ?_
      refine r_iincn (v := 1) (dt_NS_middle.at 33 rfl) (by decide) rfl (by decide) (fun y => [.ref v0, .retAddr 0, .int v2, .int x15, .int y]) (fun _ => rfl) (fun x16 => ?_)
      refine r_goto (tgt := 38) (dt_NS_middle.at 34 rfl) (by decide) ?_
      exact Rf.msk [true, false, true, true, true] (ih v0 v2 x15 x16 M13)
set_option maxRecDepth 20000 in
set_option maxHeartbeats 2000000 in
theorem ct_NS_middle {G : am_G} {l : Launch} (a0 : Nat) (p1 : Int32) (p2 : Int32) (M : am_M) : Ct G l y_NS_middle X_NS_middle [.ref a0, .int p1, .int p2] M (F_NS_middle a0 p1 p2 M) := by
  refine Ct.of (by decide +kernel) rfl rfl (Nat.le_of_ble_eq_true rfl) ?_
  unfold F_NS_middle
  show Rf G l X_NS_middle 0 [.ref a0, .int p1, .int p2, .retAddr 0, .retAddr 0] [] M _
  refine r_iload_n (dt_NS_middle.at 0 rfl) rfl ?_
  refine r_csI (rest := []) (ct_NS_isAxis p2 _) (dt_NS_middle.at 1 rfl) mb_NS_isAxis wd_717 wd_718 (by decide) rfl rfl (Nat.le_of_ble_eq_true rfl) (fun r2 M1 => ?_)
  refine r_if_eq (tgt := 18) (dt_NS_middle.at 2 rfl) (by decide) ?_ ?_
  · refine r_bipush (dt_NS_middle.at 8 rfl) (-2) (by decide) ?_
    exact r_iret (dt_NS_middle.at 9 rfl) rfl
  · refine r_aload_n (dt_NS_middle.at 3 rfl) rfl ?_
    refine r_fR (dt_NS_middle.at 4 rfl) fl_NS_55 rfl (fun b3 => ?_)
    refine r_iload_n (dt_NS_middle.at 5 rfl) rfl ?_
    refine r_cvI (c := 1) (rest := []) (ct_Fram_shows b3 p1 _) (dt_NS_middle.at 6 rfl) mb_Fram_shows wd_942 wd_943 wd_944 rfl (by decide) rfl rfl (Nat.le_of_ble_eq_true rfl) (fun r5 M4 => ?_)
    refine r_if_ne (tgt := 21) (dt_NS_middle.at 7 rfl) (by decide) ?_ ?_
    · refine r_bipush (dt_NS_middle.at 8 rfl) (-2) (by decide) ?_
      exact r_iret (dt_NS_middle.at 9 rfl) rfl
    · refine r_aload_n (dt_NS_middle.at 10 rfl) rfl ?_
      refine r_fR (dt_NS_middle.at 11 rfl) fl_NS_55 rfl (fun b6 => ?_)
      refine r_fI (dt_NS_middle.at 12 rfl) fl_NS_310 rfl (fun x7 => ?_)
      refine r_if_gt (tgt := 33) (dt_NS_middle.at 13 rfl) (by decide) ?_ ?_
      · refine r_iconst (dt_NS_middle.at 16 rfl) 0 (by decide) ?_
        refine r_istore_n (ls' := [.ref a0, .int p1, .int p2, .int 0, .retAddr 0]) (dt_NS_middle.at 17 rfl) (by decide) rfl ?_
        refine r_iconst (dt_NS_middle.at 18 rfl) 0 (by decide) ?_
        refine r_istore (ls' := [.ref a0, .int p1, .int p2, .int 0, .int 0]) (dt_NS_middle.at 19 rfl) (by decide) rfl ?_
        exact Rf.msk [true, false, true, true, true] (rf_NS_middle_L38 fu a0 p2 0 0 M4)
      · refine r_iconst (dt_NS_middle.at 14 rfl) (-1) (by decide) ?_
        exact r_iret (dt_NS_middle.at 15 rfl) rfl
set_option maxRecDepth 20000 in
set_option maxHeartbeats 2000000 in
theorem ct_Fram_bornOf {G : am_G} {l : Launch} (a0 : Nat) (p1 : Int32) (M : am_M) : Ct G l y_Fram_bornOf X_Fram_bornOf [.ref a0, .int p1] M (F_Fram_bornOf a0 p1 M) := by
  refine Ct.of (by decide +kernel) rfl rfl (Nat.le_of_ble_eq_true rfl) ?_
  unfold F_Fram_bornOf
  show Rf G l X_Fram_bornOf 0 [.ref a0, .int p1] [] M _
  refine r_aload_n (dt_Fram_bornOf.at 0 rfl) rfl ?_
  refine r_iload_n (dt_Fram_bornOf.at 1 rfl) rfl ?_
  refine r_iconst (dt_Fram_bornOf.at 2 rfl) 2 (by decide) ?_
  refine r_cvI (c := 1) (rest := []) (ct_Fram_ofRow a0 p1 2 _) (dt_Fram_bornOf.at 3 rfl) mb_Fram_ofRow wd_985 wd_987 wp_32 rfl (by decide) rfl rfl (Nat.le_of_ble_eq_true rfl) (fun r2 M1 => ?_)
  exact r_iret (dt_Fram_bornOf.at 4 rfl) rfl
set_option maxRecDepth 20000 in
set_option maxHeartbeats 2000000 in
theorem ct_Fram_endOf {G : am_G} {l : Launch} (a0 : Nat) (p1 : Int32) (M : am_M) : Ct G l y_Fram_endOf X_Fram_endOf [.ref a0, .int p1] M (F_Fram_endOf a0 p1 M) := by
  refine Ct.of (by decide +kernel) rfl rfl (Nat.le_of_ble_eq_true rfl) ?_
  unfold F_Fram_endOf
  show Rf G l X_Fram_endOf 0 [.ref a0, .int p1] [] M _
  refine r_aload_n (dt_Fram_endOf.at 0 rfl) rfl ?_
  refine r_iload_n (dt_Fram_endOf.at 1 rfl) rfl ?_
  refine r_iconst (dt_Fram_endOf.at 2 rfl) 3 (by decide) ?_
  refine r_cvI (c := 1) (rest := []) (ct_Fram_ofRow a0 p1 3 _) (dt_Fram_endOf.at 3 rfl) mb_Fram_ofRow wd_985 wd_987 wp_32 rfl (by decide) rfl rfl (Nat.le_of_ble_eq_true rfl) (fun r2 M1 => ?_)
  exact r_iret (dt_Fram_endOf.at 4 rfl) rfl
set_option maxRecDepth 20000 in
set_option maxHeartbeats 2000000 in
theorem rf_NS_both_L26 {G : am_G} {l : Launch}   : ∀ (n : Nat) (v0 : Nat) (v2 : Int32) (v3 : Int32) (v4 : Int32) (M : am_M), Rf G l X_NS_both 26 [.ref v0, .retAddr 0, .int v2, .int v3, .int v4] [] M (F_NS_both_L26 n v0 v2 v3 v4 M) := by
  intro n
  induction n with
  | zero => intro v0 v2 v3 v4 M; exact Rf.no
  | succ n ih =>
    intro v0 v2 v3 v4 M
    unfold F_NS_both_L26
    refine r_iload (dt_NS_both.at 14 rfl) rfl ?_
    refine r_aload_n (dt_NS_both.at 15 rfl) rfl ?_
    refine r_fR (dt_NS_both.at 16 rfl) fl_NS_55 rfl (fun b6 => ?_)
    refine r_fI (dt_NS_both.at 17 rfl) fl_NS_310 rfl (fun x7 => ?_)
    refine r_icmp_ge (tgt := 73) (dt_NS_both.at 18 rfl) (by decide) ?_ ?_
    · refine r_iload_n (dt_NS_both.at 34 rfl) rfl ?_
      exact r_iret (dt_NS_both.at 35 rfl) rfl
    · refine r_aload_n (dt_NS_both.at 19 rfl) rfl ?_
      refine r_fR (dt_NS_both.at 20 rfl) fl_NS_55 rfl (fun b8 => ?_)
      refine r_iload (dt_NS_both.at 21 rfl) rfl ?_
      refine r_cvI (c := 1) (rest := []) (ct_Fram_bornOf b8 v4 _) (dt_NS_both.at 22 rfl) mb_Fram_bornOf wd_1102 wd_1103 wd_1104 rfl (by decide) rfl rfl (Nat.le_of_ble_eq_true rfl) (fun r10 M9 => ?_)
      refine r_iload_n (dt_NS_both.at 23 rfl) rfl ?_
      refine r_icmp_gt (tgt := 67) (dt_NS_both.at 24 rfl) (by decide) ?_ ?_
      · refine r_iincn (v := 1) (dt_NS_both.at 32 rfl) (by decide) rfl (by decide) (fun y => [.ref v0, .retAddr 0, .int v2, .int v3, .int y]) (fun _ => rfl) (fun x11 => ?_)
        refine r_goto (tgt := 26) (dt_NS_both.at 33 rfl) (by decide) ?_
        exact Rf.msk [true, false, true, true, true] (ih v0 v2 v3 x11 M9)
      · refine r_iload_n (dt_NS_both.at 25 rfl) rfl ?_
        refine r_aload_n (dt_NS_both.at 26 rfl) rfl ?_
        refine r_fR (dt_NS_both.at 27 rfl) fl_NS_55 rfl (fun b12 => ?_)
        refine r_iload (dt_NS_both.at 28 rfl) rfl ?_
        refine r_cvI (c := 1) (rest := [.int v2]) (ct_Fram_endOf b12 v4 _) (dt_NS_both.at 29 rfl) mb_Fram_endOf wd_1106 wd_1107 wd_1108 rfl (by decide) rfl rfl (Nat.le_of_ble_eq_true rfl) (fun r14 M13 => ?_)
        refine r_icmp_ge (tgt := 67) (dt_NS_both.at 30 rfl) (by decide) ?_ ?_
        · refine r_iincn (v := 1) (dt_NS_both.at 32 rfl) (by decide) rfl (by decide) (fun y => [.ref v0, .retAddr 0, .int v2, .int v3, .int y]) (fun _ => rfl) (fun x15 => ?_)
          refine r_goto (tgt := 26) (dt_NS_both.at 33 rfl) (by decide) ?_
          exact Rf.msk [true, false, true, true, true] (ih v0 v2 v3 x15 M13)
        · refine r_iincn (v := 1) (dt_NS_both.at 31 rfl) (by decide) rfl (by decide) (fun y => [.ref v0, .retAddr 0, .int v2, .int y, .int v4]) (fun _ => rfl) (fun x16 => ?_)
          refine r_iincn (v := 1) (dt_NS_both.at 32 rfl) (by decide) rfl (by decide) (fun y => [.ref v0, .retAddr 0, .int v2, .int x16, .int y]) (fun _ => rfl) (fun x17 => ?_)
          refine r_goto (tgt := 26) (dt_NS_both.at 33 rfl) (by decide) ?_
          exact Rf.msk [true, false, true, true, true] (ih v0 v2 x16 x17 M13)
set_option maxRecDepth 20000 in
set_option maxHeartbeats 2000000 in
theorem ct_NS_both {G : am_G} {l : Launch} (a0 : Nat) (p1 : Int32) (p2 : Int32) (M : am_M) : Ct G l y_NS_both X_NS_both [.ref a0, .int p1, .int p2] M (F_NS_both a0 p1 p2 M) := by
  refine Ct.of (by decide +kernel) rfl rfl (Nat.le_of_ble_eq_true rfl) ?_
  unfold F_NS_both
  show Rf G l X_NS_both 0 [.ref a0, .int p1, .int p2, .retAddr 0, .retAddr 0] [] M _
  refine r_iload_n (dt_NS_both.at 0 rfl) rfl ?_
  refine r_csI (rest := []) (ct_NS_isTick p2 _) (dt_NS_both.at 1 rfl) mb_NS_isTick wd_714 wd_715 (by decide) rfl rfl (Nat.le_of_ble_eq_true rfl) (fun r2 M1 => ?_)
  refine r_if_eq (tgt := 18) (dt_NS_both.at 2 rfl) (by decide) ?_ ?_
  · refine r_bipush (dt_NS_both.at 8 rfl) (-2) (by decide) ?_
    exact r_iret (dt_NS_both.at 9 rfl) rfl
  · refine r_aload_n (dt_NS_both.at 3 rfl) rfl ?_
    refine r_fR (dt_NS_both.at 4 rfl) fl_NS_55 rfl (fun b3 => ?_)
    refine r_iload_n (dt_NS_both.at 5 rfl) rfl ?_
    refine r_cvI (c := 1) (rest := []) (ct_Fram_shows b3 p1 _) (dt_NS_both.at 6 rfl) mb_Fram_shows wd_942 wd_943 wd_944 rfl (by decide) rfl rfl (Nat.le_of_ble_eq_true rfl) (fun r5 M4 => ?_)
    refine r_if_ne (tgt := 21) (dt_NS_both.at 7 rfl) (by decide) ?_ ?_
    · refine r_bipush (dt_NS_both.at 8 rfl) (-2) (by decide) ?_
      exact r_iret (dt_NS_both.at 9 rfl) rfl
    · refine r_iconst (dt_NS_both.at 10 rfl) 0 (by decide) ?_
      refine r_istore_n (ls' := [.ref a0, .int p1, .int p2, .int 0, .retAddr 0]) (dt_NS_both.at 11 rfl) (by decide) rfl ?_
      refine r_iconst (dt_NS_both.at 12 rfl) 0 (by decide) ?_
      refine r_istore (ls' := [.ref a0, .int p1, .int p2, .int 0, .int 0]) (dt_NS_both.at 13 rfl) (by decide) rfl ?_
      exact Rf.msk [true, false, true, true, true] (rf_NS_both_L26 fu a0 p2 0 0 M4)
set_option maxRecDepth 20000 in
set_option maxHeartbeats 2000000 in
theorem rf_NS_ofAge_L111 {G : am_G} {l : Launch} (k47 : Nat → Int32 → Int32 → Int32 → Int32 → Int32 → Int32 → Int32 → Int32 → am_M → am_R) (hk47 : ∀ v0 v1 v2 v3 v4 v5 v6 v7 v8 M, Rf G l X_NS_ofAge 47 [.ref v0, .int v1, .int v2, .int v3, .int v4, .int v5, .int v6, .int v7, .int v8, .retAddr 0] [] M (k47 v0 v1 v2 v3 v4 v5 v6 v7 v8 M)) (v0 : Nat) (v1 : Int32) (v2 : Int32) (v3 : Int32) (v4 : Int32) (v5 : Int32) (v8 : Int32) (v9 : Int32) (M : am_M) : Rf G l X_NS_ofAge 111 [.ref v0, .int v1, .int v2, .int v3, .int v4, .int v5, .retAddr 0, .retAddr 0, .int v8, .int v9] [] M (F_NS_ofAge_L111 k47 v0 v1 v2 v3 v4 v5 v8 v9 M) := by
  unfold F_NS_ofAge_L111
  refine r_aload_n (dt_NS_ofAge.at 57 rfl) rfl ?_
  refine r_fR (dt_NS_ofAge.at 58 rfl) fl_NS_55 rfl (fun b16 => ?_)
  refine r_iload (dt_NS_ofAge.at 59 rfl) rfl ?_
  refine r_cvI (c := 1) (rest := []) (ct_Fram_codeOf b16 v8 _) (dt_NS_ofAge.at 60 rfl) mb_Fram_codeOf wd_1003 wd_1004 wd_1005 rfl (by decide) rfl rfl (Nat.le_of_ble_eq_true rfl) (fun r18 M17 => ?_)
  refine r_istore (ls' := [.ref v0, .int v1, .int v2, .int v3, .int v4, .int v5, .int r18, .retAddr 0, .int v8, .int v9]) (dt_NS_ofAge.at 61 rfl) (by decide) rfl ?_
  refine r_iload (dt_NS_ofAge.at 62 rfl) rfl ?_
  refine r_istore (ls' := [.ref v0, .int v1, .int v2, .int v3, .int v4, .int v5, .int r18, .int v9, .int v8, .int v9]) (dt_NS_ofAge.at 63 rfl) (by decide) rfl ?_
  refine r_iincn (v := 1) (dt_NS_ofAge.at 64 rfl) (by decide) rfl (by decide) (fun y => [.ref v0, .int v1, .int v2, .int v3, .int v4, .int v5, .int r18, .int v9, .int y, .int v9]) (fun _ => rfl) (fun x19 => ?_)
  refine r_goto (tgt := 47) (dt_NS_ofAge.at 65 rfl) (by decide) ?_
  exact Rf.msk [true, true, true, true, true, true, true, true, true, false] (hk47 v0 v1 v2 v3 v4 v5 r18 v9 x19 M17)
set_option maxRecDepth 20000 in
set_option maxHeartbeats 2000000 in
theorem rf_NS_ofAge_L47 {G : am_G} {l : Launch}   : ∀ (n : Nat) (v0 : Nat) (v1 : Int32) (v2 : Int32) (v3 : Int32) (v4 : Int32) (v5 : Int32) (v6 : Int32) (v7 : Int32) (v8 : Int32) (M : am_M), Rf G l X_NS_ofAge 47 [.ref v0, .int v1, .int v2, .int v3, .int v4, .int v5, .int v6, .int v7, .int v8, .retAddr 0] [] M (F_NS_ofAge_L47 n v0 v1 v2 v3 v4 v5 v6 v7 v8 M) := by
  intro n
  induction n with
  | zero => intro v0 v1 v2 v3 v4 v5 v6 v7 v8 M; exact Rf.no
  | succ n ih =>
    intro v0 v1 v2 v3 v4 v5 v6 v7 v8 M
    unfold F_NS_ofAge_L47
    refine r_iload (dt_NS_ofAge.at 27 rfl) rfl ?_
    refine r_aload_n (dt_NS_ofAge.at 28 rfl) rfl ?_
    refine r_fR (dt_NS_ofAge.at 29 rfl) fl_NS_55 rfl (fun b4 => ?_)
    refine r_fI (dt_NS_ofAge.at 30 rfl) fl_NS_310 rfl (fun x5 => ?_)
    refine r_icmp_ge (tgt := 132) (dt_NS_ofAge.at 31 rfl) (by decide) ?_ ?_
    · refine r_iload_n (dt_NS_ofAge.at 66 rfl) rfl ?_
      refine r_iconst (dt_NS_ofAge.at 67 rfl) 2 (by decide) ?_
      refine r_icmp_ne (tgt := 140) (dt_NS_ofAge.at 68 rfl) (by decide) ?_ ?_
      · refine r_iload (dt_NS_ofAge.at 69 rfl) rfl ?_
        exact r_iret (dt_NS_ofAge.at 70 rfl) rfl
      · refine r_iload_n (dt_NS_ofAge.at 71 rfl) rfl ?_
        refine r_if_ne (tgt := 149) (dt_NS_ofAge.at 72 rfl) (by decide) ?_ ?_
        · refine r_iload (dt_NS_ofAge.at 73 rfl) rfl ?_
          refine r_goto (tgt := 151) (dt_NS_ofAge.at 74 rfl) (by decide) ?_
          exact r_iret (dt_NS_ofAge.at 76 rfl) rfl
        · refine r_iload (dt_NS_ofAge.at 75 rfl) rfl ?_
          exact r_iret (dt_NS_ofAge.at 76 rfl) rfl
    · refine r_aload_n (dt_NS_ofAge.at 32 rfl) rfl ?_
      refine r_fR (dt_NS_ofAge.at 33 rfl) fl_NS_55 rfl (fun b6 => ?_)
      refine r_iload (dt_NS_ofAge.at 34 rfl) rfl ?_
      refine r_cvI (c := 1) (rest := []) (ct_Fram_codeOf b6 v8 _) (dt_NS_ofAge.at 35 rfl) mb_Fram_codeOf wd_1003 wd_1004 wd_1005 rfl (by decide) rfl rfl (Nat.le_of_ble_eq_true rfl) (fun r8 M7 => ?_)
      refine r_csI (rest := []) (ct_NS_generationOf r8 _) (dt_NS_ofAge.at 36 rfl) mb_NS_generationOf wd_617 wd_618 (by decide) rfl rfl (Nat.le_of_ble_eq_true rfl) (fun r10 M9 => ?_)
      refine r_iload_n (dt_NS_ofAge.at 37 rfl) rfl ?_
      refine r_icmp_ne (tgt := 126) (dt_NS_ofAge.at 38 rfl) (by decide) ?_ ?_
      · refine r_iincn (v := 1) (dt_NS_ofAge.at 39 rfl) (by decide) rfl (by decide) (fun y => [.ref v0, .int v1, .int v2, .int v3, .int y, .int v5, .int v6, .int v7, .int v8, .retAddr 0]) (fun _ => rfl) (fun x11 => ?_)
        refine r_aload_n (dt_NS_ofAge.at 40 rfl) rfl ?_
        refine r_fR (dt_NS_ofAge.at 41 rfl) fl_NS_55 rfl (fun b12 => ?_)
        refine r_iload (dt_NS_ofAge.at 42 rfl) rfl ?_
        refine r_cvI (c := 1) (rest := []) (ct_Fram_bornOf b12 v8 _) (dt_NS_ofAge.at 43 rfl) mb_Fram_bornOf wd_1102 wd_1103 wd_1104 rfl (by decide) rfl rfl (Nat.le_of_ble_eq_true rfl) (fun r14 M13 => ?_)
        refine r_istore (ls' := [.ref v0, .int v1, .int v2, .int v3, .int x11, .int v5, .int v6, .int v7, .int v8, .int r14]) (dt_NS_ofAge.at 44 rfl) (by decide) rfl ?_
        refine r_iload (dt_NS_ofAge.at 45 rfl) rfl ?_
        refine r_iload_n (dt_NS_ofAge.at 46 rfl) rfl ?_
        refine r_iload (dt_NS_ofAge.at 47 rfl) rfl ?_
        refine r_isub (dt_NS_ofAge.at 48 rfl) ?_
        refine r_iadd (dt_NS_ofAge.at 49 rfl) ?_
        refine r_nmi (fun x15 => ?_)
        refine r_istore (ls' := [.ref v0, .int v1, .int v2, .int v3, .int x11, .int x15, .int v6, .int v7, .int v8, .int r14]) (dt_NS_ofAge.at 50 rfl) (by decide) rfl ?_
        refine r_iload (dt_NS_ofAge.at 51 rfl) rfl ?_
        refine r_iconst (dt_NS_ofAge.at 52 rfl) (-1) (by decide) ?_
        refine r_icmp_eq (tgt := 111) (dt_NS_ofAge.at 53 rfl) (by decide) ?_ ?_
        · exact Rf.msk [true, true, true, true, true, true, false, false, true, true] (rf_NS_ofAge_L111 (F_NS_ofAge_L47 n) ih v0 v1 v2 v3 x11 x15 v8 r14 M13)
        · refine r_iload (dt_NS_ofAge.at 54 rfl) rfl ?_
          refine r_iload (dt_NS_ofAge.at 55 rfl) rfl ?_
          refine r_icmp_ge (tgt := 126) (dt_NS_ofAge.at 56 rfl) (by decide) ?_ ?_
          · refine r_iincn (v := 1) (dt_NS_ofAge.at 64 rfl) (by decide) rfl (by decide) (fun y => [.ref v0, .int v1, .int v2, .int v3, .int x11, .int x15, .int v6, .int v7, .int y, .int r14]) (fun _ => rfl) (fun x20 => ?_)
            refine r_goto (tgt := 47) (dt_NS_ofAge.at 65 rfl) (by decide) ?_
            exact Rf.msk [true, true, true, true, true, true, true, true, true, false] (ih v0 v1 v2 v3 x11 x15 v6 v7 x20 M13)
          · exact Rf.msk [true, true, true, true, true, true, false, false, true, true] (rf_NS_ofAge_L111 (F_NS_ofAge_L47 n) ih v0 v1 v2 v3 x11 x15 v8 r14 M13)
      · refine r_iincn (v := 1) (dt_NS_ofAge.at 64 rfl) (by decide) rfl (by decide) (fun y => [.ref v0, .int v1, .int v2, .int v3, .int v4, .int v5, .int v6, .int v7, .int y, .retAddr 0]) (fun _ => rfl) (fun x21 => ?_)
        refine r_goto (tgt := 47) (dt_NS_ofAge.at 65 rfl) (by decide) ?_
        exact Rf.msk [true, true, true, true, true, true, true, true, true, false] (ih v0 v1 v2 v3 v4 v5 v6 v7 x21 M9)
set_option maxRecDepth 20000 in
set_option maxHeartbeats 2000000 in
theorem ct_NS_ofAge {G : am_G} {l : Launch} (a0 : Nat) (p1 : Int32) (p2 : Int32) (p3 : Int32) (M : am_M) : Ct G l y_NS_ofAge X_NS_ofAge [.ref a0, .int p1, .int p2, .int p3] M (F_NS_ofAge a0 p1 p2 p3 M) := by
  refine Ct.of (by decide +kernel) rfl rfl (Nat.le_of_ble_eq_true rfl) ?_
  unfold F_NS_ofAge
  show Rf G l X_NS_ofAge 0 [.ref a0, .int p1, .int p2, .int p3, .retAddr 0, .retAddr 0, .retAddr 0, .retAddr 0, .retAddr 0, .retAddr 0] [] M _
  refine r_iload_n (dt_NS_ofAge.at 0 rfl) rfl ?_
  refine r_if_lt (tgt := 29) (dt_NS_ofAge.at 1 rfl) (by decide) ?_ ?_
  · refine r_bipush (dt_NS_ofAge.at 15 rfl) (-2) (by decide) ?_
    exact r_iret (dt_NS_ofAge.at 16 rfl) rfl
  · refine r_iload_n (dt_NS_ofAge.at 2 rfl) rfl ?_
    refine r_iconst (dt_NS_ofAge.at 3 rfl) 3 (by decide) ?_
    refine r_icmp_ge (tgt := 29) (dt_NS_ofAge.at 4 rfl) (by decide) ?_ ?_
    · refine r_bipush (dt_NS_ofAge.at 15 rfl) (-2) (by decide) ?_
      exact r_iret (dt_NS_ofAge.at 16 rfl) rfl
    · refine r_iload_n (dt_NS_ofAge.at 5 rfl) rfl ?_
      refine r_if_lt (tgt := 29) (dt_NS_ofAge.at 6 rfl) (by decide) ?_ ?_
      · refine r_bipush (dt_NS_ofAge.at 15 rfl) (-2) (by decide) ?_
        exact r_iret (dt_NS_ofAge.at 16 rfl) rfl
      · refine r_iload_n (dt_NS_ofAge.at 7 rfl) rfl ?_
        refine r_iconst (dt_NS_ofAge.at 8 rfl) 2 (by decide) ?_
        refine r_icmp_gt (tgt := 29) (dt_NS_ofAge.at 9 rfl) (by decide) ?_ ?_
        · refine r_bipush (dt_NS_ofAge.at 15 rfl) (-2) (by decide) ?_
          exact r_iret (dt_NS_ofAge.at 16 rfl) rfl
        · refine r_aload_n (dt_NS_ofAge.at 10 rfl) rfl ?_
          refine r_fR (dt_NS_ofAge.at 11 rfl) fl_NS_55 rfl (fun b1 => ?_)
          refine r_iload_n (dt_NS_ofAge.at 12 rfl) rfl ?_
          refine r_cvI (c := 1) (rest := []) (ct_Fram_shows b1 p1 _) (dt_NS_ofAge.at 13 rfl) mb_Fram_shows wd_942 wd_943 wd_944 rfl (by decide) rfl rfl (Nat.le_of_ble_eq_true rfl) (fun r3 M2 => ?_)
          refine r_if_ne (tgt := 32) (dt_NS_ofAge.at 14 rfl) (by decide) ?_ ?_
          · refine r_bipush (dt_NS_ofAge.at 15 rfl) (-2) (by decide) ?_
            exact r_iret (dt_NS_ofAge.at 16 rfl) rfl
          · refine r_iconst (dt_NS_ofAge.at 17 rfl) 0 (by decide) ?_
            refine r_istore (ls' := [.ref a0, .int p1, .int p2, .int p3, .int 0, .retAddr 0, .retAddr 0, .retAddr 0, .retAddr 0, .retAddr 0]) (dt_NS_ofAge.at 18 rfl) (by decide) rfl ?_
            refine r_iconst (dt_NS_ofAge.at 19 rfl) 0 (by decide) ?_
            refine r_istore (ls' := [.ref a0, .int p1, .int p2, .int p3, .int 0, .int 0, .retAddr 0, .retAddr 0, .retAddr 0, .retAddr 0]) (dt_NS_ofAge.at 20 rfl) (by decide) rfl ?_
            refine r_iconst (dt_NS_ofAge.at 21 rfl) (-1) (by decide) ?_
            refine r_istore (ls' := [.ref a0, .int p1, .int p2, .int p3, .int 0, .int 0, .int (-1), .retAddr 0, .retAddr 0, .retAddr 0]) (dt_NS_ofAge.at 22 rfl) (by decide) rfl ?_
            refine r_iconst (dt_NS_ofAge.at 23 rfl) 0 (by decide) ?_
            refine r_istore (ls' := [.ref a0, .int p1, .int p2, .int p3, .int 0, .int 0, .int (-1), .int 0, .retAddr 0, .retAddr 0]) (dt_NS_ofAge.at 24 rfl) (by decide) rfl ?_
            refine r_iconst (dt_NS_ofAge.at 25 rfl) 0 (by decide) ?_
            refine r_istore (ls' := [.ref a0, .int p1, .int p2, .int p3, .int 0, .int 0, .int (-1), .int 0, .int 0, .retAddr 0]) (dt_NS_ofAge.at 26 rfl) (by decide) rfl ?_
            exact Rf.msk [true, true, true, true, true, true, true, true, true, false] (rf_NS_ofAge_L47 fu a0 p1 p2 p3 0 0 (-1) 0 0 M2)
set_option maxRecDepth 20000 in
set_option maxHeartbeats 2000000 in
theorem rf_NS_colours_L29 {G : am_G} {l : Launch}   : ∀ (n : Nat) (v0 : Nat) (v2 : Int32) (v3 : Int32) (v4 : Int32) (M : am_M), Rf G l X_NS_colours 29 [.ref v0, .retAddr 0, .int v2, .int v3, .int v4] [] M (F_NS_colours_L29 n v0 v2 v3 v4 M) := by
  intro n
  induction n with
  | zero => intro v0 v2 v3 v4 M; exact Rf.no
  | succ n ih =>
    intro v0 v2 v3 v4 M
    unfold F_NS_colours_L29
    refine r_iload (dt_NS_colours.at 16 rfl) rfl ?_
    refine r_aload_n (dt_NS_colours.at 17 rfl) rfl ?_
    refine r_fR (dt_NS_colours.at 18 rfl) fl_NS_55 rfl (fun b4 => ?_)
    refine r_fI (dt_NS_colours.at 19 rfl) fl_NS_310 rfl (fun x5 => ?_)
    refine r_icmp_ge (tgt := 70) (dt_NS_colours.at 20 rfl) (by decide) ?_ ?_
    · refine r_iload_n (dt_NS_colours.at 33 rfl) rfl ?_
      exact r_iret (dt_NS_colours.at 34 rfl) rfl
    · refine r_aload_n (dt_NS_colours.at 21 rfl) rfl ?_
      refine r_fR (dt_NS_colours.at 22 rfl) fl_NS_16 rfl (fun b6 => ?_)
      refine r_aload_n (dt_NS_colours.at 23 rfl) rfl ?_
      refine r_fR (dt_NS_colours.at 24 rfl) fl_NS_55 rfl (fun b7 => ?_)
      refine r_iload (dt_NS_colours.at 25 rfl) rfl ?_
      refine r_cvI (c := 1) (rest := [.ref b6]) (ct_Fram_codeOf b7 v4 _) (dt_NS_colours.at 26 rfl) mb_Fram_codeOf wd_1003 wd_1004 wd_1005 rfl (by decide) rfl rfl (Nat.le_of_ble_eq_true rfl) (fun r9 M8 => ?_)
      refine r_cvI (c := 5) (rest := []) (ct_Scen_colourOf b6 r9 _) (dt_NS_colours.at 27 rfl) mb_Scen_colourOf wd_702 wd_703 wd_704 rfl (by decide) rfl rfl (Nat.le_of_ble_eq_true rfl) (fun r11 M10 => ?_)
      refine r_iload_n (dt_NS_colours.at 28 rfl) rfl ?_
      refine r_icmp_ne (tgt := 64) (dt_NS_colours.at 29 rfl) (by decide) ?_ ?_
      · refine r_iincn (v := 1) (dt_NS_colours.at 30 rfl) (by decide) rfl (by decide) (fun y => [.ref v0, .retAddr 0, .int v2, .int y, .int v4]) (fun _ => rfl) (fun x12 => ?_)
        refine r_iincn (v := 1) (dt_NS_colours.at 31 rfl) (by decide) rfl (by decide) (fun y => [.ref v0, .retAddr 0, .int v2, .int x12, .int y]) (fun _ => rfl) (fun x13 => ?_)
        refine r_goto (tgt := 29) (dt_NS_colours.at 32 rfl) (by decide) ?_
        exact Rf.msk [true, false, true, true, true] (ih v0 v2 x12 x13 M10)
      · refine r_iincn (v := 1) (dt_NS_colours.at 31 rfl) (by decide) rfl (by decide) (fun y => [.ref v0, .retAddr 0, .int v2, .int v3, .int y]) (fun _ => rfl) (fun x14 => ?_)
        refine r_goto (tgt := 29) (dt_NS_colours.at 32 rfl) (by decide) ?_
        exact Rf.msk [true, false, true, true, true] (ih v0 v2 v3 x14 M10)
set_option maxRecDepth 20000 in
set_option maxHeartbeats 2000000 in
theorem ct_NS_colours {G : am_G} {l : Launch} (a0 : Nat) (p1 : Int32) (p2 : Int32) (M : am_M) : Ct G l y_NS_colours X_NS_colours [.ref a0, .int p1, .int p2] M (F_NS_colours a0 p1 p2 M) := by
  refine Ct.of (by decide +kernel) rfl rfl (Nat.le_of_ble_eq_true rfl) ?_
  unfold F_NS_colours
  show Rf G l X_NS_colours 0 [.ref a0, .int p1, .int p2, .retAddr 0, .retAddr 0] [] M _
  refine r_iload_n (dt_NS_colours.at 0 rfl) rfl ?_
  refine r_if_lt (tgt := 21) (dt_NS_colours.at 1 rfl) (by decide) ?_ ?_
  · refine r_bipush (dt_NS_colours.at 10 rfl) (-2) (by decide) ?_
    exact r_iret (dt_NS_colours.at 11 rfl) rfl
  · refine r_iload_n (dt_NS_colours.at 2 rfl) rfl ?_
    refine r_bipush (dt_NS_colours.at 3 rfl) 8 (by decide) ?_
    refine r_icmp_ge (tgt := 21) (dt_NS_colours.at 4 rfl) (by decide) ?_ ?_
    · refine r_bipush (dt_NS_colours.at 10 rfl) (-2) (by decide) ?_
      exact r_iret (dt_NS_colours.at 11 rfl) rfl
    · refine r_aload_n (dt_NS_colours.at 5 rfl) rfl ?_
      refine r_fR (dt_NS_colours.at 6 rfl) fl_NS_55 rfl (fun b1 => ?_)
      refine r_iload_n (dt_NS_colours.at 7 rfl) rfl ?_
      refine r_cvI (c := 1) (rest := []) (ct_Fram_shows b1 p1 _) (dt_NS_colours.at 8 rfl) mb_Fram_shows wd_942 wd_943 wd_944 rfl (by decide) rfl rfl (Nat.le_of_ble_eq_true rfl) (fun r3 M2 => ?_)
      refine r_if_ne (tgt := 24) (dt_NS_colours.at 9 rfl) (by decide) ?_ ?_
      · refine r_bipush (dt_NS_colours.at 10 rfl) (-2) (by decide) ?_
        exact r_iret (dt_NS_colours.at 11 rfl) rfl
      · refine r_iconst (dt_NS_colours.at 12 rfl) 0 (by decide) ?_
        refine r_istore_n (ls' := [.ref a0, .int p1, .int p2, .int 0, .retAddr 0]) (dt_NS_colours.at 13 rfl) (by decide) rfl ?_
        refine r_iconst (dt_NS_colours.at 14 rfl) 0 (by decide) ?_
        refine r_istore (ls' := [.ref a0, .int p1, .int p2, .int 0, .int 0]) (dt_NS_colours.at 15 rfl) (by decide) rfl ?_
        exact Rf.msk [true, false, true, true, true] (rf_NS_colours_L29 fu a0 p2 0 0 M2)
set_option maxRecDepth 20000 in
set_option maxHeartbeats 2000000 in
theorem rf_NS_twins_L47 {G : am_G} {l : Launch} (k18 : Nat → Int32 → Int32 → am_M → am_R) (hk18 : ∀ v0 v2 v3 M, Rf G l X_NS_twins 18 [.ref v0, .retAddr 0, .int v2, .int v3, .retAddr 0, .retAddr 0] [] M (k18 v0 v2 v3 M)) : ∀ (n : Nat) (v0 : Nat) (v2 : Int32) (v3 : Int32) (v4 : Int32) (v5 : Int32) (M : am_M), Rf G l X_NS_twins 47 [.ref v0, .retAddr 0, .int v2, .int v3, .int v4, .int v5] [] M (F_NS_twins_L47 k18 n v0 v2 v3 v4 v5 M) := by
  intro n
  induction n with
  | zero => intro v0 v2 v3 v4 v5 M; exact Rf.no
  | succ n ih =>
    intro v0 v2 v3 v4 v5 M
    unfold F_NS_twins_L47
    refine r_iload (dt_NS_twins.at 26 rfl) rfl ?_
    refine r_iconst (dt_NS_twins.at 27 rfl) (-1) (by decide) ?_
    refine r_icmp_eq (tgt := 100) (dt_NS_twins.at 28 rfl) (by decide) ?_ ?_
    · refine r_iincn (v := 1) (dt_NS_twins.at 49 rfl) (by decide) rfl (by decide) (fun y => [.ref v0, .retAddr 0, .int v2, .int y, .int v4, .int v5]) (fun _ => rfl) (fun x12 => ?_)
      refine r_goto (tgt := 18) (dt_NS_twins.at 50 rfl) (by decide) ?_
      exact Rf.msk [true, false, true, true, false, false] (hk18 v0 v2 x12 M)
    · refine r_iload (dt_NS_twins.at 29 rfl) rfl ?_
      refine r_aload_n (dt_NS_twins.at 30 rfl) rfl ?_
      refine r_fR (dt_NS_twins.at 31 rfl) fl_NS_55 rfl (fun b13 => ?_)
      refine r_fI (dt_NS_twins.at 32 rfl) fl_NS_310 rfl (fun x14 => ?_)
      refine r_icmp_ge (tgt := 100) (dt_NS_twins.at 33 rfl) (by decide) ?_ ?_
      · refine r_iincn (v := 1) (dt_NS_twins.at 49 rfl) (by decide) rfl (by decide) (fun y => [.ref v0, .retAddr 0, .int v2, .int y, .int v4, .int v5]) (fun _ => rfl) (fun x15 => ?_)
        refine r_goto (tgt := 18) (dt_NS_twins.at 50 rfl) (by decide) ?_
        exact Rf.msk [true, false, true, true, false, false] (hk18 v0 v2 x15 M)
      · refine r_iload (dt_NS_twins.at 34 rfl) rfl ?_
        refine r_iload_n (dt_NS_twins.at 35 rfl) rfl ?_
        refine r_bipush (dt_NS_twins.at 36 rfl) 7 (by decide) ?_
        refine r_iadd (dt_NS_twins.at 37 rfl) ?_
        refine r_icmp_ge (tgt := 100) (dt_NS_twins.at 38 rfl) (by decide) ?_ ?_
        · refine r_iincn (v := 1) (dt_NS_twins.at 49 rfl) (by decide) rfl (by decide) (fun y => [.ref v0, .retAddr 0, .int v2, .int y, .int v4, .int v5]) (fun _ => rfl) (fun x16 => ?_)
          refine r_goto (tgt := 18) (dt_NS_twins.at 50 rfl) (by decide) ?_
          exact Rf.msk [true, false, true, true, false, false] (hk18 v0 v2 x16 M)
        · refine r_aload_n (dt_NS_twins.at 39 rfl) rfl ?_
          refine r_fR (dt_NS_twins.at 40 rfl) fl_NS_55 rfl (fun b17 => ?_)
          refine r_iload (dt_NS_twins.at 41 rfl) rfl ?_
          refine r_cvI (c := 1) (rest := []) (ct_Fram_codeOf b17 v5 _) (dt_NS_twins.at 42 rfl) mb_Fram_codeOf wd_1003 wd_1004 wd_1005 rfl (by decide) rfl rfl (Nat.le_of_ble_eq_true rfl) (fun r19 M18 => ?_)
          refine r_csI (rest := []) (ct_NS_codeOfParent r19 _) (dt_NS_twins.at 43 rfl) mb_NS_codeOfParent wd_632 wd_633 (by decide) rfl rfl (Nat.le_of_ble_eq_true rfl) (fun r21 M20 => ?_)
          refine r_iload (dt_NS_twins.at 44 rfl) rfl ?_
          refine r_icmp_ne (tgt := 94) (dt_NS_twins.at 45 rfl) (by decide) ?_ ?_
          · refine r_iincn (v := 2) (dt_NS_twins.at 46 rfl) (by decide) rfl (by decide) (fun y => [.ref v0, .retAddr 0, .int y, .int v3, .int v4, .int v5]) (fun _ => rfl) (fun x22 => ?_)
            refine r_iincn (v := 1) (dt_NS_twins.at 47 rfl) (by decide) rfl (by decide) (fun y => [.ref v0, .retAddr 0, .int x22, .int v3, .int v4, .int y]) (fun _ => rfl) (fun x23 => ?_)
            refine r_goto (tgt := 47) (dt_NS_twins.at 48 rfl) (by decide) ?_
            exact Rf.msk [true, false, true, true, true, true] (ih v0 x22 v3 v4 x23 M20)
          · refine r_iincn (v := 1) (dt_NS_twins.at 47 rfl) (by decide) rfl (by decide) (fun y => [.ref v0, .retAddr 0, .int v2, .int v3, .int v4, .int y]) (fun _ => rfl) (fun x24 => ?_)
            refine r_goto (tgt := 47) (dt_NS_twins.at 48 rfl) (by decide) ?_
            exact Rf.msk [true, false, true, true, true, true] (ih v0 v2 v3 v4 x24 M20)
set_option maxRecDepth 20000 in
set_option maxHeartbeats 2000000 in
theorem rf_NS_twins_L18 {G : am_G} {l : Launch}   : ∀ (n : Nat) (v0 : Nat) (v2 : Int32) (v3 : Int32) (M : am_M), Rf G l X_NS_twins 18 [.ref v0, .retAddr 0, .int v2, .int v3, .retAddr 0, .retAddr 0] [] M (F_NS_twins_L18 n v0 v2 v3 M) := by
  intro n
  induction n with
  | zero => intro v0 v2 v3 M; exact Rf.no
  | succ n ih =>
    intro v0 v2 v3 M
    unfold F_NS_twins_L18
    refine r_iload_n (dt_NS_twins.at 11 rfl) rfl ?_
    refine r_aload_n (dt_NS_twins.at 12 rfl) rfl ?_
    refine r_fR (dt_NS_twins.at 13 rfl) fl_NS_55 rfl (fun b4 => ?_)
    refine r_fI (dt_NS_twins.at 14 rfl) fl_NS_310 rfl (fun x5 => ?_)
    refine r_icmp_ge (tgt := 106) (dt_NS_twins.at 15 rfl) (by decide) ?_ ?_
    · refine r_iload_n (dt_NS_twins.at 51 rfl) rfl ?_
      exact r_iret (dt_NS_twins.at 52 rfl) rfl
    · refine r_aload_n (dt_NS_twins.at 16 rfl) rfl ?_
      refine r_fR (dt_NS_twins.at 17 rfl) fl_NS_55 rfl (fun b6 => ?_)
      refine r_iload_n (dt_NS_twins.at 18 rfl) rfl ?_
      refine r_cvI (c := 1) (rest := []) (ct_Fram_codeOf b6 v3 _) (dt_NS_twins.at 19 rfl) mb_Fram_codeOf wd_1003 wd_1004 wd_1005 rfl (by decide) rfl rfl (Nat.le_of_ble_eq_true rfl) (fun r8 M7 => ?_)
      refine r_csI (rest := []) (ct_NS_codeOfParent r8 _) (dt_NS_twins.at 20 rfl) mb_NS_codeOfParent wd_632 wd_633 (by decide) rfl rfl (Nat.le_of_ble_eq_true rfl) (fun r10 M9 => ?_)
      refine r_istore (ls' := [.ref v0, .retAddr 0, .int v2, .int v3, .int r10, .retAddr 0]) (dt_NS_twins.at 21 rfl) (by decide) rfl ?_
      refine r_iload_n (dt_NS_twins.at 22 rfl) rfl ?_
      refine r_iconst (dt_NS_twins.at 23 rfl) 1 (by decide) ?_
      refine r_iadd (dt_NS_twins.at 24 rfl) ?_
      refine r_nmi (fun x11 => ?_)
      refine r_istore (ls' := [.ref v0, .retAddr 0, .int v2, .int v3, .int r10, .int x11]) (dt_NS_twins.at 25 rfl) (by decide) rfl ?_
      exact Rf.msk [true, false, true, true, true, true] (rf_NS_twins_L47 (F_NS_twins_L18 n) ih fu v0 v2 v3 r10 x11 M9)
set_option maxRecDepth 20000 in
set_option maxHeartbeats 2000000 in
theorem ct_NS_twins {G : am_G} {l : Launch} (a0 : Nat) (p1 : Int32) (M : am_M) : Ct G l y_NS_twins X_NS_twins [.ref a0, .int p1] M (F_NS_twins a0 p1 M) := by
  refine Ct.of (by decide +kernel) rfl rfl (Nat.le_of_ble_eq_true rfl) ?_
  unfold F_NS_twins
  show Rf G l X_NS_twins 0 [.ref a0, .int p1, .retAddr 0, .retAddr 0, .retAddr 0, .retAddr 0] [] M _
  refine r_aload_n (dt_NS_twins.at 0 rfl) rfl ?_
  refine r_fR (dt_NS_twins.at 1 rfl) fl_NS_55 rfl (fun b1 => ?_)
  refine r_iload_n (dt_NS_twins.at 2 rfl) rfl ?_
  refine r_cvI (c := 1) (rest := []) (ct_Fram_shows b1 p1 _) (dt_NS_twins.at 3 rfl) mb_Fram_shows wd_942 wd_943 wd_944 rfl (by decide) rfl rfl (Nat.le_of_ble_eq_true rfl) (fun r3 M2 => ?_)
  refine r_if_ne (tgt := 14) (dt_NS_twins.at 4 rfl) (by decide) ?_ ?_
  · refine r_bipush (dt_NS_twins.at 5 rfl) (-2) (by decide) ?_
    exact r_iret (dt_NS_twins.at 6 rfl) rfl
  · refine r_iconst (dt_NS_twins.at 7 rfl) 0 (by decide) ?_
    refine r_istore_n (ls' := [.ref a0, .int p1, .int 0, .retAddr 0, .retAddr 0, .retAddr 0]) (dt_NS_twins.at 8 rfl) (by decide) rfl ?_
    refine r_iconst (dt_NS_twins.at 9 rfl) 0 (by decide) ?_
    refine r_istore_n (ls' := [.ref a0, .int p1, .int 0, .int 0, .retAddr 0, .retAddr 0]) (dt_NS_twins.at 10 rfl) (by decide) rfl ?_
    exact Rf.msk [true, false, true, true, false, false] (rf_NS_twins_L18 fu a0 0 0 M2)
set_option maxRecDepth 20000 in
set_option maxHeartbeats 2000000 in
theorem rf_Fram_markTops_L7 {G : am_G} {l : Launch}   : ∀ (n : Nat) (v0 : Nat) (v1 : Nat) (v2 : Int32) (M : am_M), Rf G l X_Fram_markTops 7 [.ref v0, .ref v1, .int v2, .retAddr 0] [] M (F_Fram_markTops_L7 n v0 v1 v2 M) := by
  intro n
  induction n with
  | zero => intro v0 v1 v2 M; exact Rf.no
  | succ n ih =>
    intro v0 v1 v2 M
    unfold F_Fram_markTops_L7
    refine r_iload_n (dt_Fram_markTops.at 5 rfl) rfl ?_
    refine r_aload_n (dt_Fram_markTops.at 6 rfl) rfl ?_
    refine r_fI (dt_Fram_markTops.at 7 rfl) fl_Fram_43 rfl (fun x2 => ?_)
    refine r_icmp_ge (tgt := 51) (dt_Fram_markTops.at 8 rfl) (by decide) ?_ ?_
    · exact r_vret (dt_Fram_markTops.at 31 rfl) rfl
    · refine r_aload_n (dt_Fram_markTops.at 9 rfl) rfl ?_
      refine r_aload_n (dt_Fram_markTops.at 10 rfl) rfl ?_
      refine r_iload_n (dt_Fram_markTops.at 11 rfl) rfl ?_
      refine r_cvI (c := 1) (rest := [.ref v0]) (ct_Fram_rowAt v0 v2 _) (dt_Fram_markTops.at 12 rfl) mb_Fram_rowAt wd_1030 wd_1000 wd_1001 rfl (by decide) rfl rfl (Nat.le_of_ble_eq_true rfl) (fun r4 M3 => ?_)
      refine r_cvI (c := 1) (rest := []) (ct_Fram_columnOf v0 r4 _) (dt_Fram_markTops.at 13 rfl) mb_Fram_columnOf wd_1045 wd_1047 wp_33 rfl (by decide) rfl rfl (Nat.le_of_ble_eq_true rfl) (fun r6 M5 => ?_)
      refine r_istore_n (ls' := [.ref v0, .ref v1, .int v2, .int r6]) (dt_Fram_markTops.at 14 rfl) (by decide) rfl ?_
      refine r_iload_n (dt_Fram_markTops.at 15 rfl) rfl ?_
      refine r_if_lt (tgt := 45) (dt_Fram_markTops.at 16 rfl) (by decide) ?_ ?_
      · refine r_iincn (v := 1) (dt_Fram_markTops.at 29 rfl) (by decide) rfl (by decide) (fun y => [.ref v0, .ref v1, .int y, .int r6]) (fun _ => rfl) (fun x7 => ?_)
        refine r_goto (tgt := 7) (dt_Fram_markTops.at 30 rfl) (by decide) ?_
        exact Rf.msk [true, true, true, false] (ih v0 v1 x7 M5)
      · refine r_iload_n (dt_Fram_markTops.at 17 rfl) rfl ?_
        refine r_aload_n (dt_Fram_markTops.at 18 rfl) rfl ?_
        refine r_aN (dt_Fram_markTops.at 19 rfl) (fun x8 => ?_)
        refine r_icmp_ge (tgt := 45) (dt_Fram_markTops.at 20 rfl) (by decide) ?_ ?_
        · refine r_iincn (v := 1) (dt_Fram_markTops.at 29 rfl) (by decide) rfl (by decide) (fun y => [.ref v0, .ref v1, .int y, .int r6]) (fun _ => rfl) (fun x9 => ?_)
          refine r_goto (tgt := 7) (dt_Fram_markTops.at 30 rfl) (by decide) ?_
          exact Rf.msk [true, true, true, false] (ih v0 v1 x9 M5)
        · refine r_aload_n (dt_Fram_markTops.at 21 rfl) rfl ?_
          refine r_iload_n (dt_Fram_markTops.at 22 rfl) rfl ?_
          refine r_aload_n (dt_Fram_markTops.at 23 rfl) rfl ?_
          refine r_iload_n (dt_Fram_markTops.at 24 rfl) rfl ?_
          refine r_cvI (c := 1) (rest := [.int r6, .ref v1]) (ct_Fram_rowAt v0 v2 _) (dt_Fram_markTops.at 25 rfl) mb_Fram_rowAt wd_1030 wd_1000 wd_1001 rfl (by decide) rfl rfl (Nat.le_of_ble_eq_true rfl) (fun r11 M10 => ?_)
          refine r_iconst (dt_Fram_markTops.at 26 rfl) 1 (by decide) ?_
          refine r_iadd (dt_Fram_markTops.at 27 rfl) ?_
          refine r_tI (dt_Fram_markTops.at 28 rfl) (fun M12 => ?_)
          refine r_iincn (v := 1) (dt_Fram_markTops.at 29 rfl) (by decide) rfl (by decide) (fun y => [.ref v0, .ref v1, .int y, .int r6]) (fun _ => rfl) (fun x13 => ?_)
          refine r_goto (tgt := 7) (dt_Fram_markTops.at 30 rfl) (by decide) ?_
          exact Rf.msk [true, true, true, false] (ih v0 v1 x13 M12)
set_option maxRecDepth 20000 in
set_option maxHeartbeats 2000000 in
theorem ct_Fram_markTops {G : am_G} {l : Launch} (a0 : Nat) (p1 : Nat) (M : am_M) : Ct G l y_Fram_markTops X_Fram_markTops [.ref a0, .ref p1] M (F_Fram_markTops a0 p1 M) := by
  refine Ct.of (by decide +kernel) rfl rfl (Nat.le_of_ble_eq_true rfl) ?_
  unfold F_Fram_markTops
  show Rf G l X_Fram_markTops 0 [.ref a0, .ref p1, .retAddr 0, .retAddr 0] [] M _
  refine r_aload_n (dt_Fram_markTops.at 0 rfl) rfl ?_
  refine r_iconst (dt_Fram_markTops.at 1 rfl) 0 (by decide) ?_
  refine r_csV (rest := []) (ct_Arr_fill p1 0 _) (dt_Fram_markTops.at 2 rfl) mb_Arr_fill wd_976 wd_341 (by decide) rfl rfl (Nat.le_of_ble_eq_true rfl) (fun M1 => ?_)
  refine r_iconst (dt_Fram_markTops.at 3 rfl) 0 (by decide) ?_
  refine r_istore_n (ls' := [.ref a0, .ref p1, .int 0, .retAddr 0]) (dt_Fram_markTops.at 4 rfl) (by decide) rfl ?_
  exact Rf.msk [true, true, true, false] (rf_Fram_markTops_L7 fu a0 p1 0 M1)
set_option maxRecDepth 20000 in
set_option maxHeartbeats 2000000 in
theorem ct_NS_countOfColumn {G : am_G} {l : Launch} (a0 : Nat) (p1 : Int32) (p2 : Int32) (M : am_M) : Ct G l y_NS_countOfColumn X_NS_countOfColumn [.ref a0, .int p1, .int p2] M (F_NS_countOfColumn a0 p1 p2 M) := by
  refine Ct.of (by decide +kernel) rfl rfl (Nat.le_of_ble_eq_true rfl) ?_
  unfold F_NS_countOfColumn
  show Rf G l X_NS_countOfColumn 0 [.ref a0, .int p1, .int p2, .retAddr 0] [] M _
  refine r_iload_n (dt_NS_countOfColumn.at 0 rfl) rfl ?_
  refine r_iload_n (dt_NS_countOfColumn.at 1 rfl) rfl ?_
  refine r_csI (rest := []) (ct_NS_columnAt p1 p2 _) (dt_NS_countOfColumn.at 2 rfl) mb_NS_columnAt wd_1134 wd_1050 (by decide) rfl rfl (Nat.le_of_ble_eq_true rfl) (fun r2 M1 => ?_)
  refine r_istore_n (ls' := [.ref a0, .int p1, .int p2, .int r2]) (dt_NS_countOfColumn.at 3 rfl) (by decide) rfl ?_
  refine r_iload_n (dt_NS_countOfColumn.at 4 rfl) rfl ?_
  refine r_if_lt (tgt := 28) (dt_NS_countOfColumn.at 5 rfl) (by decide) ?_ ?_
  · refine r_iconst (dt_NS_countOfColumn.at 16 rfl) 0 (by decide) ?_
    exact r_iret (dt_NS_countOfColumn.at 17 rfl) rfl
  · refine r_iload_n (dt_NS_countOfColumn.at 6 rfl) rfl ?_
    refine r_aload_n (dt_NS_countOfColumn.at 7 rfl) rfl ?_
    refine r_fR (dt_NS_countOfColumn.at 8 rfl) fl_NS_69 rfl (fun b3 => ?_)
    refine r_aN (dt_NS_countOfColumn.at 9 rfl) (fun x4 => ?_)
    refine r_icmp_ge (tgt := 28) (dt_NS_countOfColumn.at 10 rfl) (by decide) ?_ ?_
    · refine r_iconst (dt_NS_countOfColumn.at 16 rfl) 0 (by decide) ?_
      exact r_iret (dt_NS_countOfColumn.at 17 rfl) rfl
    · refine r_aload_n (dt_NS_countOfColumn.at 11 rfl) rfl ?_
      refine r_fR (dt_NS_countOfColumn.at 12 rfl) fl_NS_69 rfl (fun b5 => ?_)
      refine r_iload_n (dt_NS_countOfColumn.at 13 rfl) rfl ?_
      refine r_aI (dt_NS_countOfColumn.at 14 rfl) (fun x6 => ?_)
      refine r_goto (tgt := 29) (dt_NS_countOfColumn.at 15 rfl) (by decide) ?_
      exact r_iret (dt_NS_countOfColumn.at 17 rfl) rfl
set_option maxRecDepth 20000 in
set_option maxHeartbeats 2000000 in
theorem rf_NS_picture_L48 {G : am_G} {l : Launch} (k34 : Nat → Int32 → am_M → am_R) (hk34 : ∀ v0 v2 M, Rf G l X_NS_picture 34 [.ref v0, .retAddr 0, .int v2, .retAddr 0, .retAddr 0] [] M (k34 v0 v2 M)) : ∀ (n : Nat) (v0 : Nat) (v2 : Int32) (v3 : Int32) (M : am_M), Rf G l X_NS_picture 48 [.ref v0, .retAddr 0, .int v2, .int v3, .retAddr 0] [] M (F_NS_picture_L48 k34 n v0 v2 v3 M) := by
  intro n
  induction n with
  | zero => intro v0 v2 v3 M; exact Rf.no
  | succ n ih =>
    intro v0 v2 v3 M
    unfold F_NS_picture_L48
    refine r_iload_n (dt_NS_picture.at 25 rfl) rfl ?_
    refine r_aload_n (dt_NS_picture.at 26 rfl) rfl ?_
    refine r_fR (dt_NS_picture.at 27 rfl) fl_NS_16 rfl (fun b14 => ?_)
    refine r_iconst (dt_NS_picture.at 28 rfl) 0 (by decide) ?_
    refine r_cvI (c := 5) (rest := [.int v3]) (ct_Scen_cellsAlong b14 0 _) (dt_NS_picture.at 29 rfl) mb_Scen_cellsAlong wd_533 wd_491 wd_492 rfl (by decide) rfl rfl (Nat.le_of_ble_eq_true rfl) (fun r16 M15 => ?_)
    refine r_icmp_ge (tgt := 112) (dt_NS_picture.at 30 rfl) (by decide) ?_ ?_
    · refine r_aload_n (dt_NS_picture.at 56 rfl) rfl ?_
      refine r_fR (dt_NS_picture.at 57 rfl) fl_NS_37 rfl (fun b17 => ?_)
      refine r_bipush (dt_NS_picture.at 58 rfl) 10 (by decide) ?_
      refine r_cvV (c := 3) (rest := []) (ct_Outp_put b17 10 _) (dt_NS_picture.at 59 rfl) mb_Outp_put wd_841 wd_842 wd_843 rfl (by decide) rfl rfl (Nat.le_of_ble_eq_true rfl) (fun M18 => ?_)
      refine r_iincn (v := 1) (dt_NS_picture.at 60 rfl) (by decide) rfl (by decide) (fun y => [.ref v0, .retAddr 0, .int y, .int v3, .retAddr 0]) (fun _ => rfl) (fun x19 => ?_)
      refine r_goto (tgt := 34) (dt_NS_picture.at 61 rfl) (by decide) ?_
      exact Rf.msk [true, false, true, false, false] (hk34 v0 x19 M18)
    · refine r_aload_n (dt_NS_picture.at 31 rfl) rfl ?_
      refine r_iload_n (dt_NS_picture.at 32 rfl) rfl ?_
      refine r_iload_n (dt_NS_picture.at 33 rfl) rfl ?_
      refine r_cvI (c := 8) (rest := []) (ct_NS_countOfColumn v0 v3 v2 _) (dt_NS_picture.at 34 rfl) mb_NS_countOfColumn wd_1130 wd_1132 wp_36 rfl (by decide) rfl rfl (Nat.le_of_ble_eq_true rfl) (fun r21 M20 => ?_)
      refine r_istore (ls' := [.ref v0, .retAddr 0, .int v2, .int v3, .int r21]) (dt_NS_picture.at 35 rfl) (by decide) rfl ?_
      refine r_aload_n (dt_NS_picture.at 36 rfl) rfl ?_
      refine r_fR (dt_NS_picture.at 37 rfl) fl_NS_37 rfl (fun b22 => ?_)
      refine r_iload (dt_NS_picture.at 38 rfl) rfl ?_
      refine r_if_le (tgt := 101) (dt_NS_picture.at 39 rfl) (by decide) ?_ ?_
      · refine r_bipush (dt_NS_picture.at 52 rfl) 46 (by decide) ?_
        refine r_cvV (c := 3) (rest := []) (ct_Outp_put b22 46 _) (dt_NS_picture.at 53 rfl) mb_Outp_put wd_841 wd_842 wd_843 rfl (by decide) rfl rfl (Nat.le_of_ble_eq_true rfl) (fun M23 => ?_)
        refine r_iincn (v := 1) (dt_NS_picture.at 54 rfl) (by decide) rfl (by decide) (fun y => [.ref v0, .retAddr 0, .int v2, .int y, .int r21]) (fun _ => rfl) (fun x24 => ?_)
        refine r_goto (tgt := 48) (dt_NS_picture.at 55 rfl) (by decide) ?_
        exact Rf.msk [true, false, true, true, false] (ih v0 v2 x24 M23)
      · refine r_bipush (dt_NS_picture.at 40 rfl) 48 (by decide) ?_
        refine r_aload_n (dt_NS_picture.at 41 rfl) rfl ?_
        refine r_fR (dt_NS_picture.at 42 rfl) fl_NS_16 rfl (fun b25 => ?_)
        refine r_aload_n (dt_NS_picture.at 43 rfl) rfl ?_
        refine r_fR (dt_NS_picture.at 44 rfl) fl_NS_55 rfl (fun b26 => ?_)
        refine r_iload (dt_NS_picture.at 45 rfl) rfl ?_
        refine r_iconst (dt_NS_picture.at 46 rfl) 1 (by decide) ?_
        refine r_isub (dt_NS_picture.at 47 rfl) ?_
        refine r_cvI (c := 1) (rest := [.ref b25, .int 48, .ref b22]) (ct_Fram_codeOf b26 (r21 - 1) _) (dt_NS_picture.at 48 rfl) mb_Fram_codeOf wd_1003 wd_1004 wd_1005 rfl (by decide) rfl rfl (Nat.le_of_ble_eq_true rfl) (fun r28 M27 => ?_)
        refine r_cvI (c := 5) (rest := [.int 48, .ref b22]) (ct_Scen_colourOf b25 r28 _) (dt_NS_picture.at 49 rfl) mb_Scen_colourOf wd_702 wd_703 wd_704 rfl (by decide) rfl rfl (Nat.le_of_ble_eq_true rfl) (fun r30 M29 => ?_)
        refine r_iadd (dt_NS_picture.at 50 rfl) ?_
        refine r_goto (tgt := 103) (dt_NS_picture.at 51 rfl) (by decide) ?_
        refine r_cvV (c := 3) (rest := []) (ct_Outp_put b22 (48 + r30) _) (dt_NS_picture.at 53 rfl) mb_Outp_put wd_841 wd_842 wd_843 rfl (by decide) rfl rfl (Nat.le_of_ble_eq_true rfl) (fun M31 => ?_)
        refine r_iincn (v := 1) (dt_NS_picture.at 54 rfl) (by decide) rfl (by decide) (fun y => [.ref v0, .retAddr 0, .int v2, .int y, .int r21]) (fun _ => rfl) (fun x32 => ?_)
        refine r_goto (tgt := 48) (dt_NS_picture.at 55 rfl) (by decide) ?_
        exact Rf.msk [true, false, true, true, false] (ih v0 v2 x32 M31)
set_option maxRecDepth 20000 in
set_option maxHeartbeats 2000000 in
theorem rf_NS_picture_L34 {G : am_G} {l : Launch}   : ∀ (n : Nat) (v0 : Nat) (v2 : Int32) (M : am_M), Rf G l X_NS_picture 34 [.ref v0, .retAddr 0, .int v2, .retAddr 0, .retAddr 0] [] M (F_NS_picture_L34 n v0 v2 M) := by
  intro n
  induction n with
  | zero => intro v0 v2 M; exact Rf.no
  | succ n ih =>
    intro v0 v2 M
    unfold F_NS_picture_L34
    refine r_iload_n (dt_NS_picture.at 17 rfl) rfl ?_
    refine r_aload_n (dt_NS_picture.at 18 rfl) rfl ?_
    refine r_fR (dt_NS_picture.at 19 rfl) fl_NS_16 rfl (fun b9 => ?_)
    refine r_iconst (dt_NS_picture.at 20 rfl) 1 (by decide) ?_
    refine r_cvI (c := 5) (rest := [.int v2]) (ct_Scen_cellsAlong b9 1 _) (dt_NS_picture.at 21 rfl) mb_Scen_cellsAlong wd_533 wd_491 wd_492 rfl (by decide) rfl rfl (Nat.le_of_ble_eq_true rfl) (fun r11 M10 => ?_)
    refine r_icmp_ge (tgt := 127) (dt_NS_picture.at 22 rfl) (by decide) ?_ ?_
    · refine r_aload_n (dt_NS_picture.at 62 rfl) rfl ?_
      refine r_fR (dt_NS_picture.at 63 rfl) fl_NS_37 rfl (fun b12 => ?_)
      refine r_fI (dt_NS_picture.at 64 rfl) fl_NS_113 rfl (fun x13 => ?_)
      exact r_iret (dt_NS_picture.at 65 rfl) rfl
    · refine r_iconst (dt_NS_picture.at 23 rfl) 0 (by decide) ?_
      refine r_istore_n (ls' := [.ref v0, .retAddr 0, .int v2, .int 0, .retAddr 0]) (dt_NS_picture.at 24 rfl) (by decide) rfl ?_
      exact Rf.msk [true, false, true, true, false] (rf_NS_picture_L48 (F_NS_picture_L34 n) ih fu v0 v2 0 M10)
set_option maxRecDepth 20000 in
set_option maxHeartbeats 2000000 in
theorem ct_NS_picture {G : am_G} {l : Launch} (a0 : Nat) (p1 : Int32) (M : am_M) : Ct G l y_NS_picture X_NS_picture [.ref a0, .int p1] M (F_NS_picture a0 p1 M) := by
  refine Ct.of (by decide +kernel) rfl rfl (Nat.le_of_ble_eq_true rfl) ?_
  unfold F_NS_picture
  show Rf G l X_NS_picture 0 [.ref a0, .int p1, .retAddr 0, .retAddr 0, .retAddr 0] [] M _
  refine r_aload_n (dt_NS_picture.at 0 rfl) rfl ?_
  refine r_fR (dt_NS_picture.at 1 rfl) fl_NS_55 rfl (fun b1 => ?_)
  refine r_iload_n (dt_NS_picture.at 2 rfl) rfl ?_
  refine r_cvI (c := 1) (rest := []) (ct_Fram_shows b1 p1 _) (dt_NS_picture.at 3 rfl) mb_Fram_shows wd_942 wd_943 wd_944 rfl (by decide) rfl rfl (Nat.le_of_ble_eq_true rfl) (fun r3 M2 => ?_)
  refine r_if_ne (tgt := 14) (dt_NS_picture.at 4 rfl) (by decide) ?_ ?_
  · refine r_bipush (dt_NS_picture.at 5 rfl) (-2) (by decide) ?_
    exact r_iret (dt_NS_picture.at 6 rfl) rfl
  · refine r_aload_n (dt_NS_picture.at 7 rfl) rfl ?_
    refine r_fR (dt_NS_picture.at 8 rfl) fl_NS_55 rfl (fun b4 => ?_)
    refine r_aload_n (dt_NS_picture.at 9 rfl) rfl ?_
    refine r_fR (dt_NS_picture.at 10 rfl) fl_NS_69 rfl (fun b5 => ?_)
    refine r_cvV (c := 1) (rest := []) (ct_Fram_markTops b4 b5 _) (dt_NS_picture.at 11 rfl) mb_Fram_markTops wd_1126 wd_1127 wd_1128 rfl (by decide) rfl rfl (Nat.le_of_ble_eq_true rfl) (fun M6 => ?_)
    refine r_aload_n (dt_NS_picture.at 12 rfl) rfl ?_
    refine r_fR (dt_NS_picture.at 13 rfl) fl_NS_37 rfl (fun b7 => ?_)
    refine r_cvV (c := 3) (rest := []) (ct_Outp_clear b7 _) (dt_NS_picture.at 14 rfl) mb_Outp_clear wd_837 wd_838 wd_839 rfl (by decide) rfl rfl (Nat.le_of_ble_eq_true rfl) (fun M8 => ?_)
    refine r_iconst (dt_NS_picture.at 15 rfl) 0 (by decide) ?_
    refine r_istore_n (ls' := [.ref a0, .int p1, .int 0, .retAddr 0, .retAddr 0]) (dt_NS_picture.at 16 rfl) (by decide) rfl ?_
    exact Rf.msk [true, false, true, false, false] (rf_NS_picture_L34 fu a0 0 M8)
set_option maxRecDepth 20000 in
set_option maxHeartbeats 2000000 in
theorem rf_Fram_countLayer_L7 {G : am_G} {l : Launch}   : ∀ (n : Nat) (v0 : Nat) (v1 : Int32) (v2 : Nat) (v3 : Int32) (M : am_M), Rf G l X_Fram_countLayer 7 [.ref v0, .int v1, .ref v2, .int v3, .retAddr 0] [] M (F_Fram_countLayer_L7 n v0 v1 v2 v3 M) := by
  intro n
  induction n with
  | zero => intro v0 v1 v2 v3 M; exact Rf.no
  | succ n ih =>
    intro v0 v1 v2 v3 M
    unfold F_Fram_countLayer_L7
    refine r_iload_n (dt_Fram_countLayer.at 5 rfl) rfl ?_
    refine r_aload_n (dt_Fram_countLayer.at 6 rfl) rfl ?_
    refine r_fI (dt_Fram_countLayer.at 7 rfl) fl_Fram_43 rfl (fun x2 => ?_)
    refine r_icmp_ge (tgt := 57) (dt_Fram_countLayer.at 8 rfl) (by decide) ?_ ?_
    · exact r_vret (dt_Fram_countLayer.at 33 rfl) rfl
    · refine r_aload_n (dt_Fram_countLayer.at 9 rfl) rfl ?_
      refine r_iload_n (dt_Fram_countLayer.at 10 rfl) rfl ?_
      refine r_cvI (c := 1) (rest := []) (ct_Fram_columnOf v0 v3 _) (dt_Fram_countLayer.at 11 rfl) mb_Fram_columnOf wd_1045 wd_1047 wp_33 rfl (by decide) rfl rfl (Nat.le_of_ble_eq_true rfl) (fun r4 M3 => ?_)
      refine r_istore (ls' := [.ref v0, .int v1, .ref v2, .int v3, .int r4]) (dt_Fram_countLayer.at 12 rfl) (by decide) rfl ?_
      refine r_aload_n (dt_Fram_countLayer.at 13 rfl) rfl ?_
      refine r_iload_n (dt_Fram_countLayer.at 14 rfl) rfl ?_
      refine r_cvI (c := 1) (rest := []) (ct_Fram_layerOf v0 v3 _) (dt_Fram_countLayer.at 15 rfl) mb_Fram_layerOf wd_1082 wd_1084 wp_34 rfl (by decide) rfl rfl (Nat.le_of_ble_eq_true rfl) (fun r6 M5 => ?_)
      refine r_iload_n (dt_Fram_countLayer.at 16 rfl) rfl ?_
      refine r_icmp_ne (tgt := 51) (dt_Fram_countLayer.at 17 rfl) (by decide) ?_ ?_
      · refine r_iload (dt_Fram_countLayer.at 18 rfl) rfl ?_
        refine r_if_lt (tgt := 51) (dt_Fram_countLayer.at 19 rfl) (by decide) ?_ ?_
        · refine r_iincn (v := 1) (dt_Fram_countLayer.at 31 rfl) (by decide) rfl (by decide) (fun y => [.ref v0, .int v1, .ref v2, .int y, .int r4]) (fun _ => rfl) (fun x7 => ?_)
          refine r_goto (tgt := 7) (dt_Fram_countLayer.at 32 rfl) (by decide) ?_
          exact Rf.msk [true, true, true, true, false] (ih v0 v1 v2 x7 M5)
        · refine r_iload (dt_Fram_countLayer.at 20 rfl) rfl ?_
          refine r_aload_n (dt_Fram_countLayer.at 21 rfl) rfl ?_
          refine r_aN (dt_Fram_countLayer.at 22 rfl) (fun x8 => ?_)
          refine r_icmp_ge (tgt := 51) (dt_Fram_countLayer.at 23 rfl) (by decide) ?_ ?_
          · refine r_iincn (v := 1) (dt_Fram_countLayer.at 31 rfl) (by decide) rfl (by decide) (fun y => [.ref v0, .int v1, .ref v2, .int y, .int r4]) (fun _ => rfl) (fun x9 => ?_)
            refine r_goto (tgt := 7) (dt_Fram_countLayer.at 32 rfl) (by decide) ?_
            exact Rf.msk [true, true, true, true, false] (ih v0 v1 v2 x9 M5)
          · refine r_aload_n (dt_Fram_countLayer.at 24 rfl) rfl ?_
            refine r_iload (dt_Fram_countLayer.at 25 rfl) rfl ?_
            refine r_dup2 (dt_Fram_countLayer.at 26 rfl) rfl rfl ?_
            refine r_aI (dt_Fram_countLayer.at 27 rfl) (fun x10 => ?_)
            refine r_iconst (dt_Fram_countLayer.at 28 rfl) 1 (by decide) ?_
            refine r_iadd (dt_Fram_countLayer.at 29 rfl) ?_
            refine r_tI (dt_Fram_countLayer.at 30 rfl) (fun M11 => ?_)
            refine r_iincn (v := 1) (dt_Fram_countLayer.at 31 rfl) (by decide) rfl (by decide) (fun y => [.ref v0, .int v1, .ref v2, .int y, .int r4]) (fun _ => rfl) (fun x12 => ?_)
            refine r_goto (tgt := 7) (dt_Fram_countLayer.at 32 rfl) (by decide) ?_
            exact Rf.msk [true, true, true, true, false] (ih v0 v1 v2 x12 M11)
      · refine r_iincn (v := 1) (dt_Fram_countLayer.at 31 rfl) (by decide) rfl (by decide) (fun y => [.ref v0, .int v1, .ref v2, .int y, .int r4]) (fun _ => rfl) (fun x13 => ?_)
        refine r_goto (tgt := 7) (dt_Fram_countLayer.at 32 rfl) (by decide) ?_
        exact Rf.msk [true, true, true, true, false] (ih v0 v1 v2 x13 M5)
set_option maxRecDepth 20000 in
set_option maxHeartbeats 2000000 in
theorem ct_Fram_countLayer {G : am_G} {l : Launch} (a0 : Nat) (p1 : Int32) (p2 : Nat) (M : am_M) : Ct G l y_Fram_countLayer X_Fram_countLayer [.ref a0, .int p1, .ref p2] M (F_Fram_countLayer a0 p1 p2 M) := by
  refine Ct.of (by decide +kernel) rfl rfl (Nat.le_of_ble_eq_true rfl) ?_
  unfold F_Fram_countLayer
  show Rf G l X_Fram_countLayer 0 [.ref a0, .int p1, .ref p2, .retAddr 0, .retAddr 0] [] M _
  refine r_aload_n (dt_Fram_countLayer.at 0 rfl) rfl ?_
  refine r_iconst (dt_Fram_countLayer.at 1 rfl) 0 (by decide) ?_
  refine r_csV (rest := []) (ct_Arr_fill p2 0 _) (dt_Fram_countLayer.at 2 rfl) mb_Arr_fill wd_976 wd_341 (by decide) rfl rfl (Nat.le_of_ble_eq_true rfl) (fun M1 => ?_)
  refine r_iconst (dt_Fram_countLayer.at 3 rfl) 0 (by decide) ?_
  refine r_istore_n (ls' := [.ref a0, .int p1, .ref p2, .int 0, .retAddr 0]) (dt_Fram_countLayer.at 4 rfl) (by decide) rfl ?_
  exact Rf.msk [true, true, true, true, false] (rf_Fram_countLayer_L7 fu a0 p1 p2 0 M1)
