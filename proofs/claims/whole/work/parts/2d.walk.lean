/-! ===== the walks, row by row (printed by wip/whole/emit.py) ===== -/
set_option maxRecDepth 20000 in
set_option maxHeartbeats 2000000 in
theorem rf_Walk_startWithRoot_L30 {G : am_G} {l : Launch} (k10 : Nat → Int32 → Int32 → Int32 → am_M → am_R) (hk10 : ∀ v0 v1 v2 v3 M, Rf G l X_Walk_startWithRoot 10 [.ref v0, .int v1, .int v2, .int v3] [] M (k10 v0 v1 v2 v3 M)) (v0 : Nat) (v1 : Int32) (v2 : Int32) (v3 : Int32) (s0 : Nat) (s1 : Int32) (s2 : Int32) (M : am_M) : Rf G l X_Walk_startWithRoot 30 [.ref v0, .int v1, .int v2, .int v3] [.int s2, .int s1, .ref s0] M (F_Walk_startWithRoot_L30 k10 v0 v1 v2 v3 s0 s1 s2 M) := by
  unfold F_Walk_startWithRoot_L30
  refine r_tI (dt_Walk_startWithRoot.at 18 rfl) (fun M3 => ?_)
  refine r_aload_n (dt_Walk_startWithRoot.at 19 rfl) rfl ?_
  refine r_fR (dt_Walk_startWithRoot.at 20 rfl) fl_Walk_24 rfl (fun b4 => ?_)
  refine r_iload_n (dt_Walk_startWithRoot.at 21 rfl) rfl ?_
  refine r_iload_n (dt_Walk_startWithRoot.at 22 rfl) rfl ?_
  refine r_iload_n (dt_Walk_startWithRoot.at 23 rfl) rfl ?_
  refine r_icmp_ne (tgt := 47) (dt_Walk_startWithRoot.at 24 rfl) (by decide) ?_ ?_
  · refine r_iload_n (dt_Walk_startWithRoot.at 25 rfl) rfl ?_
    refine r_iconst (dt_Walk_startWithRoot.at 26 rfl) 1 (by decide) ?_
    refine r_iadd (dt_Walk_startWithRoot.at 27 rfl) ?_
    refine r_goto (tgt := 48) (dt_Walk_startWithRoot.at 28 rfl) (by decide) ?_
    refine r_tI (dt_Walk_startWithRoot.at 30 rfl) (fun M5 => ?_)
    refine r_iincn (v := 1) (dt_Walk_startWithRoot.at 31 rfl) (by decide) rfl (by decide) (fun y => [.ref v0, .int v1, .int v2, .int y]) (fun _ => rfl) (fun x6 => ?_)
    refine r_goto (tgt := 10) (dt_Walk_startWithRoot.at 32 rfl) (by decide) ?_
    exact Rf.msk [true, true, true, true] (hk10 v0 v1 v2 x6 M5)
  · refine r_iconst (dt_Walk_startWithRoot.at 29 rfl) 0 (by decide) ?_
    refine r_tI (dt_Walk_startWithRoot.at 30 rfl) (fun M7 => ?_)
    refine r_iincn (v := 1) (dt_Walk_startWithRoot.at 31 rfl) (by decide) rfl (by decide) (fun y => [.ref v0, .int v1, .int v2, .int y]) (fun _ => rfl) (fun x8 => ?_)
    refine r_goto (tgt := 10) (dt_Walk_startWithRoot.at 32 rfl) (by decide) ?_
    exact Rf.msk [true, true, true, true] (hk10 v0 v1 v2 x8 M7)
set_option maxRecDepth 20000 in
set_option maxHeartbeats 2000000 in
theorem rf_Walk_startWithRoot_L10 {G : am_G} {l : Launch}   : ∀ (n : Nat) (v0 : Nat) (v1 : Int32) (v2 : Int32) (v3 : Int32) (M : am_M), Rf G l X_Walk_startWithRoot 10 [.ref v0, .int v1, .int v2, .int v3] [] M (F_Walk_startWithRoot_L10 n v0 v1 v2 v3 M) := by
  intro n
  induction n with
  | zero => intro v0 v1 v2 v3 M; exact Rf.no
  | succ n ih =>
    intro v0 v1 v2 v3 M
    unfold F_Walk_startWithRoot_L10
    refine r_iload_n (dt_Walk_startWithRoot.at 6 rfl) rfl ?_
    refine r_iconst (dt_Walk_startWithRoot.at 7 rfl) 4 (by decide) ?_
    refine r_icmp_ge (tgt := 55) (dt_Walk_startWithRoot.at 8 rfl) (by decide) ?_ ?_
    · exact r_vret (dt_Walk_startWithRoot.at 33 rfl) rfl
    · refine r_aload_n (dt_Walk_startWithRoot.at 9 rfl) rfl ?_
      refine r_fR (dt_Walk_startWithRoot.at 10 rfl) fl_Walk_21 rfl (fun b2 => ?_)
      refine r_iload_n (dt_Walk_startWithRoot.at 11 rfl) rfl ?_
      refine r_iload_n (dt_Walk_startWithRoot.at 12 rfl) rfl ?_
      refine r_iload_n (dt_Walk_startWithRoot.at 13 rfl) rfl ?_
      refine r_icmp_ne (tgt := 29) (dt_Walk_startWithRoot.at 14 rfl) (by decide) ?_ ?_
      · refine r_iload_n (dt_Walk_startWithRoot.at 15 rfl) rfl ?_
        refine r_goto (tgt := 30) (dt_Walk_startWithRoot.at 16 rfl) (by decide) ?_
        exact Rf.msk [true, true, true, true] (rf_Walk_startWithRoot_L30 (F_Walk_startWithRoot_L10 n) ih v0 v1 v2 v3 b2 v3 v2 M)
      · refine r_iconst (dt_Walk_startWithRoot.at 17 rfl) 0 (by decide) ?_
        exact Rf.msk [true, true, true, true] (rf_Walk_startWithRoot_L30 (F_Walk_startWithRoot_L10 n) ih v0 v1 v2 v3 b2 v3 0 M)
set_option maxRecDepth 20000 in
set_option maxHeartbeats 2000000 in
theorem ct_Walk_startWithRoot {G : am_G} {l : Launch} (a0 : Nat) (p1 : Int32) (p2 : Int32) (M : am_M) : Ct G l y_Walk_startWithRoot X_Walk_startWithRoot [.ref a0, .int p1, .int p2] M (F_Walk_startWithRoot a0 p1 p2 M) := by
  refine Ct.of (by decide +kernel) rfl rfl (Nat.le_of_ble_eq_true rfl) ?_
  unfold F_Walk_startWithRoot
  show Rf G l X_Walk_startWithRoot 0 [.ref a0, .int p1, .int p2, .retAddr 0] [] M _
  refine r_aload_n (dt_Walk_startWithRoot.at 0 rfl) rfl ?_
  refine r_iconst (dt_Walk_startWithRoot.at 1 rfl) 0 (by decide) ?_
  refine r_sipush (dt_Walk_startWithRoot.at 2 rfl) 30001 (by decide) ?_
  refine r_cvV (c := 7) (rest := []) (ct_Walk_start a0 0 30001 _) (dt_Walk_startWithRoot.at 3 rfl) mb_Walk_start wd_782 wd_783 wd_784 rfl (by decide) rfl rfl (Nat.le_of_ble_eq_true rfl) (fun M1 => ?_)
  refine r_iconst (dt_Walk_startWithRoot.at 4 rfl) 0 (by decide) ?_
  refine r_istore_n (ls' := [.ref a0, .int p1, .int p2, .int 0]) (dt_Walk_startWithRoot.at 5 rfl) (by decide) rfl ?_
  exact Rf.msk [true, true, true, true] (rf_Walk_startWithRoot_L10 fu a0 p1 p2 0 M1)
set_option maxRecDepth 20000 in
set_option maxHeartbeats 2000000 in
theorem rf_Walk_sourceOfLeastRoot_L4 {G : am_G} {l : Launch}   : ∀ (n : Nat) (v0 : Nat) (v1 : Int32) (v2 : Int32) (M : am_M), Rf G l X_Walk_sourceOfLeastRoot 4 [.ref v0, .int v1, .int v2] [] M (F_Walk_sourceOfLeastRoot_L4 n v0 v1 v2 M) := by
  intro n
  induction n with
  | zero => intro v0 v1 v2 M; exact Rf.no
  | succ n ih =>
    intro v0 v1 v2 M
    unfold F_Walk_sourceOfLeastRoot_L4
    refine r_iload_n (dt_Walk_sourceOfLeastRoot.at 4 rfl) rfl ?_
    refine r_iconst (dt_Walk_sourceOfLeastRoot.at 5 rfl) 4 (by decide) ?_
    refine r_icmp_ge (tgt := 52) (dt_Walk_sourceOfLeastRoot.at 6 rfl) (by decide) ?_ ?_
    · refine r_iload_n (dt_Walk_sourceOfLeastRoot.at 32 rfl) rfl ?_
      exact r_iret (dt_Walk_sourceOfLeastRoot.at 33 rfl) rfl
    · refine r_aload_n (dt_Walk_sourceOfLeastRoot.at 7 rfl) rfl ?_
      refine r_fR (dt_Walk_sourceOfLeastRoot.at 8 rfl) fl_Walk_21 rfl (fun b1 => ?_)
      refine r_iload_n (dt_Walk_sourceOfLeastRoot.at 9 rfl) rfl ?_
      refine r_aI (dt_Walk_sourceOfLeastRoot.at 10 rfl) (fun x2 => ?_)
      refine r_aload_n (dt_Walk_sourceOfLeastRoot.at 11 rfl) rfl ?_
      refine r_fR (dt_Walk_sourceOfLeastRoot.at 12 rfl) fl_Walk_24 rfl (fun b3 => ?_)
      refine r_iload_n (dt_Walk_sourceOfLeastRoot.at 13 rfl) rfl ?_
      refine r_aI (dt_Walk_sourceOfLeastRoot.at 14 rfl) (fun x4 => ?_)
      refine r_icmp_ge (tgt := 46) (dt_Walk_sourceOfLeastRoot.at 15 rfl) (by decide) ?_ ?_
      · refine r_iincn (v := 1) (dt_Walk_sourceOfLeastRoot.at 30 rfl) (by decide) rfl (by decide) (fun y => [.ref v0, .int v1, .int y]) (fun _ => rfl) (fun x5 => ?_)
        refine r_goto (tgt := 4) (dt_Walk_sourceOfLeastRoot.at 31 rfl) (by decide) ?_
        exact Rf.msk [true, true, true] (ih v0 v1 x5 M)
      · refine r_iload_n (dt_Walk_sourceOfLeastRoot.at 16 rfl) rfl ?_
        refine r_iconst (dt_Walk_sourceOfLeastRoot.at 17 rfl) (-1) (by decide) ?_
        refine r_icmp_eq (tgt := 44) (dt_Walk_sourceOfLeastRoot.at 18 rfl) (by decide) ?_ ?_
        · refine r_iload_n (dt_Walk_sourceOfLeastRoot.at 28 rfl) rfl ?_
          refine r_istore_n (ls' := [.ref v0, .int v2, .int v2]) (dt_Walk_sourceOfLeastRoot.at 29 rfl) (by decide) rfl ?_
          refine r_iincn (v := 1) (dt_Walk_sourceOfLeastRoot.at 30 rfl) (by decide) rfl (by decide) (fun y => [.ref v0, .int v2, .int y]) (fun _ => rfl) (fun x6 => ?_)
          refine r_goto (tgt := 4) (dt_Walk_sourceOfLeastRoot.at 31 rfl) (by decide) ?_
          exact Rf.msk [true, true, true] (ih v0 v2 x6 M)
        · refine r_aload_n (dt_Walk_sourceOfLeastRoot.at 19 rfl) rfl ?_
          refine r_fR (dt_Walk_sourceOfLeastRoot.at 20 rfl) fl_Walk_21 rfl (fun b7 => ?_)
          refine r_iload_n (dt_Walk_sourceOfLeastRoot.at 21 rfl) rfl ?_
          refine r_aI (dt_Walk_sourceOfLeastRoot.at 22 rfl) (fun x8 => ?_)
          refine r_aload_n (dt_Walk_sourceOfLeastRoot.at 23 rfl) rfl ?_
          refine r_fR (dt_Walk_sourceOfLeastRoot.at 24 rfl) fl_Walk_21 rfl (fun b9 => ?_)
          refine r_iload_n (dt_Walk_sourceOfLeastRoot.at 25 rfl) rfl ?_
          refine r_aI (dt_Walk_sourceOfLeastRoot.at 26 rfl) (fun x10 => ?_)
          refine r_icmp_ge (tgt := 46) (dt_Walk_sourceOfLeastRoot.at 27 rfl) (by decide) ?_ ?_
          · refine r_iincn (v := 1) (dt_Walk_sourceOfLeastRoot.at 30 rfl) (by decide) rfl (by decide) (fun y => [.ref v0, .int v1, .int y]) (fun _ => rfl) (fun x11 => ?_)
            refine r_goto (tgt := 4) (dt_Walk_sourceOfLeastRoot.at 31 rfl) (by decide) ?_
            exact Rf.msk [true, true, true] (ih v0 v1 x11 M)
          · refine r_iload_n (dt_Walk_sourceOfLeastRoot.at 28 rfl) rfl ?_
            refine r_istore_n (ls' := [.ref v0, .int v2, .int v2]) (dt_Walk_sourceOfLeastRoot.at 29 rfl) (by decide) rfl ?_
            refine r_iincn (v := 1) (dt_Walk_sourceOfLeastRoot.at 30 rfl) (by decide) rfl (by decide) (fun y => [.ref v0, .int v2, .int y]) (fun _ => rfl) (fun x12 => ?_)
            refine r_goto (tgt := 4) (dt_Walk_sourceOfLeastRoot.at 31 rfl) (by decide) ?_
            exact Rf.msk [true, true, true] (ih v0 v2 x12 M)
set_option maxRecDepth 20000 in
set_option maxHeartbeats 2000000 in
theorem ct_Walk_sourceOfLeastRoot {G : am_G} {l : Launch} (a0 : Nat) (M : am_M) : Ct G l y_Walk_sourceOfLeastRoot X_Walk_sourceOfLeastRoot [.ref a0] M (F_Walk_sourceOfLeastRoot a0 M) := by
  refine Ct.of (by decide +kernel) rfl rfl (Nat.le_of_ble_eq_true rfl) ?_
  unfold F_Walk_sourceOfLeastRoot
  show Rf G l X_Walk_sourceOfLeastRoot 0 [.ref a0, .retAddr 0, .retAddr 0] [] M _
  refine r_iconst (dt_Walk_sourceOfLeastRoot.at 0 rfl) (-1) (by decide) ?_
  refine r_istore_n (ls' := [.ref a0, .int (-1), .retAddr 0]) (dt_Walk_sourceOfLeastRoot.at 1 rfl) (by decide) rfl ?_
  refine r_iconst (dt_Walk_sourceOfLeastRoot.at 2 rfl) 0 (by decide) ?_
  refine r_istore_n (ls' := [.ref a0, .int (-1), .int 0]) (dt_Walk_sourceOfLeastRoot.at 3 rfl) (by decide) rfl ?_
  exact Rf.msk [true, true, true] (rf_Walk_sourceOfLeastRoot_L4 fu a0 (-1) 0 M)
set_option maxRecDepth 20000 in
set_option maxHeartbeats 2000000 in
theorem ct_Walk_isOutside {G : am_G} {l : Launch} (a0 : Nat) (p1 : Nat) (M : am_M) : Ct G l y_Walk_isOutside X_Walk_isOutside [.ref a0, .ref p1] M (F_Walk_isOutside a0 p1 M) := by
  refine Ct.of (by decide +kernel) rfl rfl (Nat.le_of_ble_eq_true rfl) ?_
  unfold F_Walk_isOutside
  show Rf G l X_Walk_isOutside 0 [.ref a0, .ref p1] [] M _
  refine r_aload_n (dt_Walk_isOutside.at 0 rfl) rfl ?_
  refine r_fI (dt_Walk_isOutside.at 1 rfl) fl_Walk_112 rfl (fun x1 => ?_)
  refine r_aload_n (dt_Walk_isOutside.at 2 rfl) rfl ?_
  refine r_fI (dt_Walk_isOutside.at 3 rfl) fl_Walk_41 rfl (fun x2 => ?_)
  refine r_icmp_ge (tgt := 35) (dt_Walk_isOutside.at 4 rfl) (by decide) ?_ ?_
  · refine r_iconst (dt_Walk_isOutside.at 17 rfl) 1 (by decide) ?_
    refine r_goto (tgt := 40) (dt_Walk_isOutside.at 18 rfl) (by decide) ?_
    exact r_zret (dt_Walk_isOutside.at 20 rfl) rfl rfl
  · refine r_aload_n (dt_Walk_isOutside.at 5 rfl) rfl ?_
    refine r_fI (dt_Walk_isOutside.at 6 rfl) fl_Walk_115 rfl (fun x3 => ?_)
    refine r_aload_n (dt_Walk_isOutside.at 7 rfl) rfl ?_
    refine r_aload_n (dt_Walk_isOutside.at 8 rfl) rfl ?_
    refine r_fI (dt_Walk_isOutside.at 9 rfl) fl_Walk_118 rfl (fun x4 => ?_)
    refine r_aload_n (dt_Walk_isOutside.at 10 rfl) rfl ?_
    refine r_fI (dt_Walk_isOutside.at 11 rfl) fl_Walk_101 rfl (fun x5 => ?_)
    refine r_cvI (c := 7) (rest := [.int x3]) (ct_Walk_spanBehind a0 x4 x5 _) (dt_Walk_isOutside.at 12 rfl) mb_Walk_spanBehind wd_791 wd_793 wp_20 rfl (by decide) rfl rfl (Nat.le_of_ble_eq_true rfl) (fun r7 M6 => ?_)
    refine r_iadd (dt_Walk_isOutside.at 13 rfl) ?_
    refine r_aload_n (dt_Walk_isOutside.at 14 rfl) rfl ?_
    refine r_fI (dt_Walk_isOutside.at 15 rfl) fl_Walk_37 rfl (fun x8 => ?_)
    refine r_icmp_gt (tgt := 39) (dt_Walk_isOutside.at 16 rfl) (by decide) ?_ ?_
    · refine r_iconst (dt_Walk_isOutside.at 19 rfl) 0 (by decide) ?_
      exact r_zret (dt_Walk_isOutside.at 20 rfl) rfl rfl
    · refine r_iconst (dt_Walk_isOutside.at 17 rfl) 1 (by decide) ?_
      refine r_goto (tgt := 40) (dt_Walk_isOutside.at 18 rfl) (by decide) ?_
      exact r_zret (dt_Walk_isOutside.at 20 rfl) rfl rfl
set_option maxRecDepth 20000 in
set_option maxHeartbeats 2000000 in
theorem ct_Walk_show {G : am_G} {l : Launch} (a0 : Nat) (p1 : Int32) (M : am_M) : Ct G l y_Walk_show X_Walk_show [.ref a0, .int p1] M (F_Walk_show a0 p1 M) := by
  refine Ct.of (by decide +kernel) rfl rfl (Nat.le_of_ble_eq_true rfl) ?_
  unfold F_Walk_show
  show Rf G l X_Walk_show 0 [.ref a0, .int p1] [] M _
  refine r_iload_n (dt_Walk_show.at 0 rfl) rfl ?_
  refine r_if_lt (tgt := 26) (dt_Walk_show.at 1 rfl) (by decide) ?_ ?_
  · exact r_vret (dt_Walk_show.at 12 rfl) rfl
  · refine r_iload_n (dt_Walk_show.at 2 rfl) rfl ?_
    refine r_bipush (dt_Walk_show.at 3 rfl) 7 (by decide) ?_
    refine r_icmp_ge (tgt := 26) (dt_Walk_show.at 4 rfl) (by decide) ?_ ?_
    · exact r_vret (dt_Walk_show.at 12 rfl) rfl
    · refine r_aload_n (dt_Walk_show.at 5 rfl) rfl ?_
      refine r_fI (dt_Walk_show.at 6 rfl) fl_Walk_76 rfl (fun x1 => ?_)
      refine r_if_lt (tgt := 26) (dt_Walk_show.at 7 rfl) (by decide) ?_ ?_
      · exact r_vret (dt_Walk_show.at 12 rfl) rfl
      · refine r_aload_n (dt_Walk_show.at 8 rfl) rfl ?_
        refine r_fI (dt_Walk_show.at 9 rfl) fl_Walk_76 rfl (fun x2 => ?_)
        refine r_bipush (dt_Walk_show.at 10 rfl) 7 (by decide) ?_
        refine r_icmp_lt (tgt := 27) (dt_Walk_show.at 11 rfl) (by decide) ?_ ?_
        · refine r_aload_n (dt_Walk_show.at 13 rfl) rfl ?_
          refine r_fR (dt_Walk_show.at 14 rfl) fl_Walk_11 rfl (fun b3 => ?_)
          refine r_iload_n (dt_Walk_show.at 15 rfl) rfl ?_
          refine r_aR (dt_Walk_show.at 16 rfl) (fun b4 => ?_)
          refine r_fI (dt_Walk_show.at 17 rfl) fl_Walk_112 rfl (fun x5 => ?_)
          refine r_aload_n (dt_Walk_show.at 18 rfl) rfl ?_
          refine r_fI (dt_Walk_show.at 19 rfl) fl_Walk_41 rfl (fun x6 => ?_)
          refine r_icmp_ge (tgt := 79) (dt_Walk_show.at 20 rfl) (by decide) ?_ ?_
          · exact r_vret (dt_Walk_show.at 41 rfl) rfl
          · refine r_aload_n (dt_Walk_show.at 21 rfl) rfl ?_
            refine r_fR (dt_Walk_show.at 22 rfl) fl_Walk_11 rfl (fun b7 => ?_)
            refine r_iload_n (dt_Walk_show.at 23 rfl) rfl ?_
            refine r_aR (dt_Walk_show.at 24 rfl) (fun b8 => ?_)
            refine r_fI (dt_Walk_show.at 25 rfl) fl_Walk_115 rfl (fun x9 => ?_)
            refine r_aload_n (dt_Walk_show.at 26 rfl) rfl ?_
            refine r_fI (dt_Walk_show.at 27 rfl) fl_Walk_37 rfl (fun x10 => ?_)
            refine r_icmp_le (tgt := 79) (dt_Walk_show.at 28 rfl) (by decide) ?_ ?_
            · exact r_vret (dt_Walk_show.at 41 rfl) rfl
            · refine r_aload_n (dt_Walk_show.at 29 rfl) rfl ?_
              refine r_fR (dt_Walk_show.at 30 rfl) fl_Walk_17 rfl (fun b11 => ?_)
              refine r_aload_n (dt_Walk_show.at 31 rfl) rfl ?_
              refine r_fI (dt_Walk_show.at 32 rfl) fl_Walk_76 rfl (fun x12 => ?_)
              refine r_iload_n (dt_Walk_show.at 33 rfl) rfl ?_
              refine r_tI (dt_Walk_show.at 34 rfl) (fun M13 => ?_)
              refine r_aload_n (dt_Walk_show.at 35 rfl) rfl ?_
              refine r_dup (dt_Walk_show.at 36 rfl) rfl ?_
              refine r_fI (dt_Walk_show.at 37 rfl) fl_Walk_76 rfl (fun x14 => ?_)
              refine r_iconst (dt_Walk_show.at 38 rfl) 1 (by decide) ?_
              refine r_iadd (dt_Walk_show.at 39 rfl) ?_
              refine r_sI (dt_Walk_show.at 40 rfl) fl_Walk_76 rfl rfl rfl (fun M15 => ?_)
              exact r_vret (dt_Walk_show.at 41 rfl) rfl
        · exact r_vret (dt_Walk_show.at 12 rfl) rfl
set_option maxRecDepth 20000 in
set_option maxHeartbeats 2000000 in
theorem rf_Walk_stepChild_L67 {G : am_G} {l : Launch}   : ∀ (n : Nat) (v0 : Nat) (v3 : Int32) (v4 : Nat) (v5 : Int32) (v6 : Int32) (M : am_M), Rf G l X_Walk_stepChild 67 [.ref v0, .retAddr 0, .retAddr 0, .int v3, .ref v4, .int v5, .int v6, .retAddr 0] [] M (F_Walk_stepChild_L67 n v0 v3 v4 v5 v6 M) := by
  intro n
  induction n with
  | zero => intro v0 v3 v4 v5 v6 M; exact Rf.no
  | succ n ih =>
    intro v0 v3 v4 v5 v6 M
    unfold F_Walk_stepChild_L67
    refine r_iload (dt_Walk_stepChild.at 36 rfl) rfl ?_
    refine r_iload (dt_Walk_stepChild.at 37 rfl) rfl ?_
    refine r_icmp_ge (tgt := 132) (dt_Walk_stepChild.at 38 rfl) (by decide) ?_ ?_
    · exact r_vret (dt_Walk_stepChild.at 70 rfl) rfl
    · refine r_iload (dt_Walk_stepChild.at 39 rfl) rfl ?_
      refine r_iconst (dt_Walk_stepChild.at 40 rfl) 2 (by decide) ?_
      refine r_icmp_ge (tgt := 132) (dt_Walk_stepChild.at 41 rfl) (by decide) ?_ ?_
      · exact r_vret (dt_Walk_stepChild.at 70 rfl) rfl
      · refine r_aload_n (dt_Walk_stepChild.at 42 rfl) rfl ?_
        refine r_fR (dt_Walk_stepChild.at 43 rfl) fl_Walk_11 rfl (fun b12 => ?_)
        refine r_iload_n (dt_Walk_stepChild.at 44 rfl) rfl ?_
        refine r_iconst (dt_Walk_stepChild.at 45 rfl) 1 (by decide) ?_
        refine r_iadd (dt_Walk_stepChild.at 46 rfl) ?_
        refine r_iload (dt_Walk_stepChild.at 47 rfl) rfl ?_
        refine r_iadd (dt_Walk_stepChild.at 48 rfl) ?_
        refine r_aR (dt_Walk_stepChild.at 49 rfl) (fun b13 => ?_)
        refine r_astore (ls' := [.ref v0, .retAddr 0, .retAddr 0, .int v3, .ref v4, .int v5, .int v6, .ref b13]) (dt_Walk_stepChild.at 50 rfl) (by decide) rfl ?_
        refine r_aload (dt_Walk_stepChild.at 51 rfl) rfl ?_
        refine r_aload (dt_Walk_stepChild.at 52 rfl) rfl ?_
        refine r_iload (dt_Walk_stepChild.at 53 rfl) rfl ?_
        refine r_cvV (c := 6) (rest := []) (ct_Sprk_beginAsChild b13 v4 v6 _) (dt_Walk_stepChild.at 54 rfl) mb_Sprk_beginAsChild wd_825 wd_685 wd_686 rfl (by decide) rfl rfl (Nat.le_of_ble_eq_true rfl) (fun M14 => ?_)
        refine r_aload_n (dt_Walk_stepChild.at 55 rfl) rfl ?_
        refine r_aload (dt_Walk_stepChild.at 56 rfl) rfl ?_
        refine r_cvI (c := 7) (rest := []) (ct_Walk_isOutside v0 b13 _) (dt_Walk_stepChild.at 57 rfl) mb_Walk_isOutside wd_812 wd_814 wp_23 rfl (by decide) rfl rfl (Nat.le_of_ble_eq_true rfl) (fun r16 M15 => ?_)
        refine r_if_ne (tgt := 126) (dt_Walk_stepChild.at 58 rfl) (by decide) ?_ ?_
        · refine r_aload (dt_Walk_stepChild.at 59 rfl) rfl ?_
          refine r_cvV (c := 6) (rest := []) (ct_Sprk_fly b13 _) (dt_Walk_stepChild.at 60 rfl) mb_Sprk_fly wd_816 wd_674 wd_675 rfl (by decide) rfl rfl (Nat.le_of_ble_eq_true rfl) (fun M17 => ?_)
          refine r_aload_n (dt_Walk_stepChild.at 61 rfl) rfl ?_
          refine r_iload_n (dt_Walk_stepChild.at 62 rfl) rfl ?_
          refine r_iconst (dt_Walk_stepChild.at 63 rfl) 1 (by decide) ?_
          refine r_iadd (dt_Walk_stepChild.at 64 rfl) ?_
          refine r_iload (dt_Walk_stepChild.at 65 rfl) rfl ?_
          refine r_iadd (dt_Walk_stepChild.at 66 rfl) ?_
          refine r_cvV (c := 7) (rest := []) (ct_Walk_show v0 ((v3 + 1) + v6) _) (dt_Walk_stepChild.at 67 rfl) mb_Walk_show wd_817 wd_819 wp_24 rfl (by decide) rfl rfl (Nat.le_of_ble_eq_true rfl) (fun M18 => ?_)
          refine r_iincn (v := 1) (dt_Walk_stepChild.at 68 rfl) (by decide) rfl (by decide) (fun y => [.ref v0, .retAddr 0, .retAddr 0, .int v3, .ref v4, .int v5, .int y, .ref b13]) (fun _ => rfl) (fun x19 => ?_)
          refine r_goto (tgt := 67) (dt_Walk_stepChild.at 69 rfl) (by decide) ?_
          exact Rf.msk [true, false, false, true, true, true, true, false] (ih v0 v3 v4 v5 x19 M18)
        · refine r_iincn (v := 1) (dt_Walk_stepChild.at 68 rfl) (by decide) rfl (by decide) (fun y => [.ref v0, .retAddr 0, .retAddr 0, .int v3, .ref v4, .int v5, .int y, .ref b13]) (fun _ => rfl) (fun x20 => ?_)
          refine r_goto (tgt := 67) (dt_Walk_stepChild.at 69 rfl) (by decide) ?_
          exact Rf.msk [true, false, false, true, true, true, true, false] (ih v0 v3 v4 v5 x20 M15)
set_option maxRecDepth 20000 in
set_option maxHeartbeats 2000000 in
theorem ct_Walk_stepChild {G : am_G} {l : Launch} (a0 : Nat) (p1 : Nat) (p2 : Int32) (p3 : Int32) (M : am_M) : Ct G l y_Walk_stepChild X_Walk_stepChild [.ref a0, .ref p1, .int p2, .int p3] M (F_Walk_stepChild a0 p1 p2 p3 M) := by
  refine Ct.of (by decide +kernel) rfl rfl (Nat.le_of_ble_eq_true rfl) ?_
  unfold F_Walk_stepChild
  show Rf G l X_Walk_stepChild 0 [.ref a0, .ref p1, .int p2, .int p3, .retAddr 0, .retAddr 0, .retAddr 0, .retAddr 0] [] M _
  refine r_iload_n (dt_Walk_stepChild.at 0 rfl) rfl ?_
  refine r_if_lt (tgt := 12) (dt_Walk_stepChild.at 1 rfl) (by decide) ?_ ?_
  · exact r_vret (dt_Walk_stepChild.at 7 rfl) rfl
  · refine r_iload_n (dt_Walk_stepChild.at 2 rfl) rfl ?_
    refine r_iconst (dt_Walk_stepChild.at 3 rfl) 2 (by decide) ?_
    refine r_iadd (dt_Walk_stepChild.at 4 rfl) ?_
    refine r_bipush (dt_Walk_stepChild.at 5 rfl) 7 (by decide) ?_
    refine r_icmp_lt (tgt := 13) (dt_Walk_stepChild.at 6 rfl) (by decide) ?_ ?_
    · refine r_aload_n (dt_Walk_stepChild.at 8 rfl) rfl ?_
      refine r_fR (dt_Walk_stepChild.at 9 rfl) fl_Walk_11 rfl (fun b1 => ?_)
      refine r_iload_n (dt_Walk_stepChild.at 10 rfl) rfl ?_
      refine r_aR (dt_Walk_stepChild.at 11 rfl) (fun b2 => ?_)
      refine r_astore (ls' := [.ref a0, .ref p1, .int p2, .int p3, .ref b2, .retAddr 0, .retAddr 0, .retAddr 0]) (dt_Walk_stepChild.at 12 rfl) (by decide) rfl ?_
      refine r_aload (dt_Walk_stepChild.at 13 rfl) rfl ?_
      refine r_aload_n (dt_Walk_stepChild.at 14 rfl) rfl ?_
      refine r_iload_n (dt_Walk_stepChild.at 15 rfl) rfl ?_
      refine r_cvV (c := 6) (rest := []) (ct_Sprk_beginAsChild b2 p1 p2 _) (dt_Walk_stepChild.at 16 rfl) mb_Sprk_beginAsChild wd_825 wd_685 wd_686 rfl (by decide) rfl rfl (Nat.le_of_ble_eq_true rfl) (fun M3 => ?_)
      refine r_aload_n (dt_Walk_stepChild.at 17 rfl) rfl ?_
      refine r_aload (dt_Walk_stepChild.at 18 rfl) rfl ?_
      refine r_cvI (c := 7) (rest := []) (ct_Walk_isOutside a0 b2 _) (dt_Walk_stepChild.at 19 rfl) mb_Walk_isOutside wd_812 wd_814 wp_23 rfl (by decide) rfl rfl (Nat.le_of_ble_eq_true rfl) (fun r5 M4 => ?_)
      refine r_if_eq (tgt := 38) (dt_Walk_stepChild.at 20 rfl) (by decide) ?_ ?_
      · refine r_aload (dt_Walk_stepChild.at 22 rfl) rfl ?_
        refine r_cvV (c := 6) (rest := []) (ct_Sprk_fly b2 _) (dt_Walk_stepChild.at 23 rfl) mb_Sprk_fly wd_816 wd_674 wd_675 rfl (by decide) rfl rfl (Nat.le_of_ble_eq_true rfl) (fun M6 => ?_)
        refine r_aload_n (dt_Walk_stepChild.at 24 rfl) rfl ?_
        refine r_iload_n (dt_Walk_stepChild.at 25 rfl) rfl ?_
        refine r_cvV (c := 7) (rest := []) (ct_Walk_show a0 p3 _) (dt_Walk_stepChild.at 26 rfl) mb_Walk_show wd_817 wd_819 wp_24 rfl (by decide) rfl rfl (Nat.le_of_ble_eq_true rfl) (fun M7 => ?_)
        refine r_aload_n (dt_Walk_stepChild.at 27 rfl) rfl ?_
        refine r_fR (dt_Walk_stepChild.at 28 rfl) fl_Walk_30 rfl (fun b8 => ?_)
        refine r_aload (dt_Walk_stepChild.at 29 rfl) rfl ?_
        refine r_fI (dt_Walk_stepChild.at 30 rfl) fl_Walk_101 rfl (fun x9 => ?_)
        refine r_bipush (dt_Walk_stepChild.at 31 rfl) 6 (by decide) ?_
        refine r_cvI (c := 5) (rest := []) (ct_Scen_ofKind b8 x9 6 _) (dt_Walk_stepChild.at 32 rfl) mb_Scen_ofKind wd_790 wd_476 wd_477 rfl (by decide) rfl rfl (Nat.le_of_ble_eq_true rfl) (fun r11 M10 => ?_)
        refine r_istore (ls' := [.ref a0, .ref p1, .int p2, .int p3, .ref b2, .int r11, .retAddr 0, .retAddr 0]) (dt_Walk_stepChild.at 33 rfl) (by decide) rfl ?_
        refine r_iconst (dt_Walk_stepChild.at 34 rfl) 0 (by decide) ?_
        refine r_istore (ls' := [.ref a0, .ref p1, .int p2, .int p3, .ref b2, .int r11, .int 0, .retAddr 0]) (dt_Walk_stepChild.at 35 rfl) (by decide) rfl ?_
        exact Rf.msk [true, false, false, true, true, true, true, false] (rf_Walk_stepChild_L67 fu a0 p3 b2 r11 0 M10)
      · exact r_vret (dt_Walk_stepChild.at 21 rfl) rfl
    · exact r_vret (dt_Walk_stepChild.at 7 rfl) rfl
set_option maxRecDepth 20000 in
set_option maxHeartbeats 2000000 in
theorem rf_Walk_stepRoot_L93 {G : am_G} {l : Launch}   : ∀ (n : Nat) (v0 : Nat) (v3 : Nat) (v4 : Int32) (v5 : Int32) (M : am_M), Rf G l X_Walk_stepRoot 93 [.ref v0, .retAddr 0, .retAddr 0, .ref v3, .int v4, .int v5, .retAddr 0] [] M (F_Walk_stepRoot_L93 n v0 v3 v4 v5 M) := by
  intro n
  induction n with
  | zero => intro v0 v3 v4 v5 M; exact Rf.no
  | succ n ih =>
    intro v0 v3 v4 v5 M
    unfold F_Walk_stepRoot_L93
    refine r_iload (dt_Walk_stepRoot.at 58 rfl) rfl ?_
    refine r_iload (dt_Walk_stepRoot.at 59 rfl) rfl ?_
    refine r_icmp_ge (tgt := 129) (dt_Walk_stepRoot.at 60 rfl) (by decide) ?_ ?_
    · refine r_iconst (dt_Walk_stepRoot.at 77 rfl) 1 (by decide) ?_
      exact r_zret (dt_Walk_stepRoot.at 78 rfl) rfl rfl
    · refine r_iload (dt_Walk_stepRoot.at 61 rfl) rfl ?_
      refine r_iconst (dt_Walk_stepRoot.at 62 rfl) 2 (by decide) ?_
      refine r_icmp_ge (tgt := 129) (dt_Walk_stepRoot.at 63 rfl) (by decide) ?_ ?_
      · refine r_iconst (dt_Walk_stepRoot.at 77 rfl) 1 (by decide) ?_
        exact r_zret (dt_Walk_stepRoot.at 78 rfl) rfl rfl
      · refine r_iconst (dt_Walk_stepRoot.at 64 rfl) 1 (by decide) ?_
        refine r_iload (dt_Walk_stepRoot.at 65 rfl) rfl ?_
        refine r_iconst (dt_Walk_stepRoot.at 66 rfl) 3 (by decide) ?_
        refine r_imul (dt_Walk_stepRoot.at 67 rfl) ?_
        refine r_iadd (dt_Walk_stepRoot.at 68 rfl) ?_
        refine r_nmi (fun x23 => ?_)
        refine r_istore (ls' := [.ref v0, .retAddr 0, .retAddr 0, .ref v3, .int v4, .int v5, .int x23]) (dt_Walk_stepRoot.at 69 rfl) (by decide) rfl ?_
        refine r_aload_n (dt_Walk_stepRoot.at 70 rfl) rfl ?_
        refine r_aload_n (dt_Walk_stepRoot.at 71 rfl) rfl ?_
        refine r_iload (dt_Walk_stepRoot.at 72 rfl) rfl ?_
        refine r_iload (dt_Walk_stepRoot.at 73 rfl) rfl ?_
        refine r_cvV (c := 7) (rest := []) (ct_Walk_stepChild v0 v3 v5 x23 _) (dt_Walk_stepRoot.at 74 rfl) mb_Walk_stepChild wd_821 wd_823 wp_25 rfl (by decide) rfl rfl (Nat.le_of_ble_eq_true rfl) (fun M24 => ?_)
        refine r_iincn (v := 1) (dt_Walk_stepRoot.at 75 rfl) (by decide) rfl (by decide) (fun y => [.ref v0, .retAddr 0, .retAddr 0, .ref v3, .int v4, .int y, .int x23]) (fun _ => rfl) (fun x25 => ?_)
        refine r_goto (tgt := 93) (dt_Walk_stepRoot.at 76 rfl) (by decide) ?_
        exact Rf.msk [true, false, false, true, true, true, false] (ih v0 v3 v4 x25 M24)
set_option maxRecDepth 20000 in
set_option maxHeartbeats 2000000 in
theorem ct_Walk_stepRoot {G : am_G} {l : Launch} (a0 : Nat) (M : am_M) : Ct G l y_Walk_stepRoot X_Walk_stepRoot [.ref a0] M (F_Walk_stepRoot a0 M) := by
  refine Ct.of (by decide +kernel) rfl rfl (Nat.le_of_ble_eq_true rfl) ?_
  unfold F_Walk_stepRoot
  show Rf G l X_Walk_stepRoot 0 [.ref a0, .retAddr 0, .retAddr 0, .retAddr 0, .retAddr 0, .retAddr 0, .retAddr 0] [] M _
  refine r_aload_n (dt_Walk_stepRoot.at 0 rfl) rfl ?_
  refine r_iconst (dt_Walk_stepRoot.at 1 rfl) 0 (by decide) ?_
  refine r_sI (dt_Walk_stepRoot.at 2 rfl) fl_Walk_76 rfl rfl rfl (fun M1 => ?_)
  refine r_aload_n (dt_Walk_stepRoot.at 3 rfl) rfl ?_
  refine r_cvI (c := 7) (rest := []) (ct_Walk_sourceOfLeastRoot a0 _) (dt_Walk_stepRoot.at 4 rfl) mb_Walk_sourceOfLeastRoot wd_806 wd_808 wp_22 rfl (by decide) rfl rfl (Nat.le_of_ble_eq_true rfl) (fun r3 M2 => ?_)
  refine r_istore_n (ls' := [.ref a0, .int r3, .retAddr 0, .retAddr 0, .retAddr 0, .retAddr 0, .retAddr 0]) (dt_Walk_stepRoot.at 5 rfl) (by decide) rfl ?_
  refine r_iload_n (dt_Walk_stepRoot.at 6 rfl) rfl ?_
  refine r_iconst (dt_Walk_stepRoot.at 7 rfl) (-1) (by decide) ?_
  refine r_icmp_ne (tgt := 17) (dt_Walk_stepRoot.at 8 rfl) (by decide) ?_ ?_
  · refine r_iconst (dt_Walk_stepRoot.at 9 rfl) 0 (by decide) ?_
    exact r_zret (dt_Walk_stepRoot.at 10 rfl) rfl rfl
  · refine r_aload_n (dt_Walk_stepRoot.at 11 rfl) rfl ?_
    refine r_fR (dt_Walk_stepRoot.at 12 rfl) fl_Walk_21 rfl (fun b4 => ?_)
    refine r_iload_n (dt_Walk_stepRoot.at 13 rfl) rfl ?_
    refine r_aI (dt_Walk_stepRoot.at 14 rfl) (fun x5 => ?_)
    refine r_istore_n (ls' := [.ref a0, .int r3, .int x5, .retAddr 0, .retAddr 0, .retAddr 0, .retAddr 0]) (dt_Walk_stepRoot.at 15 rfl) (by decide) rfl ?_
    refine r_aload_n (dt_Walk_stepRoot.at 16 rfl) rfl ?_
    refine r_fR (dt_Walk_stepRoot.at 17 rfl) fl_Walk_21 rfl (fun b6 => ?_)
    refine r_iload_n (dt_Walk_stepRoot.at 18 rfl) rfl ?_
    refine r_dup2 (dt_Walk_stepRoot.at 19 rfl) rfl rfl ?_
    refine r_aI (dt_Walk_stepRoot.at 20 rfl) (fun x7 => ?_)
    refine r_iconst (dt_Walk_stepRoot.at 21 rfl) 1 (by decide) ?_
    refine r_iadd (dt_Walk_stepRoot.at 22 rfl) ?_
    refine r_tI (dt_Walk_stepRoot.at 23 rfl) (fun M8 => ?_)
    refine r_aload_n (dt_Walk_stepRoot.at 24 rfl) rfl ?_
    refine r_fR (dt_Walk_stepRoot.at 25 rfl) fl_Walk_11 rfl (fun b9 => ?_)
    refine r_iconst (dt_Walk_stepRoot.at 26 rfl) 0 (by decide) ?_
    refine r_aR (dt_Walk_stepRoot.at 27 rfl) (fun b10 => ?_)
    refine r_astore_n (ls' := [.ref a0, .int r3, .int x5, .ref b10, .retAddr 0, .retAddr 0, .retAddr 0]) (dt_Walk_stepRoot.at 28 rfl) (by decide) rfl ?_
    refine r_aload_n (dt_Walk_stepRoot.at 29 rfl) rfl ?_
    refine r_iload_n (dt_Walk_stepRoot.at 30 rfl) rfl ?_
    refine r_iload_n (dt_Walk_stepRoot.at 31 rfl) rfl ?_
    refine r_aload_n (dt_Walk_stepRoot.at 32 rfl) rfl ?_
    refine r_fR (dt_Walk_stepRoot.at 33 rfl) fl_Walk_30 rfl (fun b11 => ?_)
    refine r_iload_n (dt_Walk_stepRoot.at 34 rfl) rfl ?_
    refine r_iload_n (dt_Walk_stepRoot.at 35 rfl) rfl ?_
    refine r_cvI (c := 5) (rest := [.int x5, .int r3, .ref b10]) (ct_Scen_birthTick b11 r3 x5 _) (dt_Walk_stepRoot.at 36 rfl) mb_Scen_birthTick wd_810 wd_647 wd_648 rfl (by decide) rfl rfl (Nat.le_of_ble_eq_true rfl) (fun r13 M12 => ?_)
    refine r_cvV (c := 6) (rest := []) (ct_Sprk_beginAtSource b10 r3 x5 r13 _) (dt_Walk_stepRoot.at 37 rfl) mb_Sprk_beginAtSource wd_811 wd_666 wd_667 rfl (by decide) rfl rfl (Nat.le_of_ble_eq_true rfl) (fun M14 => ?_)
    refine r_aload_n (dt_Walk_stepRoot.at 38 rfl) rfl ?_
    refine r_aload_n (dt_Walk_stepRoot.at 39 rfl) rfl ?_
    refine r_cvI (c := 7) (rest := []) (ct_Walk_isOutside a0 b10 _) (dt_Walk_stepRoot.at 40 rfl) mb_Walk_isOutside wd_812 wd_814 wp_23 rfl (by decide) rfl rfl (Nat.le_of_ble_eq_true rfl) (fun r16 M15 => ?_)
    refine r_if_eq (tgt := 66) (dt_Walk_stepRoot.at 41 rfl) (by decide) ?_ ?_
    · refine r_aload_n (dt_Walk_stepRoot.at 44 rfl) rfl ?_
      refine r_cvV (c := 6) (rest := []) (ct_Sprk_fly b10 _) (dt_Walk_stepRoot.at 45 rfl) mb_Sprk_fly wd_816 wd_674 wd_675 rfl (by decide) rfl rfl (Nat.le_of_ble_eq_true rfl) (fun M17 => ?_)
      refine r_aload_n (dt_Walk_stepRoot.at 46 rfl) rfl ?_
      refine r_iconst (dt_Walk_stepRoot.at 47 rfl) 0 (by decide) ?_
      refine r_cvV (c := 7) (rest := []) (ct_Walk_show a0 0 _) (dt_Walk_stepRoot.at 48 rfl) mb_Walk_show wd_817 wd_819 wp_24 rfl (by decide) rfl rfl (Nat.le_of_ble_eq_true rfl) (fun M18 => ?_)
      refine r_aload_n (dt_Walk_stepRoot.at 49 rfl) rfl ?_
      refine r_fR (dt_Walk_stepRoot.at 50 rfl) fl_Walk_30 rfl (fun b19 => ?_)
      refine r_aload_n (dt_Walk_stepRoot.at 51 rfl) rfl ?_
      refine r_fI (dt_Walk_stepRoot.at 52 rfl) fl_Walk_101 rfl (fun x20 => ?_)
      refine r_bipush (dt_Walk_stepRoot.at 53 rfl) 6 (by decide) ?_
      refine r_cvI (c := 5) (rest := []) (ct_Scen_ofKind b19 x20 6 _) (dt_Walk_stepRoot.at 54 rfl) mb_Scen_ofKind wd_790 wd_476 wd_477 rfl (by decide) rfl rfl (Nat.le_of_ble_eq_true rfl) (fun r22 M21 => ?_)
      refine r_istore (ls' := [.ref a0, .int r3, .int x5, .ref b10, .int r22, .retAddr 0, .retAddr 0]) (dt_Walk_stepRoot.at 55 rfl) (by decide) rfl ?_
      refine r_iconst (dt_Walk_stepRoot.at 56 rfl) 0 (by decide) ?_
      refine r_istore (ls' := [.ref a0, .int r3, .int x5, .ref b10, .int r22, .int 0, .retAddr 0]) (dt_Walk_stepRoot.at 57 rfl) (by decide) rfl ?_
      exact Rf.msk [true, false, false, true, true, true, false] (rf_Walk_stepRoot_L93 fu a0 b10 r22 0 M21)
    · refine r_iconst (dt_Walk_stepRoot.at 42 rfl) 1 (by decide) ?_
      exact r_zret (dt_Walk_stepRoot.at 43 rfl) rfl rfl
set_option maxRecDepth 20000 in
set_option maxHeartbeats 2000000 in
theorem rf_Walk_shown_L28 {G : am_G} {l : Launch}   (v0 : Nat) (s0 : Int32) (M : am_M) : Rf G l X_Walk_shown 28 [.ref v0, .retAddr 0, .retAddr 0] [.int s0] M (F_Walk_shown_L28 v0 s0 M) := by
  unfold F_Walk_shown_L28
  refine r_istore_n (ls' := [.ref v0, .retAddr 0, .int s0]) (dt_Walk_shown.at 15 rfl) (by decide) rfl ?_
  refine r_aload_n (dt_Walk_shown.at 16 rfl) rfl ?_
  refine r_fR (dt_Walk_shown.at 17 rfl) fl_Walk_11 rfl (fun b1 => ?_)
  refine r_iload_n (dt_Walk_shown.at 18 rfl) rfl ?_
  refine r_if_lt (tgt := 47) (dt_Walk_shown.at 19 rfl) (by decide) ?_ ?_
  · refine r_iconst (dt_Walk_shown.at 25 rfl) 0 (by decide) ?_
    refine r_aR (dt_Walk_shown.at 26 rfl) (fun b2 => ?_)
    exact r_aret (dt_Walk_shown.at 27 rfl) rfl (Or.inl ⟨_, rfl⟩)
  · refine r_iload_n (dt_Walk_shown.at 20 rfl) rfl ?_
    refine r_bipush (dt_Walk_shown.at 21 rfl) 7 (by decide) ?_
    refine r_icmp_ge (tgt := 47) (dt_Walk_shown.at 22 rfl) (by decide) ?_ ?_
    · refine r_iconst (dt_Walk_shown.at 25 rfl) 0 (by decide) ?_
      refine r_aR (dt_Walk_shown.at 26 rfl) (fun b3 => ?_)
      exact r_aret (dt_Walk_shown.at 27 rfl) rfl (Or.inl ⟨_, rfl⟩)
    · refine r_iload_n (dt_Walk_shown.at 23 rfl) rfl ?_
      refine r_goto (tgt := 48) (dt_Walk_shown.at 24 rfl) (by decide) ?_
      refine r_aR (dt_Walk_shown.at 26 rfl) (fun b4 => ?_)
      exact r_aret (dt_Walk_shown.at 27 rfl) rfl (Or.inl ⟨_, rfl⟩)
set_option maxRecDepth 20000 in
set_option maxHeartbeats 2000000 in
theorem rf_Walk_shown_L27 {G : am_G} {l : Launch}   (v0 : Nat) (M : am_M) : Rf G l X_Walk_shown 27 [.ref v0, .retAddr 0, .retAddr 0] [] M (F_Walk_shown_L27 v0 M) := by
  unfold F_Walk_shown_L27
  refine r_iconst (dt_Walk_shown.at 14 rfl) 0 (by decide) ?_
  exact Rf.msk [true, false, false] (rf_Walk_shown_L28 v0 0 M)
set_option maxRecDepth 20000 in
set_option maxHeartbeats 2000000 in
theorem ct_Walk_shown {G : am_G} {l : Launch} (a0 : Nat) (p1 : Int32) (M : am_M) : Ct G l y_Walk_shown X_Walk_shown [.ref a0, .int p1] M (F_Walk_shown a0 p1 M) := by
  refine Ct.of (by decide +kernel) rfl rfl (Nat.le_of_ble_eq_true rfl) ?_
  unfold F_Walk_shown
  show Rf G l X_Walk_shown 0 [.ref a0, .int p1, .retAddr 0] [] M _
  refine r_iload_n (dt_Walk_shown.at 0 rfl) rfl ?_
  refine r_if_lt (tgt := 27) (dt_Walk_shown.at 1 rfl) (by decide) ?_ ?_
  · exact Rf.msk [true, false, false] (rf_Walk_shown_L27 a0 M)
  · refine r_iload_n (dt_Walk_shown.at 2 rfl) rfl ?_
    refine r_aload_n (dt_Walk_shown.at 3 rfl) rfl ?_
    refine r_fI (dt_Walk_shown.at 4 rfl) fl_Walk_76 rfl (fun x5 => ?_)
    refine r_icmp_ge (tgt := 27) (dt_Walk_shown.at 5 rfl) (by decide) ?_ ?_
    · exact Rf.msk [true, false, false] (rf_Walk_shown_L27 a0 M)
    · refine r_iload_n (dt_Walk_shown.at 6 rfl) rfl ?_
      refine r_bipush (dt_Walk_shown.at 7 rfl) 7 (by decide) ?_
      refine r_icmp_ge (tgt := 27) (dt_Walk_shown.at 8 rfl) (by decide) ?_ ?_
      · exact Rf.msk [true, false, false] (rf_Walk_shown_L27 a0 M)
      · refine r_aload_n (dt_Walk_shown.at 9 rfl) rfl ?_
        refine r_fR (dt_Walk_shown.at 10 rfl) fl_Walk_17 rfl (fun b6 => ?_)
        refine r_iload_n (dt_Walk_shown.at 11 rfl) rfl ?_
        refine r_aI (dt_Walk_shown.at 12 rfl) (fun x7 => ?_)
        refine r_goto (tgt := 28) (dt_Walk_shown.at 13 rfl) (by decide) ?_
        exact Rf.msk [true, false, false] (rf_Walk_shown_L28 a0 x7 M)
set_option maxRecDepth 20000 in
set_option maxHeartbeats 2000000 in
theorem rf_NS_comesOf_L26 {G : am_G} {l : Launch}   (v0 : Int32) (v1 : Int32) (s0 : Int32) (M : am_M) : Rf G l X_NS_comesOf 26 [.int v0, .int v1, .retAddr 0, .retAddr 0] [.int s0] M (F_NS_comesOf_L26 v0 v1 s0 M) := by
  unfold F_NS_comesOf_L26
  refine r_istore_n (ls' := [.int v0, .int v1, .retAddr 0, .int s0]) (dt_NS_comesOf.at 13 rfl) (by decide) rfl ?_
  refine r_iload_n (dt_NS_comesOf.at 14 rfl) rfl ?_
  refine r_iload_n (dt_NS_comesOf.at 15 rfl) rfl ?_
  refine r_iconst (dt_NS_comesOf.at 16 rfl) (-1) (by decide) ?_
  refine r_ixor (dt_NS_comesOf.at 17 rfl) ?_
  refine r_iand (dt_NS_comesOf.at 18 rfl) ?_
  refine r_iload_n (dt_NS_comesOf.at 19 rfl) rfl ?_
  refine r_icmp_ne (tgt := 40) (dt_NS_comesOf.at 20 rfl) (by decide) ?_ ?_
  · refine r_iconst (dt_NS_comesOf.at 21 rfl) 1 (by decide) ?_
    refine r_goto (tgt := 41) (dt_NS_comesOf.at 22 rfl) (by decide) ?_
    exact r_zret (dt_NS_comesOf.at 24 rfl) rfl rfl
  · refine r_iconst (dt_NS_comesOf.at 23 rfl) 0 (by decide) ?_
    exact r_zret (dt_NS_comesOf.at 24 rfl) rfl rfl
set_option maxRecDepth 20000 in
set_option maxHeartbeats 2000000 in
theorem ct_NS_comesOf {G : am_G} {l : Launch} (p1 : Int32) (p2 : Int32) (M : am_M) : Ct G l y_NS_comesOf X_NS_comesOf [.int p1, .int p2] M (F_NS_comesOf p1 p2 M) := by
  refine Ct.of (by decide +kernel) rfl rfl (Nat.le_of_ble_eq_true rfl) ?_
  unfold F_NS_comesOf
  show Rf G l X_NS_comesOf 0 [.int p1, .int p2, .retAddr 0, .retAddr 0] [] M _
  refine r_iload_n (dt_NS_comesOf.at 0 rfl) rfl ?_
  refine r_csI (rest := []) (ct_NS_generationOf p2 _) (dt_NS_comesOf.at 1 rfl) mb_NS_generationOf wd_617 wd_618 (by decide) rfl rfl (Nat.le_of_ble_eq_true rfl) (fun r2 M1 => ?_)
  refine r_istore_n (ls' := [.int p1, .int p2, .int r2, .retAddr 0]) (dt_NS_comesOf.at 2 rfl) (by decide) rfl ?_
  refine r_iload_n (dt_NS_comesOf.at 3 rfl) rfl ?_
  refine r_if_ne (tgt := 15) (dt_NS_comesOf.at 4 rfl) (by decide) ?_ ?_
  · refine r_sipush (dt_NS_comesOf.at 5 rfl) 255 (by decide) ?_
    refine r_goto (tgt := 26) (dt_NS_comesOf.at 6 rfl) (by decide) ?_
    exact Rf.msk [true, true, false, false] (rf_NS_comesOf_L26 p1 p2 255 M1)
  · refine r_iload_n (dt_NS_comesOf.at 7 rfl) rfl ?_
    refine r_iconst (dt_NS_comesOf.at 8 rfl) 1 (by decide) ?_
    refine r_icmp_ne (tgt := 25) (dt_NS_comesOf.at 9 rfl) (by decide) ?_ ?_
    · refine r_bipush (dt_NS_comesOf.at 10 rfl) 15 (by decide) ?_
      refine r_goto (tgt := 26) (dt_NS_comesOf.at 11 rfl) (by decide) ?_
      exact Rf.msk [true, true, false, false] (rf_NS_comesOf_L26 p1 p2 15 M1)
    · refine r_iconst (dt_NS_comesOf.at 12 rfl) 0 (by decide) ?_
      exact Rf.msk [true, true, false, false] (rf_NS_comesOf_L26 p1 p2 0 M1)
set_option maxRecDepth 20000 in
set_option maxHeartbeats 2000000 in
theorem rf_NS_line_L56 {G : am_G} {l : Launch}   : ∀ (n : Nat) (v0 : Nat) (v1 : Int32) (v2 : Int32) (v3 : Int32) (v4 : Int32) (v5 : Int32) (M : am_M), Rf G l X_NS_line 56 [.ref v0, .int v1, .int v2, .int v3, .int v4, .int v5, .retAddr 0] [] M (F_NS_line_L56 n v0 v1 v2 v3 v4 v5 M) := by
  intro n
  induction n with
  | zero => intro v0 v1 v2 v3 v4 v5 M; exact Rf.no
  | succ n ih =>
    intro v0 v1 v2 v3 v4 v5 M
    unfold F_NS_line_L56
    refine r_iload (dt_NS_line.at 29 rfl) rfl ?_
    refine r_aload_n (dt_NS_line.at 30 rfl) rfl ?_
    refine r_fR (dt_NS_line.at 31 rfl) fl_NS_46 rfl (fun b13 => ?_)
    refine r_fI (dt_NS_line.at 32 rfl) fl_NS_243 rfl (fun x14 => ?_)
    refine r_icmp_ge (tgt := 112) (dt_NS_line.at 33 rfl) (by decide) ?_ ?_
    · refine r_iload_n (dt_NS_line.at 52 rfl) rfl ?_
      refine r_if_ne (tgt := 120) (dt_NS_line.at 53 rfl) (by decide) ?_ ?_
      · refine r_iload_n (dt_NS_line.at 54 rfl) rfl ?_
        refine r_goto (tgt := 122) (dt_NS_line.at 55 rfl) (by decide) ?_
        exact r_iret (dt_NS_line.at 57 rfl) rfl
      · refine r_iload (dt_NS_line.at 56 rfl) rfl ?_
        exact r_iret (dt_NS_line.at 57 rfl) rfl
    · refine r_aload_n (dt_NS_line.at 34 rfl) rfl ?_
      refine r_fR (dt_NS_line.at 35 rfl) fl_NS_46 rfl (fun b15 => ?_)
      refine r_iload (dt_NS_line.at 36 rfl) rfl ?_
      refine r_cvR (c := 7) (rest := []) (ct_Walk_shown b15 v5 _) (dt_NS_line.at 37 rfl) mb_Walk_shown wd_826 wd_827 wd_828 rfl (by decide) rfl rfl (Nat.le_of_ble_eq_true rfl) (fun M16 => ?_) (fun b17 M16 => ?_)
      · refine r_astoreN (ls' := [.ref v0, .int v1, .int v2, .int v3, .int v4, .int v5, .null]) (dt_NS_line.at 38 rfl) (by decide) rfl ?_
        refine r_aloadN (dt_NS_line.at 39 rfl) rfl ?_
        exact Rf.no
      · refine r_astore (ls' := [.ref v0, .int v1, .int v2, .int v3, .int v4, .int v5, .ref b17]) (dt_NS_line.at 38 rfl) (by decide) rfl ?_
        refine r_aload (dt_NS_line.at 39 rfl) rfl ?_
        refine r_fI (dt_NS_line.at 40 rfl) fl_NS_249 rfl (fun x18 => ?_)
        refine r_iload_n (dt_NS_line.at 41 rfl) rfl ?_
        refine r_csI (rest := []) (ct_NS_comesOf x18 v1 _) (dt_NS_line.at 42 rfl) mb_NS_comesOf wd_830 wd_831 (by decide) rfl rfl (Nat.le_of_ble_eq_true rfl) (fun r20 M19 => ?_)
        refine r_if_eq (tgt := 106) (dt_NS_line.at 43 rfl) (by decide) ?_ ?_
        · refine r_iincn (v := 1) (dt_NS_line.at 50 rfl) (by decide) rfl (by decide) (fun y => [.ref v0, .int v1, .int v2, .int v3, .int v4, .int y, .ref b17]) (fun _ => rfl) (fun x21 => ?_)
          refine r_goto (tgt := 56) (dt_NS_line.at 51 rfl) (by decide) ?_
          exact Rf.msk [true, true, true, true, true, true, false] (ih v0 v1 v2 v3 v4 x21 M19)
        · refine r_iincn (v := 1) (dt_NS_line.at 44 rfl) (by decide) rfl (by decide) (fun y => [.ref v0, .int v1, .int v2, .int y, .int v4, .int v5, .ref b17]) (fun _ => rfl) (fun x22 => ?_)
          refine r_iload (dt_NS_line.at 45 rfl) rfl ?_
          refine r_aload (dt_NS_line.at 46 rfl) rfl ?_
          refine r_fI (dt_NS_line.at 47 rfl) fl_NS_200 rfl (fun x23 => ?_)
          refine r_csI (rest := []) (ct_Math_max v4 x23 _) (dt_NS_line.at 48 rfl) mb_Math_max wd_729 wd_655 (by decide) rfl rfl (Nat.le_of_ble_eq_true rfl) (fun r25 M24 => ?_)
          refine r_istore (ls' := [.ref v0, .int v1, .int v2, .int x22, .int r25, .int v5, .ref b17]) (dt_NS_line.at 49 rfl) (by decide) rfl ?_
          refine r_iincn (v := 1) (dt_NS_line.at 50 rfl) (by decide) rfl (by decide) (fun y => [.ref v0, .int v1, .int v2, .int x22, .int r25, .int y, .ref b17]) (fun _ => rfl) (fun x26 => ?_)
          refine r_goto (tgt := 56) (dt_NS_line.at 51 rfl) (by decide) ?_
          exact Rf.msk [true, true, true, true, true, true, false] (ih v0 v1 v2 x22 r25 x26 M24)
set_option maxRecDepth 20000 in
set_option maxHeartbeats 2000000 in
theorem ct_NS_line {G : am_G} {l : Launch} (a0 : Nat) (p1 : Int32) (p2 : Int32) (M : am_M) : Ct G l y_NS_line X_NS_line [.ref a0, .int p1, .int p2] M (F_NS_line a0 p1 p2 M) := by
  refine Ct.of (by decide +kernel) rfl rfl (Nat.le_of_ble_eq_true rfl) ?_
  unfold F_NS_line
  show Rf G l X_NS_line 0 [.ref a0, .int p1, .int p2, .retAddr 0, .retAddr 0, .retAddr 0, .retAddr 0] [] M _
  refine r_aload_n (dt_NS_line.at 0 rfl) rfl ?_
  refine r_fR (dt_NS_line.at 1 rfl) fl_NS_16 rfl (fun b1 => ?_)
  refine r_iload_n (dt_NS_line.at 2 rfl) rfl ?_
  refine r_cvI (c := 5) (rest := []) (ct_Scen_hasSpark b1 p1 _) (dt_NS_line.at 3 rfl) mb_Scen_hasSpark wd_601 wd_602 wd_603 rfl (by decide) rfl rfl (Nat.le_of_ble_eq_true rfl) (fun r3 M2 => ?_)
  refine r_if_eq (tgt := 20) (dt_NS_line.at 4 rfl) (by decide) ?_ ?_
  · refine r_bipush (dt_NS_line.at 10 rfl) (-2) (by decide) ?_
    exact r_iret (dt_NS_line.at 11 rfl) rfl
  · refine r_iload_n (dt_NS_line.at 5 rfl) rfl ?_
    refine r_if_lt (tgt := 20) (dt_NS_line.at 6 rfl) (by decide) ?_ ?_
    · refine r_bipush (dt_NS_line.at 10 rfl) (-2) (by decide) ?_
      exact r_iret (dt_NS_line.at 11 rfl) rfl
    · refine r_iload_n (dt_NS_line.at 7 rfl) rfl ?_
      refine r_iconst (dt_NS_line.at 8 rfl) 1 (by decide) ?_
      refine r_icmp_le (tgt := 23) (dt_NS_line.at 9 rfl) (by decide) ?_ ?_
      · refine r_aload_n (dt_NS_line.at 12 rfl) rfl ?_
        refine r_fR (dt_NS_line.at 13 rfl) fl_NS_46 rfl (fun b4 => ?_)
        refine r_iload_n (dt_NS_line.at 14 rfl) rfl ?_
        refine r_csI (rest := [.ref b4]) (ct_NS_sourceOf p1 _) (dt_NS_line.at 15 rfl) mb_NS_sourceOf wd_700 wd_606 (by decide) rfl rfl (Nat.le_of_ble_eq_true rfl) (fun r6 M5 => ?_)
        refine r_iload_n (dt_NS_line.at 16 rfl) rfl ?_
        refine r_csI (rest := [.int r6, .ref b4]) (ct_NS_numberOf p1 _) (dt_NS_line.at 17 rfl) mb_NS_numberOf wd_701 wd_610 (by decide) rfl rfl (Nat.le_of_ble_eq_true rfl) (fun r8 M7 => ?_)
        refine r_cvV (c := 7) (rest := []) (ct_Walk_startWithRoot b4 r6 r8 _) (dt_NS_line.at 18 rfl) mb_Walk_startWithRoot wd_778 wd_779 wd_780 rfl (by decide) rfl rfl (Nat.le_of_ble_eq_true rfl) (fun M9 => ?_)
        refine r_iconst (dt_NS_line.at 19 rfl) 0 (by decide) ?_
        refine r_istore_n (ls' := [.ref a0, .int p1, .int p2, .int 0, .retAddr 0, .retAddr 0, .retAddr 0]) (dt_NS_line.at 20 rfl) (by decide) rfl ?_
        refine r_iconst (dt_NS_line.at 21 rfl) 0 (by decide) ?_
        refine r_istore (ls' := [.ref a0, .int p1, .int p2, .int 0, .int 0, .retAddr 0, .retAddr 0]) (dt_NS_line.at 22 rfl) (by decide) rfl ?_
        refine r_aload_n (dt_NS_line.at 23 rfl) rfl ?_
        refine r_fR (dt_NS_line.at 24 rfl) fl_NS_46 rfl (fun b10 => ?_)
        refine r_cvI (c := 7) (rest := []) (ct_Walk_stepRoot b10 _) (dt_NS_line.at 25 rfl) mb_Walk_stepRoot wd_802 wd_803 wd_804 rfl (by decide) rfl rfl (Nat.le_of_ble_eq_true rfl) (fun r12 M11 => ?_)
        refine r_if_eq (tgt := 112) (dt_NS_line.at 26 rfl) (by decide) ?_ ?_
        · refine r_iload_n (dt_NS_line.at 52 rfl) rfl ?_
          refine r_if_ne (tgt := 120) (dt_NS_line.at 53 rfl) (by decide) ?_ ?_
          · refine r_iload_n (dt_NS_line.at 54 rfl) rfl ?_
            refine r_goto (tgt := 122) (dt_NS_line.at 55 rfl) (by decide) ?_
            exact r_iret (dt_NS_line.at 57 rfl) rfl
          · refine r_iload (dt_NS_line.at 56 rfl) rfl ?_
            exact r_iret (dt_NS_line.at 57 rfl) rfl
        · refine r_iconst (dt_NS_line.at 27 rfl) 0 (by decide) ?_
          refine r_istore (ls' := [.ref a0, .int p1, .int p2, .int 0, .int 0, .int 0, .retAddr 0]) (dt_NS_line.at 28 rfl) (by decide) rfl ?_
          exact Rf.msk [true, true, true, true, true, true, false] (rf_NS_line_L56 fu a0 p1 p2 0 0 0 M11)
      · refine r_bipush (dt_NS_line.at 10 rfl) (-2) (by decide) ?_
        exact r_iret (dt_NS_line.at 11 rfl) rfl
set_option maxRecDepth 20000 in
set_option maxHeartbeats 2000000 in
theorem ct_Outp_clear {G : am_G} {l : Launch} (a0 : Nat) (M : am_M) : Ct G l y_Outp_clear X_Outp_clear [.ref a0] M (F_Outp_clear a0 M) := by
  refine Ct.of (by decide +kernel) rfl rfl (Nat.le_of_ble_eq_true rfl) ?_
  unfold F_Outp_clear
  show Rf G l X_Outp_clear 0 [.ref a0] [] M _
  refine r_aload_n (dt_Outp_clear.at 0 rfl) rfl ?_
  refine r_iconst (dt_Outp_clear.at 1 rfl) 0 (by decide) ?_
  refine r_sI (dt_Outp_clear.at 2 rfl) fl_Outp_15 rfl rfl rfl (fun M1 => ?_)
  exact r_vret (dt_Outp_clear.at 3 rfl) rfl
set_option maxRecDepth 20000 in
set_option maxHeartbeats 2000000 in
theorem ct_Outp_put {G : am_G} {l : Launch} (a0 : Nat) (p1 : Int32) (M : am_M) : Ct G l y_Outp_put X_Outp_put [.ref a0, .int p1] M (F_Outp_put a0 p1 M) := by
  refine Ct.of (by decide +kernel) rfl rfl (Nat.le_of_ble_eq_true rfl) ?_
  unfold F_Outp_put
  show Rf G l X_Outp_put 0 [.ref a0, .int p1] [] M _
  refine r_aload_n (dt_Outp_put.at 0 rfl) rfl ?_
  refine r_fI (dt_Outp_put.at 1 rfl) fl_Outp_15 rfl (fun x1 => ?_)
  refine r_if_lt (tgt := 39) (dt_Outp_put.at 2 rfl) (by decide) ?_ ?_
  · exact r_vret (dt_Outp_put.at 21 rfl) rfl
  · refine r_aload_n (dt_Outp_put.at 3 rfl) rfl ?_
    refine r_fI (dt_Outp_put.at 4 rfl) fl_Outp_15 rfl (fun x2 => ?_)
    refine r_aload_n (dt_Outp_put.at 5 rfl) rfl ?_
    refine r_fR (dt_Outp_put.at 6 rfl) fl_Outp_9 rfl (fun b3 => ?_)
    refine r_aN (dt_Outp_put.at 7 rfl) (fun x4 => ?_)
    refine r_icmp_ge (tgt := 39) (dt_Outp_put.at 8 rfl) (by decide) ?_ ?_
    · exact r_vret (dt_Outp_put.at 21 rfl) rfl
    · refine r_aload_n (dt_Outp_put.at 9 rfl) rfl ?_
      refine r_fR (dt_Outp_put.at 10 rfl) fl_Outp_9 rfl (fun b5 => ?_)
      refine r_aload_n (dt_Outp_put.at 11 rfl) rfl ?_
      refine r_fI (dt_Outp_put.at 12 rfl) fl_Outp_15 rfl (fun x6 => ?_)
      refine r_iload_n (dt_Outp_put.at 13 rfl) rfl ?_
      refine r_tI (dt_Outp_put.at 14 rfl) (fun M7 => ?_)
      refine r_aload_n (dt_Outp_put.at 15 rfl) rfl ?_
      refine r_dup (dt_Outp_put.at 16 rfl) rfl ?_
      refine r_fI (dt_Outp_put.at 17 rfl) fl_Outp_15 rfl (fun x8 => ?_)
      refine r_iconst (dt_Outp_put.at 18 rfl) 1 (by decide) ?_
      refine r_iadd (dt_Outp_put.at 19 rfl) ?_
      refine r_sI (dt_Outp_put.at 20 rfl) fl_Outp_15 rfl rfl rfl (fun M9 => ?_)
      exact r_vret (dt_Outp_put.at 21 rfl) rfl
set_option maxRecDepth 20000 in
set_option maxHeartbeats 2000000 in
theorem rf_Outp_putNumber_L31 {G : am_G} {l : Launch}   : ∀ (n : Nat) (v0 : Nat) (v1 : Int32) (v2 : Int32) (v3 : Int32) (M : am_M), Rf G l X_Outp_putNumber 31 [.ref v0, .int v1, .int v2, .int v3] [] M (F_Outp_putNumber_L31 n v0 v1 v2 v3 M) := by
  intro n
  induction n with
  | zero => intro v0 v1 v2 v3 M; exact Rf.no
  | succ n ih =>
    intro v0 v1 v2 v3 M
    unfold F_Outp_putNumber_L31
    refine r_iload_n (dt_Outp_putNumber.at 20 rfl) rfl ?_
    refine r_bipush (dt_Outp_putNumber.at 21 rfl) 10 (by decide) ?_
    refine r_icmp_ge (tgt := 65) (dt_Outp_putNumber.at 22 rfl) (by decide) ?_ ?_
    · exact r_vret (dt_Outp_putNumber.at 40 rfl) rfl
    · refine r_iload_n (dt_Outp_putNumber.at 23 rfl) rfl ?_
      refine r_if_le (tgt := 65) (dt_Outp_putNumber.at 24 rfl) (by decide) ?_ ?_
      · exact r_vret (dt_Outp_putNumber.at 40 rfl) rfl
      · refine r_aload_n (dt_Outp_putNumber.at 25 rfl) rfl ?_
        refine r_bipush (dt_Outp_putNumber.at 26 rfl) 48 (by decide) ?_
        refine r_iload_n (dt_Outp_putNumber.at 27 rfl) rfl ?_
        refine r_iload_n (dt_Outp_putNumber.at 28 rfl) rfl ?_
        refine r_idiv (dt_Outp_putNumber.at 29 rfl) ?_
        refine r_bipush (dt_Outp_putNumber.at 30 rfl) 10 (by decide) ?_
        refine r_iremk (dt_Outp_putNumber.at 31 rfl) (by decide) ?_
        refine r_iadd (dt_Outp_putNumber.at 32 rfl) ?_
        refine r_cvV (c := 3) (rest := []) (ct_Outp_put v0 (48 + ((v1 / v2) - (v1 / v2) / 10 * 10)) _) (dt_Outp_putNumber.at 33 rfl) mb_Outp_put wd_849 wd_842 wd_843 rfl (by decide) rfl rfl (Nat.le_of_ble_eq_true rfl) (fun M1 => ?_)
        refine r_iload_n (dt_Outp_putNumber.at 34 rfl) rfl ?_
        refine r_bipush (dt_Outp_putNumber.at 35 rfl) 10 (by decide) ?_
        refine r_idivk (dt_Outp_putNumber.at 36 rfl) (by decide) ?_
        refine r_nmi (fun x2 => ?_)
        refine r_istore_n (ls' := [.ref v0, .int v1, .int x2, .int v3]) (dt_Outp_putNumber.at 37 rfl) (by decide) rfl ?_
        refine r_iincn (v := 1) (dt_Outp_putNumber.at 38 rfl) (by decide) rfl (by decide) (fun y => [.ref v0, .int v1, .int x2, .int y]) (fun _ => rfl) (fun x3 => ?_)
        refine r_goto (tgt := 31) (dt_Outp_putNumber.at 39 rfl) (by decide) ?_
        exact Rf.msk [true, true, true, true] (ih v0 v1 x2 x3 M1)
set_option maxRecDepth 20000 in
set_option maxHeartbeats 2000000 in
theorem rf_Outp_putNumber_L4 {G : am_G} {l : Launch}   : ∀ (n : Nat) (v0 : Nat) (v1 : Int32) (v2 : Int32) (v3 : Int32) (M : am_M), Rf G l X_Outp_putNumber 4 [.ref v0, .int v1, .int v2, .int v3] [] M (F_Outp_putNumber_L4 n v0 v1 v2 v3 M) := by
  intro n
  induction n with
  | zero => intro v0 v1 v2 v3 M; exact Rf.no
  | succ n ih =>
    intro v0 v1 v2 v3 M
    unfold F_Outp_putNumber_L4
    refine r_iload_n (dt_Outp_putNumber.at 4 rfl) rfl ?_
    refine r_bipush (dt_Outp_putNumber.at 5 rfl) 9 (by decide) ?_
    refine r_icmp_ge (tgt := 29) (dt_Outp_putNumber.at 6 rfl) (by decide) ?_ ?_
    · refine r_iconst (dt_Outp_putNumber.at 18 rfl) 0 (by decide) ?_
      refine r_istore_n (ls' := [.ref v0, .int v1, .int v2, .int 0]) (dt_Outp_putNumber.at 19 rfl) (by decide) rfl ?_
      exact Rf.msk [true, true, true, true] (rf_Outp_putNumber_L31 fu v0 v1 v2 0 M)
    · refine r_iload_n (dt_Outp_putNumber.at 7 rfl) rfl ?_
      refine r_iload_n (dt_Outp_putNumber.at 8 rfl) rfl ?_
      refine r_idiv (dt_Outp_putNumber.at 9 rfl) ?_
      refine r_bipush (dt_Outp_putNumber.at 10 rfl) 9 (by decide) ?_
      refine r_icmp_le (tgt := 29) (dt_Outp_putNumber.at 11 rfl) (by decide) ?_ ?_
      · refine r_iconst (dt_Outp_putNumber.at 18 rfl) 0 (by decide) ?_
        refine r_istore_n (ls' := [.ref v0, .int v1, .int v2, .int 0]) (dt_Outp_putNumber.at 19 rfl) (by decide) rfl ?_
        exact Rf.msk [true, true, true, true] (rf_Outp_putNumber_L31 fu v0 v1 v2 0 M)
      · refine r_iload_n (dt_Outp_putNumber.at 12 rfl) rfl ?_
        refine r_bipush (dt_Outp_putNumber.at 13 rfl) 10 (by decide) ?_
        refine r_imul (dt_Outp_putNumber.at 14 rfl) ?_
        refine r_nmi (fun x4 => ?_)
        refine r_istore_n (ls' := [.ref v0, .int v1, .int x4, .int v3]) (dt_Outp_putNumber.at 15 rfl) (by decide) rfl ?_
        refine r_iincn (v := 1) (dt_Outp_putNumber.at 16 rfl) (by decide) rfl (by decide) (fun y => [.ref v0, .int v1, .int x4, .int y]) (fun _ => rfl) (fun x5 => ?_)
        refine r_goto (tgt := 4) (dt_Outp_putNumber.at 17 rfl) (by decide) ?_
        exact Rf.msk [true, true, true, true] (ih v0 v1 x4 x5 M)
set_option maxRecDepth 20000 in
set_option maxHeartbeats 2000000 in
theorem ct_Outp_putNumber {G : am_G} {l : Launch} (a0 : Nat) (p1 : Int32) (M : am_M) : Ct G l y_Outp_putNumber X_Outp_putNumber [.ref a0, .int p1] M (F_Outp_putNumber a0 p1 M) := by
  refine Ct.of (by decide +kernel) rfl rfl (Nat.le_of_ble_eq_true rfl) ?_
  unfold F_Outp_putNumber
  show Rf G l X_Outp_putNumber 0 [.ref a0, .int p1, .retAddr 0, .retAddr 0] [] M _
  refine r_iconst (dt_Outp_putNumber.at 0 rfl) 1 (by decide) ?_
  refine r_istore_n (ls' := [.ref a0, .int p1, .int 1, .retAddr 0]) (dt_Outp_putNumber.at 1 rfl) (by decide) rfl ?_
  refine r_iconst (dt_Outp_putNumber.at 2 rfl) 0 (by decide) ?_
  refine r_istore_n (ls' := [.ref a0, .int p1, .int 1, .int 0]) (dt_Outp_putNumber.at 3 rfl) (by decide) rfl ?_
  exact Rf.msk [true, true, true, true] (rf_Outp_putNumber_L4 fu a0 p1 1 0 M)
set_option maxRecDepth 20000 in
set_option maxHeartbeats 2000000 in
theorem rf_NS_tell_L162 {G : am_G} {l : Launch}   : ∀ (n : Nat) (v0 : Nat) (v2 : Nat) (v3 : Int32) (M : am_M), Rf G l X_NS_tell 162 [.ref v0, .retAddr 0, .ref v2, .int v3] [] M (F_NS_tell_L162 n v0 v2 v3 M) := by
  intro n
  induction n with
  | zero => intro v0 v2 v3 M; exact Rf.no
  | succ n ih =>
    intro v0 v2 v3 M
    unfold F_NS_tell_L162
    refine r_iload_n (dt_NS_tell.at 82 rfl) rfl ?_
    refine r_iconst (dt_NS_tell.at 83 rfl) 3 (by decide) ?_
    refine r_icmp_ge (tgt := 195) (dt_NS_tell.at 84 rfl) (by decide) ?_ ?_
    · refine r_aload_n (dt_NS_tell.at 98 rfl) rfl ?_
      refine r_fR (dt_NS_tell.at 99 rfl) fl_NS_37 rfl (fun b29 => ?_)
      refine r_fI (dt_NS_tell.at 100 rfl) fl_NS_113 rfl (fun x30 => ?_)
      exact r_iret (dt_NS_tell.at 101 rfl) rfl
    · refine r_aload_n (dt_NS_tell.at 85 rfl) rfl ?_
      refine r_fR (dt_NS_tell.at 86 rfl) fl_NS_37 rfl (fun b31 => ?_)
      refine r_bipush (dt_NS_tell.at 87 rfl) 32 (by decide) ?_
      refine r_cvV (c := 3) (rest := []) (ct_Outp_put b31 32 _) (dt_NS_tell.at 88 rfl) mb_Outp_put wd_841 wd_842 wd_843 rfl (by decide) rfl rfl (Nat.le_of_ble_eq_true rfl) (fun M32 => ?_)
      refine r_aload_n (dt_NS_tell.at 89 rfl) rfl ?_
      refine r_fR (dt_NS_tell.at 90 rfl) fl_NS_37 rfl (fun b33 => ?_)
      refine r_aload_n (dt_NS_tell.at 91 rfl) rfl ?_
      refine r_iload_n (dt_NS_tell.at 92 rfl) rfl ?_
      refine r_iconst (dt_NS_tell.at 93 rfl) 0 (by decide) ?_
      refine r_cvI (c := 6) (rest := [.ref b33]) (ct_Sprk_placeAt v2 v3 0 _) (dt_NS_tell.at 94 rfl) mb_Sprk_placeAt wd_724 wd_690 wd_691 rfl (by decide) rfl rfl (Nat.le_of_ble_eq_true rfl) (fun r35 M34 => ?_)
      refine r_cvV (c := 3) (rest := []) (ct_Outp_putNumber b33 r35 _) (dt_NS_tell.at 95 rfl) mb_Outp_putNumber wd_845 wd_846 wd_847 rfl (by decide) rfl rfl (Nat.le_of_ble_eq_true rfl) (fun M36 => ?_)
      refine r_iincn (v := 1) (dt_NS_tell.at 96 rfl) (by decide) rfl (by decide) (fun y => [.ref v0, .retAddr 0, .ref v2, .int y]) (fun _ => rfl) (fun x37 => ?_)
      refine r_goto (tgt := 162) (dt_NS_tell.at 97 rfl) (by decide) ?_
      exact Rf.msk [true, false, true, true] (ih v0 v2 x37 M36)
set_option maxRecDepth 20000 in
set_option maxHeartbeats 2000000 in
theorem rf_NS_tell_L120 {G : am_G} {l : Launch}   (v0 : Nat) (v2 : Nat) (M : am_M) : Rf G l X_NS_tell 120 [.ref v0, .retAddr 0, .ref v2, .retAddr 0] [] M (F_NS_tell_L120 v0 v2 M) := by
  unfold F_NS_tell_L120
  refine r_aload_n (dt_NS_tell.at 62 rfl) rfl ?_
  refine r_fR (dt_NS_tell.at 63 rfl) fl_NS_37 rfl (fun b19 => ?_)
  refine r_bipush (dt_NS_tell.at 64 rfl) 32 (by decide) ?_
  refine r_cvV (c := 3) (rest := []) (ct_Outp_put b19 32 _) (dt_NS_tell.at 65 rfl) mb_Outp_put wd_841 wd_842 wd_843 rfl (by decide) rfl rfl (Nat.le_of_ble_eq_true rfl) (fun M20 => ?_)
  refine r_aload_n (dt_NS_tell.at 66 rfl) rfl ?_
  refine r_fR (dt_NS_tell.at 67 rfl) fl_NS_37 rfl (fun b21 => ?_)
  refine r_aload_n (dt_NS_tell.at 68 rfl) rfl ?_
  refine r_fI (dt_NS_tell.at 69 rfl) fl_NS_197 rfl (fun x22 => ?_)
  refine r_cvV (c := 3) (rest := []) (ct_Outp_putNumber b21 x22 _) (dt_NS_tell.at 70 rfl) mb_Outp_putNumber wd_845 wd_846 wd_847 rfl (by decide) rfl rfl (Nat.le_of_ble_eq_true rfl) (fun M23 => ?_)
  refine r_aload_n (dt_NS_tell.at 71 rfl) rfl ?_
  refine r_fR (dt_NS_tell.at 72 rfl) fl_NS_37 rfl (fun b24 => ?_)
  refine r_bipush (dt_NS_tell.at 73 rfl) 45 (by decide) ?_
  refine r_cvV (c := 3) (rest := []) (ct_Outp_put b24 45 _) (dt_NS_tell.at 74 rfl) mb_Outp_put wd_841 wd_842 wd_843 rfl (by decide) rfl rfl (Nat.le_of_ble_eq_true rfl) (fun M25 => ?_)
  refine r_aload_n (dt_NS_tell.at 75 rfl) rfl ?_
  refine r_fR (dt_NS_tell.at 76 rfl) fl_NS_37 rfl (fun b26 => ?_)
  refine r_aload_n (dt_NS_tell.at 77 rfl) rfl ?_
  refine r_fI (dt_NS_tell.at 78 rfl) fl_NS_200 rfl (fun x27 => ?_)
  refine r_cvV (c := 3) (rest := []) (ct_Outp_putNumber b26 x27 _) (dt_NS_tell.at 79 rfl) mb_Outp_putNumber wd_845 wd_846 wd_847 rfl (by decide) rfl rfl (Nat.le_of_ble_eq_true rfl) (fun M28 => ?_)
  refine r_iconst (dt_NS_tell.at 80 rfl) 0 (by decide) ?_
  refine r_istore_n (ls' := [.ref v0, .retAddr 0, .ref v2, .int 0]) (dt_NS_tell.at 81 rfl) (by decide) rfl ?_
  exact Rf.msk [true, false, true, true] (rf_NS_tell_L162 fu v0 v2 0 M28)
set_option maxRecDepth 20000 in
set_option maxHeartbeats 2000000 in
theorem rf_NS_tell_L90 {G : am_G} {l : Launch}   (v0 : Nat) (v1 : Int32) (v2 : Nat) (M : am_M) : Rf G l X_NS_tell 90 [.ref v0, .int v1, .ref v2, .retAddr 0] [] M (F_NS_tell_L90 v0 v1 v2 M) := by
  unfold F_NS_tell_L90
  refine r_aload_n (dt_NS_tell.at 46 rfl) rfl ?_
  refine r_fI (dt_NS_tell.at 47 rfl) fl_NS_191 rfl (fun x18 => ?_)
  refine r_iconst (dt_NS_tell.at 48 rfl) 1 (by decide) ?_
  refine r_icmp_le (tgt := 120) (dt_NS_tell.at 49 rfl) (by decide) ?_ ?_
  · exact Rf.msk [true, false, true, false] (rf_NS_tell_L120 v0 v2 M)
  · refine r_aload_n (dt_NS_tell.at 50 rfl) rfl ?_
    refine r_fR (dt_NS_tell.at 51 rfl) fl_NS_37 rfl (fun b38 => ?_)
    refine r_bipush (dt_NS_tell.at 52 rfl) 46 (by decide) ?_
    refine r_cvV (c := 3) (rest := []) (ct_Outp_put b38 46 _) (dt_NS_tell.at 53 rfl) mb_Outp_put wd_841 wd_842 wd_843 rfl (by decide) rfl rfl (Nat.le_of_ble_eq_true rfl) (fun M39 => ?_)
    refine r_aload_n (dt_NS_tell.at 54 rfl) rfl ?_
    refine r_fR (dt_NS_tell.at 55 rfl) fl_NS_37 rfl (fun b40 => ?_)
    refine r_iload_n (dt_NS_tell.at 56 rfl) rfl ?_
    refine r_bipush (dt_NS_tell.at 57 rfl) 15 (by decide) ?_
    refine r_iand (dt_NS_tell.at 58 rfl) ?_
    refine r_iconst (dt_NS_tell.at 59 rfl) 1 (by decide) ?_
    refine r_isub (dt_NS_tell.at 60 rfl) ?_
    refine r_cvV (c := 3) (rest := []) (ct_Outp_putNumber b40 ((v1 &&& 15) - 1) _) (dt_NS_tell.at 61 rfl) mb_Outp_putNumber wd_845 wd_846 wd_847 rfl (by decide) rfl rfl (Nat.le_of_ble_eq_true rfl) (fun M41 => ?_)
    exact Rf.msk [true, false, true, false] (rf_NS_tell_L120 v0 v2 M41)
set_option maxRecDepth 20000 in
set_option maxHeartbeats 2000000 in
theorem ct_NS_tell {G : am_G} {l : Launch} (a0 : Nat) (p1 : Int32) (M : am_M) : Ct G l y_NS_tell X_NS_tell [.ref a0, .int p1] M (F_NS_tell a0 p1 M) := by
  refine Ct.of (by decide +kernel) rfl rfl (Nat.le_of_ble_eq_true rfl) ?_
  unfold F_NS_tell
  show Rf G l X_NS_tell 0 [.ref a0, .int p1, .retAddr 0, .retAddr 0] [] M _
  refine r_aload_n (dt_NS_tell.at 0 rfl) rfl ?_
  refine r_fR (dt_NS_tell.at 1 rfl) fl_NS_62 rfl (fun b1 => ?_)
  refine r_iload_n (dt_NS_tell.at 2 rfl) rfl ?_
  refine r_cvR (c := 0) (rest := []) (ct_Find_find b1 p1 _) (dt_NS_tell.at 3 rfl) mb_Find_find wd_639 wd_640 wd_641 rfl (by decide) rfl rfl (Nat.le_of_ble_eq_true rfl) (fun M2 => ?_) (fun b3 M2 => ?_)
  · refine r_astore_N (ls' := [.ref a0, .int p1, .null, .retAddr 0]) (dt_NS_tell.at 4 rfl) (by decide) rfl ?_
    refine r_aload_N (dt_NS_tell.at 5 rfl) rfl ?_
    refine r_ifnonnullN (dt_NS_tell.at 6 rfl) ?_
    refine r_bipush (dt_NS_tell.at 7 rfl) (-2) (by decide) ?_
    exact r_iret (dt_NS_tell.at 8 rfl) rfl
  · refine r_astore_n (ls' := [.ref a0, .int p1, .ref b3, .retAddr 0]) (dt_NS_tell.at 4 rfl) (by decide) rfl ?_
    refine r_aload_n (dt_NS_tell.at 5 rfl) rfl ?_
    refine r_ifnonnull (tgt := 16) (dt_NS_tell.at 6 rfl) (by decide) ?_
    refine r_aload_n (dt_NS_tell.at 9 rfl) rfl ?_
    refine r_fR (dt_NS_tell.at 10 rfl) fl_NS_37 rfl (fun b4 => ?_)
    refine r_cvV (c := 3) (rest := []) (ct_Outp_clear b4 _) (dt_NS_tell.at 11 rfl) mb_Outp_clear wd_837 wd_838 wd_839 rfl (by decide) rfl rfl (Nat.le_of_ble_eq_true rfl) (fun M5 => ?_)
    refine r_aload_n (dt_NS_tell.at 12 rfl) rfl ?_
    refine r_fR (dt_NS_tell.at 13 rfl) fl_NS_37 rfl (fun b6 => ?_)
    refine r_bipush (dt_NS_tell.at 14 rfl) 97 (by decide) ?_
    refine r_aload_n (dt_NS_tell.at 15 rfl) rfl ?_
    refine r_fI (dt_NS_tell.at 16 rfl) fl_NS_180 rfl (fun x7 => ?_)
    refine r_iadd (dt_NS_tell.at 17 rfl) ?_
    refine r_cvV (c := 3) (rest := []) (ct_Outp_put b6 (97 + x7) _) (dt_NS_tell.at 18 rfl) mb_Outp_put wd_841 wd_842 wd_843 rfl (by decide) rfl rfl (Nat.le_of_ble_eq_true rfl) (fun M8 => ?_)
    refine r_aload_n (dt_NS_tell.at 19 rfl) rfl ?_
    refine r_fR (dt_NS_tell.at 20 rfl) fl_NS_37 rfl (fun b9 => ?_)
    refine r_iload_n (dt_NS_tell.at 21 rfl) rfl ?_
    refine r_csI (rest := [.ref b9]) (ct_NS_sourceOf p1 _) (dt_NS_tell.at 22 rfl) mb_NS_sourceOf wd_700 wd_606 (by decide) rfl rfl (Nat.le_of_ble_eq_true rfl) (fun r11 M10 => ?_)
    refine r_cvV (c := 3) (rest := []) (ct_Outp_putNumber b9 r11 _) (dt_NS_tell.at 23 rfl) mb_Outp_putNumber wd_845 wd_846 wd_847 rfl (by decide) rfl rfl (Nat.le_of_ble_eq_true rfl) (fun M12 => ?_)
    refine r_aload_n (dt_NS_tell.at 24 rfl) rfl ?_
    refine r_fR (dt_NS_tell.at 25 rfl) fl_NS_37 rfl (fun b13 => ?_)
    refine r_iload_n (dt_NS_tell.at 26 rfl) rfl ?_
    refine r_csI (rest := [.ref b13]) (ct_NS_numberOf p1 _) (dt_NS_tell.at 27 rfl) mb_NS_numberOf wd_701 wd_610 (by decide) rfl rfl (Nat.le_of_ble_eq_true rfl) (fun r15 M14 => ?_)
    refine r_cvV (c := 3) (rest := []) (ct_Outp_putNumber b13 r15 _) (dt_NS_tell.at 28 rfl) mb_Outp_putNumber wd_845 wd_846 wd_847 rfl (by decide) rfl rfl (Nat.le_of_ble_eq_true rfl) (fun M16 => ?_)
    refine r_aload_n (dt_NS_tell.at 29 rfl) rfl ?_
    refine r_fI (dt_NS_tell.at 30 rfl) fl_NS_191 rfl (fun x17 => ?_)
    refine r_if_le (tgt := 90) (dt_NS_tell.at 31 rfl) (by decide) ?_ ?_
    · exact Rf.msk [true, true, true, false] (rf_NS_tell_L90 a0 p1 b3 M16)
    · refine r_aload_n (dt_NS_tell.at 32 rfl) rfl ?_
      refine r_fR (dt_NS_tell.at 33 rfl) fl_NS_37 rfl (fun b42 => ?_)
      refine r_bipush (dt_NS_tell.at 34 rfl) 46 (by decide) ?_
      refine r_cvV (c := 3) (rest := []) (ct_Outp_put b42 46 _) (dt_NS_tell.at 35 rfl) mb_Outp_put wd_841 wd_842 wd_843 rfl (by decide) rfl rfl (Nat.le_of_ble_eq_true rfl) (fun M43 => ?_)
      refine r_aload_n (dt_NS_tell.at 36 rfl) rfl ?_
      refine r_fR (dt_NS_tell.at 37 rfl) fl_NS_37 rfl (fun b44 => ?_)
      refine r_iload_n (dt_NS_tell.at 38 rfl) rfl ?_
      refine r_iconst (dt_NS_tell.at 39 rfl) 4 (by decide) ?_
      refine r_ishr (dt_NS_tell.at 40 rfl) ?_
      refine r_bipush (dt_NS_tell.at 41 rfl) 15 (by decide) ?_
      refine r_iand (dt_NS_tell.at 42 rfl) ?_
      refine r_iconst (dt_NS_tell.at 43 rfl) 1 (by decide) ?_
      refine r_isub (dt_NS_tell.at 44 rfl) ?_
      refine r_cvV (c := 3) (rest := []) (ct_Outp_putNumber b44 (((p1 >>> (4 &&& 31)) &&& 15) - 1) _) (dt_NS_tell.at 45 rfl) mb_Outp_putNumber wd_845 wd_846 wd_847 rfl (by decide) rfl rfl (Nat.le_of_ble_eq_true rfl) (fun M45 => ?_)
      exact Rf.msk [true, true, true, false] (rf_NS_tell_L90 a0 p1 b3 M45)
set_option maxRecDepth 20000 in
set_option maxHeartbeats 2000000 in
theorem ct_Outp_byteAt {G : am_G} {l : Launch} (a0 : Nat) (p1 : Int32) (M : am_M) : Ct G l y_Outp_byteAt X_Outp_byteAt [.ref a0, .int p1] M (F_Outp_byteAt a0 p1 M) := by
  refine Ct.of (by decide +kernel) rfl rfl (Nat.le_of_ble_eq_true rfl) ?_
  unfold F_Outp_byteAt
  show Rf G l X_Outp_byteAt 0 [.ref a0, .int p1] [] M _
  refine r_iload_n (dt_Outp_byteAt.at 0 rfl) rfl ?_
  refine r_if_lt (tgt := 21) (dt_Outp_byteAt.at 1 rfl) (by decide) ?_ ?_
  · refine r_iconst (dt_Outp_byteAt.at 11 rfl) (-1) (by decide) ?_
    exact r_iret (dt_Outp_byteAt.at 12 rfl) rfl
  · refine r_iload_n (dt_Outp_byteAt.at 2 rfl) rfl ?_
    refine r_aload_n (dt_Outp_byteAt.at 3 rfl) rfl ?_
    refine r_fI (dt_Outp_byteAt.at 4 rfl) fl_Outp_15 rfl (fun x1 => ?_)
    refine r_icmp_ge (tgt := 21) (dt_Outp_byteAt.at 5 rfl) (by decide) ?_ ?_
    · refine r_iconst (dt_Outp_byteAt.at 11 rfl) (-1) (by decide) ?_
      exact r_iret (dt_Outp_byteAt.at 12 rfl) rfl
    · refine r_aload_n (dt_Outp_byteAt.at 6 rfl) rfl ?_
      refine r_fR (dt_Outp_byteAt.at 7 rfl) fl_Outp_9 rfl (fun b2 => ?_)
      refine r_iload_n (dt_Outp_byteAt.at 8 rfl) rfl ?_
      refine r_aI (dt_Outp_byteAt.at 9 rfl) (fun x3 => ?_)
      refine r_goto (tgt := 22) (dt_Outp_byteAt.at 10 rfl) (by decide) ?_
      exact r_iret (dt_Outp_byteAt.at 12 rfl) rfl
set_option maxRecDepth 20000 in
set_option maxHeartbeats 2000000 in
theorem ct_NS_octet {G : am_G} {l : Launch} (a0 : Nat) (p1 : Int32) (M : am_M) : Ct G l y_NS_octet X_NS_octet [.ref a0, .int p1] M (F_NS_octet a0 p1 M) := by
  refine Ct.of (by decide +kernel) rfl rfl (Nat.le_of_ble_eq_true rfl) ?_
  unfold F_NS_octet
  show Rf G l X_NS_octet 0 [.ref a0, .int p1] [] M _
  refine r_aload_n (dt_NS_octet.at 0 rfl) rfl ?_
  refine r_fR (dt_NS_octet.at 1 rfl) fl_NS_37 rfl (fun b1 => ?_)
  refine r_iload_n (dt_NS_octet.at 2 rfl) rfl ?_
  refine r_cvI (c := 3) (rest := []) (ct_Outp_byteAt b1 p1 _) (dt_NS_octet.at 3 rfl) mb_Outp_byteAt wd_854 wd_855 wd_856 rfl (by decide) rfl rfl (Nat.le_of_ble_eq_true rfl) (fun r3 M2 => ?_)
  exact r_iret (dt_NS_octet.at 4 rfl) rfl
set_option maxRecDepth 20000 in
set_option maxHeartbeats 2000000 in
theorem ct_NS_isWindow {G : am_G} {l : Launch} (a0 : Nat) (p1 : Int32) (p2 : Int32) (M : am_M) : Ct G l y_NS_isWindow X_NS_isWindow [.ref a0, .int p1, .int p2] M (F_NS_isWindow a0 p1 p2 M) := by
  refine Ct.of (by decide +kernel) rfl rfl (Nat.le_of_ble_eq_true rfl) ?_
  unfold F_NS_isWindow
  show Rf G l X_NS_isWindow 0 [.ref a0, .int p1, .int p2] [] M _
  refine r_aload_n (dt_NS_isWindow.at 0 rfl) rfl ?_
  refine r_fR (dt_NS_isWindow.at 1 rfl) fl_NS_16 rfl (fun b1 => ?_)
  refine r_fI (dt_NS_isWindow.at 2 rfl) fl_NS_130 rfl (fun x2 => ?_)
  refine r_if_eq (tgt := 30) (dt_NS_isWindow.at 3 rfl) (by decide) ?_ ?_
  · refine r_iconst (dt_NS_isWindow.at 14 rfl) 0 (by decide) ?_
    exact r_zret (dt_NS_isWindow.at 15 rfl) rfl rfl
  · refine r_iload_n (dt_NS_isWindow.at 4 rfl) rfl ?_
    refine r_if_lt (tgt := 30) (dt_NS_isWindow.at 5 rfl) (by decide) ?_ ?_
    · refine r_iconst (dt_NS_isWindow.at 14 rfl) 0 (by decide) ?_
      exact r_zret (dt_NS_isWindow.at 15 rfl) rfl rfl
    · refine r_iload_n (dt_NS_isWindow.at 6 rfl) rfl ?_
      refine r_iload_n (dt_NS_isWindow.at 7 rfl) rfl ?_
      refine r_icmp_gt (tgt := 30) (dt_NS_isWindow.at 8 rfl) (by decide) ?_ ?_
      · refine r_iconst (dt_NS_isWindow.at 14 rfl) 0 (by decide) ?_
        exact r_zret (dt_NS_isWindow.at 15 rfl) rfl rfl
      · refine r_iload_n (dt_NS_isWindow.at 9 rfl) rfl ?_
        refine r_sipush (dt_NS_isWindow.at 10 rfl) 30001 (by decide) ?_
        refine r_icmp_gt (tgt := 30) (dt_NS_isWindow.at 11 rfl) (by decide) ?_ ?_
        · refine r_iconst (dt_NS_isWindow.at 14 rfl) 0 (by decide) ?_
          exact r_zret (dt_NS_isWindow.at 15 rfl) rfl rfl
        · refine r_iconst (dt_NS_isWindow.at 12 rfl) 1 (by decide) ?_
          refine r_goto (tgt := 31) (dt_NS_isWindow.at 13 rfl) (by decide) ?_
          exact r_zret (dt_NS_isWindow.at 15 rfl) rfl rfl
set_option maxRecDepth 20000 in
set_option maxHeartbeats 2000000 in
theorem rf_Scen_bornBefore_L48 {G : am_G} {l : Launch}   : ∀ (n : Nat) (v0 : Nat) (v1 : Int32) (v2 : Int32) (v5 : Int32) (v6 : Int32) (v7 : Int32) (M : am_M), Rf G l X_Scen_bornBefore 48 [.ref v0, .int v1, .int v2, .retAddr 0, .retAddr 0, .int v5, .int v6, .int v7] [] M (F_Scen_bornBefore_L48 n v0 v1 v2 v5 v6 v7 M) := by
  intro n
  induction n with
  | zero => intro v0 v1 v2 v5 v6 v7 M; exact Rf.no
  | succ n ih =>
    intro v0 v1 v2 v5 v6 v7 M
    unfold F_Scen_bornBefore_L48
    refine r_iload (dt_Scen_bornBefore.at 32 rfl) rfl ?_
    refine r_iload (dt_Scen_bornBefore.at 33 rfl) rfl ?_
    refine r_icmp_ge (tgt := 75) (dt_Scen_bornBefore.at 34 rfl) (by decide) ?_ ?_
    · refine r_iload (dt_Scen_bornBefore.at 44 rfl) rfl ?_
      exact r_iret (dt_Scen_bornBefore.at 45 rfl) rfl
    · refine r_aload_n (dt_Scen_bornBefore.at 35 rfl) rfl ?_
      refine r_iload_n (dt_Scen_bornBefore.at 36 rfl) rfl ?_
      refine r_iload (dt_Scen_bornBefore.at 37 rfl) rfl ?_
      refine r_cvI (c := 5) (rest := []) (ct_Scen_birthTick v0 v1 v7 _) (dt_Scen_bornBefore.at 38 rfl) mb_Scen_birthTick wd_871 wd_647 wd_648 rfl (by decide) rfl rfl (Nat.le_of_ble_eq_true rfl) (fun r12 M11 => ?_)
      refine r_iload_n (dt_Scen_bornBefore.at 39 rfl) rfl ?_
      refine r_icmp_ge (tgt := 69) (dt_Scen_bornBefore.at 40 rfl) (by decide) ?_ ?_
      · refine r_iincn (v := 1) (dt_Scen_bornBefore.at 42 rfl) (by decide) rfl (by decide) (fun y => [.ref v0, .int v1, .int v2, .retAddr 0, .retAddr 0, .int v5, .int v6, .int y]) (fun _ => rfl) (fun x13 => ?_)
        refine r_goto (tgt := 48) (dt_Scen_bornBefore.at 43 rfl) (by decide) ?_
        exact Rf.msk [true, true, true, false, false, true, true, true] (ih v0 v1 v2 v5 v6 x13 M11)
      · refine r_iincn (v := 1) (dt_Scen_bornBefore.at 41 rfl) (by decide) rfl (by decide) (fun y => [.ref v0, .int v1, .int v2, .retAddr 0, .retAddr 0, .int v5, .int y, .int v7]) (fun _ => rfl) (fun x14 => ?_)
        refine r_iincn (v := 1) (dt_Scen_bornBefore.at 42 rfl) (by decide) rfl (by decide) (fun y => [.ref v0, .int v1, .int v2, .retAddr 0, .retAddr 0, .int v5, .int x14, .int y]) (fun _ => rfl) (fun x15 => ?_)
        refine r_goto (tgt := 48) (dt_Scen_bornBefore.at 43 rfl) (by decide) ?_
        exact Rf.msk [true, true, true, false, false, true, true, true] (ih v0 v1 v2 v5 x14 x15 M11)
set_option maxRecDepth 20000 in
set_option maxHeartbeats 2000000 in
theorem ct_Scen_bornBefore {G : am_G} {l : Launch} (a0 : Nat) (p1 : Int32) (p2 : Int32) (M : am_M) : Ct G l y_Scen_bornBefore X_Scen_bornBefore [.ref a0, .int p1, .int p2] M (F_Scen_bornBefore a0 p1 p2 M) := by
  refine Ct.of (by decide +kernel) rfl rfl (Nat.le_of_ble_eq_true rfl) ?_
  unfold F_Scen_bornBefore
  show Rf G l X_Scen_bornBefore 0 [.ref a0, .int p1, .int p2, .retAddr 0, .retAddr 0, .retAddr 0, .retAddr 0, .retAddr 0] [] M _
  refine r_aload_n (dt_Scen_bornBefore.at 0 rfl) rfl ?_
  refine r_iload_n (dt_Scen_bornBefore.at 1 rfl) rfl ?_
  refine r_bipush (dt_Scen_bornBefore.at 2 rfl) 6 (by decide) ?_
  refine r_cvI (c := 5) (rest := []) (ct_Scen_ofSource a0 p1 6 _) (dt_Scen_bornBefore.at 3 rfl) mb_Scen_ofSource wd_507 wd_500 wd_501 rfl (by decide) rfl rfl (Nat.le_of_ble_eq_true rfl) (fun r2 M1 => ?_)
  refine r_istore_n (ls' := [.ref a0, .int p1, .int p2, .int r2, .retAddr 0, .retAddr 0, .retAddr 0, .retAddr 0]) (dt_Scen_bornBefore.at 4 rfl) (by decide) rfl ?_
  refine r_aload_n (dt_Scen_bornBefore.at 5 rfl) rfl ?_
  refine r_iload_n (dt_Scen_bornBefore.at 6 rfl) rfl ?_
  refine r_iload_n (dt_Scen_bornBefore.at 7 rfl) rfl ?_
  refine r_iconst (dt_Scen_bornBefore.at 8 rfl) 1 (by decide) ?_
  refine r_isub (dt_Scen_bornBefore.at 9 rfl) ?_
  refine r_aload_n (dt_Scen_bornBefore.at 10 rfl) rfl ?_
  refine r_iload_n (dt_Scen_bornBefore.at 11 rfl) rfl ?_
  refine r_bipush (dt_Scen_bornBefore.at 12 rfl) 8 (by decide) ?_
  refine r_cvI (c := 5) (rest := [.int (p2 - 1), .int p1, .ref a0]) (ct_Scen_ofSource a0 p1 8 _) (dt_Scen_bornBefore.at 13 rfl) mb_Scen_ofSource wd_507 wd_500 wd_501 rfl (by decide) rfl rfl (Nat.le_of_ble_eq_true rfl) (fun r4 M3 => ?_)
  refine r_isub (dt_Scen_bornBefore.at 14 rfl) ?_
  refine r_cvI (c := 5) (rest := []) (ct_Scen_burstsUpTo a0 p1 ((p2 - 1) - r4) _) (dt_Scen_bornBefore.at 15 rfl) mb_Scen_burstsUpTo wd_870 wd_504 wd_505 rfl (by decide) rfl rfl (Nat.le_of_ble_eq_true rfl) (fun r6 M5 => ?_)
  refine r_iload_n (dt_Scen_bornBefore.at 16 rfl) rfl ?_
  refine r_imul (dt_Scen_bornBefore.at 17 rfl) ?_
  refine r_nmi (fun x7 => ?_)
  refine r_istore (ls' := [.ref a0, .int p1, .int p2, .int r2, .int x7, .retAddr 0, .retAddr 0, .retAddr 0]) (dt_Scen_bornBefore.at 18 rfl) (by decide) rfl ?_
  refine r_aload_n (dt_Scen_bornBefore.at 19 rfl) rfl ?_
  refine r_iload_n (dt_Scen_bornBefore.at 20 rfl) rfl ?_
  refine r_iload_n (dt_Scen_bornBefore.at 21 rfl) rfl ?_
  refine r_iconst (dt_Scen_bornBefore.at 22 rfl) 1 (by decide) ?_
  refine r_isub (dt_Scen_bornBefore.at 23 rfl) ?_
  refine r_cvI (c := 5) (rest := []) (ct_Scen_burstsUpTo a0 p1 (p2 - 1) _) (dt_Scen_bornBefore.at 24 rfl) mb_Scen_burstsUpTo wd_870 wd_504 wd_505 rfl (by decide) rfl rfl (Nat.le_of_ble_eq_true rfl) (fun r9 M8 => ?_)
  refine r_iload_n (dt_Scen_bornBefore.at 25 rfl) rfl ?_
  refine r_imul (dt_Scen_bornBefore.at 26 rfl) ?_
  refine r_nmi (fun x10 => ?_)
  refine r_istore (ls' := [.ref a0, .int p1, .int p2, .int r2, .int x7, .int x10, .retAddr 0, .retAddr 0]) (dt_Scen_bornBefore.at 27 rfl) (by decide) rfl ?_
  refine r_iload (dt_Scen_bornBefore.at 28 rfl) rfl ?_
  refine r_istore (ls' := [.ref a0, .int p1, .int p2, .int r2, .int x7, .int x10, .int x7, .retAddr 0]) (dt_Scen_bornBefore.at 29 rfl) (by decide) rfl ?_
  refine r_iload (dt_Scen_bornBefore.at 30 rfl) rfl ?_
  refine r_istore (ls' := [.ref a0, .int p1, .int p2, .int r2, .int x7, .int x10, .int x7, .int x7]) (dt_Scen_bornBefore.at 31 rfl) (by decide) rfl ?_
  exact Rf.msk [true, true, true, false, false, true, true, true] (rf_Scen_bornBefore_L48 fu a0 p1 p2 x10 x7 x7 M8)
set_option maxRecDepth 20000 in
set_option maxHeartbeats 2000000 in
theorem ct_NS_births {G : am_G} {l : Launch} (a0 : Nat) (p1 : Int32) (p2 : Int32) (p3 : Int32) (M : am_M) : Ct G l y_NS_births X_NS_births [.ref a0, .int p1, .int p2, .int p3] M (F_NS_births a0 p1 p2 p3 M) := by
  refine Ct.of (by decide +kernel) rfl rfl (Nat.le_of_ble_eq_true rfl) ?_
  unfold F_NS_births
  show Rf G l X_NS_births 0 [.ref a0, .int p1, .int p2, .int p3] [] M _
  refine r_aload_n (dt_NS_births.at 0 rfl) rfl ?_
  refine r_fR (dt_NS_births.at 1 rfl) fl_NS_16 rfl (fun b1 => ?_)
  refine r_iload_n (dt_NS_births.at 2 rfl) rfl ?_
  refine r_cvI (c := 5) (rest := []) (ct_Scen_isSource b1 p1 _) (dt_NS_births.at 3 rfl) mb_Scen_isSource wd_547 wd_548 wd_549 rfl (by decide) rfl rfl (Nat.le_of_ble_eq_true rfl) (fun r3 M2 => ?_)
  refine r_if_eq (tgt := 20) (dt_NS_births.at 4 rfl) (by decide) ?_ ?_
  · refine r_bipush (dt_NS_births.at 10 rfl) (-2) (by decide) ?_
    exact r_iret (dt_NS_births.at 11 rfl) rfl
  · refine r_aload_n (dt_NS_births.at 5 rfl) rfl ?_
    refine r_iload_n (dt_NS_births.at 6 rfl) rfl ?_
    refine r_iload_n (dt_NS_births.at 7 rfl) rfl ?_
    refine r_cvI (c := 8) (rest := []) (ct_NS_isWindow a0 p2 p3 _) (dt_NS_births.at 8 rfl) mb_NS_isWindow wd_862 wd_864 wp_26 rfl (by decide) rfl rfl (Nat.le_of_ble_eq_true rfl) (fun r5 M4 => ?_)
    refine r_if_ne (tgt := 23) (dt_NS_births.at 9 rfl) (by decide) ?_ ?_
    · refine r_bipush (dt_NS_births.at 10 rfl) (-2) (by decide) ?_
      exact r_iret (dt_NS_births.at 11 rfl) rfl
    · refine r_aload_n (dt_NS_births.at 12 rfl) rfl ?_
      refine r_fR (dt_NS_births.at 13 rfl) fl_NS_16 rfl (fun b6 => ?_)
      refine r_iload_n (dt_NS_births.at 14 rfl) rfl ?_
      refine r_iload_n (dt_NS_births.at 15 rfl) rfl ?_
      refine r_cvI (c := 5) (rest := []) (ct_Scen_bornBefore b6 p1 p3 _) (dt_NS_births.at 16 rfl) mb_Scen_bornBefore wd_866 wd_867 wd_868 rfl (by decide) rfl rfl (Nat.le_of_ble_eq_true rfl) (fun r8 M7 => ?_)
      refine r_aload_n (dt_NS_births.at 17 rfl) rfl ?_
      refine r_fR (dt_NS_births.at 18 rfl) fl_NS_16 rfl (fun b9 => ?_)
      refine r_iload_n (dt_NS_births.at 19 rfl) rfl ?_
      refine r_iload_n (dt_NS_births.at 20 rfl) rfl ?_
      refine r_cvI (c := 5) (rest := [.int r8]) (ct_Scen_bornBefore b9 p1 p2 _) (dt_NS_births.at 21 rfl) mb_Scen_bornBefore wd_866 wd_867 wd_868 rfl (by decide) rfl rfl (Nat.le_of_ble_eq_true rfl) (fun r11 M10 => ?_)
      refine r_isub (dt_NS_births.at 22 rfl) ?_
      exact r_iret (dt_NS_births.at 23 rfl) rfl
set_option maxRecDepth 20000 in
set_option maxHeartbeats 2000000 in
theorem rf_Scen_tickOfBirth_L21 {G : am_G} {l : Launch}   : ∀ (n : Nat) (v0 : Nat) (v1 : Int32) (v2 : Int32) (v3 : Int32) (v4 : Int32) (v5 : Int32) (M : am_M), Rf G l X_Scen_tickOfBirth 21 [.ref v0, .int v1, .int v2, .int v3, .int v4, .int v5, .retAddr 0] [] M (F_Scen_tickOfBirth_L21 n v0 v1 v2 v3 v4 v5 M) := by
  intro n
  induction n with
  | zero => intro v0 v1 v2 v3 v4 v5 M; exact Rf.no
  | succ n ih =>
    intro v0 v1 v2 v3 v4 v5 M
    unfold F_Scen_tickOfBirth_L21
    refine r_iload (dt_Scen_tickOfBirth.at 14 rfl) rfl ?_
    refine r_bipush (dt_Scen_tickOfBirth.at 15 rfl) 32 (by decide) ?_
    refine r_icmp_ge (tgt := 73) (dt_Scen_tickOfBirth.at 16 rfl) (by decide) ?_ ?_
    · refine r_iload_n (dt_Scen_tickOfBirth.at 43 rfl) rfl ?_
      exact r_iret (dt_Scen_tickOfBirth.at 44 rfl) rfl
    · refine r_iload_n (dt_Scen_tickOfBirth.at 17 rfl) rfl ?_
      refine r_iload (dt_Scen_tickOfBirth.at 18 rfl) rfl ?_
      refine r_icmp_ge (tgt := 73) (dt_Scen_tickOfBirth.at 19 rfl) (by decide) ?_ ?_
      · refine r_iload_n (dt_Scen_tickOfBirth.at 43 rfl) rfl ?_
        exact r_iret (dt_Scen_tickOfBirth.at 44 rfl) rfl
      · refine r_iload_n (dt_Scen_tickOfBirth.at 20 rfl) rfl ?_
        refine r_iload (dt_Scen_tickOfBirth.at 21 rfl) rfl ?_
        refine r_iadd (dt_Scen_tickOfBirth.at 22 rfl) ?_
        refine r_iconst (dt_Scen_tickOfBirth.at 23 rfl) 2 (by decide) ?_
        refine r_idivk (dt_Scen_tickOfBirth.at 24 rfl) (by decide) ?_
        refine r_nmi (fun x6 => ?_)
        refine r_istore (ls' := [.ref v0, .int v1, .int v2, .int v3, .int v4, .int v5, .int x6]) (dt_Scen_tickOfBirth.at 25 rfl) (by decide) rfl ?_
        refine r_aload_n (dt_Scen_tickOfBirth.at 26 rfl) rfl ?_
        refine r_iload_n (dt_Scen_tickOfBirth.at 27 rfl) rfl ?_
        refine r_iload (dt_Scen_tickOfBirth.at 28 rfl) rfl ?_
        refine r_iconst (dt_Scen_tickOfBirth.at 29 rfl) 1 (by decide) ?_
        refine r_iadd (dt_Scen_tickOfBirth.at 30 rfl) ?_
        refine r_cvI (c := 5) (rest := []) (ct_Scen_bornBefore v0 v1 (x6 + 1) _) (dt_Scen_tickOfBirth.at 31 rfl) mb_Scen_bornBefore wd_884 wd_867 wd_868 rfl (by decide) rfl rfl (Nat.le_of_ble_eq_true rfl) (fun r8 M7 => ?_)
        refine r_iload_n (dt_Scen_tickOfBirth.at 32 rfl) rfl ?_
        refine r_icmp_le (tgt := 62) (dt_Scen_tickOfBirth.at 33 rfl) (by decide) ?_ ?_
        · refine r_iload (dt_Scen_tickOfBirth.at 37 rfl) rfl ?_
          refine r_iconst (dt_Scen_tickOfBirth.at 38 rfl) 1 (by decide) ?_
          refine r_iadd (dt_Scen_tickOfBirth.at 39 rfl) ?_
          refine r_nmi (fun x9 => ?_)
          refine r_istore_n (ls' := [.ref v0, .int v1, .int v2, .int x9, .int v4, .int v5, .int x6]) (dt_Scen_tickOfBirth.at 40 rfl) (by decide) rfl ?_
          refine r_iincn (v := 1) (dt_Scen_tickOfBirth.at 41 rfl) (by decide) rfl (by decide) (fun y => [.ref v0, .int v1, .int v2, .int x9, .int v4, .int y, .int x6]) (fun _ => rfl) (fun x10 => ?_)
          refine r_goto (tgt := 21) (dt_Scen_tickOfBirth.at 42 rfl) (by decide) ?_
          exact Rf.msk [true, true, true, true, true, true, false] (ih v0 v1 v2 x9 v4 x10 M7)
        · refine r_iload (dt_Scen_tickOfBirth.at 34 rfl) rfl ?_
          refine r_istore (ls' := [.ref v0, .int v1, .int v2, .int v3, .int x6, .int v5, .int x6]) (dt_Scen_tickOfBirth.at 35 rfl) (by decide) rfl ?_
          refine r_goto (tgt := 67) (dt_Scen_tickOfBirth.at 36 rfl) (by decide) ?_
          refine r_iincn (v := 1) (dt_Scen_tickOfBirth.at 41 rfl) (by decide) rfl (by decide) (fun y => [.ref v0, .int v1, .int v2, .int v3, .int x6, .int y, .int x6]) (fun _ => rfl) (fun x11 => ?_)
          refine r_goto (tgt := 21) (dt_Scen_tickOfBirth.at 42 rfl) (by decide) ?_
          exact Rf.msk [true, true, true, true, true, true, false] (ih v0 v1 v2 v3 x6 x11 M7)
set_option maxRecDepth 20000 in
set_option maxHeartbeats 2000000 in
theorem ct_Scen_tickOfBirth {G : am_G} {l : Launch} (a0 : Nat) (p1 : Int32) (p2 : Int32) (M : am_M) : Ct G l y_Scen_tickOfBirth X_Scen_tickOfBirth [.ref a0, .int p1, .int p2] M (F_Scen_tickOfBirth a0 p1 p2 M) := by
  refine Ct.of (by decide +kernel) rfl rfl (Nat.le_of_ble_eq_true rfl) ?_
  unfold F_Scen_tickOfBirth
  show Rf G l X_Scen_tickOfBirth 0 [.ref a0, .int p1, .int p2, .retAddr 0, .retAddr 0, .retAddr 0, .retAddr 0] [] M _
  refine r_aload_n (dt_Scen_tickOfBirth.at 0 rfl) rfl ?_
  refine r_iload_n (dt_Scen_tickOfBirth.at 1 rfl) rfl ?_
  refine r_iload_n (dt_Scen_tickOfBirth.at 2 rfl) rfl ?_
  refine r_cvI (c := 5) (rest := []) (ct_Scen_plannedTick a0 p1 p2 _) (dt_Scen_tickOfBirth.at 3 rfl) mb_Scen_plannedTick wd_650 wd_651 wd_652 rfl (by decide) rfl rfl (Nat.le_of_ble_eq_true rfl) (fun r2 M1 => ?_)
  refine r_istore_n (ls' := [.ref a0, .int p1, .int p2, .int r2, .retAddr 0, .retAddr 0, .retAddr 0]) (dt_Scen_tickOfBirth.at 4 rfl) (by decide) rfl ?_
  refine r_iload_n (dt_Scen_tickOfBirth.at 5 rfl) rfl ?_
  refine r_aload_n (dt_Scen_tickOfBirth.at 6 rfl) rfl ?_
  refine r_iload_n (dt_Scen_tickOfBirth.at 7 rfl) rfl ?_
  refine r_bipush (dt_Scen_tickOfBirth.at 8 rfl) 8 (by decide) ?_
  refine r_cvI (c := 5) (rest := [.int r2]) (ct_Scen_ofSource a0 p1 8 _) (dt_Scen_tickOfBirth.at 9 rfl) mb_Scen_ofSource wd_507 wd_500 wd_501 rfl (by decide) rfl rfl (Nat.le_of_ble_eq_true rfl) (fun r4 M3 => ?_)
  refine r_iadd (dt_Scen_tickOfBirth.at 10 rfl) ?_
  refine r_nmi (fun x5 => ?_)
  refine r_istore (ls' := [.ref a0, .int p1, .int p2, .int r2, .int x5, .retAddr 0, .retAddr 0]) (dt_Scen_tickOfBirth.at 11 rfl) (by decide) rfl ?_
  refine r_iconst (dt_Scen_tickOfBirth.at 12 rfl) 0 (by decide) ?_
  refine r_istore (ls' := [.ref a0, .int p1, .int p2, .int r2, .int x5, .int 0, .retAddr 0]) (dt_Scen_tickOfBirth.at 13 rfl) (by decide) rfl ?_
  exact Rf.msk [true, true, true, true, true, true, false] (rf_Scen_tickOfBirth_L21 fu a0 p1 p2 r2 x5 0 M3)
set_option maxRecDepth 20000 in
set_option maxHeartbeats 2000000 in
theorem rf_Scen_codeOfBirth_L58 {G : am_G} {l : Launch}   : ∀ (n : Nat) (v0 : Nat) (v1 : Int32) (v3 : Int32) (v4 : Int32) (v6 : Int32) (v7 : Int32) (M : am_M), Rf G l X_Scen_codeOfBirth 58 [.ref v0, .int v1, .retAddr 0, .int v3, .int v4, .retAddr 0, .int v6, .int v7] [] M (F_Scen_codeOfBirth_L58 n v0 v1 v3 v4 v6 v7 M) := by
  intro n
  induction n with
  | zero => intro v0 v1 v3 v4 v6 v7 M; exact Rf.no
  | succ n ih =>
    intro v0 v1 v3 v4 v6 v7 M
    unfold F_Scen_codeOfBirth_L58
    refine r_iload (dt_Scen_codeOfBirth.at 38 rfl) rfl ?_
    refine r_iload (dt_Scen_codeOfBirth.at 39 rfl) rfl ?_
    refine r_icmp_ge (tgt := 97) (dt_Scen_codeOfBirth.at 40 rfl) (by decide) ?_ ?_
    · refine r_iconst (dt_Scen_codeOfBirth.at 56 rfl) (-1) (by decide) ?_
      exact r_iret (dt_Scen_codeOfBirth.at 57 rfl) rfl
    · refine r_aload_n (dt_Scen_codeOfBirth.at 41 rfl) rfl ?_
      refine r_iload_n (dt_Scen_codeOfBirth.at 42 rfl) rfl ?_
      refine r_iload (dt_Scen_codeOfBirth.at 43 rfl) rfl ?_
      refine r_cvI (c := 5) (rest := []) (ct_Scen_birthTick v0 v1 v7 _) (dt_Scen_codeOfBirth.at 44 rfl) mb_Scen_birthTick wd_871 wd_647 wd_648 rfl (by decide) rfl rfl (Nat.le_of_ble_eq_true rfl) (fun r17 M16 => ?_)
      refine r_iload_n (dt_Scen_codeOfBirth.at 45 rfl) rfl ?_
      refine r_icmp_ne (tgt := 91) (dt_Scen_codeOfBirth.at 46 rfl) (by decide) ?_ ?_
      · refine r_iload (dt_Scen_codeOfBirth.at 47 rfl) rfl ?_
        refine r_if_ne (tgt := 88) (dt_Scen_codeOfBirth.at 48 rfl) (by decide) ?_ ?_
        · refine r_iload_n (dt_Scen_codeOfBirth.at 49 rfl) rfl ?_
          refine r_iload (dt_Scen_codeOfBirth.at 50 rfl) rfl ?_
          refine r_cnI (rest := []) (ct_NS_codeOfRoot v1 v7 _) (dt_Scen_codeOfBirth.at 51 rfl) mb_NS_codeOfRoot wd_657 wd_658 (by decide) rfl rfl (Nat.le_of_ble_eq_true rfl) (fun r19 M18 => ?_)
          exact r_iret (dt_Scen_codeOfBirth.at 52 rfl) rfl
        · refine r_iincn (v := (-1)) (dt_Scen_codeOfBirth.at 53 rfl) (by decide) rfl (by decide) (fun y => [.ref v0, .int v1, .retAddr 0, .int v3, .int y, .retAddr 0, .int v6, .int v7]) (fun _ => rfl) (fun x20 => ?_)
          refine r_iincn (v := 1) (dt_Scen_codeOfBirth.at 54 rfl) (by decide) rfl (by decide) (fun y => [.ref v0, .int v1, .retAddr 0, .int v3, .int x20, .retAddr 0, .int v6, .int y]) (fun _ => rfl) (fun x21 => ?_)
          refine r_goto (tgt := 58) (dt_Scen_codeOfBirth.at 55 rfl) (by decide) ?_
          exact Rf.msk [true, true, false, true, true, false, true, true] (ih v0 v1 v3 x20 v6 x21 M16)
      · refine r_iincn (v := 1) (dt_Scen_codeOfBirth.at 54 rfl) (by decide) rfl (by decide) (fun y => [.ref v0, .int v1, .retAddr 0, .int v3, .int v4, .retAddr 0, .int v6, .int y]) (fun _ => rfl) (fun x22 => ?_)
        refine r_goto (tgt := 58) (dt_Scen_codeOfBirth.at 55 rfl) (by decide) ?_
        exact Rf.msk [true, true, false, true, true, false, true, true] (ih v0 v1 v3 v4 v6 x22 M16)
set_option maxRecDepth 20000 in
set_option maxHeartbeats 2000000 in
theorem ct_Scen_codeOfBirth {G : am_G} {l : Launch} (a0 : Nat) (p1 : Int32) (p2 : Int32) (M : am_M) : Ct G l y_Scen_codeOfBirth X_Scen_codeOfBirth [.ref a0, .int p1, .int p2] M (F_Scen_codeOfBirth a0 p1 p2 M) := by
  refine Ct.of (by decide +kernel) rfl rfl (Nat.le_of_ble_eq_true rfl) ?_
  unfold F_Scen_codeOfBirth
  show Rf G l X_Scen_codeOfBirth 0 [.ref a0, .int p1, .int p2, .retAddr 0, .retAddr 0, .retAddr 0, .retAddr 0, .retAddr 0] [] M _
  refine r_aload_n (dt_Scen_codeOfBirth.at 0 rfl) rfl ?_
  refine r_iload_n (dt_Scen_codeOfBirth.at 1 rfl) rfl ?_
  refine r_iload_n (dt_Scen_codeOfBirth.at 2 rfl) rfl ?_
  refine r_cvI (c := 5) (rest := []) (ct_Scen_tickOfBirth a0 p1 p2 _) (dt_Scen_codeOfBirth.at 3 rfl) mb_Scen_tickOfBirth wd_880 wd_881 wd_882 rfl (by decide) rfl rfl (Nat.le_of_ble_eq_true rfl) (fun r2 M1 => ?_)
  refine r_istore_n (ls' := [.ref a0, .int p1, .int p2, .int r2, .retAddr 0, .retAddr 0, .retAddr 0, .retAddr 0]) (dt_Scen_codeOfBirth.at 4 rfl) (by decide) rfl ?_
  refine r_iload_n (dt_Scen_codeOfBirth.at 5 rfl) rfl ?_
  refine r_aload_n (dt_Scen_codeOfBirth.at 6 rfl) rfl ?_
  refine r_iload_n (dt_Scen_codeOfBirth.at 7 rfl) rfl ?_
  refine r_iload_n (dt_Scen_codeOfBirth.at 8 rfl) rfl ?_
  refine r_cvI (c := 5) (rest := [.int p2]) (ct_Scen_bornBefore a0 p1 r2 _) (dt_Scen_codeOfBirth.at 9 rfl) mb_Scen_bornBefore wd_884 wd_867 wd_868 rfl (by decide) rfl rfl (Nat.le_of_ble_eq_true rfl) (fun r4 M3 => ?_)
  refine r_isub (dt_Scen_codeOfBirth.at 10 rfl) ?_
  refine r_nmi (fun x5 => ?_)
  refine r_istore (ls' := [.ref a0, .int p1, .int p2, .int r2, .int x5, .retAddr 0, .retAddr 0, .retAddr 0]) (dt_Scen_codeOfBirth.at 11 rfl) (by decide) rfl ?_
  refine r_aload_n (dt_Scen_codeOfBirth.at 12 rfl) rfl ?_
  refine r_iload_n (dt_Scen_codeOfBirth.at 13 rfl) rfl ?_
  refine r_bipush (dt_Scen_codeOfBirth.at 14 rfl) 6 (by decide) ?_
  refine r_cvI (c := 5) (rest := []) (ct_Scen_ofSource a0 p1 6 _) (dt_Scen_codeOfBirth.at 15 rfl) mb_Scen_ofSource wd_507 wd_500 wd_501 rfl (by decide) rfl rfl (Nat.le_of_ble_eq_true rfl) (fun r7 M6 => ?_)
  refine r_istore (ls' := [.ref a0, .int p1, .int p2, .int r2, .int x5, .int r7, .retAddr 0, .retAddr 0]) (dt_Scen_codeOfBirth.at 16 rfl) (by decide) rfl ?_
  refine r_aload_n (dt_Scen_codeOfBirth.at 17 rfl) rfl ?_
  refine r_iload_n (dt_Scen_codeOfBirth.at 18 rfl) rfl ?_
  refine r_iload_n (dt_Scen_codeOfBirth.at 19 rfl) rfl ?_
  refine r_cvI (c := 5) (rest := []) (ct_Scen_burstsUpTo a0 p1 r2 _) (dt_Scen_codeOfBirth.at 20 rfl) mb_Scen_burstsUpTo wd_870 wd_504 wd_505 rfl (by decide) rfl rfl (Nat.le_of_ble_eq_true rfl) (fun r9 M8 => ?_)
  refine r_iload (dt_Scen_codeOfBirth.at 21 rfl) rfl ?_
  refine r_imul (dt_Scen_codeOfBirth.at 22 rfl) ?_
  refine r_nmi (fun x10 => ?_)
  refine r_istore (ls' := [.ref a0, .int p1, .int p2, .int r2, .int x5, .int r7, .int x10, .retAddr 0]) (dt_Scen_codeOfBirth.at 23 rfl) (by decide) rfl ?_
  refine r_aload_n (dt_Scen_codeOfBirth.at 24 rfl) rfl ?_
  refine r_iload_n (dt_Scen_codeOfBirth.at 25 rfl) rfl ?_
  refine r_iload_n (dt_Scen_codeOfBirth.at 26 rfl) rfl ?_
  refine r_iconst (dt_Scen_codeOfBirth.at 27 rfl) 1 (by decide) ?_
  refine r_isub (dt_Scen_codeOfBirth.at 28 rfl) ?_
  refine r_aload_n (dt_Scen_codeOfBirth.at 29 rfl) rfl ?_
  refine r_iload_n (dt_Scen_codeOfBirth.at 30 rfl) rfl ?_
  refine r_bipush (dt_Scen_codeOfBirth.at 31 rfl) 8 (by decide) ?_
  refine r_cvI (c := 5) (rest := [.int (r2 - 1), .int p1, .ref a0]) (ct_Scen_ofSource a0 p1 8 _) (dt_Scen_codeOfBirth.at 32 rfl) mb_Scen_ofSource wd_507 wd_500 wd_501 rfl (by decide) rfl rfl (Nat.le_of_ble_eq_true rfl) (fun r12 M11 => ?_)
  refine r_isub (dt_Scen_codeOfBirth.at 33 rfl) ?_
  refine r_cvI (c := 5) (rest := []) (ct_Scen_burstsUpTo a0 p1 ((r2 - 1) - r12) _) (dt_Scen_codeOfBirth.at 34 rfl) mb_Scen_burstsUpTo wd_870 wd_504 wd_505 rfl (by decide) rfl rfl (Nat.le_of_ble_eq_true rfl) (fun r14 M13 => ?_)
  refine r_iload (dt_Scen_codeOfBirth.at 35 rfl) rfl ?_
  refine r_imul (dt_Scen_codeOfBirth.at 36 rfl) ?_
  refine r_nmi (fun x15 => ?_)
  refine r_istore (ls' := [.ref a0, .int p1, .int p2, .int r2, .int x5, .int r7, .int x10, .int x15]) (dt_Scen_codeOfBirth.at 37 rfl) (by decide) rfl ?_
  exact Rf.msk [true, true, false, true, true, false, true, true] (rf_Scen_codeOfBirth_L58 fu a0 p1 r2 x5 x10 x15 M13)
set_option maxRecDepth 20000 in
set_option maxHeartbeats 2000000 in
theorem ct_NS_bornAs {G : am_G} {l : Launch} (a0 : Nat) (p1 : Int32) (p2 : Int32) (M : am_M) : Ct G l y_NS_bornAs X_NS_bornAs [.ref a0, .int p1, .int p2] M (F_NS_bornAs a0 p1 p2 M) := by
  refine Ct.of (by decide +kernel) rfl rfl (Nat.le_of_ble_eq_true rfl) ?_
  unfold F_NS_bornAs
  show Rf G l X_NS_bornAs 0 [.ref a0, .int p1, .int p2] [] M _
  refine r_aload_n (dt_NS_bornAs.at 0 rfl) rfl ?_
  refine r_fR (dt_NS_bornAs.at 1 rfl) fl_NS_16 rfl (fun b1 => ?_)
  refine r_iload_n (dt_NS_bornAs.at 2 rfl) rfl ?_
  refine r_cvI (c := 5) (rest := []) (ct_Scen_isSource b1 p1 _) (dt_NS_bornAs.at 3 rfl) mb_Scen_isSource wd_547 wd_548 wd_549 rfl (by decide) rfl rfl (Nat.le_of_ble_eq_true rfl) (fun r3 M2 => ?_)
  refine r_if_eq (tgt := 15) (dt_NS_bornAs.at 4 rfl) (by decide) ?_ ?_
  · refine r_bipush (dt_NS_bornAs.at 7 rfl) (-2) (by decide) ?_
    exact r_iret (dt_NS_bornAs.at 8 rfl) rfl
  · refine r_iload_n (dt_NS_bornAs.at 5 rfl) rfl ?_
    refine r_if_ge (tgt := 18) (dt_NS_bornAs.at 6 rfl) (by decide) ?_ ?_
    · refine r_iload_n (dt_NS_bornAs.at 9 rfl) rfl ?_
      refine r_aload_n (dt_NS_bornAs.at 10 rfl) rfl ?_
      refine r_fR (dt_NS_bornAs.at 11 rfl) fl_NS_16 rfl (fun b4 => ?_)
      refine r_iload_n (dt_NS_bornAs.at 12 rfl) rfl ?_
      refine r_bipush (dt_NS_bornAs.at 13 rfl) 9 (by decide) ?_
      refine r_cvI (c := 5) (rest := [.int p2]) (ct_Scen_ofSource b4 p1 9 _) (dt_NS_bornAs.at 14 rfl) mb_Scen_ofSource wd_551 wd_500 wd_501 rfl (by decide) rfl rfl (Nat.le_of_ble_eq_true rfl) (fun r6 M5 => ?_)
      refine r_icmp_ge (tgt := 44) (dt_NS_bornAs.at 15 rfl) (by decide) ?_ ?_
      · refine r_iconst (dt_NS_bornAs.at 22 rfl) (-1) (by decide) ?_
        exact r_iret (dt_NS_bornAs.at 23 rfl) rfl
      · refine r_aload_n (dt_NS_bornAs.at 16 rfl) rfl ?_
        refine r_fR (dt_NS_bornAs.at 17 rfl) fl_NS_16 rfl (fun b7 => ?_)
        refine r_iload_n (dt_NS_bornAs.at 18 rfl) rfl ?_
        refine r_iload_n (dt_NS_bornAs.at 19 rfl) rfl ?_
        refine r_cvI (c := 5) (rest := []) (ct_Scen_codeOfBirth b7 p1 p2 _) (dt_NS_bornAs.at 20 rfl) mb_Scen_codeOfBirth wd_876 wd_877 wd_878 rfl (by decide) rfl rfl (Nat.le_of_ble_eq_true rfl) (fun r9 M8 => ?_)
        refine r_goto (tgt := 45) (dt_NS_bornAs.at 21 rfl) (by decide) ?_
        exact r_iret (dt_NS_bornAs.at 23 rfl) rfl
    · refine r_bipush (dt_NS_bornAs.at 7 rfl) (-2) (by decide) ?_
      exact r_iret (dt_NS_bornAs.at 8 rfl) rfl
set_option maxRecDepth 20000 in
set_option maxHeartbeats 2000000 in
theorem ct_NS_latest {G : am_G} {l : Launch} (a0 : Nat) (p1 : Int32) (p2 : Int32) (M : am_M) : Ct G l y_NS_latest X_NS_latest [.ref a0, .int p1, .int p2] M (F_NS_latest a0 p1 p2 M) := by
  refine Ct.of (by decide +kernel) rfl rfl (Nat.le_of_ble_eq_true rfl) ?_
  unfold F_NS_latest
  show Rf G l X_NS_latest 0 [.ref a0, .int p1, .int p2, .retAddr 0] [] M _
  refine r_aload_n (dt_NS_latest.at 0 rfl) rfl ?_
  refine r_fR (dt_NS_latest.at 1 rfl) fl_NS_16 rfl (fun b1 => ?_)
  refine r_iload_n (dt_NS_latest.at 2 rfl) rfl ?_
  refine r_cvI (c := 5) (rest := []) (ct_Scen_isSource b1 p1 _) (dt_NS_latest.at 3 rfl) mb_Scen_isSource wd_547 wd_548 wd_549 rfl (by decide) rfl rfl (Nat.le_of_ble_eq_true rfl) (fun r3 M2 => ?_)
  refine r_if_eq (tgt := 18) (dt_NS_latest.at 4 rfl) (by decide) ?_ ?_
  · refine r_bipush (dt_NS_latest.at 8 rfl) (-2) (by decide) ?_
    exact r_iret (dt_NS_latest.at 9 rfl) rfl
  · refine r_iload_n (dt_NS_latest.at 5 rfl) rfl ?_
    refine r_csI (rest := []) (ct_NS_isTick p2 _) (dt_NS_latest.at 6 rfl) mb_NS_isTick wd_714 wd_715 (by decide) rfl rfl (Nat.le_of_ble_eq_true rfl) (fun r5 M4 => ?_)
    refine r_if_ne (tgt := 21) (dt_NS_latest.at 7 rfl) (by decide) ?_ ?_
    · refine r_bipush (dt_NS_latest.at 8 rfl) (-2) (by decide) ?_
      exact r_iret (dt_NS_latest.at 9 rfl) rfl
    · refine r_aload_n (dt_NS_latest.at 10 rfl) rfl ?_
      refine r_fR (dt_NS_latest.at 11 rfl) fl_NS_16 rfl (fun b6 => ?_)
      refine r_iload_n (dt_NS_latest.at 12 rfl) rfl ?_
      refine r_iload_n (dt_NS_latest.at 13 rfl) rfl ?_
      refine r_iconst (dt_NS_latest.at 14 rfl) 1 (by decide) ?_
      refine r_iadd (dt_NS_latest.at 15 rfl) ?_
      refine r_cvI (c := 5) (rest := []) (ct_Scen_bornBefore b6 p1 (p2 + 1) _) (dt_NS_latest.at 16 rfl) mb_Scen_bornBefore wd_866 wd_867 wd_868 rfl (by decide) rfl rfl (Nat.le_of_ble_eq_true rfl) (fun r8 M7 => ?_)
      refine r_istore_n (ls' := [.ref a0, .int p1, .int p2, .int r8]) (dt_NS_latest.at 17 rfl) (by decide) rfl ?_
      refine r_iload_n (dt_NS_latest.at 18 rfl) rfl ?_
      refine r_if_le (tgt := 51) (dt_NS_latest.at 19 rfl) (by decide) ?_ ?_
      · refine r_iconst (dt_NS_latest.at 28 rfl) (-1) (by decide) ?_
        exact r_iret (dt_NS_latest.at 29 rfl) rfl
      · refine r_aload_n (dt_NS_latest.at 20 rfl) rfl ?_
        refine r_fR (dt_NS_latest.at 21 rfl) fl_NS_16 rfl (fun b9 => ?_)
        refine r_iload_n (dt_NS_latest.at 22 rfl) rfl ?_
        refine r_iload_n (dt_NS_latest.at 23 rfl) rfl ?_
        refine r_iconst (dt_NS_latest.at 24 rfl) 1 (by decide) ?_
        refine r_isub (dt_NS_latest.at 25 rfl) ?_
        refine r_cvI (c := 5) (rest := []) (ct_Scen_codeOfBirth b9 p1 (r8 - 1) _) (dt_NS_latest.at 26 rfl) mb_Scen_codeOfBirth wd_876 wd_877 wd_878 rfl (by decide) rfl rfl (Nat.le_of_ble_eq_true rfl) (fun r11 M10 => ?_)
        refine r_goto (tgt := 52) (dt_NS_latest.at 27 rfl) (by decide) ?_
        exact r_iret (dt_NS_latest.at 29 rfl) rfl
set_option maxRecDepth 20000 in
set_option maxHeartbeats 2000000 in
theorem ct_NS_next {G : am_G} {l : Launch} (a0 : Nat) (p1 : Int32) (p2 : Int32) (M : am_M) : Ct G l y_NS_next X_NS_next [.ref a0, .int p1, .int p2] M (F_NS_next a0 p1 p2 M) := by
  refine Ct.of (by decide +kernel) rfl rfl (Nat.le_of_ble_eq_true rfl) ?_
  unfold F_NS_next
  show Rf G l X_NS_next 0 [.ref a0, .int p1, .int p2, .retAddr 0] [] M _
  refine r_aload_n (dt_NS_next.at 0 rfl) rfl ?_
  refine r_fR (dt_NS_next.at 1 rfl) fl_NS_16 rfl (fun b1 => ?_)
  refine r_iload_n (dt_NS_next.at 2 rfl) rfl ?_
  refine r_cvI (c := 5) (rest := []) (ct_Scen_isSource b1 p1 _) (dt_NS_next.at 3 rfl) mb_Scen_isSource wd_547 wd_548 wd_549 rfl (by decide) rfl rfl (Nat.le_of_ble_eq_true rfl) (fun r3 M2 => ?_)
  refine r_if_eq (tgt := 18) (dt_NS_next.at 4 rfl) (by decide) ?_ ?_
  · refine r_bipush (dt_NS_next.at 8 rfl) (-2) (by decide) ?_
    exact r_iret (dt_NS_next.at 9 rfl) rfl
  · refine r_iload_n (dt_NS_next.at 5 rfl) rfl ?_
    refine r_csI (rest := []) (ct_NS_isTick p2 _) (dt_NS_next.at 6 rfl) mb_NS_isTick wd_714 wd_715 (by decide) rfl rfl (Nat.le_of_ble_eq_true rfl) (fun r5 M4 => ?_)
    refine r_if_ne (tgt := 21) (dt_NS_next.at 7 rfl) (by decide) ?_ ?_
    · refine r_bipush (dt_NS_next.at 8 rfl) (-2) (by decide) ?_
      exact r_iret (dt_NS_next.at 9 rfl) rfl
    · refine r_aload_n (dt_NS_next.at 10 rfl) rfl ?_
      refine r_fR (dt_NS_next.at 11 rfl) fl_NS_16 rfl (fun b6 => ?_)
      refine r_iload_n (dt_NS_next.at 12 rfl) rfl ?_
      refine r_iload_n (dt_NS_next.at 13 rfl) rfl ?_
      refine r_cvI (c := 5) (rest := []) (ct_Scen_bornBefore b6 p1 p2 _) (dt_NS_next.at 14 rfl) mb_Scen_bornBefore wd_866 wd_867 wd_868 rfl (by decide) rfl rfl (Nat.le_of_ble_eq_true rfl) (fun r8 M7 => ?_)
      refine r_istore_n (ls' := [.ref a0, .int p1, .int p2, .int r8]) (dt_NS_next.at 15 rfl) (by decide) rfl ?_
      refine r_iload_n (dt_NS_next.at 16 rfl) rfl ?_
      refine r_aload_n (dt_NS_next.at 17 rfl) rfl ?_
      refine r_fR (dt_NS_next.at 18 rfl) fl_NS_16 rfl (fun b9 => ?_)
      refine r_iload_n (dt_NS_next.at 19 rfl) rfl ?_
      refine r_bipush (dt_NS_next.at 20 rfl) 9 (by decide) ?_
      refine r_cvI (c := 5) (rest := [.int r8]) (ct_Scen_ofSource b9 p1 9 _) (dt_NS_next.at 21 rfl) mb_Scen_ofSource wd_551 wd_500 wd_501 rfl (by decide) rfl rfl (Nat.le_of_ble_eq_true rfl) (fun r11 M10 => ?_)
      refine r_icmp_ge (tgt := 57) (dt_NS_next.at 22 rfl) (by decide) ?_ ?_
      · refine r_iconst (dt_NS_next.at 29 rfl) (-1) (by decide) ?_
        exact r_iret (dt_NS_next.at 30 rfl) rfl
      · refine r_aload_n (dt_NS_next.at 23 rfl) rfl ?_
        refine r_fR (dt_NS_next.at 24 rfl) fl_NS_16 rfl (fun b12 => ?_)
        refine r_iload_n (dt_NS_next.at 25 rfl) rfl ?_
        refine r_iload_n (dt_NS_next.at 26 rfl) rfl ?_
        refine r_cvI (c := 5) (rest := []) (ct_Scen_tickOfBirth b12 p1 r8 _) (dt_NS_next.at 27 rfl) mb_Scen_tickOfBirth wd_893 wd_881 wd_882 rfl (by decide) rfl rfl (Nat.le_of_ble_eq_true rfl) (fun r14 M13 => ?_)
        refine r_goto (tgt := 58) (dt_NS_next.at 28 rfl) (by decide) ?_
        exact r_iret (dt_NS_next.at 30 rfl) rfl
set_option maxRecDepth 20000 in
set_option maxHeartbeats 2000000 in
theorem rf_Scen_countBirths_L49 {G : am_G} {l : Launch}   : ∀ (n : Nat) (v0 : Nat) (v1 : Int32) (v2 : Int32) (v4 : Nat) (v6 : Int32) (v7 : Int32) (M : am_M), Rf G l X_Scen_countBirths 49 [.ref v0, .int v1, .int v2, .retAddr 0, .ref v4, .retAddr 0, .int v6, .int v7, .retAddr 0] [] M (F_Scen_countBirths_L49 n v0 v1 v2 v4 v6 v7 M) := by
  intro n
  induction n with
  | zero => intro v0 v1 v2 v4 v6 v7 M; exact Rf.no
  | succ n ih =>
    intro v0 v1 v2 v4 v6 v7 M
    unfold F_Scen_countBirths_L49
    refine r_iload (dt_Scen_countBirths.at 31 rfl) rfl ?_
    refine r_iload (dt_Scen_countBirths.at 32 rfl) rfl ?_
    refine r_icmp_ge (tgt := 95) (dt_Scen_countBirths.at 33 rfl) (by decide) ?_ ?_
    · exact r_vret (dt_Scen_countBirths.at 56 rfl) rfl
    · refine r_aload_n (dt_Scen_countBirths.at 34 rfl) rfl ?_
      refine r_iload_n (dt_Scen_countBirths.at 35 rfl) rfl ?_
      refine r_iload (dt_Scen_countBirths.at 36 rfl) rfl ?_
      refine r_cvI (c := 5) (rest := []) (ct_Scen_birthTick v0 v1 v7 _) (dt_Scen_countBirths.at 37 rfl) mb_Scen_birthTick wd_871 wd_647 wd_648 rfl (by decide) rfl rfl (Nat.le_of_ble_eq_true rfl) (fun r13 M12 => ?_)
      refine r_iload_n (dt_Scen_countBirths.at 38 rfl) rfl ?_
      refine r_isub (dt_Scen_countBirths.at 39 rfl) ?_
      refine r_nmi (fun x14 => ?_)
      refine r_istore (ls' := [.ref v0, .int v1, .int v2, .retAddr 0, .ref v4, .retAddr 0, .int v6, .int v7, .int x14]) (dt_Scen_countBirths.at 40 rfl) (by decide) rfl ?_
      refine r_iload (dt_Scen_countBirths.at 41 rfl) rfl ?_
      refine r_if_lt (tgt := 89) (dt_Scen_countBirths.at 42 rfl) (by decide) ?_ ?_
      · refine r_iincn (v := 1) (dt_Scen_countBirths.at 54 rfl) (by decide) rfl (by decide) (fun y => [.ref v0, .int v1, .int v2, .retAddr 0, .ref v4, .retAddr 0, .int v6, .int y, .int x14]) (fun _ => rfl) (fun x15 => ?_)
        refine r_goto (tgt := 49) (dt_Scen_countBirths.at 55 rfl) (by decide) ?_
        exact Rf.msk [true, true, true, false, true, false, true, true, false] (ih v0 v1 v2 v4 v6 x15 M12)
      · refine r_iload (dt_Scen_countBirths.at 43 rfl) rfl ?_
        refine r_aload (dt_Scen_countBirths.at 44 rfl) rfl ?_
        refine r_aN (dt_Scen_countBirths.at 45 rfl) (fun x16 => ?_)
        refine r_icmp_ge (tgt := 89) (dt_Scen_countBirths.at 46 rfl) (by decide) ?_ ?_
        · refine r_iincn (v := 1) (dt_Scen_countBirths.at 54 rfl) (by decide) rfl (by decide) (fun y => [.ref v0, .int v1, .int v2, .retAddr 0, .ref v4, .retAddr 0, .int v6, .int y, .int x14]) (fun _ => rfl) (fun x17 => ?_)
          refine r_goto (tgt := 49) (dt_Scen_countBirths.at 55 rfl) (by decide) ?_
          exact Rf.msk [true, true, true, false, true, false, true, true, false] (ih v0 v1 v2 v4 v6 x17 M12)
        · refine r_aload (dt_Scen_countBirths.at 47 rfl) rfl ?_
          refine r_iload (dt_Scen_countBirths.at 48 rfl) rfl ?_
          refine r_dup2 (dt_Scen_countBirths.at 49 rfl) rfl rfl ?_
          refine r_aI (dt_Scen_countBirths.at 50 rfl) (fun x18 => ?_)
          refine r_iconst (dt_Scen_countBirths.at 51 rfl) 1 (by decide) ?_
          refine r_iadd (dt_Scen_countBirths.at 52 rfl) ?_
          refine r_tI (dt_Scen_countBirths.at 53 rfl) (fun M19 => ?_)
          refine r_iincn (v := 1) (dt_Scen_countBirths.at 54 rfl) (by decide) rfl (by decide) (fun y => [.ref v0, .int v1, .int v2, .retAddr 0, .ref v4, .retAddr 0, .int v6, .int y, .int x14]) (fun _ => rfl) (fun x20 => ?_)
          refine r_goto (tgt := 49) (dt_Scen_countBirths.at 55 rfl) (by decide) ?_
          exact Rf.msk [true, true, true, false, true, false, true, true, false] (ih v0 v1 v2 v4 v6 x20 M19)
set_option maxRecDepth 20000 in
set_option maxHeartbeats 2000000 in
theorem ct_Scen_countBirths {G : am_G} {l : Launch} (a0 : Nat) (p1 : Int32) (p2 : Int32) (p3 : Int32) (p4 : Nat) (M : am_M) : Ct G l y_Scen_countBirths X_Scen_countBirths [.ref a0, .int p1, .int p2, .int p3, .ref p4] M (F_Scen_countBirths a0 p1 p2 p3 p4 M) := by
  refine Ct.of (by decide +kernel) rfl rfl (Nat.le_of_ble_eq_true rfl) ?_
  unfold F_Scen_countBirths
  show Rf G l X_Scen_countBirths 0 [.ref a0, .int p1, .int p2, .int p3, .ref p4, .retAddr 0, .retAddr 0, .retAddr 0, .retAddr 0] [] M _
  refine r_aload (dt_Scen_countBirths.at 0 rfl) rfl ?_
  refine r_iconst (dt_Scen_countBirths.at 1 rfl) 0 (by decide) ?_
  refine r_csV (rest := []) (ct_Arr_fill p4 0 _) (dt_Scen_countBirths.at 2 rfl) mb_Arr_fill wd_340 wd_341 (by decide) rfl rfl (Nat.le_of_ble_eq_true rfl) (fun M1 => ?_)
  refine r_aload_n (dt_Scen_countBirths.at 3 rfl) rfl ?_
  refine r_iload_n (dt_Scen_countBirths.at 4 rfl) rfl ?_
  refine r_bipush (dt_Scen_countBirths.at 5 rfl) 6 (by decide) ?_
  refine r_cvI (c := 5) (rest := []) (ct_Scen_ofSource a0 p1 6 _) (dt_Scen_countBirths.at 6 rfl) mb_Scen_ofSource wd_507 wd_500 wd_501 rfl (by decide) rfl rfl (Nat.le_of_ble_eq_true rfl) (fun r3 M2 => ?_)
  refine r_istore (ls' := [.ref a0, .int p1, .int p2, .int p3, .ref p4, .int r3, .retAddr 0, .retAddr 0, .retAddr 0]) (dt_Scen_countBirths.at 7 rfl) (by decide) rfl ?_
  refine r_aload_n (dt_Scen_countBirths.at 8 rfl) rfl ?_
  refine r_iload_n (dt_Scen_countBirths.at 9 rfl) rfl ?_
  refine r_iload_n (dt_Scen_countBirths.at 10 rfl) rfl ?_
  refine r_iconst (dt_Scen_countBirths.at 11 rfl) 1 (by decide) ?_
  refine r_isub (dt_Scen_countBirths.at 12 rfl) ?_
  refine r_cvI (c := 5) (rest := []) (ct_Scen_burstsUpTo a0 p1 (p3 - 1) _) (dt_Scen_countBirths.at 13 rfl) mb_Scen_burstsUpTo wd_870 wd_504 wd_505 rfl (by decide) rfl rfl (Nat.le_of_ble_eq_true rfl) (fun r5 M4 => ?_)
  refine r_iload (dt_Scen_countBirths.at 14 rfl) rfl ?_
  refine r_imul (dt_Scen_countBirths.at 15 rfl) ?_
  refine r_nmi (fun x6 => ?_)
  refine r_istore (ls' := [.ref a0, .int p1, .int p2, .int p3, .ref p4, .int r3, .int x6, .retAddr 0, .retAddr 0]) (dt_Scen_countBirths.at 16 rfl) (by decide) rfl ?_
  refine r_aload_n (dt_Scen_countBirths.at 17 rfl) rfl ?_
  refine r_iload_n (dt_Scen_countBirths.at 18 rfl) rfl ?_
  refine r_iload_n (dt_Scen_countBirths.at 19 rfl) rfl ?_
  refine r_iconst (dt_Scen_countBirths.at 20 rfl) 1 (by decide) ?_
  refine r_isub (dt_Scen_countBirths.at 21 rfl) ?_
  refine r_aload_n (dt_Scen_countBirths.at 22 rfl) rfl ?_
  refine r_iload_n (dt_Scen_countBirths.at 23 rfl) rfl ?_
  refine r_bipush (dt_Scen_countBirths.at 24 rfl) 8 (by decide) ?_
  refine r_cvI (c := 5) (rest := [.int (p2 - 1), .int p1, .ref a0]) (ct_Scen_ofSource a0 p1 8 _) (dt_Scen_countBirths.at 25 rfl) mb_Scen_ofSource wd_507 wd_500 wd_501 rfl (by decide) rfl rfl (Nat.le_of_ble_eq_true rfl) (fun r8 M7 => ?_)
  refine r_isub (dt_Scen_countBirths.at 26 rfl) ?_
  refine r_cvI (c := 5) (rest := []) (ct_Scen_burstsUpTo a0 p1 ((p2 - 1) - r8) _) (dt_Scen_countBirths.at 27 rfl) mb_Scen_burstsUpTo wd_870 wd_504 wd_505 rfl (by decide) rfl rfl (Nat.le_of_ble_eq_true rfl) (fun r10 M9 => ?_)
  refine r_iload (dt_Scen_countBirths.at 28 rfl) rfl ?_
  refine r_imul (dt_Scen_countBirths.at 29 rfl) ?_
  refine r_nmi (fun x11 => ?_)
  refine r_istore (ls' := [.ref a0, .int p1, .int p2, .int p3, .ref p4, .int r3, .int x6, .int x11, .retAddr 0]) (dt_Scen_countBirths.at 30 rfl) (by decide) rfl ?_
  exact Rf.msk [true, true, true, false, true, false, true, true, false] (rf_Scen_countBirths_L49 fu a0 p1 p2 p4 x6 x11 M9)
set_option maxRecDepth 20000 in
set_option maxHeartbeats 2000000 in
theorem rf_NS_lull_L110 {G : am_G} {l : Launch} (k74 : Nat → Int32 → Int32 → Int32 → Int32 → Int32 → Int32 → Int32 → am_M → am_R) (hk74 : ∀ v0 v2 v3 v4 v5 v6 v7 v8 M, Rf G l X_NS_lull 74 [.ref v0, .retAddr 0, .int v2, .int v3, .int v4, .int v5, .int v6, .int v7, .int v8] [] M (k74 v0 v2 v3 v4 v5 v6 v7 v8 M)) (v0 : Nat) (v2 : Int32) (v3 : Int32) (v4 : Int32) (v5 : Int32) (v6 : Int32) (v8 : Int32) (s0 : Int32) (M : am_M) : Rf G l X_NS_lull 110 [.ref v0, .retAddr 0, .int v2, .int v3, .int v4, .int v5, .int v6, .retAddr 0, .int v8] [.int s0] M (F_NS_lull_L110 k74 v0 v2 v3 v4 v5 v6 v8 s0 M) := by
  unfold F_NS_lull_L110
  refine r_istore (ls' := [.ref v0, .retAddr 0, .int v2, .int v3, .int v4, .int v5, .int v6, .int s0, .int v8]) (dt_NS_lull.at 61 rfl) (by decide) rfl ?_
  refine r_iload (dt_NS_lull.at 62 rfl) rfl ?_
  refine r_iload (dt_NS_lull.at 63 rfl) rfl ?_
  refine r_icmp_le (tgt := 134) (dt_NS_lull.at 64 rfl) (by decide) ?_ ?_
  · refine r_iincn (v := 1) (dt_NS_lull.at 75 rfl) (by decide) rfl (by decide) (fun y => [.ref v0, .retAddr 0, .int v2, .int v3, .int v4, .int v5, .int v6, .int s0, .int y]) (fun _ => rfl) (fun x13 => ?_)
    refine r_goto (tgt := 74) (dt_NS_lull.at 76 rfl) (by decide) ?_
    exact Rf.msk [true, false, true, true, true, true, true, true, true] (hk74 v0 v2 v3 v4 v5 v6 s0 x13 M)
  · refine r_iload (dt_NS_lull.at 65 rfl) rfl ?_
    refine r_istore (ls' := [.ref v0, .retAddr 0, .int v2, .int v3, .int v4, .int s0, .int v6, .int s0, .int v8]) (dt_NS_lull.at 66 rfl) (by decide) rfl ?_
    refine r_iload_n (dt_NS_lull.at 67 rfl) rfl ?_
    refine r_iload (dt_NS_lull.at 68 rfl) rfl ?_
    refine r_iadd (dt_NS_lull.at 69 rfl) ?_
    refine r_iload (dt_NS_lull.at 70 rfl) rfl ?_
    refine r_isub (dt_NS_lull.at 71 rfl) ?_
    refine r_iconst (dt_NS_lull.at 72 rfl) 1 (by decide) ?_
    refine r_iadd (dt_NS_lull.at 73 rfl) ?_
    refine r_nmi (fun x14 => ?_)
    refine r_istore (ls' := [.ref v0, .retAddr 0, .int v2, .int v3, .int v4, .int s0, .int x14, .int s0, .int v8]) (dt_NS_lull.at 74 rfl) (by decide) rfl ?_
    refine r_iincn (v := 1) (dt_NS_lull.at 75 rfl) (by decide) rfl (by decide) (fun y => [.ref v0, .retAddr 0, .int v2, .int v3, .int v4, .int s0, .int x14, .int s0, .int y]) (fun _ => rfl) (fun x15 => ?_)
    refine r_goto (tgt := 74) (dt_NS_lull.at 76 rfl) (by decide) ?_
    exact Rf.msk [true, false, true, true, true, true, true, true, true] (hk74 v0 v2 v3 v4 s0 x14 s0 x15 M)
set_option maxRecDepth 20000 in
set_option maxHeartbeats 2000000 in
theorem rf_NS_lull_L74 {G : am_G} {l : Launch}   : ∀ (n : Nat) (v0 : Nat) (v2 : Int32) (v3 : Int32) (v4 : Int32) (v5 : Int32) (v6 : Int32) (v7 : Int32) (v8 : Int32) (M : am_M), Rf G l X_NS_lull 74 [.ref v0, .retAddr 0, .int v2, .int v3, .int v4, .int v5, .int v6, .int v7, .int v8] [] M (F_NS_lull_L74 n v0 v2 v3 v4 v5 v6 v7 v8 M) := by
  intro n
  induction n with
  | zero => intro v0 v2 v3 v4 v5 v6 v7 v8 M; exact Rf.no
  | succ n ih =>
    intro v0 v2 v3 v4 v5 v6 v7 v8 M
    unfold F_NS_lull_L74
    refine r_iload (dt_NS_lull.at 41 rfl) rfl ?_
    refine r_iload_n (dt_NS_lull.at 42 rfl) rfl ?_
    refine r_iload_n (dt_NS_lull.at 43 rfl) rfl ?_
    refine r_isub (dt_NS_lull.at 44 rfl) ?_
    refine r_icmp_ge (tgt := 140) (dt_NS_lull.at 45 rfl) (by decide) ?_ ?_
    · refine r_iload (dt_NS_lull.at 77 rfl) rfl ?_
      refine r_if_ne (tgt := 150) (dt_NS_lull.at 78 rfl) (by decide) ?_ ?_
      · refine r_iload (dt_NS_lull.at 79 rfl) rfl ?_
        refine r_goto (tgt := 152) (dt_NS_lull.at 80 rfl) (by decide) ?_
        exact r_iret (dt_NS_lull.at 82 rfl) rfl
      · refine r_iload (dt_NS_lull.at 81 rfl) rfl ?_
        exact r_iret (dt_NS_lull.at 82 rfl) rfl
    · refine r_iload (dt_NS_lull.at 46 rfl) rfl ?_
      refine r_aload_n (dt_NS_lull.at 47 rfl) rfl ?_
      refine r_fR (dt_NS_lull.at 48 rfl) fl_NS_69 rfl (fun b9 => ?_)
      refine r_aN (dt_NS_lull.at 49 rfl) (fun x10 => ?_)
      refine r_icmp_ge (tgt := 140) (dt_NS_lull.at 50 rfl) (by decide) ?_ ?_
      · refine r_iload (dt_NS_lull.at 77 rfl) rfl ?_
        refine r_if_ne (tgt := 150) (dt_NS_lull.at 78 rfl) (by decide) ?_ ?_
        · refine r_iload (dt_NS_lull.at 79 rfl) rfl ?_
          refine r_goto (tgt := 152) (dt_NS_lull.at 80 rfl) (by decide) ?_
          exact r_iret (dt_NS_lull.at 82 rfl) rfl
        · refine r_iload (dt_NS_lull.at 81 rfl) rfl ?_
          exact r_iret (dt_NS_lull.at 82 rfl) rfl
      · refine r_aload_n (dt_NS_lull.at 51 rfl) rfl ?_
        refine r_fR (dt_NS_lull.at 52 rfl) fl_NS_69 rfl (fun b11 => ?_)
        refine r_iload (dt_NS_lull.at 53 rfl) rfl ?_
        refine r_aI (dt_NS_lull.at 54 rfl) (fun x12 => ?_)
        refine r_if_ne (tgt := 109) (dt_NS_lull.at 55 rfl) (by decide) ?_ ?_
        · refine r_iload (dt_NS_lull.at 56 rfl) rfl ?_
          refine r_iconst (dt_NS_lull.at 57 rfl) 1 (by decide) ?_
          refine r_iadd (dt_NS_lull.at 58 rfl) ?_
          refine r_goto (tgt := 110) (dt_NS_lull.at 59 rfl) (by decide) ?_
          exact Rf.msk [true, false, true, true, true, true, true, false, true] (rf_NS_lull_L110 (F_NS_lull_L74 n) ih v0 v2 v3 v4 v5 v6 v8 (v7 + 1) M)
        · refine r_iconst (dt_NS_lull.at 60 rfl) 0 (by decide) ?_
          exact Rf.msk [true, false, true, true, true, true, true, false, true] (rf_NS_lull_L110 (F_NS_lull_L74 n) ih v0 v2 v3 v4 v5 v6 v8 0 M)
set_option maxRecDepth 20000 in
set_option maxHeartbeats 2000000 in
theorem ct_NS_lull {G : am_G} {l : Launch} (a0 : Nat) (p1 : Int32) (p2 : Int32) (p3 : Int32) (p4 : Int32) (M : am_M) : Ct G l y_NS_lull X_NS_lull [.ref a0, .int p1, .int p2, .int p3, .int p4] M (F_NS_lull a0 p1 p2 p3 p4 M) := by
  refine Ct.of (by decide +kernel) rfl rfl (Nat.le_of_ble_eq_true rfl) ?_
  unfold F_NS_lull
  show Rf G l X_NS_lull 0 [.ref a0, .int p1, .int p2, .int p3, .int p4, .retAddr 0, .retAddr 0, .retAddr 0, .retAddr 0] [] M _
  refine r_aload_n (dt_NS_lull.at 0 rfl) rfl ?_
  refine r_fR (dt_NS_lull.at 1 rfl) fl_NS_16 rfl (fun b1 => ?_)
  refine r_iload_n (dt_NS_lull.at 2 rfl) rfl ?_
  refine r_cvI (c := 5) (rest := []) (ct_Scen_isSource b1 p1 _) (dt_NS_lull.at 3 rfl) mb_Scen_isSource wd_547 wd_548 wd_549 rfl (by decide) rfl rfl (Nat.le_of_ble_eq_true rfl) (fun r3 M2 => ?_)
  refine r_if_eq (tgt := 45) (dt_NS_lull.at 4 rfl) (by decide) ?_ ?_
  · refine r_bipush (dt_NS_lull.at 23 rfl) (-2) (by decide) ?_
    exact r_iret (dt_NS_lull.at 24 rfl) rfl
  · refine r_aload_n (dt_NS_lull.at 5 rfl) rfl ?_
    refine r_iload_n (dt_NS_lull.at 6 rfl) rfl ?_
    refine r_iload_n (dt_NS_lull.at 7 rfl) rfl ?_
    refine r_cvI (c := 8) (rest := []) (ct_NS_isWindow a0 p2 p3 _) (dt_NS_lull.at 8 rfl) mb_NS_isWindow wd_862 wd_864 wp_26 rfl (by decide) rfl rfl (Nat.le_of_ble_eq_true rfl) (fun r5 M4 => ?_)
    refine r_if_eq (tgt := 45) (dt_NS_lull.at 9 rfl) (by decide) ?_ ?_
    · refine r_bipush (dt_NS_lull.at 23 rfl) (-2) (by decide) ?_
      exact r_iret (dt_NS_lull.at 24 rfl) rfl
    · refine r_iload_n (dt_NS_lull.at 10 rfl) rfl ?_
      refine r_iload_n (dt_NS_lull.at 11 rfl) rfl ?_
      refine r_icmp_eq (tgt := 45) (dt_NS_lull.at 12 rfl) (by decide) ?_ ?_
      · refine r_bipush (dt_NS_lull.at 23 rfl) (-2) (by decide) ?_
        exact r_iret (dt_NS_lull.at 24 rfl) rfl
      · refine r_iload_n (dt_NS_lull.at 13 rfl) rfl ?_
        refine r_iload_n (dt_NS_lull.at 14 rfl) rfl ?_
        refine r_isub (dt_NS_lull.at 15 rfl) ?_
        refine r_sipush (dt_NS_lull.at 16 rfl) 2000 (by decide) ?_
        refine r_icmp_gt (tgt := 45) (dt_NS_lull.at 17 rfl) (by decide) ?_ ?_
        · refine r_bipush (dt_NS_lull.at 23 rfl) (-2) (by decide) ?_
          exact r_iret (dt_NS_lull.at 24 rfl) rfl
        · refine r_iload (dt_NS_lull.at 18 rfl) rfl ?_
          refine r_if_lt (tgt := 45) (dt_NS_lull.at 19 rfl) (by decide) ?_ ?_
          · refine r_bipush (dt_NS_lull.at 23 rfl) (-2) (by decide) ?_
            exact r_iret (dt_NS_lull.at 24 rfl) rfl
          · refine r_iload (dt_NS_lull.at 20 rfl) rfl ?_
            refine r_iconst (dt_NS_lull.at 21 rfl) 1 (by decide) ?_
            refine r_icmp_le (tgt := 48) (dt_NS_lull.at 22 rfl) (by decide) ?_ ?_
            · refine r_aload_n (dt_NS_lull.at 25 rfl) rfl ?_
              refine r_fR (dt_NS_lull.at 26 rfl) fl_NS_16 rfl (fun b6 => ?_)
              refine r_iload_n (dt_NS_lull.at 27 rfl) rfl ?_
              refine r_iload_n (dt_NS_lull.at 28 rfl) rfl ?_
              refine r_iload_n (dt_NS_lull.at 29 rfl) rfl ?_
              refine r_aload_n (dt_NS_lull.at 30 rfl) rfl ?_
              refine r_fR (dt_NS_lull.at 31 rfl) fl_NS_69 rfl (fun b7 => ?_)
              refine r_cvV (c := 5) (rest := []) (ct_Scen_countBirths b6 p1 p2 p3 b7 _) (dt_NS_lull.at 32 rfl) mb_Scen_countBirths wd_898 wd_899 wd_900 rfl (by decide) rfl rfl (Nat.le_of_ble_eq_true rfl) (fun M8 => ?_)
              refine r_iconst (dt_NS_lull.at 33 rfl) 0 (by decide) ?_
              refine r_istore (ls' := [.ref a0, .int p1, .int p2, .int p3, .int p4, .int 0, .retAddr 0, .retAddr 0, .retAddr 0]) (dt_NS_lull.at 34 rfl) (by decide) rfl ?_
              refine r_iconst (dt_NS_lull.at 35 rfl) (-1) (by decide) ?_
              refine r_istore (ls' := [.ref a0, .int p1, .int p2, .int p3, .int p4, .int 0, .int (-1), .retAddr 0, .retAddr 0]) (dt_NS_lull.at 36 rfl) (by decide) rfl ?_
              refine r_iconst (dt_NS_lull.at 37 rfl) 0 (by decide) ?_
              refine r_istore (ls' := [.ref a0, .int p1, .int p2, .int p3, .int p4, .int 0, .int (-1), .int 0, .retAddr 0]) (dt_NS_lull.at 38 rfl) (by decide) rfl ?_
              refine r_iconst (dt_NS_lull.at 39 rfl) 0 (by decide) ?_
              refine r_istore (ls' := [.ref a0, .int p1, .int p2, .int p3, .int p4, .int 0, .int (-1), .int 0, .int 0]) (dt_NS_lull.at 40 rfl) (by decide) rfl ?_
              exact Rf.msk [true, false, true, true, true, true, true, true, true] (rf_NS_lull_L74 fu a0 p2 p3 p4 0 (-1) 0 0 M8)
            · refine r_bipush (dt_NS_lull.at 23 rfl) (-2) (by decide) ?_
              exact r_iret (dt_NS_lull.at 24 rfl) rfl
