/-! ===== the walks, row by row (printed by wip/whole/emit.py) ===== -/
set_option maxRecDepth 20000 in
set_option maxHeartbeats 2000000 in
theorem ct_Md_place {G : am_G} {l : Launch} (a0 : Nat) (p1 : Int32) (p2 : Int32) (p3 : Int32) (M : am_M) : Ct G l y_Md_place X_Md_place [.ref a0, .int p1, .int p2, .int p3] M (F_Md_place a0 p1 p2 p3 M) := by
  refine Ct.of (by decide +kernel) rfl rfl (Nat.le_of_ble_eq_true rfl) ?_
  unfold F_Md_place
  show Rf G l X_Md_place 0 [.ref a0, .int p1, .int p2, .int p3] [] M _
  refine r_aload_n (dt_Md_place.at 0 rfl) rfl ?_
  refine r_iload_n (dt_Md_place.at 1 rfl) rfl ?_
  refine r_cvI (c := 9) (rest := []) (ct_Md_isSpark a0 p1 _) (dt_Md_place.at 2 rfl) mb_Md_isSpark wd_1441 wd_1443 wp_56 rfl (by decide) rfl rfl (Nat.le_of_ble_eq_true rfl) (fun r2 M1 => ?_)
  refine r_if_eq (tgt := 28) (dt_Md_place.at 3 rfl) (by decide) ?_ ?_
  · refine r_bipush (dt_Md_place.at 14 rfl) (-2) (by decide) ?_
    exact r_iret (dt_Md_place.at 15 rfl) rfl
  · refine r_aload_n (dt_Md_place.at 4 rfl) rfl ?_
    refine r_iload_n (dt_Md_place.at 5 rfl) rfl ?_
    refine r_cvI (c := 9) (rest := []) (ct_Md_isTick a0 p2 _) (dt_Md_place.at 6 rfl) mb_Md_isTick wd_1526 wd_1528 wp_70 rfl (by decide) rfl rfl (Nat.le_of_ble_eq_true rfl) (fun r4 M3 => ?_)
    refine r_if_eq (tgt := 28) (dt_Md_place.at 7 rfl) (by decide) ?_ ?_
    · refine r_bipush (dt_Md_place.at 14 rfl) (-2) (by decide) ?_
      exact r_iret (dt_Md_place.at 15 rfl) rfl
    · refine r_iload_n (dt_Md_place.at 8 rfl) rfl ?_
      refine r_i2l (dt_Md_place.at 9 rfl) ?_
      refine r_lconst (dt_Md_place.at 10 rfl) 0 (by decide) ?_
      refine r_ldc2 (dt_Md_place.at 11 rfl) 2 wd_1531 ?_
      refine r_csI (rest := []) (ct_Md_in (p3.toInt64) 0 2 _) (dt_Md_place.at 12 rfl) mb_Md_in wd_1289 wd_1290 (by decide) rfl rfl (Nat.le_of_ble_eq_true rfl) (fun r6 M5 => ?_)
      refine r_if_ne (tgt := 31) (dt_Md_place.at 13 rfl) (by decide) ?_ ?_
      · refine r_bipush (dt_Md_place.at 14 rfl) (-2) (by decide) ?_
        exact r_iret (dt_Md_place.at 15 rfl) rfl
      · refine r_aload_n (dt_Md_place.at 16 rfl) rfl ?_
        refine r_iload_n (dt_Md_place.at 17 rfl) rfl ?_
        refine r_cvV (c := 9) (rest := []) (ct_Md_lays a0 p1 _) (dt_Md_place.at 18 rfl) mb_Md_lays wd_1481 wd_1483 wp_60 rfl (by decide) rfl rfl (Nat.le_of_ble_eq_true rfl) (fun M7 => ?_)
        refine r_iload_n (dt_Md_place.at 19 rfl) rfl ?_
        refine r_aload_n (dt_Md_place.at 20 rfl) rfl ?_
        refine r_fI (dt_Md_place.at 21 rfl) fl_Md_292 rfl (fun x8 => ?_)
        refine r_icmp_lt (tgt := 66) (dt_Md_place.at 22 rfl) (by decide) ?_ ?_
        · refine r_iconst (dt_Md_place.at 35 rfl) (-1) (by decide) ?_
          exact r_iret (dt_Md_place.at 36 rfl) rfl
        · refine r_iload_n (dt_Md_place.at 23 rfl) rfl ?_
          refine r_aload_n (dt_Md_place.at 24 rfl) rfl ?_
          refine r_fI (dt_Md_place.at 25 rfl) fl_Md_303 rfl (fun x9 => ?_)
          refine r_icmp_ge (tgt := 66) (dt_Md_place.at 26 rfl) (by decide) ?_ ?_
          · refine r_iconst (dt_Md_place.at 35 rfl) (-1) (by decide) ?_
            exact r_iret (dt_Md_place.at 36 rfl) rfl
          · refine r_aload_n (dt_Md_place.at 27 rfl) rfl ?_
            refine r_iload_n (dt_Md_place.at 28 rfl) rfl ?_
            refine r_iload_n (dt_Md_place.at 29 rfl) rfl ?_
            refine r_aload_n (dt_Md_place.at 30 rfl) rfl ?_
            refine r_fI (dt_Md_place.at 31 rfl) fl_Md_292 rfl (fun x10 => ?_)
            refine r_isub (dt_Md_place.at 32 rfl) ?_
            refine r_cvI (c := 9) (rest := []) (ct_Md_placeBy a0 p3 (p2 - x10) _) (dt_Md_place.at 33 rfl) mb_Md_placeBy wd_1517 wd_1519 wp_69 rfl (by decide) rfl rfl (Nat.le_of_ble_eq_true rfl) (fun r12 M11 => ?_)
            refine r_goto (tgt := 67) (dt_Md_place.at 34 rfl) (by decide) ?_
            exact r_iret (dt_Md_place.at 36 rfl) rfl
set_option maxRecDepth 20000 in
set_option maxHeartbeats 2000000 in
theorem ct_Md_size {G : am_G} {l : Launch} (a0 : Nat) (p1 : Int32) (p2 : Int32) (M : am_M) : Ct G l y_Md_size X_Md_size [.ref a0, .int p1, .int p2] M (F_Md_size a0 p1 p2 M) := by
  refine Ct.of (by decide +kernel) rfl rfl (Nat.le_of_ble_eq_true rfl) ?_
  unfold F_Md_size
  show Rf G l X_Md_size 0 [.ref a0, .int p1, .int p2] [] M _
  refine r_aload_n (dt_Md_size.at 0 rfl) rfl ?_
  refine r_iload_n (dt_Md_size.at 1 rfl) rfl ?_
  refine r_cvI (c := 9) (rest := []) (ct_Md_isSpark a0 p1 _) (dt_Md_size.at 2 rfl) mb_Md_isSpark wd_1441 wd_1443 wp_56 rfl (by decide) rfl rfl (Nat.le_of_ble_eq_true rfl) (fun r2 M1 => ?_)
  refine r_if_eq (tgt := 16) (dt_Md_size.at 3 rfl) (by decide) ?_ ?_
  · refine r_bipush (dt_Md_size.at 8 rfl) (-2) (by decide) ?_
    exact r_iret (dt_Md_size.at 9 rfl) rfl
  · refine r_aload_n (dt_Md_size.at 4 rfl) rfl ?_
    refine r_iload_n (dt_Md_size.at 5 rfl) rfl ?_
    refine r_cvI (c := 9) (rest := []) (ct_Md_isTick a0 p2 _) (dt_Md_size.at 6 rfl) mb_Md_isTick wd_1526 wd_1528 wp_70 rfl (by decide) rfl rfl (Nat.le_of_ble_eq_true rfl) (fun r4 M3 => ?_)
    refine r_if_ne (tgt := 19) (dt_Md_size.at 7 rfl) (by decide) ?_ ?_
    · refine r_bipush (dt_Md_size.at 8 rfl) (-2) (by decide) ?_
      exact r_iret (dt_Md_size.at 9 rfl) rfl
    · refine r_aload_n (dt_Md_size.at 10 rfl) rfl ?_
      refine r_iload_n (dt_Md_size.at 11 rfl) rfl ?_
      refine r_cvV (c := 9) (rest := []) (ct_Md_lays a0 p1 _) (dt_Md_size.at 12 rfl) mb_Md_lays wd_1481 wd_1483 wp_60 rfl (by decide) rfl rfl (Nat.le_of_ble_eq_true rfl) (fun M5 => ?_)
      refine r_iload_n (dt_Md_size.at 13 rfl) rfl ?_
      refine r_aload_n (dt_Md_size.at 14 rfl) rfl ?_
      refine r_fI (dt_Md_size.at 15 rfl) fl_Md_292 rfl (fun x6 => ?_)
      refine r_icmp_lt (tgt := 40) (dt_Md_size.at 16 rfl) (by decide) ?_ ?_
      · refine r_iconst (dt_Md_size.at 21 rfl) (-1) (by decide) ?_
        exact r_iret (dt_Md_size.at 22 rfl) rfl
      · refine r_iload_n (dt_Md_size.at 17 rfl) rfl ?_
        refine r_aload_n (dt_Md_size.at 18 rfl) rfl ?_
        refine r_fI (dt_Md_size.at 19 rfl) fl_Md_303 rfl (fun x7 => ?_)
        refine r_icmp_lt (tgt := 42) (dt_Md_size.at 20 rfl) (by decide) ?_ ?_
        · refine r_iconst (dt_Md_size.at 23 rfl) 1 (by decide) ?_
          refine r_aload_n (dt_Md_size.at 24 rfl) rfl ?_
          refine r_fR (dt_Md_size.at 25 rfl) fl_Md_13 rfl (fun b8 => ?_)
          refine r_bipush (dt_Md_size.at 26 rfl) 8 (by decide) ?_
          refine r_aload_n (dt_Md_size.at 27 rfl) rfl ?_
          refine r_fI (dt_Md_size.at 28 rfl) fl_Md_278 rfl (fun x9 => ?_)
          refine r_imul (dt_Md_size.at 29 rfl) ?_
          refine r_iconst (dt_Md_size.at 30 rfl) 4 (by decide) ?_
          refine r_iadd (dt_Md_size.at 31 rfl) ?_
          refine r_aI (dt_Md_size.at 32 rfl) (fun x10 => ?_)
          refine r_iconst (dt_Md_size.at 33 rfl) 4 (by decide) ?_
          refine r_iload_n (dt_Md_size.at 34 rfl) rfl ?_
          refine r_aload_n (dt_Md_size.at 35 rfl) rfl ?_
          refine r_fI (dt_Md_size.at 36 rfl) fl_Md_292 rfl (fun x11 => ?_)
          refine r_isub (dt_Md_size.at 37 rfl) ?_
          refine r_imul (dt_Md_size.at 38 rfl) ?_
          refine r_aload_n (dt_Md_size.at 39 rfl) rfl ?_
          refine r_fI (dt_Md_size.at 40 rfl) fl_Md_303 rfl (fun x12 => ?_)
          refine r_aload_n (dt_Md_size.at 41 rfl) rfl ?_
          refine r_fI (dt_Md_size.at 42 rfl) fl_Md_292 rfl (fun x13 => ?_)
          refine r_isub (dt_Md_size.at 43 rfl) ?_
          refine r_idiv (dt_Md_size.at 44 rfl) ?_
          refine r_isub (dt_Md_size.at 45 rfl) ?_
          refine r_csI (rest := []) (ct_Math_max 1 (x10 - ((4 * (p2 - x11)) / (x12 - x13))) _) (dt_Md_size.at 46 rfl) mb_Math_max wd_1536 wd_655 (by decide) rfl rfl (Nat.le_of_ble_eq_true rfl) (fun r15 M14 => ?_)
          exact r_iret (dt_Md_size.at 47 rfl) rfl
        · refine r_iconst (dt_Md_size.at 21 rfl) (-1) (by decide) ?_
          exact r_iret (dt_Md_size.at 22 rfl) rfl
set_option maxRecDepth 20000 in
set_option maxHeartbeats 2000000 in
theorem rf_Md_overAt_L14 {G : am_G} {l : Launch}   : ∀ (n : Nat) (v0 : Nat) (v1 : Int32) (v2 : Int32) (v3 : Int32) (M : am_M), Rf G l X_Md_overAt 14 [.ref v0, .int v1, .int v2, .int v3] [] M (F_Md_overAt_L14 n v0 v1 v2 v3 M) := by
  intro n
  induction n with
  | zero => intro v0 v1 v2 v3 M; exact Rf.no
  | succ n ih =>
    intro v0 v1 v2 v3 M
    unfold F_Md_overAt_L14
    refine r_iload_n (dt_Md_overAt.at 10 rfl) rfl ?_
    refine r_iconst (dt_Md_overAt.at 11 rfl) 3 (by decide) ?_
    refine r_icmp_ge (tgt := 62) (dt_Md_overAt.at 12 rfl) (by decide) ?_ ?_
    · refine r_iload_n (dt_Md_overAt.at 38 rfl) rfl ?_
      exact r_iret (dt_Md_overAt.at 39 rfl) rfl
    · refine r_iload_n (dt_Md_overAt.at 13 rfl) rfl ?_
      refine r_aload_n (dt_Md_overAt.at 14 rfl) rfl ?_
      refine r_iload_n (dt_Md_overAt.at 15 rfl) rfl ?_
      refine r_iload_n (dt_Md_overAt.at 16 rfl) rfl ?_
      refine r_cvI (c := 9) (rest := [.int v2]) (ct_Md_raw v0 v3 v1 _) (dt_Md_overAt.at 17 rfl) mb_Md_raw wd_1505 wd_1507 wp_66 rfl (by decide) rfl rfl (Nat.le_of_ble_eq_true rfl) (fun r4 M3 => ?_)
      refine r_aload_n (dt_Md_overAt.at 18 rfl) rfl ?_
      refine r_iload_n (dt_Md_overAt.at 19 rfl) rfl ?_
      refine r_cvI (c := 9) (rest := [.int r4, .int v2]) (ct_Md_world v0 v3 _) (dt_Md_overAt.at 20 rfl) mb_Md_world wd_1509 wd_1511 wp_67 rfl (by decide) rfl rfl (Nat.le_of_ble_eq_true rfl) (fun r6 M5 => ?_)
      refine r_csI (rest := [.int v2]) (ct_Math_floorDiv r4 r6 _) (dt_Md_overAt.at 21 rfl) mb_Math_floorDiv wd_1545 wd_740 (by decide) rfl rfl (Nat.le_of_ble_eq_true rfl) (fun r8 M7 => ?_)
      refine r_aload_n (dt_Md_overAt.at 22 rfl) rfl ?_
      refine r_iload_n (dt_Md_overAt.at 23 rfl) rfl ?_
      refine r_iload_n (dt_Md_overAt.at 24 rfl) rfl ?_
      refine r_iconst (dt_Md_overAt.at 25 rfl) 1 (by decide) ?_
      refine r_isub (dt_Md_overAt.at 26 rfl) ?_
      refine r_cvI (c := 9) (rest := [.int r8, .int v2]) (ct_Md_raw v0 v3 (v1 - 1) _) (dt_Md_overAt.at 27 rfl) mb_Md_raw wd_1505 wd_1507 wp_66 rfl (by decide) rfl rfl (Nat.le_of_ble_eq_true rfl) (fun r10 M9 => ?_)
      refine r_aload_n (dt_Md_overAt.at 28 rfl) rfl ?_
      refine r_iload_n (dt_Md_overAt.at 29 rfl) rfl ?_
      refine r_cvI (c := 9) (rest := [.int r10, .int r8, .int v2]) (ct_Md_world v0 v3 _) (dt_Md_overAt.at 30 rfl) mb_Md_world wd_1509 wd_1511 wp_67 rfl (by decide) rfl rfl (Nat.le_of_ble_eq_true rfl) (fun r12 M11 => ?_)
      refine r_csI (rest := [.int r8, .int v2]) (ct_Math_floorDiv r10 r12 _) (dt_Md_overAt.at 31 rfl) mb_Math_floorDiv wd_1545 wd_740 (by decide) rfl rfl (Nat.le_of_ble_eq_true rfl) (fun r14 M13 => ?_)
      refine r_isub (dt_Md_overAt.at 32 rfl) ?_
      refine r_csI (rest := [.int v2]) (ct_Math_abs (r8 - r14) _) (dt_Md_overAt.at 33 rfl) mb_Math_abs wd_1546 wd_743 (by decide) rfl rfl (Nat.le_of_ble_eq_true rfl) (fun r16 M15 => ?_)
      refine r_iadd (dt_Md_overAt.at 34 rfl) ?_
      refine r_nmi (fun x17 => ?_)
      refine r_istore_n (ls' := [.ref v0, .int v1, .int x17, .int v3]) (dt_Md_overAt.at 35 rfl) (by decide) rfl ?_
      refine r_iincn (v := 1) (dt_Md_overAt.at 36 rfl) (by decide) rfl (by decide) (fun y => [.ref v0, .int v1, .int x17, .int y]) (fun _ => rfl) (fun x18 => ?_)
      refine r_goto (tgt := 14) (dt_Md_overAt.at 37 rfl) (by decide) ?_
      exact Rf.msk [true, true, true, true] (ih v0 v1 x17 x18 M15)
set_option maxRecDepth 20000 in
set_option maxHeartbeats 2000000 in
theorem ct_Md_overAt {G : am_G} {l : Launch} (a0 : Nat) (p1 : Int32) (M : am_M) : Ct G l y_Md_overAt X_Md_overAt [.ref a0, .int p1] M (F_Md_overAt a0 p1 M) := by
  refine Ct.of (by decide +kernel) rfl rfl (Nat.le_of_ble_eq_true rfl) ?_
  unfold F_Md_overAt
  show Rf G l X_Md_overAt 0 [.ref a0, .int p1, .retAddr 0, .retAddr 0] [] M _
  refine r_aload_n (dt_Md_overAt.at 0 rfl) rfl ?_
  refine r_cvI (c := 9) (rest := []) (ct_Md_edge a0 _) (dt_Md_overAt.at 1 rfl) mb_Md_edge wd_1497 wd_1499 wp_64 rfl (by decide) rfl rfl (Nat.le_of_ble_eq_true rfl) (fun r2 M1 => ?_)
  refine r_iconst (dt_Md_overAt.at 2 rfl) 2 (by decide) ?_
  refine r_icmp_ne (tgt := 10) (dt_Md_overAt.at 3 rfl) (by decide) ?_ ?_
  · refine r_iconst (dt_Md_overAt.at 4 rfl) 0 (by decide) ?_
    exact r_iret (dt_Md_overAt.at 5 rfl) rfl
  · refine r_iconst (dt_Md_overAt.at 6 rfl) 0 (by decide) ?_
    refine r_istore_n (ls' := [.ref a0, .int p1, .int 0, .retAddr 0]) (dt_Md_overAt.at 7 rfl) (by decide) rfl ?_
    refine r_iconst (dt_Md_overAt.at 8 rfl) 0 (by decide) ?_
    refine r_istore_n (ls' := [.ref a0, .int p1, .int 0, .int 0]) (dt_Md_overAt.at 9 rfl) (by decide) rfl ?_
    exact Rf.msk [true, true, true, true] (rf_Md_overAt_L14 fu a0 p1 0 0 M1)
set_option maxRecDepth 20000 in
set_option maxHeartbeats 2000000 in
theorem rf_Md_edges_L20 {G : am_G} {l : Launch}   : ∀ (n : Nat) (v0 : Nat) (v2 : Int32) (v3 : Int32) (M : am_M), Rf G l X_Md_edges 20 [.ref v0, .retAddr 0, .int v2, .int v3] [] M (F_Md_edges_L20 n v0 v2 v3 M) := by
  intro n
  induction n with
  | zero => intro v0 v2 v3 M; exact Rf.no
  | succ n ih =>
    intro v0 v2 v3 M
    unfold F_Md_edges_L20
    refine r_iload_n (dt_Md_edges.at 13 rfl) rfl ?_
    refine r_aload_n (dt_Md_edges.at 14 rfl) rfl ?_
    refine r_fI (dt_Md_edges.at 15 rfl) fl_Md_303 rfl (fun x4 => ?_)
    refine r_aload_n (dt_Md_edges.at 16 rfl) rfl ?_
    refine r_fI (dt_Md_edges.at 17 rfl) fl_Md_292 rfl (fun x5 => ?_)
    refine r_isub (dt_Md_edges.at 18 rfl) ?_
    refine r_icmp_ge (tgt := 47) (dt_Md_edges.at 19 rfl) (by decide) ?_ ?_
    · refine r_iload_n (dt_Md_edges.at 28 rfl) rfl ?_
      exact r_iret (dt_Md_edges.at 29 rfl) rfl
    · refine r_iload_n (dt_Md_edges.at 20 rfl) rfl ?_
      refine r_aload_n (dt_Md_edges.at 21 rfl) rfl ?_
      refine r_iload_n (dt_Md_edges.at 22 rfl) rfl ?_
      refine r_cvI (c := 9) (rest := [.int v2]) (ct_Md_overAt v0 v3 _) (dt_Md_edges.at 23 rfl) mb_Md_overAt wd_1541 wd_1543 wp_71 rfl (by decide) rfl rfl (Nat.le_of_ble_eq_true rfl) (fun r7 M6 => ?_)
      refine r_iadd (dt_Md_edges.at 24 rfl) ?_
      refine r_nmi (fun x8 => ?_)
      refine r_istore_n (ls' := [.ref v0, .retAddr 0, .int x8, .int v3]) (dt_Md_edges.at 25 rfl) (by decide) rfl ?_
      refine r_iincn (v := 1) (dt_Md_edges.at 26 rfl) (by decide) rfl (by decide) (fun y => [.ref v0, .retAddr 0, .int x8, .int y]) (fun _ => rfl) (fun x9 => ?_)
      refine r_goto (tgt := 20) (dt_Md_edges.at 27 rfl) (by decide) ?_
      exact Rf.msk [true, false, true, true] (ih v0 x8 x9 M6)
set_option maxRecDepth 20000 in
set_option maxHeartbeats 2000000 in
theorem ct_Md_edges {G : am_G} {l : Launch} (a0 : Nat) (p1 : Int32) (M : am_M) : Ct G l y_Md_edges X_Md_edges [.ref a0, .int p1] M (F_Md_edges a0 p1 M) := by
  refine Ct.of (by decide +kernel) rfl rfl (Nat.le_of_ble_eq_true rfl) ?_
  unfold F_Md_edges
  show Rf G l X_Md_edges 0 [.ref a0, .int p1, .retAddr 0, .retAddr 0] [] M _
  refine r_aload_n (dt_Md_edges.at 0 rfl) rfl ?_
  refine r_iload_n (dt_Md_edges.at 1 rfl) rfl ?_
  refine r_cvI (c := 9) (rest := []) (ct_Md_isSpark a0 p1 _) (dt_Md_edges.at 2 rfl) mb_Md_isSpark wd_1441 wd_1443 wp_56 rfl (by decide) rfl rfl (Nat.le_of_ble_eq_true rfl) (fun r2 M1 => ?_)
  refine r_if_ne (tgt := 11) (dt_Md_edges.at 3 rfl) (by decide) ?_ ?_
  · refine r_bipush (dt_Md_edges.at 4 rfl) (-2) (by decide) ?_
    exact r_iret (dt_Md_edges.at 5 rfl) rfl
  · refine r_aload_n (dt_Md_edges.at 6 rfl) rfl ?_
    refine r_iload_n (dt_Md_edges.at 7 rfl) rfl ?_
    refine r_cvV (c := 9) (rest := []) (ct_Md_lays a0 p1 _) (dt_Md_edges.at 8 rfl) mb_Md_lays wd_1481 wd_1483 wp_60 rfl (by decide) rfl rfl (Nat.le_of_ble_eq_true rfl) (fun M3 => ?_)
    refine r_iconst (dt_Md_edges.at 9 rfl) 0 (by decide) ?_
    refine r_istore_n (ls' := [.ref a0, .int p1, .int 0, .retAddr 0]) (dt_Md_edges.at 10 rfl) (by decide) rfl ?_
    refine r_iconst (dt_Md_edges.at 11 rfl) 1 (by decide) ?_
    refine r_istore_n (ls' := [.ref a0, .int p1, .int 0, .int 1]) (dt_Md_edges.at 12 rfl) (by decide) rfl ?_
    exact Rf.msk [true, false, true, true] (rf_Md_edges_L20 fu a0 0 1 M3)
set_option maxRecDepth 20000 in
set_option maxHeartbeats 2000000 in
theorem rf_Md_over_L18 {G : am_G} {l : Launch}   : ∀ (n : Nat) (v0 : Nat) (v2 : Int32) (M : am_M), Rf G l X_Md_over 18 [.ref v0, .retAddr 0, .int v2] [] M (F_Md_over_L18 n v0 v2 M) := by
  intro n
  induction n with
  | zero => intro v0 v2 M; exact Rf.no
  | succ n ih =>
    intro v0 v2 M
    unfold F_Md_over_L18
    refine r_iload_n (dt_Md_over.at 11 rfl) rfl ?_
    refine r_aload_n (dt_Md_over.at 12 rfl) rfl ?_
    refine r_fI (dt_Md_over.at 13 rfl) fl_Md_303 rfl (fun x4 => ?_)
    refine r_aload_n (dt_Md_over.at 14 rfl) rfl ?_
    refine r_fI (dt_Md_over.at 15 rfl) fl_Md_292 rfl (fun x5 => ?_)
    refine r_isub (dt_Md_over.at 16 rfl) ?_
    refine r_icmp_ge (tgt := 52) (dt_Md_over.at 17 rfl) (by decide) ?_ ?_
    · refine r_iconst (dt_Md_over.at 29 rfl) (-1) (by decide) ?_
      exact r_iret (dt_Md_over.at 30 rfl) rfl
    · refine r_aload_n (dt_Md_over.at 18 rfl) rfl ?_
      refine r_iload_n (dt_Md_over.at 19 rfl) rfl ?_
      refine r_cvI (c := 9) (rest := []) (ct_Md_overAt v0 v2 _) (dt_Md_over.at 20 rfl) mb_Md_overAt wd_1541 wd_1543 wp_71 rfl (by decide) rfl rfl (Nat.le_of_ble_eq_true rfl) (fun r7 M6 => ?_)
      refine r_if_le (tgt := 46) (dt_Md_over.at 21 rfl) (by decide) ?_ ?_
      · refine r_iincn (v := 1) (dt_Md_over.at 27 rfl) (by decide) rfl (by decide) (fun y => [.ref v0, .retAddr 0, .int y]) (fun _ => rfl) (fun x8 => ?_)
        refine r_goto (tgt := 18) (dt_Md_over.at 28 rfl) (by decide) ?_
        exact Rf.msk [true, false, true] (ih v0 x8 M6)
      · refine r_aload_n (dt_Md_over.at 22 rfl) rfl ?_
        refine r_fI (dt_Md_over.at 23 rfl) fl_Md_292 rfl (fun x9 => ?_)
        refine r_iload_n (dt_Md_over.at 24 rfl) rfl ?_
        refine r_iadd (dt_Md_over.at 25 rfl) ?_
        exact r_iret (dt_Md_over.at 26 rfl) rfl
set_option maxRecDepth 20000 in
set_option maxHeartbeats 2000000 in
theorem ct_Md_over {G : am_G} {l : Launch} (a0 : Nat) (p1 : Int32) (M : am_M) : Ct G l y_Md_over X_Md_over [.ref a0, .int p1] M (F_Md_over a0 p1 M) := by
  refine Ct.of (by decide +kernel) rfl rfl (Nat.le_of_ble_eq_true rfl) ?_
  unfold F_Md_over
  show Rf G l X_Md_over 0 [.ref a0, .int p1, .retAddr 0] [] M _
  refine r_aload_n (dt_Md_over.at 0 rfl) rfl ?_
  refine r_iload_n (dt_Md_over.at 1 rfl) rfl ?_
  refine r_cvI (c := 9) (rest := []) (ct_Md_isSpark a0 p1 _) (dt_Md_over.at 2 rfl) mb_Md_isSpark wd_1441 wd_1443 wp_56 rfl (by decide) rfl rfl (Nat.le_of_ble_eq_true rfl) (fun r2 M1 => ?_)
  refine r_if_ne (tgt := 11) (dt_Md_over.at 3 rfl) (by decide) ?_ ?_
  · refine r_bipush (dt_Md_over.at 4 rfl) (-2) (by decide) ?_
    exact r_iret (dt_Md_over.at 5 rfl) rfl
  · refine r_aload_n (dt_Md_over.at 6 rfl) rfl ?_
    refine r_iload_n (dt_Md_over.at 7 rfl) rfl ?_
    refine r_cvV (c := 9) (rest := []) (ct_Md_lays a0 p1 _) (dt_Md_over.at 8 rfl) mb_Md_lays wd_1481 wd_1483 wp_60 rfl (by decide) rfl rfl (Nat.le_of_ble_eq_true rfl) (fun M3 => ?_)
    refine r_iconst (dt_Md_over.at 9 rfl) 1 (by decide) ?_
    refine r_istore_n (ls' := [.ref a0, .int p1, .int 1]) (dt_Md_over.at 10 rfl) (by decide) rfl ?_
    exact Rf.msk [true, false, true] (rf_Md_over_L18 fu a0 1 M3)
set_option maxRecDepth 20000 in
set_option maxHeartbeats 2000000 in
theorem ct_Md_cellBy {G : am_G} {l : Launch} (a0 : Nat) (p1 : Int32) (M : am_M) : Ct G l y_Md_cellBy X_Md_cellBy [.ref a0, .int p1] M (F_Md_cellBy a0 p1 M) := by
  refine Ct.of (by decide +kernel) rfl rfl (Nat.le_of_ble_eq_true rfl) ?_
  unfold F_Md_cellBy
  show Rf G l X_Md_cellBy 0 [.ref a0, .int p1] [] M _
  refine r_aload_n (dt_Md_cellBy.at 0 rfl) rfl ?_
  refine r_iconst (dt_Md_cellBy.at 1 rfl) 0 (by decide) ?_
  refine r_iload_n (dt_Md_cellBy.at 2 rfl) rfl ?_
  refine r_cvI (c := 9) (rest := []) (ct_Md_placeBy a0 0 p1 _) (dt_Md_cellBy.at 3 rfl) mb_Md_placeBy wd_1517 wd_1519 wp_69 rfl (by decide) rfl rfl (Nat.le_of_ble_eq_true rfl) (fun r2 M1 => ?_)
  refine r_bipush (dt_Md_cellBy.at 4 rfl) 8 (by decide) ?_
  refine r_idivk (dt_Md_cellBy.at 5 rfl) (by decide) ?_
  refine r_bipush (dt_Md_cellBy.at 6 rfl) 64 (by decide) ?_
  refine r_imul (dt_Md_cellBy.at 7 rfl) ?_
  refine r_aload_n (dt_Md_cellBy.at 8 rfl) rfl ?_
  refine r_iconst (dt_Md_cellBy.at 9 rfl) 1 (by decide) ?_
  refine r_iload_n (dt_Md_cellBy.at 10 rfl) rfl ?_
  refine r_cvI (c := 9) (rest := [.int ((r2 / 8) * 64)]) (ct_Md_placeBy a0 1 p1 _) (dt_Md_cellBy.at 11 rfl) mb_Md_placeBy wd_1517 wd_1519 wp_69 rfl (by decide) rfl rfl (Nat.le_of_ble_eq_true rfl) (fun r4 M3 => ?_)
  refine r_bipush (dt_Md_cellBy.at 12 rfl) 8 (by decide) ?_
  refine r_idivk (dt_Md_cellBy.at 13 rfl) (by decide) ?_
  refine r_iadd (dt_Md_cellBy.at 14 rfl) ?_
  refine r_bipush (dt_Md_cellBy.at 15 rfl) 64 (by decide) ?_
  refine r_imul (dt_Md_cellBy.at 16 rfl) ?_
  refine r_aload_n (dt_Md_cellBy.at 17 rfl) rfl ?_
  refine r_iconst (dt_Md_cellBy.at 18 rfl) 2 (by decide) ?_
  refine r_iload_n (dt_Md_cellBy.at 19 rfl) rfl ?_
  refine r_cvI (c := 9) (rest := [.int ((((r2 / 8) * 64) + (r4 / 8)) * 64)]) (ct_Md_placeBy a0 2 p1 _) (dt_Md_cellBy.at 20 rfl) mb_Md_placeBy wd_1517 wd_1519 wp_69 rfl (by decide) rfl rfl (Nat.le_of_ble_eq_true rfl) (fun r6 M5 => ?_)
  refine r_bipush (dt_Md_cellBy.at 21 rfl) 8 (by decide) ?_
  refine r_idivk (dt_Md_cellBy.at 22 rfl) (by decide) ?_
  refine r_iadd (dt_Md_cellBy.at 23 rfl) ?_
  exact r_iret (dt_Md_cellBy.at 24 rfl) rfl
set_option maxRecDepth 20000 in
set_option maxHeartbeats 2000000 in
theorem rf_Md_cellsOf_L39 {G : am_G} {l : Launch} (k20 : Nat → Int32 → Int32 → am_M → am_R) (hk20 : ∀ v0 v2 v3 M, Rf G l X_Md_cellsOf 20 [.ref v0, .retAddr 0, .int v2, .int v3, .retAddr 0, .retAddr 0] [] M (k20 v0 v2 v3 M)) : ∀ (n : Nat) (v0 : Nat) (v2 : Int32) (v3 : Int32) (v4 : Int32) (v5 : Int32) (M : am_M), Rf G l X_Md_cellsOf 39 [.ref v0, .retAddr 0, .int v2, .int v3, .int v4, .int v5] [] M (F_Md_cellsOf_L39 k20 n v0 v2 v3 v4 v5 M) := by
  intro n
  induction n with
  | zero => intro v0 v2 v3 v4 v5 M; exact Rf.no
  | succ n ih =>
    intro v0 v2 v3 v4 v5 M
    unfold F_Md_cellsOf_L39
    refine r_iload (dt_Md_cellsOf.at 24 rfl) rfl ?_
    refine r_iload_n (dt_Md_cellsOf.at 25 rfl) rfl ?_
    refine r_icmp_ge (tgt := 77) (dt_Md_cellsOf.at 26 rfl) (by decide) ?_ ?_
    · refine r_iload_n (dt_Md_cellsOf.at 42 rfl) rfl ?_
      refine r_iload (dt_Md_cellsOf.at 43 rfl) rfl ?_
      refine r_if_eq (tgt := 87) (dt_Md_cellsOf.at 44 rfl) (by decide) ?_ ?_
      · refine r_iconst (dt_Md_cellsOf.at 47 rfl) 0 (by decide) ?_
        refine r_iadd (dt_Md_cellsOf.at 48 rfl) ?_
        refine r_nmi (fun x6 => ?_)
        refine r_istore_n (ls' := [.ref v0, .retAddr 0, .int x6, .int v3, .int v4, .int v5]) (dt_Md_cellsOf.at 49 rfl) (by decide) rfl ?_
        refine r_iincn (v := 1) (dt_Md_cellsOf.at 50 rfl) (by decide) rfl (by decide) (fun y => [.ref v0, .retAddr 0, .int x6, .int y, .int v4, .int v5]) (fun _ => rfl) (fun x7 => ?_)
        refine r_goto (tgt := 20) (dt_Md_cellsOf.at 51 rfl) (by decide) ?_
        exact Rf.msk [true, false, true, true, false, false] (hk20 v0 x6 x7 M)
      · refine r_iconst (dt_Md_cellsOf.at 45 rfl) 1 (by decide) ?_
        refine r_goto (tgt := 88) (dt_Md_cellsOf.at 46 rfl) (by decide) ?_
        refine r_iadd (dt_Md_cellsOf.at 48 rfl) ?_
        refine r_nmi (fun x8 => ?_)
        refine r_istore_n (ls' := [.ref v0, .retAddr 0, .int x8, .int v3, .int v4, .int v5]) (dt_Md_cellsOf.at 49 rfl) (by decide) rfl ?_
        refine r_iincn (v := 1) (dt_Md_cellsOf.at 50 rfl) (by decide) rfl (by decide) (fun y => [.ref v0, .retAddr 0, .int x8, .int y, .int v4, .int v5]) (fun _ => rfl) (fun x9 => ?_)
        refine r_goto (tgt := 20) (dt_Md_cellsOf.at 51 rfl) (by decide) ?_
        exact Rf.msk [true, false, true, true, false, false] (hk20 v0 x8 x9 M)
    · refine r_iload (dt_Md_cellsOf.at 27 rfl) rfl ?_
      refine r_if_eq (tgt := 68) (dt_Md_cellsOf.at 28 rfl) (by decide) ?_ ?_
      · refine r_iconst (dt_Md_cellsOf.at 38 rfl) 0 (by decide) ?_
        refine r_istore (ls' := [.ref v0, .retAddr 0, .int v2, .int v3, .int 0, .int v5]) (dt_Md_cellsOf.at 39 rfl) (by decide) rfl ?_
        refine r_iincn (v := 1) (dt_Md_cellsOf.at 40 rfl) (by decide) rfl (by decide) (fun y => [.ref v0, .retAddr 0, .int v2, .int v3, .int 0, .int y]) (fun _ => rfl) (fun x10 => ?_)
        refine r_goto (tgt := 39) (dt_Md_cellsOf.at 41 rfl) (by decide) ?_
        exact Rf.msk [true, false, true, true, true, true] (ih v0 v2 v3 0 x10 M)
      · refine r_aload_n (dt_Md_cellsOf.at 29 rfl) rfl ?_
        refine r_iload (dt_Md_cellsOf.at 30 rfl) rfl ?_
        refine r_cvI (c := 9) (rest := []) (ct_Md_cellBy v0 v5 _) (dt_Md_cellsOf.at 31 rfl) mb_Md_cellBy wd_1555 wd_1557 wp_72 rfl (by decide) rfl rfl (Nat.le_of_ble_eq_true rfl) (fun r12 M11 => ?_)
        refine r_aload_n (dt_Md_cellsOf.at 32 rfl) rfl ?_
        refine r_iload_n (dt_Md_cellsOf.at 33 rfl) rfl ?_
        refine r_cvI (c := 9) (rest := [.int r12]) (ct_Md_cellBy v0 v3 _) (dt_Md_cellsOf.at 34 rfl) mb_Md_cellBy wd_1555 wd_1557 wp_72 rfl (by decide) rfl rfl (Nat.le_of_ble_eq_true rfl) (fun r14 M13 => ?_)
        refine r_icmp_eq (tgt := 68) (dt_Md_cellsOf.at 35 rfl) (by decide) ?_ ?_
        · refine r_iconst (dt_Md_cellsOf.at 38 rfl) 0 (by decide) ?_
          refine r_istore (ls' := [.ref v0, .retAddr 0, .int v2, .int v3, .int 0, .int v5]) (dt_Md_cellsOf.at 39 rfl) (by decide) rfl ?_
          refine r_iincn (v := 1) (dt_Md_cellsOf.at 40 rfl) (by decide) rfl (by decide) (fun y => [.ref v0, .retAddr 0, .int v2, .int v3, .int 0, .int y]) (fun _ => rfl) (fun x15 => ?_)
          refine r_goto (tgt := 39) (dt_Md_cellsOf.at 41 rfl) (by decide) ?_
          exact Rf.msk [true, false, true, true, true, true] (ih v0 v2 v3 0 x15 M13)
        · refine r_iconst (dt_Md_cellsOf.at 36 rfl) 1 (by decide) ?_
          refine r_goto (tgt := 69) (dt_Md_cellsOf.at 37 rfl) (by decide) ?_
          refine r_istore (ls' := [.ref v0, .retAddr 0, .int v2, .int v3, .int 1, .int v5]) (dt_Md_cellsOf.at 39 rfl) (by decide) rfl ?_
          refine r_iincn (v := 1) (dt_Md_cellsOf.at 40 rfl) (by decide) rfl (by decide) (fun y => [.ref v0, .retAddr 0, .int v2, .int v3, .int 1, .int y]) (fun _ => rfl) (fun x16 => ?_)
          refine r_goto (tgt := 39) (dt_Md_cellsOf.at 41 rfl) (by decide) ?_
          exact Rf.msk [true, false, true, true, true, true] (ih v0 v2 v3 1 x16 M13)
set_option maxRecDepth 20000 in
set_option maxHeartbeats 2000000 in
theorem rf_Md_cellsOf_L20 {G : am_G} {l : Launch}   : ∀ (n : Nat) (v0 : Nat) (v2 : Int32) (v3 : Int32) (M : am_M), Rf G l X_Md_cellsOf 20 [.ref v0, .retAddr 0, .int v2, .int v3, .retAddr 0, .retAddr 0] [] M (F_Md_cellsOf_L20 n v0 v2 v3 M) := by
  intro n
  induction n with
  | zero => intro v0 v2 v3 M; exact Rf.no
  | succ n ih =>
    intro v0 v2 v3 M
    unfold F_Md_cellsOf_L20
    refine r_iload_n (dt_Md_cellsOf.at 13 rfl) rfl ?_
    refine r_aload_n (dt_Md_cellsOf.at 14 rfl) rfl ?_
    refine r_fI (dt_Md_cellsOf.at 15 rfl) fl_Md_303 rfl (fun x4 => ?_)
    refine r_aload_n (dt_Md_cellsOf.at 16 rfl) rfl ?_
    refine r_fI (dt_Md_cellsOf.at 17 rfl) fl_Md_292 rfl (fun x5 => ?_)
    refine r_isub (dt_Md_cellsOf.at 18 rfl) ?_
    refine r_icmp_ge (tgt := 96) (dt_Md_cellsOf.at 19 rfl) (by decide) ?_ ?_
    · refine r_iload_n (dt_Md_cellsOf.at 52 rfl) rfl ?_
      exact r_iret (dt_Md_cellsOf.at 53 rfl) rfl
    · refine r_iconst (dt_Md_cellsOf.at 20 rfl) 1 (by decide) ?_
      refine r_istore (ls' := [.ref v0, .retAddr 0, .int v2, .int v3, .int 1, .retAddr 0]) (dt_Md_cellsOf.at 21 rfl) (by decide) rfl ?_
      refine r_iconst (dt_Md_cellsOf.at 22 rfl) 0 (by decide) ?_
      refine r_istore (ls' := [.ref v0, .retAddr 0, .int v2, .int v3, .int 1, .int 0]) (dt_Md_cellsOf.at 23 rfl) (by decide) rfl ?_
      exact Rf.msk [true, false, true, true, true, true] (rf_Md_cellsOf_L39 (F_Md_cellsOf_L20 n) ih fu v0 v2 v3 1 0 M)
set_option maxRecDepth 20000 in
set_option maxHeartbeats 2000000 in
theorem ct_Md_cellsOf {G : am_G} {l : Launch} (a0 : Nat) (p1 : Int32) (M : am_M) : Ct G l y_Md_cellsOf X_Md_cellsOf [.ref a0, .int p1] M (F_Md_cellsOf a0 p1 M) := by
  refine Ct.of (by decide +kernel) rfl rfl (Nat.le_of_ble_eq_true rfl) ?_
  unfold F_Md_cellsOf
  show Rf G l X_Md_cellsOf 0 [.ref a0, .int p1, .retAddr 0, .retAddr 0, .retAddr 0, .retAddr 0] [] M _
  refine r_aload_n (dt_Md_cellsOf.at 0 rfl) rfl ?_
  refine r_iload_n (dt_Md_cellsOf.at 1 rfl) rfl ?_
  refine r_cvI (c := 9) (rest := []) (ct_Md_isSpark a0 p1 _) (dt_Md_cellsOf.at 2 rfl) mb_Md_isSpark wd_1441 wd_1443 wp_56 rfl (by decide) rfl rfl (Nat.le_of_ble_eq_true rfl) (fun r2 M1 => ?_)
  refine r_if_ne (tgt := 11) (dt_Md_cellsOf.at 3 rfl) (by decide) ?_ ?_
  · refine r_bipush (dt_Md_cellsOf.at 4 rfl) (-2) (by decide) ?_
    exact r_iret (dt_Md_cellsOf.at 5 rfl) rfl
  · refine r_aload_n (dt_Md_cellsOf.at 6 rfl) rfl ?_
    refine r_iload_n (dt_Md_cellsOf.at 7 rfl) rfl ?_
    refine r_cvV (c := 9) (rest := []) (ct_Md_lays a0 p1 _) (dt_Md_cellsOf.at 8 rfl) mb_Md_lays wd_1481 wd_1483 wp_60 rfl (by decide) rfl rfl (Nat.le_of_ble_eq_true rfl) (fun M3 => ?_)
    refine r_iconst (dt_Md_cellsOf.at 9 rfl) 0 (by decide) ?_
    refine r_istore_n (ls' := [.ref a0, .int p1, .int 0, .retAddr 0, .retAddr 0, .retAddr 0]) (dt_Md_cellsOf.at 10 rfl) (by decide) rfl ?_
    refine r_iconst (dt_Md_cellsOf.at 11 rfl) 0 (by decide) ?_
    refine r_istore_n (ls' := [.ref a0, .int p1, .int 0, .int 0, .retAddr 0, .retAddr 0]) (dt_Md_cellsOf.at 12 rfl) (by decide) rfl ?_
    exact Rf.msk [true, false, true, true, false, false] (rf_Md_cellsOf_L20 fu a0 0 0 M3)
set_option maxRecDepth 20000 in
set_option maxHeartbeats 2000000 in
theorem rf_Md_meets_L91 {G : am_G} {l : Launch}   : ∀ (n : Nat) (v0 : Nat) (v3 : Int32) (v4 : Int32) (v5 : Int32) (M : am_M), Rf G l X_Md_meets 91 [.ref v0, .retAddr 0, .retAddr 0, .int v3, .int v4, .int v5] [] M (F_Md_meets_L91 n v0 v3 v4 v5 M) := by
  intro n
  induction n with
  | zero => intro v0 v3 v4 v5 M; exact Rf.no
  | succ n ih =>
    intro v0 v3 v4 v5 M
    unfold F_Md_meets_L91
    refine r_iload (dt_Md_meets.at 48 rfl) rfl ?_
    refine r_iload (dt_Md_meets.at 49 rfl) rfl ?_
    refine r_aload_n (dt_Md_meets.at 50 rfl) rfl ?_
    refine r_fI (dt_Md_meets.at 51 rfl) fl_Md_303 rfl (fun x14 => ?_)
    refine r_csI (rest := [.int v5]) (ct_Math_min v4 x14 _) (dt_Md_meets.at 52 rfl) mb_Math_min wd_1309 wd_334 (by decide) rfl rfl (Nat.le_of_ble_eq_true rfl) (fun r16 M15 => ?_)
    refine r_icmp_ge (tgt := 137) (dt_Md_meets.at 53 rfl) (by decide) ?_ ?_
    · refine r_iconst (dt_Md_meets.at 71 rfl) (-1) (by decide) ?_
      exact r_iret (dt_Md_meets.at 72 rfl) rfl
    · refine r_aload_n (dt_Md_meets.at 54 rfl) rfl ?_
      refine r_fR (dt_Md_meets.at 55 rfl) fl_Md_51 rfl (fun b17 => ?_)
      refine r_iload (dt_Md_meets.at 56 rfl) rfl ?_
      refine r_iload_n (dt_Md_meets.at 57 rfl) rfl ?_
      refine r_isub (dt_Md_meets.at 58 rfl) ?_
      refine r_aI (dt_Md_meets.at 59 rfl) (fun x18 => ?_)
      refine r_aload_n (dt_Md_meets.at 60 rfl) rfl ?_
      refine r_iload (dt_Md_meets.at 61 rfl) rfl ?_
      refine r_aload_n (dt_Md_meets.at 62 rfl) rfl ?_
      refine r_fI (dt_Md_meets.at 63 rfl) fl_Md_292 rfl (fun x19 => ?_)
      refine r_isub (dt_Md_meets.at 64 rfl) ?_
      refine r_cvI (c := 9) (rest := [.int x18]) (ct_Md_cellBy v0 (v5 - x19) _) (dt_Md_meets.at 65 rfl) mb_Md_cellBy wd_1555 wd_1557 wp_72 rfl (by decide) rfl rfl (Nat.le_of_ble_eq_true rfl) (fun r21 M20 => ?_)
      refine r_icmp_ne (tgt := 131) (dt_Md_meets.at 66 rfl) (by decide) ?_ ?_
      · refine r_iload (dt_Md_meets.at 67 rfl) rfl ?_
        exact r_iret (dt_Md_meets.at 68 rfl) rfl
      · refine r_iincn (v := 1) (dt_Md_meets.at 69 rfl) (by decide) rfl (by decide) (fun y => [.ref v0, .retAddr 0, .retAddr 0, .int v3, .int v4, .int y]) (fun _ => rfl) (fun x22 => ?_)
        refine r_goto (tgt := 91) (dt_Md_meets.at 70 rfl) (by decide) ?_
        exact Rf.msk [true, false, false, true, true, true] (ih v0 v3 v4 x22 M20)
set_option maxRecDepth 20000 in
set_option maxHeartbeats 2000000 in
theorem rf_Md_meets_L43 {G : am_G} {l : Launch}   : ∀ (n : Nat) (v0 : Nat) (v2 : Int32) (v3 : Int32) (v4 : Int32) (v5 : Int32) (M : am_M), Rf G l X_Md_meets 43 [.ref v0, .retAddr 0, .int v2, .int v3, .int v4, .int v5] [] M (F_Md_meets_L43 n v0 v2 v3 v4 v5 M) := by
  intro n
  induction n with
  | zero => intro v0 v2 v3 v4 v5 M; exact Rf.no
  | succ n ih =>
    intro v0 v2 v3 v4 v5 M
    unfold F_Md_meets_L43
    refine r_iload (dt_Md_meets.at 24 rfl) rfl ?_
    refine r_aload_n (dt_Md_meets.at 25 rfl) rfl ?_
    refine r_fI (dt_Md_meets.at 26 rfl) fl_Md_303 rfl (fun x8 => ?_)
    refine r_aload_n (dt_Md_meets.at 27 rfl) rfl ?_
    refine r_fI (dt_Md_meets.at 28 rfl) fl_Md_292 rfl (fun x9 => ?_)
    refine r_isub (dt_Md_meets.at 29 rfl) ?_
    refine r_icmp_ge (tgt := 76) (dt_Md_meets.at 30 rfl) (by decide) ?_ ?_
    · refine r_aload_n (dt_Md_meets.at 40 rfl) rfl ?_
      refine r_iload_n (dt_Md_meets.at 41 rfl) rfl ?_
      refine r_cvV (c := 9) (rest := []) (ct_Md_lays v0 v2 _) (dt_Md_meets.at 42 rfl) mb_Md_lays wd_1481 wd_1483 wp_60 rfl (by decide) rfl rfl (Nat.le_of_ble_eq_true rfl) (fun M10 => ?_)
      refine r_iload_n (dt_Md_meets.at 43 rfl) rfl ?_
      refine r_aload_n (dt_Md_meets.at 44 rfl) rfl ?_
      refine r_fI (dt_Md_meets.at 45 rfl) fl_Md_292 rfl (fun x11 => ?_)
      refine r_csI (rest := []) (ct_Math_max v3 x11 _) (dt_Md_meets.at 46 rfl) mb_Math_max wd_1536 wd_655 (by decide) rfl rfl (Nat.le_of_ble_eq_true rfl) (fun r13 M12 => ?_)
      refine r_istore (ls' := [.ref v0, .retAddr 0, .int v2, .int v3, .int v4, .int r13]) (dt_Md_meets.at 47 rfl) (by decide) rfl ?_
      exact Rf.msk [true, false, false, true, true, true] (rf_Md_meets_L91 fu v0 v3 v4 r13 M12)
    · refine r_aload_n (dt_Md_meets.at 31 rfl) rfl ?_
      refine r_fR (dt_Md_meets.at 32 rfl) fl_Md_51 rfl (fun b23 => ?_)
      refine r_iload (dt_Md_meets.at 33 rfl) rfl ?_
      refine r_aload_n (dt_Md_meets.at 34 rfl) rfl ?_
      refine r_iload (dt_Md_meets.at 35 rfl) rfl ?_
      refine r_cvI (c := 9) (rest := [.int v5, .ref b23]) (ct_Md_cellBy v0 v5 _) (dt_Md_meets.at 36 rfl) mb_Md_cellBy wd_1555 wd_1557 wp_72 rfl (by decide) rfl rfl (Nat.le_of_ble_eq_true rfl) (fun r25 M24 => ?_)
      refine r_tI (dt_Md_meets.at 37 rfl) (fun M26 => ?_)
      refine r_iincn (v := 1) (dt_Md_meets.at 38 rfl) (by decide) rfl (by decide) (fun y => [.ref v0, .retAddr 0, .int v2, .int v3, .int v4, .int y]) (fun _ => rfl) (fun x27 => ?_)
      refine r_goto (tgt := 43) (dt_Md_meets.at 39 rfl) (by decide) ?_
      exact Rf.msk [true, false, true, true, true, true] (ih v0 v2 v3 v4 x27 M26)
set_option maxRecDepth 20000 in
set_option maxHeartbeats 2000000 in
theorem ct_Md_meets {G : am_G} {l : Launch} (a0 : Nat) (p1 : Int32) (p2 : Int32) (M : am_M) : Ct G l y_Md_meets X_Md_meets [.ref a0, .int p1, .int p2] M (F_Md_meets a0 p1 p2 M) := by
  refine Ct.of (by decide +kernel) rfl rfl (Nat.le_of_ble_eq_true rfl) ?_
  unfold F_Md_meets
  show Rf G l X_Md_meets 0 [.ref a0, .int p1, .int p2, .retAddr 0, .retAddr 0, .retAddr 0] [] M _
  refine r_aload_n (dt_Md_meets.at 0 rfl) rfl ?_
  refine r_iload_n (dt_Md_meets.at 1 rfl) rfl ?_
  refine r_cvI (c := 9) (rest := []) (ct_Md_isSpark a0 p1 _) (dt_Md_meets.at 2 rfl) mb_Md_isSpark wd_1441 wd_1443 wp_56 rfl (by decide) rfl rfl (Nat.le_of_ble_eq_true rfl) (fun r2 M1 => ?_)
  refine r_if_eq (tgt := 21) (dt_Md_meets.at 3 rfl) (by decide) ?_ ?_
  · refine r_bipush (dt_Md_meets.at 11 rfl) (-2) (by decide) ?_
    exact r_iret (dt_Md_meets.at 12 rfl) rfl
  · refine r_aload_n (dt_Md_meets.at 4 rfl) rfl ?_
    refine r_iload_n (dt_Md_meets.at 5 rfl) rfl ?_
    refine r_cvI (c := 9) (rest := []) (ct_Md_isSpark a0 p2 _) (dt_Md_meets.at 6 rfl) mb_Md_isSpark wd_1441 wd_1443 wp_56 rfl (by decide) rfl rfl (Nat.le_of_ble_eq_true rfl) (fun r4 M3 => ?_)
    refine r_if_eq (tgt := 21) (dt_Md_meets.at 7 rfl) (by decide) ?_ ?_
    · refine r_bipush (dt_Md_meets.at 11 rfl) (-2) (by decide) ?_
      exact r_iret (dt_Md_meets.at 12 rfl) rfl
    · refine r_iload_n (dt_Md_meets.at 8 rfl) rfl ?_
      refine r_iload_n (dt_Md_meets.at 9 rfl) rfl ?_
      refine r_icmp_ne (tgt := 24) (dt_Md_meets.at 10 rfl) (by decide) ?_ ?_
      · refine r_bipush (dt_Md_meets.at 11 rfl) (-2) (by decide) ?_
        exact r_iret (dt_Md_meets.at 12 rfl) rfl
      · refine r_aload_n (dt_Md_meets.at 13 rfl) rfl ?_
        refine r_iload_n (dt_Md_meets.at 14 rfl) rfl ?_
        refine r_cvV (c := 9) (rest := []) (ct_Md_lays a0 p1 _) (dt_Md_meets.at 15 rfl) mb_Md_lays wd_1481 wd_1483 wp_60 rfl (by decide) rfl rfl (Nat.le_of_ble_eq_true rfl) (fun M5 => ?_)
        refine r_aload_n (dt_Md_meets.at 16 rfl) rfl ?_
        refine r_fI (dt_Md_meets.at 17 rfl) fl_Md_292 rfl (fun x6 => ?_)
        refine r_istore_n (ls' := [.ref a0, .int p1, .int p2, .int x6, .retAddr 0, .retAddr 0]) (dt_Md_meets.at 18 rfl) (by decide) rfl ?_
        refine r_aload_n (dt_Md_meets.at 19 rfl) rfl ?_
        refine r_fI (dt_Md_meets.at 20 rfl) fl_Md_303 rfl (fun x7 => ?_)
        refine r_istore (ls' := [.ref a0, .int p1, .int p2, .int x6, .int x7, .retAddr 0]) (dt_Md_meets.at 21 rfl) (by decide) rfl ?_
        refine r_iconst (dt_Md_meets.at 22 rfl) 0 (by decide) ?_
        refine r_istore (ls' := [.ref a0, .int p1, .int p2, .int x6, .int x7, .int 0]) (dt_Md_meets.at 23 rfl) (by decide) rfl ?_
        exact Rf.msk [true, false, true, true, true, true] (rf_Md_meets_L43 fu a0 p2 x6 x7 0 M5)
set_option maxRecDepth 20000 in
set_option maxHeartbeats 2000000 in
theorem rf_Md_reach_L49 {G : am_G} {l : Launch}   : ∀ (n : Nat) (v0 : Nat) (v2 : Int32) (v3 : Int32) (v4 : Int32) (v5 : Int32) (M : am_M), Rf G l X_Md_reach 49 [.ref v0, .retAddr 0, .int v2, .int v3, .int v4, .int v5] [] M (F_Md_reach_L49 n v0 v2 v3 v4 v5 M) := by
  intro n
  induction n with
  | zero => intro v0 v2 v3 v4 v5 M; exact Rf.no
  | succ n ih =>
    intro v0 v2 v3 v4 v5 M
    unfold F_Md_reach_L49
    refine r_iload (dt_Md_reach.at 28 rfl) rfl ?_
    refine r_aload_n (dt_Md_reach.at 29 rfl) rfl ?_
    refine r_fI (dt_Md_reach.at 30 rfl) fl_Md_303 rfl (fun x10 => ?_)
    refine r_aload_n (dt_Md_reach.at 31 rfl) rfl ?_
    refine r_fI (dt_Md_reach.at 32 rfl) fl_Md_292 rfl (fun x11 => ?_)
    refine r_isub (dt_Md_reach.at 33 rfl) ?_
    refine r_icmp_ge (tgt := 102) (dt_Md_reach.at 34 rfl) (by decide) ?_ ?_
    · refine r_iload (dt_Md_reach.at 53 rfl) rfl ?_
      exact r_iret (dt_Md_reach.at 54 rfl) rfl
    · refine r_iload_n (dt_Md_reach.at 35 rfl) rfl ?_
      refine r_if_ne (tgt := 82) (dt_Md_reach.at 36 rfl) (by decide) ?_ ?_
      · refine r_iload (dt_Md_reach.at 37 rfl) rfl ?_
        refine r_aload_n (dt_Md_reach.at 38 rfl) rfl ?_
        refine r_iload_n (dt_Md_reach.at 39 rfl) rfl ?_
        refine r_iload (dt_Md_reach.at 40 rfl) rfl ?_
        refine r_cvI (c := 9) (rest := [.int v4]) (ct_Md_placeBy v0 v2 v5 _) (dt_Md_reach.at 41 rfl) mb_Md_placeBy wd_1517 wd_1519 wp_69 rfl (by decide) rfl rfl (Nat.le_of_ble_eq_true rfl) (fun r13 M12 => ?_)
        refine r_csI (rest := []) (ct_Math_min v4 r13 _) (dt_Md_reach.at 42 rfl) mb_Math_min wd_1309 wd_334 (by decide) rfl rfl (Nat.le_of_ble_eq_true rfl) (fun r15 M14 => ?_)
        refine r_goto (tgt := 94) (dt_Md_reach.at 43 rfl) (by decide) ?_
        refine r_istore (ls' := [.ref v0, .retAddr 0, .int v2, .int v3, .int r15, .int v5]) (dt_Md_reach.at 50 rfl) (by decide) rfl ?_
        refine r_iincn (v := 1) (dt_Md_reach.at 51 rfl) (by decide) rfl (by decide) (fun y => [.ref v0, .retAddr 0, .int v2, .int v3, .int r15, .int y]) (fun _ => rfl) (fun x16 => ?_)
        refine r_goto (tgt := 49) (dt_Md_reach.at 52 rfl) (by decide) ?_
        exact Rf.msk [true, false, true, true, true, true] (ih v0 v2 v3 r15 x16 M14)
      · refine r_iload (dt_Md_reach.at 44 rfl) rfl ?_
        refine r_aload_n (dt_Md_reach.at 45 rfl) rfl ?_
        refine r_iload_n (dt_Md_reach.at 46 rfl) rfl ?_
        refine r_iload (dt_Md_reach.at 47 rfl) rfl ?_
        refine r_cvI (c := 9) (rest := [.int v4]) (ct_Md_placeBy v0 v2 v5 _) (dt_Md_reach.at 48 rfl) mb_Md_placeBy wd_1517 wd_1519 wp_69 rfl (by decide) rfl rfl (Nat.le_of_ble_eq_true rfl) (fun r18 M17 => ?_)
        refine r_csI (rest := []) (ct_Math_max v4 r18 _) (dt_Md_reach.at 49 rfl) mb_Math_max wd_1536 wd_655 (by decide) rfl rfl (Nat.le_of_ble_eq_true rfl) (fun r20 M19 => ?_)
        refine r_istore (ls' := [.ref v0, .retAddr 0, .int v2, .int v3, .int r20, .int v5]) (dt_Md_reach.at 50 rfl) (by decide) rfl ?_
        refine r_iincn (v := 1) (dt_Md_reach.at 51 rfl) (by decide) rfl (by decide) (fun y => [.ref v0, .retAddr 0, .int v2, .int v3, .int r20, .int y]) (fun _ => rfl) (fun x21 => ?_)
        refine r_goto (tgt := 49) (dt_Md_reach.at 52 rfl) (by decide) ?_
        exact Rf.msk [true, false, true, true, true, true] (ih v0 v2 v3 r20 x21 M19)
set_option maxRecDepth 20000 in
set_option maxHeartbeats 2000000 in
theorem ct_Md_reach {G : am_G} {l : Launch} (a0 : Nat) (p1 : Int32) (p2 : Int32) (p3 : Int32) (M : am_M) : Ct G l y_Md_reach X_Md_reach [.ref a0, .int p1, .int p2, .int p3] M (F_Md_reach a0 p1 p2 p3 M) := by
  refine Ct.of (by decide +kernel) rfl rfl (Nat.le_of_ble_eq_true rfl) ?_
  unfold F_Md_reach
  show Rf G l X_Md_reach 0 [.ref a0, .int p1, .int p2, .int p3, .retAddr 0, .retAddr 0] [] M _
  refine r_aload_n (dt_Md_reach.at 0 rfl) rfl ?_
  refine r_iload_n (dt_Md_reach.at 1 rfl) rfl ?_
  refine r_cvI (c := 9) (rest := []) (ct_Md_isSpark a0 p1 _) (dt_Md_reach.at 2 rfl) mb_Md_isSpark wd_1441 wd_1443 wp_56 rfl (by decide) rfl rfl (Nat.le_of_ble_eq_true rfl) (fun r2 M1 => ?_)
  refine r_if_eq (tgt := 30) (dt_Md_reach.at 3 rfl) (by decide) ?_ ?_
  · refine r_bipush (dt_Md_reach.at 16 rfl) (-2) (by decide) ?_
    exact r_iret (dt_Md_reach.at 17 rfl) rfl
  · refine r_iload_n (dt_Md_reach.at 4 rfl) rfl ?_
    refine r_i2l (dt_Md_reach.at 5 rfl) ?_
    refine r_lconst (dt_Md_reach.at 6 rfl) 0 (by decide) ?_
    refine r_ldc2 (dt_Md_reach.at 7 rfl) 2 wd_1531 ?_
    refine r_csI (rest := []) (ct_Md_in (p2.toInt64) 0 2 _) (dt_Md_reach.at 8 rfl) mb_Md_in wd_1289 wd_1290 (by decide) rfl rfl (Nat.le_of_ble_eq_true rfl) (fun r4 M3 => ?_)
    refine r_if_eq (tgt := 30) (dt_Md_reach.at 9 rfl) (by decide) ?_ ?_
    · refine r_bipush (dt_Md_reach.at 16 rfl) (-2) (by decide) ?_
      exact r_iret (dt_Md_reach.at 17 rfl) rfl
    · refine r_iload_n (dt_Md_reach.at 10 rfl) rfl ?_
      refine r_i2l (dt_Md_reach.at 11 rfl) ?_
      refine r_lconst (dt_Md_reach.at 12 rfl) 0 (by decide) ?_
      refine r_lconst (dt_Md_reach.at 13 rfl) 1 (by decide) ?_
      refine r_csI (rest := []) (ct_Md_in (p3.toInt64) 0 1 _) (dt_Md_reach.at 14 rfl) mb_Md_in wd_1289 wd_1290 (by decide) rfl rfl (Nat.le_of_ble_eq_true rfl) (fun r6 M5 => ?_)
      refine r_if_ne (tgt := 33) (dt_Md_reach.at 15 rfl) (by decide) ?_ ?_
      · refine r_bipush (dt_Md_reach.at 16 rfl) (-2) (by decide) ?_
        exact r_iret (dt_Md_reach.at 17 rfl) rfl
      · refine r_aload_n (dt_Md_reach.at 18 rfl) rfl ?_
        refine r_iload_n (dt_Md_reach.at 19 rfl) rfl ?_
        refine r_cvV (c := 9) (rest := []) (ct_Md_lays a0 p1 _) (dt_Md_reach.at 20 rfl) mb_Md_lays wd_1481 wd_1483 wp_60 rfl (by decide) rfl rfl (Nat.le_of_ble_eq_true rfl) (fun M7 => ?_)
        refine r_aload_n (dt_Md_reach.at 21 rfl) rfl ?_
        refine r_iload_n (dt_Md_reach.at 22 rfl) rfl ?_
        refine r_iconst (dt_Md_reach.at 23 rfl) 0 (by decide) ?_
        refine r_cvI (c := 9) (rest := []) (ct_Md_placeBy a0 p2 0 _) (dt_Md_reach.at 24 rfl) mb_Md_placeBy wd_1517 wd_1519 wp_69 rfl (by decide) rfl rfl (Nat.le_of_ble_eq_true rfl) (fun r9 M8 => ?_)
        refine r_istore (ls' := [.ref a0, .int p1, .int p2, .int p3, .int r9, .retAddr 0]) (dt_Md_reach.at 25 rfl) (by decide) rfl ?_
        refine r_iconst (dt_Md_reach.at 26 rfl) 1 (by decide) ?_
        refine r_istore (ls' := [.ref a0, .int p1, .int p2, .int p3, .int r9, .int 1]) (dt_Md_reach.at 27 rfl) (by decide) rfl ?_
        exact Rf.msk [true, false, true, true, true, true] (rf_Md_reach_L49 fu a0 p2 p3 r9 1 M8)
set_option maxRecDepth 20000 in
set_option maxHeartbeats 2000000 in
theorem ct_Md_kin {G : am_G} {l : Launch} (a0 : Nat) (p1 : Int32) (p2 : Int32) (M : am_M) : Ct G l y_Md_kin X_Md_kin [.ref a0, .int p1, .int p2] M (F_Md_kin a0 p1 p2 M) := by
  refine Ct.of (by decide +kernel) rfl rfl (Nat.le_of_ble_eq_true rfl) ?_
  unfold F_Md_kin
  show Rf G l X_Md_kin 0 [.ref a0, .int p1, .int p2] [] M _
  refine r_aload_n (dt_Md_kin.at 0 rfl) rfl ?_
  refine r_iload_n (dt_Md_kin.at 1 rfl) rfl ?_
  refine r_cvI (c := 9) (rest := []) (ct_Md_isSpark a0 p1 _) (dt_Md_kin.at 2 rfl) mb_Md_isSpark wd_1441 wd_1443 wp_56 rfl (by decide) rfl rfl (Nat.le_of_ble_eq_true rfl) (fun r2 M1 => ?_)
  refine r_if_eq (tgt := 16) (dt_Md_kin.at 3 rfl) (by decide) ?_ ?_
  · refine r_bipush (dt_Md_kin.at 8 rfl) (-2) (by decide) ?_
    exact r_iret (dt_Md_kin.at 9 rfl) rfl
  · refine r_aload_n (dt_Md_kin.at 4 rfl) rfl ?_
    refine r_iload_n (dt_Md_kin.at 5 rfl) rfl ?_
    refine r_cvI (c := 9) (rest := []) (ct_Md_isSpark a0 p2 _) (dt_Md_kin.at 6 rfl) mb_Md_isSpark wd_1441 wd_1443 wp_56 rfl (by decide) rfl rfl (Nat.le_of_ble_eq_true rfl) (fun r4 M3 => ?_)
    refine r_if_ne (tgt := 19) (dt_Md_kin.at 7 rfl) (by decide) ?_ ?_
    · refine r_bipush (dt_Md_kin.at 8 rfl) (-2) (by decide) ?_
      exact r_iret (dt_Md_kin.at 9 rfl) rfl
    · refine r_iload_n (dt_Md_kin.at 10 rfl) rfl ?_
      refine r_sipush (dt_Md_kin.at 11 rfl) 256 (by decide) ?_
      refine r_idivk (dt_Md_kin.at 12 rfl) (by decide) ?_
      refine r_iload_n (dt_Md_kin.at 13 rfl) rfl ?_
      refine r_sipush (dt_Md_kin.at 14 rfl) 256 (by decide) ?_
      refine r_idivk (dt_Md_kin.at 15 rfl) (by decide) ?_
      refine r_icmp_eq (tgt := 34) (dt_Md_kin.at 16 rfl) (by decide) ?_ ?_
      · refine r_iload_n (dt_Md_kin.at 19 rfl) rfl ?_
        refine r_iload_n (dt_Md_kin.at 20 rfl) rfl ?_
        refine r_icmp_ne (tgt := 41) (dt_Md_kin.at 21 rfl) (by decide) ?_ ?_
        · refine r_iload_n (dt_Md_kin.at 22 rfl) rfl ?_
          exact r_iret (dt_Md_kin.at 23 rfl) rfl
        · refine r_iload_n (dt_Md_kin.at 24 rfl) rfl ?_
          refine r_bipush (dt_Md_kin.at 25 rfl) 16 (by decide) ?_
          refine r_idivk (dt_Md_kin.at 26 rfl) (by decide) ?_
          refine r_iload_n (dt_Md_kin.at 27 rfl) rfl ?_
          refine r_bipush (dt_Md_kin.at 28 rfl) 16 (by decide) ?_
          refine r_idivk (dt_Md_kin.at 29 rfl) (by decide) ?_
          refine r_icmp_eq (tgt := 60) (dt_Md_kin.at 30 rfl) (by decide) ?_ ?_
          · refine r_iload_n (dt_Md_kin.at 37 rfl) rfl ?_
            refine r_iload_n (dt_Md_kin.at 38 rfl) rfl ?_
            refine r_bipush (dt_Md_kin.at 39 rfl) 16 (by decide) ?_
            refine r_iremk (dt_Md_kin.at 40 rfl) (by decide) ?_
            refine r_isub (dt_Md_kin.at 41 rfl) ?_
            exact r_iret (dt_Md_kin.at 42 rfl) rfl
          · refine r_iload_n (dt_Md_kin.at 31 rfl) rfl ?_
            refine r_iload_n (dt_Md_kin.at 32 rfl) rfl ?_
            refine r_sipush (dt_Md_kin.at 33 rfl) 256 (by decide) ?_
            refine r_iremk (dt_Md_kin.at 34 rfl) (by decide) ?_
            refine r_isub (dt_Md_kin.at 35 rfl) ?_
            exact r_iret (dt_Md_kin.at 36 rfl) rfl
      · refine r_iconst (dt_Md_kin.at 17 rfl) (-1) (by decide) ?_
        exact r_iret (dt_Md_kin.at 18 rfl) rfl
set_option maxRecDepth 20000 in
set_option maxHeartbeats 2000000 in
theorem ct_Md_isFrom {G : am_G} {l : Launch} (p1 : Int32) (p2 : Int32) (M : am_M) : Ct G l y_Md_isFrom X_Md_isFrom [.int p1, .int p2] M (F_Md_isFrom p1 p2 M) := by
  refine Ct.of (by decide +kernel) rfl rfl (Nat.le_of_ble_eq_true rfl) ?_
  unfold F_Md_isFrom
  show Rf G l X_Md_isFrom 0 [.int p1, .int p2, .retAddr 0] [] M _
  refine r_iload_n (dt_Md_isFrom.at 0 rfl) rfl ?_
  refine r_csI (rest := []) (ct_Md_generation p2 _) (dt_Md_isFrom.at 1 rfl) mb_Md_generation wd_1463 wd_1464 (by decide) rfl rfl (Nat.le_of_ble_eq_true rfl) (fun r2 M1 => ?_)
  refine r_istore_n (ls' := [.int p1, .int p2, .int r2]) (dt_Md_isFrom.at 2 rfl) (by decide) rfl ?_
  refine r_iload_n (dt_Md_isFrom.at 3 rfl) rfl ?_
  refine r_if_eq (tgt := 29) (dt_Md_isFrom.at 4 rfl) (by decide) ?_ ?_
  · refine r_iconst (dt_Md_isFrom.at 18 rfl) 1 (by decide) ?_
    refine r_goto (tgt := 34) (dt_Md_isFrom.at 19 rfl) (by decide) ?_
    exact r_zret (dt_Md_isFrom.at 21 rfl) rfl rfl
  · refine r_iload_n (dt_Md_isFrom.at 5 rfl) rfl ?_
    refine r_iload_n (dt_Md_isFrom.at 6 rfl) rfl ?_
    refine r_icmp_eq (tgt := 29) (dt_Md_isFrom.at 7 rfl) (by decide) ?_ ?_
    · refine r_iconst (dt_Md_isFrom.at 18 rfl) 1 (by decide) ?_
      refine r_goto (tgt := 34) (dt_Md_isFrom.at 19 rfl) (by decide) ?_
      exact r_zret (dt_Md_isFrom.at 21 rfl) rfl rfl
    · refine r_iload_n (dt_Md_isFrom.at 8 rfl) rfl ?_
      refine r_iconst (dt_Md_isFrom.at 9 rfl) 1 (by decide) ?_
      refine r_icmp_ne (tgt := 33) (dt_Md_isFrom.at 10 rfl) (by decide) ?_ ?_
      · refine r_iload_n (dt_Md_isFrom.at 11 rfl) rfl ?_
        refine r_iload_n (dt_Md_isFrom.at 12 rfl) rfl ?_
        refine r_bipush (dt_Md_isFrom.at 13 rfl) 16 (by decide) ?_
        refine r_iremk (dt_Md_isFrom.at 14 rfl) (by decide) ?_
        refine r_isub (dt_Md_isFrom.at 15 rfl) ?_
        refine r_iload_n (dt_Md_isFrom.at 16 rfl) rfl ?_
        refine r_icmp_ne (tgt := 33) (dt_Md_isFrom.at 17 rfl) (by decide) ?_ ?_
        · refine r_iconst (dt_Md_isFrom.at 18 rfl) 1 (by decide) ?_
          refine r_goto (tgt := 34) (dt_Md_isFrom.at 19 rfl) (by decide) ?_
          exact r_zret (dt_Md_isFrom.at 21 rfl) rfl rfl
        · refine r_iconst (dt_Md_isFrom.at 20 rfl) 0 (by decide) ?_
          exact r_zret (dt_Md_isFrom.at 21 rfl) rfl rfl
      · refine r_iconst (dt_Md_isFrom.at 20 rfl) 0 (by decide) ?_
        exact r_zret (dt_Md_isFrom.at 21 rfl) rfl rfl
set_option maxRecDepth 20000 in
set_option maxHeartbeats 2000000 in
theorem rf_Md_line_L80 {G : am_G} {l : Launch} (k29 : Nat → Int32 → Int32 → Int32 → Int32 → Int32 → am_M → am_R) (hk29 : ∀ v0 v1 v2 v3 v4 v5 M, Rf G l X_Md_line 29 [.ref v0, .int v1, .int v2, .int v3, .int v4, .int v5, .retAddr 0, .retAddr 0] [] M (k29 v0 v1 v2 v3 v4 v5 M)) (v0 : Nat) (v1 : Int32) (v2 : Int32) (v3 : Int32) (v4 : Int32) (v5 : Int32) (v6 : Int32) (s0 : Int32) (M : am_M) : Rf G l X_Md_line 80 [.ref v0, .int v1, .int v2, .int v3, .int v4, .int v5, .int v6, .retAddr 0] [.int s0] M (F_Md_line_L80 k29 v0 v1 v2 v3 v4 v5 v6 s0 M) := by
  unfold F_Md_line_L80
  refine r_istore (ls' := [.ref v0, .int v1, .int v2, .int v3, .int v4, .int v5, .int v6, .int s0]) (dt_Md_line.at 45 rfl) (by decide) rfl ?_
  refine r_iload (dt_Md_line.at 46 rfl) rfl ?_
  refine r_if_ne (tgt := 90) (dt_Md_line.at 47 rfl) (by decide) ?_ ?_
  · refine r_goto (tgt := 110) (dt_Md_line.at 48 rfl) (by decide) ?_
    refine r_iincn (v := 1) (dt_Md_line.at 58 rfl) (by decide) rfl (by decide) (fun y => [.ref v0, .int v1, .int v2, .int v3, .int v4, .int y, .int v6, .int s0]) (fun _ => rfl) (fun x6 => ?_)
    refine r_goto (tgt := 29) (dt_Md_line.at 59 rfl) (by decide) ?_
    exact Rf.msk [true, true, true, true, true, true, false, false] (hk29 v0 v1 v2 v3 v4 x6 M)
  · refine r_aload_n (dt_Md_line.at 49 rfl) rfl ?_
    refine r_iload (dt_Md_line.at 50 rfl) rfl ?_
    refine r_cvV (c := 9) (rest := []) (ct_Md_lays v0 v6 _) (dt_Md_line.at 51 rfl) mb_Md_lays wd_1481 wd_1483 wp_60 rfl (by decide) rfl rfl (Nat.le_of_ble_eq_true rfl) (fun M7 => ?_)
    refine r_iincn (v := 1) (dt_Md_line.at 52 rfl) (by decide) rfl (by decide) (fun y => [.ref v0, .int v1, .int v2, .int y, .int v4, .int v5, .int v6, .int s0]) (fun _ => rfl) (fun x8 => ?_)
    refine r_iload (dt_Md_line.at 53 rfl) rfl ?_
    refine r_aload_n (dt_Md_line.at 54 rfl) rfl ?_
    refine r_fI (dt_Md_line.at 55 rfl) fl_Md_303 rfl (fun x9 => ?_)
    refine r_csI (rest := []) (ct_Math_max v4 x9 _) (dt_Md_line.at 56 rfl) mb_Math_max wd_1536 wd_655 (by decide) rfl rfl (Nat.le_of_ble_eq_true rfl) (fun r11 M10 => ?_)
    refine r_istore (ls' := [.ref v0, .int v1, .int v2, .int x8, .int r11, .int v5, .int v6, .int s0]) (dt_Md_line.at 57 rfl) (by decide) rfl ?_
    refine r_iincn (v := 1) (dt_Md_line.at 58 rfl) (by decide) rfl (by decide) (fun y => [.ref v0, .int v1, .int v2, .int x8, .int r11, .int y, .int v6, .int s0]) (fun _ => rfl) (fun x12 => ?_)
    refine r_goto (tgt := 29) (dt_Md_line.at 59 rfl) (by decide) ?_
    exact Rf.msk [true, true, true, true, true, true, false, false] (hk29 v0 v1 v2 x8 r11 x12 M10)
set_option maxRecDepth 20000 in
set_option maxHeartbeats 2000000 in
theorem rf_Md_line_L79 {G : am_G} {l : Launch} (k29 : Nat → Int32 → Int32 → Int32 → Int32 → Int32 → am_M → am_R) (hk29 : ∀ v0 v1 v2 v3 v4 v5 M, Rf G l X_Md_line 29 [.ref v0, .int v1, .int v2, .int v3, .int v4, .int v5, .retAddr 0, .retAddr 0] [] M (k29 v0 v1 v2 v3 v4 v5 M)) (v0 : Nat) (v1 : Int32) (v2 : Int32) (v3 : Int32) (v4 : Int32) (v5 : Int32) (v6 : Int32) (M : am_M) : Rf G l X_Md_line 79 [.ref v0, .int v1, .int v2, .int v3, .int v4, .int v5, .int v6, .retAddr 0] [] M (F_Md_line_L79 k29 v0 v1 v2 v3 v4 v5 v6 M) := by
  unfold F_Md_line_L79
  refine r_iconst (dt_Md_line.at 44 rfl) 0 (by decide) ?_
  exact Rf.msk [true, true, true, true, true, true, true, false] (rf_Md_line_L80 k29 hk29 v0 v1 v2 v3 v4 v5 v6 0 M)
set_option maxRecDepth 20000 in
set_option maxHeartbeats 2000000 in
theorem rf_Md_line_L29 {G : am_G} {l : Launch}   : ∀ (n : Nat) (v0 : Nat) (v1 : Int32) (v2 : Int32) (v3 : Int32) (v4 : Int32) (v5 : Int32) (M : am_M), Rf G l X_Md_line 29 [.ref v0, .int v1, .int v2, .int v3, .int v4, .int v5, .retAddr 0, .retAddr 0] [] M (F_Md_line_L29 n v0 v1 v2 v3 v4 v5 M) := by
  intro n
  induction n with
  | zero => intro v0 v1 v2 v3 v4 v5 M; exact Rf.no
  | succ n ih =>
    intro v0 v1 v2 v3 v4 v5 M
    unfold F_Md_line_L29
    refine r_iload (dt_Md_line.at 18 rfl) rfl ?_
    refine r_bipush (dt_Md_line.at 19 rfl) 48 (by decide) ?_
    refine r_icmp_ge (tgt := 116) (dt_Md_line.at 20 rfl) (by decide) ?_ ?_
    · refine r_iload_n (dt_Md_line.at 60 rfl) rfl ?_
      refine r_if_ne (tgt := 124) (dt_Md_line.at 61 rfl) (by decide) ?_ ?_
      · refine r_iload_n (dt_Md_line.at 62 rfl) rfl ?_
        refine r_goto (tgt := 126) (dt_Md_line.at 63 rfl) (by decide) ?_
        exact r_iret (dt_Md_line.at 65 rfl) rfl
      · refine r_iload (dt_Md_line.at 64 rfl) rfl ?_
        exact r_iret (dt_Md_line.at 65 rfl) rfl
    · refine r_iload_n (dt_Md_line.at 21 rfl) rfl ?_
      refine r_iload_n (dt_Md_line.at 22 rfl) rfl ?_
      refine r_sipush (dt_Md_line.at 23 rfl) 256 (by decide) ?_
      refine r_iremk (dt_Md_line.at 24 rfl) (by decide) ?_
      refine r_isub (dt_Md_line.at 25 rfl) ?_
      refine r_iload (dt_Md_line.at 26 rfl) rfl ?_
      refine r_iadd (dt_Md_line.at 27 rfl) ?_
      refine r_nmi (fun x5 => ?_)
      refine r_istore (ls' := [.ref v0, .int v1, .int v2, .int v3, .int v4, .int v5, .int x5, .retAddr 0]) (dt_Md_line.at 28 rfl) (by decide) rfl ?_
      refine r_iload (dt_Md_line.at 29 rfl) rfl ?_
      refine r_bipush (dt_Md_line.at 30 rfl) 16 (by decide) ?_
      refine r_iremk (dt_Md_line.at 31 rfl) (by decide) ?_
      refine r_iconst (dt_Md_line.at 32 rfl) 3 (by decide) ?_
      refine r_icmp_ge (tgt := 79) (dt_Md_line.at 33 rfl) (by decide) ?_ ?_
      · exact Rf.msk [true, true, true, true, true, true, true, false] (rf_Md_line_L79 (F_Md_line_L29 n) ih v0 v1 v2 v3 v4 v5 x5 M)
      · refine r_aload_n (dt_Md_line.at 34 rfl) rfl ?_
        refine r_iload (dt_Md_line.at 35 rfl) rfl ?_
        refine r_cvI (c := 9) (rest := []) (ct_Md_isSpark v0 x5 _) (dt_Md_line.at 36 rfl) mb_Md_isSpark wd_1441 wd_1443 wp_56 rfl (by decide) rfl rfl (Nat.le_of_ble_eq_true rfl) (fun r14 M13 => ?_)
        refine r_if_eq (tgt := 79) (dt_Md_line.at 37 rfl) (by decide) ?_ ?_
        · exact Rf.msk [true, true, true, true, true, true, true, false] (rf_Md_line_L79 (F_Md_line_L29 n) ih v0 v1 v2 v3 v4 v5 x5 M13)
        · refine r_iload (dt_Md_line.at 38 rfl) rfl ?_
          refine r_iload_n (dt_Md_line.at 39 rfl) rfl ?_
          refine r_csI (rest := []) (ct_Md_isFrom x5 v1 _) (dt_Md_line.at 40 rfl) mb_Md_isFrom wd_1575 wd_1576 (by decide) rfl rfl (Nat.le_of_ble_eq_true rfl) (fun r16 M15 => ?_)
          refine r_if_eq (tgt := 79) (dt_Md_line.at 41 rfl) (by decide) ?_ ?_
          · exact Rf.msk [true, true, true, true, true, true, true, false] (rf_Md_line_L79 (F_Md_line_L29 n) ih v0 v1 v2 v3 v4 v5 x5 M15)
          · refine r_iconst (dt_Md_line.at 42 rfl) 1 (by decide) ?_
            refine r_goto (tgt := 80) (dt_Md_line.at 43 rfl) (by decide) ?_
            exact Rf.msk [true, true, true, true, true, true, true, false] (rf_Md_line_L80 (F_Md_line_L29 n) ih v0 v1 v2 v3 v4 v5 x5 1 M15)
set_option maxRecDepth 20000 in
set_option maxHeartbeats 2000000 in
theorem ct_Md_line {G : am_G} {l : Launch} (a0 : Nat) (p1 : Int32) (p2 : Int32) (M : am_M) : Ct G l y_Md_line X_Md_line [.ref a0, .int p1, .int p2] M (F_Md_line a0 p1 p2 M) := by
  refine Ct.of (by decide +kernel) rfl rfl (Nat.le_of_ble_eq_true rfl) ?_
  unfold F_Md_line
  show Rf G l X_Md_line 0 [.ref a0, .int p1, .int p2, .retAddr 0, .retAddr 0, .retAddr 0, .retAddr 0, .retAddr 0] [] M _
  refine r_aload_n (dt_Md_line.at 0 rfl) rfl ?_
  refine r_iload_n (dt_Md_line.at 1 rfl) rfl ?_
  refine r_cvI (c := 9) (rest := []) (ct_Md_isSpark a0 p1 _) (dt_Md_line.at 2 rfl) mb_Md_isSpark wd_1441 wd_1443 wp_56 rfl (by decide) rfl rfl (Nat.le_of_ble_eq_true rfl) (fun r2 M1 => ?_)
  refine r_if_eq (tgt := 18) (dt_Md_line.at 3 rfl) (by decide) ?_ ?_
  · refine r_bipush (dt_Md_line.at 10 rfl) (-2) (by decide) ?_
    exact r_iret (dt_Md_line.at 11 rfl) rfl
  · refine r_iload_n (dt_Md_line.at 4 rfl) rfl ?_
    refine r_i2l (dt_Md_line.at 5 rfl) ?_
    refine r_lconst (dt_Md_line.at 6 rfl) 0 (by decide) ?_
    refine r_lconst (dt_Md_line.at 7 rfl) 1 (by decide) ?_
    refine r_csI (rest := []) (ct_Md_in (p2.toInt64) 0 1 _) (dt_Md_line.at 8 rfl) mb_Md_in wd_1289 wd_1290 (by decide) rfl rfl (Nat.le_of_ble_eq_true rfl) (fun r4 M3 => ?_)
    refine r_if_ne (tgt := 21) (dt_Md_line.at 9 rfl) (by decide) ?_ ?_
    · refine r_bipush (dt_Md_line.at 10 rfl) (-2) (by decide) ?_
      exact r_iret (dt_Md_line.at 11 rfl) rfl
    · refine r_iconst (dt_Md_line.at 12 rfl) 0 (by decide) ?_
      refine r_istore_n (ls' := [.ref a0, .int p1, .int p2, .int 0, .retAddr 0, .retAddr 0, .retAddr 0, .retAddr 0]) (dt_Md_line.at 13 rfl) (by decide) rfl ?_
      refine r_iconst (dt_Md_line.at 14 rfl) (-1) (by decide) ?_
      refine r_istore (ls' := [.ref a0, .int p1, .int p2, .int 0, .int (-1), .retAddr 0, .retAddr 0, .retAddr 0]) (dt_Md_line.at 15 rfl) (by decide) rfl ?_
      refine r_iconst (dt_Md_line.at 16 rfl) 0 (by decide) ?_
      refine r_istore (ls' := [.ref a0, .int p1, .int p2, .int 0, .int (-1), .int 0, .retAddr 0, .retAddr 0]) (dt_Md_line.at 17 rfl) (by decide) rfl ?_
      exact Rf.msk [true, true, true, true, true, true, false, false] (rf_Md_line_L29 fu a0 p1 p2 0 (-1) 0 M3)
set_option maxRecDepth 20000 in
set_option maxHeartbeats 2000000 in
theorem ct_Md_firstGroup {G : am_G} {l : Launch} (a0 : Nat) (p1 : Int32) (p2 : Int32) (M : am_M) : Ct G l y_Md_firstGroup X_Md_firstGroup [.ref a0, .int p1, .int p2] M (F_Md_firstGroup a0 p1 p2 M) := by
  refine Ct.of (by decide +kernel) rfl rfl (Nat.le_of_ble_eq_true rfl) ?_
  unfold F_Md_firstGroup
  show Rf G l X_Md_firstGroup 0 [.ref a0, .int p1, .int p2, .retAddr 0] [] M _
  refine r_iload_n (dt_Md_firstGroup.at 0 rfl) rfl ?_
  refine r_sipush (dt_Md_firstGroup.at 1 rfl) 200 (by decide) ?_
  refine r_isub (dt_Md_firstGroup.at 2 rfl) ?_
  refine r_aload_n (dt_Md_firstGroup.at 3 rfl) rfl ?_
  refine r_iload_n (dt_Md_firstGroup.at 4 rfl) rfl ?_
  refine r_iconst (dt_Md_firstGroup.at 5 rfl) 4 (by decide) ?_
  refine r_cvI (c := 9) (rest := [.int (p2 - 200)]) (ct_Md_ofSource a0 p1 4 _) (dt_Md_firstGroup.at 6 rfl) mb_Md_ofSource wd_1403 wd_1405 wp_53 rfl (by decide) rfl rfl (Nat.le_of_ble_eq_true rfl) (fun r2 M1 => ?_)
  refine r_isub (dt_Md_firstGroup.at 7 rfl) ?_
  refine r_nmi (fun x3 => ?_)
  refine r_istore_n (ls' := [.ref a0, .int p1, .int p2, .int x3]) (dt_Md_firstGroup.at 8 rfl) (by decide) rfl ?_
  refine r_iload_n (dt_Md_firstGroup.at 9 rfl) rfl ?_
  refine r_if_gt (tgt := 21) (dt_Md_firstGroup.at 10 rfl) (by decide) ?_ ?_
  · refine r_iload_n (dt_Md_firstGroup.at 13 rfl) rfl ?_
    refine r_aload_n (dt_Md_firstGroup.at 14 rfl) rfl ?_
    refine r_iload_n (dt_Md_firstGroup.at 15 rfl) rfl ?_
    refine r_iconst (dt_Md_firstGroup.at 16 rfl) 5 (by decide) ?_
    refine r_cvI (c := 9) (rest := [.int x3]) (ct_Md_ofSource a0 p1 5 _) (dt_Md_firstGroup.at 17 rfl) mb_Md_ofSource wd_1403 wd_1405 wp_53 rfl (by decide) rfl rfl (Nat.le_of_ble_eq_true rfl) (fun r5 M4 => ?_)
    refine r_iadd (dt_Md_firstGroup.at 18 rfl) ?_
    refine r_iconst (dt_Md_firstGroup.at 19 rfl) 1 (by decide) ?_
    refine r_isub (dt_Md_firstGroup.at 20 rfl) ?_
    refine r_aload_n (dt_Md_firstGroup.at 21 rfl) rfl ?_
    refine r_iload_n (dt_Md_firstGroup.at 22 rfl) rfl ?_
    refine r_iconst (dt_Md_firstGroup.at 23 rfl) 5 (by decide) ?_
    refine r_cvI (c := 9) (rest := [.int ((x3 + r5) - 1)]) (ct_Md_ofSource a0 p1 5 _) (dt_Md_firstGroup.at 24 rfl) mb_Md_ofSource wd_1403 wd_1405 wp_53 rfl (by decide) rfl rfl (Nat.le_of_ble_eq_true rfl) (fun r7 M6 => ?_)
    refine r_idiv (dt_Md_firstGroup.at 25 rfl) ?_
    exact r_iret (dt_Md_firstGroup.at 26 rfl) rfl
  · refine r_iconst (dt_Md_firstGroup.at 11 rfl) 0 (by decide) ?_
    refine r_goto (tgt := 38) (dt_Md_firstGroup.at 12 rfl) (by decide) ?_
    exact r_iret (dt_Md_firstGroup.at 26 rfl) rfl
set_option maxRecDepth 20000 in
set_option maxHeartbeats 2000000 in
theorem ct_Md_isGroup {G : am_G} {l : Launch} (a0 : Nat) (p1 : Int32) (p2 : Int32) (p3 : Int32) (M : am_M) : Ct G l y_Md_isGroup X_Md_isGroup [.ref a0, .int p1, .int p2, .int p3] M (F_Md_isGroup a0 p1 p2 p3 M) := by
  refine Ct.of (by decide +kernel) rfl rfl (Nat.le_of_ble_eq_true rfl) ?_
  unfold F_Md_isGroup
  show Rf G l X_Md_isGroup 0 [.ref a0, .int p1, .int p2, .int p3] [] M _
  refine r_iload_n (dt_Md_isGroup.at 0 rfl) rfl ?_
  refine r_aload_n (dt_Md_isGroup.at 1 rfl) rfl ?_
  refine r_iload_n (dt_Md_isGroup.at 2 rfl) rfl ?_
  refine r_cvI (c := 9) (rest := [.int p2]) (ct_Md_groups a0 p1 _) (dt_Md_isGroup.at 3 rfl) mb_Md_groups wd_1399 wd_1401 wp_52 rfl (by decide) rfl rfl (Nat.le_of_ble_eq_true rfl) (fun r2 M1 => ?_)
  refine r_icmp_ge (tgt := 32) (dt_Md_isGroup.at 4 rfl) (by decide) ?_ ?_
  · refine r_iconst (dt_Md_isGroup.at 20 rfl) 0 (by decide) ?_
    exact r_zret (dt_Md_isGroup.at 21 rfl) rfl rfl
  · refine r_aload_n (dt_Md_isGroup.at 5 rfl) rfl ?_
    refine r_iload_n (dt_Md_isGroup.at 6 rfl) rfl ?_
    refine r_iconst (dt_Md_isGroup.at 7 rfl) 4 (by decide) ?_
    refine r_cvI (c := 9) (rest := []) (ct_Md_ofSource a0 p1 4 _) (dt_Md_isGroup.at 8 rfl) mb_Md_ofSource wd_1403 wd_1405 wp_53 rfl (by decide) rfl rfl (Nat.le_of_ble_eq_true rfl) (fun r4 M3 => ?_)
    refine r_iload_n (dt_Md_isGroup.at 9 rfl) rfl ?_
    refine r_aload_n (dt_Md_isGroup.at 10 rfl) rfl ?_
    refine r_iload_n (dt_Md_isGroup.at 11 rfl) rfl ?_
    refine r_iconst (dt_Md_isGroup.at 12 rfl) 5 (by decide) ?_
    refine r_cvI (c := 9) (rest := [.int p2, .int r4]) (ct_Md_ofSource a0 p1 5 _) (dt_Md_isGroup.at 13 rfl) mb_Md_ofSource wd_1403 wd_1405 wp_53 rfl (by decide) rfl rfl (Nat.le_of_ble_eq_true rfl) (fun r6 M5 => ?_)
    refine r_imul (dt_Md_isGroup.at 14 rfl) ?_
    refine r_iadd (dt_Md_isGroup.at 15 rfl) ?_
    refine r_iload_n (dt_Md_isGroup.at 16 rfl) rfl ?_
    refine r_icmp_gt (tgt := 32) (dt_Md_isGroup.at 17 rfl) (by decide) ?_ ?_
    · refine r_iconst (dt_Md_isGroup.at 20 rfl) 0 (by decide) ?_
      exact r_zret (dt_Md_isGroup.at 21 rfl) rfl rfl
    · refine r_iconst (dt_Md_isGroup.at 18 rfl) 1 (by decide) ?_
      refine r_goto (tgt := 33) (dt_Md_isGroup.at 19 rfl) (by decide) ?_
      exact r_zret (dt_Md_isGroup.at 21 rfl) rfl rfl
set_option maxRecDepth 20000 in
set_option maxHeartbeats 2000000 in
theorem ct_Md_comes {G : am_G} {l : Launch} (a0 : Nat) (p1 : Int32) (p2 : Int32) (M : am_M) : Ct G l y_Md_comes X_Md_comes [.ref a0, .int p1, .int p2] M (F_Md_comes a0 p1 p2 M) := by
  refine Ct.of (by decide +kernel) rfl rfl (Nat.le_of_ble_eq_true rfl) ?_
  unfold F_Md_comes
  show Rf G l X_Md_comes 0 [.ref a0, .int p1, .int p2] [] M _
  refine r_aload_n (dt_Md_comes.at 0 rfl) rfl ?_
  refine r_iload_n (dt_Md_comes.at 1 rfl) rfl ?_
  refine r_cvI (c := 9) (rest := []) (ct_Md_isSpark a0 p1 _) (dt_Md_comes.at 2 rfl) mb_Md_isSpark wd_1441 wd_1443 wp_56 rfl (by decide) rfl rfl (Nat.le_of_ble_eq_true rfl) (fun r2 M1 => ?_)
  refine r_if_ne (tgt := 9) (dt_Md_comes.at 3 rfl) (by decide) ?_ ?_
  · exact r_vret (dt_Md_comes.at 4 rfl) rfl
  · refine r_aload_n (dt_Md_comes.at 5 rfl) rfl ?_
    refine r_iload_n (dt_Md_comes.at 6 rfl) rfl ?_
    refine r_cvV (c := 9) (rest := []) (ct_Md_lays a0 p1 _) (dt_Md_comes.at 7 rfl) mb_Md_lays wd_1481 wd_1483 wp_60 rfl (by decide) rfl rfl (Nat.le_of_ble_eq_true rfl) (fun M3 => ?_)
    refine r_iload_n (dt_Md_comes.at 8 rfl) rfl ?_
    refine r_aload_n (dt_Md_comes.at 9 rfl) rfl ?_
    refine r_fI (dt_Md_comes.at 10 rfl) fl_Md_292 rfl (fun x4 => ?_)
    refine r_icmp_lt (tgt := 30) (dt_Md_comes.at 11 rfl) (by decide) ?_ ?_
    · exact r_vret (dt_Md_comes.at 16 rfl) rfl
    · refine r_iload_n (dt_Md_comes.at 12 rfl) rfl ?_
      refine r_aload_n (dt_Md_comes.at 13 rfl) rfl ?_
      refine r_fI (dt_Md_comes.at 14 rfl) fl_Md_303 rfl (fun x5 => ?_)
      refine r_icmp_lt (tgt := 31) (dt_Md_comes.at 15 rfl) (by decide) ?_ ?_
      · refine r_aload_n (dt_Md_comes.at 17 rfl) rfl ?_
        refine r_fR (dt_Md_comes.at 18 rfl) fl_Md_54 rfl (fun b6 => ?_)
        refine r_aload_n (dt_Md_comes.at 19 rfl) rfl ?_
        refine r_fI (dt_Md_comes.at 20 rfl) fl_Md_361 rfl (fun x7 => ?_)
        refine r_sipush (dt_Md_comes.at 21 rfl) 1000 (by decide) ?_
        refine r_aload_n (dt_Md_comes.at 22 rfl) rfl ?_
        refine r_iconst (dt_Md_comes.at 23 rfl) 2 (by decide) ?_
        refine r_iload_n (dt_Md_comes.at 24 rfl) rfl ?_
        refine r_aload_n (dt_Md_comes.at 25 rfl) rfl ?_
        refine r_fI (dt_Md_comes.at 26 rfl) fl_Md_292 rfl (fun x8 => ?_)
        refine r_isub (dt_Md_comes.at 27 rfl) ?_
        refine r_cvI (c := 9) (rest := [.int 1000, .int x7, .ref b6]) (ct_Md_placeBy a0 2 (p2 - x8) _) (dt_Md_comes.at 28 rfl) mb_Md_placeBy wd_1517 wd_1519 wp_69 rfl (by decide) rfl rfl (Nat.le_of_ble_eq_true rfl) (fun r10 M9 => ?_)
        refine r_isub (dt_Md_comes.at 29 rfl) ?_
        refine r_i2l (dt_Md_comes.at 30 rfl) ?_
        refine r_bipush (dt_Md_comes.at 31 rfl) 32 (by decide) ?_
        refine r_lshl (dt_Md_comes.at 32 rfl) ?_
        refine r_iload_n (dt_Md_comes.at 33 rfl) rfl ?_
        refine r_i2l (dt_Md_comes.at 34 rfl) ?_
        refine r_lor (dt_Md_comes.at 35 rfl) ?_
        refine r_tL (dt_Md_comes.at 36 rfl) (fun M11 => ?_)
        refine r_aload_n (dt_Md_comes.at 37 rfl) rfl ?_
        refine r_dup (dt_Md_comes.at 38 rfl) rfl ?_
        refine r_fI (dt_Md_comes.at 39 rfl) fl_Md_361 rfl (fun x12 => ?_)
        refine r_iconst (dt_Md_comes.at 40 rfl) 1 (by decide) ?_
        refine r_iadd (dt_Md_comes.at 41 rfl) ?_
        refine r_sI (dt_Md_comes.at 42 rfl) fl_Md_361 rfl rfl rfl (fun M13 => ?_)
        exact r_vret (dt_Md_comes.at 43 rfl) rfl
      · exact r_vret (dt_Md_comes.at 16 rfl) rfl
set_option maxRecDepth 20000 in
set_option maxHeartbeats 2000000 in
theorem rf_Md_comesLine_L2 {G : am_G} {l : Launch}   : ∀ (n : Nat) (v0 : Nat) (v1 : Int32) (v2 : Int32) (v3 : Int32) (M : am_M), Rf G l X_Md_comesLine 2 [.ref v0, .int v1, .int v2, .int v3] [] M (F_Md_comesLine_L2 n v0 v1 v2 v3 M) := by
  intro n
  induction n with
  | zero => intro v0 v1 v2 v3 M; exact Rf.no
  | succ n ih =>
    intro v0 v1 v2 v3 M
    unfold F_Md_comesLine_L2
    refine r_iload_n (dt_Md_comesLine.at 2 rfl) rfl ?_
    refine r_bipush (dt_Md_comesLine.at 3 rfl) 48 (by decide) ?_
    refine r_icmp_ge (tgt := 34) (dt_Md_comesLine.at 4 rfl) (by decide) ?_ ?_
    · exact r_vret (dt_Md_comesLine.at 20 rfl) rfl
    · refine r_iload_n (dt_Md_comesLine.at 5 rfl) rfl ?_
      refine r_bipush (dt_Md_comesLine.at 6 rfl) 16 (by decide) ?_
      refine r_iremk (dt_Md_comesLine.at 7 rfl) (by decide) ?_
      refine r_iconst (dt_Md_comesLine.at 8 rfl) 3 (by decide) ?_
      refine r_icmp_ge (tgt := 28) (dt_Md_comesLine.at 9 rfl) (by decide) ?_ ?_
      · refine r_iincn (v := 1) (dt_Md_comesLine.at 18 rfl) (by decide) rfl (by decide) (fun y => [.ref v0, .int v1, .int v2, .int y]) (fun _ => rfl) (fun x1 => ?_)
        refine r_goto (tgt := 2) (dt_Md_comesLine.at 19 rfl) (by decide) ?_
        exact Rf.msk [true, true, true, true] (ih v0 v1 v2 x1 M)
      · refine r_aload_n (dt_Md_comesLine.at 10 rfl) rfl ?_
        refine r_sipush (dt_Md_comesLine.at 11 rfl) 256 (by decide) ?_
        refine r_iload_n (dt_Md_comesLine.at 12 rfl) rfl ?_
        refine r_imul (dt_Md_comesLine.at 13 rfl) ?_
        refine r_iload_n (dt_Md_comesLine.at 14 rfl) rfl ?_
        refine r_iadd (dt_Md_comesLine.at 15 rfl) ?_
        refine r_iload_n (dt_Md_comesLine.at 16 rfl) rfl ?_
        refine r_cvV (c := 9) (rest := []) (ct_Md_comes v0 ((256 * v1) + v3) v2 _) (dt_Md_comesLine.at 17 rfl) mb_Md_comes wd_1599 wd_1601 wp_77 rfl (by decide) rfl rfl (Nat.le_of_ble_eq_true rfl) (fun M2 => ?_)
        refine r_iincn (v := 1) (dt_Md_comesLine.at 18 rfl) (by decide) rfl (by decide) (fun y => [.ref v0, .int v1, .int v2, .int y]) (fun _ => rfl) (fun x3 => ?_)
        refine r_goto (tgt := 2) (dt_Md_comesLine.at 19 rfl) (by decide) ?_
        exact Rf.msk [true, true, true, true] (ih v0 v1 v2 x3 M2)
set_option maxRecDepth 20000 in
set_option maxHeartbeats 2000000 in
theorem ct_Md_comesLine {G : am_G} {l : Launch} (a0 : Nat) (p1 : Int32) (p2 : Int32) (M : am_M) : Ct G l y_Md_comesLine X_Md_comesLine [.ref a0, .int p1, .int p2] M (F_Md_comesLine a0 p1 p2 M) := by
  refine Ct.of (by decide +kernel) rfl rfl (Nat.le_of_ble_eq_true rfl) ?_
  unfold F_Md_comesLine
  show Rf G l X_Md_comesLine 0 [.ref a0, .int p1, .int p2, .retAddr 0] [] M _
  refine r_iconst (dt_Md_comesLine.at 0 rfl) 0 (by decide) ?_
  refine r_istore_n (ls' := [.ref a0, .int p1, .int p2, .int 0]) (dt_Md_comesLine.at 1 rfl) (by decide) rfl ?_
  exact Rf.msk [true, true, true, true] (rf_Md_comesLine_L2 fu a0 p1 p2 0 M)
set_option maxRecDepth 20000 in
set_option maxHeartbeats 2000000 in
theorem rf_Md_gathers_L48 {G : am_G} {l : Launch} (k7 : Nat → Int32 → Int32 → am_M → am_R) (k31 : Nat → Int32 → Int32 → Int32 → Int32 → am_M → am_R) (hk7 : ∀ v0 v1 v2 M, Rf G l X_Md_gathers 7 [.ref v0, .int v1, .int v2, .retAddr 0, .retAddr 0, .retAddr 0] [] M (k7 v0 v1 v2 M)) (hk31 : ∀ v0 v1 v2 v3 v4 M, Rf G l X_Md_gathers 31 [.ref v0, .int v1, .int v2, .int v3, .int v4, .retAddr 0] [] M (k31 v0 v1 v2 v3 v4 M)) : ∀ (n : Nat) (v0 : Nat) (v1 : Int32) (v2 : Int32) (v3 : Int32) (v4 : Int32) (v5 : Int32) (M : am_M), Rf G l X_Md_gathers 48 [.ref v0, .int v1, .int v2, .int v3, .int v4, .int v5] [] M (F_Md_gathers_L48 k7 k31 n v0 v1 v2 v3 v4 v5 M) := by
  intro n
  induction n with
  | zero => intro v0 v1 v2 v3 v4 v5 M; exact Rf.no
  | succ n ih =>
    intro v0 v1 v2 v3 v4 v5 M
    unfold F_Md_gathers_L48
    refine r_iload (dt_Md_gathers.at 29 rfl) rfl ?_
    refine r_iload_n (dt_Md_gathers.at 30 rfl) rfl ?_
    refine r_iload (dt_Md_gathers.at 31 rfl) rfl ?_
    refine r_imul (dt_Md_gathers.at 32 rfl) ?_
    refine r_iload_n (dt_Md_gathers.at 33 rfl) rfl ?_
    refine r_iadd (dt_Md_gathers.at 34 rfl) ?_
    refine r_icmp_ge (tgt := 76) (dt_Md_gathers.at 35 rfl) (by decide) ?_ ?_
    · refine r_iincn (v := 1) (dt_Md_gathers.at 46 rfl) (by decide) rfl (by decide) (fun y => [.ref v0, .int v1, .int v2, .int v3, .int y, .int v5]) (fun _ => rfl) (fun x11 => ?_)
      refine r_goto (tgt := 31) (dt_Md_gathers.at 47 rfl) (by decide) ?_
      exact Rf.msk [true, true, true, true, true, false] (hk31 v0 v1 v2 v3 x11 M)
    · refine r_aload_n (dt_Md_gathers.at 36 rfl) rfl ?_
      refine r_iconst (dt_Md_gathers.at 37 rfl) 4 (by decide) ?_
      refine r_iload (dt_Md_gathers.at 38 rfl) rfl ?_
      refine r_imul (dt_Md_gathers.at 39 rfl) ?_
      refine r_iload_n (dt_Md_gathers.at 40 rfl) rfl ?_
      refine r_iadd (dt_Md_gathers.at 41 rfl) ?_
      refine r_iload_n (dt_Md_gathers.at 42 rfl) rfl ?_
      refine r_cvV (c := 9) (rest := []) (ct_Md_comesLine v0 ((4 * v5) + v2) v1 _) (dt_Md_gathers.at 43 rfl) mb_Md_comesLine wd_1595 wd_1597 wp_76 rfl (by decide) rfl rfl (Nat.le_of_ble_eq_true rfl) (fun M12 => ?_)
      refine r_iincn (v := 1) (dt_Md_gathers.at 44 rfl) (by decide) rfl (by decide) (fun y => [.ref v0, .int v1, .int v2, .int v3, .int v4, .int y]) (fun _ => rfl) (fun x13 => ?_)
      refine r_goto (tgt := 48) (dt_Md_gathers.at 45 rfl) (by decide) ?_
      exact Rf.msk [true, true, true, true, true, true] (ih v0 v1 v2 v3 v4 x13 M12)
set_option maxRecDepth 20000 in
set_option maxHeartbeats 2000000 in
theorem rf_Md_gathers_L31 {G : am_G} {l : Launch} (k7 : Nat → Int32 → Int32 → am_M → am_R) (hk7 : ∀ v0 v1 v2 M, Rf G l X_Md_gathers 7 [.ref v0, .int v1, .int v2, .retAddr 0, .retAddr 0, .retAddr 0] [] M (k7 v0 v1 v2 M)) : ∀ (n : Nat) (v0 : Nat) (v1 : Int32) (v2 : Int32) (v3 : Int32) (v4 : Int32) (M : am_M), Rf G l X_Md_gathers 31 [.ref v0, .int v1, .int v2, .int v3, .int v4, .retAddr 0] [] M (F_Md_gathers_L31 k7 n v0 v1 v2 v3 v4 M) := by
  intro n
  induction n with
  | zero => intro v0 v1 v2 v3 v4 M; exact Rf.no
  | succ n ih =>
    intro v0 v1 v2 v3 v4 M
    unfold F_Md_gathers_L31
    refine r_aload_n (dt_Md_gathers.at 19 rfl) rfl ?_
    refine r_iload_n (dt_Md_gathers.at 20 rfl) rfl ?_
    refine r_iload (dt_Md_gathers.at 21 rfl) rfl ?_
    refine r_iload_n (dt_Md_gathers.at 22 rfl) rfl ?_
    refine r_cvI (c := 9) (rest := []) (ct_Md_isGroup v0 v2 v4 v1 _) (dt_Md_gathers.at 23 rfl) mb_Md_isGroup wd_1591 wd_1593 wp_75 rfl (by decide) rfl rfl (Nat.le_of_ble_eq_true rfl) (fun r8 M7 => ?_)
    refine r_if_eq (tgt := 82) (dt_Md_gathers.at 24 rfl) (by decide) ?_ ?_
    · refine r_iincn (v := 1) (dt_Md_gathers.at 48 rfl) (by decide) rfl (by decide) (fun y => [.ref v0, .int v1, .int y, .int v3, .int v4, .retAddr 0]) (fun _ => rfl) (fun x9 => ?_)
      refine r_goto (tgt := 7) (dt_Md_gathers.at 49 rfl) (by decide) ?_
      exact Rf.msk [true, true, true, false, false, false] (hk7 v0 v1 x9 M7)
    · refine r_iload_n (dt_Md_gathers.at 25 rfl) rfl ?_
      refine r_iload (dt_Md_gathers.at 26 rfl) rfl ?_
      refine r_imul (dt_Md_gathers.at 27 rfl) ?_
      refine r_nmi (fun x10 => ?_)
      refine r_istore (ls' := [.ref v0, .int v1, .int v2, .int v3, .int v4, .int x10]) (dt_Md_gathers.at 28 rfl) (by decide) rfl ?_
      exact Rf.msk [true, true, true, true, true, true] (rf_Md_gathers_L48 k7 (F_Md_gathers_L31 k7 n) hk7 ih fu v0 v1 v2 v3 v4 x10 M7)
set_option maxRecDepth 20000 in
set_option maxHeartbeats 2000000 in
theorem rf_Md_gathers_L7 {G : am_G} {l : Launch}   : ∀ (n : Nat) (v0 : Nat) (v1 : Int32) (v2 : Int32) (M : am_M), Rf G l X_Md_gathers 7 [.ref v0, .int v1, .int v2, .retAddr 0, .retAddr 0, .retAddr 0] [] M (F_Md_gathers_L7 n v0 v1 v2 M) := by
  intro n
  induction n with
  | zero => intro v0 v1 v2 M; exact Rf.no
  | succ n ih =>
    intro v0 v1 v2 M
    unfold F_Md_gathers_L7
    refine r_iload_n (dt_Md_gathers.at 5 rfl) rfl ?_
    refine r_aload_n (dt_Md_gathers.at 6 rfl) rfl ?_
    refine r_fI (dt_Md_gathers.at 7 rfl) fl_Md_227 rfl (fun x2 => ?_)
    refine r_icmp_ge (tgt := 88) (dt_Md_gathers.at 8 rfl) (by decide) ?_ ?_
    · exact r_vret (dt_Md_gathers.at 50 rfl) rfl
    · refine r_aload_n (dt_Md_gathers.at 9 rfl) rfl ?_
      refine r_iload_n (dt_Md_gathers.at 10 rfl) rfl ?_
      refine r_bipush (dt_Md_gathers.at 11 rfl) 6 (by decide) ?_
      refine r_cvI (c := 9) (rest := []) (ct_Md_ofSource v0 v2 6 _) (dt_Md_gathers.at 12 rfl) mb_Md_ofSource wd_1403 wd_1405 wp_53 rfl (by decide) rfl rfl (Nat.le_of_ble_eq_true rfl) (fun r4 M3 => ?_)
      refine r_istore_n (ls' := [.ref v0, .int v1, .int v2, .int r4, .retAddr 0, .retAddr 0]) (dt_Md_gathers.at 13 rfl) (by decide) rfl ?_
      refine r_aload_n (dt_Md_gathers.at 14 rfl) rfl ?_
      refine r_iload_n (dt_Md_gathers.at 15 rfl) rfl ?_
      refine r_iload_n (dt_Md_gathers.at 16 rfl) rfl ?_
      refine r_cvI (c := 9) (rest := []) (ct_Md_firstGroup v0 v2 v1 _) (dt_Md_gathers.at 17 rfl) mb_Md_firstGroup wd_1587 wd_1589 wp_74 rfl (by decide) rfl rfl (Nat.le_of_ble_eq_true rfl) (fun r6 M5 => ?_)
      refine r_istore (ls' := [.ref v0, .int v1, .int v2, .int r4, .int r6, .retAddr 0]) (dt_Md_gathers.at 18 rfl) (by decide) rfl ?_
      exact Rf.msk [true, true, true, true, true, false] (rf_Md_gathers_L31 (F_Md_gathers_L7 n) ih fu v0 v1 v2 r4 r6 M5)
set_option maxRecDepth 20000 in
set_option maxHeartbeats 2000000 in
theorem ct_Md_gathers {G : am_G} {l : Launch} (a0 : Nat) (p1 : Int32) (M : am_M) : Ct G l y_Md_gathers X_Md_gathers [.ref a0, .int p1] M (F_Md_gathers a0 p1 M) := by
  refine Ct.of (by decide +kernel) rfl rfl (Nat.le_of_ble_eq_true rfl) ?_
  unfold F_Md_gathers
  show Rf G l X_Md_gathers 0 [.ref a0, .int p1, .retAddr 0, .retAddr 0, .retAddr 0, .retAddr 0] [] M _
  refine r_aload_n (dt_Md_gathers.at 0 rfl) rfl ?_
  refine r_iconst (dt_Md_gathers.at 1 rfl) 0 (by decide) ?_
  refine r_sI (dt_Md_gathers.at 2 rfl) fl_Md_361 rfl rfl rfl (fun M1 => ?_)
  refine r_iconst (dt_Md_gathers.at 3 rfl) 0 (by decide) ?_
  refine r_istore_n (ls' := [.ref a0, .int p1, .int 0, .retAddr 0, .retAddr 0, .retAddr 0]) (dt_Md_gathers.at 4 rfl) (by decide) rfl ?_
  exact Rf.msk [true, true, true, false, false, false] (rf_Md_gathers_L7 fu a0 p1 0 M1)
set_option maxRecDepth 20000 in
set_option maxHeartbeats 2000000 in
theorem ct_Md_codeAt {G : am_G} {l : Launch} (a0 : Nat) (p1 : Int32) (M : am_M) : Ct G l y_Md_codeAt X_Md_codeAt [.ref a0, .int p1] M (F_Md_codeAt a0 p1 M) := by
  refine Ct.of (by decide +kernel) rfl rfl (Nat.le_of_ble_eq_true rfl) ?_
  unfold F_Md_codeAt
  show Rf G l X_Md_codeAt 0 [.ref a0, .int p1] [] M _
  refine r_aload_n (dt_Md_codeAt.at 0 rfl) rfl ?_
  refine r_fR (dt_Md_codeAt.at 1 rfl) fl_Md_54 rfl (fun b1 => ?_)
  refine r_iload_n (dt_Md_codeAt.at 2 rfl) rfl ?_
  refine r_aL (dt_Md_codeAt.at 3 rfl) (fun z2 => ?_)
  refine r_ldc2 (dt_Md_codeAt.at 4 rfl) 2147483647 wd_1607 ?_
  refine r_land (dt_Md_codeAt.at 5 rfl) ?_
  refine r_l2i (dt_Md_codeAt.at 6 rfl) ?_
  exact r_iret (dt_Md_codeAt.at 7 rfl) rfl
set_option maxRecDepth 20000 in
set_option maxHeartbeats 2000000 in
theorem rf_Md_many_L49 {G : am_G} {l : Launch}   : ∀ (n : Nat) (v0 : Nat) (v2 : Int32) (v3 : Int32) (v4 : Int32) (M : am_M), Rf G l X_Md_many 49 [.ref v0, .retAddr 0, .int v2, .int v3, .int v4] [] M (F_Md_many_L49 n v0 v2 v3 v4 M) := by
  intro n
  induction n with
  | zero => intro v0 v2 v3 v4 M; exact Rf.no
  | succ n ih =>
    intro v0 v2 v3 v4 M
    unfold F_Md_many_L49
    refine r_iload (dt_Md_many.at 29 rfl) rfl ?_
    refine r_aload_n (dt_Md_many.at 30 rfl) rfl ?_
    refine r_fI (dt_Md_many.at 31 rfl) fl_Md_361 rfl (fun x8 => ?_)
    refine r_icmp_ge (tgt := 86) (dt_Md_many.at 32 rfl) (by decide) ?_ ?_
    · refine r_iload_n (dt_Md_many.at 48 rfl) rfl ?_
      exact r_iret (dt_Md_many.at 49 rfl) rfl
    · refine r_iload_n (dt_Md_many.at 33 rfl) rfl ?_
      refine r_aload_n (dt_Md_many.at 34 rfl) rfl ?_
      refine r_aload_n (dt_Md_many.at 35 rfl) rfl ?_
      refine r_iload (dt_Md_many.at 36 rfl) rfl ?_
      refine r_cvI (c := 9) (rest := [.ref v0, .int v3]) (ct_Md_codeAt v0 v4 _) (dt_Md_many.at 37 rfl) mb_Md_codeAt wd_1603 wd_1605 wp_78 rfl (by decide) rfl rfl (Nat.le_of_ble_eq_true rfl) (fun r10 M9 => ?_)
      refine r_cvI (c := 9) (rest := [.int v3]) (ct_Md_kindOf v0 r10 _) (dt_Md_many.at 38 rfl) mb_Md_kindOf wd_1466 wd_1468 wp_59 rfl (by decide) rfl rfl (Nat.le_of_ble_eq_true rfl) (fun r12 M11 => ?_)
      refine r_iload_n (dt_Md_many.at 39 rfl) rfl ?_
      refine r_icmp_ne (tgt := 77) (dt_Md_many.at 40 rfl) (by decide) ?_ ?_
      · refine r_iconst (dt_Md_many.at 41 rfl) 1 (by decide) ?_
        refine r_goto (tgt := 78) (dt_Md_many.at 42 rfl) (by decide) ?_
        refine r_iadd (dt_Md_many.at 44 rfl) ?_
        refine r_nmi (fun x13 => ?_)
        refine r_istore_n (ls' := [.ref v0, .retAddr 0, .int v2, .int x13, .int v4]) (dt_Md_many.at 45 rfl) (by decide) rfl ?_
        refine r_iincn (v := 1) (dt_Md_many.at 46 rfl) (by decide) rfl (by decide) (fun y => [.ref v0, .retAddr 0, .int v2, .int x13, .int y]) (fun _ => rfl) (fun x14 => ?_)
        refine r_goto (tgt := 49) (dt_Md_many.at 47 rfl) (by decide) ?_
        exact Rf.msk [true, false, true, true, true] (ih v0 v2 x13 x14 M11)
      · refine r_iconst (dt_Md_many.at 43 rfl) 0 (by decide) ?_
        refine r_iadd (dt_Md_many.at 44 rfl) ?_
        refine r_nmi (fun x15 => ?_)
        refine r_istore_n (ls' := [.ref v0, .retAddr 0, .int v2, .int x15, .int v4]) (dt_Md_many.at 45 rfl) (by decide) rfl ?_
        refine r_iincn (v := 1) (dt_Md_many.at 46 rfl) (by decide) rfl (by decide) (fun y => [.ref v0, .retAddr 0, .int v2, .int x15, .int y]) (fun _ => rfl) (fun x16 => ?_)
        refine r_goto (tgt := 49) (dt_Md_many.at 47 rfl) (by decide) ?_
        exact Rf.msk [true, false, true, true, true] (ih v0 v2 x15 x16 M11)
set_option maxRecDepth 20000 in
set_option maxHeartbeats 2000000 in
theorem ct_Md_many {G : am_G} {l : Launch} (a0 : Nat) (p1 : Int32) (p2 : Int32) (M : am_M) : Ct G l y_Md_many X_Md_many [.ref a0, .int p1, .int p2] M (F_Md_many a0 p1 p2 M) := by
  refine Ct.of (by decide +kernel) rfl rfl (Nat.le_of_ble_eq_true rfl) ?_
  unfold F_Md_many
  show Rf G l X_Md_many 0 [.ref a0, .int p1, .int p2, .retAddr 0, .retAddr 0] [] M _
  refine r_aload_n (dt_Md_many.at 0 rfl) rfl ?_
  refine r_iload_n (dt_Md_many.at 1 rfl) rfl ?_
  refine r_cvI (c := 9) (rest := []) (ct_Md_isTick a0 p1 _) (dt_Md_many.at 2 rfl) mb_Md_isTick wd_1526 wd_1528 wp_70 rfl (by decide) rfl rfl (Nat.le_of_ble_eq_true rfl) (fun r2 M1 => ?_)
  refine r_if_eq (tgt := 26) (dt_Md_many.at 3 rfl) (by decide) ?_ ?_
  · refine r_bipush (dt_Md_many.at 14 rfl) (-2) (by decide) ?_
    exact r_iret (dt_Md_many.at 15 rfl) rfl
  · refine r_iload_n (dt_Md_many.at 4 rfl) rfl ?_
    refine r_i2l (dt_Md_many.at 5 rfl) ?_
    refine r_ldc2 (dt_Md_many.at 6 rfl) (-1) wd_1582 ?_
    refine r_aload_n (dt_Md_many.at 7 rfl) rfl ?_
    refine r_fI (dt_Md_many.at 8 rfl) fl_Md_224 rfl (fun x3 => ?_)
    refine r_iconst (dt_Md_many.at 9 rfl) 1 (by decide) ?_
    refine r_isub (dt_Md_many.at 10 rfl) ?_
    refine r_i2l (dt_Md_many.at 11 rfl) ?_
    refine r_csI (rest := []) (ct_Md_in (p2.toInt64) (-1) ((x3 - 1).toInt64) _) (dt_Md_many.at 12 rfl) mb_Md_in wd_1289 wd_1290 (by decide) rfl rfl (Nat.le_of_ble_eq_true rfl) (fun r5 M4 => ?_)
    refine r_if_ne (tgt := 29) (dt_Md_many.at 13 rfl) (by decide) ?_ ?_
    · refine r_bipush (dt_Md_many.at 14 rfl) (-2) (by decide) ?_
      exact r_iret (dt_Md_many.at 15 rfl) rfl
    · refine r_aload_n (dt_Md_many.at 16 rfl) rfl ?_
      refine r_iload_n (dt_Md_many.at 17 rfl) rfl ?_
      refine r_cvV (c := 9) (rest := []) (ct_Md_gathers a0 p1 _) (dt_Md_many.at 18 rfl) mb_Md_gathers wd_1583 wd_1585 wp_73 rfl (by decide) rfl rfl (Nat.le_of_ble_eq_true rfl) (fun M6 => ?_)
      refine r_iload_n (dt_Md_many.at 19 rfl) rfl ?_
      refine r_iconst (dt_Md_many.at 20 rfl) (-1) (by decide) ?_
      refine r_icmp_ne (tgt := 44) (dt_Md_many.at 21 rfl) (by decide) ?_ ?_
      · refine r_aload_n (dt_Md_many.at 22 rfl) rfl ?_
        refine r_fI (dt_Md_many.at 23 rfl) fl_Md_361 rfl (fun x7 => ?_)
        exact r_iret (dt_Md_many.at 24 rfl) rfl
      · refine r_iconst (dt_Md_many.at 25 rfl) 0 (by decide) ?_
        refine r_istore_n (ls' := [.ref a0, .int p1, .int p2, .int 0, .retAddr 0]) (dt_Md_many.at 26 rfl) (by decide) rfl ?_
        refine r_iconst (dt_Md_many.at 27 rfl) 0 (by decide) ?_
        refine r_istore (ls' := [.ref a0, .int p1, .int p2, .int 0, .int 0]) (dt_Md_many.at 28 rfl) (by decide) rfl ?_
        exact Rf.msk [true, false, true, true, true] (rf_Md_many_L49 fu a0 p2 0 0 M6)
set_option maxRecDepth 20000 in
set_option maxHeartbeats 2000000 in
theorem rf_Md_sorts_L73 {G : am_G} {l : Launch} (k4 : Nat → Int32 → am_M → am_R) (k10 : Nat → Int32 → Int32 → am_M → am_R) (hk4 : ∀ v0 v1 M, Rf G l X_Md_sorts 4 [.ref v0, .int v1, .retAddr 0, .retAddr 0, .retAddr 0, .retAddr 0] [] M (k4 v0 v1 M)) (hk10 : ∀ v0 v1 v2 M, Rf G l X_Md_sorts 10 [.ref v0, .int v1, .int v2, .retAddr 0, .retAddr 0, .retAddr 0] [] M (k10 v0 v1 v2 M)) (v0 : Nat) (v1 : Int32) (v2 : Int32) (v3 : Int64) (v5 : Int32) (M : am_M) : Rf G l X_Md_sorts 73 [.ref v0, .int v1, .int v2, .long v3, .retAddr 0, .int v5] [] M (F_Md_sorts_L73 k4 k10 v0 v1 v2 v3 v5 M) := by
  unfold F_Md_sorts_L73
  refine r_aload_n (dt_Md_sorts.at 44 rfl) rfl ?_
  refine r_fR (dt_Md_sorts.at 45 rfl) fl_Md_54 rfl (fun b5 => ?_)
  refine r_iload (dt_Md_sorts.at 46 rfl) rfl ?_
  refine r_lload_n (dt_Md_sorts.at 47 rfl) rfl ?_
  refine r_tL (dt_Md_sorts.at 48 rfl) (fun M6 => ?_)
  refine r_iincn (v := 1) (dt_Md_sorts.at 49 rfl) (by decide) rfl (by decide) (fun y => [.ref v0, .int v1, .int y, .long v3, .retAddr 0, .int v5]) (fun _ => rfl) (fun x7 => ?_)
  refine r_goto (tgt := 10) (dt_Md_sorts.at 50 rfl) (by decide) ?_
  exact Rf.msk [true, true, true, false, false, false] (hk10 v0 v1 x7 M6)
set_option maxRecDepth 20000 in
set_option maxHeartbeats 2000000 in
theorem rf_Md_sorts_L28 {G : am_G} {l : Launch} (k4 : Nat → Int32 → am_M → am_R) (k10 : Nat → Int32 → Int32 → am_M → am_R) (hk4 : ∀ v0 v1 M, Rf G l X_Md_sorts 4 [.ref v0, .int v1, .retAddr 0, .retAddr 0, .retAddr 0, .retAddr 0] [] M (k4 v0 v1 M)) (hk10 : ∀ v0 v1 v2 M, Rf G l X_Md_sorts 10 [.ref v0, .int v1, .int v2, .retAddr 0, .retAddr 0, .retAddr 0] [] M (k10 v0 v1 v2 M)) : ∀ (n : Nat) (v0 : Nat) (v1 : Int32) (v2 : Int32) (v3 : Int64) (v5 : Int32) (M : am_M), Rf G l X_Md_sorts 28 [.ref v0, .int v1, .int v2, .long v3, .retAddr 0, .int v5] [] M (F_Md_sorts_L28 k4 k10 n v0 v1 v2 v3 v5 M) := by
  intro n
  induction n with
  | zero => intro v0 v1 v2 v3 v5 M; exact Rf.no
  | succ n ih =>
    intro v0 v1 v2 v3 v5 M
    unfold F_Md_sorts_L28
    refine r_iload (dt_Md_sorts.at 17 rfl) rfl ?_
    refine r_iload_n (dt_Md_sorts.at 18 rfl) rfl ?_
    refine r_icmp_lt (tgt := 73) (dt_Md_sorts.at 19 rfl) (by decide) ?_ ?_
    · exact Rf.msk [true, true, true, true, false, true] (rf_Md_sorts_L73 k4 k10 hk4 hk10 v0 v1 v2 v3 v5 M)
    · refine r_aload_n (dt_Md_sorts.at 20 rfl) rfl ?_
      refine r_fR (dt_Md_sorts.at 21 rfl) fl_Md_54 rfl (fun b8 => ?_)
      refine r_iload (dt_Md_sorts.at 22 rfl) rfl ?_
      refine r_iload_n (dt_Md_sorts.at 23 rfl) rfl ?_
      refine r_isub (dt_Md_sorts.at 24 rfl) ?_
      refine r_aL (dt_Md_sorts.at 25 rfl) (fun z9 => ?_)
      refine r_lload_n (dt_Md_sorts.at 26 rfl) rfl ?_
      refine r_lcmp (dt_Md_sorts.at 27 rfl) ?_
      refine r_if_le (tgt := 73) (dt_Md_sorts.at 28 rfl) (by decide) ?_ ?_
      · exact Rf.msk [true, true, true, true, false, true] (rf_Md_sorts_L73 k4 k10 hk4 hk10 v0 v1 v2 v3 v5 M)
      · refine r_aload_n (dt_Md_sorts.at 29 rfl) rfl ?_
        refine r_fR (dt_Md_sorts.at 30 rfl) fl_Md_54 rfl (fun b10 => ?_)
        refine r_iload (dt_Md_sorts.at 31 rfl) rfl ?_
        refine r_aload_n (dt_Md_sorts.at 32 rfl) rfl ?_
        refine r_fR (dt_Md_sorts.at 33 rfl) fl_Md_54 rfl (fun b11 => ?_)
        refine r_iload (dt_Md_sorts.at 34 rfl) rfl ?_
        refine r_iload_n (dt_Md_sorts.at 35 rfl) rfl ?_
        refine r_isub (dt_Md_sorts.at 36 rfl) ?_
        refine r_aL (dt_Md_sorts.at 37 rfl) (fun z12 => ?_)
        refine r_tL (dt_Md_sorts.at 38 rfl) (fun M13 => ?_)
        refine r_iload (dt_Md_sorts.at 39 rfl) rfl ?_
        refine r_iload_n (dt_Md_sorts.at 40 rfl) rfl ?_
        refine r_isub (dt_Md_sorts.at 41 rfl) ?_
        refine r_nmi (fun x14 => ?_)
        refine r_istore (ls' := [.ref v0, .int v1, .int v2, .long v3, .retAddr 0, .int x14]) (dt_Md_sorts.at 42 rfl) (by decide) rfl ?_
        refine r_goto (tgt := 28) (dt_Md_sorts.at 43 rfl) (by decide) ?_
        exact Rf.msk [true, true, true, true, false, true] (ih v0 v1 v2 v3 x14 M13)
set_option maxRecDepth 20000 in
set_option maxHeartbeats 2000000 in
theorem rf_Md_sorts_L10 {G : am_G} {l : Launch} (k4 : Nat → Int32 → am_M → am_R) (hk4 : ∀ v0 v1 M, Rf G l X_Md_sorts 4 [.ref v0, .int v1, .retAddr 0, .retAddr 0, .retAddr 0, .retAddr 0] [] M (k4 v0 v1 M)) : ∀ (n : Nat) (v0 : Nat) (v1 : Int32) (v2 : Int32) (M : am_M), Rf G l X_Md_sorts 10 [.ref v0, .int v1, .int v2, .retAddr 0, .retAddr 0, .retAddr 0] [] M (F_Md_sorts_L10 k4 n v0 v1 v2 M) := by
  intro n
  induction n with
  | zero => intro v0 v1 v2 M; exact Rf.no
  | succ n ih =>
    intro v0 v1 v2 M
    unfold F_Md_sorts_L10
    refine r_iload_n (dt_Md_sorts.at 6 rfl) rfl ?_
    refine r_aload_n (dt_Md_sorts.at 7 rfl) rfl ?_
    refine r_fI (dt_Md_sorts.at 8 rfl) fl_Md_361 rfl (fun x1 => ?_)
    refine r_icmp_ge (tgt := 87) (dt_Md_sorts.at 9 rfl) (by decide) ?_ ?_
    · refine r_iload_n (dt_Md_sorts.at 51 rfl) rfl ?_
      refine r_iconst (dt_Md_sorts.at 52 rfl) 3 (by decide) ?_
      refine r_idivk (dt_Md_sorts.at 53 rfl) (by decide) ?_
      refine r_nmi (fun x2 => ?_)
      refine r_istore_n (ls' := [.ref v0, .int x2, .int v2, .retAddr 0, .retAddr 0, .retAddr 0]) (dt_Md_sorts.at 54 rfl) (by decide) rfl ?_
      refine r_goto (tgt := 4) (dt_Md_sorts.at 55 rfl) (by decide) ?_
      exact Rf.msk [true, true, false, false, false, false] (hk4 v0 x2 M)
    · refine r_aload_n (dt_Md_sorts.at 10 rfl) rfl ?_
      refine r_fR (dt_Md_sorts.at 11 rfl) fl_Md_54 rfl (fun b3 => ?_)
      refine r_iload_n (dt_Md_sorts.at 12 rfl) rfl ?_
      refine r_aL (dt_Md_sorts.at 13 rfl) (fun z4 => ?_)
      refine r_lstore_n (ls' := [.ref v0, .int v1, .int v2, .long z4, .retAddr 0, .retAddr 0]) (dt_Md_sorts.at 14 rfl) (by decide) rfl ?_
      refine r_iload_n (dt_Md_sorts.at 15 rfl) rfl ?_
      refine r_istore (ls' := [.ref v0, .int v1, .int v2, .long z4, .retAddr 0, .int v2]) (dt_Md_sorts.at 16 rfl) (by decide) rfl ?_
      exact Rf.msk [true, true, true, true, false, true] (rf_Md_sorts_L28 k4 (F_Md_sorts_L10 k4 n) hk4 ih fu v0 v1 v2 z4 v2 M)
set_option maxRecDepth 20000 in
set_option maxHeartbeats 2000000 in
theorem rf_Md_sorts_L4 {G : am_G} {l : Launch}   : ∀ (n : Nat) (v0 : Nat) (v1 : Int32) (M : am_M), Rf G l X_Md_sorts 4 [.ref v0, .int v1, .retAddr 0, .retAddr 0, .retAddr 0, .retAddr 0] [] M (F_Md_sorts_L4 n v0 v1 M) := by
  intro n
  induction n with
  | zero => intro v0 v1 M; exact Rf.no
  | succ n ih =>
    intro v0 v1 M
    unfold F_Md_sorts_L4
    refine r_iload_n (dt_Md_sorts.at 2 rfl) rfl ?_
    refine r_if_le (tgt := 94) (dt_Md_sorts.at 3 rfl) (by decide) ?_ ?_
    · exact r_vret (dt_Md_sorts.at 56 rfl) rfl
    · refine r_iload_n (dt_Md_sorts.at 4 rfl) rfl ?_
      refine r_istore_n (ls' := [.ref v0, .int v1, .int v1, .retAddr 0, .retAddr 0, .retAddr 0]) (dt_Md_sorts.at 5 rfl) (by decide) rfl ?_
      exact Rf.msk [true, true, true, false, false, false] (rf_Md_sorts_L10 (F_Md_sorts_L4 n) ih fu v0 v1 v1 M)
set_option maxRecDepth 20000 in
set_option maxHeartbeats 2000000 in
theorem ct_Md_sorts {G : am_G} {l : Launch} (a0 : Nat) (M : am_M) : Ct G l y_Md_sorts X_Md_sorts [.ref a0] M (F_Md_sorts a0 M) := by
  refine Ct.of (by decide +kernel) rfl rfl (Nat.le_of_ble_eq_true rfl) ?_
  unfold F_Md_sorts
  show Rf G l X_Md_sorts 0 [.ref a0, .retAddr 0, .retAddr 0, .retAddr 0, .retAddr 0, .retAddr 0] [] M _
  refine r_sipush (dt_Md_sorts.at 0 rfl) 9841 (by decide) ?_
  refine r_istore_n (ls' := [.ref a0, .int 9841, .retAddr 0, .retAddr 0, .retAddr 0, .retAddr 0]) (dt_Md_sorts.at 1 rfl) (by decide) rfl ?_
  exact Rf.msk [true, true, false, false, false, false] (rf_Md_sorts_L4 fu a0 9841 M)
set_option maxRecDepth 20000 in
set_option maxHeartbeats 2000000 in
theorem ct_Md_laysFrame {G : am_G} {l : Launch} (a0 : Nat) (p1 : Int32) (M : am_M) : Ct G l y_Md_laysFrame X_Md_laysFrame [.ref a0, .int p1] M (F_Md_laysFrame a0 p1 M) := by
  refine Ct.of (by decide +kernel) rfl rfl (Nat.le_of_ble_eq_true rfl) ?_
  unfold F_Md_laysFrame
  show Rf G l X_Md_laysFrame 0 [.ref a0, .int p1] [] M _
  refine r_aload_n (dt_Md_laysFrame.at 0 rfl) rfl ?_
  refine r_iload_n (dt_Md_laysFrame.at 1 rfl) rfl ?_
  refine r_cvV (c := 9) (rest := []) (ct_Md_gathers a0 p1 _) (dt_Md_laysFrame.at 2 rfl) mb_Md_gathers wd_1583 wd_1585 wp_73 rfl (by decide) rfl rfl (Nat.le_of_ble_eq_true rfl) (fun M1 => ?_)
  refine r_aload_n (dt_Md_laysFrame.at 3 rfl) rfl ?_
  refine r_cvV (c := 9) (rest := []) (ct_Md_sorts a0 _) (dt_Md_laysFrame.at 4 rfl) mb_Md_sorts wd_1616 wd_1618 wp_80 rfl (by decide) rfl rfl (Nat.le_of_ble_eq_true rfl) (fun M2 => ?_)
  exact r_vret (dt_Md_laysFrame.at 5 rfl) rfl
set_option maxRecDepth 20000 in
set_option maxHeartbeats 2000000 in
theorem ct_Md_drawn {G : am_G} {l : Launch} (a0 : Nat) (p1 : Int32) (p2 : Int32) (M : am_M) : Ct G l y_Md_drawn X_Md_drawn [.ref a0, .int p1, .int p2] M (F_Md_drawn a0 p1 p2 M) := by
  refine Ct.of (by decide +kernel) rfl rfl (Nat.le_of_ble_eq_true rfl) ?_
  unfold F_Md_drawn
  show Rf G l X_Md_drawn 0 [.ref a0, .int p1, .int p2] [] M _
  refine r_aload_n (dt_Md_drawn.at 0 rfl) rfl ?_
  refine r_iload_n (dt_Md_drawn.at 1 rfl) rfl ?_
  refine r_cvI (c := 9) (rest := []) (ct_Md_isTick a0 p1 _) (dt_Md_drawn.at 2 rfl) mb_Md_isTick wd_1526 wd_1528 wp_70 rfl (by decide) rfl rfl (Nat.le_of_ble_eq_true rfl) (fun r2 M1 => ?_)
  refine r_if_eq (tgt := 12) (dt_Md_drawn.at 3 rfl) (by decide) ?_ ?_
  · refine r_bipush (dt_Md_drawn.at 6 rfl) (-2) (by decide) ?_
    exact r_iret (dt_Md_drawn.at 7 rfl) rfl
  · refine r_iload_n (dt_Md_drawn.at 4 rfl) rfl ?_
    refine r_if_ge (tgt := 15) (dt_Md_drawn.at 5 rfl) (by decide) ?_ ?_
    · refine r_aload_n (dt_Md_drawn.at 8 rfl) rfl ?_
      refine r_iload_n (dt_Md_drawn.at 9 rfl) rfl ?_
      refine r_cvV (c := 9) (rest := []) (ct_Md_laysFrame a0 p1 _) (dt_Md_drawn.at 10 rfl) mb_Md_laysFrame wd_1612 wd_1614 wp_79 rfl (by decide) rfl rfl (Nat.le_of_ble_eq_true rfl) (fun M3 => ?_)
      refine r_iload_n (dt_Md_drawn.at 11 rfl) rfl ?_
      refine r_aload_n (dt_Md_drawn.at 12 rfl) rfl ?_
      refine r_fI (dt_Md_drawn.at 13 rfl) fl_Md_361 rfl (fun x4 => ?_)
      refine r_icmp_ge (tgt := 36) (dt_Md_drawn.at 14 rfl) (by decide) ?_ ?_
      · refine r_iconst (dt_Md_drawn.at 19 rfl) (-1) (by decide) ?_
        exact r_iret (dt_Md_drawn.at 20 rfl) rfl
      · refine r_aload_n (dt_Md_drawn.at 15 rfl) rfl ?_
        refine r_iload_n (dt_Md_drawn.at 16 rfl) rfl ?_
        refine r_cvI (c := 9) (rest := []) (ct_Md_codeAt a0 p2 _) (dt_Md_drawn.at 17 rfl) mb_Md_codeAt wd_1603 wd_1605 wp_78 rfl (by decide) rfl rfl (Nat.le_of_ble_eq_true rfl) (fun r6 M5 => ?_)
        refine r_goto (tgt := 37) (dt_Md_drawn.at 18 rfl) (by decide) ?_
        exact r_iret (dt_Md_drawn.at 20 rfl) rfl
    · refine r_bipush (dt_Md_drawn.at 6 rfl) (-2) (by decide) ?_
      exact r_iret (dt_Md_drawn.at 7 rfl) rfl
set_option maxRecDepth 20000 in
set_option maxHeartbeats 2000000 in
theorem rf_Md_digest_L58 {G : am_G} {l : Launch} (k22 : Nat → Int32 → Int64 → Int32 → am_M → am_R) (hk22 : ∀ v0 v1 v2 v4 M, Rf G l X_Md_digest 22 [.ref v0, .int v1, .long v2, .retAddr 0, .int v4, .retAddr 0] [] M (k22 v0 v1 v2 v4 M)) : ∀ (n : Nat) (v0 : Nat) (v1 : Int32) (v2 : Int64) (v4 : Int32) (v5 : Int32) (M : am_M), Rf G l X_Md_digest 58 [.ref v0, .int v1, .long v2, .retAddr 0, .int v4, .int v5] [] M (F_Md_digest_L58 k22 n v0 v1 v2 v4 v5 M) := by
  intro n
  induction n with
  | zero => intro v0 v1 v2 v4 v5 M; exact Rf.no
  | succ n ih =>
    intro v0 v1 v2 v4 v5 M
    unfold F_Md_digest_L58
    refine r_iload (dt_Md_digest.at 33 rfl) rfl ?_
    refine r_iconst (dt_Md_digest.at 34 rfl) 3 (by decide) ?_
    refine r_icmp_ge (tgt := 90) (dt_Md_digest.at 35 rfl) (by decide) ?_ ?_
    · refine r_iincn (v := 1) (dt_Md_digest.at 51 rfl) (by decide) rfl (by decide) (fun y => [.ref v0, .int v1, .long v2, .retAddr 0, .int y, .int v5]) (fun _ => rfl) (fun x11 => ?_)
      refine r_goto (tgt := 22) (dt_Md_digest.at 52 rfl) (by decide) ?_
      exact Rf.msk [true, true, true, false, true, false] (hk22 v0 v1 v2 x11 M)
    · refine r_ldc2 (dt_Md_digest.at 36 rfl) 31 wd_1625 ?_
      refine r_lload_n (dt_Md_digest.at 37 rfl) rfl ?_
      refine r_lmul (dt_Md_digest.at 38 rfl) ?_
      refine r_aload_n (dt_Md_digest.at 39 rfl) rfl ?_
      refine r_iload (dt_Md_digest.at 40 rfl) rfl ?_
      refine r_iload_n (dt_Md_digest.at 41 rfl) rfl ?_
      refine r_aload_n (dt_Md_digest.at 42 rfl) rfl ?_
      refine r_fI (dt_Md_digest.at 43 rfl) fl_Md_292 rfl (fun x12 => ?_)
      refine r_isub (dt_Md_digest.at 44 rfl) ?_
      refine r_cvI (c := 9) (rest := [.long (31 * v2)]) (ct_Md_placeBy v0 v5 (v1 - x12) _) (dt_Md_digest.at 45 rfl) mb_Md_placeBy wd_1517 wd_1519 wp_69 rfl (by decide) rfl rfl (Nat.le_of_ble_eq_true rfl) (fun r14 M13 => ?_)
      refine r_i2l (dt_Md_digest.at 46 rfl) ?_
      refine r_ladd (dt_Md_digest.at 47 rfl) ?_
      refine r_nml (fun z15 => ?_)
      refine r_lstore_n (ls' := [.ref v0, .int v1, .long z15, .retAddr 0, .int v4, .int v5]) (dt_Md_digest.at 48 rfl) (by decide) rfl ?_
      refine r_iincn (v := 1) (dt_Md_digest.at 49 rfl) (by decide) rfl (by decide) (fun y => [.ref v0, .int v1, .long z15, .retAddr 0, .int v4, .int y]) (fun _ => rfl) (fun x16 => ?_)
      refine r_goto (tgt := 58) (dt_Md_digest.at 50 rfl) (by decide) ?_
      exact Rf.msk [true, true, true, false, true, true] (ih v0 v1 z15 v4 x16 M13)
set_option maxRecDepth 20000 in
set_option maxHeartbeats 2000000 in
theorem rf_Md_digest_L22 {G : am_G} {l : Launch}   : ∀ (n : Nat) (v0 : Nat) (v1 : Int32) (v2 : Int64) (v4 : Int32) (M : am_M), Rf G l X_Md_digest 22 [.ref v0, .int v1, .long v2, .retAddr 0, .int v4, .retAddr 0] [] M (F_Md_digest_L22 n v0 v1 v2 v4 M) := by
  intro n
  induction n with
  | zero => intro v0 v1 v2 v4 M; exact Rf.no
  | succ n ih =>
    intro v0 v1 v2 v4 M
    unfold F_Md_digest_L22
    refine r_iload (dt_Md_digest.at 13 rfl) rfl ?_
    refine r_aload_n (dt_Md_digest.at 14 rfl) rfl ?_
    refine r_fI (dt_Md_digest.at 15 rfl) fl_Md_361 rfl (fun x4 => ?_)
    refine r_icmp_ge (tgt := 96) (dt_Md_digest.at 16 rfl) (by decide) ?_ ?_
    · refine r_lload_n (dt_Md_digest.at 53 rfl) rfl ?_
      exact r_lret (dt_Md_digest.at 54 rfl) rfl
    · refine r_aload_n (dt_Md_digest.at 17 rfl) rfl ?_
      refine r_aload_n (dt_Md_digest.at 18 rfl) rfl ?_
      refine r_iload (dt_Md_digest.at 19 rfl) rfl ?_
      refine r_cvI (c := 9) (rest := [.ref v0]) (ct_Md_codeAt v0 v4 _) (dt_Md_digest.at 20 rfl) mb_Md_codeAt wd_1603 wd_1605 wp_78 rfl (by decide) rfl rfl (Nat.le_of_ble_eq_true rfl) (fun r6 M5 => ?_)
      refine r_cvV (c := 9) (rest := []) (ct_Md_lays v0 r6 _) (dt_Md_digest.at 21 rfl) mb_Md_lays wd_1481 wd_1483 wp_60 rfl (by decide) rfl rfl (Nat.le_of_ble_eq_true rfl) (fun M7 => ?_)
      refine r_ldc2 (dt_Md_digest.at 22 rfl) 31 wd_1625 ?_
      refine r_lload_n (dt_Md_digest.at 23 rfl) rfl ?_
      refine r_lmul (dt_Md_digest.at 24 rfl) ?_
      refine r_aload_n (dt_Md_digest.at 25 rfl) rfl ?_
      refine r_iload (dt_Md_digest.at 26 rfl) rfl ?_
      refine r_cvI (c := 9) (rest := [.long (31 * v2)]) (ct_Md_codeAt v0 v4 _) (dt_Md_digest.at 27 rfl) mb_Md_codeAt wd_1603 wd_1605 wp_78 rfl (by decide) rfl rfl (Nat.le_of_ble_eq_true rfl) (fun r9 M8 => ?_)
      refine r_i2l (dt_Md_digest.at 28 rfl) ?_
      refine r_ladd (dt_Md_digest.at 29 rfl) ?_
      refine r_nml (fun z10 => ?_)
      refine r_lstore_n (ls' := [.ref v0, .int v1, .long z10, .retAddr 0, .int v4, .retAddr 0]) (dt_Md_digest.at 30 rfl) (by decide) rfl ?_
      refine r_iconst (dt_Md_digest.at 31 rfl) 0 (by decide) ?_
      refine r_istore (ls' := [.ref v0, .int v1, .long z10, .retAddr 0, .int v4, .int 0]) (dt_Md_digest.at 32 rfl) (by decide) rfl ?_
      exact Rf.msk [true, true, true, false, true, true] (rf_Md_digest_L58 (F_Md_digest_L22 n) ih fu v0 v1 z10 v4 0 M8)
set_option maxRecDepth 20000 in
set_option maxHeartbeats 2000000 in
theorem ct_Md_digest {G : am_G} {l : Launch} (a0 : Nat) (p1 : Int32) (M : am_M) : Ct G l y_Md_digest X_Md_digest [.ref a0, .int p1] M (F_Md_digest a0 p1 M) := by
  refine Ct.of (by decide +kernel) rfl rfl (Nat.le_of_ble_eq_true rfl) ?_
  unfold F_Md_digest
  show Rf G l X_Md_digest 0 [.ref a0, .int p1, .retAddr 0, .retAddr 0, .retAddr 0, .retAddr 0] [] M _
  refine r_aload_n (dt_Md_digest.at 0 rfl) rfl ?_
  refine r_iload_n (dt_Md_digest.at 1 rfl) rfl ?_
  refine r_cvI (c := 9) (rest := []) (ct_Md_isTick a0 p1 _) (dt_Md_digest.at 2 rfl) mb_Md_isTick wd_1526 wd_1528 wp_70 rfl (by decide) rfl rfl (Nat.le_of_ble_eq_true rfl) (fun r2 M1 => ?_)
  refine r_if_ne (tgt := 10) (dt_Md_digest.at 3 rfl) (by decide) ?_ ?_
  · refine r_lconst (dt_Md_digest.at 4 rfl) 0 (by decide) ?_
    exact r_lret (dt_Md_digest.at 5 rfl) rfl
  · refine r_aload_n (dt_Md_digest.at 6 rfl) rfl ?_
    refine r_iload_n (dt_Md_digest.at 7 rfl) rfl ?_
    refine r_cvV (c := 9) (rest := []) (ct_Md_laysFrame a0 p1 _) (dt_Md_digest.at 8 rfl) mb_Md_laysFrame wd_1612 wd_1614 wp_79 rfl (by decide) rfl rfl (Nat.le_of_ble_eq_true rfl) (fun M3 => ?_)
    refine r_ldc2 (dt_Md_digest.at 9 rfl) 17 wd_1624 ?_
    refine r_lstore_n (ls' := [.ref a0, .int p1, .long 17, .retAddr 0, .retAddr 0, .retAddr 0]) (dt_Md_digest.at 10 rfl) (by decide) rfl ?_
    refine r_iconst (dt_Md_digest.at 11 rfl) 0 (by decide) ?_
    refine r_istore (ls' := [.ref a0, .int p1, .long 17, .retAddr 0, .int 0, .retAddr 0]) (dt_Md_digest.at 12 rfl) (by decide) rfl ?_
    exact Rf.msk [true, true, true, false, true, false] (rf_Md_digest_L22 fu a0 p1 17 0 M3)
set_option maxRecDepth 20000 in
set_option maxHeartbeats 2000000 in
theorem ct_Md_isColumn {G : am_G} {l : Launch} (a0 : Nat) (p1 : Int32) (p2 : Int32) (M : am_M) : Ct G l y_Md_isColumn X_Md_isColumn [.ref a0, .int p1, .int p2] M (F_Md_isColumn a0 p1 p2 M) := by
  refine Ct.of (by decide +kernel) rfl rfl (Nat.le_of_ble_eq_true rfl) ?_
  unfold F_Md_isColumn
  show Rf G l X_Md_isColumn 0 [.ref a0, .int p1, .int p2] [] M _
  refine r_iload_n (dt_Md_isColumn.at 0 rfl) rfl ?_
  refine r_i2l (dt_Md_isColumn.at 1 rfl) ?_
  refine r_lconst (dt_Md_isColumn.at 2 rfl) 0 (by decide) ?_
  refine r_aload_n (dt_Md_isColumn.at 3 rfl) rfl ?_
  refine r_fR (dt_Md_isColumn.at 4 rfl) fl_Md_7 rfl (fun b1 => ?_)
  refine r_iconst (dt_Md_isColumn.at 5 rfl) 0 (by decide) ?_
  refine r_aI (dt_Md_isColumn.at 6 rfl) (fun x2 => ?_)
  refine r_iconst (dt_Md_isColumn.at 7 rfl) 1 (by decide) ?_
  refine r_isub (dt_Md_isColumn.at 8 rfl) ?_
  refine r_i2l (dt_Md_isColumn.at 9 rfl) ?_
  refine r_csI (rest := []) (ct_Md_in (p1.toInt64) 0 ((x2 - 1).toInt64) _) (dt_Md_isColumn.at 10 rfl) mb_Md_in wd_1289 wd_1290 (by decide) rfl rfl (Nat.le_of_ble_eq_true rfl) (fun r4 M3 => ?_)
  refine r_if_eq (tgt := 40) (dt_Md_isColumn.at 11 rfl) (by decide) ?_ ?_
  · refine r_iconst (dt_Md_isColumn.at 26 rfl) 0 (by decide) ?_
    exact r_zret (dt_Md_isColumn.at 27 rfl) rfl rfl
  · refine r_iload_n (dt_Md_isColumn.at 12 rfl) rfl ?_
    refine r_i2l (dt_Md_isColumn.at 13 rfl) ?_
    refine r_lconst (dt_Md_isColumn.at 14 rfl) 0 (by decide) ?_
    refine r_aload_n (dt_Md_isColumn.at 15 rfl) rfl ?_
    refine r_fR (dt_Md_isColumn.at 16 rfl) fl_Md_7 rfl (fun b5 => ?_)
    refine r_iconst (dt_Md_isColumn.at 17 rfl) 1 (by decide) ?_
    refine r_aI (dt_Md_isColumn.at 18 rfl) (fun x6 => ?_)
    refine r_iconst (dt_Md_isColumn.at 19 rfl) 1 (by decide) ?_
    refine r_isub (dt_Md_isColumn.at 20 rfl) ?_
    refine r_i2l (dt_Md_isColumn.at 21 rfl) ?_
    refine r_csI (rest := []) (ct_Md_in (p2.toInt64) 0 ((x6 - 1).toInt64) _) (dt_Md_isColumn.at 22 rfl) mb_Md_in wd_1289 wd_1290 (by decide) rfl rfl (Nat.le_of_ble_eq_true rfl) (fun r8 M7 => ?_)
    refine r_if_eq (tgt := 40) (dt_Md_isColumn.at 23 rfl) (by decide) ?_ ?_
    · refine r_iconst (dt_Md_isColumn.at 26 rfl) 0 (by decide) ?_
      exact r_zret (dt_Md_isColumn.at 27 rfl) rfl rfl
    · refine r_iconst (dt_Md_isColumn.at 24 rfl) 1 (by decide) ?_
      refine r_goto (tgt := 41) (dt_Md_isColumn.at 25 rfl) (by decide) ?_
      exact r_zret (dt_Md_isColumn.at 27 rfl) rfl rfl
set_option maxRecDepth 20000 in
set_option maxHeartbeats 2000000 in
theorem rf_Md_laysColumns_L2 {G : am_G} {l : Launch}   : ∀ (n : Nat) (v0 : Nat) (v1 : Int32) (v2 : Int32) (M : am_M), Rf G l X_Md_laysColumns 2 [.ref v0, .int v1, .int v2] [] M (F_Md_laysColumns_L2 n v0 v1 v2 M) := by
  intro n
  induction n with
  | zero => intro v0 v1 v2 M; exact Rf.no
  | succ n ih =>
    intro v0 v1 v2 M
    unfold F_Md_laysColumns_L2
    refine r_iload_n (dt_Md_laysColumns.at 2 rfl) rfl ?_
    refine r_aload_n (dt_Md_laysColumns.at 3 rfl) rfl ?_
    refine r_fI (dt_Md_laysColumns.at 4 rfl) fl_Md_361 rfl (fun x1 => ?_)
    refine r_icmp_ge (tgt := 65) (dt_Md_laysColumns.at 5 rfl) (by decide) ?_ ?_
    · exact r_vret (dt_Md_laysColumns.at 39 rfl) rfl
    · refine r_aload_n (dt_Md_laysColumns.at 6 rfl) rfl ?_
      refine r_aload_n (dt_Md_laysColumns.at 7 rfl) rfl ?_
      refine r_iload_n (dt_Md_laysColumns.at 8 rfl) rfl ?_
      refine r_cvI (c := 9) (rest := [.ref v0]) (ct_Md_codeAt v0 v2 _) (dt_Md_laysColumns.at 9 rfl) mb_Md_codeAt wd_1603 wd_1605 wp_78 rfl (by decide) rfl rfl (Nat.le_of_ble_eq_true rfl) (fun r3 M2 => ?_)
      refine r_cvV (c := 9) (rest := []) (ct_Md_lays v0 r3 _) (dt_Md_laysColumns.at 10 rfl) mb_Md_lays wd_1481 wd_1483 wp_60 rfl (by decide) rfl rfl (Nat.le_of_ble_eq_true rfl) (fun M4 => ?_)
      refine r_aload_n (dt_Md_laysColumns.at 11 rfl) rfl ?_
      refine r_fR (dt_Md_laysColumns.at 12 rfl) fl_Md_58 rfl (fun b5 => ?_)
      refine r_iload_n (dt_Md_laysColumns.at 13 rfl) rfl ?_
      refine r_aload_n (dt_Md_laysColumns.at 14 rfl) rfl ?_
      refine r_iconst (dt_Md_laysColumns.at 15 rfl) 0 (by decide) ?_
      refine r_iload_n (dt_Md_laysColumns.at 16 rfl) rfl ?_
      refine r_aload_n (dt_Md_laysColumns.at 17 rfl) rfl ?_
      refine r_fI (dt_Md_laysColumns.at 18 rfl) fl_Md_292 rfl (fun x6 => ?_)
      refine r_isub (dt_Md_laysColumns.at 19 rfl) ?_
      refine r_cvI (c := 9) (rest := [.int v2, .ref b5]) (ct_Md_placeBy v0 0 (v1 - x6) _) (dt_Md_laysColumns.at 20 rfl) mb_Md_placeBy wd_1517 wd_1519 wp_69 rfl (by decide) rfl rfl (Nat.le_of_ble_eq_true rfl) (fun r8 M7 => ?_)
      refine r_bipush (dt_Md_laysColumns.at 21 rfl) 8 (by decide) ?_
      refine r_idivk (dt_Md_laysColumns.at 22 rfl) (by decide) ?_
      refine r_tI (dt_Md_laysColumns.at 23 rfl) (fun M9 => ?_)
      refine r_aload_n (dt_Md_laysColumns.at 24 rfl) rfl ?_
      refine r_fR (dt_Md_laysColumns.at 25 rfl) fl_Md_61 rfl (fun b10 => ?_)
      refine r_iload_n (dt_Md_laysColumns.at 26 rfl) rfl ?_
      refine r_aload_n (dt_Md_laysColumns.at 27 rfl) rfl ?_
      refine r_iconst (dt_Md_laysColumns.at 28 rfl) 1 (by decide) ?_
      refine r_iload_n (dt_Md_laysColumns.at 29 rfl) rfl ?_
      refine r_aload_n (dt_Md_laysColumns.at 30 rfl) rfl ?_
      refine r_fI (dt_Md_laysColumns.at 31 rfl) fl_Md_292 rfl (fun x11 => ?_)
      refine r_isub (dt_Md_laysColumns.at 32 rfl) ?_
      refine r_cvI (c := 9) (rest := [.int v2, .ref b10]) (ct_Md_placeBy v0 1 (v1 - x11) _) (dt_Md_laysColumns.at 33 rfl) mb_Md_placeBy wd_1517 wd_1519 wp_69 rfl (by decide) rfl rfl (Nat.le_of_ble_eq_true rfl) (fun r13 M12 => ?_)
      refine r_bipush (dt_Md_laysColumns.at 34 rfl) 8 (by decide) ?_
      refine r_idivk (dt_Md_laysColumns.at 35 rfl) (by decide) ?_
      refine r_tI (dt_Md_laysColumns.at 36 rfl) (fun M14 => ?_)
      refine r_iincn (v := 1) (dt_Md_laysColumns.at 37 rfl) (by decide) rfl (by decide) (fun y => [.ref v0, .int v1, .int y]) (fun _ => rfl) (fun x15 => ?_)
      refine r_goto (tgt := 2) (dt_Md_laysColumns.at 38 rfl) (by decide) ?_
      exact Rf.msk [true, true, true] (ih v0 v1 x15 M14)
set_option maxRecDepth 20000 in
set_option maxHeartbeats 2000000 in
theorem ct_Md_laysColumns {G : am_G} {l : Launch} (a0 : Nat) (p1 : Int32) (M : am_M) : Ct G l y_Md_laysColumns X_Md_laysColumns [.ref a0, .int p1] M (F_Md_laysColumns a0 p1 M) := by
  refine Ct.of (by decide +kernel) rfl rfl (Nat.le_of_ble_eq_true rfl) ?_
  unfold F_Md_laysColumns
  show Rf G l X_Md_laysColumns 0 [.ref a0, .int p1, .retAddr 0] [] M _
  refine r_iconst (dt_Md_laysColumns.at 0 rfl) 0 (by decide) ?_
  refine r_istore_n (ls' := [.ref a0, .int p1, .int 0]) (dt_Md_laysColumns.at 1 rfl) (by decide) rfl ?_
  exact Rf.msk [true, true, true] (rf_Md_laysColumns_L2 fu a0 p1 0 M)
set_option maxRecDepth 20000 in
set_option maxHeartbeats 2000000 in
theorem rf_Md_inColumn_L36 {G : am_G} {l : Launch}   : ∀ (n : Nat) (v0 : Nat) (v2 : Int32) (v3 : Int32) (v4 : Int32) (v5 : Int32) (M : am_M), Rf G l X_Md_inColumn 36 [.ref v0, .retAddr 0, .int v2, .int v3, .int v4, .int v5] [] M (F_Md_inColumn_L36 n v0 v2 v3 v4 v5 M) := by
  intro n
  induction n with
  | zero => intro v0 v2 v3 v4 v5 M; exact Rf.no
  | succ n ih =>
    intro v0 v2 v3 v4 v5 M
    unfold F_Md_inColumn_L36
    refine r_iload (dt_Md_inColumn.at 21 rfl) rfl ?_
    refine r_aload_n (dt_Md_inColumn.at 22 rfl) rfl ?_
    refine r_fI (dt_Md_inColumn.at 23 rfl) fl_Md_361 rfl (fun x7 => ?_)
    refine r_icmp_ge (tgt := 83) (dt_Md_inColumn.at 24 rfl) (by decide) ?_ ?_
    · refine r_iload (dt_Md_inColumn.at 45 rfl) rfl ?_
      exact r_iret (dt_Md_inColumn.at 46 rfl) rfl
    · refine r_iload (dt_Md_inColumn.at 25 rfl) rfl ?_
      refine r_aload_n (dt_Md_inColumn.at 26 rfl) rfl ?_
      refine r_fR (dt_Md_inColumn.at 27 rfl) fl_Md_58 rfl (fun b8 => ?_)
      refine r_iload (dt_Md_inColumn.at 28 rfl) rfl ?_
      refine r_aI (dt_Md_inColumn.at 29 rfl) (fun x9 => ?_)
      refine r_iload_n (dt_Md_inColumn.at 30 rfl) rfl ?_
      refine r_icmp_ne (tgt := 73) (dt_Md_inColumn.at 31 rfl) (by decide) ?_ ?_
      · refine r_aload_n (dt_Md_inColumn.at 32 rfl) rfl ?_
        refine r_fR (dt_Md_inColumn.at 33 rfl) fl_Md_61 rfl (fun b10 => ?_)
        refine r_iload (dt_Md_inColumn.at 34 rfl) rfl ?_
        refine r_aI (dt_Md_inColumn.at 35 rfl) (fun x11 => ?_)
        refine r_iload_n (dt_Md_inColumn.at 36 rfl) rfl ?_
        refine r_icmp_ne (tgt := 73) (dt_Md_inColumn.at 37 rfl) (by decide) ?_ ?_
        · refine r_iconst (dt_Md_inColumn.at 38 rfl) 1 (by decide) ?_
          refine r_goto (tgt := 74) (dt_Md_inColumn.at 39 rfl) (by decide) ?_
          refine r_iadd (dt_Md_inColumn.at 41 rfl) ?_
          refine r_nmi (fun x12 => ?_)
          refine r_istore (ls' := [.ref v0, .retAddr 0, .int v2, .int v3, .int x12, .int v5]) (dt_Md_inColumn.at 42 rfl) (by decide) rfl ?_
          refine r_iincn (v := 1) (dt_Md_inColumn.at 43 rfl) (by decide) rfl (by decide) (fun y => [.ref v0, .retAddr 0, .int v2, .int v3, .int x12, .int y]) (fun _ => rfl) (fun x13 => ?_)
          refine r_goto (tgt := 36) (dt_Md_inColumn.at 44 rfl) (by decide) ?_
          exact Rf.msk [true, false, true, true, true, true] (ih v0 v2 v3 x12 x13 M)
        · refine r_iconst (dt_Md_inColumn.at 40 rfl) 0 (by decide) ?_
          refine r_iadd (dt_Md_inColumn.at 41 rfl) ?_
          refine r_nmi (fun x14 => ?_)
          refine r_istore (ls' := [.ref v0, .retAddr 0, .int v2, .int v3, .int x14, .int v5]) (dt_Md_inColumn.at 42 rfl) (by decide) rfl ?_
          refine r_iincn (v := 1) (dt_Md_inColumn.at 43 rfl) (by decide) rfl (by decide) (fun y => [.ref v0, .retAddr 0, .int v2, .int v3, .int x14, .int y]) (fun _ => rfl) (fun x15 => ?_)
          refine r_goto (tgt := 36) (dt_Md_inColumn.at 44 rfl) (by decide) ?_
          exact Rf.msk [true, false, true, true, true, true] (ih v0 v2 v3 x14 x15 M)
      · refine r_iconst (dt_Md_inColumn.at 40 rfl) 0 (by decide) ?_
        refine r_iadd (dt_Md_inColumn.at 41 rfl) ?_
        refine r_nmi (fun x16 => ?_)
        refine r_istore (ls' := [.ref v0, .retAddr 0, .int v2, .int v3, .int x16, .int v5]) (dt_Md_inColumn.at 42 rfl) (by decide) rfl ?_
        refine r_iincn (v := 1) (dt_Md_inColumn.at 43 rfl) (by decide) rfl (by decide) (fun y => [.ref v0, .retAddr 0, .int v2, .int v3, .int x16, .int y]) (fun _ => rfl) (fun x17 => ?_)
        refine r_goto (tgt := 36) (dt_Md_inColumn.at 44 rfl) (by decide) ?_
        exact Rf.msk [true, false, true, true, true, true] (ih v0 v2 v3 x16 x17 M)
set_option maxRecDepth 20000 in
set_option maxHeartbeats 2000000 in
theorem ct_Md_inColumn {G : am_G} {l : Launch} (a0 : Nat) (p1 : Int32) (p2 : Int32) (p3 : Int32) (M : am_M) : Ct G l y_Md_inColumn X_Md_inColumn [.ref a0, .int p1, .int p2, .int p3] M (F_Md_inColumn a0 p1 p2 p3 M) := by
  refine Ct.of (by decide +kernel) rfl rfl (Nat.le_of_ble_eq_true rfl) ?_
  unfold F_Md_inColumn
  show Rf G l X_Md_inColumn 0 [.ref a0, .int p1, .int p2, .int p3, .retAddr 0, .retAddr 0] [] M _
  refine r_aload_n (dt_Md_inColumn.at 0 rfl) rfl ?_
  refine r_iload_n (dt_Md_inColumn.at 1 rfl) rfl ?_
  refine r_cvI (c := 9) (rest := []) (ct_Md_isTick a0 p1 _) (dt_Md_inColumn.at 2 rfl) mb_Md_isTick wd_1526 wd_1528 wp_70 rfl (by decide) rfl rfl (Nat.le_of_ble_eq_true rfl) (fun r2 M1 => ?_)
  refine r_if_eq (tgt := 17) (dt_Md_inColumn.at 3 rfl) (by decide) ?_ ?_
  · refine r_bipush (dt_Md_inColumn.at 9 rfl) (-2) (by decide) ?_
    exact r_iret (dt_Md_inColumn.at 10 rfl) rfl
  · refine r_aload_n (dt_Md_inColumn.at 4 rfl) rfl ?_
    refine r_iload_n (dt_Md_inColumn.at 5 rfl) rfl ?_
    refine r_iload_n (dt_Md_inColumn.at 6 rfl) rfl ?_
    refine r_cvI (c := 9) (rest := []) (ct_Md_isColumn a0 p2 p3 _) (dt_Md_inColumn.at 7 rfl) mb_Md_isColumn wd_1630 wd_1632 wp_81 rfl (by decide) rfl rfl (Nat.le_of_ble_eq_true rfl) (fun r4 M3 => ?_)
    refine r_if_ne (tgt := 20) (dt_Md_inColumn.at 8 rfl) (by decide) ?_ ?_
    · refine r_bipush (dt_Md_inColumn.at 9 rfl) (-2) (by decide) ?_
      exact r_iret (dt_Md_inColumn.at 10 rfl) rfl
    · refine r_aload_n (dt_Md_inColumn.at 11 rfl) rfl ?_
      refine r_iload_n (dt_Md_inColumn.at 12 rfl) rfl ?_
      refine r_cvV (c := 9) (rest := []) (ct_Md_gathers a0 p1 _) (dt_Md_inColumn.at 13 rfl) mb_Md_gathers wd_1583 wd_1585 wp_73 rfl (by decide) rfl rfl (Nat.le_of_ble_eq_true rfl) (fun M5 => ?_)
      refine r_aload_n (dt_Md_inColumn.at 14 rfl) rfl ?_
      refine r_iload_n (dt_Md_inColumn.at 15 rfl) rfl ?_
      refine r_cvV (c := 9) (rest := []) (ct_Md_laysColumns a0 p1 _) (dt_Md_inColumn.at 16 rfl) mb_Md_laysColumns wd_1634 wd_1636 wp_82 rfl (by decide) rfl rfl (Nat.le_of_ble_eq_true rfl) (fun M6 => ?_)
      refine r_iconst (dt_Md_inColumn.at 17 rfl) 0 (by decide) ?_
      refine r_istore (ls' := [.ref a0, .int p1, .int p2, .int p3, .int 0, .retAddr 0]) (dt_Md_inColumn.at 18 rfl) (by decide) rfl ?_
      refine r_iconst (dt_Md_inColumn.at 19 rfl) 0 (by decide) ?_
      refine r_istore (ls' := [.ref a0, .int p1, .int p2, .int p3, .int 0, .int 0]) (dt_Md_inColumn.at 20 rfl) (by decide) rfl ?_
      exact Rf.msk [true, false, true, true, true, true] (rf_Md_inColumn_L36 fu a0 p2 p3 0 0 M6)
