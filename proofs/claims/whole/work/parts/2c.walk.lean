/-! ===== the walks, row by row (printed by wip/whole/emit.py) ===== -/
set_option maxRecDepth 20000 in
set_option maxHeartbeats 2000000 in
theorem rf_Sprk_fly_L95 {G : am_G} {l : Launch}   : ∀ (n : Nat) (v0 : Nat) (v2 : Int32) (M : am_M), Rf G l X_Sprk_fly 95 [.ref v0, .retAddr 0, .int v2] [] M (F_Sprk_fly_L95 n v0 v2 M) := by
  intro n
  induction n with
  | zero => intro v0 v2 M; exact Rf.no
  | succ n ih =>
    intro v0 v2 M
    unfold F_Sprk_fly_L95
    refine r_iload_n (dt_Sprk_fly.at 55 rfl) rfl ?_
    refine r_iconst (dt_Sprk_fly.at 56 rfl) 3 (by decide) ?_
    refine r_icmp_ge (tgt := 136) (dt_Sprk_fly.at 57 rfl) (by decide) ?_ ?_
    · exact r_vret (dt_Sprk_fly.at 76 rfl) rfl
    · refine r_aload_n (dt_Sprk_fly.at 58 rfl) rfl ?_
      refine r_aload_n (dt_Sprk_fly.at 59 rfl) rfl ?_
      refine r_fI (dt_Sprk_fly.at 60 rfl) fl_Sprk_51 rfl (fun x16 => ?_)
      refine r_aload_n (dt_Sprk_fly.at 61 rfl) rfl ?_
      refine r_fI (dt_Sprk_fly.at 62 rfl) fl_Sprk_41 rfl (fun x17 => ?_)
      refine r_aload_n (dt_Sprk_fly.at 63 rfl) rfl ?_
      refine r_iload_n (dt_Sprk_fly.at 64 rfl) rfl ?_
      refine r_aload_n (dt_Sprk_fly.at 65 rfl) rfl ?_
      refine r_fI (dt_Sprk_fly.at 66 rfl) fl_Sprk_51 rfl (fun x18 => ?_)
      refine r_aload_n (dt_Sprk_fly.at 67 rfl) rfl ?_
      refine r_fI (dt_Sprk_fly.at 68 rfl) fl_Sprk_41 rfl (fun x19 => ?_)
      refine r_isub (dt_Sprk_fly.at 69 rfl) ?_
      refine r_cvI (c := 6) (rest := [.int x17, .int x16, .ref v0]) (ct_Sprk_ageBeyond v0 v2 (x18 - x19) _) (dt_Sprk_fly.at 70 rfl) mb_Sprk_ageBeyond wd_677 wd_679 wp_16 rfl (by decide) rfl rfl (Nat.le_of_ble_eq_true rfl) (fun r21 M20 => ?_)
      refine r_iadd (dt_Sprk_fly.at 71 rfl) ?_
      refine r_csI (rest := [.ref v0]) (ct_Math_min x16 (x17 + r21) _) (dt_Sprk_fly.at 72 rfl) mb_Math_min wd_682 wd_334 (by decide) rfl rfl (Nat.le_of_ble_eq_true rfl) (fun r23 M22 => ?_)
      refine r_sI (dt_Sprk_fly.at 73 rfl) fl_Sprk_51 rfl rfl rfl (fun M24 => ?_)
      refine r_iincn (v := 1) (dt_Sprk_fly.at 74 rfl) (by decide) rfl (by decide) (fun y => [.ref v0, .retAddr 0, .int y]) (fun _ => rfl) (fun x25 => ?_)
      refine r_goto (tgt := 95) (dt_Sprk_fly.at 75 rfl) (by decide) ?_
      exact Rf.msk [true, false, true] (ih v0 x25 M24)
set_option maxRecDepth 20000 in
set_option maxHeartbeats 2000000 in
theorem rf_Sprk_fly_L47 {G : am_G} {l : Launch}   : ∀ (n : Nat) (v0 : Nat) (v1 : Int32) (v2 : Int32) (M : am_M), Rf G l X_Sprk_fly 47 [.ref v0, .int v1, .int v2] [] M (F_Sprk_fly_L47 n v0 v1 v2 M) := by
  intro n
  induction n with
  | zero => intro v0 v1 v2 M; exact Rf.no
  | succ n ih =>
    intro v0 v1 v2 M
    unfold F_Sprk_fly_L47
    refine r_iload_n (dt_Sprk_fly.at 25 rfl) rfl ?_
    refine r_iconst (dt_Sprk_fly.at 26 rfl) 3 (by decide) ?_
    refine r_icmp_ge (tgt := 85) (dt_Sprk_fly.at 27 rfl) (by decide) ?_ ?_
    · refine r_aload_n (dt_Sprk_fly.at 49 rfl) rfl ?_
      refine r_fI (dt_Sprk_fly.at 50 rfl) fl_Sprk_63 rfl (fun x15 => ?_)
      refine r_iconst (dt_Sprk_fly.at 51 rfl) 2 (by decide) ?_
      refine r_icmp_ne (tgt := 136) (dt_Sprk_fly.at 52 rfl) (by decide) ?_ ?_
      · refine r_iconst (dt_Sprk_fly.at 53 rfl) 0 (by decide) ?_
        refine r_istore_n (ls' := [.ref v0, .int v1, .int 0]) (dt_Sprk_fly.at 54 rfl) (by decide) rfl ?_
        exact Rf.msk [true, false, true] (rf_Sprk_fly_L95 fu v0 0 M)
      · exact r_vret (dt_Sprk_fly.at 76 rfl) rfl
    · refine r_aload_n (dt_Sprk_fly.at 28 rfl) rfl ?_
      refine r_fR (dt_Sprk_fly.at 29 rfl) fl_Sprk_15 rfl (fun b26 => ?_)
      refine r_iload_n (dt_Sprk_fly.at 30 rfl) rfl ?_
      refine r_aload_n (dt_Sprk_fly.at 31 rfl) rfl ?_
      refine r_fR (dt_Sprk_fly.at 32 rfl) fl_Sprk_18 rfl (fun b27 => ?_)
      refine r_aload_n (dt_Sprk_fly.at 33 rfl) rfl ?_
      refine r_fI (dt_Sprk_fly.at 34 rfl) fl_Sprk_26 rfl (fun x28 => ?_)
      refine r_iconst (dt_Sprk_fly.at 35 rfl) 2 (by decide) ?_
      refine r_iload_n (dt_Sprk_fly.at 36 rfl) rfl ?_
      refine r_iadd (dt_Sprk_fly.at 37 rfl) ?_
      refine r_iconst (dt_Sprk_fly.at 38 rfl) 2 (by decide) ?_
      refine r_iload_n (dt_Sprk_fly.at 39 rfl) rfl ?_
      refine r_imul (dt_Sprk_fly.at 40 rfl) ?_
      refine r_iconst (dt_Sprk_fly.at 41 rfl) 1 (by decide) ?_
      refine r_iadd (dt_Sprk_fly.at 42 rfl) ?_
      refine r_cvI (c := 5) (rest := [.int v2, .ref b26]) (ct_Scen_draw b27 x28 (2 + v2) ((2 * v1) + 1) _) (dt_Sprk_fly.at 43 rfl) mb_Scen_draw wd_672 wd_661 wd_662 rfl (by decide) rfl rfl (Nat.le_of_ble_eq_true rfl) (fun r30 M29 => ?_)
      refine r_iload_n (dt_Sprk_fly.at 44 rfl) rfl ?_
      refine r_isub (dt_Sprk_fly.at 45 rfl) ?_
      refine r_tI (dt_Sprk_fly.at 46 rfl) (fun M31 => ?_)
      refine r_iincn (v := 1) (dt_Sprk_fly.at 47 rfl) (by decide) rfl (by decide) (fun y => [.ref v0, .int v1, .int y]) (fun _ => rfl) (fun x32 => ?_)
      refine r_goto (tgt := 47) (dt_Sprk_fly.at 48 rfl) (by decide) ?_
      exact Rf.msk [true, true, true] (ih v0 v1 x32 M31)
set_option maxRecDepth 20000 in
set_option maxHeartbeats 2000000 in
theorem ct_Sprk_fly {G : am_G} {l : Launch} (a0 : Nat) (M : am_M) : Ct G l y_Sprk_fly X_Sprk_fly [.ref a0] M (F_Sprk_fly a0 M) := by
  refine Ct.of (by decide +kernel) rfl rfl (Nat.le_of_ble_eq_true rfl) ?_
  unfold F_Sprk_fly
  show Rf G l X_Sprk_fly 0 [.ref a0, .retAddr 0, .retAddr 0] [] M _
  refine r_aload_n (dt_Sprk_fly.at 0 rfl) rfl ?_
  refine r_aload_n (dt_Sprk_fly.at 1 rfl) rfl ?_
  refine r_fR (dt_Sprk_fly.at 2 rfl) fl_Sprk_18 rfl (fun b1 => ?_)
  refine r_aload_n (dt_Sprk_fly.at 3 rfl) rfl ?_
  refine r_fI (dt_Sprk_fly.at 4 rfl) fl_Sprk_35 rfl (fun x2 => ?_)
  refine r_iconst (dt_Sprk_fly.at 5 rfl) 3 (by decide) ?_
  refine r_cvI (c := 5) (rest := [.ref a0]) (ct_Scen_ofKind b1 x2 3 _) (dt_Sprk_fly.at 6 rfl) mb_Scen_ofKind wd_671 wd_476 wd_477 rfl (by decide) rfl rfl (Nat.le_of_ble_eq_true rfl) (fun r4 M3 => ?_)
  refine r_sI (dt_Sprk_fly.at 7 rfl) fl_Sprk_60 rfl rfl rfl (fun M5 => ?_)
  refine r_aload_n (dt_Sprk_fly.at 8 rfl) rfl ?_
  refine r_aload_n (dt_Sprk_fly.at 9 rfl) rfl ?_
  refine r_fR (dt_Sprk_fly.at 10 rfl) fl_Sprk_18 rfl (fun b6 => ?_)
  refine r_aload_n (dt_Sprk_fly.at 11 rfl) rfl ?_
  refine r_fI (dt_Sprk_fly.at 12 rfl) fl_Sprk_35 rfl (fun x7 => ?_)
  refine r_iconst (dt_Sprk_fly.at 13 rfl) 5 (by decide) ?_
  refine r_cvI (c := 5) (rest := [.ref a0]) (ct_Scen_ofKind b6 x7 5 _) (dt_Sprk_fly.at 14 rfl) mb_Scen_ofKind wd_671 wd_476 wd_477 rfl (by decide) rfl rfl (Nat.le_of_ble_eq_true rfl) (fun r9 M8 => ?_)
  refine r_sI (dt_Sprk_fly.at 15 rfl) fl_Sprk_63 rfl rfl rfl (fun M10 => ?_)
  refine r_aload_n (dt_Sprk_fly.at 16 rfl) rfl ?_
  refine r_fR (dt_Sprk_fly.at 17 rfl) fl_Sprk_18 rfl (fun b11 => ?_)
  refine r_aload_n (dt_Sprk_fly.at 18 rfl) rfl ?_
  refine r_fI (dt_Sprk_fly.at 19 rfl) fl_Sprk_35 rfl (fun x12 => ?_)
  refine r_iconst (dt_Sprk_fly.at 20 rfl) 2 (by decide) ?_
  refine r_cvI (c := 5) (rest := []) (ct_Scen_ofKind b11 x12 2 _) (dt_Sprk_fly.at 21 rfl) mb_Scen_ofKind wd_671 wd_476 wd_477 rfl (by decide) rfl rfl (Nat.le_of_ble_eq_true rfl) (fun r14 M13 => ?_)
  refine r_istore_n (ls' := [.ref a0, .int r14, .retAddr 0]) (dt_Sprk_fly.at 22 rfl) (by decide) rfl ?_
  refine r_iconst (dt_Sprk_fly.at 23 rfl) 0 (by decide) ?_
  refine r_istore_n (ls' := [.ref a0, .int r14, .int 0]) (dt_Sprk_fly.at 24 rfl) (by decide) rfl ?_
  exact Rf.msk [true, true, true] (rf_Sprk_fly_L47 fu a0 r14 0 M13)
set_option maxRecDepth 20000 in
set_option maxHeartbeats 2000000 in
theorem ct_Sprk_freePlace {G : am_G} {l : Launch} (a0 : Nat) (p1 : Int32) (p2 : Int32) (M : am_M) : Ct G l y_Sprk_freePlace X_Sprk_freePlace [.ref a0, .int p1, .int p2] M (F_Sprk_freePlace a0 p1 p2 M) := by
  refine Ct.of (by decide +kernel) rfl rfl (Nat.le_of_ble_eq_true rfl) ?_
  unfold F_Sprk_freePlace
  show Rf G l X_Sprk_freePlace 0 [.ref a0, .int p1, .int p2, .retAddr 0] [] M _
  refine r_iload_n (dt_Sprk_freePlace.at 0 rfl) rfl ?_
  refine r_if_lt (tgt := 13) (dt_Sprk_freePlace.at 1 rfl) (by decide) ?_ ?_
  · refine r_iconst (dt_Sprk_freePlace.at 7 rfl) 0 (by decide) ?_
    exact r_iret (dt_Sprk_freePlace.at 8 rfl) rfl
  · refine r_iload_n (dt_Sprk_freePlace.at 2 rfl) rfl ?_
    refine r_aload_n (dt_Sprk_freePlace.at 3 rfl) rfl ?_
    refine r_fR (dt_Sprk_freePlace.at 4 rfl) fl_Sprk_9 rfl (fun b1 => ?_)
    refine r_aN (dt_Sprk_freePlace.at 5 rfl) (fun x2 => ?_)
    refine r_icmp_lt (tgt := 15) (dt_Sprk_freePlace.at 6 rfl) (by decide) ?_ ?_
    · refine r_aload_n (dt_Sprk_freePlace.at 9 rfl) rfl ?_
      refine r_fR (dt_Sprk_freePlace.at 10 rfl) fl_Sprk_9 rfl (fun b3 => ?_)
      refine r_iload_n (dt_Sprk_freePlace.at 11 rfl) rfl ?_
      refine r_aI (dt_Sprk_freePlace.at 12 rfl) (fun x4 => ?_)
      refine r_iload_n (dt_Sprk_freePlace.at 13 rfl) rfl ?_
      refine r_aload_n (dt_Sprk_freePlace.at 14 rfl) rfl ?_
      refine r_fR (dt_Sprk_freePlace.at 15 rfl) fl_Sprk_15 rfl (fun b5 => ?_)
      refine r_iload_n (dt_Sprk_freePlace.at 16 rfl) rfl ?_
      refine r_aI (dt_Sprk_freePlace.at 17 rfl) (fun x6 => ?_)
      refine r_imul (dt_Sprk_freePlace.at 18 rfl) ?_
      refine r_iadd (dt_Sprk_freePlace.at 19 rfl) ?_
      refine r_nmi (fun x7 => ?_)
      refine r_istore_n (ls' := [.ref a0, .int p1, .int p2, .int x7]) (dt_Sprk_freePlace.at 20 rfl) (by decide) rfl ?_
      refine r_iload_n (dt_Sprk_freePlace.at 21 rfl) rfl ?_
      refine r_iconst (dt_Sprk_freePlace.at 22 rfl) 1 (by decide) ?_
      refine r_icmp_ne (tgt := 53) (dt_Sprk_freePlace.at 23 rfl) (by decide) ?_ ?_
      · refine r_iload_n (dt_Sprk_freePlace.at 24 rfl) rfl ?_
        refine r_aload_n (dt_Sprk_freePlace.at 25 rfl) rfl ?_
        refine r_fI (dt_Sprk_freePlace.at 26 rfl) fl_Sprk_60 rfl (fun x8 => ?_)
        refine r_iload_n (dt_Sprk_freePlace.at 27 rfl) rfl ?_
        refine r_imul (dt_Sprk_freePlace.at 28 rfl) ?_
        refine r_iload_n (dt_Sprk_freePlace.at 29 rfl) rfl ?_
        refine r_iconst (dt_Sprk_freePlace.at 30 rfl) 1 (by decide) ?_
        refine r_isub (dt_Sprk_freePlace.at 31 rfl) ?_
        refine r_imul (dt_Sprk_freePlace.at 32 rfl) ?_
        refine r_iconst (dt_Sprk_freePlace.at 33 rfl) 2 (by decide) ?_
        refine r_idivk (dt_Sprk_freePlace.at 34 rfl) (by decide) ?_
        refine r_iadd (dt_Sprk_freePlace.at 35 rfl) ?_
        refine r_goto (tgt := 54) (dt_Sprk_freePlace.at 36 rfl) (by decide) ?_
        exact r_iret (dt_Sprk_freePlace.at 38 rfl) rfl
      · refine r_iload_n (dt_Sprk_freePlace.at 37 rfl) rfl ?_
        exact r_iret (dt_Sprk_freePlace.at 38 rfl) rfl
    · refine r_iconst (dt_Sprk_freePlace.at 7 rfl) 0 (by decide) ?_
      exact r_iret (dt_Sprk_freePlace.at 8 rfl) rfl
set_option maxRecDepth 20000 in
set_option maxHeartbeats 2000000 in
theorem ct_Math_floorMod {G : am_G} {l : Launch} (p1 : Int32) (p2 : Int32) (M : am_M) : Ct G l y_Math_floorMod X_Math_floorMod [.int p1, .int p2] M (F_Math_floorMod p1 p2 M) := by
  refine Ct.ofF (by decide +kernel) rfl rfl (Nat.le_of_ble_eq_true rfl) ?_
  unfold F_Math_floorMod
  show Rf G l X_Math_floorMod 0 [.int p1, .int p2, .retAddr 0] [] M _
  refine r_iload_n (dt_Math_floorMod.at 0 rfl) rfl ?_
  refine r_iload_n (dt_Math_floorMod.at 1 rfl) rfl ?_
  refine r_irem (dt_Math_floorMod.at 2 rfl) ?_
  refine r_nmi (fun x1 => ?_)
  refine r_istore_n (ls' := [.int p1, .int p2, .int x1]) (dt_Math_floorMod.at 3 rfl) (by decide) rfl ?_
  refine r_iload_n (dt_Math_floorMod.at 4 rfl) rfl ?_
  refine r_iload_n (dt_Math_floorMod.at 5 rfl) rfl ?_
  refine r_ixor (dt_Math_floorMod.at 6 rfl) ?_
  refine r_if_ge (tgt := 18) (dt_Math_floorMod.at 7 rfl) (by decide) ?_ ?_
  · refine r_iload_n (dt_Math_floorMod.at 14 rfl) rfl ?_
    exact r_iret (dt_Math_floorMod.at 15 rfl) rfl
  · refine r_iload_n (dt_Math_floorMod.at 8 rfl) rfl ?_
    refine r_if_eq (tgt := 18) (dt_Math_floorMod.at 9 rfl) (by decide) ?_ ?_
    · refine r_iload_n (dt_Math_floorMod.at 14 rfl) rfl ?_
      exact r_iret (dt_Math_floorMod.at 15 rfl) rfl
    · refine r_iload_n (dt_Math_floorMod.at 10 rfl) rfl ?_
      refine r_iload_n (dt_Math_floorMod.at 11 rfl) rfl ?_
      refine r_iadd (dt_Math_floorMod.at 12 rfl) ?_
      exact r_iret (dt_Math_floorMod.at 13 rfl) rfl
set_option maxRecDepth 20000 in
set_option maxHeartbeats 2000000 in
theorem rf_Sprk_placeAt_L30 {G : am_G} {l : Launch}   (v0 : Nat) (v3 : Int32) (v4 : Int32) (M : am_M) : Rf G l X_Sprk_placeAt 30 [.ref v0, .retAddr 0, .retAddr 0, .int v3, .int v4, .retAddr 0] [] M (F_Sprk_placeAt_L30 v0 v3 v4 M) := by
  unfold F_Sprk_placeAt_L30
  refine r_iload (dt_Sprk_placeAt.at 17 rfl) rfl ?_
  refine r_iconst (dt_Sprk_placeAt.at 18 rfl) 1 (by decide) ?_
  refine r_icmp_lt (tgt := 44) (dt_Sprk_placeAt.at 19 rfl) (by decide) ?_ ?_
  · refine r_iload_n (dt_Sprk_placeAt.at 24 rfl) rfl ?_
    exact r_iret (dt_Sprk_placeAt.at 25 rfl) rfl
  · refine r_aload_n (dt_Sprk_placeAt.at 20 rfl) rfl ?_
    refine r_fI (dt_Sprk_placeAt.at 21 rfl) fl_Sprk_63 rfl (fun x7 => ?_)
    refine r_iconst (dt_Sprk_placeAt.at 22 rfl) 2 (by decide) ?_
    refine r_icmp_ne (tgt := 46) (dt_Sprk_placeAt.at 23 rfl) (by decide) ?_ ?_
    · refine r_iload_n (dt_Sprk_placeAt.at 24 rfl) rfl ?_
      exact r_iret (dt_Sprk_placeAt.at 25 rfl) rfl
    · refine r_aload_n (dt_Sprk_placeAt.at 26 rfl) rfl ?_
      refine r_fI (dt_Sprk_placeAt.at 27 rfl) fl_Sprk_63 rfl (fun x8 => ?_)
      refine r_if_ne (tgt := 60) (dt_Sprk_placeAt.at 28 rfl) (by decide) ?_ ?_
      · refine r_iload_n (dt_Sprk_placeAt.at 29 rfl) rfl ?_
        refine r_iload (dt_Sprk_placeAt.at 30 rfl) rfl ?_
        refine r_csI (rest := []) (ct_Math_floorMod v3 v4 _) (dt_Sprk_placeAt.at 31 rfl) mb_Math_floorMod wd_697 wd_698 (by decide) rfl rfl (Nat.le_of_ble_eq_true rfl) (fun r10 M9 => ?_)
        exact r_iret (dt_Sprk_placeAt.at 32 rfl) rfl
      · refine r_iload_n (dt_Sprk_placeAt.at 33 rfl) rfl ?_
        refine r_iconst (dt_Sprk_placeAt.at 34 rfl) 2 (by decide) ?_
        refine r_iload (dt_Sprk_placeAt.at 35 rfl) rfl ?_
        refine r_imul (dt_Sprk_placeAt.at 36 rfl) ?_
        refine r_csI (rest := []) (ct_Math_floorMod v3 (2 * v4) _) (dt_Sprk_placeAt.at 37 rfl) mb_Math_floorMod wd_697 wd_698 (by decide) rfl rfl (Nat.le_of_ble_eq_true rfl) (fun r12 M11 => ?_)
        refine r_istore (ls' := [.ref v0, .retAddr 0, .retAddr 0, .int v3, .int v4, .int r12]) (dt_Sprk_placeAt.at 38 rfl) (by decide) rfl ?_
        refine r_iload (dt_Sprk_placeAt.at 39 rfl) rfl ?_
        refine r_iload (dt_Sprk_placeAt.at 40 rfl) rfl ?_
        refine r_icmp_ge (tgt := 82) (dt_Sprk_placeAt.at 41 rfl) (by decide) ?_ ?_
        · refine r_iconst (dt_Sprk_placeAt.at 44 rfl) 2 (by decide) ?_
          refine r_iload (dt_Sprk_placeAt.at 45 rfl) rfl ?_
          refine r_imul (dt_Sprk_placeAt.at 46 rfl) ?_
          refine r_iconst (dt_Sprk_placeAt.at 47 rfl) 1 (by decide) ?_
          refine r_isub (dt_Sprk_placeAt.at 48 rfl) ?_
          refine r_iload (dt_Sprk_placeAt.at 49 rfl) rfl ?_
          refine r_isub (dt_Sprk_placeAt.at 50 rfl) ?_
          exact r_iret (dt_Sprk_placeAt.at 51 rfl) rfl
        · refine r_iload (dt_Sprk_placeAt.at 42 rfl) rfl ?_
          refine r_goto (tgt := 91) (dt_Sprk_placeAt.at 43 rfl) (by decide) ?_
          exact r_iret (dt_Sprk_placeAt.at 51 rfl) rfl
set_option maxRecDepth 20000 in
set_option maxHeartbeats 2000000 in
theorem ct_Sprk_placeAt {G : am_G} {l : Launch} (a0 : Nat) (p1 : Int32) (p2 : Int32) (M : am_M) : Ct G l y_Sprk_placeAt X_Sprk_placeAt [.ref a0, .int p1, .int p2] M (F_Sprk_placeAt a0 p1 p2 M) := by
  refine Ct.of (by decide +kernel) rfl rfl (Nat.le_of_ble_eq_true rfl) ?_
  unfold F_Sprk_placeAt
  show Rf G l X_Sprk_placeAt 0 [.ref a0, .int p1, .int p2, .retAddr 0, .retAddr 0, .retAddr 0] [] M _
  refine r_aload_n (dt_Sprk_placeAt.at 0 rfl) rfl ?_
  refine r_iload_n (dt_Sprk_placeAt.at 1 rfl) rfl ?_
  refine r_iload_n (dt_Sprk_placeAt.at 2 rfl) rfl ?_
  refine r_cvI (c := 6) (rest := []) (ct_Sprk_freePlace a0 p1 p2 _) (dt_Sprk_placeAt.at 3 rfl) mb_Sprk_freePlace wd_693 wd_695 wp_17 rfl (by decide) rfl rfl (Nat.le_of_ble_eq_true rfl) (fun r2 M1 => ?_)
  refine r_istore_n (ls' := [.ref a0, .int p1, .int p2, .int r2, .retAddr 0, .retAddr 0]) (dt_Sprk_placeAt.at 4 rfl) (by decide) rfl ?_
  refine r_aload_n (dt_Sprk_placeAt.at 5 rfl) rfl ?_
  refine r_fR (dt_Sprk_placeAt.at 6 rfl) fl_Sprk_18 rfl (fun b3 => ?_)
  refine r_iload_n (dt_Sprk_placeAt.at 7 rfl) rfl ?_
  refine r_cvI (c := 5) (rest := []) (ct_Scen_cellsAlong b3 p1 _) (dt_Sprk_placeAt.at 8 rfl) mb_Scen_cellsAlong wd_681 wd_491 wd_492 rfl (by decide) rfl rfl (Nat.le_of_ble_eq_true rfl) (fun r5 M4 => ?_)
  refine r_bipush (dt_Sprk_placeAt.at 9 rfl) 8 (by decide) ?_
  refine r_imul (dt_Sprk_placeAt.at 10 rfl) ?_
  refine r_nmi (fun x6 => ?_)
  refine r_istore (ls' := [.ref a0, .int p1, .int p2, .int r2, .int x6, .retAddr 0]) (dt_Sprk_placeAt.at 11 rfl) (by decide) rfl ?_
  refine r_iload_n (dt_Sprk_placeAt.at 12 rfl) rfl ?_
  refine r_if_lt (tgt := 30) (dt_Sprk_placeAt.at 13 rfl) (by decide) ?_ ?_
  · exact Rf.msk [true, false, false, true, true, false] (rf_Sprk_placeAt_L30 a0 r2 x6 M4)
  · refine r_iload_n (dt_Sprk_placeAt.at 14 rfl) rfl ?_
    refine r_iload (dt_Sprk_placeAt.at 15 rfl) rfl ?_
    refine r_icmp_lt (tgt := 44) (dt_Sprk_placeAt.at 16 rfl) (by decide) ?_ ?_
    · refine r_iload_n (dt_Sprk_placeAt.at 24 rfl) rfl ?_
      exact r_iret (dt_Sprk_placeAt.at 25 rfl) rfl
    · exact Rf.msk [true, false, false, true, true, false] (rf_Sprk_placeAt_L30 a0 r2 x6 M4)
set_option maxRecDepth 20000 in
set_option maxHeartbeats 2000000 in
theorem rf_Sprk_beginAsChild_L101 {G : am_G} {l : Launch}   : ∀ (n : Nat) (v0 : Nat) (v1 : Nat) (v3 : Int32) (M : am_M), Rf G l X_Sprk_beginAsChild 101 [.ref v0, .ref v1, .retAddr 0, .int v3] [] M (F_Sprk_beginAsChild_L101 n v0 v1 v3 M) := by
  intro n
  induction n with
  | zero => intro v0 v1 v3 M; exact Rf.no
  | succ n ih =>
    intro v0 v1 v3 M
    unfold F_Sprk_beginAsChild_L101
    refine r_iload_n (dt_Sprk_beginAsChild.at 54 rfl) rfl ?_
    refine r_iconst (dt_Sprk_beginAsChild.at 55 rfl) 3 (by decide) ?_
    refine r_icmp_ge (tgt := 134) (dt_Sprk_beginAsChild.at 56 rfl) (by decide) ?_ ?_
    · exact r_vret (dt_Sprk_beginAsChild.at 73 rfl) rfl
    · refine r_aload_n (dt_Sprk_beginAsChild.at 57 rfl) rfl ?_
      refine r_fR (dt_Sprk_beginAsChild.at 58 rfl) fl_Sprk_9 rfl (fun b29 => ?_)
      refine r_iload_n (dt_Sprk_beginAsChild.at 59 rfl) rfl ?_
      refine r_aload_n (dt_Sprk_beginAsChild.at 60 rfl) rfl ?_
      refine r_iload_n (dt_Sprk_beginAsChild.at 61 rfl) rfl ?_
      refine r_aload_n (dt_Sprk_beginAsChild.at 62 rfl) rfl ?_
      refine r_fI (dt_Sprk_beginAsChild.at 63 rfl) fl_Sprk_51 rfl (fun x30 => ?_)
      refine r_iconst (dt_Sprk_beginAsChild.at 64 rfl) 1 (by decide) ?_
      refine r_isub (dt_Sprk_beginAsChild.at 65 rfl) ?_
      refine r_aload_n (dt_Sprk_beginAsChild.at 66 rfl) rfl ?_
      refine r_fI (dt_Sprk_beginAsChild.at 67 rfl) fl_Sprk_41 rfl (fun x31 => ?_)
      refine r_isub (dt_Sprk_beginAsChild.at 68 rfl) ?_
      refine r_cvI (c := 6) (rest := [.int v3, .ref b29]) (ct_Sprk_placeAt v1 v3 ((x30 - 1) - x31) _) (dt_Sprk_beginAsChild.at 69 rfl) mb_Sprk_placeAt wd_689 wd_690 wd_691 rfl (by decide) rfl rfl (Nat.le_of_ble_eq_true rfl) (fun r33 M32 => ?_)
      refine r_tI (dt_Sprk_beginAsChild.at 70 rfl) (fun M34 => ?_)
      refine r_iincn (v := 1) (dt_Sprk_beginAsChild.at 71 rfl) (by decide) rfl (by decide) (fun y => [.ref v0, .ref v1, .retAddr 0, .int y]) (fun _ => rfl) (fun x35 => ?_)
      refine r_goto (tgt := 101) (dt_Sprk_beginAsChild.at 72 rfl) (by decide) ?_
      exact Rf.msk [true, true, false, true] (ih v0 v1 x35 M34)
set_option maxRecDepth 20000 in
set_option maxHeartbeats 2000000 in
theorem ct_Sprk_beginAsChild {G : am_G} {l : Launch} (a0 : Nat) (p1 : Nat) (p2 : Int32) (M : am_M) : Ct G l y_Sprk_beginAsChild X_Sprk_beginAsChild [.ref a0, .ref p1, .int p2] M (F_Sprk_beginAsChild a0 p1 p2 M) := by
  refine Ct.of (by decide +kernel) rfl rfl (Nat.le_of_ble_eq_true rfl) ?_
  unfold F_Sprk_beginAsChild
  show Rf G l X_Sprk_beginAsChild 0 [.ref a0, .ref p1, .int p2, .retAddr 0] [] M _
  refine r_aload_n (dt_Sprk_beginAsChild.at 0 rfl) rfl ?_
  refine r_aload_n (dt_Sprk_beginAsChild.at 1 rfl) rfl ?_
  refine r_fI (dt_Sprk_beginAsChild.at 2 rfl) fl_Sprk_26 rfl (fun x1 => ?_)
  refine r_aload_n (dt_Sprk_beginAsChild.at 3 rfl) rfl ?_
  refine r_fI (dt_Sprk_beginAsChild.at 4 rfl) fl_Sprk_38 rfl (fun x2 => ?_)
  refine r_iload_n (dt_Sprk_beginAsChild.at 5 rfl) rfl ?_
  refine r_cnI (rest := [.ref a0]) (ct_NS_codeOfChild x1 x2 p2 _) (dt_Sprk_beginAsChild.at 6 rfl) mb_NS_codeOfChild wd_688 wd_626 (by decide) rfl rfl (Nat.le_of_ble_eq_true rfl) (fun r4 M3 => ?_)
  refine r_sI (dt_Sprk_beginAsChild.at 7 rfl) fl_Sprk_26 rfl rfl rfl (fun M5 => ?_)
  refine r_aload_n (dt_Sprk_beginAsChild.at 8 rfl) rfl ?_
  refine r_aload_n (dt_Sprk_beginAsChild.at 9 rfl) rfl ?_
  refine r_fR (dt_Sprk_beginAsChild.at 10 rfl) fl_Sprk_18 rfl (fun b6 => ?_)
  refine r_aload_n (dt_Sprk_beginAsChild.at 11 rfl) rfl ?_
  refine r_fI (dt_Sprk_beginAsChild.at 12 rfl) fl_Sprk_35 rfl (fun x7 => ?_)
  refine r_bipush (dt_Sprk_beginAsChild.at 13 rfl) 7 (by decide) ?_
  refine r_cvI (c := 5) (rest := [.ref a0]) (ct_Scen_ofKind b6 x7 7 _) (dt_Sprk_beginAsChild.at 14 rfl) mb_Scen_ofKind wd_671 wd_476 wd_477 rfl (by decide) rfl rfl (Nat.le_of_ble_eq_true rfl) (fun r9 M8 => ?_)
  refine r_sI (dt_Sprk_beginAsChild.at 15 rfl) fl_Sprk_35 rfl rfl rfl (fun M10 => ?_)
  refine r_aload_n (dt_Sprk_beginAsChild.at 16 rfl) rfl ?_
  refine r_aload_n (dt_Sprk_beginAsChild.at 17 rfl) rfl ?_
  refine r_fI (dt_Sprk_beginAsChild.at 18 rfl) fl_Sprk_38 rfl (fun x11 => ?_)
  refine r_iconst (dt_Sprk_beginAsChild.at 19 rfl) 1 (by decide) ?_
  refine r_iadd (dt_Sprk_beginAsChild.at 20 rfl) ?_
  refine r_sI (dt_Sprk_beginAsChild.at 21 rfl) fl_Sprk_38 rfl rfl rfl (fun M12 => ?_)
  refine r_aload_n (dt_Sprk_beginAsChild.at 22 rfl) rfl ?_
  refine r_aload_n (dt_Sprk_beginAsChild.at 23 rfl) rfl ?_
  refine r_fI (dt_Sprk_beginAsChild.at 24 rfl) fl_Sprk_51 rfl (fun x13 => ?_)
  refine r_sI (dt_Sprk_beginAsChild.at 25 rfl) fl_Sprk_41 rfl rfl rfl (fun M14 => ?_)
  refine r_aload_n (dt_Sprk_beginAsChild.at 26 rfl) rfl ?_
  refine r_aload_n (dt_Sprk_beginAsChild.at 27 rfl) rfl ?_
  refine r_fI (dt_Sprk_beginAsChild.at 28 rfl) fl_Sprk_41 rfl (fun x15 => ?_)
  refine r_aload_n (dt_Sprk_beginAsChild.at 29 rfl) rfl ?_
  refine r_fR (dt_Sprk_beginAsChild.at 30 rfl) fl_Sprk_18 rfl (fun b16 => ?_)
  refine r_aload_n (dt_Sprk_beginAsChild.at 31 rfl) rfl ?_
  refine r_fI (dt_Sprk_beginAsChild.at 32 rfl) fl_Sprk_35 rfl (fun x17 => ?_)
  refine r_iconst (dt_Sprk_beginAsChild.at 33 rfl) 0 (by decide) ?_
  refine r_cvI (c := 5) (rest := [.int x15, .ref a0]) (ct_Scen_ofKind b16 x17 0 _) (dt_Sprk_beginAsChild.at 34 rfl) mb_Scen_ofKind wd_671 wd_476 wd_477 rfl (by decide) rfl rfl (Nat.le_of_ble_eq_true rfl) (fun r19 M18 => ?_)
  refine r_iadd (dt_Sprk_beginAsChild.at 35 rfl) ?_
  refine r_aload_n (dt_Sprk_beginAsChild.at 36 rfl) rfl ?_
  refine r_fR (dt_Sprk_beginAsChild.at 37 rfl) fl_Sprk_18 rfl (fun b20 => ?_)
  refine r_aload_n (dt_Sprk_beginAsChild.at 38 rfl) rfl ?_
  refine r_fI (dt_Sprk_beginAsChild.at 39 rfl) fl_Sprk_26 rfl (fun x21 => ?_)
  refine r_iconst (dt_Sprk_beginAsChild.at 40 rfl) 1 (by decide) ?_
  refine r_aload_n (dt_Sprk_beginAsChild.at 41 rfl) rfl ?_
  refine r_fR (dt_Sprk_beginAsChild.at 42 rfl) fl_Sprk_18 rfl (fun b22 => ?_)
  refine r_aload_n (dt_Sprk_beginAsChild.at 43 rfl) rfl ?_
  refine r_fI (dt_Sprk_beginAsChild.at 44 rfl) fl_Sprk_35 rfl (fun x23 => ?_)
  refine r_iconst (dt_Sprk_beginAsChild.at 45 rfl) 1 (by decide) ?_
  refine r_cvI (c := 5) (rest := [.int 1, .int x21, .ref b20, .int (x15 + r19), .ref a0]) (ct_Scen_ofKind b22 x23 1 _) (dt_Sprk_beginAsChild.at 46 rfl) mb_Scen_ofKind wd_671 wd_476 wd_477 rfl (by decide) rfl rfl (Nat.le_of_ble_eq_true rfl) (fun r25 M24 => ?_)
  refine r_iconst (dt_Sprk_beginAsChild.at 47 rfl) 1 (by decide) ?_
  refine r_iadd (dt_Sprk_beginAsChild.at 48 rfl) ?_
  refine r_cvI (c := 5) (rest := [.int (x15 + r19), .ref a0]) (ct_Scen_draw b20 x21 1 (r25 + 1) _) (dt_Sprk_beginAsChild.at 49 rfl) mb_Scen_draw wd_672 wd_661 wd_662 rfl (by decide) rfl rfl (Nat.le_of_ble_eq_true rfl) (fun r27 M26 => ?_)
  refine r_iadd (dt_Sprk_beginAsChild.at 50 rfl) ?_
  refine r_sI (dt_Sprk_beginAsChild.at 51 rfl) fl_Sprk_51 rfl rfl rfl (fun M28 => ?_)
  refine r_iconst (dt_Sprk_beginAsChild.at 52 rfl) 0 (by decide) ?_
  refine r_istore_n (ls' := [.ref a0, .ref p1, .int p2, .int 0]) (dt_Sprk_beginAsChild.at 53 rfl) (by decide) rfl ?_
  exact Rf.msk [true, true, false, true] (rf_Sprk_beginAsChild_L101 fu a0 p1 0 M28)
set_option maxRecDepth 20000 in
set_option maxHeartbeats 2000000 in
theorem ct_Find_find {G : am_G} {l : Launch} (a0 : Nat) (p1 : Int32) (M : am_M) : Ct G l y_Find_find X_Find_find [.ref a0, .int p1] M (F_Find_find a0 p1 M) := by
  refine Ct.of (by decide +kernel) rfl rfl (Nat.le_of_ble_eq_true rfl) ?_
  unfold F_Find_find
  show Rf G l X_Find_find 0 [.ref a0, .int p1, .retAddr 0, .retAddr 0, .retAddr 0] [] M _
  refine r_aload_n (dt_Find_find.at 0 rfl) rfl ?_
  refine r_fR (dt_Find_find.at 1 rfl) fl_Find_7 rfl (fun b1 => ?_)
  refine r_iload_n (dt_Find_find.at 2 rfl) rfl ?_
  refine r_cvI (c := 5) (rest := []) (ct_Scen_hasSpark b1 p1 _) (dt_Find_find.at 3 rfl) mb_Scen_hasSpark wd_643 wd_602 wd_603 rfl (by decide) rfl rfl (Nat.le_of_ble_eq_true rfl) (fun r3 M2 => ?_)
  refine r_if_ne (tgt := 13) (dt_Find_find.at 4 rfl) (by decide) ?_ ?_
  · refine r_null (dt_Find_find.at 5 rfl) ?_
    exact r_aretN (dt_Find_find.at 6 rfl) rfl (Or.inl ⟨_, rfl⟩)
  · refine r_iload_n (dt_Find_find.at 7 rfl) rfl ?_
    refine r_cnI (rest := []) (ct_NS_sourceOf p1 _) (dt_Find_find.at 8 rfl) mb_NS_sourceOf wd_644 wd_606 (by decide) rfl rfl (Nat.le_of_ble_eq_true rfl) (fun r5 M4 => ?_)
    refine r_istore_n (ls' := [.ref a0, .int p1, .int r5, .retAddr 0, .retAddr 0]) (dt_Find_find.at 9 rfl) (by decide) rfl ?_
    refine r_iload_n (dt_Find_find.at 10 rfl) rfl ?_
    refine r_cnI (rest := []) (ct_NS_numberOf p1 _) (dt_Find_find.at 11 rfl) mb_NS_numberOf wd_645 wd_610 (by decide) rfl rfl (Nat.le_of_ble_eq_true rfl) (fun r7 M6 => ?_)
    refine r_istore_n (ls' := [.ref a0, .int p1, .int r5, .int r7, .retAddr 0]) (dt_Find_find.at 12 rfl) (by decide) rfl ?_
    refine r_aload_n (dt_Find_find.at 13 rfl) rfl ?_
    refine r_fR (dt_Find_find.at 14 rfl) fl_Find_18 rfl (fun b8 => ?_)
    refine r_iload_n (dt_Find_find.at 15 rfl) rfl ?_
    refine r_iload_n (dt_Find_find.at 16 rfl) rfl ?_
    refine r_aload_n (dt_Find_find.at 17 rfl) rfl ?_
    refine r_fR (dt_Find_find.at 18 rfl) fl_Find_7 rfl (fun b9 => ?_)
    refine r_iload_n (dt_Find_find.at 19 rfl) rfl ?_
    refine r_iload_n (dt_Find_find.at 20 rfl) rfl ?_
    refine r_cvI (c := 5) (rest := [.int r7, .int r5, .ref b8]) (ct_Scen_birthTick b9 r5 r7 _) (dt_Find_find.at 21 rfl) mb_Scen_birthTick wd_646 wd_647 wd_648 rfl (by decide) rfl rfl (Nat.le_of_ble_eq_true rfl) (fun r11 M10 => ?_)
    refine r_cvV (c := 6) (rest := []) (ct_Sprk_beginAtSource b8 r5 r7 r11 _) (dt_Find_find.at 22 rfl) mb_Sprk_beginAtSource wd_665 wd_666 wd_667 rfl (by decide) rfl rfl (Nat.le_of_ble_eq_true rfl) (fun M12 => ?_)
    refine r_aload_n (dt_Find_find.at 23 rfl) rfl ?_
    refine r_fR (dt_Find_find.at 24 rfl) fl_Find_18 rfl (fun b13 => ?_)
    refine r_cvV (c := 6) (rest := []) (ct_Sprk_fly b13 _) (dt_Find_find.at 25 rfl) mb_Sprk_fly wd_673 wd_674 wd_675 rfl (by decide) rfl rfl (Nat.le_of_ble_eq_true rfl) (fun M14 => ?_)
    refine r_iload_n (dt_Find_find.at 26 rfl) rfl ?_
    refine r_cnI (rest := []) (ct_NS_generationOf p1 _) (dt_Find_find.at 27 rfl) mb_NS_generationOf wd_683 wd_618 (by decide) rfl rfl (Nat.le_of_ble_eq_true rfl) (fun r16 M15 => ?_)
    refine r_istore (ls' := [.ref a0, .int p1, .int r5, .int r7, .int r16]) (dt_Find_find.at 28 rfl) (by decide) rfl ?_
    refine r_iload (dt_Find_find.at 29 rfl) rfl ?_
    refine r_if_ne (tgt := 64) (dt_Find_find.at 30 rfl) (by decide) ?_ ?_
    · refine r_aload_n (dt_Find_find.at 31 rfl) rfl ?_
      refine r_fR (dt_Find_find.at 32 rfl) fl_Find_18 rfl (fun b17 => ?_)
      exact r_aret (dt_Find_find.at 33 rfl) rfl (Or.inl ⟨_, rfl⟩)
    · refine r_aload_n (dt_Find_find.at 34 rfl) rfl ?_
      refine r_fR (dt_Find_find.at 35 rfl) fl_Find_22 rfl (fun b18 => ?_)
      refine r_aload_n (dt_Find_find.at 36 rfl) rfl ?_
      refine r_fR (dt_Find_find.at 37 rfl) fl_Find_18 rfl (fun b19 => ?_)
      refine r_iload_n (dt_Find_find.at 38 rfl) rfl ?_
      refine r_iconst (dt_Find_find.at 39 rfl) 4 (by decide) ?_
      refine r_ishr (dt_Find_find.at 40 rfl) ?_
      refine r_bipush (dt_Find_find.at 41 rfl) 15 (by decide) ?_
      refine r_iand (dt_Find_find.at 42 rfl) ?_
      refine r_iconst (dt_Find_find.at 43 rfl) 1 (by decide) ?_
      refine r_isub (dt_Find_find.at 44 rfl) ?_
      refine r_cvV (c := 6) (rest := []) (ct_Sprk_beginAsChild b18 b19 (((p1 >>> (4 &&& 31)) &&& 15) - 1) _) (dt_Find_find.at 45 rfl) mb_Sprk_beginAsChild wd_684 wd_685 wd_686 rfl (by decide) rfl rfl (Nat.le_of_ble_eq_true rfl) (fun M20 => ?_)
      refine r_aload_n (dt_Find_find.at 46 rfl) rfl ?_
      refine r_fR (dt_Find_find.at 47 rfl) fl_Find_22 rfl (fun b21 => ?_)
      refine r_cvV (c := 6) (rest := []) (ct_Sprk_fly b21 _) (dt_Find_find.at 48 rfl) mb_Sprk_fly wd_673 wd_674 wd_675 rfl (by decide) rfl rfl (Nat.le_of_ble_eq_true rfl) (fun M22 => ?_)
      refine r_iload (dt_Find_find.at 49 rfl) rfl ?_
      refine r_iconst (dt_Find_find.at 50 rfl) 1 (by decide) ?_
      refine r_icmp_ne (tgt := 101) (dt_Find_find.at 51 rfl) (by decide) ?_ ?_
      · refine r_aload_n (dt_Find_find.at 52 rfl) rfl ?_
        refine r_fR (dt_Find_find.at 53 rfl) fl_Find_22 rfl (fun b23 => ?_)
        exact r_aret (dt_Find_find.at 54 rfl) rfl (Or.inl ⟨_, rfl⟩)
      · refine r_aload_n (dt_Find_find.at 55 rfl) rfl ?_
        refine r_fR (dt_Find_find.at 56 rfl) fl_Find_25 rfl (fun b24 => ?_)
        refine r_aload_n (dt_Find_find.at 57 rfl) rfl ?_
        refine r_fR (dt_Find_find.at 58 rfl) fl_Find_22 rfl (fun b25 => ?_)
        refine r_iload_n (dt_Find_find.at 59 rfl) rfl ?_
        refine r_bipush (dt_Find_find.at 60 rfl) 15 (by decide) ?_
        refine r_iand (dt_Find_find.at 61 rfl) ?_
        refine r_iconst (dt_Find_find.at 62 rfl) 1 (by decide) ?_
        refine r_isub (dt_Find_find.at 63 rfl) ?_
        refine r_cvV (c := 6) (rest := []) (ct_Sprk_beginAsChild b24 b25 ((p1 &&& 15) - 1) _) (dt_Find_find.at 64 rfl) mb_Sprk_beginAsChild wd_684 wd_685 wd_686 rfl (by decide) rfl rfl (Nat.le_of_ble_eq_true rfl) (fun M26 => ?_)
        refine r_aload_n (dt_Find_find.at 65 rfl) rfl ?_
        refine r_fR (dt_Find_find.at 66 rfl) fl_Find_25 rfl (fun b27 => ?_)
        refine r_cvV (c := 6) (rest := []) (ct_Sprk_fly b27 _) (dt_Find_find.at 67 rfl) mb_Sprk_fly wd_673 wd_674 wd_675 rfl (by decide) rfl rfl (Nat.le_of_ble_eq_true rfl) (fun M28 => ?_)
        refine r_aload_n (dt_Find_find.at 68 rfl) rfl ?_
        refine r_fR (dt_Find_find.at 69 rfl) fl_Find_25 rfl (fun b29 => ?_)
        exact r_aret (dt_Find_find.at 70 rfl) rfl (Or.inl ⟨_, rfl⟩)
set_option maxRecDepth 20000 in
set_option maxHeartbeats 2000000 in
theorem ct_Scen_colourOf {G : am_G} {l : Launch} (a0 : Nat) (p1 : Int32) (M : am_M) : Ct G l y_Scen_colourOf X_Scen_colourOf [.ref a0, .int p1] M (F_Scen_colourOf a0 p1 M) := by
  refine Ct.of (by decide +kernel) rfl rfl (Nat.le_of_ble_eq_true rfl) ?_
  unfold F_Scen_colourOf
  show Rf G l X_Scen_colourOf 0 [.ref a0, .int p1] [] M _
  refine r_aload_n (dt_Scen_colourOf.at 0 rfl) rfl ?_
  refine r_iload_n (dt_Scen_colourOf.at 1 rfl) rfl ?_
  refine r_iconst (dt_Scen_colourOf.at 2 rfl) 5 (by decide) ?_
  refine r_bipush (dt_Scen_colourOf.at 3 rfl) 8 (by decide) ?_
  refine r_cvI (c := 5) (rest := []) (ct_Scen_draw a0 p1 5 8 _) (dt_Scen_colourOf.at 4 rfl) mb_Scen_draw wd_660 wd_661 wd_662 rfl (by decide) rfl rfl (Nat.le_of_ble_eq_true rfl) (fun r2 M1 => ?_)
  exact r_iret (dt_Scen_colourOf.at 5 rfl) rfl
set_option maxRecDepth 20000 in
set_option maxHeartbeats 2000000 in
theorem ct_Sprk_speedAlong {G : am_G} {l : Launch} (a0 : Nat) (p1 : Int32) (M : am_M) : Ct G l y_Sprk_speedAlong X_Sprk_speedAlong [.ref a0, .int p1] M (F_Sprk_speedAlong a0 p1 M) := by
  refine Ct.of (by decide +kernel) rfl rfl (Nat.le_of_ble_eq_true rfl) ?_
  unfold F_Sprk_speedAlong
  show Rf G l X_Sprk_speedAlong 0 [.ref a0, .int p1] [] M _
  refine r_iload_n (dt_Sprk_speedAlong.at 0 rfl) rfl ?_
  refine r_if_lt (tgt := 22) (dt_Sprk_speedAlong.at 1 rfl) (by decide) ?_ ?_
  · refine r_iconst (dt_Sprk_speedAlong.at 12 rfl) 0 (by decide) ?_
    exact r_iret (dt_Sprk_speedAlong.at 13 rfl) rfl
  · refine r_iload_n (dt_Sprk_speedAlong.at 2 rfl) rfl ?_
    refine r_aload_n (dt_Sprk_speedAlong.at 3 rfl) rfl ?_
    refine r_fR (dt_Sprk_speedAlong.at 4 rfl) fl_Sprk_15 rfl (fun b1 => ?_)
    refine r_aN (dt_Sprk_speedAlong.at 5 rfl) (fun x2 => ?_)
    refine r_icmp_ge (tgt := 22) (dt_Sprk_speedAlong.at 6 rfl) (by decide) ?_ ?_
    · refine r_iconst (dt_Sprk_speedAlong.at 12 rfl) 0 (by decide) ?_
      exact r_iret (dt_Sprk_speedAlong.at 13 rfl) rfl
    · refine r_aload_n (dt_Sprk_speedAlong.at 7 rfl) rfl ?_
      refine r_fR (dt_Sprk_speedAlong.at 8 rfl) fl_Sprk_15 rfl (fun b3 => ?_)
      refine r_iload_n (dt_Sprk_speedAlong.at 9 rfl) rfl ?_
      refine r_aI (dt_Sprk_speedAlong.at 10 rfl) (fun x4 => ?_)
      refine r_goto (tgt := 23) (dt_Sprk_speedAlong.at 11 rfl) (by decide) ?_
      exact r_iret (dt_Sprk_speedAlong.at 13 rfl) rfl
set_option maxRecDepth 20000 in
set_option maxHeartbeats 2000000 in
theorem ct_NS_spark {G : am_G} {l : Launch} (a0 : Nat) (p1 : Int32) (p2 : Int32) (M : am_M) : Ct G l y_NS_spark X_NS_spark [.ref a0, .int p1, .int p2] M (F_NS_spark a0 p1 p2 M) := by
  refine Ct.of (by decide +kernel) rfl rfl (Nat.le_of_ble_eq_true rfl) ?_
  unfold F_NS_spark
  show Rf G l X_NS_spark 0 [.ref a0, .int p1, .int p2, .retAddr 0] [] M _
  refine r_aload_n (dt_NS_spark.at 0 rfl) rfl ?_
  refine r_fR (dt_NS_spark.at 1 rfl) fl_NS_62 rfl (fun b1 => ?_)
  refine r_iload_n (dt_NS_spark.at 2 rfl) rfl ?_
  refine r_cvR (c := 0) (rest := []) (ct_Find_find b1 p1 _) (dt_NS_spark.at 3 rfl) mb_Find_find wd_639 wd_640 wd_641 rfl (by decide) rfl rfl (Nat.le_of_ble_eq_true rfl) (fun M2 => ?_) (fun b3 M2 => ?_)
  · refine r_astore_N (ls' := [.ref a0, .int p1, .int p2, .null]) (dt_NS_spark.at 4 rfl) (by decide) rfl ?_
    refine r_aload_N (dt_NS_spark.at 5 rfl) rfl ?_
    refine r_ifnonnullN (dt_NS_spark.at 6 rfl) ?_
    refine r_bipush (dt_NS_spark.at 7 rfl) (-99) (by decide) ?_
    exact r_iret (dt_NS_spark.at 8 rfl) rfl
  · refine r_astore_n (ls' := [.ref a0, .int p1, .int p2, .ref b3]) (dt_NS_spark.at 4 rfl) (by decide) rfl ?_
    refine r_aload_n (dt_NS_spark.at 5 rfl) rfl ?_
    refine r_ifnonnull (tgt := 16) (dt_NS_spark.at 6 rfl) (by decide) ?_
    refine r_iload_n (dt_NS_spark.at 9 rfl) rfl ?_
    refine Rf.ite (fun h0 => ?_) (fun h0 => ?_)
    · refine r_tsIn (tgt := 72) (dt_NS_spark.at 10 rfl) (by rw [h0]; decide) (by rw [h0]; decide) (by rw [h0]; rfl) (by decide) ?_
      refine r_aload_n (dt_NS_spark.at 11 rfl) rfl ?_
      refine r_fI (dt_NS_spark.at 12 rfl) fl_NS_180 rfl (fun x4 => ?_)
      exact r_iret (dt_NS_spark.at 13 rfl) rfl
    refine Rf.ite (fun h1 => ?_) (fun h1 => ?_)
    · refine r_tsIn (tgt := 77) (dt_NS_spark.at 10 rfl) (by rw [h1]; decide) (by rw [h1]; decide) (by rw [h1]; rfl) (by decide) ?_
      refine r_iload_n (dt_NS_spark.at 14 rfl) rfl ?_
      refine r_csI (rest := []) (ct_NS_sourceOf p1 _) (dt_NS_spark.at 15 rfl) mb_NS_sourceOf wd_700 wd_606 (by decide) rfl rfl (Nat.le_of_ble_eq_true rfl) (fun r6 M5 => ?_)
      exact r_iret (dt_NS_spark.at 16 rfl) rfl
    refine Rf.ite (fun h2 => ?_) (fun h2 => ?_)
    · refine r_tsIn (tgt := 82) (dt_NS_spark.at 10 rfl) (by rw [h2]; decide) (by rw [h2]; decide) (by rw [h2]; rfl) (by decide) ?_
      refine r_iload_n (dt_NS_spark.at 17 rfl) rfl ?_
      refine r_csI (rest := []) (ct_NS_numberOf p1 _) (dt_NS_spark.at 18 rfl) mb_NS_numberOf wd_701 wd_610 (by decide) rfl rfl (Nat.le_of_ble_eq_true rfl) (fun r8 M7 => ?_)
      exact r_iret (dt_NS_spark.at 19 rfl) rfl
    refine Rf.ite (fun h3 => ?_) (fun h3 => ?_)
    · refine r_tsIn (tgt := 87) (dt_NS_spark.at 10 rfl) (by rw [h3]; decide) (by rw [h3]; decide) (by rw [h3]; rfl) (by decide) ?_
      refine r_aload_n (dt_NS_spark.at 20 rfl) rfl ?_
      refine r_fI (dt_NS_spark.at 21 rfl) fl_NS_191 rfl (fun x9 => ?_)
      exact r_iret (dt_NS_spark.at 22 rfl) rfl
    refine Rf.ite (fun h4 => ?_) (fun h4 => ?_)
    · refine r_tsIn (tgt := 92) (dt_NS_spark.at 10 rfl) (by rw [h4]; decide) (by rw [h4]; decide) (by rw [h4]; rfl) (by decide) ?_
      refine r_aload_n (dt_NS_spark.at 23 rfl) rfl ?_
      refine r_fR (dt_NS_spark.at 24 rfl) fl_NS_16 rfl (fun b10 => ?_)
      refine r_iload_n (dt_NS_spark.at 25 rfl) rfl ?_
      refine r_cvI (c := 5) (rest := []) (ct_Scen_colourOf b10 p1 _) (dt_NS_spark.at 26 rfl) mb_Scen_colourOf wd_702 wd_703 wd_704 rfl (by decide) rfl rfl (Nat.le_of_ble_eq_true rfl) (fun r12 M11 => ?_)
      exact r_iret (dt_NS_spark.at 27 rfl) rfl
    refine Rf.ite (fun h5 => ?_) (fun h5 => ?_)
    · refine r_tsIn (tgt := 101) (dt_NS_spark.at 10 rfl) (by rw [h5]; decide) (by rw [h5]; decide) (by rw [h5]; rfl) (by decide) ?_
      refine r_aload_n (dt_NS_spark.at 28 rfl) rfl ?_
      refine r_fI (dt_NS_spark.at 29 rfl) fl_NS_197 rfl (fun x13 => ?_)
      exact r_iret (dt_NS_spark.at 30 rfl) rfl
    refine Rf.ite (fun h6 => ?_) (fun h6 => ?_)
    · refine r_tsIn (tgt := 106) (dt_NS_spark.at 10 rfl) (by rw [h6]; decide) (by rw [h6]; decide) (by rw [h6]; rfl) (by decide) ?_
      refine r_aload_n (dt_NS_spark.at 31 rfl) rfl ?_
      refine r_fI (dt_NS_spark.at 32 rfl) fl_NS_200 rfl (fun x14 => ?_)
      exact r_iret (dt_NS_spark.at 33 rfl) rfl
    refine Rf.ite (fun h7 => ?_) (fun h7 => ?_)
    · refine r_tsIn (tgt := 111) (dt_NS_spark.at 10 rfl) (by rw [h7]; decide) (by rw [h7]; decide) (by rw [h7]; rfl) (by decide) ?_
      refine r_aload_n (dt_NS_spark.at 34 rfl) rfl ?_
      refine r_iload_n (dt_NS_spark.at 35 rfl) rfl ?_
      refine r_bipush (dt_NS_spark.at 36 rfl) 7 (by decide) ?_
      refine r_isub (dt_NS_spark.at 37 rfl) ?_
      refine r_cvI (c := 6) (rest := []) (ct_Sprk_speedAlong b3 (p2 - 7) _) (dt_NS_spark.at 38 rfl) mb_Sprk_speedAlong wd_706 wd_707 wd_708 rfl (by decide) rfl rfl (Nat.le_of_ble_eq_true rfl) (fun r16 M15 => ?_)
      exact r_iret (dt_NS_spark.at 39 rfl) rfl
    refine Rf.ite (fun h8 => ?_) (fun h8 => ?_)
    · refine r_tsIn (tgt := 111) (dt_NS_spark.at 10 rfl) (by rw [h8]; decide) (by rw [h8]; decide) (by rw [h8]; rfl) (by decide) ?_
      refine r_aload_n (dt_NS_spark.at 34 rfl) rfl ?_
      refine r_iload_n (dt_NS_spark.at 35 rfl) rfl ?_
      refine r_bipush (dt_NS_spark.at 36 rfl) 7 (by decide) ?_
      refine r_isub (dt_NS_spark.at 37 rfl) ?_
      refine r_cvI (c := 6) (rest := []) (ct_Sprk_speedAlong b3 (p2 - 7) _) (dt_NS_spark.at 38 rfl) mb_Sprk_speedAlong wd_706 wd_707 wd_708 rfl (by decide) rfl rfl (Nat.le_of_ble_eq_true rfl) (fun r18 M17 => ?_)
      exact r_iret (dt_NS_spark.at 39 rfl) rfl
    refine Rf.ite (fun h9 => ?_) (fun h9 => ?_)
    · refine r_tsIn (tgt := 111) (dt_NS_spark.at 10 rfl) (by rw [h9]; decide) (by rw [h9]; decide) (by rw [h9]; rfl) (by decide) ?_
      refine r_aload_n (dt_NS_spark.at 34 rfl) rfl ?_
      refine r_iload_n (dt_NS_spark.at 35 rfl) rfl ?_
      refine r_bipush (dt_NS_spark.at 36 rfl) 7 (by decide) ?_
      refine r_isub (dt_NS_spark.at 37 rfl) ?_
      refine r_cvI (c := 6) (rest := []) (ct_Sprk_speedAlong b3 (p2 - 7) _) (dt_NS_spark.at 38 rfl) mb_Sprk_speedAlong wd_706 wd_707 wd_708 rfl (by decide) rfl rfl (Nat.le_of_ble_eq_true rfl) (fun r20 M19 => ?_)
      exact r_iret (dt_NS_spark.at 39 rfl) rfl
    refine r_tsOut (tgt := 120) (dt_NS_spark.at 10 rfl) (by have g0 := swn (k := 0) (v := 0) (by decide) h0; have g1 := swn (k := 1) (v := 1) (by decide) h1; have g2 := swn (k := 2) (v := 2) (by decide) h2; have g3 := swn (k := 3) (v := 3) (by decide) h3; have g4 := swn (k := 4) (v := 4) (by decide) h4; have g5 := swn (k := 5) (v := 5) (by decide) h5; have g6 := swn (k := 6) (v := 6) (by decide) h6; have g7 := swn (k := 7) (v := 7) (by decide) h7; have g8 := swn (k := 8) (v := 8) (by decide) h8; have g9 := swn (k := 9) (v := 9) (by decide) h9; omega) (by decide) ?_
    refine r_bipush (dt_NS_spark.at 40 rfl) (-99) (by decide) ?_
    exact r_iret (dt_NS_spark.at 41 rfl) rfl
set_option maxRecDepth 20000 in
set_option maxHeartbeats 2000000 in
theorem ct_NS_isTick {G : am_G} {l : Launch} (p1 : Int32) (M : am_M) : Ct G l y_NS_isTick X_NS_isTick [.int p1] M (F_NS_isTick p1 M) := by
  refine Ct.of (by decide +kernel) rfl rfl (Nat.le_of_ble_eq_true rfl) ?_
  unfold F_NS_isTick
  show Rf G l X_NS_isTick 0 [.int p1] [] M _
  refine r_iload_n (dt_NS_isTick.at 0 rfl) rfl ?_
  refine r_if_lt (tgt := 15) (dt_NS_isTick.at 1 rfl) (by decide) ?_ ?_
  · refine r_iconst (dt_NS_isTick.at 7 rfl) 0 (by decide) ?_
    exact r_zret (dt_NS_isTick.at 8 rfl) rfl rfl
  · refine r_iload_n (dt_NS_isTick.at 2 rfl) rfl ?_
    refine r_sipush (dt_NS_isTick.at 3 rfl) 30000 (by decide) ?_
    refine r_icmp_gt (tgt := 15) (dt_NS_isTick.at 4 rfl) (by decide) ?_ ?_
    · refine r_iconst (dt_NS_isTick.at 7 rfl) 0 (by decide) ?_
      exact r_zret (dt_NS_isTick.at 8 rfl) rfl rfl
    · refine r_iconst (dt_NS_isTick.at 5 rfl) 1 (by decide) ?_
      refine r_goto (tgt := 16) (dt_NS_isTick.at 6 rfl) (by decide) ?_
      exact r_zret (dt_NS_isTick.at 8 rfl) rfl rfl
set_option maxRecDepth 20000 in
set_option maxHeartbeats 2000000 in
theorem ct_NS_isAxis {G : am_G} {l : Launch} (p1 : Int32) (M : am_M) : Ct G l y_NS_isAxis X_NS_isAxis [.int p1] M (F_NS_isAxis p1 M) := by
  refine Ct.of (by decide +kernel) rfl rfl (Nat.le_of_ble_eq_true rfl) ?_
  unfold F_NS_isAxis
  show Rf G l X_NS_isAxis 0 [.int p1] [] M _
  refine r_iload_n (dt_NS_isAxis.at 0 rfl) rfl ?_
  refine r_if_lt (tgt := 13) (dt_NS_isAxis.at 1 rfl) (by decide) ?_ ?_
  · refine r_iconst (dt_NS_isAxis.at 7 rfl) 0 (by decide) ?_
    exact r_zret (dt_NS_isAxis.at 8 rfl) rfl rfl
  · refine r_iload_n (dt_NS_isAxis.at 2 rfl) rfl ?_
    refine r_iconst (dt_NS_isAxis.at 3 rfl) 2 (by decide) ?_
    refine r_icmp_gt (tgt := 13) (dt_NS_isAxis.at 4 rfl) (by decide) ?_ ?_
    · refine r_iconst (dt_NS_isAxis.at 7 rfl) 0 (by decide) ?_
      exact r_zret (dt_NS_isAxis.at 8 rfl) rfl rfl
    · refine r_iconst (dt_NS_isAxis.at 5 rfl) 1 (by decide) ?_
      refine r_goto (tgt := 14) (dt_NS_isAxis.at 6 rfl) (by decide) ?_
      exact r_zret (dt_NS_isAxis.at 8 rfl) rfl rfl
set_option maxRecDepth 20000 in
set_option maxHeartbeats 2000000 in
theorem ct_Sprk_isThere {G : am_G} {l : Launch} (a0 : Nat) (p1 : Int32) (M : am_M) : Ct G l y_Sprk_isThere X_Sprk_isThere [.ref a0, .int p1] M (F_Sprk_isThere a0 p1 M) := by
  refine Ct.of (by decide +kernel) rfl rfl (Nat.le_of_ble_eq_true rfl) ?_
  unfold F_Sprk_isThere
  show Rf G l X_Sprk_isThere 0 [.ref a0, .int p1] [] M _
  refine r_aload_n (dt_Sprk_isThere.at 0 rfl) rfl ?_
  refine r_fI (dt_Sprk_isThere.at 1 rfl) fl_Sprk_41 rfl (fun x1 => ?_)
  refine r_iload_n (dt_Sprk_isThere.at 2 rfl) rfl ?_
  refine r_icmp_gt (tgt := 20) (dt_Sprk_isThere.at 3 rfl) (by decide) ?_ ?_
  · refine r_iconst (dt_Sprk_isThere.at 10 rfl) 0 (by decide) ?_
    exact r_zret (dt_Sprk_isThere.at 11 rfl) rfl rfl
  · refine r_iload_n (dt_Sprk_isThere.at 4 rfl) rfl ?_
    refine r_aload_n (dt_Sprk_isThere.at 5 rfl) rfl ?_
    refine r_fI (dt_Sprk_isThere.at 6 rfl) fl_Sprk_51 rfl (fun x2 => ?_)
    refine r_icmp_ge (tgt := 20) (dt_Sprk_isThere.at 7 rfl) (by decide) ?_ ?_
    · refine r_iconst (dt_Sprk_isThere.at 10 rfl) 0 (by decide) ?_
      exact r_zret (dt_Sprk_isThere.at 11 rfl) rfl rfl
    · refine r_iconst (dt_Sprk_isThere.at 8 rfl) 1 (by decide) ?_
      refine r_goto (tgt := 21) (dt_Sprk_isThere.at 9 rfl) (by decide) ?_
      exact r_zret (dt_Sprk_isThere.at 11 rfl) rfl rfl
set_option maxRecDepth 20000 in
set_option maxHeartbeats 2000000 in
theorem ct_NS_place {G : am_G} {l : Launch} (a0 : Nat) (p1 : Int32) (p2 : Int32) (p3 : Int32) (M : am_M) : Ct G l y_NS_place X_NS_place [.ref a0, .int p1, .int p2, .int p3] M (F_NS_place a0 p1 p2 p3 M) := by
  refine Ct.of (by decide +kernel) rfl rfl (Nat.le_of_ble_eq_true rfl) ?_
  unfold F_NS_place
  show Rf G l X_NS_place 0 [.ref a0, .int p1, .int p2, .int p3, .retAddr 0] [] M _
  refine r_aload_n (dt_NS_place.at 0 rfl) rfl ?_
  refine r_fR (dt_NS_place.at 1 rfl) fl_NS_62 rfl (fun b1 => ?_)
  refine r_iload_n (dt_NS_place.at 2 rfl) rfl ?_
  refine r_cvR (c := 0) (rest := []) (ct_Find_find b1 p1 _) (dt_NS_place.at 3 rfl) mb_Find_find wd_639 wd_640 wd_641 rfl (by decide) rfl rfl (Nat.le_of_ble_eq_true rfl) (fun M2 => ?_) (fun b3 M2 => ?_)
  · refine r_astoreN (ls' := [.ref a0, .int p1, .int p2, .int p3, .null]) (dt_NS_place.at 4 rfl) (by decide) rfl ?_
    refine r_aloadN (dt_NS_place.at 5 rfl) rfl ?_
    refine r_ifnullN (tgt := 29) (dt_NS_place.at 6 rfl) (by decide) ?_
    refine r_bipush (dt_NS_place.at 13 rfl) (-2) (by decide) ?_
    exact r_iret (dt_NS_place.at 14 rfl) rfl
  · refine r_astore (ls' := [.ref a0, .int p1, .int p2, .int p3, .ref b3]) (dt_NS_place.at 4 rfl) (by decide) rfl ?_
    refine r_aload (dt_NS_place.at 5 rfl) rfl ?_
    refine r_ifnull (dt_NS_place.at 6 rfl) ?_
    refine r_iload_n (dt_NS_place.at 7 rfl) rfl ?_
    refine r_csI (rest := []) (ct_NS_isTick p2 _) (dt_NS_place.at 8 rfl) mb_NS_isTick wd_714 wd_715 (by decide) rfl rfl (Nat.le_of_ble_eq_true rfl) (fun r5 M4 => ?_)
    refine r_if_eq (tgt := 29) (dt_NS_place.at 9 rfl) (by decide) ?_ ?_
    · refine r_bipush (dt_NS_place.at 13 rfl) (-2) (by decide) ?_
      exact r_iret (dt_NS_place.at 14 rfl) rfl
    · refine r_iload_n (dt_NS_place.at 10 rfl) rfl ?_
      refine r_csI (rest := []) (ct_NS_isAxis p3 _) (dt_NS_place.at 11 rfl) mb_NS_isAxis wd_717 wd_718 (by decide) rfl rfl (Nat.le_of_ble_eq_true rfl) (fun r7 M6 => ?_)
      refine r_if_ne (tgt := 32) (dt_NS_place.at 12 rfl) (by decide) ?_ ?_
      · refine r_bipush (dt_NS_place.at 13 rfl) (-2) (by decide) ?_
        exact r_iret (dt_NS_place.at 14 rfl) rfl
      · refine r_aload (dt_NS_place.at 15 rfl) rfl ?_
        refine r_iload_n (dt_NS_place.at 16 rfl) rfl ?_
        refine r_cvI (c := 6) (rest := []) (ct_Sprk_isThere b3 p2 _) (dt_NS_place.at 17 rfl) mb_Sprk_isThere wd_720 wd_721 wd_722 rfl (by decide) rfl rfl (Nat.le_of_ble_eq_true rfl) (fun r9 M8 => ?_)
        refine r_if_eq (tgt := 57) (dt_NS_place.at 18 rfl) (by decide) ?_ ?_
        · refine r_iconst (dt_NS_place.at 27 rfl) (-1) (by decide) ?_
          exact r_iret (dt_NS_place.at 28 rfl) rfl
        · refine r_aload (dt_NS_place.at 19 rfl) rfl ?_
          refine r_iload_n (dt_NS_place.at 20 rfl) rfl ?_
          refine r_iload_n (dt_NS_place.at 21 rfl) rfl ?_
          refine r_aload (dt_NS_place.at 22 rfl) rfl ?_
          refine r_fI (dt_NS_place.at 23 rfl) fl_NS_197 rfl (fun x10 => ?_)
          refine r_isub (dt_NS_place.at 24 rfl) ?_
          refine r_cvI (c := 6) (rest := []) (ct_Sprk_placeAt b3 p3 (p2 - x10) _) (dt_NS_place.at 25 rfl) mb_Sprk_placeAt wd_724 wd_690 wd_691 rfl (by decide) rfl rfl (Nat.le_of_ble_eq_true rfl) (fun r12 M11 => ?_)
          refine r_goto (tgt := 58) (dt_NS_place.at 26 rfl) (by decide) ?_
          exact r_iret (dt_NS_place.at 28 rfl) rfl
set_option maxRecDepth 20000 in
set_option maxHeartbeats 2000000 in
theorem ct_NS_size {G : am_G} {l : Launch} (a0 : Nat) (p1 : Int32) (p2 : Int32) (M : am_M) : Ct G l y_NS_size X_NS_size [.ref a0, .int p1, .int p2] M (F_NS_size a0 p1 p2 M) := by
  refine Ct.of (by decide +kernel) rfl rfl (Nat.le_of_ble_eq_true rfl) ?_
  unfold F_NS_size
  show Rf G l X_NS_size 0 [.ref a0, .int p1, .int p2, .retAddr 0, .retAddr 0, .retAddr 0] [] M _
  refine r_aload_n (dt_NS_size.at 0 rfl) rfl ?_
  refine r_fR (dt_NS_size.at 1 rfl) fl_NS_62 rfl (fun b1 => ?_)
  refine r_iload_n (dt_NS_size.at 2 rfl) rfl ?_
  refine r_cvR (c := 0) (rest := []) (ct_Find_find b1 p1 _) (dt_NS_size.at 3 rfl) mb_Find_find wd_639 wd_640 wd_641 rfl (by decide) rfl rfl (Nat.le_of_ble_eq_true rfl) (fun M2 => ?_) (fun b3 M2 => ?_)
  · refine r_astore_N (ls' := [.ref a0, .int p1, .int p2, .null, .retAddr 0, .retAddr 0]) (dt_NS_size.at 4 rfl) (by decide) rfl ?_
    refine r_aload_N (dt_NS_size.at 5 rfl) rfl ?_
    refine r_ifnullN (tgt := 20) (dt_NS_size.at 6 rfl) (by decide) ?_
    refine r_bipush (dt_NS_size.at 10 rfl) (-2) (by decide) ?_
    exact r_iret (dt_NS_size.at 11 rfl) rfl
  · refine r_astore_n (ls' := [.ref a0, .int p1, .int p2, .ref b3, .retAddr 0, .retAddr 0]) (dt_NS_size.at 4 rfl) (by decide) rfl ?_
    refine r_aload_n (dt_NS_size.at 5 rfl) rfl ?_
    refine r_ifnull (dt_NS_size.at 6 rfl) ?_
    refine r_iload_n (dt_NS_size.at 7 rfl) rfl ?_
    refine r_csI (rest := []) (ct_NS_isTick p2 _) (dt_NS_size.at 8 rfl) mb_NS_isTick wd_714 wd_715 (by decide) rfl rfl (Nat.le_of_ble_eq_true rfl) (fun r5 M4 => ?_)
    refine r_if_ne (tgt := 23) (dt_NS_size.at 9 rfl) (by decide) ?_ ?_
    · refine r_bipush (dt_NS_size.at 10 rfl) (-2) (by decide) ?_
      exact r_iret (dt_NS_size.at 11 rfl) rfl
    · refine r_aload_n (dt_NS_size.at 12 rfl) rfl ?_
      refine r_iload_n (dt_NS_size.at 13 rfl) rfl ?_
      refine r_cvI (c := 6) (rest := []) (ct_Sprk_isThere b3 p2 _) (dt_NS_size.at 14 rfl) mb_Sprk_isThere wd_720 wd_721 wd_722 rfl (by decide) rfl rfl (Nat.le_of_ble_eq_true rfl) (fun r7 M6 => ?_)
      refine r_if_ne (tgt := 33) (dt_NS_size.at 15 rfl) (by decide) ?_ ?_
      · refine r_iconst (dt_NS_size.at 16 rfl) (-1) (by decide) ?_
        exact r_iret (dt_NS_size.at 17 rfl) rfl
      · refine r_iload_n (dt_NS_size.at 18 rfl) rfl ?_
        refine r_aload_n (dt_NS_size.at 19 rfl) rfl ?_
        refine r_fI (dt_NS_size.at 20 rfl) fl_NS_197 rfl (fun x8 => ?_)
        refine r_isub (dt_NS_size.at 21 rfl) ?_
        refine r_nmi (fun x9 => ?_)
        refine r_istore (ls' := [.ref a0, .int p1, .int p2, .ref b3, .int x9, .retAddr 0]) (dt_NS_size.at 22 rfl) (by decide) rfl ?_
        refine r_iconst (dt_NS_size.at 23 rfl) 1 (by decide) ?_
        refine r_aload_n (dt_NS_size.at 24 rfl) rfl ?_
        refine r_fI (dt_NS_size.at 25 rfl) fl_NS_200 rfl (fun x10 => ?_)
        refine r_aload_n (dt_NS_size.at 26 rfl) rfl ?_
        refine r_fI (dt_NS_size.at 27 rfl) fl_NS_197 rfl (fun x11 => ?_)
        refine r_isub (dt_NS_size.at 28 rfl) ?_
        refine r_csI (rest := []) (ct_Math_max 1 (x10 - x11) _) (dt_NS_size.at 29 rfl) mb_Math_max wd_729 wd_655 (by decide) rfl rfl (Nat.le_of_ble_eq_true rfl) (fun r13 M12 => ?_)
        refine r_istore (ls' := [.ref a0, .int p1, .int p2, .ref b3, .int x9, .int r13]) (dt_NS_size.at 30 rfl) (by decide) rfl ?_
        refine r_iconst (dt_NS_size.at 31 rfl) 1 (by decide) ?_
        refine r_aload_n (dt_NS_size.at 32 rfl) rfl ?_
        refine r_fR (dt_NS_size.at 33 rfl) fl_NS_16 rfl (fun b14 => ?_)
        refine r_aload_n (dt_NS_size.at 34 rfl) rfl ?_
        refine r_fI (dt_NS_size.at 35 rfl) fl_NS_180 rfl (fun x15 => ?_)
        refine r_iconst (dt_NS_size.at 36 rfl) 4 (by decide) ?_
        refine r_cvI (c := 5) (rest := [.int 1]) (ct_Scen_ofKind b14 x15 4 _) (dt_NS_size.at 37 rfl) mb_Scen_ofKind wd_542 wd_476 wd_477 rfl (by decide) rfl rfl (Nat.le_of_ble_eq_true rfl) (fun r17 M16 => ?_)
        refine r_iconst (dt_NS_size.at 38 rfl) 4 (by decide) ?_
        refine r_iload (dt_NS_size.at 39 rfl) rfl ?_
        refine r_imul (dt_NS_size.at 40 rfl) ?_
        refine r_iload (dt_NS_size.at 41 rfl) rfl ?_
        refine r_idiv (dt_NS_size.at 42 rfl) ?_
        refine r_isub (dt_NS_size.at 43 rfl) ?_
        refine r_csI (rest := []) (ct_Math_max 1 (r17 - ((4 * x9) / r13)) _) (dt_NS_size.at 44 rfl) mb_Math_max wd_729 wd_655 (by decide) rfl rfl (Nat.le_of_ble_eq_true rfl) (fun r19 M18 => ?_)
        exact r_iret (dt_NS_size.at 45 rfl) rfl
set_option maxRecDepth 20000 in
set_option maxHeartbeats 2000000 in
theorem ct_Math_floorDiv {G : am_G} {l : Launch} (p1 : Int32) (p2 : Int32) (M : am_M) : Ct G l y_Math_floorDiv X_Math_floorDiv [.int p1, .int p2] M (F_Math_floorDiv p1 p2 M) := by
  refine Ct.ofF (by decide +kernel) rfl rfl (Nat.le_of_ble_eq_true rfl) ?_
  unfold F_Math_floorDiv
  show Rf G l X_Math_floorDiv 0 [.int p1, .int p2, .retAddr 0] [] M _
  refine r_iload_n (dt_Math_floorDiv.at 0 rfl) rfl ?_
  refine r_iload_n (dt_Math_floorDiv.at 1 rfl) rfl ?_
  refine r_idiv (dt_Math_floorDiv.at 2 rfl) ?_
  refine r_nmi (fun x1 => ?_)
  refine r_istore_n (ls' := [.int p1, .int p2, .int x1]) (dt_Math_floorDiv.at 3 rfl) (by decide) rfl ?_
  refine r_iload_n (dt_Math_floorDiv.at 4 rfl) rfl ?_
  refine r_iload_n (dt_Math_floorDiv.at 5 rfl) rfl ?_
  refine r_ixor (dt_Math_floorDiv.at 6 rfl) ?_
  refine r_if_ge (tgt := 21) (dt_Math_floorDiv.at 7 rfl) (by decide) ?_ ?_
  · refine r_iload_n (dt_Math_floorDiv.at 17 rfl) rfl ?_
    exact r_iret (dt_Math_floorDiv.at 18 rfl) rfl
  · refine r_iload_n (dt_Math_floorDiv.at 8 rfl) rfl ?_
    refine r_iload_n (dt_Math_floorDiv.at 9 rfl) rfl ?_
    refine r_imul (dt_Math_floorDiv.at 10 rfl) ?_
    refine r_iload_n (dt_Math_floorDiv.at 11 rfl) rfl ?_
    refine r_icmp_eq (tgt := 21) (dt_Math_floorDiv.at 12 rfl) (by decide) ?_ ?_
    · refine r_iload_n (dt_Math_floorDiv.at 17 rfl) rfl ?_
      exact r_iret (dt_Math_floorDiv.at 18 rfl) rfl
    · refine r_iload_n (dt_Math_floorDiv.at 13 rfl) rfl ?_
      refine r_iconst (dt_Math_floorDiv.at 14 rfl) 1 (by decide) ?_
      refine r_isub (dt_Math_floorDiv.at 15 rfl) ?_
      exact r_iret (dt_Math_floorDiv.at 16 rfl) rfl
set_option maxRecDepth 20000 in
set_option maxHeartbeats 2000000 in
theorem ct_Math_abs {G : am_G} {l : Launch} (p1 : Int32) (M : am_M) : Ct G l y_Math_abs X_Math_abs [.int p1] M (F_Math_abs p1 M) := by
  refine Ct.ofF (by decide +kernel) rfl rfl (Nat.le_of_ble_eq_true rfl) ?_
  unfold F_Math_abs
  show Rf G l X_Math_abs 0 [.int p1] [] M _
  refine r_iload_n (dt_Math_abs.at 0 rfl) rfl ?_
  refine r_if_ge (tgt := 9) (dt_Math_abs.at 1 rfl) (by decide) ?_ ?_
  · refine r_iload_n (dt_Math_abs.at 5 rfl) rfl ?_
    exact r_iret (dt_Math_abs.at 6 rfl) rfl
  · refine r_iload_n (dt_Math_abs.at 2 rfl) rfl ?_
    refine r_ineg (dt_Math_abs.at 3 rfl) ?_
    refine r_goto (tgt := 10) (dt_Math_abs.at 4 rfl) (by decide) ?_
    exact r_iret (dt_Math_abs.at 6 rfl) rfl
set_option maxRecDepth 20000 in
set_option maxHeartbeats 2000000 in
theorem rf_Sprk_edgesAt_L4 {G : am_G} {l : Launch}   : ∀ (n : Nat) (v0 : Nat) (v1 : Int32) (v2 : Int32) (v3 : Int32) (M : am_M), Rf G l X_Sprk_edgesAt 4 [.ref v0, .int v1, .int v2, .int v3, .retAddr 0, .retAddr 0, .retAddr 0] [] M (F_Sprk_edgesAt_L4 n v0 v1 v2 v3 M) := by
  intro n
  induction n with
  | zero => intro v0 v1 v2 v3 M; exact Rf.no
  | succ n ih =>
    intro v0 v1 v2 v3 M
    unfold F_Sprk_edgesAt_L4
    refine r_iload_n (dt_Sprk_edgesAt.at 4 rfl) rfl ?_
    refine r_iconst (dt_Sprk_edgesAt.at 5 rfl) 3 (by decide) ?_
    refine r_icmp_ge (tgt := 79) (dt_Sprk_edgesAt.at 6 rfl) (by decide) ?_ ?_
    · refine r_iload_n (dt_Sprk_edgesAt.at 45 rfl) rfl ?_
      exact r_iret (dt_Sprk_edgesAt.at 46 rfl) rfl
    · refine r_aload_n (dt_Sprk_edgesAt.at 7 rfl) rfl ?_
      refine r_fI (dt_Sprk_edgesAt.at 8 rfl) fl_Sprk_63 rfl (fun x1 => ?_)
      refine r_iconst (dt_Sprk_edgesAt.at 9 rfl) 2 (by decide) ?_
      refine r_icmp_eq (tgt := 79) (dt_Sprk_edgesAt.at 10 rfl) (by decide) ?_ ?_
      · refine r_iload_n (dt_Sprk_edgesAt.at 45 rfl) rfl ?_
        exact r_iret (dt_Sprk_edgesAt.at 46 rfl) rfl
      · refine r_iconst (dt_Sprk_edgesAt.at 11 rfl) 1 (by decide) ?_
        refine r_aload_n (dt_Sprk_edgesAt.at 12 rfl) rfl ?_
        refine r_fR (dt_Sprk_edgesAt.at 13 rfl) fl_Sprk_18 rfl (fun b2 => ?_)
        refine r_iload_n (dt_Sprk_edgesAt.at 14 rfl) rfl ?_
        refine r_cvI (c := 5) (rest := [.int 1]) (ct_Scen_cellsAlong b2 v3 _) (dt_Sprk_edgesAt.at 15 rfl) mb_Scen_cellsAlong wd_681 wd_491 wd_492 rfl (by decide) rfl rfl (Nat.le_of_ble_eq_true rfl) (fun r4 M3 => ?_)
        refine r_bipush (dt_Sprk_edgesAt.at 16 rfl) 8 (by decide) ?_
        refine r_imul (dt_Sprk_edgesAt.at 17 rfl) ?_
        refine r_csI (rest := []) (ct_Math_max 1 (r4 * 8) _) (dt_Sprk_edgesAt.at 18 rfl) mb_Math_max wd_738 wd_655 (by decide) rfl rfl (Nat.le_of_ble_eq_true rfl) (fun r6 M5 => ?_)
        refine r_istore (ls' := [.ref v0, .int v1, .int v2, .int v3, .int r6, .retAddr 0, .retAddr 0]) (dt_Sprk_edgesAt.at 19 rfl) (by decide) rfl ?_
        refine r_aload_n (dt_Sprk_edgesAt.at 20 rfl) rfl ?_
        refine r_iload_n (dt_Sprk_edgesAt.at 21 rfl) rfl ?_
        refine r_iload_n (dt_Sprk_edgesAt.at 22 rfl) rfl ?_
        refine r_cvI (c := 6) (rest := []) (ct_Sprk_freePlace v0 v3 v1 _) (dt_Sprk_edgesAt.at 23 rfl) mb_Sprk_freePlace wd_693 wd_695 wp_17 rfl (by decide) rfl rfl (Nat.le_of_ble_eq_true rfl) (fun r8 M7 => ?_)
        refine r_iload (dt_Sprk_edgesAt.at 24 rfl) rfl ?_
        refine r_csI (rest := []) (ct_Math_floorDiv r8 r6 _) (dt_Sprk_edgesAt.at 25 rfl) mb_Math_floorDiv wd_739 wd_740 (by decide) rfl rfl (Nat.le_of_ble_eq_true rfl) (fun r10 M9 => ?_)
        refine r_istore (ls' := [.ref v0, .int v1, .int v2, .int v3, .int r6, .int r10, .retAddr 0]) (dt_Sprk_edgesAt.at 26 rfl) (by decide) rfl ?_
        refine r_aload_n (dt_Sprk_edgesAt.at 27 rfl) rfl ?_
        refine r_iload_n (dt_Sprk_edgesAt.at 28 rfl) rfl ?_
        refine r_iload_n (dt_Sprk_edgesAt.at 29 rfl) rfl ?_
        refine r_iconst (dt_Sprk_edgesAt.at 30 rfl) 1 (by decide) ?_
        refine r_isub (dt_Sprk_edgesAt.at 31 rfl) ?_
        refine r_cvI (c := 6) (rest := []) (ct_Sprk_freePlace v0 v3 (v1 - 1) _) (dt_Sprk_edgesAt.at 32 rfl) mb_Sprk_freePlace wd_693 wd_695 wp_17 rfl (by decide) rfl rfl (Nat.le_of_ble_eq_true rfl) (fun r12 M11 => ?_)
        refine r_iload (dt_Sprk_edgesAt.at 33 rfl) rfl ?_
        refine r_csI (rest := []) (ct_Math_floorDiv r12 r6 _) (dt_Sprk_edgesAt.at 34 rfl) mb_Math_floorDiv wd_739 wd_740 (by decide) rfl rfl (Nat.le_of_ble_eq_true rfl) (fun r14 M13 => ?_)
        refine r_istore (ls' := [.ref v0, .int v1, .int v2, .int v3, .int r6, .int r10, .int r14]) (dt_Sprk_edgesAt.at 35 rfl) (by decide) rfl ?_
        refine r_iload_n (dt_Sprk_edgesAt.at 36 rfl) rfl ?_
        refine r_iload (dt_Sprk_edgesAt.at 37 rfl) rfl ?_
        refine r_iload (dt_Sprk_edgesAt.at 38 rfl) rfl ?_
        refine r_isub (dt_Sprk_edgesAt.at 39 rfl) ?_
        refine r_csI (rest := [.int v2]) (ct_Math_abs (r10 - r14) _) (dt_Sprk_edgesAt.at 40 rfl) mb_Math_abs wd_742 wd_743 (by decide) rfl rfl (Nat.le_of_ble_eq_true rfl) (fun r16 M15 => ?_)
        refine r_iadd (dt_Sprk_edgesAt.at 41 rfl) ?_
        refine r_nmi (fun x17 => ?_)
        refine r_istore_n (ls' := [.ref v0, .int v1, .int x17, .int v3, .int r6, .int r10, .int r14]) (dt_Sprk_edgesAt.at 42 rfl) (by decide) rfl ?_
        refine r_iincn (v := 1) (dt_Sprk_edgesAt.at 43 rfl) (by decide) rfl (by decide) (fun y => [.ref v0, .int v1, .int x17, .int y, .int r6, .int r10, .int r14]) (fun _ => rfl) (fun x18 => ?_)
        refine r_goto (tgt := 4) (dt_Sprk_edgesAt.at 44 rfl) (by decide) ?_
        exact Rf.msk [true, true, true, true, false, false, false] (ih v0 v1 x17 x18 M15)
set_option maxRecDepth 20000 in
set_option maxHeartbeats 2000000 in
theorem ct_Sprk_edgesAt {G : am_G} {l : Launch} (a0 : Nat) (p1 : Int32) (M : am_M) : Ct G l y_Sprk_edgesAt X_Sprk_edgesAt [.ref a0, .int p1] M (F_Sprk_edgesAt a0 p1 M) := by
  refine Ct.of (by decide +kernel) rfl rfl (Nat.le_of_ble_eq_true rfl) ?_
  unfold F_Sprk_edgesAt
  show Rf G l X_Sprk_edgesAt 0 [.ref a0, .int p1, .retAddr 0, .retAddr 0, .retAddr 0, .retAddr 0, .retAddr 0] [] M _
  refine r_iconst (dt_Sprk_edgesAt.at 0 rfl) 0 (by decide) ?_
  refine r_istore_n (ls' := [.ref a0, .int p1, .int 0, .retAddr 0, .retAddr 0, .retAddr 0, .retAddr 0]) (dt_Sprk_edgesAt.at 1 rfl) (by decide) rfl ?_
  refine r_iconst (dt_Sprk_edgesAt.at 2 rfl) 0 (by decide) ?_
  refine r_istore_n (ls' := [.ref a0, .int p1, .int 0, .int 0, .retAddr 0, .retAddr 0, .retAddr 0]) (dt_Sprk_edgesAt.at 3 rfl) (by decide) rfl ?_
  exact Rf.msk [true, true, true, true, false, false, false] (rf_Sprk_edgesAt_L4 fu a0 p1 0 0 M)
set_option maxRecDepth 20000 in
set_option maxHeartbeats 2000000 in
theorem rf_NS_edges_L21 {G : am_G} {l : Launch}   : ∀ (n : Nat) (v2 : Nat) (v3 : Int32) (v4 : Int32) (M : am_M), Rf G l X_NS_edges 21 [.retAddr 0, .retAddr 0, .ref v2, .int v3, .int v4] [] M (F_NS_edges_L21 n v2 v3 v4 M) := by
  intro n
  induction n with
  | zero => intro v2 v3 v4 M; exact Rf.no
  | succ n ih =>
    intro v2 v3 v4 M
    unfold F_NS_edges_L21
    refine r_iload (dt_NS_edges.at 13 rfl) rfl ?_
    refine r_aload_n (dt_NS_edges.at 14 rfl) rfl ?_
    refine r_fI (dt_NS_edges.at 15 rfl) fl_NS_200 rfl (fun x4 => ?_)
    refine r_aload_n (dt_NS_edges.at 16 rfl) rfl ?_
    refine r_fI (dt_NS_edges.at 17 rfl) fl_NS_197 rfl (fun x5 => ?_)
    refine r_isub (dt_NS_edges.at 18 rfl) ?_
    refine r_icmp_ge (tgt := 50) (dt_NS_edges.at 19 rfl) (by decide) ?_ ?_
    · refine r_iload_n (dt_NS_edges.at 28 rfl) rfl ?_
      exact r_iret (dt_NS_edges.at 29 rfl) rfl
    · refine r_iload_n (dt_NS_edges.at 20 rfl) rfl ?_
      refine r_aload_n (dt_NS_edges.at 21 rfl) rfl ?_
      refine r_iload (dt_NS_edges.at 22 rfl) rfl ?_
      refine r_cvI (c := 6) (rest := [.int v3]) (ct_Sprk_edgesAt v2 v4 _) (dt_NS_edges.at 23 rfl) mb_Sprk_edgesAt wd_734 wd_735 wd_736 rfl (by decide) rfl rfl (Nat.le_of_ble_eq_true rfl) (fun r7 M6 => ?_)
      refine r_iadd (dt_NS_edges.at 24 rfl) ?_
      refine r_nmi (fun x8 => ?_)
      refine r_istore_n (ls' := [.retAddr 0, .retAddr 0, .ref v2, .int x8, .int v4]) (dt_NS_edges.at 25 rfl) (by decide) rfl ?_
      refine r_iincn (v := 1) (dt_NS_edges.at 26 rfl) (by decide) rfl (by decide) (fun y => [.retAddr 0, .retAddr 0, .ref v2, .int x8, .int y]) (fun _ => rfl) (fun x9 => ?_)
      refine r_goto (tgt := 21) (dt_NS_edges.at 27 rfl) (by decide) ?_
      exact Rf.msk [false, false, true, true, true] (ih v2 x8 x9 M6)
set_option maxRecDepth 20000 in
set_option maxHeartbeats 2000000 in
theorem ct_NS_edges {G : am_G} {l : Launch} (a0 : Nat) (p1 : Int32) (M : am_M) : Ct G l y_NS_edges X_NS_edges [.ref a0, .int p1] M (F_NS_edges a0 p1 M) := by
  refine Ct.of (by decide +kernel) rfl rfl (Nat.le_of_ble_eq_true rfl) ?_
  unfold F_NS_edges
  show Rf G l X_NS_edges 0 [.ref a0, .int p1, .retAddr 0, .retAddr 0, .retAddr 0] [] M _
  refine r_aload_n (dt_NS_edges.at 0 rfl) rfl ?_
  refine r_fR (dt_NS_edges.at 1 rfl) fl_NS_62 rfl (fun b1 => ?_)
  refine r_iload_n (dt_NS_edges.at 2 rfl) rfl ?_
  refine r_cvR (c := 0) (rest := []) (ct_Find_find b1 p1 _) (dt_NS_edges.at 3 rfl) mb_Find_find wd_639 wd_640 wd_641 rfl (by decide) rfl rfl (Nat.le_of_ble_eq_true rfl) (fun M2 => ?_) (fun b3 M2 => ?_)
  · refine r_astore_N (ls' := [.ref a0, .int p1, .null, .retAddr 0, .retAddr 0]) (dt_NS_edges.at 4 rfl) (by decide) rfl ?_
    refine r_aload_N (dt_NS_edges.at 5 rfl) rfl ?_
    refine r_ifnonnullN (dt_NS_edges.at 6 rfl) ?_
    refine r_bipush (dt_NS_edges.at 7 rfl) (-2) (by decide) ?_
    exact r_iret (dt_NS_edges.at 8 rfl) rfl
  · refine r_astore_n (ls' := [.ref a0, .int p1, .ref b3, .retAddr 0, .retAddr 0]) (dt_NS_edges.at 4 rfl) (by decide) rfl ?_
    refine r_aload_n (dt_NS_edges.at 5 rfl) rfl ?_
    refine r_ifnonnull (tgt := 16) (dt_NS_edges.at 6 rfl) (by decide) ?_
    refine r_iconst (dt_NS_edges.at 9 rfl) 0 (by decide) ?_
    refine r_istore_n (ls' := [.ref a0, .int p1, .ref b3, .int 0, .retAddr 0]) (dt_NS_edges.at 10 rfl) (by decide) rfl ?_
    refine r_iconst (dt_NS_edges.at 11 rfl) 1 (by decide) ?_
    refine r_istore (ls' := [.ref a0, .int p1, .ref b3, .int 0, .int 1]) (dt_NS_edges.at 12 rfl) (by decide) rfl ?_
    exact Rf.msk [false, false, true, true, true] (rf_NS_edges_L21 fu b3 0 1 M2)
set_option maxRecDepth 20000 in
set_option maxHeartbeats 2000000 in
theorem rf_NS_over_L18 {G : am_G} {l : Launch}   : ∀ (n : Nat) (v2 : Nat) (v3 : Int32) (M : am_M), Rf G l X_NS_over 18 [.retAddr 0, .retAddr 0, .ref v2, .int v3] [] M (F_NS_over_L18 n v2 v3 M) := by
  intro n
  induction n with
  | zero => intro v2 v3 M; exact Rf.no
  | succ n ih =>
    intro v2 v3 M
    unfold F_NS_over_L18
    refine r_iload_n (dt_NS_over.at 11 rfl) rfl ?_
    refine r_aload_n (dt_NS_over.at 12 rfl) rfl ?_
    refine r_fI (dt_NS_over.at 13 rfl) fl_NS_200 rfl (fun x4 => ?_)
    refine r_aload_n (dt_NS_over.at 14 rfl) rfl ?_
    refine r_fI (dt_NS_over.at 15 rfl) fl_NS_197 rfl (fun x5 => ?_)
    refine r_isub (dt_NS_over.at 16 rfl) ?_
    refine r_icmp_ge (tgt := 52) (dt_NS_over.at 17 rfl) (by decide) ?_ ?_
    · refine r_iconst (dt_NS_over.at 29 rfl) (-1) (by decide) ?_
      exact r_iret (dt_NS_over.at 30 rfl) rfl
    · refine r_aload_n (dt_NS_over.at 18 rfl) rfl ?_
      refine r_iload_n (dt_NS_over.at 19 rfl) rfl ?_
      refine r_cvI (c := 6) (rest := []) (ct_Sprk_edgesAt v2 v3 _) (dt_NS_over.at 20 rfl) mb_Sprk_edgesAt wd_734 wd_735 wd_736 rfl (by decide) rfl rfl (Nat.le_of_ble_eq_true rfl) (fun r7 M6 => ?_)
      refine r_if_le (tgt := 46) (dt_NS_over.at 21 rfl) (by decide) ?_ ?_
      · refine r_iincn (v := 1) (dt_NS_over.at 27 rfl) (by decide) rfl (by decide) (fun y => [.retAddr 0, .retAddr 0, .ref v2, .int y]) (fun _ => rfl) (fun x8 => ?_)
        refine r_goto (tgt := 18) (dt_NS_over.at 28 rfl) (by decide) ?_
        exact Rf.msk [false, false, true, true] (ih v2 x8 M6)
      · refine r_aload_n (dt_NS_over.at 22 rfl) rfl ?_
        refine r_fI (dt_NS_over.at 23 rfl) fl_NS_197 rfl (fun x9 => ?_)
        refine r_iload_n (dt_NS_over.at 24 rfl) rfl ?_
        refine r_iadd (dt_NS_over.at 25 rfl) ?_
        exact r_iret (dt_NS_over.at 26 rfl) rfl
set_option maxRecDepth 20000 in
set_option maxHeartbeats 2000000 in
theorem ct_NS_over {G : am_G} {l : Launch} (a0 : Nat) (p1 : Int32) (M : am_M) : Ct G l y_NS_over X_NS_over [.ref a0, .int p1] M (F_NS_over a0 p1 M) := by
  refine Ct.of (by decide +kernel) rfl rfl (Nat.le_of_ble_eq_true rfl) ?_
  unfold F_NS_over
  show Rf G l X_NS_over 0 [.ref a0, .int p1, .retAddr 0, .retAddr 0] [] M _
  refine r_aload_n (dt_NS_over.at 0 rfl) rfl ?_
  refine r_fR (dt_NS_over.at 1 rfl) fl_NS_62 rfl (fun b1 => ?_)
  refine r_iload_n (dt_NS_over.at 2 rfl) rfl ?_
  refine r_cvR (c := 0) (rest := []) (ct_Find_find b1 p1 _) (dt_NS_over.at 3 rfl) mb_Find_find wd_639 wd_640 wd_641 rfl (by decide) rfl rfl (Nat.le_of_ble_eq_true rfl) (fun M2 => ?_) (fun b3 M2 => ?_)
  · refine r_astore_N (ls' := [.ref a0, .int p1, .null, .retAddr 0]) (dt_NS_over.at 4 rfl) (by decide) rfl ?_
    refine r_aload_N (dt_NS_over.at 5 rfl) rfl ?_
    refine r_ifnonnullN (dt_NS_over.at 6 rfl) ?_
    refine r_bipush (dt_NS_over.at 7 rfl) (-2) (by decide) ?_
    exact r_iret (dt_NS_over.at 8 rfl) rfl
  · refine r_astore_n (ls' := [.ref a0, .int p1, .ref b3, .retAddr 0]) (dt_NS_over.at 4 rfl) (by decide) rfl ?_
    refine r_aload_n (dt_NS_over.at 5 rfl) rfl ?_
    refine r_ifnonnull (tgt := 16) (dt_NS_over.at 6 rfl) (by decide) ?_
    refine r_iconst (dt_NS_over.at 9 rfl) 1 (by decide) ?_
    refine r_istore_n (ls' := [.ref a0, .int p1, .ref b3, .int 1]) (dt_NS_over.at 10 rfl) (by decide) rfl ?_
    exact Rf.msk [false, false, true, true] (rf_NS_over_L18 fu b3 1 M2)
set_option maxRecDepth 20000 in
set_option maxHeartbeats 2000000 in
theorem rf_NS_reach_L46 {G : am_G} {l : Launch}   : ∀ (n : Nat) (v2 : Int32) (v3 : Int32) (v4 : Nat) (v5 : Int32) (v6 : Int32) (M : am_M), Rf G l X_NS_reach 46 [.retAddr 0, .retAddr 0, .int v2, .int v3, .ref v4, .int v5, .int v6, .retAddr 0] [] M (F_NS_reach_L46 n v2 v3 v4 v5 v6 M) := by
  intro n
  induction n with
  | zero => intro v2 v3 v4 v5 v6 M; exact Rf.no
  | succ n ih =>
    intro v2 v3 v4 v5 v6 M
    unfold F_NS_reach_L46
    refine r_iload (dt_NS_reach.at 24 rfl) rfl ?_
    refine r_aload (dt_NS_reach.at 25 rfl) rfl ?_
    refine r_fI (dt_NS_reach.at 26 rfl) fl_NS_200 rfl (fun x8 => ?_)
    refine r_aload (dt_NS_reach.at 27 rfl) rfl ?_
    refine r_fI (dt_NS_reach.at 28 rfl) fl_NS_197 rfl (fun x9 => ?_)
    refine r_isub (dt_NS_reach.at 29 rfl) ?_
    refine r_icmp_ge (tgt := 101) (dt_NS_reach.at 30 rfl) (by decide) ?_ ?_
    · refine r_iload (dt_NS_reach.at 48 rfl) rfl ?_
      exact r_iret (dt_NS_reach.at 49 rfl) rfl
    · refine r_aload (dt_NS_reach.at 31 rfl) rfl ?_
      refine r_iload_n (dt_NS_reach.at 32 rfl) rfl ?_
      refine r_iload (dt_NS_reach.at 33 rfl) rfl ?_
      refine r_cvI (c := 6) (rest := []) (ct_Sprk_placeAt v4 v2 v6 _) (dt_NS_reach.at 34 rfl) mb_Sprk_placeAt wd_724 wd_690 wd_691 rfl (by decide) rfl rfl (Nat.le_of_ble_eq_true rfl) (fun r11 M10 => ?_)
      refine r_istore (ls' := [.retAddr 0, .retAddr 0, .int v2, .int v3, .ref v4, .int v5, .int v6, .int r11]) (dt_NS_reach.at 35 rfl) (by decide) rfl ?_
      refine r_iload_n (dt_NS_reach.at 36 rfl) rfl ?_
      refine r_if_ne (tgt := 86) (dt_NS_reach.at 37 rfl) (by decide) ?_ ?_
      · refine r_iload (dt_NS_reach.at 38 rfl) rfl ?_
        refine r_iload (dt_NS_reach.at 39 rfl) rfl ?_
        refine r_csI (rest := []) (ct_Math_min v5 r11 _) (dt_NS_reach.at 40 rfl) mb_Math_min wd_753 wd_334 (by decide) rfl rfl (Nat.le_of_ble_eq_true rfl) (fun r13 M12 => ?_)
        refine r_goto (tgt := 93) (dt_NS_reach.at 41 rfl) (by decide) ?_
        refine r_istore (ls' := [.retAddr 0, .retAddr 0, .int v2, .int v3, .ref v4, .int r13, .int v6, .int r11]) (dt_NS_reach.at 45 rfl) (by decide) rfl ?_
        refine r_iincn (v := 1) (dt_NS_reach.at 46 rfl) (by decide) rfl (by decide) (fun y => [.retAddr 0, .retAddr 0, .int v2, .int v3, .ref v4, .int r13, .int y, .int r11]) (fun _ => rfl) (fun x14 => ?_)
        refine r_goto (tgt := 46) (dt_NS_reach.at 47 rfl) (by decide) ?_
        exact Rf.msk [false, false, true, true, true, true, true, false] (ih v2 v3 v4 r13 x14 M12)
      · refine r_iload (dt_NS_reach.at 42 rfl) rfl ?_
        refine r_iload (dt_NS_reach.at 43 rfl) rfl ?_
        refine r_csI (rest := []) (ct_Math_max v5 r11 _) (dt_NS_reach.at 44 rfl) mb_Math_max wd_729 wd_655 (by decide) rfl rfl (Nat.le_of_ble_eq_true rfl) (fun r16 M15 => ?_)
        refine r_istore (ls' := [.retAddr 0, .retAddr 0, .int v2, .int v3, .ref v4, .int r16, .int v6, .int r11]) (dt_NS_reach.at 45 rfl) (by decide) rfl ?_
        refine r_iincn (v := 1) (dt_NS_reach.at 46 rfl) (by decide) rfl (by decide) (fun y => [.retAddr 0, .retAddr 0, .int v2, .int v3, .ref v4, .int r16, .int y, .int r11]) (fun _ => rfl) (fun x17 => ?_)
        refine r_goto (tgt := 46) (dt_NS_reach.at 47 rfl) (by decide) ?_
        exact Rf.msk [false, false, true, true, true, true, true, false] (ih v2 v3 v4 r16 x17 M15)
set_option maxRecDepth 20000 in
set_option maxHeartbeats 2000000 in
theorem ct_NS_reach {G : am_G} {l : Launch} (a0 : Nat) (p1 : Int32) (p2 : Int32) (p3 : Int32) (M : am_M) : Ct G l y_NS_reach X_NS_reach [.ref a0, .int p1, .int p2, .int p3] M (F_NS_reach a0 p1 p2 p3 M) := by
  refine Ct.of (by decide +kernel) rfl rfl (Nat.le_of_ble_eq_true rfl) ?_
  unfold F_NS_reach
  show Rf G l X_NS_reach 0 [.ref a0, .int p1, .int p2, .int p3, .retAddr 0, .retAddr 0, .retAddr 0, .retAddr 0] [] M _
  refine r_aload_n (dt_NS_reach.at 0 rfl) rfl ?_
  refine r_fR (dt_NS_reach.at 1 rfl) fl_NS_62 rfl (fun b1 => ?_)
  refine r_iload_n (dt_NS_reach.at 2 rfl) rfl ?_
  refine r_cvR (c := 0) (rest := []) (ct_Find_find b1 p1 _) (dt_NS_reach.at 3 rfl) mb_Find_find wd_639 wd_640 wd_641 rfl (by decide) rfl rfl (Nat.le_of_ble_eq_true rfl) (fun M2 => ?_) (fun b3 M2 => ?_)
  · refine r_astoreN (ls' := [.ref a0, .int p1, .int p2, .int p3, .null, .retAddr 0, .retAddr 0, .retAddr 0]) (dt_NS_reach.at 4 rfl) (by decide) rfl ?_
    refine r_aloadN (dt_NS_reach.at 5 rfl) rfl ?_
    refine r_ifnullN (tgt := 31) (dt_NS_reach.at 6 rfl) (by decide) ?_
    refine r_bipush (dt_NS_reach.at 15 rfl) (-2) (by decide) ?_
    exact r_iret (dt_NS_reach.at 16 rfl) rfl
  · refine r_astore (ls' := [.ref a0, .int p1, .int p2, .int p3, .ref b3, .retAddr 0, .retAddr 0, .retAddr 0]) (dt_NS_reach.at 4 rfl) (by decide) rfl ?_
    refine r_aload (dt_NS_reach.at 5 rfl) rfl ?_
    refine r_ifnull (dt_NS_reach.at 6 rfl) ?_
    refine r_iload_n (dt_NS_reach.at 7 rfl) rfl ?_
    refine r_csI (rest := []) (ct_NS_isAxis p2 _) (dt_NS_reach.at 8 rfl) mb_NS_isAxis wd_717 wd_718 (by decide) rfl rfl (Nat.le_of_ble_eq_true rfl) (fun r5 M4 => ?_)
    refine r_if_eq (tgt := 31) (dt_NS_reach.at 9 rfl) (by decide) ?_ ?_
    · refine r_bipush (dt_NS_reach.at 15 rfl) (-2) (by decide) ?_
      exact r_iret (dt_NS_reach.at 16 rfl) rfl
    · refine r_iload_n (dt_NS_reach.at 10 rfl) rfl ?_
      refine r_if_lt (tgt := 31) (dt_NS_reach.at 11 rfl) (by decide) ?_ ?_
      · refine r_bipush (dt_NS_reach.at 15 rfl) (-2) (by decide) ?_
        exact r_iret (dt_NS_reach.at 16 rfl) rfl
      · refine r_iload_n (dt_NS_reach.at 12 rfl) rfl ?_
        refine r_iconst (dt_NS_reach.at 13 rfl) 1 (by decide) ?_
        refine r_icmp_le (tgt := 34) (dt_NS_reach.at 14 rfl) (by decide) ?_ ?_
        · refine r_aload (dt_NS_reach.at 17 rfl) rfl ?_
          refine r_iload_n (dt_NS_reach.at 18 rfl) rfl ?_
          refine r_iconst (dt_NS_reach.at 19 rfl) 0 (by decide) ?_
          refine r_cvI (c := 6) (rest := []) (ct_Sprk_placeAt b3 p2 0 _) (dt_NS_reach.at 20 rfl) mb_Sprk_placeAt wd_724 wd_690 wd_691 rfl (by decide) rfl rfl (Nat.le_of_ble_eq_true rfl) (fun r7 M6 => ?_)
          refine r_istore (ls' := [.ref a0, .int p1, .int p2, .int p3, .ref b3, .int r7, .retAddr 0, .retAddr 0]) (dt_NS_reach.at 21 rfl) (by decide) rfl ?_
          refine r_iconst (dt_NS_reach.at 22 rfl) 1 (by decide) ?_
          refine r_istore (ls' := [.ref a0, .int p1, .int p2, .int p3, .ref b3, .int r7, .int 1, .retAddr 0]) (dt_NS_reach.at 23 rfl) (by decide) rfl ?_
          exact Rf.msk [false, false, true, true, true, true, true, false] (rf_NS_reach_L46 fu p2 p3 b3 r7 1 M6)
        · refine r_bipush (dt_NS_reach.at 15 rfl) (-2) (by decide) ?_
          exact r_iret (dt_NS_reach.at 16 rfl) rfl
set_option maxRecDepth 20000 in
set_option maxHeartbeats 2000000 in
theorem ct_Sprk_cellAt {G : am_G} {l : Launch} (a0 : Nat) (p1 : Int32) (M : am_M) : Ct G l y_Sprk_cellAt X_Sprk_cellAt [.ref a0, .int p1] M (F_Sprk_cellAt a0 p1 M) := by
  refine Ct.of (by decide +kernel) rfl rfl (Nat.le_of_ble_eq_true rfl) ?_
  unfold F_Sprk_cellAt
  show Rf G l X_Sprk_cellAt 0 [.ref a0, .int p1, .retAddr 0, .retAddr 0, .retAddr 0] [] M _
  refine r_aload_n (dt_Sprk_cellAt.at 0 rfl) rfl ?_
  refine r_iconst (dt_Sprk_cellAt.at 1 rfl) 0 (by decide) ?_
  refine r_iload_n (dt_Sprk_cellAt.at 2 rfl) rfl ?_
  refine r_cvI (c := 6) (rest := []) (ct_Sprk_placeAt a0 0 p1 _) (dt_Sprk_cellAt.at 3 rfl) mb_Sprk_placeAt wd_689 wd_690 wd_691 rfl (by decide) rfl rfl (Nat.le_of_ble_eq_true rfl) (fun r2 M1 => ?_)
  refine r_bipush (dt_Sprk_cellAt.at 4 rfl) 8 (by decide) ?_
  refine r_idivk (dt_Sprk_cellAt.at 5 rfl) (by decide) ?_
  refine r_nmi (fun x3 => ?_)
  refine r_istore_n (ls' := [.ref a0, .int p1, .int x3, .retAddr 0, .retAddr 0]) (dt_Sprk_cellAt.at 6 rfl) (by decide) rfl ?_
  refine r_aload_n (dt_Sprk_cellAt.at 7 rfl) rfl ?_
  refine r_iconst (dt_Sprk_cellAt.at 8 rfl) 1 (by decide) ?_
  refine r_iload_n (dt_Sprk_cellAt.at 9 rfl) rfl ?_
  refine r_cvI (c := 6) (rest := []) (ct_Sprk_placeAt a0 1 p1 _) (dt_Sprk_cellAt.at 10 rfl) mb_Sprk_placeAt wd_689 wd_690 wd_691 rfl (by decide) rfl rfl (Nat.le_of_ble_eq_true rfl) (fun r5 M4 => ?_)
  refine r_bipush (dt_Sprk_cellAt.at 11 rfl) 8 (by decide) ?_
  refine r_idivk (dt_Sprk_cellAt.at 12 rfl) (by decide) ?_
  refine r_nmi (fun x6 => ?_)
  refine r_istore_n (ls' := [.ref a0, .int p1, .int x3, .int x6, .retAddr 0]) (dt_Sprk_cellAt.at 13 rfl) (by decide) rfl ?_
  refine r_aload_n (dt_Sprk_cellAt.at 14 rfl) rfl ?_
  refine r_iconst (dt_Sprk_cellAt.at 15 rfl) 2 (by decide) ?_
  refine r_iload_n (dt_Sprk_cellAt.at 16 rfl) rfl ?_
  refine r_cvI (c := 6) (rest := []) (ct_Sprk_placeAt a0 2 p1 _) (dt_Sprk_cellAt.at 17 rfl) mb_Sprk_placeAt wd_689 wd_690 wd_691 rfl (by decide) rfl rfl (Nat.le_of_ble_eq_true rfl) (fun r8 M7 => ?_)
  refine r_bipush (dt_Sprk_cellAt.at 18 rfl) 8 (by decide) ?_
  refine r_idivk (dt_Sprk_cellAt.at 19 rfl) (by decide) ?_
  refine r_nmi (fun x9 => ?_)
  refine r_istore (ls' := [.ref a0, .int p1, .int x3, .int x6, .int x9]) (dt_Sprk_cellAt.at 20 rfl) (by decide) rfl ?_
  refine r_iload (dt_Sprk_cellAt.at 21 rfl) rfl ?_
  refine r_bipush (dt_Sprk_cellAt.at 22 rfl) 40 (by decide) ?_
  refine r_imul (dt_Sprk_cellAt.at 23 rfl) ?_
  refine r_iload_n (dt_Sprk_cellAt.at 24 rfl) rfl ?_
  refine r_iadd (dt_Sprk_cellAt.at 25 rfl) ?_
  refine r_bipush (dt_Sprk_cellAt.at 26 rfl) 40 (by decide) ?_
  refine r_imul (dt_Sprk_cellAt.at 27 rfl) ?_
  refine r_iload_n (dt_Sprk_cellAt.at 28 rfl) rfl ?_
  refine r_iadd (dt_Sprk_cellAt.at 29 rfl) ?_
  exact r_iret (dt_Sprk_cellAt.at 30 rfl) rfl
set_option maxRecDepth 20000 in
set_option maxHeartbeats 2000000 in
theorem rf_NS_isAmong_L2 {G : am_G} {l : Launch}   : ∀ (n : Nat) (v0 : Nat) (v1 : Int32) (v2 : Int32) (v3 : Int32) (M : am_M), Rf G l X_NS_isAmong 2 [.ref v0, .int v1, .int v2, .int v3] [] M (F_NS_isAmong_L2 n v0 v1 v2 v3 M) := by
  intro n
  induction n with
  | zero => intro v0 v1 v2 v3 M; exact Rf.no
  | succ n ih =>
    intro v0 v1 v2 v3 M
    unfold F_NS_isAmong_L2
    refine r_iload_n (dt_NS_isAmong.at 2 rfl) rfl ?_
    refine r_iload_n (dt_NS_isAmong.at 3 rfl) rfl ?_
    refine r_icmp_ge (tgt := 34) (dt_NS_isAmong.at 4 rfl) (by decide) ?_ ?_
    · refine r_iconst (dt_NS_isAmong.at 20 rfl) 0 (by decide) ?_
      exact r_zret (dt_NS_isAmong.at 21 rfl) rfl rfl
    · refine r_iload_n (dt_NS_isAmong.at 5 rfl) rfl ?_
      refine r_aload_n (dt_NS_isAmong.at 6 rfl) rfl ?_
      refine r_fR (dt_NS_isAmong.at 7 rfl) fl_NS_69 rfl (fun b1 => ?_)
      refine r_aN (dt_NS_isAmong.at 8 rfl) (fun x2 => ?_)
      refine r_icmp_ge (tgt := 34) (dt_NS_isAmong.at 9 rfl) (by decide) ?_ ?_
      · refine r_iconst (dt_NS_isAmong.at 20 rfl) 0 (by decide) ?_
        exact r_zret (dt_NS_isAmong.at 21 rfl) rfl rfl
      · refine r_aload_n (dt_NS_isAmong.at 10 rfl) rfl ?_
        refine r_fR (dt_NS_isAmong.at 11 rfl) fl_NS_69 rfl (fun b3 => ?_)
        refine r_iload_n (dt_NS_isAmong.at 12 rfl) rfl ?_
        refine r_aI (dt_NS_isAmong.at 13 rfl) (fun x4 => ?_)
        refine r_iload_n (dt_NS_isAmong.at 14 rfl) rfl ?_
        refine r_icmp_ne (tgt := 28) (dt_NS_isAmong.at 15 rfl) (by decide) ?_ ?_
        · refine r_iconst (dt_NS_isAmong.at 16 rfl) 1 (by decide) ?_
          exact r_zret (dt_NS_isAmong.at 17 rfl) rfl rfl
        · refine r_iincn (v := 1) (dt_NS_isAmong.at 18 rfl) (by decide) rfl (by decide) (fun y => [.ref v0, .int v1, .int v2, .int y]) (fun _ => rfl) (fun x5 => ?_)
          refine r_goto (tgt := 2) (dt_NS_isAmong.at 19 rfl) (by decide) ?_
          exact Rf.msk [true, true, true, true] (ih v0 v1 v2 x5 M)
set_option maxRecDepth 20000 in
set_option maxHeartbeats 2000000 in
theorem ct_NS_isAmong {G : am_G} {l : Launch} (a0 : Nat) (p1 : Int32) (p2 : Int32) (M : am_M) : Ct G l y_NS_isAmong X_NS_isAmong [.ref a0, .int p1, .int p2] M (F_NS_isAmong a0 p1 p2 M) := by
  refine Ct.of (by decide +kernel) rfl rfl (Nat.le_of_ble_eq_true rfl) ?_
  unfold F_NS_isAmong
  show Rf G l X_NS_isAmong 0 [.ref a0, .int p1, .int p2, .retAddr 0] [] M _
  refine r_iconst (dt_NS_isAmong.at 0 rfl) 0 (by decide) ?_
  refine r_istore_n (ls' := [.ref a0, .int p1, .int p2, .int 0]) (dt_NS_isAmong.at 1 rfl) (by decide) rfl ?_
  exact Rf.msk [true, true, true, true] (rf_NS_isAmong_L2 fu a0 p1 p2 0 M)
set_option maxRecDepth 20000 in
set_option maxHeartbeats 2000000 in
theorem rf_NS_cellsOf_L21 {G : am_G} {l : Launch}   : ∀ (n : Nat) (v0 : Nat) (v2 : Nat) (v3 : Int32) (v4 : Int32) (M : am_M), Rf G l X_NS_cellsOf 21 [.ref v0, .retAddr 0, .ref v2, .int v3, .int v4, .retAddr 0] [] M (F_NS_cellsOf_L21 n v0 v2 v3 v4 M) := by
  intro n
  induction n with
  | zero => intro v0 v2 v3 v4 M; exact Rf.no
  | succ n ih =>
    intro v0 v2 v3 v4 M
    unfold F_NS_cellsOf_L21
    refine r_iload (dt_NS_cellsOf.at 13 rfl) rfl ?_
    refine r_aload_n (dt_NS_cellsOf.at 14 rfl) rfl ?_
    refine r_fI (dt_NS_cellsOf.at 15 rfl) fl_NS_200 rfl (fun x4 => ?_)
    refine r_aload_n (dt_NS_cellsOf.at 16 rfl) rfl ?_
    refine r_fI (dt_NS_cellsOf.at 17 rfl) fl_NS_197 rfl (fun x5 => ?_)
    refine r_isub (dt_NS_cellsOf.at 18 rfl) ?_
    refine r_icmp_ge (tgt := 79) (dt_NS_cellsOf.at 19 rfl) (by decide) ?_ ?_
    · refine r_iload_n (dt_NS_cellsOf.at 42 rfl) rfl ?_
      exact r_iret (dt_NS_cellsOf.at 43 rfl) rfl
    · refine r_aload_n (dt_NS_cellsOf.at 20 rfl) rfl ?_
      refine r_iload (dt_NS_cellsOf.at 21 rfl) rfl ?_
      refine r_cvI (c := 6) (rest := []) (ct_Sprk_cellAt v2 v4 _) (dt_NS_cellsOf.at 22 rfl) mb_Sprk_cellAt wd_758 wd_759 wd_760 rfl (by decide) rfl rfl (Nat.le_of_ble_eq_true rfl) (fun r7 M6 => ?_)
      refine r_istore (ls' := [.ref v0, .retAddr 0, .ref v2, .int v3, .int v4, .int r7]) (dt_NS_cellsOf.at 23 rfl) (by decide) rfl ?_
      refine r_iload_n (dt_NS_cellsOf.at 24 rfl) rfl ?_
      refine r_aload_n (dt_NS_cellsOf.at 25 rfl) rfl ?_
      refine r_fR (dt_NS_cellsOf.at 26 rfl) fl_NS_69 rfl (fun b8 => ?_)
      refine r_aN (dt_NS_cellsOf.at 27 rfl) (fun x9 => ?_)
      refine r_icmp_ge (tgt := 73) (dt_NS_cellsOf.at 28 rfl) (by decide) ?_ ?_
      · refine r_iincn (v := 1) (dt_NS_cellsOf.at 40 rfl) (by decide) rfl (by decide) (fun y => [.ref v0, .retAddr 0, .ref v2, .int v3, .int y, .int r7]) (fun _ => rfl) (fun x10 => ?_)
        refine r_goto (tgt := 21) (dt_NS_cellsOf.at 41 rfl) (by decide) ?_
        exact Rf.msk [true, false, true, true, true, false] (ih v0 v2 v3 x10 M6)
      · refine r_aload_n (dt_NS_cellsOf.at 29 rfl) rfl ?_
        refine r_iload (dt_NS_cellsOf.at 30 rfl) rfl ?_
        refine r_iload_n (dt_NS_cellsOf.at 31 rfl) rfl ?_
        refine r_cvI (c := 8) (rest := []) (ct_NS_isAmong v0 r7 v3 _) (dt_NS_cellsOf.at 32 rfl) mb_NS_isAmong wd_762 wd_764 wp_18 rfl (by decide) rfl rfl (Nat.le_of_ble_eq_true rfl) (fun r12 M11 => ?_)
        refine r_if_ne (tgt := 73) (dt_NS_cellsOf.at 33 rfl) (by decide) ?_ ?_
        · refine r_aload_n (dt_NS_cellsOf.at 34 rfl) rfl ?_
          refine r_fR (dt_NS_cellsOf.at 35 rfl) fl_NS_69 rfl (fun b13 => ?_)
          refine r_iload_n (dt_NS_cellsOf.at 36 rfl) rfl ?_
          refine r_iload (dt_NS_cellsOf.at 37 rfl) rfl ?_
          refine r_tI (dt_NS_cellsOf.at 38 rfl) (fun M14 => ?_)
          refine r_iincn (v := 1) (dt_NS_cellsOf.at 39 rfl) (by decide) rfl (by decide) (fun y => [.ref v0, .retAddr 0, .ref v2, .int y, .int v4, .int r7]) (fun _ => rfl) (fun x15 => ?_)
          refine r_iincn (v := 1) (dt_NS_cellsOf.at 40 rfl) (by decide) rfl (by decide) (fun y => [.ref v0, .retAddr 0, .ref v2, .int x15, .int y, .int r7]) (fun _ => rfl) (fun x16 => ?_)
          refine r_goto (tgt := 21) (dt_NS_cellsOf.at 41 rfl) (by decide) ?_
          exact Rf.msk [true, false, true, true, true, false] (ih v0 v2 x15 x16 M14)
        · refine r_iincn (v := 1) (dt_NS_cellsOf.at 40 rfl) (by decide) rfl (by decide) (fun y => [.ref v0, .retAddr 0, .ref v2, .int v3, .int y, .int r7]) (fun _ => rfl) (fun x17 => ?_)
          refine r_goto (tgt := 21) (dt_NS_cellsOf.at 41 rfl) (by decide) ?_
          exact Rf.msk [true, false, true, true, true, false] (ih v0 v2 v3 x17 M11)
set_option maxRecDepth 20000 in
set_option maxHeartbeats 2000000 in
theorem ct_NS_cellsOf {G : am_G} {l : Launch} (a0 : Nat) (p1 : Int32) (M : am_M) : Ct G l y_NS_cellsOf X_NS_cellsOf [.ref a0, .int p1] M (F_NS_cellsOf a0 p1 M) := by
  refine Ct.of (by decide +kernel) rfl rfl (Nat.le_of_ble_eq_true rfl) ?_
  unfold F_NS_cellsOf
  show Rf G l X_NS_cellsOf 0 [.ref a0, .int p1, .retAddr 0, .retAddr 0, .retAddr 0, .retAddr 0] [] M _
  refine r_aload_n (dt_NS_cellsOf.at 0 rfl) rfl ?_
  refine r_fR (dt_NS_cellsOf.at 1 rfl) fl_NS_62 rfl (fun b1 => ?_)
  refine r_iload_n (dt_NS_cellsOf.at 2 rfl) rfl ?_
  refine r_cvR (c := 0) (rest := []) (ct_Find_find b1 p1 _) (dt_NS_cellsOf.at 3 rfl) mb_Find_find wd_639 wd_640 wd_641 rfl (by decide) rfl rfl (Nat.le_of_ble_eq_true rfl) (fun M2 => ?_) (fun b3 M2 => ?_)
  · refine r_astore_N (ls' := [.ref a0, .int p1, .null, .retAddr 0, .retAddr 0, .retAddr 0]) (dt_NS_cellsOf.at 4 rfl) (by decide) rfl ?_
    refine r_aload_N (dt_NS_cellsOf.at 5 rfl) rfl ?_
    refine r_ifnonnullN (dt_NS_cellsOf.at 6 rfl) ?_
    refine r_bipush (dt_NS_cellsOf.at 7 rfl) (-2) (by decide) ?_
    exact r_iret (dt_NS_cellsOf.at 8 rfl) rfl
  · refine r_astore_n (ls' := [.ref a0, .int p1, .ref b3, .retAddr 0, .retAddr 0, .retAddr 0]) (dt_NS_cellsOf.at 4 rfl) (by decide) rfl ?_
    refine r_aload_n (dt_NS_cellsOf.at 5 rfl) rfl ?_
    refine r_ifnonnull (tgt := 16) (dt_NS_cellsOf.at 6 rfl) (by decide) ?_
    refine r_iconst (dt_NS_cellsOf.at 9 rfl) 0 (by decide) ?_
    refine r_istore_n (ls' := [.ref a0, .int p1, .ref b3, .int 0, .retAddr 0, .retAddr 0]) (dt_NS_cellsOf.at 10 rfl) (by decide) rfl ?_
    refine r_iconst (dt_NS_cellsOf.at 11 rfl) 0 (by decide) ?_
    refine r_istore (ls' := [.ref a0, .int p1, .ref b3, .int 0, .int 0, .retAddr 0]) (dt_NS_cellsOf.at 12 rfl) (by decide) rfl ?_
    exact Rf.msk [true, false, true, true, true, false] (rf_NS_cellsOf_L21 fu a0 b3 0 0 M2)
set_option maxRecDepth 20000 in
set_option maxHeartbeats 2000000 in
theorem rf_NS_meets_L64 {G : am_G} {l : Launch}   : ∀ (n : Nat) (v3 : Nat) (v4 : Nat) (v5 : Int32) (v6 : Int32) (M : am_M), Rf G l X_NS_meets 64 [.retAddr 0, .retAddr 0, .retAddr 0, .ref v3, .ref v4, .int v5, .int v6] [] M (F_NS_meets_L64 n v3 v4 v5 v6 M) := by
  intro n
  induction n with
  | zero => intro v3 v4 v5 v6 M; exact Rf.no
  | succ n ih =>
    intro v3 v4 v5 v6 M
    unfold F_NS_meets_L64
    refine r_iload (dt_NS_meets.at 31 rfl) rfl ?_
    refine r_iload (dt_NS_meets.at 32 rfl) rfl ?_
    refine r_icmp_ge (tgt := 107) (dt_NS_meets.at 33 rfl) (by decide) ?_ ?_
    · refine r_iconst (dt_NS_meets.at 51 rfl) (-1) (by decide) ?_
      exact r_iret (dt_NS_meets.at 52 rfl) rfl
    · refine r_aload_n (dt_NS_meets.at 34 rfl) rfl ?_
      refine r_iload (dt_NS_meets.at 35 rfl) rfl ?_
      refine r_aload_n (dt_NS_meets.at 36 rfl) rfl ?_
      refine r_fI (dt_NS_meets.at 37 rfl) fl_NS_197 rfl (fun x18 => ?_)
      refine r_isub (dt_NS_meets.at 38 rfl) ?_
      refine r_cvI (c := 6) (rest := []) (ct_Sprk_cellAt v3 (v6 - x18) _) (dt_NS_meets.at 39 rfl) mb_Sprk_cellAt wd_758 wd_759 wd_760 rfl (by decide) rfl rfl (Nat.le_of_ble_eq_true rfl) (fun r20 M19 => ?_)
      refine r_aload (dt_NS_meets.at 40 rfl) rfl ?_
      refine r_iload (dt_NS_meets.at 41 rfl) rfl ?_
      refine r_aload (dt_NS_meets.at 42 rfl) rfl ?_
      refine r_fI (dt_NS_meets.at 43 rfl) fl_NS_197 rfl (fun x21 => ?_)
      refine r_isub (dt_NS_meets.at 44 rfl) ?_
      refine r_cvI (c := 6) (rest := [.int r20]) (ct_Sprk_cellAt v4 (v6 - x21) _) (dt_NS_meets.at 45 rfl) mb_Sprk_cellAt wd_758 wd_759 wd_760 rfl (by decide) rfl rfl (Nat.le_of_ble_eq_true rfl) (fun r23 M22 => ?_)
      refine r_icmp_ne (tgt := 101) (dt_NS_meets.at 46 rfl) (by decide) ?_ ?_
      · refine r_iload (dt_NS_meets.at 47 rfl) rfl ?_
        exact r_iret (dt_NS_meets.at 48 rfl) rfl
      · refine r_iincn (v := 1) (dt_NS_meets.at 49 rfl) (by decide) rfl (by decide) (fun y => [.retAddr 0, .retAddr 0, .retAddr 0, .ref v3, .ref v4, .int v5, .int y]) (fun _ => rfl) (fun x24 => ?_)
        refine r_goto (tgt := 64) (dt_NS_meets.at 50 rfl) (by decide) ?_
        exact Rf.msk [false, false, false, true, true, true, true] (ih v3 v4 v5 x24 M22)
set_option maxRecDepth 20000 in
set_option maxHeartbeats 2000000 in
theorem ct_NS_meets {G : am_G} {l : Launch} (a0 : Nat) (p1 : Int32) (p2 : Int32) (M : am_M) : Ct G l y_NS_meets X_NS_meets [.ref a0, .int p1, .int p2] M (F_NS_meets a0 p1 p2 M) := by
  refine Ct.of (by decide +kernel) rfl rfl (Nat.le_of_ble_eq_true rfl) ?_
  unfold F_NS_meets
  show Rf G l X_NS_meets 0 [.ref a0, .int p1, .int p2, .retAddr 0, .retAddr 0, .retAddr 0, .retAddr 0] [] M _
  refine r_aload_n (dt_NS_meets.at 0 rfl) rfl ?_
  refine r_fR (dt_NS_meets.at 1 rfl) fl_NS_62 rfl (fun b1 => ?_)
  refine r_iload_n (dt_NS_meets.at 2 rfl) rfl ?_
  refine r_cvR (c := 0) (rest := []) (ct_Find_find b1 p1 _) (dt_NS_meets.at 3 rfl) mb_Find_find wd_639 wd_640 wd_641 rfl (by decide) rfl rfl (Nat.le_of_ble_eq_true rfl) (fun M2 => ?_) (fun b3 M2 => ?_)
  · refine r_astore_N (ls' := [.ref a0, .int p1, .int p2, .null, .retAddr 0, .retAddr 0, .retAddr 0]) (dt_NS_meets.at 4 rfl) (by decide) rfl ?_
    refine r_aload_n (dt_NS_meets.at 5 rfl) rfl ?_
    refine r_fR (dt_NS_meets.at 6 rfl) fl_NS_66 rfl (fun b4 => ?_)
    refine r_iload_n (dt_NS_meets.at 7 rfl) rfl ?_
    refine r_cvR (c := 0) (rest := []) (ct_Find_find b4 p2 _) (dt_NS_meets.at 8 rfl) mb_Find_find wd_639 wd_640 wd_641 rfl (by decide) rfl rfl (Nat.le_of_ble_eq_true rfl) (fun M5 => ?_) (fun b6 M5 => ?_)
    · refine r_astoreN (ls' := [.ref a0, .int p1, .int p2, .null, .null, .retAddr 0, .retAddr 0]) (dt_NS_meets.at 9 rfl) (by decide) rfl ?_
      refine r_aload_N (dt_NS_meets.at 10 rfl) rfl ?_
      refine r_ifnullN (tgt := 33) (dt_NS_meets.at 11 rfl) (by decide) ?_
      refine r_bipush (dt_NS_meets.at 17 rfl) (-2) (by decide) ?_
      exact r_iret (dt_NS_meets.at 18 rfl) rfl
    · refine r_astore (ls' := [.ref a0, .int p1, .int p2, .null, .ref b6, .retAddr 0, .retAddr 0]) (dt_NS_meets.at 9 rfl) (by decide) rfl ?_
      refine r_aload_N (dt_NS_meets.at 10 rfl) rfl ?_
      refine r_ifnullN (tgt := 33) (dt_NS_meets.at 11 rfl) (by decide) ?_
      refine r_bipush (dt_NS_meets.at 17 rfl) (-2) (by decide) ?_
      exact r_iret (dt_NS_meets.at 18 rfl) rfl
  · refine r_astore_n (ls' := [.ref a0, .int p1, .int p2, .ref b3, .retAddr 0, .retAddr 0, .retAddr 0]) (dt_NS_meets.at 4 rfl) (by decide) rfl ?_
    refine r_aload_n (dt_NS_meets.at 5 rfl) rfl ?_
    refine r_fR (dt_NS_meets.at 6 rfl) fl_NS_66 rfl (fun b7 => ?_)
    refine r_iload_n (dt_NS_meets.at 7 rfl) rfl ?_
    refine r_cvR (c := 0) (rest := []) (ct_Find_find b7 p2 _) (dt_NS_meets.at 8 rfl) mb_Find_find wd_639 wd_640 wd_641 rfl (by decide) rfl rfl (Nat.le_of_ble_eq_true rfl) (fun M8 => ?_) (fun b9 M8 => ?_)
    · refine r_astoreN (ls' := [.ref a0, .int p1, .int p2, .ref b3, .null, .retAddr 0, .retAddr 0]) (dt_NS_meets.at 9 rfl) (by decide) rfl ?_
      refine r_aload_n (dt_NS_meets.at 10 rfl) rfl ?_
      refine r_ifnull (dt_NS_meets.at 11 rfl) ?_
      refine r_aloadN (dt_NS_meets.at 12 rfl) rfl ?_
      refine r_ifnullN (tgt := 33) (dt_NS_meets.at 13 rfl) (by decide) ?_
      refine r_bipush (dt_NS_meets.at 17 rfl) (-2) (by decide) ?_
      exact r_iret (dt_NS_meets.at 18 rfl) rfl
    · refine r_astore (ls' := [.ref a0, .int p1, .int p2, .ref b3, .ref b9, .retAddr 0, .retAddr 0]) (dt_NS_meets.at 9 rfl) (by decide) rfl ?_
      refine r_aload_n (dt_NS_meets.at 10 rfl) rfl ?_
      refine r_ifnull (dt_NS_meets.at 11 rfl) ?_
      refine r_aload (dt_NS_meets.at 12 rfl) rfl ?_
      refine r_ifnull (dt_NS_meets.at 13 rfl) ?_
      refine r_iload_n (dt_NS_meets.at 14 rfl) rfl ?_
      refine r_iload_n (dt_NS_meets.at 15 rfl) rfl ?_
      refine r_icmp_ne (tgt := 36) (dt_NS_meets.at 16 rfl) (by decide) ?_ ?_
      · refine r_bipush (dt_NS_meets.at 17 rfl) (-2) (by decide) ?_
        exact r_iret (dt_NS_meets.at 18 rfl) rfl
      · refine r_aload_n (dt_NS_meets.at 19 rfl) rfl ?_
        refine r_fI (dt_NS_meets.at 20 rfl) fl_NS_200 rfl (fun x10 => ?_)
        refine r_aload (dt_NS_meets.at 21 rfl) rfl ?_
        refine r_fI (dt_NS_meets.at 22 rfl) fl_NS_200 rfl (fun x11 => ?_)
        refine r_csI (rest := []) (ct_Math_min x10 x11 _) (dt_NS_meets.at 23 rfl) mb_Math_min wd_753 wd_334 (by decide) rfl rfl (Nat.le_of_ble_eq_true rfl) (fun r13 M12 => ?_)
        refine r_istore (ls' := [.ref a0, .int p1, .int p2, .ref b3, .ref b9, .int r13, .retAddr 0]) (dt_NS_meets.at 24 rfl) (by decide) rfl ?_
        refine r_aload_n (dt_NS_meets.at 25 rfl) rfl ?_
        refine r_fI (dt_NS_meets.at 26 rfl) fl_NS_197 rfl (fun x14 => ?_)
        refine r_aload (dt_NS_meets.at 27 rfl) rfl ?_
        refine r_fI (dt_NS_meets.at 28 rfl) fl_NS_197 rfl (fun x15 => ?_)
        refine r_csI (rest := []) (ct_Math_max x14 x15 _) (dt_NS_meets.at 29 rfl) mb_Math_max wd_729 wd_655 (by decide) rfl rfl (Nat.le_of_ble_eq_true rfl) (fun r17 M16 => ?_)
        refine r_istore (ls' := [.ref a0, .int p1, .int p2, .ref b3, .ref b9, .int r13, .int r17]) (dt_NS_meets.at 30 rfl) (by decide) rfl ?_
        exact Rf.msk [false, false, false, true, true, true, true] (rf_NS_meets_L64 fu b3 b9 r13 r17 M16)
set_option maxRecDepth 20000 in
set_option maxHeartbeats 2000000 in
theorem ct_NS_kin {G : am_G} {l : Launch} (a0 : Nat) (p1 : Int32) (p2 : Int32) (M : am_M) : Ct G l y_NS_kin X_NS_kin [.ref a0, .int p1, .int p2] M (F_NS_kin a0 p1 p2 M) := by
  refine Ct.of (by decide +kernel) rfl rfl (Nat.le_of_ble_eq_true rfl) ?_
  unfold F_NS_kin
  show Rf G l X_NS_kin 0 [.ref a0, .int p1, .int p2] [] M _
  refine r_aload_n (dt_NS_kin.at 0 rfl) rfl ?_
  refine r_fR (dt_NS_kin.at 1 rfl) fl_NS_16 rfl (fun b1 => ?_)
  refine r_iload_n (dt_NS_kin.at 2 rfl) rfl ?_
  refine r_cvI (c := 5) (rest := []) (ct_Scen_hasSpark b1 p1 _) (dt_NS_kin.at 3 rfl) mb_Scen_hasSpark wd_601 wd_602 wd_603 rfl (by decide) rfl rfl (Nat.le_of_ble_eq_true rfl) (fun r3 M2 => ?_)
  refine r_if_eq (tgt := 22) (dt_NS_kin.at 4 rfl) (by decide) ?_ ?_
  · refine r_bipush (dt_NS_kin.at 10 rfl) (-2) (by decide) ?_
    exact r_iret (dt_NS_kin.at 11 rfl) rfl
  · refine r_aload_n (dt_NS_kin.at 5 rfl) rfl ?_
    refine r_fR (dt_NS_kin.at 6 rfl) fl_NS_16 rfl (fun b4 => ?_)
    refine r_iload_n (dt_NS_kin.at 7 rfl) rfl ?_
    refine r_cvI (c := 5) (rest := []) (ct_Scen_hasSpark b4 p2 _) (dt_NS_kin.at 8 rfl) mb_Scen_hasSpark wd_601 wd_602 wd_603 rfl (by decide) rfl rfl (Nat.le_of_ble_eq_true rfl) (fun r6 M5 => ?_)
    refine r_if_ne (tgt := 25) (dt_NS_kin.at 9 rfl) (by decide) ?_ ?_
    · refine r_bipush (dt_NS_kin.at 10 rfl) (-2) (by decide) ?_
      exact r_iret (dt_NS_kin.at 11 rfl) rfl
    · refine r_iload_n (dt_NS_kin.at 12 rfl) rfl ?_
      refine r_iload_n (dt_NS_kin.at 13 rfl) rfl ?_
      refine r_icmp_ne (tgt := 32) (dt_NS_kin.at 14 rfl) (by decide) ?_ ?_
      · refine r_iload_n (dt_NS_kin.at 15 rfl) rfl ?_
        exact r_iret (dt_NS_kin.at 16 rfl) rfl
      · refine r_iload_n (dt_NS_kin.at 17 rfl) rfl ?_
        refine r_iconst (dt_NS_kin.at 18 rfl) 4 (by decide) ?_
        refine r_ishr (dt_NS_kin.at 19 rfl) ?_
        refine r_iload_n (dt_NS_kin.at 20 rfl) rfl ?_
        refine r_iconst (dt_NS_kin.at 21 rfl) 4 (by decide) ?_
        refine r_ishr (dt_NS_kin.at 22 rfl) ?_
        refine r_icmp_ne (tgt := 46) (dt_NS_kin.at 23 rfl) (by decide) ?_ ?_
        · refine r_iload_n (dt_NS_kin.at 24 rfl) rfl ?_
          refine r_bipush (dt_NS_kin.at 25 rfl) (-16) (by decide) ?_
          refine r_iand (dt_NS_kin.at 26 rfl) ?_
          exact r_iret (dt_NS_kin.at 27 rfl) rfl
        · refine r_iload_n (dt_NS_kin.at 28 rfl) rfl ?_
          refine r_bipush (dt_NS_kin.at 29 rfl) 8 (by decide) ?_
          refine r_ishr (dt_NS_kin.at 30 rfl) ?_
          refine r_iload_n (dt_NS_kin.at 31 rfl) rfl ?_
          refine r_bipush (dt_NS_kin.at 32 rfl) 8 (by decide) ?_
          refine r_ishr (dt_NS_kin.at 33 rfl) ?_
          refine r_icmp_ne (tgt := 65) (dt_NS_kin.at 34 rfl) (by decide) ?_ ?_
          · refine r_iload_n (dt_NS_kin.at 35 rfl) rfl ?_
            refine r_sipush (dt_NS_kin.at 36 rfl) (-256) (by decide) ?_
            refine r_iand (dt_NS_kin.at 37 rfl) ?_
            refine r_goto (tgt := 66) (dt_NS_kin.at 38 rfl) (by decide) ?_
            exact r_iret (dt_NS_kin.at 40 rfl) rfl
          · refine r_iconst (dt_NS_kin.at 39 rfl) (-1) (by decide) ?_
            exact r_iret (dt_NS_kin.at 40 rfl) rfl
set_option maxRecDepth 20000 in
set_option maxHeartbeats 2000000 in
theorem ct_Walk_spanOf {G : am_G} {l : Launch} (a0 : Nat) (p1 : Int32) (p2 : Int32) (M : am_M) : Ct G l y_Walk_spanOf X_Walk_spanOf [.ref a0, .int p1, .int p2] M (F_Walk_spanOf a0 p1 p2 M) := by
  refine Ct.of (by decide +kernel) rfl rfl (Nat.le_of_ble_eq_true rfl) ?_
  unfold F_Walk_spanOf
  show Rf G l X_Walk_spanOf 0 [.ref a0, .int p1, .int p2, .retAddr 0] [] M _
  refine r_iload_n (dt_Walk_spanOf.at 0 rfl) rfl ?_
  refine r_iconst (dt_Walk_spanOf.at 1 rfl) 5 (by decide) ?_
  refine r_imul (dt_Walk_spanOf.at 2 rfl) ?_
  refine r_iload_n (dt_Walk_spanOf.at 3 rfl) rfl ?_
  refine r_iadd (dt_Walk_spanOf.at 4 rfl) ?_
  refine r_nmi (fun x1 => ?_)
  refine r_istore_n (ls' := [.ref a0, .int p1, .int p2, .int x1]) (dt_Walk_spanOf.at 5 rfl) (by decide) rfl ?_
  refine r_iload_n (dt_Walk_spanOf.at 6 rfl) rfl ?_
  refine r_if_lt (tgt := 28) (dt_Walk_spanOf.at 7 rfl) (by decide) ?_ ?_
  · refine r_iconst (dt_Walk_spanOf.at 18 rfl) 0 (by decide) ?_
    exact r_iret (dt_Walk_spanOf.at 19 rfl) rfl
  · refine r_iload_n (dt_Walk_spanOf.at 8 rfl) rfl ?_
    refine r_aload_n (dt_Walk_spanOf.at 9 rfl) rfl ?_
    refine r_fR (dt_Walk_spanOf.at 10 rfl) fl_Walk_27 rfl (fun b2 => ?_)
    refine r_aN (dt_Walk_spanOf.at 11 rfl) (fun x3 => ?_)
    refine r_icmp_ge (tgt := 28) (dt_Walk_spanOf.at 12 rfl) (by decide) ?_ ?_
    · refine r_iconst (dt_Walk_spanOf.at 18 rfl) 0 (by decide) ?_
      exact r_iret (dt_Walk_spanOf.at 19 rfl) rfl
    · refine r_aload_n (dt_Walk_spanOf.at 13 rfl) rfl ?_
      refine r_fR (dt_Walk_spanOf.at 14 rfl) fl_Walk_27 rfl (fun b4 => ?_)
      refine r_iload_n (dt_Walk_spanOf.at 15 rfl) rfl ?_
      refine r_aI (dt_Walk_spanOf.at 16 rfl) (fun x5 => ?_)
      refine r_goto (tgt := 29) (dt_Walk_spanOf.at 17 rfl) (by decide) ?_
      exact r_iret (dt_Walk_spanOf.at 19 rfl) rfl
set_option maxRecDepth 20000 in
set_option maxHeartbeats 2000000 in
theorem ct_Walk_spanBehind {G : am_G} {l : Launch} (a0 : Nat) (p1 : Int32) (p2 : Int32) (M : am_M) : Ct G l y_Walk_spanBehind X_Walk_spanBehind [.ref a0, .int p1, .int p2] M (F_Walk_spanBehind a0 p1 p2 M) := by
  refine Ct.of (by decide +kernel) rfl rfl (Nat.le_of_ble_eq_true rfl) ?_
  unfold F_Walk_spanBehind
  show Rf G l X_Walk_spanBehind 0 [.ref a0, .int p1, .int p2] [] M _
  refine r_iload_n (dt_Walk_spanBehind.at 0 rfl) rfl ?_
  refine r_iconst (dt_Walk_spanBehind.at 1 rfl) 2 (by decide) ?_
  refine r_icmp_ge (tgt := 19) (dt_Walk_spanBehind.at 2 rfl) (by decide) ?_ ?_
  · refine r_iconst (dt_Walk_spanBehind.at 10 rfl) 0 (by decide) ?_
    exact r_iret (dt_Walk_spanBehind.at 11 rfl) rfl
  · refine r_aload_n (dt_Walk_spanBehind.at 3 rfl) rfl ?_
    refine r_fR (dt_Walk_spanBehind.at 4 rfl) fl_Walk_30 rfl (fun b1 => ?_)
    refine r_iload_n (dt_Walk_spanBehind.at 5 rfl) rfl ?_
    refine r_bipush (dt_Walk_spanBehind.at 6 rfl) 6 (by decide) ?_
    refine r_cvI (c := 5) (rest := []) (ct_Scen_ofKind b1 p2 6 _) (dt_Walk_spanBehind.at 7 rfl) mb_Scen_ofKind wd_790 wd_476 wd_477 rfl (by decide) rfl rfl (Nat.le_of_ble_eq_true rfl) (fun r3 M2 => ?_)
    refine r_iconst (dt_Walk_spanBehind.at 8 rfl) 1 (by decide) ?_
    refine r_icmp_ge (tgt := 21) (dt_Walk_spanBehind.at 9 rfl) (by decide) ?_ ?_
    · refine r_aload_n (dt_Walk_spanBehind.at 12 rfl) rfl ?_
      refine r_iload_n (dt_Walk_spanBehind.at 13 rfl) rfl ?_
      refine r_iconst (dt_Walk_spanBehind.at 14 rfl) 1 (by decide) ?_
      refine r_iadd (dt_Walk_spanBehind.at 15 rfl) ?_
      refine r_aload_n (dt_Walk_spanBehind.at 16 rfl) rfl ?_
      refine r_fR (dt_Walk_spanBehind.at 17 rfl) fl_Walk_30 rfl (fun b4 => ?_)
      refine r_iload_n (dt_Walk_spanBehind.at 18 rfl) rfl ?_
      refine r_bipush (dt_Walk_spanBehind.at 19 rfl) 7 (by decide) ?_
      refine r_cvI (c := 5) (rest := [.int (p1 + 1), .ref a0]) (ct_Scen_ofKind b4 p2 7 _) (dt_Walk_spanBehind.at 20 rfl) mb_Scen_ofKind wd_790 wd_476 wd_477 rfl (by decide) rfl rfl (Nat.le_of_ble_eq_true rfl) (fun r6 M5 => ?_)
      refine r_cvI (c := 7) (rest := []) (ct_Walk_spanOf a0 (p1 + 1) r6 _) (dt_Walk_spanBehind.at 21 rfl) mb_Walk_spanOf wd_795 wd_797 wp_21 rfl (by decide) rfl rfl (Nat.le_of_ble_eq_true rfl) (fun r8 M7 => ?_)
      exact r_iret (dt_Walk_spanBehind.at 22 rfl) rfl
    · refine r_iconst (dt_Walk_spanBehind.at 10 rfl) 0 (by decide) ?_
      exact r_iret (dt_Walk_spanBehind.at 11 rfl) rfl
set_option maxRecDepth 20000 in
set_option maxHeartbeats 2000000 in
theorem rf_Walk_measureSpans_L8 {G : am_G} {l : Launch} (k2 : Nat → Int32 → am_M → am_R) (hk2 : ∀ v0 v1 M, Rf G l X_Walk_measureSpans 2 [.ref v0, .int v1, .retAddr 0, .retAddr 0] [] M (k2 v0 v1 M)) : ∀ (n : Nat) (v0 : Nat) (v1 : Int32) (v2 : Int32) (M : am_M), Rf G l X_Walk_measureSpans 8 [.ref v0, .int v1, .int v2, .retAddr 0] [] M (F_Walk_measureSpans_L8 k2 n v0 v1 v2 M) := by
  intro n
  induction n with
  | zero => intro v0 v1 v2 M; exact Rf.no
  | succ n ih =>
    intro v0 v1 v2 M
    unfold F_Walk_measureSpans_L8
    refine r_iload_n (dt_Walk_measureSpans.at 6 rfl) rfl ?_
    refine r_aload_n (dt_Walk_measureSpans.at 7 rfl) rfl ?_
    refine r_fR (dt_Walk_measureSpans.at 8 rfl) fl_Walk_30 rfl (fun b1 => ?_)
    refine r_fI (dt_Walk_measureSpans.at 9 rfl) fl_Walk_67 rfl (fun x2 => ?_)
    refine r_icmp_ge (tgt := 68) (dt_Walk_measureSpans.at 10 rfl) (by decide) ?_ ?_
    · refine r_iincn (v := (-1)) (dt_Walk_measureSpans.at 42 rfl) (by decide) rfl (by decide) (fun y => [.ref v0, .int y, .int v2, .retAddr 0]) (fun _ => rfl) (fun x3 => ?_)
      refine r_goto (tgt := 2) (dt_Walk_measureSpans.at 43 rfl) (by decide) ?_
      exact Rf.msk [true, true, false, false] (hk2 v0 x3 M)
    · refine r_iload_n (dt_Walk_measureSpans.at 11 rfl) rfl ?_
      refine r_iconst (dt_Walk_measureSpans.at 12 rfl) 5 (by decide) ?_
      refine r_icmp_ge (tgt := 68) (dt_Walk_measureSpans.at 13 rfl) (by decide) ?_ ?_
      · refine r_iincn (v := (-1)) (dt_Walk_measureSpans.at 42 rfl) (by decide) rfl (by decide) (fun y => [.ref v0, .int y, .int v2, .retAddr 0]) (fun _ => rfl) (fun x4 => ?_)
        refine r_goto (tgt := 2) (dt_Walk_measureSpans.at 43 rfl) (by decide) ?_
        exact Rf.msk [true, true, false, false] (hk2 v0 x4 M)
      · refine r_aload_n (dt_Walk_measureSpans.at 14 rfl) rfl ?_
        refine r_fR (dt_Walk_measureSpans.at 15 rfl) fl_Walk_30 rfl (fun b5 => ?_)
        refine r_iload_n (dt_Walk_measureSpans.at 16 rfl) rfl ?_
        refine r_iconst (dt_Walk_measureSpans.at 17 rfl) 0 (by decide) ?_
        refine r_cvI (c := 5) (rest := []) (ct_Scen_ofKind b5 v2 0 _) (dt_Walk_measureSpans.at 18 rfl) mb_Scen_ofKind wd_790 wd_476 wd_477 rfl (by decide) rfl rfl (Nat.le_of_ble_eq_true rfl) (fun r7 M6 => ?_)
        refine r_aload_n (dt_Walk_measureSpans.at 19 rfl) rfl ?_
        refine r_fR (dt_Walk_measureSpans.at 20 rfl) fl_Walk_30 rfl (fun b8 => ?_)
        refine r_iload_n (dt_Walk_measureSpans.at 21 rfl) rfl ?_
        refine r_iconst (dt_Walk_measureSpans.at 22 rfl) 1 (by decide) ?_
        refine r_cvI (c := 5) (rest := [.int r7]) (ct_Scen_ofKind b8 v2 1 _) (dt_Walk_measureSpans.at 23 rfl) mb_Scen_ofKind wd_790 wd_476 wd_477 rfl (by decide) rfl rfl (Nat.le_of_ble_eq_true rfl) (fun r10 M9 => ?_)
        refine r_iadd (dt_Walk_measureSpans.at 24 rfl) ?_
        refine r_nmi (fun x11 => ?_)
        refine r_istore_n (ls' := [.ref v0, .int v1, .int v2, .int x11]) (dt_Walk_measureSpans.at 25 rfl) (by decide) rfl ?_
        refine r_aload_n (dt_Walk_measureSpans.at 26 rfl) rfl ?_
        refine r_fR (dt_Walk_measureSpans.at 27 rfl) fl_Walk_27 rfl (fun b12 => ?_)
        refine r_iload_n (dt_Walk_measureSpans.at 28 rfl) rfl ?_
        refine r_iconst (dt_Walk_measureSpans.at 29 rfl) 5 (by decide) ?_
        refine r_imul (dt_Walk_measureSpans.at 30 rfl) ?_
        refine r_iload_n (dt_Walk_measureSpans.at 31 rfl) rfl ?_
        refine r_iadd (dt_Walk_measureSpans.at 32 rfl) ?_
        refine r_iload_n (dt_Walk_measureSpans.at 33 rfl) rfl ?_
        refine r_aload_n (dt_Walk_measureSpans.at 34 rfl) rfl ?_
        refine r_iload_n (dt_Walk_measureSpans.at 35 rfl) rfl ?_
        refine r_iload_n (dt_Walk_measureSpans.at 36 rfl) rfl ?_
        refine r_cvI (c := 7) (rest := [.int x11, .int ((v1 * 5) + v2), .ref b12]) (ct_Walk_spanBehind v0 v1 v2 _) (dt_Walk_measureSpans.at 37 rfl) mb_Walk_spanBehind wd_791 wd_793 wp_20 rfl (by decide) rfl rfl (Nat.le_of_ble_eq_true rfl) (fun r14 M13 => ?_)
        refine r_iadd (dt_Walk_measureSpans.at 38 rfl) ?_
        refine r_tI (dt_Walk_measureSpans.at 39 rfl) (fun M15 => ?_)
        refine r_iincn (v := 1) (dt_Walk_measureSpans.at 40 rfl) (by decide) rfl (by decide) (fun y => [.ref v0, .int v1, .int y, .int x11]) (fun _ => rfl) (fun x16 => ?_)
        refine r_goto (tgt := 8) (dt_Walk_measureSpans.at 41 rfl) (by decide) ?_
        exact Rf.msk [true, true, true, false] (ih v0 v1 x16 M15)
set_option maxRecDepth 20000 in
set_option maxHeartbeats 2000000 in
theorem rf_Walk_measureSpans_L2 {G : am_G} {l : Launch}   : ∀ (n : Nat) (v0 : Nat) (v1 : Int32) (M : am_M), Rf G l X_Walk_measureSpans 2 [.ref v0, .int v1, .retAddr 0, .retAddr 0] [] M (F_Walk_measureSpans_L2 n v0 v1 M) := by
  intro n
  induction n with
  | zero => intro v0 v1 M; exact Rf.no
  | succ n ih =>
    intro v0 v1 M
    unfold F_Walk_measureSpans_L2
    refine r_iload_n (dt_Walk_measureSpans.at 2 rfl) rfl ?_
    refine r_if_lt (tgt := 74) (dt_Walk_measureSpans.at 3 rfl) (by decide) ?_ ?_
    · exact r_vret (dt_Walk_measureSpans.at 44 rfl) rfl
    · refine r_iconst (dt_Walk_measureSpans.at 4 rfl) 0 (by decide) ?_
      refine r_istore_n (ls' := [.ref v0, .int v1, .int 0, .retAddr 0]) (dt_Walk_measureSpans.at 5 rfl) (by decide) rfl ?_
      exact Rf.msk [true, true, true, false] (rf_Walk_measureSpans_L8 (F_Walk_measureSpans_L2 n) ih fu v0 v1 0 M)
set_option maxRecDepth 20000 in
set_option maxHeartbeats 2000000 in
theorem ct_Walk_measureSpans {G : am_G} {l : Launch} (a0 : Nat) (M : am_M) : Ct G l y_Walk_measureSpans X_Walk_measureSpans [.ref a0] M (F_Walk_measureSpans a0 M) := by
  refine Ct.of (by decide +kernel) rfl rfl (Nat.le_of_ble_eq_true rfl) ?_
  unfold F_Walk_measureSpans
  show Rf G l X_Walk_measureSpans 0 [.ref a0, .retAddr 0, .retAddr 0, .retAddr 0] [] M _
  refine r_iconst (dt_Walk_measureSpans.at 0 rfl) 2 (by decide) ?_
  refine r_istore_n (ls' := [.ref a0, .int 2, .retAddr 0, .retAddr 0]) (dt_Walk_measureSpans.at 1 rfl) (by decide) rfl ?_
  exact Rf.msk [true, true, false, false] (rf_Walk_measureSpans_L2 fu a0 2 M)
set_option maxRecDepth 20000 in
set_option maxHeartbeats 2000000 in
theorem rf_Walk_start_L16 {G : am_G} {l : Launch}   : ∀ (n : Nat) (v0 : Nat) (v1 : Int32) (v2 : Int32) (v3 : Int32) (M : am_M), Rf G l X_Walk_start 16 [.ref v0, .int v1, .int v2, .int v3, .retAddr 0, .retAddr 0] [] M (F_Walk_start_L16 n v0 v1 v2 v3 M) := by
  intro n
  induction n with
  | zero => intro v0 v1 v2 v3 M; exact Rf.no
  | succ n ih =>
    intro v0 v1 v2 v3 M
    unfold F_Walk_start_L16
    refine r_iload_n (dt_Walk_start.at 10 rfl) rfl ?_
    refine r_iconst (dt_Walk_start.at 11 rfl) 4 (by decide) ?_
    refine r_icmp_ge (tgt := 132) (dt_Walk_start.at 12 rfl) (by decide) ?_ ?_
    · exact r_vret (dt_Walk_start.at 77 rfl) rfl
    · refine r_aload_n (dt_Walk_start.at 13 rfl) rfl ?_
      refine r_fR (dt_Walk_start.at 14 rfl) fl_Walk_21 rfl (fun b4 => ?_)
      refine r_iload_n (dt_Walk_start.at 15 rfl) rfl ?_
      refine r_iconst (dt_Walk_start.at 16 rfl) 0 (by decide) ?_
      refine r_tI (dt_Walk_start.at 17 rfl) (fun M5 => ?_)
      refine r_aload_n (dt_Walk_start.at 18 rfl) rfl ?_
      refine r_fR (dt_Walk_start.at 19 rfl) fl_Walk_24 rfl (fun b6 => ?_)
      refine r_iload_n (dt_Walk_start.at 20 rfl) rfl ?_
      refine r_iconst (dt_Walk_start.at 21 rfl) 0 (by decide) ?_
      refine r_tI (dt_Walk_start.at 22 rfl) (fun M7 => ?_)
      refine r_aload_n (dt_Walk_start.at 23 rfl) rfl ?_
      refine r_fR (dt_Walk_start.at 24 rfl) fl_Walk_30 rfl (fun b8 => ?_)
      refine r_iload_n (dt_Walk_start.at 25 rfl) rfl ?_
      refine r_cvI (c := 5) (rest := []) (ct_Scen_isSource b8 v3 _) (dt_Walk_start.at 26 rfl) mb_Scen_isSource wd_799 wd_548 wd_549 rfl (by decide) rfl rfl (Nat.le_of_ble_eq_true rfl) (fun r10 M9 => ?_)
      refine r_if_eq (tgt := 126) (dt_Walk_start.at 27 rfl) (by decide) ?_ ?_
      · refine r_iincn (v := 1) (dt_Walk_start.at 75 rfl) (by decide) rfl (by decide) (fun y => [.ref v0, .int v1, .int v2, .int y, .retAddr 0, .retAddr 0]) (fun _ => rfl) (fun x11 => ?_)
        refine r_goto (tgt := 16) (dt_Walk_start.at 76 rfl) (by decide) ?_
        exact Rf.msk [true, true, true, true, false, false] (ih v0 v1 v2 x11 M9)
      · refine r_aload_n (dt_Walk_start.at 28 rfl) rfl ?_
        refine r_fR (dt_Walk_start.at 29 rfl) fl_Walk_30 rfl (fun b12 => ?_)
        refine r_iload_n (dt_Walk_start.at 30 rfl) rfl ?_
        refine r_bipush (dt_Walk_start.at 31 rfl) 6 (by decide) ?_
        refine r_cvI (c := 5) (rest := []) (ct_Scen_ofSource b12 v3 6 _) (dt_Walk_start.at 32 rfl) mb_Scen_ofSource wd_800 wd_500 wd_501 rfl (by decide) rfl rfl (Nat.le_of_ble_eq_true rfl) (fun r14 M13 => ?_)
        refine r_istore (ls' := [.ref v0, .int v1, .int v2, .int v3, .int r14, .retAddr 0]) (dt_Walk_start.at 33 rfl) (by decide) rfl ?_
        refine r_aload_n (dt_Walk_start.at 34 rfl) rfl ?_
        refine r_iconst (dt_Walk_start.at 35 rfl) 0 (by decide) ?_
        refine r_aload_n (dt_Walk_start.at 36 rfl) rfl ?_
        refine r_fR (dt_Walk_start.at 37 rfl) fl_Walk_30 rfl (fun b15 => ?_)
        refine r_iload_n (dt_Walk_start.at 38 rfl) rfl ?_
        refine r_iconst (dt_Walk_start.at 39 rfl) 0 (by decide) ?_
        refine r_cvI (c := 5) (rest := [.int 0, .ref v0]) (ct_Scen_ofSource b15 v3 0 _) (dt_Walk_start.at 40 rfl) mb_Scen_ofSource wd_800 wd_500 wd_501 rfl (by decide) rfl rfl (Nat.le_of_ble_eq_true rfl) (fun r17 M16 => ?_)
        refine r_cvI (c := 7) (rest := []) (ct_Walk_spanOf v0 0 r17 _) (dt_Walk_start.at 41 rfl) mb_Walk_spanOf wd_795 wd_797 wp_21 rfl (by decide) rfl rfl (Nat.le_of_ble_eq_true rfl) (fun r19 M18 => ?_)
        refine r_istore (ls' := [.ref v0, .int v1, .int v2, .int v3, .int r14, .int r19]) (dt_Walk_start.at 42 rfl) (by decide) rfl ?_
        refine r_aload_n (dt_Walk_start.at 43 rfl) rfl ?_
        refine r_fR (dt_Walk_start.at 44 rfl) fl_Walk_21 rfl (fun b20 => ?_)
        refine r_iload_n (dt_Walk_start.at 45 rfl) rfl ?_
        refine r_aload_n (dt_Walk_start.at 46 rfl) rfl ?_
        refine r_fR (dt_Walk_start.at 47 rfl) fl_Walk_30 rfl (fun b21 => ?_)
        refine r_iload_n (dt_Walk_start.at 48 rfl) rfl ?_
        refine r_iload_n (dt_Walk_start.at 49 rfl) rfl ?_
        refine r_aload_n (dt_Walk_start.at 50 rfl) rfl ?_
        refine r_fR (dt_Walk_start.at 51 rfl) fl_Walk_30 rfl (fun b22 => ?_)
        refine r_iload_n (dt_Walk_start.at 52 rfl) rfl ?_
        refine r_bipush (dt_Walk_start.at 53 rfl) 8 (by decide) ?_
        refine r_cvI (c := 5) (rest := [.int v1, .int v3, .ref b21, .int v3, .ref b20]) (ct_Scen_ofSource b22 v3 8 _) (dt_Walk_start.at 54 rfl) mb_Scen_ofSource wd_800 wd_500 wd_501 rfl (by decide) rfl rfl (Nat.le_of_ble_eq_true rfl) (fun r24 M23 => ?_)
        refine r_isub (dt_Walk_start.at 55 rfl) ?_
        refine r_iload (dt_Walk_start.at 56 rfl) rfl ?_
        refine r_isub (dt_Walk_start.at 57 rfl) ?_
        refine r_cvI (c := 5) (rest := [.int v3, .ref b20]) (ct_Scen_burstsUpTo b21 v3 ((v1 - r24) - r19) _) (dt_Walk_start.at 58 rfl) mb_Scen_burstsUpTo wd_801 wd_504 wd_505 rfl (by decide) rfl rfl (Nat.le_of_ble_eq_true rfl) (fun r26 M25 => ?_)
        refine r_iload (dt_Walk_start.at 59 rfl) rfl ?_
        refine r_imul (dt_Walk_start.at 60 rfl) ?_
        refine r_tI (dt_Walk_start.at 61 rfl) (fun M27 => ?_)
        refine r_aload_n (dt_Walk_start.at 62 rfl) rfl ?_
        refine r_fR (dt_Walk_start.at 63 rfl) fl_Walk_24 rfl (fun b28 => ?_)
        refine r_iload_n (dt_Walk_start.at 64 rfl) rfl ?_
        refine r_aload_n (dt_Walk_start.at 65 rfl) rfl ?_
        refine r_fR (dt_Walk_start.at 66 rfl) fl_Walk_30 rfl (fun b29 => ?_)
        refine r_iload_n (dt_Walk_start.at 67 rfl) rfl ?_
        refine r_iload_n (dt_Walk_start.at 68 rfl) rfl ?_
        refine r_iconst (dt_Walk_start.at 69 rfl) 1 (by decide) ?_
        refine r_isub (dt_Walk_start.at 70 rfl) ?_
        refine r_cvI (c := 5) (rest := [.int v3, .ref b28]) (ct_Scen_burstsUpTo b29 v3 (v2 - 1) _) (dt_Walk_start.at 71 rfl) mb_Scen_burstsUpTo wd_801 wd_504 wd_505 rfl (by decide) rfl rfl (Nat.le_of_ble_eq_true rfl) (fun r31 M30 => ?_)
        refine r_iload (dt_Walk_start.at 72 rfl) rfl ?_
        refine r_imul (dt_Walk_start.at 73 rfl) ?_
        refine r_tI (dt_Walk_start.at 74 rfl) (fun M32 => ?_)
        refine r_iincn (v := 1) (dt_Walk_start.at 75 rfl) (by decide) rfl (by decide) (fun y => [.ref v0, .int v1, .int v2, .int y, .int r14, .int r19]) (fun _ => rfl) (fun x33 => ?_)
        refine r_goto (tgt := 16) (dt_Walk_start.at 76 rfl) (by decide) ?_
        exact Rf.msk [true, true, true, true, false, false] (ih v0 v1 v2 x33 M32)
set_option maxRecDepth 20000 in
set_option maxHeartbeats 2000000 in
theorem ct_Walk_start {G : am_G} {l : Launch} (a0 : Nat) (p1 : Int32) (p2 : Int32) (M : am_M) : Ct G l y_Walk_start X_Walk_start [.ref a0, .int p1, .int p2] M (F_Walk_start a0 p1 p2 M) := by
  refine Ct.of (by decide +kernel) rfl rfl (Nat.le_of_ble_eq_true rfl) ?_
  unfold F_Walk_start
  show Rf G l X_Walk_start 0 [.ref a0, .int p1, .int p2, .retAddr 0, .retAddr 0, .retAddr 0] [] M _
  refine r_aload_n (dt_Walk_start.at 0 rfl) rfl ?_
  refine r_iload_n (dt_Walk_start.at 1 rfl) rfl ?_
  refine r_sI (dt_Walk_start.at 2 rfl) fl_Walk_37 rfl rfl rfl (fun M1 => ?_)
  refine r_aload_n (dt_Walk_start.at 3 rfl) rfl ?_
  refine r_iload_n (dt_Walk_start.at 4 rfl) rfl ?_
  refine r_sI (dt_Walk_start.at 5 rfl) fl_Walk_41 rfl rfl rfl (fun M2 => ?_)
  refine r_aload_n (dt_Walk_start.at 6 rfl) rfl ?_
  refine r_cvV (c := 7) (rest := []) (ct_Walk_measureSpans a0 _) (dt_Walk_start.at 7 rfl) mb_Walk_measureSpans wd_786 wd_788 wp_19 rfl (by decide) rfl rfl (Nat.le_of_ble_eq_true rfl) (fun M3 => ?_)
  refine r_iconst (dt_Walk_start.at 8 rfl) 0 (by decide) ?_
  refine r_istore_n (ls' := [.ref a0, .int p1, .int p2, .int 0, .retAddr 0, .retAddr 0]) (dt_Walk_start.at 9 rfl) (by decide) rfl ?_
  exact Rf.msk [true, true, true, true, false, false] (rf_Walk_start_L16 fu a0 p1 p2 0 M3)
