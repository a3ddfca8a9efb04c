/-! ===== the walks, row by row (printed by wip/whole/emit.py) ===== -/
set_option maxRecDepth 20000 in
set_option maxHeartbeats 2000000 in
theorem rf_NS_endings_L58 {G : am_G} {l : Launch} (k37 : Nat → Int32 → Int32 → Int32 → Int32 → am_M → am_R) (hk37 : ∀ v0 v1 v2 v3 v4 M, Rf G l X_NS_endings 37 [.ref v0, .int v1, .int v2, .int v3, .int v4, .retAddr 0, .retAddr 0] [] M (k37 v0 v1 v2 v3 v4 M)) : ∀ (n : Nat) (v0 : Nat) (v1 : Int32) (v2 : Int32) (v3 : Int32) (v4 : Int32) (v5 : Int32) (M : am_M), Rf G l X_NS_endings 58 [.ref v0, .int v1, .int v2, .int v3, .int v4, .int v5, .retAddr 0] [] M (F_NS_endings_L58 k37 n v0 v1 v2 v3 v4 v5 M) := by
  intro n
  induction n with
  | zero => intro v0 v1 v2 v3 v4 v5 M; exact Rf.no
  | succ n ih =>
    intro v0 v1 v2 v3 v4 v5 M
    unfold F_NS_endings_L58
    refine r_iload (dt_NS_endings.at 32 rfl) rfl ?_
    refine r_aload_n (dt_NS_endings.at 33 rfl) rfl ?_
    refine r_fR (dt_NS_endings.at 34 rfl) fl_NS_46 rfl (fun b8 => ?_)
    refine r_fI (dt_NS_endings.at 35 rfl) fl_NS_243 rfl (fun x9 => ?_)
    refine r_icmp_ge (tgt := 105) (dt_NS_endings.at 36 rfl) (by decide) ?_ ?_
    · refine r_iincn (v := 1) (dt_NS_endings.at 52 rfl) (by decide) rfl (by decide) (fun y => [.ref v0, .int v1, .int v2, .int v3, .int y, .int v5, .retAddr 0]) (fun _ => rfl) (fun x10 => ?_)
      refine r_goto (tgt := 37) (dt_NS_endings.at 53 rfl) (by decide) ?_
      exact Rf.msk [true, true, true, true, true, false, false] (hk37 v0 v1 v2 v3 x10 M)
    · refine r_aload_n (dt_NS_endings.at 37 rfl) rfl ?_
      refine r_fR (dt_NS_endings.at 38 rfl) fl_NS_46 rfl (fun b11 => ?_)
      refine r_iload (dt_NS_endings.at 39 rfl) rfl ?_
      refine r_cvR (c := 7) (rest := []) (ct_Walk_shown b11 v5 _) (dt_NS_endings.at 40 rfl) mb_Walk_shown wd_826 wd_827 wd_828 rfl (by decide) rfl rfl (Nat.le_of_ble_eq_true rfl) (fun M12 => ?_) (fun b13 M12 => ?_)
      · exact Rf.no
      · refine r_fI (dt_NS_endings.at 41 rfl) fl_NS_200 rfl (fun x14 => ?_)
        refine r_istore (ls' := [.ref v0, .int v1, .int v2, .int v3, .int v4, .int v5, .int x14]) (dt_NS_endings.at 42 rfl) (by decide) rfl ?_
        refine r_iload (dt_NS_endings.at 43 rfl) rfl ?_
        refine r_iload_n (dt_NS_endings.at 44 rfl) rfl ?_
        refine r_icmp_lt (tgt := 99) (dt_NS_endings.at 45 rfl) (by decide) ?_ ?_
        · refine r_iincn (v := 1) (dt_NS_endings.at 50 rfl) (by decide) rfl (by decide) (fun y => [.ref v0, .int v1, .int v2, .int v3, .int v4, .int y, .int x14]) (fun _ => rfl) (fun x15 => ?_)
          refine r_goto (tgt := 58) (dt_NS_endings.at 51 rfl) (by decide) ?_
          exact Rf.msk [true, true, true, true, true, true, false] (ih v0 v1 v2 v3 v4 x15 M12)
        · refine r_iload (dt_NS_endings.at 46 rfl) rfl ?_
          refine r_iload_n (dt_NS_endings.at 47 rfl) rfl ?_
          refine r_icmp_ge (tgt := 99) (dt_NS_endings.at 48 rfl) (by decide) ?_ ?_
          · refine r_iincn (v := 1) (dt_NS_endings.at 50 rfl) (by decide) rfl (by decide) (fun y => [.ref v0, .int v1, .int v2, .int v3, .int v4, .int y, .int x14]) (fun _ => rfl) (fun x16 => ?_)
            refine r_goto (tgt := 58) (dt_NS_endings.at 51 rfl) (by decide) ?_
            exact Rf.msk [true, true, true, true, true, true, false] (ih v0 v1 v2 v3 v4 x16 M12)
          · refine r_iincn (v := 1) (dt_NS_endings.at 49 rfl) (by decide) rfl (by decide) (fun y => [.ref v0, .int v1, .int v2, .int y, .int v4, .int v5, .int x14]) (fun _ => rfl) (fun x17 => ?_)
            refine r_iincn (v := 1) (dt_NS_endings.at 50 rfl) (by decide) rfl (by decide) (fun y => [.ref v0, .int v1, .int v2, .int x17, .int v4, .int y, .int x14]) (fun _ => rfl) (fun x18 => ?_)
            refine r_goto (tgt := 58) (dt_NS_endings.at 51 rfl) (by decide) ?_
            exact Rf.msk [true, true, true, true, true, true, false] (ih v0 v1 v2 x17 v4 x18 M12)
set_option maxRecDepth 20000 in
set_option maxHeartbeats 2000000 in
theorem rf_NS_endings_L37 {G : am_G} {l : Launch}   : ∀ (n : Nat) (v0 : Nat) (v1 : Int32) (v2 : Int32) (v3 : Int32) (v4 : Int32) (M : am_M), Rf G l X_NS_endings 37 [.ref v0, .int v1, .int v2, .int v3, .int v4, .retAddr 0, .retAddr 0] [] M (F_NS_endings_L37 n v0 v1 v2 v3 v4 M) := by
  intro n
  induction n with
  | zero => intro v0 v1 v2 v3 v4 M; exact Rf.no
  | succ n ih =>
    intro v0 v1 v2 v3 v4 M
    unfold F_NS_endings_L37
    refine r_iload (dt_NS_endings.at 23 rfl) rfl ?_
    refine r_ldcw (dt_NS_endings.at 24 rfl) 1000000 wd_907 ?_
    refine r_icmp_ge (tgt := 111) (dt_NS_endings.at 25 rfl) (by decide) ?_ ?_
    · refine r_iload_n (dt_NS_endings.at 54 rfl) rfl ?_
      exact r_iret (dt_NS_endings.at 55 rfl) rfl
    · refine r_aload_n (dt_NS_endings.at 26 rfl) rfl ?_
      refine r_fR (dt_NS_endings.at 27 rfl) fl_NS_46 rfl (fun b5 => ?_)
      refine r_cvI (c := 7) (rest := []) (ct_Walk_stepRoot b5 _) (dt_NS_endings.at 28 rfl) mb_Walk_stepRoot wd_802 wd_803 wd_804 rfl (by decide) rfl rfl (Nat.le_of_ble_eq_true rfl) (fun r7 M6 => ?_)
      refine r_if_eq (tgt := 111) (dt_NS_endings.at 29 rfl) (by decide) ?_ ?_
      · refine r_iload_n (dt_NS_endings.at 54 rfl) rfl ?_
        exact r_iret (dt_NS_endings.at 55 rfl) rfl
      · refine r_iconst (dt_NS_endings.at 30 rfl) 0 (by decide) ?_
        refine r_istore (ls' := [.ref v0, .int v1, .int v2, .int v3, .int v4, .int 0, .retAddr 0]) (dt_NS_endings.at 31 rfl) (by decide) rfl ?_
        exact Rf.msk [true, true, true, true, true, true, false] (rf_NS_endings_L58 (F_NS_endings_L37 n) ih fu v0 v1 v2 v3 v4 0 M6)
set_option maxRecDepth 20000 in
set_option maxHeartbeats 2000000 in
theorem ct_NS_endings {G : am_G} {l : Launch} (a0 : Nat) (p1 : Int32) (p2 : Int32) (M : am_M) : Ct G l y_NS_endings X_NS_endings [.ref a0, .int p1, .int p2] M (F_NS_endings a0 p1 p2 M) := by
  refine Ct.of (by decide +kernel) rfl rfl (Nat.le_of_ble_eq_true rfl) ?_
  unfold F_NS_endings
  show Rf G l X_NS_endings 0 [.ref a0, .int p1, .int p2, .retAddr 0, .retAddr 0, .retAddr 0, .retAddr 0] [] M _
  refine r_aload_n (dt_NS_endings.at 0 rfl) rfl ?_
  refine r_iload_n (dt_NS_endings.at 1 rfl) rfl ?_
  refine r_iload_n (dt_NS_endings.at 2 rfl) rfl ?_
  refine r_cvI (c := 8) (rest := []) (ct_NS_isWindow a0 p1 p2 _) (dt_NS_endings.at 3 rfl) mb_NS_isWindow wd_862 wd_864 wp_26 rfl (by decide) rfl rfl (Nat.le_of_ble_eq_true rfl) (fun r2 M1 => ?_)
  refine r_if_eq (tgt := 18) (dt_NS_endings.at 4 rfl) (by decide) ?_ ?_
  · refine r_bipush (dt_NS_endings.at 10 rfl) (-2) (by decide) ?_
    exact r_iret (dt_NS_endings.at 11 rfl) rfl
  · refine r_iload_n (dt_NS_endings.at 5 rfl) rfl ?_
    refine r_iload_n (dt_NS_endings.at 6 rfl) rfl ?_
    refine r_isub (dt_NS_endings.at 7 rfl) ?_
    refine r_sipush (dt_NS_endings.at 8 rfl) 300 (by decide) ?_
    refine r_icmp_le (tgt := 21) (dt_NS_endings.at 9 rfl) (by decide) ?_ ?_
    · refine r_iconst (dt_NS_endings.at 12 rfl) 0 (by decide) ?_
      refine r_istore_n (ls' := [.ref a0, .int p1, .int p2, .int 0, .retAddr 0, .retAddr 0, .retAddr 0]) (dt_NS_endings.at 13 rfl) (by decide) rfl ?_
      refine r_aload_n (dt_NS_endings.at 14 rfl) rfl ?_
      refine r_fR (dt_NS_endings.at 15 rfl) fl_NS_46 rfl (fun b3 => ?_)
      refine r_iload_n (dt_NS_endings.at 16 rfl) rfl ?_
      refine r_iconst (dt_NS_endings.at 17 rfl) 1 (by decide) ?_
      refine r_isub (dt_NS_endings.at 18 rfl) ?_
      refine r_iload_n (dt_NS_endings.at 19 rfl) rfl ?_
      refine r_cvV (c := 7) (rest := []) (ct_Walk_start b3 (p1 - 1) p2 _) (dt_NS_endings.at 20 rfl) mb_Walk_start wd_906 wd_783 wd_784 rfl (by decide) rfl rfl (Nat.le_of_ble_eq_true rfl) (fun M4 => ?_)
      refine r_iconst (dt_NS_endings.at 21 rfl) 0 (by decide) ?_
      refine r_istore (ls' := [.ref a0, .int p1, .int p2, .int 0, .int 0, .retAddr 0, .retAddr 0]) (dt_NS_endings.at 22 rfl) (by decide) rfl ?_
      exact Rf.msk [true, true, true, true, true, false, false] (rf_NS_endings_L37 fu a0 p1 p2 0 0 M4)
    · refine r_bipush (dt_NS_endings.at 10 rfl) (-2) (by decide) ?_
      exact r_iret (dt_NS_endings.at 11 rfl) rfl
set_option maxRecDepth 20000 in
set_option maxHeartbeats 2000000 in
theorem rf_NS_countComingAndGoing_L39 {G : am_G} {l : Launch} (k19 : Nat → Int32 → Int32 → Int32 → am_M → am_R) (hk19 : ∀ v0 v1 v2 v3 M, Rf G l X_NS_countComingAndGoing 19 [.ref v0, .int v1, .int v2, .int v3, .retAddr 0, .retAddr 0, .retAddr 0, .retAddr 0] [] M (k19 v0 v1 v2 v3 M)) : ∀ (n : Nat) (v0 : Nat) (v1 : Int32) (v2 : Int32) (v3 : Int32) (v4 : Int32) (M : am_M), Rf G l X_NS_countComingAndGoing 39 [.ref v0, .int v1, .int v2, .int v3, .int v4, .retAddr 0, .retAddr 0, .retAddr 0] [] M (F_NS_countComingAndGoing_L39 k19 n v0 v1 v2 v3 v4 M) := by
  intro n
  induction n with
  | zero => intro v0 v1 v2 v3 v4 M; exact Rf.no
  | succ n ih =>
    intro v0 v1 v2 v3 v4 M
    unfold F_NS_countComingAndGoing_L39
    refine r_iload (dt_NS_countComingAndGoing.at 20 rfl) rfl ?_
    refine r_aload_n (dt_NS_countComingAndGoing.at 21 rfl) rfl ?_
    refine r_fR (dt_NS_countComingAndGoing.at 22 rfl) fl_NS_46 rfl (fun b8 => ?_)
    refine r_fI (dt_NS_countComingAndGoing.at 23 rfl) fl_NS_243 rfl (fun x9 => ?_)
    refine r_icmp_ge (tgt := 138) (dt_NS_countComingAndGoing.at 24 rfl) (by decide) ?_ ?_
    · refine r_iincn (v := 1) (dt_NS_countComingAndGoing.at 72 rfl) (by decide) rfl (by decide) (fun y => [.ref v0, .int v1, .int v2, .int y, .int v4, .retAddr 0, .retAddr 0, .retAddr 0]) (fun _ => rfl) (fun x10 => ?_)
      refine r_goto (tgt := 19) (dt_NS_countComingAndGoing.at 73 rfl) (by decide) ?_
      exact Rf.msk [true, true, true, true, false, false, false, false] (hk19 v0 v1 v2 x10 M)
    · refine r_aload_n (dt_NS_countComingAndGoing.at 25 rfl) rfl ?_
      refine r_fR (dt_NS_countComingAndGoing.at 26 rfl) fl_NS_46 rfl (fun b11 => ?_)
      refine r_iload (dt_NS_countComingAndGoing.at 27 rfl) rfl ?_
      refine r_cvR (c := 7) (rest := []) (ct_Walk_shown b11 v4 _) (dt_NS_countComingAndGoing.at 28 rfl) mb_Walk_shown wd_826 wd_827 wd_828 rfl (by decide) rfl rfl (Nat.le_of_ble_eq_true rfl) (fun M12 => ?_) (fun b13 M12 => ?_)
      · refine r_astoreN (ls' := [.ref v0, .int v1, .int v2, .int v3, .int v4, .null, .retAddr 0, .retAddr 0]) (dt_NS_countComingAndGoing.at 29 rfl) (by decide) rfl ?_
        refine r_aloadN (dt_NS_countComingAndGoing.at 30 rfl) rfl ?_
        exact Rf.no
      · refine r_astore (ls' := [.ref v0, .int v1, .int v2, .int v3, .int v4, .ref b13, .retAddr 0, .retAddr 0]) (dt_NS_countComingAndGoing.at 29 rfl) (by decide) rfl ?_
        refine r_aload (dt_NS_countComingAndGoing.at 30 rfl) rfl ?_
        refine r_fI (dt_NS_countComingAndGoing.at 31 rfl) fl_NS_197 rfl (fun x14 => ?_)
        refine r_iload_n (dt_NS_countComingAndGoing.at 32 rfl) rfl ?_
        refine r_csI (rest := []) (ct_Math_max x14 v1 _) (dt_NS_countComingAndGoing.at 33 rfl) mb_Math_max wd_729 wd_655 (by decide) rfl rfl (Nat.le_of_ble_eq_true rfl) (fun r16 M15 => ?_)
        refine r_iload_n (dt_NS_countComingAndGoing.at 34 rfl) rfl ?_
        refine r_isub (dt_NS_countComingAndGoing.at 35 rfl) ?_
        refine r_nmi (fun x17 => ?_)
        refine r_istore (ls' := [.ref v0, .int v1, .int v2, .int v3, .int v4, .ref b13, .int x17, .retAddr 0]) (dt_NS_countComingAndGoing.at 36 rfl) (by decide) rfl ?_
        refine r_aload (dt_NS_countComingAndGoing.at 37 rfl) rfl ?_
        refine r_fI (dt_NS_countComingAndGoing.at 38 rfl) fl_NS_200 rfl (fun x18 => ?_)
        refine r_iload_n (dt_NS_countComingAndGoing.at 39 rfl) rfl ?_
        refine r_csI (rest := []) (ct_Math_min x18 v2 _) (dt_NS_countComingAndGoing.at 40 rfl) mb_Math_min wd_753 wd_334 (by decide) rfl rfl (Nat.le_of_ble_eq_true rfl) (fun r20 M19 => ?_)
        refine r_iload_n (dt_NS_countComingAndGoing.at 41 rfl) rfl ?_
        refine r_isub (dt_NS_countComingAndGoing.at 42 rfl) ?_
        refine r_nmi (fun x21 => ?_)
        refine r_istore (ls' := [.ref v0, .int v1, .int v2, .int v3, .int v4, .ref b13, .int x17, .int x21]) (dt_NS_countComingAndGoing.at 43 rfl) (by decide) rfl ?_
        refine r_iload (dt_NS_countComingAndGoing.at 44 rfl) rfl ?_
        refine r_if_lt (tgt := 132) (dt_NS_countComingAndGoing.at 45 rfl) (by decide) ?_ ?_
        · refine r_iincn (v := 1) (dt_NS_countComingAndGoing.at 70 rfl) (by decide) rfl (by decide) (fun y => [.ref v0, .int v1, .int v2, .int v3, .int y, .ref b13, .int x17, .int x21]) (fun _ => rfl) (fun x22 => ?_)
          refine r_goto (tgt := 39) (dt_NS_countComingAndGoing.at 71 rfl) (by decide) ?_
          exact Rf.msk [true, true, true, true, true, false, false, false] (ih v0 v1 v2 v3 x22 M19)
        · refine r_iload (dt_NS_countComingAndGoing.at 46 rfl) rfl ?_
          refine r_iload (dt_NS_countComingAndGoing.at 47 rfl) rfl ?_
          refine r_icmp_ge (tgt := 132) (dt_NS_countComingAndGoing.at 48 rfl) (by decide) ?_ ?_
          · refine r_iincn (v := 1) (dt_NS_countComingAndGoing.at 70 rfl) (by decide) rfl (by decide) (fun y => [.ref v0, .int v1, .int v2, .int v3, .int y, .ref b13, .int x17, .int x21]) (fun _ => rfl) (fun x23 => ?_)
            refine r_goto (tgt := 39) (dt_NS_countComingAndGoing.at 71 rfl) (by decide) ?_
            exact Rf.msk [true, true, true, true, true, false, false, false] (ih v0 v1 v2 v3 x23 M19)
          · refine r_iload (dt_NS_countComingAndGoing.at 49 rfl) rfl ?_
            refine r_aload_n (dt_NS_countComingAndGoing.at 50 rfl) rfl ?_
            refine r_fR (dt_NS_countComingAndGoing.at 51 rfl) fl_NS_69 rfl (fun b24 => ?_)
            refine r_aN (dt_NS_countComingAndGoing.at 52 rfl) (fun x25 => ?_)
            refine r_icmp_ge (tgt := 132) (dt_NS_countComingAndGoing.at 53 rfl) (by decide) ?_ ?_
            · refine r_iincn (v := 1) (dt_NS_countComingAndGoing.at 70 rfl) (by decide) rfl (by decide) (fun y => [.ref v0, .int v1, .int v2, .int v3, .int y, .ref b13, .int x17, .int x21]) (fun _ => rfl) (fun x26 => ?_)
              refine r_goto (tgt := 39) (dt_NS_countComingAndGoing.at 71 rfl) (by decide) ?_
              exact Rf.msk [true, true, true, true, true, false, false, false] (ih v0 v1 v2 v3 x26 M19)
            · refine r_aload_n (dt_NS_countComingAndGoing.at 54 rfl) rfl ?_
              refine r_fR (dt_NS_countComingAndGoing.at 55 rfl) fl_NS_69 rfl (fun b27 => ?_)
              refine r_iload (dt_NS_countComingAndGoing.at 56 rfl) rfl ?_
              refine r_dup2 (dt_NS_countComingAndGoing.at 57 rfl) rfl rfl ?_
              refine r_aI (dt_NS_countComingAndGoing.at 58 rfl) (fun x28 => ?_)
              refine r_iconst (dt_NS_countComingAndGoing.at 59 rfl) 1 (by decide) ?_
              refine r_iadd (dt_NS_countComingAndGoing.at 60 rfl) ?_
              refine r_tI (dt_NS_countComingAndGoing.at 61 rfl) (fun M29 => ?_)
              refine r_aload_n (dt_NS_countComingAndGoing.at 62 rfl) rfl ?_
              refine r_fR (dt_NS_countComingAndGoing.at 63 rfl) fl_NS_69 rfl (fun b30 => ?_)
              refine r_iload (dt_NS_countComingAndGoing.at 64 rfl) rfl ?_
              refine r_dup2 (dt_NS_countComingAndGoing.at 65 rfl) rfl rfl ?_
              refine r_aI (dt_NS_countComingAndGoing.at 66 rfl) (fun x31 => ?_)
              refine r_iconst (dt_NS_countComingAndGoing.at 67 rfl) 1 (by decide) ?_
              refine r_isub (dt_NS_countComingAndGoing.at 68 rfl) ?_
              refine r_tI (dt_NS_countComingAndGoing.at 69 rfl) (fun M32 => ?_)
              refine r_iincn (v := 1) (dt_NS_countComingAndGoing.at 70 rfl) (by decide) rfl (by decide) (fun y => [.ref v0, .int v1, .int v2, .int v3, .int y, .ref b13, .int x17, .int x21]) (fun _ => rfl) (fun x33 => ?_)
              refine r_goto (tgt := 39) (dt_NS_countComingAndGoing.at 71 rfl) (by decide) ?_
              exact Rf.msk [true, true, true, true, true, false, false, false] (ih v0 v1 v2 v3 x33 M32)
set_option maxRecDepth 20000 in
set_option maxHeartbeats 2000000 in
theorem rf_NS_countComingAndGoing_L19 {G : am_G} {l : Launch}   : ∀ (n : Nat) (v0 : Nat) (v1 : Int32) (v2 : Int32) (v3 : Int32) (M : am_M), Rf G l X_NS_countComingAndGoing 19 [.ref v0, .int v1, .int v2, .int v3, .retAddr 0, .retAddr 0, .retAddr 0, .retAddr 0] [] M (F_NS_countComingAndGoing_L19 n v0 v1 v2 v3 M) := by
  intro n
  induction n with
  | zero => intro v0 v1 v2 v3 M; exact Rf.no
  | succ n ih =>
    intro v0 v1 v2 v3 M
    unfold F_NS_countComingAndGoing_L19
    refine r_iload_n (dt_NS_countComingAndGoing.at 11 rfl) rfl ?_
    refine r_ldcw (dt_NS_countComingAndGoing.at 12 rfl) 1000000 wd_907 ?_
    refine r_icmp_ge (tgt := 144) (dt_NS_countComingAndGoing.at 13 rfl) (by decide) ?_ ?_
    · exact r_vret (dt_NS_countComingAndGoing.at 74 rfl) rfl
    · refine r_aload_n (dt_NS_countComingAndGoing.at 14 rfl) rfl ?_
      refine r_fR (dt_NS_countComingAndGoing.at 15 rfl) fl_NS_46 rfl (fun b5 => ?_)
      refine r_cvI (c := 7) (rest := []) (ct_Walk_stepRoot b5 _) (dt_NS_countComingAndGoing.at 16 rfl) mb_Walk_stepRoot wd_802 wd_803 wd_804 rfl (by decide) rfl rfl (Nat.le_of_ble_eq_true rfl) (fun r7 M6 => ?_)
      refine r_if_eq (tgt := 144) (dt_NS_countComingAndGoing.at 17 rfl) (by decide) ?_ ?_
      · exact r_vret (dt_NS_countComingAndGoing.at 74 rfl) rfl
      · refine r_iconst (dt_NS_countComingAndGoing.at 18 rfl) 0 (by decide) ?_
        refine r_istore (ls' := [.ref v0, .int v1, .int v2, .int v3, .int 0, .retAddr 0, .retAddr 0, .retAddr 0]) (dt_NS_countComingAndGoing.at 19 rfl) (by decide) rfl ?_
        exact Rf.msk [true, true, true, true, true, false, false, false] (rf_NS_countComingAndGoing_L39 (F_NS_countComingAndGoing_L19 n) ih fu v0 v1 v2 v3 0 M6)
set_option maxRecDepth 20000 in
set_option maxHeartbeats 2000000 in
theorem ct_NS_countComingAndGoing {G : am_G} {l : Launch} (a0 : Nat) (p1 : Int32) (p2 : Int32) (M : am_M) : Ct G l y_NS_countComingAndGoing X_NS_countComingAndGoing [.ref a0, .int p1, .int p2] M (F_NS_countComingAndGoing a0 p1 p2 M) := by
  refine Ct.of (by decide +kernel) rfl rfl (Nat.le_of_ble_eq_true rfl) ?_
  unfold F_NS_countComingAndGoing
  show Rf G l X_NS_countComingAndGoing 0 [.ref a0, .int p1, .int p2, .retAddr 0, .retAddr 0, .retAddr 0, .retAddr 0, .retAddr 0] [] M _
  refine r_aload_n (dt_NS_countComingAndGoing.at 0 rfl) rfl ?_
  refine r_fR (dt_NS_countComingAndGoing.at 1 rfl) fl_NS_69 rfl (fun b1 => ?_)
  refine r_iconst (dt_NS_countComingAndGoing.at 2 rfl) 0 (by decide) ?_
  refine r_csV (rest := []) (ct_Arr_fill b1 0 _) (dt_NS_countComingAndGoing.at 3 rfl) mb_Arr_fill wd_916 wd_341 (by decide) rfl rfl (Nat.le_of_ble_eq_true rfl) (fun M2 => ?_)
  refine r_aload_n (dt_NS_countComingAndGoing.at 4 rfl) rfl ?_
  refine r_fR (dt_NS_countComingAndGoing.at 5 rfl) fl_NS_46 rfl (fun b3 => ?_)
  refine r_iload_n (dt_NS_countComingAndGoing.at 6 rfl) rfl ?_
  refine r_iload_n (dt_NS_countComingAndGoing.at 7 rfl) rfl ?_
  refine r_cvV (c := 7) (rest := []) (ct_Walk_start b3 p1 p2 _) (dt_NS_countComingAndGoing.at 8 rfl) mb_Walk_start wd_906 wd_783 wd_784 rfl (by decide) rfl rfl (Nat.le_of_ble_eq_true rfl) (fun M4 => ?_)
  refine r_iconst (dt_NS_countComingAndGoing.at 9 rfl) 0 (by decide) ?_
  refine r_istore_n (ls' := [.ref a0, .int p1, .int p2, .int 0, .retAddr 0, .retAddr 0, .retAddr 0, .retAddr 0]) (dt_NS_countComingAndGoing.at 10 rfl) (by decide) rfl ?_
  exact Rf.msk [true, true, true, true, false, false, false, false] (rf_NS_countComingAndGoing_L19 fu a0 p1 p2 0 M4)
set_option maxRecDepth 20000 in
set_option maxHeartbeats 2000000 in
theorem rf_NS_peak_L52 {G : am_G} {l : Launch}   : ∀ (n : Nat) (v0 : Nat) (v1 : Int32) (v2 : Int32) (v3 : Int32) (v4 : Int32) (v5 : Int32) (v6 : Int32) (v7 : Int32) (M : am_M), Rf G l X_NS_peak 52 [.ref v0, .int v1, .int v2, .int v3, .int v4, .int v5, .int v6, .int v7] [] M (F_NS_peak_L52 n v0 v1 v2 v3 v4 v5 v6 v7 M) := by
  intro n
  induction n with
  | zero => intro v0 v1 v2 v3 v4 v5 v6 v7 M; exact Rf.no
  | succ n ih =>
    intro v0 v1 v2 v3 v4 v5 v6 v7 M
    unfold F_NS_peak_L52
    refine r_iload (dt_NS_peak.at 32 rfl) rfl ?_
    refine r_iload_n (dt_NS_peak.at 33 rfl) rfl ?_
    refine r_icmp_ge (tgt := 105) (dt_NS_peak.at 34 rfl) (by decide) ?_ ?_
    · refine r_iload_n (dt_NS_peak.at 60 rfl) rfl ?_
      refine r_if_ne (tgt := 114) (dt_NS_peak.at 61 rfl) (by decide) ?_ ?_
      · refine r_iload (dt_NS_peak.at 62 rfl) rfl ?_
        refine r_goto (tgt := 116) (dt_NS_peak.at 63 rfl) (by decide) ?_
        exact r_iret (dt_NS_peak.at 65 rfl) rfl
      · refine r_iload (dt_NS_peak.at 64 rfl) rfl ?_
        exact r_iret (dt_NS_peak.at 65 rfl) rfl
    · refine r_iload (dt_NS_peak.at 35 rfl) rfl ?_
      refine r_iload_n (dt_NS_peak.at 36 rfl) rfl ?_
      refine r_isub (dt_NS_peak.at 37 rfl) ?_
      refine r_aload_n (dt_NS_peak.at 38 rfl) rfl ?_
      refine r_fR (dt_NS_peak.at 39 rfl) fl_NS_69 rfl (fun b4 => ?_)
      refine r_aN (dt_NS_peak.at 40 rfl) (fun x5 => ?_)
      refine r_icmp_ge (tgt := 105) (dt_NS_peak.at 41 rfl) (by decide) ?_ ?_
      · refine r_iload_n (dt_NS_peak.at 60 rfl) rfl ?_
        refine r_if_ne (tgt := 114) (dt_NS_peak.at 61 rfl) (by decide) ?_ ?_
        · refine r_iload (dt_NS_peak.at 62 rfl) rfl ?_
          refine r_goto (tgt := 116) (dt_NS_peak.at 63 rfl) (by decide) ?_
          exact r_iret (dt_NS_peak.at 65 rfl) rfl
        · refine r_iload (dt_NS_peak.at 64 rfl) rfl ?_
          exact r_iret (dt_NS_peak.at 65 rfl) rfl
      · refine r_iload (dt_NS_peak.at 42 rfl) rfl ?_
        refine r_aload_n (dt_NS_peak.at 43 rfl) rfl ?_
        refine r_fR (dt_NS_peak.at 44 rfl) fl_NS_69 rfl (fun b6 => ?_)
        refine r_iload (dt_NS_peak.at 45 rfl) rfl ?_
        refine r_iload_n (dt_NS_peak.at 46 rfl) rfl ?_
        refine r_isub (dt_NS_peak.at 47 rfl) ?_
        refine r_aI (dt_NS_peak.at 48 rfl) (fun x7 => ?_)
        refine r_iadd (dt_NS_peak.at 49 rfl) ?_
        refine r_nmi (fun x8 => ?_)
        refine r_istore (ls' := [.ref v0, .int v1, .int v2, .int v3, .int x8, .int v5, .int v6, .int v7]) (dt_NS_peak.at 50 rfl) (by decide) rfl ?_
        refine r_iload (dt_NS_peak.at 51 rfl) rfl ?_
        refine r_iload (dt_NS_peak.at 52 rfl) rfl ?_
        refine r_icmp_le (tgt := 99) (dt_NS_peak.at 53 rfl) (by decide) ?_ ?_
        · refine r_iincn (v := 1) (dt_NS_peak.at 58 rfl) (by decide) rfl (by decide) (fun y => [.ref v0, .int v1, .int v2, .int v3, .int x8, .int v5, .int v6, .int y]) (fun _ => rfl) (fun x9 => ?_)
          refine r_goto (tgt := 52) (dt_NS_peak.at 59 rfl) (by decide) ?_
          exact Rf.msk [true, true, true, true, true, true, true, true] (ih v0 v1 v2 v3 x8 v5 v6 x9 M)
        · refine r_iload (dt_NS_peak.at 54 rfl) rfl ?_
          refine r_istore (ls' := [.ref v0, .int v1, .int v2, .int v3, .int x8, .int x8, .int v6, .int v7]) (dt_NS_peak.at 55 rfl) (by decide) rfl ?_
          refine r_iload (dt_NS_peak.at 56 rfl) rfl ?_
          refine r_istore (ls' := [.ref v0, .int v1, .int v2, .int v3, .int x8, .int x8, .int v7, .int v7]) (dt_NS_peak.at 57 rfl) (by decide) rfl ?_
          refine r_iincn (v := 1) (dt_NS_peak.at 58 rfl) (by decide) rfl (by decide) (fun y => [.ref v0, .int v1, .int v2, .int v3, .int x8, .int x8, .int v7, .int y]) (fun _ => rfl) (fun x10 => ?_)
          refine r_goto (tgt := 52) (dt_NS_peak.at 59 rfl) (by decide) ?_
          exact Rf.msk [true, true, true, true, true, true, true, true] (ih v0 v1 v2 v3 x8 x8 v7 x10 M)
set_option maxRecDepth 20000 in
set_option maxHeartbeats 2000000 in
theorem ct_NS_peak {G : am_G} {l : Launch} (a0 : Nat) (p1 : Int32) (p2 : Int32) (p3 : Int32) (M : am_M) : Ct G l y_NS_peak X_NS_peak [.ref a0, .int p1, .int p2, .int p3] M (F_NS_peak a0 p1 p2 p3 M) := by
  refine Ct.of (by decide +kernel) rfl rfl (Nat.le_of_ble_eq_true rfl) ?_
  unfold F_NS_peak
  show Rf G l X_NS_peak 0 [.ref a0, .int p1, .int p2, .int p3, .retAddr 0, .retAddr 0, .retAddr 0, .retAddr 0] [] M _
  refine r_aload_n (dt_NS_peak.at 0 rfl) rfl ?_
  refine r_iload_n (dt_NS_peak.at 1 rfl) rfl ?_
  refine r_iload_n (dt_NS_peak.at 2 rfl) rfl ?_
  refine r_cvI (c := 8) (rest := []) (ct_NS_isWindow a0 p1 p2 _) (dt_NS_peak.at 3 rfl) mb_NS_isWindow wd_862 wd_864 wp_26 rfl (by decide) rfl rfl (Nat.le_of_ble_eq_true rfl) (fun r2 M1 => ?_)
  refine r_if_eq (tgt := 31) (dt_NS_peak.at 4 rfl) (by decide) ?_ ?_
  · refine r_bipush (dt_NS_peak.at 18 rfl) (-2) (by decide) ?_
    exact r_iret (dt_NS_peak.at 19 rfl) rfl
  · refine r_iload_n (dt_NS_peak.at 5 rfl) rfl ?_
    refine r_iload_n (dt_NS_peak.at 6 rfl) rfl ?_
    refine r_icmp_eq (tgt := 31) (dt_NS_peak.at 7 rfl) (by decide) ?_ ?_
    · refine r_bipush (dt_NS_peak.at 18 rfl) (-2) (by decide) ?_
      exact r_iret (dt_NS_peak.at 19 rfl) rfl
    · refine r_iload_n (dt_NS_peak.at 8 rfl) rfl ?_
      refine r_iload_n (dt_NS_peak.at 9 rfl) rfl ?_
      refine r_isub (dt_NS_peak.at 10 rfl) ?_
      refine r_bipush (dt_NS_peak.at 11 rfl) 60 (by decide) ?_
      refine r_icmp_gt (tgt := 31) (dt_NS_peak.at 12 rfl) (by decide) ?_ ?_
      · refine r_bipush (dt_NS_peak.at 18 rfl) (-2) (by decide) ?_
        exact r_iret (dt_NS_peak.at 19 rfl) rfl
      · refine r_iload_n (dt_NS_peak.at 13 rfl) rfl ?_
        refine r_if_lt (tgt := 31) (dt_NS_peak.at 14 rfl) (by decide) ?_ ?_
        · refine r_bipush (dt_NS_peak.at 18 rfl) (-2) (by decide) ?_
          exact r_iret (dt_NS_peak.at 19 rfl) rfl
        · refine r_iload_n (dt_NS_peak.at 15 rfl) rfl ?_
          refine r_iconst (dt_NS_peak.at 16 rfl) 1 (by decide) ?_
          refine r_icmp_le (tgt := 34) (dt_NS_peak.at 17 rfl) (by decide) ?_ ?_
          · refine r_aload_n (dt_NS_peak.at 20 rfl) rfl ?_
            refine r_iload_n (dt_NS_peak.at 21 rfl) rfl ?_
            refine r_iload_n (dt_NS_peak.at 22 rfl) rfl ?_
            refine r_cvV (c := 8) (rest := []) (ct_NS_countComingAndGoing a0 p1 p2 _) (dt_NS_peak.at 23 rfl) mb_NS_countComingAndGoing wd_912 wd_914 wp_27 rfl (by decide) rfl rfl (Nat.le_of_ble_eq_true rfl) (fun M3 => ?_)
            refine r_iconst (dt_NS_peak.at 24 rfl) 0 (by decide) ?_
            refine r_istore (ls' := [.ref a0, .int p1, .int p2, .int p3, .int 0, .retAddr 0, .retAddr 0, .retAddr 0]) (dt_NS_peak.at 25 rfl) (by decide) rfl ?_
            refine r_iconst (dt_NS_peak.at 26 rfl) (-1) (by decide) ?_
            refine r_istore (ls' := [.ref a0, .int p1, .int p2, .int p3, .int 0, .int (-1), .retAddr 0, .retAddr 0]) (dt_NS_peak.at 27 rfl) (by decide) rfl ?_
            refine r_iload_n (dt_NS_peak.at 28 rfl) rfl ?_
            refine r_istore (ls' := [.ref a0, .int p1, .int p2, .int p3, .int 0, .int (-1), .int p1, .retAddr 0]) (dt_NS_peak.at 29 rfl) (by decide) rfl ?_
            refine r_iload_n (dt_NS_peak.at 30 rfl) rfl ?_
            refine r_istore (ls' := [.ref a0, .int p1, .int p2, .int p3, .int 0, .int (-1), .int p1, .int p1]) (dt_NS_peak.at 31 rfl) (by decide) rfl ?_
            exact Rf.msk [true, true, true, true, true, true, true, true] (rf_NS_peak_L52 fu a0 p1 p2 p3 0 (-1) p1 p1 M3)
          · refine r_bipush (dt_NS_peak.at 18 rfl) (-2) (by decide) ?_
            exact r_iret (dt_NS_peak.at 19 rfl) rfl
set_option maxRecDepth 20000 in
set_option maxHeartbeats 2000000 in
theorem ct_Scen_isCell {G : am_G} {l : Launch} (a0 : Nat) (p1 : Int32) (p2 : Int32) (M : am_M) : Ct G l y_Scen_isCell X_Scen_isCell [.ref a0, .int p1, .int p2] M (F_Scen_isCell a0 p1 p2 M) := by
  refine Ct.of (by decide +kernel) rfl rfl (Nat.le_of_ble_eq_true rfl) ?_
  unfold F_Scen_isCell
  show Rf G l X_Scen_isCell 0 [.ref a0, .int p1, .int p2] [] M _
  refine r_iload_n (dt_Scen_isCell.at 0 rfl) rfl ?_
  refine r_if_lt (tgt := 17) (dt_Scen_isCell.at 1 rfl) (by decide) ?_ ?_
  · refine r_iconst (dt_Scen_isCell.at 9 rfl) 0 (by decide) ?_
    exact r_zret (dt_Scen_isCell.at 10 rfl) rfl rfl
  · refine r_iload_n (dt_Scen_isCell.at 2 rfl) rfl ?_
    refine r_aload_n (dt_Scen_isCell.at 3 rfl) rfl ?_
    refine r_iload_n (dt_Scen_isCell.at 4 rfl) rfl ?_
    refine r_cvI (c := 5) (rest := [.int p2]) (ct_Scen_cellsAlong a0 p1 _) (dt_Scen_isCell.at 5 rfl) mb_Scen_cellsAlong wd_925 wd_491 wd_492 rfl (by decide) rfl rfl (Nat.le_of_ble_eq_true rfl) (fun r2 M1 => ?_)
    refine r_icmp_ge (tgt := 17) (dt_Scen_isCell.at 6 rfl) (by decide) ?_ ?_
    · refine r_iconst (dt_Scen_isCell.at 9 rfl) 0 (by decide) ?_
      exact r_zret (dt_Scen_isCell.at 10 rfl) rfl rfl
    · refine r_iconst (dt_Scen_isCell.at 7 rfl) 1 (by decide) ?_
      refine r_goto (tgt := 18) (dt_Scen_isCell.at 8 rfl) (by decide) ?_
      exact r_zret (dt_Scen_isCell.at 10 rfl) rfl rfl
set_option maxRecDepth 20000 in
set_option maxHeartbeats 2000000 in
theorem rf_Sprk_firstInColumn_L20 {G : am_G} {l : Launch}   : ∀ (n : Nat) (v0 : Nat) (v2 : Int32) (v3 : Int32) (v4 : Int32) (v5 : Int32) (v6 : Int32) (M : am_M), Rf G l X_Sprk_firstInColumn 20 [.ref v0, .retAddr 0, .int v2, .int v3, .int v4, .int v5, .int v6, .retAddr 0] [] M (F_Sprk_firstInColumn_L20 n v0 v2 v3 v4 v5 v6 M) := by
  intro n
  induction n with
  | zero => intro v0 v2 v3 v4 v5 v6 M; exact Rf.no
  | succ n ih =>
    intro v0 v2 v3 v4 v5 v6 M
    unfold F_Sprk_firstInColumn_L20
    refine r_iload (dt_Sprk_firstInColumn.at 10 rfl) rfl ?_
    refine r_iload (dt_Sprk_firstInColumn.at 11 rfl) rfl ?_
    refine r_icmp_ge (tgt := 74) (dt_Sprk_firstInColumn.at 12 rfl) (by decide) ?_ ?_
    · refine r_iload_n (dt_Sprk_firstInColumn.at 38 rfl) rfl ?_
      exact r_iret (dt_Sprk_firstInColumn.at 39 rfl) rfl
    · refine r_iload (dt_Sprk_firstInColumn.at 13 rfl) rfl ?_
      refine r_aload_n (dt_Sprk_firstInColumn.at 14 rfl) rfl ?_
      refine r_fI (dt_Sprk_firstInColumn.at 15 rfl) fl_Sprk_41 rfl (fun x7 => ?_)
      refine r_isub (dt_Sprk_firstInColumn.at 16 rfl) ?_
      refine r_nmi (fun x8 => ?_)
      refine r_istore (ls' := [.ref v0, .retAddr 0, .int v2, .int v3, .int v4, .int v5, .int v6, .int x8]) (dt_Sprk_firstInColumn.at 17 rfl) (by decide) rfl ?_
      refine r_aload_n (dt_Sprk_firstInColumn.at 18 rfl) rfl ?_
      refine r_iconst (dt_Sprk_firstInColumn.at 19 rfl) 0 (by decide) ?_
      refine r_iload (dt_Sprk_firstInColumn.at 20 rfl) rfl ?_
      refine r_cvI (c := 6) (rest := []) (ct_Sprk_placeAt v0 0 x8 _) (dt_Sprk_firstInColumn.at 21 rfl) mb_Sprk_placeAt wd_689 wd_690 wd_691 rfl (by decide) rfl rfl (Nat.le_of_ble_eq_true rfl) (fun r10 M9 => ?_)
      refine r_bipush (dt_Sprk_firstInColumn.at 22 rfl) 8 (by decide) ?_
      refine r_idivk (dt_Sprk_firstInColumn.at 23 rfl) (by decide) ?_
      refine r_iload_n (dt_Sprk_firstInColumn.at 24 rfl) rfl ?_
      refine r_icmp_ne (tgt := 68) (dt_Sprk_firstInColumn.at 25 rfl) (by decide) ?_ ?_
      · refine r_aload_n (dt_Sprk_firstInColumn.at 26 rfl) rfl ?_
        refine r_iconst (dt_Sprk_firstInColumn.at 27 rfl) 1 (by decide) ?_
        refine r_iload (dt_Sprk_firstInColumn.at 28 rfl) rfl ?_
        refine r_cvI (c := 6) (rest := []) (ct_Sprk_placeAt v0 1 x8 _) (dt_Sprk_firstInColumn.at 29 rfl) mb_Sprk_placeAt wd_689 wd_690 wd_691 rfl (by decide) rfl rfl (Nat.le_of_ble_eq_true rfl) (fun r12 M11 => ?_)
        refine r_bipush (dt_Sprk_firstInColumn.at 30 rfl) 8 (by decide) ?_
        refine r_idivk (dt_Sprk_firstInColumn.at 31 rfl) (by decide) ?_
        refine r_iload (dt_Sprk_firstInColumn.at 32 rfl) rfl ?_
        refine r_icmp_ne (tgt := 68) (dt_Sprk_firstInColumn.at 33 rfl) (by decide) ?_ ?_
        · refine r_iload (dt_Sprk_firstInColumn.at 34 rfl) rfl ?_
          exact r_iret (dt_Sprk_firstInColumn.at 35 rfl) rfl
        · refine r_iincn (v := 1) (dt_Sprk_firstInColumn.at 36 rfl) (by decide) rfl (by decide) (fun y => [.ref v0, .retAddr 0, .int v2, .int v3, .int v4, .int v5, .int y, .int x8]) (fun _ => rfl) (fun x13 => ?_)
          refine r_goto (tgt := 20) (dt_Sprk_firstInColumn.at 37 rfl) (by decide) ?_
          exact Rf.msk [true, false, true, true, true, true, true, false] (ih v0 v2 v3 v4 v5 x13 M11)
      · refine r_iincn (v := 1) (dt_Sprk_firstInColumn.at 36 rfl) (by decide) rfl (by decide) (fun y => [.ref v0, .retAddr 0, .int v2, .int v3, .int v4, .int v5, .int y, .int x8]) (fun _ => rfl) (fun x14 => ?_)
        refine r_goto (tgt := 20) (dt_Sprk_firstInColumn.at 37 rfl) (by decide) ?_
        exact Rf.msk [true, false, true, true, true, true, true, false] (ih v0 v2 v3 v4 v5 x14 M9)
set_option maxRecDepth 20000 in
set_option maxHeartbeats 2000000 in
theorem ct_Sprk_firstInColumn {G : am_G} {l : Launch} (a0 : Nat) (p1 : Int32) (p2 : Int32) (p3 : Int32) (p4 : Int32) (M : am_M) : Ct G l y_Sprk_firstInColumn X_Sprk_firstInColumn [.ref a0, .int p1, .int p2, .int p3, .int p4] M (F_Sprk_firstInColumn a0 p1 p2 p3 p4 M) := by
  refine Ct.of (by decide +kernel) rfl rfl (Nat.le_of_ble_eq_true rfl) ?_
  unfold F_Sprk_firstInColumn
  show Rf G l X_Sprk_firstInColumn 0 [.ref a0, .int p1, .int p2, .int p3, .int p4, .retAddr 0, .retAddr 0, .retAddr 0] [] M _
  refine r_iload_n (dt_Sprk_firstInColumn.at 0 rfl) rfl ?_
  refine r_aload_n (dt_Sprk_firstInColumn.at 1 rfl) rfl ?_
  refine r_fI (dt_Sprk_firstInColumn.at 2 rfl) fl_Sprk_51 rfl (fun x1 => ?_)
  refine r_csI (rest := []) (ct_Math_min p2 x1 _) (dt_Sprk_firstInColumn.at 3 rfl) mb_Math_min wd_682 wd_334 (by decide) rfl rfl (Nat.le_of_ble_eq_true rfl) (fun r3 M2 => ?_)
  refine r_istore (ls' := [.ref a0, .int p1, .int p2, .int p3, .int p4, .int r3, .retAddr 0, .retAddr 0]) (dt_Sprk_firstInColumn.at 4 rfl) (by decide) rfl ?_
  refine r_iload_n (dt_Sprk_firstInColumn.at 5 rfl) rfl ?_
  refine r_aload_n (dt_Sprk_firstInColumn.at 6 rfl) rfl ?_
  refine r_fI (dt_Sprk_firstInColumn.at 7 rfl) fl_Sprk_41 rfl (fun x4 => ?_)
  refine r_csI (rest := []) (ct_Math_max p1 x4 _) (dt_Sprk_firstInColumn.at 8 rfl) mb_Math_max wd_738 wd_655 (by decide) rfl rfl (Nat.le_of_ble_eq_true rfl) (fun r6 M5 => ?_)
  refine r_istore (ls' := [.ref a0, .int p1, .int p2, .int p3, .int p4, .int r3, .int r6, .retAddr 0]) (dt_Sprk_firstInColumn.at 9 rfl) (by decide) rfl ?_
  exact Rf.msk [true, false, true, true, true, true, true, false] (rf_Sprk_firstInColumn_L20 fu a0 p2 p3 p4 r3 r6 M5)
set_option maxRecDepth 20000 in
set_option maxHeartbeats 2000000 in
theorem rf_NS_firstIn_L84 {G : am_G} {l : Launch} (k63 : Nat → Int32 → Int32 → Int32 → Int32 → Int32 → Int32 → am_M → am_R) (hk63 : ∀ v0 v1 v2 v3 v4 v5 v6 M, Rf G l X_NS_firstIn 63 [.ref v0, .int v1, .int v2, .int v3, .int v4, .int v5, .int v6, .retAddr 0] [] M (k63 v0 v1 v2 v3 v4 v5 v6 M)) : ∀ (n : Nat) (v0 : Nat) (v1 : Int32) (v2 : Int32) (v3 : Int32) (v4 : Int32) (v5 : Int32) (v6 : Int32) (v7 : Int32) (M : am_M), Rf G l X_NS_firstIn 84 [.ref v0, .int v1, .int v2, .int v3, .int v4, .int v5, .int v6, .int v7] [] M (F_NS_firstIn_L84 k63 n v0 v1 v2 v3 v4 v5 v6 v7 M) := by
  intro n
  induction n with
  | zero => intro v0 v1 v2 v3 v4 v5 v6 v7 M; exact Rf.no
  | succ n ih =>
    intro v0 v1 v2 v3 v4 v5 v6 v7 M
    unfold F_NS_firstIn_L84
    refine r_iload (dt_NS_firstIn.at 41 rfl) rfl ?_
    refine r_aload_n (dt_NS_firstIn.at 42 rfl) rfl ?_
    refine r_fR (dt_NS_firstIn.at 43 rfl) fl_NS_46 rfl (fun b16 => ?_)
    refine r_fI (dt_NS_firstIn.at 44 rfl) fl_NS_243 rfl (fun x17 => ?_)
    refine r_icmp_ge (tgt := 121) (dt_NS_firstIn.at 45 rfl) (by decide) ?_ ?_
    · refine r_iincn (v := 1) (dt_NS_firstIn.at 58 rfl) (by decide) rfl (by decide) (fun y => [.ref v0, .int v1, .int v2, .int v3, .int v4, .int v5, .int y, .int v7]) (fun _ => rfl) (fun x18 => ?_)
      refine r_goto (tgt := 63) (dt_NS_firstIn.at 59 rfl) (by decide) ?_
      exact Rf.msk [true, true, true, true, true, true, true, false] (hk63 v0 v1 v2 v3 v4 v5 x18 M)
    · refine r_aload_n (dt_NS_firstIn.at 46 rfl) rfl ?_
      refine r_fR (dt_NS_firstIn.at 47 rfl) fl_NS_46 rfl (fun b19 => ?_)
      refine r_iload (dt_NS_firstIn.at 48 rfl) rfl ?_
      refine r_cvR (c := 7) (rest := []) (ct_Walk_shown b19 v7 _) (dt_NS_firstIn.at 49 rfl) mb_Walk_shown wd_826 wd_827 wd_828 rfl (by decide) rfl rfl (Nat.le_of_ble_eq_true rfl) (fun M20 => ?_) (fun b21 M20 => ?_)
      · refine r_iload_n (dt_NS_firstIn.at 50 rfl) rfl ?_
        refine r_iload (dt_NS_firstIn.at 51 rfl) rfl ?_
        refine r_iload_n (dt_NS_firstIn.at 52 rfl) rfl ?_
        refine r_iload_n (dt_NS_firstIn.at 53 rfl) rfl ?_
        exact Rf.no
      · refine r_iload_n (dt_NS_firstIn.at 50 rfl) rfl ?_
        refine r_iload (dt_NS_firstIn.at 51 rfl) rfl ?_
        refine r_iload_n (dt_NS_firstIn.at 52 rfl) rfl ?_
        refine r_iload_n (dt_NS_firstIn.at 53 rfl) rfl ?_
        refine r_cvI (c := 6) (rest := []) (ct_Sprk_firstInColumn b21 v1 v5 v2 v3 _) (dt_NS_firstIn.at 54 rfl) mb_Sprk_firstInColumn wd_926 wd_927 wd_928 rfl (by decide) rfl rfl (Nat.le_of_ble_eq_true rfl) (fun r23 M22 => ?_)
        refine r_istore (ls' := [.ref v0, .int v1, .int v2, .int v3, .int v4, .int r23, .int v6, .int v7]) (dt_NS_firstIn.at 55 rfl) (by decide) rfl ?_
        refine r_iincn (v := 1) (dt_NS_firstIn.at 56 rfl) (by decide) rfl (by decide) (fun y => [.ref v0, .int v1, .int v2, .int v3, .int v4, .int r23, .int v6, .int y]) (fun _ => rfl) (fun x24 => ?_)
        refine r_goto (tgt := 84) (dt_NS_firstIn.at 57 rfl) (by decide) ?_
        exact Rf.msk [true, true, true, true, true, true, true, true] (ih v0 v1 v2 v3 v4 r23 v6 x24 M22)
set_option maxRecDepth 20000 in
set_option maxHeartbeats 2000000 in
theorem rf_NS_firstIn_L63 {G : am_G} {l : Launch}   : ∀ (n : Nat) (v0 : Nat) (v1 : Int32) (v2 : Int32) (v3 : Int32) (v4 : Int32) (v5 : Int32) (v6 : Int32) (M : am_M), Rf G l X_NS_firstIn 63 [.ref v0, .int v1, .int v2, .int v3, .int v4, .int v5, .int v6, .retAddr 0] [] M (F_NS_firstIn_L63 n v0 v1 v2 v3 v4 v5 v6 M) := by
  intro n
  induction n with
  | zero => intro v0 v1 v2 v3 v4 v5 v6 M; exact Rf.no
  | succ n ih =>
    intro v0 v1 v2 v3 v4 v5 v6 M
    unfold F_NS_firstIn_L63
    refine r_iload (dt_NS_firstIn.at 32 rfl) rfl ?_
    refine r_ldcw (dt_NS_firstIn.at 33 rfl) 1000000 wd_907 ?_
    refine r_icmp_ge (tgt := 127) (dt_NS_firstIn.at 34 rfl) (by decide) ?_ ?_
    · refine r_iload (dt_NS_firstIn.at 60 rfl) rfl ?_
      refine r_iload (dt_NS_firstIn.at 61 rfl) rfl ?_
      refine r_icmp_ge (tgt := 139) (dt_NS_firstIn.at 62 rfl) (by decide) ?_ ?_
      · refine r_iconst (dt_NS_firstIn.at 65 rfl) (-1) (by decide) ?_
        exact r_iret (dt_NS_firstIn.at 66 rfl) rfl
      · refine r_iload (dt_NS_firstIn.at 63 rfl) rfl ?_
        refine r_goto (tgt := 140) (dt_NS_firstIn.at 64 rfl) (by decide) ?_
        exact r_iret (dt_NS_firstIn.at 66 rfl) rfl
    · refine r_aload_n (dt_NS_firstIn.at 35 rfl) rfl ?_
      refine r_fR (dt_NS_firstIn.at 36 rfl) fl_NS_46 rfl (fun b13 => ?_)
      refine r_cvI (c := 7) (rest := []) (ct_Walk_stepRoot b13 _) (dt_NS_firstIn.at 37 rfl) mb_Walk_stepRoot wd_802 wd_803 wd_804 rfl (by decide) rfl rfl (Nat.le_of_ble_eq_true rfl) (fun r15 M14 => ?_)
      refine r_if_eq (tgt := 127) (dt_NS_firstIn.at 38 rfl) (by decide) ?_ ?_
      · refine r_iload (dt_NS_firstIn.at 60 rfl) rfl ?_
        refine r_iload (dt_NS_firstIn.at 61 rfl) rfl ?_
        refine r_icmp_ge (tgt := 139) (dt_NS_firstIn.at 62 rfl) (by decide) ?_ ?_
        · refine r_iconst (dt_NS_firstIn.at 65 rfl) (-1) (by decide) ?_
          exact r_iret (dt_NS_firstIn.at 66 rfl) rfl
        · refine r_iload (dt_NS_firstIn.at 63 rfl) rfl ?_
          refine r_goto (tgt := 140) (dt_NS_firstIn.at 64 rfl) (by decide) ?_
          exact r_iret (dt_NS_firstIn.at 66 rfl) rfl
      · refine r_iconst (dt_NS_firstIn.at 39 rfl) 0 (by decide) ?_
        refine r_istore (ls' := [.ref v0, .int v1, .int v2, .int v3, .int v4, .int v5, .int v6, .int 0]) (dt_NS_firstIn.at 40 rfl) (by decide) rfl ?_
        exact Rf.msk [true, true, true, true, true, true, true, true] (rf_NS_firstIn_L84 (F_NS_firstIn_L63 n) ih fu v0 v1 v2 v3 v4 v5 v6 0 M14)
set_option maxRecDepth 20000 in
set_option maxHeartbeats 2000000 in
theorem ct_NS_firstIn {G : am_G} {l : Launch} (a0 : Nat) (p1 : Int32) (p2 : Int32) (p3 : Int32) (M : am_M) : Ct G l y_NS_firstIn X_NS_firstIn [.ref a0, .int p1, .int p2, .int p3] M (F_NS_firstIn a0 p1 p2 p3 M) := by
  refine Ct.of (by decide +kernel) rfl rfl (Nat.le_of_ble_eq_true rfl) ?_
  unfold F_NS_firstIn
  show Rf G l X_NS_firstIn 0 [.ref a0, .int p1, .int p2, .int p3, .retAddr 0, .retAddr 0, .retAddr 0, .retAddr 0] [] M _
  refine r_iload_n (dt_NS_firstIn.at 0 rfl) rfl ?_
  refine r_csI (rest := []) (ct_NS_isTick p1 _) (dt_NS_firstIn.at 1 rfl) mb_NS_isTick wd_714 wd_715 (by decide) rfl rfl (Nat.le_of_ble_eq_true rfl) (fun r2 M1 => ?_)
  refine r_if_eq (tgt := 31) (dt_NS_firstIn.at 2 rfl) (by decide) ?_ ?_
  · refine r_bipush (dt_NS_firstIn.at 15 rfl) (-2) (by decide) ?_
    exact r_iret (dt_NS_firstIn.at 16 rfl) rfl
  · refine r_aload_n (dt_NS_firstIn.at 3 rfl) rfl ?_
    refine r_fR (dt_NS_firstIn.at 4 rfl) fl_NS_16 rfl (fun b3 => ?_)
    refine r_iconst (dt_NS_firstIn.at 5 rfl) 0 (by decide) ?_
    refine r_iload_n (dt_NS_firstIn.at 6 rfl) rfl ?_
    refine r_cvI (c := 5) (rest := []) (ct_Scen_isCell b3 0 p2 _) (dt_NS_firstIn.at 7 rfl) mb_Scen_isCell wd_921 wd_922 wd_923 rfl (by decide) rfl rfl (Nat.le_of_ble_eq_true rfl) (fun r5 M4 => ?_)
    refine r_if_eq (tgt := 31) (dt_NS_firstIn.at 8 rfl) (by decide) ?_ ?_
    · refine r_bipush (dt_NS_firstIn.at 15 rfl) (-2) (by decide) ?_
      exact r_iret (dt_NS_firstIn.at 16 rfl) rfl
    · refine r_aload_n (dt_NS_firstIn.at 9 rfl) rfl ?_
      refine r_fR (dt_NS_firstIn.at 10 rfl) fl_NS_16 rfl (fun b6 => ?_)
      refine r_iconst (dt_NS_firstIn.at 11 rfl) 1 (by decide) ?_
      refine r_iload_n (dt_NS_firstIn.at 12 rfl) rfl ?_
      refine r_cvI (c := 5) (rest := []) (ct_Scen_isCell b6 1 p3 _) (dt_NS_firstIn.at 13 rfl) mb_Scen_isCell wd_921 wd_922 wd_923 rfl (by decide) rfl rfl (Nat.le_of_ble_eq_true rfl) (fun r8 M7 => ?_)
      refine r_if_ne (tgt := 34) (dt_NS_firstIn.at 14 rfl) (by decide) ?_ ?_
      · refine r_bipush (dt_NS_firstIn.at 15 rfl) (-2) (by decide) ?_
        exact r_iret (dt_NS_firstIn.at 16 rfl) rfl
      · refine r_iload_n (dt_NS_firstIn.at 17 rfl) rfl ?_
        refine r_bipush (dt_NS_firstIn.at 18 rfl) 100 (by decide) ?_
        refine r_iadd (dt_NS_firstIn.at 19 rfl) ?_
        refine r_sipush (dt_NS_firstIn.at 20 rfl) 30001 (by decide) ?_
        refine r_csI (rest := []) (ct_Math_min (p1 + 100) 30001 _) (dt_NS_firstIn.at 21 rfl) mb_Math_min wd_753 wd_334 (by decide) rfl rfl (Nat.le_of_ble_eq_true rfl) (fun r10 M9 => ?_)
        refine r_istore (ls' := [.ref a0, .int p1, .int p2, .int p3, .int r10, .retAddr 0, .retAddr 0, .retAddr 0]) (dt_NS_firstIn.at 22 rfl) (by decide) rfl ?_
        refine r_iload (dt_NS_firstIn.at 23 rfl) rfl ?_
        refine r_istore (ls' := [.ref a0, .int p1, .int p2, .int p3, .int r10, .int r10, .retAddr 0, .retAddr 0]) (dt_NS_firstIn.at 24 rfl) (by decide) rfl ?_
        refine r_aload_n (dt_NS_firstIn.at 25 rfl) rfl ?_
        refine r_fR (dt_NS_firstIn.at 26 rfl) fl_NS_46 rfl (fun b11 => ?_)
        refine r_iload_n (dt_NS_firstIn.at 27 rfl) rfl ?_
        refine r_iload (dt_NS_firstIn.at 28 rfl) rfl ?_
        refine r_cvV (c := 7) (rest := []) (ct_Walk_start b11 p1 r10 _) (dt_NS_firstIn.at 29 rfl) mb_Walk_start wd_906 wd_783 wd_784 rfl (by decide) rfl rfl (Nat.le_of_ble_eq_true rfl) (fun M12 => ?_)
        refine r_iconst (dt_NS_firstIn.at 30 rfl) 0 (by decide) ?_
        refine r_istore (ls' := [.ref a0, .int p1, .int p2, .int p3, .int r10, .int r10, .int 0, .retAddr 0]) (dt_NS_firstIn.at 31 rfl) (by decide) rfl ?_
        exact Rf.msk [true, true, true, true, true, true, true, false] (rf_NS_firstIn_L63 fu a0 p1 p2 p3 r10 r10 0 M12)
set_option maxRecDepth 20000 in
set_option maxHeartbeats 2000000 in
theorem rf_Sprk_crossings_L91 {G : am_G} {l : Launch} (k63 : Nat → Int32 → Int32 → Int32 → Int32 → Int32 → Int32 → am_M → am_R) (hk63 : ∀ v0 v3 v4 v5 v7 v8 v9 M, Rf G l X_Sprk_crossings 63 [.ref v0, .retAddr 0, .retAddr 0, .int v3, .int v4, .int v5, .retAddr 0, .int v7, .int v8, .int v9, .retAddr 0] [] M (k63 v0 v3 v4 v5 v7 v8 v9 M)) (v0 : Nat) (v3 : Int32) (v4 : Int32) (v5 : Int32) (v7 : Int32) (v8 : Int32) (v9 : Int32) (s0 : Int32) (M : am_M) : Rf G l X_Sprk_crossings 91 [.ref v0, .retAddr 0, .retAddr 0, .int v3, .int v4, .int v5, .retAddr 0, .int v7, .int v8, .int v9, .retAddr 0] [.int s0] M (F_Sprk_crossings_L91 k63 v0 v3 v4 v5 v7 v8 v9 s0 M) := by
  unfold F_Sprk_crossings_L91
  refine r_istore (ls' := [.ref v0, .retAddr 0, .retAddr 0, .int v3, .int v4, .int v5, .retAddr 0, .int v7, .int v8, .int v9, .int s0]) (dt_Sprk_crossings.at 51 rfl) (by decide) rfl ?_
  refine r_iload (dt_Sprk_crossings.at 52 rfl) rfl ?_
  refine r_iload (dt_Sprk_crossings.at 53 rfl) rfl ?_
  refine r_icmp_eq (tgt := 110) (dt_Sprk_crossings.at 54 rfl) (by decide) ?_ ?_
  · refine r_iload (dt_Sprk_crossings.at 59 rfl) rfl ?_
    refine r_istore (ls' := [.ref v0, .retAddr 0, .retAddr 0, .int v3, .int v4, .int v5, .retAddr 0, .int v7, .int s0, .int v9, .int s0]) (dt_Sprk_crossings.at 60 rfl) (by decide) rfl ?_
    refine r_iincn (v := 1) (dt_Sprk_crossings.at 61 rfl) (by decide) rfl (by decide) (fun y => [.ref v0, .retAddr 0, .retAddr 0, .int v3, .int v4, .int v5, .retAddr 0, .int v7, .int s0, .int y, .int s0]) (fun _ => rfl) (fun x13 => ?_)
    refine r_goto (tgt := 63) (dt_Sprk_crossings.at 62 rfl) (by decide) ?_
    exact Rf.msk [true, false, false, true, true, true, false, true, true, true, false] (hk63 v0 v3 v4 v5 v7 s0 x13 M)
  · refine r_iload (dt_Sprk_crossings.at 55 rfl) rfl ?_
    refine r_iload (dt_Sprk_crossings.at 56 rfl) rfl ?_
    refine r_icmp_ne (tgt := 110) (dt_Sprk_crossings.at 57 rfl) (by decide) ?_ ?_
    · refine r_iincn (v := 1) (dt_Sprk_crossings.at 58 rfl) (by decide) rfl (by decide) (fun y => [.ref v0, .retAddr 0, .retAddr 0, .int v3, .int v4, .int v5, .retAddr 0, .int y, .int v8, .int v9, .int s0]) (fun _ => rfl) (fun x14 => ?_)
      refine r_iload (dt_Sprk_crossings.at 59 rfl) rfl ?_
      refine r_istore (ls' := [.ref v0, .retAddr 0, .retAddr 0, .int v3, .int v4, .int v5, .retAddr 0, .int x14, .int s0, .int v9, .int s0]) (dt_Sprk_crossings.at 60 rfl) (by decide) rfl ?_
      refine r_iincn (v := 1) (dt_Sprk_crossings.at 61 rfl) (by decide) rfl (by decide) (fun y => [.ref v0, .retAddr 0, .retAddr 0, .int v3, .int v4, .int v5, .retAddr 0, .int x14, .int s0, .int y, .int s0]) (fun _ => rfl) (fun x15 => ?_)
      refine r_goto (tgt := 63) (dt_Sprk_crossings.at 62 rfl) (by decide) ?_
      exact Rf.msk [true, false, false, true, true, true, false, true, true, true, false] (hk63 v0 v3 v4 v5 x14 s0 x15 M)
    · refine r_iload (dt_Sprk_crossings.at 59 rfl) rfl ?_
      refine r_istore (ls' := [.ref v0, .retAddr 0, .retAddr 0, .int v3, .int v4, .int v5, .retAddr 0, .int v7, .int s0, .int v9, .int s0]) (dt_Sprk_crossings.at 60 rfl) (by decide) rfl ?_
      refine r_iincn (v := 1) (dt_Sprk_crossings.at 61 rfl) (by decide) rfl (by decide) (fun y => [.ref v0, .retAddr 0, .retAddr 0, .int v3, .int v4, .int v5, .retAddr 0, .int v7, .int s0, .int y, .int s0]) (fun _ => rfl) (fun x16 => ?_)
      refine r_goto (tgt := 63) (dt_Sprk_crossings.at 62 rfl) (by decide) ?_
      exact Rf.msk [true, false, false, true, true, true, false, true, true, true, false] (hk63 v0 v3 v4 v5 v7 s0 x16 M)
set_option maxRecDepth 20000 in
set_option maxHeartbeats 2000000 in
theorem rf_Sprk_crossings_L63 {G : am_G} {l : Launch}   : ∀ (n : Nat) (v0 : Nat) (v3 : Int32) (v4 : Int32) (v5 : Int32) (v7 : Int32) (v8 : Int32) (v9 : Int32) (M : am_M), Rf G l X_Sprk_crossings 63 [.ref v0, .retAddr 0, .retAddr 0, .int v3, .int v4, .int v5, .retAddr 0, .int v7, .int v8, .int v9, .retAddr 0] [] M (F_Sprk_crossings_L63 n v0 v3 v4 v5 v7 v8 v9 M) := by
  intro n
  induction n with
  | zero => intro v0 v3 v4 v5 v7 v8 v9 M; exact Rf.no
  | succ n ih =>
    intro v0 v3 v4 v5 v7 v8 v9 M
    unfold F_Sprk_crossings_L63
    refine r_iload (dt_Sprk_crossings.at 36 rfl) rfl ?_
    refine r_iload (dt_Sprk_crossings.at 37 rfl) rfl ?_
    refine r_icmp_ge (tgt := 120) (dt_Sprk_crossings.at 38 rfl) (by decide) ?_ ?_
    · refine r_iload (dt_Sprk_crossings.at 63 rfl) rfl ?_
      exact r_iret (dt_Sprk_crossings.at 64 rfl) rfl
    · refine r_aload_n (dt_Sprk_crossings.at 39 rfl) rfl ?_
      refine r_iconst (dt_Sprk_crossings.at 40 rfl) 0 (by decide) ?_
      refine r_iload (dt_Sprk_crossings.at 41 rfl) rfl ?_
      refine r_aload_n (dt_Sprk_crossings.at 42 rfl) rfl ?_
      refine r_fI (dt_Sprk_crossings.at 43 rfl) fl_Sprk_41 rfl (fun x10 => ?_)
      refine r_isub (dt_Sprk_crossings.at 44 rfl) ?_
      refine r_cvI (c := 6) (rest := []) (ct_Sprk_placeAt v0 0 (v9 - x10) _) (dt_Sprk_crossings.at 45 rfl) mb_Sprk_placeAt wd_689 wd_690 wd_691 rfl (by decide) rfl rfl (Nat.le_of_ble_eq_true rfl) (fun r12 M11 => ?_)
      refine r_iload_n (dt_Sprk_crossings.at 46 rfl) rfl ?_
      refine r_icmp_lt (tgt := 90) (dt_Sprk_crossings.at 47 rfl) (by decide) ?_ ?_
      · refine r_iconst (dt_Sprk_crossings.at 50 rfl) 0 (by decide) ?_
        exact Rf.msk [true, false, false, true, true, true, false, true, true, true, false] (rf_Sprk_crossings_L91 (F_Sprk_crossings_L63 n) ih v0 v3 v4 v5 v7 v8 v9 0 M11)
      · refine r_iconst (dt_Sprk_crossings.at 48 rfl) 1 (by decide) ?_
        refine r_goto (tgt := 91) (dt_Sprk_crossings.at 49 rfl) (by decide) ?_
        exact Rf.msk [true, false, false, true, true, true, false, true, true, true, false] (rf_Sprk_crossings_L91 (F_Sprk_crossings_L63 n) ih v0 v3 v4 v5 v7 v8 v9 1 M11)
set_option maxRecDepth 20000 in
set_option maxHeartbeats 2000000 in
theorem ct_Sprk_crossings {G : am_G} {l : Launch} (a0 : Nat) (p1 : Int32) (p2 : Int32) (p3 : Int32) (p4 : Int32) (M : am_M) : Ct G l y_Sprk_crossings X_Sprk_crossings [.ref a0, .int p1, .int p2, .int p3, .int p4] M (F_Sprk_crossings a0 p1 p2 p3 p4 M) := by
  refine Ct.of (by decide +kernel) rfl rfl (Nat.le_of_ble_eq_true rfl) ?_
  unfold F_Sprk_crossings
  show Rf G l X_Sprk_crossings 0 [.ref a0, .int p1, .int p2, .int p3, .int p4, .retAddr 0, .retAddr 0, .retAddr 0, .retAddr 0, .retAddr 0, .retAddr 0] [] M _
  refine r_iload_n (dt_Sprk_crossings.at 0 rfl) rfl ?_
  refine r_aload_n (dt_Sprk_crossings.at 1 rfl) rfl ?_
  refine r_fI (dt_Sprk_crossings.at 2 rfl) fl_Sprk_51 rfl (fun x1 => ?_)
  refine r_csI (rest := []) (ct_Math_min p2 x1 _) (dt_Sprk_crossings.at 3 rfl) mb_Math_min wd_682 wd_334 (by decide) rfl rfl (Nat.le_of_ble_eq_true rfl) (fun r3 M2 => ?_)
  refine r_istore (ls' := [.ref a0, .int p1, .int p2, .int p3, .int p4, .int r3, .retAddr 0, .retAddr 0, .retAddr 0, .retAddr 0, .retAddr 0]) (dt_Sprk_crossings.at 4 rfl) (by decide) rfl ?_
  refine r_iload_n (dt_Sprk_crossings.at 5 rfl) rfl ?_
  refine r_aload_n (dt_Sprk_crossings.at 6 rfl) rfl ?_
  refine r_fI (dt_Sprk_crossings.at 7 rfl) fl_Sprk_41 rfl (fun x4 => ?_)
  refine r_iconst (dt_Sprk_crossings.at 8 rfl) 1 (by decide) ?_
  refine r_iadd (dt_Sprk_crossings.at 9 rfl) ?_
  refine r_csI (rest := []) (ct_Math_max p1 (x4 + 1) _) (dt_Sprk_crossings.at 10 rfl) mb_Math_max wd_738 wd_655 (by decide) rfl rfl (Nat.le_of_ble_eq_true rfl) (fun r6 M5 => ?_)
  refine r_istore (ls' := [.ref a0, .int p1, .int p2, .int p3, .int p4, .int r3, .int r6, .retAddr 0, .retAddr 0, .retAddr 0, .retAddr 0]) (dt_Sprk_crossings.at 11 rfl) (by decide) rfl ?_
  refine r_iload (dt_Sprk_crossings.at 12 rfl) rfl ?_
  refine r_iload (dt_Sprk_crossings.at 13 rfl) rfl ?_
  refine r_icmp_lt (tgt := 31) (dt_Sprk_crossings.at 14 rfl) (by decide) ?_ ?_
  · refine r_iconst (dt_Sprk_crossings.at 17 rfl) 0 (by decide) ?_
    refine r_istore (ls' := [.ref a0, .int p1, .int p2, .int p3, .int p4, .int r3, .int r6, .int 0, .retAddr 0, .retAddr 0, .retAddr 0]) (dt_Sprk_crossings.at 18 rfl) (by decide) rfl ?_
    refine r_aload_n (dt_Sprk_crossings.at 19 rfl) rfl ?_
    refine r_iconst (dt_Sprk_crossings.at 20 rfl) 0 (by decide) ?_
    refine r_iload (dt_Sprk_crossings.at 21 rfl) rfl ?_
    refine r_iconst (dt_Sprk_crossings.at 22 rfl) 1 (by decide) ?_
    refine r_isub (dt_Sprk_crossings.at 23 rfl) ?_
    refine r_aload_n (dt_Sprk_crossings.at 24 rfl) rfl ?_
    refine r_fI (dt_Sprk_crossings.at 25 rfl) fl_Sprk_41 rfl (fun x7 => ?_)
    refine r_isub (dt_Sprk_crossings.at 26 rfl) ?_
    refine r_cvI (c := 6) (rest := []) (ct_Sprk_placeAt a0 0 ((r6 - 1) - x7) _) (dt_Sprk_crossings.at 27 rfl) mb_Sprk_placeAt wd_689 wd_690 wd_691 rfl (by decide) rfl rfl (Nat.le_of_ble_eq_true rfl) (fun r9 M8 => ?_)
    refine r_iload_n (dt_Sprk_crossings.at 28 rfl) rfl ?_
    refine r_icmp_lt (tgt := 56) (dt_Sprk_crossings.at 29 rfl) (by decide) ?_ ?_
    · refine r_iconst (dt_Sprk_crossings.at 32 rfl) 0 (by decide) ?_
      refine r_istore (ls' := [.ref a0, .int p1, .int p2, .int p3, .int p4, .int r3, .int r6, .int 0, .int 0, .retAddr 0, .retAddr 0]) (dt_Sprk_crossings.at 33 rfl) (by decide) rfl ?_
      refine r_iload (dt_Sprk_crossings.at 34 rfl) rfl ?_
      refine r_istore (ls' := [.ref a0, .int p1, .int p2, .int p3, .int p4, .int r3, .int r6, .int 0, .int 0, .int r6, .retAddr 0]) (dt_Sprk_crossings.at 35 rfl) (by decide) rfl ?_
      exact Rf.msk [true, false, false, true, true, true, false, true, true, true, false] (rf_Sprk_crossings_L63 fu a0 p3 p4 r3 0 0 r6 M8)
    · refine r_iconst (dt_Sprk_crossings.at 30 rfl) 1 (by decide) ?_
      refine r_goto (tgt := 57) (dt_Sprk_crossings.at 31 rfl) (by decide) ?_
      refine r_istore (ls' := [.ref a0, .int p1, .int p2, .int p3, .int p4, .int r3, .int r6, .int 0, .int 1, .retAddr 0, .retAddr 0]) (dt_Sprk_crossings.at 33 rfl) (by decide) rfl ?_
      refine r_iload (dt_Sprk_crossings.at 34 rfl) rfl ?_
      refine r_istore (ls' := [.ref a0, .int p1, .int p2, .int p3, .int p4, .int r3, .int r6, .int 0, .int 1, .int r6, .retAddr 0]) (dt_Sprk_crossings.at 35 rfl) (by decide) rfl ?_
      exact Rf.msk [true, false, false, true, true, true, false, true, true, true, false] (rf_Sprk_crossings_L63 fu a0 p3 p4 r3 0 1 r6 M8)
  · refine r_iconst (dt_Sprk_crossings.at 15 rfl) 0 (by decide) ?_
    exact r_iret (dt_Sprk_crossings.at 16 rfl) rfl
set_option maxRecDepth 20000 in
set_option maxHeartbeats 2000000 in
theorem rf_NS_flux_L84 {G : am_G} {l : Launch} (k63 : Nat → Int32 → Int32 → Int32 → Int32 → Int32 → Int32 → am_M → am_R) (hk63 : ∀ v0 v1 v2 v3 v4 v5 v6 M, Rf G l X_NS_flux 63 [.ref v0, .int v1, .int v2, .int v3, .int v4, .int v5, .int v6, .retAddr 0] [] M (k63 v0 v1 v2 v3 v4 v5 v6 M)) : ∀ (n : Nat) (v0 : Nat) (v1 : Int32) (v2 : Int32) (v3 : Int32) (v4 : Int32) (v5 : Int32) (v6 : Int32) (v7 : Int32) (M : am_M), Rf G l X_NS_flux 84 [.ref v0, .int v1, .int v2, .int v3, .int v4, .int v5, .int v6, .int v7] [] M (F_NS_flux_L84 k63 n v0 v1 v2 v3 v4 v5 v6 v7 M) := by
  intro n
  induction n with
  | zero => intro v0 v1 v2 v3 v4 v5 v6 v7 M; exact Rf.no
  | succ n ih =>
    intro v0 v1 v2 v3 v4 v5 v6 v7 M
    unfold F_NS_flux_L84
    refine r_iload (dt_NS_flux.at 44 rfl) rfl ?_
    refine r_aload_n (dt_NS_flux.at 45 rfl) rfl ?_
    refine r_fR (dt_NS_flux.at 46 rfl) fl_NS_46 rfl (fun b11 => ?_)
    refine r_fI (dt_NS_flux.at 47 rfl) fl_NS_243 rfl (fun x12 => ?_)
    refine r_icmp_ge (tgt := 136) (dt_NS_flux.at 48 rfl) (by decide) ?_ ?_
    · refine r_iincn (v := 1) (dt_NS_flux.at 70 rfl) (by decide) rfl (by decide) (fun y => [.ref v0, .int v1, .int v2, .int v3, .int v4, .int v5, .int y, .int v7]) (fun _ => rfl) (fun x13 => ?_)
      refine r_goto (tgt := 63) (dt_NS_flux.at 71 rfl) (by decide) ?_
      exact Rf.msk [true, true, true, true, true, true, true, false] (hk63 v0 v1 v2 v3 v4 v5 x13 M)
    · refine r_iload (dt_NS_flux.at 49 rfl) rfl ?_
      refine r_aload_n (dt_NS_flux.at 50 rfl) rfl ?_
      refine r_fR (dt_NS_flux.at 51 rfl) fl_NS_46 rfl (fun b14 => ?_)
      refine r_iload (dt_NS_flux.at 52 rfl) rfl ?_
      refine r_cvR (c := 7) (rest := [.int v5]) (ct_Walk_shown b14 v7 _) (dt_NS_flux.at 53 rfl) mb_Walk_shown wd_826 wd_827 wd_828 rfl (by decide) rfl rfl (Nat.le_of_ble_eq_true rfl) (fun M15 => ?_) (fun b16 M15 => ?_)
      · refine r_iload_n (dt_NS_flux.at 54 rfl) rfl ?_
        refine r_iload_n (dt_NS_flux.at 55 rfl) rfl ?_
        refine r_iload_n (dt_NS_flux.at 56 rfl) rfl ?_
        refine r_bipush (dt_NS_flux.at 57 rfl) 8 (by decide) ?_
        refine r_imul (dt_NS_flux.at 58 rfl) ?_
        refine r_iload (dt_NS_flux.at 59 rfl) rfl ?_
        refine r_iconst (dt_NS_flux.at 60 rfl) 1 (by decide) ?_
        refine r_icmp_ne (tgt := 123) (dt_NS_flux.at 61 rfl) (by decide) ?_ ?_
        · refine r_iconst (dt_NS_flux.at 62 rfl) 1 (by decide) ?_
          refine r_goto (tgt := 124) (dt_NS_flux.at 63 rfl) (by decide) ?_
          exact Rf.no
        · refine r_iconst (dt_NS_flux.at 64 rfl) 0 (by decide) ?_
          exact Rf.no
      · refine r_iload_n (dt_NS_flux.at 54 rfl) rfl ?_
        refine r_iload_n (dt_NS_flux.at 55 rfl) rfl ?_
        refine r_iload_n (dt_NS_flux.at 56 rfl) rfl ?_
        refine r_bipush (dt_NS_flux.at 57 rfl) 8 (by decide) ?_
        refine r_imul (dt_NS_flux.at 58 rfl) ?_
        refine r_iload (dt_NS_flux.at 59 rfl) rfl ?_
        refine r_iconst (dt_NS_flux.at 60 rfl) 1 (by decide) ?_
        refine r_icmp_ne (tgt := 123) (dt_NS_flux.at 61 rfl) (by decide) ?_ ?_
        · refine r_iconst (dt_NS_flux.at 62 rfl) 1 (by decide) ?_
          refine r_goto (tgt := 124) (dt_NS_flux.at 63 rfl) (by decide) ?_
          refine r_cvI (c := 6) (rest := [.int v5]) (ct_Sprk_crossings b16 v1 v2 (v3 * 8) 1 _) (dt_NS_flux.at 65 rfl) mb_Sprk_crossings wd_934 wd_935 wd_936 rfl (by decide) rfl rfl (Nat.le_of_ble_eq_true rfl) (fun r18 M17 => ?_)
          refine r_iadd (dt_NS_flux.at 66 rfl) ?_
          refine r_nmi (fun x19 => ?_)
          refine r_istore (ls' := [.ref v0, .int v1, .int v2, .int v3, .int v4, .int x19, .int v6, .int v7]) (dt_NS_flux.at 67 rfl) (by decide) rfl ?_
          refine r_iincn (v := 1) (dt_NS_flux.at 68 rfl) (by decide) rfl (by decide) (fun y => [.ref v0, .int v1, .int v2, .int v3, .int v4, .int x19, .int v6, .int y]) (fun _ => rfl) (fun x20 => ?_)
          refine r_goto (tgt := 84) (dt_NS_flux.at 69 rfl) (by decide) ?_
          exact Rf.msk [true, true, true, true, true, true, true, true] (ih v0 v1 v2 v3 v4 x19 v6 x20 M17)
        · refine r_iconst (dt_NS_flux.at 64 rfl) 0 (by decide) ?_
          refine r_cvI (c := 6) (rest := [.int v5]) (ct_Sprk_crossings b16 v1 v2 (v3 * 8) 0 _) (dt_NS_flux.at 65 rfl) mb_Sprk_crossings wd_934 wd_935 wd_936 rfl (by decide) rfl rfl (Nat.le_of_ble_eq_true rfl) (fun r22 M21 => ?_)
          refine r_iadd (dt_NS_flux.at 66 rfl) ?_
          refine r_nmi (fun x23 => ?_)
          refine r_istore (ls' := [.ref v0, .int v1, .int v2, .int v3, .int v4, .int x23, .int v6, .int v7]) (dt_NS_flux.at 67 rfl) (by decide) rfl ?_
          refine r_iincn (v := 1) (dt_NS_flux.at 68 rfl) (by decide) rfl (by decide) (fun y => [.ref v0, .int v1, .int v2, .int v3, .int v4, .int x23, .int v6, .int y]) (fun _ => rfl) (fun x24 => ?_)
          refine r_goto (tgt := 84) (dt_NS_flux.at 69 rfl) (by decide) ?_
          exact Rf.msk [true, true, true, true, true, true, true, true] (ih v0 v1 v2 v3 v4 x23 v6 x24 M21)
set_option maxRecDepth 20000 in
set_option maxHeartbeats 2000000 in
theorem rf_NS_flux_L63 {G : am_G} {l : Launch}   : ∀ (n : Nat) (v0 : Nat) (v1 : Int32) (v2 : Int32) (v3 : Int32) (v4 : Int32) (v5 : Int32) (v6 : Int32) (M : am_M), Rf G l X_NS_flux 63 [.ref v0, .int v1, .int v2, .int v3, .int v4, .int v5, .int v6, .retAddr 0] [] M (F_NS_flux_L63 n v0 v1 v2 v3 v4 v5 v6 M) := by
  intro n
  induction n with
  | zero => intro v0 v1 v2 v3 v4 v5 v6 M; exact Rf.no
  | succ n ih =>
    intro v0 v1 v2 v3 v4 v5 v6 M
    unfold F_NS_flux_L63
    refine r_iload (dt_NS_flux.at 35 rfl) rfl ?_
    refine r_ldcw (dt_NS_flux.at 36 rfl) 1000000 wd_907 ?_
    refine r_icmp_ge (tgt := 142) (dt_NS_flux.at 37 rfl) (by decide) ?_ ?_
    · refine r_iload (dt_NS_flux.at 72 rfl) rfl ?_
      exact r_iret (dt_NS_flux.at 73 rfl) rfl
    · refine r_aload_n (dt_NS_flux.at 38 rfl) rfl ?_
      refine r_fR (dt_NS_flux.at 39 rfl) fl_NS_46 rfl (fun b8 => ?_)
      refine r_cvI (c := 7) (rest := []) (ct_Walk_stepRoot b8 _) (dt_NS_flux.at 40 rfl) mb_Walk_stepRoot wd_802 wd_803 wd_804 rfl (by decide) rfl rfl (Nat.le_of_ble_eq_true rfl) (fun r10 M9 => ?_)
      refine r_if_eq (tgt := 142) (dt_NS_flux.at 41 rfl) (by decide) ?_ ?_
      · refine r_iload (dt_NS_flux.at 72 rfl) rfl ?_
        exact r_iret (dt_NS_flux.at 73 rfl) rfl
      · refine r_iconst (dt_NS_flux.at 42 rfl) 0 (by decide) ?_
        refine r_istore (ls' := [.ref v0, .int v1, .int v2, .int v3, .int v4, .int v5, .int v6, .int 0]) (dt_NS_flux.at 43 rfl) (by decide) rfl ?_
        exact Rf.msk [true, true, true, true, true, true, true, true] (rf_NS_flux_L84 (F_NS_flux_L63 n) ih fu v0 v1 v2 v3 v4 v5 v6 0 M9)
set_option maxRecDepth 20000 in
set_option maxHeartbeats 2000000 in
theorem ct_NS_flux {G : am_G} {l : Launch} (a0 : Nat) (p1 : Int32) (p2 : Int32) (p3 : Int32) (p4 : Int32) (M : am_M) : Ct G l y_NS_flux X_NS_flux [.ref a0, .int p1, .int p2, .int p3, .int p4] M (F_NS_flux a0 p1 p2 p3 p4 M) := by
  refine Ct.of (by decide +kernel) rfl rfl (Nat.le_of_ble_eq_true rfl) ?_
  unfold F_NS_flux
  show Rf G l X_NS_flux 0 [.ref a0, .int p1, .int p2, .int p3, .int p4, .retAddr 0, .retAddr 0, .retAddr 0] [] M _
  refine r_aload_n (dt_NS_flux.at 0 rfl) rfl ?_
  refine r_iload_n (dt_NS_flux.at 1 rfl) rfl ?_
  refine r_iload_n (dt_NS_flux.at 2 rfl) rfl ?_
  refine r_cvI (c := 8) (rest := []) (ct_NS_isWindow a0 p1 p2 _) (dt_NS_flux.at 3 rfl) mb_NS_isWindow wd_862 wd_864 wp_26 rfl (by decide) rfl rfl (Nat.le_of_ble_eq_true rfl) (fun r2 M1 => ?_)
  refine r_if_eq (tgt := 45) (dt_NS_flux.at 4 rfl) (by decide) ?_ ?_
  · refine r_bipush (dt_NS_flux.at 24 rfl) (-2) (by decide) ?_
    exact r_iret (dt_NS_flux.at 25 rfl) rfl
  · refine r_iload_n (dt_NS_flux.at 5 rfl) rfl ?_
    refine r_iload_n (dt_NS_flux.at 6 rfl) rfl ?_
    refine r_isub (dt_NS_flux.at 7 rfl) ?_
    refine r_bipush (dt_NS_flux.at 8 rfl) 60 (by decide) ?_
    refine r_icmp_gt (tgt := 45) (dt_NS_flux.at 9 rfl) (by decide) ?_ ?_
    · refine r_bipush (dt_NS_flux.at 24 rfl) (-2) (by decide) ?_
      exact r_iret (dt_NS_flux.at 25 rfl) rfl
    · refine r_iload_n (dt_NS_flux.at 10 rfl) rfl ?_
      refine r_iconst (dt_NS_flux.at 11 rfl) 1 (by decide) ?_
      refine r_icmp_lt (tgt := 45) (dt_NS_flux.at 12 rfl) (by decide) ?_ ?_
      · refine r_bipush (dt_NS_flux.at 24 rfl) (-2) (by decide) ?_
        exact r_iret (dt_NS_flux.at 25 rfl) rfl
      · refine r_iload_n (dt_NS_flux.at 13 rfl) rfl ?_
        refine r_aload_n (dt_NS_flux.at 14 rfl) rfl ?_
        refine r_fR (dt_NS_flux.at 15 rfl) fl_NS_16 rfl (fun b3 => ?_)
        refine r_iconst (dt_NS_flux.at 16 rfl) 0 (by decide) ?_
        refine r_cvI (c := 5) (rest := [.int p3]) (ct_Scen_cellsAlong b3 0 _) (dt_NS_flux.at 17 rfl) mb_Scen_cellsAlong wd_533 wd_491 wd_492 rfl (by decide) rfl rfl (Nat.le_of_ble_eq_true rfl) (fun r5 M4 => ?_)
        refine r_icmp_ge (tgt := 45) (dt_NS_flux.at 18 rfl) (by decide) ?_ ?_
        · refine r_bipush (dt_NS_flux.at 24 rfl) (-2) (by decide) ?_
          exact r_iret (dt_NS_flux.at 25 rfl) rfl
        · refine r_iload (dt_NS_flux.at 19 rfl) rfl ?_
          refine r_if_lt (tgt := 45) (dt_NS_flux.at 20 rfl) (by decide) ?_ ?_
          · refine r_bipush (dt_NS_flux.at 24 rfl) (-2) (by decide) ?_
            exact r_iret (dt_NS_flux.at 25 rfl) rfl
          · refine r_iload (dt_NS_flux.at 21 rfl) rfl ?_
            refine r_iconst (dt_NS_flux.at 22 rfl) 1 (by decide) ?_
            refine r_icmp_le (tgt := 48) (dt_NS_flux.at 23 rfl) (by decide) ?_ ?_
            · refine r_iconst (dt_NS_flux.at 26 rfl) 0 (by decide) ?_
              refine r_istore (ls' := [.ref a0, .int p1, .int p2, .int p3, .int p4, .int 0, .retAddr 0, .retAddr 0]) (dt_NS_flux.at 27 rfl) (by decide) rfl ?_
              refine r_aload_n (dt_NS_flux.at 28 rfl) rfl ?_
              refine r_fR (dt_NS_flux.at 29 rfl) fl_NS_46 rfl (fun b6 => ?_)
              refine r_iload_n (dt_NS_flux.at 30 rfl) rfl ?_
              refine r_iload_n (dt_NS_flux.at 31 rfl) rfl ?_
              refine r_cvV (c := 7) (rest := []) (ct_Walk_start b6 p1 p2 _) (dt_NS_flux.at 32 rfl) mb_Walk_start wd_906 wd_783 wd_784 rfl (by decide) rfl rfl (Nat.le_of_ble_eq_true rfl) (fun M7 => ?_)
              refine r_iconst (dt_NS_flux.at 33 rfl) 0 (by decide) ?_
              refine r_istore (ls' := [.ref a0, .int p1, .int p2, .int p3, .int p4, .int 0, .int 0, .retAddr 0]) (dt_NS_flux.at 34 rfl) (by decide) rfl ?_
              exact Rf.msk [true, true, true, true, true, true, true, false] (rf_NS_flux_L63 fu a0 p1 p2 p3 p4 0 0 M7)
            · refine r_bipush (dt_NS_flux.at 24 rfl) (-2) (by decide) ?_
              exact r_iret (dt_NS_flux.at 25 rfl) rfl
set_option maxRecDepth 20000 in
set_option maxHeartbeats 2000000 in
theorem ct_Arr_copyOf {G : am_G} {l : Launch} (p1 : Nat) (p2 : Int32) (M : am_M) : Ct G l y_Arr_copyOf X_Arr_copyOf [.ref p1, .int p2] M (F_Arr_copyOf p1 p2 M) := by
  refine Ct.ofF (by decide +kernel) rfl rfl (Nat.le_of_ble_eq_true rfl) ?_
  unfold F_Arr_copyOf
  show Rf G l X_Arr_copyOf 0 [.ref p1, .int p2, .retAddr 0] [] M _
  refine r_iload_n (dt_Arr_copyOf.at 0 rfl) rfl ?_
  refine r_aload_n (dt_Arr_copyOf.at 1 rfl) rfl ?_
  refine r_aN (dt_Arr_copyOf.at 2 rfl) (fun x1 => ?_)
  refine r_icmp_ne (tgt := 14) (dt_Arr_copyOf.at 3 rfl) (by decide) ?_ ?_
  · refine r_aload_n (dt_Arr_copyOf.at 4 rfl) rfl ?_
    exact Rf.no
  · refine r_iload_n (dt_Arr_copyOf.at 8 rfl) rfl ?_
    refine r_nA (t := 0) (Or.inl ⟨rfl, rfl⟩) (dt_Arr_copyOf.at 9 rfl) wd_68 (fun b2 M3 => ?_)
    refine r_astore_n (ls' := [.ref p1, .int p2, .ref b2]) (dt_Arr_copyOf.at 10 rfl) (by decide) rfl ?_
    refine r_aload_n (dt_Arr_copyOf.at 11 rfl) rfl ?_
    refine r_iconst (dt_Arr_copyOf.at 12 rfl) 0 (by decide) ?_
    refine r_aload_n (dt_Arr_copyOf.at 13 rfl) rfl ?_
    refine r_iconst (dt_Arr_copyOf.at 14 rfl) 0 (by decide) ?_
    refine r_aload_n (dt_Arr_copyOf.at 15 rfl) rfl ?_
    refine r_aN (dt_Arr_copyOf.at 16 rfl) (fun x4 => ?_)
    refine r_iload_n (dt_Arr_copyOf.at 17 rfl) rfl ?_
    refine r_csI (rest := [.int 0, .ref b2, .int 0, .ref p1]) (ct_Math_min x4 p2 _) (dt_Arr_copyOf.at 18 rfl) mb_Math_min wd_969 wd_334 (by decide) rfl rfl (Nat.le_of_ble_eq_true rfl) (fun r6 M5 => ?_)
    refine r_cpy (rest := []) (dt_Arr_copyOf.at 19 rfl) wd_970 wd_515 wd_514 wd_17 (Nat.le_of_ble_eq_true rfl) (by decide) (fun M7 => ?_)
    refine r_aload_n (dt_Arr_copyOf.at 20 rfl) rfl ?_
    exact r_aret (dt_Arr_copyOf.at 21 rfl) rfl (Or.inr ⟨_, rfl⟩)
set_option maxRecDepth 20000 in
set_option maxHeartbeats 2000000 in
theorem ct_Fram_grow {G : am_G} {l : Launch} (a0 : Nat) (M : am_M) : Ct G l y_Fram_grow X_Fram_grow [.ref a0] M (F_Fram_grow a0 M) := by
  refine Ct.of (by decide +kernel) rfl rfl (Nat.le_of_ble_eq_true rfl) ?_
  unfold F_Fram_grow
  show Rf G l X_Fram_grow 0 [.ref a0, .retAddr 0] [] M _
  refine r_iconst (dt_Fram_grow.at 0 rfl) 2 (by decide) ?_
  refine r_aload_n (dt_Fram_grow.at 1 rfl) rfl ?_
  refine r_fR (dt_Fram_grow.at 2 rfl) fl_Fram_15 rfl (fun b1 => ?_)
  refine r_aN (dt_Fram_grow.at 3 rfl) (fun x2 => ?_)
  refine r_imul (dt_Fram_grow.at 4 rfl) ?_
  refine r_nmi (fun x3 => ?_)
  refine r_istore_n (ls' := [.ref a0, .int x3]) (dt_Fram_grow.at 5 rfl) (by decide) rfl ?_
  refine r_iload_n (dt_Fram_grow.at 6 rfl) rfl ?_
  refine r_if_le (tgt := 41) (dt_Fram_grow.at 7 rfl) (by decide) ?_ ?_
  · exact r_vret (dt_Fram_grow.at 23 rfl) rfl
  · refine r_iload_n (dt_Fram_grow.at 8 rfl) rfl ?_
    refine r_sipush (dt_Fram_grow.at 9 rfl) 16384 (by decide) ?_
    refine r_icmp_gt (tgt := 41) (dt_Fram_grow.at 10 rfl) (by decide) ?_ ?_
    · exact r_vret (dt_Fram_grow.at 23 rfl) rfl
    · refine r_aload_n (dt_Fram_grow.at 11 rfl) rfl ?_
      refine r_aload_n (dt_Fram_grow.at 12 rfl) rfl ?_
      refine r_fR (dt_Fram_grow.at 13 rfl) fl_Fram_11 rfl (fun b4 => ?_)
      refine r_iload_n (dt_Fram_grow.at 14 rfl) rfl ?_
      refine r_bipush (dt_Fram_grow.at 15 rfl) 7 (by decide) ?_
      refine r_imul (dt_Fram_grow.at 16 rfl) ?_
      refine r_csR (rest := [.ref a0]) (ct_Arr_copyOf b4 (x3 * 7) _) (dt_Fram_grow.at 17 rfl) mb_Arr_copyOf wd_959 wd_960 (by decide) rfl rfl (Nat.le_of_ble_eq_true rfl) (fun M5 => ?_) (fun b6 M5 => ?_)
      · exact Rf.no
      · refine r_sR (dt_Fram_grow.at 18 rfl) fl_Fram_11 rfl (Or.inl rfl) (fun _ => rfl) (fun _ => rfl) (fun M7 => ?_)
        refine r_aload_n (dt_Fram_grow.at 19 rfl) rfl ?_
        refine r_iload_n (dt_Fram_grow.at 20 rfl) rfl ?_
        refine r_nA (t := 0) (Or.inl ⟨rfl, rfl⟩) (dt_Fram_grow.at 21 rfl) wd_68 (fun b8 M9 => ?_)
        refine r_sR (dt_Fram_grow.at 22 rfl) fl_Fram_15 rfl (Or.inl rfl) (fun _ => rfl) (fun _ => rfl) (fun M10 => ?_)
        exact r_vret (dt_Fram_grow.at 23 rfl) rfl
set_option maxRecDepth 20000 in
set_option maxHeartbeats 2000000 in
theorem rf_Fram_append_L92 {G : am_G} {l : Launch}   : ∀ (n : Nat) (v0 : Nat) (v1 : Nat) (v2 : Int32) (v3 : Int32) (v4 : Int32) (M : am_M), Rf G l X_Fram_append 92 [.ref v0, .ref v1, .int v2, .int v3, .int v4] [] M (F_Fram_append_L92 n v0 v1 v2 v3 v4 M) := by
  intro n
  induction n with
  | zero => intro v0 v1 v2 v3 v4 M; exact Rf.no
  | succ n ih =>
    intro v0 v1 v2 v3 v4 M
    unfold F_Fram_append_L92
    refine r_iload (dt_Fram_append.at 57 rfl) rfl ?_
    refine r_iconst (dt_Fram_append.at 58 rfl) 3 (by decide) ?_
    refine r_icmp_ge (tgt := 127) (dt_Fram_append.at 59 rfl) (by decide) ?_ ?_
    · refine r_aload_n (dt_Fram_append.at 77 rfl) rfl ?_
      refine r_dup (dt_Fram_append.at 78 rfl) rfl ?_
      refine r_fI (dt_Fram_append.at 79 rfl) fl_Fram_43 rfl (fun x20 => ?_)
      refine r_iconst (dt_Fram_append.at 80 rfl) 1 (by decide) ?_
      refine r_iadd (dt_Fram_append.at 81 rfl) ?_
      refine r_sI (dt_Fram_append.at 82 rfl) fl_Fram_43 rfl rfl rfl (fun M21 => ?_)
      exact r_vret (dt_Fram_append.at 83 rfl) rfl
    · refine r_aload_n (dt_Fram_append.at 60 rfl) rfl ?_
      refine r_fR (dt_Fram_append.at 61 rfl) fl_Fram_11 rfl (fun b22 => ?_)
      refine r_iload_n (dt_Fram_append.at 62 rfl) rfl ?_
      refine r_iconst (dt_Fram_append.at 63 rfl) 4 (by decide) ?_
      refine r_iadd (dt_Fram_append.at 64 rfl) ?_
      refine r_iload (dt_Fram_append.at 65 rfl) rfl ?_
      refine r_iadd (dt_Fram_append.at 66 rfl) ?_
      refine r_aload_n (dt_Fram_append.at 67 rfl) rfl ?_
      refine r_iload (dt_Fram_append.at 68 rfl) rfl ?_
      refine r_iload_n (dt_Fram_append.at 69 rfl) rfl ?_
      refine r_aload_n (dt_Fram_append.at 70 rfl) rfl ?_
      refine r_fI (dt_Fram_append.at 71 rfl) fl_Fram_82 rfl (fun x23 => ?_)
      refine r_isub (dt_Fram_append.at 72 rfl) ?_
      refine r_cvI (c := 6) (rest := [.int ((v3 + 4) + v4), .ref b22]) (ct_Sprk_placeAt v1 v4 (v2 - x23) _) (dt_Fram_append.at 73 rfl) mb_Sprk_placeAt wd_971 wd_690 wd_691 rfl (by decide) rfl rfl (Nat.le_of_ble_eq_true rfl) (fun r25 M24 => ?_)
      refine r_tI (dt_Fram_append.at 74 rfl) (fun M26 => ?_)
      refine r_iincn (v := 1) (dt_Fram_append.at 75 rfl) (by decide) rfl (by decide) (fun y => [.ref v0, .ref v1, .int v2, .int v3, .int y]) (fun _ => rfl) (fun x27 => ?_)
      refine r_goto (tgt := 92) (dt_Fram_append.at 76 rfl) (by decide) ?_
      exact Rf.msk [true, true, true, true, true] (ih v0 v1 v2 v3 x27 M26)
set_option maxRecDepth 20000 in
set_option maxHeartbeats 2000000 in
theorem rf_Fram_append_L16 {G : am_G} {l : Launch}   (v0 : Nat) (v1 : Nat) (v2 : Int32) (M : am_M) : Rf G l X_Fram_append 16 [.ref v0, .ref v1, .int v2, .retAddr 0, .retAddr 0] [] M (F_Fram_append_L16 v0 v1 v2 M) := by
  unfold F_Fram_append_L16
  refine r_aload_n (dt_Fram_append.at 8 rfl) rfl ?_
  refine r_fI (dt_Fram_append.at 9 rfl) fl_Fram_43 rfl (fun x4 => ?_)
  refine r_bipush (dt_Fram_append.at 10 rfl) 7 (by decide) ?_
  refine r_imul (dt_Fram_append.at 11 rfl) ?_
  refine r_nmi (fun x5 => ?_)
  refine r_istore_n (ls' := [.ref v0, .ref v1, .int v2, .int x5, .retAddr 0]) (dt_Fram_append.at 12 rfl) (by decide) rfl ?_
  refine r_iload_n (dt_Fram_append.at 13 rfl) rfl ?_
  refine r_if_lt (tgt := 40) (dt_Fram_append.at 14 rfl) (by decide) ?_ ?_
  · exact r_vret (dt_Fram_append.at 22 rfl) rfl
  · refine r_iload_n (dt_Fram_append.at 15 rfl) rfl ?_
    refine r_bipush (dt_Fram_append.at 16 rfl) 7 (by decide) ?_
    refine r_iadd (dt_Fram_append.at 17 rfl) ?_
    refine r_aload_n (dt_Fram_append.at 18 rfl) rfl ?_
    refine r_fR (dt_Fram_append.at 19 rfl) fl_Fram_11 rfl (fun b6 => ?_)
    refine r_aN (dt_Fram_append.at 20 rfl) (fun x7 => ?_)
    refine r_icmp_le (tgt := 41) (dt_Fram_append.at 21 rfl) (by decide) ?_ ?_
    · refine r_aload_n (dt_Fram_append.at 23 rfl) rfl ?_
      refine r_fR (dt_Fram_append.at 24 rfl) fl_Fram_11 rfl (fun b8 => ?_)
      refine r_iload_n (dt_Fram_append.at 25 rfl) rfl ?_
      refine r_iconst (dt_Fram_append.at 26 rfl) 0 (by decide) ?_
      refine r_iadd (dt_Fram_append.at 27 rfl) ?_
      refine r_aload_n (dt_Fram_append.at 28 rfl) rfl ?_
      refine r_fI (dt_Fram_append.at 29 rfl) fl_Fram_74 rfl (fun x9 => ?_)
      refine r_tI (dt_Fram_append.at 30 rfl) (fun M10 => ?_)
      refine r_aload_n (dt_Fram_append.at 31 rfl) rfl ?_
      refine r_fR (dt_Fram_append.at 32 rfl) fl_Fram_11 rfl (fun b11 => ?_)
      refine r_iload_n (dt_Fram_append.at 33 rfl) rfl ?_
      refine r_iconst (dt_Fram_append.at 34 rfl) 1 (by decide) ?_
      refine r_iadd (dt_Fram_append.at 35 rfl) ?_
      refine r_aload_n (dt_Fram_append.at 36 rfl) rfl ?_
      refine r_fI (dt_Fram_append.at 37 rfl) fl_Fram_79 rfl (fun x12 => ?_)
      refine r_tI (dt_Fram_append.at 38 rfl) (fun M13 => ?_)
      refine r_aload_n (dt_Fram_append.at 39 rfl) rfl ?_
      refine r_fR (dt_Fram_append.at 40 rfl) fl_Fram_11 rfl (fun b14 => ?_)
      refine r_iload_n (dt_Fram_append.at 41 rfl) rfl ?_
      refine r_iconst (dt_Fram_append.at 42 rfl) 2 (by decide) ?_
      refine r_iadd (dt_Fram_append.at 43 rfl) ?_
      refine r_aload_n (dt_Fram_append.at 44 rfl) rfl ?_
      refine r_fI (dt_Fram_append.at 45 rfl) fl_Fram_82 rfl (fun x15 => ?_)
      refine r_tI (dt_Fram_append.at 46 rfl) (fun M16 => ?_)
      refine r_aload_n (dt_Fram_append.at 47 rfl) rfl ?_
      refine r_fR (dt_Fram_append.at 48 rfl) fl_Fram_11 rfl (fun b17 => ?_)
      refine r_iload_n (dt_Fram_append.at 49 rfl) rfl ?_
      refine r_iconst (dt_Fram_append.at 50 rfl) 3 (by decide) ?_
      refine r_iadd (dt_Fram_append.at 51 rfl) ?_
      refine r_aload_n (dt_Fram_append.at 52 rfl) rfl ?_
      refine r_fI (dt_Fram_append.at 53 rfl) fl_Fram_85 rfl (fun x18 => ?_)
      refine r_tI (dt_Fram_append.at 54 rfl) (fun M19 => ?_)
      refine r_iconst (dt_Fram_append.at 55 rfl) 0 (by decide) ?_
      refine r_istore (ls' := [.ref v0, .ref v1, .int v2, .int x5, .int 0]) (dt_Fram_append.at 56 rfl) (by decide) rfl ?_
      exact Rf.msk [true, true, true, true, true] (rf_Fram_append_L92 fu v0 v1 v2 x5 0 M19)
    · exact r_vret (dt_Fram_append.at 22 rfl) rfl
set_option maxRecDepth 20000 in
set_option maxHeartbeats 2000000 in
theorem ct_Fram_append {G : am_G} {l : Launch} (a0 : Nat) (p1 : Nat) (p2 : Int32) (M : am_M) : Ct G l y_Fram_append X_Fram_append [.ref a0, .ref p1, .int p2] M (F_Fram_append a0 p1 p2 M) := by
  refine Ct.of (by decide +kernel) rfl rfl (Nat.le_of_ble_eq_true rfl) ?_
  unfold F_Fram_append
  show Rf G l X_Fram_append 0 [.ref a0, .ref p1, .int p2, .retAddr 0, .retAddr 0] [] M _
  refine r_aload_n (dt_Fram_append.at 0 rfl) rfl ?_
  refine r_fI (dt_Fram_append.at 1 rfl) fl_Fram_43 rfl (fun x1 => ?_)
  refine r_aload_n (dt_Fram_append.at 2 rfl) rfl ?_
  refine r_fR (dt_Fram_append.at 3 rfl) fl_Fram_15 rfl (fun b2 => ?_)
  refine r_aN (dt_Fram_append.at 4 rfl) (fun x3 => ?_)
  refine r_icmp_lt (tgt := 16) (dt_Fram_append.at 5 rfl) (by decide) ?_ ?_
  · exact Rf.msk [true, true, true, false, false] (rf_Fram_append_L16 a0 p1 p2 M)
  · refine r_aload_n (dt_Fram_append.at 6 rfl) rfl ?_
    refine r_cvV (c := 1) (rest := []) (ct_Fram_grow a0 _) (dt_Fram_append.at 7 rfl) mb_Fram_grow wd_955 wd_957 wp_29 rfl (by decide) rfl rfl (Nat.le_of_ble_eq_true rfl) (fun M28 => ?_)
    exact Rf.msk [true, true, true, false, false] (rf_Fram_append_L16 a0 p1 p2 M28)
set_option maxRecDepth 20000 in
set_option maxHeartbeats 2000000 in
theorem ct_Fram_ofRow {G : am_G} {l : Launch} (a0 : Nat) (p1 : Int32) (p2 : Int32) (M : am_M) : Ct G l y_Fram_ofRow X_Fram_ofRow [.ref a0, .int p1, .int p2] M (F_Fram_ofRow a0 p1 p2 M) := by
  refine Ct.of (by decide +kernel) rfl rfl (Nat.le_of_ble_eq_true rfl) ?_
  unfold F_Fram_ofRow
  show Rf G l X_Fram_ofRow 0 [.ref a0, .int p1, .int p2, .retAddr 0] [] M _
  refine r_iload_n (dt_Fram_ofRow.at 0 rfl) rfl ?_
  refine r_bipush (dt_Fram_ofRow.at 1 rfl) 7 (by decide) ?_
  refine r_imul (dt_Fram_ofRow.at 2 rfl) ?_
  refine r_iload_n (dt_Fram_ofRow.at 3 rfl) rfl ?_
  refine r_iadd (dt_Fram_ofRow.at 4 rfl) ?_
  refine r_nmi (fun x1 => ?_)
  refine r_istore_n (ls' := [.ref a0, .int p1, .int p2, .int x1]) (dt_Fram_ofRow.at 5 rfl) (by decide) rfl ?_
  refine r_iload_n (dt_Fram_ofRow.at 6 rfl) rfl ?_
  refine r_if_lt (tgt := 29) (dt_Fram_ofRow.at 7 rfl) (by decide) ?_ ?_
  · refine r_iconst (dt_Fram_ofRow.at 18 rfl) 0 (by decide) ?_
    exact r_iret (dt_Fram_ofRow.at 19 rfl) rfl
  · refine r_iload_n (dt_Fram_ofRow.at 8 rfl) rfl ?_
    refine r_aload_n (dt_Fram_ofRow.at 9 rfl) rfl ?_
    refine r_fR (dt_Fram_ofRow.at 10 rfl) fl_Fram_11 rfl (fun b2 => ?_)
    refine r_aN (dt_Fram_ofRow.at 11 rfl) (fun x3 => ?_)
    refine r_icmp_ge (tgt := 29) (dt_Fram_ofRow.at 12 rfl) (by decide) ?_ ?_
    · refine r_iconst (dt_Fram_ofRow.at 18 rfl) 0 (by decide) ?_
      exact r_iret (dt_Fram_ofRow.at 19 rfl) rfl
    · refine r_aload_n (dt_Fram_ofRow.at 13 rfl) rfl ?_
      refine r_fR (dt_Fram_ofRow.at 14 rfl) fl_Fram_11 rfl (fun b4 => ?_)
      refine r_iload_n (dt_Fram_ofRow.at 15 rfl) rfl ?_
      refine r_aI (dt_Fram_ofRow.at 16 rfl) (fun x5 => ?_)
      refine r_goto (tgt := 30) (dt_Fram_ofRow.at 17 rfl) (by decide) ?_
      exact r_iret (dt_Fram_ofRow.at 19 rfl) rfl
set_option maxRecDepth 20000 in
set_option maxHeartbeats 2000000 in
theorem ct_Fram_placeOf {G : am_G} {l : Launch} (a0 : Nat) (p1 : Int32) (p2 : Int32) (M : am_M) : Ct G l y_Fram_placeOf X_Fram_placeOf [.ref a0, .int p1, .int p2] M (F_Fram_placeOf a0 p1 p2 M) := by
  refine Ct.of (by decide +kernel) rfl rfl (Nat.le_of_ble_eq_true rfl) ?_
  unfold F_Fram_placeOf
  show Rf G l X_Fram_placeOf 0 [.ref a0, .int p1, .int p2] [] M _
  refine r_aload_n (dt_Fram_placeOf.at 0 rfl) rfl ?_
  refine r_iload_n (dt_Fram_placeOf.at 1 rfl) rfl ?_
  refine r_iconst (dt_Fram_placeOf.at 2 rfl) 4 (by decide) ?_
  refine r_iload_n (dt_Fram_placeOf.at 3 rfl) rfl ?_
  refine r_iadd (dt_Fram_placeOf.at 4 rfl) ?_
  refine r_cvI (c := 1) (rest := []) (ct_Fram_ofRow a0 p1 (4 + p2) _) (dt_Fram_placeOf.at 5 rfl) mb_Fram_ofRow wd_985 wd_987 wp_32 rfl (by decide) rfl rfl (Nat.le_of_ble_eq_true rfl) (fun r2 M1 => ?_)
  exact r_iret (dt_Fram_placeOf.at 6 rfl) rfl
set_option maxRecDepth 20000 in
set_option maxHeartbeats 2000000 in
theorem ct_Fram_depthOf {G : am_G} {l : Launch} (a0 : Nat) (p1 : Int32) (M : am_M) : Ct G l y_Fram_depthOf X_Fram_depthOf [.ref a0, .int p1] M (F_Fram_depthOf a0 p1 M) := by
  refine Ct.of (by decide +kernel) rfl rfl (Nat.le_of_ble_eq_true rfl) ?_
  unfold F_Fram_depthOf
  show Rf G l X_Fram_depthOf 0 [.ref a0, .int p1] [] M _
  refine r_iconst (dt_Fram_depthOf.at 0 rfl) 0 (by decide) ?_
  refine r_aload_n (dt_Fram_depthOf.at 1 rfl) rfl ?_
  refine r_fR (dt_Fram_depthOf.at 2 rfl) fl_Fram_18 rfl (fun b1 => ?_)
  refine r_aN (dt_Fram_depthOf.at 3 rfl) (fun x2 => ?_)
  refine r_iconst (dt_Fram_depthOf.at 4 rfl) 1 (by decide) ?_
  refine r_isub (dt_Fram_depthOf.at 5 rfl) ?_
  refine r_aload_n (dt_Fram_depthOf.at 6 rfl) rfl ?_
  refine r_iload_n (dt_Fram_depthOf.at 7 rfl) rfl ?_
  refine r_iconst (dt_Fram_depthOf.at 8 rfl) 2 (by decide) ?_
  refine r_cvI (c := 1) (rest := [.int (x2 - 1), .int 0]) (ct_Fram_placeOf a0 p1 2 _) (dt_Fram_depthOf.at 9 rfl) mb_Fram_placeOf wd_981 wd_982 wd_983 rfl (by decide) rfl rfl (Nat.le_of_ble_eq_true rfl) (fun r4 M3 => ?_)
  refine r_csI (rest := [.int 0]) (ct_Math_min (x2 - 1) r4 _) (dt_Fram_depthOf.at 10 rfl) mb_Math_min wd_989 wd_334 (by decide) rfl rfl (Nat.le_of_ble_eq_true rfl) (fun r6 M5 => ?_)
  refine r_csI (rest := []) (ct_Math_max 0 r6 _) (dt_Fram_depthOf.at 11 rfl) mb_Math_max wd_990 wd_655 (by decide) rfl rfl (Nat.le_of_ble_eq_true rfl) (fun r8 M7 => ?_)
  exact r_iret (dt_Fram_depthOf.at 12 rfl) rfl
set_option maxRecDepth 20000 in
set_option maxHeartbeats 2000000 in
theorem rf_Fram_putInOrder_L123 {G : am_G} {l : Launch} (k78 : Nat → Int32 → am_M → am_R) (hk78 : ∀ v0 v2 M, Rf G l X_Fram_putInOrder 78 [.ref v0, .retAddr 0, .int v2, .retAddr 0, .retAddr 0] [] M (k78 v0 v2 M)) (v0 : Nat) (v2 : Int32) (v3 : Int32) (M : am_M) : Rf G l X_Fram_putInOrder 123 [.ref v0, .retAddr 0, .int v2, .int v3, .retAddr 0] [] M (F_Fram_putInOrder_L123 k78 v0 v2 v3 M) := by
  unfold F_Fram_putInOrder_L123
  refine r_aload_n (dt_Fram_putInOrder.at 75 rfl) rfl ?_
  refine r_fR (dt_Fram_putInOrder.at 76 rfl) fl_Fram_18 rfl (fun b12 => ?_)
  refine r_iload_n (dt_Fram_putInOrder.at 77 rfl) rfl ?_
  refine r_dup2 (dt_Fram_putInOrder.at 78 rfl) rfl rfl ?_
  refine r_aI (dt_Fram_putInOrder.at 79 rfl) (fun x13 => ?_)
  refine r_iconst (dt_Fram_putInOrder.at 80 rfl) 1 (by decide) ?_
  refine r_iadd (dt_Fram_putInOrder.at 81 rfl) ?_
  refine r_tI (dt_Fram_putInOrder.at 82 rfl) (fun M14 => ?_)
  refine r_iincn (v := 1) (dt_Fram_putInOrder.at 83 rfl) (by decide) rfl (by decide) (fun y => [.ref v0, .retAddr 0, .int y, .int v3, .retAddr 0]) (fun _ => rfl) (fun x15 => ?_)
  refine r_goto (tgt := 78) (dt_Fram_putInOrder.at 84 rfl) (by decide) ?_
  exact Rf.msk [true, false, true, false, false] (hk78 v0 x15 M14)
set_option maxRecDepth 20000 in
set_option maxHeartbeats 2000000 in
theorem rf_Fram_putInOrder_L78 {G : am_G} {l : Launch}   : ∀ (n : Nat) (v0 : Nat) (v2 : Int32) (M : am_M), Rf G l X_Fram_putInOrder 78 [.ref v0, .retAddr 0, .int v2, .retAddr 0, .retAddr 0] [] M (F_Fram_putInOrder_L78 n v0 v2 M) := by
  intro n
  induction n with
  | zero => intro v0 v2 M; exact Rf.no
  | succ n ih =>
    intro v0 v2 M
    unfold F_Fram_putInOrder_L78
    refine r_iload_n (dt_Fram_putInOrder.at 50 rfl) rfl ?_
    refine r_aload_n (dt_Fram_putInOrder.at 51 rfl) rfl ?_
    refine r_fI (dt_Fram_putInOrder.at 52 rfl) fl_Fram_43 rfl (fun x7 => ?_)
    refine r_icmp_ge (tgt := 139) (dt_Fram_putInOrder.at 53 rfl) (by decide) ?_ ?_
    · exact r_vret (dt_Fram_putInOrder.at 85 rfl) rfl
    · refine r_aload_n (dt_Fram_putInOrder.at 54 rfl) rfl ?_
      refine r_iload_n (dt_Fram_putInOrder.at 55 rfl) rfl ?_
      refine r_cvI (c := 1) (rest := []) (ct_Fram_depthOf v0 v2 _) (dt_Fram_putInOrder.at 56 rfl) mb_Fram_depthOf wd_977 wd_979 wp_31 rfl (by decide) rfl rfl (Nat.le_of_ble_eq_true rfl) (fun r9 M8 => ?_)
      refine r_istore_n (ls' := [.ref v0, .retAddr 0, .int v2, .int r9, .retAddr 0]) (dt_Fram_putInOrder.at 57 rfl) (by decide) rfl ?_
      refine r_aload_n (dt_Fram_putInOrder.at 58 rfl) rfl ?_
      refine r_fR (dt_Fram_putInOrder.at 59 rfl) fl_Fram_18 rfl (fun b10 => ?_)
      refine r_iload_n (dt_Fram_putInOrder.at 60 rfl) rfl ?_
      refine r_aI (dt_Fram_putInOrder.at 61 rfl) (fun x11 => ?_)
      refine r_istore (ls' := [.ref v0, .retAddr 0, .int v2, .int r9, .int x11]) (dt_Fram_putInOrder.at 62 rfl) (by decide) rfl ?_
      refine r_iload (dt_Fram_putInOrder.at 63 rfl) rfl ?_
      refine r_if_lt (tgt := 123) (dt_Fram_putInOrder.at 64 rfl) (by decide) ?_ ?_
      · exact Rf.msk [true, false, true, true, false] (rf_Fram_putInOrder_L123 (F_Fram_putInOrder_L78 n) ih v0 v2 r9 M8)
      · refine r_iload (dt_Fram_putInOrder.at 65 rfl) rfl ?_
        refine r_aload_n (dt_Fram_putInOrder.at 66 rfl) rfl ?_
        refine r_fR (dt_Fram_putInOrder.at 67 rfl) fl_Fram_15 rfl (fun b16 => ?_)
        refine r_aN (dt_Fram_putInOrder.at 68 rfl) (fun x17 => ?_)
        refine r_icmp_ge (tgt := 123) (dt_Fram_putInOrder.at 69 rfl) (by decide) ?_ ?_
        · exact Rf.msk [true, false, true, true, false] (rf_Fram_putInOrder_L123 (F_Fram_putInOrder_L78 n) ih v0 v2 r9 M8)
        · refine r_aload_n (dt_Fram_putInOrder.at 70 rfl) rfl ?_
          refine r_fR (dt_Fram_putInOrder.at 71 rfl) fl_Fram_15 rfl (fun b18 => ?_)
          refine r_iload (dt_Fram_putInOrder.at 72 rfl) rfl ?_
          refine r_iload_n (dt_Fram_putInOrder.at 73 rfl) rfl ?_
          refine r_tI (dt_Fram_putInOrder.at 74 rfl) (fun M19 => ?_)
          exact Rf.msk [true, false, true, true, false] (rf_Fram_putInOrder_L123 (F_Fram_putInOrder_L78 n) ih v0 v2 r9 M19)
set_option maxRecDepth 20000 in
set_option maxHeartbeats 2000000 in
theorem rf_Fram_putInOrder_L48 {G : am_G} {l : Launch}   : ∀ (n : Nat) (v0 : Nat) (v1 : Int32) (v2 : Int32) (M : am_M), Rf G l X_Fram_putInOrder 48 [.ref v0, .int v1, .int v2, .retAddr 0, .retAddr 0] [] M (F_Fram_putInOrder_L48 n v0 v1 v2 M) := by
  intro n
  induction n with
  | zero => intro v0 v1 v2 M; exact Rf.no
  | succ n ih =>
    intro v0 v1 v2 M
    unfold F_Fram_putInOrder_L48
    refine r_iload_n (dt_Fram_putInOrder.at 30 rfl) rfl ?_
    refine r_if_lt (tgt := 76) (dt_Fram_putInOrder.at 31 rfl) (by decide) ?_ ?_
    · refine r_iconst (dt_Fram_putInOrder.at 48 rfl) 0 (by decide) ?_
      refine r_istore_n (ls' := [.ref v0, .int v1, .int 0, .retAddr 0, .retAddr 0]) (dt_Fram_putInOrder.at 49 rfl) (by decide) rfl ?_
      exact Rf.msk [true, false, true, false, false] (rf_Fram_putInOrder_L78 fu v0 0 M)
    · refine r_aload_n (dt_Fram_putInOrder.at 32 rfl) rfl ?_
      refine r_fR (dt_Fram_putInOrder.at 33 rfl) fl_Fram_18 rfl (fun b20 => ?_)
      refine r_iload_n (dt_Fram_putInOrder.at 34 rfl) rfl ?_
      refine r_aI (dt_Fram_putInOrder.at 35 rfl) (fun x21 => ?_)
      refine r_istore_n (ls' := [.ref v0, .int v1, .int v2, .int x21, .retAddr 0]) (dt_Fram_putInOrder.at 36 rfl) (by decide) rfl ?_
      refine r_aload_n (dt_Fram_putInOrder.at 37 rfl) rfl ?_
      refine r_fR (dt_Fram_putInOrder.at 38 rfl) fl_Fram_18 rfl (fun b22 => ?_)
      refine r_iload_n (dt_Fram_putInOrder.at 39 rfl) rfl ?_
      refine r_iload_n (dt_Fram_putInOrder.at 40 rfl) rfl ?_
      refine r_tI (dt_Fram_putInOrder.at 41 rfl) (fun M23 => ?_)
      refine r_iload_n (dt_Fram_putInOrder.at 42 rfl) rfl ?_
      refine r_iload_n (dt_Fram_putInOrder.at 43 rfl) rfl ?_
      refine r_iadd (dt_Fram_putInOrder.at 44 rfl) ?_
      refine r_nmi (fun x24 => ?_)
      refine r_istore_n (ls' := [.ref v0, .int x24, .int v2, .int x21, .retAddr 0]) (dt_Fram_putInOrder.at 45 rfl) (by decide) rfl ?_
      refine r_iincn (v := (-1)) (dt_Fram_putInOrder.at 46 rfl) (by decide) rfl (by decide) (fun y => [.ref v0, .int x24, .int y, .int x21, .retAddr 0]) (fun _ => rfl) (fun x25 => ?_)
      refine r_goto (tgt := 48) (dt_Fram_putInOrder.at 47 rfl) (by decide) ?_
      exact Rf.msk [true, true, true, false, false] (ih v0 x24 x25 M23)
set_option maxRecDepth 20000 in
set_option maxHeartbeats 2000000 in
theorem rf_Fram_putInOrder_L10 {G : am_G} {l : Launch}   : ∀ (n : Nat) (v0 : Nat) (v1 : Int32) (M : am_M), Rf G l X_Fram_putInOrder 10 [.ref v0, .int v1, .retAddr 0, .retAddr 0, .retAddr 0] [] M (F_Fram_putInOrder_L10 n v0 v1 M) := by
  intro n
  induction n with
  | zero => intro v0 v1 M; exact Rf.no
  | succ n ih =>
    intro v0 v1 M
    unfold F_Fram_putInOrder_L10
    refine r_iload_n (dt_Fram_putInOrder.at 6 rfl) rfl ?_
    refine r_aload_n (dt_Fram_putInOrder.at 7 rfl) rfl ?_
    refine r_fI (dt_Fram_putInOrder.at 8 rfl) fl_Fram_43 rfl (fun x3 => ?_)
    refine r_icmp_ge (tgt := 38) (dt_Fram_putInOrder.at 9 rfl) (by decide) ?_ ?_
    · refine r_iconst (dt_Fram_putInOrder.at 22 rfl) 0 (by decide) ?_
      refine r_istore_n (ls' := [.ref v0, .int 0, .retAddr 0, .retAddr 0, .retAddr 0]) (dt_Fram_putInOrder.at 23 rfl) (by decide) rfl ?_
      refine r_aload_n (dt_Fram_putInOrder.at 24 rfl) rfl ?_
      refine r_fR (dt_Fram_putInOrder.at 25 rfl) fl_Fram_18 rfl (fun b4 => ?_)
      refine r_aN (dt_Fram_putInOrder.at 26 rfl) (fun x5 => ?_)
      refine r_iconst (dt_Fram_putInOrder.at 27 rfl) 1 (by decide) ?_
      refine r_isub (dt_Fram_putInOrder.at 28 rfl) ?_
      refine r_nmi (fun x6 => ?_)
      refine r_istore_n (ls' := [.ref v0, .int 0, .int x6, .retAddr 0, .retAddr 0]) (dt_Fram_putInOrder.at 29 rfl) (by decide) rfl ?_
      exact Rf.msk [true, true, true, false, false] (rf_Fram_putInOrder_L48 fu v0 0 x6 M)
    · refine r_aload_n (dt_Fram_putInOrder.at 10 rfl) rfl ?_
      refine r_fR (dt_Fram_putInOrder.at 11 rfl) fl_Fram_18 rfl (fun b26 => ?_)
      refine r_aload_n (dt_Fram_putInOrder.at 12 rfl) rfl ?_
      refine r_iload_n (dt_Fram_putInOrder.at 13 rfl) rfl ?_
      refine r_cvI (c := 1) (rest := [.ref b26]) (ct_Fram_depthOf v0 v1 _) (dt_Fram_putInOrder.at 14 rfl) mb_Fram_depthOf wd_977 wd_979 wp_31 rfl (by decide) rfl rfl (Nat.le_of_ble_eq_true rfl) (fun r28 M27 => ?_)
      refine r_dup2 (dt_Fram_putInOrder.at 15 rfl) rfl rfl ?_
      refine r_aI (dt_Fram_putInOrder.at 16 rfl) (fun x29 => ?_)
      refine r_iconst (dt_Fram_putInOrder.at 17 rfl) 1 (by decide) ?_
      refine r_iadd (dt_Fram_putInOrder.at 18 rfl) ?_
      refine r_tI (dt_Fram_putInOrder.at 19 rfl) (fun M30 => ?_)
      refine r_iincn (v := 1) (dt_Fram_putInOrder.at 20 rfl) (by decide) rfl (by decide) (fun y => [.ref v0, .int y, .retAddr 0, .retAddr 0, .retAddr 0]) (fun _ => rfl) (fun x31 => ?_)
      refine r_goto (tgt := 10) (dt_Fram_putInOrder.at 21 rfl) (by decide) ?_
      exact Rf.msk [true, true, false, false, false] (ih v0 x31 M30)
set_option maxRecDepth 20000 in
set_option maxHeartbeats 2000000 in
theorem ct_Fram_putInOrder {G : am_G} {l : Launch} (a0 : Nat) (M : am_M) : Ct G l y_Fram_putInOrder X_Fram_putInOrder [.ref a0] M (F_Fram_putInOrder a0 M) := by
  refine Ct.of (by decide +kernel) rfl rfl (Nat.le_of_ble_eq_true rfl) ?_
  unfold F_Fram_putInOrder
  show Rf G l X_Fram_putInOrder 0 [.ref a0, .retAddr 0, .retAddr 0, .retAddr 0, .retAddr 0] [] M _
  refine r_aload_n (dt_Fram_putInOrder.at 0 rfl) rfl ?_
  refine r_fR (dt_Fram_putInOrder.at 1 rfl) fl_Fram_18 rfl (fun b1 => ?_)
  refine r_iconst (dt_Fram_putInOrder.at 2 rfl) 0 (by decide) ?_
  refine r_csV (rest := []) (ct_Arr_fill b1 0 _) (dt_Fram_putInOrder.at 3 rfl) mb_Arr_fill wd_976 wd_341 (by decide) rfl rfl (Nat.le_of_ble_eq_true rfl) (fun M2 => ?_)
  refine r_iconst (dt_Fram_putInOrder.at 4 rfl) 0 (by decide) ?_
  refine r_istore_n (ls' := [.ref a0, .int 0, .retAddr 0, .retAddr 0, .retAddr 0]) (dt_Fram_putInOrder.at 5 rfl) (by decide) rfl ?_
  exact Rf.msk [true, true, false, false, false] (rf_Fram_putInOrder_L10 fu a0 0 M2)
set_option maxRecDepth 20000 in
set_option maxHeartbeats 2000000 in
theorem rf_Fram_shows_L65 {G : am_G} {l : Launch} (k47 : Nat → Int32 → Int32 → am_M → am_R) (hk47 : ∀ v0 v1 v2 M, Rf G l X_Fram_shows 47 [.ref v0, .int v1, .int v2, .retAddr 0] [] M (k47 v0 v1 v2 M)) : ∀ (n : Nat) (v0 : Nat) (v1 : Int32) (v2 : Int32) (v3 : Int32) (M : am_M), Rf G l X_Fram_shows 65 [.ref v0, .int v1, .int v2, .int v3] [] M (F_Fram_shows_L65 k47 n v0 v1 v2 v3 M) := by
  intro n
  induction n with
  | zero => intro v0 v1 v2 v3 M; exact Rf.no
  | succ n ih =>
    intro v0 v1 v2 v3 M
    unfold F_Fram_shows_L65
    refine r_iload_n (dt_Fram_shows.at 36 rfl) rfl ?_
    refine r_aload_n (dt_Fram_shows.at 37 rfl) rfl ?_
    refine r_fR (dt_Fram_shows.at 38 rfl) fl_Fram_29 rfl (fun b16 => ?_)
    refine r_fI (dt_Fram_shows.at 39 rfl) fl_Fram_57 rfl (fun x17 => ?_)
    refine r_icmp_ge (tgt := 95) (dt_Fram_shows.at 40 rfl) (by decide) ?_ ?_
    · refine r_iincn (v := 1) (dt_Fram_shows.at 50 rfl) (by decide) rfl (by decide) (fun y => [.ref v0, .int v1, .int y, .int v3]) (fun _ => rfl) (fun x18 => ?_)
      refine r_goto (tgt := 47) (dt_Fram_shows.at 51 rfl) (by decide) ?_
      exact Rf.msk [true, true, true, false] (hk47 v0 v1 x18 M)
    · refine r_aload_n (dt_Fram_shows.at 41 rfl) rfl ?_
      refine r_aload_n (dt_Fram_shows.at 42 rfl) rfl ?_
      refine r_fR (dt_Fram_shows.at 43 rfl) fl_Fram_29 rfl (fun b19 => ?_)
      refine r_iload_n (dt_Fram_shows.at 44 rfl) rfl ?_
      refine r_cvR (c := 7) (rest := [.ref v0]) (ct_Walk_shown b19 v3 _) (dt_Fram_shows.at 45 rfl) mb_Walk_shown wd_950 wd_827 wd_828 rfl (by decide) rfl rfl (Nat.le_of_ble_eq_true rfl) (fun M20 => ?_) (fun b21 M20 => ?_)
      · refine r_iload_n (dt_Fram_shows.at 46 rfl) rfl ?_
        exact Rf.no
      · refine r_iload_n (dt_Fram_shows.at 46 rfl) rfl ?_
        refine r_cvV (c := 1) (rest := []) (ct_Fram_append v0 b21 v1 _) (dt_Fram_shows.at 47 rfl) mb_Fram_append wd_951 wd_953 wp_28 rfl (by decide) rfl rfl (Nat.le_of_ble_eq_true rfl) (fun M22 => ?_)
        refine r_iincn (v := 1) (dt_Fram_shows.at 48 rfl) (by decide) rfl (by decide) (fun y => [.ref v0, .int v1, .int v2, .int y]) (fun _ => rfl) (fun x23 => ?_)
        refine r_goto (tgt := 65) (dt_Fram_shows.at 49 rfl) (by decide) ?_
        exact Rf.msk [true, true, true, true] (ih v0 v1 v2 x23 M22)
set_option maxRecDepth 20000 in
set_option maxHeartbeats 2000000 in
theorem rf_Fram_shows_L47 {G : am_G} {l : Launch}   : ∀ (n : Nat) (v0 : Nat) (v1 : Int32) (v2 : Int32) (M : am_M), Rf G l X_Fram_shows 47 [.ref v0, .int v1, .int v2, .retAddr 0] [] M (F_Fram_shows_L47 n v0 v1 v2 M) := by
  intro n
  induction n with
  | zero => intro v0 v1 v2 M; exact Rf.no
  | succ n ih =>
    intro v0 v1 v2 M
    unfold F_Fram_shows_L47
    refine r_iload_n (dt_Fram_shows.at 27 rfl) rfl ?_
    refine r_ldc (dt_Fram_shows.at 28 rfl) 1000000 wd_948 ?_
    refine r_icmp_ge (tgt := 101) (dt_Fram_shows.at 29 rfl) (by decide) ?_ ?_
    · refine r_aload_n (dt_Fram_shows.at 52 rfl) rfl ?_
      refine r_cvV (c := 1) (rest := []) (ct_Fram_putInOrder v0 _) (dt_Fram_shows.at 53 rfl) mb_Fram_putInOrder wd_972 wd_974 wp_30 rfl (by decide) rfl rfl (Nat.le_of_ble_eq_true rfl) (fun M9 => ?_)
      refine r_aload_n (dt_Fram_shows.at 54 rfl) rfl ?_
      refine r_iload_n (dt_Fram_shows.at 55 rfl) rfl ?_
      refine r_sI (dt_Fram_shows.at 56 rfl) fl_Fram_21 rfl rfl rfl (fun M10 => ?_)
      refine r_iconst (dt_Fram_shows.at 57 rfl) 1 (by decide) ?_
      exact r_zret (dt_Fram_shows.at 58 rfl) rfl rfl
    · refine r_aload_n (dt_Fram_shows.at 30 rfl) rfl ?_
      refine r_fR (dt_Fram_shows.at 31 rfl) fl_Fram_29 rfl (fun b11 => ?_)
      refine r_cvI (c := 7) (rest := []) (ct_Walk_stepRoot b11 _) (dt_Fram_shows.at 32 rfl) mb_Walk_stepRoot wd_949 wd_803 wd_804 rfl (by decide) rfl rfl (Nat.le_of_ble_eq_true rfl) (fun r13 M12 => ?_)
      refine r_if_eq (tgt := 101) (dt_Fram_shows.at 33 rfl) (by decide) ?_ ?_
      · refine r_aload_n (dt_Fram_shows.at 52 rfl) rfl ?_
        refine r_cvV (c := 1) (rest := []) (ct_Fram_putInOrder v0 _) (dt_Fram_shows.at 53 rfl) mb_Fram_putInOrder wd_972 wd_974 wp_30 rfl (by decide) rfl rfl (Nat.le_of_ble_eq_true rfl) (fun M14 => ?_)
        refine r_aload_n (dt_Fram_shows.at 54 rfl) rfl ?_
        refine r_iload_n (dt_Fram_shows.at 55 rfl) rfl ?_
        refine r_sI (dt_Fram_shows.at 56 rfl) fl_Fram_21 rfl rfl rfl (fun M15 => ?_)
        refine r_iconst (dt_Fram_shows.at 57 rfl) 1 (by decide) ?_
        exact r_zret (dt_Fram_shows.at 58 rfl) rfl rfl
      · refine r_iconst (dt_Fram_shows.at 34 rfl) 0 (by decide) ?_
        refine r_istore_n (ls' := [.ref v0, .int v1, .int v2, .int 0]) (dt_Fram_shows.at 35 rfl) (by decide) rfl ?_
        exact Rf.msk [true, true, true, true] (rf_Fram_shows_L65 (F_Fram_shows_L47 n) ih fu v0 v1 v2 0 M12)
set_option maxRecDepth 20000 in
set_option maxHeartbeats 2000000 in
theorem ct_Fram_shows {G : am_G} {l : Launch} (a0 : Nat) (p1 : Int32) (M : am_M) : Ct G l y_Fram_shows X_Fram_shows [.ref a0, .int p1] M (F_Fram_shows a0 p1 M) := by
  refine Ct.of (by decide +kernel) rfl rfl (Nat.le_of_ble_eq_true rfl) ?_
  unfold F_Fram_shows
  show Rf G l X_Fram_shows 0 [.ref a0, .int p1, .retAddr 0, .retAddr 0] [] M _
  refine r_aload_n (dt_Fram_shows.at 0 rfl) rfl ?_
  refine r_fR (dt_Fram_shows.at 1 rfl) fl_Fram_25 rfl (fun b1 => ?_)
  refine r_fI (dt_Fram_shows.at 2 rfl) fl_Fram_33 rfl (fun x2 => ?_)
  refine r_if_eq (tgt := 17) (dt_Fram_shows.at 3 rfl) (by decide) ?_ ?_
  · refine r_iconst (dt_Fram_shows.at 7 rfl) 0 (by decide) ?_
    exact r_zret (dt_Fram_shows.at 8 rfl) rfl rfl
  · refine r_iload_n (dt_Fram_shows.at 4 rfl) rfl ?_
    refine r_cnI (rest := []) (ct_NS_isTick p1 _) (dt_Fram_shows.at 5 rfl) mb_NS_isTick wd_946 wd_715 (by decide) rfl rfl (Nat.le_of_ble_eq_true rfl) (fun r4 M3 => ?_)
    refine r_if_ne (tgt := 19) (dt_Fram_shows.at 6 rfl) (by decide) ?_ ?_
    · refine r_iconst (dt_Fram_shows.at 7 rfl) 0 (by decide) ?_
      exact r_zret (dt_Fram_shows.at 8 rfl) rfl rfl
    · refine r_iload_n (dt_Fram_shows.at 9 rfl) rfl ?_
      refine r_aload_n (dt_Fram_shows.at 10 rfl) rfl ?_
      refine r_fI (dt_Fram_shows.at 11 rfl) fl_Fram_21 rfl (fun x5 => ?_)
      refine r_icmp_ne (tgt := 29) (dt_Fram_shows.at 12 rfl) (by decide) ?_ ?_
      · refine r_iconst (dt_Fram_shows.at 13 rfl) 1 (by decide) ?_
        exact r_zret (dt_Fram_shows.at 14 rfl) rfl rfl
      · refine r_aload_n (dt_Fram_shows.at 15 rfl) rfl ?_
        refine r_iconst (dt_Fram_shows.at 16 rfl) 0 (by decide) ?_
        refine r_sI (dt_Fram_shows.at 17 rfl) fl_Fram_43 rfl rfl rfl (fun M6 => ?_)
        refine r_aload_n (dt_Fram_shows.at 18 rfl) rfl ?_
        refine r_fR (dt_Fram_shows.at 19 rfl) fl_Fram_29 rfl (fun b7 => ?_)
        refine r_iload_n (dt_Fram_shows.at 20 rfl) rfl ?_
        refine r_iload_n (dt_Fram_shows.at 21 rfl) rfl ?_
        refine r_iconst (dt_Fram_shows.at 22 rfl) 1 (by decide) ?_
        refine r_iadd (dt_Fram_shows.at 23 rfl) ?_
        refine r_cvV (c := 7) (rest := []) (ct_Walk_start b7 p1 (p1 + 1) _) (dt_Fram_shows.at 24 rfl) mb_Walk_start wd_947 wd_783 wd_784 rfl (by decide) rfl rfl (Nat.le_of_ble_eq_true rfl) (fun M8 => ?_)
        refine r_iconst (dt_Fram_shows.at 25 rfl) 0 (by decide) ?_
        refine r_istore_n (ls' := [.ref a0, .int p1, .int 0, .retAddr 0]) (dt_Fram_shows.at 26 rfl) (by decide) rfl ?_
        exact Rf.msk [true, true, true, false] (rf_Fram_shows_L47 fu a0 p1 0 M8)
set_option maxRecDepth 20000 in
set_option maxHeartbeats 2000000 in
theorem ct_Fram_kindOf {G : am_G} {l : Launch} (a0 : Nat) (p1 : Int32) (M : am_M) : Ct G l y_Fram_kindOf X_Fram_kindOf [.ref a0, .int p1] M (F_Fram_kindOf a0 p1 M) := by
  refine Ct.of (by decide +kernel) rfl rfl (Nat.le_of_ble_eq_true rfl) ?_
  unfold F_Fram_kindOf
  show Rf G l X_Fram_kindOf 0 [.ref a0, .int p1] [] M _
  refine r_aload_n (dt_Fram_kindOf.at 0 rfl) rfl ?_
  refine r_iload_n (dt_Fram_kindOf.at 1 rfl) rfl ?_
  refine r_iconst (dt_Fram_kindOf.at 2 rfl) 1 (by decide) ?_
  refine r_cvI (c := 1) (rest := []) (ct_Fram_ofRow a0 p1 1 _) (dt_Fram_kindOf.at 3 rfl) mb_Fram_ofRow wd_985 wd_987 wp_32 rfl (by decide) rfl rfl (Nat.le_of_ble_eq_true rfl) (fun r2 M1 => ?_)
  exact r_iret (dt_Fram_kindOf.at 4 rfl) rfl
set_option maxRecDepth 20000 in
set_option maxHeartbeats 2000000 in
theorem rf_NS_many_L48 {G : am_G} {l : Launch}   : ∀ (n : Nat) (v0 : Nat) (v2 : Int32) (v3 : Int32) (v4 : Int32) (M : am_M), Rf G l X_NS_many 48 [.ref v0, .retAddr 0, .int v2, .int v3, .int v4] [] M (F_NS_many_L48 n v0 v2 v3 v4 M) := by
  intro n
  induction n with
  | zero => intro v0 v2 v3 v4 M; exact Rf.no
  | succ n ih =>
    intro v0 v2 v3 v4 M
    unfold F_NS_many_L48
    refine r_iload (dt_NS_many.at 26 rfl) rfl ?_
    refine r_aload_n (dt_NS_many.at 27 rfl) rfl ?_
    refine r_fR (dt_NS_many.at 28 rfl) fl_NS_55 rfl (fun b6 => ?_)
    refine r_fI (dt_NS_many.at 29 rfl) fl_NS_310 rfl (fun x7 => ?_)
    refine r_icmp_ge (tgt := 82) (dt_NS_many.at 30 rfl) (by decide) ?_ ?_
    · refine r_iload_n (dt_NS_many.at 40 rfl) rfl ?_
      exact r_iret (dt_NS_many.at 41 rfl) rfl
    · refine r_aload_n (dt_NS_many.at 31 rfl) rfl ?_
      refine r_fR (dt_NS_many.at 32 rfl) fl_NS_55 rfl (fun b8 => ?_)
      refine r_iload (dt_NS_many.at 33 rfl) rfl ?_
      refine r_cvI (c := 1) (rest := []) (ct_Fram_kindOf b8 v4 _) (dt_NS_many.at 34 rfl) mb_Fram_kindOf wd_991 wd_992 wd_993 rfl (by decide) rfl rfl (Nat.le_of_ble_eq_true rfl) (fun r10 M9 => ?_)
      refine r_iload_n (dt_NS_many.at 35 rfl) rfl ?_
      refine r_icmp_ne (tgt := 76) (dt_NS_many.at 36 rfl) (by decide) ?_ ?_
      · refine r_iincn (v := 1) (dt_NS_many.at 37 rfl) (by decide) rfl (by decide) (fun y => [.ref v0, .retAddr 0, .int v2, .int y, .int v4]) (fun _ => rfl) (fun x11 => ?_)
        refine r_iincn (v := 1) (dt_NS_many.at 38 rfl) (by decide) rfl (by decide) (fun y => [.ref v0, .retAddr 0, .int v2, .int x11, .int y]) (fun _ => rfl) (fun x12 => ?_)
        refine r_goto (tgt := 48) (dt_NS_many.at 39 rfl) (by decide) ?_
        exact Rf.msk [true, false, true, true, true] (ih v0 v2 x11 x12 M9)
      · refine r_iincn (v := 1) (dt_NS_many.at 38 rfl) (by decide) rfl (by decide) (fun y => [.ref v0, .retAddr 0, .int v2, .int v3, .int y]) (fun _ => rfl) (fun x13 => ?_)
        refine r_goto (tgt := 48) (dt_NS_many.at 39 rfl) (by decide) ?_
        exact Rf.msk [true, false, true, true, true] (ih v0 v2 v3 x13 M9)
set_option maxRecDepth 20000 in
set_option maxHeartbeats 2000000 in
theorem rf_NS_many_L16 {G : am_G} {l : Launch}   (v0 : Nat) (v1 : Int32) (v2 : Int32) (M : am_M) : Rf G l X_NS_many 16 [.ref v0, .int v1, .int v2, .retAddr 0, .retAddr 0] [] M (F_NS_many_L16 v0 v1 v2 M) := by
  unfold F_NS_many_L16
  refine r_aload_n (dt_NS_many.at 8 rfl) rfl ?_
  refine r_fR (dt_NS_many.at 9 rfl) fl_NS_55 rfl (fun b1 => ?_)
  refine r_iload_n (dt_NS_many.at 10 rfl) rfl ?_
  refine r_cvI (c := 1) (rest := []) (ct_Fram_shows b1 v1 _) (dt_NS_many.at 11 rfl) mb_Fram_shows wd_942 wd_943 wd_944 rfl (by decide) rfl rfl (Nat.le_of_ble_eq_true rfl) (fun r3 M2 => ?_)
  refine r_if_ne (tgt := 30) (dt_NS_many.at 12 rfl) (by decide) ?_ ?_
  · refine r_bipush (dt_NS_many.at 13 rfl) (-2) (by decide) ?_
    exact r_iret (dt_NS_many.at 14 rfl) rfl
  · refine r_iload_n (dt_NS_many.at 15 rfl) rfl ?_
    refine r_iconst (dt_NS_many.at 16 rfl) (-1) (by decide) ?_
    refine r_icmp_ne (tgt := 43) (dt_NS_many.at 17 rfl) (by decide) ?_ ?_
    · refine r_aload_n (dt_NS_many.at 18 rfl) rfl ?_
      refine r_fR (dt_NS_many.at 19 rfl) fl_NS_55 rfl (fun b4 => ?_)
      refine r_fI (dt_NS_many.at 20 rfl) fl_NS_310 rfl (fun x5 => ?_)
      exact r_iret (dt_NS_many.at 21 rfl) rfl
    · refine r_iconst (dt_NS_many.at 22 rfl) 0 (by decide) ?_
      refine r_istore_n (ls' := [.ref v0, .int v1, .int v2, .int 0, .retAddr 0]) (dt_NS_many.at 23 rfl) (by decide) rfl ?_
      refine r_iconst (dt_NS_many.at 24 rfl) 0 (by decide) ?_
      refine r_istore (ls' := [.ref v0, .int v1, .int v2, .int 0, .int 0]) (dt_NS_many.at 25 rfl) (by decide) rfl ?_
      exact Rf.msk [true, false, true, true, true] (rf_NS_many_L48 fu v0 v2 0 0 M2)
set_option maxRecDepth 20000 in
set_option maxHeartbeats 2000000 in
theorem ct_NS_many {G : am_G} {l : Launch} (a0 : Nat) (p1 : Int32) (p2 : Int32) (M : am_M) : Ct G l y_NS_many X_NS_many [.ref a0, .int p1, .int p2] M (F_NS_many a0 p1 p2 M) := by
  refine Ct.of (by decide +kernel) rfl rfl (Nat.le_of_ble_eq_true rfl) ?_
  unfold F_NS_many
  show Rf G l X_NS_many 0 [.ref a0, .int p1, .int p2, .retAddr 0, .retAddr 0] [] M _
  refine r_iload_n (dt_NS_many.at 0 rfl) rfl ?_
  refine r_iconst (dt_NS_many.at 1 rfl) (-1) (by decide) ?_
  refine r_icmp_eq (tgt := 16) (dt_NS_many.at 2 rfl) (by decide) ?_ ?_
  · exact Rf.msk [true, true, true, false, false] (rf_NS_many_L16 a0 p1 p2 M)
  · refine r_aload_n (dt_NS_many.at 3 rfl) rfl ?_
    refine r_fR (dt_NS_many.at 4 rfl) fl_NS_16 rfl (fun b14 => ?_)
    refine r_iload_n (dt_NS_many.at 5 rfl) rfl ?_
    refine r_cvI (c := 5) (rest := []) (ct_Scen_isKind b14 p2 _) (dt_NS_many.at 6 rfl) mb_Scen_isKind wd_538 wd_539 wd_540 rfl (by decide) rfl rfl (Nat.le_of_ble_eq_true rfl) (fun r16 M15 => ?_)
    refine r_if_eq (tgt := 27) (dt_NS_many.at 7 rfl) (by decide) ?_ ?_
    · refine r_bipush (dt_NS_many.at 13 rfl) (-2) (by decide) ?_
      exact r_iret (dt_NS_many.at 14 rfl) rfl
    · exact Rf.msk [true, true, true, false, false] (rf_NS_many_L16 a0 p1 p2 M15)
set_option maxRecDepth 20000 in
set_option maxHeartbeats 2000000 in
theorem ct_Fram_rowAt {G : am_G} {l : Launch} (a0 : Nat) (p1 : Int32) (M : am_M) : Ct G l y_Fram_rowAt X_Fram_rowAt [.ref a0, .int p1] M (F_Fram_rowAt a0 p1 M) := by
  refine Ct.of (by decide +kernel) rfl rfl (Nat.le_of_ble_eq_true rfl) ?_
  unfold F_Fram_rowAt
  show Rf G l X_Fram_rowAt 0 [.ref a0, .int p1] [] M _
  refine r_iload_n (dt_Fram_rowAt.at 0 rfl) rfl ?_
  refine r_if_lt (tgt := 22) (dt_Fram_rowAt.at 1 rfl) (by decide) ?_ ?_
  · refine r_iconst (dt_Fram_rowAt.at 12 rfl) 0 (by decide) ?_
    exact r_iret (dt_Fram_rowAt.at 13 rfl) rfl
  · refine r_iload_n (dt_Fram_rowAt.at 2 rfl) rfl ?_
    refine r_aload_n (dt_Fram_rowAt.at 3 rfl) rfl ?_
    refine r_fR (dt_Fram_rowAt.at 4 rfl) fl_Fram_15 rfl (fun b1 => ?_)
    refine r_aN (dt_Fram_rowAt.at 5 rfl) (fun x2 => ?_)
    refine r_icmp_ge (tgt := 22) (dt_Fram_rowAt.at 6 rfl) (by decide) ?_ ?_
    · refine r_iconst (dt_Fram_rowAt.at 12 rfl) 0 (by decide) ?_
      exact r_iret (dt_Fram_rowAt.at 13 rfl) rfl
    · refine r_aload_n (dt_Fram_rowAt.at 7 rfl) rfl ?_
      refine r_fR (dt_Fram_rowAt.at 8 rfl) fl_Fram_15 rfl (fun b3 => ?_)
      refine r_iload_n (dt_Fram_rowAt.at 9 rfl) rfl ?_
      refine r_aI (dt_Fram_rowAt.at 10 rfl) (fun x4 => ?_)
      refine r_goto (tgt := 23) (dt_Fram_rowAt.at 11 rfl) (by decide) ?_
      exact r_iret (dt_Fram_rowAt.at 13 rfl) rfl
set_option maxRecDepth 20000 in
set_option maxHeartbeats 2000000 in
theorem ct_Fram_codeOf {G : am_G} {l : Launch} (a0 : Nat) (p1 : Int32) (M : am_M) : Ct G l y_Fram_codeOf X_Fram_codeOf [.ref a0, .int p1] M (F_Fram_codeOf a0 p1 M) := by
  refine Ct.of (by decide +kernel) rfl rfl (Nat.le_of_ble_eq_true rfl) ?_
  unfold F_Fram_codeOf
  show Rf G l X_Fram_codeOf 0 [.ref a0, .int p1] [] M _
  refine r_aload_n (dt_Fram_codeOf.at 0 rfl) rfl ?_
  refine r_iload_n (dt_Fram_codeOf.at 1 rfl) rfl ?_
  refine r_iconst (dt_Fram_codeOf.at 2 rfl) 0 (by decide) ?_
  refine r_cvI (c := 1) (rest := []) (ct_Fram_ofRow a0 p1 0 _) (dt_Fram_codeOf.at 3 rfl) mb_Fram_ofRow wd_985 wd_987 wp_32 rfl (by decide) rfl rfl (Nat.le_of_ble_eq_true rfl) (fun r2 M1 => ?_)
  exact r_iret (dt_Fram_codeOf.at 4 rfl) rfl
set_option maxRecDepth 20000 in
set_option maxHeartbeats 2000000 in
theorem ct_NS_drawn {G : am_G} {l : Launch} (a0 : Nat) (p1 : Int32) (p2 : Int32) (M : am_M) : Ct G l y_NS_drawn X_NS_drawn [.ref a0, .int p1, .int p2] M (F_NS_drawn a0 p1 p2 M) := by
  refine Ct.of (by decide +kernel) rfl rfl (Nat.le_of_ble_eq_true rfl) ?_
  unfold F_NS_drawn
  show Rf G l X_NS_drawn 0 [.ref a0, .int p1, .int p2] [] M _
  refine r_iload_n (dt_NS_drawn.at 0 rfl) rfl ?_
  refine r_if_lt (tgt := 15) (dt_NS_drawn.at 1 rfl) (by decide) ?_ ?_
  · refine r_bipush (dt_NS_drawn.at 7 rfl) (-2) (by decide) ?_
    exact r_iret (dt_NS_drawn.at 8 rfl) rfl
  · refine r_aload_n (dt_NS_drawn.at 2 rfl) rfl ?_
    refine r_fR (dt_NS_drawn.at 3 rfl) fl_NS_55 rfl (fun b1 => ?_)
    refine r_iload_n (dt_NS_drawn.at 4 rfl) rfl ?_
    refine r_cvI (c := 1) (rest := []) (ct_Fram_shows b1 p1 _) (dt_NS_drawn.at 5 rfl) mb_Fram_shows wd_942 wd_943 wd_944 rfl (by decide) rfl rfl (Nat.le_of_ble_eq_true rfl) (fun r3 M2 => ?_)
    refine r_if_ne (tgt := 18) (dt_NS_drawn.at 6 rfl) (by decide) ?_ ?_
    · refine r_bipush (dt_NS_drawn.at 7 rfl) (-2) (by decide) ?_
      exact r_iret (dt_NS_drawn.at 8 rfl) rfl
    · refine r_iload_n (dt_NS_drawn.at 9 rfl) rfl ?_
      refine r_aload_n (dt_NS_drawn.at 10 rfl) rfl ?_
      refine r_fR (dt_NS_drawn.at 11 rfl) fl_NS_55 rfl (fun b4 => ?_)
      refine r_fI (dt_NS_drawn.at 12 rfl) fl_NS_310 rfl (fun x5 => ?_)
      refine r_icmp_ge (tgt := 47) (dt_NS_drawn.at 13 rfl) (by decide) ?_ ?_
      · refine r_iconst (dt_NS_drawn.at 22 rfl) (-1) (by decide) ?_
        exact r_iret (dt_NS_drawn.at 23 rfl) rfl
      · refine r_aload_n (dt_NS_drawn.at 14 rfl) rfl ?_
        refine r_fR (dt_NS_drawn.at 15 rfl) fl_NS_55 rfl (fun b6 => ?_)
        refine r_aload_n (dt_NS_drawn.at 16 rfl) rfl ?_
        refine r_fR (dt_NS_drawn.at 17 rfl) fl_NS_55 rfl (fun b7 => ?_)
        refine r_iload_n (dt_NS_drawn.at 18 rfl) rfl ?_
        refine r_cvI (c := 1) (rest := [.ref b6]) (ct_Fram_rowAt b7 p2 _) (dt_NS_drawn.at 19 rfl) mb_Fram_rowAt wd_999 wd_1000 wd_1001 rfl (by decide) rfl rfl (Nat.le_of_ble_eq_true rfl) (fun r9 M8 => ?_)
        refine r_cvI (c := 1) (rest := []) (ct_Fram_codeOf b6 r9 _) (dt_NS_drawn.at 20 rfl) mb_Fram_codeOf wd_1003 wd_1004 wd_1005 rfl (by decide) rfl rfl (Nat.le_of_ble_eq_true rfl) (fun r11 M10 => ?_)
        refine r_goto (tgt := 48) (dt_NS_drawn.at 21 rfl) (by decide) ?_
        exact r_iret (dt_NS_drawn.at 23 rfl) rfl
set_option maxRecDepth 20000 in
set_option maxHeartbeats 2000000 in
theorem rf_NS_digest_L63 {G : am_G} {l : Launch} (k20 : Nat → Int64 → Int32 → am_M → am_R) (hk20 : ∀ v0 v2 v4 M, Rf G l X_NS_digest 20 [.ref v0, .retAddr 0, .long v2, .retAddr 0, .int v4, .retAddr 0, .retAddr 0] [] M (k20 v0 v2 v4 M)) : ∀ (n : Nat) (v0 : Nat) (v2 : Int64) (v4 : Int32) (v5 : Int32) (v6 : Int32) (M : am_M), Rf G l X_NS_digest 63 [.ref v0, .retAddr 0, .long v2, .retAddr 0, .int v4, .int v5, .int v6] [] M (F_NS_digest_L63 k20 n v0 v2 v4 v5 v6 M) := by
  intro n
  induction n with
  | zero => intro v0 v2 v4 v5 v6 M; exact Rf.no
  | succ n ih =>
    intro v0 v2 v4 v5 v6 M
    unfold F_NS_digest_L63
    refine r_iload (dt_NS_digest.at 33 rfl) rfl ?_
    refine r_iconst (dt_NS_digest.at 34 rfl) 3 (by decide) ?_
    refine r_icmp_ge (tgt := 94) (dt_NS_digest.at 35 rfl) (by decide) ?_ ?_
    · refine r_iincn (v := 1) (dt_NS_digest.at 49 rfl) (by decide) rfl (by decide) (fun y => [.ref v0, .retAddr 0, .long v2, .retAddr 0, .int y, .int v5, .int v6]) (fun _ => rfl) (fun x13 => ?_)
      refine r_goto (tgt := 20) (dt_NS_digest.at 50 rfl) (by decide) ?_
      exact Rf.msk [true, false, true, false, true, false, false] (hk20 v0 v2 x13 M)
    · refine r_ldc2 (dt_NS_digest.at 36 rfl) 31 wd_1012 ?_
      refine r_lload_n (dt_NS_digest.at 37 rfl) rfl ?_
      refine r_lmul (dt_NS_digest.at 38 rfl) ?_
      refine r_aload_n (dt_NS_digest.at 39 rfl) rfl ?_
      refine r_fR (dt_NS_digest.at 40 rfl) fl_NS_55 rfl (fun b14 => ?_)
      refine r_iload (dt_NS_digest.at 41 rfl) rfl ?_
      refine r_iload (dt_NS_digest.at 42 rfl) rfl ?_
      refine r_cvI (c := 1) (rest := [.long (31 * v2)]) (ct_Fram_placeOf b14 v5 v6 _) (dt_NS_digest.at 43 rfl) mb_Fram_placeOf wd_1013 wd_982 wd_983 rfl (by decide) rfl rfl (Nat.le_of_ble_eq_true rfl) (fun r16 M15 => ?_)
      refine r_i2l (dt_NS_digest.at 44 rfl) ?_
      refine r_ladd (dt_NS_digest.at 45 rfl) ?_
      refine r_nml (fun z17 => ?_)
      refine r_lstore_n (ls' := [.ref v0, .retAddr 0, .long z17, .retAddr 0, .int v4, .int v5, .int v6]) (dt_NS_digest.at 46 rfl) (by decide) rfl ?_
      refine r_iincn (v := 1) (dt_NS_digest.at 47 rfl) (by decide) rfl (by decide) (fun y => [.ref v0, .retAddr 0, .long z17, .retAddr 0, .int v4, .int v5, .int y]) (fun _ => rfl) (fun x18 => ?_)
      refine r_goto (tgt := 63) (dt_NS_digest.at 48 rfl) (by decide) ?_
      exact Rf.msk [true, false, true, false, true, true, true] (ih v0 z17 v4 v5 x18 M15)
set_option maxRecDepth 20000 in
set_option maxHeartbeats 2000000 in
theorem rf_NS_digest_L20 {G : am_G} {l : Launch}   : ∀ (n : Nat) (v0 : Nat) (v2 : Int64) (v4 : Int32) (M : am_M), Rf G l X_NS_digest 20 [.ref v0, .retAddr 0, .long v2, .retAddr 0, .int v4, .retAddr 0, .retAddr 0] [] M (F_NS_digest_L20 n v0 v2 v4 M) := by
  intro n
  induction n with
  | zero => intro v0 v2 v4 M; exact Rf.no
  | succ n ih =>
    intro v0 v2 v4 M
    unfold F_NS_digest_L20
    refine r_iload (dt_NS_digest.at 11 rfl) rfl ?_
    refine r_aload_n (dt_NS_digest.at 12 rfl) rfl ?_
    refine r_fR (dt_NS_digest.at 13 rfl) fl_NS_55 rfl (fun b4 => ?_)
    refine r_fI (dt_NS_digest.at 14 rfl) fl_NS_310 rfl (fun x5 => ?_)
    refine r_icmp_ge (tgt := 100) (dt_NS_digest.at 15 rfl) (by decide) ?_ ?_
    · refine r_lload_n (dt_NS_digest.at 51 rfl) rfl ?_
      exact r_lret (dt_NS_digest.at 52 rfl) rfl
    · refine r_aload_n (dt_NS_digest.at 16 rfl) rfl ?_
      refine r_fR (dt_NS_digest.at 17 rfl) fl_NS_55 rfl (fun b6 => ?_)
      refine r_iload (dt_NS_digest.at 18 rfl) rfl ?_
      refine r_cvI (c := 1) (rest := []) (ct_Fram_rowAt b6 v4 _) (dt_NS_digest.at 19 rfl) mb_Fram_rowAt wd_999 wd_1000 wd_1001 rfl (by decide) rfl rfl (Nat.le_of_ble_eq_true rfl) (fun r8 M7 => ?_)
      refine r_istore (ls' := [.ref v0, .retAddr 0, .long v2, .retAddr 0, .int v4, .int r8, .retAddr 0]) (dt_NS_digest.at 20 rfl) (by decide) rfl ?_
      refine r_ldc2 (dt_NS_digest.at 21 rfl) 31 wd_1012 ?_
      refine r_lload_n (dt_NS_digest.at 22 rfl) rfl ?_
      refine r_lmul (dt_NS_digest.at 23 rfl) ?_
      refine r_aload_n (dt_NS_digest.at 24 rfl) rfl ?_
      refine r_fR (dt_NS_digest.at 25 rfl) fl_NS_55 rfl (fun b9 => ?_)
      refine r_iload (dt_NS_digest.at 26 rfl) rfl ?_
      refine r_cvI (c := 1) (rest := [.long (31 * v2)]) (ct_Fram_codeOf b9 r8 _) (dt_NS_digest.at 27 rfl) mb_Fram_codeOf wd_1003 wd_1004 wd_1005 rfl (by decide) rfl rfl (Nat.le_of_ble_eq_true rfl) (fun r11 M10 => ?_)
      refine r_i2l (dt_NS_digest.at 28 rfl) ?_
      refine r_ladd (dt_NS_digest.at 29 rfl) ?_
      refine r_nml (fun z12 => ?_)
      refine r_lstore_n (ls' := [.ref v0, .retAddr 0, .long z12, .retAddr 0, .int v4, .int r8, .retAddr 0]) (dt_NS_digest.at 30 rfl) (by decide) rfl ?_
      refine r_iconst (dt_NS_digest.at 31 rfl) 0 (by decide) ?_
      refine r_istore (ls' := [.ref v0, .retAddr 0, .long z12, .retAddr 0, .int v4, .int r8, .int 0]) (dt_NS_digest.at 32 rfl) (by decide) rfl ?_
      exact Rf.msk [true, false, true, false, true, true, true] (rf_NS_digest_L63 (F_NS_digest_L20 n) ih fu v0 z12 v4 r8 0 M10)
set_option maxRecDepth 20000 in
set_option maxHeartbeats 2000000 in
theorem ct_NS_digest {G : am_G} {l : Launch} (a0 : Nat) (p1 : Int32) (M : am_M) : Ct G l y_NS_digest X_NS_digest [.ref a0, .int p1] M (F_NS_digest a0 p1 M) := by
  refine Ct.of (by decide +kernel) rfl rfl (Nat.le_of_ble_eq_true rfl) ?_
  unfold F_NS_digest
  show Rf G l X_NS_digest 0 [.ref a0, .int p1, .retAddr 0, .retAddr 0, .retAddr 0, .retAddr 0, .retAddr 0] [] M _
  refine r_aload_n (dt_NS_digest.at 0 rfl) rfl ?_
  refine r_fR (dt_NS_digest.at 1 rfl) fl_NS_55 rfl (fun b1 => ?_)
  refine r_iload_n (dt_NS_digest.at 2 rfl) rfl ?_
  refine r_cvI (c := 1) (rest := []) (ct_Fram_shows b1 p1 _) (dt_NS_digest.at 3 rfl) mb_Fram_shows wd_942 wd_943 wd_944 rfl (by decide) rfl rfl (Nat.le_of_ble_eq_true rfl) (fun r3 M2 => ?_)
  refine r_if_ne (tgt := 13) (dt_NS_digest.at 4 rfl) (by decide) ?_ ?_
  · refine r_lconst (dt_NS_digest.at 5 rfl) 0 (by decide) ?_
    exact r_lret (dt_NS_digest.at 6 rfl) rfl
  · refine r_ldc2 (dt_NS_digest.at 7 rfl) 17 wd_1011 ?_
    refine r_lstore_n (ls' := [.ref a0, .int p1, .long 17, .retAddr 0, .retAddr 0, .retAddr 0, .retAddr 0]) (dt_NS_digest.at 8 rfl) (by decide) rfl ?_
    refine r_iconst (dt_NS_digest.at 9 rfl) 0 (by decide) ?_
    refine r_istore (ls' := [.ref a0, .int p1, .long 17, .retAddr 0, .int 0, .retAddr 0, .retAddr 0]) (dt_NS_digest.at 10 rfl) (by decide) rfl ?_
    exact Rf.msk [true, false, true, false, true, false, false] (rf_NS_digest_L20 fu a0 17 0 M2)
set_option maxRecDepth 20000 in
set_option maxHeartbeats 2000000 in
theorem ct_Fram_isInColumn {G : am_G} {l : Launch} (a0 : Nat) (p1 : Int32) (p2 : Int32) (p3 : Int32) (M : am_M) : Ct G l y_Fram_isInColumn X_Fram_isInColumn [.ref a0, .int p1, .int p2, .int p3] M (F_Fram_isInColumn a0 p1 p2 p3 M) := by
  refine Ct.of (by decide +kernel) rfl rfl (Nat.le_of_ble_eq_true rfl) ?_
  unfold F_Fram_isInColumn
  show Rf G l X_Fram_isInColumn 0 [.ref a0, .int p1, .int p2, .int p3] [] M _
  refine r_aload_n (dt_Fram_isInColumn.at 0 rfl) rfl ?_
  refine r_iload_n (dt_Fram_isInColumn.at 1 rfl) rfl ?_
  refine r_iconst (dt_Fram_isInColumn.at 2 rfl) 0 (by decide) ?_
  refine r_cvI (c := 1) (rest := []) (ct_Fram_placeOf a0 p1 0 _) (dt_Fram_isInColumn.at 3 rfl) mb_Fram_placeOf wd_981 wd_982 wd_983 rfl (by decide) rfl rfl (Nat.le_of_ble_eq_true rfl) (fun r2 M1 => ?_)
  refine r_bipush (dt_Fram_isInColumn.at 4 rfl) 8 (by decide) ?_
  refine r_idivk (dt_Fram_isInColumn.at 5 rfl) (by decide) ?_
  refine r_iload_n (dt_Fram_isInColumn.at 6 rfl) rfl ?_
  refine r_icmp_ne (tgt := 30) (dt_Fram_isInColumn.at 7 rfl) (by decide) ?_ ?_
  · refine r_aload_n (dt_Fram_isInColumn.at 8 rfl) rfl ?_
    refine r_iload_n (dt_Fram_isInColumn.at 9 rfl) rfl ?_
    refine r_iconst (dt_Fram_isInColumn.at 10 rfl) 1 (by decide) ?_
    refine r_cvI (c := 1) (rest := []) (ct_Fram_placeOf a0 p1 1 _) (dt_Fram_isInColumn.at 11 rfl) mb_Fram_placeOf wd_981 wd_982 wd_983 rfl (by decide) rfl rfl (Nat.le_of_ble_eq_true rfl) (fun r4 M3 => ?_)
    refine r_bipush (dt_Fram_isInColumn.at 12 rfl) 8 (by decide) ?_
    refine r_idivk (dt_Fram_isInColumn.at 13 rfl) (by decide) ?_
    refine r_iload_n (dt_Fram_isInColumn.at 14 rfl) rfl ?_
    refine r_icmp_ne (tgt := 30) (dt_Fram_isInColumn.at 15 rfl) (by decide) ?_ ?_
    · refine r_iconst (dt_Fram_isInColumn.at 16 rfl) 1 (by decide) ?_
      refine r_goto (tgt := 31) (dt_Fram_isInColumn.at 17 rfl) (by decide) ?_
      exact r_zret (dt_Fram_isInColumn.at 19 rfl) rfl rfl
    · refine r_iconst (dt_Fram_isInColumn.at 18 rfl) 0 (by decide) ?_
      exact r_zret (dt_Fram_isInColumn.at 19 rfl) rfl rfl
  · refine r_iconst (dt_Fram_isInColumn.at 18 rfl) 0 (by decide) ?_
    exact r_zret (dt_Fram_isInColumn.at 19 rfl) rfl rfl
set_option maxRecDepth 20000 in
set_option maxHeartbeats 2000000 in
theorem rf_NS_inColumn_L44 {G : am_G} {l : Launch}   : ∀ (n : Nat) (v0 : Nat) (v2 : Int32) (v3 : Int32) (v4 : Int32) (v5 : Int32) (M : am_M), Rf G l X_NS_inColumn 44 [.ref v0, .retAddr 0, .int v2, .int v3, .int v4, .int v5] [] M (F_NS_inColumn_L44 n v0 v2 v3 v4 v5 M) := by
  intro n
  induction n with
  | zero => intro v0 v2 v3 v4 v5 M; exact Rf.no
  | succ n ih =>
    intro v0 v2 v3 v4 v5 M
    unfold F_NS_inColumn_L44
    refine r_iload (dt_NS_inColumn.at 23 rfl) rfl ?_
    refine r_aload_n (dt_NS_inColumn.at 24 rfl) rfl ?_
    refine r_fR (dt_NS_inColumn.at 25 rfl) fl_NS_55 rfl (fun b10 => ?_)
    refine r_fI (dt_NS_inColumn.at 26 rfl) fl_NS_310 rfl (fun x11 => ?_)
    refine r_icmp_ge (tgt := 79) (dt_NS_inColumn.at 27 rfl) (by decide) ?_ ?_
    · refine r_iload (dt_NS_inColumn.at 38 rfl) rfl ?_
      exact r_iret (dt_NS_inColumn.at 39 rfl) rfl
    · refine r_aload_n (dt_NS_inColumn.at 28 rfl) rfl ?_
      refine r_fR (dt_NS_inColumn.at 29 rfl) fl_NS_55 rfl (fun b12 => ?_)
      refine r_iload (dt_NS_inColumn.at 30 rfl) rfl ?_
      refine r_iload_n (dt_NS_inColumn.at 31 rfl) rfl ?_
      refine r_iload_n (dt_NS_inColumn.at 32 rfl) rfl ?_
      refine r_cvI (c := 1) (rest := []) (ct_Fram_isInColumn b12 v5 v2 v3 _) (dt_NS_inColumn.at 33 rfl) mb_Fram_isInColumn wd_1018 wd_1019 wd_1020 rfl (by decide) rfl rfl (Nat.le_of_ble_eq_true rfl) (fun r14 M13 => ?_)
      refine r_if_eq (tgt := 73) (dt_NS_inColumn.at 34 rfl) (by decide) ?_ ?_
      · refine r_iincn (v := 1) (dt_NS_inColumn.at 36 rfl) (by decide) rfl (by decide) (fun y => [.ref v0, .retAddr 0, .int v2, .int v3, .int v4, .int y]) (fun _ => rfl) (fun x15 => ?_)
        refine r_goto (tgt := 44) (dt_NS_inColumn.at 37 rfl) (by decide) ?_
        exact Rf.msk [true, false, true, true, true, true] (ih v0 v2 v3 v4 x15 M13)
      · refine r_iincn (v := 1) (dt_NS_inColumn.at 35 rfl) (by decide) rfl (by decide) (fun y => [.ref v0, .retAddr 0, .int v2, .int v3, .int y, .int v5]) (fun _ => rfl) (fun x16 => ?_)
        refine r_iincn (v := 1) (dt_NS_inColumn.at 36 rfl) (by decide) rfl (by decide) (fun y => [.ref v0, .retAddr 0, .int v2, .int v3, .int x16, .int y]) (fun _ => rfl) (fun x17 => ?_)
        refine r_goto (tgt := 44) (dt_NS_inColumn.at 37 rfl) (by decide) ?_
        exact Rf.msk [true, false, true, true, true, true] (ih v0 v2 v3 x16 x17 M13)
set_option maxRecDepth 20000 in
set_option maxHeartbeats 2000000 in
theorem ct_NS_inColumn {G : am_G} {l : Launch} (a0 : Nat) (p1 : Int32) (p2 : Int32) (p3 : Int32) (M : am_M) : Ct G l y_NS_inColumn X_NS_inColumn [.ref a0, .int p1, .int p2, .int p3] M (F_NS_inColumn a0 p1 p2 p3 M) := by
  refine Ct.of (by decide +kernel) rfl rfl (Nat.le_of_ble_eq_true rfl) ?_
  unfold F_NS_inColumn
  show Rf G l X_NS_inColumn 0 [.ref a0, .int p1, .int p2, .int p3, .retAddr 0, .retAddr 0] [] M _
  refine r_aload_n (dt_NS_inColumn.at 0 rfl) rfl ?_
  refine r_fR (dt_NS_inColumn.at 1 rfl) fl_NS_16 rfl (fun b1 => ?_)
  refine r_iconst (dt_NS_inColumn.at 2 rfl) 0 (by decide) ?_
  refine r_iload_n (dt_NS_inColumn.at 3 rfl) rfl ?_
  refine r_cvI (c := 5) (rest := []) (ct_Scen_isCell b1 0 p2 _) (dt_NS_inColumn.at 4 rfl) mb_Scen_isCell wd_921 wd_922 wd_923 rfl (by decide) rfl rfl (Nat.le_of_ble_eq_true rfl) (fun r3 M2 => ?_)
  refine r_if_eq (tgt := 35) (dt_NS_inColumn.at 5 rfl) (by decide) ?_ ?_
  · refine r_bipush (dt_NS_inColumn.at 17 rfl) (-2) (by decide) ?_
    exact r_iret (dt_NS_inColumn.at 18 rfl) rfl
  · refine r_aload_n (dt_NS_inColumn.at 6 rfl) rfl ?_
    refine r_fR (dt_NS_inColumn.at 7 rfl) fl_NS_16 rfl (fun b4 => ?_)
    refine r_iconst (dt_NS_inColumn.at 8 rfl) 1 (by decide) ?_
    refine r_iload_n (dt_NS_inColumn.at 9 rfl) rfl ?_
    refine r_cvI (c := 5) (rest := []) (ct_Scen_isCell b4 1 p3 _) (dt_NS_inColumn.at 10 rfl) mb_Scen_isCell wd_921 wd_922 wd_923 rfl (by decide) rfl rfl (Nat.le_of_ble_eq_true rfl) (fun r6 M5 => ?_)
    refine r_if_eq (tgt := 35) (dt_NS_inColumn.at 11 rfl) (by decide) ?_ ?_
    · refine r_bipush (dt_NS_inColumn.at 17 rfl) (-2) (by decide) ?_
      exact r_iret (dt_NS_inColumn.at 18 rfl) rfl
    · refine r_aload_n (dt_NS_inColumn.at 12 rfl) rfl ?_
      refine r_fR (dt_NS_inColumn.at 13 rfl) fl_NS_55 rfl (fun b7 => ?_)
      refine r_iload_n (dt_NS_inColumn.at 14 rfl) rfl ?_
      refine r_cvI (c := 1) (rest := []) (ct_Fram_shows b7 p1 _) (dt_NS_inColumn.at 15 rfl) mb_Fram_shows wd_942 wd_943 wd_944 rfl (by decide) rfl rfl (Nat.le_of_ble_eq_true rfl) (fun r9 M8 => ?_)
      refine r_if_ne (tgt := 38) (dt_NS_inColumn.at 16 rfl) (by decide) ?_ ?_
      · refine r_bipush (dt_NS_inColumn.at 17 rfl) (-2) (by decide) ?_
        exact r_iret (dt_NS_inColumn.at 18 rfl) rfl
      · refine r_iconst (dt_NS_inColumn.at 19 rfl) 0 (by decide) ?_
        refine r_istore (ls' := [.ref a0, .int p1, .int p2, .int p3, .int 0, .retAddr 0]) (dt_NS_inColumn.at 20 rfl) (by decide) rfl ?_
        refine r_iconst (dt_NS_inColumn.at 21 rfl) 0 (by decide) ?_
        refine r_istore (ls' := [.ref a0, .int p1, .int p2, .int p3, .int 0, .int 0]) (dt_NS_inColumn.at 22 rfl) (by decide) rfl ?_
        exact Rf.msk [true, false, true, true, true, true] (rf_NS_inColumn_L44 fu a0 p2 p3 0 0 M8)
