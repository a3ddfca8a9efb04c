/-! ===== the walks, row by row (printed by wip/whole/emit.py) ===== -/
set_option maxRecDepth 20000 in
set_option maxHeartbeats 2000000 in
theorem rf_NS_layer_L62 {G : am_G} {l : Launch} (k47 : Nat → Int32 → am_M → am_R) (hk47 : ∀ v0 v3 M, Rf G l X_NS_layer 47 [.ref v0, .retAddr 0, .retAddr 0, .int v3, .retAddr 0, .retAddr 0] [] M (k47 v0 v3 M)) : ∀ (n : Nat) (v0 : Nat) (v3 : Int32) (v4 : Int32) (M : am_M), Rf G l X_NS_layer 62 [.ref v0, .retAddr 0, .retAddr 0, .int v3, .int v4, .retAddr 0] [] M (F_NS_layer_L62 k47 n v0 v3 v4 M) := by
  intro n
  induction n with
  | zero => intro v0 v3 v4 M; exact Rf.no
  | succ n ih =>
    intro v0 v3 v4 M
    unfold F_NS_layer_L62
    refine r_iload (dt_NS_layer.at 32 rfl) rfl ?_
    refine r_aload_n (dt_NS_layer.at 33 rfl) rfl ?_
    refine r_fR (dt_NS_layer.at 34 rfl) fl_NS_16 rfl (fun b17 => ?_)
    refine r_iconst (dt_NS_layer.at 35 rfl) 0 (by decide) ?_
    refine r_cvI (c := 5) (rest := [.int v4]) (ct_Scen_cellsAlong b17 0 _) (dt_NS_layer.at 36 rfl) mb_Scen_cellsAlong wd_533 wd_491 wd_492 rfl (by decide) rfl rfl (Nat.le_of_ble_eq_true rfl) (fun r19 M18 => ?_)
    refine r_icmp_ge (tgt := 117) (dt_NS_layer.at 37 rfl) (by decide) ?_ ?_
    · refine r_aload_n (dt_NS_layer.at 57 rfl) rfl ?_
      refine r_fR (dt_NS_layer.at 58 rfl) fl_NS_37 rfl (fun b20 => ?_)
      refine r_bipush (dt_NS_layer.at 59 rfl) 10 (by decide) ?_
      refine r_cvV (c := 3) (rest := []) (ct_Outp_put b20 10 _) (dt_NS_layer.at 60 rfl) mb_Outp_put wd_841 wd_842 wd_843 rfl (by decide) rfl rfl (Nat.le_of_ble_eq_true rfl) (fun M21 => ?_)
      refine r_iincn (v := 1) (dt_NS_layer.at 61 rfl) (by decide) rfl (by decide) (fun y => [.ref v0, .retAddr 0, .retAddr 0, .int y, .int v4, .retAddr 0]) (fun _ => rfl) (fun x22 => ?_)
      refine r_goto (tgt := 47) (dt_NS_layer.at 62 rfl) (by decide) ?_
      exact Rf.msk [true, false, false, true, false, false] (hk47 v0 x22 M21)
    · refine r_aload_n (dt_NS_layer.at 38 rfl) rfl ?_
      refine r_iload (dt_NS_layer.at 39 rfl) rfl ?_
      refine r_iload_n (dt_NS_layer.at 40 rfl) rfl ?_
      refine r_cvI (c := 8) (rest := []) (ct_NS_countOfColumn v0 v4 v3 _) (dt_NS_layer.at 41 rfl) mb_NS_countOfColumn wd_1130 wd_1132 wp_36 rfl (by decide) rfl rfl (Nat.le_of_ble_eq_true rfl) (fun r24 M23 => ?_)
      refine r_istore (ls' := [.ref v0, .retAddr 0, .retAddr 0, .int v3, .int v4, .int r24]) (dt_NS_layer.at 42 rfl) (by decide) rfl ?_
      refine r_aload_n (dt_NS_layer.at 43 rfl) rfl ?_
      refine r_fR (dt_NS_layer.at 44 rfl) fl_NS_37 rfl (fun b25 => ?_)
      refine r_iload (dt_NS_layer.at 45 rfl) rfl ?_
      refine r_if_le (tgt := 106) (dt_NS_layer.at 46 rfl) (by decide) ?_ ?_
      · refine r_bipush (dt_NS_layer.at 53 rfl) 46 (by decide) ?_
        refine r_cvV (c := 3) (rest := []) (ct_Outp_put b25 46 _) (dt_NS_layer.at 54 rfl) mb_Outp_put wd_841 wd_842 wd_843 rfl (by decide) rfl rfl (Nat.le_of_ble_eq_true rfl) (fun M26 => ?_)
        refine r_iincn (v := 1) (dt_NS_layer.at 55 rfl) (by decide) rfl (by decide) (fun y => [.ref v0, .retAddr 0, .retAddr 0, .int v3, .int y, .int r24]) (fun _ => rfl) (fun x27 => ?_)
        refine r_goto (tgt := 62) (dt_NS_layer.at 56 rfl) (by decide) ?_
        exact Rf.msk [true, false, false, true, true, false] (ih v0 v3 x27 M26)
      · refine r_bipush (dt_NS_layer.at 47 rfl) 48 (by decide) ?_
        refine r_bipush (dt_NS_layer.at 48 rfl) 9 (by decide) ?_
        refine r_iload (dt_NS_layer.at 49 rfl) rfl ?_
        refine r_csI (rest := [.int 48, .ref b25]) (ct_Math_min 9 r24 _) (dt_NS_layer.at 50 rfl) mb_Math_min wd_753 wd_334 (by decide) rfl rfl (Nat.le_of_ble_eq_true rfl) (fun r29 M28 => ?_)
        refine r_iadd (dt_NS_layer.at 51 rfl) ?_
        refine r_goto (tgt := 108) (dt_NS_layer.at 52 rfl) (by decide) ?_
        refine r_cvV (c := 3) (rest := []) (ct_Outp_put b25 (48 + r29) _) (dt_NS_layer.at 54 rfl) mb_Outp_put wd_841 wd_842 wd_843 rfl (by decide) rfl rfl (Nat.le_of_ble_eq_true rfl) (fun M30 => ?_)
        refine r_iincn (v := 1) (dt_NS_layer.at 55 rfl) (by decide) rfl (by decide) (fun y => [.ref v0, .retAddr 0, .retAddr 0, .int v3, .int y, .int r24]) (fun _ => rfl) (fun x31 => ?_)
        refine r_goto (tgt := 62) (dt_NS_layer.at 56 rfl) (by decide) ?_
        exact Rf.msk [true, false, false, true, true, false] (ih v0 v3 x31 M30)
set_option maxRecDepth 20000 in
set_option maxHeartbeats 2000000 in
theorem rf_NS_layer_L47 {G : am_G} {l : Launch}   : ∀ (n : Nat) (v0 : Nat) (v3 : Int32) (M : am_M), Rf G l X_NS_layer 47 [.ref v0, .retAddr 0, .retAddr 0, .int v3, .retAddr 0, .retAddr 0] [] M (F_NS_layer_L47 n v0 v3 M) := by
  intro n
  induction n with
  | zero => intro v0 v3 M; exact Rf.no
  | succ n ih =>
    intro v0 v3 M
    unfold F_NS_layer_L47
    refine r_iload_n (dt_NS_layer.at 24 rfl) rfl ?_
    refine r_aload_n (dt_NS_layer.at 25 rfl) rfl ?_
    refine r_fR (dt_NS_layer.at 26 rfl) fl_NS_16 rfl (fun b12 => ?_)
    refine r_iconst (dt_NS_layer.at 27 rfl) 1 (by decide) ?_
    refine r_cvI (c := 5) (rest := [.int v3]) (ct_Scen_cellsAlong b12 1 _) (dt_NS_layer.at 28 rfl) mb_Scen_cellsAlong wd_533 wd_491 wd_492 rfl (by decide) rfl rfl (Nat.le_of_ble_eq_true rfl) (fun r14 M13 => ?_)
    refine r_icmp_ge (tgt := 132) (dt_NS_layer.at 29 rfl) (by decide) ?_ ?_
    · refine r_aload_n (dt_NS_layer.at 63 rfl) rfl ?_
      refine r_fR (dt_NS_layer.at 64 rfl) fl_NS_37 rfl (fun b15 => ?_)
      refine r_fI (dt_NS_layer.at 65 rfl) fl_NS_113 rfl (fun x16 => ?_)
      exact r_iret (dt_NS_layer.at 66 rfl) rfl
    · refine r_iconst (dt_NS_layer.at 30 rfl) 0 (by decide) ?_
      refine r_istore (ls' := [.ref v0, .retAddr 0, .retAddr 0, .int v3, .int 0, .retAddr 0]) (dt_NS_layer.at 31 rfl) (by decide) rfl ?_
      exact Rf.msk [true, false, false, true, true, false] (rf_NS_layer_L62 (F_NS_layer_L47 n) ih fu v0 v3 0 M13)
set_option maxRecDepth 20000 in
set_option maxHeartbeats 2000000 in
theorem ct_NS_layer {G : am_G} {l : Launch} (a0 : Nat) (p1 : Int32) (p2 : Int32) (M : am_M) : Ct G l y_NS_layer X_NS_layer [.ref a0, .int p1, .int p2] M (F_NS_layer a0 p1 p2 M) := by
  refine Ct.of (by decide +kernel) rfl rfl (Nat.le_of_ble_eq_true rfl) ?_
  unfold F_NS_layer
  show Rf G l X_NS_layer 0 [.ref a0, .int p1, .int p2, .retAddr 0, .retAddr 0, .retAddr 0] [] M _
  refine r_aload_n (dt_NS_layer.at 0 rfl) rfl ?_
  refine r_fR (dt_NS_layer.at 1 rfl) fl_NS_16 rfl (fun b1 => ?_)
  refine r_iconst (dt_NS_layer.at 2 rfl) 2 (by decide) ?_
  refine r_iload_n (dt_NS_layer.at 3 rfl) rfl ?_
  refine r_cvI (c := 5) (rest := []) (ct_Scen_isCell b1 2 p2 _) (dt_NS_layer.at 4 rfl) mb_Scen_isCell wd_921 wd_922 wd_923 rfl (by decide) rfl rfl (Nat.le_of_ble_eq_true rfl) (fun r3 M2 => ?_)
  refine r_if_eq (tgt := 23) (dt_NS_layer.at 5 rfl) (by decide) ?_ ?_
  · refine r_bipush (dt_NS_layer.at 11 rfl) (-2) (by decide) ?_
    exact r_iret (dt_NS_layer.at 12 rfl) rfl
  · refine r_aload_n (dt_NS_layer.at 6 rfl) rfl ?_
    refine r_fR (dt_NS_layer.at 7 rfl) fl_NS_55 rfl (fun b4 => ?_)
    refine r_iload_n (dt_NS_layer.at 8 rfl) rfl ?_
    refine r_cvI (c := 1) (rest := []) (ct_Fram_shows b4 p1 _) (dt_NS_layer.at 9 rfl) mb_Fram_shows wd_942 wd_943 wd_944 rfl (by decide) rfl rfl (Nat.le_of_ble_eq_true rfl) (fun r6 M5 => ?_)
    refine r_if_ne (tgt := 26) (dt_NS_layer.at 10 rfl) (by decide) ?_ ?_
    · refine r_bipush (dt_NS_layer.at 11 rfl) (-2) (by decide) ?_
      exact r_iret (dt_NS_layer.at 12 rfl) rfl
    · refine r_aload_n (dt_NS_layer.at 13 rfl) rfl ?_
      refine r_fR (dt_NS_layer.at 14 rfl) fl_NS_55 rfl (fun b7 => ?_)
      refine r_iload_n (dt_NS_layer.at 15 rfl) rfl ?_
      refine r_aload_n (dt_NS_layer.at 16 rfl) rfl ?_
      refine r_fR (dt_NS_layer.at 17 rfl) fl_NS_69 rfl (fun b8 => ?_)
      refine r_cvV (c := 1) (rest := []) (ct_Fram_countLayer b7 p2 b8 _) (dt_NS_layer.at 18 rfl) mb_Fram_countLayer wd_1139 wd_1140 wd_1141 rfl (by decide) rfl rfl (Nat.le_of_ble_eq_true rfl) (fun M9 => ?_)
      refine r_aload_n (dt_NS_layer.at 19 rfl) rfl ?_
      refine r_fR (dt_NS_layer.at 20 rfl) fl_NS_37 rfl (fun b10 => ?_)
      refine r_cvV (c := 3) (rest := []) (ct_Outp_clear b10 _) (dt_NS_layer.at 21 rfl) mb_Outp_clear wd_837 wd_838 wd_839 rfl (by decide) rfl rfl (Nat.le_of_ble_eq_true rfl) (fun M11 => ?_)
      refine r_iconst (dt_NS_layer.at 22 rfl) 0 (by decide) ?_
      refine r_istore_n (ls' := [.ref a0, .int p1, .int p2, .int 0, .retAddr 0, .retAddr 0]) (dt_NS_layer.at 23 rfl) (by decide) rfl ?_
      exact Rf.msk [true, false, false, true, false, false] (rf_NS_layer_L47 fu a0 0 M11)
set_option maxRecDepth 20000 in
set_option maxHeartbeats 2000000 in
theorem ct_Md_init {G : am_G} {l : Launch} (a0 : Nat) (M : am_M) : Ct G l y_Md_init X_Md_init [.ref a0] M (F_Md_init a0 M) := by
  refine Ct.of (by decide +kernel) rfl rfl (Nat.le_of_ble_eq_true rfl) ?_
  unfold F_Md_init
  show Rf G l X_Md_init 0 [.ref a0] [] M _
  refine r_aload_n (dt_Md_init.at 0 rfl) rfl ?_
  refine r_objInit (rest := []) (dt_Md_init.at 1 rfl) wd_1148 wd_24 wd_25 (Nat.le_of_ble_eq_true rfl) (by decide) ?_
  refine r_aload_n (dt_Md_init.at 2 rfl) rfl ?_
  refine r_iconst (dt_Md_init.at 3 rfl) 3 (by decide) ?_
  refine r_nA (t := 0) (Or.inl ⟨rfl, rfl⟩) (dt_Md_init.at 4 rfl) wd_68 (fun b1 M2 => ?_)
  refine r_sR (dt_Md_init.at 5 rfl) fl_Md_7 rfl (Or.inr ⟨rfl, rfl⟩) (fun _ => rfl) (fun _ => rfl) (fun M3 => ?_)
  refine r_aload_n (dt_Md_init.at 6 rfl) rfl ?_
  refine r_bipush (dt_Md_init.at 7 rfl) 40 (by decide) ?_
  refine r_nA (t := 0) (Or.inl ⟨rfl, rfl⟩) (dt_Md_init.at 8 rfl) wd_68 (fun b4 M5 => ?_)
  refine r_sR (dt_Md_init.at 9 rfl) fl_Md_13 rfl (Or.inr ⟨rfl, rfl⟩) (fun _ => rfl) (fun _ => rfl) (fun M6 => ?_)
  refine r_aload_n (dt_Md_init.at 10 rfl) rfl ?_
  refine r_bipush (dt_Md_init.at 11 rfl) 36 (by decide) ?_
  refine r_nA (t := 0) (Or.inl ⟨rfl, rfl⟩) (dt_Md_init.at 12 rfl) wd_68 (fun b7 M8 => ?_)
  refine r_sR (dt_Md_init.at 13 rfl) fl_Md_16 rfl (Or.inr ⟨rfl, rfl⟩) (fun _ => rfl) (fun _ => rfl) (fun M9 => ?_)
  refine r_aload_n (dt_Md_init.at 14 rfl) rfl ?_
  refine r_iconst (dt_Md_init.at 15 rfl) 3 (by decide) ?_
  refine r_nA (t := 0) (Or.inl ⟨rfl, rfl⟩) (dt_Md_init.at 16 rfl) wd_68 (fun b10 M11 => ?_)
  refine r_sR (dt_Md_init.at 17 rfl) fl_Md_19 rfl (Or.inr ⟨rfl, rfl⟩) (fun _ => rfl) (fun _ => rfl) (fun M12 => ?_)
  refine r_aload_n (dt_Md_init.at 18 rfl) rfl ?_
  refine r_bipush (dt_Md_init.at 19 rfl) 40 (by decide) ?_
  refine r_nA (t := 0) (Or.inl ⟨rfl, rfl⟩) (dt_Md_init.at 20 rfl) wd_68 (fun b13 M14 => ?_)
  refine r_sR (dt_Md_init.at 21 rfl) fl_Md_22 rfl (Or.inr ⟨rfl, rfl⟩) (fun _ => rfl) (fun _ => rfl) (fun M15 => ?_)
  refine r_aload_n (dt_Md_init.at 22 rfl) rfl ?_
  refine r_bipush (dt_Md_init.at 23 rfl) 36 (by decide) ?_
  refine r_nA (t := 0) (Or.inl ⟨rfl, rfl⟩) (dt_Md_init.at 24 rfl) wd_68 (fun b16 M17 => ?_)
  refine r_sR (dt_Md_init.at 25 rfl) fl_Md_25 rfl (Or.inr ⟨rfl, rfl⟩) (fun _ => rfl) (fun _ => rfl) (fun M18 => ?_)
  refine r_aload_n (dt_Md_init.at 26 rfl) rfl ?_
  refine r_sipush (dt_Md_init.at 27 rfl) 500 (by decide) ?_
  refine r_nA (t := 2) (Or.inr (Or.inr ⟨rfl, rfl⟩)) (dt_Md_init.at 28 rfl) wd_524 (fun b19 M20 => ?_)
  refine r_sR (dt_Md_init.at 29 rfl) fl_Md_28 rfl (Or.inr ⟨rfl, rfl⟩) (fun _ => rfl) (fun _ => rfl) (fun M21 => ?_)
  refine r_aload_n (dt_Md_init.at 30 rfl) rfl ?_
  refine r_iconst (dt_Md_init.at 31 rfl) (-1) (by decide) ?_
  refine r_sI (dt_Md_init.at 32 rfl) fl_Md_32 rfl rfl rfl (fun M22 => ?_)
  refine r_aload_n (dt_Md_init.at 33 rfl) rfl ?_
  refine r_bipush (dt_Md_init.at 34 rfl) 10 (by decide) ?_
  refine r_nA (t := 0) (Or.inl ⟨rfl, rfl⟩) (dt_Md_init.at 35 rfl) wd_68 (fun b23 M24 => ?_)
  refine r_sR (dt_Md_init.at 36 rfl) fl_Md_36 rfl (Or.inr ⟨rfl, rfl⟩) (fun _ => rfl) (fun _ => rfl) (fun M25 => ?_)
  refine r_aload_n (dt_Md_init.at 37 rfl) rfl ?_
  refine r_bipush (dt_Md_init.at 38 rfl) 10 (by decide) ?_
  refine r_nA (t := 0) (Or.inl ⟨rfl, rfl⟩) (dt_Md_init.at 39 rfl) wd_68 (fun b26 M27 => ?_)
  refine r_sR (dt_Md_init.at 40 rfl) fl_Md_39 rfl (Or.inr ⟨rfl, rfl⟩) (fun _ => rfl) (fun _ => rfl) (fun M28 => ?_)
  refine r_aload_n (dt_Md_init.at 41 rfl) rfl ?_
  refine r_iconst (dt_Md_init.at 42 rfl) 3 (by decide) ?_
  refine r_nA (t := 0) (Or.inl ⟨rfl, rfl⟩) (dt_Md_init.at 43 rfl) wd_68 (fun b29 M30 => ?_)
  refine r_sR (dt_Md_init.at 44 rfl) fl_Md_42 rfl (Or.inr ⟨rfl, rfl⟩) (fun _ => rfl) (fun _ => rfl) (fun M31 => ?_)
  refine r_aload_n (dt_Md_init.at 45 rfl) rfl ?_
  refine r_iconst (dt_Md_init.at 46 rfl) 3 (by decide) ?_
  refine r_nA (t := 0) (Or.inl ⟨rfl, rfl⟩) (dt_Md_init.at 47 rfl) wd_68 (fun b32 M33 => ?_)
  refine r_sR (dt_Md_init.at 48 rfl) fl_Md_45 rfl (Or.inr ⟨rfl, rfl⟩) (fun _ => rfl) (fun _ => rfl) (fun M34 => ?_)
  refine r_aload_n (dt_Md_init.at 49 rfl) rfl ?_
  refine r_iconst (dt_Md_init.at 50 rfl) 3 (by decide) ?_
  refine r_nA (t := 0) (Or.inl ⟨rfl, rfl⟩) (dt_Md_init.at 51 rfl) wd_68 (fun b35 M36 => ?_)
  refine r_sR (dt_Md_init.at 52 rfl) fl_Md_48 rfl (Or.inr ⟨rfl, rfl⟩) (fun _ => rfl) (fun _ => rfl) (fun M37 => ?_)
  refine r_aload_n (dt_Md_init.at 53 rfl) rfl ?_
  refine r_bipush (dt_Md_init.at 54 rfl) 61 (by decide) ?_
  refine r_nA (t := 0) (Or.inl ⟨rfl, rfl⟩) (dt_Md_init.at 55 rfl) wd_68 (fun b38 M39 => ?_)
  refine r_sR (dt_Md_init.at 56 rfl) fl_Md_51 rfl (Or.inr ⟨rfl, rfl⟩) (fun _ => rfl) (fun _ => rfl) (fun M40 => ?_)
  refine r_aload_n (dt_Md_init.at 57 rfl) rfl ?_
  refine r_sipush (dt_Md_init.at 58 rfl) 30000 (by decide) ?_
  refine r_nA (t := 1) (Or.inr (Or.inl ⟨rfl, rfl⟩)) (dt_Md_init.at 59 rfl) wd_1276 (fun b41 M42 => ?_)
  refine r_sR (dt_Md_init.at 60 rfl) fl_Md_54 rfl (Or.inr ⟨rfl, rfl⟩) (fun _ => rfl) (fun _ => rfl) (fun M43 => ?_)
  refine r_aload_n (dt_Md_init.at 61 rfl) rfl ?_
  refine r_sipush (dt_Md_init.at 62 rfl) 30000 (by decide) ?_
  refine r_nA (t := 0) (Or.inl ⟨rfl, rfl⟩) (dt_Md_init.at 63 rfl) wd_68 (fun b44 M45 => ?_)
  refine r_sR (dt_Md_init.at 64 rfl) fl_Md_58 rfl (Or.inr ⟨rfl, rfl⟩) (fun _ => rfl) (fun _ => rfl) (fun M46 => ?_)
  refine r_aload_n (dt_Md_init.at 65 rfl) rfl ?_
  refine r_sipush (dt_Md_init.at 66 rfl) 30000 (by decide) ?_
  refine r_nA (t := 0) (Or.inl ⟨rfl, rfl⟩) (dt_Md_init.at 67 rfl) wd_68 (fun b47 M48 => ?_)
  refine r_sR (dt_Md_init.at 68 rfl) fl_Md_61 rfl (Or.inr ⟨rfl, rfl⟩) (fun _ => rfl) (fun _ => rfl) (fun M49 => ?_)
  refine r_aload_n (dt_Md_init.at 69 rfl) rfl ?_
  refine r_ldc (dt_Md_init.at 70 rfl) 64000 wd_1149 ?_
  refine r_nA (t := 0) (Or.inl ⟨rfl, rfl⟩) (dt_Md_init.at 71 rfl) wd_68 (fun b50 M51 => ?_)
  refine r_sR (dt_Md_init.at 72 rfl) fl_Md_65 rfl (Or.inr ⟨rfl, rfl⟩) (fun _ => rfl) (fun _ => rfl) (fun M52 => ?_)
  refine r_aload_n (dt_Md_init.at 73 rfl) rfl ?_
  refine r_sipush (dt_Md_init.at 74 rfl) 1700 (by decide) ?_
  refine r_nA (t := 2) (Or.inr (Or.inr ⟨rfl, rfl⟩)) (dt_Md_init.at 75 rfl) wd_524 (fun b53 M54 => ?_)
  refine r_sR (dt_Md_init.at 76 rfl) fl_Md_68 rfl (Or.inr ⟨rfl, rfl⟩) (fun _ => rfl) (fun _ => rfl) (fun M55 => ?_)
  exact r_vret (dt_Md_init.at 77 rfl) rfl
set_option maxRecDepth 20000 in
set_option maxHeartbeats 2000000 in
theorem rf_Md_puts4_L3 {G : am_G} {l : Launch}   : ∀ (n : Nat) (v0 : Nat) (v1 : Int32) (v2 : Int32) (M : am_M), Rf G l X_Md_puts4 3 [.ref v0, .int v1, .int v2] [] M (F_Md_puts4_L3 n v0 v1 v2 M) := by
  intro n
  induction n with
  | zero => intro v0 v1 v2 M; exact Rf.no
  | succ n ih =>
    intro v0 v1 v2 M
    unfold F_Md_puts4_L3
    refine r_iload_n (dt_Md_puts4.at 2 rfl) rfl ?_
    refine r_if_lt (tgt := 36) (dt_Md_puts4.at 3 rfl) (by decide) ?_ ?_
    · exact r_vret (dt_Md_puts4.at 21 rfl) rfl
    · refine r_aload_n (dt_Md_puts4.at 4 rfl) rfl ?_
      refine r_fR (dt_Md_puts4.at 5 rfl) fl_Md_28 rfl (fun b1 => ?_)
      refine r_aload_n (dt_Md_puts4.at 6 rfl) rfl ?_
      refine r_fI (dt_Md_puts4.at 7 rfl) fl_Md_74 rfl (fun x2 => ?_)
      refine r_iload_n (dt_Md_puts4.at 8 rfl) rfl ?_
      refine r_iload_n (dt_Md_puts4.at 9 rfl) rfl ?_
      refine r_ishr (dt_Md_puts4.at 10 rfl) ?_
      refine r_i2b (dt_Md_puts4.at 11 rfl) ?_
      refine r_tB (dt_Md_puts4.at 12 rfl) (fun M3 => ?_)
      refine r_aload_n (dt_Md_puts4.at 13 rfl) rfl ?_
      refine r_dup (dt_Md_puts4.at 14 rfl) rfl ?_
      refine r_fI (dt_Md_puts4.at 15 rfl) fl_Md_74 rfl (fun x4 => ?_)
      refine r_iconst (dt_Md_puts4.at 16 rfl) 1 (by decide) ?_
      refine r_iadd (dt_Md_puts4.at 17 rfl) ?_
      refine r_sI (dt_Md_puts4.at 18 rfl) fl_Md_74 rfl rfl rfl (fun M5 => ?_)
      refine r_iincn (v := (-8)) (dt_Md_puts4.at 19 rfl) (by decide) rfl (by decide) (fun y => [.ref v0, .int v1, .int y]) (fun _ => rfl) (fun x6 => ?_)
      refine r_goto (tgt := 3) (dt_Md_puts4.at 20 rfl) (by decide) ?_
      exact Rf.msk [true, true, true] (ih v0 v1 x6 M5)
set_option maxRecDepth 20000 in
set_option maxHeartbeats 2000000 in
theorem ct_Md_puts4 {G : am_G} {l : Launch} (a0 : Nat) (p1 : Int32) (M : am_M) : Ct G l y_Md_puts4 X_Md_puts4 [.ref a0, .int p1] M (F_Md_puts4 a0 p1 M) := by
  refine Ct.of (by decide +kernel) rfl rfl (Nat.le_of_ble_eq_true rfl) ?_
  unfold F_Md_puts4
  show Rf G l X_Md_puts4 0 [.ref a0, .int p1, .retAddr 0] [] M _
  refine r_bipush (dt_Md_puts4.at 0 rfl) 24 (by decide) ?_
  refine r_istore_n (ls' := [.ref a0, .int p1, .int 24]) (dt_Md_puts4.at 1 rfl) (by decide) rfl ?_
  exact Rf.msk [true, true, true] (rf_Md_puts4_L3 fu a0 p1 24 M)
set_option maxRecDepth 20000 in
set_option maxHeartbeats 2000000 in
theorem ct_Md_feed {G : am_G} {l : Launch} (a0 : Nat) (p1 : Int32) (p2 : Int32) (p3 : Int32) (p4 : Int32) (p5 : Int32) (M : am_M) : Ct G l y_Md_feed X_Md_feed [.ref a0, .int p1, .int p2, .int p3, .int p4, .int p5] M (F_Md_feed a0 p1 p2 p3 p4 p5 M) := by
  refine Ct.of (by decide +kernel) rfl rfl (Nat.le_of_ble_eq_true rfl) ?_
  unfold F_Md_feed
  show Rf G l X_Md_feed 0 [.ref a0, .int p1, .int p2, .int p3, .int p4, .int p5] [] M _
  refine r_aload_n (dt_Md_feed.at 0 rfl) rfl ?_
  refine r_fI (dt_Md_feed.at 1 rfl) fl_Md_74 rfl (fun x1 => ?_)
  refine r_bipush (dt_Md_feed.at 2 rfl) 20 (by decide) ?_
  refine r_iadd (dt_Md_feed.at 3 rfl) ?_
  refine r_sipush (dt_Md_feed.at 4 rfl) 500 (by decide) ?_
  refine r_icmp_le (tgt := 15) (dt_Md_feed.at 5 rfl) (by decide) ?_ ?_
  · refine r_aload_n (dt_Md_feed.at 8 rfl) rfl ?_
    refine r_iload_n (dt_Md_feed.at 9 rfl) rfl ?_
    refine r_cvV (c := 9) (rest := []) (ct_Md_puts4 a0 p1 _) (dt_Md_feed.at 10 rfl) mb_Md_puts4 wd_1281 wd_1283 wp_37 rfl (by decide) rfl rfl (Nat.le_of_ble_eq_true rfl) (fun M2 => ?_)
    refine r_aload_n (dt_Md_feed.at 11 rfl) rfl ?_
    refine r_iload_n (dt_Md_feed.at 12 rfl) rfl ?_
    refine r_cvV (c := 9) (rest := []) (ct_Md_puts4 a0 p2 _) (dt_Md_feed.at 13 rfl) mb_Md_puts4 wd_1281 wd_1283 wp_37 rfl (by decide) rfl rfl (Nat.le_of_ble_eq_true rfl) (fun M3 => ?_)
    refine r_aload_n (dt_Md_feed.at 14 rfl) rfl ?_
    refine r_iload_n (dt_Md_feed.at 15 rfl) rfl ?_
    refine r_cvV (c := 9) (rest := []) (ct_Md_puts4 a0 p3 _) (dt_Md_feed.at 16 rfl) mb_Md_puts4 wd_1281 wd_1283 wp_37 rfl (by decide) rfl rfl (Nat.le_of_ble_eq_true rfl) (fun M4 => ?_)
    refine r_aload_n (dt_Md_feed.at 17 rfl) rfl ?_
    refine r_iload (dt_Md_feed.at 18 rfl) rfl ?_
    refine r_cvV (c := 9) (rest := []) (ct_Md_puts4 a0 p4 _) (dt_Md_feed.at 19 rfl) mb_Md_puts4 wd_1281 wd_1283 wp_37 rfl (by decide) rfl rfl (Nat.le_of_ble_eq_true rfl) (fun M5 => ?_)
    refine r_aload_n (dt_Md_feed.at 20 rfl) rfl ?_
    refine r_iload (dt_Md_feed.at 21 rfl) rfl ?_
    refine r_cvV (c := 9) (rest := []) (ct_Md_puts4 a0 p5 _) (dt_Md_feed.at 22 rfl) mb_Md_puts4 wd_1281 wd_1283 wp_37 rfl (by decide) rfl rfl (Nat.le_of_ble_eq_true rfl) (fun M6 => ?_)
    refine r_aload_n (dt_Md_feed.at 23 rfl) rfl ?_
    refine r_fI (dt_Md_feed.at 24 rfl) fl_Md_74 rfl (fun x7 => ?_)
    exact r_iret (dt_Md_feed.at 25 rfl) rfl
  · refine r_iconst (dt_Md_feed.at 6 rfl) (-1) (by decide) ?_
    exact r_iret (dt_Md_feed.at 7 rfl) rfl
set_option maxRecDepth 20000 in
set_option maxHeartbeats 2000000 in
theorem ct_Md_in {G : am_G} {l : Launch} (p1 : Int64) (p2 : Int64) (p3 : Int64) (M : am_M) : Ct G l y_Md_in X_Md_in [.long p1, .long p2, .long p3] M (F_Md_in p1 p2 p3 M) := by
  refine Ct.of (by decide +kernel) rfl rfl (Nat.le_of_ble_eq_true rfl) ?_
  unfold F_Md_in
  show Rf G l X_Md_in 0 [.long p1, .retAddr 0, .long p2, .retAddr 0, .long p3, .retAddr 0] [] M _
  refine r_lload_n (dt_Md_in.at 0 rfl) rfl ?_
  refine r_lload_n (dt_Md_in.at 1 rfl) rfl ?_
  refine r_lcmp (dt_Md_in.at 2 rfl) ?_
  refine r_if_lt (tgt := 17) (dt_Md_in.at 3 rfl) (by decide) ?_ ?_
  · refine r_iconst (dt_Md_in.at 10 rfl) 0 (by decide) ?_
    exact r_zret (dt_Md_in.at 11 rfl) rfl rfl
  · refine r_lload_n (dt_Md_in.at 4 rfl) rfl ?_
    refine r_lload (dt_Md_in.at 5 rfl) rfl ?_
    refine r_lcmp (dt_Md_in.at 6 rfl) ?_
    refine r_if_gt (tgt := 17) (dt_Md_in.at 7 rfl) (by decide) ?_ ?_
    · refine r_iconst (dt_Md_in.at 10 rfl) 0 (by decide) ?_
      exact r_zret (dt_Md_in.at 11 rfl) rfl rfl
    · refine r_iconst (dt_Md_in.at 8 rfl) 1 (by decide) ?_
      refine r_goto (tgt := 18) (dt_Md_in.at 9 rfl) (by decide) ?_
      exact r_zret (dt_Md_in.at 11 rfl) rfl rfl
set_option maxRecDepth 20000 in
set_option maxHeartbeats 2000000 in
theorem ct_Md_end {G : am_G} {l : Launch} (a0 : Nat) (p1 : Int32) (M : am_M) : Ct G l y_Md_end X_Md_end [.ref a0, .int p1] M (F_Md_end a0 p1 M) := by
  refine Ct.of (by decide +kernel) rfl rfl (Nat.le_of_ble_eq_true rfl) ?_
  unfold F_Md_end
  show Rf G l X_Md_end 0 [.ref a0, .int p1] [] M _
  refine r_iload_n (dt_Md_end.at 0 rfl) rfl ?_
  refine r_i2l (dt_Md_end.at 1 rfl) ?_
  refine r_lconst (dt_Md_end.at 2 rfl) 0 (by decide) ?_
  refine r_aload_n (dt_Md_end.at 3 rfl) rfl ?_
  refine r_fI (dt_Md_end.at 4 rfl) fl_Md_74 rfl (fun x1 => ?_)
  refine r_i2l (dt_Md_end.at 5 rfl) ?_
  refine r_csI (rest := []) (ct_Md_in (p1.toInt64) 0 (x1.toInt64) _) (dt_Md_end.at 6 rfl) mb_Md_in wd_1289 wd_1290 (by decide) rfl rfl (Nat.le_of_ble_eq_true rfl) (fun r3 M2 => ?_)
  refine r_if_ne (tgt := 16) (dt_Md_end.at 7 rfl) (by decide) ?_ ?_
  · refine r_iconst (dt_Md_end.at 8 rfl) (-1) (by decide) ?_
    exact r_iret (dt_Md_end.at 9 rfl) rfl
  · refine r_aload_n (dt_Md_end.at 10 rfl) rfl ?_
    refine r_iload_n (dt_Md_end.at 11 rfl) rfl ?_
    refine r_sI (dt_Md_end.at 12 rfl) fl_Md_74 rfl rfl rfl (fun M4 => ?_)
    refine r_iload_n (dt_Md_end.at 13 rfl) rfl ?_
    exact r_iret (dt_Md_end.at 14 rfl) rfl
set_option maxRecDepth 20000 in
set_option maxHeartbeats 2000000 in
theorem ct_Md_see {G : am_G} {l : Launch} (a0 : Nat) (p1 : Int32) (M : am_M) : Ct G l y_Md_see X_Md_see [.ref a0, .int p1] M (F_Md_see a0 p1 M) := by
  refine Ct.of (by decide +kernel) rfl rfl (Nat.le_of_ble_eq_true rfl) ?_
  unfold F_Md_see
  show Rf G l X_Md_see 0 [.ref a0, .int p1] [] M _
  refine r_iload_n (dt_Md_see.at 0 rfl) rfl ?_
  refine r_aload_n (dt_Md_see.at 1 rfl) rfl ?_
  refine r_fI (dt_Md_see.at 2 rfl) fl_Md_92 rfl (fun x1 => ?_)
  refine r_icmp_ge (tgt := 21) (dt_Md_see.at 3 rfl) (by decide) ?_ ?_
  · refine r_iconst (dt_Md_see.at 11 rfl) (-1) (by decide) ?_
    exact r_iret (dt_Md_see.at 12 rfl) rfl
  · refine r_aload_n (dt_Md_see.at 4 rfl) rfl ?_
    refine r_fR (dt_Md_see.at 5 rfl) fl_Md_28 rfl (fun b2 => ?_)
    refine r_iload_n (dt_Md_see.at 6 rfl) rfl ?_
    refine r_aB (dt_Md_see.at 7 rfl) (fun x3 => ?_)
    refine r_sipush (dt_Md_see.at 8 rfl) 255 (by decide) ?_
    refine r_iand (dt_Md_see.at 9 rfl) ?_
    refine r_goto (tgt := 22) (dt_Md_see.at 10 rfl) (by decide) ?_
    exact r_iret (dt_Md_see.at 12 rfl) rfl
set_option maxRecDepth 20000 in
set_option maxHeartbeats 2000000 in
theorem rf_Md_advance_L26 {G : am_G} {l : Launch} (k0 : Nat → am_M → am_R) (hk0 : ∀ v0 M, Rf G l X_Md_advance 0 [.ref v0, .retAddr 0] [] M (k0 v0 M)) (v0 : Nat) (M : am_M) : Rf G l X_Md_advance 26 [.ref v0, .retAddr 0] [] M (F_Md_advance_L26 k0 v0 M) := by
  unfold F_Md_advance_L26
  refine r_aload_n (dt_Md_advance.at 12 rfl) rfl ?_
  refine r_dup (dt_Md_advance.at 13 rfl) rfl ?_
  refine r_fI (dt_Md_advance.at 14 rfl) fl_Md_95 rfl (fun x4 => ?_)
  refine r_iconst (dt_Md_advance.at 15 rfl) 1 (by decide) ?_
  refine r_iadd (dt_Md_advance.at 16 rfl) ?_
  refine r_sI (dt_Md_advance.at 17 rfl) fl_Md_95 rfl rfl rfl (fun M5 => ?_)
  refine r_goto (tgt := 0) (dt_Md_advance.at 18 rfl) (by decide) ?_
  exact Rf.msk [true, false] (hk0 v0 M5)
set_option maxRecDepth 20000 in
set_option maxHeartbeats 2000000 in
theorem rf_Md_advance_L144 {G : am_G} {l : Launch}   : ∀ (n : Nat) (v0 : Nat) (M : am_M), Rf G l X_Md_advance 144 [.ref v0, .retAddr 0] [] M (F_Md_advance_L144 n v0 M) := by
  intro n
  induction n with
  | zero => intro v0 M; exact Rf.no
  | succ n ih =>
    intro v0 M
    unfold F_Md_advance_L144
    refine r_aload_n (dt_Md_advance.at 70 rfl) rfl ?_
    refine r_aload_n (dt_Md_advance.at 71 rfl) rfl ?_
    refine r_fI (dt_Md_advance.at 72 rfl) fl_Md_95 rfl (fun x24 => ?_)
    refine r_cvI (c := 9) (rest := []) (ct_Md_see v0 x24 _) (dt_Md_advance.at 73 rfl) mb_Md_see wd_1300 wd_1302 wp_39 rfl (by decide) rfl rfl (Nat.le_of_ble_eq_true rfl) (fun r26 M25 => ?_)
    refine r_i2l (dt_Md_advance.at 74 rfl) ?_
    refine r_ldc2 (dt_Md_advance.at 75 rfl) 48 wd_1306 ?_
    refine r_ldc2 (dt_Md_advance.at 76 rfl) 57 wd_1307 ?_
    refine r_csI (rest := []) (ct_Md_in (r26.toInt64) 48 57 _) (dt_Md_advance.at 77 rfl) mb_Md_in wd_1289 wd_1290 (by decide) rfl rfl (Nat.le_of_ble_eq_true rfl) (fun r28 M27 => ?_)
    refine r_if_eq (tgt := 206) (dt_Md_advance.at 78 rfl) (by decide) ?_ ?_
    · refine r_aload_n (dt_Md_advance.at 101 rfl) rfl ?_
      refine r_iconst (dt_Md_advance.at 102 rfl) 2 (by decide) ?_
      refine r_sI (dt_Md_advance.at 103 rfl) fl_Md_105 rfl rfl rfl (fun M29 => ?_)
      refine r_goto (tgt := 234) (dt_Md_advance.at 104 rfl) (by decide) ?_
      exact r_vret (dt_Md_advance.at 117 rfl) rfl
    · refine r_aload_n (dt_Md_advance.at 79 rfl) rfl ?_
      refine r_ldc (dt_Md_advance.at 80 rfl) 9999999 wd_1308 ?_
      refine r_bipush (dt_Md_advance.at 81 rfl) 10 (by decide) ?_
      refine r_aload_n (dt_Md_advance.at 82 rfl) rfl ?_
      refine r_fI (dt_Md_advance.at 83 rfl) fl_Md_116 rfl (fun x30 => ?_)
      refine r_imul (dt_Md_advance.at 84 rfl) ?_
      refine r_aload_n (dt_Md_advance.at 85 rfl) rfl ?_
      refine r_aload_n (dt_Md_advance.at 86 rfl) rfl ?_
      refine r_fI (dt_Md_advance.at 87 rfl) fl_Md_95 rfl (fun x31 => ?_)
      refine r_cvI (c := 9) (rest := [.int (10 * x30), .int 9999999, .ref v0]) (ct_Md_see v0 x31 _) (dt_Md_advance.at 88 rfl) mb_Md_see wd_1300 wd_1302 wp_39 rfl (by decide) rfl rfl (Nat.le_of_ble_eq_true rfl) (fun r33 M32 => ?_)
      refine r_iadd (dt_Md_advance.at 89 rfl) ?_
      refine r_bipush (dt_Md_advance.at 90 rfl) 48 (by decide) ?_
      refine r_isub (dt_Md_advance.at 91 rfl) ?_
      refine r_csI (rest := [.ref v0]) (ct_Math_min 9999999 (((10 * x30) + r33) - 48) _) (dt_Md_advance.at 92 rfl) mb_Math_min wd_1309 wd_334 (by decide) rfl rfl (Nat.le_of_ble_eq_true rfl) (fun r35 M34 => ?_)
      refine r_sI (dt_Md_advance.at 93 rfl) fl_Md_116 rfl rfl rfl (fun M36 => ?_)
      refine r_aload_n (dt_Md_advance.at 94 rfl) rfl ?_
      refine r_dup (dt_Md_advance.at 95 rfl) rfl ?_
      refine r_fI (dt_Md_advance.at 96 rfl) fl_Md_95 rfl (fun x37 => ?_)
      refine r_iconst (dt_Md_advance.at 97 rfl) 1 (by decide) ?_
      refine r_iadd (dt_Md_advance.at 98 rfl) ?_
      refine r_sI (dt_Md_advance.at 99 rfl) fl_Md_95 rfl rfl rfl (fun M38 => ?_)
      refine r_goto (tgt := 144) (dt_Md_advance.at 100 rfl) (by decide) ?_
      exact Rf.msk [true, false] (ih v0 M38)
set_option maxRecDepth 20000 in
set_option maxHeartbeats 2000000 in
theorem rf_Md_advance_L83 {G : am_G} {l : Launch}   : ∀ (n : Nat) (v0 : Nat) (M : am_M), Rf G l X_Md_advance 83 [.ref v0, .retAddr 0] [] M (F_Md_advance_L83 n v0 M) := by
  intro n
  induction n with
  | zero => intro v0 M; exact Rf.no
  | succ n ih =>
    intro v0 M
    unfold F_Md_advance_L83
    refine r_aload_n (dt_Md_advance.at 41 rfl) rfl ?_
    refine r_aload_n (dt_Md_advance.at 42 rfl) rfl ?_
    refine r_fI (dt_Md_advance.at 43 rfl) fl_Md_95 rfl (fun x39 => ?_)
    refine r_cvI (c := 9) (rest := []) (ct_Md_see v0 x39 _) (dt_Md_advance.at 44 rfl) mb_Md_see wd_1300 wd_1302 wp_39 rfl (by decide) rfl rfl (Nat.le_of_ble_eq_true rfl) (fun r41 M40 => ?_)
    refine r_i2l (dt_Md_advance.at 45 rfl) ?_
    refine r_ldc2 (dt_Md_advance.at 46 rfl) 97 wd_1304 ?_
    refine r_ldc2 (dt_Md_advance.at 47 rfl) 122 wd_1305 ?_
    refine r_csI (rest := []) (ct_Md_in (r41.toInt64) 97 122 _) (dt_Md_advance.at 48 rfl) mb_Md_in wd_1289 wd_1290 (by decide) rfl rfl (Nat.le_of_ble_eq_true rfl) (fun r43 M42 => ?_)
    refine r_if_eq (tgt := 117) (dt_Md_advance.at 49 rfl) (by decide) ?_ ?_
    · refine r_aload_n (dt_Md_advance.at 57 rfl) rfl ?_
      refine r_iconst (dt_Md_advance.at 58 rfl) 1 (by decide) ?_
      refine r_sI (dt_Md_advance.at 59 rfl) fl_Md_105 rfl rfl rfl (fun M44 => ?_)
      refine r_goto (tgt := 234) (dt_Md_advance.at 60 rfl) (by decide) ?_
      exact r_vret (dt_Md_advance.at 117 rfl) rfl
    · refine r_aload_n (dt_Md_advance.at 50 rfl) rfl ?_
      refine r_dup (dt_Md_advance.at 51 rfl) rfl ?_
      refine r_fI (dt_Md_advance.at 52 rfl) fl_Md_95 rfl (fun x45 => ?_)
      refine r_iconst (dt_Md_advance.at 53 rfl) 1 (by decide) ?_
      refine r_iadd (dt_Md_advance.at 54 rfl) ?_
      refine r_sI (dt_Md_advance.at 55 rfl) fl_Md_95 rfl rfl rfl (fun M46 => ?_)
      refine r_goto (tgt := 83) (dt_Md_advance.at 56 rfl) (by decide) ?_
      exact Rf.msk [true, false] (ih v0 M46)
set_option maxRecDepth 20000 in
set_option maxHeartbeats 2000000 in
theorem rf_Md_advance_L0 {G : am_G} {l : Launch}   : ∀ (n : Nat) (v0 : Nat) (M : am_M), Rf G l X_Md_advance 0 [.ref v0, .retAddr 0] [] M (F_Md_advance_L0 n v0 M) := by
  intro n
  induction n with
  | zero => intro v0 M; exact Rf.no
  | succ n ih =>
    intro v0 M
    unfold F_Md_advance_L0
    refine r_aload_n (dt_Md_advance.at 0 rfl) rfl ?_
    refine r_aload_n (dt_Md_advance.at 1 rfl) rfl ?_
    refine r_fI (dt_Md_advance.at 2 rfl) fl_Md_95 rfl (fun x1 => ?_)
    refine r_cvI (c := 9) (rest := []) (ct_Md_see v0 x1 _) (dt_Md_advance.at 3 rfl) mb_Md_see wd_1300 wd_1302 wp_39 rfl (by decide) rfl rfl (Nat.le_of_ble_eq_true rfl) (fun r3 M2 => ?_)
    refine r_bipush (dt_Md_advance.at 4 rfl) 32 (by decide) ?_
    refine r_icmp_eq (tgt := 26) (dt_Md_advance.at 5 rfl) (by decide) ?_ ?_
    · exact Rf.msk [true, false] (rf_Md_advance_L26 (F_Md_advance_L0 n) ih v0 M2)
    · refine r_aload_n (dt_Md_advance.at 6 rfl) rfl ?_
      refine r_aload_n (dt_Md_advance.at 7 rfl) rfl ?_
      refine r_fI (dt_Md_advance.at 8 rfl) fl_Md_95 rfl (fun x6 => ?_)
      refine r_cvI (c := 9) (rest := []) (ct_Md_see v0 x6 _) (dt_Md_advance.at 9 rfl) mb_Md_see wd_1300 wd_1302 wp_39 rfl (by decide) rfl rfl (Nat.le_of_ble_eq_true rfl) (fun r8 M7 => ?_)
      refine r_bipush (dt_Md_advance.at 10 rfl) 10 (by decide) ?_
      refine r_icmp_ne (tgt := 39) (dt_Md_advance.at 11 rfl) (by decide) ?_ ?_
      · exact Rf.msk [true, false] (rf_Md_advance_L26 (F_Md_advance_L0 n) ih v0 M7)
      · refine r_aload_n (dt_Md_advance.at 19 rfl) rfl ?_
        refine r_aload_n (dt_Md_advance.at 20 rfl) rfl ?_
        refine r_fI (dt_Md_advance.at 21 rfl) fl_Md_95 rfl (fun x9 => ?_)
        refine r_sI (dt_Md_advance.at 22 rfl) fl_Md_102 rfl rfl rfl (fun M10 => ?_)
        refine r_aload_n (dt_Md_advance.at 23 rfl) rfl ?_
        refine r_aload_n (dt_Md_advance.at 24 rfl) rfl ?_
        refine r_fI (dt_Md_advance.at 25 rfl) fl_Md_95 rfl (fun x11 => ?_)
        refine r_cvI (c := 9) (rest := []) (ct_Md_see v0 x11 _) (dt_Md_advance.at 26 rfl) mb_Md_see wd_1300 wd_1302 wp_39 rfl (by decide) rfl rfl (Nat.le_of_ble_eq_true rfl) (fun r13 M12 => ?_)
        refine r_istore_n (ls' := [.ref v0, .int r13]) (dt_Md_advance.at 27 rfl) (by decide) rfl ?_
        refine r_iload_n (dt_Md_advance.at 28 rfl) rfl ?_
        refine r_iconst (dt_Md_advance.at 29 rfl) (-1) (by decide) ?_
        refine r_icmp_ne (tgt := 69) (dt_Md_advance.at 30 rfl) (by decide) ?_ ?_
        · refine r_aload_n (dt_Md_advance.at 31 rfl) rfl ?_
          refine r_iconst (dt_Md_advance.at 32 rfl) 0 (by decide) ?_
          refine r_sI (dt_Md_advance.at 33 rfl) fl_Md_105 rfl rfl rfl (fun M14 => ?_)
          refine r_goto (tgt := 234) (dt_Md_advance.at 34 rfl) (by decide) ?_
          exact r_vret (dt_Md_advance.at 117 rfl) rfl
        · refine r_iload_n (dt_Md_advance.at 35 rfl) rfl ?_
          refine r_i2l (dt_Md_advance.at 36 rfl) ?_
          refine r_ldc2 (dt_Md_advance.at 37 rfl) 97 wd_1304 ?_
          refine r_ldc2 (dt_Md_advance.at 38 rfl) 122 wd_1305 ?_
          refine r_csI (rest := []) (ct_Md_in (r13.toInt64) 97 122 _) (dt_Md_advance.at 39 rfl) mb_Md_in wd_1289 wd_1290 (by decide) rfl rfl (Nat.le_of_ble_eq_true rfl) (fun r16 M15 => ?_)
          refine r_if_eq (tgt := 125) (dt_Md_advance.at 40 rfl) (by decide) ?_ ?_
          · refine r_iload_n (dt_Md_advance.at 61 rfl) rfl ?_
            refine r_i2l (dt_Md_advance.at 62 rfl) ?_
            refine r_ldc2 (dt_Md_advance.at 63 rfl) 48 wd_1306 ?_
            refine r_ldc2 (dt_Md_advance.at 64 rfl) 57 wd_1307 ?_
            refine r_csI (rest := []) (ct_Md_in (r13.toInt64) 48 57 _) (dt_Md_advance.at 65 rfl) mb_Md_in wd_1289 wd_1290 (by decide) rfl rfl (Nat.le_of_ble_eq_true rfl) (fun r18 M17 => ?_)
            refine r_if_eq (tgt := 214) (dt_Md_advance.at 66 rfl) (by decide) ?_ ?_
            · refine r_aload_n (dt_Md_advance.at 105 rfl) rfl ?_
              refine r_iconst (dt_Md_advance.at 106 rfl) 3 (by decide) ?_
              refine r_sI (dt_Md_advance.at 107 rfl) fl_Md_105 rfl rfl rfl (fun M19 => ?_)
              refine r_aload_n (dt_Md_advance.at 108 rfl) rfl ?_
              refine r_iload_n (dt_Md_advance.at 109 rfl) rfl ?_
              refine r_sI (dt_Md_advance.at 110 rfl) fl_Md_116 rfl rfl rfl (fun M20 => ?_)
              refine r_aload_n (dt_Md_advance.at 111 rfl) rfl ?_
              refine r_dup (dt_Md_advance.at 112 rfl) rfl ?_
              refine r_fI (dt_Md_advance.at 113 rfl) fl_Md_95 rfl (fun x21 => ?_)
              refine r_iconst (dt_Md_advance.at 114 rfl) 1 (by decide) ?_
              refine r_iadd (dt_Md_advance.at 115 rfl) ?_
              refine r_sI (dt_Md_advance.at 116 rfl) fl_Md_95 rfl rfl rfl (fun M22 => ?_)
              exact r_vret (dt_Md_advance.at 117 rfl) rfl
            · refine r_aload_n (dt_Md_advance.at 67 rfl) rfl ?_
              refine r_iconst (dt_Md_advance.at 68 rfl) 0 (by decide) ?_
              refine r_sI (dt_Md_advance.at 69 rfl) fl_Md_116 rfl rfl rfl (fun M23 => ?_)
              exact Rf.msk [true, false] (rf_Md_advance_L144 fu v0 M23)
          · exact Rf.msk [true, false] (rf_Md_advance_L83 fu v0 M15)
set_option maxRecDepth 20000 in
set_option maxHeartbeats 2000000 in
theorem ct_Md_advance {G : am_G} {l : Launch} (a0 : Nat) (M : am_M) : Ct G l y_Md_advance X_Md_advance [.ref a0] M (F_Md_advance a0 M) := by
  refine Ct.of (by decide +kernel) rfl rfl (Nat.le_of_ble_eq_true rfl) ?_
  unfold F_Md_advance
  show Rf G l X_Md_advance 0 [.ref a0, .retAddr 0] [] M _
  exact Rf.msk [true, false] (rf_Md_advance_L0 fu a0 M)
set_option maxRecDepth 20000 in
set_option maxHeartbeats 2000000 in
theorem ct_Md_good {G : am_G} {l : Launch} (a0 : Nat) (M : am_M) : Ct G l y_Md_good X_Md_good [.ref a0] M (F_Md_good a0 M) := by
  refine Ct.of (by decide +kernel) rfl rfl (Nat.le_of_ble_eq_true rfl) ?_
  unfold F_Md_good
  show Rf G l X_Md_good 0 [.ref a0] [] M _
  refine r_aload_n (dt_Md_good.at 0 rfl) rfl ?_
  refine r_fI (dt_Md_good.at 1 rfl) fl_Md_85 rfl (fun x1 => ?_)
  refine r_if_ne (tgt := 11) (dt_Md_good.at 2 rfl) (by decide) ?_ ?_
  · refine r_iconst (dt_Md_good.at 3 rfl) 1 (by decide) ?_
    refine r_goto (tgt := 12) (dt_Md_good.at 4 rfl) (by decide) ?_
    exact r_zret (dt_Md_good.at 6 rfl) rfl rfl
  · refine r_iconst (dt_Md_good.at 5 rfl) 0 (by decide) ?_
    exact r_zret (dt_Md_good.at 6 rfl) rfl rfl
set_option maxRecDepth 20000 in
set_option maxHeartbeats 2000000 in
theorem ct_Md_errs {G : am_G} {l : Launch} (a0 : Nat) (p1 : Int32) (p2 : Int32) (M : am_M) : Ct G l y_Md_errs X_Md_errs [.ref a0, .int p1, .int p2] M (F_Md_errs a0 p1 p2 M) := by
  refine Ct.of (by decide +kernel) rfl rfl (Nat.le_of_ble_eq_true rfl) ?_
  unfold F_Md_errs
  show Rf G l X_Md_errs 0 [.ref a0, .int p1, .int p2] [] M _
  refine r_aload_n (dt_Md_errs.at 0 rfl) rfl ?_
  refine r_cvI (c := 9) (rest := []) (ct_Md_good a0 _) (dt_Md_errs.at 1 rfl) mb_Md_good wd_1314 wd_1316 wp_41 rfl (by decide) rfl rfl (Nat.le_of_ble_eq_true rfl) (fun r2 M1 => ?_)
  refine r_if_ne (tgt := 8) (dt_Md_errs.at 2 rfl) (by decide) ?_ ?_
  · exact r_vret (dt_Md_errs.at 3 rfl) rfl
  · refine r_aload_n (dt_Md_errs.at 4 rfl) rfl ?_
    refine r_iload_n (dt_Md_errs.at 5 rfl) rfl ?_
    refine r_sI (dt_Md_errs.at 6 rfl) fl_Md_85 rfl rfl rfl (fun M3 => ?_)
    refine r_aload_n (dt_Md_errs.at 7 rfl) rfl ?_
    refine r_iload_n (dt_Md_errs.at 8 rfl) rfl ?_
    refine r_sI (dt_Md_errs.at 9 rfl) fl_Md_32 rfl rfl rfl (fun M4 => ?_)
    exact r_vret (dt_Md_errs.at 10 rfl) rfl
set_option maxRecDepth 20000 in
set_option maxHeartbeats 2000000 in
theorem rf_Md_isWord_L39 {G : am_G} {l : Launch}   : ∀ (n : Nat) (v0 : Nat) (v1 : Nat) (v2 : Int32) (v3 : Int32) (M : am_M), Rf G l X_Md_isWord 39 [.ref v0, .retAddr v1, .int v2, .int v3] [] M (F_Md_isWord_L39 n v0 v1 v2 v3 M) := by
  intro n
  induction n with
  | zero => intro v0 v1 v2 v3 M; exact Rf.no
  | succ n ih =>
    intro v0 v1 v2 v3 M
    unfold F_Md_isWord_L39
    refine r_iload_n (dt_Md_isWord.at 21 rfl) rfl ?_
    refine r_aload_sv (dt_Md_isWord.at 22 rfl) rfl ?_
    refine r_cvS (rest := [.int v3]) (ct_Str_length v1 _) (dt_Md_isWord.at 23 rfl) mb_Str_length wd_1335 wd_376 wd_377 (by decide) rfl rfl (Nat.le_of_ble_eq_true rfl) (fun r4 M3 => ?_)
    refine r_icmp_ge (tgt := 82) (dt_Md_isWord.at 24 rfl) (by decide) ?_ ?_
    · refine r_iload_n (dt_Md_isWord.at 44 rfl) rfl ?_
      exact r_zretC (dt_Md_isWord.at 45 rfl) rfl
    · refine r_iload_n (dt_Md_isWord.at 25 rfl) rfl ?_
      refine r_if_eq (tgt := 82) (dt_Md_isWord.at 26 rfl) (by decide) ?_ ?_
      · refine r_iload_n (dt_Md_isWord.at 44 rfl) rfl ?_
        exact r_zretC (dt_Md_isWord.at 45 rfl) rfl
      · refine r_aload_n (dt_Md_isWord.at 27 rfl) rfl ?_
        refine r_fR (dt_Md_isWord.at 28 rfl) fl_Md_28 rfl (fun b5 => ?_)
        refine r_aload_n (dt_Md_isWord.at 29 rfl) rfl ?_
        refine r_fI (dt_Md_isWord.at 30 rfl) fl_Md_102 rfl (fun x6 => ?_)
        refine r_iload_n (dt_Md_isWord.at 31 rfl) rfl ?_
        refine r_iadd (dt_Md_isWord.at 32 rfl) ?_
        refine r_aB (dt_Md_isWord.at 33 rfl) (fun x7 => ?_)
        refine r_aload_sv (dt_Md_isWord.at 34 rfl) rfl ?_
        refine r_iload_n (dt_Md_isWord.at 35 rfl) rfl ?_
        refine r_cvS (rest := [.int x7]) (ct_Str_charAt v1 v3 _) (dt_Md_isWord.at 36 rfl) mb_Str_charAt wd_1336 wd_386 wd_387 (by decide) rfl rfl (Nat.le_of_ble_eq_true rfl) (fun r9 M8 => ?_)
        refine r_icmp_ne (tgt := 74) (dt_Md_isWord.at 37 rfl) (by decide) ?_ ?_
        · refine r_iconst (dt_Md_isWord.at 38 rfl) 1 (by decide) ?_
          refine r_goto (tgt := 75) (dt_Md_isWord.at 39 rfl) (by decide) ?_
          refine r_istore_n (ls' := [.ref v0, .retAddr v1, .int 1, .int v3]) (dt_Md_isWord.at 41 rfl) (by decide) rfl ?_
          refine r_iincn (v := 1) (dt_Md_isWord.at 42 rfl) (by decide) rfl (by decide) (fun y => [.ref v0, .retAddr v1, .int 1, .int y]) (fun _ => rfl) (fun x10 => ?_)
          refine r_goto (tgt := 39) (dt_Md_isWord.at 43 rfl) (by decide) ?_
          exact Rf.msk [true, true, true, true] (ih v0 v1 1 x10 M8)
        · refine r_iconst (dt_Md_isWord.at 40 rfl) 0 (by decide) ?_
          refine r_istore_n (ls' := [.ref v0, .retAddr v1, .int 0, .int v3]) (dt_Md_isWord.at 41 rfl) (by decide) rfl ?_
          refine r_iincn (v := 1) (dt_Md_isWord.at 42 rfl) (by decide) rfl (by decide) (fun y => [.ref v0, .retAddr v1, .int 0, .int y]) (fun _ => rfl) (fun x11 => ?_)
          refine r_goto (tgt := 39) (dt_Md_isWord.at 43 rfl) (by decide) ?_
          exact Rf.msk [true, true, true, true] (ih v0 v1 0 x11 M8)
set_option maxRecDepth 20000 in
set_option maxHeartbeats 2000000 in
theorem ct_Md_isWord {G : am_G} {l : Launch} (a0 : Nat) (p1 : Nat) (M : am_M) : Ct G l y_Md_isWord X_Md_isWord [.ref a0, .retAddr p1] M (F_Md_isWord a0 p1 M) := by
  refine Ct.of (by decide +kernel) rfl rfl (Nat.le_of_ble_eq_true rfl) ?_
  unfold F_Md_isWord
  show Rf G l X_Md_isWord 0 [.ref a0, .retAddr p1, .retAddr 0, .retAddr 0] [] M _
  refine r_aload_n (dt_Md_isWord.at 0 rfl) rfl ?_
  refine r_cvI (c := 9) (rest := []) (ct_Md_good a0 _) (dt_Md_isWord.at 1 rfl) mb_Md_good wd_1314 wd_1316 wp_41 rfl (by decide) rfl rfl (Nat.le_of_ble_eq_true rfl) (fun r2 M1 => ?_)
  refine r_if_eq (tgt := 35) (dt_Md_isWord.at 2 rfl) (by decide) ?_ ?_
  · refine r_iconst (dt_Md_isWord.at 17 rfl) 0 (by decide) ?_
    refine r_istore_n (ls' := [.ref a0, .retAddr p1, .int 0, .retAddr 0]) (dt_Md_isWord.at 18 rfl) (by decide) rfl ?_
    refine r_iconst (dt_Md_isWord.at 19 rfl) 0 (by decide) ?_
    refine r_istore_n (ls' := [.ref a0, .retAddr p1, .int 0, .int 0]) (dt_Md_isWord.at 20 rfl) (by decide) rfl ?_
    exact Rf.msk [true, true, true, true] (rf_Md_isWord_L39 fu a0 p1 0 0 M1)
  · refine r_aload_n (dt_Md_isWord.at 3 rfl) rfl ?_
    refine r_fI (dt_Md_isWord.at 4 rfl) fl_Md_105 rfl (fun x12 => ?_)
    refine r_iconst (dt_Md_isWord.at 5 rfl) 1 (by decide) ?_
    refine r_icmp_ne (tgt := 35) (dt_Md_isWord.at 6 rfl) (by decide) ?_ ?_
    · refine r_aload_n (dt_Md_isWord.at 7 rfl) rfl ?_
      refine r_fI (dt_Md_isWord.at 8 rfl) fl_Md_95 rfl (fun x13 => ?_)
      refine r_aload_n (dt_Md_isWord.at 9 rfl) rfl ?_
      refine r_fI (dt_Md_isWord.at 10 rfl) fl_Md_102 rfl (fun x14 => ?_)
      refine r_isub (dt_Md_isWord.at 11 rfl) ?_
      refine r_aload_sv (dt_Md_isWord.at 12 rfl) rfl ?_
      refine r_cvS (rest := [.int (x13 - x14)]) (ct_Str_length p1 _) (dt_Md_isWord.at 13 rfl) mb_Str_length wd_1335 wd_376 wd_377 (by decide) rfl rfl (Nat.le_of_ble_eq_true rfl) (fun r16 M15 => ?_)
      refine r_icmp_ne (tgt := 35) (dt_Md_isWord.at 14 rfl) (by decide) ?_ ?_
      · refine r_iconst (dt_Md_isWord.at 15 rfl) 1 (by decide) ?_
        refine r_goto (tgt := 36) (dt_Md_isWord.at 16 rfl) (by decide) ?_
        refine r_istore_n (ls' := [.ref a0, .retAddr p1, .int 1, .retAddr 0]) (dt_Md_isWord.at 18 rfl) (by decide) rfl ?_
        refine r_iconst (dt_Md_isWord.at 19 rfl) 0 (by decide) ?_
        refine r_istore_n (ls' := [.ref a0, .retAddr p1, .int 1, .int 0]) (dt_Md_isWord.at 20 rfl) (by decide) rfl ?_
        exact Rf.msk [true, true, true, true] (rf_Md_isWord_L39 fu a0 p1 1 0 M15)
      · refine r_iconst (dt_Md_isWord.at 17 rfl) 0 (by decide) ?_
        refine r_istore_n (ls' := [.ref a0, .retAddr p1, .int 0, .retAddr 0]) (dt_Md_isWord.at 18 rfl) (by decide) rfl ?_
        refine r_iconst (dt_Md_isWord.at 19 rfl) 0 (by decide) ?_
        refine r_istore_n (ls' := [.ref a0, .retAddr p1, .int 0, .int 0]) (dt_Md_isWord.at 20 rfl) (by decide) rfl ?_
        exact Rf.msk [true, true, true, true] (rf_Md_isWord_L39 fu a0 p1 0 0 M15)
    · refine r_iconst (dt_Md_isWord.at 17 rfl) 0 (by decide) ?_
      refine r_istore_n (ls' := [.ref a0, .retAddr p1, .int 0, .retAddr 0]) (dt_Md_isWord.at 18 rfl) (by decide) rfl ?_
      refine r_iconst (dt_Md_isWord.at 19 rfl) 0 (by decide) ?_
      refine r_istore_n (ls' := [.ref a0, .retAddr p1, .int 0, .int 0]) (dt_Md_isWord.at 20 rfl) (by decide) rfl ?_
      exact Rf.msk [true, true, true, true] (rf_Md_isWord_L39 fu a0 p1 0 0 M1)
set_option maxRecDepth 20000 in
set_option maxHeartbeats 2000000 in
theorem ct_Md_takes {G : am_G} {l : Launch} (a0 : Nat) (p1 : Nat) (M : am_M) : Ct G l y_Md_takes X_Md_takes [.ref a0, .retAddr p1] M (F_Md_takes a0 p1 M) := by
  refine Ct.of (by decide +kernel) rfl rfl (Nat.le_of_ble_eq_true rfl) ?_
  unfold F_Md_takes
  show Rf G l X_Md_takes 0 [.ref a0, .retAddr p1] [] M _
  refine r_aload_n (dt_Md_takes.at 0 rfl) rfl ?_
  refine r_aload_sv (dt_Md_takes.at 1 rfl) rfl ?_
  refine r_cvI (c := 9) (rest := []) (ct_Md_isWord a0 p1 _) (dt_Md_takes.at 2 rfl) mb_Md_isWord wd_1331 wd_1333 wp_45 rfl (by decide) rfl rfl (Nat.le_of_ble_eq_true rfl) (fun r2 M1 => ?_)
  refine r_if_ne (tgt := 10) (dt_Md_takes.at 3 rfl) (by decide) ?_ ?_
  · refine r_iconst (dt_Md_takes.at 4 rfl) 0 (by decide) ?_
    exact r_zret (dt_Md_takes.at 5 rfl) rfl rfl
  · refine r_aload_n (dt_Md_takes.at 6 rfl) rfl ?_
    refine r_cvV (c := 9) (rest := []) (ct_Md_advance a0 _) (dt_Md_takes.at 7 rfl) mb_Md_advance wd_1296 wd_1298 wp_38 rfl (by decide) rfl rfl (Nat.le_of_ble_eq_true rfl) (fun M3 => ?_)
    refine r_iconst (dt_Md_takes.at 8 rfl) 1 (by decide) ?_
    exact r_zret (dt_Md_takes.at 9 rfl) rfl rfl
set_option maxRecDepth 20000 in
set_option maxHeartbeats 2000000 in
theorem ct_Md_passes {G : am_G} {l : Launch} (a0 : Nat) (p1 : Nat) (M : am_M) : Ct G l y_Md_passes X_Md_passes [.ref a0, .retAddr p1] M (F_Md_passes a0 p1 M) := by
  refine Ct.of (by decide +kernel) rfl rfl (Nat.le_of_ble_eq_true rfl) ?_
  unfold F_Md_passes
  show Rf G l X_Md_passes 0 [.ref a0, .retAddr p1] [] M _
  refine r_aload_n (dt_Md_passes.at 0 rfl) rfl ?_
  refine r_aload_sv (dt_Md_passes.at 1 rfl) rfl ?_
  refine r_cvI (c := 9) (rest := []) (ct_Md_takes a0 p1 _) (dt_Md_passes.at 2 rfl) mb_Md_takes wd_1327 wd_1329 wp_44 rfl (by decide) rfl rfl (Nat.le_of_ble_eq_true rfl) (fun r2 M1 => ?_)
  refine r_if_ne (tgt := 17) (dt_Md_passes.at 3 rfl) (by decide) ?_ ?_
  · refine r_aload_n (dt_Md_passes.at 4 rfl) rfl ?_
    refine r_iconst (dt_Md_passes.at 5 rfl) 1 (by decide) ?_
    refine r_aload_n (dt_Md_passes.at 6 rfl) rfl ?_
    refine r_fI (dt_Md_passes.at 7 rfl) fl_Md_102 rfl (fun x3 => ?_)
    refine r_cvV (c := 9) (rest := []) (ct_Md_errs a0 1 x3 _) (dt_Md_passes.at 8 rfl) mb_Md_errs wd_1310 wd_1312 wp_40 rfl (by decide) rfl rfl (Nat.le_of_ble_eq_true rfl) (fun M4 => ?_)
    exact r_vret (dt_Md_passes.at 9 rfl) rfl
  · exact r_vret (dt_Md_passes.at 9 rfl) rfl
set_option maxRecDepth 20000 in
set_option maxHeartbeats 2000000 in
theorem rf_Md_number_L55 {G : am_G} {l : Launch}   (v0 : Nat) (M : am_M) : Rf G l X_Md_number 55 [.ref v0, .retAddr 0, .retAddr 0, .retAddr 0] [] M (F_Md_number_L55 v0 M) := by
  unfold F_Md_number_L55
  refine r_aload_n (dt_Md_number.at 29 rfl) rfl ?_
  refine r_fI (dt_Md_number.at 30 rfl) fl_Md_116 rfl (fun x5 => ?_)
  refine r_istore_n (ls' := [.ref v0, .retAddr 0, .retAddr 0, .int x5]) (dt_Md_number.at 31 rfl) (by decide) rfl ?_
  refine r_aload_n (dt_Md_number.at 32 rfl) rfl ?_
  refine r_cvI (c := 9) (rest := []) (ct_Md_good v0 _) (dt_Md_number.at 33 rfl) mb_Md_good wd_1314 wd_1316 wp_41 rfl (by decide) rfl rfl (Nat.le_of_ble_eq_true rfl) (fun r7 M6 => ?_)
  refine r_if_eq (tgt := 71) (dt_Md_number.at 34 rfl) (by decide) ?_ ?_
  · refine r_iload_n (dt_Md_number.at 37 rfl) rfl ?_
    exact r_iret (dt_Md_number.at 38 rfl) rfl
  · refine r_aload_n (dt_Md_number.at 35 rfl) rfl ?_
    refine r_cvV (c := 9) (rest := []) (ct_Md_advance v0 _) (dt_Md_number.at 36 rfl) mb_Md_advance wd_1296 wd_1298 wp_38 rfl (by decide) rfl rfl (Nat.le_of_ble_eq_true rfl) (fun M8 => ?_)
    refine r_iload_n (dt_Md_number.at 37 rfl) rfl ?_
    exact r_iret (dt_Md_number.at 38 rfl) rfl
set_option maxRecDepth 20000 in
set_option maxHeartbeats 2000000 in
theorem rf_Md_number_L24 {G : am_G} {l : Launch}   (v0 : Nat) (v1 : Int32) (v2 : Int32) (M : am_M) : Rf G l X_Md_number 24 [.ref v0, .int v1, .int v2, .retAddr 0] [] M (F_Md_number_L24 v0 v1 v2 M) := by
  unfold F_Md_number_L24
  refine r_aload_n (dt_Md_number.at 12 rfl) rfl ?_
  refine r_cvI (c := 9) (rest := []) (ct_Md_good v0 _) (dt_Md_number.at 13 rfl) mb_Md_good wd_1314 wd_1316 wp_41 rfl (by decide) rfl rfl (Nat.le_of_ble_eq_true rfl) (fun r4 M3 => ?_)
  refine r_if_eq (tgt := 55) (dt_Md_number.at 14 rfl) (by decide) ?_ ?_
  · exact Rf.msk [true, false, false, false] (rf_Md_number_L55 v0 M3)
  · refine r_aload_n (dt_Md_number.at 15 rfl) rfl ?_
    refine r_fI (dt_Md_number.at 16 rfl) fl_Md_116 rfl (fun x9 => ?_)
    refine r_i2l (dt_Md_number.at 17 rfl) ?_
    refine r_iload_n (dt_Md_number.at 18 rfl) rfl ?_
    refine r_i2l (dt_Md_number.at 19 rfl) ?_
    refine r_iload_n (dt_Md_number.at 20 rfl) rfl ?_
    refine r_i2l (dt_Md_number.at 21 rfl) ?_
    refine r_csI (rest := []) (ct_Md_in (x9.toInt64) (v1.toInt64) (v2.toInt64) _) (dt_Md_number.at 22 rfl) mb_Md_in wd_1289 wd_1290 (by decide) rfl rfl (Nat.le_of_ble_eq_true rfl) (fun r11 M10 => ?_)
    refine r_if_ne (tgt := 55) (dt_Md_number.at 23 rfl) (by decide) ?_ ?_
    · refine r_aload_n (dt_Md_number.at 24 rfl) rfl ?_
      refine r_iconst (dt_Md_number.at 25 rfl) 2 (by decide) ?_
      refine r_aload_n (dt_Md_number.at 26 rfl) rfl ?_
      refine r_fI (dt_Md_number.at 27 rfl) fl_Md_102 rfl (fun x12 => ?_)
      refine r_cvV (c := 9) (rest := []) (ct_Md_errs v0 2 x12 _) (dt_Md_number.at 28 rfl) mb_Md_errs wd_1310 wd_1312 wp_40 rfl (by decide) rfl rfl (Nat.le_of_ble_eq_true rfl) (fun M13 => ?_)
      exact Rf.msk [true, false, false, false] (rf_Md_number_L55 v0 M13)
    · exact Rf.msk [true, false, false, false] (rf_Md_number_L55 v0 M10)
set_option maxRecDepth 20000 in
set_option maxHeartbeats 2000000 in
theorem ct_Md_number {G : am_G} {l : Launch} (a0 : Nat) (p1 : Int32) (p2 : Int32) (M : am_M) : Ct G l y_Md_number X_Md_number [.ref a0, .int p1, .int p2] M (F_Md_number a0 p1 p2 M) := by
  refine Ct.of (by decide +kernel) rfl rfl (Nat.le_of_ble_eq_true rfl) ?_
  unfold F_Md_number
  show Rf G l X_Md_number 0 [.ref a0, .int p1, .int p2, .retAddr 0] [] M _
  refine r_aload_n (dt_Md_number.at 0 rfl) rfl ?_
  refine r_cvI (c := 9) (rest := []) (ct_Md_good a0 _) (dt_Md_number.at 1 rfl) mb_Md_good wd_1314 wd_1316 wp_41 rfl (by decide) rfl rfl (Nat.le_of_ble_eq_true rfl) (fun r2 M1 => ?_)
  refine r_if_eq (tgt := 24) (dt_Md_number.at 2 rfl) (by decide) ?_ ?_
  · exact Rf.msk [true, true, true, false] (rf_Md_number_L24 a0 p1 p2 M1)
  · refine r_aload_n (dt_Md_number.at 3 rfl) rfl ?_
    refine r_fI (dt_Md_number.at 4 rfl) fl_Md_105 rfl (fun x14 => ?_)
    refine r_iconst (dt_Md_number.at 5 rfl) 2 (by decide) ?_
    refine r_icmp_eq (tgt := 24) (dt_Md_number.at 6 rfl) (by decide) ?_ ?_
    · exact Rf.msk [true, true, true, false] (rf_Md_number_L24 a0 p1 p2 M1)
    · refine r_aload_n (dt_Md_number.at 7 rfl) rfl ?_
      refine r_iconst (dt_Md_number.at 8 rfl) 1 (by decide) ?_
      refine r_aload_n (dt_Md_number.at 9 rfl) rfl ?_
      refine r_fI (dt_Md_number.at 10 rfl) fl_Md_102 rfl (fun x15 => ?_)
      refine r_cvV (c := 9) (rest := []) (ct_Md_errs a0 1 x15 _) (dt_Md_number.at 11 rfl) mb_Md_errs wd_1310 wd_1312 wp_40 rfl (by decide) rfl rfl (Nat.le_of_ble_eq_true rfl) (fun M16 => ?_)
      exact Rf.msk [true, true, true, false] (rf_Md_number_L24 a0 p1 p2 M16)
set_option maxRecDepth 20000 in
set_option maxHeartbeats 2000000 in
theorem rf_Md_readSeed_L16 {G : am_G} {l : Launch}   (v0 : Nat) (M : am_M) : Rf G l X_Md_readSeed 16 [.ref v0] [] M (F_Md_readSeed_L16 v0 M) := by
  unfold F_Md_readSeed_L16
  refine r_aload_n (dt_Md_readSeed.at 8 rfl) rfl ?_
  refine r_iconst (dt_Md_readSeed.at 9 rfl) 1 (by decide) ?_
  refine r_sI (dt_Md_readSeed.at 10 rfl) fl_Md_193 rfl rfl rfl (fun M2 => ?_)
  refine r_aload_n (dt_Md_readSeed.at 11 rfl) rfl ?_
  refine r_cvI (c := 9) (rest := []) (ct_Md_good v0 _) (dt_Md_readSeed.at 12 rfl) mb_Md_good wd_1314 wd_1316 wp_41 rfl (by decide) rfl rfl (Nat.le_of_ble_eq_true rfl) (fun r4 M3 => ?_)
  refine r_if_eq (tgt := 32) (dt_Md_readSeed.at 13 rfl) (by decide) ?_ ?_
  · refine r_aload_n (dt_Md_readSeed.at 16 rfl) rfl ?_
    refine r_aload_n (dt_Md_readSeed.at 17 rfl) rfl ?_
    refine r_iconst (dt_Md_readSeed.at 18 rfl) 0 (by decide) ?_
    refine r_ldc (dt_Md_readSeed.at 19 rfl) 999999 wd_1346 ?_
    refine r_cvI (c := 9) (rest := [.ref v0]) (ct_Md_number v0 0 999999 _) (dt_Md_readSeed.at 20 rfl) mb_Md_number wd_1337 wd_1339 wp_46 rfl (by decide) rfl rfl (Nat.le_of_ble_eq_true rfl) (fun r6 M5 => ?_)
    refine r_sI (dt_Md_readSeed.at 21 rfl) fl_Md_198 rfl rfl rfl (fun M7 => ?_)
    exact r_vret (dt_Md_readSeed.at 22 rfl) rfl
  · refine r_aload_n (dt_Md_readSeed.at 14 rfl) rfl ?_
    refine r_cvV (c := 9) (rest := []) (ct_Md_advance v0 _) (dt_Md_readSeed.at 15 rfl) mb_Md_advance wd_1296 wd_1298 wp_38 rfl (by decide) rfl rfl (Nat.le_of_ble_eq_true rfl) (fun M8 => ?_)
    refine r_aload_n (dt_Md_readSeed.at 16 rfl) rfl ?_
    refine r_aload_n (dt_Md_readSeed.at 17 rfl) rfl ?_
    refine r_iconst (dt_Md_readSeed.at 18 rfl) 0 (by decide) ?_
    refine r_ldc (dt_Md_readSeed.at 19 rfl) 999999 wd_1346 ?_
    refine r_cvI (c := 9) (rest := [.ref v0]) (ct_Md_number v0 0 999999 _) (dt_Md_readSeed.at 20 rfl) mb_Md_number wd_1337 wd_1339 wp_46 rfl (by decide) rfl rfl (Nat.le_of_ble_eq_true rfl) (fun r10 M9 => ?_)
    refine r_sI (dt_Md_readSeed.at 21 rfl) fl_Md_198 rfl rfl rfl (fun M11 => ?_)
    exact r_vret (dt_Md_readSeed.at 22 rfl) rfl
set_option maxRecDepth 20000 in
set_option maxHeartbeats 2000000 in
theorem ct_Md_readSeed {G : am_G} {l : Launch} (a0 : Nat) (M : am_M) : Ct G l y_Md_readSeed X_Md_readSeed [.ref a0] M (F_Md_readSeed a0 M) := by
  refine Ct.of (by decide +kernel) rfl rfl (Nat.le_of_ble_eq_true rfl) ?_
  unfold F_Md_readSeed
  show Rf G l X_Md_readSeed 0 [.ref a0] [] M _
  refine r_aload_n (dt_Md_readSeed.at 0 rfl) rfl ?_
  refine r_fI (dt_Md_readSeed.at 1 rfl) fl_Md_193 rfl (fun x1 => ?_)
  refine r_if_eq (tgt := 16) (dt_Md_readSeed.at 2 rfl) (by decide) ?_ ?_
  · exact Rf.msk [true] (rf_Md_readSeed_L16 a0 M)
  · refine r_aload_n (dt_Md_readSeed.at 3 rfl) rfl ?_
    refine r_iconst (dt_Md_readSeed.at 4 rfl) 3 (by decide) ?_
    refine r_aload_n (dt_Md_readSeed.at 5 rfl) rfl ?_
    refine r_fI (dt_Md_readSeed.at 6 rfl) fl_Md_102 rfl (fun x12 => ?_)
    refine r_cvV (c := 9) (rest := []) (ct_Md_errs a0 3 x12 _) (dt_Md_readSeed.at 7 rfl) mb_Md_errs wd_1310 wd_1312 wp_40 rfl (by decide) rfl rfl (Nat.le_of_ble_eq_true rfl) (fun M13 => ?_)
    exact Rf.msk [true] (rf_Md_readSeed_L16 a0 M13)
set_option maxRecDepth 20000 in
set_option maxHeartbeats 2000000 in
theorem rf_Md_falls_L38 {G : am_G} {l : Launch}   (v0 : Nat) (v1 : Int32) (M : am_M) : Rf G l X_Md_falls 38 [.ref v0, .int v1, .retAddr 0] [] M (F_Md_falls_L38 v0 v1 M) := by
  unfold F_Md_falls_L38
  refine r_aload_n (dt_Md_falls.at 19 rfl) rfl ?_
  refine r_iconst (dt_Md_falls.at 20 rfl) 0 (by decide) ?_
  refine r_bipush (dt_Md_falls.at 21 rfl) 9 (by decide) ?_
  refine r_cvI (c := 9) (rest := []) (ct_Md_number v0 0 9 _) (dt_Md_falls.at 22 rfl) mb_Md_number wd_1337 wd_1339 wp_46 rfl (by decide) rfl rfl (Nat.le_of_ble_eq_true rfl) (fun r4 M3 => ?_)
  refine r_istore_n (ls' := [.ref v0, .int v1, .int r4]) (dt_Md_falls.at 23 rfl) (by decide) rfl ?_
  refine r_iload_n (dt_Md_falls.at 24 rfl) rfl ?_
  refine r_if_eq (tgt := 55) (dt_Md_falls.at 25 rfl) (by decide) ?_ ?_
  · refine r_iload_n (dt_Md_falls.at 29 rfl) rfl ?_
    exact r_iret (dt_Md_falls.at 30 rfl) rfl
  · refine r_iload_n (dt_Md_falls.at 26 rfl) rfl ?_
    refine r_ineg (dt_Md_falls.at 27 rfl) ?_
    refine r_goto (tgt := 56) (dt_Md_falls.at 28 rfl) (by decide) ?_
    exact r_iret (dt_Md_falls.at 30 rfl) rfl
set_option maxRecDepth 20000 in
set_option maxHeartbeats 2000000 in
theorem rf_Md_falls_L29 {G : am_G} {l : Launch}   (v0 : Nat) (s0 : Int32) (M : am_M) : Rf G l X_Md_falls 29 [.ref v0, .retAddr 0, .retAddr 0] [.int s0] M (F_Md_falls_L29 v0 s0 M) := by
  unfold F_Md_falls_L29
  refine r_istore_n (ls' := [.ref v0, .int s0, .retAddr 0]) (dt_Md_falls.at 14 rfl) (by decide) rfl ?_
  refine r_iload_n (dt_Md_falls.at 15 rfl) rfl ?_
  refine r_if_eq (tgt := 38) (dt_Md_falls.at 16 rfl) (by decide) ?_ ?_
  · exact Rf.msk [true, true, false] (rf_Md_falls_L38 v0 s0 M)
  · refine r_aload_n (dt_Md_falls.at 17 rfl) rfl ?_
    refine r_cvV (c := 9) (rest := []) (ct_Md_advance v0 _) (dt_Md_falls.at 18 rfl) mb_Md_advance wd_1296 wd_1298 wp_38 rfl (by decide) rfl rfl (Nat.le_of_ble_eq_true rfl) (fun M5 => ?_)
    exact Rf.msk [true, true, false] (rf_Md_falls_L38 v0 s0 M5)
set_option maxRecDepth 20000 in
set_option maxHeartbeats 2000000 in
theorem rf_Md_falls_L28 {G : am_G} {l : Launch}   (v0 : Nat) (M : am_M) : Rf G l X_Md_falls 28 [.ref v0, .retAddr 0, .retAddr 0] [] M (F_Md_falls_L28 v0 M) := by
  unfold F_Md_falls_L28
  refine r_iconst (dt_Md_falls.at 13 rfl) 0 (by decide) ?_
  exact Rf.msk [true, false, false] (rf_Md_falls_L29 v0 0 M)
set_option maxRecDepth 20000 in
set_option maxHeartbeats 2000000 in
theorem ct_Md_falls {G : am_G} {l : Launch} (a0 : Nat) (M : am_M) : Ct G l y_Md_falls X_Md_falls [.ref a0] M (F_Md_falls a0 M) := by
  refine Ct.of (by decide +kernel) rfl rfl (Nat.le_of_ble_eq_true rfl) ?_
  unfold F_Md_falls
  show Rf G l X_Md_falls 0 [.ref a0, .retAddr 0, .retAddr 0] [] M _
  refine r_aload_n (dt_Md_falls.at 0 rfl) rfl ?_
  refine r_cvI (c := 9) (rest := []) (ct_Md_good a0 _) (dt_Md_falls.at 1 rfl) mb_Md_good wd_1314 wd_1316 wp_41 rfl (by decide) rfl rfl (Nat.le_of_ble_eq_true rfl) (fun r2 M1 => ?_)
  refine r_if_eq (tgt := 28) (dt_Md_falls.at 2 rfl) (by decide) ?_ ?_
  · exact Rf.msk [true, false, false] (rf_Md_falls_L28 a0 M1)
  · refine r_aload_n (dt_Md_falls.at 3 rfl) rfl ?_
    refine r_fI (dt_Md_falls.at 4 rfl) fl_Md_105 rfl (fun x6 => ?_)
    refine r_iconst (dt_Md_falls.at 5 rfl) 3 (by decide) ?_
    refine r_icmp_ne (tgt := 28) (dt_Md_falls.at 6 rfl) (by decide) ?_ ?_
    · refine r_aload_n (dt_Md_falls.at 7 rfl) rfl ?_
      refine r_fI (dt_Md_falls.at 8 rfl) fl_Md_116 rfl (fun x7 => ?_)
      refine r_bipush (dt_Md_falls.at 9 rfl) 45 (by decide) ?_
      refine r_icmp_ne (tgt := 28) (dt_Md_falls.at 10 rfl) (by decide) ?_ ?_
      · refine r_iconst (dt_Md_falls.at 11 rfl) 1 (by decide) ?_
        refine r_goto (tgt := 29) (dt_Md_falls.at 12 rfl) (by decide) ?_
        exact Rf.msk [true, false, false] (rf_Md_falls_L29 a0 1 M1)
      · exact Rf.msk [true, false, false] (rf_Md_falls_L28 a0 M1)
    · exact Rf.msk [true, false, false] (rf_Md_falls_L28 a0 M1)
set_option maxRecDepth 20000 in
set_option maxHeartbeats 2000000 in
theorem rf_Md_readKind_L214 {G : am_G} {l : Launch}   (v0 : Nat) (v1 : Int32) (s0 : Nat) (s1 : Int32) (s2 : Int32) (M : am_M) : Rf G l X_Md_readKind 214 [.ref v0, .int v1] [.int s2, .int s1, .ref s0] M (F_Md_readKind_L214 v0 v1 s0 s1 s2 M) := by
  unfold F_Md_readKind_L214
  refine r_tI (dt_Md_readKind.at 119 rfl) (fun M37 => ?_)
  refine r_aload_n (dt_Md_readKind.at 120 rfl) rfl ?_
  refine r_fR (dt_Md_readKind.at 121 rfl) fl_Md_22 rfl (fun b38 => ?_)
  refine r_iload_n (dt_Md_readKind.at 122 rfl) rfl ?_
  refine r_bipush (dt_Md_readKind.at 123 rfl) 6 (by decide) ?_
  refine r_iadd (dt_Md_readKind.at 124 rfl) ?_
  refine r_iconst (dt_Md_readKind.at 125 rfl) 0 (by decide) ?_
  refine r_tI (dt_Md_readKind.at 126 rfl) (fun M39 => ?_)
  refine r_aload_n (dt_Md_readKind.at 127 rfl) rfl ?_
  refine r_fR (dt_Md_readKind.at 128 rfl) fl_Md_22 rfl (fun b40 => ?_)
  refine r_iload_n (dt_Md_readKind.at 129 rfl) rfl ?_
  refine r_bipush (dt_Md_readKind.at 130 rfl) 7 (by decide) ?_
  refine r_iadd (dt_Md_readKind.at 131 rfl) ?_
  refine r_iconst (dt_Md_readKind.at 132 rfl) (-1) (by decide) ?_
  refine r_tI (dt_Md_readKind.at 133 rfl) (fun M41 => ?_)
  refine r_aload_n (dt_Md_readKind.at 134 rfl) rfl ?_
  refine r_ldcS (dt_Md_readKind.at 135 rfl) 31 rfl ?_
  refine r_cvI (c := 9) (rest := []) (ct_Md_takes v0 131 _) (dt_Md_readKind.at 136 rfl) mb_Md_takes wd_1327 wd_1329 wp_44 rfl (by decide) rfl rfl (Nat.le_of_ble_eq_true rfl) (fun r43 M42 => ?_)
  refine r_if_eq (tgt := 285) (dt_Md_readKind.at 137 rfl) (by decide) ?_ ?_
  · refine r_aload_n (dt_Md_readKind.at 164 rfl) rfl ?_
    refine r_dup (dt_Md_readKind.at 165 rfl) rfl ?_
    refine r_fI (dt_Md_readKind.at 166 rfl) fl_Md_153 rfl (fun x44 => ?_)
    refine r_iconst (dt_Md_readKind.at 167 rfl) 1 (by decide) ?_
    refine r_iadd (dt_Md_readKind.at 168 rfl) ?_
    refine r_sI (dt_Md_readKind.at 169 rfl) fl_Md_153 rfl rfl rfl (fun M45 => ?_)
    exact r_vret (dt_Md_readKind.at 170 rfl) rfl
  · refine r_aload_n (dt_Md_readKind.at 138 rfl) rfl ?_
    refine r_fR (dt_Md_readKind.at 139 rfl) fl_Md_22 rfl (fun b46 => ?_)
    refine r_iload_n (dt_Md_readKind.at 140 rfl) rfl ?_
    refine r_bipush (dt_Md_readKind.at 141 rfl) 6 (by decide) ?_
    refine r_iadd (dt_Md_readKind.at 142 rfl) ?_
    refine r_aload_n (dt_Md_readKind.at 143 rfl) rfl ?_
    refine r_iconst (dt_Md_readKind.at 144 rfl) 1 (by decide) ?_
    refine r_iconst (dt_Md_readKind.at 145 rfl) 2 (by decide) ?_
    refine r_cvI (c := 9) (rest := [.int (v1 + 6), .ref b46]) (ct_Md_number v0 1 2 _) (dt_Md_readKind.at 146 rfl) mb_Md_number wd_1337 wd_1339 wp_46 rfl (by decide) rfl rfl (Nat.le_of_ble_eq_true rfl) (fun r48 M47 => ?_)
    refine r_tI (dt_Md_readKind.at 147 rfl) (fun M49 => ?_)
    refine r_aload_n (dt_Md_readKind.at 148 rfl) rfl ?_
    refine r_ldcS (dt_Md_readKind.at 149 rfl) 32 rfl ?_
    refine r_cvV (c := 9) (rest := []) (ct_Md_passes v0 132 _) (dt_Md_readKind.at 150 rfl) mb_Md_passes wd_1323 wd_1325 wp_43 rfl (by decide) rfl rfl (Nat.le_of_ble_eq_true rfl) (fun M50 => ?_)
    refine r_aload_n (dt_Md_readKind.at 151 rfl) rfl ?_
    refine r_fR (dt_Md_readKind.at 152 rfl) fl_Md_22 rfl (fun b51 => ?_)
    refine r_iload_n (dt_Md_readKind.at 153 rfl) rfl ?_
    refine r_bipush (dt_Md_readKind.at 154 rfl) 7 (by decide) ?_
    refine r_iadd (dt_Md_readKind.at 155 rfl) ?_
    refine r_aload_n (dt_Md_readKind.at 156 rfl) rfl ?_
    refine r_iconst (dt_Md_readKind.at 157 rfl) 0 (by decide) ?_
    refine r_aload_n (dt_Md_readKind.at 158 rfl) rfl ?_
    refine r_fI (dt_Md_readKind.at 159 rfl) fl_Md_153 rfl (fun x52 => ?_)
    refine r_iconst (dt_Md_readKind.at 160 rfl) 1 (by decide) ?_
    refine r_isub (dt_Md_readKind.at 161 rfl) ?_
    refine r_cvI (c := 9) (rest := [.int (v1 + 7), .ref b51]) (ct_Md_number v0 0 (x52 - 1) _) (dt_Md_readKind.at 162 rfl) mb_Md_number wd_1337 wd_1339 wp_46 rfl (by decide) rfl rfl (Nat.le_of_ble_eq_true rfl) (fun r54 M53 => ?_)
    refine r_tI (dt_Md_readKind.at 163 rfl) (fun M55 => ?_)
    refine r_aload_n (dt_Md_readKind.at 164 rfl) rfl ?_
    refine r_dup (dt_Md_readKind.at 165 rfl) rfl ?_
    refine r_fI (dt_Md_readKind.at 166 rfl) fl_Md_153 rfl (fun x56 => ?_)
    refine r_iconst (dt_Md_readKind.at 167 rfl) 1 (by decide) ?_
    refine r_iadd (dt_Md_readKind.at 168 rfl) ?_
    refine r_sI (dt_Md_readKind.at 169 rfl) fl_Md_153 rfl rfl rfl (fun M57 => ?_)
    exact r_vret (dt_Md_readKind.at 170 rfl) rfl
set_option maxRecDepth 20000 in
set_option maxHeartbeats 2000000 in
theorem rf_Md_readKind_L166 {G : am_G} {l : Launch}   (v0 : Nat) (v1 : Int32) (s0 : Nat) (s1 : Int32) (s2 : Int32) (M : am_M) : Rf G l X_Md_readKind 166 [.ref v0, .int v1] [.int s2, .int s1, .ref s0] M (F_Md_readKind_L166 v0 v1 s0 s1 s2 M) := by
  unfold F_Md_readKind_L166
  refine r_tI (dt_Md_readKind.at 94 rfl) (fun M29 => ?_)
  refine r_aload_n (dt_Md_readKind.at 95 rfl) rfl ?_
  refine r_fR (dt_Md_readKind.at 96 rfl) fl_Md_22 rfl (fun b30 => ?_)
  refine r_iload_n (dt_Md_readKind.at 97 rfl) rfl ?_
  refine r_iconst (dt_Md_readKind.at 98 rfl) 5 (by decide) ?_
  refine r_iadd (dt_Md_readKind.at 99 rfl) ?_
  refine r_aload_n (dt_Md_readKind.at 100 rfl) rfl ?_
  refine r_ldcS (dt_Md_readKind.at 101 rfl) 28 rfl ?_
  refine r_cvI (c := 9) (rest := [.int (v1 + 5), .ref b30]) (ct_Md_takes v0 128 _) (dt_Md_readKind.at 102 rfl) mb_Md_takes wd_1327 wd_1329 wp_44 rfl (by decide) rfl rfl (Nat.le_of_ble_eq_true rfl) (fun r32 M31 => ?_)
  refine r_if_eq (tgt := 187) (dt_Md_readKind.at 103 rfl) (by decide) ?_ ?_
  · refine r_aload_n (dt_Md_readKind.at 106 rfl) rfl ?_
    refine r_ldcS (dt_Md_readKind.at 107 rfl) 29 rfl ?_
    refine r_cvI (c := 9) (rest := [.int (v1 + 5), .ref b30]) (ct_Md_takes v0 129 _) (dt_Md_readKind.at 108 rfl) mb_Md_takes wd_1327 wd_1329 wp_44 rfl (by decide) rfl rfl (Nat.le_of_ble_eq_true rfl) (fun r34 M33 => ?_)
    refine r_if_eq (tgt := 200) (dt_Md_readKind.at 109 rfl) (by decide) ?_ ?_
    · refine r_aload_n (dt_Md_readKind.at 112 rfl) rfl ?_
      refine r_ldcS (dt_Md_readKind.at 113 rfl) 30 rfl ?_
      refine r_cvI (c := 9) (rest := [.int (v1 + 5), .ref b30]) (ct_Md_takes v0 130 _) (dt_Md_readKind.at 114 rfl) mb_Md_takes wd_1327 wd_1329 wp_44 rfl (by decide) rfl rfl (Nat.le_of_ble_eq_true rfl) (fun r36 M35 => ?_)
      refine r_if_eq (tgt := 213) (dt_Md_readKind.at 115 rfl) (by decide) ?_ ?_
      · refine r_iconst (dt_Md_readKind.at 118 rfl) 0 (by decide) ?_
        exact Rf.msk [true, true] (rf_Md_readKind_L214 v0 v1 b30 (v1 + 5) 0 M35)
      · refine r_iconst (dt_Md_readKind.at 116 rfl) 2 (by decide) ?_
        refine r_goto (tgt := 214) (dt_Md_readKind.at 117 rfl) (by decide) ?_
        exact Rf.msk [true, true] (rf_Md_readKind_L214 v0 v1 b30 (v1 + 5) 2 M35)
    · refine r_iconst (dt_Md_readKind.at 110 rfl) 1 (by decide) ?_
      refine r_goto (tgt := 214) (dt_Md_readKind.at 111 rfl) (by decide) ?_
      exact Rf.msk [true, true] (rf_Md_readKind_L214 v0 v1 b30 (v1 + 5) 1 M33)
  · refine r_iconst (dt_Md_readKind.at 104 rfl) 0 (by decide) ?_
    refine r_goto (tgt := 214) (dt_Md_readKind.at 105 rfl) (by decide) ?_
    exact Rf.msk [true, true] (rf_Md_readKind_L214 v0 v1 b30 (v1 + 5) 0 M31)
set_option maxRecDepth 20000 in
set_option maxHeartbeats 2000000 in
theorem rf_Md_readKind_L138 {G : am_G} {l : Launch}   (v0 : Nat) (v1 : Int32) (s0 : Nat) (s1 : Int32) (s2 : Int32) (M : am_M) : Rf G l X_Md_readKind 138 [.ref v0, .int v1] [.int s2, .int s1, .ref s0] M (F_Md_readKind_L138 v0 v1 s0 s1 s2 M) := by
  unfold F_Md_readKind_L138
  refine r_tI (dt_Md_readKind.at 78 rfl) (fun M25 => ?_)
  refine r_aload_n (dt_Md_readKind.at 79 rfl) rfl ?_
  refine r_fR (dt_Md_readKind.at 80 rfl) fl_Md_22 rfl (fun b26 => ?_)
  refine r_iload_n (dt_Md_readKind.at 81 rfl) rfl ?_
  refine r_iconst (dt_Md_readKind.at 82 rfl) 4 (by decide) ?_
  refine r_iadd (dt_Md_readKind.at 83 rfl) ?_
  refine r_aload_n (dt_Md_readKind.at 84 rfl) rfl ?_
  refine r_ldcS (dt_Md_readKind.at 85 rfl) 27 rfl ?_
  refine r_cvI (c := 9) (rest := [.int (v1 + 4), .ref b26]) (ct_Md_takes v0 127 _) (dt_Md_readKind.at 86 rfl) mb_Md_takes wd_1327 wd_1329 wp_44 rfl (by decide) rfl rfl (Nat.le_of_ble_eq_true rfl) (fun r28 M27 => ?_)
  refine r_if_eq (tgt := 165) (dt_Md_readKind.at 87 rfl) (by decide) ?_ ?_
  · refine r_iconst (dt_Md_readKind.at 93 rfl) 1 (by decide) ?_
    exact Rf.msk [true, true] (rf_Md_readKind_L166 v0 v1 b26 (v1 + 4) 1 M27)
  · refine r_aload_n (dt_Md_readKind.at 88 rfl) rfl ?_
    refine r_iconst (dt_Md_readKind.at 89 rfl) 1 (by decide) ?_
    refine r_bipush (dt_Md_readKind.at 90 rfl) 9 (by decide) ?_
    refine r_cvI (c := 9) (rest := [.int (v1 + 4), .ref b26]) (ct_Md_number v0 1 9 _) (dt_Md_readKind.at 91 rfl) mb_Md_number wd_1337 wd_1339 wp_46 rfl (by decide) rfl rfl (Nat.le_of_ble_eq_true rfl) (fun r59 M58 => ?_)
    refine r_goto (tgt := 166) (dt_Md_readKind.at 92 rfl) (by decide) ?_
    exact Rf.msk [true, true] (rf_Md_readKind_L166 v0 v1 b26 (v1 + 4) r59 M58)
set_option maxRecDepth 20000 in
set_option maxHeartbeats 2000000 in
theorem rf_Md_readKind_L113 {G : am_G} {l : Launch}   (v0 : Nat) (v1 : Int32) (s0 : Nat) (s1 : Int32) (s2 : Int32) (M : am_M) : Rf G l X_Md_readKind 113 [.ref v0, .int v1] [.int s2, .int s1, .ref s0] M (F_Md_readKind_L113 v0 v1 s0 s1 s2 M) := by
  unfold F_Md_readKind_L113
  refine r_tI (dt_Md_readKind.at 64 rfl) (fun M21 => ?_)
  refine r_aload_n (dt_Md_readKind.at 65 rfl) rfl ?_
  refine r_fR (dt_Md_readKind.at 66 rfl) fl_Md_22 rfl (fun b22 => ?_)
  refine r_iload_n (dt_Md_readKind.at 67 rfl) rfl ?_
  refine r_iconst (dt_Md_readKind.at 68 rfl) 3 (by decide) ?_
  refine r_iadd (dt_Md_readKind.at 69 rfl) ?_
  refine r_aload_n (dt_Md_readKind.at 70 rfl) rfl ?_
  refine r_ldcS (dt_Md_readKind.at 71 rfl) 26 rfl ?_
  refine r_cvI (c := 9) (rest := [.int (v1 + 3), .ref b22]) (ct_Md_takes v0 126 _) (dt_Md_readKind.at 72 rfl) mb_Md_takes wd_1327 wd_1329 wp_44 rfl (by decide) rfl rfl (Nat.le_of_ble_eq_true rfl) (fun r24 M23 => ?_)
  refine r_if_eq (tgt := 137) (dt_Md_readKind.at 73 rfl) (by decide) ?_ ?_
  · refine r_iconst (dt_Md_readKind.at 77 rfl) 0 (by decide) ?_
    exact Rf.msk [true, true] (rf_Md_readKind_L138 v0 v1 b22 (v1 + 3) 0 M23)
  · refine r_aload_n (dt_Md_readKind.at 74 rfl) rfl ?_
    refine r_cvI (c := 9) (rest := [.int (v1 + 3), .ref b22]) (ct_Md_falls v0 _) (dt_Md_readKind.at 75 rfl) mb_Md_falls wd_1356 wd_1358 wp_49 rfl (by decide) rfl rfl (Nat.le_of_ble_eq_true rfl) (fun r61 M60 => ?_)
    refine r_goto (tgt := 138) (dt_Md_readKind.at 76 rfl) (by decide) ?_
    exact Rf.msk [true, true] (rf_Md_readKind_L138 v0 v1 b22 (v1 + 3) r61 M60)
set_option maxRecDepth 20000 in
set_option maxHeartbeats 2000000 in
theorem rf_Md_readKind_L85 {G : am_G} {l : Launch}   (v0 : Nat) (v1 : Int32) (s0 : Nat) (s1 : Int32) (s2 : Int32) (M : am_M) : Rf G l X_Md_readKind 85 [.ref v0, .int v1] [.int s2, .int s1, .ref s0] M (F_Md_readKind_L85 v0 v1 s0 s1 s2 M) := by
  unfold F_Md_readKind_L85
  refine r_tI (dt_Md_readKind.at 48 rfl) (fun M17 => ?_)
  refine r_aload_n (dt_Md_readKind.at 49 rfl) rfl ?_
  refine r_fR (dt_Md_readKind.at 50 rfl) fl_Md_22 rfl (fun b18 => ?_)
  refine r_iload_n (dt_Md_readKind.at 51 rfl) rfl ?_
  refine r_iconst (dt_Md_readKind.at 52 rfl) 2 (by decide) ?_
  refine r_iadd (dt_Md_readKind.at 53 rfl) ?_
  refine r_aload_n (dt_Md_readKind.at 54 rfl) rfl ?_
  refine r_ldcS (dt_Md_readKind.at 55 rfl) 25 rfl ?_
  refine r_cvI (c := 9) (rest := [.int (v1 + 2), .ref b18]) (ct_Md_takes v0 125 _) (dt_Md_readKind.at 56 rfl) mb_Md_takes wd_1327 wd_1329 wp_44 rfl (by decide) rfl rfl (Nat.le_of_ble_eq_true rfl) (fun r20 M19 => ?_)
  refine r_if_eq (tgt := 112) (dt_Md_readKind.at 57 rfl) (by decide) ?_ ?_
  · refine r_iconst (dt_Md_readKind.at 63 rfl) 0 (by decide) ?_
    exact Rf.msk [true, true] (rf_Md_readKind_L113 v0 v1 b18 (v1 + 2) 0 M19)
  · refine r_aload_n (dt_Md_readKind.at 58 rfl) rfl ?_
    refine r_iconst (dt_Md_readKind.at 59 rfl) 0 (by decide) ?_
    refine r_bipush (dt_Md_readKind.at 60 rfl) 20 (by decide) ?_
    refine r_cvI (c := 9) (rest := [.int (v1 + 2), .ref b18]) (ct_Md_number v0 0 20 _) (dt_Md_readKind.at 61 rfl) mb_Md_number wd_1337 wd_1339 wp_46 rfl (by decide) rfl rfl (Nat.le_of_ble_eq_true rfl) (fun r63 M62 => ?_)
    refine r_goto (tgt := 113) (dt_Md_readKind.at 62 rfl) (by decide) ?_
    exact Rf.msk [true, true] (rf_Md_readKind_L113 v0 v1 b18 (v1 + 2) r63 M62)
set_option maxRecDepth 20000 in
set_option maxHeartbeats 2000000 in
theorem rf_Md_readKind_L17 {G : am_G} {l : Launch}   (v0 : Nat) (M : am_M) : Rf G l X_Md_readKind 17 [.ref v0, .retAddr 0] [] M (F_Md_readKind_L17 v0 M) := by
  unfold F_Md_readKind_L17
  refine r_aload_n (dt_Md_readKind.at 9 rfl) rfl ?_
  refine r_cvI (c := 9) (rest := []) (ct_Md_good v0 _) (dt_Md_readKind.at 10 rfl) mb_Md_good wd_1314 wd_1316 wp_41 rfl (by decide) rfl rfl (Nat.le_of_ble_eq_true rfl) (fun r5 M4 => ?_)
  refine r_if_ne (tgt := 25) (dt_Md_readKind.at 11 rfl) (by decide) ?_ ?_
  · exact r_vret (dt_Md_readKind.at 12 rfl) rfl
  · refine r_aload_n (dt_Md_readKind.at 13 rfl) rfl ?_
    refine r_cvV (c := 9) (rest := []) (ct_Md_advance v0 _) (dt_Md_readKind.at 14 rfl) mb_Md_advance wd_1296 wd_1298 wp_38 rfl (by decide) rfl rfl (Nat.le_of_ble_eq_true rfl) (fun M6 => ?_)
    refine r_bipush (dt_Md_readKind.at 15 rfl) 8 (by decide) ?_
    refine r_aload_n (dt_Md_readKind.at 16 rfl) rfl ?_
    refine r_fI (dt_Md_readKind.at 17 rfl) fl_Md_153 rfl (fun x7 => ?_)
    refine r_imul (dt_Md_readKind.at 18 rfl) ?_
    refine r_nmi (fun x8 => ?_)
    refine r_istore_n (ls' := [.ref v0, .int x8]) (dt_Md_readKind.at 19 rfl) (by decide) rfl ?_
    refine r_aload_n (dt_Md_readKind.at 20 rfl) rfl ?_
    refine r_ldcS (dt_Md_readKind.at 21 rfl) 23 rfl ?_
    refine r_cvV (c := 9) (rest := []) (ct_Md_passes v0 123 _) (dt_Md_readKind.at 22 rfl) mb_Md_passes wd_1323 wd_1325 wp_43 rfl (by decide) rfl rfl (Nat.le_of_ble_eq_true rfl) (fun M9 => ?_)
    refine r_aload_n (dt_Md_readKind.at 23 rfl) rfl ?_
    refine r_fR (dt_Md_readKind.at 24 rfl) fl_Md_22 rfl (fun b10 => ?_)
    refine r_iload_n (dt_Md_readKind.at 25 rfl) rfl ?_
    refine r_iconst (dt_Md_readKind.at 26 rfl) 0 (by decide) ?_
    refine r_iadd (dt_Md_readKind.at 27 rfl) ?_
    refine r_aload_n (dt_Md_readKind.at 28 rfl) rfl ?_
    refine r_iconst (dt_Md_readKind.at 29 rfl) 1 (by decide) ?_
    refine r_bipush (dt_Md_readKind.at 30 rfl) 40 (by decide) ?_
    refine r_cvI (c := 9) (rest := [.int (x8 + 0), .ref b10]) (ct_Md_number v0 1 40 _) (dt_Md_readKind.at 31 rfl) mb_Md_number wd_1337 wd_1339 wp_46 rfl (by decide) rfl rfl (Nat.le_of_ble_eq_true rfl) (fun r12 M11 => ?_)
    refine r_tI (dt_Md_readKind.at 32 rfl) (fun M13 => ?_)
    refine r_aload_n (dt_Md_readKind.at 33 rfl) rfl ?_
    refine r_fR (dt_Md_readKind.at 34 rfl) fl_Md_22 rfl (fun b14 => ?_)
    refine r_iload_n (dt_Md_readKind.at 35 rfl) rfl ?_
    refine r_iconst (dt_Md_readKind.at 36 rfl) 1 (by decide) ?_
    refine r_iadd (dt_Md_readKind.at 37 rfl) ?_
    refine r_aload_n (dt_Md_readKind.at 38 rfl) rfl ?_
    refine r_ldcS (dt_Md_readKind.at 39 rfl) 24 rfl ?_
    refine r_cvI (c := 9) (rest := [.int (x8 + 1), .ref b14]) (ct_Md_takes v0 124 _) (dt_Md_readKind.at 40 rfl) mb_Md_takes wd_1327 wd_1329 wp_44 rfl (by decide) rfl rfl (Nat.le_of_ble_eq_true rfl) (fun r16 M15 => ?_)
    refine r_if_eq (tgt := 84) (dt_Md_readKind.at 41 rfl) (by decide) ?_ ?_
    · refine r_iconst (dt_Md_readKind.at 47 rfl) 0 (by decide) ?_
      exact Rf.msk [true, true] (rf_Md_readKind_L85 v0 x8 b14 (x8 + 1) 0 M15)
    · refine r_aload_n (dt_Md_readKind.at 42 rfl) rfl ?_
      refine r_iconst (dt_Md_readKind.at 43 rfl) 0 (by decide) ?_
      refine r_bipush (dt_Md_readKind.at 44 rfl) 20 (by decide) ?_
      refine r_cvI (c := 9) (rest := [.int (x8 + 1), .ref b14]) (ct_Md_number v0 0 20 _) (dt_Md_readKind.at 45 rfl) mb_Md_number wd_1337 wd_1339 wp_46 rfl (by decide) rfl rfl (Nat.le_of_ble_eq_true rfl) (fun r65 M64 => ?_)
      refine r_goto (tgt := 85) (dt_Md_readKind.at 46 rfl) (by decide) ?_
      exact Rf.msk [true, true] (rf_Md_readKind_L85 v0 x8 b14 (x8 + 1) r65 M64)
set_option maxRecDepth 20000 in
set_option maxHeartbeats 2000000 in
theorem ct_Md_readKind {G : am_G} {l : Launch} (a0 : Nat) (M : am_M) : Ct G l y_Md_readKind X_Md_readKind [.ref a0] M (F_Md_readKind a0 M) := by
  refine Ct.of (by decide +kernel) rfl rfl (Nat.le_of_ble_eq_true rfl) ?_
  unfold F_Md_readKind
  show Rf G l X_Md_readKind 0 [.ref a0, .retAddr 0] [] M _
  refine r_aload_n (dt_Md_readKind.at 0 rfl) rfl ?_
  refine r_fI (dt_Md_readKind.at 1 rfl) fl_Md_153 rfl (fun x1 => ?_)
  refine r_iconst (dt_Md_readKind.at 2 rfl) 5 (by decide) ?_
  refine r_icmp_ne (tgt := 17) (dt_Md_readKind.at 3 rfl) (by decide) ?_ ?_
  · refine r_aload_n (dt_Md_readKind.at 4 rfl) rfl ?_
    refine r_iconst (dt_Md_readKind.at 5 rfl) 3 (by decide) ?_
    refine r_aload_n (dt_Md_readKind.at 6 rfl) rfl ?_
    refine r_fI (dt_Md_readKind.at 7 rfl) fl_Md_102 rfl (fun x2 => ?_)
    refine r_cvV (c := 9) (rest := []) (ct_Md_errs a0 3 x2 _) (dt_Md_readKind.at 8 rfl) mb_Md_errs wd_1310 wd_1312 wp_40 rfl (by decide) rfl rfl (Nat.le_of_ble_eq_true rfl) (fun M3 => ?_)
    exact Rf.msk [true, false] (rf_Md_readKind_L17 a0 M3)
  · exact Rf.msk [true, false] (rf_Md_readKind_L17 a0 M)
set_option maxRecDepth 20000 in
set_option maxHeartbeats 2000000 in
theorem rf_Md_readSource_L200 {G : am_G} {l : Launch}   (v0 : Nat) (v1 : Int32) (s0 : Nat) (s1 : Int32) (s2 : Int32) (M : am_M) : Rf G l X_Md_readSource 200 [.ref v0, .int v1, .retAddr 0] [.int s2, .int s1, .ref s0] M (F_Md_readSource_L200 v0 v1 s0 s1 s2 M) := by
  unfold F_Md_readSource_L200
  refine r_tI (dt_Md_readSource.at 117 rfl) (fun M32 => ?_)
  refine r_aload_n (dt_Md_readSource.at 118 rfl) rfl ?_
  refine r_fR (dt_Md_readSource.at 119 rfl) fl_Md_25 rfl (fun b33 => ?_)
  refine r_iload_n (dt_Md_readSource.at 120 rfl) rfl ?_
  refine r_bipush (dt_Md_readSource.at 121 rfl) 8 (by decide) ?_
  refine r_iadd (dt_Md_readSource.at 122 rfl) ?_
  refine r_aload_n (dt_Md_readSource.at 123 rfl) rfl ?_
  refine r_ldcS (dt_Md_readSource.at 124 rfl) 39 rfl ?_
  refine r_cvI (c := 9) (rest := [.int (v1 + 8), .ref b33]) (ct_Md_takes v0 139 _) (dt_Md_readSource.at 125 rfl) mb_Md_takes wd_1327 wd_1329 wp_44 rfl (by decide) rfl rfl (Nat.le_of_ble_eq_true rfl) (fun r35 M34 => ?_)
  refine r_if_eq (tgt := 228) (dt_Md_readSource.at 126 rfl) (by decide) ?_ ?_
  · refine r_iconst (dt_Md_readSource.at 132 rfl) 0 (by decide) ?_
    refine r_tI (dt_Md_readSource.at 133 rfl) (fun M36 => ?_)
    refine r_aload_n (dt_Md_readSource.at 134 rfl) rfl ?_
    refine r_dup (dt_Md_readSource.at 135 rfl) rfl ?_
    refine r_fI (dt_Md_readSource.at 136 rfl) fl_Md_180 rfl (fun x37 => ?_)
    refine r_iconst (dt_Md_readSource.at 137 rfl) 1 (by decide) ?_
    refine r_iadd (dt_Md_readSource.at 138 rfl) ?_
    refine r_sI (dt_Md_readSource.at 139 rfl) fl_Md_180 rfl rfl rfl (fun M38 => ?_)
    exact r_vret (dt_Md_readSource.at 140 rfl) rfl
  · refine r_aload_n (dt_Md_readSource.at 127 rfl) rfl ?_
    refine r_iconst (dt_Md_readSource.at 128 rfl) 0 (by decide) ?_
    refine r_bipush (dt_Md_readSource.at 129 rfl) 20 (by decide) ?_
    refine r_cvI (c := 9) (rest := [.int (v1 + 8), .ref b33]) (ct_Md_number v0 0 20 _) (dt_Md_readSource.at 130 rfl) mb_Md_number wd_1337 wd_1339 wp_46 rfl (by decide) rfl rfl (Nat.le_of_ble_eq_true rfl) (fun r40 M39 => ?_)
    refine r_goto (tgt := 229) (dt_Md_readSource.at 131 rfl) (by decide) ?_
    refine r_tI (dt_Md_readSource.at 133 rfl) (fun M41 => ?_)
    refine r_aload_n (dt_Md_readSource.at 134 rfl) rfl ?_
    refine r_dup (dt_Md_readSource.at 135 rfl) rfl ?_
    refine r_fI (dt_Md_readSource.at 136 rfl) fl_Md_180 rfl (fun x42 => ?_)
    refine r_iconst (dt_Md_readSource.at 137 rfl) 1 (by decide) ?_
    refine r_iadd (dt_Md_readSource.at 138 rfl) ?_
    refine r_sI (dt_Md_readSource.at 139 rfl) fl_Md_180 rfl rfl rfl (fun M43 => ?_)
    exact r_vret (dt_Md_readSource.at 140 rfl) rfl
set_option maxRecDepth 20000 in
set_option maxHeartbeats 2000000 in
theorem rf_Md_readSource_L168 {G : am_G} {l : Launch}   (v0 : Nat) (v1 : Int32) (s0 : Nat) (s1 : Int32) (s2 : Int32) (M : am_M) : Rf G l X_Md_readSource 168 [.ref v0, .int v1, .retAddr 0] [.int s2, .int s1, .ref s0] M (F_Md_readSource_L168 v0 v1 s0 s1 s2 M) := by
  unfold F_Md_readSource_L168
  refine r_tI (dt_Md_readSource.at 101 rfl) (fun M28 => ?_)
  refine r_aload_n (dt_Md_readSource.at 102 rfl) rfl ?_
  refine r_fR (dt_Md_readSource.at 103 rfl) fl_Md_25 rfl (fun b29 => ?_)
  refine r_iload_n (dt_Md_readSource.at 104 rfl) rfl ?_
  refine r_bipush (dt_Md_readSource.at 105 rfl) 7 (by decide) ?_
  refine r_iadd (dt_Md_readSource.at 106 rfl) ?_
  refine r_aload_n (dt_Md_readSource.at 107 rfl) rfl ?_
  refine r_ldcS (dt_Md_readSource.at 108 rfl) 38 rfl ?_
  refine r_cvI (c := 9) (rest := [.int (v1 + 7), .ref b29]) (ct_Md_takes v0 138 _) (dt_Md_readSource.at 109 rfl) mb_Md_takes wd_1327 wd_1329 wp_44 rfl (by decide) rfl rfl (Nat.le_of_ble_eq_true rfl) (fun r31 M30 => ?_)
  refine r_if_eq (tgt := 197) (dt_Md_readSource.at 110 rfl) (by decide) ?_ ?_
  · refine r_sipush (dt_Md_readSource.at 116 rfl) 9999 (by decide) ?_
    exact Rf.msk [true, true, false] (rf_Md_readSource_L200 v0 v1 b29 (v1 + 7) 9999 M30)
  · refine r_aload_n (dt_Md_readSource.at 111 rfl) rfl ?_
    refine r_iconst (dt_Md_readSource.at 112 rfl) 0 (by decide) ?_
    refine r_sipush (dt_Md_readSource.at 113 rfl) 9999 (by decide) ?_
    refine r_cvI (c := 9) (rest := [.int (v1 + 7), .ref b29]) (ct_Md_number v0 0 9999 _) (dt_Md_readSource.at 114 rfl) mb_Md_number wd_1337 wd_1339 wp_46 rfl (by decide) rfl rfl (Nat.le_of_ble_eq_true rfl) (fun r45 M44 => ?_)
    refine r_goto (tgt := 200) (dt_Md_readSource.at 115 rfl) (by decide) ?_
    exact Rf.msk [true, true, false] (rf_Md_readSource_L200 v0 v1 b29 (v1 + 7) r45 M44)
set_option maxRecDepth 20000 in
set_option maxHeartbeats 2000000 in
theorem rf_Md_readSource_L64 {G : am_G} {l : Launch}   : ∀ (n : Nat) (v0 : Nat) (v1 : Int32) (v2 : Int32) (M : am_M), Rf G l X_Md_readSource 64 [.ref v0, .int v1, .int v2] [] M (F_Md_readSource_L64 n v0 v1 v2 M) := by
  intro n
  induction n with
  | zero => intro v0 v1 v2 M; exact Rf.no
  | succ n ih =>
    intro v0 v1 v2 M
    unfold F_Md_readSource_L64
    refine r_iload_n (dt_Md_readSource.at 38 rfl) rfl ?_
    refine r_iconst (dt_Md_readSource.at 39 rfl) 3 (by decide) ?_
    refine r_icmp_ge (tgt := 98) (dt_Md_readSource.at 40 rfl) (by decide) ?_ ?_
    · refine r_aload_n (dt_Md_readSource.at 60 rfl) rfl ?_
      refine r_ldcS (dt_Md_readSource.at 61 rfl) 35 rfl ?_
      refine r_cvV (c := 9) (rest := []) (ct_Md_passes v0 135 _) (dt_Md_readSource.at 62 rfl) mb_Md_passes wd_1323 wd_1325 wp_43 rfl (by decide) rfl rfl (Nat.le_of_ble_eq_true rfl) (fun M15 => ?_)
      refine r_aload_n (dt_Md_readSource.at 63 rfl) rfl ?_
      refine r_fR (dt_Md_readSource.at 64 rfl) fl_Md_25 rfl (fun b16 => ?_)
      refine r_iload_n (dt_Md_readSource.at 65 rfl) rfl ?_
      refine r_iconst (dt_Md_readSource.at 66 rfl) 4 (by decide) ?_
      refine r_iadd (dt_Md_readSource.at 67 rfl) ?_
      refine r_aload_n (dt_Md_readSource.at 68 rfl) rfl ?_
      refine r_iconst (dt_Md_readSource.at 69 rfl) 0 (by decide) ?_
      refine r_sipush (dt_Md_readSource.at 70 rfl) 9999 (by decide) ?_
      refine r_cvI (c := 9) (rest := [.int (v1 + 4), .ref b16]) (ct_Md_number v0 0 9999 _) (dt_Md_readSource.at 71 rfl) mb_Md_number wd_1337 wd_1339 wp_46 rfl (by decide) rfl rfl (Nat.le_of_ble_eq_true rfl) (fun r18 M17 => ?_)
      refine r_tI (dt_Md_readSource.at 72 rfl) (fun M19 => ?_)
      refine r_aload_n (dt_Md_readSource.at 73 rfl) rfl ?_
      refine r_ldcS (dt_Md_readSource.at 74 rfl) 36 rfl ?_
      refine r_cvV (c := 9) (rest := []) (ct_Md_passes v0 136 _) (dt_Md_readSource.at 75 rfl) mb_Md_passes wd_1323 wd_1325 wp_43 rfl (by decide) rfl rfl (Nat.le_of_ble_eq_true rfl) (fun M20 => ?_)
      refine r_aload_n (dt_Md_readSource.at 76 rfl) rfl ?_
      refine r_fR (dt_Md_readSource.at 77 rfl) fl_Md_25 rfl (fun b21 => ?_)
      refine r_iload_n (dt_Md_readSource.at 78 rfl) rfl ?_
      refine r_iconst (dt_Md_readSource.at 79 rfl) 5 (by decide) ?_
      refine r_iadd (dt_Md_readSource.at 80 rfl) ?_
      refine r_aload_n (dt_Md_readSource.at 81 rfl) rfl ?_
      refine r_iconst (dt_Md_readSource.at 82 rfl) 1 (by decide) ?_
      refine r_bipush (dt_Md_readSource.at 83 rfl) 99 (by decide) ?_
      refine r_cvI (c := 9) (rest := [.int (v1 + 5), .ref b21]) (ct_Md_number v0 1 99 _) (dt_Md_readSource.at 84 rfl) mb_Md_number wd_1337 wd_1339 wp_46 rfl (by decide) rfl rfl (Nat.le_of_ble_eq_true rfl) (fun r23 M22 => ?_)
      refine r_tI (dt_Md_readSource.at 85 rfl) (fun M24 => ?_)
      refine r_aload_n (dt_Md_readSource.at 86 rfl) rfl ?_
      refine r_fR (dt_Md_readSource.at 87 rfl) fl_Md_25 rfl (fun b25 => ?_)
      refine r_iload_n (dt_Md_readSource.at 88 rfl) rfl ?_
      refine r_bipush (dt_Md_readSource.at 89 rfl) 6 (by decide) ?_
      refine r_iadd (dt_Md_readSource.at 90 rfl) ?_
      refine r_aload_n (dt_Md_readSource.at 91 rfl) rfl ?_
      refine r_ldcS (dt_Md_readSource.at 92 rfl) 37 rfl ?_
      refine r_cvI (c := 9) (rest := [.int (v1 + 6), .ref b25]) (ct_Md_takes v0 137 _) (dt_Md_readSource.at 93 rfl) mb_Md_takes wd_1327 wd_1329 wp_44 rfl (by decide) rfl rfl (Nat.le_of_ble_eq_true rfl) (fun r27 M26 => ?_)
      refine r_if_eq (tgt := 167) (dt_Md_readSource.at 94 rfl) (by decide) ?_ ?_
      · refine r_iconst (dt_Md_readSource.at 100 rfl) 1 (by decide) ?_
        exact Rf.msk [true, true, false] (rf_Md_readSource_L168 v0 v1 b25 (v1 + 6) 1 M26)
      · refine r_aload_n (dt_Md_readSource.at 95 rfl) rfl ?_
        refine r_iconst (dt_Md_readSource.at 96 rfl) 1 (by decide) ?_
        refine r_iconst (dt_Md_readSource.at 97 rfl) 5 (by decide) ?_
        refine r_cvI (c := 9) (rest := [.int (v1 + 6), .ref b25]) (ct_Md_number v0 1 5 _) (dt_Md_readSource.at 98 rfl) mb_Md_number wd_1337 wd_1339 wp_46 rfl (by decide) rfl rfl (Nat.le_of_ble_eq_true rfl) (fun r47 M46 => ?_)
        refine r_goto (tgt := 168) (dt_Md_readSource.at 99 rfl) (by decide) ?_
        exact Rf.msk [true, true, false] (rf_Md_readSource_L168 v0 v1 b25 (v1 + 6) r47 M46)
    · refine r_aload_n (dt_Md_readSource.at 41 rfl) rfl ?_
      refine r_fR (dt_Md_readSource.at 42 rfl) fl_Md_25 rfl (fun b48 => ?_)
      refine r_iload_n (dt_Md_readSource.at 43 rfl) rfl ?_
      refine r_iconst (dt_Md_readSource.at 44 rfl) 1 (by decide) ?_
      refine r_iadd (dt_Md_readSource.at 45 rfl) ?_
      refine r_iload_n (dt_Md_readSource.at 46 rfl) rfl ?_
      refine r_iadd (dt_Md_readSource.at 47 rfl) ?_
      refine r_aload_n (dt_Md_readSource.at 48 rfl) rfl ?_
      refine r_iconst (dt_Md_readSource.at 49 rfl) 0 (by decide) ?_
      refine r_aload_n (dt_Md_readSource.at 50 rfl) rfl ?_
      refine r_fR (dt_Md_readSource.at 51 rfl) fl_Md_19 rfl (fun b49 => ?_)
      refine r_iload_n (dt_Md_readSource.at 52 rfl) rfl ?_
      refine r_aI (dt_Md_readSource.at 53 rfl) (fun x50 => ?_)
      refine r_iconst (dt_Md_readSource.at 54 rfl) 1 (by decide) ?_
      refine r_isub (dt_Md_readSource.at 55 rfl) ?_
      refine r_cvI (c := 9) (rest := [.int ((v1 + 1) + v2), .ref b48]) (ct_Md_number v0 0 (x50 - 1) _) (dt_Md_readSource.at 56 rfl) mb_Md_number wd_1337 wd_1339 wp_46 rfl (by decide) rfl rfl (Nat.le_of_ble_eq_true rfl) (fun r52 M51 => ?_)
      refine r_tI (dt_Md_readSource.at 57 rfl) (fun M53 => ?_)
      refine r_iincn (v := 1) (dt_Md_readSource.at 58 rfl) (by decide) rfl (by decide) (fun y => [.ref v0, .int v1, .int y]) (fun _ => rfl) (fun x54 => ?_)
      refine r_goto (tgt := 64) (dt_Md_readSource.at 59 rfl) (by decide) ?_
      exact Rf.msk [true, true, true] (ih v0 v1 x54 M53)
set_option maxRecDepth 20000 in
set_option maxHeartbeats 2000000 in
theorem rf_Md_readSource_L17 {G : am_G} {l : Launch}   (v0 : Nat) (M : am_M) : Rf G l X_Md_readSource 17 [.ref v0, .retAddr 0, .retAddr 0] [] M (F_Md_readSource_L17 v0 M) := by
  unfold F_Md_readSource_L17
  refine r_aload_n (dt_Md_readSource.at 9 rfl) rfl ?_
  refine r_cvI (c := 9) (rest := []) (ct_Md_good v0 _) (dt_Md_readSource.at 10 rfl) mb_Md_good wd_1314 wd_1316 wp_41 rfl (by decide) rfl rfl (Nat.le_of_ble_eq_true rfl) (fun r5 M4 => ?_)
  refine r_if_ne (tgt := 25) (dt_Md_readSource.at 11 rfl) (by decide) ?_ ?_
  · exact r_vret (dt_Md_readSource.at 12 rfl) rfl
  · refine r_aload_n (dt_Md_readSource.at 13 rfl) rfl ?_
    refine r_cvV (c := 9) (rest := []) (ct_Md_advance v0 _) (dt_Md_readSource.at 14 rfl) mb_Md_advance wd_1296 wd_1298 wp_38 rfl (by decide) rfl rfl (Nat.le_of_ble_eq_true rfl) (fun M6 => ?_)
    refine r_bipush (dt_Md_readSource.at 15 rfl) 9 (by decide) ?_
    refine r_aload_n (dt_Md_readSource.at 16 rfl) rfl ?_
    refine r_fI (dt_Md_readSource.at 17 rfl) fl_Md_180 rfl (fun x7 => ?_)
    refine r_imul (dt_Md_readSource.at 18 rfl) ?_
    refine r_nmi (fun x8 => ?_)
    refine r_istore_n (ls' := [.ref v0, .int x8, .retAddr 0]) (dt_Md_readSource.at 19 rfl) (by decide) rfl ?_
    refine r_aload_n (dt_Md_readSource.at 20 rfl) rfl ?_
    refine r_fR (dt_Md_readSource.at 21 rfl) fl_Md_25 rfl (fun b9 => ?_)
    refine r_iload_n (dt_Md_readSource.at 22 rfl) rfl ?_
    refine r_iconst (dt_Md_readSource.at 23 rfl) 0 (by decide) ?_
    refine r_iadd (dt_Md_readSource.at 24 rfl) ?_
    refine r_aload_n (dt_Md_readSource.at 25 rfl) rfl ?_
    refine r_iconst (dt_Md_readSource.at 26 rfl) 0 (by decide) ?_
    refine r_aload_n (dt_Md_readSource.at 27 rfl) rfl ?_
    refine r_fI (dt_Md_readSource.at 28 rfl) fl_Md_153 rfl (fun x10 => ?_)
    refine r_iconst (dt_Md_readSource.at 29 rfl) 1 (by decide) ?_
    refine r_isub (dt_Md_readSource.at 30 rfl) ?_
    refine r_cvI (c := 9) (rest := [.int (x8 + 0), .ref b9]) (ct_Md_number v0 0 (x10 - 1) _) (dt_Md_readSource.at 31 rfl) mb_Md_number wd_1337 wd_1339 wp_46 rfl (by decide) rfl rfl (Nat.le_of_ble_eq_true rfl) (fun r12 M11 => ?_)
    refine r_tI (dt_Md_readSource.at 32 rfl) (fun M13 => ?_)
    refine r_aload_n (dt_Md_readSource.at 33 rfl) rfl ?_
    refine r_ldcS (dt_Md_readSource.at 34 rfl) 34 rfl ?_
    refine r_cvV (c := 9) (rest := []) (ct_Md_passes v0 134 _) (dt_Md_readSource.at 35 rfl) mb_Md_passes wd_1323 wd_1325 wp_43 rfl (by decide) rfl rfl (Nat.le_of_ble_eq_true rfl) (fun M14 => ?_)
    refine r_iconst (dt_Md_readSource.at 36 rfl) 0 (by decide) ?_
    refine r_istore_n (ls' := [.ref v0, .int x8, .int 0]) (dt_Md_readSource.at 37 rfl) (by decide) rfl ?_
    exact Rf.msk [true, true, true] (rf_Md_readSource_L64 fu v0 x8 0 M14)
set_option maxRecDepth 20000 in
set_option maxHeartbeats 2000000 in
theorem ct_Md_readSource {G : am_G} {l : Launch} (a0 : Nat) (M : am_M) : Ct G l y_Md_readSource X_Md_readSource [.ref a0] M (F_Md_readSource a0 M) := by
  refine Ct.of (by decide +kernel) rfl rfl (Nat.le_of_ble_eq_true rfl) ?_
  unfold F_Md_readSource
  show Rf G l X_Md_readSource 0 [.ref a0, .retAddr 0, .retAddr 0] [] M _
  refine r_aload_n (dt_Md_readSource.at 0 rfl) rfl ?_
  refine r_fI (dt_Md_readSource.at 1 rfl) fl_Md_180 rfl (fun x1 => ?_)
  refine r_iconst (dt_Md_readSource.at 2 rfl) 4 (by decide) ?_
  refine r_icmp_ne (tgt := 17) (dt_Md_readSource.at 3 rfl) (by decide) ?_ ?_
  · refine r_aload_n (dt_Md_readSource.at 4 rfl) rfl ?_
    refine r_iconst (dt_Md_readSource.at 5 rfl) 3 (by decide) ?_
    refine r_aload_n (dt_Md_readSource.at 6 rfl) rfl ?_
    refine r_fI (dt_Md_readSource.at 7 rfl) fl_Md_102 rfl (fun x2 => ?_)
    refine r_cvV (c := 9) (rest := []) (ct_Md_errs a0 3 x2 _) (dt_Md_readSource.at 8 rfl) mb_Md_errs wd_1310 wd_1312 wp_40 rfl (by decide) rfl rfl (Nat.le_of_ble_eq_true rfl) (fun M3 => ?_)
    exact Rf.msk [true, false, false] (rf_Md_readSource_L17 a0 M3)
  · exact Rf.msk [true, false, false] (rf_Md_readSource_L17 a0 M)
set_option maxRecDepth 20000 in
set_option maxHeartbeats 2000000 in
theorem rf_Md_readLine_L120 {G : am_G} {l : Launch}   (v0 : Nat) (M : am_M) : Rf G l X_Md_readLine 120 [.ref v0, .retAddr 0, .retAddr 0] [] M (F_Md_readLine_L120 v0 M) := by
  unfold F_Md_readLine_L120
  refine r_aload_n (dt_Md_readLine.at 58 rfl) rfl ?_
  refine r_iconst (dt_Md_readLine.at 59 rfl) 1 (by decide) ?_
  refine r_aload_n (dt_Md_readLine.at 60 rfl) rfl ?_
  refine r_fI (dt_Md_readLine.at 61 rfl) fl_Md_102 rfl (fun x12 => ?_)
  refine r_cvV (c := 9) (rest := []) (ct_Md_errs v0 1 x12 _) (dt_Md_readLine.at 62 rfl) mb_Md_errs wd_1310 wd_1312 wp_40 rfl (by decide) rfl rfl (Nat.le_of_ble_eq_true rfl) (fun M13 => ?_)
  refine r_aload_n (dt_Md_readLine.at 63 rfl) rfl ?_
  refine r_cvI (c := 9) (rest := []) (ct_Md_good v0 _) (dt_Md_readLine.at 64 rfl) mb_Md_good wd_1314 wd_1316 wp_41 rfl (by decide) rfl rfl (Nat.le_of_ble_eq_true rfl) (fun r15 M14 => ?_)
  refine r_if_eq (tgt := 140) (dt_Md_readLine.at 65 rfl) (by decide) ?_ ?_
  · exact r_vret (dt_Md_readLine.at 68 rfl) rfl
  · refine r_aload_n (dt_Md_readLine.at 66 rfl) rfl ?_
    refine r_cvV (c := 9) (rest := []) (ct_Md_advance v0 _) (dt_Md_readLine.at 67 rfl) mb_Md_advance wd_1296 wd_1298 wp_38 rfl (by decide) rfl rfl (Nat.le_of_ble_eq_true rfl) (fun M16 => ?_)
    exact r_vret (dt_Md_readLine.at 68 rfl) rfl
set_option maxRecDepth 20000 in
set_option maxHeartbeats 2000000 in
theorem rf_Md_readLine_L96 {G : am_G} {l : Launch}   (v0 : Nat) (M : am_M) : Rf G l X_Md_readLine 96 [.ref v0, .retAddr 0, .retAddr 0] [] M (F_Md_readLine_L96 v0 M) := by
  unfold F_Md_readLine_L96
  refine r_aload_n (dt_Md_readLine.at 47 rfl) rfl ?_
  refine r_cvI (c := 9) (rest := []) (ct_Md_good v0 _) (dt_Md_readLine.at 48 rfl) mb_Md_good wd_1314 wd_1316 wp_41 rfl (by decide) rfl rfl (Nat.le_of_ble_eq_true rfl) (fun r3 M2 => ?_)
  refine r_if_eq (tgt := 129) (dt_Md_readLine.at 49 rfl) (by decide) ?_ ?_
  · refine r_aload_n (dt_Md_readLine.at 63 rfl) rfl ?_
    refine r_cvI (c := 9) (rest := []) (ct_Md_good v0 _) (dt_Md_readLine.at 64 rfl) mb_Md_good wd_1314 wd_1316 wp_41 rfl (by decide) rfl rfl (Nat.le_of_ble_eq_true rfl) (fun r5 M4 => ?_)
    refine r_if_eq (tgt := 140) (dt_Md_readLine.at 65 rfl) (by decide) ?_ ?_
    · exact r_vret (dt_Md_readLine.at 68 rfl) rfl
    · refine r_aload_n (dt_Md_readLine.at 66 rfl) rfl ?_
      refine r_cvV (c := 9) (rest := []) (ct_Md_advance v0 _) (dt_Md_readLine.at 67 rfl) mb_Md_advance wd_1296 wd_1298 wp_38 rfl (by decide) rfl rfl (Nat.le_of_ble_eq_true rfl) (fun M6 => ?_)
      exact r_vret (dt_Md_readLine.at 68 rfl) rfl
  · refine r_aload_n (dt_Md_readLine.at 50 rfl) rfl ?_
    refine r_fI (dt_Md_readLine.at 51 rfl) fl_Md_105 rfl (fun x7 => ?_)
    refine r_iconst (dt_Md_readLine.at 52 rfl) 3 (by decide) ?_
    refine r_icmp_ne (tgt := 120) (dt_Md_readLine.at 53 rfl) (by decide) ?_ ?_
    · refine r_aload_n (dt_Md_readLine.at 54 rfl) rfl ?_
      refine r_fI (dt_Md_readLine.at 55 rfl) fl_Md_116 rfl (fun x8 => ?_)
      refine r_bipush (dt_Md_readLine.at 56 rfl) 59 (by decide) ?_
      refine r_icmp_eq (tgt := 129) (dt_Md_readLine.at 57 rfl) (by decide) ?_ ?_
      · refine r_aload_n (dt_Md_readLine.at 63 rfl) rfl ?_
        refine r_cvI (c := 9) (rest := []) (ct_Md_good v0 _) (dt_Md_readLine.at 64 rfl) mb_Md_good wd_1314 wd_1316 wp_41 rfl (by decide) rfl rfl (Nat.le_of_ble_eq_true rfl) (fun r10 M9 => ?_)
        refine r_if_eq (tgt := 140) (dt_Md_readLine.at 65 rfl) (by decide) ?_ ?_
        · exact r_vret (dt_Md_readLine.at 68 rfl) rfl
        · refine r_aload_n (dt_Md_readLine.at 66 rfl) rfl ?_
          refine r_cvV (c := 9) (rest := []) (ct_Md_advance v0 _) (dt_Md_readLine.at 67 rfl) mb_Md_advance wd_1296 wd_1298 wp_38 rfl (by decide) rfl rfl (Nat.le_of_ble_eq_true rfl) (fun M11 => ?_)
          exact r_vret (dt_Md_readLine.at 68 rfl) rfl
      · exact Rf.msk [true, false, false] (rf_Md_readLine_L120 v0 M2)
    · exact Rf.msk [true, false, false] (rf_Md_readLine_L120 v0 M2)
set_option maxRecDepth 20000 in
set_option maxHeartbeats 2000000 in
theorem rf_Md_readLine_L12 {G : am_G} {l : Launch}   : ∀ (n : Nat) (v0 : Nat) (v2 : Int32) (M : am_M), Rf G l X_Md_readLine 12 [.ref v0, .retAddr 0, .int v2] [] M (F_Md_readLine_L12 n v0 v2 M) := by
  intro n
  induction n with
  | zero => intro v0 v2 M; exact Rf.no
  | succ n ih =>
    intro v0 v2 M
    unfold F_Md_readLine_L12
    refine r_iload_n (dt_Md_readLine.at 7 rfl) rfl ?_
    refine r_iconst (dt_Md_readLine.at 8 rfl) 3 (by decide) ?_
    refine r_icmp_ge (tgt := 36) (dt_Md_readLine.at 9 rfl) (by decide) ?_ ?_
    · refine r_goto (tgt := 96) (dt_Md_readLine.at 20 rfl) (by decide) ?_
      exact Rf.msk [true, false, false] (rf_Md_readLine_L96 v0 M)
    · refine r_aload_n (dt_Md_readLine.at 10 rfl) rfl ?_
      refine r_fR (dt_Md_readLine.at 11 rfl) fl_Md_19 rfl (fun b17 => ?_)
      refine r_iload_n (dt_Md_readLine.at 12 rfl) rfl ?_
      refine r_aload_n (dt_Md_readLine.at 13 rfl) rfl ?_
      refine r_iconst (dt_Md_readLine.at 14 rfl) 1 (by decide) ?_
      refine r_bipush (dt_Md_readLine.at 15 rfl) 40 (by decide) ?_
      refine r_cvI (c := 9) (rest := [.int v2, .ref b17]) (ct_Md_number v0 1 40 _) (dt_Md_readLine.at 16 rfl) mb_Md_number wd_1337 wd_1339 wp_46 rfl (by decide) rfl rfl (Nat.le_of_ble_eq_true rfl) (fun r19 M18 => ?_)
      refine r_tI (dt_Md_readLine.at 17 rfl) (fun M20 => ?_)
      refine r_iincn (v := 1) (dt_Md_readLine.at 18 rfl) (by decide) rfl (by decide) (fun y => [.ref v0, .retAddr 0, .int y]) (fun _ => rfl) (fun x21 => ?_)
      refine r_goto (tgt := 12) (dt_Md_readLine.at 19 rfl) (by decide) ?_
      exact Rf.msk [true, false, true] (ih v0 x21 M20)
set_option maxRecDepth 20000 in
set_option maxHeartbeats 2000000 in
theorem ct_Md_readLine {G : am_G} {l : Launch} (a0 : Nat) (p1 : Int32) (M : am_M) : Ct G l y_Md_readLine X_Md_readLine [.ref a0, .int p1] M (F_Md_readLine a0 p1 M) := by
  refine Ct.of (by decide +kernel) rfl rfl (Nat.le_of_ble_eq_true rfl) ?_
  unfold F_Md_readLine
  show Rf G l X_Md_readLine 0 [.ref a0, .int p1, .retAddr 0] [] M _
  refine r_iload_n (dt_Md_readLine.at 0 rfl) rfl ?_
  refine r_if_ne (tgt := 39) (dt_Md_readLine.at 1 rfl) (by decide) ?_ ?_
  · refine r_aload_n (dt_Md_readLine.at 2 rfl) rfl ?_
    refine r_ldcS (dt_Md_readLine.at 3 rfl) 20 rfl ?_
    refine r_cvV (c := 9) (rest := []) (ct_Md_passes a0 120 _) (dt_Md_readLine.at 4 rfl) mb_Md_passes wd_1323 wd_1325 wp_43 rfl (by decide) rfl rfl (Nat.le_of_ble_eq_true rfl) (fun M1 => ?_)
    refine r_iconst (dt_Md_readLine.at 5 rfl) 0 (by decide) ?_
    refine r_istore_n (ls' := [.ref a0, .int p1, .int 0]) (dt_Md_readLine.at 6 rfl) (by decide) rfl ?_
    exact Rf.msk [true, false, true] (rf_Md_readLine_L12 fu a0 0 M1)
  · refine r_aload_n (dt_Md_readLine.at 21 rfl) rfl ?_
    refine r_ldcS (dt_Md_readLine.at 22 rfl) 21 rfl ?_
    refine r_cvI (c := 9) (rest := []) (ct_Md_isWord a0 121 _) (dt_Md_readLine.at 23 rfl) mb_Md_isWord wd_1331 wd_1333 wp_45 rfl (by decide) rfl rfl (Nat.le_of_ble_eq_true rfl) (fun r23 M22 => ?_)
    refine r_if_eq (tgt := 55) (dt_Md_readLine.at 24 rfl) (by decide) ?_ ?_
    · refine r_aload_n (dt_Md_readLine.at 28 rfl) rfl ?_
      refine r_ldcS (dt_Md_readLine.at 29 rfl) 22 rfl ?_
      refine r_cvI (c := 9) (rest := []) (ct_Md_isWord a0 122 _) (dt_Md_readLine.at 30 rfl) mb_Md_isWord wd_1331 wd_1333 wp_45 rfl (by decide) rfl rfl (Nat.le_of_ble_eq_true rfl) (fun r25 M24 => ?_)
      refine r_if_eq (tgt := 71) (dt_Md_readLine.at 31 rfl) (by decide) ?_ ?_
      · refine r_aload_n (dt_Md_readLine.at 35 rfl) rfl ?_
        refine r_ldcS (dt_Md_readLine.at 36 rfl) 33 rfl ?_
        refine r_cvI (c := 9) (rest := []) (ct_Md_isWord a0 133 _) (dt_Md_readLine.at 37 rfl) mb_Md_isWord wd_1331 wd_1333 wp_45 rfl (by decide) rfl rfl (Nat.le_of_ble_eq_true rfl) (fun r27 M26 => ?_)
        refine r_if_eq (tgt := 87) (dt_Md_readLine.at 38 rfl) (by decide) ?_ ?_
        · refine r_aload_n (dt_Md_readLine.at 42 rfl) rfl ?_
          refine r_iconst (dt_Md_readLine.at 43 rfl) 1 (by decide) ?_
          refine r_aload_n (dt_Md_readLine.at 44 rfl) rfl ?_
          refine r_fI (dt_Md_readLine.at 45 rfl) fl_Md_102 rfl (fun x28 => ?_)
          refine r_cvV (c := 9) (rest := []) (ct_Md_errs a0 1 x28 _) (dt_Md_readLine.at 46 rfl) mb_Md_errs wd_1310 wd_1312 wp_40 rfl (by decide) rfl rfl (Nat.le_of_ble_eq_true rfl) (fun M29 => ?_)
          exact Rf.msk [true, false, false] (rf_Md_readLine_L96 a0 M29)
        · refine r_aload_n (dt_Md_readLine.at 39 rfl) rfl ?_
          refine r_cvV (c := 9) (rest := []) (ct_Md_readSource a0 _) (dt_Md_readLine.at 40 rfl) mb_Md_readSource wd_1367 wd_1369 wp_50 rfl (by decide) rfl rfl (Nat.le_of_ble_eq_true rfl) (fun M30 => ?_)
          refine r_goto (tgt := 96) (dt_Md_readLine.at 41 rfl) (by decide) ?_
          exact Rf.msk [true, false, false] (rf_Md_readLine_L96 a0 M30)
      · refine r_aload_n (dt_Md_readLine.at 32 rfl) rfl ?_
        refine r_cvV (c := 9) (rest := []) (ct_Md_readKind a0 _) (dt_Md_readLine.at 33 rfl) mb_Md_readKind wd_1348 wd_1350 wp_48 rfl (by decide) rfl rfl (Nat.le_of_ble_eq_true rfl) (fun M31 => ?_)
        refine r_goto (tgt := 96) (dt_Md_readLine.at 34 rfl) (by decide) ?_
        exact Rf.msk [true, false, false] (rf_Md_readLine_L96 a0 M31)
    · refine r_aload_n (dt_Md_readLine.at 25 rfl) rfl ?_
      refine r_cvV (c := 9) (rest := []) (ct_Md_readSeed a0 _) (dt_Md_readLine.at 26 rfl) mb_Md_readSeed wd_1342 wd_1344 wp_47 rfl (by decide) rfl rfl (Nat.le_of_ble_eq_true rfl) (fun M32 => ?_)
      refine r_goto (tgt := 96) (dt_Md_readLine.at 27 rfl) (by decide) ?_
      exact Rf.msk [true, false, false] (rf_Md_readLine_L96 a0 M32)
set_option maxRecDepth 20000 in
set_option maxHeartbeats 2000000 in
theorem rf_Md_scene_L192 {G : am_G} {l : Launch}   : ∀ (n : Nat) (v0 : Nat) (v1 : Int32) (v2 : Int32) (M : am_M), Rf G l X_Md_scene 192 [.ref v0, .int v1, .int v2] [] M (F_Md_scene_L192 n v0 v1 v2 M) := by
  intro n
  induction n with
  | zero => intro v0 v1 v2 M; exact Rf.no
  | succ n ih =>
    intro v0 v1 v2 M
    unfold F_Md_scene_L192
    refine r_iload_n (dt_Md_scene.at 106 rfl) rfl ?_
    refine r_bipush (dt_Md_scene.at 107 rfl) 9 (by decide) ?_
    refine r_aload_n (dt_Md_scene.at 108 rfl) rfl ?_
    refine r_fI (dt_Md_scene.at 109 rfl) fl_Md_227 rfl (fun x27 => ?_)
    refine r_imul (dt_Md_scene.at 110 rfl) ?_
    refine r_icmp_ge (tgt := 221) (dt_Md_scene.at 111 rfl) (by decide) ?_ ?_
    · refine r_aload_n (dt_Md_scene.at 122 rfl) rfl ?_
      refine r_iconst (dt_Md_scene.at 123 rfl) 0 (by decide) ?_
      refine r_sI (dt_Md_scene.at 124 rfl) fl_Md_230 rfl rfl rfl (fun M28 => ?_)
      refine r_iload_n (dt_Md_scene.at 125 rfl) rfl ?_
      exact r_iret (dt_Md_scene.at 126 rfl) rfl
    · refine r_aload_n (dt_Md_scene.at 112 rfl) rfl ?_
      refine r_fR (dt_Md_scene.at 113 rfl) fl_Md_16 rfl (fun b29 => ?_)
      refine r_iload_n (dt_Md_scene.at 114 rfl) rfl ?_
      refine r_aload_n (dt_Md_scene.at 115 rfl) rfl ?_
      refine r_fR (dt_Md_scene.at 116 rfl) fl_Md_25 rfl (fun b30 => ?_)
      refine r_iload_n (dt_Md_scene.at 117 rfl) rfl ?_
      refine r_aI (dt_Md_scene.at 118 rfl) (fun x31 => ?_)
      refine r_tI (dt_Md_scene.at 119 rfl) (fun M32 => ?_)
      refine r_iincn (v := 1) (dt_Md_scene.at 120 rfl) (by decide) rfl (by decide) (fun y => [.ref v0, .int v1, .int y]) (fun _ => rfl) (fun x33 => ?_)
      refine r_goto (tgt := 192) (dt_Md_scene.at 121 rfl) (by decide) ?_
      exact Rf.msk [true, true, true] (ih v0 v1 x33 M32)
set_option maxRecDepth 20000 in
set_option maxHeartbeats 2000000 in
theorem rf_Md_scene_L161 {G : am_G} {l : Launch}   : ∀ (n : Nat) (v0 : Nat) (v1 : Int32) (v2 : Int32) (M : am_M), Rf G l X_Md_scene 161 [.ref v0, .int v1, .int v2] [] M (F_Md_scene_L161 n v0 v1 v2 M) := by
  intro n
  induction n with
  | zero => intro v0 v1 v2 M; exact Rf.no
  | succ n ih =>
    intro v0 v1 v2 M
    unfold F_Md_scene_L161
    refine r_iload_n (dt_Md_scene.at 88 rfl) rfl ?_
    refine r_bipush (dt_Md_scene.at 89 rfl) 8 (by decide) ?_
    refine r_aload_n (dt_Md_scene.at 90 rfl) rfl ?_
    refine r_fI (dt_Md_scene.at 91 rfl) fl_Md_224 rfl (fun x26 => ?_)
    refine r_imul (dt_Md_scene.at 92 rfl) ?_
    refine r_icmp_ge (tgt := 190) (dt_Md_scene.at 93 rfl) (by decide) ?_ ?_
    · refine r_iconst (dt_Md_scene.at 104 rfl) 0 (by decide) ?_
      refine r_istore_n (ls' := [.ref v0, .int v1, .int 0]) (dt_Md_scene.at 105 rfl) (by decide) rfl ?_
      exact Rf.msk [true, true, true] (rf_Md_scene_L192 fu v0 v1 0 M)
    · refine r_aload_n (dt_Md_scene.at 94 rfl) rfl ?_
      refine r_fR (dt_Md_scene.at 95 rfl) fl_Md_13 rfl (fun b34 => ?_)
      refine r_iload_n (dt_Md_scene.at 96 rfl) rfl ?_
      refine r_aload_n (dt_Md_scene.at 97 rfl) rfl ?_
      refine r_fR (dt_Md_scene.at 98 rfl) fl_Md_22 rfl (fun b35 => ?_)
      refine r_iload_n (dt_Md_scene.at 99 rfl) rfl ?_
      refine r_aI (dt_Md_scene.at 100 rfl) (fun x36 => ?_)
      refine r_tI (dt_Md_scene.at 101 rfl) (fun M37 => ?_)
      refine r_iincn (v := 1) (dt_Md_scene.at 102 rfl) (by decide) rfl (by decide) (fun y => [.ref v0, .int v1, .int y]) (fun _ => rfl) (fun x38 => ?_)
      refine r_goto (tgt := 161) (dt_Md_scene.at 103 rfl) (by decide) ?_
      exact Rf.msk [true, true, true] (ih v0 v1 x38 M37)
set_option maxRecDepth 20000 in
set_option maxHeartbeats 2000000 in
theorem rf_Md_scene_L112 {G : am_G} {l : Launch}   : ∀ (n : Nat) (v0 : Nat) (v1 : Int32) (v2 : Int32) (M : am_M), Rf G l X_Md_scene 112 [.ref v0, .int v1, .int v2] [] M (F_Md_scene_L112 n v0 v1 v2 M) := by
  intro n
  induction n with
  | zero => intro v0 v1 v2 M; exact Rf.no
  | succ n ih =>
    intro v0 v1 v2 M
    unfold F_Md_scene_L112
    refine r_iload_n (dt_Md_scene.at 61 rfl) rfl ?_
    refine r_iconst (dt_Md_scene.at 62 rfl) 3 (by decide) ?_
    refine r_icmp_ge (tgt := 135) (dt_Md_scene.at 63 rfl) (by decide) ?_ ?_
    · refine r_aload_n (dt_Md_scene.at 74 rfl) rfl ?_
      refine r_aload_n (dt_Md_scene.at 75 rfl) rfl ?_
      refine r_fI (dt_Md_scene.at 76 rfl) fl_Md_198 rfl (fun x20 => ?_)
      refine r_sI (dt_Md_scene.at 77 rfl) fl_Md_222 rfl rfl rfl (fun M21 => ?_)
      refine r_aload_n (dt_Md_scene.at 78 rfl) rfl ?_
      refine r_aload_n (dt_Md_scene.at 79 rfl) rfl ?_
      refine r_fI (dt_Md_scene.at 80 rfl) fl_Md_153 rfl (fun x22 => ?_)
      refine r_sI (dt_Md_scene.at 81 rfl) fl_Md_224 rfl rfl rfl (fun M23 => ?_)
      refine r_aload_n (dt_Md_scene.at 82 rfl) rfl ?_
      refine r_aload_n (dt_Md_scene.at 83 rfl) rfl ?_
      refine r_fI (dt_Md_scene.at 84 rfl) fl_Md_180 rfl (fun x24 => ?_)
      refine r_sI (dt_Md_scene.at 85 rfl) fl_Md_227 rfl rfl rfl (fun M25 => ?_)
      refine r_iconst (dt_Md_scene.at 86 rfl) 0 (by decide) ?_
      refine r_istore_n (ls' := [.ref v0, .int v1, .int 0]) (dt_Md_scene.at 87 rfl) (by decide) rfl ?_
      exact Rf.msk [true, true, true] (rf_Md_scene_L161 fu v0 v1 0 M25)
    · refine r_aload_n (dt_Md_scene.at 64 rfl) rfl ?_
      refine r_fR (dt_Md_scene.at 65 rfl) fl_Md_7 rfl (fun b39 => ?_)
      refine r_iload_n (dt_Md_scene.at 66 rfl) rfl ?_
      refine r_aload_n (dt_Md_scene.at 67 rfl) rfl ?_
      refine r_fR (dt_Md_scene.at 68 rfl) fl_Md_19 rfl (fun b40 => ?_)
      refine r_iload_n (dt_Md_scene.at 69 rfl) rfl ?_
      refine r_aI (dt_Md_scene.at 70 rfl) (fun x41 => ?_)
      refine r_tI (dt_Md_scene.at 71 rfl) (fun M42 => ?_)
      refine r_iincn (v := 1) (dt_Md_scene.at 72 rfl) (by decide) rfl (by decide) (fun y => [.ref v0, .int v1, .int y]) (fun _ => rfl) (fun x43 => ?_)
      refine r_goto (tgt := 112) (dt_Md_scene.at 73 rfl) (by decide) ?_
      exact Rf.msk [true, true, true] (ih v0 v1 x43 M42)
set_option maxRecDepth 20000 in
set_option maxHeartbeats 2000000 in
theorem rf_Md_scene_L95 {G : am_G} {l : Launch}   (v0 : Nat) (v1 : Int32) (M : am_M) : Rf G l X_Md_scene 95 [.ref v0, .int v1, .retAddr 0] [] M (F_Md_scene_L95 v0 v1 M) := by
  unfold F_Md_scene_L95
  refine r_aload_n (dt_Md_scene.at 51 rfl) rfl ?_
  refine r_cvI (c := 9) (rest := []) (ct_Md_good v0 _) (dt_Md_scene.at 52 rfl) mb_Md_good wd_1314 wd_1316 wp_41 rfl (by decide) rfl rfl (Nat.le_of_ble_eq_true rfl) (fun r18 M17 => ?_)
  refine r_if_ne (tgt := 105) (dt_Md_scene.at 53 rfl) (by decide) ?_ ?_
  · refine r_bipush (dt_Md_scene.at 54 rfl) (-4) (by decide) ?_
    exact r_iret (dt_Md_scene.at 55 rfl) rfl
  · refine r_aload_n (dt_Md_scene.at 56 rfl) rfl ?_
    refine r_iconst (dt_Md_scene.at 57 rfl) 1 (by decide) ?_
    refine r_sI (dt_Md_scene.at 58 rfl) fl_Md_219 rfl rfl rfl (fun M19 => ?_)
    refine r_iconst (dt_Md_scene.at 59 rfl) 0 (by decide) ?_
    refine r_istore_n (ls' := [.ref v0, .int v1, .int 0]) (dt_Md_scene.at 60 rfl) (by decide) rfl ?_
    exact Rf.msk [true, true, true] (rf_Md_scene_L112 fu v0 v1 0 M19)
set_option maxRecDepth 20000 in
set_option maxHeartbeats 2000000 in
theorem rf_Md_scene_L70 {G : am_G} {l : Launch}   : ∀ (n : Nat) (v0 : Nat) (v1 : Int32) (M : am_M), Rf G l X_Md_scene 70 [.ref v0, .int v1, .retAddr 0] [] M (F_Md_scene_L70 n v0 v1 M) := by
  intro n
  induction n with
  | zero => intro v0 v1 M; exact Rf.no
  | succ n ih =>
    intro v0 v1 M
    unfold F_Md_scene_L70
    refine r_aload_n (dt_Md_scene.at 40 rfl) rfl ?_
    refine r_cvI (c := 9) (rest := []) (ct_Md_good v0 _) (dt_Md_scene.at 41 rfl) mb_Md_good wd_1314 wd_1316 wp_41 rfl (by decide) rfl rfl (Nat.le_of_ble_eq_true rfl) (fun r16 M15 => ?_)
    refine r_if_eq (tgt := 95) (dt_Md_scene.at 42 rfl) (by decide) ?_ ?_
    · exact Rf.msk [true, true, false] (rf_Md_scene_L95 v0 v1 M15)
    · refine r_aload_n (dt_Md_scene.at 43 rfl) rfl ?_
      refine r_fI (dt_Md_scene.at 44 rfl) fl_Md_105 rfl (fun x44 => ?_)
      refine r_if_eq (tgt := 95) (dt_Md_scene.at 45 rfl) (by decide) ?_ ?_
      · exact Rf.msk [true, true, false] (rf_Md_scene_L95 v0 v1 M15)
      · refine r_aload_n (dt_Md_scene.at 46 rfl) rfl ?_
        refine r_iload_n (dt_Md_scene.at 47 rfl) rfl ?_
        refine r_cvV (c := 9) (rest := []) (ct_Md_readLine v0 v1 _) (dt_Md_scene.at 48 rfl) mb_Md_readLine wd_1318 wd_1320 wp_42 rfl (by decide) rfl rfl (Nat.le_of_ble_eq_true rfl) (fun M45 => ?_)
        refine r_iincn (v := 1) (dt_Md_scene.at 49 rfl) (by decide) rfl (by decide) (fun y => [.ref v0, .int y, .retAddr 0]) (fun _ => rfl) (fun x46 => ?_)
        refine r_goto (tgt := 70) (dt_Md_scene.at 50 rfl) (by decide) ?_
        exact Rf.msk [true, true, false] (ih v0 x46 M45)
set_option maxRecDepth 20000 in
set_option maxHeartbeats 2000000 in
theorem ct_Md_scene {G : am_G} {l : Launch} (a0 : Nat) (M : am_M) : Ct G l y_Md_scene X_Md_scene [.ref a0] M (F_Md_scene a0 M) := by
  refine Ct.of (by decide +kernel) rfl rfl (Nat.le_of_ble_eq_true rfl) ?_
  unfold F_Md_scene
  show Rf G l X_Md_scene 0 [.ref a0, .retAddr 0, .retAddr 0] [] M _
  refine r_aload_n (dt_Md_scene.at 0 rfl) rfl ?_
  refine r_aload_n (dt_Md_scene.at 1 rfl) rfl ?_
  refine r_fI (dt_Md_scene.at 2 rfl) fl_Md_74 rfl (fun x1 => ?_)
  refine r_sI (dt_Md_scene.at 3 rfl) fl_Md_92 rfl rfl rfl (fun M2 => ?_)
  refine r_aload_n (dt_Md_scene.at 4 rfl) rfl ?_
  refine r_iconst (dt_Md_scene.at 5 rfl) 0 (by decide) ?_
  refine r_sI (dt_Md_scene.at 6 rfl) fl_Md_74 rfl rfl rfl (fun M3 => ?_)
  refine r_aload_n (dt_Md_scene.at 7 rfl) rfl ?_
  refine r_iconst (dt_Md_scene.at 8 rfl) 0 (by decide) ?_
  refine r_sI (dt_Md_scene.at 9 rfl) fl_Md_95 rfl rfl rfl (fun M4 => ?_)
  refine r_aload_n (dt_Md_scene.at 10 rfl) rfl ?_
  refine r_iconst (dt_Md_scene.at 11 rfl) 0 (by decide) ?_
  refine r_sI (dt_Md_scene.at 12 rfl) fl_Md_85 rfl rfl rfl (fun M5 => ?_)
  refine r_aload_n (dt_Md_scene.at 13 rfl) rfl ?_
  refine r_iconst (dt_Md_scene.at 14 rfl) (-1) (by decide) ?_
  refine r_sI (dt_Md_scene.at 15 rfl) fl_Md_32 rfl rfl rfl (fun M6 => ?_)
  refine r_aload_n (dt_Md_scene.at 16 rfl) rfl ?_
  refine r_iconst (dt_Md_scene.at 17 rfl) 0 (by decide) ?_
  refine r_sI (dt_Md_scene.at 18 rfl) fl_Md_198 rfl rfl rfl (fun M7 => ?_)
  refine r_aload_n (dt_Md_scene.at 19 rfl) rfl ?_
  refine r_iconst (dt_Md_scene.at 20 rfl) 0 (by decide) ?_
  refine r_sI (dt_Md_scene.at 21 rfl) fl_Md_153 rfl rfl rfl (fun M8 => ?_)
  refine r_aload_n (dt_Md_scene.at 22 rfl) rfl ?_
  refine r_iconst (dt_Md_scene.at 23 rfl) 0 (by decide) ?_
  refine r_sI (dt_Md_scene.at 24 rfl) fl_Md_180 rfl rfl rfl (fun M9 => ?_)
  refine r_aload_n (dt_Md_scene.at 25 rfl) rfl ?_
  refine r_iconst (dt_Md_scene.at 26 rfl) 0 (by decide) ?_
  refine r_sI (dt_Md_scene.at 27 rfl) fl_Md_193 rfl rfl rfl (fun M10 => ?_)
  refine r_aload_n (dt_Md_scene.at 28 rfl) rfl ?_
  refine r_cvV (c := 9) (rest := []) (ct_Md_advance a0 _) (dt_Md_scene.at 29 rfl) mb_Md_advance wd_1296 wd_1298 wp_38 rfl (by decide) rfl rfl (Nat.le_of_ble_eq_true rfl) (fun M11 => ?_)
  refine r_iconst (dt_Md_scene.at 30 rfl) 0 (by decide) ?_
  refine r_istore_n (ls' := [.ref a0, .int 0, .retAddr 0]) (dt_Md_scene.at 31 rfl) (by decide) rfl ?_
  refine r_aload_n (dt_Md_scene.at 32 rfl) rfl ?_
  refine r_fI (dt_Md_scene.at 33 rfl) fl_Md_105 rfl (fun x12 => ?_)
  refine r_if_ne (tgt := 70) (dt_Md_scene.at 34 rfl) (by decide) ?_ ?_
  · refine r_aload_n (dt_Md_scene.at 35 rfl) rfl ?_
    refine r_iconst (dt_Md_scene.at 36 rfl) 1 (by decide) ?_
    refine r_aload_n (dt_Md_scene.at 37 rfl) rfl ?_
    refine r_fI (dt_Md_scene.at 38 rfl) fl_Md_102 rfl (fun x13 => ?_)
    refine r_cvV (c := 9) (rest := []) (ct_Md_errs a0 1 x13 _) (dt_Md_scene.at 39 rfl) mb_Md_errs wd_1310 wd_1312 wp_40 rfl (by decide) rfl rfl (Nat.le_of_ble_eq_true rfl) (fun M14 => ?_)
    exact Rf.msk [true, true, false] (rf_Md_scene_L70 fu a0 0 M14)
  · exact Rf.msk [true, true, false] (rf_Md_scene_L70 fu a0 0 M11)
set_option maxRecDepth 20000 in
set_option maxHeartbeats 2000000 in
theorem ct_Md_fault {G : am_G} {l : Launch} (a0 : Nat) (p1 : Int32) (M : am_M) : Ct G l y_Md_fault X_Md_fault [.ref a0, .int p1] M (F_Md_fault a0 p1 M) := by
  refine Ct.of (by decide +kernel) rfl rfl (Nat.le_of_ble_eq_true rfl) ?_
  unfold F_Md_fault
  show Rf G l X_Md_fault 0 [.ref a0, .int p1] [] M _
  refine r_iload_n (dt_Md_fault.at 0 rfl) rfl ?_
  refine r_if_ne (tgt := 11) (dt_Md_fault.at 1 rfl) (by decide) ?_ ?_
  · refine r_aload_n (dt_Md_fault.at 2 rfl) rfl ?_
    refine r_fI (dt_Md_fault.at 3 rfl) fl_Md_85 rfl (fun x1 => ?_)
    refine r_goto (tgt := 24) (dt_Md_fault.at 4 rfl) (by decide) ?_
    exact r_iret (dt_Md_fault.at 12 rfl) rfl
  · refine r_iload_n (dt_Md_fault.at 5 rfl) rfl ?_
    refine r_iconst (dt_Md_fault.at 6 rfl) 1 (by decide) ?_
    refine r_icmp_ne (tgt := 23) (dt_Md_fault.at 7 rfl) (by decide) ?_ ?_
    · refine r_aload_n (dt_Md_fault.at 8 rfl) rfl ?_
      refine r_fI (dt_Md_fault.at 9 rfl) fl_Md_32 rfl (fun x2 => ?_)
      refine r_goto (tgt := 24) (dt_Md_fault.at 10 rfl) (by decide) ?_
      exact r_iret (dt_Md_fault.at 12 rfl) rfl
    · refine r_iconst (dt_Md_fault.at 11 rfl) (-1) (by decide) ?_
      exact r_iret (dt_Md_fault.at 12 rfl) rfl
