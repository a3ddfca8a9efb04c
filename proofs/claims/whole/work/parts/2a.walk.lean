/-! ===== the walks, row by row (printed by wip/whole/emit.py) ===== -/
set_option maxRecDepth 20000 in
set_option maxHeartbeats 2000000 in
theorem ct_Scen_init {G : am_G} {l : Launch} (a0 : Nat) (M : am_M) : Ct G l y_Scen_init X_Scen_init [.ref a0] M (F_Scen_init a0 M) := by
  refine Ct.of (by decide +kernel) rfl rfl (Nat.le_of_ble_eq_true rfl) ?_
  unfold F_Scen_init
  show Rf G l X_Scen_init 0 [.ref a0] [] M _
  refine r_aload_n (dt_Scen_init.at 0 rfl) rfl ?_
  refine r_objInit (rest := []) (dt_Scen_init.at 1 rfl) wd_31 wd_24 wd_25 (Nat.le_of_ble_eq_true rfl) (by decide) ?_
  refine r_aload_n (dt_Scen_init.at 2 rfl) rfl ?_
  refine r_iconst (dt_Scen_init.at 3 rfl) 3 (by decide) ?_
  refine r_nA (t := 0) (Or.inl ⟨rfl, rfl⟩) (dt_Scen_init.at 4 rfl) wd_68 (fun b1 M2 => ?_)
  refine r_sR (dt_Scen_init.at 5 rfl) fl_Scen_9 rfl (Or.inr ⟨rfl, rfl⟩) (fun _ => rfl) (fun _ => rfl) (fun M3 => ?_)
  refine r_aload_n (dt_Scen_init.at 6 rfl) rfl ?_
  refine r_bipush (dt_Scen_init.at 7 rfl) 40 (by decide) ?_
  refine r_nA (t := 0) (Or.inl ⟨rfl, rfl⟩) (dt_Scen_init.at 8 rfl) wd_68 (fun b4 M5 => ?_)
  refine r_sR (dt_Scen_init.at 9 rfl) fl_Scen_15 rfl (Or.inr ⟨rfl, rfl⟩) (fun _ => rfl) (fun _ => rfl) (fun M6 => ?_)
  refine r_aload_n (dt_Scen_init.at 10 rfl) rfl ?_
  refine r_bipush (dt_Scen_init.at 11 rfl) 40 (by decide) ?_
  refine r_nA (t := 0) (Or.inl ⟨rfl, rfl⟩) (dt_Scen_init.at 12 rfl) wd_68 (fun b7 M8 => ?_)
  refine r_sR (dt_Scen_init.at 13 rfl) fl_Scen_18 rfl (Or.inr ⟨rfl, rfl⟩) (fun _ => rfl) (fun _ => rfl) (fun M9 => ?_)
  exact r_vret (dt_Scen_init.at 14 rfl) rfl
set_option maxRecDepth 20000 in
set_option maxHeartbeats 2000000 in
theorem ct_Read_init {G : am_G} {l : Launch} (a0 : Nat) (M : am_M) : Ct G l y_Read_init X_Read_init [.ref a0] M (F_Read_init a0 M) := by
  refine Ct.of (by decide +kernel) rfl rfl (Nat.le_of_ble_eq_true rfl) ?_
  unfold F_Read_init
  show Rf G l X_Read_init 0 [.ref a0] [] M _
  refine r_aload_n (dt_Read_init.at 0 rfl) rfl ?_
  refine r_objInit (rest := []) (dt_Read_init.at 1 rfl) wd_74 wd_24 wd_25 (Nat.le_of_ble_eq_true rfl) (by decide) ?_
  refine r_aload_n (dt_Read_init.at 2 rfl) rfl ?_
  refine r_nO am_c5 (dt_Read_init.at 3 rfl) wd_75 wd_27 wd_2 (fun b1 M2 => ?_)
  refine r_dup (dt_Read_init.at 4 rfl) rfl ?_
  refine r_cinV (rest := [.ref b1, .ref a0]) (ct_Scen_init b1 _) (dt_Read_init.at 5 rfl) mb_Scen_init rfl rfl wd_76 wd_29 (by decide) rfl rfl (Nat.le_of_ble_eq_true rfl) (fun M3 => ?_)
  refine r_sR (dt_Read_init.at 6 rfl) fl_Read_12 rfl (Or.inr ⟨rfl, rfl⟩) (fun _ => rfl) (fun _ => rfl) (fun M4 => ?_)
  refine r_aload_n (dt_Read_init.at 7 rfl) rfl ?_
  refine r_iconst (dt_Read_init.at 8 rfl) (-1) (by decide) ?_
  refine r_sI (dt_Read_init.at 9 rfl) fl_Read_18 rfl rfl rfl (fun M5 => ?_)
  refine r_aload_n (dt_Read_init.at 10 rfl) rfl ?_
  refine r_iconst (dt_Read_init.at 11 rfl) 0 (by decide) ?_
  refine r_nA (t := 0) (Or.inl ⟨rfl, rfl⟩) (dt_Read_init.at 12 rfl) wd_68 (fun b6 M7 => ?_)
  refine r_sR (dt_Read_init.at 13 rfl) fl_Read_22 rfl (Or.inl rfl) (fun _ => rfl) (fun _ => rfl) (fun M8 => ?_)
  exact r_vret (dt_Read_init.at 14 rfl) rfl
set_option maxRecDepth 20000 in
set_option maxHeartbeats 2000000 in
theorem ct_Hist_init {G : am_G} {l : Launch} (a0 : Nat) (M : am_M) : Ct G l y_Hist_init X_Hist_init [.ref a0] M (F_Hist_init a0 M) := by
  refine Ct.of (by decide +kernel) rfl rfl (Nat.le_of_ble_eq_true rfl) ?_
  unfold F_Hist_init
  show Rf G l X_Hist_init 0 [.ref a0] [] M _
  refine r_aload_n (dt_Hist_init.at 0 rfl) rfl ?_
  refine r_objInit (rest := []) (dt_Hist_init.at 1 rfl) wd_113 wd_24 wd_25 (Nat.le_of_ble_eq_true rfl) (by decide) ?_
  refine r_aload_n (dt_Hist_init.at 2 rfl) rfl ?_
  refine r_bipush (dt_Hist_init.at 3 rfl) 10 (by decide) ?_
  refine r_nA (t := 0) (Or.inl ⟨rfl, rfl⟩) (dt_Hist_init.at 4 rfl) wd_68 (fun b1 M2 => ?_)
  refine r_sR (dt_Hist_init.at 5 rfl) fl_Hist_11 rfl (Or.inr ⟨rfl, rfl⟩) (fun _ => rfl) (fun _ => rfl) (fun M3 => ?_)
  refine r_aload_n (dt_Hist_init.at 6 rfl) rfl ?_
  refine r_bipush (dt_Hist_init.at 7 rfl) 10 (by decide) ?_
  refine r_nA (t := 0) (Or.inl ⟨rfl, rfl⟩) (dt_Hist_init.at 8 rfl) wd_68 (fun b4 M5 => ?_)
  refine r_sR (dt_Hist_init.at 9 rfl) fl_Hist_15 rfl (Or.inr ⟨rfl, rfl⟩) (fun _ => rfl) (fun _ => rfl) (fun M6 => ?_)
  refine r_aload_n (dt_Hist_init.at 10 rfl) rfl ?_
  refine r_bipush (dt_Hist_init.at 11 rfl) 10 (by decide) ?_
  refine r_nA (t := 0) (Or.inl ⟨rfl, rfl⟩) (dt_Hist_init.at 12 rfl) wd_68 (fun b7 M8 => ?_)
  refine r_sR (dt_Hist_init.at 13 rfl) fl_Hist_18 rfl (Or.inr ⟨rfl, rfl⟩) (fun _ => rfl) (fun _ => rfl) (fun M9 => ?_)
  exact r_vret (dt_Hist_init.at 14 rfl) rfl
set_option maxRecDepth 20000 in
set_option maxHeartbeats 2000000 in
theorem ct_Outp_init {G : am_G} {l : Launch} (a0 : Nat) (M : am_M) : Ct G l y_Outp_init X_Outp_init [.ref a0] M (F_Outp_init a0 M) := by
  refine Ct.of (by decide +kernel) rfl rfl (Nat.le_of_ble_eq_true rfl) ?_
  unfold F_Outp_init
  show Rf G l X_Outp_init 0 [.ref a0] [] M _
  refine r_aload_n (dt_Outp_init.at 0 rfl) rfl ?_
  refine r_objInit (rest := []) (dt_Outp_init.at 1 rfl) wd_133 wd_24 wd_25 (Nat.le_of_ble_eq_true rfl) (by decide) ?_
  refine r_aload_n (dt_Outp_init.at 2 rfl) rfl ?_
  refine r_sipush (dt_Outp_init.at 3 rfl) 1640 (by decide) ?_
  refine r_nA (t := 0) (Or.inl ⟨rfl, rfl⟩) (dt_Outp_init.at 4 rfl) wd_68 (fun b1 M2 => ?_)
  refine r_sR (dt_Outp_init.at 5 rfl) fl_Outp_9 rfl (Or.inr ⟨rfl, rfl⟩) (fun _ => rfl) (fun _ => rfl) (fun M3 => ?_)
  exact r_vret (dt_Outp_init.at 6 rfl) rfl
set_option maxRecDepth 20000 in
set_option maxHeartbeats 2000000 in
theorem ct_Sprk_init {G : am_G} {l : Launch} (a0 : Nat) (p1 : Nat) (M : am_M) : Ct G l y_Sprk_init X_Sprk_init [.ref a0, .ref p1] M (F_Sprk_init a0 p1 M) := by
  refine Ct.of (by decide +kernel) rfl rfl (Nat.le_of_ble_eq_true rfl) ?_
  unfold F_Sprk_init
  show Rf G l X_Sprk_init 0 [.ref a0, .ref p1] [] M _
  refine r_aload_n (dt_Sprk_init.at 0 rfl) rfl ?_
  refine r_objInit (rest := []) (dt_Sprk_init.at 1 rfl) wd_154 wd_24 wd_25 (Nat.le_of_ble_eq_true rfl) (by decide) ?_
  refine r_aload_n (dt_Sprk_init.at 2 rfl) rfl ?_
  refine r_iconst (dt_Sprk_init.at 3 rfl) 3 (by decide) ?_
  refine r_nA (t := 0) (Or.inl ⟨rfl, rfl⟩) (dt_Sprk_init.at 4 rfl) wd_68 (fun b1 M2 => ?_)
  refine r_sR (dt_Sprk_init.at 5 rfl) fl_Sprk_9 rfl (Or.inr ⟨rfl, rfl⟩) (fun _ => rfl) (fun _ => rfl) (fun M3 => ?_)
  refine r_aload_n (dt_Sprk_init.at 6 rfl) rfl ?_
  refine r_iconst (dt_Sprk_init.at 7 rfl) 3 (by decide) ?_
  refine r_nA (t := 0) (Or.inl ⟨rfl, rfl⟩) (dt_Sprk_init.at 8 rfl) wd_68 (fun b4 M5 => ?_)
  refine r_sR (dt_Sprk_init.at 9 rfl) fl_Sprk_15 rfl (Or.inr ⟨rfl, rfl⟩) (fun _ => rfl) (fun _ => rfl) (fun M6 => ?_)
  refine r_aload_n (dt_Sprk_init.at 10 rfl) rfl ?_
  refine r_aload_n (dt_Sprk_init.at 11 rfl) rfl ?_
  refine r_sR (dt_Sprk_init.at 12 rfl) fl_Sprk_18 rfl (Or.inr ⟨rfl, rfl⟩) (fun _ => rfl) (fun _ => rfl) (fun M7 => ?_)
  exact r_vret (dt_Sprk_init.at 13 rfl) rfl
set_option maxRecDepth 20000 in
set_option maxHeartbeats 2000000 in
theorem rf_Walk_init_L50 {G : am_G} {l : Launch}   : ∀ (n : Nat) (v0 : Nat) (v1 : Nat) (v2 : Int32) (M : am_M), Rf G l X_Walk_init 50 [.ref v0, .ref v1, .int v2] [] M (F_Walk_init_L50 n v0 v1 v2 M) := by
  intro n
  induction n with
  | zero => intro v0 v1 v2 M; exact Rf.no
  | succ n ih =>
    intro v0 v1 v2 M
    unfold F_Walk_init_L50
    refine r_iload_n (dt_Walk_init.at 27 rfl) rfl ?_
    refine r_bipush (dt_Walk_init.at 28 rfl) 7 (by decide) ?_
    refine r_icmp_ge (tgt := 76) (dt_Walk_init.at 29 rfl) (by decide) ?_ ?_
    · exact r_vret (dt_Walk_init.at 40 rfl) rfl
    · refine r_aload_n (dt_Walk_init.at 30 rfl) rfl ?_
      refine r_fR (dt_Walk_init.at 31 rfl) fl_Walk_11 rfl (fun b17 => ?_)
      refine r_iload_n (dt_Walk_init.at 32 rfl) rfl ?_
      refine r_nO am_c6 (dt_Walk_init.at 33 rfl) wd_148 wd_150 wd_7 (fun b18 M19 => ?_)
      refine r_dup (dt_Walk_init.at 34 rfl) rfl ?_
      refine r_aload_n (dt_Walk_init.at 35 rfl) rfl ?_
      refine r_ciV (rest := [.ref b18, .int v2, .ref b17]) (ct_Sprk_init b18 v1 _) (dt_Walk_init.at 36 rfl) mb_Sprk_init rfl rfl wd_151 wd_152 (by decide) rfl rfl (Nat.le_of_ble_eq_true rfl) (fun M20 => ?_)
      refine r_tR (dt_Walk_init.at 37 rfl) (fun M21 => ?_)
      refine r_iincn (v := 1) (dt_Walk_init.at 38 rfl) (by decide) rfl (by decide) (fun y => [.ref v0, .ref v1, .int y]) (fun _ => rfl) (fun x22 => ?_)
      refine r_goto (tgt := 50) (dt_Walk_init.at 39 rfl) (by decide) ?_
      exact Rf.msk [true, true, true] (ih v0 v1 x22 M21)
set_option maxRecDepth 20000 in
set_option maxHeartbeats 2000000 in
theorem ct_Walk_init {G : am_G} {l : Launch} (a0 : Nat) (p1 : Nat) (M : am_M) : Ct G l y_Walk_init X_Walk_init [.ref a0, .ref p1] M (F_Walk_init a0 p1 M) := by
  refine Ct.of (by decide +kernel) rfl rfl (Nat.le_of_ble_eq_true rfl) ?_
  unfold F_Walk_init
  show Rf G l X_Walk_init 0 [.ref a0, .ref p1, .retAddr 0] [] M _
  refine r_aload_n (dt_Walk_init.at 0 rfl) rfl ?_
  refine r_objInit (rest := []) (dt_Walk_init.at 1 rfl) wd_147 wd_24 wd_25 (Nat.le_of_ble_eq_true rfl) (by decide) ?_
  refine r_aload_n (dt_Walk_init.at 2 rfl) rfl ?_
  refine r_bipush (dt_Walk_init.at 3 rfl) 7 (by decide) ?_
  refine r_nR (dt_Walk_init.at 4 rfl) wd_148 (fun b1 M2 => ?_)
  refine r_sR (dt_Walk_init.at 5 rfl) fl_Walk_11 rfl (Or.inr ⟨rfl, rfl⟩) (fun _ => rfl) (fun _ => rfl) (fun M3 => ?_)
  refine r_aload_n (dt_Walk_init.at 6 rfl) rfl ?_
  refine r_bipush (dt_Walk_init.at 7 rfl) 7 (by decide) ?_
  refine r_nA (t := 0) (Or.inl ⟨rfl, rfl⟩) (dt_Walk_init.at 8 rfl) wd_68 (fun b4 M5 => ?_)
  refine r_sR (dt_Walk_init.at 9 rfl) fl_Walk_17 rfl (Or.inr ⟨rfl, rfl⟩) (fun _ => rfl) (fun _ => rfl) (fun M6 => ?_)
  refine r_aload_n (dt_Walk_init.at 10 rfl) rfl ?_
  refine r_iconst (dt_Walk_init.at 11 rfl) 4 (by decide) ?_
  refine r_nA (t := 0) (Or.inl ⟨rfl, rfl⟩) (dt_Walk_init.at 12 rfl) wd_68 (fun b7 M8 => ?_)
  refine r_sR (dt_Walk_init.at 13 rfl) fl_Walk_21 rfl (Or.inr ⟨rfl, rfl⟩) (fun _ => rfl) (fun _ => rfl) (fun M9 => ?_)
  refine r_aload_n (dt_Walk_init.at 14 rfl) rfl ?_
  refine r_iconst (dt_Walk_init.at 15 rfl) 4 (by decide) ?_
  refine r_nA (t := 0) (Or.inl ⟨rfl, rfl⟩) (dt_Walk_init.at 16 rfl) wd_68 (fun b10 M11 => ?_)
  refine r_sR (dt_Walk_init.at 17 rfl) fl_Walk_24 rfl (Or.inr ⟨rfl, rfl⟩) (fun _ => rfl) (fun _ => rfl) (fun M12 => ?_)
  refine r_aload_n (dt_Walk_init.at 18 rfl) rfl ?_
  refine r_bipush (dt_Walk_init.at 19 rfl) 15 (by decide) ?_
  refine r_nA (t := 0) (Or.inl ⟨rfl, rfl⟩) (dt_Walk_init.at 20 rfl) wd_68 (fun b13 M14 => ?_)
  refine r_sR (dt_Walk_init.at 21 rfl) fl_Walk_27 rfl (Or.inr ⟨rfl, rfl⟩) (fun _ => rfl) (fun _ => rfl) (fun M15 => ?_)
  refine r_aload_n (dt_Walk_init.at 22 rfl) rfl ?_
  refine r_aload_n (dt_Walk_init.at 23 rfl) rfl ?_
  refine r_sR (dt_Walk_init.at 24 rfl) fl_Walk_30 rfl (Or.inr ⟨rfl, rfl⟩) (fun _ => rfl) (fun _ => rfl) (fun M16 => ?_)
  refine r_iconst (dt_Walk_init.at 25 rfl) 0 (by decide) ?_
  refine r_istore_n (ls' := [.ref a0, .ref p1, .int 0]) (dt_Walk_init.at 26 rfl) (by decide) rfl ?_
  exact Rf.msk [true, true, true] (rf_Walk_init_L50 fu a0 p1 0 M16)
set_option maxRecDepth 20000 in
set_option maxHeartbeats 2000000 in
theorem ct_Fram_init {G : am_G} {l : Launch} (a0 : Nat) (p1 : Nat) (p2 : Nat) (M : am_M) : Ct G l y_Fram_init X_Fram_init [.ref a0, .ref p1, .ref p2] M (F_Fram_init a0 p1 p2 M) := by
  refine Ct.of (by decide +kernel) rfl rfl (Nat.le_of_ble_eq_true rfl) ?_
  unfold F_Fram_init
  show Rf G l X_Fram_init 0 [.ref a0, .ref p1, .ref p2] [] M _
  refine r_aload_n (dt_Fram_init.at 0 rfl) rfl ?_
  refine r_objInit (rest := []) (dt_Fram_init.at 1 rfl) wd_234 wd_24 wd_25 (Nat.le_of_ble_eq_true rfl) (by decide) ?_
  refine r_aload_n (dt_Fram_init.at 2 rfl) rfl ?_
  refine r_bipush (dt_Fram_init.at 3 rfl) 112 (by decide) ?_
  refine r_nA (t := 0) (Or.inl ⟨rfl, rfl⟩) (dt_Fram_init.at 4 rfl) wd_68 (fun b1 M2 => ?_)
  refine r_sR (dt_Fram_init.at 5 rfl) fl_Fram_11 rfl (Or.inl rfl) (fun _ => rfl) (fun _ => rfl) (fun M3 => ?_)
  refine r_aload_n (dt_Fram_init.at 6 rfl) rfl ?_
  refine r_bipush (dt_Fram_init.at 7 rfl) 16 (by decide) ?_
  refine r_nA (t := 0) (Or.inl ⟨rfl, rfl⟩) (dt_Fram_init.at 8 rfl) wd_68 (fun b4 M5 => ?_)
  refine r_sR (dt_Fram_init.at 9 rfl) fl_Fram_15 rfl (Or.inl rfl) (fun _ => rfl) (fun _ => rfl) (fun M6 => ?_)
  refine r_aload_n (dt_Fram_init.at 10 rfl) rfl ?_
  refine r_sipush (dt_Fram_init.at 11 rfl) 320 (by decide) ?_
  refine r_nA (t := 0) (Or.inl ⟨rfl, rfl⟩) (dt_Fram_init.at 12 rfl) wd_68 (fun b7 M8 => ?_)
  refine r_sR (dt_Fram_init.at 13 rfl) fl_Fram_18 rfl (Or.inr ⟨rfl, rfl⟩) (fun _ => rfl) (fun _ => rfl) (fun M9 => ?_)
  refine r_aload_n (dt_Fram_init.at 14 rfl) rfl ?_
  refine r_iconst (dt_Fram_init.at 15 rfl) (-1) (by decide) ?_
  refine r_sI (dt_Fram_init.at 16 rfl) fl_Fram_21 rfl rfl rfl (fun M10 => ?_)
  refine r_aload_n (dt_Fram_init.at 17 rfl) rfl ?_
  refine r_aload_n (dt_Fram_init.at 18 rfl) rfl ?_
  refine r_sR (dt_Fram_init.at 19 rfl) fl_Fram_25 rfl (Or.inr ⟨rfl, rfl⟩) (fun _ => rfl) (fun _ => rfl) (fun M11 => ?_)
  refine r_aload_n (dt_Fram_init.at 20 rfl) rfl ?_
  refine r_aload_n (dt_Fram_init.at 21 rfl) rfl ?_
  refine r_sR (dt_Fram_init.at 22 rfl) fl_Fram_29 rfl (Or.inr ⟨rfl, rfl⟩) (fun _ => rfl) (fun _ => rfl) (fun M12 => ?_)
  exact r_vret (dt_Fram_init.at 23 rfl) rfl
set_option maxRecDepth 20000 in
set_option maxHeartbeats 2000000 in
theorem ct_Find_init {G : am_G} {l : Launch} (a0 : Nat) (p1 : Nat) (M : am_M) : Ct G l y_Find_init X_Find_init [.ref a0, .ref p1] M (F_Find_init a0 p1 M) := by
  refine Ct.of (by decide +kernel) rfl rfl (Nat.le_of_ble_eq_true rfl) ?_
  unfold F_Find_init
  show Rf G l X_Find_init 0 [.ref a0, .ref p1] [] M _
  refine r_aload_n (dt_Find_init.at 0 rfl) rfl ?_
  refine r_objInit (rest := []) (dt_Find_init.at 1 rfl) wd_263 wd_24 wd_25 (Nat.le_of_ble_eq_true rfl) (by decide) ?_
  refine r_aload_n (dt_Find_init.at 2 rfl) rfl ?_
  refine r_aload_n (dt_Find_init.at 3 rfl) rfl ?_
  refine r_sR (dt_Find_init.at 4 rfl) fl_Find_7 rfl (Or.inr ⟨rfl, rfl⟩) (fun _ => rfl) (fun _ => rfl) (fun M1 => ?_)
  refine r_aload_n (dt_Find_init.at 5 rfl) rfl ?_
  refine r_nO am_c6 (dt_Find_init.at 6 rfl) wd_264 wd_150 wd_7 (fun b2 M3 => ?_)
  refine r_dup (dt_Find_init.at 7 rfl) rfl ?_
  refine r_aload_n (dt_Find_init.at 8 rfl) rfl ?_
  refine r_ciV (rest := [.ref b2, .ref a0]) (ct_Sprk_init b2 p1 _) (dt_Find_init.at 9 rfl) mb_Sprk_init rfl rfl wd_265 wd_152 (by decide) rfl rfl (Nat.le_of_ble_eq_true rfl) (fun M4 => ?_)
  refine r_sR (dt_Find_init.at 10 rfl) fl_Find_18 rfl (Or.inr ⟨rfl, rfl⟩) (fun _ => rfl) (fun _ => rfl) (fun M5 => ?_)
  refine r_aload_n (dt_Find_init.at 11 rfl) rfl ?_
  refine r_nO am_c6 (dt_Find_init.at 12 rfl) wd_264 wd_150 wd_7 (fun b6 M7 => ?_)
  refine r_dup (dt_Find_init.at 13 rfl) rfl ?_
  refine r_aload_n (dt_Find_init.at 14 rfl) rfl ?_
  refine r_ciV (rest := [.ref b6, .ref a0]) (ct_Sprk_init b6 p1 _) (dt_Find_init.at 15 rfl) mb_Sprk_init rfl rfl wd_265 wd_152 (by decide) rfl rfl (Nat.le_of_ble_eq_true rfl) (fun M8 => ?_)
  refine r_sR (dt_Find_init.at 16 rfl) fl_Find_22 rfl (Or.inr ⟨rfl, rfl⟩) (fun _ => rfl) (fun _ => rfl) (fun M9 => ?_)
  refine r_aload_n (dt_Find_init.at 17 rfl) rfl ?_
  refine r_nO am_c6 (dt_Find_init.at 18 rfl) wd_264 wd_150 wd_7 (fun b10 M11 => ?_)
  refine r_dup (dt_Find_init.at 19 rfl) rfl ?_
  refine r_aload_n (dt_Find_init.at 20 rfl) rfl ?_
  refine r_ciV (rest := [.ref b10, .ref a0]) (ct_Sprk_init b10 p1 _) (dt_Find_init.at 21 rfl) mb_Sprk_init rfl rfl wd_265 wd_152 (by decide) rfl rfl (Nat.le_of_ble_eq_true rfl) (fun M12 => ?_)
  refine r_sR (dt_Find_init.at 22 rfl) fl_Find_25 rfl (Or.inr ⟨rfl, rfl⟩) (fun _ => rfl) (fun _ => rfl) (fun M13 => ?_)
  exact r_vret (dt_Find_init.at 23 rfl) rfl
set_option maxRecDepth 20000 in
set_option maxHeartbeats 2000000 in
theorem ct_NS_init {G : am_G} {l : Launch} (a0 : Nat) (M : am_M) : Ct G l y_NS_init X_NS_init [.ref a0] M (F_NS_init a0 M) := by
  refine Ct.of (by decide +kernel) rfl rfl (Nat.le_of_ble_eq_true rfl) ?_
  unfold F_NS_init
  show Rf G l X_NS_init 0 [.ref a0] [] M _
  refine r_aload_n (dt_NS_init.at 0 rfl) rfl ?_
  refine r_objInit (rest := []) (dt_NS_init.at 1 rfl) wd_23 wd_24 wd_25 (Nat.le_of_ble_eq_true rfl) (by decide) ?_
  refine r_aload_n (dt_NS_init.at 2 rfl) rfl ?_
  refine r_sipush (dt_NS_init.at 3 rfl) 500 (by decide) ?_
  refine r_nA (t := 0) (Or.inl ⟨rfl, rfl⟩) (dt_NS_init.at 4 rfl) wd_68 (fun b1 M2 => ?_)
  refine r_sR (dt_NS_init.at 5 rfl) fl_NS_9 rfl (Or.inr ⟨rfl, rfl⟩) (fun _ => rfl) (fun _ => rfl) (fun M3 => ?_)
  refine r_aload_n (dt_NS_init.at 6 rfl) rfl ?_
  refine r_nO am_c5 (dt_NS_init.at 7 rfl) wd_26 wd_27 wd_2 (fun b4 M5 => ?_)
  refine r_dup (dt_NS_init.at 8 rfl) rfl ?_
  refine r_cinV (rest := [.ref b4, .ref a0]) (ct_Scen_init b4 _) (dt_NS_init.at 9 rfl) mb_Scen_init rfl rfl wd_28 wd_29 (by decide) rfl rfl (Nat.le_of_ble_eq_true rfl) (fun M6 => ?_)
  refine r_sR (dt_NS_init.at 10 rfl) fl_NS_16 rfl (Or.inr ⟨rfl, rfl⟩) (fun _ => rfl) (fun _ => rfl) (fun M7 => ?_)
  refine r_aload_n (dt_NS_init.at 11 rfl) rfl ?_
  refine r_nO am_c4 (dt_NS_init.at 12 rfl) wd_69 wd_70 wd_3 (fun b8 M9 => ?_)
  refine r_dup (dt_NS_init.at 13 rfl) rfl ?_
  refine r_cinV (rest := [.ref b8, .ref a0]) (ct_Read_init b8 _) (dt_NS_init.at 14 rfl) mb_Read_init rfl rfl wd_71 wd_72 (by decide) rfl rfl (Nat.le_of_ble_eq_true rfl) (fun M10 => ?_)
  refine r_sR (dt_NS_init.at 15 rfl) fl_NS_23 rfl (Or.inr ⟨rfl, rfl⟩) (fun _ => rfl) (fun _ => rfl) (fun M11 => ?_)
  refine r_aload_n (dt_NS_init.at 16 rfl) rfl ?_
  refine r_nO am_c2 (dt_NS_init.at 17 rfl) wd_108 wd_109 wd_4 (fun b12 M13 => ?_)
  refine r_dup (dt_NS_init.at 18 rfl) rfl ?_
  refine r_cinV (rest := [.ref b12, .ref a0]) (ct_Hist_init b12 _) (dt_NS_init.at 19 rfl) mb_Hist_init rfl rfl wd_110 wd_111 (by decide) rfl rfl (Nat.le_of_ble_eq_true rfl) (fun M14 => ?_)
  refine r_sR (dt_NS_init.at 20 rfl) fl_NS_30 rfl (Or.inr ⟨rfl, rfl⟩) (fun _ => rfl) (fun _ => rfl) (fun M15 => ?_)
  refine r_aload_n (dt_NS_init.at 21 rfl) rfl ?_
  refine r_nO am_c3 (dt_NS_init.at 22 rfl) wd_128 wd_129 wd_5 (fun b16 M17 => ?_)
  refine r_dup (dt_NS_init.at 23 rfl) rfl ?_
  refine r_cinV (rest := [.ref b16, .ref a0]) (ct_Outp_init b16 _) (dt_NS_init.at 24 rfl) mb_Outp_init rfl rfl wd_130 wd_131 (by decide) rfl rfl (Nat.le_of_ble_eq_true rfl) (fun M18 => ?_)
  refine r_sR (dt_NS_init.at 25 rfl) fl_NS_37 rfl (Or.inr ⟨rfl, rfl⟩) (fun _ => rfl) (fun _ => rfl) (fun M19 => ?_)
  refine r_aload_n (dt_NS_init.at 26 rfl) rfl ?_
  refine r_nO am_c7 (dt_NS_init.at 27 rfl) wd_142 wd_143 wd_6 (fun b20 M21 => ?_)
  refine r_dup (dt_NS_init.at 28 rfl) rfl ?_
  refine r_aload_n (dt_NS_init.at 29 rfl) rfl ?_
  refine r_fR (dt_NS_init.at 30 rfl) fl_NS_16 rfl (fun b22 => ?_)
  refine r_ciV (rest := [.ref b20, .ref a0]) (ct_Walk_init b20 b22 _) (dt_NS_init.at 31 rfl) mb_Walk_init rfl rfl wd_144 wd_145 (by decide) rfl rfl (Nat.le_of_ble_eq_true rfl) (fun M23 => ?_)
  refine r_sR (dt_NS_init.at 32 rfl) fl_NS_46 rfl (Or.inr ⟨rfl, rfl⟩) (fun _ => rfl) (fun _ => rfl) (fun M24 => ?_)
  refine r_aload_n (dt_NS_init.at 33 rfl) rfl ?_
  refine r_nO am_c1 (dt_NS_init.at 34 rfl) wd_229 wd_230 wd_8 (fun b25 M26 => ?_)
  refine r_dup (dt_NS_init.at 35 rfl) rfl ?_
  refine r_aload_n (dt_NS_init.at 36 rfl) rfl ?_
  refine r_fR (dt_NS_init.at 37 rfl) fl_NS_16 rfl (fun b27 => ?_)
  refine r_aload_n (dt_NS_init.at 38 rfl) rfl ?_
  refine r_fR (dt_NS_init.at 39 rfl) fl_NS_46 rfl (fun b28 => ?_)
  refine r_ciV (rest := [.ref b25, .ref a0]) (ct_Fram_init b25 b27 b28 _) (dt_NS_init.at 40 rfl) mb_Fram_init rfl rfl wd_231 wd_232 (by decide) rfl rfl (Nat.le_of_ble_eq_true rfl) (fun M29 => ?_)
  refine r_sR (dt_NS_init.at 41 rfl) fl_NS_55 rfl (Or.inr ⟨rfl, rfl⟩) (fun _ => rfl) (fun _ => rfl) (fun M30 => ?_)
  refine r_aload_n (dt_NS_init.at 42 rfl) rfl ?_
  refine r_nO am_c0 (dt_NS_init.at 43 rfl) wd_258 wd_259 wd_9 (fun b31 M32 => ?_)
  refine r_dup (dt_NS_init.at 44 rfl) rfl ?_
  refine r_aload_n (dt_NS_init.at 45 rfl) rfl ?_
  refine r_fR (dt_NS_init.at 46 rfl) fl_NS_16 rfl (fun b33 => ?_)
  refine r_ciV (rest := [.ref b31, .ref a0]) (ct_Find_init b31 b33 _) (dt_NS_init.at 47 rfl) mb_Find_init rfl rfl wd_260 wd_261 (by decide) rfl rfl (Nat.le_of_ble_eq_true rfl) (fun M34 => ?_)
  refine r_sR (dt_NS_init.at 48 rfl) fl_NS_62 rfl (Or.inr ⟨rfl, rfl⟩) (fun _ => rfl) (fun _ => rfl) (fun M35 => ?_)
  refine r_aload_n (dt_NS_init.at 49 rfl) rfl ?_
  refine r_nO am_c0 (dt_NS_init.at 50 rfl) wd_258 wd_259 wd_9 (fun b36 M37 => ?_)
  refine r_dup (dt_NS_init.at 51 rfl) rfl ?_
  refine r_aload_n (dt_NS_init.at 52 rfl) rfl ?_
  refine r_fR (dt_NS_init.at 53 rfl) fl_NS_16 rfl (fun b38 => ?_)
  refine r_ciV (rest := [.ref b36, .ref a0]) (ct_Find_init b36 b38 _) (dt_NS_init.at 54 rfl) mb_Find_init rfl rfl wd_260 wd_261 (by decide) rfl rfl (Nat.le_of_ble_eq_true rfl) (fun M39 => ?_)
  refine r_sR (dt_NS_init.at 55 rfl) fl_NS_66 rfl (Or.inr ⟨rfl, rfl⟩) (fun _ => rfl) (fun _ => rfl) (fun M40 => ?_)
  refine r_aload_n (dt_NS_init.at 56 rfl) rfl ?_
  refine r_sipush (dt_NS_init.at 57 rfl) 2000 (by decide) ?_
  refine r_nA (t := 0) (Or.inl ⟨rfl, rfl⟩) (dt_NS_init.at 58 rfl) wd_68 (fun b41 M42 => ?_)
  refine r_sR (dt_NS_init.at 59 rfl) fl_NS_69 rfl (Or.inr ⟨rfl, rfl⟩) (fun _ => rfl) (fun _ => rfl) (fun M43 => ?_)
  exact r_vret (dt_NS_init.at 60 rfl) rfl
set_option maxRecDepth 20000 in
set_option maxHeartbeats 2000000 in
theorem rf_NS_putOnTape_L3 {G : am_G} {l : Launch}   : ∀ (n : Nat) (v0 : Nat) (v1 : Int32) (v2 : Int32) (M : am_M), Rf G l X_NS_putOnTape 3 [.ref v0, .int v1, .int v2] [] M (F_NS_putOnTape_L3 n v0 v1 v2 M) := by
  intro n
  induction n with
  | zero => intro v0 v1 v2 M; exact Rf.no
  | succ n ih =>
    intro v0 v1 v2 M
    unfold F_NS_putOnTape_L3
    refine r_iload_n (dt_NS_putOnTape.at 2 rfl) rfl ?_
    refine r_if_lt (tgt := 58) (dt_NS_putOnTape.at 3 rfl) (by decide) ?_ ?_
    · exact r_vret (dt_NS_putOnTape.at 31 rfl) rfl
    · refine r_aload_n (dt_NS_putOnTape.at 4 rfl) rfl ?_
      refine r_fI (dt_NS_putOnTape.at 5 rfl) fl_NS_72 rfl (fun x1 => ?_)
      refine r_if_lt (tgt := 52) (dt_NS_putOnTape.at 6 rfl) (by decide) ?_ ?_
      · refine r_iincn (v := (-8)) (dt_NS_putOnTape.at 29 rfl) (by decide) rfl (by decide) (fun y => [.ref v0, .int v1, .int y]) (fun _ => rfl) (fun x2 => ?_)
        refine r_goto (tgt := 3) (dt_NS_putOnTape.at 30 rfl) (by decide) ?_
        exact Rf.msk [true, true, true] (ih v0 v1 x2 M)
      · refine r_aload_n (dt_NS_putOnTape.at 7 rfl) rfl ?_
        refine r_fI (dt_NS_putOnTape.at 8 rfl) fl_NS_72 rfl (fun x3 => ?_)
        refine r_aload_n (dt_NS_putOnTape.at 9 rfl) rfl ?_
        refine r_fR (dt_NS_putOnTape.at 10 rfl) fl_NS_9 rfl (fun b4 => ?_)
        refine r_aN (dt_NS_putOnTape.at 11 rfl) (fun x5 => ?_)
        refine r_icmp_ge (tgt := 52) (dt_NS_putOnTape.at 12 rfl) (by decide) ?_ ?_
        · refine r_iincn (v := (-8)) (dt_NS_putOnTape.at 29 rfl) (by decide) rfl (by decide) (fun y => [.ref v0, .int v1, .int y]) (fun _ => rfl) (fun x6 => ?_)
          refine r_goto (tgt := 3) (dt_NS_putOnTape.at 30 rfl) (by decide) ?_
          exact Rf.msk [true, true, true] (ih v0 v1 x6 M)
        · refine r_aload_n (dt_NS_putOnTape.at 13 rfl) rfl ?_
          refine r_fR (dt_NS_putOnTape.at 14 rfl) fl_NS_9 rfl (fun b7 => ?_)
          refine r_aload_n (dt_NS_putOnTape.at 15 rfl) rfl ?_
          refine r_fI (dt_NS_putOnTape.at 16 rfl) fl_NS_72 rfl (fun x8 => ?_)
          refine r_iload_n (dt_NS_putOnTape.at 17 rfl) rfl ?_
          refine r_iload_n (dt_NS_putOnTape.at 18 rfl) rfl ?_
          refine r_iushr (dt_NS_putOnTape.at 19 rfl) ?_
          refine r_sipush (dt_NS_putOnTape.at 20 rfl) 255 (by decide) ?_
          refine r_iand (dt_NS_putOnTape.at 21 rfl) ?_
          refine r_tI (dt_NS_putOnTape.at 22 rfl) (fun M9 => ?_)
          refine r_aload_n (dt_NS_putOnTape.at 23 rfl) rfl ?_
          refine r_dup (dt_NS_putOnTape.at 24 rfl) rfl ?_
          refine r_fI (dt_NS_putOnTape.at 25 rfl) fl_NS_72 rfl (fun x10 => ?_)
          refine r_iconst (dt_NS_putOnTape.at 26 rfl) 1 (by decide) ?_
          refine r_iadd (dt_NS_putOnTape.at 27 rfl) ?_
          refine r_sI (dt_NS_putOnTape.at 28 rfl) fl_NS_72 rfl rfl rfl (fun M11 => ?_)
          refine r_iincn (v := (-8)) (dt_NS_putOnTape.at 29 rfl) (by decide) rfl (by decide) (fun y => [.ref v0, .int v1, .int y]) (fun _ => rfl) (fun x12 => ?_)
          refine r_goto (tgt := 3) (dt_NS_putOnTape.at 30 rfl) (by decide) ?_
          exact Rf.msk [true, true, true] (ih v0 v1 x12 M11)
set_option maxRecDepth 20000 in
set_option maxHeartbeats 2000000 in
theorem ct_NS_putOnTape {G : am_G} {l : Launch} (a0 : Nat) (p1 : Int32) (M : am_M) : Ct G l y_NS_putOnTape X_NS_putOnTape [.ref a0, .int p1] M (F_NS_putOnTape a0 p1 M) := by
  refine Ct.of (by decide +kernel) rfl rfl (Nat.le_of_ble_eq_true rfl) ?_
  unfold F_NS_putOnTape
  show Rf G l X_NS_putOnTape 0 [.ref a0, .int p1, .retAddr 0] [] M _
  refine r_bipush (dt_NS_putOnTape.at 0 rfl) 24 (by decide) ?_
  refine r_istore_n (ls' := [.ref a0, .int p1, .int 24]) (dt_NS_putOnTape.at 1 rfl) (by decide) rfl ?_
  exact Rf.msk [true, true, true] (rf_NS_putOnTape_L3 fu a0 p1 24 M)
set_option maxRecDepth 20000 in
set_option maxHeartbeats 2000000 in
theorem ct_NS_feed {G : am_G} {l : Launch} (a0 : Nat) (p1 : Int32) (p2 : Int32) (p3 : Int32) (p4 : Int32) (p5 : Int32) (M : am_M) : Ct G l y_NS_feed X_NS_feed [.ref a0, .int p1, .int p2, .int p3, .int p4, .int p5] M (F_NS_feed a0 p1 p2 p3 p4 p5 M) := by
  refine Ct.of (by decide +kernel) rfl rfl (Nat.le_of_ble_eq_true rfl) ?_
  unfold F_NS_feed
  show Rf G l X_NS_feed 0 [.ref a0, .int p1, .int p2, .int p3, .int p4, .int p5] [] M _
  refine r_aload_n (dt_NS_feed.at 0 rfl) rfl ?_
  refine r_fI (dt_NS_feed.at 1 rfl) fl_NS_72 rfl (fun x1 => ?_)
  refine r_bipush (dt_NS_feed.at 2 rfl) 20 (by decide) ?_
  refine r_iadd (dt_NS_feed.at 3 rfl) ?_
  refine r_sipush (dt_NS_feed.at 4 rfl) 500 (by decide) ?_
  refine r_icmp_le (tgt := 15) (dt_NS_feed.at 5 rfl) (by decide) ?_ ?_
  · refine r_aload_n (dt_NS_feed.at 8 rfl) rfl ?_
    refine r_iload_n (dt_NS_feed.at 9 rfl) rfl ?_
    refine r_cvV (c := 8) (rest := []) (ct_NS_putOnTape a0 p1 _) (dt_NS_feed.at 10 rfl) mb_NS_putOnTape wd_317 wd_319 wp_0 rfl (by decide) rfl rfl (Nat.le_of_ble_eq_true rfl) (fun M2 => ?_)
    refine r_aload_n (dt_NS_feed.at 11 rfl) rfl ?_
    refine r_iload_n (dt_NS_feed.at 12 rfl) rfl ?_
    refine r_cvV (c := 8) (rest := []) (ct_NS_putOnTape a0 p2 _) (dt_NS_feed.at 13 rfl) mb_NS_putOnTape wd_317 wd_319 wp_0 rfl (by decide) rfl rfl (Nat.le_of_ble_eq_true rfl) (fun M3 => ?_)
    refine r_aload_n (dt_NS_feed.at 14 rfl) rfl ?_
    refine r_iload_n (dt_NS_feed.at 15 rfl) rfl ?_
    refine r_cvV (c := 8) (rest := []) (ct_NS_putOnTape a0 p3 _) (dt_NS_feed.at 16 rfl) mb_NS_putOnTape wd_317 wd_319 wp_0 rfl (by decide) rfl rfl (Nat.le_of_ble_eq_true rfl) (fun M4 => ?_)
    refine r_aload_n (dt_NS_feed.at 17 rfl) rfl ?_
    refine r_iload (dt_NS_feed.at 18 rfl) rfl ?_
    refine r_cvV (c := 8) (rest := []) (ct_NS_putOnTape a0 p4 _) (dt_NS_feed.at 19 rfl) mb_NS_putOnTape wd_317 wd_319 wp_0 rfl (by decide) rfl rfl (Nat.le_of_ble_eq_true rfl) (fun M5 => ?_)
    refine r_aload_n (dt_NS_feed.at 20 rfl) rfl ?_
    refine r_iload (dt_NS_feed.at 21 rfl) rfl ?_
    refine r_cvV (c := 8) (rest := []) (ct_NS_putOnTape a0 p5 _) (dt_NS_feed.at 22 rfl) mb_NS_putOnTape wd_317 wd_319 wp_0 rfl (by decide) rfl rfl (Nat.le_of_ble_eq_true rfl) (fun M6 => ?_)
    refine r_aload_n (dt_NS_feed.at 23 rfl) rfl ?_
    refine r_fI (dt_NS_feed.at 24 rfl) fl_NS_72 rfl (fun x7 => ?_)
    exact r_iret (dt_NS_feed.at 25 rfl) rfl
  · refine r_iconst (dt_NS_feed.at 6 rfl) (-1) (by decide) ?_
    exact r_iret (dt_NS_feed.at 7 rfl) rfl
set_option maxRecDepth 20000 in
set_option maxHeartbeats 2000000 in
theorem ct_NS_end {G : am_G} {l : Launch} (a0 : Nat) (p1 : Int32) (M : am_M) : Ct G l y_NS_end X_NS_end [.ref a0, .int p1] M (F_NS_end a0 p1 M) := by
  refine Ct.of (by decide +kernel) rfl rfl (Nat.le_of_ble_eq_true rfl) ?_
  unfold F_NS_end
  show Rf G l X_NS_end 0 [.ref a0, .int p1] [] M _
  refine r_iload_n (dt_NS_end.at 0 rfl) rfl ?_
  refine r_if_lt (tgt := 12) (dt_NS_end.at 1 rfl) (by decide) ?_ ?_
  · refine r_iconst (dt_NS_end.at 6 rfl) (-1) (by decide) ?_
    exact r_iret (dt_NS_end.at 7 rfl) rfl
  · refine r_iload_n (dt_NS_end.at 2 rfl) rfl ?_
    refine r_aload_n (dt_NS_end.at 3 rfl) rfl ?_
    refine r_fI (dt_NS_end.at 4 rfl) fl_NS_72 rfl (fun x1 => ?_)
    refine r_icmp_le (tgt := 14) (dt_NS_end.at 5 rfl) (by decide) ?_ ?_
    · refine r_aload_n (dt_NS_end.at 8 rfl) rfl ?_
      refine r_iload_n (dt_NS_end.at 9 rfl) rfl ?_
      refine r_sI (dt_NS_end.at 10 rfl) fl_NS_72 rfl rfl rfl (fun M2 => ?_)
      refine r_iload_n (dt_NS_end.at 11 rfl) rfl ?_
      exact r_iret (dt_NS_end.at 12 rfl) rfl
    · refine r_iconst (dt_NS_end.at 6 rfl) (-1) (by decide) ?_
      exact r_iret (dt_NS_end.at 7 rfl) rfl
set_option maxRecDepth 20000 in
set_option maxHeartbeats 2000000 in
theorem ct_Math_min {G : am_G} {l : Launch} (p1 : Int32) (p2 : Int32) (M : am_M) : Ct G l y_Math_min X_Math_min [.int p1, .int p2] M (F_Math_min p1 p2 M) := by
  refine Ct.ofF (by decide +kernel) rfl rfl (Nat.le_of_ble_eq_true rfl) ?_
  unfold F_Math_min
  show Rf G l X_Math_min 0 [.int p1, .int p2] [] M _
  refine r_iload_n (dt_Math_min.at 0 rfl) rfl ?_
  refine r_iload_n (dt_Math_min.at 1 rfl) rfl ?_
  refine r_icmp_gt (tgt := 9) (dt_Math_min.at 2 rfl) (by decide) ?_ ?_
  · refine r_iload_n (dt_Math_min.at 5 rfl) rfl ?_
    exact r_iret (dt_Math_min.at 6 rfl) rfl
  · refine r_iload_n (dt_Math_min.at 3 rfl) rfl ?_
    refine r_goto (tgt := 10) (dt_Math_min.at 4 rfl) (by decide) ?_
    exact r_iret (dt_Math_min.at 6 rfl) rfl
set_option maxRecDepth 20000 in
set_option maxHeartbeats 2000000 in
theorem rf_Arr_fill_L5 {G : am_G} {l : Launch}   : ∀ (n : Nat) (v0 : Nat) (v1 : Int32) (v2 : Int32) (v3 : Int32) (M : am_M), Rf G l X_Arr_fill 5 [.ref v0, .int v1, .int v2, .int v3] [] M (F_Arr_fill_L5 n v0 v1 v2 v3 M) := by
  intro n
  induction n with
  | zero => intro v0 v1 v2 v3 M; exact Rf.no
  | succ n ih =>
    intro v0 v1 v2 v3 M
    unfold F_Arr_fill_L5
    refine r_iload_n (dt_Arr_fill.at 5 rfl) rfl ?_
    refine r_iload_n (dt_Arr_fill.at 6 rfl) rfl ?_
    refine r_icmp_ge (tgt := 20) (dt_Arr_fill.at 7 rfl) (by decide) ?_ ?_
    · exact r_vret (dt_Arr_fill.at 14 rfl) rfl
    · refine r_aload_n (dt_Arr_fill.at 8 rfl) rfl ?_
      refine r_iload_n (dt_Arr_fill.at 9 rfl) rfl ?_
      refine r_iload_n (dt_Arr_fill.at 10 rfl) rfl ?_
      refine r_tI (dt_Arr_fill.at 11 rfl) (fun M2 => ?_)
      refine r_iincn (v := 1) (dt_Arr_fill.at 12 rfl) (by decide) rfl (by decide) (fun y => [.ref v0, .int v1, .int y, .int v3]) (fun _ => rfl) (fun x3 => ?_)
      refine r_goto (tgt := 5) (dt_Arr_fill.at 13 rfl) (by decide) ?_
      exact Rf.msk [true, true, true, true] (ih v0 v1 x3 v3 M2)
set_option maxRecDepth 20000 in
set_option maxHeartbeats 2000000 in
theorem ct_Arr_fill {G : am_G} {l : Launch} (p1 : Nat) (p2 : Int32) (M : am_M) : Ct G l y_Arr_fill X_Arr_fill [.ref p1, .int p2] M (F_Arr_fill p1 p2 M) := by
  refine Ct.ofF (by decide +kernel) rfl rfl (Nat.le_of_ble_eq_true rfl) ?_
  unfold F_Arr_fill
  show Rf G l X_Arr_fill 0 [.ref p1, .int p2, .retAddr 0, .retAddr 0] [] M _
  refine r_iconst (dt_Arr_fill.at 0 rfl) 0 (by decide) ?_
  refine r_istore_n (ls' := [.ref p1, .int p2, .int 0, .retAddr 0]) (dt_Arr_fill.at 1 rfl) (by decide) rfl ?_
  refine r_aload_n (dt_Arr_fill.at 2 rfl) rfl ?_
  refine r_aN (dt_Arr_fill.at 3 rfl) (fun x1 => ?_)
  refine r_istore_n (ls' := [.ref p1, .int p2, .int 0, .int x1]) (dt_Arr_fill.at 4 rfl) (by decide) rfl ?_
  exact Rf.msk [true, true, true, true] (rf_Arr_fill_L5 fu p1 p2 0 x1 M)
set_option maxRecDepth 20000 in
set_option maxHeartbeats 2000000 in
theorem ct_Scen_clear {G : am_G} {l : Launch} (a0 : Nat) (M : am_M) : Ct G l y_Scen_clear X_Scen_clear [.ref a0] M (F_Scen_clear a0 M) := by
  refine Ct.of (by decide +kernel) rfl rfl (Nat.le_of_ble_eq_true rfl) ?_
  unfold F_Scen_clear
  show Rf G l X_Scen_clear 0 [.ref a0] [] M _
  refine r_aload_n (dt_Scen_clear.at 0 rfl) rfl ?_
  refine r_fR (dt_Scen_clear.at 1 rfl) fl_Scen_9 rfl (fun b1 => ?_)
  refine r_iconst (dt_Scen_clear.at 2 rfl) 0 (by decide) ?_
  refine r_csV (rest := []) (ct_Arr_fill b1 0 _) (dt_Scen_clear.at 3 rfl) mb_Arr_fill wd_340 wd_341 (by decide) rfl rfl (Nat.le_of_ble_eq_true rfl) (fun M2 => ?_)
  refine r_aload_n (dt_Scen_clear.at 4 rfl) rfl ?_
  refine r_fR (dt_Scen_clear.at 5 rfl) fl_Scen_15 rfl (fun b3 => ?_)
  refine r_iconst (dt_Scen_clear.at 6 rfl) 0 (by decide) ?_
  refine r_csV (rest := []) (ct_Arr_fill b3 0 _) (dt_Scen_clear.at 7 rfl) mb_Arr_fill wd_340 wd_341 (by decide) rfl rfl (Nat.le_of_ble_eq_true rfl) (fun M4 => ?_)
  refine r_aload_n (dt_Scen_clear.at 8 rfl) rfl ?_
  refine r_fR (dt_Scen_clear.at 9 rfl) fl_Scen_18 rfl (fun b5 => ?_)
  refine r_iconst (dt_Scen_clear.at 10 rfl) 0 (by decide) ?_
  refine r_csV (rest := []) (ct_Arr_fill b5 0 _) (dt_Scen_clear.at 11 rfl) mb_Arr_fill wd_340 wd_341 (by decide) rfl rfl (Nat.le_of_ble_eq_true rfl) (fun M6 => ?_)
  refine r_aload_n (dt_Scen_clear.at 12 rfl) rfl ?_
  refine r_iconst (dt_Scen_clear.at 13 rfl) 0 (by decide) ?_
  refine r_sI (dt_Scen_clear.at 14 rfl) fl_Scen_27 rfl rfl rfl (fun M7 => ?_)
  refine r_aload_n (dt_Scen_clear.at 15 rfl) rfl ?_
  refine r_iconst (dt_Scen_clear.at 16 rfl) 0 (by decide) ?_
  refine r_sI (dt_Scen_clear.at 17 rfl) fl_Scen_31 rfl rfl rfl (fun M8 => ?_)
  refine r_aload_n (dt_Scen_clear.at 18 rfl) rfl ?_
  refine r_iconst (dt_Scen_clear.at 19 rfl) 0 (by decide) ?_
  refine r_sI (dt_Scen_clear.at 20 rfl) fl_Scen_34 rfl rfl rfl (fun M9 => ?_)
  refine r_aload_n (dt_Scen_clear.at 21 rfl) rfl ?_
  refine r_iconst (dt_Scen_clear.at 22 rfl) 0 (by decide) ?_
  refine r_sI (dt_Scen_clear.at 23 rfl) fl_Scen_37 rfl rfl rfl (fun M10 => ?_)
  exact r_vret (dt_Scen_clear.at 24 rfl) rfl
set_option maxRecDepth 20000 in
set_option maxHeartbeats 2000000 in
theorem ct_Read_byteAt {G : am_G} {l : Launch} (a0 : Nat) (p1 : Int32) (M : am_M) : Ct G l y_Read_byteAt X_Read_byteAt [.ref a0, .int p1] M (F_Read_byteAt a0 p1 M) := by
  refine Ct.of (by decide +kernel) rfl rfl (Nat.le_of_ble_eq_true rfl) ?_
  unfold F_Read_byteAt
  show Rf G l X_Read_byteAt 0 [.ref a0, .int p1] [] M _
  refine r_iload_n (dt_Read_byteAt.at 0 rfl) rfl ?_
  refine r_if_lt (tgt := 30) (dt_Read_byteAt.at 1 rfl) (by decide) ?_ ?_
  · refine r_iconst (dt_Read_byteAt.at 16 rfl) (-1) (by decide) ?_
    exact r_iret (dt_Read_byteAt.at 17 rfl) rfl
  · refine r_iload_n (dt_Read_byteAt.at 2 rfl) rfl ?_
    refine r_aload_n (dt_Read_byteAt.at 3 rfl) rfl ?_
    refine r_fI (dt_Read_byteAt.at 4 rfl) fl_Read_32 rfl (fun x1 => ?_)
    refine r_icmp_ge (tgt := 30) (dt_Read_byteAt.at 5 rfl) (by decide) ?_ ?_
    · refine r_iconst (dt_Read_byteAt.at 16 rfl) (-1) (by decide) ?_
      exact r_iret (dt_Read_byteAt.at 17 rfl) rfl
    · refine r_iload_n (dt_Read_byteAt.at 6 rfl) rfl ?_
      refine r_aload_n (dt_Read_byteAt.at 7 rfl) rfl ?_
      refine r_fR (dt_Read_byteAt.at 8 rfl) fl_Read_22 rfl (fun b2 => ?_)
      refine r_aN (dt_Read_byteAt.at 9 rfl) (fun x3 => ?_)
      refine r_icmp_ge (tgt := 30) (dt_Read_byteAt.at 10 rfl) (by decide) ?_ ?_
      · refine r_iconst (dt_Read_byteAt.at 16 rfl) (-1) (by decide) ?_
        exact r_iret (dt_Read_byteAt.at 17 rfl) rfl
      · refine r_aload_n (dt_Read_byteAt.at 11 rfl) rfl ?_
        refine r_fR (dt_Read_byteAt.at 12 rfl) fl_Read_22 rfl (fun b4 => ?_)
        refine r_iload_n (dt_Read_byteAt.at 13 rfl) rfl ?_
        refine r_aI (dt_Read_byteAt.at 14 rfl) (fun x5 => ?_)
        refine r_goto (tgt := 31) (dt_Read_byteAt.at 15 rfl) (by decide) ?_
        exact r_iret (dt_Read_byteAt.at 17 rfl) rfl
set_option maxRecDepth 20000 in
set_option maxHeartbeats 2000000 in
theorem ct_Read_isLetter {G : am_G} {l : Launch} (p1 : Int32) (M : am_M) : Ct G l y_Read_isLetter X_Read_isLetter [.int p1] M (F_Read_isLetter p1 M) := by
  refine Ct.of (by decide +kernel) rfl rfl (Nat.le_of_ble_eq_true rfl) ?_
  unfold F_Read_isLetter
  show Rf G l X_Read_isLetter 0 [.int p1] [] M _
  refine r_iload_n (dt_Read_isLetter.at 0 rfl) rfl ?_
  refine r_bipush (dt_Read_isLetter.at 1 rfl) 97 (by decide) ?_
  refine r_icmp_lt (tgt := 16) (dt_Read_isLetter.at 2 rfl) (by decide) ?_ ?_
  · refine r_iconst (dt_Read_isLetter.at 8 rfl) 0 (by decide) ?_
    exact r_zret (dt_Read_isLetter.at 9 rfl) rfl rfl
  · refine r_iload_n (dt_Read_isLetter.at 3 rfl) rfl ?_
    refine r_bipush (dt_Read_isLetter.at 4 rfl) 122 (by decide) ?_
    refine r_icmp_gt (tgt := 16) (dt_Read_isLetter.at 5 rfl) (by decide) ?_ ?_
    · refine r_iconst (dt_Read_isLetter.at 8 rfl) 0 (by decide) ?_
      exact r_zret (dt_Read_isLetter.at 9 rfl) rfl rfl
    · refine r_iconst (dt_Read_isLetter.at 6 rfl) 1 (by decide) ?_
      refine r_goto (tgt := 17) (dt_Read_isLetter.at 7 rfl) (by decide) ?_
      exact r_zret (dt_Read_isLetter.at 9 rfl) rfl rfl
set_option maxRecDepth 20000 in
set_option maxHeartbeats 2000000 in
theorem ct_Read_isDigit {G : am_G} {l : Launch} (p1 : Int32) (M : am_M) : Ct G l y_Read_isDigit X_Read_isDigit [.int p1] M (F_Read_isDigit p1 M) := by
  refine Ct.of (by decide +kernel) rfl rfl (Nat.le_of_ble_eq_true rfl) ?_
  unfold F_Read_isDigit
  show Rf G l X_Read_isDigit 0 [.int p1] [] M _
  refine r_iload_n (dt_Read_isDigit.at 0 rfl) rfl ?_
  refine r_bipush (dt_Read_isDigit.at 1 rfl) 48 (by decide) ?_
  refine r_icmp_lt (tgt := 16) (dt_Read_isDigit.at 2 rfl) (by decide) ?_ ?_
  · refine r_iconst (dt_Read_isDigit.at 8 rfl) 0 (by decide) ?_
    exact r_zret (dt_Read_isDigit.at 9 rfl) rfl rfl
  · refine r_iload_n (dt_Read_isDigit.at 3 rfl) rfl ?_
    refine r_bipush (dt_Read_isDigit.at 4 rfl) 57 (by decide) ?_
    refine r_icmp_gt (tgt := 16) (dt_Read_isDigit.at 5 rfl) (by decide) ?_ ?_
    · refine r_iconst (dt_Read_isDigit.at 8 rfl) 0 (by decide) ?_
      exact r_zret (dt_Read_isDigit.at 9 rfl) rfl rfl
    · refine r_iconst (dt_Read_isDigit.at 6 rfl) 1 (by decide) ?_
      refine r_goto (tgt := 17) (dt_Read_isDigit.at 7 rfl) (by decide) ?_
      exact r_zret (dt_Read_isDigit.at 9 rfl) rfl rfl
set_option maxRecDepth 20000 in
set_option maxHeartbeats 2000000 in
theorem rf_Read_advance_L170 {G : am_G} {l : Launch}   : ∀ (n : Nat) (v0 : Nat) (M : am_M), Rf G l X_Read_advance 170 [.ref v0] [] M (F_Read_advance_L170 n v0 M) := by
  intro n
  induction n with
  | zero => intro v0 M; exact Rf.no
  | succ n ih =>
    intro v0 M
    unfold F_Read_advance_L170
    refine r_aload_n (dt_Read_advance.at 82 rfl) rfl ?_
    refine r_fI (dt_Read_advance.at 83 rfl) fl_Read_41 rfl (fun x24 => ?_)
    refine r_aload_n (dt_Read_advance.at 84 rfl) rfl ?_
    refine r_fI (dt_Read_advance.at 85 rfl) fl_Read_32 rfl (fun x25 => ?_)
    refine r_icmp_ge (tgt := 251) (dt_Read_advance.at 86 rfl) (by decide) ?_ ?_
    · exact r_vret (dt_Read_advance.at 124 rfl) rfl
    · refine r_aload_n (dt_Read_advance.at 87 rfl) rfl ?_
      refine r_aload_n (dt_Read_advance.at 88 rfl) rfl ?_
      refine r_fI (dt_Read_advance.at 89 rfl) fl_Read_41 rfl (fun x26 => ?_)
      refine r_cvI (c := 4) (rest := []) (ct_Read_byteAt v0 x26 _) (dt_Read_advance.at 90 rfl) mb_Read_byteAt wd_347 wd_349 wp_2 rfl (by decide) rfl rfl (Nat.le_of_ble_eq_true rfl) (fun r28 M27 => ?_)
      refine r_csI (rest := []) (ct_Read_isDigit r28 _) (dt_Read_advance.at 91 rfl) mb_Read_isDigit wd_354 wd_355 (by decide) rfl rfl (Nat.le_of_ble_eq_true rfl) (fun r30 M29 => ?_)
      refine r_if_eq (tgt := 251) (dt_Read_advance.at 92 rfl) (by decide) ?_ ?_
      · exact r_vret (dt_Read_advance.at 124 rfl) rfl
      · refine r_aload_n (dt_Read_advance.at 93 rfl) rfl ?_
        refine r_ldc (dt_Read_advance.at 94 rfl) 100000000 wd_357 ?_
        refine r_aload_n (dt_Read_advance.at 95 rfl) rfl ?_
        refine r_fI (dt_Read_advance.at 96 rfl) fl_Read_138 rfl (fun x31 => ?_)
        refine r_bipush (dt_Read_advance.at 97 rfl) 10 (by decide) ?_
        refine r_imul (dt_Read_advance.at 98 rfl) ?_
        refine r_aload_n (dt_Read_advance.at 99 rfl) rfl ?_
        refine r_aload_n (dt_Read_advance.at 100 rfl) rfl ?_
        refine r_fI (dt_Read_advance.at 101 rfl) fl_Read_41 rfl (fun x32 => ?_)
        refine r_cvI (c := 4) (rest := [.int (x31 * 10), .int 100000000, .ref v0]) (ct_Read_byteAt v0 x32 _) (dt_Read_advance.at 102 rfl) mb_Read_byteAt wd_347 wd_349 wp_2 rfl (by decide) rfl rfl (Nat.le_of_ble_eq_true rfl) (fun r34 M33 => ?_)
        refine r_iadd (dt_Read_advance.at 103 rfl) ?_
        refine r_bipush (dt_Read_advance.at 104 rfl) 48 (by decide) ?_
        refine r_isub (dt_Read_advance.at 105 rfl) ?_
        refine r_csI (rest := [.ref v0]) (ct_Math_min 100000000 (((x31 * 10) + r34) - 48) _) (dt_Read_advance.at 106 rfl) mb_Math_min wd_333 wd_334 (by decide) rfl rfl (Nat.le_of_ble_eq_true rfl) (fun r36 M35 => ?_)
        refine r_sI (dt_Read_advance.at 107 rfl) fl_Read_138 rfl rfl rfl (fun M37 => ?_)
        refine r_aload_n (dt_Read_advance.at 108 rfl) rfl ?_
        refine r_dup (dt_Read_advance.at 109 rfl) rfl ?_
        refine r_fI (dt_Read_advance.at 110 rfl) fl_Read_41 rfl (fun x38 => ?_)
        refine r_iconst (dt_Read_advance.at 111 rfl) 1 (by decide) ?_
        refine r_iadd (dt_Read_advance.at 112 rfl) ?_
        refine r_sI (dt_Read_advance.at 113 rfl) fl_Read_41 rfl rfl rfl (fun M39 => ?_)
        refine r_goto (tgt := 170) (dt_Read_advance.at 114 rfl) (by decide) ?_
        exact Rf.msk [true] (ih v0 M39)
set_option maxRecDepth 20000 in
set_option maxHeartbeats 2000000 in
theorem rf_Read_advance_L112 {G : am_G} {l : Launch}   : ∀ (n : Nat) (v0 : Nat) (M : am_M), Rf G l X_Read_advance 112 [.ref v0] [] M (F_Read_advance_L112 n v0 M) := by
  intro n
  induction n with
  | zero => intro v0 M; exact Rf.no
  | succ n ih =>
    intro v0 M
    unfold F_Read_advance_L112
    refine r_aload_n (dt_Read_advance.at 54 rfl) rfl ?_
    refine r_fI (dt_Read_advance.at 55 rfl) fl_Read_41 rfl (fun x41 => ?_)
    refine r_aload_n (dt_Read_advance.at 56 rfl) rfl ?_
    refine r_fI (dt_Read_advance.at 57 rfl) fl_Read_32 rfl (fun x42 => ?_)
    refine r_icmp_ge (tgt := 251) (dt_Read_advance.at 58 rfl) (by decide) ?_ ?_
    · exact r_vret (dt_Read_advance.at 124 rfl) rfl
    · refine r_aload_n (dt_Read_advance.at 59 rfl) rfl ?_
      refine r_aload_n (dt_Read_advance.at 60 rfl) rfl ?_
      refine r_fI (dt_Read_advance.at 61 rfl) fl_Read_41 rfl (fun x43 => ?_)
      refine r_cvI (c := 4) (rest := []) (ct_Read_byteAt v0 x43 _) (dt_Read_advance.at 62 rfl) mb_Read_byteAt wd_347 wd_349 wp_2 rfl (by decide) rfl rfl (Nat.le_of_ble_eq_true rfl) (fun r45 M44 => ?_)
      refine r_csI (rest := []) (ct_Read_isLetter r45 _) (dt_Read_advance.at 63 rfl) mb_Read_isLetter wd_351 wd_352 (by decide) rfl rfl (Nat.le_of_ble_eq_true rfl) (fun r47 M46 => ?_)
      refine r_if_eq (tgt := 251) (dt_Read_advance.at 64 rfl) (by decide) ?_ ?_
      · exact r_vret (dt_Read_advance.at 124 rfl) rfl
      · refine r_aload_n (dt_Read_advance.at 65 rfl) rfl ?_
        refine r_dup (dt_Read_advance.at 66 rfl) rfl ?_
        refine r_fI (dt_Read_advance.at 67 rfl) fl_Read_41 rfl (fun x48 => ?_)
        refine r_iconst (dt_Read_advance.at 68 rfl) 1 (by decide) ?_
        refine r_iadd (dt_Read_advance.at 69 rfl) ?_
        refine r_sI (dt_Read_advance.at 70 rfl) fl_Read_41 rfl rfl rfl (fun M49 => ?_)
        refine r_goto (tgt := 112) (dt_Read_advance.at 71 rfl) (by decide) ?_
        exact Rf.msk [true] (ih v0 M49)
set_option maxRecDepth 20000 in
set_option maxHeartbeats 2000000 in
theorem rf_Read_advance_L58 {G : am_G} {l : Launch}   (v0 : Nat) (M : am_M) : Rf G l X_Read_advance 58 [.ref v0] [] M (F_Read_advance_L58 v0 M) := by
  unfold F_Read_advance_L58
  refine r_aload_n (dt_Read_advance.at 28 rfl) rfl ?_
  refine r_aload_n (dt_Read_advance.at 29 rfl) rfl ?_
  refine r_fI (dt_Read_advance.at 30 rfl) fl_Read_175 rfl (fun x5 => ?_)
  refine r_sI (dt_Read_advance.at 31 rfl) fl_Read_41 rfl rfl rfl (fun M6 => ?_)
  refine r_aload_n (dt_Read_advance.at 32 rfl) rfl ?_
  refine r_aload_n (dt_Read_advance.at 33 rfl) rfl ?_
  refine r_aload_n (dt_Read_advance.at 34 rfl) rfl ?_
  refine r_fI (dt_Read_advance.at 35 rfl) fl_Read_175 rfl (fun x7 => ?_)
  refine r_cvI (c := 4) (rest := [.ref v0]) (ct_Read_byteAt v0 x7 _) (dt_Read_advance.at 36 rfl) mb_Read_byteAt wd_347 wd_349 wp_2 rfl (by decide) rfl rfl (Nat.le_of_ble_eq_true rfl) (fun r9 M8 => ?_)
  refine r_sI (dt_Read_advance.at 37 rfl) fl_Read_138 rfl rfl rfl (fun M10 => ?_)
  refine r_aload_n (dt_Read_advance.at 38 rfl) rfl ?_
  refine r_fI (dt_Read_advance.at 39 rfl) fl_Read_175 rfl (fun x11 => ?_)
  refine r_aload_n (dt_Read_advance.at 40 rfl) rfl ?_
  refine r_fI (dt_Read_advance.at 41 rfl) fl_Read_32 rfl (fun x12 => ?_)
  refine r_icmp_lt (tgt := 97) (dt_Read_advance.at 42 rfl) (by decide) ?_ ?_
  · refine r_aload_n (dt_Read_advance.at 47 rfl) rfl ?_
    refine r_fI (dt_Read_advance.at 48 rfl) fl_Read_138 rfl (fun x13 => ?_)
    refine r_csI (rest := []) (ct_Read_isLetter x13 _) (dt_Read_advance.at 49 rfl) mb_Read_isLetter wd_351 wd_352 (by decide) rfl rfl (Nat.le_of_ble_eq_true rfl) (fun r15 M14 => ?_)
    refine r_if_eq (tgt := 150) (dt_Read_advance.at 50 rfl) (by decide) ?_ ?_
    · refine r_aload_n (dt_Read_advance.at 72 rfl) rfl ?_
      refine r_fI (dt_Read_advance.at 73 rfl) fl_Read_138 rfl (fun x16 => ?_)
      refine r_csI (rest := []) (ct_Read_isDigit x16 _) (dt_Read_advance.at 74 rfl) mb_Read_isDigit wd_354 wd_355 (by decide) rfl rfl (Nat.le_of_ble_eq_true rfl) (fun r18 M17 => ?_)
      refine r_if_eq (tgt := 236) (dt_Read_advance.at 75 rfl) (by decide) ?_ ?_
      · refine r_aload_n (dt_Read_advance.at 115 rfl) rfl ?_
        refine r_iconst (dt_Read_advance.at 116 rfl) 3 (by decide) ?_
        refine r_sI (dt_Read_advance.at 117 rfl) fl_Read_50 rfl rfl rfl (fun M19 => ?_)
        refine r_aload_n (dt_Read_advance.at 118 rfl) rfl ?_
        refine r_dup (dt_Read_advance.at 119 rfl) rfl ?_
        refine r_fI (dt_Read_advance.at 120 rfl) fl_Read_41 rfl (fun x20 => ?_)
        refine r_iconst (dt_Read_advance.at 121 rfl) 1 (by decide) ?_
        refine r_iadd (dt_Read_advance.at 122 rfl) ?_
        refine r_sI (dt_Read_advance.at 123 rfl) fl_Read_41 rfl rfl rfl (fun M21 => ?_)
        exact r_vret (dt_Read_advance.at 124 rfl) rfl
      · refine r_aload_n (dt_Read_advance.at 76 rfl) rfl ?_
        refine r_iconst (dt_Read_advance.at 77 rfl) 2 (by decide) ?_
        refine r_sI (dt_Read_advance.at 78 rfl) fl_Read_50 rfl rfl rfl (fun M22 => ?_)
        refine r_aload_n (dt_Read_advance.at 79 rfl) rfl ?_
        refine r_iconst (dt_Read_advance.at 80 rfl) 0 (by decide) ?_
        refine r_sI (dt_Read_advance.at 81 rfl) fl_Read_138 rfl rfl rfl (fun M23 => ?_)
        exact Rf.msk [true] (rf_Read_advance_L170 fu v0 M23)
    · refine r_aload_n (dt_Read_advance.at 51 rfl) rfl ?_
      refine r_iconst (dt_Read_advance.at 52 rfl) 1 (by decide) ?_
      refine r_sI (dt_Read_advance.at 53 rfl) fl_Read_50 rfl rfl rfl (fun M40 => ?_)
      exact Rf.msk [true] (rf_Read_advance_L112 fu v0 M40)
  · refine r_aload_n (dt_Read_advance.at 43 rfl) rfl ?_
    refine r_iconst (dt_Read_advance.at 44 rfl) 0 (by decide) ?_
    refine r_sI (dt_Read_advance.at 45 rfl) fl_Read_50 rfl rfl rfl (fun M50 => ?_)
    refine r_goto (tgt := 251) (dt_Read_advance.at 46 rfl) (by decide) ?_
    exact r_vret (dt_Read_advance.at 124 rfl) rfl
set_option maxRecDepth 20000 in
set_option maxHeartbeats 2000000 in
theorem rf_Read_advance_L45 {G : am_G} {l : Launch} (k8 : Nat → am_M → am_R) (hk8 : ∀ v0 M, Rf G l X_Read_advance 8 [.ref v0] [] M (k8 v0 M)) (v0 : Nat) (M : am_M) : Rf G l X_Read_advance 45 [.ref v0] [] M (F_Read_advance_L45 k8 v0 M) := by
  unfold F_Read_advance_L45
  refine r_aload_n (dt_Read_advance.at 21 rfl) rfl ?_
  refine r_dup (dt_Read_advance.at 22 rfl) rfl ?_
  refine r_fI (dt_Read_advance.at 23 rfl) fl_Read_175 rfl (fun x54 => ?_)
  refine r_iconst (dt_Read_advance.at 24 rfl) 1 (by decide) ?_
  refine r_iadd (dt_Read_advance.at 25 rfl) ?_
  refine r_sI (dt_Read_advance.at 26 rfl) fl_Read_175 rfl rfl rfl (fun M55 => ?_)
  refine r_goto (tgt := 8) (dt_Read_advance.at 27 rfl) (by decide) ?_
  exact Rf.msk [true] (hk8 v0 M55)
set_option maxRecDepth 20000 in
set_option maxHeartbeats 2000000 in
theorem rf_Read_advance_L8 {G : am_G} {l : Launch}   : ∀ (n : Nat) (v0 : Nat) (M : am_M), Rf G l X_Read_advance 8 [.ref v0] [] M (F_Read_advance_L8 n v0 M) := by
  intro n
  induction n with
  | zero => intro v0 M; exact Rf.no
  | succ n ih =>
    intro v0 M
    unfold F_Read_advance_L8
    refine r_aload_n (dt_Read_advance.at 4 rfl) rfl ?_
    refine r_fI (dt_Read_advance.at 5 rfl) fl_Read_175 rfl (fun x3 => ?_)
    refine r_aload_n (dt_Read_advance.at 6 rfl) rfl ?_
    refine r_fI (dt_Read_advance.at 7 rfl) fl_Read_32 rfl (fun x4 => ?_)
    refine r_icmp_ge (tgt := 58) (dt_Read_advance.at 8 rfl) (by decide) ?_ ?_
    · exact Rf.msk [true] (rf_Read_advance_L58 v0 M)
    · refine r_aload_n (dt_Read_advance.at 9 rfl) rfl ?_
      refine r_aload_n (dt_Read_advance.at 10 rfl) rfl ?_
      refine r_fI (dt_Read_advance.at 11 rfl) fl_Read_175 rfl (fun x51 => ?_)
      refine r_cvI (c := 4) (rest := []) (ct_Read_byteAt v0 x51 _) (dt_Read_advance.at 12 rfl) mb_Read_byteAt wd_347 wd_349 wp_2 rfl (by decide) rfl rfl (Nat.le_of_ble_eq_true rfl) (fun r53 M52 => ?_)
      refine r_bipush (dt_Read_advance.at 13 rfl) 32 (by decide) ?_
      refine r_icmp_eq (tgt := 45) (dt_Read_advance.at 14 rfl) (by decide) ?_ ?_
      · exact Rf.msk [true] (rf_Read_advance_L45 (F_Read_advance_L8 n) ih v0 M52)
      · refine r_aload_n (dt_Read_advance.at 15 rfl) rfl ?_
        refine r_aload_n (dt_Read_advance.at 16 rfl) rfl ?_
        refine r_fI (dt_Read_advance.at 17 rfl) fl_Read_175 rfl (fun x56 => ?_)
        refine r_cvI (c := 4) (rest := []) (ct_Read_byteAt v0 x56 _) (dt_Read_advance.at 18 rfl) mb_Read_byteAt wd_347 wd_349 wp_2 rfl (by decide) rfl rfl (Nat.le_of_ble_eq_true rfl) (fun r58 M57 => ?_)
        refine r_bipush (dt_Read_advance.at 19 rfl) 10 (by decide) ?_
        refine r_icmp_ne (tgt := 58) (dt_Read_advance.at 20 rfl) (by decide) ?_ ?_
        · exact Rf.msk [true] (rf_Read_advance_L45 (F_Read_advance_L8 n) ih v0 M57)
        · exact Rf.msk [true] (rf_Read_advance_L58 v0 M57)
set_option maxRecDepth 20000 in
set_option maxHeartbeats 2000000 in
theorem ct_Read_advance {G : am_G} {l : Launch} (a0 : Nat) (M : am_M) : Ct G l y_Read_advance X_Read_advance [.ref a0] M (F_Read_advance a0 M) := by
  refine Ct.of (by decide +kernel) rfl rfl (Nat.le_of_ble_eq_true rfl) ?_
  unfold F_Read_advance
  show Rf G l X_Read_advance 0 [.ref a0] [] M _
  refine r_aload_n (dt_Read_advance.at 0 rfl) rfl ?_
  refine r_aload_n (dt_Read_advance.at 1 rfl) rfl ?_
  refine r_fI (dt_Read_advance.at 2 rfl) fl_Read_41 rfl (fun x1 => ?_)
  refine r_sI (dt_Read_advance.at 3 rfl) fl_Read_175 rfl rfl rfl (fun M2 => ?_)
  exact Rf.msk [true] (rf_Read_advance_L8 fu a0 M2)
set_option maxRecDepth 20000 in
set_option maxHeartbeats 2000000 in
theorem ct_Str_coder {G : am_G} {l : Launch} (a0 : Nat) (M : am_M) : Ct G l y_Str_coder X_Str_coder [.retAddr a0] M (F_Str_coder a0 M) := by
  refine Ct.ofF (by decide +kernel) rfl rfl (Nat.le_of_ble_eq_true rfl) ?_
  unfold F_Str_coder
  show Rf G l X_Str_coder 0 [.retAddr a0] [] M _
  refine r_getZ (dt_Str_coder.at 0 rfl) wd_383 ?_
  refine r_if_eq (tgt := 13) (dt_Str_coder.at 1 rfl) (by decide) ?_ ?_
  · refine r_iconst (dt_Str_coder.at 5 rfl) 1 (by decide) ?_
    exact r_zret (dt_Str_coder.at 6 rfl) rfl rfl
  · refine r_aload_sv (dt_Str_coder.at 2 rfl) rfl ?_
    refine r_spC (dt_Str_coder.at 3 rfl) wd_1798 ?_
    refine r_goto (tgt := 14) (dt_Str_coder.at 4 rfl) (by decide) ?_
    exact r_zret (dt_Str_coder.at 6 rfl) rfl rfl
set_option maxRecDepth 20000 in
set_option maxHeartbeats 2000000 in
theorem ct_Str_length {G : am_G} {l : Launch} (a0 : Nat) (M : am_M) : Ct G l y_Str_length X_Str_length [.retAddr a0] M (F_Str_length a0 M) := by
  refine Ct.ofF (by decide +kernel) rfl rfl (Nat.le_of_ble_eq_true rfl) ?_
  unfold F_Str_length
  show Rf G l X_Str_length 0 [.retAddr a0] [] M _
  refine r_aload_sv (dt_Str_length.at 0 rfl) rfl ?_
  refine r_spV (dt_Str_length.at 1 rfl) wd_1797 ?_
  refine r_xLn (dt_Str_length.at 2 rfl) (fun x1 => ?_)
  refine r_aload_sv (dt_Str_length.at 3 rfl) rfl ?_
  refine r_cvS (rest := [.int x1]) (ct_Str_coder a0 _) (dt_Str_length.at 4 rfl) mb_Str_coder wd_379 wd_380 wd_381 (by decide) rfl rfl (Nat.le_of_ble_eq_true rfl) (fun r3 M2 => ?_)
  refine r_ishr (dt_Str_length.at 5 rfl) ?_
  exact r_iret (dt_Str_length.at 6 rfl) rfl
set_option maxRecDepth 20000 in
set_option maxHeartbeats 2000000 in
theorem ct_Str_isLatin1 {G : am_G} {l : Launch} (a0 : Nat) (M : am_M) : Ct G l y_Str_isLatin1 X_Str_isLatin1 [.retAddr a0] M (F_Str_isLatin1 a0 M) := by
  refine Ct.ofF (by decide +kernel) rfl rfl (Nat.le_of_ble_eq_true rfl) ?_
  unfold F_Str_isLatin1
  show Rf G l X_Str_isLatin1 0 [.retAddr a0] [] M _
  refine r_getZ (dt_Str_isLatin1.at 0 rfl) wd_383 ?_
  refine r_if_eq (tgt := 17) (dt_Str_isLatin1.at 1 rfl) (by decide) ?_ ?_
  · refine r_iconst (dt_Str_isLatin1.at 7 rfl) 0 (by decide) ?_
    exact r_zret (dt_Str_isLatin1.at 8 rfl) rfl rfl
  · refine r_aload_sv (dt_Str_isLatin1.at 2 rfl) rfl ?_
    refine r_spC (dt_Str_isLatin1.at 3 rfl) wd_1798 ?_
    refine r_if_ne (tgt := 17) (dt_Str_isLatin1.at 4 rfl) (by decide) ?_ ?_
    · refine r_iconst (dt_Str_isLatin1.at 5 rfl) 1 (by decide) ?_
      refine r_goto (tgt := 18) (dt_Str_isLatin1.at 6 rfl) (by decide) ?_
      exact r_zret (dt_Str_isLatin1.at 8 rfl) rfl rfl
    · refine r_iconst (dt_Str_isLatin1.at 7 rfl) 0 (by decide) ?_
      exact r_zret (dt_Str_isLatin1.at 8 rfl) rfl rfl
set_option maxRecDepth 20000 in
set_option maxHeartbeats 2000000 in
theorem ct_Prec_checkIndex {G : am_G} {l : Launch} (p1 : Int32) (p2 : Int32) (p3 : Nat) (M : am_M) : Ct G l y_Prec_checkIndex X_Prec_checkIndex [.int p1, .int p2, .retAddr p3] M (F_Prec_checkIndex p1 p2 p3 M) := by
  refine Ct.ofF (by decide +kernel) rfl rfl (Nat.le_of_ble_eq_true rfl) ?_
  unfold F_Prec_checkIndex
  show Rf G l X_Prec_checkIndex 0 [.int p1, .int p2, .retAddr p3] [] M _
  refine r_iload_n (dt_Prec_checkIndex.at 0 rfl) rfl ?_
  refine r_if_lt (tgt := 9) (dt_Prec_checkIndex.at 1 rfl) (by decide) ?_ ?_
  · refine r_aload_sv (dt_Prec_checkIndex.at 5 rfl) rfl ?_
    refine r_iload_n (dt_Prec_checkIndex.at 6 rfl) rfl ?_
    refine r_iload_n (dt_Prec_checkIndex.at 7 rfl) rfl ?_
    exact Rf.no
  · refine r_iload_n (dt_Prec_checkIndex.at 2 rfl) rfl ?_
    refine r_iload_n (dt_Prec_checkIndex.at 3 rfl) rfl ?_
    refine r_icmp_lt (tgt := 16) (dt_Prec_checkIndex.at 4 rfl) (by decide) ?_ ?_
    · refine r_iload_n (dt_Prec_checkIndex.at 10 rfl) rfl ?_
      exact r_iret (dt_Prec_checkIndex.at 11 rfl) rfl
    · refine r_aload_sv (dt_Prec_checkIndex.at 5 rfl) rfl ?_
      refine r_iload_n (dt_Prec_checkIndex.at 6 rfl) rfl ?_
      refine r_iload_n (dt_Prec_checkIndex.at 7 rfl) rfl ?_
      exact Rf.no
set_option maxRecDepth 20000 in
set_option maxHeartbeats 2000000 in
theorem ct_Str_checkIndex {G : am_G} {l : Launch} (p1 : Int32) (p2 : Int32) (M : am_M) : Ct G l y_Str_checkIndex X_Str_checkIndex [.int p1, .int p2] M (F_Str_checkIndex p1 p2 M) := by
  refine Ct.ofF (by decide +kernel) rfl rfl (Nat.le_of_ble_eq_true rfl) ?_
  unfold F_Str_checkIndex
  show Rf G l X_Str_checkIndex 0 [.int p1, .int p2] [] M _
  refine r_iload_n (dt_Str_checkIndex.at 0 rfl) rfl ?_
  refine r_iload_n (dt_Str_checkIndex.at 1 rfl) rfl ?_
  refine r_getF (dt_Str_checkIndex.at 2 rfl) wd_399 ?_
  refine r_csI (rest := []) (ct_Prec_checkIndex p1 p2 4 _) (dt_Str_checkIndex.at 3 rfl) mb_Prec_checkIndex wd_401 wd_402 (by decide) rfl rfl (Nat.le_of_ble_eq_true rfl) (fun r2 M1 => ?_)
  refine r_pop (dt_Str_checkIndex.at 4 rfl) rfl ?_
  exact r_vret (dt_Str_checkIndex.at 5 rfl) rfl
set_option maxRecDepth 20000 in
set_option maxHeartbeats 2000000 in
theorem ct_Lat_charAt {G : am_G} {l : Launch} (p1 : Nat) (p2 : Int32) (M : am_M) : Ct G l y_Lat_charAt X_Lat_charAt [.retAddr p1, .int p2] M (F_Lat_charAt p1 p2 M) := by
  refine Ct.ofF (by decide +kernel) rfl rfl (Nat.le_of_ble_eq_true rfl) ?_
  unfold F_Lat_charAt
  show Rf G l X_Lat_charAt 0 [.retAddr p1, .int p2] [] M _
  refine r_iload_n (dt_Lat_charAt.at 0 rfl) rfl ?_
  refine r_aload_sv (dt_Lat_charAt.at 1 rfl) rfl ?_
  refine r_xLn (dt_Lat_charAt.at 2 rfl) (fun x1 => ?_)
  refine r_csV (rest := []) (ct_Str_checkIndex p2 x1 _) (dt_Lat_charAt.at 3 rfl) mb_Str_checkIndex wd_396 wd_397 (by decide) rfl rfl (Nat.le_of_ble_eq_true rfl) (fun M2 => ?_)
  refine r_aload_sv (dt_Lat_charAt.at 4 rfl) rfl ?_
  refine r_iload_n (dt_Lat_charAt.at 5 rfl) rfl ?_
  refine r_xB (dt_Lat_charAt.at 6 rfl) (fun x3 => ?_)
  refine r_sipush (dt_Lat_charAt.at 7 rfl) 255 (by decide) ?_
  refine r_iand (dt_Lat_charAt.at 8 rfl) ?_
  refine r_i2c (dt_Lat_charAt.at 9 rfl) ?_
  exact r_zretC (dt_Lat_charAt.at 10 rfl) rfl
set_option maxRecDepth 20000 in
set_option maxHeartbeats 2000000 in
theorem ct_Str_charAt {G : am_G} {l : Launch} (a0 : Nat) (p1 : Int32) (M : am_M) : Ct G l y_Str_charAt X_Str_charAt [.retAddr a0, .int p1] M (F_Str_charAt a0 p1 M) := by
  refine Ct.ofF (by decide +kernel) rfl rfl (Nat.le_of_ble_eq_true rfl) ?_
  unfold F_Str_charAt
  show Rf G l X_Str_charAt 0 [.retAddr a0, .int p1] [] M _
  refine r_aload_sv (dt_Str_charAt.at 0 rfl) rfl ?_
  refine r_cvS (rest := []) (ct_Str_isLatin1 a0 _) (dt_Str_charAt.at 1 rfl) mb_Str_isLatin1 wd_389 wd_390 wd_391 (by decide) rfl rfl (Nat.le_of_ble_eq_true rfl) (fun r2 M1 => ?_)
  refine r_if_eq (tgt := 16) (dt_Str_charAt.at 2 rfl) (by decide) ?_ ?_
  · refine r_aload_sv (dt_Str_charAt.at 8 rfl) rfl ?_
    refine r_spV (dt_Str_charAt.at 9 rfl) wd_1797 ?_
    refine r_iload_n (dt_Str_charAt.at 10 rfl) rfl ?_
    exact Rf.no
  · refine r_aload_sv (dt_Str_charAt.at 3 rfl) rfl ?_
    refine r_spV (dt_Str_charAt.at 4 rfl) wd_1797 ?_
    refine r_iload_n (dt_Str_charAt.at 5 rfl) rfl ?_
    refine r_csI (rest := []) (ct_Lat_charAt (a0 + 100) p1 _) (dt_Str_charAt.at 6 rfl) mb_Lat_charAt wd_393 wd_394 (by decide) rfl rfl (Nat.le_of_ble_eq_true rfl) (fun r4 M3 => ?_)
    exact r_zretC (dt_Str_charAt.at 7 rfl) rfl
set_option maxRecDepth 20000 in
set_option maxHeartbeats 2000000 in
theorem rf_Read_isWord_L35 {G : am_G} {l : Launch}   : ∀ (n : Nat) (v0 : Nat) (v1 : Nat) (v2 : Int32) (M : am_M), Rf G l X_Read_isWord 35 [.ref v0, .retAddr v1, .int v2] [] M (F_Read_isWord_L35 n v0 v1 v2 M) := by
  intro n
  induction n with
  | zero => intro v0 v1 v2 M; exact Rf.no
  | succ n ih =>
    intro v0 v1 v2 M
    unfold F_Read_isWord_L35
    refine r_iload_n (dt_Read_isWord.at 19 rfl) rfl ?_
    refine r_aload_sv (dt_Read_isWord.at 20 rfl) rfl ?_
    refine r_cvS (rest := [.int v2]) (ct_Str_length v1 _) (dt_Read_isWord.at 21 rfl) mb_Str_length wd_375 wd_376 wd_377 (by decide) rfl rfl (Nat.le_of_ble_eq_true rfl) (fun r8 M7 => ?_)
    refine r_icmp_ge (tgt := 69) (dt_Read_isWord.at 22 rfl) (by decide) ?_ ?_
    · refine r_iconst (dt_Read_isWord.at 37 rfl) 1 (by decide) ?_
      exact r_zret (dt_Read_isWord.at 38 rfl) rfl rfl
    · refine r_aload_n (dt_Read_isWord.at 23 rfl) rfl ?_
      refine r_aload_n (dt_Read_isWord.at 24 rfl) rfl ?_
      refine r_fI (dt_Read_isWord.at 25 rfl) fl_Read_175 rfl (fun x9 => ?_)
      refine r_iload_n (dt_Read_isWord.at 26 rfl) rfl ?_
      refine r_iadd (dt_Read_isWord.at 27 rfl) ?_
      refine r_cvI (c := 4) (rest := []) (ct_Read_byteAt v0 (x9 + v2) _) (dt_Read_isWord.at 28 rfl) mb_Read_byteAt wd_347 wd_349 wp_2 rfl (by decide) rfl rfl (Nat.le_of_ble_eq_true rfl) (fun r11 M10 => ?_)
      refine r_aload_sv (dt_Read_isWord.at 29 rfl) rfl ?_
      refine r_iload_n (dt_Read_isWord.at 30 rfl) rfl ?_
      refine r_cvS (rest := [.int r11]) (ct_Str_charAt v1 v2 _) (dt_Read_isWord.at 31 rfl) mb_Str_charAt wd_385 wd_386 wd_387 (by decide) rfl rfl (Nat.le_of_ble_eq_true rfl) (fun r13 M12 => ?_)
      refine r_icmp_eq (tgt := 63) (dt_Read_isWord.at 32 rfl) (by decide) ?_ ?_
      · refine r_iincn (v := 1) (dt_Read_isWord.at 35 rfl) (by decide) rfl (by decide) (fun y => [.ref v0, .retAddr v1, .int y]) (fun _ => rfl) (fun x14 => ?_)
        refine r_goto (tgt := 35) (dt_Read_isWord.at 36 rfl) (by decide) ?_
        exact Rf.msk [true, true, true] (ih v0 v1 x14 M12)
      · refine r_iconst (dt_Read_isWord.at 33 rfl) 0 (by decide) ?_
        exact r_zret (dt_Read_isWord.at 34 rfl) rfl rfl
set_option maxRecDepth 20000 in
set_option maxHeartbeats 2000000 in
theorem ct_Read_isWord {G : am_G} {l : Launch} (a0 : Nat) (p1 : Nat) (M : am_M) : Ct G l y_Read_isWord X_Read_isWord [.ref a0, .retAddr p1] M (F_Read_isWord a0 p1 M) := by
  refine Ct.of (by decide +kernel) rfl rfl (Nat.le_of_ble_eq_true rfl) ?_
  unfold F_Read_isWord
  show Rf G l X_Read_isWord 0 [.ref a0, .retAddr p1, .retAddr 0] [] M _
  refine r_aload_n (dt_Read_isWord.at 0 rfl) rfl ?_
  refine r_fI (dt_Read_isWord.at 1 rfl) fl_Read_38 rfl (fun x1 => ?_)
  refine r_if_ne (tgt := 31) (dt_Read_isWord.at 2 rfl) (by decide) ?_ ?_
  · refine r_aload_n (dt_Read_isWord.at 3 rfl) rfl ?_
    refine r_fI (dt_Read_isWord.at 4 rfl) fl_Read_50 rfl (fun x2 => ?_)
    refine r_iconst (dt_Read_isWord.at 5 rfl) 1 (by decide) ?_
    refine r_icmp_ne (tgt := 31) (dt_Read_isWord.at 6 rfl) (by decide) ?_ ?_
    · refine r_aload_n (dt_Read_isWord.at 7 rfl) rfl ?_
      refine r_fI (dt_Read_isWord.at 8 rfl) fl_Read_41 rfl (fun x3 => ?_)
      refine r_aload_n (dt_Read_isWord.at 9 rfl) rfl ?_
      refine r_fI (dt_Read_isWord.at 10 rfl) fl_Read_175 rfl (fun x4 => ?_)
      refine r_isub (dt_Read_isWord.at 11 rfl) ?_
      refine r_aload_sv (dt_Read_isWord.at 12 rfl) rfl ?_
      refine r_cvS (rest := [.int (x3 - x4)]) (ct_Str_length p1 _) (dt_Read_isWord.at 13 rfl) mb_Str_length wd_375 wd_376 wd_377 (by decide) rfl rfl (Nat.le_of_ble_eq_true rfl) (fun r6 M5 => ?_)
      refine r_icmp_eq (tgt := 33) (dt_Read_isWord.at 14 rfl) (by decide) ?_ ?_
      · refine r_iconst (dt_Read_isWord.at 17 rfl) 0 (by decide) ?_
        refine r_istore_n (ls' := [.ref a0, .retAddr p1, .int 0]) (dt_Read_isWord.at 18 rfl) (by decide) rfl ?_
        exact Rf.msk [true, true, true] (rf_Read_isWord_L35 fu a0 p1 0 M5)
      · refine r_iconst (dt_Read_isWord.at 15 rfl) 0 (by decide) ?_
        exact r_zret (dt_Read_isWord.at 16 rfl) rfl rfl
    · refine r_iconst (dt_Read_isWord.at 15 rfl) 0 (by decide) ?_
      exact r_zret (dt_Read_isWord.at 16 rfl) rfl rfl
  · refine r_iconst (dt_Read_isWord.at 15 rfl) 0 (by decide) ?_
    exact r_zret (dt_Read_isWord.at 16 rfl) rfl rfl
set_option maxRecDepth 20000 in
set_option maxHeartbeats 2000000 in
theorem ct_Read_takeWord {G : am_G} {l : Launch} (a0 : Nat) (p1 : Nat) (M : am_M) : Ct G l y_Read_takeWord X_Read_takeWord [.ref a0, .retAddr p1] M (F_Read_takeWord a0 p1 M) := by
  refine Ct.of (by decide +kernel) rfl rfl (Nat.le_of_ble_eq_true rfl) ?_
  unfold F_Read_takeWord
  show Rf G l X_Read_takeWord 0 [.ref a0, .retAddr p1] [] M _
  refine r_aload_n (dt_Read_takeWord.at 0 rfl) rfl ?_
  refine r_aload_sv (dt_Read_takeWord.at 1 rfl) rfl ?_
  refine r_cvI (c := 4) (rest := []) (ct_Read_isWord a0 p1 _) (dt_Read_takeWord.at 2 rfl) mb_Read_isWord wd_371 wd_373 wp_6 rfl (by decide) rfl rfl (Nat.le_of_ble_eq_true rfl) (fun r2 M1 => ?_)
  refine r_if_ne (tgt := 10) (dt_Read_takeWord.at 3 rfl) (by decide) ?_ ?_
  · refine r_iconst (dt_Read_takeWord.at 4 rfl) 0 (by decide) ?_
    exact r_zret (dt_Read_takeWord.at 5 rfl) rfl rfl
  · refine r_aload_n (dt_Read_takeWord.at 6 rfl) rfl ?_
    refine r_cvV (c := 4) (rest := []) (ct_Read_advance a0 _) (dt_Read_takeWord.at 7 rfl) mb_Read_advance wd_343 wd_345 wp_1 rfl (by decide) rfl rfl (Nat.le_of_ble_eq_true rfl) (fun M3 => ?_)
    refine r_iconst (dt_Read_takeWord.at 8 rfl) 1 (by decide) ?_
    exact r_zret (dt_Read_takeWord.at 9 rfl) rfl rfl
set_option maxRecDepth 20000 in
set_option maxHeartbeats 2000000 in
theorem ct_Read_fail {G : am_G} {l : Launch} (a0 : Nat) (p1 : Int32) (M : am_M) : Ct G l y_Read_fail X_Read_fail [.ref a0, .int p1] M (F_Read_fail a0 p1 M) := by
  refine Ct.of (by decide +kernel) rfl rfl (Nat.le_of_ble_eq_true rfl) ?_
  unfold F_Read_fail
  show Rf G l X_Read_fail 0 [.ref a0, .int p1] [] M _
  refine r_aload_n (dt_Read_fail.at 0 rfl) rfl ?_
  refine r_fI (dt_Read_fail.at 1 rfl) fl_Read_38 rfl (fun x1 => ?_)
  refine r_if_ne (tgt := 20) (dt_Read_fail.at 2 rfl) (by decide) ?_ ?_
  · refine r_aload_n (dt_Read_fail.at 3 rfl) rfl ?_
    refine r_iload_n (dt_Read_fail.at 4 rfl) rfl ?_
    refine r_sI (dt_Read_fail.at 5 rfl) fl_Read_38 rfl rfl rfl (fun M2 => ?_)
    refine r_aload_n (dt_Read_fail.at 6 rfl) rfl ?_
    refine r_aload_n (dt_Read_fail.at 7 rfl) rfl ?_
    refine r_fI (dt_Read_fail.at 8 rfl) fl_Read_175 rfl (fun x3 => ?_)
    refine r_sI (dt_Read_fail.at 9 rfl) fl_Read_18 rfl rfl rfl (fun M4 => ?_)
    exact r_vret (dt_Read_fail.at 10 rfl) rfl
  · exact r_vret (dt_Read_fail.at 10 rfl) rfl
set_option maxRecDepth 20000 in
set_option maxHeartbeats 2000000 in
theorem ct_Read_needWord {G : am_G} {l : Launch} (a0 : Nat) (p1 : Nat) (M : am_M) : Ct G l y_Read_needWord X_Read_needWord [.ref a0, .retAddr p1] M (F_Read_needWord a0 p1 M) := by
  refine Ct.of (by decide +kernel) rfl rfl (Nat.le_of_ble_eq_true rfl) ?_
  unfold F_Read_needWord
  show Rf G l X_Read_needWord 0 [.ref a0, .retAddr p1] [] M _
  refine r_aload_n (dt_Read_needWord.at 0 rfl) rfl ?_
  refine r_aload_sv (dt_Read_needWord.at 1 rfl) rfl ?_
  refine r_cvI (c := 4) (rest := []) (ct_Read_takeWord a0 p1 _) (dt_Read_needWord.at 2 rfl) mb_Read_takeWord wd_367 wd_369 wp_5 rfl (by decide) rfl rfl (Nat.le_of_ble_eq_true rfl) (fun r2 M1 => ?_)
  refine r_if_ne (tgt := 13) (dt_Read_needWord.at 3 rfl) (by decide) ?_ ?_
  · refine r_aload_n (dt_Read_needWord.at 4 rfl) rfl ?_
    refine r_iconst (dt_Read_needWord.at 5 rfl) 1 (by decide) ?_
    refine r_cvV (c := 4) (rest := []) (ct_Read_fail a0 1 _) (dt_Read_needWord.at 6 rfl) mb_Read_fail wd_423 wd_425 wp_7 rfl (by decide) rfl rfl (Nat.le_of_ble_eq_true rfl) (fun M3 => ?_)
    exact r_vret (dt_Read_needWord.at 7 rfl) rfl
  · exact r_vret (dt_Read_needWord.at 7 rfl) rfl
set_option maxRecDepth 20000 in
set_option maxHeartbeats 2000000 in
theorem ct_Read_needNumber {G : am_G} {l : Launch} (a0 : Nat) (p1 : Int32) (p2 : Int32) (M : am_M) : Ct G l y_Read_needNumber X_Read_needNumber [.ref a0, .int p1, .int p2] M (F_Read_needNumber a0 p1 p2 M) := by
  refine Ct.of (by decide +kernel) rfl rfl (Nat.le_of_ble_eq_true rfl) ?_
  unfold F_Read_needNumber
  show Rf G l X_Read_needNumber 0 [.ref a0, .int p1, .int p2, .retAddr 0] [] M _
  refine r_aload_n (dt_Read_needNumber.at 0 rfl) rfl ?_
  refine r_fI (dt_Read_needNumber.at 1 rfl) fl_Read_50 rfl (fun x1 => ?_)
  refine r_iconst (dt_Read_needNumber.at 2 rfl) 2 (by decide) ?_
  refine r_icmp_eq (tgt := 15) (dt_Read_needNumber.at 3 rfl) (by decide) ?_ ?_
  · refine r_aload_n (dt_Read_needNumber.at 9 rfl) rfl ?_
    refine r_fI (dt_Read_needNumber.at 10 rfl) fl_Read_138 rfl (fun x2 => ?_)
    refine r_istore_n (ls' := [.ref a0, .int p1, .int p2, .int x2]) (dt_Read_needNumber.at 11 rfl) (by decide) rfl ?_
    refine r_iload_n (dt_Read_needNumber.at 12 rfl) rfl ?_
    refine r_iload_n (dt_Read_needNumber.at 13 rfl) rfl ?_
    refine r_icmp_lt (tgt := 30) (dt_Read_needNumber.at 14 rfl) (by decide) ?_ ?_
    · refine r_aload_n (dt_Read_needNumber.at 18 rfl) rfl ?_
      refine r_iconst (dt_Read_needNumber.at 19 rfl) 2 (by decide) ?_
      refine r_cvV (c := 4) (rest := []) (ct_Read_fail a0 2 _) (dt_Read_needNumber.at 20 rfl) mb_Read_fail wd_423 wd_425 wp_7 rfl (by decide) rfl rfl (Nat.le_of_ble_eq_true rfl) (fun M3 => ?_)
      refine r_iconst (dt_Read_needNumber.at 21 rfl) 0 (by decide) ?_
      exact r_iret (dt_Read_needNumber.at 22 rfl) rfl
    · refine r_iload_n (dt_Read_needNumber.at 15 rfl) rfl ?_
      refine r_iload_n (dt_Read_needNumber.at 16 rfl) rfl ?_
      refine r_icmp_le (tgt := 37) (dt_Read_needNumber.at 17 rfl) (by decide) ?_ ?_
      · refine r_aload_n (dt_Read_needNumber.at 23 rfl) rfl ?_
        refine r_fI (dt_Read_needNumber.at 24 rfl) fl_Read_38 rfl (fun x4 => ?_)
        refine r_if_ne (tgt := 48) (dt_Read_needNumber.at 25 rfl) (by decide) ?_ ?_
        · refine r_aload_n (dt_Read_needNumber.at 26 rfl) rfl ?_
          refine r_cvV (c := 4) (rest := []) (ct_Read_advance a0 _) (dt_Read_needNumber.at 27 rfl) mb_Read_advance wd_343 wd_345 wp_1 rfl (by decide) rfl rfl (Nat.le_of_ble_eq_true rfl) (fun M5 => ?_)
          refine r_iload_n (dt_Read_needNumber.at 28 rfl) rfl ?_
          exact r_iret (dt_Read_needNumber.at 29 rfl) rfl
        · refine r_iload_n (dt_Read_needNumber.at 28 rfl) rfl ?_
          exact r_iret (dt_Read_needNumber.at 29 rfl) rfl
      · refine r_aload_n (dt_Read_needNumber.at 18 rfl) rfl ?_
        refine r_iconst (dt_Read_needNumber.at 19 rfl) 2 (by decide) ?_
        refine r_cvV (c := 4) (rest := []) (ct_Read_fail a0 2 _) (dt_Read_needNumber.at 20 rfl) mb_Read_fail wd_423 wd_425 wp_7 rfl (by decide) rfl rfl (Nat.le_of_ble_eq_true rfl) (fun M6 => ?_)
        refine r_iconst (dt_Read_needNumber.at 21 rfl) 0 (by decide) ?_
        exact r_iret (dt_Read_needNumber.at 22 rfl) rfl
  · refine r_aload_n (dt_Read_needNumber.at 4 rfl) rfl ?_
    refine r_iconst (dt_Read_needNumber.at 5 rfl) 1 (by decide) ?_
    refine r_cvV (c := 4) (rest := []) (ct_Read_fail a0 1 _) (dt_Read_needNumber.at 6 rfl) mb_Read_fail wd_423 wd_425 wp_7 rfl (by decide) rfl rfl (Nat.le_of_ble_eq_true rfl) (fun M7 => ?_)
    refine r_iconst (dt_Read_needNumber.at 7 rfl) 0 (by decide) ?_
    exact r_iret (dt_Read_needNumber.at 8 rfl) rfl
set_option maxRecDepth 20000 in
set_option maxHeartbeats 2000000 in
theorem ct_Scen_setCells {G : am_G} {l : Launch} (a0 : Nat) (p1 : Int32) (p2 : Int32) (M : am_M) : Ct G l y_Scen_setCells X_Scen_setCells [.ref a0, .int p1, .int p2] M (F_Scen_setCells a0 p1 p2 M) := by
  refine Ct.of (by decide +kernel) rfl rfl (Nat.le_of_ble_eq_true rfl) ?_
  unfold F_Scen_setCells
  show Rf G l X_Scen_setCells 0 [.ref a0, .int p1, .int p2] [] M _
  refine r_iload_n (dt_Scen_setCells.at 0 rfl) rfl ?_
  refine r_if_lt (tgt := 20) (dt_Scen_setCells.at 1 rfl) (by decide) ?_ ?_
  · exact r_vret (dt_Scen_setCells.at 12 rfl) rfl
  · refine r_iload_n (dt_Scen_setCells.at 2 rfl) rfl ?_
    refine r_aload_n (dt_Scen_setCells.at 3 rfl) rfl ?_
    refine r_fR (dt_Scen_setCells.at 4 rfl) fl_Scen_9 rfl (fun b1 => ?_)
    refine r_aN (dt_Scen_setCells.at 5 rfl) (fun x2 => ?_)
    refine r_icmp_ge (tgt := 20) (dt_Scen_setCells.at 6 rfl) (by decide) ?_ ?_
    · exact r_vret (dt_Scen_setCells.at 12 rfl) rfl
    · refine r_aload_n (dt_Scen_setCells.at 7 rfl) rfl ?_
      refine r_fR (dt_Scen_setCells.at 8 rfl) fl_Scen_9 rfl (fun b3 => ?_)
      refine r_iload_n (dt_Scen_setCells.at 9 rfl) rfl ?_
      refine r_iload_n (dt_Scen_setCells.at 10 rfl) rfl ?_
      refine r_tI (dt_Scen_setCells.at 11 rfl) (fun M4 => ?_)
      exact r_vret (dt_Scen_setCells.at 12 rfl) rfl
set_option maxRecDepth 20000 in
set_option maxHeartbeats 2000000 in
theorem ct_Read_needSign {G : am_G} {l : Launch} (a0 : Nat) (p1 : Int32) (M : am_M) : Ct G l y_Read_needSign X_Read_needSign [.ref a0, .int p1] M (F_Read_needSign a0 p1 M) := by
  refine Ct.of (by decide +kernel) rfl rfl (Nat.le_of_ble_eq_true rfl) ?_
  unfold F_Read_needSign
  show Rf G l X_Read_needSign 0 [.ref a0, .int p1] [] M _
  refine r_aload_n (dt_Read_needSign.at 0 rfl) rfl ?_
  refine r_fI (dt_Read_needSign.at 1 rfl) fl_Read_38 rfl (fun x1 => ?_)
  refine r_if_ne (tgt := 30) (dt_Read_needSign.at 2 rfl) (by decide) ?_ ?_
  · refine r_aload_n (dt_Read_needSign.at 3 rfl) rfl ?_
    refine r_fI (dt_Read_needSign.at 4 rfl) fl_Read_50 rfl (fun x2 => ?_)
    refine r_iconst (dt_Read_needSign.at 5 rfl) 3 (by decide) ?_
    refine r_icmp_ne (tgt := 30) (dt_Read_needSign.at 6 rfl) (by decide) ?_ ?_
    · refine r_aload_n (dt_Read_needSign.at 7 rfl) rfl ?_
      refine r_fI (dt_Read_needSign.at 8 rfl) fl_Read_138 rfl (fun x3 => ?_)
      refine r_iload_n (dt_Read_needSign.at 9 rfl) rfl ?_
      refine r_icmp_ne (tgt := 30) (dt_Read_needSign.at 10 rfl) (by decide) ?_ ?_
      · refine r_aload_n (dt_Read_needSign.at 11 rfl) rfl ?_
        refine r_cvV (c := 4) (rest := []) (ct_Read_advance a0 _) (dt_Read_needSign.at 12 rfl) mb_Read_advance wd_343 wd_345 wp_1 rfl (by decide) rfl rfl (Nat.le_of_ble_eq_true rfl) (fun M4 => ?_)
        refine r_goto (tgt := 35) (dt_Read_needSign.at 13 rfl) (by decide) ?_
        exact r_vret (dt_Read_needSign.at 17 rfl) rfl
      · refine r_aload_n (dt_Read_needSign.at 14 rfl) rfl ?_
        refine r_iconst (dt_Read_needSign.at 15 rfl) 1 (by decide) ?_
        refine r_cvV (c := 4) (rest := []) (ct_Read_fail a0 1 _) (dt_Read_needSign.at 16 rfl) mb_Read_fail wd_423 wd_425 wp_7 rfl (by decide) rfl rfl (Nat.le_of_ble_eq_true rfl) (fun M5 => ?_)
        exact r_vret (dt_Read_needSign.at 17 rfl) rfl
    · refine r_aload_n (dt_Read_needSign.at 14 rfl) rfl ?_
      refine r_iconst (dt_Read_needSign.at 15 rfl) 1 (by decide) ?_
      refine r_cvV (c := 4) (rest := []) (ct_Read_fail a0 1 _) (dt_Read_needSign.at 16 rfl) mb_Read_fail wd_423 wd_425 wp_7 rfl (by decide) rfl rfl (Nat.le_of_ble_eq_true rfl) (fun M6 => ?_)
      exact r_vret (dt_Read_needSign.at 17 rfl) rfl
  · refine r_aload_n (dt_Read_needSign.at 14 rfl) rfl ?_
    refine r_iconst (dt_Read_needSign.at 15 rfl) 1 (by decide) ?_
    refine r_cvV (c := 4) (rest := []) (ct_Read_fail a0 1 _) (dt_Read_needSign.at 16 rfl) mb_Read_fail wd_423 wd_425 wp_7 rfl (by decide) rfl rfl (Nat.le_of_ble_eq_true rfl) (fun M7 => ?_)
    exact r_vret (dt_Read_needSign.at 17 rfl) rfl
set_option maxRecDepth 20000 in
set_option maxHeartbeats 2000000 in
theorem rf_Read_readWorld_L8 {G : am_G} {l : Launch}   : ∀ (n : Nat) (v0 : Nat) (v1 : Int32) (M : am_M), Rf G l X_Read_readWorld 8 [.ref v0, .int v1] [] M (F_Read_readWorld_L8 n v0 v1 M) := by
  intro n
  induction n with
  | zero => intro v0 v1 M; exact Rf.no
  | succ n ih =>
    intro v0 v1 M
    unfold F_Read_readWorld_L8
    refine r_iload_n (dt_Read_readWorld.at 5 rfl) rfl ?_
    refine r_iconst (dt_Read_readWorld.at 6 rfl) 3 (by decide) ?_
    refine r_icmp_ge (tgt := 34) (dt_Read_readWorld.at 7 rfl) (by decide) ?_ ?_
    · refine r_aload_n (dt_Read_readWorld.at 18 rfl) rfl ?_
      refine r_bipush (dt_Read_readWorld.at 19 rfl) 59 (by decide) ?_
      refine r_cvV (c := 4) (rest := []) (ct_Read_needSign v0 59 _) (dt_Read_readWorld.at 20 rfl) mb_Read_needSign wd_435 wd_437 wp_9 rfl (by decide) rfl rfl (Nat.le_of_ble_eq_true rfl) (fun M2 => ?_)
      exact r_vret (dt_Read_readWorld.at 21 rfl) rfl
    · refine r_aload_n (dt_Read_readWorld.at 8 rfl) rfl ?_
      refine r_fR (dt_Read_readWorld.at 9 rfl) fl_Read_12 rfl (fun b3 => ?_)
      refine r_iload_n (dt_Read_readWorld.at 10 rfl) rfl ?_
      refine r_aload_n (dt_Read_readWorld.at 11 rfl) rfl ?_
      refine r_iconst (dt_Read_readWorld.at 12 rfl) 1 (by decide) ?_
      refine r_bipush (dt_Read_readWorld.at 13 rfl) 40 (by decide) ?_
      refine r_cvI (c := 4) (rest := [.int v1, .ref b3]) (ct_Read_needNumber v0 1 40 _) (dt_Read_readWorld.at 14 rfl) mb_Read_needNumber wd_427 wd_429 wp_8 rfl (by decide) rfl rfl (Nat.le_of_ble_eq_true rfl) (fun r5 M4 => ?_)
      refine r_cvV (c := 5) (rest := []) (ct_Scen_setCells b3 v1 r5 _) (dt_Read_readWorld.at 15 rfl) mb_Scen_setCells wd_431 wd_432 wd_433 rfl (by decide) rfl rfl (Nat.le_of_ble_eq_true rfl) (fun M6 => ?_)
      refine r_iincn (v := 1) (dt_Read_readWorld.at 16 rfl) (by decide) rfl (by decide) (fun y => [.ref v0, .int y]) (fun _ => rfl) (fun x7 => ?_)
      refine r_goto (tgt := 8) (dt_Read_readWorld.at 17 rfl) (by decide) ?_
      exact Rf.msk [true, true] (ih v0 x7 M6)
set_option maxRecDepth 20000 in
set_option maxHeartbeats 2000000 in
theorem ct_Read_readWorld {G : am_G} {l : Launch} (a0 : Nat) (M : am_M) : Ct G l y_Read_readWorld X_Read_readWorld [.ref a0] M (F_Read_readWorld a0 M) := by
  refine Ct.of (by decide +kernel) rfl rfl (Nat.le_of_ble_eq_true rfl) ?_
  unfold F_Read_readWorld
  show Rf G l X_Read_readWorld 0 [.ref a0, .retAddr 0] [] M _
  refine r_aload_n (dt_Read_readWorld.at 0 rfl) rfl ?_
  refine r_ldcS (dt_Read_readWorld.at 1 rfl) 0 rfl ?_
  refine r_cvV (c := 4) (rest := []) (ct_Read_needWord a0 100 _) (dt_Read_readWorld.at 2 rfl) mb_Read_needWord wd_363 wd_365 wp_4 rfl (by decide) rfl rfl (Nat.le_of_ble_eq_true rfl) (fun M1 => ?_)
  refine r_iconst (dt_Read_readWorld.at 3 rfl) 0 (by decide) ?_
  refine r_istore_n (ls' := [.ref a0, .int 0]) (dt_Read_readWorld.at 4 rfl) (by decide) rfl ?_
  exact Rf.msk [true, true] (rf_Read_readWorld_L8 fu a0 0 M1)
set_option maxRecDepth 20000 in
set_option maxHeartbeats 2000000 in
theorem ct_Read_readSeed {G : am_G} {l : Launch} (a0 : Nat) (M : am_M) : Ct G l y_Read_readSeed X_Read_readSeed [.ref a0] M (F_Read_readSeed a0 M) := by
  refine Ct.of (by decide +kernel) rfl rfl (Nat.le_of_ble_eq_true rfl) ?_
  unfold F_Read_readSeed
  show Rf G l X_Read_readSeed 0 [.ref a0] [] M _
  refine r_aload_n (dt_Read_readSeed.at 0 rfl) rfl ?_
  refine r_fR (dt_Read_readSeed.at 1 rfl) fl_Read_12 rfl (fun b1 => ?_)
  refine r_fI (dt_Read_readSeed.at 2 rfl) fl_Read_93 rfl (fun x2 => ?_)
  refine r_if_eq (tgt := 16) (dt_Read_readSeed.at 3 rfl) (by decide) ?_ ?_
  · refine r_aload_n (dt_Read_readSeed.at 8 rfl) rfl ?_
    refine r_cvV (c := 4) (rest := []) (ct_Read_advance a0 _) (dt_Read_readSeed.at 9 rfl) mb_Read_advance wd_343 wd_345 wp_1 rfl (by decide) rfl rfl (Nat.le_of_ble_eq_true rfl) (fun M3 => ?_)
    refine r_aload_n (dt_Read_readSeed.at 10 rfl) rfl ?_
    refine r_fR (dt_Read_readSeed.at 11 rfl) fl_Read_12 rfl (fun b4 => ?_)
    refine r_iconst (dt_Read_readSeed.at 12 rfl) 1 (by decide) ?_
    refine r_sI (dt_Read_readSeed.at 13 rfl) fl_Read_93 rfl rfl rfl (fun M5 => ?_)
    refine r_aload_n (dt_Read_readSeed.at 14 rfl) rfl ?_
    refine r_fR (dt_Read_readSeed.at 15 rfl) fl_Read_12 rfl (fun b6 => ?_)
    refine r_aload_n (dt_Read_readSeed.at 16 rfl) rfl ?_
    refine r_iconst (dt_Read_readSeed.at 17 rfl) 0 (by decide) ?_
    refine r_ldc (dt_Read_readSeed.at 18 rfl) 999999 wd_444 ?_
    refine r_cvI (c := 4) (rest := [.ref b6]) (ct_Read_needNumber a0 0 999999 _) (dt_Read_readSeed.at 19 rfl) mb_Read_needNumber wd_427 wd_429 wp_8 rfl (by decide) rfl rfl (Nat.le_of_ble_eq_true rfl) (fun r8 M7 => ?_)
    refine r_sI (dt_Read_readSeed.at 20 rfl) fl_Read_98 rfl rfl rfl (fun M9 => ?_)
    exact r_vret (dt_Read_readSeed.at 21 rfl) rfl
  · refine r_aload_n (dt_Read_readSeed.at 4 rfl) rfl ?_
    refine r_iconst (dt_Read_readSeed.at 5 rfl) 3 (by decide) ?_
    refine r_cvV (c := 4) (rest := []) (ct_Read_fail a0 3 _) (dt_Read_readSeed.at 6 rfl) mb_Read_fail wd_423 wd_425 wp_7 rfl (by decide) rfl rfl (Nat.le_of_ble_eq_true rfl) (fun M10 => ?_)
    exact r_vret (dt_Read_readSeed.at 7 rfl) rfl
set_option maxRecDepth 20000 in
set_option maxHeartbeats 2000000 in
theorem ct_Scen_setKind {G : am_G} {l : Launch} (a0 : Nat) (p1 : Int32) (p2 : Int32) (p3 : Int32) (M : am_M) : Ct G l y_Scen_setKind X_Scen_setKind [.ref a0, .int p1, .int p2, .int p3] M (F_Scen_setKind a0 p1 p2 p3 M) := by
  refine Ct.of (by decide +kernel) rfl rfl (Nat.le_of_ble_eq_true rfl) ?_
  unfold F_Scen_setKind
  show Rf G l X_Scen_setKind 0 [.ref a0, .int p1, .int p2, .int p3, .retAddr 0] [] M _
  refine r_iload_n (dt_Scen_setKind.at 0 rfl) rfl ?_
  refine r_bipush (dt_Scen_setKind.at 1 rfl) 8 (by decide) ?_
  refine r_imul (dt_Scen_setKind.at 2 rfl) ?_
  refine r_iload_n (dt_Scen_setKind.at 3 rfl) rfl ?_
  refine r_iadd (dt_Scen_setKind.at 4 rfl) ?_
  refine r_nmi (fun x1 => ?_)
  refine r_istore (ls' := [.ref a0, .int p1, .int p2, .int p3, .int x1]) (dt_Scen_setKind.at 5 rfl) (by decide) rfl ?_
  refine r_iload (dt_Scen_setKind.at 6 rfl) rfl ?_
  refine r_if_lt (tgt := 31) (dt_Scen_setKind.at 7 rfl) (by decide) ?_ ?_
  · exact r_vret (dt_Scen_setKind.at 18 rfl) rfl
  · refine r_iload (dt_Scen_setKind.at 8 rfl) rfl ?_
    refine r_aload_n (dt_Scen_setKind.at 9 rfl) rfl ?_
    refine r_fR (dt_Scen_setKind.at 10 rfl) fl_Scen_15 rfl (fun b2 => ?_)
    refine r_aN (dt_Scen_setKind.at 11 rfl) (fun x3 => ?_)
    refine r_icmp_ge (tgt := 31) (dt_Scen_setKind.at 12 rfl) (by decide) ?_ ?_
    · exact r_vret (dt_Scen_setKind.at 18 rfl) rfl
    · refine r_aload_n (dt_Scen_setKind.at 13 rfl) rfl ?_
      refine r_fR (dt_Scen_setKind.at 14 rfl) fl_Scen_15 rfl (fun b4 => ?_)
      refine r_iload (dt_Scen_setKind.at 15 rfl) rfl ?_
      refine r_iload_n (dt_Scen_setKind.at 16 rfl) rfl ?_
      refine r_tI (dt_Scen_setKind.at 17 rfl) (fun M5 => ?_)
      exact r_vret (dt_Scen_setKind.at 18 rfl) rfl
set_option maxRecDepth 20000 in
set_option maxHeartbeats 2000000 in
theorem ct_Read_numberBehind {G : am_G} {l : Launch} (a0 : Nat) (p1 : Nat) (p2 : Int32) (p3 : Int32) (p4 : Int32) (M : am_M) : Ct G l y_Read_numberBehind X_Read_numberBehind [.ref a0, .retAddr p1, .int p2, .int p3, .int p4] M (F_Read_numberBehind a0 p1 p2 p3 p4 M) := by
  refine Ct.of (by decide +kernel) rfl rfl (Nat.le_of_ble_eq_true rfl) ?_
  unfold F_Read_numberBehind
  show Rf G l X_Read_numberBehind 0 [.ref a0, .retAddr p1, .int p2, .int p3, .int p4] [] M _
  refine r_aload_n (dt_Read_numberBehind.at 0 rfl) rfl ?_
  refine r_aload_sv (dt_Read_numberBehind.at 1 rfl) rfl ?_
  refine r_cvI (c := 4) (rest := []) (ct_Read_takeWord a0 p1 _) (dt_Read_numberBehind.at 2 rfl) mb_Read_takeWord wd_367 wd_369 wp_5 rfl (by decide) rfl rfl (Nat.le_of_ble_eq_true rfl) (fun r2 M1 => ?_)
  refine r_if_eq (tgt := 17) (dt_Read_numberBehind.at 3 rfl) (by decide) ?_ ?_
  · refine r_iload (dt_Read_numberBehind.at 9 rfl) rfl ?_
    exact r_iret (dt_Read_numberBehind.at 10 rfl) rfl
  · refine r_aload_n (dt_Read_numberBehind.at 4 rfl) rfl ?_
    refine r_iload_n (dt_Read_numberBehind.at 5 rfl) rfl ?_
    refine r_iload_n (dt_Read_numberBehind.at 6 rfl) rfl ?_
    refine r_cvI (c := 4) (rest := []) (ct_Read_needNumber a0 p2 p3 _) (dt_Read_numberBehind.at 7 rfl) mb_Read_needNumber wd_427 wd_429 wp_8 rfl (by decide) rfl rfl (Nat.le_of_ble_eq_true rfl) (fun r4 M3 => ?_)
    refine r_goto (tgt := 19) (dt_Read_numberBehind.at 8 rfl) (by decide) ?_
    exact r_iret (dt_Read_numberBehind.at 10 rfl) rfl
set_option maxRecDepth 20000 in
set_option maxHeartbeats 2000000 in
theorem rf_Read_readFalls_L49 {G : am_G} {l : Launch}   (v0 : Nat) (v1 : Int32) (M : am_M) : Rf G l X_Read_readFalls 49 [.ref v0, .int v1, .retAddr 0] [] M (F_Read_readFalls_L49 v0 v1 M) := by
  unfold F_Read_readFalls_L49
  refine r_aload_n (dt_Read_readFalls.at 25 rfl) rfl ?_
  refine r_iconst (dt_Read_readFalls.at 26 rfl) 0 (by decide) ?_
  refine r_bipush (dt_Read_readFalls.at 27 rfl) 9 (by decide) ?_
  refine r_cvI (c := 4) (rest := []) (ct_Read_needNumber v0 0 9 _) (dt_Read_readFalls.at 28 rfl) mb_Read_needNumber wd_427 wd_429 wp_8 rfl (by decide) rfl rfl (Nat.le_of_ble_eq_true rfl) (fun r7 M6 => ?_)
  refine r_istore_n (ls' := [.ref v0, .int v1, .int r7]) (dt_Read_readFalls.at 29 rfl) (by decide) rfl ?_
  refine r_iload_n (dt_Read_readFalls.at 30 rfl) rfl ?_
  refine r_if_eq (tgt := 66) (dt_Read_readFalls.at 31 rfl) (by decide) ?_ ?_
  · refine r_iload_n (dt_Read_readFalls.at 35 rfl) rfl ?_
    exact r_iret (dt_Read_readFalls.at 36 rfl) rfl
  · refine r_iload_n (dt_Read_readFalls.at 32 rfl) rfl ?_
    refine r_ineg (dt_Read_readFalls.at 33 rfl) ?_
    refine r_goto (tgt := 67) (dt_Read_readFalls.at 34 rfl) (by decide) ?_
    exact r_iret (dt_Read_readFalls.at 36 rfl) rfl
set_option maxRecDepth 20000 in
set_option maxHeartbeats 2000000 in
theorem rf_Read_readFalls_L40 {G : am_G} {l : Launch}   (v0 : Nat) (s0 : Int32) (M : am_M) : Rf G l X_Read_readFalls 40 [.ref v0, .retAddr 0, .retAddr 0] [.int s0] M (F_Read_readFalls_L40 v0 s0 M) := by
  unfold F_Read_readFalls_L40
  refine r_istore_n (ls' := [.ref v0, .int s0, .retAddr 0]) (dt_Read_readFalls.at 20 rfl) (by decide) rfl ?_
  refine r_iload_n (dt_Read_readFalls.at 21 rfl) rfl ?_
  refine r_if_eq (tgt := 49) (dt_Read_readFalls.at 22 rfl) (by decide) ?_ ?_
  · exact Rf.msk [true, true, false] (rf_Read_readFalls_L49 v0 s0 M)
  · refine r_aload_n (dt_Read_readFalls.at 23 rfl) rfl ?_
    refine r_cvV (c := 4) (rest := []) (ct_Read_advance v0 _) (dt_Read_readFalls.at 24 rfl) mb_Read_advance wd_343 wd_345 wp_1 rfl (by decide) rfl rfl (Nat.le_of_ble_eq_true rfl) (fun M8 => ?_)
    exact Rf.msk [true, true, false] (rf_Read_readFalls_L49 v0 s0 M8)
set_option maxRecDepth 20000 in
set_option maxHeartbeats 2000000 in
theorem rf_Read_readFalls_L39 {G : am_G} {l : Launch}   (v0 : Nat) (M : am_M) : Rf G l X_Read_readFalls 39 [.ref v0, .retAddr 0, .retAddr 0] [] M (F_Read_readFalls_L39 v0 M) := by
  unfold F_Read_readFalls_L39
  refine r_iconst (dt_Read_readFalls.at 19 rfl) 0 (by decide) ?_
  exact Rf.msk [true, false, false] (rf_Read_readFalls_L40 v0 0 M)
set_option maxRecDepth 20000 in
set_option maxHeartbeats 2000000 in
theorem ct_Read_readFalls {G : am_G} {l : Launch} (a0 : Nat) (M : am_M) : Ct G l y_Read_readFalls X_Read_readFalls [.ref a0] M (F_Read_readFalls a0 M) := by
  refine Ct.of (by decide +kernel) rfl rfl (Nat.le_of_ble_eq_true rfl) ?_
  unfold F_Read_readFalls
  show Rf G l X_Read_readFalls 0 [.ref a0, .retAddr 0, .retAddr 0] [] M _
  refine r_aload_n (dt_Read_readFalls.at 0 rfl) rfl ?_
  refine r_ldcS (dt_Read_readFalls.at 1 rfl) 6 rfl ?_
  refine r_cvI (c := 4) (rest := []) (ct_Read_takeWord a0 106 _) (dt_Read_readFalls.at 2 rfl) mb_Read_takeWord wd_367 wd_369 wp_5 rfl (by decide) rfl rfl (Nat.le_of_ble_eq_true rfl) (fun r2 M1 => ?_)
  refine r_if_ne (tgt := 11) (dt_Read_readFalls.at 3 rfl) (by decide) ?_ ?_
  · refine r_iconst (dt_Read_readFalls.at 4 rfl) 0 (by decide) ?_
    exact r_iret (dt_Read_readFalls.at 5 rfl) rfl
  · refine r_aload_n (dt_Read_readFalls.at 6 rfl) rfl ?_
    refine r_fI (dt_Read_readFalls.at 7 rfl) fl_Read_38 rfl (fun x3 => ?_)
    refine r_if_ne (tgt := 39) (dt_Read_readFalls.at 8 rfl) (by decide) ?_ ?_
    · refine r_aload_n (dt_Read_readFalls.at 9 rfl) rfl ?_
      refine r_fI (dt_Read_readFalls.at 10 rfl) fl_Read_50 rfl (fun x4 => ?_)
      refine r_iconst (dt_Read_readFalls.at 11 rfl) 3 (by decide) ?_
      refine r_icmp_ne (tgt := 39) (dt_Read_readFalls.at 12 rfl) (by decide) ?_ ?_
      · refine r_aload_n (dt_Read_readFalls.at 13 rfl) rfl ?_
        refine r_fI (dt_Read_readFalls.at 14 rfl) fl_Read_138 rfl (fun x5 => ?_)
        refine r_bipush (dt_Read_readFalls.at 15 rfl) 45 (by decide) ?_
        refine r_icmp_ne (tgt := 39) (dt_Read_readFalls.at 16 rfl) (by decide) ?_ ?_
        · refine r_iconst (dt_Read_readFalls.at 17 rfl) 1 (by decide) ?_
          refine r_goto (tgt := 40) (dt_Read_readFalls.at 18 rfl) (by decide) ?_
          exact Rf.msk [true, false, false] (rf_Read_readFalls_L40 a0 1 M1)
        · exact Rf.msk [true, false, false] (rf_Read_readFalls_L39 a0 M1)
      · exact Rf.msk [true, false, false] (rf_Read_readFalls_L39 a0 M1)
    · exact Rf.msk [true, false, false] (rf_Read_readFalls_L39 a0 M1)
set_option maxRecDepth 20000 in
set_option maxHeartbeats 2000000 in
theorem ct_Read_readEdge {G : am_G} {l : Launch} (a0 : Nat) (M : am_M) : Ct G l y_Read_readEdge X_Read_readEdge [.ref a0] M (F_Read_readEdge a0 M) := by
  refine Ct.of (by decide +kernel) rfl rfl (Nat.le_of_ble_eq_true rfl) ?_
  unfold F_Read_readEdge
  show Rf G l X_Read_readEdge 0 [.ref a0] [] M _
  refine r_aload_n (dt_Read_readEdge.at 0 rfl) rfl ?_
  refine r_ldcS (dt_Read_readEdge.at 1 rfl) 8 rfl ?_
  refine r_cvI (c := 4) (rest := []) (ct_Read_takeWord a0 108 _) (dt_Read_readEdge.at 2 rfl) mb_Read_takeWord wd_367 wd_369 wp_5 rfl (by decide) rfl rfl (Nat.le_of_ble_eq_true rfl) (fun r2 M1 => ?_)
  refine r_if_eq (tgt := 11) (dt_Read_readEdge.at 3 rfl) (by decide) ?_ ?_
  · refine r_aload_n (dt_Read_readEdge.at 6 rfl) rfl ?_
    refine r_ldcS (dt_Read_readEdge.at 7 rfl) 9 rfl ?_
    refine r_cvI (c := 4) (rest := []) (ct_Read_takeWord a0 109 _) (dt_Read_readEdge.at 8 rfl) mb_Read_takeWord wd_367 wd_369 wp_5 rfl (by decide) rfl rfl (Nat.le_of_ble_eq_true rfl) (fun r4 M3 => ?_)
    refine r_if_eq (tgt := 22) (dt_Read_readEdge.at 9 rfl) (by decide) ?_ ?_
    · refine r_aload_n (dt_Read_readEdge.at 12 rfl) rfl ?_
      refine r_ldcS (dt_Read_readEdge.at 13 rfl) 10 rfl ?_
      refine r_cvI (c := 4) (rest := []) (ct_Read_takeWord a0 110 _) (dt_Read_readEdge.at 14 rfl) mb_Read_takeWord wd_367 wd_369 wp_5 rfl (by decide) rfl rfl (Nat.le_of_ble_eq_true rfl) (fun r6 M5 => ?_)
      refine r_pop (dt_Read_readEdge.at 15 rfl) rfl ?_
      refine r_iconst (dt_Read_readEdge.at 16 rfl) 0 (by decide) ?_
      exact r_iret (dt_Read_readEdge.at 17 rfl) rfl
    · refine r_iconst (dt_Read_readEdge.at 10 rfl) 2 (by decide) ?_
      exact r_iret (dt_Read_readEdge.at 11 rfl) rfl
  · refine r_iconst (dt_Read_readEdge.at 4 rfl) 1 (by decide) ?_
    exact r_iret (dt_Read_readEdge.at 5 rfl) rfl
set_option maxRecDepth 20000 in
set_option maxHeartbeats 2000000 in
theorem ct_Scen_ofKind {G : am_G} {l : Launch} (a0 : Nat) (p1 : Int32) (p2 : Int32) (M : am_M) : Ct G l y_Scen_ofKind X_Scen_ofKind [.ref a0, .int p1, .int p2] M (F_Scen_ofKind a0 p1 p2 M) := by
  refine Ct.of (by decide +kernel) rfl rfl (Nat.le_of_ble_eq_true rfl) ?_
  unfold F_Scen_ofKind
  show Rf G l X_Scen_ofKind 0 [.ref a0, .int p1, .int p2, .retAddr 0] [] M _
  refine r_iload_n (dt_Scen_ofKind.at 0 rfl) rfl ?_
  refine r_bipush (dt_Scen_ofKind.at 1 rfl) 8 (by decide) ?_
  refine r_imul (dt_Scen_ofKind.at 2 rfl) ?_
  refine r_iload_n (dt_Scen_ofKind.at 3 rfl) rfl ?_
  refine r_iadd (dt_Scen_ofKind.at 4 rfl) ?_
  refine r_nmi (fun x1 => ?_)
  refine r_istore_n (ls' := [.ref a0, .int p1, .int p2, .int x1]) (dt_Scen_ofKind.at 5 rfl) (by decide) rfl ?_
  refine r_iload_n (dt_Scen_ofKind.at 6 rfl) rfl ?_
  refine r_if_lt (tgt := 29) (dt_Scen_ofKind.at 7 rfl) (by decide) ?_ ?_
  · refine r_iconst (dt_Scen_ofKind.at 18 rfl) 0 (by decide) ?_
    exact r_iret (dt_Scen_ofKind.at 19 rfl) rfl
  · refine r_iload_n (dt_Scen_ofKind.at 8 rfl) rfl ?_
    refine r_aload_n (dt_Scen_ofKind.at 9 rfl) rfl ?_
    refine r_fR (dt_Scen_ofKind.at 10 rfl) fl_Scen_15 rfl (fun b2 => ?_)
    refine r_aN (dt_Scen_ofKind.at 11 rfl) (fun x3 => ?_)
    refine r_icmp_ge (tgt := 29) (dt_Scen_ofKind.at 12 rfl) (by decide) ?_ ?_
    · refine r_iconst (dt_Scen_ofKind.at 18 rfl) 0 (by decide) ?_
      exact r_iret (dt_Scen_ofKind.at 19 rfl) rfl
    · refine r_aload_n (dt_Scen_ofKind.at 13 rfl) rfl ?_
      refine r_fR (dt_Scen_ofKind.at 14 rfl) fl_Scen_15 rfl (fun b4 => ?_)
      refine r_iload_n (dt_Scen_ofKind.at 15 rfl) rfl ?_
      refine r_aI (dt_Scen_ofKind.at 16 rfl) (fun x5 => ?_)
      refine r_goto (tgt := 30) (dt_Scen_ofKind.at 17 rfl) (by decide) ?_
      exact r_iret (dt_Scen_ofKind.at 19 rfl) rfl
set_option maxRecDepth 20000 in
set_option maxHeartbeats 2000000 in
theorem ct_Read_readKind {G : am_G} {l : Launch} (a0 : Nat) (M : am_M) : Ct G l y_Read_readKind X_Read_readKind [.ref a0] M (F_Read_readKind a0 M) := by
  refine Ct.of (by decide +kernel) rfl rfl (Nat.le_of_ble_eq_true rfl) ?_
  unfold F_Read_readKind
  show Rf G l X_Read_readKind 0 [.ref a0, .retAddr 0] [] M _
  refine r_aload_n (dt_Read_readKind.at 0 rfl) rfl ?_
  refine r_fR (dt_Read_readKind.at 1 rfl) fl_Read_12 rfl (fun b1 => ?_)
  refine r_fI (dt_Read_readKind.at 2 rfl) fl_Read_100 rfl (fun x2 => ?_)
  refine r_istore_n (ls' := [.ref a0, .int x2]) (dt_Read_readKind.at 3 rfl) (by decide) rfl ?_
  refine r_iload_n (dt_Read_readKind.at 4 rfl) rfl ?_
  refine r_iconst (dt_Read_readKind.at 5 rfl) 5 (by decide) ?_
  refine r_icmp_lt (tgt := 19) (dt_Read_readKind.at 6 rfl) (by decide) ?_ ?_
  · refine r_aload_n (dt_Read_readKind.at 11 rfl) rfl ?_
    refine r_cvV (c := 4) (rest := []) (ct_Read_advance a0 _) (dt_Read_readKind.at 12 rfl) mb_Read_advance wd_343 wd_345 wp_1 rfl (by decide) rfl rfl (Nat.le_of_ble_eq_true rfl) (fun M3 => ?_)
    refine r_aload_n (dt_Read_readKind.at 13 rfl) rfl ?_
    refine r_ldcS (dt_Read_readKind.at 14 rfl) 3 rfl ?_
    refine r_cvV (c := 4) (rest := []) (ct_Read_needWord a0 103 _) (dt_Read_readKind.at 15 rfl) mb_Read_needWord wd_363 wd_365 wp_4 rfl (by decide) rfl rfl (Nat.le_of_ble_eq_true rfl) (fun M4 => ?_)
    refine r_aload_n (dt_Read_readKind.at 16 rfl) rfl ?_
    refine r_fR (dt_Read_readKind.at 17 rfl) fl_Read_12 rfl (fun b5 => ?_)
    refine r_iload_n (dt_Read_readKind.at 18 rfl) rfl ?_
    refine r_iconst (dt_Read_readKind.at 19 rfl) 0 (by decide) ?_
    refine r_aload_n (dt_Read_readKind.at 20 rfl) rfl ?_
    refine r_iconst (dt_Read_readKind.at 21 rfl) 1 (by decide) ?_
    refine r_bipush (dt_Read_readKind.at 22 rfl) 40 (by decide) ?_
    refine r_cvI (c := 4) (rest := [.int 0, .int x2, .ref b5]) (ct_Read_needNumber a0 1 40 _) (dt_Read_readKind.at 23 rfl) mb_Read_needNumber wd_427 wd_429 wp_8 rfl (by decide) rfl rfl (Nat.le_of_ble_eq_true rfl) (fun r7 M6 => ?_)
    refine r_cvV (c := 5) (rest := []) (ct_Scen_setKind b5 x2 0 r7 _) (dt_Read_readKind.at 24 rfl) mb_Scen_setKind wd_451 wd_452 wd_453 rfl (by decide) rfl rfl (Nat.le_of_ble_eq_true rfl) (fun M8 => ?_)
    refine r_aload_n (dt_Read_readKind.at 25 rfl) rfl ?_
    refine r_fR (dt_Read_readKind.at 26 rfl) fl_Read_12 rfl (fun b9 => ?_)
    refine r_iload_n (dt_Read_readKind.at 27 rfl) rfl ?_
    refine r_iconst (dt_Read_readKind.at 28 rfl) 1 (by decide) ?_
    refine r_aload_n (dt_Read_readKind.at 29 rfl) rfl ?_
    refine r_ldcS (dt_Read_readKind.at 30 rfl) 4 rfl ?_
    refine r_iconst (dt_Read_readKind.at 31 rfl) 0 (by decide) ?_
    refine r_bipush (dt_Read_readKind.at 32 rfl) 20 (by decide) ?_
    refine r_iconst (dt_Read_readKind.at 33 rfl) 0 (by decide) ?_
    refine r_cvI (c := 4) (rest := [.int 1, .int x2, .ref b9]) (ct_Read_numberBehind a0 104 0 20 0 _) (dt_Read_readKind.at 34 rfl) mb_Read_numberBehind wd_456 wd_458 wp_12 rfl (by decide) rfl rfl (Nat.le_of_ble_eq_true rfl) (fun r11 M10 => ?_)
    refine r_cvV (c := 5) (rest := []) (ct_Scen_setKind b9 x2 1 r11 _) (dt_Read_readKind.at 35 rfl) mb_Scen_setKind wd_451 wd_452 wd_453 rfl (by decide) rfl rfl (Nat.le_of_ble_eq_true rfl) (fun M12 => ?_)
    refine r_aload_n (dt_Read_readKind.at 36 rfl) rfl ?_
    refine r_fR (dt_Read_readKind.at 37 rfl) fl_Read_12 rfl (fun b13 => ?_)
    refine r_iload_n (dt_Read_readKind.at 38 rfl) rfl ?_
    refine r_iconst (dt_Read_readKind.at 39 rfl) 2 (by decide) ?_
    refine r_aload_n (dt_Read_readKind.at 40 rfl) rfl ?_
    refine r_ldcS (dt_Read_readKind.at 41 rfl) 5 rfl ?_
    refine r_iconst (dt_Read_readKind.at 42 rfl) 0 (by decide) ?_
    refine r_bipush (dt_Read_readKind.at 43 rfl) 20 (by decide) ?_
    refine r_iconst (dt_Read_readKind.at 44 rfl) 0 (by decide) ?_
    refine r_cvI (c := 4) (rest := [.int 2, .int x2, .ref b13]) (ct_Read_numberBehind a0 105 0 20 0 _) (dt_Read_readKind.at 45 rfl) mb_Read_numberBehind wd_456 wd_458 wp_12 rfl (by decide) rfl rfl (Nat.le_of_ble_eq_true rfl) (fun r15 M14 => ?_)
    refine r_cvV (c := 5) (rest := []) (ct_Scen_setKind b13 x2 2 r15 _) (dt_Read_readKind.at 46 rfl) mb_Scen_setKind wd_451 wd_452 wd_453 rfl (by decide) rfl rfl (Nat.le_of_ble_eq_true rfl) (fun M16 => ?_)
    refine r_aload_n (dt_Read_readKind.at 47 rfl) rfl ?_
    refine r_fR (dt_Read_readKind.at 48 rfl) fl_Read_12 rfl (fun b17 => ?_)
    refine r_iload_n (dt_Read_readKind.at 49 rfl) rfl ?_
    refine r_iconst (dt_Read_readKind.at 50 rfl) 3 (by decide) ?_
    refine r_aload_n (dt_Read_readKind.at 51 rfl) rfl ?_
    refine r_cvI (c := 4) (rest := [.int 3, .int x2, .ref b17]) (ct_Read_readFalls a0 _) (dt_Read_readKind.at 52 rfl) mb_Read_readFalls wd_461 wd_463 wp_13 rfl (by decide) rfl rfl (Nat.le_of_ble_eq_true rfl) (fun r19 M18 => ?_)
    refine r_cvV (c := 5) (rest := []) (ct_Scen_setKind b17 x2 3 r19 _) (dt_Read_readKind.at 53 rfl) mb_Scen_setKind wd_451 wd_452 wd_453 rfl (by decide) rfl rfl (Nat.le_of_ble_eq_true rfl) (fun M20 => ?_)
    refine r_aload_n (dt_Read_readKind.at 54 rfl) rfl ?_
    refine r_fR (dt_Read_readKind.at 55 rfl) fl_Read_12 rfl (fun b21 => ?_)
    refine r_iload_n (dt_Read_readKind.at 56 rfl) rfl ?_
    refine r_iconst (dt_Read_readKind.at 57 rfl) 4 (by decide) ?_
    refine r_aload_n (dt_Read_readKind.at 58 rfl) rfl ?_
    refine r_ldcS (dt_Read_readKind.at 59 rfl) 7 rfl ?_
    refine r_iconst (dt_Read_readKind.at 60 rfl) 1 (by decide) ?_
    refine r_bipush (dt_Read_readKind.at 61 rfl) 9 (by decide) ?_
    refine r_iconst (dt_Read_readKind.at 62 rfl) 1 (by decide) ?_
    refine r_cvI (c := 4) (rest := [.int 4, .int x2, .ref b21]) (ct_Read_numberBehind a0 107 1 9 1 _) (dt_Read_readKind.at 63 rfl) mb_Read_numberBehind wd_456 wd_458 wp_12 rfl (by decide) rfl rfl (Nat.le_of_ble_eq_true rfl) (fun r23 M22 => ?_)
    refine r_cvV (c := 5) (rest := []) (ct_Scen_setKind b21 x2 4 r23 _) (dt_Read_readKind.at 64 rfl) mb_Scen_setKind wd_451 wd_452 wd_453 rfl (by decide) rfl rfl (Nat.le_of_ble_eq_true rfl) (fun M24 => ?_)
    refine r_aload_n (dt_Read_readKind.at 65 rfl) rfl ?_
    refine r_fR (dt_Read_readKind.at 66 rfl) fl_Read_12 rfl (fun b25 => ?_)
    refine r_iload_n (dt_Read_readKind.at 67 rfl) rfl ?_
    refine r_iconst (dt_Read_readKind.at 68 rfl) 5 (by decide) ?_
    refine r_aload_n (dt_Read_readKind.at 69 rfl) rfl ?_
    refine r_cvI (c := 4) (rest := [.int 5, .int x2, .ref b25]) (ct_Read_readEdge a0 _) (dt_Read_readKind.at 70 rfl) mb_Read_readEdge wd_467 wd_469 wp_14 rfl (by decide) rfl rfl (Nat.le_of_ble_eq_true rfl) (fun r27 M26 => ?_)
    refine r_cvV (c := 5) (rest := []) (ct_Scen_setKind b25 x2 5 r27 _) (dt_Read_readKind.at 71 rfl) mb_Scen_setKind wd_451 wd_452 wd_453 rfl (by decide) rfl rfl (Nat.le_of_ble_eq_true rfl) (fun M28 => ?_)
    refine r_aload_n (dt_Read_readKind.at 72 rfl) rfl ?_
    refine r_fR (dt_Read_readKind.at 73 rfl) fl_Read_12 rfl (fun b29 => ?_)
    refine r_iload_n (dt_Read_readKind.at 74 rfl) rfl ?_
    refine r_bipush (dt_Read_readKind.at 75 rfl) 6 (by decide) ?_
    refine r_aload_n (dt_Read_readKind.at 76 rfl) rfl ?_
    refine r_ldcS (dt_Read_readKind.at 77 rfl) 11 rfl ?_
    refine r_iconst (dt_Read_readKind.at 78 rfl) 1 (by decide) ?_
    refine r_iconst (dt_Read_readKind.at 79 rfl) 2 (by decide) ?_
    refine r_iconst (dt_Read_readKind.at 80 rfl) 0 (by decide) ?_
    refine r_cvI (c := 4) (rest := [.int 6, .int x2, .ref b29]) (ct_Read_numberBehind a0 111 1 2 0 _) (dt_Read_readKind.at 81 rfl) mb_Read_numberBehind wd_456 wd_458 wp_12 rfl (by decide) rfl rfl (Nat.le_of_ble_eq_true rfl) (fun r31 M30 => ?_)
    refine r_cvV (c := 5) (rest := []) (ct_Scen_setKind b29 x2 6 r31 _) (dt_Read_readKind.at 82 rfl) mb_Scen_setKind wd_451 wd_452 wd_453 rfl (by decide) rfl rfl (Nat.le_of_ble_eq_true rfl) (fun M32 => ?_)
    refine r_aload_n (dt_Read_readKind.at 83 rfl) rfl ?_
    refine r_fR (dt_Read_readKind.at 84 rfl) fl_Read_12 rfl (fun b33 => ?_)
    refine r_iload_n (dt_Read_readKind.at 85 rfl) rfl ?_
    refine r_bipush (dt_Read_readKind.at 86 rfl) 7 (by decide) ?_
    refine r_iconst (dt_Read_readKind.at 87 rfl) (-1) (by decide) ?_
    refine r_cvV (c := 5) (rest := []) (ct_Scen_setKind b33 x2 7 (-1) _) (dt_Read_readKind.at 88 rfl) mb_Scen_setKind wd_451 wd_452 wd_453 rfl (by decide) rfl rfl (Nat.le_of_ble_eq_true rfl) (fun M34 => ?_)
    refine r_aload_n (dt_Read_readKind.at 89 rfl) rfl ?_
    refine r_fR (dt_Read_readKind.at 90 rfl) fl_Read_12 rfl (fun b35 => ?_)
    refine r_iload_n (dt_Read_readKind.at 91 rfl) rfl ?_
    refine r_bipush (dt_Read_readKind.at 92 rfl) 6 (by decide) ?_
    refine r_cvI (c := 5) (rest := []) (ct_Scen_ofKind b35 x2 6 _) (dt_Read_readKind.at 93 rfl) mb_Scen_ofKind wd_475 wd_476 wd_477 rfl (by decide) rfl rfl (Nat.le_of_ble_eq_true rfl) (fun r37 M36 => ?_)
    refine r_if_le (tgt := 195) (dt_Read_readKind.at 94 rfl) (by decide) ?_ ?_
    · refine r_aload_n (dt_Read_readKind.at 109 rfl) rfl ?_
      refine r_fR (dt_Read_readKind.at 110 rfl) fl_Read_12 rfl (fun b38 => ?_)
      refine r_dup (dt_Read_readKind.at 111 rfl) rfl ?_
      refine r_fI (dt_Read_readKind.at 112 rfl) fl_Read_100 rfl (fun x39 => ?_)
      refine r_iconst (dt_Read_readKind.at 113 rfl) 1 (by decide) ?_
      refine r_iadd (dt_Read_readKind.at 114 rfl) ?_
      refine r_sI (dt_Read_readKind.at 115 rfl) fl_Read_100 rfl rfl rfl (fun M40 => ?_)
      exact r_vret (dt_Read_readKind.at 116 rfl) rfl
    · refine r_aload_n (dt_Read_readKind.at 95 rfl) rfl ?_
      refine r_ldcS (dt_Read_readKind.at 96 rfl) 12 rfl ?_
      refine r_cvV (c := 4) (rest := []) (ct_Read_needWord a0 112 _) (dt_Read_readKind.at 97 rfl) mb_Read_needWord wd_363 wd_365 wp_4 rfl (by decide) rfl rfl (Nat.le_of_ble_eq_true rfl) (fun M41 => ?_)
      refine r_aload_n (dt_Read_readKind.at 98 rfl) rfl ?_
      refine r_fR (dt_Read_readKind.at 99 rfl) fl_Read_12 rfl (fun b42 => ?_)
      refine r_iload_n (dt_Read_readKind.at 100 rfl) rfl ?_
      refine r_bipush (dt_Read_readKind.at 101 rfl) 7 (by decide) ?_
      refine r_aload_n (dt_Read_readKind.at 102 rfl) rfl ?_
      refine r_iconst (dt_Read_readKind.at 103 rfl) 0 (by decide) ?_
      refine r_iload_n (dt_Read_readKind.at 104 rfl) rfl ?_
      refine r_iconst (dt_Read_readKind.at 105 rfl) 1 (by decide) ?_
      refine r_isub (dt_Read_readKind.at 106 rfl) ?_
      refine r_cvI (c := 4) (rest := [.int 7, .int x2, .ref b42]) (ct_Read_needNumber a0 0 (x2 - 1) _) (dt_Read_readKind.at 107 rfl) mb_Read_needNumber wd_427 wd_429 wp_8 rfl (by decide) rfl rfl (Nat.le_of_ble_eq_true rfl) (fun r44 M43 => ?_)
      refine r_cvV (c := 5) (rest := []) (ct_Scen_setKind b42 x2 7 r44 _) (dt_Read_readKind.at 108 rfl) mb_Scen_setKind wd_451 wd_452 wd_453 rfl (by decide) rfl rfl (Nat.le_of_ble_eq_true rfl) (fun M45 => ?_)
      refine r_aload_n (dt_Read_readKind.at 109 rfl) rfl ?_
      refine r_fR (dt_Read_readKind.at 110 rfl) fl_Read_12 rfl (fun b46 => ?_)
      refine r_dup (dt_Read_readKind.at 111 rfl) rfl ?_
      refine r_fI (dt_Read_readKind.at 112 rfl) fl_Read_100 rfl (fun x47 => ?_)
      refine r_iconst (dt_Read_readKind.at 113 rfl) 1 (by decide) ?_
      refine r_iadd (dt_Read_readKind.at 114 rfl) ?_
      refine r_sI (dt_Read_readKind.at 115 rfl) fl_Read_100 rfl rfl rfl (fun M48 => ?_)
      exact r_vret (dt_Read_readKind.at 116 rfl) rfl
  · refine r_aload_n (dt_Read_readKind.at 7 rfl) rfl ?_
    refine r_iconst (dt_Read_readKind.at 8 rfl) 3 (by decide) ?_
    refine r_cvV (c := 4) (rest := []) (ct_Read_fail a0 3 _) (dt_Read_readKind.at 9 rfl) mb_Read_fail wd_423 wd_425 wp_7 rfl (by decide) rfl rfl (Nat.le_of_ble_eq_true rfl) (fun M49 => ?_)
    exact r_vret (dt_Read_readKind.at 10 rfl) rfl
set_option maxRecDepth 20000 in
set_option maxHeartbeats 2000000 in
theorem ct_Scen_setSource {G : am_G} {l : Launch} (a0 : Nat) (p1 : Int32) (p2 : Int32) (p3 : Int32) (M : am_M) : Ct G l y_Scen_setSource X_Scen_setSource [.ref a0, .int p1, .int p2, .int p3] M (F_Scen_setSource a0 p1 p2 p3 M) := by
  refine Ct.of (by decide +kernel) rfl rfl (Nat.le_of_ble_eq_true rfl) ?_
  unfold F_Scen_setSource
  show Rf G l X_Scen_setSource 0 [.ref a0, .int p1, .int p2, .int p3, .retAddr 0] [] M _
  refine r_iload_n (dt_Scen_setSource.at 0 rfl) rfl ?_
  refine r_bipush (dt_Scen_setSource.at 1 rfl) 10 (by decide) ?_
  refine r_imul (dt_Scen_setSource.at 2 rfl) ?_
  refine r_iload_n (dt_Scen_setSource.at 3 rfl) rfl ?_
  refine r_iadd (dt_Scen_setSource.at 4 rfl) ?_
  refine r_nmi (fun x1 => ?_)
  refine r_istore (ls' := [.ref a0, .int p1, .int p2, .int p3, .int x1]) (dt_Scen_setSource.at 5 rfl) (by decide) rfl ?_
  refine r_iload (dt_Scen_setSource.at 6 rfl) rfl ?_
  refine r_if_lt (tgt := 31) (dt_Scen_setSource.at 7 rfl) (by decide) ?_ ?_
  · exact r_vret (dt_Scen_setSource.at 18 rfl) rfl
  · refine r_iload (dt_Scen_setSource.at 8 rfl) rfl ?_
    refine r_aload_n (dt_Scen_setSource.at 9 rfl) rfl ?_
    refine r_fR (dt_Scen_setSource.at 10 rfl) fl_Scen_18 rfl (fun b2 => ?_)
    refine r_aN (dt_Scen_setSource.at 11 rfl) (fun x3 => ?_)
    refine r_icmp_ge (tgt := 31) (dt_Scen_setSource.at 12 rfl) (by decide) ?_ ?_
    · exact r_vret (dt_Scen_setSource.at 18 rfl) rfl
    · refine r_aload_n (dt_Scen_setSource.at 13 rfl) rfl ?_
      refine r_fR (dt_Scen_setSource.at 14 rfl) fl_Scen_18 rfl (fun b4 => ?_)
      refine r_iload (dt_Scen_setSource.at 15 rfl) rfl ?_
      refine r_iload_n (dt_Scen_setSource.at 16 rfl) rfl ?_
      refine r_tI (dt_Scen_setSource.at 17 rfl) (fun M5 => ?_)
      exact r_vret (dt_Scen_setSource.at 18 rfl) rfl
set_option maxRecDepth 20000 in
set_option maxHeartbeats 2000000 in
theorem ct_Scen_cellsAlong {G : am_G} {l : Launch} (a0 : Nat) (p1 : Int32) (M : am_M) : Ct G l y_Scen_cellsAlong X_Scen_cellsAlong [.ref a0, .int p1] M (F_Scen_cellsAlong a0 p1 M) := by
  refine Ct.of (by decide +kernel) rfl rfl (Nat.le_of_ble_eq_true rfl) ?_
  unfold F_Scen_cellsAlong
  show Rf G l X_Scen_cellsAlong 0 [.ref a0, .int p1] [] M _
  refine r_iload_n (dt_Scen_cellsAlong.at 0 rfl) rfl ?_
  refine r_if_lt (tgt := 22) (dt_Scen_cellsAlong.at 1 rfl) (by decide) ?_ ?_
  · refine r_iconst (dt_Scen_cellsAlong.at 12 rfl) 0 (by decide) ?_
    exact r_iret (dt_Scen_cellsAlong.at 13 rfl) rfl
  · refine r_iload_n (dt_Scen_cellsAlong.at 2 rfl) rfl ?_
    refine r_aload_n (dt_Scen_cellsAlong.at 3 rfl) rfl ?_
    refine r_fR (dt_Scen_cellsAlong.at 4 rfl) fl_Scen_9 rfl (fun b1 => ?_)
    refine r_aN (dt_Scen_cellsAlong.at 5 rfl) (fun x2 => ?_)
    refine r_icmp_ge (tgt := 22) (dt_Scen_cellsAlong.at 6 rfl) (by decide) ?_ ?_
    · refine r_iconst (dt_Scen_cellsAlong.at 12 rfl) 0 (by decide) ?_
      exact r_iret (dt_Scen_cellsAlong.at 13 rfl) rfl
    · refine r_aload_n (dt_Scen_cellsAlong.at 7 rfl) rfl ?_
      refine r_fR (dt_Scen_cellsAlong.at 8 rfl) fl_Scen_9 rfl (fun b3 => ?_)
      refine r_iload_n (dt_Scen_cellsAlong.at 9 rfl) rfl ?_
      refine r_aI (dt_Scen_cellsAlong.at 10 rfl) (fun x4 => ?_)
      refine r_goto (tgt := 23) (dt_Scen_cellsAlong.at 11 rfl) (by decide) ?_
      exact r_iret (dt_Scen_cellsAlong.at 13 rfl) rfl
set_option maxRecDepth 20000 in
set_option maxHeartbeats 2000000 in
theorem ct_Scen_ofSource {G : am_G} {l : Launch} (a0 : Nat) (p1 : Int32) (p2 : Int32) (M : am_M) : Ct G l y_Scen_ofSource X_Scen_ofSource [.ref a0, .int p1, .int p2] M (F_Scen_ofSource a0 p1 p2 M) := by
  refine Ct.of (by decide +kernel) rfl rfl (Nat.le_of_ble_eq_true rfl) ?_
  unfold F_Scen_ofSource
  show Rf G l X_Scen_ofSource 0 [.ref a0, .int p1, .int p2, .retAddr 0] [] M _
  refine r_iload_n (dt_Scen_ofSource.at 0 rfl) rfl ?_
  refine r_bipush (dt_Scen_ofSource.at 1 rfl) 10 (by decide) ?_
  refine r_imul (dt_Scen_ofSource.at 2 rfl) ?_
  refine r_iload_n (dt_Scen_ofSource.at 3 rfl) rfl ?_
  refine r_iadd (dt_Scen_ofSource.at 4 rfl) ?_
  refine r_nmi (fun x1 => ?_)
  refine r_istore_n (ls' := [.ref a0, .int p1, .int p2, .int x1]) (dt_Scen_ofSource.at 5 rfl) (by decide) rfl ?_
  refine r_iload_n (dt_Scen_ofSource.at 6 rfl) rfl ?_
  refine r_if_lt (tgt := 29) (dt_Scen_ofSource.at 7 rfl) (by decide) ?_ ?_
  · refine r_iconst (dt_Scen_ofSource.at 18 rfl) 0 (by decide) ?_
    exact r_iret (dt_Scen_ofSource.at 19 rfl) rfl
  · refine r_iload_n (dt_Scen_ofSource.at 8 rfl) rfl ?_
    refine r_aload_n (dt_Scen_ofSource.at 9 rfl) rfl ?_
    refine r_fR (dt_Scen_ofSource.at 10 rfl) fl_Scen_18 rfl (fun b2 => ?_)
    refine r_aN (dt_Scen_ofSource.at 11 rfl) (fun x3 => ?_)
    refine r_icmp_ge (tgt := 29) (dt_Scen_ofSource.at 12 rfl) (by decide) ?_ ?_
    · refine r_iconst (dt_Scen_ofSource.at 18 rfl) 0 (by decide) ?_
      exact r_iret (dt_Scen_ofSource.at 19 rfl) rfl
    · refine r_aload_n (dt_Scen_ofSource.at 13 rfl) rfl ?_
      refine r_fR (dt_Scen_ofSource.at 14 rfl) fl_Scen_18 rfl (fun b4 => ?_)
      refine r_iload_n (dt_Scen_ofSource.at 15 rfl) rfl ?_
      refine r_aI (dt_Scen_ofSource.at 16 rfl) (fun x5 => ?_)
      refine r_goto (tgt := 30) (dt_Scen_ofSource.at 17 rfl) (by decide) ?_
      exact r_iret (dt_Scen_ofSource.at 19 rfl) rfl
set_option maxRecDepth 20000 in
set_option maxHeartbeats 2000000 in
theorem ct_Scen_burstsUpTo {G : am_G} {l : Launch} (a0 : Nat) (p1 : Int32) (p2 : Int32) (M : am_M) : Ct G l y_Scen_burstsUpTo X_Scen_burstsUpTo [.ref a0, .int p1, .int p2] M (F_Scen_burstsUpTo a0 p1 p2 M) := by
  refine Ct.of (by decide +kernel) rfl rfl (Nat.le_of_ble_eq_true rfl) ?_
  unfold F_Scen_burstsUpTo
  show Rf G l X_Scen_burstsUpTo 0 [.ref a0, .int p1, .int p2, .retAddr 0, .retAddr 0, .retAddr 0] [] M _
  refine r_aload_n (dt_Scen_burstsUpTo.at 0 rfl) rfl ?_
  refine r_iload_n (dt_Scen_burstsUpTo.at 1 rfl) rfl ?_
  refine r_iconst (dt_Scen_burstsUpTo.at 2 rfl) 4 (by decide) ?_
  refine r_cvI (c := 5) (rest := []) (ct_Scen_ofSource a0 p1 4 _) (dt_Scen_burstsUpTo.at 3 rfl) mb_Scen_ofSource wd_507 wd_500 wd_501 rfl (by decide) rfl rfl (Nat.le_of_ble_eq_true rfl) (fun r2 M1 => ?_)
  refine r_istore_n (ls' := [.ref a0, .int p1, .int p2, .int r2, .retAddr 0, .retAddr 0]) (dt_Scen_burstsUpTo.at 4 rfl) (by decide) rfl ?_
  refine r_iload_n (dt_Scen_burstsUpTo.at 5 rfl) rfl ?_
  refine r_aload_n (dt_Scen_burstsUpTo.at 6 rfl) rfl ?_
  refine r_iload_n (dt_Scen_burstsUpTo.at 7 rfl) rfl ?_
  refine r_bipush (dt_Scen_burstsUpTo.at 8 rfl) 7 (by decide) ?_
  refine r_cvI (c := 5) (rest := [.int p2]) (ct_Scen_ofSource a0 p1 7 _) (dt_Scen_burstsUpTo.at 9 rfl) mb_Scen_ofSource wd_507 wd_500 wd_501 rfl (by decide) rfl rfl (Nat.le_of_ble_eq_true rfl) (fun r4 M3 => ?_)
  refine r_csI (rest := []) (ct_Math_min p2 r4 _) (dt_Scen_burstsUpTo.at 10 rfl) mb_Math_min wd_508 wd_334 (by decide) rfl rfl (Nat.le_of_ble_eq_true rfl) (fun r6 M5 => ?_)
  refine r_istore (ls' := [.ref a0, .int p1, .int p2, .int r2, .int r6, .retAddr 0]) (dt_Scen_burstsUpTo.at 11 rfl) (by decide) rfl ?_
  refine r_aload_n (dt_Scen_burstsUpTo.at 12 rfl) rfl ?_
  refine r_iload_n (dt_Scen_burstsUpTo.at 13 rfl) rfl ?_
  refine r_iconst (dt_Scen_burstsUpTo.at 14 rfl) 5 (by decide) ?_
  refine r_cvI (c := 5) (rest := []) (ct_Scen_ofSource a0 p1 5 _) (dt_Scen_burstsUpTo.at 15 rfl) mb_Scen_ofSource wd_507 wd_500 wd_501 rfl (by decide) rfl rfl (Nat.le_of_ble_eq_true rfl) (fun r8 M7 => ?_)
  refine r_istore (ls' := [.ref a0, .int p1, .int p2, .int r2, .int r6, .int r8]) (dt_Scen_burstsUpTo.at 16 rfl) (by decide) rfl ?_
  refine r_iload (dt_Scen_burstsUpTo.at 17 rfl) rfl ?_
  refine r_iload_n (dt_Scen_burstsUpTo.at 18 rfl) rfl ?_
  refine r_icmp_lt (tgt := 40) (dt_Scen_burstsUpTo.at 19 rfl) (by decide) ?_ ?_
  · refine r_iconst (dt_Scen_burstsUpTo.at 23 rfl) 0 (by decide) ?_
    refine r_goto (tgt := 53) (dt_Scen_burstsUpTo.at 24 rfl) (by decide) ?_
    exact r_iret (dt_Scen_burstsUpTo.at 32 rfl) rfl
  · refine r_iload (dt_Scen_burstsUpTo.at 20 rfl) rfl ?_
    refine r_iconst (dt_Scen_burstsUpTo.at 21 rfl) 1 (by decide) ?_
    refine r_icmp_ge (tgt := 44) (dt_Scen_burstsUpTo.at 22 rfl) (by decide) ?_ ?_
    · refine r_iload (dt_Scen_burstsUpTo.at 25 rfl) rfl ?_
      refine r_iload_n (dt_Scen_burstsUpTo.at 26 rfl) rfl ?_
      refine r_isub (dt_Scen_burstsUpTo.at 27 rfl) ?_
      refine r_iload (dt_Scen_burstsUpTo.at 28 rfl) rfl ?_
      refine r_idiv (dt_Scen_burstsUpTo.at 29 rfl) ?_
      refine r_iconst (dt_Scen_burstsUpTo.at 30 rfl) 1 (by decide) ?_
      refine r_iadd (dt_Scen_burstsUpTo.at 31 rfl) ?_
      exact r_iret (dt_Scen_burstsUpTo.at 32 rfl) rfl
    · refine r_iconst (dt_Scen_burstsUpTo.at 23 rfl) 0 (by decide) ?_
      refine r_goto (tgt := 53) (dt_Scen_burstsUpTo.at 24 rfl) (by decide) ?_
      exact r_iret (dt_Scen_burstsUpTo.at 32 rfl) rfl
