/-! ===== the walks, row by row (printed by wip/whole/emit.py) ===== -/
set_option maxRecDepth 20000 in
set_option maxHeartbeats 2000000 in
theorem ct_Md_octet {G : am_G} {l : Launch} (a0 : Nat) (p1 : Int32) (M : am_M) : Ct G l y_Md_octet X_Md_octet [.ref a0, .int p1] M (F_Md_octet a0 p1 M) := by
  refine Ct.of (by decide +kernel) rfl rfl (Nat.le_of_ble_eq_true rfl) ?_
  unfold F_Md_octet
  show Rf G l X_Md_octet 0 [.ref a0, .int p1] [] M _
  refine r_iload_n (dt_Md_octet.at 0 rfl) rfl ?_
  refine r_i2l (dt_Md_octet.at 1 rfl) ?_
  refine r_lconst (dt_Md_octet.at 2 rfl) 0 (by decide) ?_
  refine r_aload_n (dt_Md_octet.at 3 rfl) rfl ?_
  refine r_fI (dt_Md_octet.at 4 rfl) fl_Md_233 rfl (fun x1 => ?_)
  refine r_iconst (dt_Md_octet.at 5 rfl) 1 (by decide) ?_
  refine r_isub (dt_Md_octet.at 6 rfl) ?_
  refine r_i2l (dt_Md_octet.at 7 rfl) ?_
  refine r_csI (rest := []) (ct_Md_in (p1.toInt64) 0 ((x1 - 1).toInt64) _) (dt_Md_octet.at 8 rfl) mb_Md_in wd_1289 wd_1290 (by decide) rfl rfl (Nat.le_of_ble_eq_true rfl) (fun r3 M2 => ?_)
  refine r_if_eq (tgt := 25) (dt_Md_octet.at 9 rfl) (by decide) ?_ ?_
  · refine r_iconst (dt_Md_octet.at 15 rfl) (-1) (by decide) ?_
    exact r_iret (dt_Md_octet.at 16 rfl) rfl
  · refine r_aload_n (dt_Md_octet.at 10 rfl) rfl ?_
    refine r_fR (dt_Md_octet.at 11 rfl) fl_Md_68 rfl (fun b4 => ?_)
    refine r_iload_n (dt_Md_octet.at 12 rfl) rfl ?_
    refine r_aB (dt_Md_octet.at 13 rfl) (fun x5 => ?_)
    refine r_goto (tgt := 26) (dt_Md_octet.at 14 rfl) (by decide) ?_
    exact r_iret (dt_Md_octet.at 16 rfl) rfl
