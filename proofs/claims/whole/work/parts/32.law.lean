set_option maxRecDepth 100000 in
set_option maxHeartbeats 8000000 in
theorem rf_law_L18 {G : am_G} {l : Launch}   : ∀ (n : Nat) (v1 : Nat) (v2 : Nat) (v3 : Int32) (M : am_M), Rf G l X_law 18 [.retAddr 1, .ref v1, .ref v2, .int v3] [] M (F_law_L18 (gL G) (gX G) n v1 v2 v3 M) := by
  intro n
  induction n with
  | zero => intro v1 v2 v3 M; exact Rf.no
  | succ n ih =>
    intro v1 v2 v3 M
    unfold F_law_L18
    refine r_iload_n (dt_law_0.at 10 rfl) rfl ?_
    refine r_aload_s (dt_law_0.at 11 rfl) rfl (by decide) ?_
    refine r_scLn (dt_law_0.at 12 rfl) ?_
    refine r_bipush (dt_law_0.at 13 rfl) 6 (by decide) ?_
    refine r_isub (dt_law_0.at 14 rfl) ?_
    refine r_icmp_gt (tgt := 2085) (dt_law_0.at 15 rfl) (by decide) ?_ ?_
    · refine r_iconst (dt_law_60.at 15 rfl) 1 (by decide) ?_
      exact r_zret (dt_law_60.at 16 rfl) rfl rfl
    · refine r_aload_s (dt_law_0.at 16 rfl) rfl (by decide) ?_
      refine r_iload_n (dt_law_0.at 17 rfl) rfl ?_
      refine r_scI (dt_law_0.at 18 rfl) (fun x8 => ?_)
      refine r_bipush (dt_law_0.at 19 rfl) 63 (by decide) ?_
      refine r_iand (dt_law_0.at 20 rfl) ?_
      refine Rf.ite (fun h0 => ?_) (fun h0 => ?_)
      · refine r_tsIn (tgt := 264) (dt_law_0.at 21 rfl) (by rw [h0]; decide) (by rw [h0]; decide) (by rw [h0]; rfl) (by decide) ?_
        refine r_aload_n (dt_law_0.at 22 rfl) rfl ?_
        refine r_aload_s (dt_law_0.at 23 rfl) rfl (by decide) ?_
        refine r_iload_n (dt_law_0.at 24 rfl) rfl ?_
        refine r_iconst (dt_law_1.at 0 rfl) 1 (by decide) ?_
        refine r_iadd (dt_law_1.at 1 rfl) ?_
        refine r_scI (dt_law_1.at 2 rfl) (fun x9 => ?_)
        refine r_aload_s (dt_law_1.at 3 rfl) rfl (by decide) ?_
        refine r_iload_n (dt_law_1.at 4 rfl) rfl ?_
        refine r_iconst (dt_law_1.at 5 rfl) 2 (by decide) ?_
        refine r_iadd (dt_law_1.at 6 rfl) ?_
        refine r_scI (dt_law_1.at 7 rfl) (fun x10 => ?_)
        refine r_aload_s (dt_law_1.at 8 rfl) rfl (by decide) ?_
        refine r_iload_n (dt_law_1.at 9 rfl) rfl ?_
        refine r_iconst (dt_law_1.at 10 rfl) 3 (by decide) ?_
        refine r_iadd (dt_law_1.at 11 rfl) ?_
        refine r_scI (dt_law_1.at 12 rfl) (fun x11 => ?_)
        refine r_aload_s (dt_law_1.at 13 rfl) rfl (by decide) ?_
        refine r_iload_n (dt_law_1.at 14 rfl) rfl ?_
        refine r_iconst (dt_law_1.at 15 rfl) 4 (by decide) ?_
        refine r_iadd (dt_law_1.at 16 rfl) ?_
        refine r_scI (dt_law_1.at 17 rfl) (fun x12 => ?_)
        refine r_aload_s (dt_law_1.at 18 rfl) rfl (by decide) ?_
        refine r_iload_n (dt_law_1.at 19 rfl) rfl ?_
        refine r_iconst (dt_law_1.at 20 rfl) 5 (by decide) ?_
        refine r_iadd (dt_law_1.at 21 rfl) ?_
        refine r_scI (dt_law_1.at 22 rfl) (fun x13 => ?_)
        refine r_cvI (c := 8) (rest := []) (ct_NS_feed v1 x9 x10 x11 x12 x13 _) (dt_law_1.at 23 rfl) mb_NS_feed wd_313 wd_314 wd_315 rfl (by decide) rfl rfl (Nat.le_of_ble_eq_true rfl) (fun r15 M14 => ?_)
        refine r_aload_n (dt_law_1.at 24 rfl) rfl ?_
        refine r_aload_s (dt_law_2.at 0 rfl) rfl (by decide) ?_
        refine r_iload_n (dt_law_2.at 1 rfl) rfl ?_
        refine r_iconst (dt_law_2.at 2 rfl) 1 (by decide) ?_
        refine r_iadd (dt_law_2.at 3 rfl) ?_
        refine r_scI (dt_law_2.at 4 rfl) (fun x16 => ?_)
        refine r_aload_s (dt_law_2.at 5 rfl) rfl (by decide) ?_
        refine r_iload_n (dt_law_2.at 6 rfl) rfl ?_
        refine r_iconst (dt_law_2.at 7 rfl) 2 (by decide) ?_
        refine r_iadd (dt_law_2.at 8 rfl) ?_
        refine r_scI (dt_law_2.at 9 rfl) (fun x17 => ?_)
        refine r_aload_s (dt_law_2.at 10 rfl) rfl (by decide) ?_
        refine r_iload_n (dt_law_2.at 11 rfl) rfl ?_
        refine r_iconst (dt_law_2.at 12 rfl) 3 (by decide) ?_
        refine r_iadd (dt_law_2.at 13 rfl) ?_
        refine r_scI (dt_law_2.at 14 rfl) (fun x18 => ?_)
        refine r_aload_s (dt_law_2.at 15 rfl) rfl (by decide) ?_
        refine r_iload_n (dt_law_2.at 16 rfl) rfl ?_
        refine r_iconst (dt_law_2.at 17 rfl) 4 (by decide) ?_
        refine r_iadd (dt_law_2.at 18 rfl) ?_
        refine r_scI (dt_law_2.at 19 rfl) (fun x19 => ?_)
        refine r_aload_s (dt_law_2.at 20 rfl) rfl (by decide) ?_
        refine r_iload_n (dt_law_2.at 21 rfl) rfl ?_
        refine r_iconst (dt_law_2.at 22 rfl) 5 (by decide) ?_
        refine r_iadd (dt_law_2.at 23 rfl) ?_
        refine r_scI (dt_law_2.at 24 rfl) (fun x20 => ?_)
        refine r_cvI (c := 9) (rest := [.int r15]) (ct_Md_feed v2 x16 x17 x18 x19 x20 _) (dt_law_3.at 0 rfl) mb_Md_feed wd_1277 wd_1278 wd_1279 rfl (by decide) rfl rfl (Nat.le_of_ble_eq_true rfl) (fun r22 M21 => ?_)
        refine r_icmp_eq (tgt := 2079) (dt_law_3.at 1 rfl) (by decide) ?_ ?_
        · refine r_iincn (v := 6) (dt_law_60.at 13 rfl) (by decide) rfl (by decide) (fun y => [.retAddr 1, .ref v1, .ref v2, .int y]) (fun _ => rfl) (fun x23 => ?_)
          refine r_goto (tgt := 18) (dt_law_60.at 14 rfl) (by decide) ?_
          exact Rf.msk [true, true, true, true] (ih v1 v2 x23 M21)
        · refine r_iconst (dt_law_3.at 2 rfl) 0 (by decide) ?_
          exact r_zret (dt_law_3.at 3 rfl) rfl rfl
      refine Rf.ite (fun h1 => ?_) (fun h1 => ?_)
      · refine r_tsIn (tgt := 327) (dt_law_0.at 21 rfl) (by rw [h1]; decide) (by rw [h1]; decide) (by rw [h1]; rfl) (by decide) ?_
        refine r_aload_n (dt_law_3.at 4 rfl) rfl ?_
        refine r_aload_s (dt_law_3.at 5 rfl) rfl (by decide) ?_
        refine r_iload_n (dt_law_3.at 6 rfl) rfl ?_
        refine r_iconst (dt_law_3.at 7 rfl) 1 (by decide) ?_
        refine r_iadd (dt_law_3.at 8 rfl) ?_
        refine r_scI (dt_law_3.at 9 rfl) (fun x24 => ?_)
        refine r_cvI (c := 8) (rest := []) (ct_NS_end v1 x24 _) (dt_law_3.at 10 rfl) mb_NS_end wd_321 wd_322 wd_323 rfl (by decide) rfl rfl (Nat.le_of_ble_eq_true rfl) (fun r26 M25 => ?_)
        refine r_aload_n (dt_law_3.at 11 rfl) rfl ?_
        refine r_aload_s (dt_law_3.at 12 rfl) rfl (by decide) ?_
        refine r_iload_n (dt_law_3.at 13 rfl) rfl ?_
        refine r_iconst (dt_law_3.at 14 rfl) 1 (by decide) ?_
        refine r_iadd (dt_law_3.at 15 rfl) ?_
        refine r_scI (dt_law_3.at 16 rfl) (fun x27 => ?_)
        refine r_cvI (c := 9) (rest := [.int r26]) (ct_Md_end v2 x27 _) (dt_law_3.at 17 rfl) mb_Md_end wd_1285 wd_1286 wd_1287 rfl (by decide) rfl rfl (Nat.le_of_ble_eq_true rfl) (fun r29 M28 => ?_)
        refine r_icmp_eq (tgt := 2079) (dt_law_3.at 18 rfl) (by decide) ?_ ?_
        · refine r_iincn (v := 6) (dt_law_60.at 13 rfl) (by decide) rfl (by decide) (fun y => [.retAddr 1, .ref v1, .ref v2, .int y]) (fun _ => rfl) (fun x30 => ?_)
          refine r_goto (tgt := 18) (dt_law_60.at 14 rfl) (by decide) ?_
          exact Rf.msk [true, true, true, true] (ih v1 v2 x30 M28)
        · refine r_iconst (dt_law_3.at 19 rfl) 0 (by decide) ?_
          exact r_zret (dt_law_3.at 20 rfl) rfl rfl
      refine Rf.ite (fun h2 => ?_) (fun h2 => ?_)
      · refine r_tsIn (tgt := 350) (dt_law_0.at 21 rfl) (by rw [h2]; decide) (by rw [h2]; decide) (by rw [h2]; rfl) (by decide) ?_
        refine r_aload_n (dt_law_3.at 21 rfl) rfl ?_
        refine r_cvI (c := 8) (rest := []) (ct_NS_scene v1 _) (dt_law_3.at 22 rfl) mb_NS_scene wd_325 wd_326 wd_327 rfl (by decide) rfl rfl (Nat.le_of_ble_eq_true rfl) (fun r32 M31 => ?_)
        refine r_aload_n (dt_law_3.at 23 rfl) rfl ?_
        refine r_cvI (c := 9) (rest := [.int r32]) (ct_Md_scene v2 _) (dt_law_3.at 24 rfl) mb_Md_scene wd_1292 wd_1293 wd_1294 rfl (by decide) rfl rfl (Nat.le_of_ble_eq_true rfl) (fun r34 M33 => ?_)
        refine r_icmp_eq (tgt := 2079) (dt_law_4.at 0 rfl) (by decide) ?_ ?_
        · refine r_iincn (v := 6) (dt_law_60.at 13 rfl) (by decide) rfl (by decide) (fun y => [.retAddr 1, .ref v1, .ref v2, .int y]) (fun _ => rfl) (fun x35 => ?_)
          refine r_goto (tgt := 18) (dt_law_60.at 14 rfl) (by decide) ?_
          exact Rf.msk [true, true, true, true] (ih v1 v2 x35 M33)
        · refine r_iconst (dt_law_4.at 1 rfl) 0 (by decide) ?_
          exact r_zret (dt_law_4.at 2 rfl) rfl rfl
      refine Rf.ite (fun h3 => ?_) (fun h3 => ?_)
      · refine r_tsIn (tgt := 363) (dt_law_0.at 21 rfl) (by rw [h3]; decide) (by rw [h3]; decide) (by rw [h3]; rfl) (by decide) ?_
        refine r_aload_n (dt_law_4.at 3 rfl) rfl ?_
        refine r_aload_s (dt_law_4.at 4 rfl) rfl (by decide) ?_
        refine r_iload_n (dt_law_4.at 5 rfl) rfl ?_
        refine r_iconst (dt_law_4.at 6 rfl) 1 (by decide) ?_
        refine r_iadd (dt_law_4.at 7 rfl) ?_
        refine r_scI (dt_law_4.at 8 rfl) (fun x36 => ?_)
        refine r_cvI (c := 8) (rest := []) (ct_NS_fault v1 x36 _) (dt_law_4.at 9 rfl) mb_NS_fault wd_525 wd_526 wd_527 rfl (by decide) rfl rfl (Nat.le_of_ble_eq_true rfl) (fun r38 M37 => ?_)
        refine r_aload_n (dt_law_4.at 10 rfl) rfl ?_
        refine r_aload_s (dt_law_4.at 11 rfl) rfl (by decide) ?_
        refine r_iload_n (dt_law_4.at 12 rfl) rfl ?_
        refine r_iconst (dt_law_4.at 13 rfl) 1 (by decide) ?_
        refine r_iadd (dt_law_4.at 14 rfl) ?_
        refine r_scI (dt_law_4.at 15 rfl) (fun x39 => ?_)
        refine r_cvI (c := 9) (rest := [.int r38]) (ct_Md_fault v2 x39 _) (dt_law_4.at 16 rfl) mb_Md_fault wd_1377 wd_1378 wd_1379 rfl (by decide) rfl rfl (Nat.le_of_ble_eq_true rfl) (fun r41 M40 => ?_)
        refine r_icmp_eq (tgt := 2079) (dt_law_4.at 17 rfl) (by decide) ?_ ?_
        · refine r_iincn (v := 6) (dt_law_60.at 13 rfl) (by decide) rfl (by decide) (fun y => [.retAddr 1, .ref v1, .ref v2, .int y]) (fun _ => rfl) (fun x42 => ?_)
          refine r_goto (tgt := 18) (dt_law_60.at 14 rfl) (by decide) ?_
          exact Rf.msk [true, true, true, true] (ih v1 v2 x42 M40)
        · refine r_iconst (dt_law_4.at 18 rfl) 0 (by decide) ?_
          exact r_zret (dt_law_4.at 19 rfl) rfl rfl
      refine Rf.ite (fun h4 => ?_) (fun h4 => ?_)
      · refine r_tsIn (tgt := 386) (dt_law_0.at 21 rfl) (by rw [h4]; decide) (by rw [h4]; decide) (by rw [h4]; rfl) (by decide) ?_
        refine r_aload_n (dt_law_4.at 20 rfl) rfl ?_
        refine r_aload_s (dt_law_4.at 21 rfl) rfl (by decide) ?_
        refine r_iload_n (dt_law_4.at 22 rfl) rfl ?_
        refine r_iconst (dt_law_4.at 23 rfl) 1 (by decide) ?_
        refine r_iadd (dt_law_4.at 24 rfl) ?_
        refine r_scI (dt_law_5.at 0 rfl) (fun x43 => ?_)
        refine r_cvI (c := 8) (rest := []) (ct_NS_count v1 x43 _) (dt_law_5.at 1 rfl) mb_NS_count wd_529 wd_530 wd_531 rfl (by decide) rfl rfl (Nat.le_of_ble_eq_true rfl) (fun r45 M44 => ?_)
        refine r_aload_n (dt_law_5.at 2 rfl) rfl ?_
        refine r_aload_s (dt_law_5.at 3 rfl) rfl (by decide) ?_
        refine r_iload_n (dt_law_5.at 4 rfl) rfl ?_
        refine r_iconst (dt_law_5.at 5 rfl) 1 (by decide) ?_
        refine r_iadd (dt_law_5.at 6 rfl) ?_
        refine r_scI (dt_law_5.at 7 rfl) (fun x46 => ?_)
        refine r_cvI (c := 9) (rest := [.int r45]) (ct_Md_count v2 x46 _) (dt_law_5.at 8 rfl) mb_Md_count wd_1381 wd_1382 wd_1383 rfl (by decide) rfl rfl (Nat.le_of_ble_eq_true rfl) (fun r48 M47 => ?_)
        refine r_icmp_eq (tgt := 2079) (dt_law_5.at 9 rfl) (by decide) ?_ ?_
        · refine r_iincn (v := 6) (dt_law_60.at 13 rfl) (by decide) rfl (by decide) (fun y => [.retAddr 1, .ref v1, .ref v2, .int y]) (fun _ => rfl) (fun x49 => ?_)
          refine r_goto (tgt := 18) (dt_law_60.at 14 rfl) (by decide) ?_
          exact Rf.msk [true, true, true, true] (ih v1 v2 x49 M47)
        · refine r_iconst (dt_law_5.at 10 rfl) 0 (by decide) ?_
          exact r_zret (dt_law_5.at 11 rfl) rfl rfl
      refine Rf.ite (fun h5 => ?_) (fun h5 => ?_)
      · refine r_tsIn (tgt := 409) (dt_law_0.at 21 rfl) (by rw [h5]; decide) (by rw [h5]; decide) (by rw [h5]; rfl) (by decide) ?_
        refine r_aload_n (dt_law_5.at 12 rfl) rfl ?_
        refine r_aload_s (dt_law_5.at 13 rfl) rfl (by decide) ?_
        refine r_iload_n (dt_law_5.at 14 rfl) rfl ?_
        refine r_iconst (dt_law_5.at 15 rfl) 1 (by decide) ?_
        refine r_iadd (dt_law_5.at 16 rfl) ?_
        refine r_scI (dt_law_5.at 17 rfl) (fun x50 => ?_)
        refine r_aload_s (dt_law_5.at 18 rfl) rfl (by decide) ?_
        refine r_iload_n (dt_law_5.at 19 rfl) rfl ?_
        refine r_iconst (dt_law_5.at 20 rfl) 2 (by decide) ?_
        refine r_iadd (dt_law_5.at 21 rfl) ?_
        refine r_scI (dt_law_5.at 22 rfl) (fun x51 => ?_)
        refine r_cvI (c := 8) (rest := []) (ct_NS_kind v1 x50 x51 _) (dt_law_5.at 23 rfl) mb_NS_kind wd_534 wd_535 wd_536 rfl (by decide) rfl rfl (Nat.le_of_ble_eq_true rfl) (fun r53 M52 => ?_)
        refine r_aload_n (dt_law_5.at 24 rfl) rfl ?_
        refine r_aload_s (dt_law_6.at 0 rfl) rfl (by decide) ?_
        refine r_iload_n (dt_law_6.at 1 rfl) rfl ?_
        refine r_iconst (dt_law_6.at 2 rfl) 1 (by decide) ?_
        refine r_iadd (dt_law_6.at 3 rfl) ?_
        refine r_scI (dt_law_6.at 4 rfl) (fun x54 => ?_)
        refine r_aload_s (dt_law_6.at 5 rfl) rfl (by decide) ?_
        refine r_iload_n (dt_law_6.at 6 rfl) rfl ?_
        refine r_iconst (dt_law_6.at 7 rfl) 2 (by decide) ?_
        refine r_iadd (dt_law_6.at 8 rfl) ?_
        refine r_scI (dt_law_6.at 9 rfl) (fun x55 => ?_)
        refine r_cvI (c := 9) (rest := [.int r53]) (ct_Md_kind v2 x54 x55 _) (dt_law_6.at 10 rfl) mb_Md_kind wd_1385 wd_1386 wd_1387 rfl (by decide) rfl rfl (Nat.le_of_ble_eq_true rfl) (fun r57 M56 => ?_)
        refine r_icmp_eq (tgt := 2079) (dt_law_6.at 11 rfl) (by decide) ?_ ?_
        · refine r_iincn (v := 6) (dt_law_60.at 13 rfl) (by decide) rfl (by decide) (fun y => [.retAddr 1, .ref v1, .ref v2, .int y]) (fun _ => rfl) (fun x58 => ?_)
          refine r_goto (tgt := 18) (dt_law_60.at 14 rfl) (by decide) ?_
          exact Rf.msk [true, true, true, true] (ih v1 v2 x58 M56)
        · refine r_iconst (dt_law_6.at 12 rfl) 0 (by decide) ?_
          exact r_zret (dt_law_6.at 13 rfl) rfl rfl
      refine Rf.ite (fun h6 => ?_) (fun h6 => ?_)
      · refine r_tsIn (tgt := 442) (dt_law_0.at 21 rfl) (by rw [h6]; decide) (by rw [h6]; decide) (by rw [h6]; rfl) (by decide) ?_
        refine r_aload_n (dt_law_6.at 14 rfl) rfl ?_
        refine r_aload_s (dt_law_6.at 15 rfl) rfl (by decide) ?_
        refine r_iload_n (dt_law_6.at 16 rfl) rfl ?_
        refine r_iconst (dt_law_6.at 17 rfl) 1 (by decide) ?_
        refine r_iadd (dt_law_6.at 18 rfl) ?_
        refine r_scI (dt_law_6.at 19 rfl) (fun x59 => ?_)
        refine r_aload_s (dt_law_6.at 20 rfl) rfl (by decide) ?_
        refine r_iload_n (dt_law_6.at 21 rfl) rfl ?_
        refine r_iconst (dt_law_6.at 22 rfl) 2 (by decide) ?_
        refine r_iadd (dt_law_6.at 23 rfl) ?_
        refine r_scI (dt_law_6.at 24 rfl) (fun x60 => ?_)
        refine r_cvI (c := 8) (rest := []) (ct_NS_source v1 x59 x60 _) (dt_law_7.at 0 rfl) mb_NS_source wd_543 wd_544 wd_545 rfl (by decide) rfl rfl (Nat.le_of_ble_eq_true rfl) (fun r62 M61 => ?_)
        refine r_aload_n (dt_law_7.at 1 rfl) rfl ?_
        refine r_aload_s (dt_law_7.at 2 rfl) rfl (by decide) ?_
        refine r_iload_n (dt_law_7.at 3 rfl) rfl ?_
        refine r_iconst (dt_law_7.at 4 rfl) 1 (by decide) ?_
        refine r_iadd (dt_law_7.at 5 rfl) ?_
        refine r_scI (dt_law_7.at 6 rfl) (fun x63 => ?_)
        refine r_aload_s (dt_law_7.at 7 rfl) rfl (by decide) ?_
        refine r_iload_n (dt_law_7.at 8 rfl) rfl ?_
        refine r_iconst (dt_law_7.at 9 rfl) 2 (by decide) ?_
        refine r_iadd (dt_law_7.at 10 rfl) ?_
        refine r_scI (dt_law_7.at 11 rfl) (fun x64 => ?_)
        refine r_cvI (c := 9) (rest := [.int r62]) (ct_Md_source v2 x63 x64 _) (dt_law_7.at 12 rfl) mb_Md_source wd_1390 wd_1391 wd_1392 rfl (by decide) rfl rfl (Nat.le_of_ble_eq_true rfl) (fun r66 M65 => ?_)
        refine r_icmp_eq (tgt := 2079) (dt_law_7.at 13 rfl) (by decide) ?_ ?_
        · refine r_iincn (v := 6) (dt_law_60.at 13 rfl) (by decide) rfl (by decide) (fun y => [.retAddr 1, .ref v1, .ref v2, .int y]) (fun _ => rfl) (fun x67 => ?_)
          refine r_goto (tgt := 18) (dt_law_60.at 14 rfl) (by decide) ?_
          exact Rf.msk [true, true, true, true] (ih v1 v2 x67 M65)
        · refine r_iconst (dt_law_7.at 14 rfl) 0 (by decide) ?_
          exact r_zret (dt_law_7.at 15 rfl) rfl rfl
      refine Rf.ite (fun h7 => ?_) (fun h7 => ?_)
      · refine r_tsIn (tgt := 475) (dt_law_0.at 21 rfl) (by rw [h7]; decide) (by rw [h7]; decide) (by rw [h7]; rfl) (by decide) ?_
        refine r_aload_n (dt_law_7.at 16 rfl) rfl ?_
        refine r_aload_s (dt_law_7.at 17 rfl) rfl (by decide) ?_
        refine r_iload_n (dt_law_7.at 18 rfl) rfl ?_
        refine r_iconst (dt_law_7.at 19 rfl) 1 (by decide) ?_
        refine r_iadd (dt_law_7.at 20 rfl) ?_
        refine r_scI (dt_law_7.at 21 rfl) (fun x68 => ?_)
        refine r_cvI (c := 8) (rest := []) (ct_NS_seed v1 x68 _) (dt_law_7.at 22 rfl) mb_NS_seed wd_552 wd_553 wd_554 rfl (by decide) rfl rfl (Nat.le_of_ble_eq_true rfl) (fun r70 M69 => ?_)
        refine r_aload_n (dt_law_7.at 23 rfl) rfl ?_
        refine r_aload_s (dt_law_7.at 24 rfl) rfl (by decide) ?_
        refine r_iload_n (dt_law_8.at 0 rfl) rfl ?_
        refine r_iconst (dt_law_8.at 1 rfl) 1 (by decide) ?_
        refine r_iadd (dt_law_8.at 2 rfl) ?_
        refine r_scI (dt_law_8.at 3 rfl) (fun x71 => ?_)
        refine r_cvI (c := 9) (rest := [.int r70]) (ct_Md_seed v2 x71 _) (dt_law_8.at 4 rfl) mb_Md_seed wd_1407 wd_1408 wd_1409 rfl (by decide) rfl rfl (Nat.le_of_ble_eq_true rfl) (fun r73 M72 => ?_)
        refine r_icmp_eq (tgt := 2079) (dt_law_8.at 5 rfl) (by decide) ?_ ?_
        · refine r_iincn (v := 6) (dt_law_60.at 13 rfl) (by decide) rfl (by decide) (fun y => [.retAddr 1, .ref v1, .ref v2, .int y]) (fun _ => rfl) (fun x74 => ?_)
          refine r_goto (tgt := 18) (dt_law_60.at 14 rfl) (by decide) ?_
          exact Rf.msk [true, true, true, true] (ih v1 v2 x74 M72)
        · refine r_iconst (dt_law_8.at 6 rfl) 0 (by decide) ?_
          exact r_zret (dt_law_8.at 7 rfl) rfl rfl
      refine Rf.ite (fun h8 => ?_) (fun h8 => ?_)
      · refine r_tsIn (tgt := 498) (dt_law_0.at 21 rfl) (by rw [h8]; decide) (by rw [h8]; decide) (by rw [h8]; rfl) (by decide) ?_
        refine r_aload_n (dt_law_8.at 8 rfl) rfl ?_
        refine r_aload_s (dt_law_8.at 9 rfl) rfl (by decide) ?_
        refine r_iload_n (dt_law_8.at 10 rfl) rfl ?_
        refine r_iconst (dt_law_8.at 11 rfl) 1 (by decide) ?_
        refine r_iadd (dt_law_8.at 12 rfl) ?_
        refine r_scI (dt_law_8.at 13 rfl) (fun x75 => ?_)
        refine r_aload_s (dt_law_8.at 14 rfl) rfl (by decide) ?_
        refine r_iload_n (dt_law_8.at 15 rfl) rfl ?_
        refine r_iconst (dt_law_8.at 16 rfl) 2 (by decide) ?_
        refine r_iadd (dt_law_8.at 17 rfl) ?_
        refine r_scI (dt_law_8.at 18 rfl) (fun x76 => ?_)
        refine r_cvL (c := 8) (rest := []) (ct_NS_mixed v1 x75 x76 _) (dt_law_8.at 19 rfl) mb_NS_mixed wd_585 wd_586 wd_587 rfl (by decide) rfl rfl (Nat.le_of_ble_eq_true rfl) (fun z78 M77 => ?_)
        refine r_aload_n (dt_law_8.at 20 rfl) rfl ?_
        refine r_aload_s (dt_law_8.at 21 rfl) rfl (by decide) ?_
        refine r_iload_n (dt_law_8.at 22 rfl) rfl ?_
        refine r_iconst (dt_law_8.at 23 rfl) 1 (by decide) ?_
        refine r_iadd (dt_law_8.at 24 rfl) ?_
        refine r_scI (dt_law_9.at 0 rfl) (fun x79 => ?_)
        refine r_aload_s (dt_law_9.at 1 rfl) rfl (by decide) ?_
        refine r_iload_n (dt_law_9.at 2 rfl) rfl ?_
        refine r_iconst (dt_law_9.at 3 rfl) 2 (by decide) ?_
        refine r_iadd (dt_law_9.at 4 rfl) ?_
        refine r_scI (dt_law_9.at 5 rfl) (fun x80 => ?_)
        refine r_cvL (c := 9) (rest := [.long z78]) (ct_Md_mixed v2 x79 x80 _) (dt_law_9.at 6 rfl) mb_Md_mixed wd_1425 wd_1426 wd_1427 rfl (by decide) rfl rfl (Nat.le_of_ble_eq_true rfl) (fun z82 M81 => ?_)
        refine r_lcmp (dt_law_9.at 7 rfl) ?_
        refine r_if_eq (tgt := 2079) (dt_law_9.at 8 rfl) (by decide) ?_ ?_
        · refine r_iincn (v := 6) (dt_law_60.at 13 rfl) (by decide) rfl (by decide) (fun y => [.retAddr 1, .ref v1, .ref v2, .int y]) (fun _ => rfl) (fun x83 => ?_)
          refine r_goto (tgt := 18) (dt_law_60.at 14 rfl) (by decide) ?_
          exact Rf.msk [true, true, true, true] (ih v1 v2 x83 M81)
        · refine r_iconst (dt_law_9.at 9 rfl) 0 (by decide) ?_
          exact r_zret (dt_law_9.at 10 rfl) rfl rfl
      refine Rf.ite (fun h9 => ?_) (fun h9 => ?_)
      · refine r_tsIn (tgt := 532) (dt_law_0.at 21 rfl) (by rw [h9]; decide) (by rw [h9]; decide) (by rw [h9]; rfl) (by decide) ?_
        refine r_aload_n (dt_law_9.at 11 rfl) rfl ?_
        refine r_aload_s (dt_law_9.at 12 rfl) rfl (by decide) ?_
        refine r_iload_n (dt_law_9.at 13 rfl) rfl ?_
        refine r_iconst (dt_law_9.at 14 rfl) 1 (by decide) ?_
        refine r_iadd (dt_law_9.at 15 rfl) ?_
        refine r_scI (dt_law_9.at 16 rfl) (fun x84 => ?_)
        refine r_cvI (c := 8) (rest := []) (ct_NS_is v1 x84 _) (dt_law_9.at 17 rfl) mb_NS_is wd_597 wd_598 wd_599 rfl (by decide) rfl rfl (Nat.le_of_ble_eq_true rfl) (fun r86 M85 => ?_)
        refine r_aload_n (dt_law_9.at 18 rfl) rfl ?_
        refine r_aload_s (dt_law_9.at 19 rfl) rfl (by decide) ?_
        refine r_iload_n (dt_law_9.at 20 rfl) rfl ?_
        refine r_iconst (dt_law_9.at 21 rfl) 1 (by decide) ?_
        refine r_iadd (dt_law_9.at 22 rfl) ?_
        refine r_scI (dt_law_9.at 23 rfl) (fun x87 => ?_)
        refine r_cvI (c := 9) (rest := [.int r86]) (ct_Md_is v2 x87 _) (dt_law_9.at 24 rfl) mb_Md_is wd_1437 wd_1438 wd_1439 rfl (by decide) rfl rfl (Nat.le_of_ble_eq_true rfl) (fun r89 M88 => ?_)
        refine r_icmp_eq (tgt := 2079) (dt_law_10.at 0 rfl) (by decide) ?_ ?_
        · refine r_iincn (v := 6) (dt_law_60.at 13 rfl) (by decide) rfl (by decide) (fun y => [.retAddr 1, .ref v1, .ref v2, .int y]) (fun _ => rfl) (fun x90 => ?_)
          refine r_goto (tgt := 18) (dt_law_60.at 14 rfl) (by decide) ?_
          exact Rf.msk [true, true, true, true] (ih v1 v2 x90 M88)
        · refine r_iconst (dt_law_10.at 1 rfl) 0 (by decide) ?_
          exact r_zret (dt_law_10.at 2 rfl) rfl rfl
      refine Rf.ite (fun h10 => ?_) (fun h10 => ?_)
      · refine r_tsIn (tgt := 555) (dt_law_0.at 21 rfl) (by rw [h10]; decide) (by rw [h10]; decide) (by rw [h10]; rfl) (by decide) ?_
        refine r_aload_n (dt_law_10.at 3 rfl) rfl ?_
        refine r_aload_s (dt_law_10.at 4 rfl) rfl (by decide) ?_
        refine r_iload_n (dt_law_10.at 5 rfl) rfl ?_
        refine r_iconst (dt_law_10.at 6 rfl) 1 (by decide) ?_
        refine r_iadd (dt_law_10.at 7 rfl) ?_
        refine r_scI (dt_law_10.at 8 rfl) (fun x91 => ?_)
        refine r_aload_s (dt_law_10.at 9 rfl) rfl (by decide) ?_
        refine r_iload_n (dt_law_10.at 10 rfl) rfl ?_
        refine r_iconst (dt_law_10.at 11 rfl) 2 (by decide) ?_
        refine r_iadd (dt_law_10.at 12 rfl) ?_
        refine r_scI (dt_law_10.at 13 rfl) (fun x92 => ?_)
        refine r_cvI (c := 8) (rest := []) (ct_NS_child v1 x91 x92 _) (dt_law_10.at 14 rfl) mb_NS_child wd_613 wd_614 wd_615 rfl (by decide) rfl rfl (Nat.le_of_ble_eq_true rfl) (fun r94 M93 => ?_)
        refine r_aload_n (dt_law_10.at 15 rfl) rfl ?_
        refine r_aload_s (dt_law_10.at 16 rfl) rfl (by decide) ?_
        refine r_iload_n (dt_law_10.at 17 rfl) rfl ?_
        refine r_iconst (dt_law_10.at 18 rfl) 1 (by decide) ?_
        refine r_iadd (dt_law_10.at 19 rfl) ?_
        refine r_scI (dt_law_10.at 20 rfl) (fun x95 => ?_)
        refine r_aload_s (dt_law_10.at 21 rfl) rfl (by decide) ?_
        refine r_iload_n (dt_law_10.at 22 rfl) rfl ?_
        refine r_iconst (dt_law_10.at 23 rfl) 2 (by decide) ?_
        refine r_iadd (dt_law_10.at 24 rfl) ?_
        refine r_scI (dt_law_11.at 0 rfl) (fun x96 => ?_)
        refine r_cvI (c := 9) (rest := [.int r94]) (ct_Md_child v2 x95 x96 _) (dt_law_11.at 1 rfl) mb_Md_child wd_1455 wd_1456 wd_1457 rfl (by decide) rfl rfl (Nat.le_of_ble_eq_true rfl) (fun r98 M97 => ?_)
        refine r_icmp_eq (tgt := 2079) (dt_law_11.at 2 rfl) (by decide) ?_ ?_
        · refine r_iincn (v := 6) (dt_law_60.at 13 rfl) (by decide) rfl (by decide) (fun y => [.retAddr 1, .ref v1, .ref v2, .int y]) (fun _ => rfl) (fun x99 => ?_)
          refine r_goto (tgt := 18) (dt_law_60.at 14 rfl) (by decide) ?_
          exact Rf.msk [true, true, true, true] (ih v1 v2 x99 M97)
        · refine r_iconst (dt_law_11.at 3 rfl) 0 (by decide) ?_
          exact r_zret (dt_law_11.at 4 rfl) rfl rfl
      refine Rf.ite (fun h11 => ?_) (fun h11 => ?_)
      · refine r_tsIn (tgt := 588) (dt_law_0.at 21 rfl) (by rw [h11]; decide) (by rw [h11]; decide) (by rw [h11]; rfl) (by decide) ?_
        refine r_aload_n (dt_law_11.at 5 rfl) rfl ?_
        refine r_aload_s (dt_law_11.at 6 rfl) rfl (by decide) ?_
        refine r_iload_n (dt_law_11.at 7 rfl) rfl ?_
        refine r_iconst (dt_law_11.at 8 rfl) 1 (by decide) ?_
        refine r_iadd (dt_law_11.at 9 rfl) ?_
        refine r_scI (dt_law_11.at 10 rfl) (fun x100 => ?_)
        refine r_cvI (c := 8) (rest := []) (ct_NS_parent v1 x100 _) (dt_law_11.at 11 rfl) mb_NS_parent wd_628 wd_629 wd_630 rfl (by decide) rfl rfl (Nat.le_of_ble_eq_true rfl) (fun r102 M101 => ?_)
        refine r_aload_n (dt_law_11.at 12 rfl) rfl ?_
        refine r_aload_s (dt_law_11.at 13 rfl) rfl (by decide) ?_
        refine r_iload_n (dt_law_11.at 14 rfl) rfl ?_
        refine r_iconst (dt_law_11.at 15 rfl) 1 (by decide) ?_
        refine r_iadd (dt_law_11.at 16 rfl) ?_
        refine r_scI (dt_law_11.at 17 rfl) (fun x103 => ?_)
        refine r_cvI (c := 9) (rest := [.int r102]) (ct_Md_parent v2 x103 _) (dt_law_11.at 18 rfl) mb_Md_parent wd_1470 wd_1471 wd_1472 rfl (by decide) rfl rfl (Nat.le_of_ble_eq_true rfl) (fun r105 M104 => ?_)
        refine r_icmp_eq (tgt := 2079) (dt_law_11.at 19 rfl) (by decide) ?_ ?_
        · refine r_iincn (v := 6) (dt_law_60.at 13 rfl) (by decide) rfl (by decide) (fun y => [.retAddr 1, .ref v1, .ref v2, .int y]) (fun _ => rfl) (fun x106 => ?_)
          refine r_goto (tgt := 18) (dt_law_60.at 14 rfl) (by decide) ?_
          exact Rf.msk [true, true, true, true] (ih v1 v2 x106 M104)
        · refine r_iconst (dt_law_11.at 20 rfl) 0 (by decide) ?_
          exact r_zret (dt_law_11.at 21 rfl) rfl rfl
      refine Rf.ite (fun h12 => ?_) (fun h12 => ?_)
      · refine r_tsIn (tgt := 611) (dt_law_0.at 21 rfl) (by rw [h12]; decide) (by rw [h12]; decide) (by rw [h12]; rfl) (by decide) ?_
        refine r_aload_n (dt_law_11.at 22 rfl) rfl ?_
        refine r_aload_s (dt_law_11.at 23 rfl) rfl (by decide) ?_
        refine r_iload_n (dt_law_11.at 24 rfl) rfl ?_
        refine r_iconst (dt_law_12.at 0 rfl) 1 (by decide) ?_
        refine r_iadd (dt_law_12.at 1 rfl) ?_
        refine r_scI (dt_law_12.at 2 rfl) (fun x107 => ?_)
        refine r_aload_s (dt_law_12.at 3 rfl) rfl (by decide) ?_
        refine r_iload_n (dt_law_12.at 4 rfl) rfl ?_
        refine r_iconst (dt_law_12.at 5 rfl) 2 (by decide) ?_
        refine r_iadd (dt_law_12.at 6 rfl) ?_
        refine r_scI (dt_law_12.at 7 rfl) (fun x108 => ?_)
        refine r_cvI (c := 8) (rest := []) (ct_NS_spark v1 x107 x108 _) (dt_law_12.at 8 rfl) mb_NS_spark wd_635 wd_636 wd_637 rfl (by decide) rfl rfl (Nat.le_of_ble_eq_true rfl) (fun r110 M109 => ?_)
        refine r_aload_n (dt_law_12.at 9 rfl) rfl ?_
        refine r_aload_s (dt_law_12.at 10 rfl) rfl (by decide) ?_
        refine r_iload_n (dt_law_12.at 11 rfl) rfl ?_
        refine r_iconst (dt_law_12.at 12 rfl) 1 (by decide) ?_
        refine r_iadd (dt_law_12.at 13 rfl) ?_
        refine r_scI (dt_law_12.at 14 rfl) (fun x111 => ?_)
        refine r_aload_s (dt_law_12.at 15 rfl) rfl (by decide) ?_
        refine r_iload_n (dt_law_12.at 16 rfl) rfl ?_
        refine r_iconst (dt_law_12.at 17 rfl) 2 (by decide) ?_
        refine r_iadd (dt_law_12.at 18 rfl) ?_
        refine r_scI (dt_law_12.at 19 rfl) (fun x112 => ?_)
        refine r_cvI (c := 9) (rest := [.int r110]) (ct_Md_spark v2 x111 x112 _) (dt_law_12.at 20 rfl) mb_Md_spark wd_1477 wd_1478 wd_1479 rfl (by decide) rfl rfl (Nat.le_of_ble_eq_true rfl) (fun r114 M113 => ?_)
        refine r_icmp_eq (tgt := 2079) (dt_law_12.at 21 rfl) (by decide) ?_ ?_
        · refine r_iincn (v := 6) (dt_law_60.at 13 rfl) (by decide) rfl (by decide) (fun y => [.retAddr 1, .ref v1, .ref v2, .int y]) (fun _ => rfl) (fun x115 => ?_)
          refine r_goto (tgt := 18) (dt_law_60.at 14 rfl) (by decide) ?_
          exact Rf.msk [true, true, true, true] (ih v1 v2 x115 M113)
        · refine r_iconst (dt_law_12.at 22 rfl) 0 (by decide) ?_
          exact r_zret (dt_law_12.at 23 rfl) rfl rfl
      refine Rf.ite (fun h13 => ?_) (fun h13 => ?_)
      · refine r_tsIn (tgt := 644) (dt_law_0.at 21 rfl) (by rw [h13]; decide) (by rw [h13]; decide) (by rw [h13]; rfl) (by decide) ?_
        refine r_aload_n (dt_law_12.at 24 rfl) rfl ?_
        refine r_aload_s (dt_law_13.at 0 rfl) rfl (by decide) ?_
        refine r_iload_n (dt_law_13.at 1 rfl) rfl ?_
        refine r_iconst (dt_law_13.at 2 rfl) 1 (by decide) ?_
        refine r_iadd (dt_law_13.at 3 rfl) ?_
        refine r_scI (dt_law_13.at 4 rfl) (fun x116 => ?_)
        refine r_aload_s (dt_law_13.at 5 rfl) rfl (by decide) ?_
        refine r_iload_n (dt_law_13.at 6 rfl) rfl ?_
        refine r_iconst (dt_law_13.at 7 rfl) 2 (by decide) ?_
        refine r_iadd (dt_law_13.at 8 rfl) ?_
        refine r_scI (dt_law_13.at 9 rfl) (fun x117 => ?_)
        refine r_aload_s (dt_law_13.at 10 rfl) rfl (by decide) ?_
        refine r_iload_n (dt_law_13.at 11 rfl) rfl ?_
        refine r_iconst (dt_law_13.at 12 rfl) 3 (by decide) ?_
        refine r_iadd (dt_law_13.at 13 rfl) ?_
        refine r_scI (dt_law_13.at 14 rfl) (fun x118 => ?_)
        refine r_cvI (c := 8) (rest := []) (ct_NS_place v1 x116 x117 x118 _) (dt_law_13.at 15 rfl) mb_NS_place wd_710 wd_711 wd_712 rfl (by decide) rfl rfl (Nat.le_of_ble_eq_true rfl) (fun r120 M119 => ?_)
        refine r_aload_n (dt_law_13.at 16 rfl) rfl ?_
        refine r_aload_s (dt_law_13.at 17 rfl) rfl (by decide) ?_
        refine r_iload_n (dt_law_13.at 18 rfl) rfl ?_
        refine r_iconst (dt_law_13.at 19 rfl) 1 (by decide) ?_
        refine r_iadd (dt_law_13.at 20 rfl) ?_
        refine r_scI (dt_law_13.at 21 rfl) (fun x121 => ?_)
        refine r_aload_s (dt_law_13.at 22 rfl) rfl (by decide) ?_
        refine r_iload_n (dt_law_13.at 23 rfl) rfl ?_
        refine r_iconst (dt_law_13.at 24 rfl) 2 (by decide) ?_
        refine r_iadd (dt_law_14.at 0 rfl) ?_
        refine r_scI (dt_law_14.at 1 rfl) (fun x122 => ?_)
        refine r_aload_s (dt_law_14.at 2 rfl) rfl (by decide) ?_
        refine r_iload_n (dt_law_14.at 3 rfl) rfl ?_
        refine r_iconst (dt_law_14.at 4 rfl) 3 (by decide) ?_
        refine r_iadd (dt_law_14.at 5 rfl) ?_
        refine r_scI (dt_law_14.at 6 rfl) (fun x123 => ?_)
        refine r_cvI (c := 9) (rest := [.int r120]) (ct_Md_place v2 x121 x122 x123 _) (dt_law_14.at 7 rfl) mb_Md_place wd_1522 wd_1523 wd_1524 rfl (by decide) rfl rfl (Nat.le_of_ble_eq_true rfl) (fun r125 M124 => ?_)
        refine r_icmp_eq (tgt := 2079) (dt_law_14.at 8 rfl) (by decide) ?_ ?_
        · refine r_iincn (v := 6) (dt_law_60.at 13 rfl) (by decide) rfl (by decide) (fun y => [.retAddr 1, .ref v1, .ref v2, .int y]) (fun _ => rfl) (fun x126 => ?_)
          refine r_goto (tgt := 18) (dt_law_60.at 14 rfl) (by decide) ?_
          exact Rf.msk [true, true, true, true] (ih v1 v2 x126 M124)
        · refine r_iconst (dt_law_14.at 9 rfl) 0 (by decide) ?_
          exact r_zret (dt_law_14.at 10 rfl) rfl rfl
      refine Rf.ite (fun h14 => ?_) (fun h14 => ?_)
      · refine r_tsIn (tgt := 687) (dt_law_0.at 21 rfl) (by rw [h14]; decide) (by rw [h14]; decide) (by rw [h14]; rfl) (by decide) ?_
        refine r_aload_n (dt_law_14.at 11 rfl) rfl ?_
        refine r_aload_s (dt_law_14.at 12 rfl) rfl (by decide) ?_
        refine r_iload_n (dt_law_14.at 13 rfl) rfl ?_
        refine r_iconst (dt_law_14.at 14 rfl) 1 (by decide) ?_
        refine r_iadd (dt_law_14.at 15 rfl) ?_
        refine r_scI (dt_law_14.at 16 rfl) (fun x127 => ?_)
        refine r_aload_s (dt_law_14.at 17 rfl) rfl (by decide) ?_
        refine r_iload_n (dt_law_14.at 18 rfl) rfl ?_
        refine r_iconst (dt_law_14.at 19 rfl) 2 (by decide) ?_
        refine r_iadd (dt_law_14.at 20 rfl) ?_
        refine r_scI (dt_law_14.at 21 rfl) (fun x128 => ?_)
        refine r_cvI (c := 8) (rest := []) (ct_NS_size v1 x127 x128 _) (dt_law_14.at 22 rfl) mb_NS_size wd_725 wd_726 wd_727 rfl (by decide) rfl rfl (Nat.le_of_ble_eq_true rfl) (fun r130 M129 => ?_)
        refine r_aload_n (dt_law_14.at 23 rfl) rfl ?_
        refine r_aload_s (dt_law_14.at 24 rfl) rfl (by decide) ?_
        refine r_iload_n (dt_law_15.at 0 rfl) rfl ?_
        refine r_iconst (dt_law_15.at 1 rfl) 1 (by decide) ?_
        refine r_iadd (dt_law_15.at 2 rfl) ?_
        refine r_scI (dt_law_15.at 3 rfl) (fun x131 => ?_)
        refine r_aload_s (dt_law_15.at 4 rfl) rfl (by decide) ?_
        refine r_iload_n (dt_law_15.at 5 rfl) rfl ?_
        refine r_iconst (dt_law_15.at 6 rfl) 2 (by decide) ?_
        refine r_iadd (dt_law_15.at 7 rfl) ?_
        refine r_scI (dt_law_15.at 8 rfl) (fun x132 => ?_)
        refine r_cvI (c := 9) (rest := [.int r130]) (ct_Md_size v2 x131 x132 _) (dt_law_15.at 9 rfl) mb_Md_size wd_1532 wd_1533 wd_1534 rfl (by decide) rfl rfl (Nat.le_of_ble_eq_true rfl) (fun r134 M133 => ?_)
        refine r_icmp_eq (tgt := 2079) (dt_law_15.at 10 rfl) (by decide) ?_ ?_
        · refine r_iincn (v := 6) (dt_law_60.at 13 rfl) (by decide) rfl (by decide) (fun y => [.retAddr 1, .ref v1, .ref v2, .int y]) (fun _ => rfl) (fun x135 => ?_)
          refine r_goto (tgt := 18) (dt_law_60.at 14 rfl) (by decide) ?_
          exact Rf.msk [true, true, true, true] (ih v1 v2 x135 M133)
        · refine r_iconst (dt_law_15.at 11 rfl) 0 (by decide) ?_
          exact r_zret (dt_law_15.at 12 rfl) rfl rfl
      refine Rf.ite (fun h15 => ?_) (fun h15 => ?_)
      · refine r_tsIn (tgt := 720) (dt_law_0.at 21 rfl) (by rw [h15]; decide) (by rw [h15]; decide) (by rw [h15]; rfl) (by decide) ?_
        refine r_aload_n (dt_law_15.at 13 rfl) rfl ?_
        refine r_aload_s (dt_law_15.at 14 rfl) rfl (by decide) ?_
        refine r_iload_n (dt_law_15.at 15 rfl) rfl ?_
        refine r_iconst (dt_law_15.at 16 rfl) 1 (by decide) ?_
        refine r_iadd (dt_law_15.at 17 rfl) ?_
        refine r_scI (dt_law_15.at 18 rfl) (fun x136 => ?_)
        refine r_cvI (c := 8) (rest := []) (ct_NS_edges v1 x136 _) (dt_law_15.at 19 rfl) mb_NS_edges wd_730 wd_731 wd_732 rfl (by decide) rfl rfl (Nat.le_of_ble_eq_true rfl) (fun r138 M137 => ?_)
        refine r_aload_n (dt_law_15.at 20 rfl) rfl ?_
        refine r_aload_s (dt_law_15.at 21 rfl) rfl (by decide) ?_
        refine r_iload_n (dt_law_15.at 22 rfl) rfl ?_
        refine r_iconst (dt_law_15.at 23 rfl) 1 (by decide) ?_
        refine r_iadd (dt_law_15.at 24 rfl) ?_
        refine r_scI (dt_law_16.at 0 rfl) (fun x139 => ?_)
        refine r_cvI (c := 9) (rest := [.int r138]) (ct_Md_edges v2 x139 _) (dt_law_16.at 1 rfl) mb_Md_edges wd_1537 wd_1538 wd_1539 rfl (by decide) rfl rfl (Nat.le_of_ble_eq_true rfl) (fun r141 M140 => ?_)
        refine r_icmp_eq (tgt := 2079) (dt_law_16.at 2 rfl) (by decide) ?_ ?_
        · refine r_iincn (v := 6) (dt_law_60.at 13 rfl) (by decide) rfl (by decide) (fun y => [.retAddr 1, .ref v1, .ref v2, .int y]) (fun _ => rfl) (fun x142 => ?_)
          refine r_goto (tgt := 18) (dt_law_60.at 14 rfl) (by decide) ?_
          exact Rf.msk [true, true, true, true] (ih v1 v2 x142 M140)
        · refine r_iconst (dt_law_16.at 3 rfl) 0 (by decide) ?_
          exact r_zret (dt_law_16.at 4 rfl) rfl rfl
      refine Rf.ite (fun h16 => ?_) (fun h16 => ?_)
      · refine r_tsIn (tgt := 743) (dt_law_0.at 21 rfl) (by rw [h16]; decide) (by rw [h16]; decide) (by rw [h16]; rfl) (by decide) ?_
        refine r_aload_n (dt_law_16.at 5 rfl) rfl ?_
        refine r_aload_s (dt_law_16.at 6 rfl) rfl (by decide) ?_
        refine r_iload_n (dt_law_16.at 7 rfl) rfl ?_
        refine r_iconst (dt_law_16.at 8 rfl) 1 (by decide) ?_
        refine r_iadd (dt_law_16.at 9 rfl) ?_
        refine r_scI (dt_law_16.at 10 rfl) (fun x143 => ?_)
        refine r_aload_s (dt_law_16.at 11 rfl) rfl (by decide) ?_
        refine r_iload_n (dt_law_16.at 12 rfl) rfl ?_
        refine r_iconst (dt_law_16.at 13 rfl) 2 (by decide) ?_
        refine r_iadd (dt_law_16.at 14 rfl) ?_
        refine r_scI (dt_law_16.at 15 rfl) (fun x144 => ?_)
        refine r_aload_s (dt_law_16.at 16 rfl) rfl (by decide) ?_
        refine r_iload_n (dt_law_16.at 17 rfl) rfl ?_
        refine r_iconst (dt_law_16.at 18 rfl) 3 (by decide) ?_
        refine r_iadd (dt_law_16.at 19 rfl) ?_
        refine r_scI (dt_law_16.at 20 rfl) (fun x145 => ?_)
        refine r_cvI (c := 8) (rest := []) (ct_NS_births v1 x143 x144 x145 _) (dt_law_16.at 21 rfl) mb_NS_births wd_858 wd_859 wd_860 rfl (by decide) rfl rfl (Nat.le_of_ble_eq_true rfl) (fun r147 M146 => ?_)
        refine r_aload_n (dt_law_16.at 22 rfl) rfl ?_
        refine r_aload_s (dt_law_16.at 23 rfl) rfl (by decide) ?_
        refine r_iload_n (dt_law_16.at 24 rfl) rfl ?_
        refine r_iconst (dt_law_17.at 0 rfl) 1 (by decide) ?_
        refine r_iadd (dt_law_17.at 1 rfl) ?_
        refine r_scI (dt_law_17.at 2 rfl) (fun x148 => ?_)
        refine r_aload_s (dt_law_17.at 3 rfl) rfl (by decide) ?_
        refine r_iload_n (dt_law_17.at 4 rfl) rfl ?_
        refine r_iconst (dt_law_17.at 5 rfl) 2 (by decide) ?_
        refine r_iadd (dt_law_17.at 6 rfl) ?_
        refine r_scI (dt_law_17.at 7 rfl) (fun x149 => ?_)
        refine r_aload_s (dt_law_17.at 8 rfl) rfl (by decide) ?_
        refine r_iload_n (dt_law_17.at 9 rfl) rfl ?_
        refine r_iconst (dt_law_17.at 10 rfl) 3 (by decide) ?_
        refine r_iadd (dt_law_17.at 11 rfl) ?_
        refine r_scI (dt_law_17.at 12 rfl) (fun x150 => ?_)
        refine r_cvI (c := 9) (rest := [.int r147]) (ct_Md_births v2 x148 x149 x150 _) (dt_law_17.at 13 rfl) mb_Md_births wd_1729 wd_1730 wd_1731 rfl (by decide) rfl rfl (Nat.le_of_ble_eq_true rfl) (fun r152 M151 => ?_)
        refine r_icmp_eq (tgt := 2079) (dt_law_17.at 14 rfl) (by decide) ?_ ?_
        · refine r_iincn (v := 6) (dt_law_60.at 13 rfl) (by decide) rfl (by decide) (fun y => [.retAddr 1, .ref v1, .ref v2, .int y]) (fun _ => rfl) (fun x153 => ?_)
          refine r_goto (tgt := 18) (dt_law_60.at 14 rfl) (by decide) ?_
          exact Rf.msk [true, true, true, true] (ih v1 v2 x153 M151)
        · refine r_iconst (dt_law_17.at 15 rfl) 0 (by decide) ?_
          exact r_zret (dt_law_17.at 16 rfl) rfl rfl
      refine Rf.ite (fun h17 => ?_) (fun h17 => ?_)
      · refine r_tsIn (tgt := 786) (dt_law_0.at 21 rfl) (by rw [h17]; decide) (by rw [h17]; decide) (by rw [h17]; rfl) (by decide) ?_
        refine r_aload_n (dt_law_17.at 17 rfl) rfl ?_
        refine r_aload_s (dt_law_17.at 18 rfl) rfl (by decide) ?_
        refine r_iload_n (dt_law_17.at 19 rfl) rfl ?_
        refine r_iconst (dt_law_17.at 20 rfl) 1 (by decide) ?_
        refine r_iadd (dt_law_17.at 21 rfl) ?_
        refine r_scI (dt_law_17.at 22 rfl) (fun x154 => ?_)
        refine r_aload_s (dt_law_17.at 23 rfl) rfl (by decide) ?_
        refine r_iload_n (dt_law_17.at 24 rfl) rfl ?_
        refine r_iconst (dt_law_18.at 0 rfl) 2 (by decide) ?_
        refine r_iadd (dt_law_18.at 1 rfl) ?_
        refine r_scI (dt_law_18.at 2 rfl) (fun x155 => ?_)
        refine r_cvI (c := 8) (rest := []) (ct_NS_endings v1 x154 x155 _) (dt_law_18.at 3 rfl) mb_NS_endings wd_902 wd_903 wd_904 rfl (by decide) rfl rfl (Nat.le_of_ble_eq_true rfl) (fun r157 M156 => ?_)
        refine r_aload_n (dt_law_18.at 4 rfl) rfl ?_
        refine r_aload_s (dt_law_18.at 5 rfl) rfl (by decide) ?_
        refine r_iload_n (dt_law_18.at 6 rfl) rfl ?_
        refine r_iconst (dt_law_18.at 7 rfl) 1 (by decide) ?_
        refine r_iadd (dt_law_18.at 8 rfl) ?_
        refine r_scI (dt_law_18.at 9 rfl) (fun x158 => ?_)
        refine r_aload_s (dt_law_18.at 10 rfl) rfl (by decide) ?_
        refine r_iload_n (dt_law_18.at 11 rfl) rfl ?_
        refine r_iconst (dt_law_18.at 12 rfl) 2 (by decide) ?_
        refine r_iadd (dt_law_18.at 13 rfl) ?_
        refine r_scI (dt_law_18.at 14 rfl) (fun x159 => ?_)
        refine r_cvI (c := 9) (rest := [.int r157]) (ct_Md_endings v2 x158 x159 _) (dt_law_18.at 15 rfl) mb_Md_endings wd_1741 wd_1742 wd_1743 rfl (by decide) rfl rfl (Nat.le_of_ble_eq_true rfl) (fun r161 M160 => ?_)
        refine r_icmp_eq (tgt := 2079) (dt_law_18.at 16 rfl) (by decide) ?_ ?_
        · refine r_iincn (v := 6) (dt_law_60.at 13 rfl) (by decide) rfl (by decide) (fun y => [.retAddr 1, .ref v1, .ref v2, .int y]) (fun _ => rfl) (fun x162 => ?_)
          refine r_goto (tgt := 18) (dt_law_60.at 14 rfl) (by decide) ?_
          exact Rf.msk [true, true, true, true] (ih v1 v2 x162 M160)
        · refine r_iconst (dt_law_18.at 17 rfl) 0 (by decide) ?_
          exact r_zret (dt_law_18.at 18 rfl) rfl rfl
      refine Rf.ite (fun h18 => ?_) (fun h18 => ?_)
      · refine r_tsIn (tgt := 819) (dt_law_0.at 21 rfl) (by rw [h18]; decide) (by rw [h18]; decide) (by rw [h18]; rfl) (by decide) ?_
        refine r_aload_n (dt_law_18.at 19 rfl) rfl ?_
        refine r_aload_s (dt_law_18.at 20 rfl) rfl (by decide) ?_
        refine r_iload_n (dt_law_18.at 21 rfl) rfl ?_
        refine r_iconst (dt_law_18.at 22 rfl) 1 (by decide) ?_
        refine r_iadd (dt_law_18.at 23 rfl) ?_
        refine r_scI (dt_law_18.at 24 rfl) (fun x163 => ?_)
        refine r_aload_s (dt_law_19.at 0 rfl) rfl (by decide) ?_
        refine r_iload_n (dt_law_19.at 1 rfl) rfl ?_
        refine r_iconst (dt_law_19.at 2 rfl) 2 (by decide) ?_
        refine r_iadd (dt_law_19.at 3 rfl) ?_
        refine r_scI (dt_law_19.at 4 rfl) (fun x164 => ?_)
        refine r_cvI (c := 8) (rest := []) (ct_NS_many v1 x163 x164 _) (dt_law_19.at 5 rfl) mb_NS_many wd_938 wd_939 wd_940 rfl (by decide) rfl rfl (Nat.le_of_ble_eq_true rfl) (fun r166 M165 => ?_)
        refine r_aload_n (dt_law_19.at 6 rfl) rfl ?_
        refine r_aload_s (dt_law_19.at 7 rfl) rfl (by decide) ?_
        refine r_iload_n (dt_law_19.at 8 rfl) rfl ?_
        refine r_iconst (dt_law_19.at 9 rfl) 1 (by decide) ?_
        refine r_iadd (dt_law_19.at 10 rfl) ?_
        refine r_scI (dt_law_19.at 11 rfl) (fun x167 => ?_)
        refine r_aload_s (dt_law_19.at 12 rfl) rfl (by decide) ?_
        refine r_iload_n (dt_law_19.at 13 rfl) rfl ?_
        refine r_iconst (dt_law_19.at 14 rfl) 2 (by decide) ?_
        refine r_iadd (dt_law_19.at 15 rfl) ?_
        refine r_scI (dt_law_19.at 16 rfl) (fun x168 => ?_)
        refine r_cvI (c := 9) (rest := [.int r166]) (ct_Md_many v2 x167 x168 _) (dt_law_19.at 17 rfl) mb_Md_many wd_1578 wd_1579 wd_1580 rfl (by decide) rfl rfl (Nat.le_of_ble_eq_true rfl) (fun r170 M169 => ?_)
        refine r_icmp_eq (tgt := 2079) (dt_law_19.at 18 rfl) (by decide) ?_ ?_
        · refine r_iincn (v := 6) (dt_law_60.at 13 rfl) (by decide) rfl (by decide) (fun y => [.retAddr 1, .ref v1, .ref v2, .int y]) (fun _ => rfl) (fun x171 => ?_)
          refine r_goto (tgt := 18) (dt_law_60.at 14 rfl) (by decide) ?_
          exact Rf.msk [true, true, true, true] (ih v1 v2 x171 M169)
        · refine r_iconst (dt_law_19.at 19 rfl) 0 (by decide) ?_
          exact r_zret (dt_law_19.at 20 rfl) rfl rfl
      refine Rf.ite (fun h19 => ?_) (fun h19 => ?_)
      · refine r_tsIn (tgt := 852) (dt_law_0.at 21 rfl) (by rw [h19]; decide) (by rw [h19]; decide) (by rw [h19]; rfl) (by decide) ?_
        refine r_aload_n (dt_law_19.at 21 rfl) rfl ?_
        refine r_aload_s (dt_law_19.at 22 rfl) rfl (by decide) ?_
        refine r_iload_n (dt_law_19.at 23 rfl) rfl ?_
        refine r_iconst (dt_law_19.at 24 rfl) 1 (by decide) ?_
        refine r_iadd (dt_law_20.at 0 rfl) ?_
        refine r_scI (dt_law_20.at 1 rfl) (fun x172 => ?_)
        refine r_aload_s (dt_law_20.at 2 rfl) rfl (by decide) ?_
        refine r_iload_n (dt_law_20.at 3 rfl) rfl ?_
        refine r_iconst (dt_law_20.at 4 rfl) 2 (by decide) ?_
        refine r_iadd (dt_law_20.at 5 rfl) ?_
        refine r_scI (dt_law_20.at 6 rfl) (fun x173 => ?_)
        refine r_cvI (c := 8) (rest := []) (ct_NS_drawn v1 x172 x173 _) (dt_law_20.at 7 rfl) mb_NS_drawn wd_995 wd_996 wd_997 rfl (by decide) rfl rfl (Nat.le_of_ble_eq_true rfl) (fun r175 M174 => ?_)
        refine r_aload_n (dt_law_20.at 8 rfl) rfl ?_
        refine r_aload_s (dt_law_20.at 9 rfl) rfl (by decide) ?_
        refine r_iload_n (dt_law_20.at 10 rfl) rfl ?_
        refine r_iconst (dt_law_20.at 11 rfl) 1 (by decide) ?_
        refine r_iadd (dt_law_20.at 12 rfl) ?_
        refine r_scI (dt_law_20.at 13 rfl) (fun x176 => ?_)
        refine r_aload_s (dt_law_20.at 14 rfl) rfl (by decide) ?_
        refine r_iload_n (dt_law_20.at 15 rfl) rfl ?_
        refine r_iconst (dt_law_20.at 16 rfl) 2 (by decide) ?_
        refine r_iadd (dt_law_20.at 17 rfl) ?_
        refine r_scI (dt_law_20.at 18 rfl) (fun x177 => ?_)
        refine r_cvI (c := 9) (rest := [.int r175]) (ct_Md_drawn v2 x176 x177 _) (dt_law_20.at 19 rfl) mb_Md_drawn wd_1608 wd_1609 wd_1610 rfl (by decide) rfl rfl (Nat.le_of_ble_eq_true rfl) (fun r179 M178 => ?_)
        refine r_icmp_eq (tgt := 2079) (dt_law_20.at 20 rfl) (by decide) ?_ ?_
        · refine r_iincn (v := 6) (dt_law_60.at 13 rfl) (by decide) rfl (by decide) (fun y => [.retAddr 1, .ref v1, .ref v2, .int y]) (fun _ => rfl) (fun x180 => ?_)
          refine r_goto (tgt := 18) (dt_law_60.at 14 rfl) (by decide) ?_
          exact Rf.msk [true, true, true, true] (ih v1 v2 x180 M178)
        · refine r_iconst (dt_law_20.at 21 rfl) 0 (by decide) ?_
          exact r_zret (dt_law_20.at 22 rfl) rfl rfl
      refine Rf.ite (fun h20 => ?_) (fun h20 => ?_)
      · refine r_tsIn (tgt := 885) (dt_law_0.at 21 rfl) (by rw [h20]; decide) (by rw [h20]; decide) (by rw [h20]; rfl) (by decide) ?_
        refine r_aload_n (dt_law_20.at 23 rfl) rfl ?_
        refine r_aload_s (dt_law_20.at 24 rfl) rfl (by decide) ?_
        refine r_iload_n (dt_law_21.at 0 rfl) rfl ?_
        refine r_iconst (dt_law_21.at 1 rfl) 1 (by decide) ?_
        refine r_iadd (dt_law_21.at 2 rfl) ?_
        refine r_scI (dt_law_21.at 3 rfl) (fun x181 => ?_)
        refine r_cvL (c := 8) (rest := []) (ct_NS_digest v1 x181 _) (dt_law_21.at 4 rfl) mb_NS_digest wd_1007 wd_1008 wd_1009 rfl (by decide) rfl rfl (Nat.le_of_ble_eq_true rfl) (fun z183 M182 => ?_)
        refine r_aload_n (dt_law_21.at 5 rfl) rfl ?_
        refine r_aload_s (dt_law_21.at 6 rfl) rfl (by decide) ?_
        refine r_iload_n (dt_law_21.at 7 rfl) rfl ?_
        refine r_iconst (dt_law_21.at 8 rfl) 1 (by decide) ?_
        refine r_iadd (dt_law_21.at 9 rfl) ?_
        refine r_scI (dt_law_21.at 10 rfl) (fun x184 => ?_)
        refine r_cvL (c := 9) (rest := [.long z183]) (ct_Md_digest v2 x184 _) (dt_law_21.at 11 rfl) mb_Md_digest wd_1620 wd_1621 wd_1622 rfl (by decide) rfl rfl (Nat.le_of_ble_eq_true rfl) (fun z186 M185 => ?_)
        refine r_lcmp (dt_law_21.at 12 rfl) ?_
        refine r_if_eq (tgt := 2079) (dt_law_21.at 13 rfl) (by decide) ?_ ?_
        · refine r_iincn (v := 6) (dt_law_60.at 13 rfl) (by decide) rfl (by decide) (fun y => [.retAddr 1, .ref v1, .ref v2, .int y]) (fun _ => rfl) (fun x187 => ?_)
          refine r_goto (tgt := 18) (dt_law_60.at 14 rfl) (by decide) ?_
          exact Rf.msk [true, true, true, true] (ih v1 v2 x187 M185)
        · refine r_iconst (dt_law_21.at 14 rfl) 0 (by decide) ?_
          exact r_zret (dt_law_21.at 15 rfl) rfl rfl
      refine Rf.ite (fun h21 => ?_) (fun h21 => ?_)
      · refine r_tsIn (tgt := 909) (dt_law_0.at 21 rfl) (by rw [h21]; decide) (by rw [h21]; decide) (by rw [h21]; rfl) (by decide) ?_
        refine r_aload_n (dt_law_21.at 16 rfl) rfl ?_
        refine r_aload_s (dt_law_21.at 17 rfl) rfl (by decide) ?_
        refine r_iload_n (dt_law_21.at 18 rfl) rfl ?_
        refine r_iconst (dt_law_21.at 19 rfl) 1 (by decide) ?_
        refine r_iadd (dt_law_21.at 20 rfl) ?_
        refine r_scI (dt_law_21.at 21 rfl) (fun x188 => ?_)
        refine r_aload_s (dt_law_21.at 22 rfl) rfl (by decide) ?_
        refine r_iload_n (dt_law_21.at 23 rfl) rfl ?_
        refine r_iconst (dt_law_21.at 24 rfl) 2 (by decide) ?_
        refine r_iadd (dt_law_22.at 0 rfl) ?_
        refine r_scI (dt_law_22.at 1 rfl) (fun x189 => ?_)
        refine r_aload_s (dt_law_22.at 2 rfl) rfl (by decide) ?_
        refine r_iload_n (dt_law_22.at 3 rfl) rfl ?_
        refine r_iconst (dt_law_22.at 4 rfl) 3 (by decide) ?_
        refine r_iadd (dt_law_22.at 5 rfl) ?_
        refine r_scI (dt_law_22.at 6 rfl) (fun x190 => ?_)
        refine r_cvI (c := 8) (rest := []) (ct_NS_inColumn v1 x188 x189 x190 _) (dt_law_22.at 7 rfl) mb_NS_inColumn wd_1014 wd_1015 wd_1016 rfl (by decide) rfl rfl (Nat.le_of_ble_eq_true rfl) (fun r192 M191 => ?_)
        refine r_aload_n (dt_law_22.at 8 rfl) rfl ?_
        refine r_aload_s (dt_law_22.at 9 rfl) rfl (by decide) ?_
        refine r_iload_n (dt_law_22.at 10 rfl) rfl ?_
        refine r_iconst (dt_law_22.at 11 rfl) 1 (by decide) ?_
        refine r_iadd (dt_law_22.at 12 rfl) ?_
        refine r_scI (dt_law_22.at 13 rfl) (fun x193 => ?_)
        refine r_aload_s (dt_law_22.at 14 rfl) rfl (by decide) ?_
        refine r_iload_n (dt_law_22.at 15 rfl) rfl ?_
        refine r_iconst (dt_law_22.at 16 rfl) 2 (by decide) ?_
        refine r_iadd (dt_law_22.at 17 rfl) ?_
        refine r_scI (dt_law_22.at 18 rfl) (fun x194 => ?_)
        refine r_aload_s (dt_law_22.at 19 rfl) rfl (by decide) ?_
        refine r_iload_n (dt_law_22.at 20 rfl) rfl ?_
        refine r_iconst (dt_law_22.at 21 rfl) 3 (by decide) ?_
        refine r_iadd (dt_law_22.at 22 rfl) ?_
        refine r_scI (dt_law_22.at 23 rfl) (fun x195 => ?_)
        refine r_cvI (c := 9) (rest := [.int r192]) (ct_Md_inColumn v2 x193 x194 x195 _) (dt_law_22.at 24 rfl) mb_Md_inColumn wd_1626 wd_1627 wd_1628 rfl (by decide) rfl rfl (Nat.le_of_ble_eq_true rfl) (fun r197 M196 => ?_)
        refine r_icmp_eq (tgt := 2079) (dt_law_23.at 0 rfl) (by decide) ?_ ?_
        · refine r_iincn (v := 6) (dt_law_60.at 13 rfl) (by decide) rfl (by decide) (fun y => [.retAddr 1, .ref v1, .ref v2, .int y]) (fun _ => rfl) (fun x198 => ?_)
          refine r_goto (tgt := 18) (dt_law_60.at 14 rfl) (by decide) ?_
          exact Rf.msk [true, true, true, true] (ih v1 v2 x198 M196)
        · refine r_iconst (dt_law_23.at 1 rfl) 0 (by decide) ?_
          exact r_zret (dt_law_23.at 2 rfl) rfl rfl
      refine Rf.ite (fun h22 => ?_) (fun h22 => ?_)
      · refine r_tsIn (tgt := 952) (dt_law_0.at 21 rfl) (by rw [h22]; decide) (by rw [h22]; decide) (by rw [h22]; rfl) (by decide) ?_
        refine r_aload_n (dt_law_23.at 3 rfl) rfl ?_
        refine r_aload_s (dt_law_23.at 4 rfl) rfl (by decide) ?_
        refine r_iload_n (dt_law_23.at 5 rfl) rfl ?_
        refine r_iconst (dt_law_23.at 6 rfl) 1 (by decide) ?_
        refine r_iadd (dt_law_23.at 7 rfl) ?_
        refine r_scI (dt_law_23.at 8 rfl) (fun x199 => ?_)
        refine r_aload_s (dt_law_23.at 9 rfl) rfl (by decide) ?_
        refine r_iload_n (dt_law_23.at 10 rfl) rfl ?_
        refine r_iconst (dt_law_23.at 11 rfl) 2 (by decide) ?_
        refine r_iadd (dt_law_23.at 12 rfl) ?_
        refine r_scI (dt_law_23.at 13 rfl) (fun x200 => ?_)
        refine r_aload_s (dt_law_23.at 14 rfl) rfl (by decide) ?_
        refine r_iload_n (dt_law_23.at 15 rfl) rfl ?_
        refine r_iconst (dt_law_23.at 16 rfl) 3 (by decide) ?_
        refine r_iadd (dt_law_23.at 17 rfl) ?_
        refine r_scI (dt_law_23.at 18 rfl) (fun x201 => ?_)
        refine r_cvI (c := 8) (rest := []) (ct_NS_top v1 x199 x200 x201 _) (dt_law_23.at 19 rfl) mb_NS_top wd_1022 wd_1023 wd_1024 rfl (by decide) rfl rfl (Nat.le_of_ble_eq_true rfl) (fun r203 M202 => ?_)
        refine r_aload_n (dt_law_23.at 20 rfl) rfl ?_
        refine r_aload_s (dt_law_23.at 21 rfl) rfl (by decide) ?_
        refine r_iload_n (dt_law_23.at 22 rfl) rfl ?_
        refine r_iconst (dt_law_23.at 23 rfl) 1 (by decide) ?_
        refine r_iadd (dt_law_23.at 24 rfl) ?_
        refine r_scI (dt_law_24.at 0 rfl) (fun x204 => ?_)
        refine r_aload_s (dt_law_24.at 1 rfl) rfl (by decide) ?_
        refine r_iload_n (dt_law_24.at 2 rfl) rfl ?_
        refine r_iconst (dt_law_24.at 3 rfl) 2 (by decide) ?_
        refine r_iadd (dt_law_24.at 4 rfl) ?_
        refine r_scI (dt_law_24.at 5 rfl) (fun x205 => ?_)
        refine r_aload_s (dt_law_24.at 6 rfl) rfl (by decide) ?_
        refine r_iload_n (dt_law_24.at 7 rfl) rfl ?_
        refine r_iconst (dt_law_24.at 8 rfl) 3 (by decide) ?_
        refine r_iadd (dt_law_24.at 9 rfl) ?_
        refine r_scI (dt_law_24.at 10 rfl) (fun x206 => ?_)
        refine r_cvI (c := 9) (rest := [.int r203]) (ct_Md_top v2 x204 x205 x206 _) (dt_law_24.at 11 rfl) mb_Md_top wd_1638 wd_1639 wd_1640 rfl (by decide) rfl rfl (Nat.le_of_ble_eq_true rfl) (fun r208 M207 => ?_)
        refine r_icmp_eq (tgt := 2079) (dt_law_24.at 12 rfl) (by decide) ?_ ?_
        · refine r_iincn (v := 6) (dt_law_60.at 13 rfl) (by decide) rfl (by decide) (fun y => [.retAddr 1, .ref v1, .ref v2, .int y]) (fun _ => rfl) (fun x209 => ?_)
          refine r_goto (tgt := 18) (dt_law_60.at 14 rfl) (by decide) ?_
          exact Rf.msk [true, true, true, true] (ih v1 v2 x209 M207)
        · refine r_iconst (dt_law_24.at 13 rfl) 0 (by decide) ?_
          exact r_zret (dt_law_24.at 14 rfl) rfl rfl
      refine Rf.ite (fun h23 => ?_) (fun h23 => ?_)
      · refine r_tsIn (tgt := 995) (dt_law_0.at 21 rfl) (by rw [h23]; decide) (by rw [h23]; decide) (by rw [h23]; rfl) (by decide) ?_
        refine r_aload_n (dt_law_24.at 15 rfl) rfl ?_
        refine r_aload_s (dt_law_24.at 16 rfl) rfl (by decide) ?_
        refine r_iload_n (dt_law_24.at 17 rfl) rfl ?_
        refine r_iconst (dt_law_24.at 18 rfl) 1 (by decide) ?_
        refine r_iadd (dt_law_24.at 19 rfl) ?_
        refine r_scI (dt_law_24.at 20 rfl) (fun x210 => ?_)
        refine r_aload_s (dt_law_24.at 21 rfl) rfl (by decide) ?_
        refine r_iload_n (dt_law_24.at 22 rfl) rfl ?_
        refine r_iconst (dt_law_24.at 23 rfl) 2 (by decide) ?_
        refine r_iadd (dt_law_24.at 24 rfl) ?_
        refine r_scI (dt_law_25.at 0 rfl) (fun x211 => ?_)
        refine r_cvI (c := 8) (rest := []) (ct_NS_fullest v1 x210 x211 _) (dt_law_25.at 1 rfl) mb_NS_fullest wd_1037 wd_1038 wd_1039 rfl (by decide) rfl rfl (Nat.le_of_ble_eq_true rfl) (fun r213 M212 => ?_)
        refine r_aload_n (dt_law_25.at 2 rfl) rfl ?_
        refine r_aload_s (dt_law_25.at 3 rfl) rfl (by decide) ?_
        refine r_iload_n (dt_law_25.at 4 rfl) rfl ?_
        refine r_iconst (dt_law_25.at 5 rfl) 1 (by decide) ?_
        refine r_iadd (dt_law_25.at 6 rfl) ?_
        refine r_scI (dt_law_25.at 7 rfl) (fun x214 => ?_)
        refine r_aload_s (dt_law_25.at 8 rfl) rfl (by decide) ?_
        refine r_iload_n (dt_law_25.at 9 rfl) rfl ?_
        refine r_iconst (dt_law_25.at 10 rfl) 2 (by decide) ?_
        refine r_iadd (dt_law_25.at 11 rfl) ?_
        refine r_scI (dt_law_25.at 12 rfl) (fun x215 => ?_)
        refine r_cvI (c := 9) (rest := [.int r213]) (ct_Md_fullest v2 x214 x215 _) (dt_law_25.at 13 rfl) mb_Md_fullest wd_1646 wd_1647 wd_1648 rfl (by decide) rfl rfl (Nat.le_of_ble_eq_true rfl) (fun r217 M216 => ?_)
        refine r_icmp_eq (tgt := 2079) (dt_law_25.at 14 rfl) (by decide) ?_ ?_
        · refine r_iincn (v := 6) (dt_law_60.at 13 rfl) (by decide) rfl (by decide) (fun y => [.retAddr 1, .ref v1, .ref v2, .int y]) (fun _ => rfl) (fun x218 => ?_)
          refine r_goto (tgt := 18) (dt_law_60.at 14 rfl) (by decide) ?_
          exact Rf.msk [true, true, true, true] (ih v1 v2 x218 M216)
        · refine r_iconst (dt_law_25.at 15 rfl) 0 (by decide) ?_
          exact r_zret (dt_law_25.at 16 rfl) rfl rfl
      refine Rf.ite (fun h24 => ?_) (fun h24 => ?_)
      · refine r_tsIn (tgt := 1028) (dt_law_0.at 21 rfl) (by rw [h24]; decide) (by rw [h24]; decide) (by rw [h24]; rfl) (by decide) ?_
        refine r_aload_n (dt_law_25.at 17 rfl) rfl ?_
        refine r_aload_s (dt_law_25.at 18 rfl) rfl (by decide) ?_
        refine r_iload_n (dt_law_25.at 19 rfl) rfl ?_
        refine r_iconst (dt_law_25.at 20 rfl) 1 (by decide) ?_
        refine r_iadd (dt_law_25.at 21 rfl) ?_
        refine r_scI (dt_law_25.at 22 rfl) (fun x219 => ?_)
        refine r_aload_s (dt_law_25.at 23 rfl) rfl (by decide) ?_
        refine r_iload_n (dt_law_25.at 24 rfl) rfl ?_
        refine r_iconst (dt_law_26.at 0 rfl) 2 (by decide) ?_
        refine r_iadd (dt_law_26.at 1 rfl) ?_
        refine r_scI (dt_law_26.at 2 rfl) (fun x220 => ?_)
        refine r_aload_s (dt_law_26.at 3 rfl) rfl (by decide) ?_
        refine r_iload_n (dt_law_26.at 4 rfl) rfl ?_
        refine r_iconst (dt_law_26.at 5 rfl) 3 (by decide) ?_
        refine r_iadd (dt_law_26.at 6 rfl) ?_
        refine r_scI (dt_law_26.at 7 rfl) (fun x221 => ?_)
        refine r_aload_s (dt_law_26.at 8 rfl) rfl (by decide) ?_
        refine r_iload_n (dt_law_26.at 9 rfl) rfl ?_
        refine r_iconst (dt_law_26.at 10 rfl) 4 (by decide) ?_
        refine r_iadd (dt_law_26.at 11 rfl) ?_
        refine r_scI (dt_law_26.at 12 rfl) (fun x222 => ?_)
        refine r_cvI (c := 8) (rest := []) (ct_NS_nearest v1 x219 x220 x221 x222 _) (dt_law_26.at 13 rfl) mb_NS_nearest wd_1056 wd_1057 wd_1058 rfl (by decide) rfl rfl (Nat.le_of_ble_eq_true rfl) (fun r224 M223 => ?_)
        refine r_aload_n (dt_law_26.at 14 rfl) rfl ?_
        refine r_aload_s (dt_law_26.at 15 rfl) rfl (by decide) ?_
        refine r_iload_n (dt_law_26.at 16 rfl) rfl ?_
        refine r_iconst (dt_law_26.at 17 rfl) 1 (by decide) ?_
        refine r_iadd (dt_law_26.at 18 rfl) ?_
        refine r_scI (dt_law_26.at 19 rfl) (fun x225 => ?_)
        refine r_aload_s (dt_law_26.at 20 rfl) rfl (by decide) ?_
        refine r_iload_n (dt_law_26.at 21 rfl) rfl ?_
        refine r_iconst (dt_law_26.at 22 rfl) 2 (by decide) ?_
        refine r_iadd (dt_law_26.at 23 rfl) ?_
        refine r_scI (dt_law_26.at 24 rfl) (fun x226 => ?_)
        refine r_aload_s (dt_law_27.at 0 rfl) rfl (by decide) ?_
        refine r_iload_n (dt_law_27.at 1 rfl) rfl ?_
        refine r_iconst (dt_law_27.at 2 rfl) 3 (by decide) ?_
        refine r_iadd (dt_law_27.at 3 rfl) ?_
        refine r_scI (dt_law_27.at 4 rfl) (fun x227 => ?_)
        refine r_aload_s (dt_law_27.at 5 rfl) rfl (by decide) ?_
        refine r_iload_n (dt_law_27.at 6 rfl) rfl ?_
        refine r_iconst (dt_law_27.at 7 rfl) 4 (by decide) ?_
        refine r_iadd (dt_law_27.at 8 rfl) ?_
        refine r_scI (dt_law_27.at 9 rfl) (fun x228 => ?_)
        refine r_cvI (c := 9) (rest := [.int r224]) (ct_Md_nearest v2 x225 x226 x227 x228 _) (dt_law_27.at 10 rfl) mb_Md_nearest wd_1650 wd_1651 wd_1652 rfl (by decide) rfl rfl (Nat.le_of_ble_eq_true rfl) (fun r230 M229 => ?_)
        refine r_icmp_eq (tgt := 2079) (dt_law_27.at 11 rfl) (by decide) ?_ ?_
        · refine r_iincn (v := 6) (dt_law_60.at 13 rfl) (by decide) rfl (by decide) (fun y => [.retAddr 1, .ref v1, .ref v2, .int y]) (fun _ => rfl) (fun x231 => ?_)
          refine r_goto (tgt := 18) (dt_law_60.at 14 rfl) (by decide) ?_
          exact Rf.msk [true, true, true, true] (ih v1 v2 x231 M229)
        · refine r_iconst (dt_law_27.at 12 rfl) 0 (by decide) ?_
          exact r_zret (dt_law_27.at 13 rfl) rfl rfl
      refine Rf.ite (fun h25 => ?_) (fun h25 => ?_)
      · refine r_tsIn (tgt := 1081) (dt_law_0.at 21 rfl) (by rw [h25]; decide) (by rw [h25]; decide) (by rw [h25]; rfl) (by decide) ?_
        refine r_aload_n (dt_law_27.at 14 rfl) rfl ?_
        refine r_aload_s (dt_law_27.at 15 rfl) rfl (by decide) ?_
        refine r_iload_n (dt_law_27.at 16 rfl) rfl ?_
        refine r_iconst (dt_law_27.at 17 rfl) 1 (by decide) ?_
        refine r_iadd (dt_law_27.at 18 rfl) ?_
        refine r_scI (dt_law_27.at 19 rfl) (fun x232 => ?_)
        refine r_cvL (c := 8) (rest := []) (ct_NS_twos v1 x232 _) (dt_law_27.at 20 rfl) mb_NS_twos wd_1073 wd_1074 wd_1075 rfl (by decide) rfl rfl (Nat.le_of_ble_eq_true rfl) (fun z234 M233 => ?_)
        refine r_aload_n (dt_law_27.at 21 rfl) rfl ?_
        refine r_aload_s (dt_law_27.at 22 rfl) rfl (by decide) ?_
        refine r_iload_n (dt_law_27.at 23 rfl) rfl ?_
        refine r_iconst (dt_law_27.at 24 rfl) 1 (by decide) ?_
        refine r_iadd (dt_law_28.at 0 rfl) ?_
        refine r_scI (dt_law_28.at 1 rfl) (fun x235 => ?_)
        refine r_cvL (c := 9) (rest := [.long z234]) (ct_Md_twos v2 x235 _) (dt_law_28.at 2 rfl) mb_Md_twos wd_1668 wd_1669 wd_1670 rfl (by decide) rfl rfl (Nat.le_of_ble_eq_true rfl) (fun z237 M236 => ?_)
        refine r_lcmp (dt_law_28.at 3 rfl) ?_
        refine r_if_eq (tgt := 2079) (dt_law_28.at 4 rfl) (by decide) ?_ ?_
        · refine r_iincn (v := 6) (dt_law_60.at 13 rfl) (by decide) rfl (by decide) (fun y => [.retAddr 1, .ref v1, .ref v2, .int y]) (fun _ => rfl) (fun x238 => ?_)
          refine r_goto (tgt := 18) (dt_law_60.at 14 rfl) (by decide) ?_
          exact Rf.msk [true, true, true, true] (ih v1 v2 x238 M236)
        · refine r_iconst (dt_law_28.at 5 rfl) 0 (by decide) ?_
          exact r_zret (dt_law_28.at 6 rfl) rfl rfl
      refine Rf.ite (fun h26 => ?_) (fun h26 => ?_)
      · refine r_tsIn (tgt := 1105) (dt_law_0.at 21 rfl) (by rw [h26]; decide) (by rw [h26]; decide) (by rw [h26]; rfl) (by decide) ?_
        refine r_aload_n (dt_law_28.at 7 rfl) rfl ?_
        refine r_aload_s (dt_law_28.at 8 rfl) rfl (by decide) ?_
        refine r_iload_n (dt_law_28.at 9 rfl) rfl ?_
        refine r_iconst (dt_law_28.at 10 rfl) 1 (by decide) ?_
        refine r_iadd (dt_law_28.at 11 rfl) ?_
        refine r_scI (dt_law_28.at 12 rfl) (fun x239 => ?_)
        refine r_aload_s (dt_law_28.at 13 rfl) rfl (by decide) ?_
        refine r_iload_n (dt_law_28.at 14 rfl) rfl ?_
        refine r_iconst (dt_law_28.at 15 rfl) 2 (by decide) ?_
        refine r_iadd (dt_law_28.at 16 rfl) ?_
        refine r_scI (dt_law_28.at 17 rfl) (fun x240 => ?_)
        refine r_aload_s (dt_law_28.at 18 rfl) rfl (by decide) ?_
        refine r_iload_n (dt_law_28.at 19 rfl) rfl ?_
        refine r_iconst (dt_law_28.at 20 rfl) 3 (by decide) ?_
        refine r_iadd (dt_law_28.at 21 rfl) ?_
        refine r_scI (dt_law_28.at 22 rfl) (fun x241 => ?_)
        refine r_cvI (c := 8) (rest := []) (ct_NS_firstIn v1 x239 x240 x241 _) (dt_law_28.at 23 rfl) mb_NS_firstIn wd_917 wd_918 wd_919 rfl (by decide) rfl rfl (Nat.le_of_ble_eq_true rfl) (fun r243 M242 => ?_)
        refine r_aload_n (dt_law_28.at 24 rfl) rfl ?_
        refine r_aload_s (dt_law_29.at 0 rfl) rfl (by decide) ?_
        refine r_iload_n (dt_law_29.at 1 rfl) rfl ?_
        refine r_iconst (dt_law_29.at 2 rfl) 1 (by decide) ?_
        refine r_iadd (dt_law_29.at 3 rfl) ?_
        refine r_scI (dt_law_29.at 4 rfl) (fun x244 => ?_)
        refine r_aload_s (dt_law_29.at 5 rfl) rfl (by decide) ?_
        refine r_iload_n (dt_law_29.at 6 rfl) rfl ?_
        refine r_iconst (dt_law_29.at 7 rfl) 2 (by decide) ?_
        refine r_iadd (dt_law_29.at 8 rfl) ?_
        refine r_scI (dt_law_29.at 9 rfl) (fun x245 => ?_)
        refine r_aload_s (dt_law_29.at 10 rfl) rfl (by decide) ?_
        refine r_iload_n (dt_law_29.at 11 rfl) rfl ?_
        refine r_iconst (dt_law_29.at 12 rfl) 3 (by decide) ?_
        refine r_iadd (dt_law_29.at 13 rfl) ?_
        refine r_scI (dt_law_29.at 14 rfl) (fun x246 => ?_)
        refine r_cvI (c := 9) (rest := [.int r243]) (ct_Md_firstIn v2 x244 x245 x246 _) (dt_law_29.at 15 rfl) mb_Md_firstIn wd_1681 wd_1682 wd_1683 rfl (by decide) rfl rfl (Nat.le_of_ble_eq_true rfl) (fun r248 M247 => ?_)
        refine r_icmp_eq (tgt := 2079) (dt_law_29.at 16 rfl) (by decide) ?_ ?_
        · refine r_iincn (v := 6) (dt_law_60.at 13 rfl) (by decide) rfl (by decide) (fun y => [.retAddr 1, .ref v1, .ref v2, .int y]) (fun _ => rfl) (fun x249 => ?_)
          refine r_goto (tgt := 18) (dt_law_60.at 14 rfl) (by decide) ?_
          exact Rf.msk [true, true, true, true] (ih v1 v2 x249 M247)
        · refine r_iconst (dt_law_29.at 17 rfl) 0 (by decide) ?_
          exact r_zret (dt_law_29.at 18 rfl) rfl rfl
      refine Rf.ite (fun h27 => ?_) (fun h27 => ?_)
      · refine r_tsIn (tgt := 1148) (dt_law_0.at 21 rfl) (by rw [h27]; decide) (by rw [h27]; decide) (by rw [h27]; rfl) (by decide) ?_
        refine r_aload_n (dt_law_29.at 19 rfl) rfl ?_
        refine r_aload_s (dt_law_29.at 20 rfl) rfl (by decide) ?_
        refine r_iload_n (dt_law_29.at 21 rfl) rfl ?_
        refine r_iconst (dt_law_29.at 22 rfl) 1 (by decide) ?_
        refine r_iadd (dt_law_29.at 23 rfl) ?_
        refine r_scI (dt_law_29.at 24 rfl) (fun x250 => ?_)
        refine r_aload_s (dt_law_30.at 0 rfl) rfl (by decide) ?_
        refine r_iload_n (dt_law_30.at 1 rfl) rfl ?_
        refine r_iconst (dt_law_30.at 2 rfl) 2 (by decide) ?_
        refine r_iadd (dt_law_30.at 3 rfl) ?_
        refine r_scI (dt_law_30.at 4 rfl) (fun x251 => ?_)
        refine r_aload_s (dt_law_30.at 5 rfl) rfl (by decide) ?_
        refine r_iload_n (dt_law_30.at 6 rfl) rfl ?_
        refine r_iconst (dt_law_30.at 7 rfl) 3 (by decide) ?_
        refine r_iadd (dt_law_30.at 8 rfl) ?_
        refine r_scI (dt_law_30.at 9 rfl) (fun x252 => ?_)
        refine r_cvI (c := 8) (rest := []) (ct_NS_peak v1 x250 x251 x252 _) (dt_law_30.at 10 rfl) mb_NS_peak wd_908 wd_909 wd_910 rfl (by decide) rfl rfl (Nat.le_of_ble_eq_true rfl) (fun r254 M253 => ?_)
        refine r_aload_n (dt_law_30.at 11 rfl) rfl ?_
        refine r_aload_s (dt_law_30.at 12 rfl) rfl (by decide) ?_
        refine r_iload_n (dt_law_30.at 13 rfl) rfl ?_
        refine r_iconst (dt_law_30.at 14 rfl) 1 (by decide) ?_
        refine r_iadd (dt_law_30.at 15 rfl) ?_
        refine r_scI (dt_law_30.at 16 rfl) (fun x255 => ?_)
        refine r_aload_s (dt_law_30.at 17 rfl) rfl (by decide) ?_
        refine r_iload_n (dt_law_30.at 18 rfl) rfl ?_
        refine r_iconst (dt_law_30.at 19 rfl) 2 (by decide) ?_
        refine r_iadd (dt_law_30.at 20 rfl) ?_
        refine r_scI (dt_law_30.at 21 rfl) (fun x256 => ?_)
        refine r_aload_s (dt_law_30.at 22 rfl) rfl (by decide) ?_
        refine r_iload_n (dt_law_30.at 23 rfl) rfl ?_
        refine r_iconst (dt_law_30.at 24 rfl) 3 (by decide) ?_
        refine r_iadd (dt_law_31.at 0 rfl) ?_
        refine r_scI (dt_law_31.at 1 rfl) (fun x257 => ?_)
        refine r_cvI (c := 9) (rest := [.int r254]) (ct_Md_peak v2 x255 x256 x257 _) (dt_law_31.at 2 rfl) mb_Md_peak wd_1686 wd_1687 wd_1688 rfl (by decide) rfl rfl (Nat.le_of_ble_eq_true rfl) (fun r259 M258 => ?_)
        refine r_icmp_eq (tgt := 2079) (dt_law_31.at 3 rfl) (by decide) ?_ ?_
        · refine r_iincn (v := 6) (dt_law_60.at 13 rfl) (by decide) rfl (by decide) (fun y => [.retAddr 1, .ref v1, .ref v2, .int y]) (fun _ => rfl) (fun x260 => ?_)
          refine r_goto (tgt := 18) (dt_law_60.at 14 rfl) (by decide) ?_
          exact Rf.msk [true, true, true, true] (ih v1 v2 x260 M258)
        · refine r_iconst (dt_law_31.at 4 rfl) 0 (by decide) ?_
          exact r_zret (dt_law_31.at 5 rfl) rfl rfl
      refine Rf.ite (fun h28 => ?_) (fun h28 => ?_)
      · refine r_tsIn (tgt := 1191) (dt_law_0.at 21 rfl) (by rw [h28]; decide) (by rw [h28]; decide) (by rw [h28]; rfl) (by decide) ?_
        refine r_aload_n (dt_law_31.at 6 rfl) rfl ?_
        refine r_aload_s (dt_law_31.at 7 rfl) rfl (by decide) ?_
        refine r_iload_n (dt_law_31.at 8 rfl) rfl ?_
        refine r_iconst (dt_law_31.at 9 rfl) 1 (by decide) ?_
        refine r_iadd (dt_law_31.at 10 rfl) ?_
        refine r_scI (dt_law_31.at 11 rfl) (fun x261 => ?_)
        refine r_aload_s (dt_law_31.at 12 rfl) rfl (by decide) ?_
        refine r_iload_n (dt_law_31.at 13 rfl) rfl ?_
        refine r_iconst (dt_law_31.at 14 rfl) 2 (by decide) ?_
        refine r_iadd (dt_law_31.at 15 rfl) ?_
        refine r_scI (dt_law_31.at 16 rfl) (fun x262 => ?_)
        refine r_cvI (c := 8) (rest := []) (ct_NS_line v1 x261 x262 _) (dt_law_31.at 17 rfl) mb_NS_line wd_774 wd_775 wd_776 rfl (by decide) rfl rfl (Nat.le_of_ble_eq_true rfl) (fun r264 M263 => ?_)
        refine r_aload_n (dt_law_31.at 18 rfl) rfl ?_
        refine r_aload_s (dt_law_31.at 19 rfl) rfl (by decide) ?_
        refine r_iload_n (dt_law_31.at 20 rfl) rfl ?_
        refine r_iconst (dt_law_31.at 21 rfl) 1 (by decide) ?_
        refine r_iadd (dt_law_31.at 22 rfl) ?_
        refine r_scI (dt_law_31.at 23 rfl) (fun x265 => ?_)
        refine r_aload_s (dt_law_31.at 24 rfl) rfl (by decide) ?_
        refine r_iload_n (dt_law_32.at 0 rfl) rfl ?_
        refine r_iconst (dt_law_32.at 1 rfl) 2 (by decide) ?_
        refine r_iadd (dt_law_32.at 2 rfl) ?_
        refine r_scI (dt_law_32.at 3 rfl) (fun x266 => ?_)
        refine r_cvI (c := 9) (rest := [.int r264]) (ct_Md_line v2 x265 x266 _) (dt_law_32.at 4 rfl) mb_Md_line wd_1571 wd_1572 wd_1573 rfl (by decide) rfl rfl (Nat.le_of_ble_eq_true rfl) (fun r268 M267 => ?_)
        refine r_icmp_eq (tgt := 2079) (dt_law_32.at 5 rfl) (by decide) ?_ ?_
        · refine r_iincn (v := 6) (dt_law_60.at 13 rfl) (by decide) rfl (by decide) (fun y => [.retAddr 1, .ref v1, .ref v2, .int y]) (fun _ => rfl) (fun x269 => ?_)
          refine r_goto (tgt := 18) (dt_law_60.at 14 rfl) (by decide) ?_
          exact Rf.msk [true, true, true, true] (ih v1 v2 x269 M267)
        · refine r_iconst (dt_law_32.at 6 rfl) 0 (by decide) ?_
          exact r_zret (dt_law_32.at 7 rfl) rfl rfl
      refine Rf.ite (fun h29 => ?_) (fun h29 => ?_)
      · refine r_tsIn (tgt := 1224) (dt_law_0.at 21 rfl) (by rw [h29]; decide) (by rw [h29]; decide) (by rw [h29]; rfl) (by decide) ?_
        refine r_aload_n (dt_law_32.at 8 rfl) rfl ?_
        refine r_aload_s (dt_law_32.at 9 rfl) rfl (by decide) ?_
        refine r_iload_n (dt_law_32.at 10 rfl) rfl ?_
        refine r_iconst (dt_law_32.at 11 rfl) 1 (by decide) ?_
        refine r_iadd (dt_law_32.at 12 rfl) ?_
        refine r_scI (dt_law_32.at 13 rfl) (fun x270 => ?_)
        refine r_aload_s (dt_law_32.at 14 rfl) rfl (by decide) ?_
        refine r_iload_n (dt_law_32.at 15 rfl) rfl ?_
        refine r_iconst (dt_law_32.at 16 rfl) 2 (by decide) ?_
        refine r_iadd (dt_law_32.at 17 rfl) ?_
        refine r_scI (dt_law_32.at 18 rfl) (fun x271 => ?_)
        refine r_cvI (c := 8) (rest := []) (ct_NS_box v1 x270 x271 _) (dt_law_32.at 19 rfl) mb_NS_box wd_1090 wd_1091 wd_1092 rfl (by decide) rfl rfl (Nat.le_of_ble_eq_true rfl) (fun r273 M272 => ?_)
        refine r_aload_n (dt_law_32.at 20 rfl) rfl ?_
        refine r_aload_s (dt_law_32.at 21 rfl) rfl (by decide) ?_
        refine r_iload_n (dt_law_32.at 22 rfl) rfl ?_
        refine r_iconst (dt_law_32.at 23 rfl) 1 (by decide) ?_
        refine r_iadd (dt_law_32.at 24 rfl) ?_
        refine r_scI (dt_law_33.at 0 rfl) (fun x274 => ?_)
        refine r_aload_s (dt_law_33.at 1 rfl) rfl (by decide) ?_
        refine r_iload_n (dt_law_33.at 2 rfl) rfl ?_
        refine r_iconst (dt_law_33.at 3 rfl) 2 (by decide) ?_
        refine r_iadd (dt_law_33.at 4 rfl) ?_
        refine r_scI (dt_law_33.at 5 rfl) (fun x275 => ?_)
        refine r_cvI (c := 9) (rest := [.int r273]) (ct_Md_box v2 x274 x275 _) (dt_law_33.at 6 rfl) mb_Md_box wd_1692 wd_1693 wd_1694 rfl (by decide) rfl rfl (Nat.le_of_ble_eq_true rfl) (fun r277 M276 => ?_)
        refine r_icmp_eq (tgt := 2079) (dt_law_33.at 7 rfl) (by decide) ?_ ?_
        · refine r_iincn (v := 6) (dt_law_60.at 13 rfl) (by decide) rfl (by decide) (fun y => [.retAddr 1, .ref v1, .ref v2, .int y]) (fun _ => rfl) (fun x278 => ?_)
          refine r_goto (tgt := 18) (dt_law_60.at 14 rfl) (by decide) ?_
          exact Rf.msk [true, true, true, true] (ih v1 v2 x278 M276)
        · refine r_iconst (dt_law_33.at 8 rfl) 0 (by decide) ?_
          exact r_zret (dt_law_33.at 9 rfl) rfl rfl
      refine Rf.ite (fun h30 => ?_) (fun h30 => ?_)
      · refine r_tsIn (tgt := 1257) (dt_law_0.at 21 rfl) (by rw [h30]; decide) (by rw [h30]; decide) (by rw [h30]; rfl) (by decide) ?_
        refine r_aload_n (dt_law_33.at 10 rfl) rfl ?_
        refine r_aload_s (dt_law_33.at 11 rfl) rfl (by decide) ?_
        refine r_iload_n (dt_law_33.at 12 rfl) rfl ?_
        refine r_iconst (dt_law_33.at 13 rfl) 1 (by decide) ?_
        refine r_iadd (dt_law_33.at 14 rfl) ?_
        refine r_scI (dt_law_33.at 15 rfl) (fun x279 => ?_)
        refine r_aload_s (dt_law_33.at 16 rfl) rfl (by decide) ?_
        refine r_iload_n (dt_law_33.at 17 rfl) rfl ?_
        refine r_iconst (dt_law_33.at 18 rfl) 2 (by decide) ?_
        refine r_iadd (dt_law_33.at 19 rfl) ?_
        refine r_scI (dt_law_33.at 20 rfl) (fun x280 => ?_)
        refine r_cvI (c := 8) (rest := []) (ct_NS_middle v1 x279 x280 _) (dt_law_33.at 21 rfl) mb_NS_middle wd_1094 wd_1095 wd_1096 rfl (by decide) rfl rfl (Nat.le_of_ble_eq_true rfl) (fun r282 M281 => ?_)
        refine r_aload_n (dt_law_33.at 22 rfl) rfl ?_
        refine r_aload_s (dt_law_33.at 23 rfl) rfl (by decide) ?_
        refine r_iload_n (dt_law_33.at 24 rfl) rfl ?_
        refine r_iconst (dt_law_34.at 0 rfl) 1 (by decide) ?_
        refine r_iadd (dt_law_34.at 1 rfl) ?_
        refine r_scI (dt_law_34.at 2 rfl) (fun x283 => ?_)
        refine r_aload_s (dt_law_34.at 3 rfl) rfl (by decide) ?_
        refine r_iload_n (dt_law_34.at 4 rfl) rfl ?_
        refine r_iconst (dt_law_34.at 5 rfl) 2 (by decide) ?_
        refine r_iadd (dt_law_34.at 6 rfl) ?_
        refine r_scI (dt_law_34.at 7 rfl) (fun x284 => ?_)
        refine r_cvI (c := 9) (rest := [.int r282]) (ct_Md_middle v2 x283 x284 _) (dt_law_34.at 8 rfl) mb_Md_middle wd_1697 wd_1698 wd_1699 rfl (by decide) rfl rfl (Nat.le_of_ble_eq_true rfl) (fun r286 M285 => ?_)
        refine r_icmp_eq (tgt := 2079) (dt_law_34.at 9 rfl) (by decide) ?_ ?_
        · refine r_iincn (v := 6) (dt_law_60.at 13 rfl) (by decide) rfl (by decide) (fun y => [.retAddr 1, .ref v1, .ref v2, .int y]) (fun _ => rfl) (fun x287 => ?_)
          refine r_goto (tgt := 18) (dt_law_60.at 14 rfl) (by decide) ?_
          exact Rf.msk [true, true, true, true] (ih v1 v2 x287 M285)
        · refine r_iconst (dt_law_34.at 10 rfl) 0 (by decide) ?_
          exact r_zret (dt_law_34.at 11 rfl) rfl rfl
      refine Rf.ite (fun h31 => ?_) (fun h31 => ?_)
      · refine r_tsIn (tgt := 1290) (dt_law_0.at 21 rfl) (by rw [h31]; decide) (by rw [h31]; decide) (by rw [h31]; rfl) (by decide) ?_
        refine r_aload_n (dt_law_34.at 12 rfl) rfl ?_
        refine r_aload_s (dt_law_34.at 13 rfl) rfl (by decide) ?_
        refine r_iload_n (dt_law_34.at 14 rfl) rfl ?_
        refine r_iconst (dt_law_34.at 15 rfl) 1 (by decide) ?_
        refine r_iadd (dt_law_34.at 16 rfl) ?_
        refine r_scI (dt_law_34.at 17 rfl) (fun x288 => ?_)
        refine r_cvI (c := 8) (rest := []) (ct_NS_picture v1 x288 _) (dt_law_34.at 18 rfl) mb_NS_picture wd_1122 wd_1123 wd_1124 rfl (by decide) rfl rfl (Nat.le_of_ble_eq_true rfl) (fun r290 M289 => ?_)
        refine r_aload_n (dt_law_34.at 19 rfl) rfl ?_
        refine r_aload_s (dt_law_34.at 20 rfl) rfl (by decide) ?_
        refine r_iload_n (dt_law_34.at 21 rfl) rfl ?_
        refine r_iconst (dt_law_34.at 22 rfl) 1 (by decide) ?_
        refine r_iadd (dt_law_34.at 23 rfl) ?_
        refine r_scI (dt_law_34.at 24 rfl) (fun x291 => ?_)
        refine r_cvI (c := 9) (rest := [.int r290]) (ct_Md_picture v2 x291 _) (dt_law_35.at 0 rfl) mb_Md_picture wd_1773 wd_1774 wd_1775 rfl (by decide) rfl rfl (Nat.le_of_ble_eq_true rfl) (fun r293 M292 => ?_)
        refine r_icmp_eq (tgt := 2079) (dt_law_35.at 1 rfl) (by decide) ?_ ?_
        · refine r_iincn (v := 6) (dt_law_60.at 13 rfl) (by decide) rfl (by decide) (fun y => [.retAddr 1, .ref v1, .ref v2, .int y]) (fun _ => rfl) (fun x294 => ?_)
          refine r_goto (tgt := 18) (dt_law_60.at 14 rfl) (by decide) ?_
          exact Rf.msk [true, true, true, true] (ih v1 v2 x294 M292)
        · refine r_iconst (dt_law_35.at 2 rfl) 0 (by decide) ?_
          exact r_zret (dt_law_35.at 3 rfl) rfl rfl
      refine Rf.ite (fun h32 => ?_) (fun h32 => ?_)
      · refine r_tsIn (tgt := 1313) (dt_law_0.at 21 rfl) (by rw [h32]; decide) (by rw [h32]; decide) (by rw [h32]; rfl) (by decide) ?_
        refine r_aload_n (dt_law_35.at 4 rfl) rfl ?_
        refine r_aload_s (dt_law_35.at 5 rfl) rfl (by decide) ?_
        refine r_iload_n (dt_law_35.at 6 rfl) rfl ?_
        refine r_iconst (dt_law_35.at 7 rfl) 1 (by decide) ?_
        refine r_iadd (dt_law_35.at 8 rfl) ?_
        refine r_scI (dt_law_35.at 9 rfl) (fun x295 => ?_)
        refine r_cvI (c := 8) (rest := []) (ct_NS_octet v1 x295 _) (dt_law_35.at 10 rfl) mb_NS_octet wd_850 wd_851 wd_852 rfl (by decide) rfl rfl (Nat.le_of_ble_eq_true rfl) (fun r297 M296 => ?_)
        refine r_aload_n (dt_law_35.at 11 rfl) rfl ?_
        refine r_aload_s (dt_law_35.at 12 rfl) rfl (by decide) ?_
        refine r_iload_n (dt_law_35.at 13 rfl) rfl ?_
        refine r_iconst (dt_law_35.at 14 rfl) 1 (by decide) ?_
        refine r_iadd (dt_law_35.at 15 rfl) ?_
        refine r_scI (dt_law_35.at 16 rfl) (fun x298 => ?_)
        refine r_cvI (c := 9) (rest := [.int r297]) (ct_Md_octet v2 x298 _) (dt_law_35.at 17 rfl) mb_Md_octet wd_1793 wd_1794 wd_1795 rfl (by decide) rfl rfl (Nat.le_of_ble_eq_true rfl) (fun r300 M299 => ?_)
        refine r_icmp_eq (tgt := 2079) (dt_law_35.at 18 rfl) (by decide) ?_ ?_
        · refine r_iincn (v := 6) (dt_law_60.at 13 rfl) (by decide) rfl (by decide) (fun y => [.retAddr 1, .ref v1, .ref v2, .int y]) (fun _ => rfl) (fun x301 => ?_)
          refine r_goto (tgt := 18) (dt_law_60.at 14 rfl) (by decide) ?_
          exact Rf.msk [true, true, true, true] (ih v1 v2 x301 M299)
        · refine r_iconst (dt_law_35.at 19 rfl) 0 (by decide) ?_
          exact r_zret (dt_law_35.at 20 rfl) rfl rfl
      refine Rf.ite (fun h33 => ?_) (fun h33 => ?_)
      · refine r_tsIn (tgt := 1336) (dt_law_0.at 21 rfl) (by rw [h33]; decide) (by rw [h33]; decide) (by rw [h33]; rfl) (by decide) ?_
        refine r_aload_n (dt_law_35.at 21 rfl) rfl ?_
        refine r_aload_s (dt_law_35.at 22 rfl) rfl (by decide) ?_
        refine r_iload_n (dt_law_35.at 23 rfl) rfl ?_
        refine r_iconst (dt_law_35.at 24 rfl) 1 (by decide) ?_
        refine r_iadd (dt_law_36.at 0 rfl) ?_
        refine r_scI (dt_law_36.at 1 rfl) (fun x302 => ?_)
        refine r_cvI (c := 8) (rest := []) (ct_NS_cellsOf v1 x302 _) (dt_law_36.at 2 rfl) mb_NS_cellsOf wd_754 wd_755 wd_756 rfl (by decide) rfl rfl (Nat.le_of_ble_eq_true rfl) (fun r304 M303 => ?_)
        refine r_aload_n (dt_law_36.at 3 rfl) rfl ?_
        refine r_aload_s (dt_law_36.at 4 rfl) rfl (by decide) ?_
        refine r_iload_n (dt_law_36.at 5 rfl) rfl ?_
        refine r_iconst (dt_law_36.at 6 rfl) 1 (by decide) ?_
        refine r_iadd (dt_law_36.at 7 rfl) ?_
        refine r_scI (dt_law_36.at 8 rfl) (fun x305 => ?_)
        refine r_cvI (c := 9) (rest := [.int r304]) (ct_Md_cellsOf v2 x305 _) (dt_law_36.at 9 rfl) mb_Md_cellsOf wd_1551 wd_1552 wd_1553 rfl (by decide) rfl rfl (Nat.le_of_ble_eq_true rfl) (fun r307 M306 => ?_)
        refine r_icmp_eq (tgt := 2079) (dt_law_36.at 10 rfl) (by decide) ?_ ?_
        · refine r_iincn (v := 6) (dt_law_60.at 13 rfl) (by decide) rfl (by decide) (fun y => [.retAddr 1, .ref v1, .ref v2, .int y]) (fun _ => rfl) (fun x308 => ?_)
          refine r_goto (tgt := 18) (dt_law_60.at 14 rfl) (by decide) ?_
          exact Rf.msk [true, true, true, true] (ih v1 v2 x308 M306)
        · refine r_iconst (dt_law_36.at 11 rfl) 0 (by decide) ?_
          exact r_zret (dt_law_36.at 12 rfl) rfl rfl
      refine Rf.ite (fun h34 => ?_) (fun h34 => ?_)
      · refine r_tsIn (tgt := 1359) (dt_law_0.at 21 rfl) (by rw [h34]; decide) (by rw [h34]; decide) (by rw [h34]; rfl) (by decide) ?_
        refine r_aload_n (dt_law_36.at 13 rfl) rfl ?_
        refine r_aload_s (dt_law_36.at 14 rfl) rfl (by decide) ?_
        refine r_iload_n (dt_law_36.at 15 rfl) rfl ?_
        refine r_iconst (dt_law_36.at 16 rfl) 1 (by decide) ?_
        refine r_iadd (dt_law_36.at 17 rfl) ?_
        refine r_scI (dt_law_36.at 18 rfl) (fun x309 => ?_)
        refine r_aload_s (dt_law_36.at 19 rfl) rfl (by decide) ?_
        refine r_iload_n (dt_law_36.at 20 rfl) rfl ?_
        refine r_iconst (dt_law_36.at 21 rfl) 2 (by decide) ?_
        refine r_iadd (dt_law_36.at 22 rfl) ?_
        refine r_scI (dt_law_36.at 23 rfl) (fun x310 => ?_)
        refine r_cvI (c := 8) (rest := []) (ct_NS_meets v1 x309 x310 _) (dt_law_36.at 24 rfl) mb_NS_meets wd_766 wd_767 wd_768 rfl (by decide) rfl rfl (Nat.le_of_ble_eq_true rfl) (fun r312 M311 => ?_)
        refine r_aload_n (dt_law_37.at 0 rfl) rfl ?_
        refine r_aload_s (dt_law_37.at 1 rfl) rfl (by decide) ?_
        refine r_iload_n (dt_law_37.at 2 rfl) rfl ?_
        refine r_iconst (dt_law_37.at 3 rfl) 1 (by decide) ?_
        refine r_iadd (dt_law_37.at 4 rfl) ?_
        refine r_scI (dt_law_37.at 5 rfl) (fun x313 => ?_)
        refine r_aload_s (dt_law_37.at 6 rfl) rfl (by decide) ?_
        refine r_iload_n (dt_law_37.at 7 rfl) rfl ?_
        refine r_iconst (dt_law_37.at 8 rfl) 2 (by decide) ?_
        refine r_iadd (dt_law_37.at 9 rfl) ?_
        refine r_scI (dt_law_37.at 10 rfl) (fun x314 => ?_)
        refine r_cvI (c := 9) (rest := [.int r312]) (ct_Md_meets v2 x313 x314 _) (dt_law_37.at 11 rfl) mb_Md_meets wd_1559 wd_1560 wd_1561 rfl (by decide) rfl rfl (Nat.le_of_ble_eq_true rfl) (fun r316 M315 => ?_)
        refine r_icmp_eq (tgt := 2079) (dt_law_37.at 12 rfl) (by decide) ?_ ?_
        · refine r_iincn (v := 6) (dt_law_60.at 13 rfl) (by decide) rfl (by decide) (fun y => [.retAddr 1, .ref v1, .ref v2, .int y]) (fun _ => rfl) (fun x317 => ?_)
          refine r_goto (tgt := 18) (dt_law_60.at 14 rfl) (by decide) ?_
          exact Rf.msk [true, true, true, true] (ih v1 v2 x317 M315)
        · refine r_iconst (dt_law_37.at 13 rfl) 0 (by decide) ?_
          exact r_zret (dt_law_37.at 14 rfl) rfl rfl
      refine Rf.ite (fun h35 => ?_) (fun h35 => ?_)
      · refine r_tsIn (tgt := 1392) (dt_law_0.at 21 rfl) (by rw [h35]; decide) (by rw [h35]; decide) (by rw [h35]; rfl) (by decide) ?_
        refine r_aload_n (dt_law_37.at 15 rfl) rfl ?_
        refine r_aload_s (dt_law_37.at 16 rfl) rfl (by decide) ?_
        refine r_iload_n (dt_law_37.at 17 rfl) rfl ?_
        refine r_iconst (dt_law_37.at 18 rfl) 1 (by decide) ?_
        refine r_iadd (dt_law_37.at 19 rfl) ?_
        refine r_scI (dt_law_37.at 20 rfl) (fun x318 => ?_)
        refine r_aload_s (dt_law_37.at 21 rfl) rfl (by decide) ?_
        refine r_iload_n (dt_law_37.at 22 rfl) rfl ?_
        refine r_iconst (dt_law_37.at 23 rfl) 2 (by decide) ?_
        refine r_iadd (dt_law_37.at 24 rfl) ?_
        refine r_scI (dt_law_38.at 0 rfl) (fun x319 => ?_)
        refine r_cvI (c := 8) (rest := []) (ct_NS_bornAs v1 x318 x319 _) (dt_law_38.at 1 rfl) mb_NS_bornAs wd_872 wd_873 wd_874 rfl (by decide) rfl rfl (Nat.le_of_ble_eq_true rfl) (fun r321 M320 => ?_)
        refine r_aload_n (dt_law_38.at 2 rfl) rfl ?_
        refine r_aload_s (dt_law_38.at 3 rfl) rfl (by decide) ?_
        refine r_iload_n (dt_law_38.at 4 rfl) rfl ?_
        refine r_iconst (dt_law_38.at 5 rfl) 1 (by decide) ?_
        refine r_iadd (dt_law_38.at 6 rfl) ?_
        refine r_scI (dt_law_38.at 7 rfl) (fun x322 => ?_)
        refine r_aload_s (dt_law_38.at 8 rfl) rfl (by decide) ?_
        refine r_iload_n (dt_law_38.at 9 rfl) rfl ?_
        refine r_iconst (dt_law_38.at 10 rfl) 2 (by decide) ?_
        refine r_iadd (dt_law_38.at 11 rfl) ?_
        refine r_scI (dt_law_38.at 12 rfl) (fun x323 => ?_)
        refine r_cvI (c := 9) (rest := [.int r321]) (ct_Md_bornAs v2 x322 x323 _) (dt_law_38.at 13 rfl) mb_Md_bornAs wd_1749 wd_1750 wd_1751 rfl (by decide) rfl rfl (Nat.le_of_ble_eq_true rfl) (fun r325 M324 => ?_)
        refine r_icmp_eq (tgt := 2079) (dt_law_38.at 14 rfl) (by decide) ?_ ?_
        · refine r_iincn (v := 6) (dt_law_60.at 13 rfl) (by decide) rfl (by decide) (fun y => [.retAddr 1, .ref v1, .ref v2, .int y]) (fun _ => rfl) (fun x326 => ?_)
          refine r_goto (tgt := 18) (dt_law_60.at 14 rfl) (by decide) ?_
          exact Rf.msk [true, true, true, true] (ih v1 v2 x326 M324)
        · refine r_iconst (dt_law_38.at 15 rfl) 0 (by decide) ?_
          exact r_zret (dt_law_38.at 16 rfl) rfl rfl
      refine Rf.ite (fun h36 => ?_) (fun h36 => ?_)
      · refine r_tsIn (tgt := 1425) (dt_law_0.at 21 rfl) (by rw [h36]; decide) (by rw [h36]; decide) (by rw [h36]; rfl) (by decide) ?_
        refine r_aload_n (dt_law_38.at 17 rfl) rfl ?_
        refine r_aload_s (dt_law_38.at 18 rfl) rfl (by decide) ?_
        refine r_iload_n (dt_law_38.at 19 rfl) rfl ?_
        refine r_iconst (dt_law_38.at 20 rfl) 1 (by decide) ?_
        refine r_iadd (dt_law_38.at 21 rfl) ?_
        refine r_scI (dt_law_38.at 22 rfl) (fun x327 => ?_)
        refine r_aload_s (dt_law_38.at 23 rfl) rfl (by decide) ?_
        refine r_iload_n (dt_law_38.at 24 rfl) rfl ?_
        refine r_iconst (dt_law_39.at 0 rfl) 2 (by decide) ?_
        refine r_iadd (dt_law_39.at 1 rfl) ?_
        refine r_scI (dt_law_39.at 2 rfl) (fun x328 => ?_)
        refine r_cvI (c := 8) (rest := []) (ct_NS_latest v1 x327 x328 _) (dt_law_39.at 3 rfl) mb_NS_latest wd_885 wd_886 wd_887 rfl (by decide) rfl rfl (Nat.le_of_ble_eq_true rfl) (fun r330 M329 => ?_)
        refine r_aload_n (dt_law_39.at 4 rfl) rfl ?_
        refine r_aload_s (dt_law_39.at 5 rfl) rfl (by decide) ?_
        refine r_iload_n (dt_law_39.at 6 rfl) rfl ?_
        refine r_iconst (dt_law_39.at 7 rfl) 1 (by decide) ?_
        refine r_iadd (dt_law_39.at 8 rfl) ?_
        refine r_scI (dt_law_39.at 9 rfl) (fun x331 => ?_)
        refine r_aload_s (dt_law_39.at 10 rfl) rfl (by decide) ?_
        refine r_iload_n (dt_law_39.at 11 rfl) rfl ?_
        refine r_iconst (dt_law_39.at 12 rfl) 2 (by decide) ?_
        refine r_iadd (dt_law_39.at 13 rfl) ?_
        refine r_scI (dt_law_39.at 14 rfl) (fun x332 => ?_)
        refine r_cvI (c := 9) (rest := [.int r330]) (ct_Md_latest v2 x331 x332 _) (dt_law_39.at 15 rfl) mb_Md_latest wd_1761 wd_1762 wd_1763 rfl (by decide) rfl rfl (Nat.le_of_ble_eq_true rfl) (fun r334 M333 => ?_)
        refine r_icmp_eq (tgt := 2079) (dt_law_39.at 16 rfl) (by decide) ?_ ?_
        · refine r_iincn (v := 6) (dt_law_60.at 13 rfl) (by decide) rfl (by decide) (fun y => [.retAddr 1, .ref v1, .ref v2, .int y]) (fun _ => rfl) (fun x335 => ?_)
          refine r_goto (tgt := 18) (dt_law_60.at 14 rfl) (by decide) ?_
          exact Rf.msk [true, true, true, true] (ih v1 v2 x335 M333)
        · refine r_iconst (dt_law_39.at 17 rfl) 0 (by decide) ?_
          exact r_zret (dt_law_39.at 18 rfl) rfl rfl
      refine Rf.ite (fun h37 => ?_) (fun h37 => ?_)
      · refine r_tsIn (tgt := 1458) (dt_law_0.at 21 rfl) (by rw [h37]; decide) (by rw [h37]; decide) (by rw [h37]; rfl) (by decide) ?_
        refine r_aload_n (dt_law_39.at 19 rfl) rfl ?_
        refine r_aload_s (dt_law_39.at 20 rfl) rfl (by decide) ?_
        refine r_iload_n (dt_law_39.at 21 rfl) rfl ?_
        refine r_iconst (dt_law_39.at 22 rfl) 1 (by decide) ?_
        refine r_iadd (dt_law_39.at 23 rfl) ?_
        refine r_scI (dt_law_39.at 24 rfl) (fun x336 => ?_)
        refine r_aload_s (dt_law_40.at 0 rfl) rfl (by decide) ?_
        refine r_iload_n (dt_law_40.at 1 rfl) rfl ?_
        refine r_iconst (dt_law_40.at 2 rfl) 2 (by decide) ?_
        refine r_iadd (dt_law_40.at 3 rfl) ?_
        refine r_scI (dt_law_40.at 4 rfl) (fun x337 => ?_)
        refine r_cvI (c := 8) (rest := []) (ct_NS_layer v1 x336 x337 _) (dt_law_40.at 5 rfl) mb_NS_layer wd_1135 wd_1136 wd_1137 rfl (by decide) rfl rfl (Nat.le_of_ble_eq_true rfl) (fun r339 M338 => ?_)
        refine r_aload_n (dt_law_40.at 6 rfl) rfl ?_
        refine r_aload_s (dt_law_40.at 7 rfl) rfl (by decide) ?_
        refine r_iload_n (dt_law_40.at 8 rfl) rfl ?_
        refine r_iconst (dt_law_40.at 9 rfl) 1 (by decide) ?_
        refine r_iadd (dt_law_40.at 10 rfl) ?_
        refine r_scI (dt_law_40.at 11 rfl) (fun x340 => ?_)
        refine r_aload_s (dt_law_40.at 12 rfl) rfl (by decide) ?_
        refine r_iload_n (dt_law_40.at 13 rfl) rfl ?_
        refine r_iconst (dt_law_40.at 14 rfl) 2 (by decide) ?_
        refine r_iadd (dt_law_40.at 15 rfl) ?_
        refine r_scI (dt_law_40.at 16 rfl) (fun x341 => ?_)
        refine r_cvI (c := 9) (rest := [.int r339]) (ct_Md_layer v2 x340 x341 _) (dt_law_40.at 17 rfl) mb_Md_layer wd_1781 wd_1782 wd_1783 rfl (by decide) rfl rfl (Nat.le_of_ble_eq_true rfl) (fun r343 M342 => ?_)
        refine r_icmp_eq (tgt := 2079) (dt_law_40.at 18 rfl) (by decide) ?_ ?_
        · refine r_iincn (v := 6) (dt_law_60.at 13 rfl) (by decide) rfl (by decide) (fun y => [.retAddr 1, .ref v1, .ref v2, .int y]) (fun _ => rfl) (fun x344 => ?_)
          refine r_goto (tgt := 18) (dt_law_60.at 14 rfl) (by decide) ?_
          exact Rf.msk [true, true, true, true] (ih v1 v2 x344 M342)
        · refine r_iconst (dt_law_40.at 19 rfl) 0 (by decide) ?_
          exact r_zret (dt_law_40.at 20 rfl) rfl rfl
      refine Rf.ite (fun h38 => ?_) (fun h38 => ?_)
      · refine r_tsIn (tgt := 1491) (dt_law_0.at 21 rfl) (by rw [h38]; decide) (by rw [h38]; decide) (by rw [h38]; rfl) (by decide) ?_
        refine r_aload_n (dt_law_40.at 21 rfl) rfl ?_
        refine r_aload_s (dt_law_40.at 22 rfl) rfl (by decide) ?_
        refine r_iload_n (dt_law_40.at 23 rfl) rfl ?_
        refine r_iconst (dt_law_40.at 24 rfl) 1 (by decide) ?_
        refine r_iadd (dt_law_41.at 0 rfl) ?_
        refine r_scI (dt_law_41.at 1 rfl) (fun x345 => ?_)
        refine r_aload_s (dt_law_41.at 2 rfl) rfl (by decide) ?_
        refine r_iload_n (dt_law_41.at 3 rfl) rfl ?_
        refine r_iconst (dt_law_41.at 4 rfl) 2 (by decide) ?_
        refine r_iadd (dt_law_41.at 5 rfl) ?_
        refine r_scI (dt_law_41.at 6 rfl) (fun x346 => ?_)
        refine r_cvI (c := 8) (rest := []) (ct_NS_both v1 x345 x346 _) (dt_law_41.at 7 rfl) mb_NS_both wd_1098 wd_1099 wd_1100 rfl (by decide) rfl rfl (Nat.le_of_ble_eq_true rfl) (fun r348 M347 => ?_)
        refine r_aload_n (dt_law_41.at 8 rfl) rfl ?_
        refine r_aload_s (dt_law_41.at 9 rfl) rfl (by decide) ?_
        refine r_iload_n (dt_law_41.at 10 rfl) rfl ?_
        refine r_iconst (dt_law_41.at 11 rfl) 1 (by decide) ?_
        refine r_iadd (dt_law_41.at 12 rfl) ?_
        refine r_scI (dt_law_41.at 13 rfl) (fun x349 => ?_)
        refine r_aload_s (dt_law_41.at 14 rfl) rfl (by decide) ?_
        refine r_iload_n (dt_law_41.at 15 rfl) rfl ?_
        refine r_iconst (dt_law_41.at 16 rfl) 2 (by decide) ?_
        refine r_iadd (dt_law_41.at 17 rfl) ?_
        refine r_scI (dt_law_41.at 18 rfl) (fun x350 => ?_)
        refine r_cvI (c := 9) (rest := [.int r348]) (ct_Md_both v2 x349 x350 _) (dt_law_41.at 19 rfl) mb_Md_both wd_1701 wd_1702 wd_1703 rfl (by decide) rfl rfl (Nat.le_of_ble_eq_true rfl) (fun r352 M351 => ?_)
        refine r_icmp_eq (tgt := 2079) (dt_law_41.at 20 rfl) (by decide) ?_ ?_
        · refine r_iincn (v := 6) (dt_law_60.at 13 rfl) (by decide) rfl (by decide) (fun y => [.retAddr 1, .ref v1, .ref v2, .int y]) (fun _ => rfl) (fun x353 => ?_)
          refine r_goto (tgt := 18) (dt_law_60.at 14 rfl) (by decide) ?_
          exact Rf.msk [true, true, true, true] (ih v1 v2 x353 M351)
        · refine r_iconst (dt_law_41.at 21 rfl) 0 (by decide) ?_
          exact r_zret (dt_law_41.at 22 rfl) rfl rfl
      refine Rf.ite (fun h39 => ?_) (fun h39 => ?_)
      · refine r_tsIn (tgt := 1524) (dt_law_0.at 21 rfl) (by rw [h39]; decide) (by rw [h39]; decide) (by rw [h39]; rfl) (by decide) ?_
        refine r_aload_n (dt_law_41.at 23 rfl) rfl ?_
        refine r_aload_s (dt_law_41.at 24 rfl) rfl (by decide) ?_
        refine r_iload_n (dt_law_42.at 0 rfl) rfl ?_
        refine r_iconst (dt_law_42.at 1 rfl) 1 (by decide) ?_
        refine r_iadd (dt_law_42.at 2 rfl) ?_
        refine r_scI (dt_law_42.at 3 rfl) (fun x354 => ?_)
        refine r_aload_s (dt_law_42.at 4 rfl) rfl (by decide) ?_
        refine r_iload_n (dt_law_42.at 5 rfl) rfl ?_
        refine r_iconst (dt_law_42.at 6 rfl) 2 (by decide) ?_
        refine r_iadd (dt_law_42.at 7 rfl) ?_
        refine r_scI (dt_law_42.at 8 rfl) (fun x355 => ?_)
        refine r_aload_s (dt_law_42.at 9 rfl) rfl (by decide) ?_
        refine r_iload_n (dt_law_42.at 10 rfl) rfl ?_
        refine r_iconst (dt_law_42.at 11 rfl) 3 (by decide) ?_
        refine r_iadd (dt_law_42.at 12 rfl) ?_
        refine r_scI (dt_law_42.at 13 rfl) (fun x356 => ?_)
        refine r_aload_s (dt_law_42.at 14 rfl) rfl (by decide) ?_
        refine r_iload_n (dt_law_42.at 15 rfl) rfl ?_
        refine r_iconst (dt_law_42.at 16 rfl) 4 (by decide) ?_
        refine r_iadd (dt_law_42.at 17 rfl) ?_
        refine r_scI (dt_law_42.at 18 rfl) (fun x357 => ?_)
        refine r_aload_s (dt_law_42.at 19 rfl) rfl (by decide) ?_
        refine r_iload_n (dt_law_42.at 20 rfl) rfl ?_
        refine r_iconst (dt_law_42.at 21 rfl) 5 (by decide) ?_
        refine r_iadd (dt_law_42.at 22 rfl) ?_
        refine r_scI (dt_law_42.at 23 rfl) (fun x358 => ?_)
        refine r_cvI (c := 8) (rest := []) (ct_NS_within v1 x354 x355 x356 x357 x358 _) (dt_law_42.at 24 rfl) mb_NS_within wd_1069 wd_1070 wd_1071 rfl (by decide) rfl rfl (Nat.le_of_ble_eq_true rfl) (fun r360 M359 => ?_)
        refine r_aload_n (dt_law_43.at 0 rfl) rfl ?_
        refine r_aload_s (dt_law_43.at 1 rfl) rfl (by decide) ?_
        refine r_iload_n (dt_law_43.at 2 rfl) rfl ?_
        refine r_iconst (dt_law_43.at 3 rfl) 1 (by decide) ?_
        refine r_iadd (dt_law_43.at 4 rfl) ?_
        refine r_scI (dt_law_43.at 5 rfl) (fun x361 => ?_)
        refine r_aload_s (dt_law_43.at 6 rfl) rfl (by decide) ?_
        refine r_iload_n (dt_law_43.at 7 rfl) rfl ?_
        refine r_iconst (dt_law_43.at 8 rfl) 2 (by decide) ?_
        refine r_iadd (dt_law_43.at 9 rfl) ?_
        refine r_scI (dt_law_43.at 10 rfl) (fun x362 => ?_)
        refine r_aload_s (dt_law_43.at 11 rfl) rfl (by decide) ?_
        refine r_iload_n (dt_law_43.at 12 rfl) rfl ?_
        refine r_iconst (dt_law_43.at 13 rfl) 3 (by decide) ?_
        refine r_iadd (dt_law_43.at 14 rfl) ?_
        refine r_scI (dt_law_43.at 15 rfl) (fun x363 => ?_)
        refine r_aload_s (dt_law_43.at 16 rfl) rfl (by decide) ?_
        refine r_iload_n (dt_law_43.at 17 rfl) rfl ?_
        refine r_iconst (dt_law_43.at 18 rfl) 4 (by decide) ?_
        refine r_iadd (dt_law_43.at 19 rfl) ?_
        refine r_scI (dt_law_43.at 20 rfl) (fun x364 => ?_)
        refine r_aload_s (dt_law_43.at 21 rfl) rfl (by decide) ?_
        refine r_iload_n (dt_law_43.at 22 rfl) rfl ?_
        refine r_iconst (dt_law_43.at 23 rfl) 5 (by decide) ?_
        refine r_iadd (dt_law_43.at 24 rfl) ?_
        refine r_scI (dt_law_44.at 0 rfl) (fun x365 => ?_)
        refine r_cvI (c := 9) (rest := [.int r360]) (ct_Md_within v2 x361 x362 x363 x364 x365 _) (dt_law_44.at 1 rfl) mb_Md_within wd_1663 wd_1664 wd_1665 rfl (by decide) rfl rfl (Nat.le_of_ble_eq_true rfl) (fun r367 M366 => ?_)
        refine r_icmp_eq (tgt := 2079) (dt_law_44.at 2 rfl) (by decide) ?_ ?_
        · refine r_iincn (v := 6) (dt_law_60.at 13 rfl) (by decide) rfl (by decide) (fun y => [.retAddr 1, .ref v1, .ref v2, .int y]) (fun _ => rfl) (fun x368 => ?_)
          refine r_goto (tgt := 18) (dt_law_60.at 14 rfl) (by decide) ?_
          exact Rf.msk [true, true, true, true] (ih v1 v2 x368 M366)
        · refine r_iconst (dt_law_44.at 3 rfl) 0 (by decide) ?_
          exact r_zret (dt_law_44.at 4 rfl) rfl rfl
      refine Rf.ite (fun h40 => ?_) (fun h40 => ?_)
      · refine r_tsIn (tgt := 1587) (dt_law_0.at 21 rfl) (by rw [h40]; decide) (by rw [h40]; decide) (by rw [h40]; rfl) (by decide) ?_
        refine r_aload_n (dt_law_44.at 5 rfl) rfl ?_
        refine r_aload_s (dt_law_44.at 6 rfl) rfl (by decide) ?_
        refine r_iload_n (dt_law_44.at 7 rfl) rfl ?_
        refine r_iconst (dt_law_44.at 8 rfl) 1 (by decide) ?_
        refine r_iadd (dt_law_44.at 9 rfl) ?_
        refine r_scI (dt_law_44.at 10 rfl) (fun x369 => ?_)
        refine r_aload_s (dt_law_44.at 11 rfl) rfl (by decide) ?_
        refine r_iload_n (dt_law_44.at 12 rfl) rfl ?_
        refine r_iconst (dt_law_44.at 13 rfl) 2 (by decide) ?_
        refine r_iadd (dt_law_44.at 14 rfl) ?_
        refine r_scI (dt_law_44.at 15 rfl) (fun x370 => ?_)
        refine r_aload_s (dt_law_44.at 16 rfl) rfl (by decide) ?_
        refine r_iload_n (dt_law_44.at 17 rfl) rfl ?_
        refine r_iconst (dt_law_44.at 18 rfl) 3 (by decide) ?_
        refine r_iadd (dt_law_44.at 19 rfl) ?_
        refine r_scI (dt_law_44.at 20 rfl) (fun x371 => ?_)
        refine r_cvI (c := 8) (rest := []) (ct_NS_ofAge v1 x369 x370 x371 _) (dt_law_44.at 21 rfl) mb_NS_ofAge wd_1110 wd_1111 wd_1112 rfl (by decide) rfl rfl (Nat.le_of_ble_eq_true rfl) (fun r373 M372 => ?_)
        refine r_aload_n (dt_law_44.at 22 rfl) rfl ?_
        refine r_aload_s (dt_law_44.at 23 rfl) rfl (by decide) ?_
        refine r_iload_n (dt_law_44.at 24 rfl) rfl ?_
        refine r_iconst (dt_law_45.at 0 rfl) 1 (by decide) ?_
        refine r_iadd (dt_law_45.at 1 rfl) ?_
        refine r_scI (dt_law_45.at 2 rfl) (fun x374 => ?_)
        refine r_aload_s (dt_law_45.at 3 rfl) rfl (by decide) ?_
        refine r_iload_n (dt_law_45.at 4 rfl) rfl ?_
        refine r_iconst (dt_law_45.at 5 rfl) 2 (by decide) ?_
        refine r_iadd (dt_law_45.at 6 rfl) ?_
        refine r_scI (dt_law_45.at 7 rfl) (fun x375 => ?_)
        refine r_aload_s (dt_law_45.at 8 rfl) rfl (by decide) ?_
        refine r_iload_n (dt_law_45.at 9 rfl) rfl ?_
        refine r_iconst (dt_law_45.at 10 rfl) 3 (by decide) ?_
        refine r_iadd (dt_law_45.at 11 rfl) ?_
        refine r_scI (dt_law_45.at 12 rfl) (fun x376 => ?_)
        refine r_cvI (c := 9) (rest := [.int r373]) (ct_Md_ofAge v2 x374 x375 x376 _) (dt_law_45.at 13 rfl) mb_Md_ofAge wd_1705 wd_1706 wd_1707 rfl (by decide) rfl rfl (Nat.le_of_ble_eq_true rfl) (fun r378 M377 => ?_)
        refine r_icmp_eq (tgt := 2079) (dt_law_45.at 14 rfl) (by decide) ?_ ?_
        · refine r_iincn (v := 6) (dt_law_60.at 13 rfl) (by decide) rfl (by decide) (fun y => [.retAddr 1, .ref v1, .ref v2, .int y]) (fun _ => rfl) (fun x379 => ?_)
          refine r_goto (tgt := 18) (dt_law_60.at 14 rfl) (by decide) ?_
          exact Rf.msk [true, true, true, true] (ih v1 v2 x379 M377)
        · refine r_iconst (dt_law_45.at 15 rfl) 0 (by decide) ?_
          exact r_zret (dt_law_45.at 16 rfl) rfl rfl
      refine Rf.ite (fun h41 => ?_) (fun h41 => ?_)
      · refine r_tsIn (tgt := 1630) (dt_law_0.at 21 rfl) (by rw [h41]; decide) (by rw [h41]; decide) (by rw [h41]; rfl) (by decide) ?_
        refine r_aload_n (dt_law_45.at 17 rfl) rfl ?_
        refine r_aload_s (dt_law_45.at 18 rfl) rfl (by decide) ?_
        refine r_iload_n (dt_law_45.at 19 rfl) rfl ?_
        refine r_iconst (dt_law_45.at 20 rfl) 1 (by decide) ?_
        refine r_iadd (dt_law_45.at 21 rfl) ?_
        refine r_scI (dt_law_45.at 22 rfl) (fun x380 => ?_)
        refine r_aload_s (dt_law_45.at 23 rfl) rfl (by decide) ?_
        refine r_iload_n (dt_law_45.at 24 rfl) rfl ?_
        refine r_iconst (dt_law_46.at 0 rfl) 2 (by decide) ?_
        refine r_iadd (dt_law_46.at 1 rfl) ?_
        refine r_scI (dt_law_46.at 2 rfl) (fun x381 => ?_)
        refine r_cvI (c := 8) (rest := []) (ct_NS_kin v1 x380 x381 _) (dt_law_46.at 3 rfl) mb_NS_kin wd_770 wd_771 wd_772 rfl (by decide) rfl rfl (Nat.le_of_ble_eq_true rfl) (fun r383 M382 => ?_)
        refine r_aload_n (dt_law_46.at 4 rfl) rfl ?_
        refine r_aload_s (dt_law_46.at 5 rfl) rfl (by decide) ?_
        refine r_iload_n (dt_law_46.at 6 rfl) rfl ?_
        refine r_iconst (dt_law_46.at 7 rfl) 1 (by decide) ?_
        refine r_iadd (dt_law_46.at 8 rfl) ?_
        refine r_scI (dt_law_46.at 9 rfl) (fun x384 => ?_)
        refine r_aload_s (dt_law_46.at 10 rfl) rfl (by decide) ?_
        refine r_iload_n (dt_law_46.at 11 rfl) rfl ?_
        refine r_iconst (dt_law_46.at 12 rfl) 2 (by decide) ?_
        refine r_iadd (dt_law_46.at 13 rfl) ?_
        refine r_scI (dt_law_46.at 14 rfl) (fun x385 => ?_)
        refine r_cvI (c := 9) (rest := [.int r383]) (ct_Md_kin v2 x384 x385 _) (dt_law_46.at 15 rfl) mb_Md_kin wd_1567 wd_1568 wd_1569 rfl (by decide) rfl rfl (Nat.le_of_ble_eq_true rfl) (fun r387 M386 => ?_)
        refine r_icmp_eq (tgt := 2079) (dt_law_46.at 16 rfl) (by decide) ?_ ?_
        · refine r_iincn (v := 6) (dt_law_60.at 13 rfl) (by decide) rfl (by decide) (fun y => [.retAddr 1, .ref v1, .ref v2, .int y]) (fun _ => rfl) (fun x388 => ?_)
          refine r_goto (tgt := 18) (dt_law_60.at 14 rfl) (by decide) ?_
          exact Rf.msk [true, true, true, true] (ih v1 v2 x388 M386)
        · refine r_iconst (dt_law_46.at 17 rfl) 0 (by decide) ?_
          exact r_zret (dt_law_46.at 18 rfl) rfl rfl
      refine Rf.ite (fun h42 => ?_) (fun h42 => ?_)
      · refine r_tsIn (tgt := 1663) (dt_law_0.at 21 rfl) (by rw [h42]; decide) (by rw [h42]; decide) (by rw [h42]; rfl) (by decide) ?_
        refine r_aload_n (dt_law_46.at 19 rfl) rfl ?_
        refine r_aload_s (dt_law_46.at 20 rfl) rfl (by decide) ?_
        refine r_iload_n (dt_law_46.at 21 rfl) rfl ?_
        refine r_iconst (dt_law_46.at 22 rfl) 1 (by decide) ?_
        refine r_iadd (dt_law_46.at 23 rfl) ?_
        refine r_scI (dt_law_46.at 24 rfl) (fun x389 => ?_)
        refine r_aload_s (dt_law_47.at 0 rfl) rfl (by decide) ?_
        refine r_iload_n (dt_law_47.at 1 rfl) rfl ?_
        refine r_iconst (dt_law_47.at 2 rfl) 2 (by decide) ?_
        refine r_iadd (dt_law_47.at 3 rfl) ?_
        refine r_scI (dt_law_47.at 4 rfl) (fun x390 => ?_)
        refine r_aload_s (dt_law_47.at 5 rfl) rfl (by decide) ?_
        refine r_iload_n (dt_law_47.at 6 rfl) rfl ?_
        refine r_iconst (dt_law_47.at 7 rfl) 3 (by decide) ?_
        refine r_iadd (dt_law_47.at 8 rfl) ?_
        refine r_scI (dt_law_47.at 9 rfl) (fun x391 => ?_)
        refine r_cvI (c := 8) (rest := []) (ct_NS_reach v1 x389 x390 x391 _) (dt_law_47.at 10 rfl) mb_NS_reach wd_749 wd_750 wd_751 rfl (by decide) rfl rfl (Nat.le_of_ble_eq_true rfl) (fun r393 M392 => ?_)
        refine r_aload_n (dt_law_47.at 11 rfl) rfl ?_
        refine r_aload_s (dt_law_47.at 12 rfl) rfl (by decide) ?_
        refine r_iload_n (dt_law_47.at 13 rfl) rfl ?_
        refine r_iconst (dt_law_47.at 14 rfl) 1 (by decide) ?_
        refine r_iadd (dt_law_47.at 15 rfl) ?_
        refine r_scI (dt_law_47.at 16 rfl) (fun x394 => ?_)
        refine r_aload_s (dt_law_47.at 17 rfl) rfl (by decide) ?_
        refine r_iload_n (dt_law_47.at 18 rfl) rfl ?_
        refine r_iconst (dt_law_47.at 19 rfl) 2 (by decide) ?_
        refine r_iadd (dt_law_47.at 20 rfl) ?_
        refine r_scI (dt_law_47.at 21 rfl) (fun x395 => ?_)
        refine r_aload_s (dt_law_47.at 22 rfl) rfl (by decide) ?_
        refine r_iload_n (dt_law_47.at 23 rfl) rfl ?_
        refine r_iconst (dt_law_47.at 24 rfl) 3 (by decide) ?_
        refine r_iadd (dt_law_48.at 0 rfl) ?_
        refine r_scI (dt_law_48.at 1 rfl) (fun x396 => ?_)
        refine r_cvI (c := 9) (rest := [.int r393]) (ct_Md_reach v2 x394 x395 x396 _) (dt_law_48.at 2 rfl) mb_Md_reach wd_1563 wd_1564 wd_1565 rfl (by decide) rfl rfl (Nat.le_of_ble_eq_true rfl) (fun r398 M397 => ?_)
        refine r_icmp_eq (tgt := 2079) (dt_law_48.at 3 rfl) (by decide) ?_ ?_
        · refine r_iincn (v := 6) (dt_law_60.at 13 rfl) (by decide) rfl (by decide) (fun y => [.retAddr 1, .ref v1, .ref v2, .int y]) (fun _ => rfl) (fun x399 => ?_)
          refine r_goto (tgt := 18) (dt_law_60.at 14 rfl) (by decide) ?_
          exact Rf.msk [true, true, true, true] (ih v1 v2 x399 M397)
        · refine r_iconst (dt_law_48.at 4 rfl) 0 (by decide) ?_
          exact r_zret (dt_law_48.at 5 rfl) rfl rfl
      refine Rf.ite (fun h43 => ?_) (fun h43 => ?_)
      · refine r_tsIn (tgt := 1706) (dt_law_0.at 21 rfl) (by rw [h43]; decide) (by rw [h43]; decide) (by rw [h43]; rfl) (by decide) ?_
        refine r_aload_n (dt_law_48.at 6 rfl) rfl ?_
        refine r_aload_s (dt_law_48.at 7 rfl) rfl (by decide) ?_
        refine r_iload_n (dt_law_48.at 8 rfl) rfl ?_
        refine r_iconst (dt_law_48.at 9 rfl) 1 (by decide) ?_
        refine r_iadd (dt_law_48.at 10 rfl) ?_
        refine r_scI (dt_law_48.at 11 rfl) (fun x400 => ?_)
        refine r_cvI (c := 8) (rest := []) (ct_NS_over v1 x400 _) (dt_law_48.at 12 rfl) mb_NS_over wd_745 wd_746 wd_747 rfl (by decide) rfl rfl (Nat.le_of_ble_eq_true rfl) (fun r402 M401 => ?_)
        refine r_aload_n (dt_law_48.at 13 rfl) rfl ?_
        refine r_aload_s (dt_law_48.at 14 rfl) rfl (by decide) ?_
        refine r_iload_n (dt_law_48.at 15 rfl) rfl ?_
        refine r_iconst (dt_law_48.at 16 rfl) 1 (by decide) ?_
        refine r_iadd (dt_law_48.at 17 rfl) ?_
        refine r_scI (dt_law_48.at 18 rfl) (fun x403 => ?_)
        refine r_cvI (c := 9) (rest := [.int r402]) (ct_Md_over v2 x403 _) (dt_law_48.at 19 rfl) mb_Md_over wd_1547 wd_1548 wd_1549 rfl (by decide) rfl rfl (Nat.le_of_ble_eq_true rfl) (fun r405 M404 => ?_)
        refine r_icmp_eq (tgt := 2079) (dt_law_48.at 20 rfl) (by decide) ?_ ?_
        · refine r_iincn (v := 6) (dt_law_60.at 13 rfl) (by decide) rfl (by decide) (fun y => [.retAddr 1, .ref v1, .ref v2, .int y]) (fun _ => rfl) (fun x406 => ?_)
          refine r_goto (tgt := 18) (dt_law_60.at 14 rfl) (by decide) ?_
          exact Rf.msk [true, true, true, true] (ih v1 v2 x406 M404)
        · refine r_iconst (dt_law_48.at 21 rfl) 0 (by decide) ?_
          exact r_zret (dt_law_48.at 22 rfl) rfl rfl
      refine Rf.ite (fun h44 => ?_) (fun h44 => ?_)
      · refine r_tsIn (tgt := 1729) (dt_law_0.at 21 rfl) (by rw [h44]; decide) (by rw [h44]; decide) (by rw [h44]; rfl) (by decide) ?_
        refine r_aload_n (dt_law_48.at 23 rfl) rfl ?_
        refine r_aload_s (dt_law_48.at 24 rfl) rfl (by decide) ?_
        refine r_iload_n (dt_law_49.at 0 rfl) rfl ?_
        refine r_iconst (dt_law_49.at 1 rfl) 1 (by decide) ?_
        refine r_iadd (dt_law_49.at 2 rfl) ?_
        refine r_scI (dt_law_49.at 3 rfl) (fun x407 => ?_)
        refine r_aload_s (dt_law_49.at 4 rfl) rfl (by decide) ?_
        refine r_iload_n (dt_law_49.at 5 rfl) rfl ?_
        refine r_iconst (dt_law_49.at 6 rfl) 2 (by decide) ?_
        refine r_iadd (dt_law_49.at 7 rfl) ?_
        refine r_scI (dt_law_49.at 8 rfl) (fun x408 => ?_)
        refine r_aload_s (dt_law_49.at 9 rfl) rfl (by decide) ?_
        refine r_iload_n (dt_law_49.at 10 rfl) rfl ?_
        refine r_iconst (dt_law_49.at 11 rfl) 3 (by decide) ?_
        refine r_iadd (dt_law_49.at 12 rfl) ?_
        refine r_scI (dt_law_49.at 13 rfl) (fun x409 => ?_)
        refine r_aload_s (dt_law_49.at 14 rfl) rfl (by decide) ?_
        refine r_iload_n (dt_law_49.at 15 rfl) rfl ?_
        refine r_iconst (dt_law_49.at 16 rfl) 4 (by decide) ?_
        refine r_iadd (dt_law_49.at 17 rfl) ?_
        refine r_scI (dt_law_49.at 18 rfl) (fun x410 => ?_)
        refine r_cvI (c := 8) (rest := []) (ct_NS_flux v1 x407 x408 x409 x410 _) (dt_law_49.at 19 rfl) mb_NS_flux wd_930 wd_931 wd_932 rfl (by decide) rfl rfl (Nat.le_of_ble_eq_true rfl) (fun r412 M411 => ?_)
        refine r_aload_n (dt_law_49.at 20 rfl) rfl ?_
        refine r_aload_s (dt_law_49.at 21 rfl) rfl (by decide) ?_
        refine r_iload_n (dt_law_49.at 22 rfl) rfl ?_
        refine r_iconst (dt_law_49.at 23 rfl) 1 (by decide) ?_
        refine r_iadd (dt_law_49.at 24 rfl) ?_
        refine r_scI (dt_law_50.at 0 rfl) (fun x413 => ?_)
        refine r_aload_s (dt_law_50.at 1 rfl) rfl (by decide) ?_
        refine r_iload_n (dt_law_50.at 2 rfl) rfl ?_
        refine r_iconst (dt_law_50.at 3 rfl) 2 (by decide) ?_
        refine r_iadd (dt_law_50.at 4 rfl) ?_
        refine r_scI (dt_law_50.at 5 rfl) (fun x414 => ?_)
        refine r_aload_s (dt_law_50.at 6 rfl) rfl (by decide) ?_
        refine r_iload_n (dt_law_50.at 7 rfl) rfl ?_
        refine r_iconst (dt_law_50.at 8 rfl) 3 (by decide) ?_
        refine r_iadd (dt_law_50.at 9 rfl) ?_
        refine r_scI (dt_law_50.at 10 rfl) (fun x415 => ?_)
        refine r_aload_s (dt_law_50.at 11 rfl) rfl (by decide) ?_
        refine r_iload_n (dt_law_50.at 12 rfl) rfl ?_
        refine r_iconst (dt_law_50.at 13 rfl) 4 (by decide) ?_
        refine r_iadd (dt_law_50.at 14 rfl) ?_
        refine r_scI (dt_law_50.at 15 rfl) (fun x416 => ?_)
        refine r_cvI (c := 9) (rest := [.int r412]) (ct_Md_flux v2 x413 x414 x415 x416 _) (dt_law_50.at 16 rfl) mb_Md_flux wd_1709 wd_1710 wd_1711 rfl (by decide) rfl rfl (Nat.le_of_ble_eq_true rfl) (fun r418 M417 => ?_)
        refine r_icmp_eq (tgt := 2079) (dt_law_50.at 17 rfl) (by decide) ?_ ?_
        · refine r_iincn (v := 6) (dt_law_60.at 13 rfl) (by decide) rfl (by decide) (fun y => [.retAddr 1, .ref v1, .ref v2, .int y]) (fun _ => rfl) (fun x419 => ?_)
          refine r_goto (tgt := 18) (dt_law_60.at 14 rfl) (by decide) ?_
          exact Rf.msk [true, true, true, true] (ih v1 v2 x419 M417)
        · refine r_iconst (dt_law_50.at 18 rfl) 0 (by decide) ?_
          exact r_zret (dt_law_50.at 19 rfl) rfl rfl
      refine Rf.ite (fun h45 => ?_) (fun h45 => ?_)
      · refine r_tsIn (tgt := 1782) (dt_law_0.at 21 rfl) (by rw [h45]; decide) (by rw [h45]; decide) (by rw [h45]; rfl) (by decide) ?_
        refine r_aload_n (dt_law_50.at 20 rfl) rfl ?_
        refine r_aload_s (dt_law_50.at 21 rfl) rfl (by decide) ?_
        refine r_iload_n (dt_law_50.at 22 rfl) rfl ?_
        refine r_iconst (dt_law_50.at 23 rfl) 1 (by decide) ?_
        refine r_iadd (dt_law_50.at 24 rfl) ?_
        refine r_scI (dt_law_51.at 0 rfl) (fun x420 => ?_)
        refine r_aload_s (dt_law_51.at 1 rfl) rfl (by decide) ?_
        refine r_iload_n (dt_law_51.at 2 rfl) rfl ?_
        refine r_iconst (dt_law_51.at 3 rfl) 2 (by decide) ?_
        refine r_iadd (dt_law_51.at 4 rfl) ?_
        refine r_scI (dt_law_51.at 5 rfl) (fun x421 => ?_)
        refine r_aload_s (dt_law_51.at 6 rfl) rfl (by decide) ?_
        refine r_iload_n (dt_law_51.at 7 rfl) rfl ?_
        refine r_iconst (dt_law_51.at 8 rfl) 3 (by decide) ?_
        refine r_iadd (dt_law_51.at 9 rfl) ?_
        refine r_scI (dt_law_51.at 10 rfl) (fun x422 => ?_)
        refine r_cvI (c := 8) (rest := []) (ct_NS_sets v1 x420 x421 x422 _) (dt_law_51.at 11 rfl) mb_NS_sets wd_562 wd_563 wd_564 rfl (by decide) rfl rfl (Nat.le_of_ble_eq_true rfl) (fun r424 M423 => ?_)
        refine r_aload_n (dt_law_51.at 12 rfl) rfl ?_
        refine r_aload_s (dt_law_51.at 13 rfl) rfl (by decide) ?_
        refine r_iload_n (dt_law_51.at 14 rfl) rfl ?_
        refine r_iconst (dt_law_51.at 15 rfl) 1 (by decide) ?_
        refine r_iadd (dt_law_51.at 16 rfl) ?_
        refine r_scI (dt_law_51.at 17 rfl) (fun x425 => ?_)
        refine r_aload_s (dt_law_51.at 18 rfl) rfl (by decide) ?_
        refine r_iload_n (dt_law_51.at 19 rfl) rfl ?_
        refine r_iconst (dt_law_51.at 20 rfl) 2 (by decide) ?_
        refine r_iadd (dt_law_51.at 21 rfl) ?_
        refine r_scI (dt_law_51.at 22 rfl) (fun x426 => ?_)
        refine r_aload_s (dt_law_51.at 23 rfl) rfl (by decide) ?_
        refine r_iload_n (dt_law_51.at 24 rfl) rfl ?_
        refine r_iconst (dt_law_52.at 0 rfl) 3 (by decide) ?_
        refine r_iadd (dt_law_52.at 1 rfl) ?_
        refine r_scI (dt_law_52.at 2 rfl) (fun x427 => ?_)
        refine r_cvI (c := 9) (rest := [.int r424]) (ct_Md_sets v2 x425 x426 x427 _) (dt_law_52.at 3 rfl) mb_Md_sets wd_1416 wd_1417 wd_1418 rfl (by decide) rfl rfl (Nat.le_of_ble_eq_true rfl) (fun r429 M428 => ?_)
        refine r_icmp_eq (tgt := 2079) (dt_law_52.at 4 rfl) (by decide) ?_ ?_
        · refine r_iincn (v := 6) (dt_law_60.at 13 rfl) (by decide) rfl (by decide) (fun y => [.retAddr 1, .ref v1, .ref v2, .int y]) (fun _ => rfl) (fun x430 => ?_)
          refine r_goto (tgt := 18) (dt_law_60.at 14 rfl) (by decide) ?_
          exact Rf.msk [true, true, true, true] (ih v1 v2 x430 M428)
        · refine r_iconst (dt_law_52.at 5 rfl) 0 (by decide) ?_
          exact r_zret (dt_law_52.at 6 rfl) rfl rfl
      refine Rf.ite (fun h46 => ?_) (fun h46 => ?_)
      · refine r_tsIn (tgt := 1825) (dt_law_0.at 21 rfl) (by rw [h46]; decide) (by rw [h46]; decide) (by rw [h46]; rfl) (by decide) ?_
        refine r_aload_n (dt_law_52.at 7 rfl) rfl ?_
        refine r_cvI (c := 8) (rest := []) (ct_NS_undo v1 _) (dt_law_52.at 8 rfl) mb_NS_undo wd_571 wd_572 wd_573 rfl (by decide) rfl rfl (Nat.le_of_ble_eq_true rfl) (fun r432 M431 => ?_)
        refine r_aload_n (dt_law_52.at 9 rfl) rfl ?_
        refine r_cvI (c := 9) (rest := [.int r432]) (ct_Md_undo v2 _) (dt_law_52.at 10 rfl) mb_Md_undo wd_1421 wd_1422 wd_1423 rfl (by decide) rfl rfl (Nat.le_of_ble_eq_true rfl) (fun r434 M433 => ?_)
        refine r_icmp_eq (tgt := 2079) (dt_law_52.at 11 rfl) (by decide) ?_ ?_
        · refine r_iincn (v := 6) (dt_law_60.at 13 rfl) (by decide) rfl (by decide) (fun y => [.retAddr 1, .ref v1, .ref v2, .int y]) (fun _ => rfl) (fun x435 => ?_)
          refine r_goto (tgt := 18) (dt_law_60.at 14 rfl) (by decide) ?_
          exact Rf.msk [true, true, true, true] (ih v1 v2 x435 M433)
        · refine r_iconst (dt_law_52.at 12 rfl) 0 (by decide) ?_
          exact r_zret (dt_law_52.at 13 rfl) rfl rfl
      refine Rf.ite (fun h47 => ?_) (fun h47 => ?_)
      · refine r_tsIn (tgt := 1838) (dt_law_0.at 21 rfl) (by rw [h47]; decide) (by rw [h47]; decide) (by rw [h47]; rfl) (by decide) ?_
        refine r_aload_n (dt_law_52.at 14 rfl) rfl ?_
        refine r_aload_s (dt_law_52.at 15 rfl) rfl (by decide) ?_
        refine r_iload_n (dt_law_52.at 16 rfl) rfl ?_
        refine r_iconst (dt_law_52.at 17 rfl) 1 (by decide) ?_
        refine r_iadd (dt_law_52.at 18 rfl) ?_
        refine r_scI (dt_law_52.at 19 rfl) (fun x436 => ?_)
        refine r_cvI (c := 8) (rest := []) (ct_NS_tell v1 x436 _) (dt_law_52.at 20 rfl) mb_NS_tell wd_833 wd_834 wd_835 rfl (by decide) rfl rfl (Nat.le_of_ble_eq_true rfl) (fun r438 M437 => ?_)
        refine r_aload_n (dt_law_52.at 21 rfl) rfl ?_
        refine r_aload_s (dt_law_52.at 22 rfl) rfl (by decide) ?_
        refine r_iload_n (dt_law_52.at 23 rfl) rfl ?_
        refine r_iconst (dt_law_52.at 24 rfl) 1 (by decide) ?_
        refine r_iadd (dt_law_53.at 0 rfl) ?_
        refine r_scI (dt_law_53.at 1 rfl) (fun x439 => ?_)
        refine r_cvI (c := 9) (rest := [.int r438]) (ct_Md_tell v2 x439 _) (dt_law_53.at 2 rfl) mb_Md_tell wd_1785 wd_1786 wd_1787 rfl (by decide) rfl rfl (Nat.le_of_ble_eq_true rfl) (fun r441 M440 => ?_)
        refine r_icmp_eq (tgt := 2079) (dt_law_53.at 3 rfl) (by decide) ?_ ?_
        · refine r_iincn (v := 6) (dt_law_60.at 13 rfl) (by decide) rfl (by decide) (fun y => [.retAddr 1, .ref v1, .ref v2, .int y]) (fun _ => rfl) (fun x442 => ?_)
          refine r_goto (tgt := 18) (dt_law_60.at 14 rfl) (by decide) ?_
          exact Rf.msk [true, true, true, true] (ih v1 v2 x442 M440)
        · refine r_iconst (dt_law_53.at 4 rfl) 0 (by decide) ?_
          exact r_zret (dt_law_53.at 5 rfl) rfl rfl
      refine Rf.ite (fun h48 => ?_) (fun h48 => ?_)
      · refine r_tsIn (tgt := 1861) (dt_law_0.at 21 rfl) (by rw [h48]; decide) (by rw [h48]; decide) (by rw [h48]; rfl) (by decide) ?_
        refine r_aload_n (dt_law_53.at 6 rfl) rfl ?_
        refine r_aload_s (dt_law_53.at 7 rfl) rfl (by decide) ?_
        refine r_iload_n (dt_law_53.at 8 rfl) rfl ?_
        refine r_iconst (dt_law_53.at 9 rfl) 1 (by decide) ?_
        refine r_iadd (dt_law_53.at 10 rfl) ?_
        refine r_scI (dt_law_53.at 11 rfl) (fun x443 => ?_)
        refine r_aload_s (dt_law_53.at 12 rfl) rfl (by decide) ?_
        refine r_iload_n (dt_law_53.at 13 rfl) rfl ?_
        refine r_iconst (dt_law_53.at 14 rfl) 2 (by decide) ?_
        refine r_iadd (dt_law_53.at 15 rfl) ?_
        refine r_scI (dt_law_53.at 16 rfl) (fun x444 => ?_)
        refine r_cvI (c := 8) (rest := []) (ct_NS_colours v1 x443 x444 _) (dt_law_53.at 17 rfl) mb_NS_colours wd_1114 wd_1115 wd_1116 rfl (by decide) rfl rfl (Nat.le_of_ble_eq_true rfl) (fun r446 M445 => ?_)
        refine r_aload_n (dt_law_53.at 18 rfl) rfl ?_
        refine r_aload_s (dt_law_53.at 19 rfl) rfl (by decide) ?_
        refine r_iload_n (dt_law_53.at 20 rfl) rfl ?_
        refine r_iconst (dt_law_53.at 21 rfl) 1 (by decide) ?_
        refine r_iadd (dt_law_53.at 22 rfl) ?_
        refine r_scI (dt_law_53.at 23 rfl) (fun x447 => ?_)
        refine r_aload_s (dt_law_53.at 24 rfl) rfl (by decide) ?_
        refine r_iload_n (dt_law_54.at 0 rfl) rfl ?_
        refine r_iconst (dt_law_54.at 1 rfl) 2 (by decide) ?_
        refine r_iadd (dt_law_54.at 2 rfl) ?_
        refine r_scI (dt_law_54.at 3 rfl) (fun x448 => ?_)
        refine r_cvI (c := 9) (rest := [.int r446]) (ct_Md_colours v2 x447 x448 _) (dt_law_54.at 4 rfl) mb_Md_colours wd_1713 wd_1714 wd_1715 rfl (by decide) rfl rfl (Nat.le_of_ble_eq_true rfl) (fun r450 M449 => ?_)
        refine r_icmp_eq (tgt := 2079) (dt_law_54.at 5 rfl) (by decide) ?_ ?_
        · refine r_iincn (v := 6) (dt_law_60.at 13 rfl) (by decide) rfl (by decide) (fun y => [.retAddr 1, .ref v1, .ref v2, .int y]) (fun _ => rfl) (fun x451 => ?_)
          refine r_goto (tgt := 18) (dt_law_60.at 14 rfl) (by decide) ?_
          exact Rf.msk [true, true, true, true] (ih v1 v2 x451 M449)
        · refine r_iconst (dt_law_54.at 6 rfl) 0 (by decide) ?_
          exact r_zret (dt_law_54.at 7 rfl) rfl rfl
      refine Rf.ite (fun h49 => ?_) (fun h49 => ?_)
      · refine r_tsIn (tgt := 1894) (dt_law_0.at 21 rfl) (by rw [h49]; decide) (by rw [h49]; decide) (by rw [h49]; rfl) (by decide) ?_
        refine r_aload_n (dt_law_54.at 8 rfl) rfl ?_
        refine r_aload_s (dt_law_54.at 9 rfl) rfl (by decide) ?_
        refine r_iload_n (dt_law_54.at 10 rfl) rfl ?_
        refine r_iconst (dt_law_54.at 11 rfl) 1 (by decide) ?_
        refine r_iadd (dt_law_54.at 12 rfl) ?_
        refine r_scI (dt_law_54.at 13 rfl) (fun x452 => ?_)
        refine r_cvI (c := 8) (rest := []) (ct_NS_columns v1 x452 _) (dt_law_54.at 14 rfl) mb_NS_columns wd_1052 wd_1053 wd_1054 rfl (by decide) rfl rfl (Nat.le_of_ble_eq_true rfl) (fun r454 M453 => ?_)
        refine r_aload_n (dt_law_54.at 15 rfl) rfl ?_
        refine r_aload_s (dt_law_54.at 16 rfl) rfl (by decide) ?_
        refine r_iload_n (dt_law_54.at 17 rfl) rfl ?_
        refine r_iconst (dt_law_54.at 18 rfl) 1 (by decide) ?_
        refine r_iadd (dt_law_54.at 19 rfl) ?_
        refine r_scI (dt_law_54.at 20 rfl) (fun x455 => ?_)
        refine r_cvI (c := 9) (rest := [.int r454]) (ct_Md_columns v2 x455 _) (dt_law_54.at 21 rfl) mb_Md_columns wd_1717 wd_1718 wd_1719 rfl (by decide) rfl rfl (Nat.le_of_ble_eq_true rfl) (fun r457 M456 => ?_)
        refine r_icmp_eq (tgt := 2079) (dt_law_54.at 22 rfl) (by decide) ?_ ?_
        · refine r_iincn (v := 6) (dt_law_60.at 13 rfl) (by decide) rfl (by decide) (fun y => [.retAddr 1, .ref v1, .ref v2, .int y]) (fun _ => rfl) (fun x458 => ?_)
          refine r_goto (tgt := 18) (dt_law_60.at 14 rfl) (by decide) ?_
          exact Rf.msk [true, true, true, true] (ih v1 v2 x458 M456)
        · refine r_iconst (dt_law_54.at 23 rfl) 0 (by decide) ?_
          exact r_zret (dt_law_54.at 24 rfl) rfl rfl
      refine Rf.ite (fun h50 => ?_) (fun h50 => ?_)
      · refine r_tsIn (tgt := 1917) (dt_law_0.at 21 rfl) (by rw [h50]; decide) (by rw [h50]; decide) (by rw [h50]; rfl) (by decide) ?_
        refine r_aload_n (dt_law_55.at 0 rfl) rfl ?_
        refine r_aload_s (dt_law_55.at 1 rfl) rfl (by decide) ?_
        refine r_iload_n (dt_law_55.at 2 rfl) rfl ?_
        refine r_iconst (dt_law_55.at 3 rfl) 1 (by decide) ?_
        refine r_iadd (dt_law_55.at 4 rfl) ?_
        refine r_scI (dt_law_55.at 5 rfl) (fun x459 => ?_)
        refine r_aload_s (dt_law_55.at 6 rfl) rfl (by decide) ?_
        refine r_iload_n (dt_law_55.at 7 rfl) rfl ?_
        refine r_iconst (dt_law_55.at 8 rfl) 2 (by decide) ?_
        refine r_iadd (dt_law_55.at 9 rfl) ?_
        refine r_scI (dt_law_55.at 10 rfl) (fun x460 => ?_)
        refine r_aload_s (dt_law_55.at 11 rfl) rfl (by decide) ?_
        refine r_iload_n (dt_law_55.at 12 rfl) rfl ?_
        refine r_iconst (dt_law_55.at 13 rfl) 3 (by decide) ?_
        refine r_iadd (dt_law_55.at 14 rfl) ?_
        refine r_scI (dt_law_55.at 15 rfl) (fun x461 => ?_)
        refine r_aload_s (dt_law_55.at 16 rfl) rfl (by decide) ?_
        refine r_iload_n (dt_law_55.at 17 rfl) rfl ?_
        refine r_iconst (dt_law_55.at 18 rfl) 4 (by decide) ?_
        refine r_iadd (dt_law_55.at 19 rfl) ?_
        refine r_scI (dt_law_55.at 20 rfl) (fun x462 => ?_)
        refine r_cvI (c := 8) (rest := []) (ct_NS_below v1 x459 x460 x461 x462 _) (dt_law_55.at 21 rfl) mb_NS_below wd_1033 wd_1034 wd_1035 rfl (by decide) rfl rfl (Nat.le_of_ble_eq_true rfl) (fun r464 M463 => ?_)
        refine r_aload_n (dt_law_55.at 22 rfl) rfl ?_
        refine r_aload_s (dt_law_55.at 23 rfl) rfl (by decide) ?_
        refine r_iload_n (dt_law_55.at 24 rfl) rfl ?_
        refine r_iconst (dt_law_56.at 0 rfl) 1 (by decide) ?_
        refine r_iadd (dt_law_56.at 1 rfl) ?_
        refine r_scI (dt_law_56.at 2 rfl) (fun x465 => ?_)
        refine r_aload_s (dt_law_56.at 3 rfl) rfl (by decide) ?_
        refine r_iload_n (dt_law_56.at 4 rfl) rfl ?_
        refine r_iconst (dt_law_56.at 5 rfl) 2 (by decide) ?_
        refine r_iadd (dt_law_56.at 6 rfl) ?_
        refine r_scI (dt_law_56.at 7 rfl) (fun x466 => ?_)
        refine r_aload_s (dt_law_56.at 8 rfl) rfl (by decide) ?_
        refine r_iload_n (dt_law_56.at 9 rfl) rfl ?_
        refine r_iconst (dt_law_56.at 10 rfl) 3 (by decide) ?_
        refine r_iadd (dt_law_56.at 11 rfl) ?_
        refine r_scI (dt_law_56.at 12 rfl) (fun x467 => ?_)
        refine r_aload_s (dt_law_56.at 13 rfl) rfl (by decide) ?_
        refine r_iload_n (dt_law_56.at 14 rfl) rfl ?_
        refine r_iconst (dt_law_56.at 15 rfl) 4 (by decide) ?_
        refine r_iadd (dt_law_56.at 16 rfl) ?_
        refine r_scI (dt_law_56.at 17 rfl) (fun x468 => ?_)
        refine r_cvI (c := 9) (rest := [.int r464]) (ct_Md_below v2 x465 x466 x467 x468 _) (dt_law_56.at 18 rfl) mb_Md_below wd_1721 wd_1722 wd_1723 rfl (by decide) rfl rfl (Nat.le_of_ble_eq_true rfl) (fun r470 M469 => ?_)
        refine r_icmp_eq (tgt := 2079) (dt_law_56.at 19 rfl) (by decide) ?_ ?_
        · refine r_iincn (v := 6) (dt_law_60.at 13 rfl) (by decide) rfl (by decide) (fun y => [.retAddr 1, .ref v1, .ref v2, .int y]) (fun _ => rfl) (fun x471 => ?_)
          refine r_goto (tgt := 18) (dt_law_60.at 14 rfl) (by decide) ?_
          exact Rf.msk [true, true, true, true] (ih v1 v2 x471 M469)
        · refine r_iconst (dt_law_56.at 20 rfl) 0 (by decide) ?_
          exact r_zret (dt_law_56.at 21 rfl) rfl rfl
      refine Rf.ite (fun h51 => ?_) (fun h51 => ?_)
      · refine r_tsIn (tgt := 1970) (dt_law_0.at 21 rfl) (by rw [h51]; decide) (by rw [h51]; decide) (by rw [h51]; rfl) (by decide) ?_
        refine r_aload_n (dt_law_56.at 22 rfl) rfl ?_
        refine r_aload_s (dt_law_56.at 23 rfl) rfl (by decide) ?_
        refine r_iload_n (dt_law_56.at 24 rfl) rfl ?_
        refine r_iconst (dt_law_57.at 0 rfl) 1 (by decide) ?_
        refine r_iadd (dt_law_57.at 1 rfl) ?_
        refine r_scI (dt_law_57.at 2 rfl) (fun x472 => ?_)
        refine r_aload_s (dt_law_57.at 3 rfl) rfl (by decide) ?_
        refine r_iload_n (dt_law_57.at 4 rfl) rfl ?_
        refine r_iconst (dt_law_57.at 5 rfl) 2 (by decide) ?_
        refine r_iadd (dt_law_57.at 6 rfl) ?_
        refine r_scI (dt_law_57.at 7 rfl) (fun x473 => ?_)
        refine r_cvI (c := 8) (rest := []) (ct_NS_next v1 x472 x473 _) (dt_law_57.at 8 rfl) mb_NS_next wd_889 wd_890 wd_891 rfl (by decide) rfl rfl (Nat.le_of_ble_eq_true rfl) (fun r475 M474 => ?_)
        refine r_aload_n (dt_law_57.at 9 rfl) rfl ?_
        refine r_aload_s (dt_law_57.at 10 rfl) rfl (by decide) ?_
        refine r_iload_n (dt_law_57.at 11 rfl) rfl ?_
        refine r_iconst (dt_law_57.at 12 rfl) 1 (by decide) ?_
        refine r_iadd (dt_law_57.at 13 rfl) ?_
        refine r_scI (dt_law_57.at 14 rfl) (fun x476 => ?_)
        refine r_aload_s (dt_law_57.at 15 rfl) rfl (by decide) ?_
        refine r_iload_n (dt_law_57.at 16 rfl) rfl ?_
        refine r_iconst (dt_law_57.at 17 rfl) 2 (by decide) ?_
        refine r_iadd (dt_law_57.at 18 rfl) ?_
        refine r_scI (dt_law_57.at 19 rfl) (fun x477 => ?_)
        refine r_cvI (c := 9) (rest := [.int r475]) (ct_Md_next v2 x476 x477 _) (dt_law_57.at 20 rfl) mb_Md_next wd_1765 wd_1766 wd_1767 rfl (by decide) rfl rfl (Nat.le_of_ble_eq_true rfl) (fun r479 M478 => ?_)
        refine r_icmp_eq (tgt := 2079) (dt_law_57.at 21 rfl) (by decide) ?_ ?_
        · refine r_iincn (v := 6) (dt_law_60.at 13 rfl) (by decide) rfl (by decide) (fun y => [.retAddr 1, .ref v1, .ref v2, .int y]) (fun _ => rfl) (fun x480 => ?_)
          refine r_goto (tgt := 18) (dt_law_60.at 14 rfl) (by decide) ?_
          exact Rf.msk [true, true, true, true] (ih v1 v2 x480 M478)
        · refine r_iconst (dt_law_57.at 22 rfl) 0 (by decide) ?_
          exact r_zret (dt_law_57.at 23 rfl) rfl rfl
      refine Rf.ite (fun h52 => ?_) (fun h52 => ?_)
      · refine r_tsIn (tgt := 2003) (dt_law_0.at 21 rfl) (by rw [h52]; decide) (by rw [h52]; decide) (by rw [h52]; rfl) (by decide) ?_
        refine r_aload_n (dt_law_57.at 24 rfl) rfl ?_
        refine r_aload_s (dt_law_58.at 0 rfl) rfl (by decide) ?_
        refine r_iload_n (dt_law_58.at 1 rfl) rfl ?_
        refine r_iconst (dt_law_58.at 2 rfl) 1 (by decide) ?_
        refine r_iadd (dt_law_58.at 3 rfl) ?_
        refine r_scI (dt_law_58.at 4 rfl) (fun x481 => ?_)
        refine r_aload_s (dt_law_58.at 5 rfl) rfl (by decide) ?_
        refine r_iload_n (dt_law_58.at 6 rfl) rfl ?_
        refine r_iconst (dt_law_58.at 7 rfl) 2 (by decide) ?_
        refine r_iadd (dt_law_58.at 8 rfl) ?_
        refine r_scI (dt_law_58.at 9 rfl) (fun x482 => ?_)
        refine r_aload_s (dt_law_58.at 10 rfl) rfl (by decide) ?_
        refine r_iload_n (dt_law_58.at 11 rfl) rfl ?_
        refine r_iconst (dt_law_58.at 12 rfl) 3 (by decide) ?_
        refine r_iadd (dt_law_58.at 13 rfl) ?_
        refine r_scI (dt_law_58.at 14 rfl) (fun x483 => ?_)
        refine r_aload_s (dt_law_58.at 15 rfl) rfl (by decide) ?_
        refine r_iload_n (dt_law_58.at 16 rfl) rfl ?_
        refine r_iconst (dt_law_58.at 17 rfl) 4 (by decide) ?_
        refine r_iadd (dt_law_58.at 18 rfl) ?_
        refine r_scI (dt_law_58.at 19 rfl) (fun x484 => ?_)
        refine r_cvI (c := 8) (rest := []) (ct_NS_lull v1 x481 x482 x483 x484 _) (dt_law_58.at 20 rfl) mb_NS_lull wd_894 wd_895 wd_896 rfl (by decide) rfl rfl (Nat.le_of_ble_eq_true rfl) (fun r486 M485 => ?_)
        refine r_aload_n (dt_law_58.at 21 rfl) rfl ?_
        refine r_aload_s (dt_law_58.at 22 rfl) rfl (by decide) ?_
        refine r_iload_n (dt_law_58.at 23 rfl) rfl ?_
        refine r_iconst (dt_law_58.at 24 rfl) 1 (by decide) ?_
        refine r_iadd (dt_law_59.at 0 rfl) ?_
        refine r_scI (dt_law_59.at 1 rfl) (fun x487 => ?_)
        refine r_aload_s (dt_law_59.at 2 rfl) rfl (by decide) ?_
        refine r_iload_n (dt_law_59.at 3 rfl) rfl ?_
        refine r_iconst (dt_law_59.at 4 rfl) 2 (by decide) ?_
        refine r_iadd (dt_law_59.at 5 rfl) ?_
        refine r_scI (dt_law_59.at 6 rfl) (fun x488 => ?_)
        refine r_aload_s (dt_law_59.at 7 rfl) rfl (by decide) ?_
        refine r_iload_n (dt_law_59.at 8 rfl) rfl ?_
        refine r_iconst (dt_law_59.at 9 rfl) 3 (by decide) ?_
        refine r_iadd (dt_law_59.at 10 rfl) ?_
        refine r_scI (dt_law_59.at 11 rfl) (fun x489 => ?_)
        refine r_aload_s (dt_law_59.at 12 rfl) rfl (by decide) ?_
        refine r_iload_n (dt_law_59.at 13 rfl) rfl ?_
        refine r_iconst (dt_law_59.at 14 rfl) 4 (by decide) ?_
        refine r_iadd (dt_law_59.at 15 rfl) ?_
        refine r_scI (dt_law_59.at 16 rfl) (fun x490 => ?_)
        refine r_cvI (c := 9) (rest := [.int r486]) (ct_Md_lull v2 x487 x488 x489 x490 _) (dt_law_59.at 17 rfl) mb_Md_lull wd_1769 wd_1770 wd_1771 rfl (by decide) rfl rfl (Nat.le_of_ble_eq_true rfl) (fun r492 M491 => ?_)
        refine r_icmp_eq (tgt := 2079) (dt_law_59.at 18 rfl) (by decide) ?_ ?_
        · refine r_iincn (v := 6) (dt_law_60.at 13 rfl) (by decide) rfl (by decide) (fun y => [.retAddr 1, .ref v1, .ref v2, .int y]) (fun _ => rfl) (fun x493 => ?_)
          refine r_goto (tgt := 18) (dt_law_60.at 14 rfl) (by decide) ?_
          exact Rf.msk [true, true, true, true] (ih v1 v2 x493 M491)
        · refine r_iconst (dt_law_59.at 19 rfl) 0 (by decide) ?_
          exact r_zret (dt_law_59.at 20 rfl) rfl rfl
      refine Rf.ite (fun h53 => ?_) (fun h53 => ?_)
      · refine r_tsIn (tgt := 2056) (dt_law_0.at 21 rfl) (by rw [h53]; decide) (by rw [h53]; decide) (by rw [h53]; rfl) (by decide) ?_
        refine r_aload_n (dt_law_59.at 21 rfl) rfl ?_
        refine r_aload_s (dt_law_59.at 22 rfl) rfl (by decide) ?_
        refine r_iload_n (dt_law_59.at 23 rfl) rfl ?_
        refine r_iconst (dt_law_59.at 24 rfl) 1 (by decide) ?_
        refine r_iadd (dt_law_60.at 0 rfl) ?_
        refine r_scI (dt_law_60.at 1 rfl) (fun x494 => ?_)
        refine r_cvI (c := 8) (rest := []) (ct_NS_twins v1 x494 _) (dt_law_60.at 2 rfl) mb_NS_twins wd_1118 wd_1119 wd_1120 rfl (by decide) rfl rfl (Nat.le_of_ble_eq_true rfl) (fun r496 M495 => ?_)
        refine r_aload_n (dt_law_60.at 3 rfl) rfl ?_
        refine r_aload_s (dt_law_60.at 4 rfl) rfl (by decide) ?_
        refine r_iload_n (dt_law_60.at 5 rfl) rfl ?_
        refine r_iconst (dt_law_60.at 6 rfl) 1 (by decide) ?_
        refine r_iadd (dt_law_60.at 7 rfl) ?_
        refine r_scI (dt_law_60.at 8 rfl) (fun x497 => ?_)
        refine r_cvI (c := 9) (rest := [.int r496]) (ct_Md_twins v2 x497 _) (dt_law_60.at 9 rfl) mb_Md_twins wd_1725 wd_1726 wd_1727 rfl (by decide) rfl rfl (Nat.le_of_ble_eq_true rfl) (fun r499 M498 => ?_)
        refine r_icmp_eq (tgt := 2079) (dt_law_60.at 10 rfl) (by decide) ?_ ?_
        · refine r_iincn (v := 6) (dt_law_60.at 13 rfl) (by decide) rfl (by decide) (fun y => [.retAddr 1, .ref v1, .ref v2, .int y]) (fun _ => rfl) (fun x500 => ?_)
          refine r_goto (tgt := 18) (dt_law_60.at 14 rfl) (by decide) ?_
          exact Rf.msk [true, true, true, true] (ih v1 v2 x500 M498)
        · refine r_iconst (dt_law_60.at 11 rfl) 0 (by decide) ?_
          exact r_zret (dt_law_60.at 12 rfl) rfl rfl
      refine r_tsOut (tgt := 2079) (dt_law_0.at 21 rfl) (swo (fun k hk => by match k, hk with | 0, _ => exact h0 | 1, _ => exact h1 | 2, _ => exact h2 | 3, _ => exact h3 | 4, _ => exact h4 | 5, _ => exact h5 | 6, _ => exact h6 | 7, _ => exact h7 | 8, _ => exact h8 | 9, _ => exact h9 | 10, _ => exact h10 | 11, _ => exact h11 | 12, _ => exact h12 | 13, _ => exact h13 | 14, _ => exact h14 | 15, _ => exact h15 | 16, _ => exact h16 | 17, _ => exact h17 | 18, _ => exact h18 | 19, _ => exact h19 | 20, _ => exact h20 | 21, _ => exact h21 | 22, _ => exact h22 | 23, _ => exact h23 | 24, _ => exact h24 | 25, _ => exact h25 | 26, _ => exact h26 | 27, _ => exact h27 | 28, _ => exact h28 | 29, _ => exact h29 | 30, _ => exact h30 | 31, _ => exact h31 | 32, _ => exact h32 | 33, _ => exact h33 | 34, _ => exact h34 | 35, _ => exact h35 | 36, _ => exact h36 | 37, _ => exact h37 | 38, _ => exact h38 | 39, _ => exact h39 | 40, _ => exact h40 | 41, _ => exact h41 | 42, _ => exact h42 | 43, _ => exact h43 | 44, _ => exact h44 | 45, _ => exact h45 | 46, _ => exact h46 | 47, _ => exact h47 | 48, _ => exact h48 | 49, _ => exact h49 | 50, _ => exact h50 | 51, _ => exact h51 | 52, _ => exact h52 | 53, _ => exact h53 | k + 54, h => exact absurd h (by omega))) (by decide) ?_
      refine r_iincn (v := 6) (dt_law_60.at 13 rfl) (by decide) rfl (by decide) (fun y => [.retAddr 1, .ref v1, .ref v2, .int y]) (fun _ => rfl) (fun x501 => ?_)
      refine r_goto (tgt := 18) (dt_law_60.at 14 rfl) (by decide) ?_
      exact Rf.msk [true, true, true, true] (ih v1 v2 x501 M)
set_option maxRecDepth 100000 in
set_option maxHeartbeats 8000000 in
theorem rf_law {G : am_G} {l : Launch} (M : am_M) : Rf G l X_law 0 [.retAddr 1, .retAddr 0, .retAddr 0, .retAddr 0] [] M (F_law (gL G) (gX G) M) := by
  unfold F_law
  refine r_nO am_c8 (dt_law_0.at 0 rfl) wd_18 wd_19 wd_1 (fun b1 M2 => ?_)
  refine r_dup (dt_law_0.at 1 rfl) rfl ?_
  refine r_ciV (rest := [.ref b1]) (ct_NS_init b1 _) (dt_law_0.at 2 rfl) mb_NS_init rfl rfl wd_20 wd_21 (by decide) rfl rfl (Nat.le_of_ble_eq_true rfl) (fun M3 => ?_)
  refine r_astore_n (ls' := [.retAddr 1, .ref b1, .retAddr 0, .retAddr 0]) (dt_law_0.at 3 rfl) (by decide) rfl ?_
  refine r_nO am_c9 (dt_law_0.at 4 rfl) wd_1143 wd_1144 wd_10 (fun b4 M5 => ?_)
  refine r_dup (dt_law_0.at 5 rfl) rfl ?_
  refine r_ciV (rest := [.ref b4]) (ct_Md_init b4 _) (dt_law_0.at 6 rfl) mb_Md_init rfl rfl wd_1145 wd_1146 (by decide) rfl rfl (Nat.le_of_ble_eq_true rfl) (fun M6 => ?_)
  refine r_astore_n (ls' := [.retAddr 1, .ref b1, .ref b4, .retAddr 0]) (dt_law_0.at 7 rfl) (by decide) rfl ?_
  refine r_iconst (dt_law_0.at 8 rfl) 0 (by decide) ?_
  refine r_istore_n (ls' := [.retAddr 1, .ref b1, .ref b4, .int 0]) (dt_law_0.at 9 rfl) (by decide) rfl ?_
  exact Rf.msk [true, true, true, true] (rf_law_L18 fu b1 b4 0 M6)
