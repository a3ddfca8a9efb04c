/-! ===== the methods as functions (printed by wip/whole/emit.py) ===== -/
noncomputable def F_Scen_init (a0 : Nat) (M : am_M) : am_R :=
  nA M 0 3 (fun b1 M2 => sR M2 a0 9 0 b1 (fun M3 => nA M3 0 40 (fun b4 M5 => sR M5 a0 9 1 b4 (fun M6 => nA M6 0 40 (fun b7 M8 => sR M8 a0 9 2 b7 (fun M9 => some (none, M9)))))))
noncomputable def F_Read_init (a0 : Nat) (M : am_M) : am_R :=
  nO M 9 8 (fun b1 M2 => bV (F_Scen_init b1 M2) (fun M3 => sR M3 a0 8 0 b1 (fun M4 => sI M4 a0 8 2 (-1) (fun M5 => nA M5 0 0 (fun b6 M7 => sR M7 a0 8 3 b6 (fun M8 => some (none, M8)))))))
noncomputable def F_Hist_init (a0 : Nat) (M : am_M) : am_R :=
  nA M 0 10 (fun b1 M2 => sR M2 a0 6 0 b1 (fun M3 => nA M3 0 10 (fun b4 M5 => sR M5 a0 6 1 b4 (fun M6 => nA M6 0 10 (fun b7 M8 => sR M8 a0 6 2 b7 (fun M9 => some (none, M9)))))))
noncomputable def F_Outp_init (a0 : Nat) (M : am_M) : am_R :=
  nA M 0 1640 (fun b1 M2 => sR M2 a0 7 0 b1 (fun M3 => some (none, M3)))
noncomputable def F_Sprk_init (a0 : Nat) (p1 : Nat) (M : am_M) : am_R :=
  nA M 0 3 (fun b1 M2 => sR M2 a0 10 1 b1 (fun M3 => nA M3 0 3 (fun b4 M5 => sR M5 a0 10 2 b4 (fun M6 => sR M6 a0 10 0 p1 (fun M7 => some (none, M7))))))
noncomputable def F_Walk_init_L50  : Nat → Nat → Nat → Int32 → am_M → am_R
  | 0, _, _, _, _ => none
  | n + 1, v0, v1, v2, M =>
    if 7 ≤ v2 then (some (none, M)) else (fR M v0 11 1 (fun b17 => nO M 10 10 (fun b18 M19 => bV (F_Sprk_init b18 v1 M19) (fun M20 => tR M20 b17 v2 10 b18 (fun M21 => nm (v2 + 1) (fun x22 => F_Walk_init_L50 n v0 v1 x22 M21))))))
noncomputable def F_Walk_init (a0 : Nat) (p1 : Nat) (M : am_M) : am_R :=
  nA M 3 7 (fun b1 M2 => sR M2 a0 11 1 b1 (fun M3 => nA M3 0 7 (fun b4 M5 => sR M5 a0 11 2 b4 (fun M6 => nA M6 0 4 (fun b7 M8 => sR M8 a0 11 3 b7 (fun M9 => nA M9 0 4 (fun b10 M11 => sR M11 a0 11 4 b10 (fun M12 => nA M12 0 15 (fun b13 M14 => sR M14 a0 11 5 b13 (fun M15 => sR M15 a0 11 0 p1 (fun M16 => F_Walk_init_L50 fu a0 p1 0 M16)))))))))))
noncomputable def F_Fram_init (a0 : Nat) (p1 : Nat) (p2 : Nat) (M : am_M) : am_R :=
  nA M 0 112 (fun b1 M2 => sR M2 a0 5 3 b1 (fun M3 => nA M3 0 16 (fun b4 M5 => sR M5 a0 5 4 b4 (fun M6 => nA M6 0 320 (fun b7 M8 => sR M8 a0 5 5 b7 (fun M9 => sI M9 a0 5 6 (-1) (fun M10 => sR M10 a0 5 0 p1 (fun M11 => sR M11 a0 5 1 p2 (fun M12 => some (none, M12))))))))))
noncomputable def F_Find_init (a0 : Nat) (p1 : Nat) (M : am_M) : am_R :=
  sR M a0 4 0 p1 (fun M1 => nO M1 10 10 (fun b2 M3 => bV (F_Sprk_init b2 p1 M3) (fun M4 => sR M4 a0 4 1 b2 (fun M5 => nO M5 10 10 (fun b6 M7 => bV (F_Sprk_init b6 p1 M7) (fun M8 => sR M8 a0 4 2 b6 (fun M9 => nO M9 10 10 (fun b10 M11 => bV (F_Sprk_init b10 p1 M11) (fun M12 => sR M12 a0 4 3 b10 (fun M13 => some (none, M13)))))))))))
noncomputable def F_NS_init (a0 : Nat) (M : am_M) : am_R :=
  nA M 0 500 (fun b1 M2 => sR M2 a0 12 0 b1 (fun M3 => nO M3 9 8 (fun b4 M5 => bV (F_Scen_init b4 M5) (fun M6 => sR M6 a0 12 2 b4 (fun M7 => nO M7 8 9 (fun b8 M9 => bV (F_Read_init b8 M9) (fun M10 => sR M10 a0 12 3 b8 (fun M11 => nO M11 6 4 (fun b12 M13 => bV (F_Hist_init b12 M13) (fun M14 => sR M14 a0 12 4 b12 (fun M15 => nO M15 7 2 (fun b16 M17 => bV (F_Outp_init b16 M17) (fun M18 => sR M18 a0 12 5 b16 (fun M19 => nO M19 11 9 (fun b20 M21 => fR M21 a0 12 2 (fun b22 => bV (F_Walk_init b20 b22 M21) (fun M23 => sR M23 a0 12 6 b20 (fun M24 => nO M24 5 7 (fun b25 M26 => fR M26 a0 12 2 (fun b27 => fR M26 a0 12 6 (fun b28 => bV (F_Fram_init b25 b27 b28 M26) (fun M29 => sR M29 a0 12 7 b25 (fun M30 => nO M30 4 4 (fun b31 M32 => fR M32 a0 12 2 (fun b33 => bV (F_Find_init b31 b33 M32) (fun M34 => sR M34 a0 12 8 b31 (fun M35 => nO M35 4 4 (fun b36 M37 => fR M37 a0 12 2 (fun b38 => bV (F_Find_init b36 b38 M37) (fun M39 => sR M39 a0 12 9 b36 (fun M40 => nA M40 0 2000 (fun b41 M42 => sR M42 a0 12 10 b41 (fun M43 => some (none, M43))))))))))))))))))))))))))))))))))
noncomputable def F_NS_putOnTape_L3  : Nat → Nat → Int32 → Int32 → am_M → am_R
  | 0, _, _, _, _ => none
  | n + 1, v0, v1, v2, M =>
    if v2 < 0 then (some (none, M)) else (fI M v0 12 1 (fun x1 => if x1 < 0 then (nm (v2 + (-8)) (fun x2 => F_NS_putOnTape_L3 n v0 v1 x2 M)) else (fI M v0 12 1 (fun x3 => fR M v0 12 0 (fun b4 => aN M b4 (fun x5 => if x5 ≤ x3 then (nm (v2 + (-8)) (fun x6 => F_NS_putOnTape_L3 n v0 v1 x6 M)) else (fR M v0 12 0 (fun b7 => fI M v0 12 1 (fun x8 => tI M b7 x8 (((v1.toUInt32 >>> (v2.toUInt32 &&& Int32.toUInt32 31)).toInt32) &&& 255) (fun M9 => fI M9 v0 12 1 (fun x10 => sI M9 v0 12 1 (x10 + 1) (fun M11 => nm (v2 + (-8)) (fun x12 => F_NS_putOnTape_L3 n v0 v1 x12 M11)))))))))))))
noncomputable def F_NS_putOnTape (a0 : Nat) (p1 : Int32) (M : am_M) : am_R :=
  F_NS_putOnTape_L3 fu a0 p1 24 M
noncomputable def F_NS_feed (a0 : Nat) (p1 : Int32) (p2 : Int32) (p3 : Int32) (p4 : Int32) (p5 : Int32) (M : am_M) : am_R :=
  fI M a0 12 1 (fun x1 => if (x1 + 20) ≤ 500 then (cv M a0 12 ( bV (F_NS_putOnTape a0 p1 M) (fun M2 => cv M2 a0 12 ( bV (F_NS_putOnTape a0 p2 M2) (fun M3 => cv M3 a0 12 ( bV (F_NS_putOnTape a0 p3 M3) (fun M4 => cv M4 a0 12 ( bV (F_NS_putOnTape a0 p4 M4) (fun M5 => cv M5 a0 12 ( bV (F_NS_putOnTape a0 p5 M5) (fun M6 => fI M6 a0 12 1 (fun x7 => some (some (.int x7), M6))))))))))))) else (some (some (.int (-1)), M)))
noncomputable def F_NS_end (a0 : Nat) (p1 : Int32) (M : am_M) : am_R :=
  if p1 < 0 then (some (some (.int (-1)), M)) else (fI M a0 12 1 (fun x1 => if p1 ≤ x1 then (sI M a0 12 1 p1 (fun M2 => some (some (.int p1), M2))) else (some (some (.int (-1)), M))))
noncomputable def F_Math_min (p1 : Int32) (p2 : Int32) (M : am_M) : am_R :=
  if p2 < p1 then (some (some (.int p2), M)) else (some (some (.int p1), M))
noncomputable def F_Arr_fill_L5  : Nat → Nat → Int32 → Int32 → Int32 → am_M → am_R
  | 0, _, _, _, _, _ => none
  | n + 1, v0, v1, v2, v3, M =>
    if v3 ≤ v2 then (some (none, M)) else (tI M v0 v2 v1 (fun M2 => nm (v2 + 1) (fun x3 => F_Arr_fill_L5 n v0 v1 x3 v3 M2)))
noncomputable def F_Arr_fill (p1 : Nat) (p2 : Int32) (M : am_M) : am_R :=
  aN M p1 (fun x1 => F_Arr_fill_L5 fu p1 p2 0 x1 M)
noncomputable def F_Scen_clear (a0 : Nat) (M : am_M) : am_R :=
  fR M a0 9 0 (fun b1 => bV (F_Arr_fill b1 0 M) (fun M2 => fR M2 a0 9 1 (fun b3 => bV (F_Arr_fill b3 0 M2) (fun M4 => fR M4 a0 9 2 (fun b5 => bV (F_Arr_fill b5 0 M4) (fun M6 => sI M6 a0 9 3 0 (fun M7 => sI M7 a0 9 4 0 (fun M8 => sI M8 a0 9 5 0 (fun M9 => sI M9 a0 9 6 0 (fun M10 => some (none, M10)))))))))))
noncomputable def F_Read_byteAt (a0 : Nat) (p1 : Int32) (M : am_M) : am_R :=
  if p1 < 0 then (some (some (.int (-1)), M)) else (fI M a0 8 4 (fun x1 => if x1 ≤ p1 then (some (some (.int (-1)), M)) else (fR M a0 8 3 (fun b2 => aN M b2 (fun x3 => if x3 ≤ p1 then (some (some (.int (-1)), M)) else (fR M a0 8 3 (fun b4 => aI M b4 p1 (fun x5 => some (some (.int x5), M)))))))))
noncomputable def F_Read_isLetter (p1 : Int32) (M : am_M) : am_R :=
  if p1 < 97 then (some (some (.int 0), M)) else (if 122 < p1 then (some (some (.int 0), M)) else (some (some (.int 1), M)))
noncomputable def F_Read_isDigit (p1 : Int32) (M : am_M) : am_R :=
  if p1 < 48 then (some (some (.int 0), M)) else (if 57 < p1 then (some (some (.int 0), M)) else (some (some (.int 1), M)))
noncomputable def F_Read_advance_L170  : Nat → Nat → am_M → am_R
  | 0, _, _ => none
  | n + 1, v0, M =>
    fI M v0 8 7 (fun x24 => fI M v0 8 4 (fun x25 => if x25 ≤ x24 then (some (none, M)) else (fI M v0 8 7 (fun x26 => cv M v0 8 ( bI (F_Read_byteAt v0 x26 M) (fun r28 M27 => bI (F_Read_isDigit r28 M27) (fun r30 M29 => if r30 = 0 then (some (none, M29)) else (fI M29 v0 8 8 (fun x31 => fI M29 v0 8 7 (fun x32 => cv M29 v0 8 ( bI (F_Read_byteAt v0 x32 M29) (fun r34 M33 => bI (F_Math_min 100000000 (((x31 * 10) + r34) - 48) M33) (fun r36 M35 => sI M35 v0 8 8 r36 (fun M37 => fI M37 v0 8 7 (fun x38 => sI M37 v0 8 7 (x38 + 1) (fun M39 => F_Read_advance_L170 n v0 M39))))))))))))))))
noncomputable def F_Read_advance_L112  : Nat → Nat → am_M → am_R
  | 0, _, _ => none
  | n + 1, v0, M =>
    fI M v0 8 7 (fun x41 => fI M v0 8 4 (fun x42 => if x42 ≤ x41 then (some (none, M)) else (fI M v0 8 7 (fun x43 => cv M v0 8 ( bI (F_Read_byteAt v0 x43 M) (fun r45 M44 => bI (F_Read_isLetter r45 M44) (fun r47 M46 => if r47 = 0 then (some (none, M46)) else (fI M46 v0 8 7 (fun x48 => sI M46 v0 8 7 (x48 + 1) (fun M49 => F_Read_advance_L112 n v0 M49))))))))))
noncomputable def F_Read_advance_L58  (v0 : Nat) (M : am_M) : am_R :=
  fI M v0 8 6 (fun x5 => sI M v0 8 7 x5 (fun M6 => fI M6 v0 8 6 (fun x7 => cv M6 v0 8 ( bI (F_Read_byteAt v0 x7 M6) (fun r9 M8 => sI M8 v0 8 8 r9 (fun M10 => fI M10 v0 8 6 (fun x11 => fI M10 v0 8 4 (fun x12 => if x11 < x12 then (fI M10 v0 8 8 (fun x13 => bI (F_Read_isLetter x13 M10) (fun r15 M14 => if r15 = 0 then (fI M14 v0 8 8 (fun x16 => bI (F_Read_isDigit x16 M14) (fun r18 M17 => if r18 = 0 then (sI M17 v0 8 5 3 (fun M19 => fI M19 v0 8 7 (fun x20 => sI M19 v0 8 7 (x20 + 1) (fun M21 => some (none, M21))))) else (sI M17 v0 8 5 2 (fun M22 => sI M22 v0 8 8 0 (fun M23 => F_Read_advance_L170 fu v0 M23)))))) else (sI M14 v0 8 5 1 (fun M40 => F_Read_advance_L112 fu v0 M40))))) else (sI M10 v0 8 5 0 (fun M50 => some (none, M50)))))))))))
noncomputable def F_Read_advance_L45 (k8 : Nat → am_M → am_R) (v0 : Nat) (M : am_M) : am_R :=
  fI M v0 8 6 (fun x54 => sI M v0 8 6 (x54 + 1) (fun M55 => k8 v0 M55))
noncomputable def F_Read_advance_L8  : Nat → Nat → am_M → am_R
  | 0, _, _ => none
  | n + 1, v0, M =>
    fI M v0 8 6 (fun x3 => fI M v0 8 4 (fun x4 => if x4 ≤ x3 then (F_Read_advance_L58 v0 M) else (fI M v0 8 6 (fun x51 => cv M v0 8 ( bI (F_Read_byteAt v0 x51 M) (fun r53 M52 => if r53 = 32 then (F_Read_advance_L45 (F_Read_advance_L8 n) v0 M52) else (fI M52 v0 8 6 (fun x56 => cv M52 v0 8 ( bI (F_Read_byteAt v0 x56 M52) (fun r58 M57 => if r58 = 10 then (F_Read_advance_L45 (F_Read_advance_L8 n) v0 M57) else (F_Read_advance_L58 v0 M57)))))))))))
noncomputable def F_Read_advance (a0 : Nat) (M : am_M) : am_R :=
  fI M a0 8 7 (fun x1 => sI M a0 8 6 x1 (fun M2 => F_Read_advance_L8 fu a0 M2))
noncomputable def F_Str_coder (a0 : Nat) (M : am_M) : am_R :=
  if (1 : Int32) = 0 then (some (some (.int 1), M)) else (nz a0 ( xV a0 ( some (some (.int 0), M))))
noncomputable def F_Str_length (a0 : Nat) (M : am_M) : am_R :=
  nz a0 ( xV a0 ( xLn (a0 + 100) (fun x1 => nz a0 ( xV a0 ( bI (F_Str_coder a0 M) (fun r3 M2 => some (some (.int (x1 >>> (r3 &&& 31))), M2)))))))
noncomputable def F_Str_isLatin1 (a0 : Nat) (M : am_M) : am_R :=
  if (1 : Int32) = 0 then (some (some (.int 0), M)) else (nz a0 ( xV a0 ( if (0 : Int32) = 0 then (some (some (.int 1), M)) else (some (some (.int 0), M)))))
noncomputable def F_Prec_checkIndex (p1 : Int32) (p2 : Int32) (p3 : Nat) (M : am_M) : am_R :=
  if p1 < 0 then (nz p3 ( none)) else (if p1 < p2 then (some (some (.int p1), M)) else (nz p3 ( none)))
noncomputable def F_Str_checkIndex (p1 : Int32) (p2 : Int32) (M : am_M) : am_R :=
  bI (F_Prec_checkIndex p1 p2 4 M) (fun r2 M1 => some (none, M1))
noncomputable def F_Lat_charAt (p1 : Nat) (p2 : Int32) (M : am_M) : am_R :=
  nz p1 ( xLn p1 (fun x1 => bV (F_Str_checkIndex p2 x1 M) (fun M2 => nz p1 ( xB p1 p2 (fun x3 => zR .char (((x3 &&& 255).toUInt32 % 65536).toInt32) (some (some (.int (((x3 &&& 255).toUInt32 % 65536).toInt32)), M2)))))))
noncomputable def F_Str_charAt (a0 : Nat) (p1 : Int32) (M : am_M) : am_R :=
  nz a0 ( xV a0 ( bI (F_Str_isLatin1 a0 M) (fun r2 M1 => if r2 = 0 then (nz a0 ( xV a0 ( none))) else (nz a0 ( xV a0 ( bI (F_Lat_charAt (a0 + 100) p1 M1) (fun r4 M3 => zR .char r4 (some (some (.int r4), M3)))))))))
noncomputable def F_Read_isWord_L35  : Nat → Nat → Nat → Int32 → am_M → am_R
  | 0, _, _, _, _ => none
  | n + 1, v0, v1, v2, M =>
    nz v1 ( xV v1 ( bI (F_Str_length v1 M) (fun r8 M7 => if r8 ≤ v2 then (some (some (.int 1), M7)) else (fI M7 v0 8 6 (fun x9 => cv M7 v0 8 ( bI (F_Read_byteAt v0 (x9 + v2) M7) (fun r11 M10 => nz v1 ( xV v1 ( bI (F_Str_charAt v1 v2 M10) (fun r13 M12 => if r11 = r13 then (nm (v2 + 1) (fun x14 => F_Read_isWord_L35 n v0 v1 x14 M12)) else (some (some (.int 0), M12))))))))))))
noncomputable def F_Read_isWord (a0 : Nat) (p1 : Nat) (M : am_M) : am_R :=
  fI M a0 8 1 (fun x1 => if x1 = 0 then (fI M a0 8 5 (fun x2 => if x2 = 1 then (fI M a0 8 7 (fun x3 => fI M a0 8 6 (fun x4 => nz p1 ( xV p1 ( bI (F_Str_length p1 M) (fun r6 M5 => if (x3 - x4) = r6 then (F_Read_isWord_L35 fu a0 p1 0 M5) else (some (some (.int 0), M5)))))))) else (some (some (.int 0), M)))) else (some (some (.int 0), M)))
noncomputable def F_Read_takeWord (a0 : Nat) (p1 : Nat) (M : am_M) : am_R :=
  nz p1 ( cv M a0 8 ( bI (F_Read_isWord a0 p1 M) (fun r2 M1 => if r2 = 0 then (some (some (.int 0), M1)) else (cv M1 a0 8 ( bV (F_Read_advance a0 M1) (fun M3 => some (some (.int 1), M3)))))))
noncomputable def F_Read_fail (a0 : Nat) (p1 : Int32) (M : am_M) : am_R :=
  fI M a0 8 1 (fun x1 => if x1 = 0 then (sI M a0 8 1 p1 (fun M2 => fI M2 a0 8 6 (fun x3 => sI M2 a0 8 2 x3 (fun M4 => some (none, M4))))) else (some (none, M)))
noncomputable def F_Read_needWord (a0 : Nat) (p1 : Nat) (M : am_M) : am_R :=
  nz p1 ( cv M a0 8 ( bI (F_Read_takeWord a0 p1 M) (fun r2 M1 => if r2 = 0 then (cv M1 a0 8 ( bV (F_Read_fail a0 1 M1) (fun M3 => some (none, M3)))) else (some (none, M1)))))
noncomputable def F_Read_needNumber (a0 : Nat) (p1 : Int32) (p2 : Int32) (M : am_M) : am_R :=
  fI M a0 8 5 (fun x1 => if x1 = 2 then (fI M a0 8 8 (fun x2 => if x2 < p1 then (cv M a0 8 ( bV (F_Read_fail a0 2 M) (fun M3 => some (some (.int 0), M3)))) else (if x2 ≤ p2 then (fI M a0 8 1 (fun x4 => if x4 = 0 then (cv M a0 8 ( bV (F_Read_advance a0 M) (fun M5 => some (some (.int x2), M5)))) else (some (some (.int x2), M)))) else (cv M a0 8 ( bV (F_Read_fail a0 2 M) (fun M6 => some (some (.int 0), M6))))))) else (cv M a0 8 ( bV (F_Read_fail a0 1 M) (fun M7 => some (some (.int 0), M7)))))
noncomputable def F_Scen_setCells (a0 : Nat) (p1 : Int32) (p2 : Int32) (M : am_M) : am_R :=
  if p1 < 0 then (some (none, M)) else (fR M a0 9 0 (fun b1 => aN M b1 (fun x2 => if x2 ≤ p1 then (some (none, M)) else (fR M a0 9 0 (fun b3 => tI M b3 p1 p2 (fun M4 => some (none, M4)))))))
noncomputable def F_Read_needSign (a0 : Nat) (p1 : Int32) (M : am_M) : am_R :=
  fI M a0 8 1 (fun x1 => if x1 = 0 then (fI M a0 8 5 (fun x2 => if x2 = 3 then (fI M a0 8 8 (fun x3 => if x3 = p1 then (cv M a0 8 ( bV (F_Read_advance a0 M) (fun M4 => some (none, M4)))) else (cv M a0 8 ( bV (F_Read_fail a0 1 M) (fun M5 => some (none, M5)))))) else (cv M a0 8 ( bV (F_Read_fail a0 1 M) (fun M6 => some (none, M6)))))) else (cv M a0 8 ( bV (F_Read_fail a0 1 M) (fun M7 => some (none, M7)))))
noncomputable def F_Read_readWorld_L8  : Nat → Nat → Int32 → am_M → am_R
  | 0, _, _, _ => none
  | n + 1, v0, v1, M =>
    if 3 ≤ v1 then (cv M v0 8 ( bV (F_Read_needSign v0 59 M) (fun M2 => some (none, M2)))) else (fR M v0 8 0 (fun b3 => cv M v0 8 ( bI (F_Read_needNumber v0 1 40 M) (fun r5 M4 => cv M4 b3 9 ( bV (F_Scen_setCells b3 v1 r5 M4) (fun M6 => nm (v1 + 1) (fun x7 => F_Read_readWorld_L8 n v0 x7 M6)))))))
noncomputable def F_Read_readWorld (a0 : Nat) (M : am_M) : am_R :=
  cv M a0 8 ( bV (F_Read_needWord a0 100 M) (fun M1 => F_Read_readWorld_L8 fu a0 0 M1))
noncomputable def F_Read_readSeed (a0 : Nat) (M : am_M) : am_R :=
  fR M a0 8 0 (fun b1 => fI M b1 9 6 (fun x2 => if x2 = 0 then (cv M a0 8 ( bV (F_Read_advance a0 M) (fun M3 => fR M3 a0 8 0 (fun b4 => sI M3 b4 9 6 1 (fun M5 => fR M5 a0 8 0 (fun b6 => cv M5 a0 8 ( bI (F_Read_needNumber a0 0 999999 M5) (fun r8 M7 => sI M7 b6 9 5 r8 (fun M9 => some (none, M9)))))))))) else (cv M a0 8 ( bV (F_Read_fail a0 3 M) (fun M10 => some (none, M10))))))
noncomputable def F_Scen_setKind (a0 : Nat) (p1 : Int32) (p2 : Int32) (p3 : Int32) (M : am_M) : am_R :=
  nm ((p1 * 8) + p2) (fun x1 => if x1 < 0 then (some (none, M)) else (fR M a0 9 1 (fun b2 => aN M b2 (fun x3 => if x3 ≤ x1 then (some (none, M)) else (fR M a0 9 1 (fun b4 => tI M b4 x1 p3 (fun M5 => some (none, M5))))))))
noncomputable def F_Read_numberBehind (a0 : Nat) (p1 : Nat) (p2 : Int32) (p3 : Int32) (p4 : Int32) (M : am_M) : am_R :=
  nz p1 ( cv M a0 8 ( bI (F_Read_takeWord a0 p1 M) (fun r2 M1 => if r2 = 0 then (some (some (.int p4), M1)) else (cv M1 a0 8 ( bI (F_Read_needNumber a0 p2 p3 M1) (fun r4 M3 => some (some (.int r4), M3)))))))
noncomputable def F_Read_readFalls_L49  (v0 : Nat) (v1 : Int32) (M : am_M) : am_R :=
  cv M v0 8 ( bI (F_Read_needNumber v0 0 9 M) (fun r7 M6 => if v1 = 0 then (some (some (.int r7), M6)) else (some (some (.int (-r7)), M6))))
noncomputable def F_Read_readFalls_L40  (v0 : Nat) (s0 : Int32) (M : am_M) : am_R :=
  if s0 = 0 then (F_Read_readFalls_L49 v0 s0 M) else (cv M v0 8 ( bV (F_Read_advance v0 M) (fun M8 => F_Read_readFalls_L49 v0 s0 M8)))
noncomputable def F_Read_readFalls_L39  (v0 : Nat) (M : am_M) : am_R :=
  F_Read_readFalls_L40 v0 0 M
noncomputable def F_Read_readFalls (a0 : Nat) (M : am_M) : am_R :=
  cv M a0 8 ( bI (F_Read_takeWord a0 106 M) (fun r2 M1 => if r2 = 0 then (some (some (.int 0), M1)) else (fI M1 a0 8 1 (fun x3 => if x3 = 0 then (fI M1 a0 8 5 (fun x4 => if x4 = 3 then (fI M1 a0 8 8 (fun x5 => if x5 = 45 then (F_Read_readFalls_L40 a0 1 M1) else (F_Read_readFalls_L39 a0 M1))) else (F_Read_readFalls_L39 a0 M1))) else (F_Read_readFalls_L39 a0 M1)))))
noncomputable def F_Read_readEdge (a0 : Nat) (M : am_M) : am_R :=
  cv M a0 8 ( bI (F_Read_takeWord a0 108 M) (fun r2 M1 => if r2 = 0 then (cv M1 a0 8 ( bI (F_Read_takeWord a0 109 M1) (fun r4 M3 => if r4 = 0 then (cv M3 a0 8 ( bI (F_Read_takeWord a0 110 M3) (fun r6 M5 => some (some (.int 0), M5)))) else (some (some (.int 2), M3))))) else (some (some (.int 1), M1))))
noncomputable def F_Scen_ofKind (a0 : Nat) (p1 : Int32) (p2 : Int32) (M : am_M) : am_R :=
  nm ((p1 * 8) + p2) (fun x1 => if x1 < 0 then (some (some (.int 0), M)) else (fR M a0 9 1 (fun b2 => aN M b2 (fun x3 => if x3 ≤ x1 then (some (some (.int 0), M)) else (fR M a0 9 1 (fun b4 => aI M b4 x1 (fun x5 => some (some (.int x5), M))))))))
noncomputable def F_Read_readKind (a0 : Nat) (M : am_M) : am_R :=
  fR M a0 8 0 (fun b1 => fI M b1 9 3 (fun x2 => if x2 < 5 then (cv M a0 8 ( bV (F_Read_advance a0 M) (fun M3 => cv M3 a0 8 ( bV (F_Read_needWord a0 103 M3) (fun M4 => fR M4 a0 8 0 (fun b5 => cv M4 a0 8 ( bI (F_Read_needNumber a0 1 40 M4) (fun r7 M6 => cv M6 b5 9 ( bV (F_Scen_setKind b5 x2 0 r7 M6) (fun M8 => fR M8 a0 8 0 (fun b9 => cv M8 a0 8 ( bI (F_Read_numberBehind a0 104 0 20 0 M8) (fun r11 M10 => cv M10 b9 9 ( bV (F_Scen_setKind b9 x2 1 r11 M10) (fun M12 => fR M12 a0 8 0 (fun b13 => cv M12 a0 8 ( bI (F_Read_numberBehind a0 105 0 20 0 M12) (fun r15 M14 => cv M14 b13 9 ( bV (F_Scen_setKind b13 x2 2 r15 M14) (fun M16 => fR M16 a0 8 0 (fun b17 => cv M16 a0 8 ( bI (F_Read_readFalls a0 M16) (fun r19 M18 => cv M18 b17 9 ( bV (F_Scen_setKind b17 x2 3 r19 M18) (fun M20 => fR M20 a0 8 0 (fun b21 => cv M20 a0 8 ( bI (F_Read_numberBehind a0 107 1 9 1 M20) (fun r23 M22 => cv M22 b21 9 ( bV (F_Scen_setKind b21 x2 4 r23 M22) (fun M24 => fR M24 a0 8 0 (fun b25 => cv M24 a0 8 ( bI (F_Read_readEdge a0 M24) (fun r27 M26 => cv M26 b25 9 ( bV (F_Scen_setKind b25 x2 5 r27 M26) (fun M28 => fR M28 a0 8 0 (fun b29 => cv M28 a0 8 ( bI (F_Read_numberBehind a0 111 1 2 0 M28) (fun r31 M30 => cv M30 b29 9 ( bV (F_Scen_setKind b29 x2 6 r31 M30) (fun M32 => fR M32 a0 8 0 (fun b33 => cv M32 b33 9 ( bV (F_Scen_setKind b33 x2 7 (-1) M32) (fun M34 => fR M34 a0 8 0 (fun b35 => cv M34 b35 9 ( bI (F_Scen_ofKind b35 x2 6 M34) (fun r37 M36 => if r37 ≤ 0 then (fR M36 a0 8 0 (fun b38 => fI M36 b38 9 3 (fun x39 => sI M36 b38 9 3 (x39 + 1) (fun M40 => some (none, M40))))) else (cv M36 a0 8 ( bV (F_Read_needWord a0 112 M36) (fun M41 => fR M41 a0 8 0 (fun b42 => cv M41 a0 8 ( bI (F_Read_needNumber a0 0 (x2 - 1) M41) (fun r44 M43 => cv M43 b42 9 ( bV (F_Scen_setKind b42 x2 7 r44 M43) (fun M45 => fR M45 a0 8 0 (fun b46 => fI M45 b46 9 3 (fun x47 => sI M45 b46 9 3 (x47 + 1) (fun M48 => some (none, M48)))))))))))))))))))))))))))))))))))))))))))))))))))))))))) else (cv M a0 8 ( bV (F_Read_fail a0 3 M) (fun M49 => some (none, M49))))))
noncomputable def F_Scen_setSource (a0 : Nat) (p1 : Int32) (p2 : Int32) (p3 : Int32) (M : am_M) : am_R :=
  nm ((p1 * 10) + p2) (fun x1 => if x1 < 0 then (some (none, M)) else (fR M a0 9 2 (fun b2 => aN M b2 (fun x3 => if x3 ≤ x1 then (some (none, M)) else (fR M a0 9 2 (fun b4 => tI M b4 x1 p3 (fun M5 => some (none, M5))))))))
noncomputable def F_Scen_cellsAlong (a0 : Nat) (p1 : Int32) (M : am_M) : am_R :=
  if p1 < 0 then (some (some (.int 0), M)) else (fR M a0 9 0 (fun b1 => aN M b1 (fun x2 => if x2 ≤ p1 then (some (some (.int 0), M)) else (fR M a0 9 0 (fun b3 => aI M b3 p1 (fun x4 => some (some (.int x4), M)))))))
noncomputable def F_Scen_ofSource (a0 : Nat) (p1 : Int32) (p2 : Int32) (M : am_M) : am_R :=
  nm ((p1 * 10) + p2) (fun x1 => if x1 < 0 then (some (some (.int 0), M)) else (fR M a0 9 2 (fun b2 => aN M b2 (fun x3 => if x3 ≤ x1 then (some (some (.int 0), M)) else (fR M a0 9 2 (fun b4 => aI M b4 x1 (fun x5 => some (some (.int x5), M))))))))
noncomputable def F_Scen_burstsUpTo (a0 : Nat) (p1 : Int32) (p2 : Int32) (M : am_M) : am_R :=
  cv M a0 9 ( bI (F_Scen_ofSource a0 p1 4 M) (fun r2 M1 => cv M1 a0 9 ( bI (F_Scen_ofSource a0 p1 7 M1) (fun r4 M3 => bI (F_Math_min p2 r4 M3) (fun r6 M5 => cv M5 a0 9 ( bI (F_Scen_ofSource a0 p1 5 M5) (fun r8 M7 => if r6 < r2 then (some (some (.int 0), M7)) else (if 1 ≤ r8 then (dZ r8 ( some (some (.int (((r6 - r2) / r8) + 1)), M7))) else (some (some (.int 0), M7))))))))))
noncomputable def F_Read_readSource_L54  : Nat → Nat → Int32 → Int32 → am_M → am_R
  | 0, _, _, _, _ => none
  | n + 1, v0, v1, v2, M =>
    if 3 ≤ v2 then (cv M v0 8 ( bV (F_Read_needWord v0 115 M) (fun M11 => fR M11 v0 8 0 (fun b12 => cv M11 v0 8 ( bI (F_Read_needNumber v0 0 9999 M11) (fun r14 M13 => cv M13 b12 9 ( bV (F_Scen_setSource b12 v1 4 r14 M13) (fun M15 => cv M15 v0 8 ( bV (F_Read_needWord v0 116 M15) (fun M16 => fR M16 v0 8 0 (fun b17 => cv M16 v0 8 ( bI (F_Read_needNumber v0 1 99 M16) (fun r19 M18 => cv M18 b17 9 ( bV (F_Scen_setSource b17 v1 5 r19 M18) (fun M20 => fR M20 v0 8 0 (fun b21 => cv M20 v0 8 ( bI (F_Read_numberBehind v0 117 1 5 1 M20) (fun r23 M22 => cv M22 b21 9 ( bV (F_Scen_setSource b21 v1 6 r23 M22) (fun M24 => fR M24 v0 8 0 (fun b25 => cv M24 v0 8 ( bI (F_Read_numberBehind v0 118 0 9999 9999 M24) (fun r27 M26 => cv M26 b25 9 ( bV (F_Scen_setSource b25 v1 7 r27 M26) (fun M28 => fR M28 v0 8 0 (fun b29 => cv M28 v0 8 ( bI (F_Read_numberBehind v0 119 0 20 0 M28) (fun r31 M30 => cv M30 b29 9 ( bV (F_Scen_setSource b29 v1 8 r31 M30) (fun M32 => fR M32 v0 8 0 (fun b33 => fR M32 v0 8 0 (fun b34 => cv M32 b34 9 ( bI (F_Scen_ofSource b34 v1 7 M32) (fun r36 M35 => cv M35 b33 9 ( bI (F_Scen_burstsUpTo b33 v1 r36 M35) (fun r38 M37 => fR M37 v0 8 0 (fun b39 => fR M37 v0 8 0 (fun b40 => cv M37 b40 9 ( bI (F_Scen_ofSource b40 v1 6 M37) (fun r42 M41 => cv M41 b39 9 ( bV (F_Scen_setSource b39 v1 9 (r38 * r42) M41) (fun M43 => fR M43 v0 8 0 (fun b44 => fI M43 b44 9 4 (fun x45 => sI M43 b44 9 4 (x45 + 1) (fun M46 => some (none, M46)))))))))))))))))))))))))))))))))))))))))))))) else (fR M v0 8 0 (fun b47 => fR M v0 8 0 (fun b48 => cv M b48 9 ( bI (F_Scen_cellsAlong b48 v2 M) (fun r50 M49 => cv M49 v0 8 ( bI (F_Read_needNumber v0 0 (r50 - 1) M49) (fun r52 M51 => cv M51 b47 9 ( bV (F_Scen_setSource b47 v1 (1 + v2) r52 M51) (fun M53 => nm (v2 + 1) (fun x54 => F_Read_readSource_L54 n v0 v1 x54 M53))))))))))
noncomputable def F_Read_readSource (a0 : Nat) (M : am_M) : am_R :=
  fR M a0 8 0 (fun b1 => fI M b1 9 4 (fun x2 => if x2 < 4 then (cv M a0 8 ( bV (F_Read_advance a0 M) (fun M3 => fR M3 a0 8 0 (fun b4 => fR M3 a0 8 0 (fun b5 => fI M3 b5 9 3 (fun x6 => cv M3 a0 8 ( bI (F_Read_needNumber a0 0 (x6 - 1) M3) (fun r8 M7 => cv M7 b4 9 ( bV (F_Scen_setSource b4 x2 0 r8 M7) (fun M9 => cv M9 a0 8 ( bV (F_Read_needWord a0 114 M9) (fun M10 => F_Read_readSource_L54 fu a0 x2 0 M10)))))))))))) else (cv M a0 8 ( bV (F_Read_fail a0 3 M) (fun M55 => some (none, M55))))))
noncomputable def F_Read_read_L50  : Nat → Nat → Int32 → Int32 → am_M → am_R
  | 0, _, _, _, _ => none
  | n + 1, v0, v3, v4, M =>
    if 500 ≤ v4 then (fI M v0 8 1 (fun x13 => if x13 = 0 then (some (some (.int v3), M)) else (some (some (.int (-1)), M)))) else (fI M v0 8 1 (fun x14 => if x14 = 0 then (fI M v0 8 5 (fun x15 => if x15 = 0 then (fI M v0 8 1 (fun x16 => if x16 = 0 then (some (some (.int v3), M)) else (some (some (.int (-1)), M)))) else (cv M v0 8 ( bI (F_Read_isWord v0 101 M) (fun r18 M17 => if r18 = 0 then (cv M17 v0 8 ( bI (F_Read_isWord v0 102 M17) (fun r20 M19 => if r20 = 0 then (cv M19 v0 8 ( bI (F_Read_isWord v0 113 M19) (fun r22 M21 => if r22 = 0 then (cv M21 v0 8 ( bV (F_Read_fail v0 1 M21) (fun M23 => cv M23 v0 8 ( bV (F_Read_needSign v0 59 M23) (fun M24 => nm (v3 + 1) (fun x25 => nm (v4 + 1) (fun x26 => F_Read_read_L50 n v0 x25 x26 M24))))))) else (cv M21 v0 8 ( bV (F_Read_readSource v0 M21) (fun M27 => cv M27 v0 8 ( bV (F_Read_needSign v0 59 M27) (fun M28 => nm (v3 + 1) (fun x29 => nm (v4 + 1) (fun x30 => F_Read_read_L50 n v0 x29 x30 M28)))))))))) else (cv M19 v0 8 ( bV (F_Read_readKind v0 M19) (fun M31 => cv M31 v0 8 ( bV (F_Read_needSign v0 59 M31) (fun M32 => nm (v3 + 1) (fun x33 => nm (v4 + 1) (fun x34 => F_Read_read_L50 n v0 x33 x34 M32)))))))))) else (cv M17 v0 8 ( bV (F_Read_readSeed v0 M17) (fun M35 => cv M35 v0 8 ( bV (F_Read_needSign v0 59 M35) (fun M36 => nm (v3 + 1) (fun x37 => nm (v4 + 1) (fun x38 => F_Read_read_L50 n v0 x37 x38 M36)))))))))))) else (fI M v0 8 1 (fun x39 => if x39 = 0 then (some (some (.int v3), M)) else (some (some (.int (-1)), M))))))
noncomputable def F_Read_read (a0 : Nat) (p1 : Nat) (p2 : Int32) (M : am_M) : am_R :=
  sR M a0 8 3 p1 (fun M1 => aN M1 p1 (fun x2 => bI (F_Math_min p2 x2 M1) (fun r4 M3 => sI M3 a0 8 4 r4 (fun M5 => fR M5 a0 8 0 (fun b6 => cv M5 b6 9 ( bV (F_Scen_clear b6 M5) (fun M7 => sI M7 a0 8 1 0 (fun M8 => sI M8 a0 8 2 (-1) (fun M9 => sI M9 a0 8 7 0 (fun M10 => cv M10 a0 8 ( bV (F_Read_advance a0 M10) (fun M11 => cv M11 a0 8 ( bV (F_Read_readWorld a0 M11) (fun M12 => F_Read_read_L50 fu a0 1 0 M12))))))))))))))
noncomputable def F_Scen_become (a0 : Nat) (p1 : Nat) (M : am_M) : am_R :=
  fR M p1 9 0 (fun b1 => fR M a0 9 0 (fun b2 => fR M a0 9 0 (fun b3 => aN M b3 (fun x4 => cpy M b1 0 b2 0 x4 (fun M5 => fR M5 p1 9 1 (fun b6 => fR M5 a0 9 1 (fun b7 => fR M5 a0 9 1 (fun b8 => aN M5 b8 (fun x9 => cpy M5 b6 0 b7 0 x9 (fun M10 => fR M10 p1 9 2 (fun b11 => fR M10 a0 9 2 (fun b12 => fR M10 a0 9 2 (fun b13 => aN M10 b13 (fun x14 => cpy M10 b11 0 b12 0 x14 (fun M15 => fI M15 p1 9 3 (fun x16 => sI M15 a0 9 3 x16 (fun M17 => fI M17 p1 9 4 (fun x18 => sI M17 a0 9 4 x18 (fun M19 => fI M19 p1 9 5 (fun x20 => sI M19 a0 9 5 x20 (fun M21 => sI M21 a0 9 7 1 (fun M22 => some (none, M22)))))))))))))))))))))))
noncomputable def F_Hist_forget (a0 : Nat) (M : am_M) : am_R :=
  sI M a0 6 3 0 (fun M1 => some (none, M1))
noncomputable def F_Fram_forget (a0 : Nat) (M : am_M) : am_R :=
  sI M a0 5 6 (-1) (fun M1 => some (none, M1))
noncomputable def F_NS_scene (a0 : Nat) (M : am_M) : am_R :=
  fR M a0 12 3 (fun b1 => fR M a0 12 0 (fun b2 => fI M a0 12 1 (fun x3 => cv M b1 8 ( bI (F_Read_read b1 b2 x3 M) (fun r5 M4 => sI M4 a0 12 1 0 (fun M6 => if 0 ≤ r5 then (fR M6 a0 12 2 (fun b7 => fR M6 a0 12 3 (fun b8 => fR M6 b8 8 0 (fun b9 => cv M6 b7 9 ( bV (F_Scen_become b7 b9 M6) (fun M10 => fR M10 a0 12 4 (fun b11 => cv M10 b11 6 ( bV (F_Hist_forget b11 M10) (fun M12 => fR M12 a0 12 7 (fun b13 => cv M12 b13 5 ( bV (F_Fram_forget b13 M12) (fun M14 => some (some (.int r5), M14))))))))))))) else (some (some (.int (-4)), M6))))))))
noncomputable def F_NS_fault (a0 : Nat) (p1 : Int32) (M : am_M) : am_R :=
  if p1 = 0 then (fR M a0 12 3 (fun b1 => fI M b1 8 1 (fun x2 => some (some (.int x2), M)))) else (if p1 = 1 then (fR M a0 12 3 (fun b3 => fI M b3 8 2 (fun x4 => some (some (.int x4), M)))) else (some (some (.int (-1)), M)))
noncomputable def F_NS_count (a0 : Nat) (p1 : Int32) (M : am_M) : am_R :=
  if p1 = 0 then (fR M a0 12 2 (fun b1 => cv M b1 9 ( bI (F_Scen_cellsAlong b1 p1 M) (fun r3 M2 => some (some (.int r3), M2))))) else (if p1 = 1 then (fR M a0 12 2 (fun b4 => cv M b4 9 ( bI (F_Scen_cellsAlong b4 p1 M) (fun r6 M5 => some (some (.int r6), M5))))) else (if p1 = 2 then (fR M a0 12 2 (fun b7 => cv M b7 9 ( bI (F_Scen_cellsAlong b7 p1 M) (fun r9 M8 => some (some (.int r9), M8))))) else (if p1 = 3 then (fR M a0 12 2 (fun b10 => fI M b10 9 3 (fun x11 => some (some (.int x11), M)))) else (if p1 = 4 then (fR M a0 12 2 (fun b12 => fI M b12 9 4 (fun x13 => some (some (.int x13), M)))) else (if p1 = 5 then (fR M a0 12 2 (fun b14 => fI M b14 9 5 (fun x15 => some (some (.int x15), M)))) else (if p1 = 6 then (fI M a0 12 1 (fun x16 => some (some (.int x16), M))) else (if p1 = 7 then (fR M a0 12 5 (fun b17 => fI M b17 7 1 (fun x18 => some (some (.int x18), M)))) else (some (some (.int (-1)), M)))))))))
noncomputable def F_Scen_isKind (a0 : Nat) (p1 : Int32) (M : am_M) : am_R :=
  if p1 < 0 then (some (some (.int 0), M)) else (fI M a0 9 3 (fun x1 => if x1 ≤ p1 then (some (some (.int 0), M)) else (some (some (.int 1), M))))
noncomputable def F_NS_kind (a0 : Nat) (p1 : Int32) (p2 : Int32) (M : am_M) : am_R :=
  fR M a0 12 2 (fun b1 => cv M b1 9 ( bI (F_Scen_isKind b1 p1 M) (fun r3 M2 => if r3 = 0 then (some (some (.int (-99)), M2)) else (if p2 < 0 then (some (some (.int (-99)), M2)) else (if p2 < 8 then (fR M2 a0 12 2 (fun b4 => cv M2 b4 9 ( bI (F_Scen_ofKind b4 p1 p2 M2) (fun r6 M5 => some (some (.int r6), M5))))) else (some (some (.int (-99)), M2)))))))
noncomputable def F_Scen_isSource (a0 : Nat) (p1 : Int32) (M : am_M) : am_R :=
  if p1 < 0 then (some (some (.int 0), M)) else (fI M a0 9 4 (fun x1 => if x1 ≤ p1 then (some (some (.int 0), M)) else (some (some (.int 1), M))))
noncomputable def F_NS_source (a0 : Nat) (p1 : Int32) (p2 : Int32) (M : am_M) : am_R :=
  fR M a0 12 2 (fun b1 => cv M b1 9 ( bI (F_Scen_isSource b1 p1 M) (fun r3 M2 => if r3 = 0 then (some (some (.int (-2)), M2)) else (if p2 < 0 then (some (some (.int (-2)), M2)) else (if p2 < 10 then (fR M2 a0 12 2 (fun b4 => cv M2 b4 9 ( bI (F_Scen_ofSource b4 p1 p2 M2) (fun r6 M5 => some (some (.int r6), M5))))) else (some (some (.int (-2)), M2)))))))
noncomputable def F_Hist_remember_L60  (v0 : Nat) (v1 : Int32) (v2 : Int32) (v3 : Int32) (M : am_M) : am_R :=
  fR M v0 6 0 (fun b2 => fI M v0 6 3 (fun x3 => tI M b2 x3 v1 (fun M4 => fR M4 v0 6 1 (fun b5 => fI M4 v0 6 3 (fun x6 => tI M4 b5 x6 v2 (fun M7 => fR M7 v0 6 2 (fun b8 => fI M7 v0 6 3 (fun x9 => tI M7 b8 x9 v3 (fun M10 => fI M10 v0 6 3 (fun x11 => sI M10 v0 6 3 (x11 + 1) (fun M12 => some (none, M12))))))))))))
noncomputable def F_Hist_remember (a0 : Nat) (p1 : Int32) (p2 : Int32) (p3 : Int32) (M : am_M) : am_R :=
  fI M a0 6 3 (fun x1 => if x1 < 10 then (F_Hist_remember_L60 a0 p1 p2 p3 M) else (fR M a0 6 0 (fun b13 => fR M a0 6 0 (fun b14 => cpy M b13 1 b14 0 9 (fun M15 => fR M15 a0 6 1 (fun b16 => fR M15 a0 6 1 (fun b17 => cpy M15 b16 1 b17 0 9 (fun M18 => fR M18 a0 6 2 (fun b19 => fR M18 a0 6 2 (fun b20 => cpy M18 b19 1 b20 0 9 (fun M21 => sI M21 a0 6 3 9 (fun M22 => F_Hist_remember_L60 a0 p1 p2 p3 M22))))))))))))
noncomputable def F_NS_seed (a0 : Nat) (p1 : Int32) (M : am_M) : am_R :=
  fR M a0 12 2 (fun b1 => fI M b1 9 7 (fun x2 => if x2 = 0 then (some (some (.int (-2)), M)) else (if p1 < 0 then (some (some (.int (-2)), M)) else (if p1 ≤ 999999 then (fR M a0 12 2 (fun b3 => fI M b3 9 5 (fun x4 => if p1 = x4 then (some (some (.int x4), M)) else (fR M a0 12 4 (fun b5 => cv M b5 6 ( bV (F_Hist_remember b5 (-1) 0 x4 M) (fun M6 => fR M6 a0 12 2 (fun b7 => sI M6 b7 9 5 p1 (fun M8 => fR M8 a0 12 7 (fun b9 => cv M8 b9 5 ( bV (F_Fram_forget b9 M8) (fun M10 => some (some (.int x4), M10))))))))))))) else (some (some (.int (-2)), M))))))
noncomputable def F_NS_sets (a0 : Nat) (p1 : Int32) (p2 : Int32) (p3 : Int32) (M : am_M) : am_R :=
  fR M a0 12 2 (fun b1 => cv M b1 9 ( bI (F_Scen_isKind b1 p1 M) (fun r3 M2 => if r3 = 0 then (some (some (.int (-99)), M2)) else (if p2 < 0 then (some (some (.int (-99)), M2)) else (if p2 ≤ 4 then (xI 2 p2 (fun x4 => if p3 < x4 then (some (some (.int (-99)), M2)) else (xI 3 p2 (fun x5 => if p3 ≤ x5 then (fR M2 a0 12 2 (fun b6 => cv M2 b6 9 ( bI (F_Scen_ofKind b6 p1 p2 M2) (fun r8 M7 => if p3 = r8 then (some (some (.int r8), M7)) else (fR M7 a0 12 4 (fun b9 => cv M7 b9 6 ( bV (F_Hist_remember b9 p1 p2 r8 M7) (fun M10 => fR M10 a0 12 2 (fun b11 => cv M10 b11 9 ( bV (F_Scen_setKind b11 p1 p2 p3 M10) (fun M12 => fR M12 a0 12 7 (fun b13 => cv M12 b13 5 ( bV (F_Fram_forget b13 M12) (fun M14 => some (some (.int r8), M14))))))))))))))) else (some (some (.int (-99)), M2)))))) else (some (some (.int (-99)), M2)))))))
noncomputable def F_Hist_isEmpty (a0 : Nat) (M : am_M) : am_R :=
  fI M a0 6 3 (fun x1 => if 0 < x1 then (some (some (.int 0), M)) else (some (some (.int 1), M)))
noncomputable def F_Hist_takeBack (a0 : Nat) (p1 : Nat) (M : am_M) : am_R :=
  cv M a0 6 ( bI (F_Hist_isEmpty a0 M) (fun r2 M1 => if r2 = 0 then (fI M1 a0 6 3 (fun x3 => sI M1 a0 6 3 (x3 - 1) (fun M4 => fR M4 a0 6 0 (fun b5 => fI M4 a0 6 3 (fun x6 => aI M4 b5 x6 (fun x7 => if x7 = (-1) then (fR M4 a0 6 2 (fun b8 => fI M4 a0 6 3 (fun x9 => aI M4 b8 x9 (fun x10 => sI M4 p1 9 5 x10 (fun M11 => some (none, M11)))))) else (fR M4 a0 6 0 (fun b12 => fI M4 a0 6 3 (fun x13 => aI M4 b12 x13 (fun x14 => fR M4 a0 6 1 (fun b15 => fI M4 a0 6 3 (fun x16 => aI M4 b15 x16 (fun x17 => fR M4 a0 6 2 (fun b18 => fI M4 a0 6 3 (fun x19 => aI M4 b18 x19 (fun x20 => cv M4 p1 9 ( bV (F_Scen_setKind p1 x14 x17 x20 M4) (fun M21 => some (none, M21))))))))))))))))))) else (some (none, M1))))
noncomputable def F_NS_undo (a0 : Nat) (M : am_M) : am_R :=
  fR M a0 12 2 (fun b1 => fI M b1 9 7 (fun x2 => if x2 = 0 then (some (some (.int (-2)), M)) else (fR M a0 12 4 (fun b3 => cv M b3 6 ( bI (F_Hist_isEmpty b3 M) (fun r5 M4 => if r5 = 0 then (fR M4 a0 12 4 (fun b6 => fR M4 a0 12 2 (fun b7 => cv M4 b6 6 ( bV (F_Hist_takeBack b6 b7 M4) (fun M8 => fR M8 a0 12 7 (fun b9 => cv M8 b9 5 ( bV (F_Fram_forget b9 M8) (fun M10 => fR M10 a0 12 4 (fun b11 => fI M10 b11 6 3 (fun x12 => some (some (.int x12), M10))))))))))) else (some (some (.int (-1)), M4))))))))
noncomputable def F_Scen_mix (a0 : Nat) (p1 : Int32) (p2 : Int32) (M : am_M) : am_R :=
  fI M a0 9 5 (fun x1 => nm (((x1.toInt64) + ((p1.toInt64) * (-7046029254386353131))) + ((p2.toInt64) * (-3335678366873096957))) (fun z2 => nm ((z2 ^^^ ((z2.toUInt64 >>> ((30 : Int32).toInt64.toUInt64 &&& Int64.toUInt64 63)).toInt64)) * (-4658895280553007687)) (fun z3 => nm ((z3 ^^^ ((z3.toUInt64 >>> ((27 : Int32).toInt64.toUInt64 &&& Int64.toUInt64 63)).toInt64)) * (-7723592293110705685)) (fun z4 => some (some (.long (z4 ^^^ ((z4.toUInt64 >>> ((31 : Int32).toInt64.toUInt64 &&& Int64.toUInt64 63)).toInt64))), M)))))
noncomputable def F_NS_mixed (a0 : Nat) (p1 : Int32) (p2 : Int32) (M : am_M) : am_R :=
  fR M a0 12 2 (fun b1 => fI M b1 9 7 (fun x2 => if x2 = 0 then (some (some (.long 0), M)) else (fR M a0 12 2 (fun b3 => cv M b3 9 ( bL (F_Scen_mix b3 p1 p2 M) (fun z5 M4 => some (some (.long z5), M4)))))))
noncomputable def F_NS_sourceOf (p1 : Int32) (M : am_M) : am_R :=
  some (some (.int ((p1 >>> (8 &&& 31)) &&& 3)), M)
noncomputable def F_NS_numberOf (p1 : Int32) (M : am_M) : am_R :=
  some (some (.int (p1 >>> (10 &&& 31))), M)
noncomputable def F_Scen_hasSpark (a0 : Nat) (p1 : Int32) (M : am_M) : am_R :=
  fI M a0 9 7 (fun x1 => if x1 = 0 then (some (some (.int 0), M)) else (if 0 ≤ p1 then (bI (F_NS_sourceOf p1 M) (fun r3 M2 => cv M2 a0 9 ( bI (F_Scen_isSource a0 r3 M2) (fun r5 M4 => if r5 = 0 then (some (some (.int 0), M4)) else (bI (F_NS_numberOf p1 M4) (fun r7 M6 => cv M6 a0 9 ( bI (F_Scen_ofSource a0 r3 9 M6) (fun r9 M8 => if r7 < r9 then (cv M8 a0 9 ( bI (F_Scen_ofSource a0 r3 0 M8) (fun r11 M10 => nm ((p1 >>> (4 &&& 31)) &&& 15) (fun x12 => nm (p1 &&& 15) (fun x13 => if x12 = 0 then (if x13 = 0 then (some (some (.int 1), M10)) else (some (some (.int 0), M10))) else (cv M10 a0 9 ( bI (F_Scen_ofKind a0 r11 6 M10) (fun r15 M14 => if x12 ≤ r15 then (cv M14 a0 9 ( bI (F_Scen_ofKind a0 r11 7 M14) (fun r17 M16 => cv M16 a0 9 ( bI (F_Scen_ofKind a0 r17 6 M16) (fun r19 M18 => if r19 < x13 then (some (some (.int 0), M18)) else (some (some (.int 1), M18))))))) else (some (some (.int 0), M14)))))))))) else (some (some (.int 0), M8)))))))))) else (some (some (.int 0), M))))
noncomputable def F_NS_is (a0 : Nat) (p1 : Int32) (M : am_M) : am_R :=
  fR M a0 12 2 (fun b1 => fI M b1 9 7 (fun x2 => if x2 = 0 then (some (some (.int (-2)), M)) else (fR M a0 12 2 (fun b3 => cv M b3 9 ( bI (F_Scen_hasSpark b3 p1 M) (fun r5 M4 => if r5 = 0 then (some (some (.int 0), M4)) else (some (some (.int 1), M4))))))))
noncomputable def F_NS_generationOf (p1 : Int32) (M : am_M) : am_R :=
  if (p1 &&& 15) = 0 then (if (p1 &&& 255) = 0 then (some (some (.int 0), M)) else (some (some (.int 1), M))) else (some (some (.int 2), M))
noncomputable def F_Scen_kindOfSpark_L12  : Nat → Nat → Int32 → Int32 → Int32 → am_M → am_R
  | 0, _, _, _, _, _ => none
  | n + 1, v0, v1, v2, v3, M =>
    bI (F_NS_generationOf v1 M) (fun r6 M5 => if r6 ≤ v3 then (some (some (.int v2), M5)) else (if 3 ≤ v3 then (some (some (.int v2), M5)) else (cv M5 v0 9 ( bI (F_Scen_ofKind v0 v2 7 M5) (fun r8 M7 => nm (v3 + 1) (fun x9 => F_Scen_kindOfSpark_L12 n v0 v1 r8 x9 M7))))))
noncomputable def F_Scen_kindOfSpark (a0 : Nat) (p1 : Int32) (M : am_M) : am_R :=
  bI (F_NS_sourceOf p1 M) (fun r2 M1 => cv M1 a0 9 ( bI (F_Scen_ofSource a0 r2 0 M1) (fun r4 M3 => F_Scen_kindOfSpark_L12 fu a0 p1 r4 0 M3)))
noncomputable def F_NS_codeOfChild (p1 : Int32) (p2 : Int32) (p3 : Int32) (M : am_M) : am_R :=
  if p2 = 0 then (some (some (.int (p1 + (16 * (1 + p3)))), M)) else (some (some (.int (p1 + (1 * (1 + p3)))), M))
noncomputable def F_NS_child (a0 : Nat) (p1 : Int32) (p2 : Int32) (M : am_M) : am_R :=
  fR M a0 12 2 (fun b1 => cv M b1 9 ( bI (F_Scen_hasSpark b1 p1 M) (fun r3 M2 => if r3 = 0 then (some (some (.int (-2)), M2)) else (bI (F_NS_generationOf p1 M2) (fun r5 M4 => if r5 = 2 then (some (some (.int (-1)), M4)) else (if p2 < 0 then (some (some (.int (-1)), M4)) else (fR M4 a0 12 2 (fun b6 => fR M4 a0 12 2 (fun b7 => cv M4 b7 9 ( bI (F_Scen_kindOfSpark b7 p1 M4) (fun r9 M8 => cv M8 b6 9 ( bI (F_Scen_ofKind b6 r9 6 M8) (fun r11 M10 => if p2 < r11 then (bI (F_NS_codeOfChild p1 r5 p2 M10) (fun r13 M12 => some (some (.int r13), M12))) else (some (some (.int (-1)), M10)))))))))))))))
noncomputable def F_NS_codeOfParent (p1 : Int32) (M : am_M) : am_R :=
  if (p1 &&& 15) = 0 then (if (p1 &&& 255) = 0 then (some (some (.int (-1)), M)) else (some (some (.int (p1 &&& (-256))), M))) else (some (some (.int (p1 &&& (-16))), M))
noncomputable def F_NS_parent (a0 : Nat) (p1 : Int32) (M : am_M) : am_R :=
  fR M a0 12 2 (fun b1 => cv M b1 9 ( bI (F_Scen_hasSpark b1 p1 M) (fun r3 M2 => if r3 = 0 then (some (some (.int (-2)), M2)) else (bI (F_NS_codeOfParent p1 M2) (fun r5 M4 => some (some (.int r5), M4))))))
noncomputable def F_Math_max (p1 : Int32) (p2 : Int32) (M : am_M) : am_R :=
  if p1 < p2 then (some (some (.int p2), M)) else (some (some (.int p1), M))
noncomputable def F_Scen_plannedTick (a0 : Nat) (p1 : Int32) (p2 : Int32) (M : am_M) : am_R :=
  cv M a0 9 ( bI (F_Scen_ofSource a0 p1 6 M) (fun r2 M1 => bI (F_Math_max 1 r2 M1) (fun r4 M3 => cv M3 a0 9 ( bI (F_Scen_ofSource a0 p1 4 M3) (fun r6 M5 => dZ r4 ( cv M5 a0 9 ( bI (F_Scen_ofSource a0 p1 5 M5) (fun r8 M7 => some (some (.int (r6 + ((p2 / r4) * r8))), M7)))))))))
noncomputable def F_NS_codeOfRoot (p1 : Int32) (p2 : Int32) (M : am_M) : am_R :=
  some (some (.int (256 * ((4 * p2) + p1))), M)
noncomputable def F_Scen_draw (a0 : Nat) (p1 : Int32) (p2 : Int32) (p3 : Int32) (M : am_M) : am_R :=
  if p3 ≤ 1 then (some (some (.int 0), M)) else (cv M a0 9 ( bL (F_Scen_mix a0 p1 p2 M) (fun z2 M1 => dZL (p3.toInt64) ( some (some (.int ((((z2.toUInt64 >>> ((33 : Int32).toInt64.toUInt64 &&& Int64.toUInt64 63)).toInt64) - ((z2.toUInt64 >>> ((33 : Int32).toInt64.toUInt64 &&& Int64.toUInt64 63)).toInt64) / (p3.toInt64) * (p3.toInt64)).toInt32)), M1)))))
noncomputable def F_Scen_birthTick (a0 : Nat) (p1 : Int32) (p2 : Int32) (M : am_M) : am_R :=
  cv M a0 9 ( bI (F_Scen_plannedTick a0 p1 p2 M) (fun r2 M1 => bI (F_NS_codeOfRoot p1 p2 M1) (fun r4 M3 => cv M3 a0 9 ( bI (F_Scen_ofSource a0 p1 8 M3) (fun r6 M5 => cv M5 a0 9 ( bI (F_Scen_draw a0 r4 0 (r6 + 1) M5) (fun r8 M7 => some (some (.int (r2 + r8)), M7))))))))
noncomputable def F_Sprk_beginAtSource_L83  : Nat → Nat → Int32 → Int32 → am_M → am_R
  | 0, _, _, _, _ => none
  | n + 1, v0, v1, v4, M =>
    if 3 ≤ v4 then (some (none, M)) else (fR M v0 10 1 (fun b24 => fR M v0 10 0 (fun b25 => cv M b25 9 ( bI (F_Scen_ofSource b25 v1 (1 + v4) M) (fun r27 M26 => tI M26 b24 v4 ((8 * r27) + 4) (fun M28 => nm (v4 + 1) (fun x29 => F_Sprk_beginAtSource_L83 n v0 v1 x29 M28)))))))
noncomputable def F_Sprk_beginAtSource (a0 : Nat) (p1 : Int32) (p2 : Int32) (p3 : Int32) (M : am_M) : am_R :=
  bI (F_NS_codeOfRoot p1 p2 M) (fun r2 M1 => sI M1 a0 10 3 r2 (fun M3 => fR M3 a0 10 0 (fun b4 => cv M3 b4 9 ( bI (F_Scen_ofSource b4 p1 0 M3) (fun r6 M5 => sI M5 a0 10 4 r6 (fun M7 => sI M7 a0 10 5 0 (fun M8 => sI M8 a0 10 6 p3 (fun M9 => fI M9 a0 10 6 (fun x10 => fR M9 a0 10 0 (fun b11 => fI M9 a0 10 4 (fun x12 => cv M9 b11 9 ( bI (F_Scen_ofKind b11 x12 0 M9) (fun r14 M13 => fR M13 a0 10 0 (fun b15 => fI M13 a0 10 3 (fun x16 => fR M13 a0 10 0 (fun b17 => fI M13 a0 10 4 (fun x18 => cv M13 b17 9 ( bI (F_Scen_ofKind b17 x18 1 M13) (fun r20 M19 => cv M19 b15 9 ( bI (F_Scen_draw b15 x16 1 (r20 + 1) M19) (fun r22 M21 => sI M21 a0 10 7 ((x10 + r14) + r22) (fun M23 => F_Sprk_beginAtSource_L83 fu a0 p1 0 M23))))))))))))))))))))))
noncomputable def F_Sprk_ageBeyond_L58  : Nat → Int32 → Int32 → Int32 → Int32 → Int32 → Int32 → am_M → am_R
  | 0, _, _, _, _, _, _, _ => none
  | n + 1, v2, v3, v4, v5, v6, v7, M =>
    if v2 ≤ v7 then (some (some (.int v2), M)) else (nm (v4 + v5) (fun x10 => nm (v5 + v6) (fun x11 => if x10 < 0 then (some (some (.int v7), M)) else (if x10 < v3 then (nm (v7 + 1) (fun x12 => F_Sprk_ageBeyond_L58 n v2 v3 x10 x11 v6 x12 M)) else (some (some (.int v7), M))))))
noncomputable def F_Sprk_ageBeyond_L41  (v2 : Int32) (v3 : Int32) (v4 : Int32) (v5 : Int32) (s0 : Int32) (M : am_M) : am_R :=
  if v5 = 0 then (if s0 = 0 then (some (some (.int v2), M)) else (F_Sprk_ageBeyond_L58 fu v2 v3 v4 v5 s0 1 M)) else (F_Sprk_ageBeyond_L58 fu v2 v3 v4 v5 s0 1 M)
noncomputable def F_Sprk_ageBeyond (a0 : Nat) (p1 : Int32) (p2 : Int32) (M : am_M) : am_R :=
  fR M a0 10 0 (fun b1 => cv M b1 9 ( bI (F_Scen_cellsAlong b1 p1 M) (fun r3 M2 => nm (r3 * 8) (fun x4 => fR M2 a0 10 1 (fun b5 => aI M2 b5 p1 (fun x6 => fR M2 a0 10 2 (fun b7 => aI M2 b7 p1 (fun x8 => if p1 = 1 then (fI M2 a0 10 8 (fun x9 => F_Sprk_ageBeyond_L41 p2 x4 x6 x8 x9 M2)) else (F_Sprk_ageBeyond_L41 p2 x4 x6 x8 0 M2)))))))))
noncomputable def F_Sprk_fly_L95  : Nat → Nat → Int32 → am_M → am_R
  | 0, _, _, _ => none
  | n + 1, v0, v2, M =>
    if 3 ≤ v2 then (some (none, M)) else (fI M v0 10 7 (fun x16 => fI M v0 10 6 (fun x17 => fI M v0 10 7 (fun x18 => fI M v0 10 6 (fun x19 => cv M v0 10 ( bI (F_Sprk_ageBeyond v0 v2 (x18 - x19) M) (fun r21 M20 => bI (F_Math_min x16 (x17 + r21) M20) (fun r23 M22 => sI M22 v0 10 7 r23 (fun M24 => nm (v2 + 1) (fun x25 => F_Sprk_fly_L95 n v0 x25 M24))))))))))
noncomputable def F_Sprk_fly_L47  : Nat → Nat → Int32 → Int32 → am_M → am_R
  | 0, _, _, _, _ => none
  | n + 1, v0, v1, v2, M =>
    if 3 ≤ v2 then (fI M v0 10 9 (fun x15 => if x15 = 2 then (F_Sprk_fly_L95 fu v0 0 M) else (some (none, M)))) else (fR M v0 10 2 (fun b26 => fR M v0 10 0 (fun b27 => fI M v0 10 3 (fun x28 => cv M b27 9 ( bI (F_Scen_draw b27 x28 (2 + v2) ((2 * v1) + 1) M) (fun r30 M29 => tI M29 b26 v2 (r30 - v1) (fun M31 => nm (v2 + 1) (fun x32 => F_Sprk_fly_L47 n v0 v1 x32 M31))))))))
noncomputable def F_Sprk_fly (a0 : Nat) (M : am_M) : am_R :=
  fR M a0 10 0 (fun b1 => fI M a0 10 4 (fun x2 => cv M b1 9 ( bI (F_Scen_ofKind b1 x2 3 M) (fun r4 M3 => sI M3 a0 10 8 r4 (fun M5 => fR M5 a0 10 0 (fun b6 => fI M5 a0 10 4 (fun x7 => cv M5 b6 9 ( bI (F_Scen_ofKind b6 x7 5 M5) (fun r9 M8 => sI M8 a0 10 9 r9 (fun M10 => fR M10 a0 10 0 (fun b11 => fI M10 a0 10 4 (fun x12 => cv M10 b11 9 ( bI (F_Scen_ofKind b11 x12 2 M10) (fun r14 M13 => F_Sprk_fly_L47 fu a0 r14 0 M13))))))))))))))
noncomputable def F_Sprk_freePlace (a0 : Nat) (p1 : Int32) (p2 : Int32) (M : am_M) : am_R :=
  if p1 < 0 then (some (some (.int 0), M)) else (fR M a0 10 1 (fun b1 => aN M b1 (fun x2 => if p1 < x2 then (fR M a0 10 1 (fun b3 => aI M b3 p1 (fun x4 => fR M a0 10 2 (fun b5 => aI M b5 p1 (fun x6 => nm (x4 + (p2 * x6)) (fun x7 => if p1 = 1 then (fI M a0 10 8 (fun x8 => some (some (.int (x7 + (((x8 * p2) * (p2 - 1)) / 2))), M))) else (some (some (.int x7), M)))))))) else (some (some (.int 0), M)))))
noncomputable def F_Math_floorMod (p1 : Int32) (p2 : Int32) (M : am_M) : am_R :=
  dZ p2 ( nm (p1 - p1 / p2 * p2) (fun x1 => if 0 ≤ (p1 ^^^ p2) then (some (some (.int x1), M)) else (if x1 = 0 then (some (some (.int x1), M)) else (some (some (.int (x1 + p2)), M)))))
noncomputable def F_Sprk_placeAt_L30  (v0 : Nat) (v3 : Int32) (v4 : Int32) (M : am_M) : am_R :=
  if v4 < 1 then (some (some (.int v3), M)) else (fI M v0 10 9 (fun x7 => if x7 = 2 then (some (some (.int v3), M)) else (fI M v0 10 9 (fun x8 => if x8 = 0 then (bI (F_Math_floorMod v3 v4 M) (fun r10 M9 => some (some (.int r10), M9))) else (bI (F_Math_floorMod v3 (2 * v4) M) (fun r12 M11 => if v4 ≤ r12 then (some (some (.int (((2 * v4) - 1) - r12)), M11)) else (some (some (.int r12), M11))))))))
noncomputable def F_Sprk_placeAt (a0 : Nat) (p1 : Int32) (p2 : Int32) (M : am_M) : am_R :=
  cv M a0 10 ( bI (F_Sprk_freePlace a0 p1 p2 M) (fun r2 M1 => fR M1 a0 10 0 (fun b3 => cv M1 b3 9 ( bI (F_Scen_cellsAlong b3 p1 M1) (fun r5 M4 => nm (r5 * 8) (fun x6 => if r2 < 0 then (F_Sprk_placeAt_L30 a0 r2 x6 M4) else (if r2 < x6 then (some (some (.int r2), M4)) else (F_Sprk_placeAt_L30 a0 r2 x6 M4))))))))
noncomputable def F_Sprk_beginAsChild_L101  : Nat → Nat → Nat → Int32 → am_M → am_R
  | 0, _, _, _, _ => none
  | n + 1, v0, v1, v3, M =>
    if 3 ≤ v3 then (some (none, M)) else (fR M v0 10 1 (fun b29 => fI M v1 10 7 (fun x30 => fI M v1 10 6 (fun x31 => cv M v1 10 ( bI (F_Sprk_placeAt v1 v3 ((x30 - 1) - x31) M) (fun r33 M32 => tI M32 b29 v3 r33 (fun M34 => nm (v3 + 1) (fun x35 => F_Sprk_beginAsChild_L101 n v0 v1 x35 M34))))))))
noncomputable def F_Sprk_beginAsChild (a0 : Nat) (p1 : Nat) (p2 : Int32) (M : am_M) : am_R :=
  fI M p1 10 3 (fun x1 => fI M p1 10 5 (fun x2 => bI (F_NS_codeOfChild x1 x2 p2 M) (fun r4 M3 => sI M3 a0 10 3 r4 (fun M5 => fR M5 a0 10 0 (fun b6 => fI M5 p1 10 4 (fun x7 => cv M5 b6 9 ( bI (F_Scen_ofKind b6 x7 7 M5) (fun r9 M8 => sI M8 a0 10 4 r9 (fun M10 => fI M10 p1 10 5 (fun x11 => sI M10 a0 10 5 (x11 + 1) (fun M12 => fI M12 p1 10 7 (fun x13 => sI M12 a0 10 6 x13 (fun M14 => fI M14 a0 10 6 (fun x15 => fR M14 a0 10 0 (fun b16 => fI M14 a0 10 4 (fun x17 => cv M14 b16 9 ( bI (F_Scen_ofKind b16 x17 0 M14) (fun r19 M18 => fR M18 a0 10 0 (fun b20 => fI M18 a0 10 3 (fun x21 => fR M18 a0 10 0 (fun b22 => fI M18 a0 10 4 (fun x23 => cv M18 b22 9 ( bI (F_Scen_ofKind b22 x23 1 M18) (fun r25 M24 => cv M24 b20 9 ( bI (F_Scen_draw b20 x21 1 (r25 + 1) M24) (fun r27 M26 => sI M26 a0 10 7 ((x15 + r19) + r27) (fun M28 => F_Sprk_beginAsChild_L101 fu a0 p1 0 M28)))))))))))))))))))))))))))
noncomputable def F_Find_find (a0 : Nat) (p1 : Int32) (M : am_M) : am_R :=
  fR M a0 4 0 (fun b1 => cv M b1 9 ( bI (F_Scen_hasSpark b1 p1 M) (fun r3 M2 => if r3 = 0 then (some (some .null, M2)) else (bI (F_NS_sourceOf p1 M2) (fun r5 M4 => bI (F_NS_numberOf p1 M4) (fun r7 M6 => fR M6 a0 4 1 (fun b8 => fR M6 a0 4 0 (fun b9 => cv M6 b9 9 ( bI (F_Scen_birthTick b9 r5 r7 M6) (fun r11 M10 => cv M10 b8 10 ( bV (F_Sprk_beginAtSource b8 r5 r7 r11 M10) (fun M12 => fR M12 a0 4 1 (fun b13 => cv M12 b13 10 ( bV (F_Sprk_fly b13 M12) (fun M14 => bI (F_NS_generationOf p1 M14) (fun r16 M15 => if r16 = 0 then (fR M15 a0 4 1 (fun b17 => some (some (.ref b17), M15))) else (fR M15 a0 4 2 (fun b18 => fR M15 a0 4 1 (fun b19 => cv M15 b18 10 ( bV (F_Sprk_beginAsChild b18 b19 (((p1 >>> (4 &&& 31)) &&& 15) - 1) M15) (fun M20 => fR M20 a0 4 2 (fun b21 => cv M20 b21 10 ( bV (F_Sprk_fly b21 M20) (fun M22 => if r16 = 1 then (fR M22 a0 4 2 (fun b23 => some (some (.ref b23), M22))) else (fR M22 a0 4 3 (fun b24 => fR M22 a0 4 2 (fun b25 => cv M22 b24 10 ( bV (F_Sprk_beginAsChild b24 b25 ((p1 &&& 15) - 1) M22) (fun M26 => fR M26 a0 4 3 (fun b27 => cv M26 b27 10 ( bV (F_Sprk_fly b27 M26) (fun M28 => fR M28 a0 4 3 (fun b29 => some (some (.ref b29), M28))))))))))))))))))))))))))))))))))
noncomputable def F_Scen_colourOf (a0 : Nat) (p1 : Int32) (M : am_M) : am_R :=
  cv M a0 9 ( bI (F_Scen_draw a0 p1 5 8 M) (fun r2 M1 => some (some (.int r2), M1)))
noncomputable def F_Sprk_speedAlong (a0 : Nat) (p1 : Int32) (M : am_M) : am_R :=
  if p1 < 0 then (some (some (.int 0), M)) else (fR M a0 10 2 (fun b1 => aN M b1 (fun x2 => if x2 ≤ p1 then (some (some (.int 0), M)) else (fR M a0 10 2 (fun b3 => aI M b3 p1 (fun x4 => some (some (.int x4), M)))))))
noncomputable def F_NS_spark (a0 : Nat) (p1 : Int32) (p2 : Int32) (M : am_M) : am_R :=
  fR M a0 12 8 (fun b1 => cv M b1 4 ( bR (F_Find_find b1 p1 M) (fun M2 => some (some (.int (-99)), M2)) (fun b3 M2 => if p2 = 0 then (fI M2 b3 10 4 (fun x4 => some (some (.int x4), M2))) else (if p2 = 1 then (bI (F_NS_sourceOf p1 M2) (fun r6 M5 => some (some (.int r6), M5))) else (if p2 = 2 then (bI (F_NS_numberOf p1 M2) (fun r8 M7 => some (some (.int r8), M7))) else (if p2 = 3 then (fI M2 b3 10 5 (fun x9 => some (some (.int x9), M2))) else (if p2 = 4 then (fR M2 a0 12 2 (fun b10 => cv M2 b10 9 ( bI (F_Scen_colourOf b10 p1 M2) (fun r12 M11 => some (some (.int r12), M11))))) else (if p2 = 5 then (fI M2 b3 10 6 (fun x13 => some (some (.int x13), M2))) else (if p2 = 6 then (fI M2 b3 10 7 (fun x14 => some (some (.int x14), M2))) else (if p2 = 7 then (cv M2 b3 10 ( bI (F_Sprk_speedAlong b3 (p2 - 7) M2) (fun r16 M15 => some (some (.int r16), M15)))) else (if p2 = 8 then (cv M2 b3 10 ( bI (F_Sprk_speedAlong b3 (p2 - 7) M2) (fun r18 M17 => some (some (.int r18), M17)))) else (if p2 = 9 then (cv M2 b3 10 ( bI (F_Sprk_speedAlong b3 (p2 - 7) M2) (fun r20 M19 => some (some (.int r20), M19)))) else (some (some (.int (-99)), M2))))))))))))))
noncomputable def F_NS_isTick (p1 : Int32) (M : am_M) : am_R :=
  if p1 < 0 then (some (some (.int 0), M)) else (if 30000 < p1 then (some (some (.int 0), M)) else (some (some (.int 1), M)))
noncomputable def F_NS_isAxis (p1 : Int32) (M : am_M) : am_R :=
  if p1 < 0 then (some (some (.int 0), M)) else (if 2 < p1 then (some (some (.int 0), M)) else (some (some (.int 1), M)))
noncomputable def F_Sprk_isThere (a0 : Nat) (p1 : Int32) (M : am_M) : am_R :=
  fI M a0 10 6 (fun x1 => if p1 < x1 then (some (some (.int 0), M)) else (fI M a0 10 7 (fun x2 => if x2 ≤ p1 then (some (some (.int 0), M)) else (some (some (.int 1), M)))))
noncomputable def F_NS_place (a0 : Nat) (p1 : Int32) (p2 : Int32) (p3 : Int32) (M : am_M) : am_R :=
  fR M a0 12 8 (fun b1 => cv M b1 4 ( bR (F_Find_find b1 p1 M) (fun M2 => some (some (.int (-2)), M2)) (fun b3 M2 => bI (F_NS_isTick p2 M2) (fun r5 M4 => if r5 = 0 then (some (some (.int (-2)), M4)) else (bI (F_NS_isAxis p3 M4) (fun r7 M6 => if r7 = 0 then (some (some (.int (-2)), M6)) else (cv M6 b3 10 ( bI (F_Sprk_isThere b3 p2 M6) (fun r9 M8 => if r9 = 0 then (some (some (.int (-1)), M8)) else (fI M8 b3 10 6 (fun x10 => cv M8 b3 10 ( bI (F_Sprk_placeAt b3 p3 (p2 - x10) M8) (fun r12 M11 => some (some (.int r12), M11))))))))))))))
noncomputable def F_NS_size (a0 : Nat) (p1 : Int32) (p2 : Int32) (M : am_M) : am_R :=
  fR M a0 12 8 (fun b1 => cv M b1 4 ( bR (F_Find_find b1 p1 M) (fun M2 => some (some (.int (-2)), M2)) (fun b3 M2 => bI (F_NS_isTick p2 M2) (fun r5 M4 => if r5 = 0 then (some (some (.int (-2)), M4)) else (cv M4 b3 10 ( bI (F_Sprk_isThere b3 p2 M4) (fun r7 M6 => if r7 = 0 then (some (some (.int (-1)), M6)) else (fI M6 b3 10 6 (fun x8 => nm (p2 - x8) (fun x9 => fI M6 b3 10 7 (fun x10 => fI M6 b3 10 6 (fun x11 => bI (F_Math_max 1 (x10 - x11) M6) (fun r13 M12 => fR M12 a0 12 2 (fun b14 => fI M12 b3 10 4 (fun x15 => cv M12 b14 9 ( bI (F_Scen_ofKind b14 x15 4 M12) (fun r17 M16 => dZ r13 ( bI (F_Math_max 1 (r17 - ((4 * x9) / r13)) M16) (fun r19 M18 => some (some (.int r19), M18))))))))))))))))))))
noncomputable def F_Math_floorDiv (p1 : Int32) (p2 : Int32) (M : am_M) : am_R :=
  dZ p2 ( nm (p1 / p2) (fun x1 => if 0 ≤ (p1 ^^^ p2) then (some (some (.int x1), M)) else (if (x1 * p2) = p1 then (some (some (.int x1), M)) else (some (some (.int (x1 - 1)), M)))))
noncomputable def F_Math_abs (p1 : Int32) (M : am_M) : am_R :=
  if 0 ≤ p1 then (some (some (.int p1), M)) else (some (some (.int (-p1)), M))
noncomputable def F_Sprk_edgesAt_L4  : Nat → Nat → Int32 → Int32 → Int32 → am_M → am_R
  | 0, _, _, _, _, _ => none
  | n + 1, v0, v1, v2, v3, M =>
    if 3 ≤ v3 then (some (some (.int v2), M)) else (fI M v0 10 9 (fun x1 => if x1 = 2 then (some (some (.int v2), M)) else (fR M v0 10 0 (fun b2 => cv M b2 9 ( bI (F_Scen_cellsAlong b2 v3 M) (fun r4 M3 => bI (F_Math_max 1 (r4 * 8) M3) (fun r6 M5 => cv M5 v0 10 ( bI (F_Sprk_freePlace v0 v3 v1 M5) (fun r8 M7 => bI (F_Math_floorDiv r8 r6 M7) (fun r10 M9 => cv M9 v0 10 ( bI (F_Sprk_freePlace v0 v3 (v1 - 1) M9) (fun r12 M11 => bI (F_Math_floorDiv r12 r6 M11) (fun r14 M13 => bI (F_Math_abs (r10 - r14) M13) (fun r16 M15 => nm (v2 + r16) (fun x17 => nm (v3 + 1) (fun x18 => F_Sprk_edgesAt_L4 n v0 v1 x17 x18 M15))))))))))))))))
noncomputable def F_Sprk_edgesAt (a0 : Nat) (p1 : Int32) (M : am_M) : am_R :=
  F_Sprk_edgesAt_L4 fu a0 p1 0 0 M
noncomputable def F_NS_edges_L21  : Nat → Nat → Int32 → Int32 → am_M → am_R
  | 0, _, _, _, _ => none
  | n + 1, v2, v3, v4, M =>
    fI M v2 10 7 (fun x4 => fI M v2 10 6 (fun x5 => if (x4 - x5) ≤ v4 then (some (some (.int v3), M)) else (cv M v2 10 ( bI (F_Sprk_edgesAt v2 v4 M) (fun r7 M6 => nm (v3 + r7) (fun x8 => nm (v4 + 1) (fun x9 => F_NS_edges_L21 n v2 x8 x9 M6)))))))
noncomputable def F_NS_edges (a0 : Nat) (p1 : Int32) (M : am_M) : am_R :=
  fR M a0 12 8 (fun b1 => cv M b1 4 ( bR (F_Find_find b1 p1 M) (fun M2 => some (some (.int (-2)), M2)) (fun b3 M2 => F_NS_edges_L21 fu b3 0 1 M2)))
noncomputable def F_NS_over_L18  : Nat → Nat → Int32 → am_M → am_R
  | 0, _, _, _ => none
  | n + 1, v2, v3, M =>
    fI M v2 10 7 (fun x4 => fI M v2 10 6 (fun x5 => if (x4 - x5) ≤ v3 then (some (some (.int (-1)), M)) else (cv M v2 10 ( bI (F_Sprk_edgesAt v2 v3 M) (fun r7 M6 => if r7 ≤ 0 then (nm (v3 + 1) (fun x8 => F_NS_over_L18 n v2 x8 M6)) else (fI M6 v2 10 6 (fun x9 => some (some (.int (x9 + v3)), M6))))))))
noncomputable def F_NS_over (a0 : Nat) (p1 : Int32) (M : am_M) : am_R :=
  fR M a0 12 8 (fun b1 => cv M b1 4 ( bR (F_Find_find b1 p1 M) (fun M2 => some (some (.int (-2)), M2)) (fun b3 M2 => F_NS_over_L18 fu b3 1 M2)))
noncomputable def F_NS_reach_L46  : Nat → Int32 → Int32 → Nat → Int32 → Int32 → am_M → am_R
  | 0, _, _, _, _, _, _ => none
  | n + 1, v2, v3, v4, v5, v6, M =>
    fI M v4 10 7 (fun x8 => fI M v4 10 6 (fun x9 => if (x8 - x9) ≤ v6 then (some (some (.int v5), M)) else (cv M v4 10 ( bI (F_Sprk_placeAt v4 v2 v6 M) (fun r11 M10 => if v3 = 0 then (bI (F_Math_min v5 r11 M10) (fun r13 M12 => nm (v6 + 1) (fun x14 => F_NS_reach_L46 n v2 v3 v4 r13 x14 M12))) else (bI (F_Math_max v5 r11 M10) (fun r16 M15 => nm (v6 + 1) (fun x17 => F_NS_reach_L46 n v2 v3 v4 r16 x17 M15))))))))
noncomputable def F_NS_reach (a0 : Nat) (p1 : Int32) (p2 : Int32) (p3 : Int32) (M : am_M) : am_R :=
  fR M a0 12 8 (fun b1 => cv M b1 4 ( bR (F_Find_find b1 p1 M) (fun M2 => some (some (.int (-2)), M2)) (fun b3 M2 => bI (F_NS_isAxis p2 M2) (fun r5 M4 => if r5 = 0 then (some (some (.int (-2)), M4)) else (if p3 < 0 then (some (some (.int (-2)), M4)) else (if p3 ≤ 1 then (cv M4 b3 10 ( bI (F_Sprk_placeAt b3 p2 0 M4) (fun r7 M6 => F_NS_reach_L46 fu p2 p3 b3 r7 1 M6))) else (some (some (.int (-2)), M4))))))))
noncomputable def F_Sprk_cellAt (a0 : Nat) (p1 : Int32) (M : am_M) : am_R :=
  cv M a0 10 ( bI (F_Sprk_placeAt a0 0 p1 M) (fun r2 M1 => nm (r2 / 8) (fun x3 => cv M1 a0 10 ( bI (F_Sprk_placeAt a0 1 p1 M1) (fun r5 M4 => nm (r5 / 8) (fun x6 => cv M4 a0 10 ( bI (F_Sprk_placeAt a0 2 p1 M4) (fun r8 M7 => nm (r8 / 8) (fun x9 => some (some (.int ((((x9 * 40) + x6) * 40) + x3)), M7))))))))))
noncomputable def F_NS_isAmong_L2  : Nat → Nat → Int32 → Int32 → Int32 → am_M → am_R
  | 0, _, _, _, _, _ => none
  | n + 1, v0, v1, v2, v3, M =>
    if v2 ≤ v3 then (some (some (.int 0), M)) else (fR M v0 12 10 (fun b1 => aN M b1 (fun x2 => if x2 ≤ v3 then (some (some (.int 0), M)) else (fR M v0 12 10 (fun b3 => aI M b3 v3 (fun x4 => if x4 = v1 then (some (some (.int 1), M)) else (nm (v3 + 1) (fun x5 => F_NS_isAmong_L2 n v0 v1 v2 x5 M))))))))
noncomputable def F_NS_isAmong (a0 : Nat) (p1 : Int32) (p2 : Int32) (M : am_M) : am_R :=
  F_NS_isAmong_L2 fu a0 p1 p2 0 M
noncomputable def F_NS_cellsOf_L21  : Nat → Nat → Nat → Int32 → Int32 → am_M → am_R
  | 0, _, _, _, _, _ => none
  | n + 1, v0, v2, v3, v4, M =>
    fI M v2 10 7 (fun x4 => fI M v2 10 6 (fun x5 => if (x4 - x5) ≤ v4 then (some (some (.int v3), M)) else (cv M v2 10 ( bI (F_Sprk_cellAt v2 v4 M) (fun r7 M6 => fR M6 v0 12 10 (fun b8 => aN M6 b8 (fun x9 => if x9 ≤ v3 then (nm (v4 + 1) (fun x10 => F_NS_cellsOf_L21 n v0 v2 v3 x10 M6)) else (cv M6 v0 12 ( bI (F_NS_isAmong v0 r7 v3 M6) (fun r12 M11 => if r12 = 0 then (fR M11 v0 12 10 (fun b13 => tI M11 b13 v3 r7 (fun M14 => nm (v3 + 1) (fun x15 => nm (v4 + 1) (fun x16 => F_NS_cellsOf_L21 n v0 v2 x15 x16 M14))))) else (nm (v4 + 1) (fun x17 => F_NS_cellsOf_L21 n v0 v2 v3 x17 M11))))))))))))
noncomputable def F_NS_cellsOf (a0 : Nat) (p1 : Int32) (M : am_M) : am_R :=
  fR M a0 12 8 (fun b1 => cv M b1 4 ( bR (F_Find_find b1 p1 M) (fun M2 => some (some (.int (-2)), M2)) (fun b3 M2 => F_NS_cellsOf_L21 fu a0 b3 0 0 M2)))
noncomputable def F_NS_meets_L64  : Nat → Nat → Nat → Int32 → Int32 → am_M → am_R
  | 0, _, _, _, _, _ => none
  | n + 1, v3, v4, v5, v6, M =>
    if v5 ≤ v6 then (some (some (.int (-1)), M)) else (fI M v3 10 6 (fun x18 => cv M v3 10 ( bI (F_Sprk_cellAt v3 (v6 - x18) M) (fun r20 M19 => fI M19 v4 10 6 (fun x21 => cv M19 v4 10 ( bI (F_Sprk_cellAt v4 (v6 - x21) M19) (fun r23 M22 => if r20 = r23 then (some (some (.int v6), M22)) else (nm (v6 + 1) (fun x24 => F_NS_meets_L64 n v3 v4 v5 x24 M22)))))))))
noncomputable def F_NS_meets (a0 : Nat) (p1 : Int32) (p2 : Int32) (M : am_M) : am_R :=
  fR M a0 12 8 (fun b1 => cv M b1 4 ( bR (F_Find_find b1 p1 M) (fun M2 => fR M2 a0 12 9 (fun b4 => cv M2 b4 4 ( bR (F_Find_find b4 p2 M2) (fun M5 => some (some (.int (-2)), M5)) (fun b6 M5 => some (some (.int (-2)), M5))))) (fun b3 M2 => fR M2 a0 12 9 (fun b7 => cv M2 b7 4 ( bR (F_Find_find b7 p2 M2) (fun M8 => some (some (.int (-2)), M8)) (fun b9 M8 => if p1 = p2 then (some (some (.int (-2)), M8)) else (fI M8 b3 10 7 (fun x10 => fI M8 b9 10 7 (fun x11 => bI (F_Math_min x10 x11 M8) (fun r13 M12 => fI M12 b3 10 6 (fun x14 => fI M12 b9 10 6 (fun x15 => bI (F_Math_max x14 x15 M12) (fun r17 M16 => F_NS_meets_L64 fu b3 b9 r13 r17 M16)))))))))))))
noncomputable def F_NS_kin (a0 : Nat) (p1 : Int32) (p2 : Int32) (M : am_M) : am_R :=
  fR M a0 12 2 (fun b1 => cv M b1 9 ( bI (F_Scen_hasSpark b1 p1 M) (fun r3 M2 => if r3 = 0 then (some (some (.int (-2)), M2)) else (fR M2 a0 12 2 (fun b4 => cv M2 b4 9 ( bI (F_Scen_hasSpark b4 p2 M2) (fun r6 M5 => if r6 = 0 then (some (some (.int (-2)), M5)) else (if p1 = p2 then (some (some (.int p1), M5)) else (if (p1 >>> (4 &&& 31)) = (p2 >>> (4 &&& 31)) then (some (some (.int (p1 &&& (-16))), M5)) else (if (p1 >>> (8 &&& 31)) = (p2 >>> (8 &&& 31)) then (some (some (.int (p1 &&& (-256))), M5)) else (some (some (.int (-1)), M5))))))))))))
noncomputable def F_Walk_spanOf (a0 : Nat) (p1 : Int32) (p2 : Int32) (M : am_M) : am_R :=
  nm ((p1 * 5) + p2) (fun x1 => if x1 < 0 then (some (some (.int 0), M)) else (fR M a0 11 5 (fun b2 => aN M b2 (fun x3 => if x3 ≤ x1 then (some (some (.int 0), M)) else (fR M a0 11 5 (fun b4 => aI M b4 x1 (fun x5 => some (some (.int x5), M))))))))
noncomputable def F_Walk_spanBehind (a0 : Nat) (p1 : Int32) (p2 : Int32) (M : am_M) : am_R :=
  if 2 ≤ p1 then (some (some (.int 0), M)) else (fR M a0 11 0 (fun b1 => cv M b1 9 ( bI (F_Scen_ofKind b1 p2 6 M) (fun r3 M2 => if 1 ≤ r3 then (fR M2 a0 11 0 (fun b4 => cv M2 b4 9 ( bI (F_Scen_ofKind b4 p2 7 M2) (fun r6 M5 => cv M5 a0 11 ( bI (F_Walk_spanOf a0 (p1 + 1) r6 M5) (fun r8 M7 => some (some (.int r8), M7))))))) else (some (some (.int 0), M2))))))
noncomputable def F_Walk_measureSpans_L8 (k2 : Nat → Int32 → am_M → am_R) : Nat → Nat → Int32 → Int32 → am_M → am_R
  | 0, _, _, _, _ => none
  | n + 1, v0, v1, v2, M =>
    fR M v0 11 0 (fun b1 => fI M b1 9 3 (fun x2 => if x2 ≤ v2 then (nm (v1 + (-1)) (fun x3 => k2 v0 x3 M)) else (if 5 ≤ v2 then (nm (v1 + (-1)) (fun x4 => k2 v0 x4 M)) else (fR M v0 11 0 (fun b5 => cv M b5 9 ( bI (F_Scen_ofKind b5 v2 0 M) (fun r7 M6 => fR M6 v0 11 0 (fun b8 => cv M6 b8 9 ( bI (F_Scen_ofKind b8 v2 1 M6) (fun r10 M9 => nm (r7 + r10) (fun x11 => fR M9 v0 11 5 (fun b12 => cv M9 v0 11 ( bI (F_Walk_spanBehind v0 v1 v2 M9) (fun r14 M13 => tI M13 b12 ((v1 * 5) + v2) (x11 + r14) (fun M15 => nm (v2 + 1) (fun x16 => F_Walk_measureSpans_L8 k2 n v0 v1 x16 M15))))))))))))))))
noncomputable def F_Walk_measureSpans_L2  : Nat → Nat → Int32 → am_M → am_R
  | 0, _, _, _ => none
  | n + 1, v0, v1, M =>
    if v1 < 0 then (some (none, M)) else (F_Walk_measureSpans_L8 (F_Walk_measureSpans_L2 n) fu v0 v1 0 M)
noncomputable def F_Walk_measureSpans (a0 : Nat) (M : am_M) : am_R :=
  F_Walk_measureSpans_L2 fu a0 2 M
noncomputable def F_Walk_start_L16  : Nat → Nat → Int32 → Int32 → Int32 → am_M → am_R
  | 0, _, _, _, _, _ => none
  | n + 1, v0, v1, v2, v3, M =>
    if 4 ≤ v3 then (some (none, M)) else (fR M v0 11 3 (fun b4 => tI M b4 v3 0 (fun M5 => fR M5 v0 11 4 (fun b6 => tI M5 b6 v3 0 (fun M7 => fR M7 v0 11 0 (fun b8 => cv M7 b8 9 ( bI (F_Scen_isSource b8 v3 M7) (fun r10 M9 => if r10 = 0 then (nm (v3 + 1) (fun x11 => F_Walk_start_L16 n v0 v1 v2 x11 M9)) else (fR M9 v0 11 0 (fun b12 => cv M9 b12 9 ( bI (F_Scen_ofSource b12 v3 6 M9) (fun r14 M13 => fR M13 v0 11 0 (fun b15 => cv M13 b15 9 ( bI (F_Scen_ofSource b15 v3 0 M13) (fun r17 M16 => cv M16 v0 11 ( bI (F_Walk_spanOf v0 0 r17 M16) (fun r19 M18 => fR M18 v0 11 3 (fun b20 => fR M18 v0 11 0 (fun b21 => fR M18 v0 11 0 (fun b22 => cv M18 b22 9 ( bI (F_Scen_ofSource b22 v3 8 M18) (fun r24 M23 => cv M23 b21 9 ( bI (F_Scen_burstsUpTo b21 v3 ((v1 - r24) - r19) M23) (fun r26 M25 => tI M25 b20 v3 (r26 * r14) (fun M27 => fR M27 v0 11 4 (fun b28 => fR M27 v0 11 0 (fun b29 => cv M27 b29 9 ( bI (F_Scen_burstsUpTo b29 v3 (v2 - 1) M27) (fun r31 M30 => tI M30 b28 v3 (r31 * r14) (fun M32 => nm (v3 + 1) (fun x33 => F_Walk_start_L16 n v0 v1 v2 x33 M32)))))))))))))))))))))))))))))))
noncomputable def F_Walk_start (a0 : Nat) (p1 : Int32) (p2 : Int32) (M : am_M) : am_R :=
  sI M a0 11 6 p1 (fun M1 => sI M1 a0 11 7 p2 (fun M2 => cv M2 a0 11 ( bV (F_Walk_measureSpans a0 M2) (fun M3 => F_Walk_start_L16 fu a0 p1 p2 0 M3))))
noncomputable def F_Walk_startWithRoot_L30 (k10 : Nat → Int32 → Int32 → Int32 → am_M → am_R) (v0 : Nat) (v1 : Int32) (v2 : Int32) (v3 : Int32) (s0 : Nat) (s1 : Int32) (s2 : Int32) (M : am_M) : am_R :=
  tI M s0 s1 s2 (fun M3 => fR M3 v0 11 4 (fun b4 => if v3 = v1 then (tI M3 b4 v3 (v2 + 1) (fun M5 => nm (v3 + 1) (fun x6 => k10 v0 v1 v2 x6 M5))) else (tI M3 b4 v3 0 (fun M7 => nm (v3 + 1) (fun x8 => k10 v0 v1 v2 x8 M7)))))
noncomputable def F_Walk_startWithRoot_L10  : Nat → Nat → Int32 → Int32 → Int32 → am_M → am_R
  | 0, _, _, _, _, _ => none
  | n + 1, v0, v1, v2, v3, M =>
    if 4 ≤ v3 then (some (none, M)) else (fR M v0 11 3 (fun b2 => if v3 = v1 then (F_Walk_startWithRoot_L30 (F_Walk_startWithRoot_L10 n) v0 v1 v2 v3 b2 v3 v2 M) else (F_Walk_startWithRoot_L30 (F_Walk_startWithRoot_L10 n) v0 v1 v2 v3 b2 v3 0 M)))
noncomputable def F_Walk_startWithRoot (a0 : Nat) (p1 : Int32) (p2 : Int32) (M : am_M) : am_R :=
  cv M a0 11 ( bV (F_Walk_start a0 0 30001 M) (fun M1 => F_Walk_startWithRoot_L10 fu a0 p1 p2 0 M1))
noncomputable def F_Walk_sourceOfLeastRoot_L4  : Nat → Nat → Int32 → Int32 → am_M → am_R
  | 0, _, _, _, _ => none
  | n + 1, v0, v1, v2, M =>
    if 4 ≤ v2 then (some (some (.int v1), M)) else (fR M v0 11 3 (fun b1 => aI M b1 v2 (fun x2 => fR M v0 11 4 (fun b3 => aI M b3 v2 (fun x4 => if x4 ≤ x2 then (nm (v2 + 1) (fun x5 => F_Walk_sourceOfLeastRoot_L4 n v0 v1 x5 M)) else (if v1 = (-1) then (nm (v2 + 1) (fun x6 => F_Walk_sourceOfLeastRoot_L4 n v0 v2 x6 M)) else (fR M v0 11 3 (fun b7 => aI M b7 v2 (fun x8 => fR M v0 11 3 (fun b9 => aI M b9 v1 (fun x10 => if x10 ≤ x8 then (nm (v2 + 1) (fun x11 => F_Walk_sourceOfLeastRoot_L4 n v0 v1 x11 M)) else (nm (v2 + 1) (fun x12 => F_Walk_sourceOfLeastRoot_L4 n v0 v2 x12 M)))))))))))))
noncomputable def F_Walk_sourceOfLeastRoot (a0 : Nat) (M : am_M) : am_R :=
  F_Walk_sourceOfLeastRoot_L4 fu a0 (-1) 0 M
noncomputable def F_Walk_isOutside (a0 : Nat) (p1 : Nat) (M : am_M) : am_R :=
  fI M p1 10 6 (fun x1 => fI M a0 11 7 (fun x2 => if x2 ≤ x1 then (some (some (.int 1), M)) else (fI M p1 10 7 (fun x3 => fI M p1 10 5 (fun x4 => fI M p1 10 4 (fun x5 => cv M a0 11 ( bI (F_Walk_spanBehind a0 x4 x5 M) (fun r7 M6 => fI M6 a0 11 6 (fun x8 => if x8 < (x3 + r7) then (some (some (.int 0), M6)) else (some (some (.int 1), M6)))))))))))
noncomputable def F_Walk_show (a0 : Nat) (p1 : Int32) (M : am_M) : am_R :=
  if p1 < 0 then (some (none, M)) else (if 7 ≤ p1 then (some (none, M)) else (fI M a0 11 8 (fun x1 => if x1 < 0 then (some (none, M)) else (fI M a0 11 8 (fun x2 => if x2 < 7 then (fR M a0 11 1 (fun b3 => aR M b3 p1 (fun b4 => fI M b4 10 6 (fun x5 => fI M a0 11 7 (fun x6 => if x6 ≤ x5 then (some (none, M)) else (fR M a0 11 1 (fun b7 => aR M b7 p1 (fun b8 => fI M b8 10 7 (fun x9 => fI M a0 11 6 (fun x10 => if x9 ≤ x10 then (some (none, M)) else (fR M a0 11 2 (fun b11 => fI M a0 11 8 (fun x12 => tI M b11 x12 p1 (fun M13 => fI M13 a0 11 8 (fun x14 => sI M13 a0 11 8 (x14 + 1) (fun M15 => some (none, M15))))))))))))))))) else (some (none, M)))))))
noncomputable def F_Walk_stepChild_L67  : Nat → Nat → Int32 → Nat → Int32 → Int32 → am_M → am_R
  | 0, _, _, _, _, _, _ => none
  | n + 1, v0, v3, v4, v5, v6, M =>
    if v5 ≤ v6 then (some (none, M)) else (if 2 ≤ v6 then (some (none, M)) else (fR M v0 11 1 (fun b12 => aR M b12 ((v3 + 1) + v6) (fun b13 => cv M b13 10 ( bV (F_Sprk_beginAsChild b13 v4 v6 M) (fun M14 => cv M14 v0 11 ( bI (F_Walk_isOutside v0 b13 M14) (fun r16 M15 => if r16 = 0 then (cv M15 b13 10 ( bV (F_Sprk_fly b13 M15) (fun M17 => cv M17 v0 11 ( bV (F_Walk_show v0 ((v3 + 1) + v6) M17) (fun M18 => nm (v6 + 1) (fun x19 => F_Walk_stepChild_L67 n v0 v3 v4 v5 x19 M18)))))) else (nm (v6 + 1) (fun x20 => F_Walk_stepChild_L67 n v0 v3 v4 v5 x20 M15))))))))))
noncomputable def F_Walk_stepChild (a0 : Nat) (p1 : Nat) (p2 : Int32) (p3 : Int32) (M : am_M) : am_R :=
  if p3 < 0 then (some (none, M)) else (if (p3 + 2) < 7 then (fR M a0 11 1 (fun b1 => aR M b1 p3 (fun b2 => cv M b2 10 ( bV (F_Sprk_beginAsChild b2 p1 p2 M) (fun M3 => cv M3 a0 11 ( bI (F_Walk_isOutside a0 b2 M3) (fun r5 M4 => if r5 = 0 then (cv M4 b2 10 ( bV (F_Sprk_fly b2 M4) (fun M6 => cv M6 a0 11 ( bV (F_Walk_show a0 p3 M6) (fun M7 => fR M7 a0 11 0 (fun b8 => fI M7 b2 10 4 (fun x9 => cv M7 b8 9 ( bI (F_Scen_ofKind b8 x9 6 M7) (fun r11 M10 => F_Walk_stepChild_L67 fu a0 p3 b2 r11 0 M10))))))))) else (some (none, M4))))))))) else (some (none, M)))
noncomputable def F_Walk_stepRoot_L93  : Nat → Nat → Nat → Int32 → Int32 → am_M → am_R
  | 0, _, _, _, _, _ => none
  | n + 1, v0, v3, v4, v5, M =>
    if v4 ≤ v5 then (some (some (.int 1), M)) else (if 2 ≤ v5 then (some (some (.int 1), M)) else (nm (1 + (v5 * 3)) (fun x23 => cv M v0 11 ( bV (F_Walk_stepChild v0 v3 v5 x23 M) (fun M24 => nm (v5 + 1) (fun x25 => F_Walk_stepRoot_L93 n v0 v3 v4 x25 M24))))))
noncomputable def F_Walk_stepRoot (a0 : Nat) (M : am_M) : am_R :=
  sI M a0 11 8 0 (fun M1 => cv M1 a0 11 ( bI (F_Walk_sourceOfLeastRoot a0 M1) (fun r3 M2 => if r3 = (-1) then (some (some (.int 0), M2)) else (fR M2 a0 11 3 (fun b4 => aI M2 b4 r3 (fun x5 => fR M2 a0 11 3 (fun b6 => aI M2 b6 r3 (fun x7 => tI M2 b6 r3 (x7 + 1) (fun M8 => fR M8 a0 11 1 (fun b9 => aR M8 b9 0 (fun b10 => fR M8 a0 11 0 (fun b11 => cv M8 b11 9 ( bI (F_Scen_birthTick b11 r3 x5 M8) (fun r13 M12 => cv M12 b10 10 ( bV (F_Sprk_beginAtSource b10 r3 x5 r13 M12) (fun M14 => cv M14 a0 11 ( bI (F_Walk_isOutside a0 b10 M14) (fun r16 M15 => if r16 = 0 then (cv M15 b10 10 ( bV (F_Sprk_fly b10 M15) (fun M17 => cv M17 a0 11 ( bV (F_Walk_show a0 0 M17) (fun M18 => fR M18 a0 11 0 (fun b19 => fI M18 b10 10 4 (fun x20 => cv M18 b19 9 ( bI (F_Scen_ofKind b19 x20 6 M18) (fun r22 M21 => F_Walk_stepRoot_L93 fu a0 b10 r22 0 M21))))))))) else (some (some (.int 1), M15))))))))))))))))))))
noncomputable def F_Walk_shown_L28  (v0 : Nat) (s0 : Int32) (M : am_M) : am_R :=
  fR M v0 11 1 (fun b1 => if s0 < 0 then (aR M b1 0 (fun b2 => some (some (.ref b2), M))) else (if 7 ≤ s0 then (aR M b1 0 (fun b3 => some (some (.ref b3), M))) else (aR M b1 s0 (fun b4 => some (some (.ref b4), M)))))
noncomputable def F_Walk_shown_L27  (v0 : Nat) (M : am_M) : am_R :=
  F_Walk_shown_L28 v0 0 M
noncomputable def F_Walk_shown (a0 : Nat) (p1 : Int32) (M : am_M) : am_R :=
  if p1 < 0 then (F_Walk_shown_L27 a0 M) else (fI M a0 11 8 (fun x5 => if x5 ≤ p1 then (F_Walk_shown_L27 a0 M) else (if 7 ≤ p1 then (F_Walk_shown_L27 a0 M) else (fR M a0 11 2 (fun b6 => aI M b6 p1 (fun x7 => F_Walk_shown_L28 a0 x7 M))))))
noncomputable def F_NS_comesOf_L26  (v0 : Int32) (v1 : Int32) (s0 : Int32) (M : am_M) : am_R :=
  if (v0 &&& (s0 ^^^ (-1))) = v1 then (some (some (.int 1), M)) else (some (some (.int 0), M))
noncomputable def F_NS_comesOf (p1 : Int32) (p2 : Int32) (M : am_M) : am_R :=
  bI (F_NS_generationOf p2 M) (fun r2 M1 => if r2 = 0 then (F_NS_comesOf_L26 p1 p2 255 M1) else (if r2 = 1 then (F_NS_comesOf_L26 p1 p2 15 M1) else (F_NS_comesOf_L26 p1 p2 0 M1)))
noncomputable def F_NS_line_L56  : Nat → Nat → Int32 → Int32 → Int32 → Int32 → Int32 → am_M → am_R
  | 0, _, _, _, _, _, _, _ => none
  | n + 1, v0, v1, v2, v3, v4, v5, M =>
    fR M v0 12 6 (fun b13 => fI M b13 11 8 (fun x14 => if x14 ≤ v5 then (if v2 = 0 then (some (some (.int v3), M)) else (some (some (.int v4), M))) else (fR M v0 12 6 (fun b15 => cv M b15 11 ( bR (F_Walk_shown b15 v5 M) (fun M16 => none) (fun b17 M16 => fI M16 b17 10 3 (fun x18 => bI (F_NS_comesOf x18 v1 M16) (fun r20 M19 => if r20 = 0 then (nm (v5 + 1) (fun x21 => F_NS_line_L56 n v0 v1 v2 v3 v4 x21 M19)) else (nm (v3 + 1) (fun x22 => fI M19 b17 10 7 (fun x23 => bI (F_Math_max v4 x23 M19) (fun r25 M24 => nm (v5 + 1) (fun x26 => F_NS_line_L56 n v0 v1 v2 x22 r25 x26 M24)))))))))))))
noncomputable def F_NS_line (a0 : Nat) (p1 : Int32) (p2 : Int32) (M : am_M) : am_R :=
  fR M a0 12 2 (fun b1 => cv M b1 9 ( bI (F_Scen_hasSpark b1 p1 M) (fun r3 M2 => if r3 = 0 then (some (some (.int (-2)), M2)) else (if p2 < 0 then (some (some (.int (-2)), M2)) else (if p2 ≤ 1 then (fR M2 a0 12 6 (fun b4 => bI (F_NS_sourceOf p1 M2) (fun r6 M5 => bI (F_NS_numberOf p1 M5) (fun r8 M7 => cv M7 b4 11 ( bV (F_Walk_startWithRoot b4 r6 r8 M7) (fun M9 => fR M9 a0 12 6 (fun b10 => cv M9 b10 11 ( bI (F_Walk_stepRoot b10 M9) (fun r12 M11 => if r12 = 0 then (if p2 = 0 then (some (some (.int 0), M11)) else (some (some (.int 0), M11))) else (F_NS_line_L56 fu a0 p1 p2 0 0 0 M11)))))))))) else (some (some (.int (-2)), M2)))))))
noncomputable def F_Outp_clear (a0 : Nat) (M : am_M) : am_R :=
  sI M a0 7 1 0 (fun M1 => some (none, M1))
noncomputable def F_Outp_put (a0 : Nat) (p1 : Int32) (M : am_M) : am_R :=
  fI M a0 7 1 (fun x1 => if x1 < 0 then (some (none, M)) else (fI M a0 7 1 (fun x2 => fR M a0 7 0 (fun b3 => aN M b3 (fun x4 => if x4 ≤ x2 then (some (none, M)) else (fR M a0 7 0 (fun b5 => fI M a0 7 1 (fun x6 => tI M b5 x6 p1 (fun M7 => fI M7 a0 7 1 (fun x8 => sI M7 a0 7 1 (x8 + 1) (fun M9 => some (none, M9))))))))))))
noncomputable def F_Outp_putNumber_L31  : Nat → Nat → Int32 → Int32 → Int32 → am_M → am_R
  | 0, _, _, _, _, _ => none
  | n + 1, v0, v1, v2, v3, M =>
    if 10 ≤ v3 then (some (none, M)) else (if v2 ≤ 0 then (some (none, M)) else (dZ v2 ( cv M v0 7 ( bV (F_Outp_put v0 (48 + ((v1 / v2) - (v1 / v2) / 10 * 10)) M) (fun M1 => nm (v2 / 10) (fun x2 => nm (v3 + 1) (fun x3 => F_Outp_putNumber_L31 n v0 v1 x2 x3 M1)))))))
noncomputable def F_Outp_putNumber_L4  : Nat → Nat → Int32 → Int32 → Int32 → am_M → am_R
  | 0, _, _, _, _, _ => none
  | n + 1, v0, v1, v2, v3, M =>
    if 9 ≤ v3 then (F_Outp_putNumber_L31 fu v0 v1 v2 0 M) else (dZ v2 ( if (v1 / v2) ≤ 9 then (F_Outp_putNumber_L31 fu v0 v1 v2 0 M) else (nm (v2 * 10) (fun x4 => nm (v3 + 1) (fun x5 => F_Outp_putNumber_L4 n v0 v1 x4 x5 M)))))
noncomputable def F_Outp_putNumber (a0 : Nat) (p1 : Int32) (M : am_M) : am_R :=
  F_Outp_putNumber_L4 fu a0 p1 1 0 M
noncomputable def F_NS_tell_L162  : Nat → Nat → Nat → Int32 → am_M → am_R
  | 0, _, _, _, _ => none
  | n + 1, v0, v2, v3, M =>
    if 3 ≤ v3 then (fR M v0 12 5 (fun b29 => fI M b29 7 1 (fun x30 => some (some (.int x30), M)))) else (fR M v0 12 5 (fun b31 => cv M b31 7 ( bV (F_Outp_put b31 32 M) (fun M32 => fR M32 v0 12 5 (fun b33 => cv M32 v2 10 ( bI (F_Sprk_placeAt v2 v3 0 M32) (fun r35 M34 => cv M34 b33 7 ( bV (F_Outp_putNumber b33 r35 M34) (fun M36 => nm (v3 + 1) (fun x37 => F_NS_tell_L162 n v0 v2 x37 M36))))))))))
noncomputable def F_NS_tell_L120  (v0 : Nat) (v2 : Nat) (M : am_M) : am_R :=
  fR M v0 12 5 (fun b19 => cv M b19 7 ( bV (F_Outp_put b19 32 M) (fun M20 => fR M20 v0 12 5 (fun b21 => fI M20 v2 10 6 (fun x22 => cv M20 b21 7 ( bV (F_Outp_putNumber b21 x22 M20) (fun M23 => fR M23 v0 12 5 (fun b24 => cv M23 b24 7 ( bV (F_Outp_put b24 45 M23) (fun M25 => fR M25 v0 12 5 (fun b26 => fI M25 v2 10 7 (fun x27 => cv M25 b26 7 ( bV (F_Outp_putNumber b26 x27 M25) (fun M28 => F_NS_tell_L162 fu v0 v2 0 M28))))))))))))))
noncomputable def F_NS_tell_L90  (v0 : Nat) (v1 : Int32) (v2 : Nat) (M : am_M) : am_R :=
  fI M v2 10 5 (fun x18 => if x18 ≤ 1 then (F_NS_tell_L120 v0 v2 M) else (fR M v0 12 5 (fun b38 => cv M b38 7 ( bV (F_Outp_put b38 46 M) (fun M39 => fR M39 v0 12 5 (fun b40 => cv M39 b40 7 ( bV (F_Outp_putNumber b40 ((v1 &&& 15) - 1) M39) (fun M41 => F_NS_tell_L120 v0 v2 M41))))))))
noncomputable def F_NS_tell (a0 : Nat) (p1 : Int32) (M : am_M) : am_R :=
  fR M a0 12 8 (fun b1 => cv M b1 4 ( bR (F_Find_find b1 p1 M) (fun M2 => some (some (.int (-2)), M2)) (fun b3 M2 => fR M2 a0 12 5 (fun b4 => cv M2 b4 7 ( bV (F_Outp_clear b4 M2) (fun M5 => fR M5 a0 12 5 (fun b6 => fI M5 b3 10 4 (fun x7 => cv M5 b6 7 ( bV (F_Outp_put b6 (97 + x7) M5) (fun M8 => fR M8 a0 12 5 (fun b9 => bI (F_NS_sourceOf p1 M8) (fun r11 M10 => cv M10 b9 7 ( bV (F_Outp_putNumber b9 r11 M10) (fun M12 => fR M12 a0 12 5 (fun b13 => bI (F_NS_numberOf p1 M12) (fun r15 M14 => cv M14 b13 7 ( bV (F_Outp_putNumber b13 r15 M14) (fun M16 => fI M16 b3 10 5 (fun x17 => if x17 ≤ 0 then (F_NS_tell_L90 a0 p1 b3 M16) else (fR M16 a0 12 5 (fun b42 => cv M16 b42 7 ( bV (F_Outp_put b42 46 M16) (fun M43 => fR M43 a0 12 5 (fun b44 => cv M43 b44 7 ( bV (F_Outp_putNumber b44 (((p1 >>> (4 &&& 31)) &&& 15) - 1) M43) (fun M45 => F_NS_tell_L90 a0 p1 b3 M45))))))))))))))))))))))))))
noncomputable def F_Outp_byteAt (a0 : Nat) (p1 : Int32) (M : am_M) : am_R :=
  if p1 < 0 then (some (some (.int (-1)), M)) else (fI M a0 7 1 (fun x1 => if x1 ≤ p1 then (some (some (.int (-1)), M)) else (fR M a0 7 0 (fun b2 => aI M b2 p1 (fun x3 => some (some (.int x3), M))))))
noncomputable def F_NS_octet (a0 : Nat) (p1 : Int32) (M : am_M) : am_R :=
  fR M a0 12 5 (fun b1 => cv M b1 7 ( bI (F_Outp_byteAt b1 p1 M) (fun r3 M2 => some (some (.int r3), M2))))
noncomputable def F_NS_isWindow (a0 : Nat) (p1 : Int32) (p2 : Int32) (M : am_M) : am_R :=
  fR M a0 12 2 (fun b1 => fI M b1 9 7 (fun x2 => if x2 = 0 then (some (some (.int 0), M)) else (if p1 < 0 then (some (some (.int 0), M)) else (if p2 < p1 then (some (some (.int 0), M)) else (if 30001 < p2 then (some (some (.int 0), M)) else (some (some (.int 1), M)))))))
noncomputable def F_Scen_bornBefore_L48  : Nat → Nat → Int32 → Int32 → Int32 → Int32 → Int32 → am_M → am_R
  | 0, _, _, _, _, _, _, _ => none
  | n + 1, v0, v1, v2, v5, v6, v7, M =>
    if v5 ≤ v7 then (some (some (.int v6), M)) else (cv M v0 9 ( bI (F_Scen_birthTick v0 v1 v7 M) (fun r12 M11 => if v2 ≤ r12 then (nm (v7 + 1) (fun x13 => F_Scen_bornBefore_L48 n v0 v1 v2 v5 v6 x13 M11)) else (nm (v6 + 1) (fun x14 => nm (v7 + 1) (fun x15 => F_Scen_bornBefore_L48 n v0 v1 v2 v5 x14 x15 M11))))))
noncomputable def F_Scen_bornBefore (a0 : Nat) (p1 : Int32) (p2 : Int32) (M : am_M) : am_R :=
  cv M a0 9 ( bI (F_Scen_ofSource a0 p1 6 M) (fun r2 M1 => cv M1 a0 9 ( bI (F_Scen_ofSource a0 p1 8 M1) (fun r4 M3 => cv M3 a0 9 ( bI (F_Scen_burstsUpTo a0 p1 ((p2 - 1) - r4) M3) (fun r6 M5 => nm (r6 * r2) (fun x7 => cv M5 a0 9 ( bI (F_Scen_burstsUpTo a0 p1 (p2 - 1) M5) (fun r9 M8 => nm (r9 * r2) (fun x10 => F_Scen_bornBefore_L48 fu a0 p1 p2 x10 x7 x7 M8))))))))))
noncomputable def F_NS_births (a0 : Nat) (p1 : Int32) (p2 : Int32) (p3 : Int32) (M : am_M) : am_R :=
  fR M a0 12 2 (fun b1 => cv M b1 9 ( bI (F_Scen_isSource b1 p1 M) (fun r3 M2 => if r3 = 0 then (some (some (.int (-2)), M2)) else (cv M2 a0 12 ( bI (F_NS_isWindow a0 p2 p3 M2) (fun r5 M4 => if r5 = 0 then (some (some (.int (-2)), M4)) else (fR M4 a0 12 2 (fun b6 => cv M4 b6 9 ( bI (F_Scen_bornBefore b6 p1 p3 M4) (fun r8 M7 => fR M7 a0 12 2 (fun b9 => cv M7 b9 9 ( bI (F_Scen_bornBefore b9 p1 p2 M7) (fun r11 M10 => some (some (.int (r8 - r11)), M10))))))))))))))
noncomputable def F_Scen_tickOfBirth_L21  : Nat → Nat → Int32 → Int32 → Int32 → Int32 → Int32 → am_M → am_R
  | 0, _, _, _, _, _, _, _ => none
  | n + 1, v0, v1, v2, v3, v4, v5, M =>
    if 32 ≤ v5 then (some (some (.int v3), M)) else (if v4 ≤ v3 then (some (some (.int v3), M)) else (nm ((v3 + v4) / 2) (fun x6 => cv M v0 9 ( bI (F_Scen_bornBefore v0 v1 (x6 + 1) M) (fun r8 M7 => if r8 ≤ v2 then (nm (x6 + 1) (fun x9 => nm (v5 + 1) (fun x10 => F_Scen_tickOfBirth_L21 n v0 v1 v2 x9 v4 x10 M7))) else (nm (v5 + 1) (fun x11 => F_Scen_tickOfBirth_L21 n v0 v1 v2 v3 x6 x11 M7)))))))
noncomputable def F_Scen_tickOfBirth (a0 : Nat) (p1 : Int32) (p2 : Int32) (M : am_M) : am_R :=
  cv M a0 9 ( bI (F_Scen_plannedTick a0 p1 p2 M) (fun r2 M1 => cv M1 a0 9 ( bI (F_Scen_ofSource a0 p1 8 M1) (fun r4 M3 => nm (r2 + r4) (fun x5 => F_Scen_tickOfBirth_L21 fu a0 p1 p2 r2 x5 0 M3)))))
noncomputable def F_Scen_codeOfBirth_L58  : Nat → Nat → Int32 → Int32 → Int32 → Int32 → Int32 → am_M → am_R
  | 0, _, _, _, _, _, _, _ => none
  | n + 1, v0, v1, v3, v4, v6, v7, M =>
    if v6 ≤ v7 then (some (some (.int (-1)), M)) else (cv M v0 9 ( bI (F_Scen_birthTick v0 v1 v7 M) (fun r17 M16 => if r17 = v3 then (if v4 = 0 then (bI (F_NS_codeOfRoot v1 v7 M16) (fun r19 M18 => some (some (.int r19), M18))) else (nm (v4 + (-1)) (fun x20 => nm (v7 + 1) (fun x21 => F_Scen_codeOfBirth_L58 n v0 v1 v3 x20 v6 x21 M16)))) else (nm (v7 + 1) (fun x22 => F_Scen_codeOfBirth_L58 n v0 v1 v3 v4 v6 x22 M16)))))
noncomputable def F_Scen_codeOfBirth (a0 : Nat) (p1 : Int32) (p2 : Int32) (M : am_M) : am_R :=
  cv M a0 9 ( bI (F_Scen_tickOfBirth a0 p1 p2 M) (fun r2 M1 => cv M1 a0 9 ( bI (F_Scen_bornBefore a0 p1 r2 M1) (fun r4 M3 => nm (p2 - r4) (fun x5 => cv M3 a0 9 ( bI (F_Scen_ofSource a0 p1 6 M3) (fun r7 M6 => cv M6 a0 9 ( bI (F_Scen_burstsUpTo a0 p1 r2 M6) (fun r9 M8 => nm (r9 * r7) (fun x10 => cv M8 a0 9 ( bI (F_Scen_ofSource a0 p1 8 M8) (fun r12 M11 => cv M11 a0 9 ( bI (F_Scen_burstsUpTo a0 p1 ((r2 - 1) - r12) M11) (fun r14 M13 => nm (r14 * r7) (fun x15 => F_Scen_codeOfBirth_L58 fu a0 p1 r2 x5 x10 x15 M13)))))))))))))))
noncomputable def F_NS_bornAs (a0 : Nat) (p1 : Int32) (p2 : Int32) (M : am_M) : am_R :=
  fR M a0 12 2 (fun b1 => cv M b1 9 ( bI (F_Scen_isSource b1 p1 M) (fun r3 M2 => if r3 = 0 then (some (some (.int (-2)), M2)) else (if 0 ≤ p2 then (fR M2 a0 12 2 (fun b4 => cv M2 b4 9 ( bI (F_Scen_ofSource b4 p1 9 M2) (fun r6 M5 => if r6 ≤ p2 then (some (some (.int (-1)), M5)) else (fR M5 a0 12 2 (fun b7 => cv M5 b7 9 ( bI (F_Scen_codeOfBirth b7 p1 p2 M5) (fun r9 M8 => some (some (.int r9), M8))))))))) else (some (some (.int (-2)), M2))))))
noncomputable def F_NS_latest (a0 : Nat) (p1 : Int32) (p2 : Int32) (M : am_M) : am_R :=
  fR M a0 12 2 (fun b1 => cv M b1 9 ( bI (F_Scen_isSource b1 p1 M) (fun r3 M2 => if r3 = 0 then (some (some (.int (-2)), M2)) else (bI (F_NS_isTick p2 M2) (fun r5 M4 => if r5 = 0 then (some (some (.int (-2)), M4)) else (fR M4 a0 12 2 (fun b6 => cv M4 b6 9 ( bI (F_Scen_bornBefore b6 p1 (p2 + 1) M4) (fun r8 M7 => if r8 ≤ 0 then (some (some (.int (-1)), M7)) else (fR M7 a0 12 2 (fun b9 => cv M7 b9 9 ( bI (F_Scen_codeOfBirth b9 p1 (r8 - 1) M7) (fun r11 M10 => some (some (.int r11), M10))))))))))))))
noncomputable def F_NS_next (a0 : Nat) (p1 : Int32) (p2 : Int32) (M : am_M) : am_R :=
  fR M a0 12 2 (fun b1 => cv M b1 9 ( bI (F_Scen_isSource b1 p1 M) (fun r3 M2 => if r3 = 0 then (some (some (.int (-2)), M2)) else (bI (F_NS_isTick p2 M2) (fun r5 M4 => if r5 = 0 then (some (some (.int (-2)), M4)) else (fR M4 a0 12 2 (fun b6 => cv M4 b6 9 ( bI (F_Scen_bornBefore b6 p1 p2 M4) (fun r8 M7 => fR M7 a0 12 2 (fun b9 => cv M7 b9 9 ( bI (F_Scen_ofSource b9 p1 9 M7) (fun r11 M10 => if r11 ≤ r8 then (some (some (.int (-1)), M10)) else (fR M10 a0 12 2 (fun b12 => cv M10 b12 9 ( bI (F_Scen_tickOfBirth b12 p1 r8 M10) (fun r14 M13 => some (some (.int r14), M13)))))))))))))))))
noncomputable def F_Scen_countBirths_L49  : Nat → Nat → Int32 → Int32 → Nat → Int32 → Int32 → am_M → am_R
  | 0, _, _, _, _, _, _, _ => none
  | n + 1, v0, v1, v2, v4, v6, v7, M =>
    if v6 ≤ v7 then (some (none, M)) else (cv M v0 9 ( bI (F_Scen_birthTick v0 v1 v7 M) (fun r13 M12 => nm (r13 - v2) (fun x14 => if x14 < 0 then (nm (v7 + 1) (fun x15 => F_Scen_countBirths_L49 n v0 v1 v2 v4 v6 x15 M12)) else (aN M12 v4 (fun x16 => if x16 ≤ x14 then (nm (v7 + 1) (fun x17 => F_Scen_countBirths_L49 n v0 v1 v2 v4 v6 x17 M12)) else (aI M12 v4 x14 (fun x18 => tI M12 v4 x14 (x18 + 1) (fun M19 => nm (v7 + 1) (fun x20 => F_Scen_countBirths_L49 n v0 v1 v2 v4 v6 x20 M19))))))))))
noncomputable def F_Scen_countBirths (a0 : Nat) (p1 : Int32) (p2 : Int32) (p3 : Int32) (p4 : Nat) (M : am_M) : am_R :=
  bV (F_Arr_fill p4 0 M) (fun M1 => cv M1 a0 9 ( bI (F_Scen_ofSource a0 p1 6 M1) (fun r3 M2 => cv M2 a0 9 ( bI (F_Scen_burstsUpTo a0 p1 (p3 - 1) M2) (fun r5 M4 => nm (r5 * r3) (fun x6 => cv M4 a0 9 ( bI (F_Scen_ofSource a0 p1 8 M4) (fun r8 M7 => cv M7 a0 9 ( bI (F_Scen_burstsUpTo a0 p1 ((p2 - 1) - r8) M7) (fun r10 M9 => nm (r10 * r3) (fun x11 => F_Scen_countBirths_L49 fu a0 p1 p2 p4 x6 x11 M9)))))))))))
noncomputable def F_NS_lull_L110 (k74 : Nat → Int32 → Int32 → Int32 → Int32 → Int32 → Int32 → Int32 → am_M → am_R) (v0 : Nat) (v2 : Int32) (v3 : Int32) (v4 : Int32) (v5 : Int32) (v6 : Int32) (v8 : Int32) (s0 : Int32) (M : am_M) : am_R :=
  if s0 ≤ v5 then (nm (v8 + 1) (fun x13 => k74 v0 v2 v3 v4 v5 v6 s0 x13 M)) else (nm (((v2 + v8) - s0) + 1) (fun x14 => nm (v8 + 1) (fun x15 => k74 v0 v2 v3 v4 s0 x14 s0 x15 M)))
noncomputable def F_NS_lull_L74  : Nat → Nat → Int32 → Int32 → Int32 → Int32 → Int32 → Int32 → Int32 → am_M → am_R
  | 0, _, _, _, _, _, _, _, _, _ => none
  | n + 1, v0, v2, v3, v4, v5, v6, v7, v8, M =>
    if (v3 - v2) ≤ v8 then (if v4 = 0 then (some (some (.int v5), M)) else (some (some (.int v6), M))) else (fR M v0 12 10 (fun b9 => aN M b9 (fun x10 => if x10 ≤ v8 then (if v4 = 0 then (some (some (.int v5), M)) else (some (some (.int v6), M))) else (fR M v0 12 10 (fun b11 => aI M b11 v8 (fun x12 => if x12 = 0 then (F_NS_lull_L110 (F_NS_lull_L74 n) v0 v2 v3 v4 v5 v6 v8 (v7 + 1) M) else (F_NS_lull_L110 (F_NS_lull_L74 n) v0 v2 v3 v4 v5 v6 v8 0 M)))))))
noncomputable def F_NS_lull (a0 : Nat) (p1 : Int32) (p2 : Int32) (p3 : Int32) (p4 : Int32) (M : am_M) : am_R :=
  fR M a0 12 2 (fun b1 => cv M b1 9 ( bI (F_Scen_isSource b1 p1 M) (fun r3 M2 => if r3 = 0 then (some (some (.int (-2)), M2)) else (cv M2 a0 12 ( bI (F_NS_isWindow a0 p2 p3 M2) (fun r5 M4 => if r5 = 0 then (some (some (.int (-2)), M4)) else (if p2 = p3 then (some (some (.int (-2)), M4)) else (if 2000 < (p3 - p2) then (some (some (.int (-2)), M4)) else (if p4 < 0 then (some (some (.int (-2)), M4)) else (if p4 ≤ 1 then (fR M4 a0 12 2 (fun b6 => fR M4 a0 12 10 (fun b7 => cv M4 b6 9 ( bV (F_Scen_countBirths b6 p1 p2 p3 b7 M4) (fun M8 => F_NS_lull_L74 fu a0 p2 p3 p4 0 (-1) 0 0 M8))))) else (some (some (.int (-2)), M4))))))))))))
noncomputable def F_NS_endings_L58 (k37 : Nat → Int32 → Int32 → Int32 → Int32 → am_M → am_R) : Nat → Nat → Int32 → Int32 → Int32 → Int32 → Int32 → am_M → am_R
  | 0, _, _, _, _, _, _, _ => none
  | n + 1, v0, v1, v2, v3, v4, v5, M =>
    fR M v0 12 6 (fun b8 => fI M b8 11 8 (fun x9 => if x9 ≤ v5 then (nm (v4 + 1) (fun x10 => k37 v0 v1 v2 v3 x10 M)) else (fR M v0 12 6 (fun b11 => cv M b11 11 ( bR (F_Walk_shown b11 v5 M) (fun M12 => none) (fun b13 M12 => fI M12 b13 10 7 (fun x14 => if x14 < v1 then (nm (v5 + 1) (fun x15 => F_NS_endings_L58 k37 n v0 v1 v2 v3 v4 x15 M12)) else (if v2 ≤ x14 then (nm (v5 + 1) (fun x16 => F_NS_endings_L58 k37 n v0 v1 v2 v3 v4 x16 M12)) else (nm (v3 + 1) (fun x17 => nm (v5 + 1) (fun x18 => F_NS_endings_L58 k37 n v0 v1 v2 x17 v4 x18 M12)))))))))))
noncomputable def F_NS_endings_L37  : Nat → Nat → Int32 → Int32 → Int32 → Int32 → am_M → am_R
  | 0, _, _, _, _, _, _ => none
  | n + 1, v0, v1, v2, v3, v4, M =>
    if 1000000 ≤ v4 then (some (some (.int v3), M)) else (fR M v0 12 6 (fun b5 => cv M b5 11 ( bI (F_Walk_stepRoot b5 M) (fun r7 M6 => if r7 = 0 then (some (some (.int v3), M6)) else (F_NS_endings_L58 (F_NS_endings_L37 n) fu v0 v1 v2 v3 v4 0 M6)))))
noncomputable def F_NS_endings (a0 : Nat) (p1 : Int32) (p2 : Int32) (M : am_M) : am_R :=
  cv M a0 12 ( bI (F_NS_isWindow a0 p1 p2 M) (fun r2 M1 => if r2 = 0 then (some (some (.int (-2)), M1)) else (if (p2 - p1) ≤ 300 then (fR M1 a0 12 6 (fun b3 => cv M1 b3 11 ( bV (F_Walk_start b3 (p1 - 1) p2 M1) (fun M4 => F_NS_endings_L37 fu a0 p1 p2 0 0 M4)))) else (some (some (.int (-2)), M1)))))
noncomputable def F_NS_countComingAndGoing_L39 (k19 : Nat → Int32 → Int32 → Int32 → am_M → am_R) : Nat → Nat → Int32 → Int32 → Int32 → Int32 → am_M → am_R
  | 0, _, _, _, _, _, _ => none
  | n + 1, v0, v1, v2, v3, v4, M =>
    fR M v0 12 6 (fun b8 => fI M b8 11 8 (fun x9 => if x9 ≤ v4 then (nm (v3 + 1) (fun x10 => k19 v0 v1 v2 x10 M)) else (fR M v0 12 6 (fun b11 => cv M b11 11 ( bR (F_Walk_shown b11 v4 M) (fun M12 => none) (fun b13 M12 => fI M12 b13 10 6 (fun x14 => bI (F_Math_max x14 v1 M12) (fun r16 M15 => nm (r16 - v1) (fun x17 => fI M15 b13 10 7 (fun x18 => bI (F_Math_min x18 v2 M15) (fun r20 M19 => nm (r20 - v1) (fun x21 => if x17 < 0 then (nm (v4 + 1) (fun x22 => F_NS_countComingAndGoing_L39 k19 n v0 v1 v2 v3 x22 M19)) else (if x21 ≤ x17 then (nm (v4 + 1) (fun x23 => F_NS_countComingAndGoing_L39 k19 n v0 v1 v2 v3 x23 M19)) else (fR M19 v0 12 10 (fun b24 => aN M19 b24 (fun x25 => if x25 ≤ x21 then (nm (v4 + 1) (fun x26 => F_NS_countComingAndGoing_L39 k19 n v0 v1 v2 v3 x26 M19)) else (fR M19 v0 12 10 (fun b27 => aI M19 b27 x17 (fun x28 => tI M19 b27 x17 (x28 + 1) (fun M29 => fR M29 v0 12 10 (fun b30 => aI M29 b30 x21 (fun x31 => tI M29 b30 x21 (x31 - 1) (fun M32 => nm (v4 + 1) (fun x33 => F_NS_countComingAndGoing_L39 k19 n v0 v1 v2 v3 x33 M32))))))))))))))))))))))))
noncomputable def F_NS_countComingAndGoing_L19  : Nat → Nat → Int32 → Int32 → Int32 → am_M → am_R
  | 0, _, _, _, _, _ => none
  | n + 1, v0, v1, v2, v3, M =>
    if 1000000 ≤ v3 then (some (none, M)) else (fR M v0 12 6 (fun b5 => cv M b5 11 ( bI (F_Walk_stepRoot b5 M) (fun r7 M6 => if r7 = 0 then (some (none, M6)) else (F_NS_countComingAndGoing_L39 (F_NS_countComingAndGoing_L19 n) fu v0 v1 v2 v3 0 M6)))))
noncomputable def F_NS_countComingAndGoing (a0 : Nat) (p1 : Int32) (p2 : Int32) (M : am_M) : am_R :=
  fR M a0 12 10 (fun b1 => bV (F_Arr_fill b1 0 M) (fun M2 => fR M2 a0 12 6 (fun b3 => cv M2 b3 11 ( bV (F_Walk_start b3 p1 p2 M2) (fun M4 => F_NS_countComingAndGoing_L19 fu a0 p1 p2 0 M4)))))
noncomputable def F_NS_peak_L52  : Nat → Nat → Int32 → Int32 → Int32 → Int32 → Int32 → Int32 → Int32 → am_M → am_R
  | 0, _, _, _, _, _, _, _, _, _ => none
  | n + 1, v0, v1, v2, v3, v4, v5, v6, v7, M =>
    if v2 ≤ v7 then (if v3 = 0 then (some (some (.int v6), M)) else (some (some (.int v5), M))) else (fR M v0 12 10 (fun b4 => aN M b4 (fun x5 => if x5 ≤ (v7 - v1) then (if v3 = 0 then (some (some (.int v6), M)) else (some (some (.int v5), M))) else (fR M v0 12 10 (fun b6 => aI M b6 (v7 - v1) (fun x7 => nm (v4 + x7) (fun x8 => if x8 ≤ v5 then (nm (v7 + 1) (fun x9 => F_NS_peak_L52 n v0 v1 v2 v3 x8 v5 v6 x9 M)) else (nm (v7 + 1) (fun x10 => F_NS_peak_L52 n v0 v1 v2 v3 x8 x8 v7 x10 M)))))))))
noncomputable def F_NS_peak (a0 : Nat) (p1 : Int32) (p2 : Int32) (p3 : Int32) (M : am_M) : am_R :=
  cv M a0 12 ( bI (F_NS_isWindow a0 p1 p2 M) (fun r2 M1 => if r2 = 0 then (some (some (.int (-2)), M1)) else (if p1 = p2 then (some (some (.int (-2)), M1)) else (if 60 < (p2 - p1) then (some (some (.int (-2)), M1)) else (if p3 < 0 then (some (some (.int (-2)), M1)) else (if p3 ≤ 1 then (cv M1 a0 12 ( bV (F_NS_countComingAndGoing a0 p1 p2 M1) (fun M3 => F_NS_peak_L52 fu a0 p1 p2 p3 0 (-1) p1 p1 M3))) else (some (some (.int (-2)), M1))))))))
noncomputable def F_Scen_isCell (a0 : Nat) (p1 : Int32) (p2 : Int32) (M : am_M) : am_R :=
  if p2 < 0 then (some (some (.int 0), M)) else (cv M a0 9 ( bI (F_Scen_cellsAlong a0 p1 M) (fun r2 M1 => if r2 ≤ p2 then (some (some (.int 0), M1)) else (some (some (.int 1), M1)))))
noncomputable def F_Sprk_firstInColumn_L20  : Nat → Nat → Int32 → Int32 → Int32 → Int32 → Int32 → am_M → am_R
  | 0, _, _, _, _, _, _, _ => none
  | n + 1, v0, v2, v3, v4, v5, v6, M =>
    if v5 ≤ v6 then (some (some (.int v2), M)) else (fI M v0 10 6 (fun x7 => nm (v6 - x7) (fun x8 => cv M v0 10 ( bI (F_Sprk_placeAt v0 0 x8 M) (fun r10 M9 => if (r10 / 8) = v3 then (cv M9 v0 10 ( bI (F_Sprk_placeAt v0 1 x8 M9) (fun r12 M11 => if (r12 / 8) = v4 then (some (some (.int v6), M11)) else (nm (v6 + 1) (fun x13 => F_Sprk_firstInColumn_L20 n v0 v2 v3 v4 v5 x13 M11))))) else (nm (v6 + 1) (fun x14 => F_Sprk_firstInColumn_L20 n v0 v2 v3 v4 v5 x14 M9)))))))
noncomputable def F_Sprk_firstInColumn (a0 : Nat) (p1 : Int32) (p2 : Int32) (p3 : Int32) (p4 : Int32) (M : am_M) : am_R :=
  fI M a0 10 7 (fun x1 => bI (F_Math_min p2 x1 M) (fun r3 M2 => fI M2 a0 10 6 (fun x4 => bI (F_Math_max p1 x4 M2) (fun r6 M5 => F_Sprk_firstInColumn_L20 fu a0 p2 p3 p4 r3 r6 M5))))
noncomputable def F_NS_firstIn_L84 (k63 : Nat → Int32 → Int32 → Int32 → Int32 → Int32 → Int32 → am_M → am_R) : Nat → Nat → Int32 → Int32 → Int32 → Int32 → Int32 → Int32 → Int32 → am_M → am_R
  | 0, _, _, _, _, _, _, _, _, _ => none
  | n + 1, v0, v1, v2, v3, v4, v5, v6, v7, M =>
    fR M v0 12 6 (fun b16 => fI M b16 11 8 (fun x17 => if x17 ≤ v7 then (nm (v6 + 1) (fun x18 => k63 v0 v1 v2 v3 v4 v5 x18 M)) else (fR M v0 12 6 (fun b19 => cv M b19 11 ( bR (F_Walk_shown b19 v7 M) (fun M20 => none) (fun b21 M20 => cv M20 b21 10 ( bI (F_Sprk_firstInColumn b21 v1 v5 v2 v3 M20) (fun r23 M22 => nm (v7 + 1) (fun x24 => F_NS_firstIn_L84 k63 n v0 v1 v2 v3 v4 r23 v6 x24 M22)))))))))
noncomputable def F_NS_firstIn_L63  : Nat → Nat → Int32 → Int32 → Int32 → Int32 → Int32 → Int32 → am_M → am_R
  | 0, _, _, _, _, _, _, _, _ => none
  | n + 1, v0, v1, v2, v3, v4, v5, v6, M =>
    if 1000000 ≤ v6 then (if v4 ≤ v5 then (some (some (.int (-1)), M)) else (some (some (.int v5), M))) else (fR M v0 12 6 (fun b13 => cv M b13 11 ( bI (F_Walk_stepRoot b13 M) (fun r15 M14 => if r15 = 0 then (if v4 ≤ v5 then (some (some (.int (-1)), M14)) else (some (some (.int v5), M14))) else (F_NS_firstIn_L84 (F_NS_firstIn_L63 n) fu v0 v1 v2 v3 v4 v5 v6 0 M14)))))
noncomputable def F_NS_firstIn (a0 : Nat) (p1 : Int32) (p2 : Int32) (p3 : Int32) (M : am_M) : am_R :=
  bI (F_NS_isTick p1 M) (fun r2 M1 => if r2 = 0 then (some (some (.int (-2)), M1)) else (fR M1 a0 12 2 (fun b3 => cv M1 b3 9 ( bI (F_Scen_isCell b3 0 p2 M1) (fun r5 M4 => if r5 = 0 then (some (some (.int (-2)), M4)) else (fR M4 a0 12 2 (fun b6 => cv M4 b6 9 ( bI (F_Scen_isCell b6 1 p3 M4) (fun r8 M7 => if r8 = 0 then (some (some (.int (-2)), M7)) else (bI (F_Math_min (p1 + 100) 30001 M7) (fun r10 M9 => fR M9 a0 12 6 (fun b11 => cv M9 b11 11 ( bV (F_Walk_start b11 p1 r10 M9) (fun M12 => F_NS_firstIn_L63 fu a0 p1 p2 p3 r10 r10 0 M12))))))))))))))
noncomputable def F_Sprk_crossings_L91 (k63 : Nat → Int32 → Int32 → Int32 → Int32 → Int32 → Int32 → am_M → am_R) (v0 : Nat) (v3 : Int32) (v4 : Int32) (v5 : Int32) (v7 : Int32) (v8 : Int32) (v9 : Int32) (s0 : Int32) (M : am_M) : am_R :=
  if s0 = v8 then (nm (v9 + 1) (fun x13 => k63 v0 v3 v4 v5 v7 s0 x13 M)) else (if s0 = v4 then (nm (v7 + 1) (fun x14 => nm (v9 + 1) (fun x15 => k63 v0 v3 v4 v5 x14 s0 x15 M))) else (nm (v9 + 1) (fun x16 => k63 v0 v3 v4 v5 v7 s0 x16 M)))
noncomputable def F_Sprk_crossings_L63  : Nat → Nat → Int32 → Int32 → Int32 → Int32 → Int32 → Int32 → am_M → am_R
  | 0, _, _, _, _, _, _, _, _ => none
  | n + 1, v0, v3, v4, v5, v7, v8, v9, M =>
    if v5 ≤ v9 then (some (some (.int v7), M)) else (fI M v0 10 6 (fun x10 => cv M v0 10 ( bI (F_Sprk_placeAt v0 0 (v9 - x10) M) (fun r12 M11 => if r12 < v3 then (F_Sprk_crossings_L91 (F_Sprk_crossings_L63 n) v0 v3 v4 v5 v7 v8 v9 0 M11) else (F_Sprk_crossings_L91 (F_Sprk_crossings_L63 n) v0 v3 v4 v5 v7 v8 v9 1 M11)))))
noncomputable def F_Sprk_crossings (a0 : Nat) (p1 : Int32) (p2 : Int32) (p3 : Int32) (p4 : Int32) (M : am_M) : am_R :=
  fI M a0 10 7 (fun x1 => bI (F_Math_min p2 x1 M) (fun r3 M2 => fI M2 a0 10 6 (fun x4 => bI (F_Math_max p1 (x4 + 1) M2) (fun r6 M5 => if r6 < r3 then (fI M5 a0 10 6 (fun x7 => cv M5 a0 10 ( bI (F_Sprk_placeAt a0 0 ((r6 - 1) - x7) M5) (fun r9 M8 => if r9 < p3 then (F_Sprk_crossings_L63 fu a0 p3 p4 r3 0 0 r6 M8) else (F_Sprk_crossings_L63 fu a0 p3 p4 r3 0 1 r6 M8))))) else (some (some (.int 0), M5))))))
noncomputable def F_NS_flux_L84 (k63 : Nat → Int32 → Int32 → Int32 → Int32 → Int32 → Int32 → am_M → am_R) : Nat → Nat → Int32 → Int32 → Int32 → Int32 → Int32 → Int32 → Int32 → am_M → am_R
  | 0, _, _, _, _, _, _, _, _, _ => none
  | n + 1, v0, v1, v2, v3, v4, v5, v6, v7, M =>
    fR M v0 12 6 (fun b11 => fI M b11 11 8 (fun x12 => if x12 ≤ v7 then (nm (v6 + 1) (fun x13 => k63 v0 v1 v2 v3 v4 v5 x13 M)) else (fR M v0 12 6 (fun b14 => cv M b14 11 ( bR (F_Walk_shown b14 v7 M) (fun M15 => if v4 = 1 then (none) else (none)) (fun b16 M15 => if v4 = 1 then (cv M15 b16 10 ( bI (F_Sprk_crossings b16 v1 v2 (v3 * 8) 1 M15) (fun r18 M17 => nm (v5 + r18) (fun x19 => nm (v7 + 1) (fun x20 => F_NS_flux_L84 k63 n v0 v1 v2 v3 v4 x19 v6 x20 M17))))) else (cv M15 b16 10 ( bI (F_Sprk_crossings b16 v1 v2 (v3 * 8) 0 M15) (fun r22 M21 => nm (v5 + r22) (fun x23 => nm (v7 + 1) (fun x24 => F_NS_flux_L84 k63 n v0 v1 v2 v3 v4 x23 v6 x24 M21)))))))))))
noncomputable def F_NS_flux_L63  : Nat → Nat → Int32 → Int32 → Int32 → Int32 → Int32 → Int32 → am_M → am_R
  | 0, _, _, _, _, _, _, _, _ => none
  | n + 1, v0, v1, v2, v3, v4, v5, v6, M =>
    if 1000000 ≤ v6 then (some (some (.int v5), M)) else (fR M v0 12 6 (fun b8 => cv M b8 11 ( bI (F_Walk_stepRoot b8 M) (fun r10 M9 => if r10 = 0 then (some (some (.int v5), M9)) else (F_NS_flux_L84 (F_NS_flux_L63 n) fu v0 v1 v2 v3 v4 v5 v6 0 M9)))))
noncomputable def F_NS_flux (a0 : Nat) (p1 : Int32) (p2 : Int32) (p3 : Int32) (p4 : Int32) (M : am_M) : am_R :=
  cv M a0 12 ( bI (F_NS_isWindow a0 p1 p2 M) (fun r2 M1 => if r2 = 0 then (some (some (.int (-2)), M1)) else (if 60 < (p2 - p1) then (some (some (.int (-2)), M1)) else (if p3 < 1 then (some (some (.int (-2)), M1)) else (fR M1 a0 12 2 (fun b3 => cv M1 b3 9 ( bI (F_Scen_cellsAlong b3 0 M1) (fun r5 M4 => if r5 ≤ p3 then (some (some (.int (-2)), M4)) else (if p4 < 0 then (some (some (.int (-2)), M4)) else (if p4 ≤ 1 then (fR M4 a0 12 6 (fun b6 => cv M4 b6 11 ( bV (F_Walk_start b6 p1 p2 M4) (fun M7 => F_NS_flux_L63 fu a0 p1 p2 p3 p4 0 0 M7)))) else (some (some (.int (-2)), M4))))))))))))
noncomputable def F_Arr_copyOf (p1 : Nat) (p2 : Int32) (M : am_M) : am_R :=
  aN M p1 (fun x1 => if p2 = x1 then (none) else (nA M 0 p2 (fun b2 M3 => aN M3 p1 (fun x4 => bI (F_Math_min x4 p2 M3) (fun r6 M5 => cpy M5 p1 0 b2 0 r6 (fun M7 => some (some (.ref b2), M7)))))))
noncomputable def F_Fram_grow (a0 : Nat) (M : am_M) : am_R :=
  fR M a0 5 4 (fun b1 => aN M b1 (fun x2 => nm (2 * x2) (fun x3 => if x3 ≤ 0 then (some (none, M)) else (if 16384 < x3 then (some (none, M)) else (fR M a0 5 3 (fun b4 => bR (F_Arr_copyOf b4 (x3 * 7) M) (fun M5 => none) (fun b6 M5 => sR M5 a0 5 3 b6 (fun M7 => nA M7 0 x3 (fun b8 M9 => sR M9 a0 5 4 b8 (fun M10 => some (none, M10)))))))))))
noncomputable def F_Fram_append_L92  : Nat → Nat → Nat → Int32 → Int32 → Int32 → am_M → am_R
  | 0, _, _, _, _, _, _ => none
  | n + 1, v0, v1, v2, v3, v4, M =>
    if 3 ≤ v4 then (fI M v0 5 2 (fun x20 => sI M v0 5 2 (x20 + 1) (fun M21 => some (none, M21)))) else (fR M v0 5 3 (fun b22 => fI M v1 10 6 (fun x23 => cv M v1 10 ( bI (F_Sprk_placeAt v1 v4 (v2 - x23) M) (fun r25 M24 => tI M24 b22 ((v3 + 4) + v4) r25 (fun M26 => nm (v4 + 1) (fun x27 => F_Fram_append_L92 n v0 v1 v2 v3 x27 M26)))))))
noncomputable def F_Fram_append_L16  (v0 : Nat) (v1 : Nat) (v2 : Int32) (M : am_M) : am_R :=
  fI M v0 5 2 (fun x4 => nm (x4 * 7) (fun x5 => if x5 < 0 then (some (none, M)) else (fR M v0 5 3 (fun b6 => aN M b6 (fun x7 => if (x5 + 7) ≤ x7 then (fR M v0 5 3 (fun b8 => fI M v1 10 3 (fun x9 => tI M b8 (x5 + 0) x9 (fun M10 => fR M10 v0 5 3 (fun b11 => fI M10 v1 10 4 (fun x12 => tI M10 b11 (x5 + 1) x12 (fun M13 => fR M13 v0 5 3 (fun b14 => fI M13 v1 10 6 (fun x15 => tI M13 b14 (x5 + 2) x15 (fun M16 => fR M16 v0 5 3 (fun b17 => fI M16 v1 10 7 (fun x18 => tI M16 b17 (x5 + 3) x18 (fun M19 => F_Fram_append_L92 fu v0 v1 v2 x5 0 M19))))))))))))) else (some (none, M)))))))
noncomputable def F_Fram_append (a0 : Nat) (p1 : Nat) (p2 : Int32) (M : am_M) : am_R :=
  fI M a0 5 2 (fun x1 => fR M a0 5 4 (fun b2 => aN M b2 (fun x3 => if x1 < x3 then (F_Fram_append_L16 a0 p1 p2 M) else (cv M a0 5 ( bV (F_Fram_grow a0 M) (fun M28 => F_Fram_append_L16 a0 p1 p2 M28))))))
noncomputable def F_Fram_ofRow (a0 : Nat) (p1 : Int32) (p2 : Int32) (M : am_M) : am_R :=
  nm ((p1 * 7) + p2) (fun x1 => if x1 < 0 then (some (some (.int 0), M)) else (fR M a0 5 3 (fun b2 => aN M b2 (fun x3 => if x3 ≤ x1 then (some (some (.int 0), M)) else (fR M a0 5 3 (fun b4 => aI M b4 x1 (fun x5 => some (some (.int x5), M))))))))
noncomputable def F_Fram_placeOf (a0 : Nat) (p1 : Int32) (p2 : Int32) (M : am_M) : am_R :=
  cv M a0 5 ( bI (F_Fram_ofRow a0 p1 (4 + p2) M) (fun r2 M1 => some (some (.int r2), M1)))
noncomputable def F_Fram_depthOf (a0 : Nat) (p1 : Int32) (M : am_M) : am_R :=
  fR M a0 5 5 (fun b1 => aN M b1 (fun x2 => cv M a0 5 ( bI (F_Fram_placeOf a0 p1 2 M) (fun r4 M3 => bI (F_Math_min (x2 - 1) r4 M3) (fun r6 M5 => bI (F_Math_max 0 r6 M5) (fun r8 M7 => some (some (.int r8), M7)))))))
noncomputable def F_Fram_putInOrder_L123 (k78 : Nat → Int32 → am_M → am_R) (v0 : Nat) (v2 : Int32) (v3 : Int32) (M : am_M) : am_R :=
  fR M v0 5 5 (fun b12 => aI M b12 v3 (fun x13 => tI M b12 v3 (x13 + 1) (fun M14 => nm (v2 + 1) (fun x15 => k78 v0 x15 M14))))
noncomputable def F_Fram_putInOrder_L78  : Nat → Nat → Int32 → am_M → am_R
  | 0, _, _, _ => none
  | n + 1, v0, v2, M =>
    fI M v0 5 2 (fun x7 => if x7 ≤ v2 then (some (none, M)) else (cv M v0 5 ( bI (F_Fram_depthOf v0 v2 M) (fun r9 M8 => fR M8 v0 5 5 (fun b10 => aI M8 b10 r9 (fun x11 => if x11 < 0 then (F_Fram_putInOrder_L123 (F_Fram_putInOrder_L78 n) v0 v2 r9 M8) else (fR M8 v0 5 4 (fun b16 => aN M8 b16 (fun x17 => if x17 ≤ x11 then (F_Fram_putInOrder_L123 (F_Fram_putInOrder_L78 n) v0 v2 r9 M8) else (fR M8 v0 5 4 (fun b18 => tI M8 b18 x11 v2 (fun M19 => F_Fram_putInOrder_L123 (F_Fram_putInOrder_L78 n) v0 v2 r9 M19))))))))))))
noncomputable def F_Fram_putInOrder_L48  : Nat → Nat → Int32 → Int32 → am_M → am_R
  | 0, _, _, _, _ => none
  | n + 1, v0, v1, v2, M =>
    if v2 < 0 then (F_Fram_putInOrder_L78 fu v0 0 M) else (fR M v0 5 5 (fun b20 => aI M b20 v2 (fun x21 => fR M v0 5 5 (fun b22 => tI M b22 v2 v1 (fun M23 => nm (v1 + x21) (fun x24 => nm (v2 + (-1)) (fun x25 => F_Fram_putInOrder_L48 n v0 x24 x25 M23)))))))
noncomputable def F_Fram_putInOrder_L10  : Nat → Nat → Int32 → am_M → am_R
  | 0, _, _, _ => none
  | n + 1, v0, v1, M =>
    fI M v0 5 2 (fun x3 => if x3 ≤ v1 then (fR M v0 5 5 (fun b4 => aN M b4 (fun x5 => nm (x5 - 1) (fun x6 => F_Fram_putInOrder_L48 fu v0 0 x6 M)))) else (fR M v0 5 5 (fun b26 => cv M v0 5 ( bI (F_Fram_depthOf v0 v1 M) (fun r28 M27 => aI M27 b26 r28 (fun x29 => tI M27 b26 r28 (x29 + 1) (fun M30 => nm (v1 + 1) (fun x31 => F_Fram_putInOrder_L10 n v0 x31 M30))))))))
noncomputable def F_Fram_putInOrder (a0 : Nat) (M : am_M) : am_R :=
  fR M a0 5 5 (fun b1 => bV (F_Arr_fill b1 0 M) (fun M2 => F_Fram_putInOrder_L10 fu a0 0 M2))
noncomputable def F_Fram_shows_L65 (k47 : Nat → Int32 → Int32 → am_M → am_R) : Nat → Nat → Int32 → Int32 → Int32 → am_M → am_R
  | 0, _, _, _, _, _ => none
  | n + 1, v0, v1, v2, v3, M =>
    fR M v0 5 1 (fun b16 => fI M b16 11 8 (fun x17 => if x17 ≤ v3 then (nm (v2 + 1) (fun x18 => k47 v0 v1 x18 M)) else (fR M v0 5 1 (fun b19 => cv M b19 11 ( bR (F_Walk_shown b19 v3 M) (fun M20 => none) (fun b21 M20 => cv M20 v0 5 ( bV (F_Fram_append v0 b21 v1 M20) (fun M22 => nm (v3 + 1) (fun x23 => F_Fram_shows_L65 k47 n v0 v1 v2 x23 M22)))))))))
noncomputable def F_Fram_shows_L47  : Nat → Nat → Int32 → Int32 → am_M → am_R
  | 0, _, _, _, _ => none
  | n + 1, v0, v1, v2, M =>
    if 1000000 ≤ v2 then (cv M v0 5 ( bV (F_Fram_putInOrder v0 M) (fun M9 => sI M9 v0 5 6 v1 (fun M10 => some (some (.int 1), M10))))) else (fR M v0 5 1 (fun b11 => cv M b11 11 ( bI (F_Walk_stepRoot b11 M) (fun r13 M12 => if r13 = 0 then (cv M12 v0 5 ( bV (F_Fram_putInOrder v0 M12) (fun M14 => sI M14 v0 5 6 v1 (fun M15 => some (some (.int 1), M15))))) else (F_Fram_shows_L65 (F_Fram_shows_L47 n) fu v0 v1 v2 0 M12)))))
noncomputable def F_Fram_shows (a0 : Nat) (p1 : Int32) (M : am_M) : am_R :=
  fR M a0 5 0 (fun b1 => fI M b1 9 7 (fun x2 => if x2 = 0 then (some (some (.int 0), M)) else (bI (F_NS_isTick p1 M) (fun r4 M3 => if r4 = 0 then (some (some (.int 0), M3)) else (fI M3 a0 5 6 (fun x5 => if p1 = x5 then (some (some (.int 1), M3)) else (sI M3 a0 5 2 0 (fun M6 => fR M6 a0 5 1 (fun b7 => cv M6 b7 11 ( bV (F_Walk_start b7 p1 (p1 + 1) M6) (fun M8 => F_Fram_shows_L47 fu a0 p1 0 M8)))))))))))
noncomputable def F_Fram_kindOf (a0 : Nat) (p1 : Int32) (M : am_M) : am_R :=
  cv M a0 5 ( bI (F_Fram_ofRow a0 p1 1 M) (fun r2 M1 => some (some (.int r2), M1)))
noncomputable def F_NS_many_L48  : Nat → Nat → Int32 → Int32 → Int32 → am_M → am_R
  | 0, _, _, _, _, _ => none
  | n + 1, v0, v2, v3, v4, M =>
    fR M v0 12 7 (fun b6 => fI M b6 5 2 (fun x7 => if x7 ≤ v4 then (some (some (.int v3), M)) else (fR M v0 12 7 (fun b8 => cv M b8 5 ( bI (F_Fram_kindOf b8 v4 M) (fun r10 M9 => if r10 = v2 then (nm (v3 + 1) (fun x11 => nm (v4 + 1) (fun x12 => F_NS_many_L48 n v0 v2 x11 x12 M9))) else (nm (v4 + 1) (fun x13 => F_NS_many_L48 n v0 v2 v3 x13 M9))))))))
noncomputable def F_NS_many_L16  (v0 : Nat) (v1 : Int32) (v2 : Int32) (M : am_M) : am_R :=
  fR M v0 12 7 (fun b1 => cv M b1 5 ( bI (F_Fram_shows b1 v1 M) (fun r3 M2 => if r3 = 0 then (some (some (.int (-2)), M2)) else (if v2 = (-1) then (fR M2 v0 12 7 (fun b4 => fI M2 b4 5 2 (fun x5 => some (some (.int x5), M2)))) else (F_NS_many_L48 fu v0 v2 0 0 M2)))))
noncomputable def F_NS_many (a0 : Nat) (p1 : Int32) (p2 : Int32) (M : am_M) : am_R :=
  if p2 = (-1) then (F_NS_many_L16 a0 p1 p2 M) else (fR M a0 12 2 (fun b14 => cv M b14 9 ( bI (F_Scen_isKind b14 p2 M) (fun r16 M15 => if r16 = 0 then (some (some (.int (-2)), M15)) else (F_NS_many_L16 a0 p1 p2 M15)))))
noncomputable def F_Fram_rowAt (a0 : Nat) (p1 : Int32) (M : am_M) : am_R :=
  if p1 < 0 then (some (some (.int 0), M)) else (fR M a0 5 4 (fun b1 => aN M b1 (fun x2 => if x2 ≤ p1 then (some (some (.int 0), M)) else (fR M a0 5 4 (fun b3 => aI M b3 p1 (fun x4 => some (some (.int x4), M)))))))
noncomputable def F_Fram_codeOf (a0 : Nat) (p1 : Int32) (M : am_M) : am_R :=
  cv M a0 5 ( bI (F_Fram_ofRow a0 p1 0 M) (fun r2 M1 => some (some (.int r2), M1)))
noncomputable def F_NS_drawn (a0 : Nat) (p1 : Int32) (p2 : Int32) (M : am_M) : am_R :=
  if p2 < 0 then (some (some (.int (-2)), M)) else (fR M a0 12 7 (fun b1 => cv M b1 5 ( bI (F_Fram_shows b1 p1 M) (fun r3 M2 => if r3 = 0 then (some (some (.int (-2)), M2)) else (fR M2 a0 12 7 (fun b4 => fI M2 b4 5 2 (fun x5 => if x5 ≤ p2 then (some (some (.int (-1)), M2)) else (fR M2 a0 12 7 (fun b6 => fR M2 a0 12 7 (fun b7 => cv M2 b7 5 ( bI (F_Fram_rowAt b7 p2 M2) (fun r9 M8 => cv M8 b6 5 ( bI (F_Fram_codeOf b6 r9 M8) (fun r11 M10 => some (some (.int r11), M10)))))))))))))))
noncomputable def F_NS_digest_L63 (k20 : Nat → Int64 → Int32 → am_M → am_R) : Nat → Nat → Int64 → Int32 → Int32 → Int32 → am_M → am_R
  | 0, _, _, _, _, _, _ => none
  | n + 1, v0, v2, v4, v5, v6, M =>
    if 3 ≤ v6 then (nm (v4 + 1) (fun x13 => k20 v0 v2 x13 M)) else (fR M v0 12 7 (fun b14 => cv M b14 5 ( bI (F_Fram_placeOf b14 v5 v6 M) (fun r16 M15 => nm ((31 * v2) + (r16.toInt64)) (fun z17 => nm (v6 + 1) (fun x18 => F_NS_digest_L63 k20 n v0 z17 v4 v5 x18 M15))))))
noncomputable def F_NS_digest_L20  : Nat → Nat → Int64 → Int32 → am_M → am_R
  | 0, _, _, _, _ => none
  | n + 1, v0, v2, v4, M =>
    fR M v0 12 7 (fun b4 => fI M b4 5 2 (fun x5 => if x5 ≤ v4 then (some (some (.long v2), M)) else (fR M v0 12 7 (fun b6 => cv M b6 5 ( bI (F_Fram_rowAt b6 v4 M) (fun r8 M7 => fR M7 v0 12 7 (fun b9 => cv M7 b9 5 ( bI (F_Fram_codeOf b9 r8 M7) (fun r11 M10 => nm ((31 * v2) + (r11.toInt64)) (fun z12 => F_NS_digest_L63 (F_NS_digest_L20 n) fu v0 z12 v4 r8 0 M10))))))))))
noncomputable def F_NS_digest (a0 : Nat) (p1 : Int32) (M : am_M) : am_R :=
  fR M a0 12 7 (fun b1 => cv M b1 5 ( bI (F_Fram_shows b1 p1 M) (fun r3 M2 => if r3 = 0 then (some (some (.long 0), M2)) else (F_NS_digest_L20 fu a0 17 0 M2))))
noncomputable def F_Fram_isInColumn (a0 : Nat) (p1 : Int32) (p2 : Int32) (p3 : Int32) (M : am_M) : am_R :=
  cv M a0 5 ( bI (F_Fram_placeOf a0 p1 0 M) (fun r2 M1 => if (r2 / 8) = p2 then (cv M1 a0 5 ( bI (F_Fram_placeOf a0 p1 1 M1) (fun r4 M3 => if (r4 / 8) = p3 then (some (some (.int 1), M3)) else (some (some (.int 0), M3))))) else (some (some (.int 0), M1))))
noncomputable def F_NS_inColumn_L44  : Nat → Nat → Int32 → Int32 → Int32 → Int32 → am_M → am_R
  | 0, _, _, _, _, _, _ => none
  | n + 1, v0, v2, v3, v4, v5, M =>
    fR M v0 12 7 (fun b10 => fI M b10 5 2 (fun x11 => if x11 ≤ v5 then (some (some (.int v4), M)) else (fR M v0 12 7 (fun b12 => cv M b12 5 ( bI (F_Fram_isInColumn b12 v5 v2 v3 M) (fun r14 M13 => if r14 = 0 then (nm (v5 + 1) (fun x15 => F_NS_inColumn_L44 n v0 v2 v3 v4 x15 M13)) else (nm (v4 + 1) (fun x16 => nm (v5 + 1) (fun x17 => F_NS_inColumn_L44 n v0 v2 v3 x16 x17 M13)))))))))
noncomputable def F_NS_inColumn (a0 : Nat) (p1 : Int32) (p2 : Int32) (p3 : Int32) (M : am_M) : am_R :=
  fR M a0 12 2 (fun b1 => cv M b1 9 ( bI (F_Scen_isCell b1 0 p2 M) (fun r3 M2 => if r3 = 0 then (some (some (.int (-2)), M2)) else (fR M2 a0 12 2 (fun b4 => cv M2 b4 9 ( bI (F_Scen_isCell b4 1 p3 M2) (fun r6 M5 => if r6 = 0 then (some (some (.int (-2)), M5)) else (fR M5 a0 12 7 (fun b7 => cv M5 b7 5 ( bI (F_Fram_shows b7 p1 M5) (fun r9 M8 => if r9 = 0 then (some (some (.int (-2)), M8)) else (F_NS_inColumn_L44 fu a0 p2 p3 0 0 M8))))))))))))
noncomputable def F_Fram_fromTop_L11  : Nat → Nat → Int32 → Int32 → Int32 → Int32 → am_M → am_R
  | 0, _, _, _, _, _, _ => none
  | n + 1, v0, v1, v2, v4, v5, M =>
    if v5 < 0 then (some (some (.int (-1)), M)) else (cv M v0 5 ( bI (F_Fram_rowAt v0 v5 M) (fun r4 M3 => cv M3 v0 5 ( bI (F_Fram_isInColumn v0 r4 v1 v2 M3) (fun r6 M5 => if r6 = 0 then (nm (v5 + (-1)) (fun x7 => F_Fram_fromTop_L11 n v0 v1 v2 v4 x7 M5)) else (if v4 = 0 then (cv M5 v0 5 ( bI (F_Fram_rowAt v0 v5 M5) (fun r9 M8 => cv M8 v0 5 ( bI (F_Fram_codeOf v0 r9 M8) (fun r11 M10 => some (some (.int r11), M10)))))) else (nm (v4 + (-1)) (fun x12 => nm (v5 + (-1)) (fun x13 => F_Fram_fromTop_L11 n v0 v1 v2 x12 x13 M5)))))))))
noncomputable def F_Fram_fromTop (a0 : Nat) (p1 : Int32) (p2 : Int32) (p3 : Int32) (M : am_M) : am_R :=
  fI M a0 5 2 (fun x1 => nm (x1 - 1) (fun x2 => F_Fram_fromTop_L11 fu a0 p1 p2 p3 x2 M))
noncomputable def F_NS_top (a0 : Nat) (p1 : Int32) (p2 : Int32) (p3 : Int32) (M : am_M) : am_R :=
  fR M a0 12 2 (fun b1 => cv M b1 9 ( bI (F_Scen_isCell b1 0 p2 M) (fun r3 M2 => if r3 = 0 then (some (some (.int (-2)), M2)) else (fR M2 a0 12 2 (fun b4 => cv M2 b4 9 ( bI (F_Scen_isCell b4 1 p3 M2) (fun r6 M5 => if r6 = 0 then (some (some (.int (-2)), M5)) else (fR M5 a0 12 7 (fun b7 => cv M5 b7 5 ( bI (F_Fram_shows b7 p1 M5) (fun r9 M8 => if r9 = 0 then (some (some (.int (-2)), M8)) else (fR M8 a0 12 7 (fun b10 => cv M8 b10 5 ( bI (F_Fram_fromTop b10 p2 p3 0 M8) (fun r12 M11 => some (some (.int r12), M11))))))))))))))))
noncomputable def F_NS_below (a0 : Nat) (p1 : Int32) (p2 : Int32) (p3 : Int32) (p4 : Int32) (M : am_M) : am_R :=
  if p4 < 0 then (some (some (.int (-2)), M)) else (fR M a0 12 2 (fun b1 => cv M b1 9 ( bI (F_Scen_isCell b1 0 p2 M) (fun r3 M2 => if r3 = 0 then (some (some (.int (-2)), M2)) else (fR M2 a0 12 2 (fun b4 => cv M2 b4 9 ( bI (F_Scen_isCell b4 1 p3 M2) (fun r6 M5 => if r6 = 0 then (some (some (.int (-2)), M5)) else (fR M5 a0 12 7 (fun b7 => cv M5 b7 5 ( bI (F_Fram_shows b7 p1 M5) (fun r9 M8 => if r9 = 0 then (some (some (.int (-2)), M8)) else (fR M8 a0 12 7 (fun b10 => cv M8 b10 5 ( bI (F_Fram_fromTop b10 p2 p3 p4 M8) (fun r12 M11 => some (some (.int r12), M11)))))))))))))))))
noncomputable def F_NS_columnAt (p1 : Int32) (p2 : Int32) (M : am_M) : am_R :=
  some (some (.int ((p2 * 40) + p1)), M)
noncomputable def F_Fram_columnOf (a0 : Nat) (p1 : Int32) (M : am_M) : am_R :=
  cv M a0 5 ( bI (F_Fram_placeOf a0 p1 0 M) (fun r2 M1 => cv M1 a0 5 ( bI (F_Fram_placeOf a0 p1 1 M1) (fun r4 M3 => bI (F_NS_columnAt (r2 / 8) (r4 / 8) M3) (fun r6 M5 => some (some (.int r6), M5))))))
noncomputable def F_Fram_countColumns_L7  : Nat → Nat → Nat → Int32 → am_M → am_R
  | 0, _, _, _, _ => none
  | n + 1, v0, v1, v2, M =>
    fI M v0 5 2 (fun x2 => if x2 ≤ v2 then (some (none, M)) else (cv M v0 5 ( bI (F_Fram_columnOf v0 v2 M) (fun r4 M3 => if r4 < 0 then (nm (v2 + 1) (fun x5 => F_Fram_countColumns_L7 n v0 v1 x5 M3)) else (aN M3 v1 (fun x6 => if x6 ≤ r4 then (nm (v2 + 1) (fun x7 => F_Fram_countColumns_L7 n v0 v1 x7 M3)) else (aI M3 v1 r4 (fun x8 => tI M3 v1 r4 (x8 + 1) (fun M9 => nm (v2 + 1) (fun x10 => F_Fram_countColumns_L7 n v0 v1 x10 M9))))))))))
noncomputable def F_Fram_countColumns (a0 : Nat) (p1 : Nat) (M : am_M) : am_R :=
  bV (F_Arr_fill p1 0 M) (fun M1 => F_Fram_countColumns_L7 fu a0 p1 0 M1)
noncomputable def F_NS_fullest_L94  (v0 : Nat) (v2 : Int32) (v3 : Int32) (M : am_M) : am_R :=
  if v2 = 2 then (fR M v0 12 10 (fun b9 => aI M b9 v3 (fun x10 => some (some (.int x10), M)))) else (if v2 = 0 then (some (some (.int (v3 - v3 / 40 * 40)), M)) else (some (some (.int (v3 / 40)), M)))
noncomputable def F_NS_fullest_L51  : Nat → Nat → Int32 → Int32 → Int32 → am_M → am_R
  | 0, _, _, _, _, _ => none
  | n + 1, v0, v2, v3, v4, M =>
    if 1600 ≤ v4 then (F_NS_fullest_L94 v0 v2 v3 M) else (fR M v0 12 10 (fun b11 => aN M b11 (fun x12 => if x12 ≤ v4 then (F_NS_fullest_L94 v0 v2 v3 M) else (fR M v0 12 10 (fun b13 => aI M b13 v4 (fun x14 => fR M v0 12 10 (fun b15 => aI M b15 v3 (fun x16 => if x14 ≤ x16 then (nm (v4 + 1) (fun x17 => F_NS_fullest_L51 n v0 v2 v3 x17 M)) else (nm (v4 + 1) (fun x18 => F_NS_fullest_L51 n v0 v2 v4 x18 M))))))))))
noncomputable def F_NS_fullest (a0 : Nat) (p1 : Int32) (p2 : Int32) (M : am_M) : am_R :=
  if p2 < 0 then (some (some (.int (-2)), M)) else (if 2 < p2 then (some (some (.int (-2)), M)) else (fR M a0 12 7 (fun b1 => cv M b1 5 ( bI (F_Fram_shows b1 p1 M) (fun r3 M2 => if r3 = 0 then (some (some (.int (-2)), M2)) else (fR M2 a0 12 7 (fun b4 => fI M2 b4 5 2 (fun x5 => if x5 = 0 then (some (some (.int (-1)), M2)) else (fR M2 a0 12 7 (fun b6 => fR M2 a0 12 10 (fun b7 => cv M2 b6 5 ( bV (F_Fram_countColumns b6 b7 M2) (fun M8 => F_NS_fullest_L51 fu a0 p2 0 1 M8)))))))))))))
noncomputable def F_NS_columns_L29  : Nat → Nat → Int32 → Int32 → am_M → am_R
  | 0, _, _, _, _ => none
  | n + 1, v0, v2, v3, M =>
    if 1600 ≤ v3 then (some (some (.int v2), M)) else (fR M v0 12 10 (fun b7 => aN M b7 (fun x8 => if x8 ≤ v3 then (some (some (.int v2), M)) else (fR M v0 12 10 (fun b9 => aI M b9 v3 (fun x10 => if x10 ≤ 0 then (nm (v3 + 1) (fun x11 => F_NS_columns_L29 n v0 v2 x11 M)) else (nm (v2 + 1) (fun x12 => nm (v3 + 1) (fun x13 => F_NS_columns_L29 n v0 x12 x13 M)))))))))
noncomputable def F_NS_columns (a0 : Nat) (p1 : Int32) (M : am_M) : am_R :=
  fR M a0 12 7 (fun b1 => cv M b1 5 ( bI (F_Fram_shows b1 p1 M) (fun r3 M2 => if r3 = 0 then (some (some (.int (-2)), M2)) else (fR M2 a0 12 7 (fun b4 => fR M2 a0 12 10 (fun b5 => cv M2 b4 5 ( bV (F_Fram_countColumns b4 b5 M2) (fun M6 => F_NS_columns_L29 fu a0 0 0 M6))))))))
noncomputable def F_Scen_isCellOfWorld (a0 : Nat) (p1 : Int32) (p2 : Int32) (p3 : Int32) (M : am_M) : am_R :=
  cv M a0 9 ( bI (F_Scen_isCell a0 0 p1 M) (fun r2 M1 => if r2 = 0 then (some (some (.int 0), M1)) else (cv M1 a0 9 ( bI (F_Scen_isCell a0 1 p2 M1) (fun r4 M3 => if r4 = 0 then (some (some (.int 0), M3)) else (cv M3 a0 9 ( bI (F_Scen_isCell a0 2 p3 M3) (fun r6 M5 => if r6 = 0 then (some (some (.int 0), M5)) else (some (some (.int 1), M5))))))))))
noncomputable def F_Fram_farSquared (a0 : Nat) (p1 : Int32) (p2 : Int32) (p3 : Int32) (p4 : Int32) (M : am_M) : am_R :=
  cv M a0 5 ( bI (F_Fram_placeOf a0 p1 0 M) (fun r2 M1 => nm (r2 - ((8 * p2) + 4)) (fun x3 => cv M1 a0 5 ( bI (F_Fram_placeOf a0 p1 1 M1) (fun r5 M4 => nm (r5 - ((8 * p3) + 4)) (fun x6 => cv M4 a0 5 ( bI (F_Fram_placeOf a0 p1 2 M4) (fun r8 M7 => nm (r8 - ((8 * p4) + 4)) (fun x9 => some (some (.int (((x3 * x3) + (x6 * x6)) + (x9 * x9))), M7))))))))))
noncomputable def F_NS_nearest_L77 (k37 : Nat → Int32 → Int32 → Int32 → Int32 → Int32 → Int32 → am_M → am_R) (v0 : Nat) (v2 : Int32) (v3 : Int32) (v4 : Int32) (v7 : Int32) (v8 : Int32) (M : am_M) : am_R :=
  fR M v0 12 7 (fun b12 => cv M b12 5 ( bI (F_Fram_codeOf b12 v7 M) (fun r14 M13 => nm (v7 + 1) (fun x15 => k37 v0 v2 v3 v4 r14 v8 x15 M13))))
noncomputable def F_NS_nearest_L37  : Nat → Nat → Int32 → Int32 → Int32 → Int32 → Int32 → Int32 → am_M → am_R
  | 0, _, _, _, _, _, _, _, _ => none
  | n + 1, v0, v2, v3, v4, v5, v6, v7, M =>
    fR M v0 12 7 (fun b7 => fI M b7 5 2 (fun x8 => if x8 ≤ v7 then (some (some (.int v5), M)) else (fR M v0 12 7 (fun b9 => cv M b9 5 ( bI (F_Fram_farSquared b9 v7 v2 v3 v4 M) (fun r11 M10 => if v5 = (-1) then (F_NS_nearest_L77 (F_NS_nearest_L37 n) v0 v2 v3 v4 v7 r11 M10) else (if v6 ≤ r11 then (nm (v7 + 1) (fun x16 => F_NS_nearest_L37 n v0 v2 v3 v4 v5 v6 x16 M10)) else (F_NS_nearest_L77 (F_NS_nearest_L37 n) v0 v2 v3 v4 v7 r11 M10))))))))
noncomputable def F_NS_nearest (a0 : Nat) (p1 : Int32) (p2 : Int32) (p3 : Int32) (p4 : Int32) (M : am_M) : am_R :=
  fR M a0 12 2 (fun b1 => cv M b1 9 ( bI (F_Scen_isCellOfWorld b1 p2 p3 p4 M) (fun r3 M2 => if r3 = 0 then (some (some (.int (-2)), M2)) else (fR M2 a0 12 7 (fun b4 => cv M2 b4 5 ( bI (F_Fram_shows b4 p1 M2) (fun r6 M5 => if r6 = 0 then (some (some (.int (-2)), M5)) else (F_NS_nearest_L37 fu a0 p2 p3 p4 (-1) 0 0 M5))))))))
noncomputable def F_NS_within_L47  : Nat → Nat → Int32 → Int32 → Int32 → Int32 → Int32 → Int32 → am_M → am_R
  | 0, _, _, _, _, _, _, _, _ => none
  | n + 1, v0, v2, v3, v4, v5, v6, v7, M =>
    fR M v0 12 7 (fun b7 => fI M b7 5 2 (fun x8 => if x8 ≤ v7 then (some (some (.int v6), M)) else (fR M v0 12 7 (fun b9 => cv M b9 5 ( bI (F_Fram_farSquared b9 v7 v2 v3 v4 M) (fun r11 M10 => if (v5 * v5) < r11 then (nm (v7 + 1) (fun x12 => F_NS_within_L47 n v0 v2 v3 v4 v5 v6 x12 M10)) else (nm (v6 + 1) (fun x13 => nm (v7 + 1) (fun x14 => F_NS_within_L47 n v0 v2 v3 v4 v5 x13 x14 M10)))))))))
noncomputable def F_NS_within (a0 : Nat) (p1 : Int32) (p2 : Int32) (p3 : Int32) (p4 : Int32) (p5 : Int32) (M : am_M) : am_R :=
  if p5 < 0 then (some (some (.int (-2)), M)) else (if 600 < p5 then (some (some (.int (-2)), M)) else (fR M a0 12 2 (fun b1 => cv M b1 9 ( bI (F_Scen_isCellOfWorld b1 p2 p3 p4 M) (fun r3 M2 => if r3 = 0 then (some (some (.int (-2)), M2)) else (fR M2 a0 12 7 (fun b4 => cv M2 b4 5 ( bI (F_Fram_shows b4 p1 M2) (fun r6 M5 => if r6 = 0 then (some (some (.int (-2)), M5)) else (F_NS_within_L47 fu a0 p2 p3 p4 p5 0 0 M5))))))))))
noncomputable def F_Fram_layerOf (a0 : Nat) (p1 : Int32) (M : am_M) : am_R :=
  cv M a0 5 ( bI (F_Fram_placeOf a0 p1 2 M) (fun r2 M1 => some (some (.int (r2 / 8)), M1)))
noncomputable def F_Fram_forgetColumns_L7  : Nat → Nat → Int32 → Nat → Int32 → am_M → am_R
  | 0, _, _, _, _, _ => none
  | n + 1, v0, v2, v3, v4, M =>
    if v2 ≤ v4 then (some (none, M)) else (fI M v0 5 2 (fun x3 => if x3 ≤ v4 then (some (none, M)) else (cv M v0 5 ( bI (F_Fram_rowAt v0 v4 M) (fun r5 M4 => cv M4 v0 5 ( bI (F_Fram_columnOf v0 r5 M4) (fun r7 M6 => if r7 < 0 then (nm (v4 + 1) (fun x8 => F_Fram_forgetColumns_L7 n v0 v2 v3 x8 M6)) else (aN M6 v3 (fun x9 => if x9 ≤ r7 then (nm (v4 + 1) (fun x10 => F_Fram_forgetColumns_L7 n v0 v2 v3 x10 M6)) else (tI M6 v3 r7 0 (fun M11 => nm (v4 + 1) (fun x12 => F_Fram_forgetColumns_L7 n v0 v2 v3 x12 M11))))))))))))
noncomputable def F_Fram_forgetColumns (a0 : Nat) (p1 : Int32) (p2 : Int32) (p3 : Nat) (M : am_M) : am_R :=
  bI (F_Math_max 0 p1 M) (fun r2 M1 => F_Fram_forgetColumns_L7 fu a0 p2 p3 r2 M1)
noncomputable def F_Fram_countTwos_L58 (k13 : Nat → Nat → Int64 → Int32 → Int32 → am_M → am_R) (v0 : Nat) (v1 : Nat) (v2 : Int64) (v4 : Int32) (v5 : Int32) (M : am_M) : am_R :=
  cv M v0 5 ( bI (F_Fram_rowAt v0 v5 M) (fun r12 M11 => cv M11 v0 5 ( bI (F_Fram_columnOf v0 r12 M11) (fun r14 M13 => if r14 < 0 then (nm (v5 + 1) (fun x15 => k13 v0 v1 v2 v4 x15 M13)) else (aN M13 v1 (fun x16 => if x16 ≤ r14 then (nm (v5 + 1) (fun x17 => k13 v0 v1 v2 v4 x17 M13)) else (aI M13 v1 r14 (fun x18 => nm (v2 + (x18.toInt64)) (fun z19 => aI M13 v1 r14 (fun x20 => tI M13 v1 r14 (x20 + 1) (fun M21 => nm (v5 + 1) (fun x22 => k13 v0 v1 z19 v4 x22 M21))))))))))))
noncomputable def F_Fram_countTwos_L13  : Nat → Nat → Nat → Int64 → Int32 → Int32 → am_M → am_R
  | 0, _, _, _, _, _, _ => none
  | n + 1, v0, v1, v2, v4, v5, M =>
    fI M v0 5 2 (fun x2 => if x2 ≤ v5 then (some (some (.long v2), M)) else (cv M v0 5 ( bI (F_Fram_rowAt v0 v5 M) (fun r4 M3 => cv M3 v0 5 ( bI (F_Fram_layerOf v0 r4 M3) (fun r6 M5 => cv M5 v0 5 ( bI (F_Fram_rowAt v0 v4 M5) (fun r8 M7 => cv M7 v0 5 ( bI (F_Fram_layerOf v0 r8 M7) (fun r10 M9 => if r6 = r10 then (F_Fram_countTwos_L58 (F_Fram_countTwos_L13 n) v0 v1 v2 v4 v5 M9) else (cv M9 v0 5 ( bV (F_Fram_forgetColumns v0 v4 v5 v1 M9) (fun M23 => F_Fram_countTwos_L58 (F_Fram_countTwos_L13 n) v0 v1 v2 v5 v5 M23)))))))))))))
noncomputable def F_Fram_countTwos (a0 : Nat) (p1 : Nat) (M : am_M) : am_R :=
  bV (F_Arr_fill p1 0 M) (fun M1 => F_Fram_countTwos_L13 fu a0 p1 0 0 0 M1)
noncomputable def F_NS_twos (a0 : Nat) (p1 : Int32) (M : am_M) : am_R :=
  fR M a0 12 7 (fun b1 => cv M b1 5 ( bI (F_Fram_shows b1 p1 M) (fun r3 M2 => if r3 = 0 then (some (some (.long (-2)), M2)) else (fR M2 a0 12 7 (fun b4 => fR M2 a0 12 10 (fun b5 => cv M2 b4 5 ( bL (F_Fram_countTwos b4 b5 M2) (fun z7 M6 => some (some (.long z7), M6)))))))))
noncomputable def F_NS_box_L50  : Nat → Nat → Int32 → Int32 → Int32 → am_M → am_R
  | 0, _, _, _, _, _ => none
  | n + 1, v0, v2, v3, v4, M =>
    fR M v0 12 7 (fun b9 => fI M b9 5 2 (fun x10 => if x10 ≤ v4 then (some (some (.int (v3 / 8)), M)) else (fR M v0 12 7 (fun b11 => cv M b11 5 ( bI (F_Fram_placeOf b11 v4 (v2 - v2 / 3 * 3) M) (fun r13 M12 => if 3 ≤ v2 then (bI (F_Math_max v3 r13 M12) (fun r15 M14 => nm (v4 + 1) (fun x16 => F_NS_box_L50 n v0 v2 r15 x16 M14))) else (bI (F_Math_min v3 r13 M12) (fun r18 M17 => nm (v4 + 1) (fun x19 => F_NS_box_L50 n v0 v2 r18 x19 M17)))))))))
noncomputable def F_NS_box (a0 : Nat) (p1 : Int32) (p2 : Int32) (M : am_M) : am_R :=
  if p2 < 0 then (some (some (.int (-2)), M)) else (if 5 < p2 then (some (some (.int (-2)), M)) else (fR M a0 12 7 (fun b1 => cv M b1 5 ( bI (F_Fram_shows b1 p1 M) (fun r3 M2 => if r3 = 0 then (some (some (.int (-2)), M2)) else (fR M2 a0 12 7 (fun b4 => fI M2 b4 5 2 (fun x5 => if x5 = 0 then (some (some (.int (-1)), M2)) else (fR M2 a0 12 7 (fun b6 => cv M2 b6 5 ( bI (F_Fram_placeOf b6 0 (p2 - p2 / 3 * 3) M2) (fun r8 M7 => F_NS_box_L50 fu a0 p2 r8 1 M7))))))))))))
noncomputable def F_NS_middle_L38  : Nat → Nat → Int32 → Int32 → Int32 → am_M → am_R
  | 0, _, _, _, _, _ => none
  | n + 1, v0, v2, v3, v4, M =>
    fR M v0 12 7 (fun b8 => fI M b8 5 2 (fun x9 => if x9 ≤ v4 then (fR M v0 12 7 (fun b10 => fI M b10 5 2 (fun x11 => dZ x11 ( some (some (.int (v3 / x11)), M))))) else (fR M v0 12 7 (fun b12 => cv M b12 5 ( bI (F_Fram_placeOf b12 v4 v2 M) (fun r14 M13 => nm (v3 + r14) (fun x15 => nm (v4 + 1) (fun x16 => F_NS_middle_L38 n v0 v2 x15 x16 M13))))))))
noncomputable def F_NS_middle (a0 : Nat) (p1 : Int32) (p2 : Int32) (M : am_M) : am_R :=
  bI (F_NS_isAxis p2 M) (fun r2 M1 => if r2 = 0 then (some (some (.int (-2)), M1)) else (fR M1 a0 12 7 (fun b3 => cv M1 b3 5 ( bI (F_Fram_shows b3 p1 M1) (fun r5 M4 => if r5 = 0 then (some (some (.int (-2)), M4)) else (fR M4 a0 12 7 (fun b6 => fI M4 b6 5 2 (fun x7 => if 0 < x7 then (F_NS_middle_L38 fu a0 p2 0 0 M4) else (some (some (.int (-1)), M4))))))))))
noncomputable def F_Fram_bornOf (a0 : Nat) (p1 : Int32) (M : am_M) : am_R :=
  cv M a0 5 ( bI (F_Fram_ofRow a0 p1 2 M) (fun r2 M1 => some (some (.int r2), M1)))
noncomputable def F_Fram_endOf (a0 : Nat) (p1 : Int32) (M : am_M) : am_R :=
  cv M a0 5 ( bI (F_Fram_ofRow a0 p1 3 M) (fun r2 M1 => some (some (.int r2), M1)))
noncomputable def F_NS_both_L26  : Nat → Nat → Int32 → Int32 → Int32 → am_M → am_R
  | 0, _, _, _, _, _ => none
  | n + 1, v0, v2, v3, v4, M =>
    fR M v0 12 7 (fun b6 => fI M b6 5 2 (fun x7 => if x7 ≤ v4 then (some (some (.int v3), M)) else (fR M v0 12 7 (fun b8 => cv M b8 5 ( bI (F_Fram_bornOf b8 v4 M) (fun r10 M9 => if v2 < r10 then (nm (v4 + 1) (fun x11 => F_NS_both_L26 n v0 v2 v3 x11 M9)) else (fR M9 v0 12 7 (fun b12 => cv M9 b12 5 ( bI (F_Fram_endOf b12 v4 M9) (fun r14 M13 => if r14 ≤ v2 then (nm (v4 + 1) (fun x15 => F_NS_both_L26 n v0 v2 v3 x15 M13)) else (nm (v3 + 1) (fun x16 => nm (v4 + 1) (fun x17 => F_NS_both_L26 n v0 v2 x16 x17 M13)))))))))))))
noncomputable def F_NS_both (a0 : Nat) (p1 : Int32) (p2 : Int32) (M : am_M) : am_R :=
  bI (F_NS_isTick p2 M) (fun r2 M1 => if r2 = 0 then (some (some (.int (-2)), M1)) else (fR M1 a0 12 7 (fun b3 => cv M1 b3 5 ( bI (F_Fram_shows b3 p1 M1) (fun r5 M4 => if r5 = 0 then (some (some (.int (-2)), M4)) else (F_NS_both_L26 fu a0 p2 0 0 M4))))))
noncomputable def F_NS_ofAge_L111 (k47 : Nat → Int32 → Int32 → Int32 → Int32 → Int32 → Int32 → Int32 → Int32 → am_M → am_R) (v0 : Nat) (v1 : Int32) (v2 : Int32) (v3 : Int32) (v4 : Int32) (v5 : Int32) (v8 : Int32) (v9 : Int32) (M : am_M) : am_R :=
  fR M v0 12 7 (fun b16 => cv M b16 5 ( bI (F_Fram_codeOf b16 v8 M) (fun r18 M17 => nm (v8 + 1) (fun x19 => k47 v0 v1 v2 v3 v4 v5 r18 v9 x19 M17))))
noncomputable def F_NS_ofAge_L47  : Nat → Nat → Int32 → Int32 → Int32 → Int32 → Int32 → Int32 → Int32 → Int32 → am_M → am_R
  | 0, _, _, _, _, _, _, _, _, _, _ => none
  | n + 1, v0, v1, v2, v3, v4, v5, v6, v7, v8, M =>
    fR M v0 12 7 (fun b4 => fI M b4 5 2 (fun x5 => if x5 ≤ v8 then (if v3 = 2 then (some (some (.int v6), M)) else (if v3 = 0 then (some (some (.int v4), M)) else (some (some (.int v5), M)))) else (fR M v0 12 7 (fun b6 => cv M b6 5 ( bI (F_Fram_codeOf b6 v8 M) (fun r8 M7 => bI (F_NS_generationOf r8 M7) (fun r10 M9 => if r10 = v2 then (nm (v4 + 1) (fun x11 => fR M9 v0 12 7 (fun b12 => cv M9 b12 5 ( bI (F_Fram_bornOf b12 v8 M9) (fun r14 M13 => nm (v5 + (v1 - r14)) (fun x15 => if v6 = (-1) then (F_NS_ofAge_L111 (F_NS_ofAge_L47 n) v0 v1 v2 v3 x11 x15 v8 r14 M13) else (if v7 ≤ r14 then (nm (v8 + 1) (fun x20 => F_NS_ofAge_L47 n v0 v1 v2 v3 x11 x15 v6 v7 x20 M13)) else (F_NS_ofAge_L111 (F_NS_ofAge_L47 n) v0 v1 v2 v3 x11 x15 v8 r14 M13)))))))) else (nm (v8 + 1) (fun x21 => F_NS_ofAge_L47 n v0 v1 v2 v3 v4 v5 v6 v7 x21 M9)))))))))
noncomputable def F_NS_ofAge (a0 : Nat) (p1 : Int32) (p2 : Int32) (p3 : Int32) (M : am_M) : am_R :=
  if p2 < 0 then (some (some (.int (-2)), M)) else (if 3 ≤ p2 then (some (some (.int (-2)), M)) else (if p3 < 0 then (some (some (.int (-2)), M)) else (if 2 < p3 then (some (some (.int (-2)), M)) else (fR M a0 12 7 (fun b1 => cv M b1 5 ( bI (F_Fram_shows b1 p1 M) (fun r3 M2 => if r3 = 0 then (some (some (.int (-2)), M2)) else (F_NS_ofAge_L47 fu a0 p1 p2 p3 0 0 (-1) 0 0 M2))))))))
noncomputable def F_NS_colours_L29  : Nat → Nat → Int32 → Int32 → Int32 → am_M → am_R
  | 0, _, _, _, _, _ => none
  | n + 1, v0, v2, v3, v4, M =>
    fR M v0 12 7 (fun b4 => fI M b4 5 2 (fun x5 => if x5 ≤ v4 then (some (some (.int v3), M)) else (fR M v0 12 2 (fun b6 => fR M v0 12 7 (fun b7 => cv M b7 5 ( bI (F_Fram_codeOf b7 v4 M) (fun r9 M8 => cv M8 b6 9 ( bI (F_Scen_colourOf b6 r9 M8) (fun r11 M10 => if r11 = v2 then (nm (v3 + 1) (fun x12 => nm (v4 + 1) (fun x13 => F_NS_colours_L29 n v0 v2 x12 x13 M10))) else (nm (v4 + 1) (fun x14 => F_NS_colours_L29 n v0 v2 v3 x14 M10)))))))))))
noncomputable def F_NS_colours (a0 : Nat) (p1 : Int32) (p2 : Int32) (M : am_M) : am_R :=
  if p2 < 0 then (some (some (.int (-2)), M)) else (if 8 ≤ p2 then (some (some (.int (-2)), M)) else (fR M a0 12 7 (fun b1 => cv M b1 5 ( bI (F_Fram_shows b1 p1 M) (fun r3 M2 => if r3 = 0 then (some (some (.int (-2)), M2)) else (F_NS_colours_L29 fu a0 p2 0 0 M2))))))
noncomputable def F_NS_twins_L47 (k18 : Nat → Int32 → Int32 → am_M → am_R) : Nat → Nat → Int32 → Int32 → Int32 → Int32 → am_M → am_R
  | 0, _, _, _, _, _, _ => none
  | n + 1, v0, v2, v3, v4, v5, M =>
    if v4 = (-1) then (nm (v3 + 1) (fun x12 => k18 v0 v2 x12 M)) else (fR M v0 12 7 (fun b13 => fI M b13 5 2 (fun x14 => if x14 ≤ v5 then (nm (v3 + 1) (fun x15 => k18 v0 v2 x15 M)) else (if (v3 + 7) ≤ v5 then (nm (v3 + 1) (fun x16 => k18 v0 v2 x16 M)) else (fR M v0 12 7 (fun b17 => cv M b17 5 ( bI (F_Fram_codeOf b17 v5 M) (fun r19 M18 => bI (F_NS_codeOfParent r19 M18) (fun r21 M20 => if r21 = v4 then (nm (v2 + 2) (fun x22 => nm (v5 + 1) (fun x23 => F_NS_twins_L47 k18 n v0 x22 v3 v4 x23 M20))) else (nm (v5 + 1) (fun x24 => F_NS_twins_L47 k18 n v0 v2 v3 v4 x24 M20)))))))))))
noncomputable def F_NS_twins_L18  : Nat → Nat → Int32 → Int32 → am_M → am_R
  | 0, _, _, _, _ => none
  | n + 1, v0, v2, v3, M =>
    fR M v0 12 7 (fun b4 => fI M b4 5 2 (fun x5 => if x5 ≤ v3 then (some (some (.int v2), M)) else (fR M v0 12 7 (fun b6 => cv M b6 5 ( bI (F_Fram_codeOf b6 v3 M) (fun r8 M7 => bI (F_NS_codeOfParent r8 M7) (fun r10 M9 => nm (v3 + 1) (fun x11 => F_NS_twins_L47 (F_NS_twins_L18 n) fu v0 v2 v3 r10 x11 M9))))))))
noncomputable def F_NS_twins (a0 : Nat) (p1 : Int32) (M : am_M) : am_R :=
  fR M a0 12 7 (fun b1 => cv M b1 5 ( bI (F_Fram_shows b1 p1 M) (fun r3 M2 => if r3 = 0 then (some (some (.int (-2)), M2)) else (F_NS_twins_L18 fu a0 0 0 M2))))
noncomputable def F_Fram_markTops_L7  : Nat → Nat → Nat → Int32 → am_M → am_R
  | 0, _, _, _, _ => none
  | n + 1, v0, v1, v2, M =>
    fI M v0 5 2 (fun x2 => if x2 ≤ v2 then (some (none, M)) else (cv M v0 5 ( bI (F_Fram_rowAt v0 v2 M) (fun r4 M3 => cv M3 v0 5 ( bI (F_Fram_columnOf v0 r4 M3) (fun r6 M5 => if r6 < 0 then (nm (v2 + 1) (fun x7 => F_Fram_markTops_L7 n v0 v1 x7 M5)) else (aN M5 v1 (fun x8 => if x8 ≤ r6 then (nm (v2 + 1) (fun x9 => F_Fram_markTops_L7 n v0 v1 x9 M5)) else (cv M5 v0 5 ( bI (F_Fram_rowAt v0 v2 M5) (fun r11 M10 => tI M10 v1 r6 (r11 + 1) (fun M12 => nm (v2 + 1) (fun x13 => F_Fram_markTops_L7 n v0 v1 x13 M12)))))))))))))
noncomputable def F_Fram_markTops (a0 : Nat) (p1 : Nat) (M : am_M) : am_R :=
  bV (F_Arr_fill p1 0 M) (fun M1 => F_Fram_markTops_L7 fu a0 p1 0 M1)
noncomputable def F_NS_countOfColumn (a0 : Nat) (p1 : Int32) (p2 : Int32) (M : am_M) : am_R :=
  bI (F_NS_columnAt p1 p2 M) (fun r2 M1 => if r2 < 0 then (some (some (.int 0), M1)) else (fR M1 a0 12 10 (fun b3 => aN M1 b3 (fun x4 => if x4 ≤ r2 then (some (some (.int 0), M1)) else (fR M1 a0 12 10 (fun b5 => aI M1 b5 r2 (fun x6 => some (some (.int x6), M1))))))))
noncomputable def F_NS_picture_L48 (k34 : Nat → Int32 → am_M → am_R) : Nat → Nat → Int32 → Int32 → am_M → am_R
  | 0, _, _, _, _ => none
  | n + 1, v0, v2, v3, M =>
    fR M v0 12 2 (fun b14 => cv M b14 9 ( bI (F_Scen_cellsAlong b14 0 M) (fun r16 M15 => if r16 ≤ v3 then (fR M15 v0 12 5 (fun b17 => cv M15 b17 7 ( bV (F_Outp_put b17 10 M15) (fun M18 => nm (v2 + 1) (fun x19 => k34 v0 x19 M18))))) else (cv M15 v0 12 ( bI (F_NS_countOfColumn v0 v3 v2 M15) (fun r21 M20 => fR M20 v0 12 5 (fun b22 => if r21 ≤ 0 then (cv M20 b22 7 ( bV (F_Outp_put b22 46 M20) (fun M23 => nm (v3 + 1) (fun x24 => F_NS_picture_L48 k34 n v0 v2 x24 M23)))) else (fR M20 v0 12 2 (fun b25 => fR M20 v0 12 7 (fun b26 => cv M20 b26 5 ( bI (F_Fram_codeOf b26 (r21 - 1) M20) (fun r28 M27 => cv M27 b25 9 ( bI (F_Scen_colourOf b25 r28 M27) (fun r30 M29 => cv M29 b22 7 ( bV (F_Outp_put b22 (48 + r30) M29) (fun M31 => nm (v3 + 1) (fun x32 => F_NS_picture_L48 k34 n v0 v2 x32 M31)))))))))))))))))
noncomputable def F_NS_picture_L34  : Nat → Nat → Int32 → am_M → am_R
  | 0, _, _, _ => none
  | n + 1, v0, v2, M =>
    fR M v0 12 2 (fun b9 => cv M b9 9 ( bI (F_Scen_cellsAlong b9 1 M) (fun r11 M10 => if r11 ≤ v2 then (fR M10 v0 12 5 (fun b12 => fI M10 b12 7 1 (fun x13 => some (some (.int x13), M10)))) else (F_NS_picture_L48 (F_NS_picture_L34 n) fu v0 v2 0 M10))))
noncomputable def F_NS_picture (a0 : Nat) (p1 : Int32) (M : am_M) : am_R :=
  fR M a0 12 7 (fun b1 => cv M b1 5 ( bI (F_Fram_shows b1 p1 M) (fun r3 M2 => if r3 = 0 then (some (some (.int (-2)), M2)) else (fR M2 a0 12 7 (fun b4 => fR M2 a0 12 10 (fun b5 => cv M2 b4 5 ( bV (F_Fram_markTops b4 b5 M2) (fun M6 => fR M6 a0 12 5 (fun b7 => cv M6 b7 7 ( bV (F_Outp_clear b7 M6) (fun M8 => F_NS_picture_L34 fu a0 0 M8)))))))))))
noncomputable def F_Fram_countLayer_L7  : Nat → Nat → Int32 → Nat → Int32 → am_M → am_R
  | 0, _, _, _, _, _ => none
  | n + 1, v0, v1, v2, v3, M =>
    fI M v0 5 2 (fun x2 => if x2 ≤ v3 then (some (none, M)) else (cv M v0 5 ( bI (F_Fram_columnOf v0 v3 M) (fun r4 M3 => cv M3 v0 5 ( bI (F_Fram_layerOf v0 v3 M3) (fun r6 M5 => if r6 = v1 then (if r4 < 0 then (nm (v3 + 1) (fun x7 => F_Fram_countLayer_L7 n v0 v1 v2 x7 M5)) else (aN M5 v2 (fun x8 => if x8 ≤ r4 then (nm (v3 + 1) (fun x9 => F_Fram_countLayer_L7 n v0 v1 v2 x9 M5)) else (aI M5 v2 r4 (fun x10 => tI M5 v2 r4 (x10 + 1) (fun M11 => nm (v3 + 1) (fun x12 => F_Fram_countLayer_L7 n v0 v1 v2 x12 M11))))))) else (nm (v3 + 1) (fun x13 => F_Fram_countLayer_L7 n v0 v1 v2 x13 M5))))))))
noncomputable def F_Fram_countLayer (a0 : Nat) (p1 : Int32) (p2 : Nat) (M : am_M) : am_R :=
  bV (F_Arr_fill p2 0 M) (fun M1 => F_Fram_countLayer_L7 fu a0 p1 p2 0 M1)
noncomputable def F_NS_layer_L62 (k47 : Nat → Int32 → am_M → am_R) : Nat → Nat → Int32 → Int32 → am_M → am_R
  | 0, _, _, _, _ => none
  | n + 1, v0, v3, v4, M =>
    fR M v0 12 2 (fun b17 => cv M b17 9 ( bI (F_Scen_cellsAlong b17 0 M) (fun r19 M18 => if r19 ≤ v4 then (fR M18 v0 12 5 (fun b20 => cv M18 b20 7 ( bV (F_Outp_put b20 10 M18) (fun M21 => nm (v3 + 1) (fun x22 => k47 v0 x22 M21))))) else (cv M18 v0 12 ( bI (F_NS_countOfColumn v0 v4 v3 M18) (fun r24 M23 => fR M23 v0 12 5 (fun b25 => if r24 ≤ 0 then (cv M23 b25 7 ( bV (F_Outp_put b25 46 M23) (fun M26 => nm (v4 + 1) (fun x27 => F_NS_layer_L62 k47 n v0 v3 x27 M26)))) else (bI (F_Math_min 9 r24 M23) (fun r29 M28 => cv M28 b25 7 ( bV (F_Outp_put b25 (48 + r29) M28) (fun M30 => nm (v4 + 1) (fun x31 => F_NS_layer_L62 k47 n v0 v3 x31 M30))))))))))))
noncomputable def F_NS_layer_L47  : Nat → Nat → Int32 → am_M → am_R
  | 0, _, _, _ => none
  | n + 1, v0, v3, M =>
    fR M v0 12 2 (fun b12 => cv M b12 9 ( bI (F_Scen_cellsAlong b12 1 M) (fun r14 M13 => if r14 ≤ v3 then (fR M13 v0 12 5 (fun b15 => fI M13 b15 7 1 (fun x16 => some (some (.int x16), M13)))) else (F_NS_layer_L62 (F_NS_layer_L47 n) fu v0 v3 0 M13))))
noncomputable def F_NS_layer (a0 : Nat) (p1 : Int32) (p2 : Int32) (M : am_M) : am_R :=
  fR M a0 12 2 (fun b1 => cv M b1 9 ( bI (F_Scen_isCell b1 2 p2 M) (fun r3 M2 => if r3 = 0 then (some (some (.int (-2)), M2)) else (fR M2 a0 12 7 (fun b4 => cv M2 b4 5 ( bI (F_Fram_shows b4 p1 M2) (fun r6 M5 => if r6 = 0 then (some (some (.int (-2)), M5)) else (fR M5 a0 12 7 (fun b7 => fR M5 a0 12 10 (fun b8 => cv M5 b7 5 ( bV (F_Fram_countLayer b7 p2 b8 M5) (fun M9 => fR M9 a0 12 5 (fun b10 => cv M9 b10 7 ( bV (F_Outp_clear b10 M9) (fun M11 => F_NS_layer_L47 fu a0 0 M11)))))))))))))))
noncomputable def F_Md_init (a0 : Nat) (M : am_M) : am_R :=
  nA M 0 3 (fun b1 M2 => sR M2 a0 13 2 b1 (fun M3 => nA M3 0 40 (fun b4 M5 => sR M5 a0 13 5 b4 (fun M6 => nA M6 0 36 (fun b7 M8 => sR M8 a0 13 7 b7 (fun M9 => nA M9 0 3 (fun b10 M11 => sR M11 a0 13 8 b10 (fun M12 => nA M12 0 40 (fun b13 M14 => sR M14 a0 13 11 b13 (fun M15 => nA M15 0 36 (fun b16 M17 => sR M17 a0 13 13 b16 (fun M18 => nA M18 2 500 (fun b19 M20 => sR M20 a0 13 14 b19 (fun M21 => sI M21 a0 13 22 (-1) (fun M22 => nA M22 0 10 (fun b23 M24 => sR M24 a0 13 25 b23 (fun M25 => nA M25 0 10 (fun b26 M27 => sR M27 a0 13 26 b26 (fun M28 => nA M28 0 3 (fun b29 M30 => sR M30 a0 13 30 b29 (fun M31 => nA M31 0 3 (fun b32 M33 => sR M33 a0 13 31 b32 (fun M34 => nA M34 0 3 (fun b35 M36 => sR M36 a0 13 32 b35 (fun M37 => nA M37 0 61 (fun b38 M39 => sR M39 a0 13 33 b38 (fun M40 => nA M40 1 30000 (fun b41 M42 => sR M42 a0 13 35 b41 (fun M43 => nA M43 0 30000 (fun b44 M45 => sR M45 a0 13 36 b44 (fun M46 => nA M46 0 30000 (fun b47 M48 => sR M48 a0 13 37 b47 (fun M49 => nA M49 0 64000 (fun b50 M51 => sR M51 a0 13 38 b50 (fun M52 => nA M52 2 1700 (fun b53 M54 => sR M54 a0 13 40 b53 (fun M55 => some (none, M55))))))))))))))))))))))))))))))))))))))
noncomputable def F_Md_puts4_L3  : Nat → Nat → Int32 → Int32 → am_M → am_R
  | 0, _, _, _, _ => none
  | n + 1, v0, v1, v2, M =>
    if v2 < 0 then (some (none, M)) else (fR M v0 13 14 (fun b1 => fI M v0 13 15 (fun x2 => tB M b1 x2 ((v1 >>> (v2 &&& 31)).toInt8.toInt32) (fun M3 => fI M3 v0 13 15 (fun x4 => sI M3 v0 13 15 (x4 + 1) (fun M5 => nm (v2 + (-8)) (fun x6 => F_Md_puts4_L3 n v0 v1 x6 M5)))))))
noncomputable def F_Md_puts4 (a0 : Nat) (p1 : Int32) (M : am_M) : am_R :=
  F_Md_puts4_L3 fu a0 p1 24 M
noncomputable def F_Md_feed (a0 : Nat) (p1 : Int32) (p2 : Int32) (p3 : Int32) (p4 : Int32) (p5 : Int32) (M : am_M) : am_R :=
  fI M a0 13 15 (fun x1 => if (x1 + 20) ≤ 500 then (cv M a0 13 ( bV (F_Md_puts4 a0 p1 M) (fun M2 => cv M2 a0 13 ( bV (F_Md_puts4 a0 p2 M2) (fun M3 => cv M3 a0 13 ( bV (F_Md_puts4 a0 p3 M3) (fun M4 => cv M4 a0 13 ( bV (F_Md_puts4 a0 p4 M4) (fun M5 => cv M5 a0 13 ( bV (F_Md_puts4 a0 p5 M5) (fun M6 => fI M6 a0 13 15 (fun x7 => some (some (.int x7), M6))))))))))))) else (some (some (.int (-1)), M)))
noncomputable def F_Md_in (p1 : Int64) (p2 : Int64) (p3 : Int64) (M : am_M) : am_R :=
  if (lg_cmp p1 p2) < 0 then (some (some (.int 0), M)) else (if 0 < (lg_cmp p1 p3) then (some (some (.int 0), M)) else (some (some (.int 1), M)))
noncomputable def F_Md_end (a0 : Nat) (p1 : Int32) (M : am_M) : am_R :=
  fI M a0 13 15 (fun x1 => bI (F_Md_in (p1.toInt64) 0 (x1.toInt64) M) (fun r3 M2 => if r3 = 0 then (some (some (.int (-1)), M2)) else (sI M2 a0 13 15 p1 (fun M4 => some (some (.int p1), M4)))))
noncomputable def F_Md_see (a0 : Nat) (p1 : Int32) (M : am_M) : am_R :=
  fI M a0 13 16 (fun x1 => if x1 ≤ p1 then (some (some (.int (-1)), M)) else (fR M a0 13 14 (fun b2 => aB M b2 p1 (fun x3 => some (some (.int (x3 &&& 255)), M)))))
noncomputable def F_Md_advance_L26 (k0 : Nat → am_M → am_R) (v0 : Nat) (M : am_M) : am_R :=
  fI M v0 13 17 (fun x4 => sI M v0 13 17 (x4 + 1) (fun M5 => k0 v0 M5))
noncomputable def F_Md_advance_L144  : Nat → Nat → am_M → am_R
  | 0, _, _ => none
  | n + 1, v0, M =>
    fI M v0 13 17 (fun x24 => cv M v0 13 ( bI (F_Md_see v0 x24 M) (fun r26 M25 => bI (F_Md_in (r26.toInt64) 48 57 M25) (fun r28 M27 => if r28 = 0 then (sI M27 v0 13 19 2 (fun M29 => some (none, M29))) else (fI M27 v0 13 20 (fun x30 => fI M27 v0 13 17 (fun x31 => cv M27 v0 13 ( bI (F_Md_see v0 x31 M27) (fun r33 M32 => bI (F_Math_min 9999999 (((10 * x30) + r33) - 48) M32) (fun r35 M34 => sI M34 v0 13 20 r35 (fun M36 => fI M36 v0 13 17 (fun x37 => sI M36 v0 13 17 (x37 + 1) (fun M38 => F_Md_advance_L144 n v0 M38)))))))))))))
noncomputable def F_Md_advance_L83  : Nat → Nat → am_M → am_R
  | 0, _, _ => none
  | n + 1, v0, M =>
    fI M v0 13 17 (fun x39 => cv M v0 13 ( bI (F_Md_see v0 x39 M) (fun r41 M40 => bI (F_Md_in (r41.toInt64) 97 122 M40) (fun r43 M42 => if r43 = 0 then (sI M42 v0 13 19 1 (fun M44 => some (none, M44))) else (fI M42 v0 13 17 (fun x45 => sI M42 v0 13 17 (x45 + 1) (fun M46 => F_Md_advance_L83 n v0 M46)))))))
noncomputable def F_Md_advance_L0  : Nat → Nat → am_M → am_R
  | 0, _, _ => none
  | n + 1, v0, M =>
    fI M v0 13 17 (fun x1 => cv M v0 13 ( bI (F_Md_see v0 x1 M) (fun r3 M2 => if r3 = 32 then (F_Md_advance_L26 (F_Md_advance_L0 n) v0 M2) else (fI M2 v0 13 17 (fun x6 => cv M2 v0 13 ( bI (F_Md_see v0 x6 M2) (fun r8 M7 => if r8 = 10 then (F_Md_advance_L26 (F_Md_advance_L0 n) v0 M7) else (fI M7 v0 13 17 (fun x9 => sI M7 v0 13 18 x9 (fun M10 => fI M10 v0 13 17 (fun x11 => cv M10 v0 13 ( bI (F_Md_see v0 x11 M10) (fun r13 M12 => if r13 = (-1) then (sI M12 v0 13 19 0 (fun M14 => some (none, M14))) else (bI (F_Md_in (r13.toInt64) 97 122 M12) (fun r16 M15 => if r16 = 0 then (bI (F_Md_in (r13.toInt64) 48 57 M15) (fun r18 M17 => if r18 = 0 then (sI M17 v0 13 19 3 (fun M19 => sI M19 v0 13 20 r13 (fun M20 => fI M20 v0 13 17 (fun x21 => sI M20 v0 13 17 (x21 + 1) (fun M22 => some (none, M22)))))) else (sI M17 v0 13 20 0 (fun M23 => F_Md_advance_L144 fu v0 M23)))) else (F_Md_advance_L83 fu v0 M15))))))))))))))))
noncomputable def F_Md_advance (a0 : Nat) (M : am_M) : am_R :=
  F_Md_advance_L0 fu a0 M
noncomputable def F_Md_good (a0 : Nat) (M : am_M) : am_R :=
  fI M a0 13 21 (fun x1 => if x1 = 0 then (some (some (.int 1), M)) else (some (some (.int 0), M)))
noncomputable def F_Md_errs (a0 : Nat) (p1 : Int32) (p2 : Int32) (M : am_M) : am_R :=
  cv M a0 13 ( bI (F_Md_good a0 M) (fun r2 M1 => if r2 = 0 then (some (none, M1)) else (sI M1 a0 13 21 p1 (fun M3 => sI M3 a0 13 22 p2 (fun M4 => some (none, M4))))))
noncomputable def F_Md_isWord_L39  : Nat → Nat → Nat → Int32 → Int32 → am_M → am_R
  | 0, _, _, _, _, _ => none
  | n + 1, v0, v1, v2, v3, M =>
    nz v1 ( xV v1 ( bI (F_Str_length v1 M) (fun r4 M3 => if r4 ≤ v3 then (zR .boolean v2 (some (some (.int v2), M3))) else (if v2 = 0 then (zR .boolean v2 (some (some (.int v2), M3))) else (fR M3 v0 13 14 (fun b5 => fI M3 v0 13 18 (fun x6 => aB M3 b5 (x6 + v3) (fun x7 => nz v1 ( xV v1 ( bI (F_Str_charAt v1 v3 M3) (fun r9 M8 => if x7 = r9 then (nm (v3 + 1) (fun x10 => F_Md_isWord_L39 n v0 v1 1 x10 M8)) else (nm (v3 + 1) (fun x11 => F_Md_isWord_L39 n v0 v1 0 x11 M8)))))))))))))
noncomputable def F_Md_isWord (a0 : Nat) (p1 : Nat) (M : am_M) : am_R :=
  cv M a0 13 ( bI (F_Md_good a0 M) (fun r2 M1 => if r2 = 0 then (F_Md_isWord_L39 fu a0 p1 0 0 M1) else (fI M1 a0 13 19 (fun x12 => if x12 = 1 then (fI M1 a0 13 17 (fun x13 => fI M1 a0 13 18 (fun x14 => nz p1 ( xV p1 ( bI (F_Str_length p1 M1) (fun r16 M15 => if (x13 - x14) = r16 then (F_Md_isWord_L39 fu a0 p1 1 0 M15) else (F_Md_isWord_L39 fu a0 p1 0 0 M15))))))) else (F_Md_isWord_L39 fu a0 p1 0 0 M1)))))
noncomputable def F_Md_takes (a0 : Nat) (p1 : Nat) (M : am_M) : am_R :=
  nz p1 ( cv M a0 13 ( bI (F_Md_isWord a0 p1 M) (fun r2 M1 => if r2 = 0 then (some (some (.int 0), M1)) else (cv M1 a0 13 ( bV (F_Md_advance a0 M1) (fun M3 => some (some (.int 1), M3)))))))
noncomputable def F_Md_passes (a0 : Nat) (p1 : Nat) (M : am_M) : am_R :=
  nz p1 ( cv M a0 13 ( bI (F_Md_takes a0 p1 M) (fun r2 M1 => if r2 = 0 then (fI M1 a0 13 18 (fun x3 => cv M1 a0 13 ( bV (F_Md_errs a0 1 x3 M1) (fun M4 => some (none, M4))))) else (some (none, M1)))))
noncomputable def F_Md_number_L55  (v0 : Nat) (M : am_M) : am_R :=
  fI M v0 13 20 (fun x5 => cv M v0 13 ( bI (F_Md_good v0 M) (fun r7 M6 => if r7 = 0 then (some (some (.int x5), M6)) else (cv M6 v0 13 ( bV (F_Md_advance v0 M6) (fun M8 => some (some (.int x5), M8)))))))
noncomputable def F_Md_number_L24  (v0 : Nat) (v1 : Int32) (v2 : Int32) (M : am_M) : am_R :=
  cv M v0 13 ( bI (F_Md_good v0 M) (fun r4 M3 => if r4 = 0 then (F_Md_number_L55 v0 M3) else (fI M3 v0 13 20 (fun x9 => bI (F_Md_in (x9.toInt64) (v1.toInt64) (v2.toInt64) M3) (fun r11 M10 => if r11 = 0 then (fI M10 v0 13 18 (fun x12 => cv M10 v0 13 ( bV (F_Md_errs v0 2 x12 M10) (fun M13 => F_Md_number_L55 v0 M13)))) else (F_Md_number_L55 v0 M10))))))
noncomputable def F_Md_number (a0 : Nat) (p1 : Int32) (p2 : Int32) (M : am_M) : am_R :=
  cv M a0 13 ( bI (F_Md_good a0 M) (fun r2 M1 => if r2 = 0 then (F_Md_number_L24 a0 p1 p2 M1) else (fI M1 a0 13 19 (fun x14 => if x14 = 2 then (F_Md_number_L24 a0 p1 p2 M1) else (fI M1 a0 13 18 (fun x15 => cv M1 a0 13 ( bV (F_Md_errs a0 1 x15 M1) (fun M16 => F_Md_number_L24 a0 p1 p2 M16))))))))
noncomputable def F_Md_readSeed_L16  (v0 : Nat) (M : am_M) : am_R :=
  sI M v0 13 23 1 (fun M2 => cv M2 v0 13 ( bI (F_Md_good v0 M2) (fun r4 M3 => if r4 = 0 then (cv M3 v0 13 ( bI (F_Md_number v0 0 999999 M3) (fun r6 M5 => sI M5 v0 13 9 r6 (fun M7 => some (none, M7))))) else (cv M3 v0 13 ( bV (F_Md_advance v0 M3) (fun M8 => cv M8 v0 13 ( bI (F_Md_number v0 0 999999 M8) (fun r10 M9 => sI M9 v0 13 9 r10 (fun M11 => some (none, M11))))))))))
noncomputable def F_Md_readSeed (a0 : Nat) (M : am_M) : am_R :=
  fI M a0 13 23 (fun x1 => if x1 = 0 then (F_Md_readSeed_L16 a0 M) else (fI M a0 13 18 (fun x12 => cv M a0 13 ( bV (F_Md_errs a0 3 x12 M) (fun M13 => F_Md_readSeed_L16 a0 M13)))))
noncomputable def F_Md_falls_L38  (v0 : Nat) (v1 : Int32) (M : am_M) : am_R :=
  cv M v0 13 ( bI (F_Md_number v0 0 9 M) (fun r4 M3 => if v1 = 0 then (some (some (.int r4), M3)) else (some (some (.int (-r4)), M3))))
noncomputable def F_Md_falls_L29  (v0 : Nat) (s0 : Int32) (M : am_M) : am_R :=
  if s0 = 0 then (F_Md_falls_L38 v0 s0 M) else (cv M v0 13 ( bV (F_Md_advance v0 M) (fun M5 => F_Md_falls_L38 v0 s0 M5)))
noncomputable def F_Md_falls_L28  (v0 : Nat) (M : am_M) : am_R :=
  F_Md_falls_L29 v0 0 M
noncomputable def F_Md_falls (a0 : Nat) (M : am_M) : am_R :=
  cv M a0 13 ( bI (F_Md_good a0 M) (fun r2 M1 => if r2 = 0 then (F_Md_falls_L28 a0 M1) else (fI M1 a0 13 19 (fun x6 => if x6 = 3 then (fI M1 a0 13 20 (fun x7 => if x7 = 45 then (F_Md_falls_L29 a0 1 M1) else (F_Md_falls_L28 a0 M1))) else (F_Md_falls_L28 a0 M1)))))
noncomputable def F_Md_readKind_L214  (v0 : Nat) (v1 : Int32) (s0 : Nat) (s1 : Int32) (s2 : Int32) (M : am_M) : am_R :=
  tI M s0 s1 s2 (fun M37 => fR M37 v0 13 11 (fun b38 => tI M37 b38 (v1 + 6) 0 (fun M39 => fR M39 v0 13 11 (fun b40 => tI M39 b40 (v1 + 7) (-1) (fun M41 => cv M41 v0 13 ( bI (F_Md_takes v0 131 M41) (fun r43 M42 => if r43 = 0 then (fI M42 v0 13 10 (fun x44 => sI M42 v0 13 10 (x44 + 1) (fun M45 => some (none, M45)))) else (fR M42 v0 13 11 (fun b46 => cv M42 v0 13 ( bI (F_Md_number v0 1 2 M42) (fun r48 M47 => tI M47 b46 (v1 + 6) r48 (fun M49 => cv M49 v0 13 ( bV (F_Md_passes v0 132 M49) (fun M50 => fR M50 v0 13 11 (fun b51 => fI M50 v0 13 10 (fun x52 => cv M50 v0 13 ( bI (F_Md_number v0 0 (x52 - 1) M50) (fun r54 M53 => tI M53 b51 (v1 + 7) r54 (fun M55 => fI M55 v0 13 10 (fun x56 => sI M55 v0 13 10 (x56 + 1) (fun M57 => some (none, M57))))))))))))))))))))))
noncomputable def F_Md_readKind_L166  (v0 : Nat) (v1 : Int32) (s0 : Nat) (s1 : Int32) (s2 : Int32) (M : am_M) : am_R :=
  tI M s0 s1 s2 (fun M29 => fR M29 v0 13 11 (fun b30 => cv M29 v0 13 ( bI (F_Md_takes v0 128 M29) (fun r32 M31 => if r32 = 0 then (cv M31 v0 13 ( bI (F_Md_takes v0 129 M31) (fun r34 M33 => if r34 = 0 then (cv M33 v0 13 ( bI (F_Md_takes v0 130 M33) (fun r36 M35 => if r36 = 0 then (F_Md_readKind_L214 v0 v1 b30 (v1 + 5) 0 M35) else (F_Md_readKind_L214 v0 v1 b30 (v1 + 5) 2 M35)))) else (F_Md_readKind_L214 v0 v1 b30 (v1 + 5) 1 M33)))) else (F_Md_readKind_L214 v0 v1 b30 (v1 + 5) 0 M31)))))
noncomputable def F_Md_readKind_L138  (v0 : Nat) (v1 : Int32) (s0 : Nat) (s1 : Int32) (s2 : Int32) (M : am_M) : am_R :=
  tI M s0 s1 s2 (fun M25 => fR M25 v0 13 11 (fun b26 => cv M25 v0 13 ( bI (F_Md_takes v0 127 M25) (fun r28 M27 => if r28 = 0 then (F_Md_readKind_L166 v0 v1 b26 (v1 + 4) 1 M27) else (cv M27 v0 13 ( bI (F_Md_number v0 1 9 M27) (fun r59 M58 => F_Md_readKind_L166 v0 v1 b26 (v1 + 4) r59 M58)))))))
noncomputable def F_Md_readKind_L113  (v0 : Nat) (v1 : Int32) (s0 : Nat) (s1 : Int32) (s2 : Int32) (M : am_M) : am_R :=
  tI M s0 s1 s2 (fun M21 => fR M21 v0 13 11 (fun b22 => cv M21 v0 13 ( bI (F_Md_takes v0 126 M21) (fun r24 M23 => if r24 = 0 then (F_Md_readKind_L138 v0 v1 b22 (v1 + 3) 0 M23) else (cv M23 v0 13 ( bI (F_Md_falls v0 M23) (fun r61 M60 => F_Md_readKind_L138 v0 v1 b22 (v1 + 3) r61 M60)))))))
noncomputable def F_Md_readKind_L85  (v0 : Nat) (v1 : Int32) (s0 : Nat) (s1 : Int32) (s2 : Int32) (M : am_M) : am_R :=
  tI M s0 s1 s2 (fun M17 => fR M17 v0 13 11 (fun b18 => cv M17 v0 13 ( bI (F_Md_takes v0 125 M17) (fun r20 M19 => if r20 = 0 then (F_Md_readKind_L113 v0 v1 b18 (v1 + 2) 0 M19) else (cv M19 v0 13 ( bI (F_Md_number v0 0 20 M19) (fun r63 M62 => F_Md_readKind_L113 v0 v1 b18 (v1 + 2) r63 M62)))))))
noncomputable def F_Md_readKind_L17  (v0 : Nat) (M : am_M) : am_R :=
  cv M v0 13 ( bI (F_Md_good v0 M) (fun r5 M4 => if r5 = 0 then (some (none, M4)) else (cv M4 v0 13 ( bV (F_Md_advance v0 M4) (fun M6 => fI M6 v0 13 10 (fun x7 => nm (8 * x7) (fun x8 => cv M6 v0 13 ( bV (F_Md_passes v0 123 M6) (fun M9 => fR M9 v0 13 11 (fun b10 => cv M9 v0 13 ( bI (F_Md_number v0 1 40 M9) (fun r12 M11 => tI M11 b10 (x8 + 0) r12 (fun M13 => fR M13 v0 13 11 (fun b14 => cv M13 v0 13 ( bI (F_Md_takes v0 124 M13) (fun r16 M15 => if r16 = 0 then (F_Md_readKind_L85 v0 x8 b14 (x8 + 1) 0 M15) else (cv M15 v0 13 ( bI (F_Md_number v0 0 20 M15) (fun r65 M64 => F_Md_readKind_L85 v0 x8 b14 (x8 + 1) r65 M64)))))))))))))))))))
noncomputable def F_Md_readKind (a0 : Nat) (M : am_M) : am_R :=
  fI M a0 13 10 (fun x1 => if x1 = 5 then (fI M a0 13 18 (fun x2 => cv M a0 13 ( bV (F_Md_errs a0 3 x2 M) (fun M3 => F_Md_readKind_L17 a0 M3)))) else (F_Md_readKind_L17 a0 M))
noncomputable def F_Md_readSource_L200  (v0 : Nat) (v1 : Int32) (s0 : Nat) (s1 : Int32) (s2 : Int32) (M : am_M) : am_R :=
  tI M s0 s1 s2 (fun M32 => fR M32 v0 13 13 (fun b33 => cv M32 v0 13 ( bI (F_Md_takes v0 139 M32) (fun r35 M34 => if r35 = 0 then (tI M34 b33 (v1 + 8) 0 (fun M36 => fI M36 v0 13 12 (fun x37 => sI M36 v0 13 12 (x37 + 1) (fun M38 => some (none, M38))))) else (cv M34 v0 13 ( bI (F_Md_number v0 0 20 M34) (fun r40 M39 => tI M39 b33 (v1 + 8) r40 (fun M41 => fI M41 v0 13 12 (fun x42 => sI M41 v0 13 12 (x42 + 1) (fun M43 => some (none, M43)))))))))))
noncomputable def F_Md_readSource_L168  (v0 : Nat) (v1 : Int32) (s0 : Nat) (s1 : Int32) (s2 : Int32) (M : am_M) : am_R :=
  tI M s0 s1 s2 (fun M28 => fR M28 v0 13 13 (fun b29 => cv M28 v0 13 ( bI (F_Md_takes v0 138 M28) (fun r31 M30 => if r31 = 0 then (F_Md_readSource_L200 v0 v1 b29 (v1 + 7) 9999 M30) else (cv M30 v0 13 ( bI (F_Md_number v0 0 9999 M30) (fun r45 M44 => F_Md_readSource_L200 v0 v1 b29 (v1 + 7) r45 M44)))))))
noncomputable def F_Md_readSource_L64  : Nat → Nat → Int32 → Int32 → am_M → am_R
  | 0, _, _, _, _ => none
  | n + 1, v0, v1, v2, M =>
    if 3 ≤ v2 then (cv M v0 13 ( bV (F_Md_passes v0 135 M) (fun M15 => fR M15 v0 13 13 (fun b16 => cv M15 v0 13 ( bI (F_Md_number v0 0 9999 M15) (fun r18 M17 => tI M17 b16 (v1 + 4) r18 (fun M19 => cv M19 v0 13 ( bV (F_Md_passes v0 136 M19) (fun M20 => fR M20 v0 13 13 (fun b21 => cv M20 v0 13 ( bI (F_Md_number v0 1 99 M20) (fun r23 M22 => tI M22 b21 (v1 + 5) r23 (fun M24 => fR M24 v0 13 13 (fun b25 => cv M24 v0 13 ( bI (F_Md_takes v0 137 M24) (fun r27 M26 => if r27 = 0 then (F_Md_readSource_L168 v0 v1 b25 (v1 + 6) 1 M26) else (cv M26 v0 13 ( bI (F_Md_number v0 1 5 M26) (fun r47 M46 => F_Md_readSource_L168 v0 v1 b25 (v1 + 6) r47 M46))))))))))))))))))) else (fR M v0 13 13 (fun b48 => fR M v0 13 8 (fun b49 => aI M b49 v2 (fun x50 => cv M v0 13 ( bI (F_Md_number v0 0 (x50 - 1) M) (fun r52 M51 => tI M51 b48 ((v1 + 1) + v2) r52 (fun M53 => nm (v2 + 1) (fun x54 => F_Md_readSource_L64 n v0 v1 x54 M53))))))))
noncomputable def F_Md_readSource_L17  (v0 : Nat) (M : am_M) : am_R :=
  cv M v0 13 ( bI (F_Md_good v0 M) (fun r5 M4 => if r5 = 0 then (some (none, M4)) else (cv M4 v0 13 ( bV (F_Md_advance v0 M4) (fun M6 => fI M6 v0 13 12 (fun x7 => nm (9 * x7) (fun x8 => fR M6 v0 13 13 (fun b9 => fI M6 v0 13 10 (fun x10 => cv M6 v0 13 ( bI (F_Md_number v0 0 (x10 - 1) M6) (fun r12 M11 => tI M11 b9 (x8 + 0) r12 (fun M13 => cv M13 v0 13 ( bV (F_Md_passes v0 134 M13) (fun M14 => F_Md_readSource_L64 fu v0 x8 0 M14))))))))))))))
noncomputable def F_Md_readSource (a0 : Nat) (M : am_M) : am_R :=
  fI M a0 13 12 (fun x1 => if x1 = 4 then (fI M a0 13 18 (fun x2 => cv M a0 13 ( bV (F_Md_errs a0 3 x2 M) (fun M3 => F_Md_readSource_L17 a0 M3)))) else (F_Md_readSource_L17 a0 M))
noncomputable def F_Md_readLine_L120  (v0 : Nat) (M : am_M) : am_R :=
  fI M v0 13 18 (fun x12 => cv M v0 13 ( bV (F_Md_errs v0 1 x12 M) (fun M13 => cv M13 v0 13 ( bI (F_Md_good v0 M13) (fun r15 M14 => if r15 = 0 then (some (none, M14)) else (cv M14 v0 13 ( bV (F_Md_advance v0 M14) (fun M16 => some (none, M16)))))))))
noncomputable def F_Md_readLine_L96  (v0 : Nat) (M : am_M) : am_R :=
  cv M v0 13 ( bI (F_Md_good v0 M) (fun r3 M2 => if r3 = 0 then (cv M2 v0 13 ( bI (F_Md_good v0 M2) (fun r5 M4 => if r5 = 0 then (some (none, M4)) else (cv M4 v0 13 ( bV (F_Md_advance v0 M4) (fun M6 => some (none, M6))))))) else (fI M2 v0 13 19 (fun x7 => if x7 = 3 then (fI M2 v0 13 20 (fun x8 => if x8 = 59 then (cv M2 v0 13 ( bI (F_Md_good v0 M2) (fun r10 M9 => if r10 = 0 then (some (none, M9)) else (cv M9 v0 13 ( bV (F_Md_advance v0 M9) (fun M11 => some (none, M11))))))) else (F_Md_readLine_L120 v0 M2))) else (F_Md_readLine_L120 v0 M2)))))
noncomputable def F_Md_readLine_L12  : Nat → Nat → Int32 → am_M → am_R
  | 0, _, _, _ => none
  | n + 1, v0, v2, M =>
    if 3 ≤ v2 then (F_Md_readLine_L96 v0 M) else (fR M v0 13 8 (fun b17 => cv M v0 13 ( bI (F_Md_number v0 1 40 M) (fun r19 M18 => tI M18 b17 v2 r19 (fun M20 => nm (v2 + 1) (fun x21 => F_Md_readLine_L12 n v0 x21 M20))))))
noncomputable def F_Md_readLine (a0 : Nat) (p1 : Int32) (M : am_M) : am_R :=
  if p1 = 0 then (cv M a0 13 ( bV (F_Md_passes a0 120 M) (fun M1 => F_Md_readLine_L12 fu a0 0 M1))) else (cv M a0 13 ( bI (F_Md_isWord a0 121 M) (fun r23 M22 => if r23 = 0 then (cv M22 a0 13 ( bI (F_Md_isWord a0 122 M22) (fun r25 M24 => if r25 = 0 then (cv M24 a0 13 ( bI (F_Md_isWord a0 133 M24) (fun r27 M26 => if r27 = 0 then (fI M26 a0 13 18 (fun x28 => cv M26 a0 13 ( bV (F_Md_errs a0 1 x28 M26) (fun M29 => F_Md_readLine_L96 a0 M29)))) else (cv M26 a0 13 ( bV (F_Md_readSource a0 M26) (fun M30 => F_Md_readLine_L96 a0 M30)))))) else (cv M24 a0 13 ( bV (F_Md_readKind a0 M24) (fun M31 => F_Md_readLine_L96 a0 M31)))))) else (cv M22 a0 13 ( bV (F_Md_readSeed a0 M22) (fun M32 => F_Md_readLine_L96 a0 M32))))))
noncomputable def F_Md_scene_L192  : Nat → Nat → Int32 → Int32 → am_M → am_R
  | 0, _, _, _, _ => none
  | n + 1, v0, v1, v2, M =>
    fI M v0 13 6 (fun x27 => if (9 * x27) ≤ v2 then (sI M v0 13 24 0 (fun M28 => some (some (.int v1), M28))) else (fR M v0 13 7 (fun b29 => fR M v0 13 13 (fun b30 => aI M b30 v2 (fun x31 => tI M b29 v2 x31 (fun M32 => nm (v2 + 1) (fun x33 => F_Md_scene_L192 n v0 v1 x33 M32)))))))
noncomputable def F_Md_scene_L161  : Nat → Nat → Int32 → Int32 → am_M → am_R
  | 0, _, _, _, _ => none
  | n + 1, v0, v1, v2, M =>
    fI M v0 13 4 (fun x26 => if (8 * x26) ≤ v2 then (F_Md_scene_L192 fu v0 v1 0 M) else (fR M v0 13 5 (fun b34 => fR M v0 13 11 (fun b35 => aI M b35 v2 (fun x36 => tI M b34 v2 x36 (fun M37 => nm (v2 + 1) (fun x38 => F_Md_scene_L161 n v0 v1 x38 M37)))))))
noncomputable def F_Md_scene_L112  : Nat → Nat → Int32 → Int32 → am_M → am_R
  | 0, _, _, _, _ => none
  | n + 1, v0, v1, v2, M =>
    if 3 ≤ v2 then (fI M v0 13 9 (fun x20 => sI M v0 13 3 x20 (fun M21 => fI M21 v0 13 10 (fun x22 => sI M21 v0 13 4 x22 (fun M23 => fI M23 v0 13 12 (fun x24 => sI M23 v0 13 6 x24 (fun M25 => F_Md_scene_L161 fu v0 v1 0 M25))))))) else (fR M v0 13 2 (fun b39 => fR M v0 13 8 (fun b40 => aI M b40 v2 (fun x41 => tI M b39 v2 x41 (fun M42 => nm (v2 + 1) (fun x43 => F_Md_scene_L112 n v0 v1 x43 M42))))))
noncomputable def F_Md_scene_L95  (v0 : Nat) (v1 : Int32) (M : am_M) : am_R :=
  cv M v0 13 ( bI (F_Md_good v0 M) (fun r18 M17 => if r18 = 0 then (some (some (.int (-4)), M17)) else (sI M17 v0 13 1 1 (fun M19 => F_Md_scene_L112 fu v0 v1 0 M19))))
noncomputable def F_Md_scene_L70  : Nat → Nat → Int32 → am_M → am_R
  | 0, _, _, _ => none
  | n + 1, v0, v1, M =>
    cv M v0 13 ( bI (F_Md_good v0 M) (fun r16 M15 => if r16 = 0 then (F_Md_scene_L95 v0 v1 M15) else (fI M15 v0 13 19 (fun x44 => if x44 = 0 then (F_Md_scene_L95 v0 v1 M15) else (cv M15 v0 13 ( bV (F_Md_readLine v0 v1 M15) (fun M45 => nm (v1 + 1) (fun x46 => F_Md_scene_L70 n v0 x46 M45))))))))
noncomputable def F_Md_scene (a0 : Nat) (M : am_M) : am_R :=
  fI M a0 13 15 (fun x1 => sI M a0 13 16 x1 (fun M2 => sI M2 a0 13 15 0 (fun M3 => sI M3 a0 13 17 0 (fun M4 => sI M4 a0 13 21 0 (fun M5 => sI M5 a0 13 22 (-1) (fun M6 => sI M6 a0 13 9 0 (fun M7 => sI M7 a0 13 10 0 (fun M8 => sI M8 a0 13 12 0 (fun M9 => sI M9 a0 13 23 0 (fun M10 => cv M10 a0 13 ( bV (F_Md_advance a0 M10) (fun M11 => fI M11 a0 13 19 (fun x12 => if x12 = 0 then (fI M11 a0 13 18 (fun x13 => cv M11 a0 13 ( bV (F_Md_errs a0 1 x13 M11) (fun M14 => F_Md_scene_L70 fu a0 0 M14)))) else (F_Md_scene_L70 fu a0 0 M11))))))))))))))
noncomputable def F_Md_fault (a0 : Nat) (p1 : Int32) (M : am_M) : am_R :=
  if p1 = 0 then (fI M a0 13 21 (fun x1 => some (some (.int x1), M))) else (if p1 = 1 then (fI M a0 13 22 (fun x2 => some (some (.int x2), M))) else (some (some (.int (-1)), M)))
noncomputable def F_Md_count (a0 : Nat) (p1 : Int32) (M : am_M) : am_R :=
  if p1 = 0 then (fI M a0 13 1 (fun x1 => if x1 = 0 then (some (some (.int 0), M)) else (fR M a0 13 2 (fun b2 => aI M b2 p1 (fun x3 => some (some (.int x3), M)))))) else (if p1 = 1 then (fI M a0 13 1 (fun x4 => if x4 = 0 then (some (some (.int 0), M)) else (fR M a0 13 2 (fun b5 => aI M b5 p1 (fun x6 => some (some (.int x6), M)))))) else (if p1 = 2 then (fI M a0 13 1 (fun x7 => if x7 = 0 then (some (some (.int 0), M)) else (fR M a0 13 2 (fun b8 => aI M b8 p1 (fun x9 => some (some (.int x9), M)))))) else (if p1 = 3 then (fI M a0 13 4 (fun x10 => some (some (.int x10), M))) else (if p1 = 4 then (fI M a0 13 6 (fun x11 => some (some (.int x11), M))) else (if p1 = 5 then (fI M a0 13 3 (fun x12 => some (some (.int x12), M))) else (if p1 = 6 then (fI M a0 13 15 (fun x13 => some (some (.int x13), M))) else (if p1 = 7 then (fI M a0 13 41 (fun x14 => some (some (.int x14), M))) else (some (some (.int (-1)), M)))))))))
noncomputable def F_Md_kind (a0 : Nat) (p1 : Int32) (p2 : Int32) (M : am_M) : am_R :=
  fI M a0 13 4 (fun x1 => bI (F_Md_in (p1.toInt64) 0 ((x1 - 1).toInt64) M) (fun r3 M2 => if r3 = 0 then (some (some (.int (-99)), M2)) else (bI (F_Md_in (p2.toInt64) 0 7 M2) (fun r5 M4 => if r5 = 0 then (some (some (.int (-99)), M4)) else (fR M4 a0 13 5 (fun b6 => aI M4 b6 ((8 * p1) + p2) (fun x7 => some (some (.int x7), M4))))))))
noncomputable def F_Md_ofSource (a0 : Nat) (p1 : Int32) (p2 : Int32) (M : am_M) : am_R :=
  fR M a0 13 7 (fun b1 => aI M b1 ((9 * p1) + p2) (fun x2 => some (some (.int x2), M)))
noncomputable def F_Md_groups (a0 : Nat) (p1 : Int32) (M : am_M) : am_R :=
  cv M a0 13 ( bI (F_Md_ofSource a0 p1 7 M) (fun r2 M1 => cv M1 a0 13 ( bI (F_Md_ofSource a0 p1 4 M1) (fun r4 M3 => nm (r2 - r4) (fun x5 => if 0 ≤ x5 then (cv M3 a0 13 ( bI (F_Md_ofSource a0 p1 5 M3) (fun r7 M6 => dZ r7 ( some (some (.int ((x5 / r7) + 1)), M6))))) else (some (some (.int 0), M3)))))))
noncomputable def F_Md_roots (a0 : Nat) (p1 : Int32) (M : am_M) : am_R :=
  cv M a0 13 ( bI (F_Md_groups a0 p1 M) (fun r2 M1 => cv M1 a0 13 ( bI (F_Md_ofSource a0 p1 6 M1) (fun r4 M3 => some (some (.int (r2 * r4)), M3)))))
noncomputable def F_Md_source (a0 : Nat) (p1 : Int32) (p2 : Int32) (M : am_M) : am_R :=
  fI M a0 13 6 (fun x1 => bI (F_Md_in (p1.toInt64) 0 ((x1 - 1).toInt64) M) (fun r3 M2 => if r3 = 0 then (some (some (.int (-2)), M2)) else (bI (F_Md_in (p2.toInt64) 0 9 M2) (fun r5 M4 => if r5 = 0 then (some (some (.int (-2)), M4)) else (if p2 = 9 then (cv M4 a0 13 ( bI (F_Md_roots a0 p1 M4) (fun r7 M6 => some (some (.int r7), M6)))) else (cv M4 a0 13 ( bI (F_Md_ofSource a0 p1 p2 M4) (fun r9 M8 => some (some (.int r9), M8)))))))))
noncomputable def F_Md_keeps_L61  (v0 : Nat) (v1 : Int32) (v2 : Int32) (M : am_M) : am_R :=
  fR M v0 13 25 (fun b4 => fI M v0 13 24 (fun x5 => tI M b4 x5 v1 (fun M6 => fR M6 v0 13 26 (fun b7 => fI M6 v0 13 24 (fun x8 => tI M6 b7 x8 v2 (fun M9 => fI M9 v0 13 24 (fun x10 => sI M9 v0 13 24 (x10 + 1) (fun M11 => some (none, M11)))))))))
noncomputable def F_Md_keeps_L11  : Nat → Nat → Int32 → Int32 → Int32 → am_M → am_R
  | 0, _, _, _, _, _ => none
  | n + 1, v0, v1, v2, v3, M =>
    if 10 ≤ v3 then (fI M v0 13 24 (fun x2 => sI M v0 13 24 (x2 - 1) (fun M3 => F_Md_keeps_L61 v0 v1 v2 M3))) else (fR M v0 13 25 (fun b12 => fR M v0 13 25 (fun b13 => aI M b13 v3 (fun x14 => tI M b12 (v3 - 1) x14 (fun M15 => fR M15 v0 13 26 (fun b16 => fR M15 v0 13 26 (fun b17 => aI M15 b17 v3 (fun x18 => tI M15 b16 (v3 - 1) x18 (fun M19 => nm (v3 + 1) (fun x20 => F_Md_keeps_L11 n v0 v1 v2 x20 M19))))))))))
noncomputable def F_Md_keeps (a0 : Nat) (p1 : Int32) (p2 : Int32) (M : am_M) : am_R :=
  fI M a0 13 24 (fun x1 => if x1 = 10 then (F_Md_keeps_L11 fu a0 p1 p2 1 M) else (F_Md_keeps_L61 a0 p1 p2 M))
noncomputable def F_Md_seed (a0 : Nat) (p1 : Int32) (M : am_M) : am_R :=
  fI M a0 13 1 (fun x1 => if x1 = 0 then (some (some (.int (-2)), M)) else (bI (F_Md_in (p1.toInt64) 0 999999 M) (fun r3 M2 => if r3 = 0 then (some (some (.int (-2)), M2)) else (fI M2 a0 13 3 (fun x4 => if x4 = p1 then (sI M2 a0 13 3 p1 (fun M5 => some (some (.int x4), M5))) else (cv M2 a0 13 ( bV (F_Md_keeps a0 (-1) x4 M2) (fun M6 => sI M6 a0 13 3 p1 (fun M7 => some (some (.int x4), M7))))))))))
noncomputable def F_Md_sets_L52  (v0 : Nat) (v1 : Int32) (v2 : Int32) (v3 : Int32) (v4 : Int32) (s0 : Int32) (M : am_M) : am_R :=
  fI M v0 13 4 (fun x1 => bI (F_Md_in (v1.toInt64) 0 ((x1 - 1).toInt64) M) (fun r3 M2 => if r3 = 0 then (some (some (.int (-99)), M2)) else (bI (F_Md_in (v2.toInt64) 0 4 M2) (fun r5 M4 => if r5 = 0 then (some (some (.int (-99)), M4)) else (bI (F_Md_in (v3.toInt64) (v4.toInt64) (s0.toInt64) M4) (fun r7 M6 => if r7 = 0 then (some (some (.int (-99)), M6)) else (nm ((8 * v1) + v2) (fun x8 => fR M6 v0 13 5 (fun b9 => aI M6 b9 x8 (fun x10 => if x10 = v3 then (fR M6 v0 13 5 (fun b11 => tI M6 b11 x8 v3 (fun M12 => some (some (.int x10), M12)))) else (cv M6 v0 13 ( bV (F_Md_keeps v0 x8 x10 M6) (fun M13 => fR M13 v0 13 5 (fun b14 => tI M13 b14 x8 v3 (fun M15 => some (some (.int x10), M15))))))))))))))))
noncomputable def F_Md_sets_L45  (v0 : Nat) (v1 : Int32) (v2 : Int32) (v3 : Int32) (v4 : Int32) (M : am_M) : am_R :=
  F_Md_sets_L52 v0 v1 v2 v3 v4 9 M
noncomputable def F_Md_sets_L24  (v0 : Nat) (v1 : Int32) (v2 : Int32) (v3 : Int32) (s0 : Int32) (M : am_M) : am_R :=
  if v2 = 0 then (F_Md_sets_L52 v0 v1 v2 v3 s0 40 M) else (if v2 = 3 then (F_Md_sets_L45 v0 v1 v2 v3 s0 M) else (if v2 = 4 then (F_Md_sets_L45 v0 v1 v2 v3 s0 M) else (F_Md_sets_L52 v0 v1 v2 v3 s0 20 M)))
noncomputable def F_Md_sets_L9  (v0 : Nat) (v1 : Int32) (v2 : Int32) (v3 : Int32) (M : am_M) : am_R :=
  F_Md_sets_L24 v0 v1 v2 v3 1 M
noncomputable def F_Md_sets (a0 : Nat) (p1 : Int32) (p2 : Int32) (p3 : Int32) (M : am_M) : am_R :=
  if p2 = 0 then (F_Md_sets_L9 a0 p1 p2 p3 M) else (if p2 = 4 then (F_Md_sets_L9 a0 p1 p2 p3 M) else (if p2 = 3 then (F_Md_sets_L24 a0 p1 p2 p3 (-9) M) else (F_Md_sets_L24 a0 p1 p2 p3 0 M)))
noncomputable def F_Md_undo (a0 : Nat) (M : am_M) : am_R :=
  fI M a0 13 1 (fun x1 => if x1 = 0 then (some (some (.int (-2)), M)) else (fI M a0 13 24 (fun x2 => if x2 = 0 then (some (some (.int (-1)), M)) else (fI M a0 13 24 (fun x3 => sI M a0 13 24 (x3 - 1) (fun M4 => fR M4 a0 13 25 (fun b5 => fI M4 a0 13 24 (fun x6 => aI M4 b5 x6 (fun x7 => if x7 = (-1) then (fR M4 a0 13 26 (fun b8 => fI M4 a0 13 24 (fun x9 => aI M4 b8 x9 (fun x10 => sI M4 a0 13 3 x10 (fun M11 => fI M11 a0 13 24 (fun x12 => some (some (.int x12), M11))))))) else (fR M4 a0 13 5 (fun b13 => fR M4 a0 13 25 (fun b14 => fI M4 a0 13 24 (fun x15 => aI M4 b14 x15 (fun x16 => fR M4 a0 13 26 (fun b17 => fI M4 a0 13 24 (fun x18 => aI M4 b17 x18 (fun x19 => tI M4 b13 x16 x19 (fun M20 => fI M20 a0 13 24 (fun x21 => some (some (.int x21), M20))))))))))))))))))))
noncomputable def F_Md_mixedOf (a0 : Nat) (p1 : Int32) (p2 : Int32) (M : am_M) : am_R :=
  fI M a0 13 3 (fun x1 => nm (((x1.toInt64) + ((p1.toInt64) * (-7046029254386353131))) + ((p2.toInt64) * (-3335678366873096957))) (fun z2 => nm ((z2 ^^^ ((z2.toUInt64 >>> ((30 : Int32).toInt64.toUInt64 &&& Int64.toUInt64 63)).toInt64)) * (-4658895280553007687)) (fun z3 => nm ((z3 ^^^ ((z3.toUInt64 >>> ((27 : Int32).toInt64.toUInt64 &&& Int64.toUInt64 63)).toInt64)) * (-7723592293110705685)) (fun z4 => some (some (.long (z4 ^^^ ((z4.toUInt64 >>> ((31 : Int32).toInt64.toUInt64 &&& Int64.toUInt64 63)).toInt64))), M)))))
noncomputable def F_Md_mixed (a0 : Nat) (p1 : Int32) (p2 : Int32) (M : am_M) : am_R :=
  fI M a0 13 1 (fun x1 => if x1 = 0 then (some (some (.long 0), M)) else (cv M a0 13 ( bL (F_Md_mixedOf a0 p1 p2 M) (fun z3 M2 => some (some (.long z3), M2)))))
noncomputable def F_Md_first (p1 : Int32) (M : am_M) : am_R :=
  some (some (.int ((p1 / 16) - 1)), M)
noncomputable def F_Md_hasChild (a0 : Nat) (p1 : Int32) (p2 : Int32) (M : am_M) : am_R :=
  fR M a0 13 5 (fun b1 => aI M b1 ((8 * p1) + 6) (fun x2 => bI (F_Md_in (p2.toInt64) 0 ((x2 - 1).toInt64) M) (fun r4 M3 => zR .boolean r4 (some (some (.int r4), M3)))))
noncomputable def F_Md_second (p1 : Int32) (M : am_M) : am_R :=
  some (some (.int ((p1 - p1 / 16 * 16) - 1)), M)
noncomputable def F_Md_isSpark (a0 : Nat) (p1 : Int32) (M : am_M) : am_R :=
  fI M a0 13 1 (fun x1 => if x1 = 0 then (some (some (.int 0), M)) else (if 0 ≤ p1 then (nm ((p1 / 256) - (p1 / 256) / 4 * 4) (fun x2 => fI M a0 13 6 (fun x3 => if x3 ≤ x2 then (some (some (.int 0), M)) else (cv M a0 13 ( bI (F_Md_roots a0 x2 M) (fun r5 M4 => if ((p1 / 256) / 4) < r5 then (nm (p1 - p1 / 256 * 256) (fun x6 => if x6 = 0 then (some (some (.int 1), M4)) else (cv M4 a0 13 ( bI (F_Md_ofSource a0 x2 0 M4) (fun r8 M7 => bI (F_Md_first x6 M7) (fun r10 M9 => cv M9 a0 13 ( bI (F_Md_hasChild a0 r8 r10 M9) (fun r12 M11 => if r12 = 0 then (some (some (.int 0), M11)) else (if (x6 - x6 / 16 * 16) = 0 then (some (some (.int 1), M11)) else (fR M11 a0 13 5 (fun b13 => aI M11 b13 ((8 * r8) + 7) (fun x14 => bI (F_Md_second x6 M11) (fun r16 M15 => cv M15 a0 13 ( bI (F_Md_hasChild a0 x14 r16 M15) (fun r18 M17 => if r18 = 0 then (some (some (.int 0), M17)) else (some (some (.int 1), M17))))))))))))))))) else (some (some (.int 0), M4)))))))) else (some (some (.int 0), M))))
noncomputable def F_Md_is (a0 : Nat) (p1 : Int32) (M : am_M) : am_R :=
  fI M a0 13 1 (fun x1 => if x1 = 0 then (some (some (.int (-2)), M)) else (cv M a0 13 ( bI (F_Md_isSpark a0 p1 M) (fun r3 M2 => if r3 = 0 then (some (some (.int 0), M2)) else (some (some (.int 1), M2))))))
noncomputable def F_Md_generation (p1 : Int32) (M : am_M) : am_R :=
  if (p1 - p1 / 256 * 256) = 0 then (some (some (.int 0), M)) else (if (p1 - p1 / 16 * 16) = 0 then (some (some (.int 1), M)) else (some (some (.int 2), M)))
noncomputable def F_Md_kindOf_L29  : Nat → Nat → Int32 → Int32 → am_M → am_R
  | 0, _, _, _, _ => none
  | n + 1, v0, v3, v4, M =>
    if v4 ≤ 0 then (some (some (.int v3), M)) else (fR M v0 13 5 (fun b6 => aI M b6 ((8 * v3) + 7) (fun x7 => nm (v4 + (-1)) (fun x8 => F_Md_kindOf_L29 n v0 x7 x8 M))))
noncomputable def F_Md_kindOf (a0 : Nat) (p1 : Int32) (M : am_M) : am_R :=
  nm (p1 - p1 / 256 * 256) (fun x1 => cv M a0 13 ( bI (F_Md_ofSource a0 ((p1 / 256) - (p1 / 256) / 4 * 4) 0 M) (fun r3 M2 => bI (F_Md_generation (256 + x1) M2) (fun r5 M4 => F_Md_kindOf_L29 fu a0 r3 r5 M4))))
noncomputable def F_Md_childOf (a0 : Nat) (p1 : Int32) (p2 : Int32) (M : am_M) : am_R :=
  bI (F_Md_generation p1 M) (fun r2 M1 => if r2 = 2 then (some (some (.int (-1)), M1)) else (cv M1 a0 13 ( bI (F_Md_kindOf a0 p1 M1) (fun r4 M3 => cv M3 a0 13 ( bI (F_Md_hasChild a0 r4 p2 M3) (fun r6 M5 => if r6 = 0 then (some (some (.int (-1)), M5)) else (if r2 = 0 then (some (some (.int (p1 + (16 * (1 + p2)))), M5)) else (some (some (.int (p1 + (1 * (1 + p2)))), M5)))))))))
noncomputable def F_Md_child (a0 : Nat) (p1 : Int32) (p2 : Int32) (M : am_M) : am_R :=
  cv M a0 13 ( bI (F_Md_isSpark a0 p1 M) (fun r2 M1 => if r2 = 0 then (some (some (.int (-2)), M1)) else (cv M1 a0 13 ( bI (F_Md_childOf a0 p1 p2 M1) (fun r4 M3 => some (some (.int r4), M3))))))
noncomputable def F_Md_parentOf (p1 : Int32) (M : am_M) : am_R :=
  bI (F_Md_generation p1 M) (fun r2 M1 => if r2 = 2 then (some (some (.int (p1 - (p1 - p1 / 16 * 16))), M1)) else (some (some (.int (p1 - (p1 - p1 / 256 * 256))), M1)))
noncomputable def F_Md_parent (a0 : Nat) (p1 : Int32) (M : am_M) : am_R :=
  cv M a0 13 ( bI (F_Md_isSpark a0 p1 M) (fun r2 M1 => if r2 = 0 then (some (some (.int (-2)), M1)) else (bI (F_Md_generation p1 M1) (fun r4 M3 => if r4 = 0 then (some (some (.int (-1)), M3)) else (bI (F_Md_parentOf p1 M3) (fun r6 M5 => some (some (.int r6), M5)))))))
noncomputable def F_Md_draw (a0 : Nat) (p1 : Int32) (p2 : Int32) (p3 : Int32) (M : am_M) : am_R :=
  cv M a0 13 ( bL (F_Md_mixedOf a0 p1 p2 M) (fun z2 M1 => dZL (p3.toInt64) ( some (some (.int ((((z2.toUInt64 >>> ((33 : Int32).toInt64.toUInt64 &&& Int64.toUInt64 63)).toInt64) - ((z2.toUInt64 >>> ((33 : Int32).toInt64.toUInt64 &&& Int64.toUInt64 63)).toInt64) / (p3.toInt64) * (p3.toInt64)).toInt32)), M1))))
noncomputable def F_Md_edge (a0 : Nat) (M : am_M) : am_R :=
  fR M a0 13 5 (fun b1 => fI M a0 13 27 (fun x2 => aI M b1 ((8 * x2) + 5) (fun x3 => some (some (.int x3), M))))
noncomputable def F_Md_raw_L31  (v0 : Nat) (v1 : Int32) (v2 : Int32) (s0 : Int32) (M : am_M) : am_R :=
  fR M v0 13 30 (fun b4 => aI M b4 v1 (fun x5 => fR M v0 13 31 (fun b6 => aI M b6 v1 (fun x7 => some (some (.int ((x5 + (v2 * x7)) + s0)), M)))))
noncomputable def F_Md_raw (a0 : Nat) (p1 : Int32) (p2 : Int32) (M : am_M) : am_R :=
  if p1 = 1 then (fR M a0 13 5 (fun b1 => fI M a0 13 27 (fun x2 => aI M b1 ((8 * x2) + 3) (fun x3 => F_Md_raw_L31 a0 p1 p2 (x3 * ((p2 * (p2 - 1)) / 2)) M)))) else (F_Md_raw_L31 a0 p1 p2 0 M)
noncomputable def F_Md_world (a0 : Nat) (p1 : Int32) (M : am_M) : am_R :=
  fR M a0 13 2 (fun b1 => aI M b1 p1 (fun x2 => some (some (.int (8 * x2)), M)))
noncomputable def F_Md_isBeyond_L4  : Nat → Nat → Int32 → Int32 → Int32 → am_M → am_R
  | 0, _, _, _, _, _ => none
  | n + 1, v0, v1, v2, v3, M =>
    if 3 ≤ v3 then (zR .boolean v2 (some (some (.int v2), M))) else (if v2 = 0 then (cv M v0 13 ( bI (F_Md_raw v0 v3 v1 M) (fun r2 M1 => cv M1 v0 13 ( bI (F_Md_world v0 v3 M1) (fun r4 M3 => bI (F_Md_in (r2.toInt64) 0 ((r4 - 1).toInt64) M3) (fun r6 M5 => if r6 = 0 then (nm (v3 + 1) (fun x7 => F_Md_isBeyond_L4 n v0 v1 1 x7 M5)) else (nm (v3 + 1) (fun x8 => F_Md_isBeyond_L4 n v0 v1 0 x8 M5)))))))) else (nm (v3 + 1) (fun x9 => F_Md_isBeyond_L4 n v0 v1 1 x9 M)))
noncomputable def F_Md_isBeyond (a0 : Nat) (p1 : Int32) (M : am_M) : am_R :=
  F_Md_isBeyond_L4 fu a0 p1 0 0 M
noncomputable def F_Md_laysOne_L111  : Nat → Nat → Int32 → Int32 → am_M → am_R
  | 0, _, _, _, _ => none
  | n + 1, v0, v5, v6, M =>
    if v5 ≤ v6 then (fI M v0 13 28 (fun x14 => sI M v0 13 29 (x14 + v6) (fun M15 => some (none, M15)))) else (cv M v0 13 ( bI (F_Md_isBeyond v0 v6 M) (fun r17 M16 => if r17 = 0 then (nm (v6 + 1) (fun x18 => F_Md_laysOne_L111 n v0 v5 x18 M16)) else (fI M16 v0 13 28 (fun x19 => sI M16 v0 13 29 (x19 + v6) (fun M20 => some (none, M20)))))))
noncomputable def F_Md_laysOne_L26  : Nat → Nat → Int32 → Int32 → Int32 → Int32 → am_M → am_R
  | 0, _, _, _, _, _, _ => none
  | n + 1, v0, v1, v2, v4, v5, M =>
    if 3 ≤ v5 then (fR M v0 13 5 (fun b5 => aI M b5 ((8 * v2) + 0) (fun x6 => fR M v0 13 5 (fun b7 => aI M b7 ((8 * v2) + 1) (fun x8 => cv M v0 13 ( bI (F_Md_draw v0 v1 1 (x8 + 1) M) (fun r10 M9 => nm (x6 + r10) (fun x11 => cv M9 v0 13 ( bI (F_Md_edge v0 M9) (fun r13 M12 => if r13 = 2 then (F_Md_laysOne_L111 fu v0 x11 0 M12) else (fI M12 v0 13 28 (fun x21 => sI M12 v0 13 29 (x21 + x11) (fun M22 => some (none, M22)))))))))))))) else (fR M v0 13 31 (fun b23 => cv M v0 13 ( bI (F_Md_draw v0 v1 (2 + v5) ((2 * v4) + 1) M) (fun r25 M24 => tI M24 b23 v5 (r25 - v4) (fun M26 => nm (v5 + 1) (fun x27 => F_Md_laysOne_L26 n v0 v1 v2 v4 x27 M26))))))
noncomputable def F_Md_laysOne (a0 : Nat) (p1 : Int32) (p2 : Int32) (p3 : Int32) (M : am_M) : am_R :=
  sI M a0 13 27 p2 (fun M1 => sI M1 a0 13 28 p3 (fun M2 => fR M2 a0 13 5 (fun b3 => aI M2 b3 ((8 * p2) + 2) (fun x4 => F_Md_laysOne_L26 fu a0 p1 p2 x4 0 M2))))
noncomputable def F_Md_laysRoot_L18  : Nat → Nat → Int32 → Int32 → Int32 → Int32 → am_M → am_R
  | 0, _, _, _, _, _, _ => none
  | n + 1, v0, v2, v3, v4, v5, M =>
    if 3 ≤ v5 then (cv M v0 13 ( bI (F_Md_ofSource v0 v2 4 M) (fun r5 M4 => cv M4 v0 13 ( bI (F_Md_ofSource v0 v2 6 M4) (fun r7 M6 => dZ r7 ( cv M6 v0 13 ( bI (F_Md_ofSource v0 v2 5 M6) (fun r9 M8 => nm (r5 + ((v3 / r7) * r9)) (fun x10 => cv M8 v0 13 ( bI (F_Md_ofSource v0 v2 0 M8) (fun r12 M11 => cv M11 v0 13 ( bI (F_Md_ofSource v0 v2 8 M11) (fun r14 M13 => cv M13 v0 13 ( bI (F_Md_draw v0 v4 0 (r14 + 1) M13) (fun r16 M15 => cv M15 v0 13 ( bV (F_Md_laysOne v0 v4 r12 (x10 + r16) M15) (fun M17 => some (none, M17)))))))))))))))))) else (fR M v0 13 30 (fun b18 => cv M v0 13 ( bI (F_Md_ofSource v0 v2 (1 + v5) M) (fun r20 M19 => tI M19 b18 v5 ((8 * r20) + 4) (fun M21 => nm (v5 + 1) (fun x22 => F_Md_laysRoot_L18 n v0 v2 v3 v4 x22 M21))))))
noncomputable def F_Md_laysRoot (a0 : Nat) (p1 : Int32) (M : am_M) : am_R :=
  nm (p1 - p1 / 4 * 4) (fun x1 => nm (p1 / 4) (fun x2 => nm (256 * p1) (fun x3 => F_Md_laysRoot_L18 fu a0 x1 x2 x3 0 M)))
noncomputable def F_Md_placeBy (a0 : Nat) (p1 : Int32) (p2 : Int32) (M : am_M) : am_R :=
  cv M a0 13 ( bI (F_Md_raw a0 p1 p2 M) (fun r2 M1 => cv M1 a0 13 ( bI (F_Md_world a0 p1 M1) (fun r4 M3 => cv M3 a0 13 ( bI (F_Md_edge a0 M3) (fun r6 M5 => if r6 = 0 then (bI (F_Math_floorMod r2 r4 M5) (fun r8 M7 => some (some (.int r8), M7))) else (cv M5 a0 13 ( bI (F_Md_edge a0 M5) (fun r10 M9 => if r10 = 2 then (some (some (.int r2), M9)) else (bI (F_Math_floorMod r2 (2 * r4) M9) (fun r12 M11 => if r12 < r4 then (some (some (.int r12), M11)) else (some (some (.int (((2 * r4) - 1) - r12)), M11)))))))))))))
noncomputable def F_Md_laysChild_L37  : Nat → Nat → Int32 → Int32 → am_M → am_R
  | 0, _, _, _, _ => none
  | n + 1, v0, v1, v2, M =>
    if 3 ≤ v2 then (fR M v0 13 5 (fun b1 => fI M v0 13 27 (fun x2 => aI M b1 ((8 * x2) + 7) (fun x3 => fI M v0 13 29 (fun x4 => cv M v0 13 ( bV (F_Md_laysOne v0 v1 x3 x4 M) (fun M5 => some (none, M5)))))))) else (fR M v0 13 30 (fun b6 => fR M v0 13 32 (fun b7 => aI M b7 v2 (fun x8 => tI M b6 v2 x8 (fun M9 => nm (v2 + 1) (fun x10 => F_Md_laysChild_L37 n v0 v1 x10 M9))))))
noncomputable def F_Md_laysChild_L2  : Nat → Nat → Int32 → Int32 → am_M → am_R
  | 0, _, _, _, _ => none
  | n + 1, v0, v1, v2, M =>
    if 3 ≤ v2 then (F_Md_laysChild_L37 fu v0 v1 0 M) else (fR M v0 13 32 (fun b11 => fI M v0 13 29 (fun x12 => fI M v0 13 28 (fun x13 => cv M v0 13 ( bI (F_Md_placeBy v0 v2 ((x12 - 1) - x13) M) (fun r15 M14 => tI M14 b11 v2 r15 (fun M16 => nm (v2 + 1) (fun x17 => F_Md_laysChild_L2 n v0 v1 x17 M16))))))))
noncomputable def F_Md_laysChild (a0 : Nat) (p1 : Int32) (M : am_M) : am_R :=
  F_Md_laysChild_L2 fu a0 p1 0 M
noncomputable def F_Md_lays (a0 : Nat) (p1 : Int32) (M : am_M) : am_R :=
  nm (p1 - p1 / 256 * 256) (fun x1 => cv M a0 13 ( bV (F_Md_laysRoot a0 (p1 / 256) M) (fun M2 => if x1 < 16 then (if (x1 - x1 / 16 * 16) ≤ 0 then (some (none, M2)) else (cv M2 a0 13 ( bV (F_Md_laysChild a0 p1 M2) (fun M3 => some (none, M3))))) else (cv M2 a0 13 ( bV (F_Md_laysChild a0 (p1 - (x1 - x1 / 16 * 16)) M2) (fun M4 => if (x1 - x1 / 16 * 16) ≤ 0 then (some (none, M4)) else (cv M4 a0 13 ( bV (F_Md_laysChild a0 p1 M4) (fun M5 => some (none, M5))))))))))
noncomputable def F_Md_spark (a0 : Nat) (p1 : Int32) (p2 : Int32) (M : am_M) : am_R :=
  cv M a0 13 ( bI (F_Md_isSpark a0 p1 M) (fun r2 M1 => if r2 = 0 then (some (some (.int (-99)), M1)) else (bI (F_Md_in (p2.toInt64) 0 9 M1) (fun r4 M3 => if r4 = 0 then (some (some (.int (-99)), M3)) else (cv M3 a0 13 ( bV (F_Md_lays a0 p1 M3) (fun M5 => if p2 = 0 then (fI M5 a0 13 27 (fun x6 => some (some (.int x6), M5))) else (if p2 = 1 then (some (some (.int ((p1 / 256) - (p1 / 256) / 4 * 4)), M5)) else (if p2 = 2 then (some (some (.int (p1 / 1024)), M5)) else (if p2 = 3 then (bI (F_Md_generation p1 M5) (fun r8 M7 => some (some (.int r8), M7))) else (if p2 = 4 then (cv M5 a0 13 ( bI (F_Md_draw a0 p1 5 8 M5) (fun r10 M9 => some (some (.int r10), M9)))) else (if p2 = 5 then (fI M5 a0 13 28 (fun x11 => some (some (.int x11), M5))) else (if p2 = 6 then (fI M5 a0 13 29 (fun x12 => some (some (.int x12), M5))) else (fR M5 a0 13 31 (fun b13 => aI M5 b13 (p2 - 7) (fun x14 => some (some (.int x14), M5)))))))))))))))))
noncomputable def F_Md_isTick (a0 : Nat) (p1 : Int32) (M : am_M) : am_R :=
  fI M a0 13 1 (fun x1 => if x1 = 0 then (some (some (.int 0), M)) else (bI (F_Md_in (p1.toInt64) 0 30000 M) (fun r3 M2 => if r3 = 0 then (some (some (.int 0), M2)) else (some (some (.int 1), M2)))))
noncomputable def F_Md_place (a0 : Nat) (p1 : Int32) (p2 : Int32) (p3 : Int32) (M : am_M) : am_R :=
  cv M a0 13 ( bI (F_Md_isSpark a0 p1 M) (fun r2 M1 => if r2 = 0 then (some (some (.int (-2)), M1)) else (cv M1 a0 13 ( bI (F_Md_isTick a0 p2 M1) (fun r4 M3 => if r4 = 0 then (some (some (.int (-2)), M3)) else (bI (F_Md_in (p3.toInt64) 0 2 M3) (fun r6 M5 => if r6 = 0 then (some (some (.int (-2)), M5)) else (cv M5 a0 13 ( bV (F_Md_lays a0 p1 M5) (fun M7 => fI M7 a0 13 28 (fun x8 => if p2 < x8 then (some (some (.int (-1)), M7)) else (fI M7 a0 13 29 (fun x9 => if x9 ≤ p2 then (some (some (.int (-1)), M7)) else (fI M7 a0 13 28 (fun x10 => cv M7 a0 13 ( bI (F_Md_placeBy a0 p3 (p2 - x10) M7) (fun r12 M11 => some (some (.int r12), M11))))))))))))))))))
noncomputable def F_Md_size (a0 : Nat) (p1 : Int32) (p2 : Int32) (M : am_M) : am_R :=
  cv M a0 13 ( bI (F_Md_isSpark a0 p1 M) (fun r2 M1 => if r2 = 0 then (some (some (.int (-2)), M1)) else (cv M1 a0 13 ( bI (F_Md_isTick a0 p2 M1) (fun r4 M3 => if r4 = 0 then (some (some (.int (-2)), M3)) else (cv M3 a0 13 ( bV (F_Md_lays a0 p1 M3) (fun M5 => fI M5 a0 13 28 (fun x6 => if p2 < x6 then (some (some (.int (-1)), M5)) else (fI M5 a0 13 29 (fun x7 => if p2 < x7 then (fR M5 a0 13 5 (fun b8 => fI M5 a0 13 27 (fun x9 => aI M5 b8 ((8 * x9) + 4) (fun x10 => fI M5 a0 13 28 (fun x11 => fI M5 a0 13 29 (fun x12 => fI M5 a0 13 28 (fun x13 => dZ (x12 - x13) ( bI (F_Math_max 1 (x10 - ((4 * (p2 - x11)) / (x12 - x13))) M5) (fun r15 M14 => some (some (.int r15), M14)))))))))) else (some (some (.int (-1)), M5)))))))))))))
noncomputable def F_Md_overAt_L14  : Nat → Nat → Int32 → Int32 → Int32 → am_M → am_R
  | 0, _, _, _, _, _ => none
  | n + 1, v0, v1, v2, v3, M =>
    if 3 ≤ v3 then (some (some (.int v2), M)) else (cv M v0 13 ( bI (F_Md_raw v0 v3 v1 M) (fun r4 M3 => cv M3 v0 13 ( bI (F_Md_world v0 v3 M3) (fun r6 M5 => bI (F_Math_floorDiv r4 r6 M5) (fun r8 M7 => cv M7 v0 13 ( bI (F_Md_raw v0 v3 (v1 - 1) M7) (fun r10 M9 => cv M9 v0 13 ( bI (F_Md_world v0 v3 M9) (fun r12 M11 => bI (F_Math_floorDiv r10 r12 M11) (fun r14 M13 => bI (F_Math_abs (r8 - r14) M13) (fun r16 M15 => nm (v2 + r16) (fun x17 => nm (v3 + 1) (fun x18 => F_Md_overAt_L14 n v0 v1 x17 x18 M15))))))))))))))
noncomputable def F_Md_overAt (a0 : Nat) (p1 : Int32) (M : am_M) : am_R :=
  cv M a0 13 ( bI (F_Md_edge a0 M) (fun r2 M1 => if r2 = 2 then (some (some (.int 0), M1)) else (F_Md_overAt_L14 fu a0 p1 0 0 M1)))
noncomputable def F_Md_edges_L20  : Nat → Nat → Int32 → Int32 → am_M → am_R
  | 0, _, _, _, _ => none
  | n + 1, v0, v2, v3, M =>
    fI M v0 13 29 (fun x4 => fI M v0 13 28 (fun x5 => if (x4 - x5) ≤ v3 then (some (some (.int v2), M)) else (cv M v0 13 ( bI (F_Md_overAt v0 v3 M) (fun r7 M6 => nm (v2 + r7) (fun x8 => nm (v3 + 1) (fun x9 => F_Md_edges_L20 n v0 x8 x9 M6)))))))
noncomputable def F_Md_edges (a0 : Nat) (p1 : Int32) (M : am_M) : am_R :=
  cv M a0 13 ( bI (F_Md_isSpark a0 p1 M) (fun r2 M1 => if r2 = 0 then (some (some (.int (-2)), M1)) else (cv M1 a0 13 ( bV (F_Md_lays a0 p1 M1) (fun M3 => F_Md_edges_L20 fu a0 0 1 M3)))))
noncomputable def F_Md_over_L18  : Nat → Nat → Int32 → am_M → am_R
  | 0, _, _, _ => none
  | n + 1, v0, v2, M =>
    fI M v0 13 29 (fun x4 => fI M v0 13 28 (fun x5 => if (x4 - x5) ≤ v2 then (some (some (.int (-1)), M)) else (cv M v0 13 ( bI (F_Md_overAt v0 v2 M) (fun r7 M6 => if r7 ≤ 0 then (nm (v2 + 1) (fun x8 => F_Md_over_L18 n v0 x8 M6)) else (fI M6 v0 13 28 (fun x9 => some (some (.int (x9 + v2)), M6))))))))
noncomputable def F_Md_over (a0 : Nat) (p1 : Int32) (M : am_M) : am_R :=
  cv M a0 13 ( bI (F_Md_isSpark a0 p1 M) (fun r2 M1 => if r2 = 0 then (some (some (.int (-2)), M1)) else (cv M1 a0 13 ( bV (F_Md_lays a0 p1 M1) (fun M3 => F_Md_over_L18 fu a0 1 M3)))))
noncomputable def F_Md_cellBy (a0 : Nat) (p1 : Int32) (M : am_M) : am_R :=
  cv M a0 13 ( bI (F_Md_placeBy a0 0 p1 M) (fun r2 M1 => cv M1 a0 13 ( bI (F_Md_placeBy a0 1 p1 M1) (fun r4 M3 => cv M3 a0 13 ( bI (F_Md_placeBy a0 2 p1 M3) (fun r6 M5 => some (some (.int (((((r2 / 8) * 64) + (r4 / 8)) * 64) + (r6 / 8))), M5)))))))
noncomputable def F_Md_cellsOf_L39 (k20 : Nat → Int32 → Int32 → am_M → am_R) : Nat → Nat → Int32 → Int32 → Int32 → Int32 → am_M → am_R
  | 0, _, _, _, _, _, _ => none
  | n + 1, v0, v2, v3, v4, v5, M =>
    if v3 ≤ v5 then (if v4 = 0 then (nm (v2 + 0) (fun x6 => nm (v3 + 1) (fun x7 => k20 v0 x6 x7 M))) else (nm (v2 + 1) (fun x8 => nm (v3 + 1) (fun x9 => k20 v0 x8 x9 M)))) else (if v4 = 0 then (nm (v5 + 1) (fun x10 => F_Md_cellsOf_L39 k20 n v0 v2 v3 0 x10 M)) else (cv M v0 13 ( bI (F_Md_cellBy v0 v5 M) (fun r12 M11 => cv M11 v0 13 ( bI (F_Md_cellBy v0 v3 M11) (fun r14 M13 => if r12 = r14 then (nm (v5 + 1) (fun x15 => F_Md_cellsOf_L39 k20 n v0 v2 v3 0 x15 M13)) else (nm (v5 + 1) (fun x16 => F_Md_cellsOf_L39 k20 n v0 v2 v3 1 x16 M13))))))))
noncomputable def F_Md_cellsOf_L20  : Nat → Nat → Int32 → Int32 → am_M → am_R
  | 0, _, _, _, _ => none
  | n + 1, v0, v2, v3, M =>
    fI M v0 13 29 (fun x4 => fI M v0 13 28 (fun x5 => if (x4 - x5) ≤ v3 then (some (some (.int v2), M)) else (F_Md_cellsOf_L39 (F_Md_cellsOf_L20 n) fu v0 v2 v3 1 0 M)))
noncomputable def F_Md_cellsOf (a0 : Nat) (p1 : Int32) (M : am_M) : am_R :=
  cv M a0 13 ( bI (F_Md_isSpark a0 p1 M) (fun r2 M1 => if r2 = 0 then (some (some (.int (-2)), M1)) else (cv M1 a0 13 ( bV (F_Md_lays a0 p1 M1) (fun M3 => F_Md_cellsOf_L20 fu a0 0 0 M3)))))
noncomputable def F_Md_meets_L91  : Nat → Nat → Int32 → Int32 → Int32 → am_M → am_R
  | 0, _, _, _, _, _ => none
  | n + 1, v0, v3, v4, v5, M =>
    fI M v0 13 29 (fun x14 => bI (F_Math_min v4 x14 M) (fun r16 M15 => if r16 ≤ v5 then (some (some (.int (-1)), M15)) else (fR M15 v0 13 33 (fun b17 => aI M15 b17 (v5 - v3) (fun x18 => fI M15 v0 13 28 (fun x19 => cv M15 v0 13 ( bI (F_Md_cellBy v0 (v5 - x19) M15) (fun r21 M20 => if x18 = r21 then (some (some (.int v5), M20)) else (nm (v5 + 1) (fun x22 => F_Md_meets_L91 n v0 v3 v4 x22 M20))))))))))
noncomputable def F_Md_meets_L43  : Nat → Nat → Int32 → Int32 → Int32 → Int32 → am_M → am_R
  | 0, _, _, _, _, _, _ => none
  | n + 1, v0, v2, v3, v4, v5, M =>
    fI M v0 13 29 (fun x8 => fI M v0 13 28 (fun x9 => if (x8 - x9) ≤ v5 then (cv M v0 13 ( bV (F_Md_lays v0 v2 M) (fun M10 => fI M10 v0 13 28 (fun x11 => bI (F_Math_max v3 x11 M10) (fun r13 M12 => F_Md_meets_L91 fu v0 v3 v4 r13 M12))))) else (fR M v0 13 33 (fun b23 => cv M v0 13 ( bI (F_Md_cellBy v0 v5 M) (fun r25 M24 => tI M24 b23 v5 r25 (fun M26 => nm (v5 + 1) (fun x27 => F_Md_meets_L43 n v0 v2 v3 v4 x27 M26))))))))
noncomputable def F_Md_meets (a0 : Nat) (p1 : Int32) (p2 : Int32) (M : am_M) : am_R :=
  cv M a0 13 ( bI (F_Md_isSpark a0 p1 M) (fun r2 M1 => if r2 = 0 then (some (some (.int (-2)), M1)) else (cv M1 a0 13 ( bI (F_Md_isSpark a0 p2 M1) (fun r4 M3 => if r4 = 0 then (some (some (.int (-2)), M3)) else (if p1 = p2 then (some (some (.int (-2)), M3)) else (cv M3 a0 13 ( bV (F_Md_lays a0 p1 M3) (fun M5 => fI M5 a0 13 28 (fun x6 => fI M5 a0 13 29 (fun x7 => F_Md_meets_L43 fu a0 p2 x6 x7 0 M5)))))))))))
noncomputable def F_Md_reach_L49  : Nat → Nat → Int32 → Int32 → Int32 → Int32 → am_M → am_R
  | 0, _, _, _, _, _, _ => none
  | n + 1, v0, v2, v3, v4, v5, M =>
    fI M v0 13 29 (fun x10 => fI M v0 13 28 (fun x11 => if (x10 - x11) ≤ v5 then (some (some (.int v4), M)) else (if v3 = 0 then (cv M v0 13 ( bI (F_Md_placeBy v0 v2 v5 M) (fun r13 M12 => bI (F_Math_min v4 r13 M12) (fun r15 M14 => nm (v5 + 1) (fun x16 => F_Md_reach_L49 n v0 v2 v3 r15 x16 M14))))) else (cv M v0 13 ( bI (F_Md_placeBy v0 v2 v5 M) (fun r18 M17 => bI (F_Math_max v4 r18 M17) (fun r20 M19 => nm (v5 + 1) (fun x21 => F_Md_reach_L49 n v0 v2 v3 r20 x21 M19))))))))
noncomputable def F_Md_reach (a0 : Nat) (p1 : Int32) (p2 : Int32) (p3 : Int32) (M : am_M) : am_R :=
  cv M a0 13 ( bI (F_Md_isSpark a0 p1 M) (fun r2 M1 => if r2 = 0 then (some (some (.int (-2)), M1)) else (bI (F_Md_in (p2.toInt64) 0 2 M1) (fun r4 M3 => if r4 = 0 then (some (some (.int (-2)), M3)) else (bI (F_Md_in (p3.toInt64) 0 1 M3) (fun r6 M5 => if r6 = 0 then (some (some (.int (-2)), M5)) else (cv M5 a0 13 ( bV (F_Md_lays a0 p1 M5) (fun M7 => cv M7 a0 13 ( bI (F_Md_placeBy a0 p2 0 M7) (fun r9 M8 => F_Md_reach_L49 fu a0 p2 p3 r9 1 M8)))))))))))
noncomputable def F_Md_kin (a0 : Nat) (p1 : Int32) (p2 : Int32) (M : am_M) : am_R :=
  cv M a0 13 ( bI (F_Md_isSpark a0 p1 M) (fun r2 M1 => if r2 = 0 then (some (some (.int (-2)), M1)) else (cv M1 a0 13 ( bI (F_Md_isSpark a0 p2 M1) (fun r4 M3 => if r4 = 0 then (some (some (.int (-2)), M3)) else (if (p1 / 256) = (p2 / 256) then (if p1 = p2 then (some (some (.int p1), M3)) else (if (p1 / 16) = (p2 / 16) then (some (some (.int (p1 - (p1 - p1 / 16 * 16))), M3)) else (some (some (.int (p1 - (p1 - p1 / 256 * 256))), M3)))) else (some (some (.int (-1)), M3))))))))
noncomputable def F_Md_isFrom (p1 : Int32) (p2 : Int32) (M : am_M) : am_R :=
  bI (F_Md_generation p2 M) (fun r2 M1 => if r2 = 0 then (some (some (.int 1), M1)) else (if p1 = p2 then (some (some (.int 1), M1)) else (if r2 = 1 then (if (p1 - (p1 - p1 / 16 * 16)) = p2 then (some (some (.int 1), M1)) else (some (some (.int 0), M1))) else (some (some (.int 0), M1)))))
noncomputable def F_Md_line_L80 (k29 : Nat → Int32 → Int32 → Int32 → Int32 → Int32 → am_M → am_R) (v0 : Nat) (v1 : Int32) (v2 : Int32) (v3 : Int32) (v4 : Int32) (v5 : Int32) (v6 : Int32) (s0 : Int32) (M : am_M) : am_R :=
  if s0 = 0 then (nm (v5 + 1) (fun x6 => k29 v0 v1 v2 v3 v4 x6 M)) else (cv M v0 13 ( bV (F_Md_lays v0 v6 M) (fun M7 => nm (v3 + 1) (fun x8 => fI M7 v0 13 29 (fun x9 => bI (F_Math_max v4 x9 M7) (fun r11 M10 => nm (v5 + 1) (fun x12 => k29 v0 v1 v2 x8 r11 x12 M10)))))))
noncomputable def F_Md_line_L79 (k29 : Nat → Int32 → Int32 → Int32 → Int32 → Int32 → am_M → am_R) (v0 : Nat) (v1 : Int32) (v2 : Int32) (v3 : Int32) (v4 : Int32) (v5 : Int32) (v6 : Int32) (M : am_M) : am_R :=
  F_Md_line_L80 k29 v0 v1 v2 v3 v4 v5 v6 0 M
noncomputable def F_Md_line_L29  : Nat → Nat → Int32 → Int32 → Int32 → Int32 → Int32 → am_M → am_R
  | 0, _, _, _, _, _, _, _ => none
  | n + 1, v0, v1, v2, v3, v4, v5, M =>
    if 48 ≤ v5 then (if v2 = 0 then (some (some (.int v3), M)) else (some (some (.int v4), M))) else (nm ((v1 - (v1 - v1 / 256 * 256)) + v5) (fun x5 => if 3 ≤ (v5 - v5 / 16 * 16) then (F_Md_line_L79 (F_Md_line_L29 n) v0 v1 v2 v3 v4 v5 x5 M) else (cv M v0 13 ( bI (F_Md_isSpark v0 x5 M) (fun r14 M13 => if r14 = 0 then (F_Md_line_L79 (F_Md_line_L29 n) v0 v1 v2 v3 v4 v5 x5 M13) else (bI (F_Md_isFrom x5 v1 M13) (fun r16 M15 => if r16 = 0 then (F_Md_line_L79 (F_Md_line_L29 n) v0 v1 v2 v3 v4 v5 x5 M15) else (F_Md_line_L80 (F_Md_line_L29 n) v0 v1 v2 v3 v4 v5 x5 1 M15))))))))
noncomputable def F_Md_line (a0 : Nat) (p1 : Int32) (p2 : Int32) (M : am_M) : am_R :=
  cv M a0 13 ( bI (F_Md_isSpark a0 p1 M) (fun r2 M1 => if r2 = 0 then (some (some (.int (-2)), M1)) else (bI (F_Md_in (p2.toInt64) 0 1 M1) (fun r4 M3 => if r4 = 0 then (some (some (.int (-2)), M3)) else (F_Md_line_L29 fu a0 p1 p2 0 (-1) 0 M3)))))
noncomputable def F_Md_firstGroup (a0 : Nat) (p1 : Int32) (p2 : Int32) (M : am_M) : am_R :=
  cv M a0 13 ( bI (F_Md_ofSource a0 p1 4 M) (fun r2 M1 => nm ((p2 - 200) - r2) (fun x3 => if 0 < x3 then (cv M1 a0 13 ( bI (F_Md_ofSource a0 p1 5 M1) (fun r5 M4 => cv M4 a0 13 ( bI (F_Md_ofSource a0 p1 5 M4) (fun r7 M6 => dZ r7 ( some (some (.int (((x3 + r5) - 1) / r7)), M6))))))) else (some (some (.int 0), M1)))))
noncomputable def F_Md_isGroup (a0 : Nat) (p1 : Int32) (p2 : Int32) (p3 : Int32) (M : am_M) : am_R :=
  cv M a0 13 ( bI (F_Md_groups a0 p1 M) (fun r2 M1 => if r2 ≤ p2 then (some (some (.int 0), M1)) else (cv M1 a0 13 ( bI (F_Md_ofSource a0 p1 4 M1) (fun r4 M3 => cv M3 a0 13 ( bI (F_Md_ofSource a0 p1 5 M3) (fun r6 M5 => if p3 < (r4 + (p2 * r6)) then (some (some (.int 0), M5)) else (some (some (.int 1), M5)))))))))
noncomputable def F_Md_comes (a0 : Nat) (p1 : Int32) (p2 : Int32) (M : am_M) : am_R :=
  cv M a0 13 ( bI (F_Md_isSpark a0 p1 M) (fun r2 M1 => if r2 = 0 then (some (none, M1)) else (cv M1 a0 13 ( bV (F_Md_lays a0 p1 M1) (fun M3 => fI M3 a0 13 28 (fun x4 => if p2 < x4 then (some (none, M3)) else (fI M3 a0 13 29 (fun x5 => if p2 < x5 then (fR M3 a0 13 35 (fun b6 => fI M3 a0 13 34 (fun x7 => fI M3 a0 13 28 (fun x8 => cv M3 a0 13 ( bI (F_Md_placeBy a0 2 (p2 - x8) M3) (fun r10 M9 => tL M9 b6 x7 ((((1000 - r10).toInt64) <<< ((32 : Int32).toInt64 &&& 63)) ||| (p1.toInt64)) (fun M11 => fI M11 a0 13 34 (fun x12 => sI M11 a0 13 34 (x12 + 1) (fun M13 => some (none, M13)))))))))) else (some (none, M3))))))))))
noncomputable def F_Md_comesLine_L2  : Nat → Nat → Int32 → Int32 → Int32 → am_M → am_R
  | 0, _, _, _, _, _ => none
  | n + 1, v0, v1, v2, v3, M =>
    if 48 ≤ v3 then (some (none, M)) else (if 3 ≤ (v3 - v3 / 16 * 16) then (nm (v3 + 1) (fun x1 => F_Md_comesLine_L2 n v0 v1 v2 x1 M)) else (cv M v0 13 ( bV (F_Md_comes v0 ((256 * v1) + v3) v2 M) (fun M2 => nm (v3 + 1) (fun x3 => F_Md_comesLine_L2 n v0 v1 v2 x3 M2)))))
noncomputable def F_Md_comesLine (a0 : Nat) (p1 : Int32) (p2 : Int32) (M : am_M) : am_R :=
  F_Md_comesLine_L2 fu a0 p1 p2 0 M
noncomputable def F_Md_gathers_L48 (k7 : Nat → Int32 → Int32 → am_M → am_R) (k31 : Nat → Int32 → Int32 → Int32 → Int32 → am_M → am_R) : Nat → Nat → Int32 → Int32 → Int32 → Int32 → Int32 → am_M → am_R
  | 0, _, _, _, _, _, _, _ => none
  | n + 1, v0, v1, v2, v3, v4, v5, M =>
    if ((v3 * v4) + v3) ≤ v5 then (nm (v4 + 1) (fun x11 => k31 v0 v1 v2 v3 x11 M)) else (cv M v0 13 ( bV (F_Md_comesLine v0 ((4 * v5) + v2) v1 M) (fun M12 => nm (v5 + 1) (fun x13 => F_Md_gathers_L48 k7 k31 n v0 v1 v2 v3 v4 x13 M12))))
noncomputable def F_Md_gathers_L31 (k7 : Nat → Int32 → Int32 → am_M → am_R) : Nat → Nat → Int32 → Int32 → Int32 → Int32 → am_M → am_R
  | 0, _, _, _, _, _, _ => none
  | n + 1, v0, v1, v2, v3, v4, M =>
    cv M v0 13 ( bI (F_Md_isGroup v0 v2 v4 v1 M) (fun r8 M7 => if r8 = 0 then (nm (v2 + 1) (fun x9 => k7 v0 v1 x9 M7)) else (nm (v3 * v4) (fun x10 => F_Md_gathers_L48 k7 (F_Md_gathers_L31 k7 n) fu v0 v1 v2 v3 v4 x10 M7))))
noncomputable def F_Md_gathers_L7  : Nat → Nat → Int32 → Int32 → am_M → am_R
  | 0, _, _, _, _ => none
  | n + 1, v0, v1, v2, M =>
    fI M v0 13 6 (fun x2 => if x2 ≤ v2 then (some (none, M)) else (cv M v0 13 ( bI (F_Md_ofSource v0 v2 6 M) (fun r4 M3 => cv M3 v0 13 ( bI (F_Md_firstGroup v0 v2 v1 M3) (fun r6 M5 => F_Md_gathers_L31 (F_Md_gathers_L7 n) fu v0 v1 v2 r4 r6 M5))))))
noncomputable def F_Md_gathers (a0 : Nat) (p1 : Int32) (M : am_M) : am_R :=
  sI M a0 13 34 0 (fun M1 => F_Md_gathers_L7 fu a0 p1 0 M1)
noncomputable def F_Md_codeAt (a0 : Nat) (p1 : Int32) (M : am_M) : am_R :=
  fR M a0 13 35 (fun b1 => aL M b1 p1 (fun z2 => some (some (.int ((z2 &&& 2147483647).toInt32)), M)))
noncomputable def F_Md_many_L49  : Nat → Nat → Int32 → Int32 → Int32 → am_M → am_R
  | 0, _, _, _, _, _ => none
  | n + 1, v0, v2, v3, v4, M =>
    fI M v0 13 34 (fun x8 => if x8 ≤ v4 then (some (some (.int v3), M)) else (cv M v0 13 ( bI (F_Md_codeAt v0 v4 M) (fun r10 M9 => cv M9 v0 13 ( bI (F_Md_kindOf v0 r10 M9) (fun r12 M11 => if r12 = v2 then (nm (v3 + 1) (fun x13 => nm (v4 + 1) (fun x14 => F_Md_many_L49 n v0 v2 x13 x14 M11))) else (nm (v3 + 0) (fun x15 => nm (v4 + 1) (fun x16 => F_Md_many_L49 n v0 v2 x15 x16 M11)))))))))
noncomputable def F_Md_many (a0 : Nat) (p1 : Int32) (p2 : Int32) (M : am_M) : am_R :=
  cv M a0 13 ( bI (F_Md_isTick a0 p1 M) (fun r2 M1 => if r2 = 0 then (some (some (.int (-2)), M1)) else (fI M1 a0 13 4 (fun x3 => bI (F_Md_in (p2.toInt64) (-1) ((x3 - 1).toInt64) M1) (fun r5 M4 => if r5 = 0 then (some (some (.int (-2)), M4)) else (cv M4 a0 13 ( bV (F_Md_gathers a0 p1 M4) (fun M6 => if p2 = (-1) then (fI M6 a0 13 34 (fun x7 => some (some (.int x7), M6))) else (F_Md_many_L49 fu a0 p2 0 0 M6)))))))))
noncomputable def F_Md_sorts_L73 (k4 : Nat → Int32 → am_M → am_R) (k10 : Nat → Int32 → Int32 → am_M → am_R) (v0 : Nat) (v1 : Int32) (v2 : Int32) (v3 : Int64) (v5 : Int32) (M : am_M) : am_R :=
  fR M v0 13 35 (fun b5 => tL M b5 v5 v3 (fun M6 => nm (v2 + 1) (fun x7 => k10 v0 v1 x7 M6)))
noncomputable def F_Md_sorts_L28 (k4 : Nat → Int32 → am_M → am_R) (k10 : Nat → Int32 → Int32 → am_M → am_R) : Nat → Nat → Int32 → Int32 → Int64 → Int32 → am_M → am_R
  | 0, _, _, _, _, _, _ => none
  | n + 1, v0, v1, v2, v3, v5, M =>
    if v5 < v1 then (F_Md_sorts_L73 k4 k10 v0 v1 v2 v3 v5 M) else (fR M v0 13 35 (fun b8 => aL M b8 (v5 - v1) (fun z9 => if (lg_cmp z9 v3) ≤ 0 then (F_Md_sorts_L73 k4 k10 v0 v1 v2 v3 v5 M) else (fR M v0 13 35 (fun b10 => fR M v0 13 35 (fun b11 => aL M b11 (v5 - v1) (fun z12 => tL M b10 v5 z12 (fun M13 => nm (v5 - v1) (fun x14 => F_Md_sorts_L28 k4 k10 n v0 v1 v2 v3 x14 M13)))))))))
noncomputable def F_Md_sorts_L10 (k4 : Nat → Int32 → am_M → am_R) : Nat → Nat → Int32 → Int32 → am_M → am_R
  | 0, _, _, _, _ => none
  | n + 1, v0, v1, v2, M =>
    fI M v0 13 34 (fun x1 => if x1 ≤ v2 then (nm (v1 / 3) (fun x2 => k4 v0 x2 M)) else (fR M v0 13 35 (fun b3 => aL M b3 v2 (fun z4 => F_Md_sorts_L28 k4 (F_Md_sorts_L10 k4 n) fu v0 v1 v2 z4 v2 M))))
noncomputable def F_Md_sorts_L4  : Nat → Nat → Int32 → am_M → am_R
  | 0, _, _, _ => none
  | n + 1, v0, v1, M =>
    if v1 ≤ 0 then (some (none, M)) else (F_Md_sorts_L10 (F_Md_sorts_L4 n) fu v0 v1 v1 M)
noncomputable def F_Md_sorts (a0 : Nat) (M : am_M) : am_R :=
  F_Md_sorts_L4 fu a0 9841 M
noncomputable def F_Md_laysFrame (a0 : Nat) (p1 : Int32) (M : am_M) : am_R :=
  cv M a0 13 ( bV (F_Md_gathers a0 p1 M) (fun M1 => cv M1 a0 13 ( bV (F_Md_sorts a0 M1) (fun M2 => some (none, M2)))))
noncomputable def F_Md_drawn (a0 : Nat) (p1 : Int32) (p2 : Int32) (M : am_M) : am_R :=
  cv M a0 13 ( bI (F_Md_isTick a0 p1 M) (fun r2 M1 => if r2 = 0 then (some (some (.int (-2)), M1)) else (if 0 ≤ p2 then (cv M1 a0 13 ( bV (F_Md_laysFrame a0 p1 M1) (fun M3 => fI M3 a0 13 34 (fun x4 => if x4 ≤ p2 then (some (some (.int (-1)), M3)) else (cv M3 a0 13 ( bI (F_Md_codeAt a0 p2 M3) (fun r6 M5 => some (some (.int r6), M5)))))))) else (some (some (.int (-2)), M1)))))
noncomputable def F_Md_digest_L58 (k22 : Nat → Int32 → Int64 → Int32 → am_M → am_R) : Nat → Nat → Int32 → Int64 → Int32 → Int32 → am_M → am_R
  | 0, _, _, _, _, _, _ => none
  | n + 1, v0, v1, v2, v4, v5, M =>
    if 3 ≤ v5 then (nm (v4 + 1) (fun x11 => k22 v0 v1 v2 x11 M)) else (fI M v0 13 28 (fun x12 => cv M v0 13 ( bI (F_Md_placeBy v0 v5 (v1 - x12) M) (fun r14 M13 => nm ((31 * v2) + (r14.toInt64)) (fun z15 => nm (v5 + 1) (fun x16 => F_Md_digest_L58 k22 n v0 v1 z15 v4 x16 M13))))))
noncomputable def F_Md_digest_L22  : Nat → Nat → Int32 → Int64 → Int32 → am_M → am_R
  | 0, _, _, _, _, _ => none
  | n + 1, v0, v1, v2, v4, M =>
    fI M v0 13 34 (fun x4 => if x4 ≤ v4 then (some (some (.long v2), M)) else (cv M v0 13 ( bI (F_Md_codeAt v0 v4 M) (fun r6 M5 => cv M5 v0 13 ( bV (F_Md_lays v0 r6 M5) (fun M7 => cv M7 v0 13 ( bI (F_Md_codeAt v0 v4 M7) (fun r9 M8 => nm ((31 * v2) + (r9.toInt64)) (fun z10 => F_Md_digest_L58 (F_Md_digest_L22 n) fu v0 v1 z10 v4 0 M8)))))))))
noncomputable def F_Md_digest (a0 : Nat) (p1 : Int32) (M : am_M) : am_R :=
  cv M a0 13 ( bI (F_Md_isTick a0 p1 M) (fun r2 M1 => if r2 = 0 then (some (some (.long 0), M1)) else (cv M1 a0 13 ( bV (F_Md_laysFrame a0 p1 M1) (fun M3 => F_Md_digest_L22 fu a0 p1 17 0 M3)))))
noncomputable def F_Md_isColumn (a0 : Nat) (p1 : Int32) (p2 : Int32) (M : am_M) : am_R :=
  fR M a0 13 2 (fun b1 => aI M b1 0 (fun x2 => bI (F_Md_in (p1.toInt64) 0 ((x2 - 1).toInt64) M) (fun r4 M3 => if r4 = 0 then (some (some (.int 0), M3)) else (fR M3 a0 13 2 (fun b5 => aI M3 b5 1 (fun x6 => bI (F_Md_in (p2.toInt64) 0 ((x6 - 1).toInt64) M3) (fun r8 M7 => if r8 = 0 then (some (some (.int 0), M7)) else (some (some (.int 1), M7)))))))))
noncomputable def F_Md_laysColumns_L2  : Nat → Nat → Int32 → Int32 → am_M → am_R
  | 0, _, _, _, _ => none
  | n + 1, v0, v1, v2, M =>
    fI M v0 13 34 (fun x1 => if x1 ≤ v2 then (some (none, M)) else (cv M v0 13 ( bI (F_Md_codeAt v0 v2 M) (fun r3 M2 => cv M2 v0 13 ( bV (F_Md_lays v0 r3 M2) (fun M4 => fR M4 v0 13 36 (fun b5 => fI M4 v0 13 28 (fun x6 => cv M4 v0 13 ( bI (F_Md_placeBy v0 0 (v1 - x6) M4) (fun r8 M7 => tI M7 b5 v2 (r8 / 8) (fun M9 => fR M9 v0 13 37 (fun b10 => fI M9 v0 13 28 (fun x11 => cv M9 v0 13 ( bI (F_Md_placeBy v0 1 (v1 - x11) M9) (fun r13 M12 => tI M12 b10 v2 (r13 / 8) (fun M14 => nm (v2 + 1) (fun x15 => F_Md_laysColumns_L2 n v0 v1 x15 M14)))))))))))))))))
noncomputable def F_Md_laysColumns (a0 : Nat) (p1 : Int32) (M : am_M) : am_R :=
  F_Md_laysColumns_L2 fu a0 p1 0 M
noncomputable def F_Md_inColumn_L36  : Nat → Nat → Int32 → Int32 → Int32 → Int32 → am_M → am_R
  | 0, _, _, _, _, _, _ => none
  | n + 1, v0, v2, v3, v4, v5, M =>
    fI M v0 13 34 (fun x7 => if x7 ≤ v5 then (some (some (.int v4), M)) else (fR M v0 13 36 (fun b8 => aI M b8 v5 (fun x9 => if x9 = v2 then (fR M v0 13 37 (fun b10 => aI M b10 v5 (fun x11 => if x11 = v3 then (nm (v4 + 1) (fun x12 => nm (v5 + 1) (fun x13 => F_Md_inColumn_L36 n v0 v2 v3 x12 x13 M))) else (nm (v4 + 0) (fun x14 => nm (v5 + 1) (fun x15 => F_Md_inColumn_L36 n v0 v2 v3 x14 x15 M)))))) else (nm (v4 + 0) (fun x16 => nm (v5 + 1) (fun x17 => F_Md_inColumn_L36 n v0 v2 v3 x16 x17 M)))))))
noncomputable def F_Md_inColumn (a0 : Nat) (p1 : Int32) (p2 : Int32) (p3 : Int32) (M : am_M) : am_R :=
  cv M a0 13 ( bI (F_Md_isTick a0 p1 M) (fun r2 M1 => if r2 = 0 then (some (some (.int (-2)), M1)) else (cv M1 a0 13 ( bI (F_Md_isColumn a0 p2 p3 M1) (fun r4 M3 => if r4 = 0 then (some (some (.int (-2)), M3)) else (cv M3 a0 13 ( bV (F_Md_gathers a0 p1 M3) (fun M5 => cv M5 a0 13 ( bV (F_Md_laysColumns a0 p1 M5) (fun M6 => F_Md_inColumn_L36 fu a0 p2 p3 0 0 M6))))))))))
noncomputable def F_Md_topOf_L5  : Nat → Nat → Int32 → Int32 → Int32 → Int32 → am_M → am_R
  | 0, _, _, _, _, _, _ => none
  | n + 1, v0, v1, v2, v3, v4, M =>
    fI M v0 13 34 (fun x1 => if x1 ≤ v4 then (some (some (.int v3), M)) else (fR M v0 13 36 (fun b2 => aI M b2 v4 (fun x3 => if x3 = v1 then (fR M v0 13 37 (fun b4 => aI M b4 v4 (fun x5 => if x5 = v2 then (nm (v4 + 1) (fun x6 => F_Md_topOf_L5 n v0 v1 v2 v4 x6 M)) else (nm (v4 + 1) (fun x7 => F_Md_topOf_L5 n v0 v1 v2 v3 x7 M))))) else (nm (v4 + 1) (fun x8 => F_Md_topOf_L5 n v0 v1 v2 v3 x8 M))))))
noncomputable def F_Md_topOf (a0 : Nat) (p1 : Int32) (p2 : Int32) (M : am_M) : am_R :=
  F_Md_topOf_L5 fu a0 p1 p2 (-1) 0 M
noncomputable def F_Md_top (a0 : Nat) (p1 : Int32) (p2 : Int32) (p3 : Int32) (M : am_M) : am_R :=
  cv M a0 13 ( bI (F_Md_isTick a0 p1 M) (fun r2 M1 => if r2 = 0 then (some (some (.int (-2)), M1)) else (cv M1 a0 13 ( bI (F_Md_isColumn a0 p2 p3 M1) (fun r4 M3 => if r4 = 0 then (some (some (.int (-2)), M3)) else (cv M3 a0 13 ( bV (F_Md_laysFrame a0 p1 M3) (fun M5 => cv M5 a0 13 ( bV (F_Md_laysColumns a0 p1 M5) (fun M6 => cv M6 a0 13 ( bI (F_Md_topOf a0 p2 p3 M6) (fun r8 M7 => if r8 = (-1) then (some (some (.int (-1)), M7)) else (cv M7 a0 13 ( bI (F_Md_codeAt a0 r8 M7) (fun r10 M9 => some (some (.int r10), M9))))))))))))))))
noncomputable def F_Md_fullest_L105  : Nat → Nat → Int32 → Int32 → Int32 → am_M → am_R
  | 0, _, _, _, _, _ => none
  | n + 1, v0, v2, v3, v4, M =>
    if 1600 ≤ v4 then (if v3 = (-1) then (some (some (.int (-1)), M)) else (if v2 = 0 then (some (some (.int (v3 - v3 / 40 * 40)), M)) else (if v2 = 1 then (some (some (.int (v3 / 40)), M)) else (fR M v0 13 38 (fun b8 => aI M b8 v3 (fun x9 => some (some (.int x9), M))))))) else (fR M v0 13 38 (fun b10 => aI M b10 v4 (fun x11 => if x11 ≤ 0 then (nm (v4 + 1) (fun x12 => F_Md_fullest_L105 n v0 v2 v3 x12 M)) else (if v3 = (-1) then (nm (v4 + 1) (fun x13 => F_Md_fullest_L105 n v0 v2 v4 x13 M)) else (fR M v0 13 38 (fun b14 => aI M b14 v4 (fun x15 => fR M v0 13 38 (fun b16 => aI M b16 v3 (fun x17 => if x15 ≤ x17 then (nm (v4 + 1) (fun x18 => F_Md_fullest_L105 n v0 v2 v3 x18 M)) else (nm (v4 + 1) (fun x19 => F_Md_fullest_L105 n v0 v2 v4 x19 M)))))))))))
noncomputable def F_Md_fullest_L60  : Nat → Nat → Int32 → Int32 → Int32 → am_M → am_R
  | 0, _, _, _, _, _ => none
  | n + 1, v0, v2, v3, v4, M =>
    fI M v0 13 34 (fun x7 => if x7 ≤ v4 then (F_Md_fullest_L105 fu v0 v2 v3 0 M) else (fR M v0 13 38 (fun b20 => fR M v0 13 37 (fun b21 => aI M b21 v4 (fun x22 => fR M v0 13 36 (fun b23 => aI M b23 v4 (fun x24 => aI M b20 ((40 * x22) + x24) (fun x25 => tI M b20 ((40 * x22) + x24) (x25 + 1) (fun M26 => nm (v4 + 1) (fun x27 => F_Md_fullest_L60 n v0 v2 v3 x27 M26))))))))))
noncomputable def F_Md_fullest_L35  : Nat → Nat → Int32 → Int32 → am_M → am_R
  | 0, _, _, _, _ => none
  | n + 1, v0, v2, v3, M =>
    if 1600 ≤ v3 then (F_Md_fullest_L60 fu v0 v2 (-1) 0 M) else (fR M v0 13 38 (fun b28 => tI M b28 v3 0 (fun M29 => nm (v3 + 1) (fun x30 => F_Md_fullest_L35 n v0 v2 x30 M29))))
noncomputable def F_Md_fullest (a0 : Nat) (p1 : Int32) (p2 : Int32) (M : am_M) : am_R :=
  cv M a0 13 ( bI (F_Md_isTick a0 p1 M) (fun r2 M1 => if r2 = 0 then (some (some (.int (-2)), M1)) else (bI (F_Md_in (p2.toInt64) 0 2 M1) (fun r4 M3 => if r4 = 0 then (some (some (.int (-2)), M3)) else (cv M3 a0 13 ( bV (F_Md_gathers a0 p1 M3) (fun M5 => cv M5 a0 13 ( bV (F_Md_laysColumns a0 p1 M5) (fun M6 => F_Md_fullest_L35 fu a0 p2 0 M6)))))))))
noncomputable def F_Md_isCell (a0 : Nat) (p1 : Int32) (p2 : Int32) (p3 : Int32) (M : am_M) : am_R :=
  cv M a0 13 ( bI (F_Md_isColumn a0 p1 p2 M) (fun r2 M1 => if r2 = 0 then (some (some (.int 0), M1)) else (fR M1 a0 13 2 (fun b3 => aI M1 b3 2 (fun x4 => bI (F_Md_in (p3.toInt64) 0 ((x4 - 1).toInt64) M1) (fun r6 M5 => if r6 = 0 then (some (some (.int 0), M5)) else (some (some (.int 1), M5))))))))
noncomputable def F_Md_squares (a0 : Nat) (p1 : Int32) (p2 : Int32) (p3 : Int32) (p4 : Int32) (p5 : Int32) (M : am_M) : am_R :=
  cv M a0 13 ( bI (F_Md_codeAt a0 p1 M) (fun r2 M1 => cv M1 a0 13 ( bV (F_Md_lays a0 r2 M1) (fun M3 => fI M3 a0 13 28 (fun x4 => cv M3 a0 13 ( bI (F_Md_placeBy a0 0 (p2 - x4) M3) (fun r6 M5 => nm (((r6.toInt64) - (8 * (p3.toInt64))) - 4) (fun z7 => fI M5 a0 13 28 (fun x8 => cv M5 a0 13 ( bI (F_Md_placeBy a0 1 (p2 - x8) M5) (fun r10 M9 => nm (((r10.toInt64) - (8 * (p4.toInt64))) - 4) (fun z11 => fI M9 a0 13 28 (fun x12 => cv M9 a0 13 ( bI (F_Md_placeBy a0 2 (p2 - x12) M9) (fun r14 M13 => nm (((r14.toInt64) - (8 * (p5.toInt64))) - 4) (fun z15 => some (some (.long (((z7 * z7) + (z11 * z11)) + (z15 * z15))), M13)))))))))))))))))
noncomputable def F_Md_nearest_L36  : Nat → Nat → Int32 → Int32 → Int32 → Int32 → Int32 → Int64 → Int32 → am_M → am_R
  | 0, _, _, _, _, _, _, _, _, _ => none
  | n + 1, v0, v1, v2, v3, v4, v5, v6, v8, M =>
    fI M v0 13 34 (fun x6 => if x6 ≤ v8 then (some (some (.int v5), M)) else (cv M v0 13 ( bL (F_Md_squares v0 v8 v1 v2 v3 v4 M) (fun z8 M7 => cv M7 v0 13 ( bI (F_Md_codeAt v0 v8 M7) (fun r10 M9 => if v5 = (-1) then (nm (v8 + 1) (fun x11 => F_Md_nearest_L36 n v0 v1 v2 v3 v4 r10 z8 x11 M9)) else (if 0 < (lg_cmp z8 v6) then (nm (v8 + 1) (fun x12 => F_Md_nearest_L36 n v0 v1 v2 v3 v4 v5 v6 x12 M9)) else (if (lg_cmp z8 v6) = 0 then (if r10 ≤ v5 then (nm (v8 + 1) (fun x13 => F_Md_nearest_L36 n v0 v1 v2 v3 v4 r10 z8 x13 M9)) else (nm (v8 + 1) (fun x14 => F_Md_nearest_L36 n v0 v1 v2 v3 v4 v5 v6 x14 M9))) else (nm (v8 + 1) (fun x15 => F_Md_nearest_L36 n v0 v1 v2 v3 v4 r10 z8 x15 M9))))))))))
noncomputable def F_Md_nearest (a0 : Nat) (p1 : Int32) (p2 : Int32) (p3 : Int32) (p4 : Int32) (M : am_M) : am_R :=
  cv M a0 13 ( bI (F_Md_isTick a0 p1 M) (fun r2 M1 => if r2 = 0 then (some (some (.int (-2)), M1)) else (cv M1 a0 13 ( bI (F_Md_isCell a0 p2 p3 p4 M1) (fun r4 M3 => if r4 = 0 then (some (some (.int (-2)), M3)) else (cv M3 a0 13 ( bV (F_Md_gathers a0 p1 M3) (fun M5 => F_Md_nearest_L36 fu a0 p1 p2 p3 p4 (-1) 0 0 M5))))))))
noncomputable def F_Md_within_L46  : Nat → Nat → Int32 → Int32 → Int32 → Int32 → Int32 → Int32 → Int32 → am_M → am_R
  | 0, _, _, _, _, _, _, _, _, _ => none
  | n + 1, v0, v1, v2, v3, v4, v5, v6, v7, M =>
    fI M v0 13 34 (fun x8 => if x8 ≤ v7 then (some (some (.int v6), M)) else (cv M v0 13 ( bL (F_Md_squares v0 v7 v1 v2 v3 v4 M) (fun z10 M9 => if 0 < (lg_cmp z10 ((v5.toInt64) * (v5.toInt64))) then (nm (v6 + 0) (fun x11 => nm (v7 + 1) (fun x12 => F_Md_within_L46 n v0 v1 v2 v3 v4 v5 x11 x12 M9))) else (nm (v6 + 1) (fun x13 => nm (v7 + 1) (fun x14 => F_Md_within_L46 n v0 v1 v2 v3 v4 v5 x13 x14 M9)))))))
noncomputable def F_Md_within (a0 : Nat) (p1 : Int32) (p2 : Int32) (p3 : Int32) (p4 : Int32) (p5 : Int32) (M : am_M) : am_R :=
  cv M a0 13 ( bI (F_Md_isTick a0 p1 M) (fun r2 M1 => if r2 = 0 then (some (some (.int (-2)), M1)) else (cv M1 a0 13 ( bI (F_Md_isCell a0 p2 p3 p4 M1) (fun r4 M3 => if r4 = 0 then (some (some (.int (-2)), M3)) else (bI (F_Md_in (p5.toInt64) 0 600 M3) (fun r6 M5 => if r6 = 0 then (some (some (.int (-2)), M5)) else (cv M5 a0 13 ( bV (F_Md_gathers a0 p1 M5) (fun M7 => F_Md_within_L46 fu a0 p1 p2 p3 p4 p5 0 0 M7))))))))))
noncomputable def F_Md_placeAt (a0 : Nat) (p1 : Int32) (p2 : Int32) (p3 : Int32) (M : am_M) : am_R :=
  cv M a0 13 ( bI (F_Md_codeAt a0 p1 M) (fun r2 M1 => cv M1 a0 13 ( bV (F_Md_lays a0 r2 M1) (fun M3 => fI M3 a0 13 28 (fun x4 => cv M3 a0 13 ( bI (F_Md_placeBy a0 p3 (p2 - x4) M3) (fun r6 M5 => some (some (.int r6), M5))))))))
noncomputable def F_Md_laysHeaps_L33  : Nat → Nat → Int32 → Int32 → am_M → am_R
  | 0, _, _, _, _ => none
  | n + 1, v0, v1, v2, M =>
    fI M v0 13 34 (fun x3 => if x3 ≤ v2 then (some (none, M)) else (fR M v0 13 38 (fun b4 => cv M v0 13 ( bI (F_Md_placeAt v0 v2 v1 2 M) (fun r6 M5 => fR M5 v0 13 37 (fun b7 => aI M5 b7 v2 (fun x8 => fR M5 v0 13 36 (fun b9 => aI M5 b9 v2 (fun x10 => aI M5 b4 (((((r6 / 8) * 40) + x8) * 40) + x10) (fun x11 => tI M5 b4 (((((r6 / 8) * 40) + x8) * 40) + x10) (x11 + 1) (fun M12 => nm (v2 + 1) (fun x13 => F_Md_laysHeaps_L33 n v0 v1 x13 M12))))))))))))
noncomputable def F_Md_laysHeaps_L12  : Nat → Nat → Int32 → Int32 → am_M → am_R
  | 0, _, _, _, _ => none
  | n + 1, v0, v1, v2, M =>
    if 64000 ≤ v2 then (F_Md_laysHeaps_L33 fu v0 v1 0 M) else (fR M v0 13 38 (fun b14 => tI M b14 v2 0 (fun M15 => nm (v2 + 1) (fun x16 => F_Md_laysHeaps_L12 n v0 v1 x16 M15))))
noncomputable def F_Md_laysHeaps (a0 : Nat) (p1 : Int32) (M : am_M) : am_R :=
  cv M a0 13 ( bV (F_Md_gathers a0 p1 M) (fun M1 => cv M1 a0 13 ( bV (F_Md_laysColumns a0 p1 M1) (fun M2 => F_Md_laysHeaps_L12 fu a0 p1 0 M2))))
noncomputable def F_Md_twos_L22  : Nat → Nat → Int64 → Int32 → am_M → am_R
  | 0, _, _, _, _ => none
  | n + 1, v0, v2, v4, M =>
    if 64000 ≤ v4 then (some (some (.long v2), M)) else (fR M v0 13 38 (fun b4 => aI M b4 v4 (fun x5 => fR M v0 13 38 (fun b6 => aI M b6 v4 (fun x7 => nm (v2 + (((x5.toInt64) * ((x7 - 1).toInt64)) / 2)) (fun z8 => nm (v4 + 1) (fun x9 => F_Md_twos_L22 n v0 z8 x9 M)))))))
noncomputable def F_Md_twos (a0 : Nat) (p1 : Int32) (M : am_M) : am_R :=
  cv M a0 13 ( bI (F_Md_isTick a0 p1 M) (fun r2 M1 => if r2 = 0 then (some (some (.long (-2)), M1)) else (cv M1 a0 13 ( bV (F_Md_laysHeaps a0 p1 M1) (fun M3 => F_Md_twos_L22 fu a0 0 0 M3)))))
noncomputable def F_Md_firstIn_L23  : Nat → Nat → Int32 → Int32 → Int32 → Int32 → am_M → am_R
  | 0, _, _, _, _, _, _ => none
  | n + 1, v0, v1, v2, v3, v4, M =>
    if (v1 + 100) ≤ v4 then (some (some (.int (-1)), M)) else (if 30000 < v4 then (some (some (.int (-1)), M)) else (cv M v0 13 ( bI (F_Md_inColumn v0 v4 v2 v3 M) (fun r6 M5 => if r6 ≤ 0 then (nm (v4 + 1) (fun x7 => F_Md_firstIn_L23 n v0 v1 v2 v3 x7 M5)) else (some (some (.int v4), M5))))))
noncomputable def F_Md_firstIn (a0 : Nat) (p1 : Int32) (p2 : Int32) (p3 : Int32) (M : am_M) : am_R :=
  cv M a0 13 ( bI (F_Md_isTick a0 p1 M) (fun r2 M1 => if r2 = 0 then (some (some (.int (-2)), M1)) else (cv M1 a0 13 ( bI (F_Md_isColumn a0 p2 p3 M1) (fun r4 M3 => if r4 = 0 then (some (some (.int (-2)), M3)) else (F_Md_firstIn_L23 fu a0 p1 p2 p3 p1 M3))))))
noncomputable def F_Md_peak_L68  : Nat → Nat → Int32 → Int32 → Int32 → Int32 → Int32 → am_M → am_R
  | 0, _, _, _, _, _, _, _ => none
  | n + 1, v0, v2, v3, v4, v5, v6, M =>
    if v2 ≤ v6 then (if v3 = 0 then (some (some (.int v4), M)) else (some (some (.int v5), M))) else (cv M v0 13 ( bV (F_Md_gathers v0 v6 M) (fun M10 => fI M10 v0 13 34 (fun x11 => if v5 < x11 then (fI M10 v0 13 34 (fun x12 => nm (v6 + 1) (fun x13 => F_Md_peak_L68 n v0 v2 v3 v6 x12 x13 M10))) else (nm (v6 + 1) (fun x14 => F_Md_peak_L68 n v0 v2 v3 v4 v5 x14 M10))))))
noncomputable def F_Md_peak (a0 : Nat) (p1 : Int32) (p2 : Int32) (p3 : Int32) (M : am_M) : am_R :=
  fI M a0 13 1 (fun x1 => if x1 = 0 then (some (some (.int (-2)), M)) else (bI (F_Md_in (p1.toInt64) 0 30001 M) (fun r3 M2 => if r3 = 0 then (some (some (.int (-2)), M2)) else (bI (F_Md_in (p2.toInt64) 0 30001 M2) (fun r5 M4 => if r5 = 0 then (some (some (.int (-2)), M4)) else (bI (F_Md_in ((p2.toInt64) - (p1.toInt64)) 1 60 M4) (fun r7 M6 => if r7 = 0 then (some (some (.int (-2)), M6)) else (bI (F_Md_in (p3.toInt64) 0 1 M6) (fun r9 M8 => if r9 = 0 then (some (some (.int (-2)), M8)) else (F_Md_peak_L68 fu a0 p2 p3 (-1) (-1) p1 M8))))))))))
noncomputable def F_Md_box_L33  : Nat → Nat → Int32 → Int32 → Int32 → Int32 → am_M → am_R
  | 0, _, _, _, _, _, _ => none
  | n + 1, v0, v1, v2, v3, v4, M =>
    fI M v0 13 34 (fun x6 => if x6 ≤ v4 then (some (some (.int v3), M)) else (cv M v0 13 ( bI (F_Md_placeAt v0 v4 v1 (v2 - v2 / 3 * 3) M) (fun r8 M7 => nm (r8 / 8) (fun x9 => if v3 = (-1) then (nm (v4 + 1) (fun x10 => F_Md_box_L33 n v0 v1 v2 x9 x10 M7)) else (if 3 ≤ v2 then (bI (F_Math_max v3 x9 M7) (fun r12 M11 => nm (v4 + 1) (fun x13 => F_Md_box_L33 n v0 v1 v2 r12 x13 M11))) else (bI (F_Math_min v3 x9 M7) (fun r15 M14 => nm (v4 + 1) (fun x16 => F_Md_box_L33 n v0 v1 v2 r15 x16 M14)))))))))
noncomputable def F_Md_box (a0 : Nat) (p1 : Int32) (p2 : Int32) (M : am_M) : am_R :=
  cv M a0 13 ( bI (F_Md_isTick a0 p1 M) (fun r2 M1 => if r2 = 0 then (some (some (.int (-2)), M1)) else (bI (F_Md_in (p2.toInt64) 0 5 M1) (fun r4 M3 => if r4 = 0 then (some (some (.int (-2)), M3)) else (cv M3 a0 13 ( bV (F_Md_gathers a0 p1 M3) (fun M5 => F_Md_box_L33 fu a0 p1 p2 (-1) 0 M5)))))))
noncomputable def F_Md_middle_L33  : Nat → Nat → Int32 → Int32 → Int64 → Int32 → am_M → am_R
  | 0, _, _, _, _, _, _ => none
  | n + 1, v0, v1, v2, v3, v5, M =>
    fI M v0 13 34 (fun x6 => if x6 ≤ v5 then (fI M v0 13 34 (fun x7 => if x7 = 0 then (some (some (.int (-1)), M)) else (fI M v0 13 34 (fun x8 => dZL (x8.toInt64) ( some (some (.int ((v3 / (x8.toInt64)).toInt32)), M)))))) else (cv M v0 13 ( bI (F_Md_placeAt v0 v5 v1 v2 M) (fun r10 M9 => nm (v3 + (r10.toInt64)) (fun z11 => nm (v5 + 1) (fun x12 => F_Md_middle_L33 n v0 v1 v2 z11 x12 M9))))))
noncomputable def F_Md_middle (a0 : Nat) (p1 : Int32) (p2 : Int32) (M : am_M) : am_R :=
  cv M a0 13 ( bI (F_Md_isTick a0 p1 M) (fun r2 M1 => if r2 = 0 then (some (some (.int (-2)), M1)) else (bI (F_Md_in (p2.toInt64) 0 2 M1) (fun r4 M3 => if r4 = 0 then (some (some (.int (-2)), M3)) else (cv M3 a0 13 ( bV (F_Md_gathers a0 p1 M3) (fun M5 => F_Md_middle_L33 fu a0 p1 p2 0 0 M5)))))))
noncomputable def F_Md_both_L29  : Nat → Nat → Int32 → Int32 → Int32 → am_M → am_R
  | 0, _, _, _, _, _ => none
  | n + 1, v0, v2, v3, v4, M =>
    fI M v0 13 34 (fun x6 => if x6 ≤ v4 then (some (some (.int v3), M)) else (cv M v0 13 ( bI (F_Md_codeAt v0 v4 M) (fun r8 M7 => cv M7 v0 13 ( bV (F_Md_lays v0 r8 M7) (fun M9 => fI M9 v0 13 28 (fun x10 => if v2 < x10 then (nm (v3 + 0) (fun x11 => nm (v4 + 1) (fun x12 => F_Md_both_L29 n v0 v2 x11 x12 M9))) else (fI M9 v0 13 29 (fun x13 => if x13 ≤ v2 then (nm (v3 + 0) (fun x14 => nm (v4 + 1) (fun x15 => F_Md_both_L29 n v0 v2 x14 x15 M9))) else (nm (v3 + 1) (fun x16 => nm (v4 + 1) (fun x17 => F_Md_both_L29 n v0 v2 x16 x17 M9))))))))))))
noncomputable def F_Md_both (a0 : Nat) (p1 : Int32) (p2 : Int32) (M : am_M) : am_R :=
  cv M a0 13 ( bI (F_Md_isTick a0 p1 M) (fun r2 M1 => if r2 = 0 then (some (some (.int (-2)), M1)) else (cv M1 a0 13 ( bI (F_Md_isTick a0 p2 M1) (fun r4 M3 => if r4 = 0 then (some (some (.int (-2)), M3)) else (cv M3 a0 13 ( bV (F_Md_gathers a0 p1 M3) (fun M5 => F_Md_both_L29 fu a0 p2 0 0 M5))))))))
noncomputable def F_Md_ofAge_L136 (k55 : Nat → Int32 → Int32 → Int32 → Int32 → Int32 → Int32 → Int32 → Int32 → am_M → am_R) (v0 : Nat) (v1 : Int32) (v2 : Int32) (v3 : Int32) (v4 : Int32) (v5 : Int32) (v8 : Int32) (v9 : Int32) (M : am_M) : am_R :=
  fI M v0 13 28 (fun x20 => nm (v1 - x20) (fun x21 => nm (v8 + 1) (fun x22 => k55 v0 v1 v2 v3 v4 v5 v9 x21 x22 M)))
noncomputable def F_Md_ofAge_L55  : Nat → Nat → Int32 → Int32 → Int32 → Int32 → Int32 → Int32 → Int32 → Int32 → am_M → am_R
  | 0, _, _, _, _, _, _, _, _, _, _ => none
  | n + 1, v0, v1, v2, v3, v4, v5, v6, v7, v8, M =>
    fI M v0 13 34 (fun x8 => if x8 ≤ v8 then (if v3 = 0 then (some (some (.int v4), M)) else (if v3 = 1 then (some (some (.int v5), M)) else (some (some (.int v6), M)))) else (cv M v0 13 ( bI (F_Md_codeAt v0 v8 M) (fun r10 M9 => bI (F_Md_generation r10 M9) (fun r12 M11 => if r12 = v2 then (cv M11 v0 13 ( bV (F_Md_lays v0 r10 M11) (fun M13 => nm (v4 + 1) (fun x14 => fI M13 v0 13 28 (fun x15 => nm (v5 + (v1 - x15)) (fun x16 => fI M13 v0 13 28 (fun x17 => if (v1 - x17) < v7 then (nm (v8 + 1) (fun x18 => F_Md_ofAge_L55 n v0 v1 v2 v3 x14 x16 v6 v7 x18 M13)) else (fI M13 v0 13 28 (fun x19 => if (v1 - x19) = v7 then (if r10 ≤ v6 then (F_Md_ofAge_L136 (F_Md_ofAge_L55 n) v0 v1 v2 v3 x14 x16 v8 r10 M13) else (nm (v8 + 1) (fun x23 => F_Md_ofAge_L55 n v0 v1 v2 v3 x14 x16 v6 v7 x23 M13))) else (F_Md_ofAge_L136 (F_Md_ofAge_L55 n) v0 v1 v2 v3 x14 x16 v8 r10 M13)))))))))) else (nm (v8 + 1) (fun x24 => F_Md_ofAge_L55 n v0 v1 v2 v3 v4 v5 v6 v7 x24 M11)))))))
noncomputable def F_Md_ofAge (a0 : Nat) (p1 : Int32) (p2 : Int32) (p3 : Int32) (M : am_M) : am_R :=
  cv M a0 13 ( bI (F_Md_isTick a0 p1 M) (fun r2 M1 => if r2 = 0 then (some (some (.int (-2)), M1)) else (bI (F_Md_in (p2.toInt64) 0 2 M1) (fun r4 M3 => if r4 = 0 then (some (some (.int (-2)), M3)) else (bI (F_Md_in (p3.toInt64) 0 2 M3) (fun r6 M5 => if r6 = 0 then (some (some (.int (-2)), M5)) else (cv M5 a0 13 ( bV (F_Md_gathers a0 p1 M5) (fun M7 => F_Md_ofAge_L55 fu a0 p1 p2 p3 0 0 (-1) (-1) 0 M7)))))))))
noncomputable def F_Md_flux_L206 (k84 : Nat → Int32 → Int32 → Int32 → Int32 → Int32 → am_M → am_R) (k99 : Nat → Int32 → Int32 → Int32 → Int32 → Int32 → Int32 → am_M → am_R) (v0 : Nat) (v2 : Int32) (v3 : Int32) (v4 : Int32) (v6 : Int32) (v7 : Int32) (s0 : Int32) (s1 : Int32) (s2 : Int32) (M : am_M) : am_R :=
  if s1 = s2 then (nm (s0 + 1) (fun x30 => nm (v7 + 1) (fun x31 => k99 v0 v2 v3 v4 x30 v6 x31 M))) else (nm (s0 + 0) (fun x32 => nm (v7 + 1) (fun x33 => k99 v0 v2 v3 v4 x32 v6 x33 M)))
noncomputable def F_Md_flux_L182 (k84 : Nat → Int32 → Int32 → Int32 → Int32 → Int32 → am_M → am_R) (k99 : Nat → Int32 → Int32 → Int32 → Int32 → Int32 → Int32 → am_M → am_R) (v0 : Nat) (v2 : Int32) (v3 : Int32) (v4 : Int32) (v5 : Int32) (v6 : Int32) (v7 : Int32) (v8 : Int32) (s0 : Int32) (M : am_M) : am_R :=
  if v8 = s0 then (nm (v5 + 0) (fun x28 => nm (v7 + 1) (fun x29 => k99 v0 v2 v3 v4 x28 v6 x29 M))) else (if v4 = 1 then (F_Md_flux_L206 k84 k99 v0 v2 v3 v4 v6 v7 v5 v8 1 M) else (F_Md_flux_L206 k84 k99 v0 v2 v3 v4 v6 v7 v5 v8 0 M))
noncomputable def F_Md_flux_L156 (k84 : Nat → Int32 → Int32 → Int32 → Int32 → Int32 → am_M → am_R) (k99 : Nat → Int32 → Int32 → Int32 → Int32 → Int32 → Int32 → am_M → am_R) (v0 : Nat) (v2 : Int32) (v3 : Int32) (v4 : Int32) (v5 : Int32) (v6 : Int32) (v7 : Int32) (s0 : Int32) (M : am_M) : am_R :=
  fI M v0 13 28 (fun x25 => cv M v0 13 ( bI (F_Md_placeBy v0 0 (v6 - x25) M) (fun r27 M26 => if v3 ≤ (r27 / 8) then (F_Md_flux_L182 k84 k99 v0 v2 v3 v4 v5 v6 v7 s0 0 M26) else (F_Md_flux_L182 k84 k99 v0 v2 v3 v4 v5 v6 v7 s0 1 M26))))
noncomputable def F_Md_flux_L99 (k84 : Nat → Int32 → Int32 → Int32 → Int32 → Int32 → am_M → am_R) : Nat → Nat → Int32 → Int32 → Int32 → Int32 → Int32 → Int32 → am_M → am_R
  | 0, _, _, _, _, _, _, _, _ => none
  | n + 1, v0, v2, v3, v4, v5, v6, v7, M =>
    fI M v0 13 34 (fun x15 => if x15 ≤ v7 then (nm (v6 + 1) (fun x16 => k84 v0 v2 v3 v4 v5 x16 M)) else (cv M v0 13 ( bI (F_Md_codeAt v0 v7 M) (fun r18 M17 => cv M17 v0 13 ( bV (F_Md_lays v0 r18 M17) (fun M19 => fI M19 v0 13 28 (fun x20 => if v6 = x20 then (nm (v7 + 1) (fun x21 => F_Md_flux_L99 k84 n v0 v2 v3 v4 v5 v6 x21 M19)) else (fI M19 v0 13 28 (fun x22 => cv M19 v0 13 ( bI (F_Md_placeBy v0 0 ((v6 - 1) - x22) M19) (fun r24 M23 => if v3 ≤ (r24 / 8) then (F_Md_flux_L156 k84 (F_Md_flux_L99 k84 n) v0 v2 v3 v4 v5 v6 v7 0 M23) else (F_Md_flux_L156 k84 (F_Md_flux_L99 k84 n) v0 v2 v3 v4 v5 v6 v7 1 M23))))))))))))
noncomputable def F_Md_flux_L84  : Nat → Nat → Int32 → Int32 → Int32 → Int32 → Int32 → am_M → am_R
  | 0, _, _, _, _, _, _, _ => none
  | n + 1, v0, v2, v3, v4, v5, v6, M =>
    if v2 ≤ v6 then (some (some (.int v5), M)) else (cv M v0 13 ( bV (F_Md_gathers v0 v6 M) (fun M14 => F_Md_flux_L99 (F_Md_flux_L84 n) fu v0 v2 v3 v4 v5 v6 0 M14)))
noncomputable def F_Md_flux (a0 : Nat) (p1 : Int32) (p2 : Int32) (p3 : Int32) (p4 : Int32) (M : am_M) : am_R :=
  fI M a0 13 1 (fun x1 => if x1 = 0 then (some (some (.int (-2)), M)) else (bI (F_Md_in (p1.toInt64) 0 30001 M) (fun r3 M2 => if r3 = 0 then (some (some (.int (-2)), M2)) else (bI (F_Md_in (p2.toInt64) 0 30001 M2) (fun r5 M4 => if r5 = 0 then (some (some (.int (-2)), M4)) else (bI (F_Md_in ((p2.toInt64) - (p1.toInt64)) 0 60 M4) (fun r7 M6 => if r7 = 0 then (some (some (.int (-2)), M6)) else (fR M6 a0 13 2 (fun b8 => aI M6 b8 0 (fun x9 => bI (F_Md_in (p3.toInt64) 1 ((x9 - 1).toInt64) M6) (fun r11 M10 => if r11 = 0 then (some (some (.int (-2)), M10)) else (bI (F_Md_in (p4.toInt64) 0 1 M10) (fun r13 M12 => if r13 = 0 then (some (some (.int (-2)), M12)) else (F_Md_flux_L84 fu a0 p2 p3 p4 0 p1 M12))))))))))))))
noncomputable def F_Md_colours_L33  : Nat → Nat → Int32 → Int32 → Int32 → am_M → am_R
  | 0, _, _, _, _, _ => none
  | n + 1, v0, v2, v3, v4, M =>
    fI M v0 13 34 (fun x6 => if x6 ≤ v4 then (some (some (.int v3), M)) else (cv M v0 13 ( bI (F_Md_codeAt v0 v4 M) (fun r8 M7 => cv M7 v0 13 ( bI (F_Md_draw v0 r8 5 8 M7) (fun r10 M9 => if r10 = v2 then (nm (v3 + 1) (fun x11 => nm (v4 + 1) (fun x12 => F_Md_colours_L33 n v0 v2 x11 x12 M9))) else (nm (v3 + 0) (fun x13 => nm (v4 + 1) (fun x14 => F_Md_colours_L33 n v0 v2 x13 x14 M9)))))))))
noncomputable def F_Md_colours (a0 : Nat) (p1 : Int32) (p2 : Int32) (M : am_M) : am_R :=
  cv M a0 13 ( bI (F_Md_isTick a0 p1 M) (fun r2 M1 => if r2 = 0 then (some (some (.int (-2)), M1)) else (bI (F_Md_in (p2.toInt64) 0 7 M1) (fun r4 M3 => if r4 = 0 then (some (some (.int (-2)), M3)) else (cv M3 a0 13 ( bV (F_Md_gathers a0 p1 M3) (fun M5 => F_Md_colours_L33 fu a0 p2 0 0 M5)))))))
noncomputable def F_Md_columns_L85  : Nat → Nat → Int32 → Int32 → am_M → am_R
  | 0, _, _, _, _ => none
  | n + 1, v0, v2, v3, M =>
    if 1600 ≤ v3 then (some (some (.int v2), M)) else (fR M v0 13 38 (fun b6 => aI M b6 v3 (fun x7 => nm (v2 + x7) (fun x8 => nm (v3 + 1) (fun x9 => F_Md_columns_L85 n v0 x8 x9 M)))))
noncomputable def F_Md_columns_L45  : Nat → Nat → Int32 → am_M → am_R
  | 0, _, _, _ => none
  | n + 1, v0, v2, M =>
    fI M v0 13 34 (fun x5 => if x5 ≤ v2 then (F_Md_columns_L85 fu v0 0 0 M) else (fR M v0 13 38 (fun b10 => fR M v0 13 37 (fun b11 => aI M b11 v2 (fun x12 => fR M v0 13 36 (fun b13 => aI M b13 v2 (fun x14 => tI M b10 ((40 * x12) + x14) 1 (fun M15 => nm (v2 + 1) (fun x16 => F_Md_columns_L45 n v0 x16 M15)))))))))
noncomputable def F_Md_columns_L23  : Nat → Nat → Int32 → am_M → am_R
  | 0, _, _, _ => none
  | n + 1, v0, v2, M =>
    if 1600 ≤ v2 then (F_Md_columns_L45 fu v0 0 M) else (fR M v0 13 38 (fun b17 => tI M b17 v2 0 (fun M18 => nm (v2 + 1) (fun x19 => F_Md_columns_L23 n v0 x19 M18))))
noncomputable def F_Md_columns (a0 : Nat) (p1 : Int32) (M : am_M) : am_R :=
  cv M a0 13 ( bI (F_Md_isTick a0 p1 M) (fun r2 M1 => if r2 = 0 then (some (some (.int (-2)), M1)) else (cv M1 a0 13 ( bV (F_Md_gathers a0 p1 M1) (fun M3 => cv M3 a0 13 ( bV (F_Md_laysColumns a0 p1 M3) (fun M4 => F_Md_columns_L23 fu a0 0 M4)))))))
noncomputable def F_Md_below_L47  : Nat → Nat → Int32 → Int32 → Int32 → Int32 → am_M → am_R
  | 0, _, _, _, _, _, _ => none
  | n + 1, v0, v2, v3, v5, v6, M =>
    if v6 < 0 then (some (some (.int (-1)), M)) else (fR M v0 13 36 (fun b9 => aI M b9 v6 (fun x10 => if x10 = v2 then (fR M v0 13 37 (fun b11 => aI M b11 v6 (fun x12 => if x12 = v3 then (if v5 = 0 then (cv M v0 13 ( bI (F_Md_codeAt v0 v6 M) (fun r14 M13 => some (some (.int r14), M13)))) else (nm (v5 + (-1)) (fun x15 => nm (v6 + (-1)) (fun x16 => F_Md_below_L47 n v0 v2 v3 x15 x16 M)))) else (nm (v6 + (-1)) (fun x17 => F_Md_below_L47 n v0 v2 v3 v5 x17 M))))) else (nm (v6 + (-1)) (fun x18 => F_Md_below_L47 n v0 v2 v3 v5 x18 M)))))
noncomputable def F_Md_below (a0 : Nat) (p1 : Int32) (p2 : Int32) (p3 : Int32) (p4 : Int32) (M : am_M) : am_R :=
  cv M a0 13 ( bI (F_Md_isTick a0 p1 M) (fun r2 M1 => if r2 = 0 then (some (some (.int (-2)), M1)) else (cv M1 a0 13 ( bI (F_Md_isColumn a0 p2 p3 M1) (fun r4 M3 => if r4 = 0 then (some (some (.int (-2)), M3)) else (if 0 ≤ p4 then (cv M3 a0 13 ( bV (F_Md_laysFrame a0 p1 M3) (fun M5 => cv M5 a0 13 ( bV (F_Md_laysColumns a0 p1 M5) (fun M6 => fI M6 a0 13 34 (fun x7 => nm (x7 - 1) (fun x8 => F_Md_below_L47 fu a0 p2 p3 p4 x8 M6))))))) else (some (some (.int (-2)), M3))))))))
noncomputable def F_Md_twins_L92 (k20 : Nat → Int32 → Int32 → Int32 → am_M → am_R) (v0 : Nat) (v1 : Int32) (v2 : Int32) (v3 : Int32) (s0 : Int32) (M : am_M) : am_R :=
  cv M v0 13 ( bI (F_Md_isSpark v0 s0 M) (fun r14 M13 => if r14 = 0 then (nm (v3 + 1) (fun x15 => k20 v0 v1 v2 x15 M13)) else (cv M13 v0 13 ( bV (F_Md_lays v0 s0 M13) (fun M16 => fI M16 v0 13 28 (fun x17 => if v1 < x17 then (nm (v2 + 0) (fun x18 => nm (v3 + 1) (fun x19 => k20 v0 v1 x18 x19 M16))) else (fI M16 v0 13 29 (fun x20 => if x20 ≤ v1 then (nm (v2 + 0) (fun x21 => nm (v3 + 1) (fun x22 => k20 v0 v1 x21 x22 M16))) else (nm (v2 + 1) (fun x23 => nm (v3 + 1) (fun x24 => k20 v0 v1 x23 x24 M16)))))))))))
noncomputable def F_Md_twins_L61 (k20 : Nat → Int32 → Int32 → Int32 → am_M → am_R) (v0 : Nat) (v1 : Int32) (v2 : Int32) (v3 : Int32) (v4 : Int32) (s0 : Int32) (M : am_M) : am_R :=
  dZ s0 ( nm ((v4 / s0) - (v4 / s0) / 16 * 16) (fun x12 => if x12 = 1 then (F_Md_twins_L92 k20 v0 v1 v2 v3 (v4 + s0) M) else (F_Md_twins_L92 k20 v0 v1 v2 v3 (v4 - s0) M)))
noncomputable def F_Md_twins_L20  : Nat → Nat → Int32 → Int32 → Int32 → am_M → am_R
  | 0, _, _, _, _, _ => none
  | n + 1, v0, v1, v2, v3, M =>
    fI M v0 13 34 (fun x4 => if x4 ≤ v3 then (some (some (.int v2), M)) else (cv M v0 13 ( bI (F_Md_codeAt v0 v3 M) (fun r6 M5 => bI (F_Md_generation r6 M5) (fun r8 M7 => if r8 = 0 then (nm (v3 + 1) (fun x9 => F_Md_twins_L20 n v0 v1 v2 x9 M7)) else (bI (F_Md_generation r6 M7) (fun r11 M10 => if r11 = 1 then (F_Md_twins_L61 (F_Md_twins_L20 n) v0 v1 v2 v3 r6 16 M10) else (F_Md_twins_L61 (F_Md_twins_L20 n) v0 v1 v2 v3 r6 1 M10))))))))
noncomputable def F_Md_twins (a0 : Nat) (p1 : Int32) (M : am_M) : am_R :=
  cv M a0 13 ( bI (F_Md_isTick a0 p1 M) (fun r2 M1 => if r2 = 0 then (some (some (.int (-2)), M1)) else (cv M1 a0 13 ( bV (F_Md_gathers a0 p1 M1) (fun M3 => F_Md_twins_L20 fu a0 p1 0 0 M3)))))
noncomputable def F_Md_isSpan (a0 : Nat) (p1 : Int32) (p2 : Int32) (p3 : Int32) (M : am_M) : am_R :=
  fI M a0 13 1 (fun x1 => if x1 = 0 then (some (some (.int 0), M)) else (bI (F_Md_in (p1.toInt64) 0 30001 M) (fun r3 M2 => if r3 = 0 then (some (some (.int 0), M2)) else (bI (F_Md_in (p2.toInt64) 0 30001 M2) (fun r5 M4 => if r5 = 0 then (some (some (.int 0), M4)) else (bI (F_Md_in ((p2.toInt64) - (p1.toInt64)) 0 (p3.toInt64) M4) (fun r7 M6 => if r7 = 0 then (some (some (.int 0), M6)) else (some (some (.int 1), M6)))))))))
noncomputable def F_Md_bornOf (a0 : Nat) (p1 : Int32) (M : am_M) : am_R :=
  nm (p1 - p1 / 4 * 4) (fun x1 => nm (p1 / 4) (fun x2 => cv M a0 13 ( bI (F_Md_ofSource a0 x1 4 M) (fun r4 M3 => cv M3 a0 13 ( bI (F_Md_ofSource a0 x1 6 M3) (fun r6 M5 => dZ r6 ( cv M5 a0 13 ( bI (F_Md_ofSource a0 x1 5 M5) (fun r8 M7 => cv M7 a0 13 ( bI (F_Md_ofSource a0 x1 8 M7) (fun r10 M9 => cv M9 a0 13 ( bI (F_Md_draw a0 (256 * p1) 0 (r10 + 1) M9) (fun r12 M11 => some (some (.int ((r4 + ((x2 / r6) * r8)) + r12)), M11))))))))))))))
noncomputable def F_Md_births_L37  : Nat → Nat → Int32 → Int32 → Int32 → Int32 → Int32 → am_M → am_R
  | 0, _, _, _, _, _, _, _ => none
  | n + 1, v0, v1, v2, v3, v4, v5, M =>
    cv M v0 13 ( bI (F_Md_roots v0 v1 M) (fun r7 M6 => if r7 ≤ v5 then (some (some (.int v4), M6)) else (cv M6 v0 13 ( bI (F_Md_bornOf v0 ((4 * v5) + v1) M6) (fun r9 M8 => bI (F_Md_in (r9.toInt64) (v2.toInt64) ((v3 - 1).toInt64) M8) (fun r11 M10 => if r11 = 0 then (nm (v4 + 0) (fun x12 => nm (v5 + 1) (fun x13 => F_Md_births_L37 n v0 v1 v2 v3 x12 x13 M10))) else (nm (v4 + 1) (fun x14 => nm (v5 + 1) (fun x15 => F_Md_births_L37 n v0 v1 v2 v3 x14 x15 M10)))))))))
noncomputable def F_Md_births (a0 : Nat) (p1 : Int32) (p2 : Int32) (p3 : Int32) (M : am_M) : am_R :=
  fI M a0 13 6 (fun x1 => bI (F_Md_in (p1.toInt64) 0 ((x1 - 1).toInt64) M) (fun r3 M2 => if r3 = 0 then (some (some (.int (-2)), M2)) else (cv M2 a0 13 ( bI (F_Md_isSpan a0 p2 p3 30001 M2) (fun r5 M4 => if r5 = 0 then (some (some (.int (-2)), M4)) else (F_Md_births_L37 fu a0 p1 p2 p3 0 0 M4))))))
noncomputable def F_Md_endingsOf_L6  : Nat → Nat → Int32 → Int32 → Int32 → Int32 → Int32 → am_M → am_R
  | 0, _, _, _, _, _, _, _ => none
  | n + 1, v0, v1, v2, v3, v4, v5, M =>
    if 48 ≤ v5 then (some (some (.int v4), M)) else (if 2 < (v5 - v5 / 16 * 16) then (nm (v5 + 1) (fun x1 => F_Md_endingsOf_L6 n v0 v1 v2 v3 v4 x1 M)) else (cv M v0 13 ( bI (F_Md_isSpark v0 ((256 * v1) + v5) M) (fun r3 M2 => if r3 = 0 then (nm (v5 + 1) (fun x4 => F_Md_endingsOf_L6 n v0 v1 v2 v3 v4 x4 M2)) else (cv M2 v0 13 ( bV (F_Md_lays v0 ((256 * v1) + v5) M2) (fun M5 => fI M5 v0 13 29 (fun x6 => bI (F_Md_in (x6.toInt64) (v2.toInt64) ((v3 - 1).toInt64) M5) (fun r8 M7 => if r8 = 0 then (nm (v4 + 0) (fun x9 => nm (v5 + 1) (fun x10 => F_Md_endingsOf_L6 n v0 v1 v2 v3 x9 x10 M7))) else (nm (v4 + 1) (fun x11 => nm (v5 + 1) (fun x12 => F_Md_endingsOf_L6 n v0 v1 v2 v3 x11 x12 M7))))))))))))
noncomputable def F_Md_endingsOf (a0 : Nat) (p1 : Int32) (p2 : Int32) (p3 : Int32) (M : am_M) : am_R :=
  F_Md_endingsOf_L6 fu a0 p1 p2 p3 0 0 M
noncomputable def F_Md_endings_L67 (k20 : Nat → Int32 → Int32 → Int32 → Int32 → am_M → am_R) (k48 : Nat → Int32 → Int32 → Int32 → Int32 → Int32 → Int32 → am_M → am_R) : Nat → Nat → Int32 → Int32 → Int32 → Int32 → Int32 → Int32 → Int32 → am_M → am_R
  | 0, _, _, _, _, _, _, _, _, _ => none
  | n + 1, v0, v1, v2, v3, v4, v5, v6, v7, M =>
    if ((v5 * v6) + v5) ≤ v7 then (nm (v6 + 1) (fun x12 => k48 v0 v1 v2 v3 v4 v5 x12 M)) else (cv M v0 13 ( bI (F_Md_endingsOf v0 ((4 * v7) + v4) v1 v2 M) (fun r14 M13 => nm (v3 + r14) (fun x15 => nm (v7 + 1) (fun x16 => F_Md_endings_L67 k20 k48 n v0 v1 v2 x15 v4 v5 v6 x16 M13)))))
noncomputable def F_Md_endings_L48 (k20 : Nat → Int32 → Int32 → Int32 → Int32 → am_M → am_R) : Nat → Nat → Int32 → Int32 → Int32 → Int32 → Int32 → Int32 → am_M → am_R
  | 0, _, _, _, _, _, _, _, _ => none
  | n + 1, v0, v1, v2, v3, v4, v5, v6, M =>
    cv M v0 13 ( bI (F_Md_isGroup v0 v4 v6 v2 M) (fun r9 M8 => if r9 = 0 then (nm (v4 + 1) (fun x10 => k20 v0 v1 v2 v3 x10 M8)) else (nm (v5 * v6) (fun x11 => F_Md_endings_L67 k20 (F_Md_endings_L48 k20 n) fu v0 v1 v2 v3 v4 v5 v6 x11 M8))))
noncomputable def F_Md_endings_L20  : Nat → Nat → Int32 → Int32 → Int32 → Int32 → am_M → am_R
  | 0, _, _, _, _, _, _ => none
  | n + 1, v0, v1, v2, v3, v4, M =>
    fI M v0 13 6 (fun x3 => if x3 ≤ v4 then (some (some (.int v3), M)) else (cv M v0 13 ( bI (F_Md_ofSource v0 v4 6 M) (fun r5 M4 => cv M4 v0 13 ( bI (F_Md_firstGroup v0 v4 v1 M4) (fun r7 M6 => F_Md_endings_L48 (F_Md_endings_L20 n) fu v0 v1 v2 v3 v4 r5 r7 M6))))))
noncomputable def F_Md_endings (a0 : Nat) (p1 : Int32) (p2 : Int32) (M : am_M) : am_R :=
  cv M a0 13 ( bI (F_Md_isSpan a0 p1 p2 300 M) (fun r2 M1 => if r2 = 0 then (some (some (.int (-2)), M1)) else (F_Md_endings_L20 fu a0 p1 p2 0 0 M1)))
noncomputable def F_Md_lastBirth (a0 : Nat) (p1 : Int32) (M : am_M) : am_R :=
  cv M a0 13 ( bI (F_Md_ofSource a0 p1 4 M) (fun r2 M1 => cv M1 a0 13 ( bI (F_Md_groups a0 p1 M1) (fun r4 M3 => cv M3 a0 13 ( bI (F_Md_ofSource a0 p1 5 M3) (fun r6 M5 => cv M5 a0 13 ( bI (F_Md_ofSource a0 p1 8 M5) (fun r8 M7 => some (some (.int ((r2 + ((r4 - 1) * r6)) + r8)), M7)))))))))
noncomputable def F_Md_bornIn_L80 (k62 : Nat → Int32 → Int32 → Int32 → Int32 → Int32 → Int32 → Int32 → am_M → am_R) : Nat → Nat → Int32 → Int32 → Int32 → Int32 → Int32 → Int32 → Int32 → Int32 → am_M → am_R
  | 0, _, _, _, _, _, _, _, _, _, _ => none
  | n + 1, v0, v1, v2, v4, v5, v8, v9, v10, v11, M =>
    if ((v5 * v10) + v5) ≤ v11 then (nm (v10 + 1) (fun x15 => k62 v0 v1 v2 v4 v5 v8 v9 x15 M)) else (cv M v0 13 ( bI (F_Md_bornOf v0 ((4 * v11) + v1) M) (fun r17 M16 => if r17 = v2 then (nm (256 * ((4 * v11) + v1)) (fun x18 => if v8 = 0 then (if v4 = 0 then (some (some (.int x18), M16)) else (nm (v8 + (-1)) (fun x19 => nm (v11 + 1) (fun x20 => F_Md_bornIn_L80 k62 n v0 v1 v2 v4 v5 x19 x18 v10 x20 M16)))) else (nm (v8 + (-1)) (fun x21 => nm (v11 + 1) (fun x22 => F_Md_bornIn_L80 k62 n v0 v1 v2 v4 v5 x21 x18 v10 x22 M16))))) else (nm (v11 + 1) (fun x23 => F_Md_bornIn_L80 k62 n v0 v1 v2 v4 v5 v8 v9 v10 x23 M16)))))
noncomputable def F_Md_bornIn_L62  : Nat → Nat → Int32 → Int32 → Int32 → Int32 → Int32 → Int32 → Int32 → am_M → am_R
  | 0, _, _, _, _, _, _, _, _, _ => none
  | n + 1, v0, v1, v2, v4, v5, v8, v9, v10, M =>
    cv M v0 13 ( bI (F_Md_isGroup v0 v1 v10 v2 M) (fun r12 M11 => if r12 = 0 then (sI M11 v0 13 39 v8 (fun M13 => if v4 = 0 then (some (some (.int (-1)), M13)) else (some (some (.int v9), M13)))) else (nm (v5 * v10) (fun x14 => F_Md_bornIn_L80 (F_Md_bornIn_L62 n) fu v0 v1 v2 v4 v5 v8 v9 v10 x14 M11))))
noncomputable def F_Md_bornIn (a0 : Nat) (p1 : Int32) (p2 : Int32) (p3 : Int32) (p4 : Int32) (M : am_M) : am_R :=
  cv M a0 13 ( bI (F_Md_ofSource a0 p1 6 M) (fun r2 M1 => cv M1 a0 13 ( bI (F_Md_ofSource a0 p1 5 M1) (fun r4 M3 => cv M3 a0 13 ( bI (F_Md_ofSource a0 p1 8 M3) (fun r6 M5 => cv M5 a0 13 ( bI (F_Md_ofSource a0 p1 4 M5) (fun r8 M7 => nm ((p2 - r6) - r8) (fun x9 => if 0 < x9 then (dZ r4 ( nm (((x9 + r4) - 1) / r4) (fun x10 => F_Md_bornIn_L62 fu a0 p1 p2 p4 r2 p3 (-1) x10 M7))) else (F_Md_bornIn_L62 fu a0 p1 p2 p4 r2 p3 (-1) 0 M7))))))))))
noncomputable def F_Md_bornAs_L44  : Nat → Nat → Int32 → Int32 → Int32 → am_M → am_R
  | 0, _, _, _, _, _ => none
  | n + 1, v0, v1, v3, v4, M =>
    cv M v0 13 ( bI (F_Md_lastBirth v0 v1 M) (fun r9 M8 => if r9 < v4 then (some (some (.int (-1)), M8)) else (cv M8 v0 13 ( bI (F_Md_bornIn v0 v1 v4 v3 0 M8) (fun r11 M10 => if r11 = (-1) then (fI M10 v0 13 39 (fun x12 => nm (v4 + 1) (fun x13 => F_Md_bornAs_L44 n v0 v1 x12 x13 M10))) else (some (some (.int r11), M10)))))))
noncomputable def F_Md_bornAs (a0 : Nat) (p1 : Int32) (p2 : Int32) (M : am_M) : am_R :=
  fI M a0 13 6 (fun x1 => bI (F_Md_in (p1.toInt64) 0 ((x1 - 1).toInt64) M) (fun r3 M2 => if r3 = 0 then (some (some (.int (-2)), M2)) else (if 0 ≤ p2 then (cv M2 a0 13 ( bI (F_Md_roots a0 p1 M2) (fun r5 M4 => if p2 < r5 then (cv M4 a0 13 ( bI (F_Md_ofSource a0 p1 4 M4) (fun r7 M6 => F_Md_bornAs_L44 fu a0 p1 p2 r7 M6))) else (some (some (.int (-1)), M4))))) else (some (some (.int (-2)), M2)))))
noncomputable def F_Md_latest_L47  : Nat → Nat → Int32 → Int32 → am_M → am_R
  | 0, _, _, _, _ => none
  | n + 1, v0, v1, v3, M =>
    cv M v0 13 ( bI (F_Md_ofSource v0 v1 4 M) (fun r13 M12 => if v3 < r13 then (some (some (.int (-1)), M12)) else (cv M12 v0 13 ( bI (F_Md_bornIn v0 v1 v3 0 1 M12) (fun r15 M14 => if r15 = (-1) then (nm (v3 + (-1)) (fun x16 => F_Md_latest_L47 n v0 v1 x16 M14)) else (some (some (.int r15), M14)))))))
noncomputable def F_Md_latest (a0 : Nat) (p1 : Int32) (p2 : Int32) (M : am_M) : am_R :=
  fI M a0 13 6 (fun x1 => bI (F_Md_in (p1.toInt64) 0 ((x1 - 1).toInt64) M) (fun r3 M2 => if r3 = 0 then (some (some (.int (-2)), M2)) else (cv M2 a0 13 ( bI (F_Md_isTick a0 p2 M2) (fun r5 M4 => if r5 = 0 then (some (some (.int (-2)), M4)) else (cv M4 a0 13 ( bI (F_Md_roots a0 p1 M4) (fun r7 M6 => if r7 = 0 then (some (some (.int (-1)), M6)) else (cv M6 a0 13 ( bI (F_Md_lastBirth a0 p1 M6) (fun r9 M8 => bI (F_Math_min p2 r9 M8) (fun r11 M10 => F_Md_latest_L47 fu a0 p1 r11 M10))))))))))))
noncomputable def F_Md_next_L38  : Nat → Nat → Int32 → Int32 → am_M → am_R
  | 0, _, _, _, _ => none
  | n + 1, v0, v1, v3, M =>
    cv M v0 13 ( bI (F_Md_roots v0 v1 M) (fun r11 M10 => if r11 ≤ 0 then (some (some (.int (-1)), M10)) else (cv M10 v0 13 ( bI (F_Md_lastBirth v0 v1 M10) (fun r13 M12 => if r13 < v3 then (some (some (.int (-1)), M12)) else (cv M12 v0 13 ( bI (F_Md_bornIn v0 v1 v3 0 0 M12) (fun r15 M14 => if r15 = (-1) then (nm (v3 + 1) (fun x16 => F_Md_next_L38 n v0 v1 x16 M14)) else (some (some (.int v3), M14))))))))))
noncomputable def F_Md_next (a0 : Nat) (p1 : Int32) (p2 : Int32) (M : am_M) : am_R :=
  fI M a0 13 6 (fun x1 => bI (F_Md_in (p1.toInt64) 0 ((x1 - 1).toInt64) M) (fun r3 M2 => if r3 = 0 then (some (some (.int (-2)), M2)) else (cv M2 a0 13 ( bI (F_Md_isTick a0 p2 M2) (fun r5 M4 => if r5 = 0 then (some (some (.int (-2)), M4)) else (cv M4 a0 13 ( bI (F_Md_ofSource a0 p1 4 M4) (fun r7 M6 => bI (F_Math_max p2 r7 M6) (fun r9 M8 => F_Md_next_L38 fu a0 p1 r9 M8)))))))))
noncomputable def F_Md_lull_L86 (k59 : Nat → Int32 → Int32 → Int32 → Int32 → Int32 → Int32 → Int32 → am_M → am_R) (v0 : Nat) (v1 : Int32) (v3 : Int32) (v4 : Int32) (v5 : Int32) (v6 : Int32) (v8 : Int32) (s0 : Int32) (M : am_M) : am_R :=
  if v5 < s0 then (nm ((v8 - s0) + 1) (fun x10 => nm (v8 + 1) (fun x11 => k59 v0 v1 v3 v4 s0 x10 s0 x11 M))) else (nm (v8 + 1) (fun x12 => k59 v0 v1 v3 v4 v5 v6 s0 x12 M))
noncomputable def F_Md_lull_L59  : Nat → Nat → Int32 → Int32 → Int32 → Int32 → Int32 → Int32 → Int32 → am_M → am_R
  | 0, _, _, _, _, _, _, _, _, _ => none
  | n + 1, v0, v1, v3, v4, v5, v6, v7, v8, M =>
    if v3 ≤ v8 then (if v4 = 0 then (some (some (.int v5), M)) else (some (some (.int v6), M))) else (cv M v0 13 ( bI (F_Md_bornIn v0 v1 v8 0 0 M) (fun r9 M8 => if r9 = (-1) then (F_Md_lull_L86 (F_Md_lull_L59 n) v0 v1 v3 v4 v5 v6 v8 (v7 + 1) M8) else (F_Md_lull_L86 (F_Md_lull_L59 n) v0 v1 v3 v4 v5 v6 v8 0 M8))))
noncomputable def F_Md_lull (a0 : Nat) (p1 : Int32) (p2 : Int32) (p3 : Int32) (p4 : Int32) (M : am_M) : am_R :=
  fI M a0 13 6 (fun x1 => bI (F_Md_in (p1.toInt64) 0 ((x1 - 1).toInt64) M) (fun r3 M2 => if r3 = 0 then (some (some (.int (-2)), M2)) else (cv M2 a0 13 ( bI (F_Md_isSpan a0 p2 p3 2000 M2) (fun r5 M4 => if r5 = 0 then (some (some (.int (-2)), M4)) else (if p2 = p3 then (some (some (.int (-2)), M4)) else (bI (F_Md_in (p4.toInt64) 0 1 M4) (fun r7 M6 => if r7 = 0 then (some (some (.int (-2)), M6)) else (F_Md_lull_L59 fu a0 p1 p3 p4 0 (-1) 0 p2 M6)))))))))
noncomputable def F_Md_says (a0 : Nat) (p1 : Int32) (M : am_M) : am_R :=
  fR M a0 13 40 (fun b1 => fI M a0 13 41 (fun x2 => tB M b1 x2 (p1.toInt8.toInt32) (fun M3 => fI M3 a0 13 41 (fun x4 => sI M3 a0 13 41 (x4 + 1) (fun M5 => some (none, M5))))))
noncomputable def F_Md_picture_L40 (k28 : Nat → Int32 → am_M → am_R) : Nat → Nat → Int32 → Int32 → am_M → am_R
  | 0, _, _, _, _ => none
  | n + 1, v0, v2, v3, M =>
    fR M v0 13 2 (fun b9 => aI M b9 0 (fun x10 => if x10 ≤ v3 then (cv M v0 13 ( bV (F_Md_says v0 10 M) (fun M11 => nm (v2 + 1) (fun x12 => k28 v0 x12 M11)))) else (cv M v0 13 ( bI (F_Md_topOf v0 v3 v2 M) (fun r14 M13 => if r14 = (-1) then (cv M13 v0 13 ( bV (F_Md_says v0 46 M13) (fun M15 => nm (v3 + 1) (fun x16 => F_Md_picture_L40 k28 n v0 v2 x16 M15)))) else (cv M13 v0 13 ( bI (F_Md_codeAt v0 r14 M13) (fun r18 M17 => cv M17 v0 13 ( bI (F_Md_draw v0 r18 5 8 M17) (fun r20 M19 => cv M19 v0 13 ( bV (F_Md_says v0 (48 + r20) M19) (fun M21 => nm (v3 + 1) (fun x22 => F_Md_picture_L40 k28 n v0 v2 x22 M21)))))))))))))
noncomputable def F_Md_picture_L28  : Nat → Nat → Int32 → am_M → am_R
  | 0, _, _, _ => none
  | n + 1, v0, v2, M =>
    fR M v0 13 2 (fun b6 => aI M b6 1 (fun x7 => if x7 ≤ v2 then (fI M v0 13 41 (fun x8 => some (some (.int x8), M))) else (F_Md_picture_L40 (F_Md_picture_L28 n) fu v0 v2 0 M)))
noncomputable def F_Md_picture (a0 : Nat) (p1 : Int32) (M : am_M) : am_R :=
  cv M a0 13 ( bI (F_Md_isTick a0 p1 M) (fun r2 M1 => if r2 = 0 then (some (some (.int (-2)), M1)) else (cv M1 a0 13 ( bV (F_Md_laysFrame a0 p1 M1) (fun M3 => cv M3 a0 13 ( bV (F_Md_laysColumns a0 p1 M3) (fun M4 => sI M4 a0 13 41 0 (fun M5 => F_Md_picture_L28 fu a0 0 M5))))))))
noncomputable def F_Md_layer_L54 (k41 : Nat → Int32 → Int32 → am_M → am_R) : Nat → Nat → Int32 → Int32 → Int32 → am_M → am_R
  | 0, _, _, _, _, _ => none
  | n + 1, v0, v2, v3, v4, M =>
    fR M v0 13 2 (fun b12 => aI M b12 0 (fun x13 => if x13 ≤ v4 then (cv M v0 13 ( bV (F_Md_says v0 10 M) (fun M14 => nm (v3 + 1) (fun x15 => k41 v0 v2 x15 M14)))) else (fR M v0 13 38 (fun b16 => aI M b16 ((((v2 * 40) + v3) * 40) + v4) (fun x17 => if x17 = 0 then (cv M v0 13 ( bV (F_Md_says v0 46 M) (fun M18 => nm (v4 + 1) (fun x19 => F_Md_layer_L54 k41 n v0 v2 v3 x19 M18)))) else (bI (F_Math_min 9 x17 M) (fun r21 M20 => cv M20 v0 13 ( bV (F_Md_says v0 (48 + r21) M20) (fun M22 => nm (v4 + 1) (fun x23 => F_Md_layer_L54 k41 n v0 v2 v3 x23 M22))))))))))
noncomputable def F_Md_layer_L41  : Nat → Nat → Int32 → Int32 → am_M → am_R
  | 0, _, _, _, _ => none
  | n + 1, v0, v2, v3, M =>
    fR M v0 13 2 (fun b9 => aI M b9 1 (fun x10 => if x10 ≤ v3 then (fI M v0 13 41 (fun x11 => some (some (.int x11), M))) else (F_Md_layer_L54 (F_Md_layer_L41 n) fu v0 v2 v3 0 M)))
noncomputable def F_Md_layer (a0 : Nat) (p1 : Int32) (p2 : Int32) (M : am_M) : am_R :=
  cv M a0 13 ( bI (F_Md_isTick a0 p1 M) (fun r2 M1 => if r2 = 0 then (some (some (.int (-2)), M1)) else (fR M1 a0 13 2 (fun b3 => aI M1 b3 2 (fun x4 => bI (F_Md_in (p2.toInt64) 0 ((x4 - 1).toInt64) M1) (fun r6 M5 => if r6 = 0 then (some (some (.int (-2)), M5)) else (cv M5 a0 13 ( bV (F_Md_laysHeaps a0 p1 M5) (fun M7 => sI M7 a0 13 41 0 (fun M8 => F_Md_layer_L41 fu a0 p2 0 M8))))))))))
noncomputable def F_Md_saysNumber_L18  : Nat → Nat → Int32 → Int32 → am_M → am_R
  | 0, _, _, _, _ => none
  | n + 1, v0, v1, v2, M =>
    if v2 ≤ 0 then (some (none, M)) else (dZ v2 ( cv M v0 13 ( bV (F_Md_says v0 (48 + ((v1 / v2) - (v1 / v2) / 10 * 10)) M) (fun M1 => nm (v2 / 10) (fun x2 => F_Md_saysNumber_L18 n v0 v1 x2 M1)))))
noncomputable def F_Md_saysNumber_L2  : Nat → Nat → Int32 → Int32 → am_M → am_R
  | 0, _, _, _, _ => none
  | n + 1, v0, v1, v2, M =>
    dZ v2 ( if (v1 / v2) < 10 then (F_Md_saysNumber_L18 fu v0 v1 v2 M) else (nm (v2 * 10) (fun x3 => F_Md_saysNumber_L2 n v0 v1 x3 M)))
noncomputable def F_Md_saysNumber (a0 : Nat) (p1 : Int32) (M : am_M) : am_R :=
  F_Md_saysNumber_L2 fu a0 p1 1 M
noncomputable def F_Md_tell_L133  : Nat → Nat → Int32 → am_M → am_R
  | 0, _, _, _ => none
  | n + 1, v0, v2, M =>
    if 3 ≤ v2 then (fI M v0 13 41 (fun x15 => some (some (.int x15), M))) else (cv M v0 13 ( bV (F_Md_says v0 32 M) (fun M16 => fR M16 v0 13 30 (fun b17 => aI M16 b17 v2 (fun x18 => cv M16 v0 13 ( bV (F_Md_saysNumber v0 x18 M16) (fun M19 => nm (v2 + 1) (fun x20 => F_Md_tell_L133 n v0 x20 M19))))))))
noncomputable def F_Md_tell_L103  (v0 : Nat) (M : am_M) : am_R :=
  cv M v0 13 ( bV (F_Md_says v0 32 M) (fun M9 => fI M9 v0 13 28 (fun x10 => cv M9 v0 13 ( bV (F_Md_saysNumber v0 x10 M9) (fun M11 => cv M11 v0 13 ( bV (F_Md_says v0 45 M11) (fun M12 => fI M12 v0 13 29 (fun x13 => cv M12 v0 13 ( bV (F_Md_saysNumber v0 x13 M12) (fun M14 => F_Md_tell_L133 fu v0 0 M14))))))))))
noncomputable def F_Md_tell_L78  (v0 : Nat) (v1 : Int32) (M : am_M) : am_R :=
  if (v1 - v1 / 16 * 16) ≤ 0 then (F_Md_tell_L103 v0 M) else (cv M v0 13 ( bV (F_Md_says v0 46 M) (fun M21 => bI (F_Md_second (v1 - v1 / 256 * 256) M21) (fun r23 M22 => cv M22 v0 13 ( bV (F_Md_saysNumber v0 r23 M22) (fun M24 => F_Md_tell_L103 v0 M24))))))
noncomputable def F_Md_tell (a0 : Nat) (p1 : Int32) (M : am_M) : am_R :=
  cv M a0 13 ( bI (F_Md_isSpark a0 p1 M) (fun r2 M1 => if r2 = 0 then (some (some (.int (-2)), M1)) else (cv M1 a0 13 ( bV (F_Md_lays a0 p1 M1) (fun M3 => sI M3 a0 13 41 0 (fun M4 => fI M4 a0 13 27 (fun x5 => cv M4 a0 13 ( bV (F_Md_says a0 (97 + x5) M4) (fun M6 => cv M6 a0 13 ( bV (F_Md_saysNumber a0 ((p1 / 256) - (p1 / 256) / 4 * 4) M6) (fun M7 => cv M7 a0 13 ( bV (F_Md_saysNumber a0 (p1 / 1024) M7) (fun M8 => if (p1 - p1 / 256 * 256) ≤ 0 then (F_Md_tell_L78 a0 p1 M8) else (cv M8 a0 13 ( bV (F_Md_says a0 46 M8) (fun M25 => bI (F_Md_first (p1 - p1 / 256 * 256) M25) (fun r27 M26 => cv M26 a0 13 ( bV (F_Md_saysNumber a0 r27 M26) (fun M28 => F_Md_tell_L78 a0 p1 M28)))))))))))))))))))
noncomputable def F_Md_octet (a0 : Nat) (p1 : Int32) (M : am_M) : am_R :=
  fI M a0 13 41 (fun x1 => bI (F_Md_in (p1.toInt64) 0 ((x1 - 1).toInt64) M) (fun r3 M2 => if r3 = 0 then (some (some (.int (-1)), M2)) else (fR M2 a0 13 40 (fun b4 => aB M2 b4 p1 (fun x5 => some (some (.int x5), M2))))))
