/-! ===== the cells that stand after the two constructors (printed by wip/whole/shape.py) ===== -/
def shK : List Nat := [12, 0, 9, 0, 0, 0, 8, 9, 0, 0, 0, 0, 6, 0, 0, 0, 7, 0, 11, 3, 0, 0, 0, 0, 10, 0, 0, 10, 0, 0, 10, 0, 0, 10, 0, 0, 10, 0, 0, 10, 0, 0, 10, 0, 0, 5, 0, 0, 0, 4, 10, 0, 0, 10, 0, 0, 10, 0, 0, 4, 10, 0, 0, 10, 0, 0, 10, 0, 0, 0, 13, 0, 0, 0, 0, 0, 0, 2, 0, 0, 0, 0, 0, 0, 1, 0, 0, 0, 2]
def shL : List Nat := [11, 500, 8, 3, 40, 40, 9, 8, 3, 40, 40, 0, 4, 10, 10, 10, 2, 1640, 9, 7, 7, 4, 4, 15, 10, 3, 3, 10, 3, 3, 10, 3, 3, 10, 3, 3, 10, 3, 3, 10, 3, 3, 10, 3, 3, 7, 112, 16, 320, 4, 10, 3, 3, 10, 3, 3, 10, 3, 3, 4, 10, 3, 3, 10, 3, 3, 10, 3, 3, 2000, 42, 3, 40, 36, 3, 40, 36, 500, 10, 10, 3, 3, 3, 61, 30000, 30000, 30000, 64000, 1700]
def shR : List (Nat × Nat × Nat) := [(0, 0, 1), (0, 2, 2), (0, 3, 6), (0, 4, 12), (0, 5, 16), (0, 6, 18), (0, 7, 45), (0, 8, 49), (0, 9, 59), (0, 10, 69), (2, 0, 3), (2, 1, 4), (2, 2, 5), (6, 0, 7), (7, 0, 8), (7, 1, 9), (7, 2, 10), (12, 0, 13), (12, 1, 14), (12, 2, 15), (16, 0, 17), (18, 0, 2), (18, 1, 19), (18, 2, 20), (18, 3, 21), (18, 4, 22), (18, 5, 23), (19, 0, 24), (19, 1, 27), (19, 2, 30), (19, 3, 33), (19, 4, 36), (19, 5, 39), (19, 6, 42), (24, 0, 2), (24, 1, 25), (24, 2, 26), (27, 0, 2), (27, 1, 28), (27, 2, 29), (30, 0, 2), (30, 1, 31), (30, 2, 32), (33, 0, 2), (33, 1, 34), (33, 2, 35), (36, 0, 2), (36, 1, 37), (36, 2, 38), (39, 0, 2), (39, 1, 40), (39, 2, 41), (42, 0, 2), (42, 1, 43), (42, 2, 44), (45, 0, 2), (45, 1, 18), (45, 5, 48), (49, 0, 2), (49, 1, 50), (49, 2, 53), (49, 3, 56), (50, 0, 2), (50, 1, 51), (50, 2, 52), (53, 0, 2), (53, 1, 54), (53, 2, 55), (56, 0, 2), (56, 1, 57), (56, 2, 58), (59, 0, 2), (59, 1, 60), (59, 2, 63), (59, 3, 66), (60, 0, 2), (60, 1, 61), (60, 2, 62), (63, 0, 2), (63, 1, 64), (63, 2, 65), (66, 0, 2), (66, 1, 67), (66, 2, 68), (70, 2, 71), (70, 5, 72), (70, 7, 73), (70, 8, 74), (70, 11, 75), (70, 13, 76), (70, 14, 77), (70, 25, 78), (70, 26, 79), (70, 30, 80), (70, 31, 81), (70, 32, 82), (70, 33, 83), (70, 35, 84), (70, 36, 85), (70, 37, 86), (70, 38, 87), (70, 40, 88)]
def SH (M : am_M) : Prop := 89 ≤ mNx M ∧ (∀ a, a < 89 → mKd M a = shK.getD a 0 ∧ mLn M a = shL.getD a 0) ∧ ∀ q ∈ shR, rR M q.1 q.2.1 = some q.2.2
theorem kd_0 {M : am_M} (h : SH M) : mKd M 0 = 12 := (h.2.1 0 (by decide)).1
theorem kd_1 {M : am_M} (h : SH M) : mKd M 1 = 0 := (h.2.1 1 (by decide)).1
theorem ln_1 {M : am_M} (h : SH M) : mLn M 1 = 500 := (h.2.1 1 (by decide)).2
theorem kd_2 {M : am_M} (h : SH M) : mKd M 2 = 9 := (h.2.1 2 (by decide)).1
theorem kd_3 {M : am_M} (h : SH M) : mKd M 3 = 0 := (h.2.1 3 (by decide)).1
theorem ln_3 {M : am_M} (h : SH M) : mLn M 3 = 3 := (h.2.1 3 (by decide)).2
theorem kd_4 {M : am_M} (h : SH M) : mKd M 4 = 0 := (h.2.1 4 (by decide)).1
theorem ln_4 {M : am_M} (h : SH M) : mLn M 4 = 40 := (h.2.1 4 (by decide)).2
theorem kd_5 {M : am_M} (h : SH M) : mKd M 5 = 0 := (h.2.1 5 (by decide)).1
theorem ln_5 {M : am_M} (h : SH M) : mLn M 5 = 40 := (h.2.1 5 (by decide)).2
theorem kd_6 {M : am_M} (h : SH M) : mKd M 6 = 8 := (h.2.1 6 (by decide)).1
theorem kd_7 {M : am_M} (h : SH M) : mKd M 7 = 9 := (h.2.1 7 (by decide)).1
theorem kd_8 {M : am_M} (h : SH M) : mKd M 8 = 0 := (h.2.1 8 (by decide)).1
theorem ln_8 {M : am_M} (h : SH M) : mLn M 8 = 3 := (h.2.1 8 (by decide)).2
theorem kd_9 {M : am_M} (h : SH M) : mKd M 9 = 0 := (h.2.1 9 (by decide)).1
theorem ln_9 {M : am_M} (h : SH M) : mLn M 9 = 40 := (h.2.1 9 (by decide)).2
theorem kd_10 {M : am_M} (h : SH M) : mKd M 10 = 0 := (h.2.1 10 (by decide)).1
theorem ln_10 {M : am_M} (h : SH M) : mLn M 10 = 40 := (h.2.1 10 (by decide)).2
theorem kd_11 {M : am_M} (h : SH M) : mKd M 11 = 0 := (h.2.1 11 (by decide)).1
theorem ln_11 {M : am_M} (h : SH M) : mLn M 11 = 0 := (h.2.1 11 (by decide)).2
theorem kd_12 {M : am_M} (h : SH M) : mKd M 12 = 6 := (h.2.1 12 (by decide)).1
theorem kd_13 {M : am_M} (h : SH M) : mKd M 13 = 0 := (h.2.1 13 (by decide)).1
theorem ln_13 {M : am_M} (h : SH M) : mLn M 13 = 10 := (h.2.1 13 (by decide)).2
theorem kd_14 {M : am_M} (h : SH M) : mKd M 14 = 0 := (h.2.1 14 (by decide)).1
theorem ln_14 {M : am_M} (h : SH M) : mLn M 14 = 10 := (h.2.1 14 (by decide)).2
theorem kd_15 {M : am_M} (h : SH M) : mKd M 15 = 0 := (h.2.1 15 (by decide)).1
theorem ln_15 {M : am_M} (h : SH M) : mLn M 15 = 10 := (h.2.1 15 (by decide)).2
theorem kd_16 {M : am_M} (h : SH M) : mKd M 16 = 7 := (h.2.1 16 (by decide)).1
theorem kd_17 {M : am_M} (h : SH M) : mKd M 17 = 0 := (h.2.1 17 (by decide)).1
theorem ln_17 {M : am_M} (h : SH M) : mLn M 17 = 1640 := (h.2.1 17 (by decide)).2
theorem kd_18 {M : am_M} (h : SH M) : mKd M 18 = 11 := (h.2.1 18 (by decide)).1
theorem kd_19 {M : am_M} (h : SH M) : mKd M 19 = 3 := (h.2.1 19 (by decide)).1
theorem ln_19 {M : am_M} (h : SH M) : mLn M 19 = 7 := (h.2.1 19 (by decide)).2
theorem kd_20 {M : am_M} (h : SH M) : mKd M 20 = 0 := (h.2.1 20 (by decide)).1
theorem ln_20 {M : am_M} (h : SH M) : mLn M 20 = 7 := (h.2.1 20 (by decide)).2
theorem kd_21 {M : am_M} (h : SH M) : mKd M 21 = 0 := (h.2.1 21 (by decide)).1
theorem ln_21 {M : am_M} (h : SH M) : mLn M 21 = 4 := (h.2.1 21 (by decide)).2
theorem kd_22 {M : am_M} (h : SH M) : mKd M 22 = 0 := (h.2.1 22 (by decide)).1
theorem ln_22 {M : am_M} (h : SH M) : mLn M 22 = 4 := (h.2.1 22 (by decide)).2
theorem kd_23 {M : am_M} (h : SH M) : mKd M 23 = 0 := (h.2.1 23 (by decide)).1
theorem ln_23 {M : am_M} (h : SH M) : mLn M 23 = 15 := (h.2.1 23 (by decide)).2
theorem kd_24 {M : am_M} (h : SH M) : mKd M 24 = 10 := (h.2.1 24 (by decide)).1
theorem kd_25 {M : am_M} (h : SH M) : mKd M 25 = 0 := (h.2.1 25 (by decide)).1
theorem ln_25 {M : am_M} (h : SH M) : mLn M 25 = 3 := (h.2.1 25 (by decide)).2
theorem kd_26 {M : am_M} (h : SH M) : mKd M 26 = 0 := (h.2.1 26 (by decide)).1
theorem ln_26 {M : am_M} (h : SH M) : mLn M 26 = 3 := (h.2.1 26 (by decide)).2
theorem kd_27 {M : am_M} (h : SH M) : mKd M 27 = 10 := (h.2.1 27 (by decide)).1
theorem kd_28 {M : am_M} (h : SH M) : mKd M 28 = 0 := (h.2.1 28 (by decide)).1
theorem ln_28 {M : am_M} (h : SH M) : mLn M 28 = 3 := (h.2.1 28 (by decide)).2
theorem kd_29 {M : am_M} (h : SH M) : mKd M 29 = 0 := (h.2.1 29 (by decide)).1
theorem ln_29 {M : am_M} (h : SH M) : mLn M 29 = 3 := (h.2.1 29 (by decide)).2
theorem kd_30 {M : am_M} (h : SH M) : mKd M 30 = 10 := (h.2.1 30 (by decide)).1
theorem kd_31 {M : am_M} (h : SH M) : mKd M 31 = 0 := (h.2.1 31 (by decide)).1
theorem ln_31 {M : am_M} (h : SH M) : mLn M 31 = 3 := (h.2.1 31 (by decide)).2
theorem kd_32 {M : am_M} (h : SH M) : mKd M 32 = 0 := (h.2.1 32 (by decide)).1
theorem ln_32 {M : am_M} (h : SH M) : mLn M 32 = 3 := (h.2.1 32 (by decide)).2
theorem kd_33 {M : am_M} (h : SH M) : mKd M 33 = 10 := (h.2.1 33 (by decide)).1
theorem kd_34 {M : am_M} (h : SH M) : mKd M 34 = 0 := (h.2.1 34 (by decide)).1
theorem ln_34 {M : am_M} (h : SH M) : mLn M 34 = 3 := (h.2.1 34 (by decide)).2
theorem kd_35 {M : am_M} (h : SH M) : mKd M 35 = 0 := (h.2.1 35 (by decide)).1
theorem ln_35 {M : am_M} (h : SH M) : mLn M 35 = 3 := (h.2.1 35 (by decide)).2
theorem kd_36 {M : am_M} (h : SH M) : mKd M 36 = 10 := (h.2.1 36 (by decide)).1
theorem kd_37 {M : am_M} (h : SH M) : mKd M 37 = 0 := (h.2.1 37 (by decide)).1
theorem ln_37 {M : am_M} (h : SH M) : mLn M 37 = 3 := (h.2.1 37 (by decide)).2
theorem kd_38 {M : am_M} (h : SH M) : mKd M 38 = 0 := (h.2.1 38 (by decide)).1
theorem ln_38 {M : am_M} (h : SH M) : mLn M 38 = 3 := (h.2.1 38 (by decide)).2
theorem kd_39 {M : am_M} (h : SH M) : mKd M 39 = 10 := (h.2.1 39 (by decide)).1
theorem kd_40 {M : am_M} (h : SH M) : mKd M 40 = 0 := (h.2.1 40 (by decide)).1
theorem ln_40 {M : am_M} (h : SH M) : mLn M 40 = 3 := (h.2.1 40 (by decide)).2
theorem kd_41 {M : am_M} (h : SH M) : mKd M 41 = 0 := (h.2.1 41 (by decide)).1
theorem ln_41 {M : am_M} (h : SH M) : mLn M 41 = 3 := (h.2.1 41 (by decide)).2
theorem kd_42 {M : am_M} (h : SH M) : mKd M 42 = 10 := (h.2.1 42 (by decide)).1
theorem kd_43 {M : am_M} (h : SH M) : mKd M 43 = 0 := (h.2.1 43 (by decide)).1
theorem ln_43 {M : am_M} (h : SH M) : mLn M 43 = 3 := (h.2.1 43 (by decide)).2
theorem kd_44 {M : am_M} (h : SH M) : mKd M 44 = 0 := (h.2.1 44 (by decide)).1
theorem ln_44 {M : am_M} (h : SH M) : mLn M 44 = 3 := (h.2.1 44 (by decide)).2
theorem kd_45 {M : am_M} (h : SH M) : mKd M 45 = 5 := (h.2.1 45 (by decide)).1
theorem kd_46 {M : am_M} (h : SH M) : mKd M 46 = 0 := (h.2.1 46 (by decide)).1
theorem ln_46 {M : am_M} (h : SH M) : mLn M 46 = 112 := (h.2.1 46 (by decide)).2
theorem kd_47 {M : am_M} (h : SH M) : mKd M 47 = 0 := (h.2.1 47 (by decide)).1
theorem ln_47 {M : am_M} (h : SH M) : mLn M 47 = 16 := (h.2.1 47 (by decide)).2
theorem kd_48 {M : am_M} (h : SH M) : mKd M 48 = 0 := (h.2.1 48 (by decide)).1
theorem ln_48 {M : am_M} (h : SH M) : mLn M 48 = 320 := (h.2.1 48 (by decide)).2
theorem kd_49 {M : am_M} (h : SH M) : mKd M 49 = 4 := (h.2.1 49 (by decide)).1
theorem kd_50 {M : am_M} (h : SH M) : mKd M 50 = 10 := (h.2.1 50 (by decide)).1
theorem kd_51 {M : am_M} (h : SH M) : mKd M 51 = 0 := (h.2.1 51 (by decide)).1
theorem ln_51 {M : am_M} (h : SH M) : mLn M 51 = 3 := (h.2.1 51 (by decide)).2
theorem kd_52 {M : am_M} (h : SH M) : mKd M 52 = 0 := (h.2.1 52 (by decide)).1
theorem ln_52 {M : am_M} (h : SH M) : mLn M 52 = 3 := (h.2.1 52 (by decide)).2
theorem kd_53 {M : am_M} (h : SH M) : mKd M 53 = 10 := (h.2.1 53 (by decide)).1
theorem kd_54 {M : am_M} (h : SH M) : mKd M 54 = 0 := (h.2.1 54 (by decide)).1
theorem ln_54 {M : am_M} (h : SH M) : mLn M 54 = 3 := (h.2.1 54 (by decide)).2
theorem kd_55 {M : am_M} (h : SH M) : mKd M 55 = 0 := (h.2.1 55 (by decide)).1
theorem ln_55 {M : am_M} (h : SH M) : mLn M 55 = 3 := (h.2.1 55 (by decide)).2
theorem kd_56 {M : am_M} (h : SH M) : mKd M 56 = 10 := (h.2.1 56 (by decide)).1
theorem kd_57 {M : am_M} (h : SH M) : mKd M 57 = 0 := (h.2.1 57 (by decide)).1
theorem ln_57 {M : am_M} (h : SH M) : mLn M 57 = 3 := (h.2.1 57 (by decide)).2
theorem kd_58 {M : am_M} (h : SH M) : mKd M 58 = 0 := (h.2.1 58 (by decide)).1
theorem ln_58 {M : am_M} (h : SH M) : mLn M 58 = 3 := (h.2.1 58 (by decide)).2
theorem kd_59 {M : am_M} (h : SH M) : mKd M 59 = 4 := (h.2.1 59 (by decide)).1
theorem kd_60 {M : am_M} (h : SH M) : mKd M 60 = 10 := (h.2.1 60 (by decide)).1
theorem kd_61 {M : am_M} (h : SH M) : mKd M 61 = 0 := (h.2.1 61 (by decide)).1
theorem ln_61 {M : am_M} (h : SH M) : mLn M 61 = 3 := (h.2.1 61 (by decide)).2
theorem kd_62 {M : am_M} (h : SH M) : mKd M 62 = 0 := (h.2.1 62 (by decide)).1
theorem ln_62 {M : am_M} (h : SH M) : mLn M 62 = 3 := (h.2.1 62 (by decide)).2
theorem kd_63 {M : am_M} (h : SH M) : mKd M 63 = 10 := (h.2.1 63 (by decide)).1
theorem kd_64 {M : am_M} (h : SH M) : mKd M 64 = 0 := (h.2.1 64 (by decide)).1
theorem ln_64 {M : am_M} (h : SH M) : mLn M 64 = 3 := (h.2.1 64 (by decide)).2
theorem kd_65 {M : am_M} (h : SH M) : mKd M 65 = 0 := (h.2.1 65 (by decide)).1
theorem ln_65 {M : am_M} (h : SH M) : mLn M 65 = 3 := (h.2.1 65 (by decide)).2
theorem kd_66 {M : am_M} (h : SH M) : mKd M 66 = 10 := (h.2.1 66 (by decide)).1
theorem kd_67 {M : am_M} (h : SH M) : mKd M 67 = 0 := (h.2.1 67 (by decide)).1
theorem ln_67 {M : am_M} (h : SH M) : mLn M 67 = 3 := (h.2.1 67 (by decide)).2
theorem kd_68 {M : am_M} (h : SH M) : mKd M 68 = 0 := (h.2.1 68 (by decide)).1
theorem ln_68 {M : am_M} (h : SH M) : mLn M 68 = 3 := (h.2.1 68 (by decide)).2
theorem kd_69 {M : am_M} (h : SH M) : mKd M 69 = 0 := (h.2.1 69 (by decide)).1
theorem ln_69 {M : am_M} (h : SH M) : mLn M 69 = 2000 := (h.2.1 69 (by decide)).2
theorem kd_70 {M : am_M} (h : SH M) : mKd M 70 = 13 := (h.2.1 70 (by decide)).1
theorem kd_71 {M : am_M} (h : SH M) : mKd M 71 = 0 := (h.2.1 71 (by decide)).1
theorem ln_71 {M : am_M} (h : SH M) : mLn M 71 = 3 := (h.2.1 71 (by decide)).2
theorem kd_72 {M : am_M} (h : SH M) : mKd M 72 = 0 := (h.2.1 72 (by decide)).1
theorem ln_72 {M : am_M} (h : SH M) : mLn M 72 = 40 := (h.2.1 72 (by decide)).2
theorem kd_73 {M : am_M} (h : SH M) : mKd M 73 = 0 := (h.2.1 73 (by decide)).1
theorem ln_73 {M : am_M} (h : SH M) : mLn M 73 = 36 := (h.2.1 73 (by decide)).2
theorem kd_74 {M : am_M} (h : SH M) : mKd M 74 = 0 := (h.2.1 74 (by decide)).1
theorem ln_74 {M : am_M} (h : SH M) : mLn M 74 = 3 := (h.2.1 74 (by decide)).2
theorem kd_75 {M : am_M} (h : SH M) : mKd M 75 = 0 := (h.2.1 75 (by decide)).1
theorem ln_75 {M : am_M} (h : SH M) : mLn M 75 = 40 := (h.2.1 75 (by decide)).2
theorem kd_76 {M : am_M} (h : SH M) : mKd M 76 = 0 := (h.2.1 76 (by decide)).1
theorem ln_76 {M : am_M} (h : SH M) : mLn M 76 = 36 := (h.2.1 76 (by decide)).2
theorem kd_77 {M : am_M} (h : SH M) : mKd M 77 = 2 := (h.2.1 77 (by decide)).1
theorem ln_77 {M : am_M} (h : SH M) : mLn M 77 = 500 := (h.2.1 77 (by decide)).2
theorem kd_78 {M : am_M} (h : SH M) : mKd M 78 = 0 := (h.2.1 78 (by decide)).1
theorem ln_78 {M : am_M} (h : SH M) : mLn M 78 = 10 := (h.2.1 78 (by decide)).2
theorem kd_79 {M : am_M} (h : SH M) : mKd M 79 = 0 := (h.2.1 79 (by decide)).1
theorem ln_79 {M : am_M} (h : SH M) : mLn M 79 = 10 := (h.2.1 79 (by decide)).2
theorem kd_80 {M : am_M} (h : SH M) : mKd M 80 = 0 := (h.2.1 80 (by decide)).1
theorem ln_80 {M : am_M} (h : SH M) : mLn M 80 = 3 := (h.2.1 80 (by decide)).2
theorem kd_81 {M : am_M} (h : SH M) : mKd M 81 = 0 := (h.2.1 81 (by decide)).1
theorem ln_81 {M : am_M} (h : SH M) : mLn M 81 = 3 := (h.2.1 81 (by decide)).2
theorem kd_82 {M : am_M} (h : SH M) : mKd M 82 = 0 := (h.2.1 82 (by decide)).1
theorem ln_82 {M : am_M} (h : SH M) : mLn M 82 = 3 := (h.2.1 82 (by decide)).2
theorem kd_83 {M : am_M} (h : SH M) : mKd M 83 = 0 := (h.2.1 83 (by decide)).1
theorem ln_83 {M : am_M} (h : SH M) : mLn M 83 = 61 := (h.2.1 83 (by decide)).2
theorem kd_84 {M : am_M} (h : SH M) : mKd M 84 = 1 := (h.2.1 84 (by decide)).1
theorem ln_84 {M : am_M} (h : SH M) : mLn M 84 = 30000 := (h.2.1 84 (by decide)).2
theorem kd_85 {M : am_M} (h : SH M) : mKd M 85 = 0 := (h.2.1 85 (by decide)).1
theorem ln_85 {M : am_M} (h : SH M) : mLn M 85 = 30000 := (h.2.1 85 (by decide)).2
theorem kd_86 {M : am_M} (h : SH M) : mKd M 86 = 0 := (h.2.1 86 (by decide)).1
theorem ln_86 {M : am_M} (h : SH M) : mLn M 86 = 30000 := (h.2.1 86 (by decide)).2
theorem kd_87 {M : am_M} (h : SH M) : mKd M 87 = 0 := (h.2.1 87 (by decide)).1
theorem ln_87 {M : am_M} (h : SH M) : mLn M 87 = 64000 := (h.2.1 87 (by decide)).2
theorem kd_88 {M : am_M} (h : SH M) : mKd M 88 = 2 := (h.2.1 88 (by decide)).1
theorem ln_88 {M : am_M} (h : SH M) : mLn M 88 = 1700 := (h.2.1 88 (by decide)).2
theorem rr_0_0 {M : am_M} (h : SH M) : rR M 0 0 = some 1 := h.2.2 (0, 0, 1) (List.mem_of_getElem? (i := 0) rfl)
theorem rr_0_2 {M : am_M} (h : SH M) : rR M 0 2 = some 2 := h.2.2 (0, 2, 2) (List.mem_of_getElem? (i := 1) rfl)
theorem rr_0_3 {M : am_M} (h : SH M) : rR M 0 3 = some 6 := h.2.2 (0, 3, 6) (List.mem_of_getElem? (i := 2) rfl)
theorem rr_0_4 {M : am_M} (h : SH M) : rR M 0 4 = some 12 := h.2.2 (0, 4, 12) (List.mem_of_getElem? (i := 3) rfl)
theorem rr_0_5 {M : am_M} (h : SH M) : rR M 0 5 = some 16 := h.2.2 (0, 5, 16) (List.mem_of_getElem? (i := 4) rfl)
theorem rr_0_6 {M : am_M} (h : SH M) : rR M 0 6 = some 18 := h.2.2 (0, 6, 18) (List.mem_of_getElem? (i := 5) rfl)
theorem rr_0_7 {M : am_M} (h : SH M) : rR M 0 7 = some 45 := h.2.2 (0, 7, 45) (List.mem_of_getElem? (i := 6) rfl)
theorem rr_0_8 {M : am_M} (h : SH M) : rR M 0 8 = some 49 := h.2.2 (0, 8, 49) (List.mem_of_getElem? (i := 7) rfl)
theorem rr_0_9 {M : am_M} (h : SH M) : rR M 0 9 = some 59 := h.2.2 (0, 9, 59) (List.mem_of_getElem? (i := 8) rfl)
theorem rr_0_10 {M : am_M} (h : SH M) : rR M 0 10 = some 69 := h.2.2 (0, 10, 69) (List.mem_of_getElem? (i := 9) rfl)
theorem rr_2_0 {M : am_M} (h : SH M) : rR M 2 0 = some 3 := h.2.2 (2, 0, 3) (List.mem_of_getElem? (i := 10) rfl)
theorem rr_2_1 {M : am_M} (h : SH M) : rR M 2 1 = some 4 := h.2.2 (2, 1, 4) (List.mem_of_getElem? (i := 11) rfl)
theorem rr_2_2 {M : am_M} (h : SH M) : rR M 2 2 = some 5 := h.2.2 (2, 2, 5) (List.mem_of_getElem? (i := 12) rfl)
theorem rr_6_0 {M : am_M} (h : SH M) : rR M 6 0 = some 7 := h.2.2 (6, 0, 7) (List.mem_of_getElem? (i := 13) rfl)
theorem rr_7_0 {M : am_M} (h : SH M) : rR M 7 0 = some 8 := h.2.2 (7, 0, 8) (List.mem_of_getElem? (i := 14) rfl)
theorem rr_7_1 {M : am_M} (h : SH M) : rR M 7 1 = some 9 := h.2.2 (7, 1, 9) (List.mem_of_getElem? (i := 15) rfl)
theorem rr_7_2 {M : am_M} (h : SH M) : rR M 7 2 = some 10 := h.2.2 (7, 2, 10) (List.mem_of_getElem? (i := 16) rfl)
theorem rr_12_0 {M : am_M} (h : SH M) : rR M 12 0 = some 13 := h.2.2 (12, 0, 13) (List.mem_of_getElem? (i := 17) rfl)
theorem rr_12_1 {M : am_M} (h : SH M) : rR M 12 1 = some 14 := h.2.2 (12, 1, 14) (List.mem_of_getElem? (i := 18) rfl)
theorem rr_12_2 {M : am_M} (h : SH M) : rR M 12 2 = some 15 := h.2.2 (12, 2, 15) (List.mem_of_getElem? (i := 19) rfl)
theorem rr_16_0 {M : am_M} (h : SH M) : rR M 16 0 = some 17 := h.2.2 (16, 0, 17) (List.mem_of_getElem? (i := 20) rfl)
theorem rr_18_0 {M : am_M} (h : SH M) : rR M 18 0 = some 2 := h.2.2 (18, 0, 2) (List.mem_of_getElem? (i := 21) rfl)
theorem rr_18_1 {M : am_M} (h : SH M) : rR M 18 1 = some 19 := h.2.2 (18, 1, 19) (List.mem_of_getElem? (i := 22) rfl)
theorem rr_18_2 {M : am_M} (h : SH M) : rR M 18 2 = some 20 := h.2.2 (18, 2, 20) (List.mem_of_getElem? (i := 23) rfl)
theorem rr_18_3 {M : am_M} (h : SH M) : rR M 18 3 = some 21 := h.2.2 (18, 3, 21) (List.mem_of_getElem? (i := 24) rfl)
theorem rr_18_4 {M : am_M} (h : SH M) : rR M 18 4 = some 22 := h.2.2 (18, 4, 22) (List.mem_of_getElem? (i := 25) rfl)
theorem rr_18_5 {M : am_M} (h : SH M) : rR M 18 5 = some 23 := h.2.2 (18, 5, 23) (List.mem_of_getElem? (i := 26) rfl)
theorem rr_19_0 {M : am_M} (h : SH M) : rR M 19 0 = some 24 := h.2.2 (19, 0, 24) (List.mem_of_getElem? (i := 27) rfl)
theorem rr_19_1 {M : am_M} (h : SH M) : rR M 19 1 = some 27 := h.2.2 (19, 1, 27) (List.mem_of_getElem? (i := 28) rfl)
theorem rr_19_2 {M : am_M} (h : SH M) : rR M 19 2 = some 30 := h.2.2 (19, 2, 30) (List.mem_of_getElem? (i := 29) rfl)
theorem rr_19_3 {M : am_M} (h : SH M) : rR M 19 3 = some 33 := h.2.2 (19, 3, 33) (List.mem_of_getElem? (i := 30) rfl)
theorem rr_19_4 {M : am_M} (h : SH M) : rR M 19 4 = some 36 := h.2.2 (19, 4, 36) (List.mem_of_getElem? (i := 31) rfl)
theorem rr_19_5 {M : am_M} (h : SH M) : rR M 19 5 = some 39 := h.2.2 (19, 5, 39) (List.mem_of_getElem? (i := 32) rfl)
theorem rr_19_6 {M : am_M} (h : SH M) : rR M 19 6 = some 42 := h.2.2 (19, 6, 42) (List.mem_of_getElem? (i := 33) rfl)
theorem rr_24_0 {M : am_M} (h : SH M) : rR M 24 0 = some 2 := h.2.2 (24, 0, 2) (List.mem_of_getElem? (i := 34) rfl)
theorem rr_24_1 {M : am_M} (h : SH M) : rR M 24 1 = some 25 := h.2.2 (24, 1, 25) (List.mem_of_getElem? (i := 35) rfl)
theorem rr_24_2 {M : am_M} (h : SH M) : rR M 24 2 = some 26 := h.2.2 (24, 2, 26) (List.mem_of_getElem? (i := 36) rfl)
theorem rr_27_0 {M : am_M} (h : SH M) : rR M 27 0 = some 2 := h.2.2 (27, 0, 2) (List.mem_of_getElem? (i := 37) rfl)
theorem rr_27_1 {M : am_M} (h : SH M) : rR M 27 1 = some 28 := h.2.2 (27, 1, 28) (List.mem_of_getElem? (i := 38) rfl)
theorem rr_27_2 {M : am_M} (h : SH M) : rR M 27 2 = some 29 := h.2.2 (27, 2, 29) (List.mem_of_getElem? (i := 39) rfl)
theorem rr_30_0 {M : am_M} (h : SH M) : rR M 30 0 = some 2 := h.2.2 (30, 0, 2) (List.mem_of_getElem? (i := 40) rfl)
theorem rr_30_1 {M : am_M} (h : SH M) : rR M 30 1 = some 31 := h.2.2 (30, 1, 31) (List.mem_of_getElem? (i := 41) rfl)
theorem rr_30_2 {M : am_M} (h : SH M) : rR M 30 2 = some 32 := h.2.2 (30, 2, 32) (List.mem_of_getElem? (i := 42) rfl)
theorem rr_33_0 {M : am_M} (h : SH M) : rR M 33 0 = some 2 := h.2.2 (33, 0, 2) (List.mem_of_getElem? (i := 43) rfl)
theorem rr_33_1 {M : am_M} (h : SH M) : rR M 33 1 = some 34 := h.2.2 (33, 1, 34) (List.mem_of_getElem? (i := 44) rfl)
theorem rr_33_2 {M : am_M} (h : SH M) : rR M 33 2 = some 35 := h.2.2 (33, 2, 35) (List.mem_of_getElem? (i := 45) rfl)
theorem rr_36_0 {M : am_M} (h : SH M) : rR M 36 0 = some 2 := h.2.2 (36, 0, 2) (List.mem_of_getElem? (i := 46) rfl)
theorem rr_36_1 {M : am_M} (h : SH M) : rR M 36 1 = some 37 := h.2.2 (36, 1, 37) (List.mem_of_getElem? (i := 47) rfl)
theorem rr_36_2 {M : am_M} (h : SH M) : rR M 36 2 = some 38 := h.2.2 (36, 2, 38) (List.mem_of_getElem? (i := 48) rfl)
theorem rr_39_0 {M : am_M} (h : SH M) : rR M 39 0 = some 2 := h.2.2 (39, 0, 2) (List.mem_of_getElem? (i := 49) rfl)
theorem rr_39_1 {M : am_M} (h : SH M) : rR M 39 1 = some 40 := h.2.2 (39, 1, 40) (List.mem_of_getElem? (i := 50) rfl)
theorem rr_39_2 {M : am_M} (h : SH M) : rR M 39 2 = some 41 := h.2.2 (39, 2, 41) (List.mem_of_getElem? (i := 51) rfl)
theorem rr_42_0 {M : am_M} (h : SH M) : rR M 42 0 = some 2 := h.2.2 (42, 0, 2) (List.mem_of_getElem? (i := 52) rfl)
theorem rr_42_1 {M : am_M} (h : SH M) : rR M 42 1 = some 43 := h.2.2 (42, 1, 43) (List.mem_of_getElem? (i := 53) rfl)
theorem rr_42_2 {M : am_M} (h : SH M) : rR M 42 2 = some 44 := h.2.2 (42, 2, 44) (List.mem_of_getElem? (i := 54) rfl)
theorem rr_45_0 {M : am_M} (h : SH M) : rR M 45 0 = some 2 := h.2.2 (45, 0, 2) (List.mem_of_getElem? (i := 55) rfl)
theorem rr_45_1 {M : am_M} (h : SH M) : rR M 45 1 = some 18 := h.2.2 (45, 1, 18) (List.mem_of_getElem? (i := 56) rfl)
theorem rr_45_5 {M : am_M} (h : SH M) : rR M 45 5 = some 48 := h.2.2 (45, 5, 48) (List.mem_of_getElem? (i := 57) rfl)
theorem rr_49_0 {M : am_M} (h : SH M) : rR M 49 0 = some 2 := h.2.2 (49, 0, 2) (List.mem_of_getElem? (i := 58) rfl)
theorem rr_49_1 {M : am_M} (h : SH M) : rR M 49 1 = some 50 := h.2.2 (49, 1, 50) (List.mem_of_getElem? (i := 59) rfl)
theorem rr_49_2 {M : am_M} (h : SH M) : rR M 49 2 = some 53 := h.2.2 (49, 2, 53) (List.mem_of_getElem? (i := 60) rfl)
theorem rr_49_3 {M : am_M} (h : SH M) : rR M 49 3 = some 56 := h.2.2 (49, 3, 56) (List.mem_of_getElem? (i := 61) rfl)
theorem rr_50_0 {M : am_M} (h : SH M) : rR M 50 0 = some 2 := h.2.2 (50, 0, 2) (List.mem_of_getElem? (i := 62) rfl)
theorem rr_50_1 {M : am_M} (h : SH M) : rR M 50 1 = some 51 := h.2.2 (50, 1, 51) (List.mem_of_getElem? (i := 63) rfl)
theorem rr_50_2 {M : am_M} (h : SH M) : rR M 50 2 = some 52 := h.2.2 (50, 2, 52) (List.mem_of_getElem? (i := 64) rfl)
theorem rr_53_0 {M : am_M} (h : SH M) : rR M 53 0 = some 2 := h.2.2 (53, 0, 2) (List.mem_of_getElem? (i := 65) rfl)
theorem rr_53_1 {M : am_M} (h : SH M) : rR M 53 1 = some 54 := h.2.2 (53, 1, 54) (List.mem_of_getElem? (i := 66) rfl)
theorem rr_53_2 {M : am_M} (h : SH M) : rR M 53 2 = some 55 := h.2.2 (53, 2, 55) (List.mem_of_getElem? (i := 67) rfl)
theorem rr_56_0 {M : am_M} (h : SH M) : rR M 56 0 = some 2 := h.2.2 (56, 0, 2) (List.mem_of_getElem? (i := 68) rfl)
theorem rr_56_1 {M : am_M} (h : SH M) : rR M 56 1 = some 57 := h.2.2 (56, 1, 57) (List.mem_of_getElem? (i := 69) rfl)
theorem rr_56_2 {M : am_M} (h : SH M) : rR M 56 2 = some 58 := h.2.2 (56, 2, 58) (List.mem_of_getElem? (i := 70) rfl)
theorem rr_59_0 {M : am_M} (h : SH M) : rR M 59 0 = some 2 := h.2.2 (59, 0, 2) (List.mem_of_getElem? (i := 71) rfl)
theorem rr_59_1 {M : am_M} (h : SH M) : rR M 59 1 = some 60 := h.2.2 (59, 1, 60) (List.mem_of_getElem? (i := 72) rfl)
theorem rr_59_2 {M : am_M} (h : SH M) : rR M 59 2 = some 63 := h.2.2 (59, 2, 63) (List.mem_of_getElem? (i := 73) rfl)
theorem rr_59_3 {M : am_M} (h : SH M) : rR M 59 3 = some 66 := h.2.2 (59, 3, 66) (List.mem_of_getElem? (i := 74) rfl)
theorem rr_60_0 {M : am_M} (h : SH M) : rR M 60 0 = some 2 := h.2.2 (60, 0, 2) (List.mem_of_getElem? (i := 75) rfl)
theorem rr_60_1 {M : am_M} (h : SH M) : rR M 60 1 = some 61 := h.2.2 (60, 1, 61) (List.mem_of_getElem? (i := 76) rfl)
theorem rr_60_2 {M : am_M} (h : SH M) : rR M 60 2 = some 62 := h.2.2 (60, 2, 62) (List.mem_of_getElem? (i := 77) rfl)
theorem rr_63_0 {M : am_M} (h : SH M) : rR M 63 0 = some 2 := h.2.2 (63, 0, 2) (List.mem_of_getElem? (i := 78) rfl)
theorem rr_63_1 {M : am_M} (h : SH M) : rR M 63 1 = some 64 := h.2.2 (63, 1, 64) (List.mem_of_getElem? (i := 79) rfl)
theorem rr_63_2 {M : am_M} (h : SH M) : rR M 63 2 = some 65 := h.2.2 (63, 2, 65) (List.mem_of_getElem? (i := 80) rfl)
theorem rr_66_0 {M : am_M} (h : SH M) : rR M 66 0 = some 2 := h.2.2 (66, 0, 2) (List.mem_of_getElem? (i := 81) rfl)
theorem rr_66_1 {M : am_M} (h : SH M) : rR M 66 1 = some 67 := h.2.2 (66, 1, 67) (List.mem_of_getElem? (i := 82) rfl)
theorem rr_66_2 {M : am_M} (h : SH M) : rR M 66 2 = some 68 := h.2.2 (66, 2, 68) (List.mem_of_getElem? (i := 83) rfl)
theorem rr_70_2 {M : am_M} (h : SH M) : rR M 70 2 = some 71 := h.2.2 (70, 2, 71) (List.mem_of_getElem? (i := 84) rfl)
theorem rr_70_5 {M : am_M} (h : SH M) : rR M 70 5 = some 72 := h.2.2 (70, 5, 72) (List.mem_of_getElem? (i := 85) rfl)
theorem rr_70_7 {M : am_M} (h : SH M) : rR M 70 7 = some 73 := h.2.2 (70, 7, 73) (List.mem_of_getElem? (i := 86) rfl)
theorem rr_70_8 {M : am_M} (h : SH M) : rR M 70 8 = some 74 := h.2.2 (70, 8, 74) (List.mem_of_getElem? (i := 87) rfl)
theorem rr_70_11 {M : am_M} (h : SH M) : rR M 70 11 = some 75 := h.2.2 (70, 11, 75) (List.mem_of_getElem? (i := 88) rfl)
theorem rr_70_13 {M : am_M} (h : SH M) : rR M 70 13 = some 76 := h.2.2 (70, 13, 76) (List.mem_of_getElem? (i := 89) rfl)
theorem rr_70_14 {M : am_M} (h : SH M) : rR M 70 14 = some 77 := h.2.2 (70, 14, 77) (List.mem_of_getElem? (i := 90) rfl)
theorem rr_70_25 {M : am_M} (h : SH M) : rR M 70 25 = some 78 := h.2.2 (70, 25, 78) (List.mem_of_getElem? (i := 91) rfl)
theorem rr_70_26 {M : am_M} (h : SH M) : rR M 70 26 = some 79 := h.2.2 (70, 26, 79) (List.mem_of_getElem? (i := 92) rfl)
theorem rr_70_30 {M : am_M} (h : SH M) : rR M 70 30 = some 80 := h.2.2 (70, 30, 80) (List.mem_of_getElem? (i := 93) rfl)
theorem rr_70_31 {M : am_M} (h : SH M) : rR M 70 31 = some 81 := h.2.2 (70, 31, 81) (List.mem_of_getElem? (i := 94) rfl)
theorem rr_70_32 {M : am_M} (h : SH M) : rR M 70 32 = some 82 := h.2.2 (70, 32, 82) (List.mem_of_getElem? (i := 95) rfl)
theorem rr_70_33 {M : am_M} (h : SH M) : rR M 70 33 = some 83 := h.2.2 (70, 33, 83) (List.mem_of_getElem? (i := 96) rfl)
theorem rr_70_35 {M : am_M} (h : SH M) : rR M 70 35 = some 84 := h.2.2 (70, 35, 84) (List.mem_of_getElem? (i := 97) rfl)
theorem rr_70_36 {M : am_M} (h : SH M) : rR M 70 36 = some 85 := h.2.2 (70, 36, 85) (List.mem_of_getElem? (i := 98) rfl)
theorem rr_70_37 {M : am_M} (h : SH M) : rR M 70 37 = some 86 := h.2.2 (70, 37, 86) (List.mem_of_getElem? (i := 99) rfl)
theorem rr_70_38 {M : am_M} (h : SH M) : rR M 70 38 = some 87 := h.2.2 (70, 38, 87) (List.mem_of_getElem? (i := 100) rfl)
theorem rr_70_40 {M : am_M} (h : SH M) : rR M 70 40 = some 88 := h.2.2 (70, 40, 88) (List.mem_of_getElem? (i := 101) rfl)
/-- nothing but the numbers at the places A has changed -/
def Fr (A : Nat → Nat → Prop) (M M' : am_M) : Prop := mNx M' = mNx M ∧ mUs M' = mUs M ∧ (∀ b, mSh M' b = mSh M b) ∧ (∀ b j, rR M' b j = rR M b j) ∧ ∀ b j, ¬ A b j → rI M' b j = rI M b j ∧ rL M' b j = rL M b j
theorem Fr.refl {A : Nat → Nat → Prop} (M : am_M) : Fr A M M := ⟨rfl, rfl, fun _ => rfl, fun _ _ => rfl, fun _ _ _ => ⟨rfl, rfl⟩⟩
theorem Fr.trans {A : Nat → Nat → Prop} {M M1 M2 : am_M} (h1 : Fr A M M1) (h2 : Fr A M1 M2) : Fr A M M2 := ⟨h2.1.trans h1.1, h2.2.1.trans h1.2.1, fun b => (h2.2.2.1 b).trans (h1.2.2.1 b), fun b j => (h2.2.2.2.1 b j).trans (h1.2.2.2.1 b j), fun b j hb => ⟨(h2.2.2.2.2 b j hb).1.trans (h1.2.2.2.2 b j hb).1, (h2.2.2.2.2 b j hb).2.trans (h1.2.2.2.2 b j hb).2⟩⟩
theorem Fr.mono {A B : Nat → Nat → Prop} {M M1 : am_M} (h : Fr A M M1) (hAB : ∀ b j, A b j → B b j) : Fr B M M1 := ⟨h.1, h.2.1, h.2.2.1, h.2.2.2.1, fun b j hb => h.2.2.2.2 b j (fun q => hb (hAB b j q))⟩
theorem Fr.wI {A : Nat → Nat → Prop} {M : am_M} {a k : Nat} {v : Int32} (h : A a k) : Fr A M (wI M a k v) := ⟨rfl, rfl, fun _ => rfl, fun _ _ => rfl, fun b j hb => ⟨by rw [rI_wI, if_neg (fun q => hb (by rw [q.1, q.2]; exact h))], rfl⟩⟩
theorem Fr.wL {A : Nat → Nat → Prop} {M : am_M} {a k : Nat} {v : Int64} (h : A a k) : Fr A M (wL M a k v) := ⟨rfl, rfl, fun _ => rfl, fun _ _ => rfl, fun b j hb => ⟨rfl, by rw [rL_wL, if_neg (fun q => hb (by rw [q.1, q.2]; exact h))]⟩⟩
theorem Fr.kd {A : Nat → Nat → Prop} {M M' : am_M} (h : Fr A M M') (b : Nat) : mKd M' b = mKd M b := by
  unfold mKd
  rw [h.1, h.2.2.1]
theorem Fr.ln {A : Nat → Nat → Prop} {M M' : am_M} (h : Fr A M M') (b : Nat) : mLn M' b = mLn M b := by
  unfold mLn
  rw [h.2.2.1]
theorem Fr.rr {A : Nat → Nat → Prop} {M M' : am_M} (h : Fr A M M') (b j : Nat) : rR M' b j = rR M b j := h.2.2.2.1 b j
theorem Fr.ri {A : Nat → Nat → Prop} {M M' : am_M} (h : Fr A M M') {b j : Nat} (hb : ¬ A b j) : rI M' b j = rI M b j := (h.2.2.2.2 b j hb).1
theorem Fr.rl {A : Nat → Nat → Prop} {M M' : am_M} (h : Fr A M M') {b j : Nat} (hb : ¬ A b j) : rL M' b j = rL M b j := (h.2.2.2.2 b j hb).2
theorem SH.fr {A : Nat → Nat → Prop} {M M' : am_M} (h : SH M) (hf : Fr A M M') : SH M' := ⟨by rw [hf.1]; exact h.1, fun a ha => by rw [hf.kd, hf.ln]; exact h.2.1 a ha, fun q hq => by rw [hf.rr]; exact h.2.2 q hq⟩
theorem SH.wI {M : am_M} {a k : Nat} {v : Int32} (h : SH M) : SH (wI M a k v) := h.fr (Fr.wI (A := fun _ _ => True) trivial)
theorem SH.wL {M : am_M} {a k : Nat} {v : Int64} (h : SH M) : SH (wL M a k v) := h.fr (Fr.wL (A := fun _ _ => True) trivial)
