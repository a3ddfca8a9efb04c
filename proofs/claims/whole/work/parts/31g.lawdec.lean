theorem dt_law_60 : am_Dec (xC X_law) T_law_60 := by decide +kernel
