theorem okr_102 : okB pMs M_102 T_102 = true := by decide +kernel
