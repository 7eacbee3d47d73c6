theorem okr_101 : okB pMs M_101 T_101 = true := by decide +kernel
