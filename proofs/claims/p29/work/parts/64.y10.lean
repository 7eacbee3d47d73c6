theorem okr_119 : okB pMs M_119 T_119 = true := by decide +kernel
theorem okr_120 : okB pMs M_120 T_120 = true := by decide +kernel
