theorem okr_103 : okB pMs M_103 T_103 = true := by decide +kernel
theorem okr_104 : okB pMs M_104 T_104 = true := by decide +kernel
theorem okr_105 : okB pMs M_105 T_105 = true := by decide +kernel
theorem okr_106 : okB pMs M_106 T_106 = true := by decide +kernel
