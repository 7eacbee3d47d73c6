theorem okr_169 : okB pMs M_169 T_169 = true := by decide +kernel
theorem okr_170 : okB pMs M_170 T_170 = true := by decide +kernel
theorem okr_171 : okB pMs M_171 T_171 = true := by decide +kernel
theorem okr_172 : okB pMs M_172 T_172 = true := by decide +kernel
theorem okr_173 : okB pMs M_173 T_173 = true := by decide +kernel
theorem okr_174 : okB pMs M_174 T_174 = true := by decide +kernel
theorem okr_175 : okB pMs M_175 T_175 = true := by decide +kernel
theorem okr_176 : okB pMs M_176 T_176 = true := by decide +kernel
