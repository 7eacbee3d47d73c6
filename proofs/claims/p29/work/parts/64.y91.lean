theorem okl_3 : okB pMs M_121 ((T_121.drop 120).take 40) = true := by decide +kernel
theorem okl_4 : okB pMs M_121 ((T_121.drop 160).take 40) = true := by decide +kernel
