theorem okl_15 : okB pMs M_121 ((T_121.drop 150).take 10) = true := by decide +kernel
theorem okl_16 : okB pMs M_121 ((T_121.drop 160).take 10) = true := by decide +kernel
theorem okl_17 : okB pMs M_121 ((T_121.drop 170).take 10) = true := by decide +kernel
theorem okl_18 : okB pMs M_121 ((T_121.drop 180).take 10) = true := by decide +kernel
