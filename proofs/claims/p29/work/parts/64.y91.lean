theorem okl_5 : okB pMs M_121 ((T_121.drop 50).take 10) = true := by decide +kernel
theorem okl_6 : okB pMs M_121 ((T_121.drop 60).take 10) = true := by decide +kernel
theorem okl_7 : okB pMs M_121 ((T_121.drop 70).take 10) = true := by decide +kernel
theorem okl_8 : okB pMs M_121 ((T_121.drop 80).take 10) = true := by decide +kernel
theorem okl_9 : okB pMs M_121 ((T_121.drop 90).take 10) = true := by decide +kernel
