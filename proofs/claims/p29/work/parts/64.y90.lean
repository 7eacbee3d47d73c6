theorem okl_0 : okB pMs M_121 ((T_121.drop 0).take 40) = true := by decide +kernel
theorem okl_1 : okB pMs M_121 ((T_121.drop 40).take 40) = true := by decide +kernel
theorem okl_2 : okB pMs M_121 ((T_121.drop 80).take 40) = true := by decide +kernel
