theorem okl_0 : okB pMs M_121 ((T_121.drop 0).take 10) = true := by decide +kernel
theorem okl_1 : okB pMs M_121 ((T_121.drop 10).take 10) = true := by decide +kernel
theorem okl_2 : okB pMs M_121 ((T_121.drop 20).take 10) = true := by decide +kernel
theorem okl_3 : okB pMs M_121 ((T_121.drop 30).take 10) = true := by decide +kernel
theorem okl_4 : okB pMs M_121 ((T_121.drop 40).take 10) = true := by decide +kernel
