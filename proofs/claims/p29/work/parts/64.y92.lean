theorem okl_10 : okB pMs M_121 ((T_121.drop 100).take 10) = true := by decide +kernel
theorem okl_11 : okB pMs M_121 ((T_121.drop 110).take 10) = true := by decide +kernel
theorem okl_12 : okB pMs M_121 ((T_121.drop 120).take 10) = true := by decide +kernel
theorem okl_13 : okB pMs M_121 ((T_121.drop 130).take 10) = true := by decide +kernel
theorem okl_14 : okB pMs M_121 ((T_121.drop 140).take 10) = true := by decide +kernel
