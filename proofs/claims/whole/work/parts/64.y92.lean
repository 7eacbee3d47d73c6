theorem okl_6 : okB pMs M_177 ((T_177.drop 240).take 40) = true := by decide +kernel
theorem okl_7 : okB pMs M_177 ((T_177.drop 280).take 40) = true := by decide +kernel
theorem okl_8 : okB pMs M_177 ((T_177.drop 320).take 40) = true := by decide +kernel
