theorem okl_9 : okB pMs M_177 ((T_177.drop 360).take 40) = true := by decide +kernel
theorem okl_10 : okB pMs M_177 ((T_177.drop 400).take 40) = true := by decide +kernel
theorem okl_11 : okB pMs M_177 ((T_177.drop 440).take 40) = true := by decide +kernel
