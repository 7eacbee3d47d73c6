theorem okl_3 : okB pMs M_177 ((T_177.drop 120).take 40) = true := by decide +kernel
theorem okl_4 : okB pMs M_177 ((T_177.drop 160).take 40) = true := by decide +kernel
theorem okl_5 : okB pMs M_177 ((T_177.drop 200).take 40) = true := by decide +kernel
