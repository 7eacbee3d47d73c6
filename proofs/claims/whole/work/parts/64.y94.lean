theorem okl_12 : okB pMs M_177 ((T_177.drop 480).take 40) = true := by decide +kernel
