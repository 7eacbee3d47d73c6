theorem rw5_1680 : lp (fun i => rowB 5 5 2520 20 ro5 po5 lm5 fa5 la5 gg5 (1680 + i)) 210 = true := by decide +kernel
theorem rw5_1890 : lp (fun i => rowB 5 5 2520 20 ro5 po5 lm5 fa5 la5 gg5 (1890 + i)) 210 = true := by decide +kernel
