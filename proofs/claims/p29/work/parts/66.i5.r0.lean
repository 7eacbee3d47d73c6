theorem rw5_0 : lp (fun i => rowB 5 5 2520 20 ro5 po5 lm5 fa5 la5 gg5 (0 + i)) 210 = true := by decide +kernel
theorem rw5_210 : lp (fun i => rowB 5 5 2520 20 ro5 po5 lm5 fa5 la5 gg5 (210 + i)) 210 = true := by decide +kernel
