theorem rw5_840 : lp (fun i => rowB 5 5 2520 20 ro5 po5 lm5 fa5 la5 gg5 (840 + i)) 210 = true := by decide +kernel
theorem rw5_1050 : lp (fun i => rowB 5 5 2520 20 ro5 po5 lm5 fa5 la5 gg5 (1050 + i)) 210 = true := by decide +kernel
