theorem rw5_1260 : lp (fun i => rowB 5 5 2520 20 ro5 po5 lm5 fa5 la5 gg5 (1260 + i)) 210 = true := by decide +kernel
theorem rw5_1470 : lp (fun i => rowB 5 5 2520 20 ro5 po5 lm5 fa5 la5 gg5 (1470 + i)) 210 = true := by decide +kernel
