theorem rw5_2100 : lp (fun i => rowB 5 5 2520 20 ro5 po5 lm5 fa5 la5 gg5 (2100 + i)) 210 = true := by decide +kernel
theorem rw5_2310 : lp (fun i => rowB 5 5 2520 20 ro5 po5 lm5 fa5 la5 gg5 (2310 + i)) 210 = true := by decide +kernel
