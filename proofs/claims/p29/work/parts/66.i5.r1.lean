theorem rw5_420 : lp (fun i => rowB 5 5 2520 20 ro5 po5 lm5 fa5 la5 gg5 (420 + i)) 210 = true := by decide +kernel
theorem rw5_630 : lp (fun i => rowB 5 5 2520 20 ro5 po5 lm5 fa5 la5 gg5 (630 + i)) 210 = true := by decide +kernel
