/-! 5 books: all is checked -/
theorem ca5 : cs1B 5 5 20 gg5 gs5 on5 = true := by decide +kernel
theorem cb5_0 : cs2B 5 5 20 lm5 fa5 ss5 0 = true := by decide +kernel
theorem cb5_1 : cs2B 5 5 20 lm5 fa5 ss5 1 = true := by decide +kernel
theorem cb5_2 : cs2B 5 5 20 lm5 fa5 ss5 2 = true := by decide +kernel
theorem cb5_3 : cs2B 5 5 20 lm5 fa5 ss5 3 = true := by decide +kernel
theorem cb5_4 : cs2B 5 5 20 lm5 fa5 ss5 4 = true := by decide +kernel
theorem cd5 : cs3B 5 5 20 la5 ss5 al5 su5 um5 = true := by decide +kernel
theorem ce5 : CsOK 5 5 20 lm5 fa5 la5 ss5 al5 su5 um5 gg5 gs5 on5 := cs_ok ca5 (fun a ha => by
  rcases (show a = 0 ∨ a = 1 ∨ a = 2 ∨ a = 3 ∨ a = 4 by omega) with rfl | rfl | rfl | rfl | rfl
  · exact cb5_0
  · exact cb5_1
  · exact cb5_2
  · exact cb5_3
  · exact cb5_4) cd5
theorem rw5 : ∀ r, r < 2520 → rowB 5 5 2520 20 ro5 po5 lm5 fa5 la5 gg5 r = true := fun r hr => by
  by_cases h0 : r < 210
  · exact lpo (f := fun r => rowB 5 5 2520 20 ro5 po5 lm5 fa5 la5 gg5 r) rw5_0 (by omega) (by omega)
  by_cases h210 : r < 420
  · exact lpo (f := fun r => rowB 5 5 2520 20 ro5 po5 lm5 fa5 la5 gg5 r) rw5_210 (by omega) (by omega)
  by_cases h420 : r < 630
  · exact lpo (f := fun r => rowB 5 5 2520 20 ro5 po5 lm5 fa5 la5 gg5 r) rw5_420 (by omega) (by omega)
  by_cases h630 : r < 840
  · exact lpo (f := fun r => rowB 5 5 2520 20 ro5 po5 lm5 fa5 la5 gg5 r) rw5_630 (by omega) (by omega)
  by_cases h840 : r < 1050
  · exact lpo (f := fun r => rowB 5 5 2520 20 ro5 po5 lm5 fa5 la5 gg5 r) rw5_840 (by omega) (by omega)
  by_cases h1050 : r < 1260
  · exact lpo (f := fun r => rowB 5 5 2520 20 ro5 po5 lm5 fa5 la5 gg5 r) rw5_1050 (by omega) (by omega)
  by_cases h1260 : r < 1470
  · exact lpo (f := fun r => rowB 5 5 2520 20 ro5 po5 lm5 fa5 la5 gg5 r) rw5_1260 (by omega) (by omega)
  by_cases h1470 : r < 1680
  · exact lpo (f := fun r => rowB 5 5 2520 20 ro5 po5 lm5 fa5 la5 gg5 r) rw5_1470 (by omega) (by omega)
  by_cases h1680 : r < 1890
  · exact lpo (f := fun r => rowB 5 5 2520 20 ro5 po5 lm5 fa5 la5 gg5 r) rw5_1680 (by omega) (by omega)
  by_cases h1890 : r < 2100
  · exact lpo (f := fun r => rowB 5 5 2520 20 ro5 po5 lm5 fa5 la5 gg5 r) rw5_1890 (by omega) (by omega)
  by_cases h2100 : r < 2310
  · exact lpo (f := fun r => rowB 5 5 2520 20 ro5 po5 lm5 fa5 la5 gg5 r) rw5_2100 (by omega) (by omega)
  exact lpo (f := fun r => rowB 5 5 2520 20 ro5 po5 lm5 fa5 la5 gg5 r) rw5_2310 (by omega) (by omega)
theorem ln5_0 : es5_0.length = 70 := by decide +kernel
theorem ln5_70 : es5_70.length = 70 := by decide +kernel
theorem ln5_140 : es5_140.length = 70 := by decide +kernel
theorem ln5_210 : es5_210.length = 70 := by decide +kernel
theorem ln5_280 : es5_280.length = 70 := by decide +kernel
theorem ln5_350 : es5_350.length = 70 := by decide +kernel
theorem ln5_420 : es5_420.length = 70 := by decide +kernel
theorem ln5_490 : es5_490.length = 70 := by decide +kernel
theorem ln5_560 : es5_560.length = 70 := by decide +kernel
theorem ln5_630 : es5_630.length = 70 := by decide +kernel
theorem ln5_700 : es5_700.length = 70 := by decide +kernel
theorem ln5_770 : es5_770.length = 70 := by decide +kernel
theorem ln5_840 : es5_840.length = 70 := by decide +kernel
theorem ln5_910 : es5_910.length = 70 := by decide +kernel
theorem ln5_980 : es5_980.length = 70 := by decide +kernel
theorem ln5_1050 : es5_1050.length = 70 := by decide +kernel
theorem ln5_1120 : es5_1120.length = 70 := by decide +kernel
theorem ln5_1190 : es5_1190.length = 70 := by decide +kernel
theorem ln5_1260 : es5_1260.length = 70 := by decide +kernel
theorem ln5_1330 : es5_1330.length = 70 := by decide +kernel
theorem ln5_1400 : es5_1400.length = 70 := by decide +kernel
theorem ln5_1470 : es5_1470.length = 70 := by decide +kernel
theorem ln5_1540 : es5_1540.length = 70 := by decide +kernel
theorem ln5_1610 : es5_1610.length = 70 := by decide +kernel
theorem ln5_1680 : es5_1680.length = 70 := by decide +kernel
theorem ln5_1750 : es5_1750.length = 70 := by decide +kernel
theorem ln5_1820 : es5_1820.length = 70 := by decide +kernel
theorem ln5_1890 : es5_1890.length = 70 := by decide +kernel
theorem ln5_1960 : es5_1960.length = 70 := by decide +kernel
theorem ln5_2030 : es5_2030.length = 70 := by decide +kernel
theorem ln5_2100 : es5_2100.length = 70 := by decide +kernel
theorem ln5_2170 : es5_2170.length = 70 := by decide +kernel
theorem ln5_2240 : es5_2240.length = 70 := by decide +kernel
theorem ln5_2310 : es5_2310.length = 70 := by decide +kernel
theorem ln5_2380 : es5_2380.length = 70 := by decide +kernel
theorem ln5_2450 : es5_2450.length = 70 := by decide +kernel
theorem rt5 : ∀ r, r < 2520 → ∃ e, rtB 5 5 20 ro5 po5 al5 su5 um5 gs5 on5 r e = true := fun r hr => by
  by_cases h0 : r < 70
  · exact rts_at rt5_0 ln5_0 (by omega) (by omega)
  by_cases h70 : r < 140
  · exact rts_at rt5_70 ln5_70 (by omega) (by omega)
  by_cases h140 : r < 210
  · exact rts_at rt5_140 ln5_140 (by omega) (by omega)
  by_cases h210 : r < 280
  · exact rts_at rt5_210 ln5_210 (by omega) (by omega)
  by_cases h280 : r < 350
  · exact rts_at rt5_280 ln5_280 (by omega) (by omega)
  by_cases h350 : r < 420
  · exact rts_at rt5_350 ln5_350 (by omega) (by omega)
  by_cases h420 : r < 490
  · exact rts_at rt5_420 ln5_420 (by omega) (by omega)
  by_cases h490 : r < 560
  · exact rts_at rt5_490 ln5_490 (by omega) (by omega)
  by_cases h560 : r < 630
  · exact rts_at rt5_560 ln5_560 (by omega) (by omega)
  by_cases h630 : r < 700
  · exact rts_at rt5_630 ln5_630 (by omega) (by omega)
  by_cases h700 : r < 770
  · exact rts_at rt5_700 ln5_700 (by omega) (by omega)
  by_cases h770 : r < 840
  · exact rts_at rt5_770 ln5_770 (by omega) (by omega)
  by_cases h840 : r < 910
  · exact rts_at rt5_840 ln5_840 (by omega) (by omega)
  by_cases h910 : r < 980
  · exact rts_at rt5_910 ln5_910 (by omega) (by omega)
  by_cases h980 : r < 1050
  · exact rts_at rt5_980 ln5_980 (by omega) (by omega)
  by_cases h1050 : r < 1120
  · exact rts_at rt5_1050 ln5_1050 (by omega) (by omega)
  by_cases h1120 : r < 1190
  · exact rts_at rt5_1120 ln5_1120 (by omega) (by omega)
  by_cases h1190 : r < 1260
  · exact rts_at rt5_1190 ln5_1190 (by omega) (by omega)
  by_cases h1260 : r < 1330
  · exact rts_at rt5_1260 ln5_1260 (by omega) (by omega)
  by_cases h1330 : r < 1400
  · exact rts_at rt5_1330 ln5_1330 (by omega) (by omega)
  by_cases h1400 : r < 1470
  · exact rts_at rt5_1400 ln5_1400 (by omega) (by omega)
  by_cases h1470 : r < 1540
  · exact rts_at rt5_1470 ln5_1470 (by omega) (by omega)
  by_cases h1540 : r < 1610
  · exact rts_at rt5_1540 ln5_1540 (by omega) (by omega)
  by_cases h1610 : r < 1680
  · exact rts_at rt5_1610 ln5_1610 (by omega) (by omega)
  by_cases h1680 : r < 1750
  · exact rts_at rt5_1680 ln5_1680 (by omega) (by omega)
  by_cases h1750 : r < 1820
  · exact rts_at rt5_1750 ln5_1750 (by omega) (by omega)
  by_cases h1820 : r < 1890
  · exact rts_at rt5_1820 ln5_1820 (by omega) (by omega)
  by_cases h1890 : r < 1960
  · exact rts_at rt5_1890 ln5_1890 (by omega) (by omega)
  by_cases h1960 : r < 2030
  · exact rts_at rt5_1960 ln5_1960 (by omega) (by omega)
  by_cases h2030 : r < 2100
  · exact rts_at rt5_2030 ln5_2030 (by omega) (by omega)
  by_cases h2100 : r < 2170
  · exact rts_at rt5_2100 ln5_2100 (by omega) (by omega)
  by_cases h2170 : r < 2240
  · exact rts_at rt5_2170 ln5_2170 (by omega) (by omega)
  by_cases h2240 : r < 2310
  · exact rts_at rt5_2240 ln5_2240 (by omega) (by omega)
  by_cases h2310 : r < 2380
  · exact rts_at rt5_2310 ln5_2310 (by omega) (by omega)
  by_cases h2380 : r < 2450
  · exact rts_at rt5_2380 ln5_2380 (by omega) (by omega)
  exact rts_at rt5_2450 ln5_2450 (by omega) (by omega)
theorem wn5 : wds 5 = 2520 := by decide
theorem ck5 : CkOK 5 5 2520 20 ro5 po5 lm5 fa5 la5 ss5 al5 su5 um5 gg5 gs5 on5 := ⟨by decide, Or.inl rfl, wn5.symm, fun r hr => wo_ok (row := ro5) (by decide) wo5 r (by rw [wn5]; exact hr), rw5, ce5⟩
