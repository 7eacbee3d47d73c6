/-! 4 books: all is checked -/
theorem ca4 : cs1B 4 5 16 gg4 gs4 on4 = true := by decide +kernel
theorem cb4_0 : cs2B 4 5 16 lm4 fa4 ss4 0 = true := by decide +kernel
theorem cb4_1 : cs2B 4 5 16 lm4 fa4 ss4 1 = true := by decide +kernel
theorem cb4_2 : cs2B 4 5 16 lm4 fa4 ss4 2 = true := by decide +kernel
theorem cb4_3 : cs2B 4 5 16 lm4 fa4 ss4 3 = true := by decide +kernel
theorem cd4 : cs3B 4 5 16 la4 ss4 al4 su4 um4 = true := by decide +kernel
theorem ce4 : CsOK 4 5 16 lm4 fa4 la4 ss4 al4 su4 um4 gg4 gs4 on4 := cs_ok ca4 (fun a ha => by
  rcases (show a = 0 ∨ a = 1 ∨ a = 2 ∨ a = 3 by omega) with rfl | rfl | rfl | rfl
  · exact cb4_0
  · exact cb4_1
  · exact cb4_2
  · exact cb4_3) cd4
theorem rw4 : ∀ r, r < 840 → rowB 4 5 840 16 ro4 po4 lm4 fa4 la4 gg4 r = true := fun r hr => by
  by_cases h0 : r < 210
  · exact lpo (f := fun r => rowB 4 5 840 16 ro4 po4 lm4 fa4 la4 gg4 r) rw4_0 (by omega) (by omega)
  by_cases h210 : r < 420
  · exact lpo (f := fun r => rowB 4 5 840 16 ro4 po4 lm4 fa4 la4 gg4 r) rw4_210 (by omega) (by omega)
  by_cases h420 : r < 630
  · exact lpo (f := fun r => rowB 4 5 840 16 ro4 po4 lm4 fa4 la4 gg4 r) rw4_420 (by omega) (by omega)
  exact lpo (f := fun r => rowB 4 5 840 16 ro4 po4 lm4 fa4 la4 gg4 r) rw4_630 (by omega) (by omega)
theorem ln4_0 : es4_0.length = 70 := by decide +kernel
theorem ln4_70 : es4_70.length = 70 := by decide +kernel
theorem ln4_140 : es4_140.length = 70 := by decide +kernel
theorem ln4_210 : es4_210.length = 70 := by decide +kernel
theorem ln4_280 : es4_280.length = 70 := by decide +kernel
theorem ln4_350 : es4_350.length = 70 := by decide +kernel
theorem ln4_420 : es4_420.length = 70 := by decide +kernel
theorem ln4_490 : es4_490.length = 70 := by decide +kernel
theorem ln4_560 : es4_560.length = 70 := by decide +kernel
theorem ln4_630 : es4_630.length = 70 := by decide +kernel
theorem ln4_700 : es4_700.length = 70 := by decide +kernel
theorem ln4_770 : es4_770.length = 70 := by decide +kernel
theorem rt4 : ∀ r, r < 840 → ∃ e, rtB 4 5 16 ro4 po4 al4 su4 um4 gs4 on4 r e = true := fun r hr => by
  by_cases h0 : r < 70
  · exact rts_at rt4_0 ln4_0 (by omega) (by omega)
  by_cases h70 : r < 140
  · exact rts_at rt4_70 ln4_70 (by omega) (by omega)
  by_cases h140 : r < 210
  · exact rts_at rt4_140 ln4_140 (by omega) (by omega)
  by_cases h210 : r < 280
  · exact rts_at rt4_210 ln4_210 (by omega) (by omega)
  by_cases h280 : r < 350
  · exact rts_at rt4_280 ln4_280 (by omega) (by omega)
  by_cases h350 : r < 420
  · exact rts_at rt4_350 ln4_350 (by omega) (by omega)
  by_cases h420 : r < 490
  · exact rts_at rt4_420 ln4_420 (by omega) (by omega)
  by_cases h490 : r < 560
  · exact rts_at rt4_490 ln4_490 (by omega) (by omega)
  by_cases h560 : r < 630
  · exact rts_at rt4_560 ln4_560 (by omega) (by omega)
  by_cases h630 : r < 700
  · exact rts_at rt4_630 ln4_630 (by omega) (by omega)
  by_cases h700 : r < 770
  · exact rts_at rt4_700 ln4_700 (by omega) (by omega)
  exact rts_at rt4_770 ln4_770 (by omega) (by omega)
theorem wn4 : wds 4 = 840 := by decide
theorem ck4 : CkOK 4 5 840 16 ro4 po4 lm4 fa4 la4 ss4 al4 su4 um4 gg4 gs4 on4 := ⟨by decide, Or.inl rfl, wn4.symm, fun r hr => wo_ok (row := ro4) (by decide) wo4 r (by rw [wn4]; exact hr), rw4, ce4⟩
