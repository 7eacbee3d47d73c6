/-! 3 books: all is checked -/
theorem ca3 : cs1B 3 6 8 gg3 gs3 on3 = true := by decide +kernel
theorem cb3_0 : cs2B 3 6 8 lm3 fa3 ss3 0 = true := by decide +kernel
theorem cb3_1 : cs2B 3 6 8 lm3 fa3 ss3 1 = true := by decide +kernel
theorem cb3_2 : cs2B 3 6 8 lm3 fa3 ss3 2 = true := by decide +kernel
theorem cd3 : cs3B 3 6 8 la3 ss3 al3 su3 um3 = true := by decide +kernel
theorem ce3 : CsOK 3 6 8 lm3 fa3 la3 ss3 al3 su3 um3 gg3 gs3 on3 := cs_ok ca3 (fun a ha => by
  rcases (show a = 0 ∨ a = 1 ∨ a = 2 by omega) with rfl | rfl | rfl
  · exact cb3_0
  · exact cb3_1
  · exact cb3_2) cd3
theorem rw3 : ∀ r, r < 210 → rowB 3 6 210 8 ro3 po3 lm3 fa3 la3 gg3 r = true := fun r hr => by
  exact lpo (f := fun r => rowB 3 6 210 8 ro3 po3 lm3 fa3 la3 gg3 r) rw3_0 (by omega) (by omega)
theorem ln3_0 : es3_0.length = 70 := by decide +kernel
theorem ln3_70 : es3_70.length = 70 := by decide +kernel
theorem ln3_140 : es3_140.length = 70 := by decide +kernel
theorem rt3 : ∀ r, r < 210 → ∃ e, rtB 3 6 8 ro3 po3 al3 su3 um3 gs3 on3 r e = true := fun r hr => by
  by_cases h0 : r < 70
  · exact rts_at rt3_0 ln3_0 (by omega) (by omega)
  by_cases h70 : r < 140
  · exact rts_at rt3_70 ln3_70 (by omega) (by omega)
  exact rts_at rt3_140 ln3_140 (by omega) (by omega)
theorem wn3 : wds 3 = 210 := by decide
theorem ck3 : CkOK 3 6 210 8 ro3 po3 lm3 fa3 la3 ss3 al3 su3 um3 gg3 gs3 on3 := ⟨by decide, Or.inr rfl, wn3.symm, fun r hr => wo_ok (row := ro3) (by decide) wo3 r (by rw [wn3]; exact hr), rw3, ce3⟩
