theorem chg_ok {z : ZS} {a : AS} (hz : ZOK z) (ha : AOK a) : ZOK (chg z a) := by
  obtain ⟨h1, h2, h3, h4⟩ := hz
  refine ⟨ha, fun c hc => ?_, h3, ?_⟩
  · have hc : c ∈ kept (zH z) (zA z) := hc
    unfold kept at hc
    rw [List.mem_append] at hc
    rcases hc with hc | hc
    · split at hc
      · exact h2 c hc
      · exact h2 c (List.mem_of_mem_drop hc)
    · rw [List.mem_singleton] at hc
      rw [hc]
      exact h1
  · show (kept (zH z) (zA z)).length ≤ 4
    unfold kept
    rw [List.length_append]
    show (if (zH z).length < 4 then zH z else (zH z).drop 1).length + 1 ≤ 4
    split
    · omega
    · rw [List.length_drop]
      omega
theorem zok_add {z : ZS} {x1 x2 x3 : Int32} (hz : ZOK z) : ZOK (sAdd z x1 x2 x3).2 := by
  unfold sAdd
  by_cases h1 : inb x1 26 = true ∧ (¬ x2 < 1 ∧ ¬ 9 < x2) ∧ inb x3 7 = true
  · rw [if_pos h1]
    by_cases h2 : slotOf (zA z) x1 ≠ 0 ∨ sl (aP (zA z)) (cl x3) ≠ 0
    · rw [if_pos h2]; exact hz
    · rw [if_neg h2]
      by_cases h3 : aB (zA z) < 5
      · rw [if_pos h3]
        obtain ⟨x, hx, rfl⟩ := inb_yes h1.1
        obtain ⟨p, hp, rfl⟩ := inb_yes h1.2.2
        have hy : 1 ≤ cl x2 ∧ cl x2 ≤ 9 := by
          obtain ⟨q1, q2⟩ := h1.2.1
          rw [Int32.lt_iff_toInt_lt, show (1 : Int32).toInt = 1 from by decide] at q1
          rw [Int32.lt_iff_toInt_lt, show (9 : Int32).toInt = 9 from by decide] at q2
          show 1 ≤ x2.toInt.toNat ∧ x2.toInt.toNat ≤ 9
          omega
        simp only [cl, i_clamp (show x < 2147483648 by omega), i_clamp (show p < 2147483648 by omega)] at h2 ⊢
        have h4 : slotOf (zA z) (nI x) = 0 := Classical.byContradiction fun q => h2 (Or.inl q)
        have h5 : sl (aP (zA z)) p = 0 := Classical.byContradiction fun q => h2 (Or.inr q)
        refine chg_ok hz (ins_ok hz.1 hx hy hp h3 h5 (fun s s1 s2 e => ?_))
        rcases sgn_spec (a := zA z) (c := x + 97) (by omega) hz.1 with q | q
        · exact q.2 s s1 s2 (by omega)
        · have h8 := q.1
          unfold sgn at h8
          rw [i_sub (by omega), Nat.add_sub_cancel] at h8
          omega
      · rw [if_neg h3]; exact hz
  · rw [if_neg h1]; exact hz
theorem zok_remove {z : ZS} {x : Int32} (hz : ZOK z) : ZOK (sRemove z x).2 := by
  unfold sRemove
  by_cases h1 : inb x 7 = true
  · obtain ⟨p, hp, rfl⟩ := inb_yes h1
    rw [if_pos h1]
    simp only [cl, i_clamp (show p < 2147483648 by omega)]
    by_cases h2 : sl (aP (zA z)) p = 0
    · rw [if_pos h2]; exact hz
    · rw [if_neg h2]; exact chg_ok hz (tak_ok hz.1 hp h2)
  · rw [if_neg h1]; exact hz
theorem zok_stick {z : ZS} {x : Int32} (hz : ZOK z) : ZOK (sStick z x).2 := by
  unfold sStick
  by_cases h1 : inb x 7 = true
  · obtain ⟨p, hp, rfl⟩ := inb_yes h1
    rw [if_pos h1]
    simp only [cl, i_clamp (show p < 2147483648 by omega)]
    by_cases h2 : sl (aP (zA z)) p = 0
    · rw [if_pos h2]; exact hz
    · rw [if_neg h2]; exact chg_ok hz (stk_ok hz.1 (by omega) (hz.1.1.2.1 p hp))
  · rw [if_neg h1]; exact hz
theorem zok_pull {z : ZS} {x : Int32} (hz : ZOK z) : ZOK (sPull z x).2 := by
  unfold sPull
  by_cases h1 : inb x 7 = true
  · obtain ⟨p, hp, rfl⟩ := inb_yes h1
    rw [if_pos h1]
    simp only [cl, i_clamp (show p < 2147483648 by omega)]
    exact chg_ok hz (mv_ok hz.1 (by omega))
  · rw [if_neg h1]; exact hz
theorem zok_push {z : ZS} {x y : Int32} (hz : ZOK z) : ZOK (sPush z x y).2 := by
  unfold sPush
  by_cases h1 : inb x 6 = true
  · obtain ⟨p, hp, rfl⟩ := inb_yes h1
    rw [if_pos h1]
    simp only [cl, i_clamp (show p < 2147483648 by omega)]
    exact chg_ok hz (mv_ok hz.1 (by split <;> omega))
  · rw [if_neg h1]; exact hz
theorem zok_set {z : ZS} {x y : Int32} (hz : ZOK z) : ZOK (sSet z x y).2 := by
  unfold sSet
  by_cases h1 : inb x 2 = true ∧ inb y 2 = true
  · obtain ⟨v, hv, rfl⟩ := inb_yes h1.2
    rw [if_pos h1]
    exact chg_ok hz (sett_ok hz.1 (by rw [show cl (nI v) = v from i_clamp (by omega)]; exact hv))
  · rw [if_neg h1]; exact hz
theorem zok_append {z : ZS} {x : Int32} (hz : ZOK z) : ZOK (sAppend z x).2 := by
  unfold sAppend
  split
  · split
    · exact hz
    · exact hz
  · exact hz
theorem zok_undo {z : ZS} (hz : ZOK z) : ZOK (sUndo z).2 := by
  unfold sUndo
  cases hl : (zH z).getLast? with
  | none => exact hz
  | some a =>
    obtain ⟨l, he⟩ := List.getLast?_eq_some_iff.mp hl
    have hd : (zH z).dropLast = l := by rw [he]; exact List.dropLast_concat
    have hlen : (zH z).length = l.length + 1 := by rw [he, List.length_append]; rfl
    obtain ⟨z1, z2, z3, z4⟩ := hz
    refine ⟨z2 a (by rw [he]; simp), fun c hc => ?_, z3, ?_⟩
    · have hc : c ∈ (zH z).dropLast := hc
      rw [hd] at hc
      exact z2 c (by rw [he]; simp [hc])
    · show (zH z).dropLast.length ≤ 4
      rw [hd]
      omega
theorem zok_save {z : ZS} (hz : ZOK z) : ZOK (sSave z).2 := ⟨hz.1, hz.2.1, fun a e => by cases e; exact hz.1, hz.2.2.2⟩
theorem zok_restore {z : ZS} (hz : ZOK z) : ZOK (sRestore z).2 := by
  unfold sRestore
  cases hs : zS z with
  | none => exact hz
  | some a => exact chg_ok hz (hz.2.2.1 a hs)
