/-! the law's looks at the words -/
def prF : Nat → Nat
  | 0 => 1
  | k + 1 => prF k * (7 - k)
theorem prF_wds {b : Nat} (hb : b < 6) : prF b = wds b := by
  have h : ∀ b, b < 6 → prF b = wds b := by decide
  exact h b hb
theorem lg_cmp_0 {x y : Int64} (h : x.toInt = y.toInt) : lg_cmp x y = 0 := by
  have e := Int64.toInt_inj.mp h
  subst e
  unfold lg_cmp
  rw [if_neg (by rw [gt_iff_lt, Int64.lt_iff_toInt_lt]; omega), if_pos rfl]
section AWords
variable {z : ZS}
theorem word_no {h : pH} {x y : Int32} (hx : ¬ (inb x (wds (aB (zA z))) = true ∧ inb y 7 = true)) (s : Sg h z) : ∃ h1, f_X_word 0 x y h = rI (-1) h1 ∧ Sg h1 z := by
  obtain ⟨h1, e1, s1⟩ := x_word x y s
  refine ⟨h1, ?_, s1⟩
  rw [e1]
  show rI (if inb x (wds (aB (zA z))) = true ∧ inb y 7 = true then _ else -1) h1 = _
  rw [if_neg hx]
theorem inb_self {n : Nat} (hn : n < 2147483648) : inb (nI n) n = false := by
  unfold inb
  rw [i_clamp hn]
  simp
theorem s_awords_116 {h : pH} {r : Nat} (hr : r < wds (aB (zA z))) (s : Sg h z) : ∃ h1, f_L_areWords_116 0 (nI (wds (aB (zA z)))) (nI r) 1 h = rI 1 h1 ∧ Sg h1 z := by
  have ha := s.2.1.1
  have hw := wds_lt ha.2.1
  rw [e_L_areWords_116, if_neg (by decide), L1, i_sub (by omega)]
  by_cases he : r = wds (aB (zA z)) - 1
  · exact ⟨h, by rw [if_pos (by rw [← he])], s⟩
  · obtain ⟨h1, q1, e1, s1, k1⟩ := s_spelt hr s
    obtain ⟨h2, q2, e2, s2, k2⟩ := s_spelt (show r + 1 < wds (aB (zA z)) by omega) s1
    refine ⟨h2, ?_, s2⟩
    rw [if_neg (by rw [i_inj (by omega) (by omega)]; exact he), e1, cL_v, i_add, e2, cL_v, if_neg]
    rw [lg_cmp_ge, Int64.le_iff_toInt_le, k1, k2]
    have := sp_rise ha (show r + 1 < wds (aB (zA z)) by omega)
    omega
theorem s_awords_11 {v : Int32} : ∀ (k i : Nat) (h : pH), i + k = aB (zA z) → Sg h z → ∃ h1, f_L_areWords_11 0 v (nI (aB (zA z))) (nI (prF i)) (nI i) h = rI 1 h1 ∧ Sg h1 z
  | 0, i, h, hi, s => by
    have ha := s.2.1.1
    have hb := ha.2.1
    have hw := wds_lt hb
    have hp := wds_pos hb
    obtain rfl : i = aB (zA z) := by omega
    obtain ⟨h1, e1, s1⟩ := x_count 5 s
    obtain ⟨h2, e2, s2⟩ := x_count 6 s1
    have hr := rk_lt hb ha.1
    obtain ⟨h3, q3, e3, s3, k3⟩ := s_spelt hr s2
    obtain ⟨h4, q4, e4, s4, k4⟩ := s_now s3
    rw [wd_rk hb ha.1] at k3
    obtain ⟨h5, e5, s5⟩ := word_no (x := nI (wds (aB (zA z)))) (y := 0) (fun q => by rw [inb_self (by omega)] at q; cases q.1) s4
    obtain ⟨h6, e6, s6⟩ := word_no (x := 0) (y := 7) (fun q => absurd q.2 (by decide)) s5
    obtain ⟨h7, e7, s7⟩ := word_no (x := -1) (y := 0) (fun q => by unfold inb at q; simp at q) s6
    have hl := lwN_lt v hp
    obtain ⟨h8, e8, s8⟩ := s_awords_116 hl s7
    refine ⟨h8, ?_, s8⟩
    rw [prF_wds hb, e_L_areWords_11, if_pos (by rw [i_le (by omega) (by omega)]; exact Nat.le_refl _), if_pos (kO7 s), e1, cI_v, ct_5, s_low hp (by omega), cI_v, if_pos (kO7 s1), e2, cI_v, ct_6, if_pos rfl, if_neg (i_nneg (by omega)), if_neg (by rw [i_le (by omega) (by omega)]; omega), e3, cL_v, e4, cL_v, if_pos (lg_cmp_0 (k3.trans k4.symm)), if_pos (kO7 s4), e5, cI_v, if_pos rfl, if_pos (kO7 s5), e6, cI_v, if_pos rfl, if_pos (kO7 s6), e7, cI_v, if_pos rfl]
    exact e8
  | k + 1, i, h, hi, s => by
    have hb := s.2.1.1.2.1
    obtain ⟨h1, e1, s1⟩ := s_awords_11 (v := v) k (i + 1) h (by omega) s
    refine ⟨h1, ?_, s1⟩
    rw [e_L_areWords_11, if_neg (by rw [i_le (by omega) (by omega)]; omega), L7, i_sub (by omega), i_mul, L1, i_add]
    exact e1
theorem s_areWords {h : pH} {v : Int32} (s : Sg h z) : ∃ h1, f_L_areWords 0 v h = rI 1 h1 ∧ Sg h1 z := by
  obtain ⟨h1, e1, s1⟩ := x_count 0 s
  obtain ⟨h2, e2, s2⟩ := s_awords_11 (v := v) (aB (zA z)) 0 h1 (by omega) s1
  refine ⟨h2, ?_, s2⟩
  rw [e_L_areWords, if_pos (kO7 s), e1, cI_v, ct_0]
  exact e2
end AWords
