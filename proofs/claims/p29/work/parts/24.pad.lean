/-! the pad of the class -/
def PAt (f : Nat → Nat → Int32) (n : Nat) (l : Nat → Nat) : Prop := f 33 1 = nI n ∧ n ≤ 60 ∧ ∀ i, i < n → f 35 i = nI (l i) ∧ 33 ≤ l i ∧ l i ≤ 126
theorem K33 : K0[33]? = some (.inl 2) := rfl
theorem R33 : R0 33 0 = some 34 := rfl
theorem RW34 : rowW 34 60 := by unfold rowW; decide
theorem L46 : (46 : Int32) = nI 46 := rfl
theorem L48 : (48 : Int32) = nI 48 := rfl
theorem L97 : (97 : Int32) = nI 97 := rfl
theorem L108 : (108 : Int32) = nI 108 := rfl
theorem L112 : (112 : Int32) = nI 112 := rfl
theorem L114 : (114 : Int32) = nI 114 := rfl
def isK (c : Nat) : Bool := decide (c = 112) || decide (c = 114) || decide (c = 108)
def isPl (k c : Nat) : Bool := decide (48 ≤ c) && decide (c < 48 + (if k = 112 then 7 else 6))
def fitP (l : Nat → Nat) (i : Nat) : Bool := if i % 2 = 0 then isK (l i) else isPl (l (i - 1)) (l i)
/-- the fault of the pad, read as a program, from a sign on -/
def pfL (n : Nat) (l : Nat → Nat) : Nat → Nat → Int32
  | 0, _ => if n = 0 ∨ n % 2 = 1 then nI n else -4
  | k + 1, i => if fitP l i then pfL n l k (i + 1) else nI i
def pfR (n : Nat) (l : Nat → Nat) : Int32 := pfL n l n 0
def sgn (a : AS) (c : Nat) : Nat := slotOf a (nI c - nI 97)
/-- the fault of the pad, read as a word, from a sign on, with so many gaps and these slots left -/
def wfL (a : AS) (n : Nat) (l : Nat → Nat) : Nat → Nat → Nat → Nat → Int32
  | 0, _, _, _ => if 7 ≤ n then -4 else nI n
  | k + 1, i, G, S => if l i = 46 then (if G = 0 then nI i else wfL a n l k (i + 1) (G - 1) S) else if S.testBit (sgn a (l i)) then wfL a n l k (i + 1) G (S &&& ((1 <<< sgn a (l i)) ^^^ 2097151)) else nI i
def wfR (a : AS) (n : Nat) (l : Nat → Nat) : Int32 := wfL a n l n 0 (7 - aB a) ((1 <<< (aB a + 1)) - 2)
/-- the move of a step -/
def mvAt (l : Nat → Nat) (i : Nat) : Nat := if l (2 * i) = 112 then l (2 * i + 1) - 48 else if l (2 * i) = 114 then l (2 * i + 1) - 48 + 7 else l (2 * i + 1) - 48 + 13
/-- the word of the pad, its first signs -/
def rdL (a : AS) (l : Nat → Nat) : Nat → Nat → Nat → Nat
  | 0, P, _ => P
  | k + 1, P, i => rdL a l k (wsl P i (sgn a (l i))) (i + 1)
theorem slt_lt {a : AS} {x : Int32} (hb : aB a < 6) : ∀ (k s : Nat), s + k ≤ 7 → 1 ≤ s → slt a x k s < 8
  | 0, s, _, _ => by show 0 < 8; omega
  | k + 1, s, h1, h2 => by
    unfold slt
    split
    · omega
    · exact slt_lt hb k (s + 1) (by omega) (by omega)
theorem sgn_lt {a : AS} {c : Nat} (hb : aB a < 6) : sgn a c < 8 := slt_lt hb (aB a) 1 (by omega) (by omega)
section Pad
variable {h : pH} {a : AS} {n : Nat} {l : Nat → Nat}
theorem s_isKind {c : Nat} (hc : c < 1000) : f_P_isKind (nI c) h = rI (nI (isK c).toNat) h := by
  rw [e_P_isKind, isK]
  by_cases h1 : c = 112
  · subst h1; rw [if_pos (by decide)]; rfl
  · rw [if_neg (by rw [L112, i_inj (by omega) (by omega)]; exact h1)]
    by_cases h2 : c = 114
    · subst h2; rw [if_pos (by decide)]; rfl
    · rw [if_neg (by rw [L114, i_inj (by omega) (by omega)]; exact h2)]
      by_cases h3 : c = 108
      · subst h3; rw [if_pos (by decide)]; rfl
      · rw [if_neg (by rw [L108, i_inj (by omega) (by omega)]; exact h3), decide_eq_false h1, decide_eq_false h2, decide_eq_false h3]; rfl
theorem s_isPlaceFor {k c : Nat} (hk : k < 1000) (hc : c < 1000) : f_P_isPlaceFor (nI k) (nI c) h = rI (nI (isPl k c).toNat) h := by
  rw [e_P_isPlaceFor, isPl]
  by_cases h1 : 48 ≤ c
  · rw [if_neg (by rw [L48, i_lt (by omega) (by omega)]; omega), decide_eq_true h1]
    by_cases h2 : k = 112
    · subst h2
      rw [if_pos (by decide), if_pos rfl, L48, L7, i_add]
      by_cases h3 : c < 48 + 7
      · rw [if_neg (by rw [i_le (by omega) (by omega)]; omega), decide_eq_true h3]; rfl
      · rw [if_pos (by rw [i_le (by omega) (by omega)]; omega), decide_eq_false h3]; rfl
    · rw [if_neg (by rw [L112, i_inj (by omega) (by omega)]; exact h2), if_neg h2, L48, L6, i_add]
      by_cases h3 : c < 48 + 6
      · rw [if_neg (by rw [i_le (by omega) (by omega)]; omega), decide_eq_true h3]; rfl
      · rw [if_pos (by rw [i_le (by omega) (by omega)]; omega), decide_eq_false h3]; rfl
  · rw [if_pos (by rw [L48, i_lt (by omega) (by omega)]; omega), decide_eq_false h1]; rfl
theorem and1_m (n : Nat) : n &&& 1 = n % 2 := Nat.and_one_is_mod n
theorem s_pfL (w : WF h) (hp : PAt h.2.2 n l) : ∀ (k i : Nat), i + k = n → f_P_programFault_2 33 (nI i) h = rI (pfL n l k i) h
  | 0, i, hi => by
    obtain ⟨p1, p2, p3⟩ := hp
    obtain rfl : i = n := by omega
    rw [e_P_programFault_2]
    simp only [oo_v, hI_W w K33, p1]
    rw [if_pos (by rw [i_le (by omega) (by omega)]; exact Nat.le_refl _)]
    unfold pfL
    by_cases h0 : i = 0
    · rw [if_pos (by rw [h0]; rfl), if_pos (Or.inl h0)]
    · rw [if_neg (by rw [i_eq0 (by omega)]; exact h0), L1, i_and, and1_m]
      by_cases h1 : i % 2 = 1
      · rw [if_pos (by rw [h1]), if_pos (Or.inr h1)]
      · rw [if_neg (by rw [i_inj (by omega) (by omega)]; exact h1), if_neg (by omega)]
  | k + 1, i, hi => by
    obtain ⟨p1, p2, p3⟩ := id hp
    have ih := s_pfL w hp k (i + 1) (by omega)
    obtain ⟨q1, q2, q3⟩ := p3 i (by omega)
    have r1 := hR_W w K33 (by omega) R33
    rw [e_P_programFault_2]
    simp only [oo_v, hI_W w K33, p1, r1, kO_W w RW34.1, if_true, s_get w RW34 (show i < 60 by omega), cI_v, q1]
    rw [if_neg (by rw [i_le (by omega) (by omega)]; omega), L1, i_and, and1_m]
    unfold pfL fitP
    by_cases h2 : i % 2 = 0
    · rw [if_pos (by rw [h2]; rfl), if_pos h2, s_isKind (by omega), cI_v]
      cases isK (l i)
      · rw [if_pos (by decide), if_neg (by decide)]
      · rw [if_neg (by decide), if_pos rfl, i_add]
        exact ih
    · obtain ⟨q4, q5, q6⟩ := p3 (i - 1) (by omega)
      rw [if_neg (by rw [i_eq0 (by omega)]; exact h2), if_neg h2, i_sub (by omega), s_get w RW34 (by omega), cI_v, q4, s_isPlaceFor (by omega) (by omega), cI_v]
      cases isPl (l (i - 1)) (l i)
      · rw [if_pos (by decide), if_neg (by decide)]
      · rw [if_neg (by decide), if_pos rfl, i_add]
        exact ih
theorem s_programFault (w : WF h) (hp : PAt h.2.2 n l) : f_P_programFault 33 h = rI (pfR n l) h := by
  rw [e_P_programFault]
  exact s_pfL w hp n 0 (by omega)
theorem s_steps (w : WF h) (hp : PAt h.2.2 n l) : f_P_steps 33 h = rI (nI (n / 2)) h := by
  have h2 : ∀ z, z < 61 → nI z >>> ((1 : Int32) &&& 31) = nI (z / 2) := by decide
  rw [e_P_steps]
  simp only [oo_v, hI_W w K33, hp.1]
  rw [h2 n (by have := hp.2.1; omega)]
/-- a pad without a fault as a program holds kinds and places -/
theorem pfL_fit (n : Nat) (l : Nat → Nat) : ∀ (k i : Nat), i + k = n → n ≤ 60 → pfL n l k i = -4 → ∀ j, i ≤ j → j < n → fitP l j = true
  | 0, i, hi, hn, h, j, h1, h2 => by omega
  | k + 1, i, hi, hn, h, j, h1, h2 => by
    unfold pfL at h
    split at h
    · rename_i hf
      rcases Nat.lt_or_eq_of_le h1 with h3 | h3
      · exact pfL_fit n l k (i + 1) (by omega) hn h j (by omega) h2
      · rw [← h3]; exact hf
    · have h4 : i < 60 := by omega
      have h5 : ∀ i, i < 60 → nI i ≠ -4 := by decide
      exact absurd h (h5 i h4)
theorem pfL_even (n : Nat) (l : Nat → Nat) : ∀ (k i : Nat), i + k = n → n ≤ 60 → pfL n l k i = -4 → n % 2 = 0 ∧ n ≠ 0
  | 0, i, hi, hn, h => by
    unfold pfL at h
    split at h
    · have h5 : ∀ i, i < 61 → nI i ≠ -4 := by decide
      exact absurd h (h5 n (by omega))
    · omega
  | k + 1, i, hi, hn, h => by
    unfold pfL at h
    split at h
    · exact pfL_even n l k (i + 1) (by omega) hn h
    · have h5 : ∀ i, i < 61 → nI i ≠ -4 := by decide
      exact absurd h (h5 i (by omega))
theorem isPl_ge {k c : Nat} (h : isPl k c = true) : 48 ≤ c ∧ c < 48 + (if k = 112 then 7 else 6) := by
  unfold isPl at h
  rw [Bool.and_eq_true, decide_eq_true_eq, decide_eq_true_eq] at h
  exact h
theorem mvAt_lt {i : Nat} (hn : n ≤ 60) (h : pfR n l = -4) (hi : i < n / 2) : mvAt l i < 19 ∧ 48 ≤ l (2 * i + 1) := by
  have h1 := pfL_fit n l n 0 (by omega) hn h (2 * i + 1) (by omega) (by omega)
  unfold fitP at h1
  rw [if_neg (by omega), show 2 * i + 1 - 1 = 2 * i by omega] at h1
  have h2 := isPl_ge h1
  unfold mvAt
  refine ⟨?_, h2.1⟩
  by_cases h3 : l (2 * i) = 112
  · rw [if_pos h3] at h2 ⊢
    omega
  · rw [if_neg h3] at h2 ⊢
    split <;> omega
theorem s_moveAt {i : Nat} (w : WF h) (hp : PAt h.2.2 n l) (hf : pfR n l = -4) (hi : i < n / 2) : f_P_moveAt 33 (nI i) h = rI (nI (mvAt l i)) h := by
  obtain ⟨p1, p2, p3⟩ := hp
  have h1 := mvAt_lt p2 hf hi
  obtain ⟨q1, q2, q3⟩ := p3 (2 * i) (by omega)
  obtain ⟨q4, q5, q6⟩ := p3 (2 * i + 1) (by omega)
  have r1 := hR_W w K33 (by omega) R33
  rw [e_P_moveAt]
  simp only [oo_v, r1, kO_W w RW34.1, if_true, L2, L1, i_mul, i_add, s_get w RW34 (show 2 * i < 60 by omega), cI_v, s_get w RW34 (show 2 * i + 1 < 60 by omega), q1, q4, L48, i_sub h1.2, L7, L13]
  unfold mvAt
  by_cases h3 : l (2 * i) = 112
  · rw [if_pos (by rw [h3]; rfl), if_pos h3]
  · rw [if_neg (by rw [L112, i_inj (by omega) (by omega)]; exact h3), if_neg h3]
    by_cases h4 : l (2 * i) = 114
    · rw [if_pos (by rw [h4]; rfl), if_pos h4]
    · rw [if_neg (by rw [L114, i_inj (by omega) (by omega)]; exact h4), if_neg h4]
theorem s_slotOfSign {c : Nat} (w : WF h) (hc : CAt h.2.2 1 a) (ok : AOK a) : f_P_slotOfSign 1 (nI c) h = rI (nI (sgn a c)) h := by
  rw [e_P_slotOfSign, if_pos (kO_W w K1), L97, s_slotOf w hc ok, cI_v]
  rfl
theorem s_wfL (w : WF h) (hp : PAt h.2.2 n l) (hc : CAt h.2.2 1 a) (ok : AOK a) : ∀ (k i G S : Nat), i + k = n → G < 100 → S < 64 → f_P_wordFault_22 33 1 (nI G) (nI S) (nI i) h = rI (wfL a n l k i G S) h
  | 0, i, G, S, hi, hG, hS => by
    obtain ⟨p1, p2, p3⟩ := hp
    obtain rfl : i = n := by omega
    rw [e_P_wordFault_22]
    simp only [oo_v, hI_W w K33, p1]
    rw [if_pos (by rw [i_le (by omega) (by omega)]; exact Nat.le_refl _)]
    unfold wfL
    by_cases h7 : 7 ≤ i
    · rw [if_pos (by rw [L7, i_le (by omega) (by omega)]; exact h7), if_pos h7]
    · rw [if_neg (by rw [L7, i_le (by omega) (by omega)]; exact h7), if_neg h7]
  | k + 1, i, G, S, hi, hG, hS => by
    obtain ⟨p1, p2, p3⟩ := id hp
    obtain ⟨q1, q2, q3⟩ := p3 i (by omega)
    have r1 := hR_W w K33 (by omega) R33
    have hs := sgn_lt (a := a) (c := l i) ok.2.1
    rw [e_P_wordFault_22]
    simp only [oo_v, hI_W w K33, p1, r1, kO_W w RW34.1, if_true, s_get w RW34 (show i < 60 by omega), cI_v, q1, s_slotOfSign w hc ok]
    rw [if_neg (by rw [i_le (by omega) (by omega)]; omega)]
    unfold wfL
    by_cases h46 : l i = 46
    · rw [if_pos (by rw [h46]; rfl), if_pos h46]
      by_cases hG0 : G = 0
      · rw [if_pos (by rw [hG0]; rfl), if_pos hG0]
      · rw [if_neg (by rw [i_eq0 (by omega)]; exact hG0), if_neg hG0, e_P_wordFault_76, if_pos (by rw [h46]; rfl), i_dec (by omega), L1, i_add]
        exact s_wfL w hp hc ok k (i + 1) (G - 1) S (by omega) (by omega) hS
    · rw [if_neg (by rw [L46, i_inj (by omega) (by omega)]; exact h46), if_neg h46, s_isIn (by omega) (by omega), cI_v]
      cases hb : S.testBit (sgn a (l i))
      · rw [if_pos (by decide), if_neg (by decide)]
      · have hs1 := shl1_lt hs
        rw [if_neg (by decide), if_pos rfl, e_P_wordFault_76, if_neg (by rw [L46, i_inj (by omega) (by omega)]; exact h46), L1, i_shl (by omega), i_m11 (by omega) (by omega), i_add]
        exact s_wfL w hp hc ok k (i + 1) G _ (by omega) hG (Nat.lt_of_le_of_lt Nat.and_le_left hS)
theorem s_wordFault (w : WF h) (hp : PAt h.2.2 n l) (hc : CAt h.2.2 1 a) (ok : AOK a) : f_P_wordFault 33 1 h = rI (wfR a n l) h := by
  have hb := ok.2.1
  rw [e_P_wordFault]
  simp only [oo_v, hI_W w K1, hc.2.1]
  rw [L7, i_sub (by omega), L1, i_add, i_shl (by omega), L2, i_sub (shlb hb).2]
  exact s_wfL w hp hc ok n 0 _ _ (by omega) (by omega) (shlb hb).1
theorem s_rdL (w : WF h) (hp : PAt h.2.2 n l) (hc : CAt h.2.2 1 a) (ok : AOK a) (hn : 7 ≤ n) : ∀ (k i P : Nat), i + k = 7 → P < 2097152 → f_P_readWord_4 33 1 (nI P) (nI i) h = rI (nI (rdL a l k P i)) h
  | 0, i, P, hi, hP => by
    rw [e_P_readWord_4, if_pos (by rw [L7, i_le (by omega) (by omega)]; omega)]
    rfl
  | k + 1, i, P, hi, hP => by
    obtain ⟨p1, p2, p3⟩ := id hp
    obtain ⟨q1, q2, q3⟩ := p3 i (by omega)
    have r1 := hR_W w K33 (by omega) R33
    have hs := sgn_lt (a := a) (c := l i) ok.2.1
    rw [e_P_readWord_4, if_neg (by rw [L7, i_le (by omega) (by omega)]; omega)]
    simp only [oo_v, r1, kO_W w RW34.1, if_true, s_get w RW34 (show i < 60 by omega), cI_v, q1, s_slotOfSign w hc ok, s_withSlot hP (show i < 7 by omega) hs, L1, i_add]
    exact s_rdL w hp hc ok hn k (i + 1) _ (by omega) (wsl_lt hP (by omega) hs)
theorem s_readWord (w : WF h) (hp : PAt h.2.2 n l) (hc : CAt h.2.2 1 a) (ok : AOK a) (hn : 7 ≤ n) : f_P_readWord 33 1 h = rI (nI (rdL a l 7 0 0)) h := by
  rw [e_P_readWord]
  exact s_rdL w hp hc ok hn 7 0 0 rfl (by omega)
theorem s_write {c : Nat} (w : WF h) (hp : PAt h.2.2 n l) (hn : n < 60) (hc : 33 ≤ c ∧ c ≤ 126) : ∃ g, f_P_write 33 (nI c) h = rV (hS h g) ∧ PAt g (n + 1) (fun i => if i = n then c else l i) ∧ Off h.2.2 g [33, 35] := by
  obtain ⟨p1, p2, p3⟩ := hp
  have r1 := hR_W w K33 (by omega) R33
  have k1 := kO_W w K33
  rw [e_P_write]
  simp only [oo_v, r1, hI_k, k1, kO_S, kO_W w RW34.1, if_true, p1, s_put w RW34 hn, cV_v, hS_2, sI_S, hS_S, show s2 h.2.2 35 n (nI c) 33 1 = nI n from p1, show s2 h.2.2 (34 + 1) n (nI c) 33 1 = nI n from p1, L1, i_add]
  refine ⟨_, rfl, ⟨?_, by omega, fun i hi => ?_⟩, Off.tr (s2_off (by simp)) (s2_off (by simp))⟩
  · simp [s2_at]
  · by_cases hin : i = n
    · subst hin
      simp [s2_at, hc]
    · have := p3 i (by omega)
      simp [s2_at, hin, this]
end Pad
