/-! a book more, a book less -/
def pk7 (g : Nat → Nat) : Nat := g 0 + 8 * (g 1 + 8 * (g 2 + 8 * (g 3 + 8 * (g 4 + 8 * (g 5 + 8 * g 6)))))
theorem pk7_lt {g : Nat → Nat} (hg : ∀ i, i < 7 → g i < 8) : pk7 g < 2097152 := by
  have h0 := hg 0 (by omega)
  have h1 := hg 1 (by omega)
  have h2 := hg 2 (by omega)
  have h3 := hg 3 (by omega)
  have h4 := hg 4 (by omega)
  have h5 := hg 5 (by omega)
  have h6 := hg 6 (by omega)
  unfold pk7
  omega
theorem pk7_sl {g : Nat → Nat} (hg : ∀ i, i < 7 → g i < 8) {q : Nat} (hq : q < 7) : sl (pk7 g) q = g q := by
  have h0 := hg 0 (by omega)
  have h1 := hg 1 (by omega)
  have h2 := hg 2 (by omega)
  have h3 := hg 3 (by omega)
  have h4 := hg 4 (by omega)
  have h5 := hg 5 (by omega)
  have h6 := hg 6 (by omega)
  have hq' : q = 0 ∨ q = 1 ∨ q = 2 ∨ q = 3 ∨ q = 4 ∨ q = 5 ∨ q = 6 := by omega
  rw [sl_div]
  unfold pk7
  rcases hq' with rfl | rfl | rfl | rfl | rfl | rfl | rfl <;> omega
def rnm (u : Nat → Nat) (P : Nat) : Nat := pk7 fun q => u (sl P q)
section Ren
variable {h : pH}
theorem s_renL {P t : Nat} {y : Int32} {u : Nat → Nat} (w : WF h) (ht : t < 100) (hu : ∀ q, q < 7 → u (sl P q) < 8 ∧ (t ≤ sl P q → nI (sl P q) + y = nI (u (sl P q))) ∧ (sl P q < t → u (sl P q) = sl P q)) : ∀ (k i : Nat), i + k = 7 →
    f_B_renumber_2 1 (nI t) y (nI i) (hS h (s2 h.2.2 1 0 (nI (pk7 fun q => if q < i then u (sl P q) else sl P q)))) = rV (hS h (s2 h.2.2 1 0 (nI (rnm u P))))
  | 0, i, hi => by
    obtain rfl : i = 7 := by omega
    rw [e_B_renumber_2, if_pos (by decide)]
    have : (pk7 fun q => if q < 7 then u (sl P q) else sl P q) = rnm u P := by
      unfold rnm pk7
      simp
    rw [this]
  | k + 1, i, hi => by
    have hg : ∀ j, j < 7 → (if j < i then u (sl P j) else sl P j) < 8 := by
      intro j hj
      split
      · exact (hu j hj).1
      · exact sl_lt _ _
    have hPi := pk7_lt hg
    have hsl := pk7_sl hg (show i < 7 by omega)
    have ih := s_renL (P := P) w ht hu k (i + 1) (by omega)
    rw [if_neg (by omega)] at hsl
    generalize hQ : (pk7 fun q => if q < i then u (sl P q) else sl P q) = Q at *
    have hs := sl_lt P i
    obtain ⟨u1, u2, u3⟩ := hu i (by omega)
    have hnext : (pk7 fun q => if q < i + 1 then u (sl P q) else sl P q) = wsl Q i (u (sl P i)) := by
      have hg2 : ∀ j, j < 7 → (if j < i + 1 then u (sl P j) else sl P j) < 8 := by
        intro j hj
        split
        · exact (hu j hj).1
        · exact sl_lt _ _
      refine sl_ext (pk7_lt hg2) (wsl_lt hPi (by omega) u1) (fun q hq => ?_)
      rw [pk7_sl hg2 hq, sl_wsl (by omega) hq u1]
      by_cases hqi : q = i
      · rw [if_pos hqi, if_pos (by omega), hqi]
      · rw [if_neg hqi, ← hQ, pk7_sl hg hq]
        by_cases h2 : q < i
        · rw [if_pos h2, if_pos (by omega)]
        · rw [if_neg h2, if_neg (by omega)]
    rw [e_B_renumber_2, if_neg (by rw [L7, i_le (by omega) (by omega)]; omega)]
    simp only [oo_v, hI_k, kO_S, kO_W w K1, if_true, hS_2, s2_at, s_slotAt hPi (show i < 7 by omega), cI_v, hsl]
    by_cases hst : sl P i < t
    · rw [if_pos (by rw [i_lt (by omega) (by omega)]; exact hst), L1, i_add]
      have hsame : wsl Q i (u (sl P i)) = Q := by
        refine sl_ext (wsl_lt hPi (by omega) u1) hPi (fun q hq => ?_)
        rw [sl_wsl (by omega) hq u1]
        by_cases hqi : q = i
        · rw [if_pos hqi, hqi, hsl, u3 hst]
        · rw [if_neg hqi]
      rw [hnext, hsame] at ih
      exact ih
    · rw [if_neg (by rw [i_lt (by omega) (by omega)]; exact hst), u2 (by omega), s_withSlot hPi (by omega) u1, cI_v]
      simp only [sI_S, hS_S, hS_2, L1, i_add]
      rw [hnext] at ih
      have e1 : s2 (s2 h.2.2 1 0 (nI Q)) 1 0 (nI (wsl Q i (u (sl P i)))) = s2 h.2.2 1 0 (nI (wsl Q i (u (sl P i)))) := by
        funext a b
        simp only [s2_at]
        split
        · split <;> rfl
        · rfl
      rw [e1, if_pos (kO_W (WF_S w) K1)]
      exact ih
theorem s_renumber {P t : Nat} {y : Int32} {u : Nat → Nat} (w : WF h) (hP : P < 2097152) (hp : h.2.2 1 0 = nI P) (ht : t < 100) (hu : ∀ q, q < 7 → u (sl P q) < 8 ∧ (t ≤ sl P q → nI (sl P q) + y = nI (u (sl P q))) ∧ (sl P q < t → u (sl P q) = sl P q)) : f_B_renumber 1 (nI t) y h = rV (hS h (s2 h.2.2 1 0 (nI (rnm u P)))) := by
  have h1 := s_renL (h := h) (P := P) w ht hu 7 0 rfl
  have h2 : (pk7 fun q => if q < 0 then u (sl P q) else sl P q) = P := by
    have hg : ∀ j, j < 7 → (if j < 0 then u (sl P j) else sl P j) < 8 := fun j _ => by rw [if_neg (by omega)]; exact sl_lt _ _
    refine sl_ext (pk7_lt hg) hP (fun q hq => ?_)
    rw [pk7_sl hg hq, if_neg (by omega)]
  have h3 : s2 h.2.2 1 0 (nI P) = h.2.2 := by
    funext a b
    rw [s2_at]
    split
    · rename_i e1
      split
      · rename_i e2
        rw [e1, e2, hp]
      · rfl
    · rfl
  rw [h2, h3, hS_self] at h1
  rw [e_B_renumber]
  exact h1
end Ren
/-- behind a letter's place the slots go up by one -/
def up1 (t s : Nat) : Nat := if t ≤ s then s + 1 else s
def dn1 (t s : Nat) : Nat := if t < s then s - 1 else s
/-- how many letters are lesser -/
def les (a : AS) (x : Nat) : Nat := cnt (fun i => decide (aL a (i + 1) < x)) (aB a)
theorem les_le (a : AS) (x : Nat) : les a x ≤ aB a := cnt_le _ _
def insS (S t : Nat) : Nat := ((S - (S &&& (1 <<< t) - 1)) <<< 1) ||| (S &&& (1 <<< t) - 1)
/-- a book of letter x and weight y at place p -/
def ins (a : AS) (x y p : Nat) : AS :=
  ((wsl (rnm (up1 (les a x + 1)) (aP a)) p (les a x + 1), aB a + 1, insS (aS a) (les a x + 1), aF a, aC a), (fun s => if s < les a x + 1 then aL a s else if s = les a x + 1 then x else aL a (s - 1)), (fun s => if s < les a x + 1 then aO a s else if s = les a x + 1 then y else aO a (s - 1)), aM a, aE a, aR a)
section Ins
variable {h : pH} {a : AS}
def shG (f : Nat → Nat → Int32) (j b : Nat) : Nat → Nat → Int32 := fun k s => if (k = 3 ∨ k = 5) ∧ j + 1 < s ∧ s ≤ b + 1 then f k (s - 1) else f k s
theorem shG_step {f : Nat → Nat → Int32} {j b : Nat} (hj : 1 ≤ j) (hb : j ≤ b) : s2 (s2 (shG f j b) 3 (j + 1) (f 3 j)) 5 (j + 1) (f 5 j) = shG f (j - 1) b := by
  funext k s
  simp only [s2_at, shG]
  by_cases hk3 : k = 3
  · subst hk3
    by_cases hs : s = j + 1
    · subst hs
      have : j - 1 + 1 < j + 1 := by omega
      simp [this, hb]
    · by_cases h2 : j + 1 < s
      · have : j - 1 + 1 < s := by omega
        simp [hs, h2, this]
      · have : ¬ j - 1 + 1 < s := by omega
        simp [hs, h2, this]
  · by_cases hk5 : k = 5
    · subst hk5
      by_cases hs : s = j + 1
      · subst hs
        have : j - 1 + 1 < j + 1 := by omega
        simp [this, hb]
      · by_cases h2 : j + 1 < s
        · have : j - 1 + 1 < s := by omega
          simp [hs, h2, this]
        · have : ¬ j - 1 + 1 < s := by omega
          simp [hs, h2, this]
    · simp [hk3, hk5]
theorem s_insCount {x : Nat} {y z : Int32} (w : WF h) (hc : CAt h.2.2 1 a) (ok : AOK a) (hx : x < 26) : ∀ (k i : Nat), i + k = aB a → f_B_insert_6 1 (nI x) y z (nI (cnt (fun i => decide (aL a (i + 1) < x)) i + 1)) (nI (i + 1)) h = f_B_insert_43 1 (nI x) y z (nI (les a x + 1)) (nI (aB a)) h
  | 0, i, hi => by
    have := ok.2.1
    obtain rfl : i = aB a := by omega
    rw [e_B_insert_6]
    simp only [oo_v, hI_k, kO_W w K1, if_true, hc.2.1]
    rw [if_pos (by rw [i_lt (by omega) (by omega)]; omega)]
    rfl
  | k + 1, i, hi => by
    have := ok.2.1
    have hcl := cnt_le (fun i => decide (aL a (i + 1) < x)) i
    have hL := (ok.2.2.2.2.2.2.1 (i + 1) (by omega) (by omega)).1
    have ih := s_insCount (y := y) (z := z) w hc ok hx k (i + 1) (by omega)
    rw [show cnt (fun i => decide (aL a (i + 1) < x)) (i + 1) = cnt (fun i => decide (aL a (i + 1) < x)) i + (decide (aL a (i + 1) < x)).toNat from rfl] at ih
    rw [e_B_insert_6]
    simp only [oo_v, hI_k, kO_W w K1, if_true, hc.2.1, hR_W w K1 (by omega) (show R0 1 2 = some 2 from rfl), kO_W w RW2.1, s_get w RW2 (show i + 1 < 6 by omega), cI_v, hc.2.2.1 (i + 1) (by omega) (by omega)]
    rw [if_neg (by rw [i_lt (by omega) (by omega)]; omega)]
    by_cases hlt : aL a (i + 1) < x
    · rw [if_neg (by rw [i_le (by omega) (by omega)]; omega), L1, i_add, i_add]
      rw [decide_eq_true hlt] at ih
      exact ih
    · rw [if_pos (by rw [i_le (by omega) (by omega)]; omega), L1, i_add]
      rw [decide_eq_false hlt] at ih
      exact ih
theorem s_insShift {x t y p : Nat} {f : Nat → Nat → Int32} (w : WF h) (hf : f 1 1 = nI (aB a)) (hb : aB a < 5) (ht1 : 1 ≤ t) (ht2 : t ≤ aB a + 1) : ∀ (k j : Nat), j + 1 = t + k → j ≤ aB a →
    f_B_insert_43 1 (nI x) (nI y) (nI p) (nI t) (nI j) (hS h (shG f j (aB a))) = f_B_insert_43 1 (nI x) (nI y) (nI p) (nI t) (nI (t - 1)) (hS h (shG f (t - 1) (aB a)))
  | 0, j, hj, hjb => by
    rw [show j = t - 1 by omega]
  | k + 1, j, hj, hjb => by
    have ih := s_insShift (x := x) (y := y) (p := p) w hf hb ht1 ht2 k (j - 1) (by omega) (by omega)
    have r2 := hR_W w K1 (by omega) (show R0 1 2 = some 2 from rfl)
    have r3 := hR_W w K1 (by omega) (show R0 1 3 = some 4 from rfl)
    have g3 : shG f j (aB a) 3 j = f 3 j := by simp [shG, show ¬ j + 1 < j by omega]
    have g5 : s2 (shG f j (aB a)) 3 (j + 1) (f 3 j) 5 j = f 5 j := by simp [s2_at, shG, show ¬ j + 1 < j by omega]
    rw [e_B_insert_43, if_neg (by rw [i_lt (by omega) (by omega)]; omega)]
    simp only [oo_v, hR_S, r2, kO_S, kO_W w RW2.1, if_true, s_get (WF_S w) RW2 (show j < 6 by omega), cI_v, hS_2, g3, L1, i_add, s_put (WF_S w) RW2 (show j + 1 < 6 by omega), cV_v, hS_S, r3, kO_W w RW4.1, s_get (WF_S w) RW4 (show j < 6 by omega), g5, s_put (WF_S w) RW4 (show j + 1 < 6 by omega), i_dec1 (show 1 ≤ j by omega)]
    rw [shG_step (by omega) hjb]
    exact ih
theorem shG_0 {f : Nat → Nat → Int32} {b : Nat} : shG f b b = f := by
  funext k s
  unfold shG
  rw [if_neg (by omega)]
theorem and_pow1 (n t : Nat) : n &&& (1 <<< t) - 1 = n % 2 ^ t := by rw [Nat.one_shiftLeft, Nat.and_two_pow_sub_one_eq_mod]
theorem insS_bit {S t s : Nat} (ht : 1 ≤ t) : (insS S t).testBit s = if s < t then S.testBit s else if s = t then false else S.testBit (s - 1) := by
  unfold insS
  rw [and_pow1]
  have h1 : S - S % 2 ^ t = (S >>> t) <<< t := by
    rw [Nat.shiftRight_eq_div_pow, Nat.shiftLeft_eq]
    have := Nat.mod_add_div S (2 ^ t)
    rw [Nat.mul_comm] at this
    omega
  rw [h1, Nat.testBit_or, Nat.testBit_shiftLeft, Nat.testBit_shiftLeft, Nat.testBit_shiftRight, Nat.testBit_mod_two_pow]
  by_cases h2 : s < t
  · rw [if_pos h2]
    have h3 : ¬ t ≤ s - 1 := by omega
    simp [h2, h3]
  · rw [if_neg h2]
    by_cases h3 : s = t
    · rw [if_pos h3]
      have h4 : ¬ t ≤ s - 1 := by omega
      simp [h2, h4]
    · rw [if_neg h3]
      have h4 : t ≤ s - 1 := by omega
      have h5 : 1 ≤ s := by omega
      simp [h2, h4, h5]
theorem insS_lt {S t b : Nat} (ht1 : 1 ≤ t) (hb : b < 5) (htb : t ≤ b + 1) (hS : ∀ s, S.testBit s = true → 1 ≤ s ∧ s ≤ b) : (∀ s, (insS S t).testBit s = true → 1 ≤ s ∧ s ≤ b + 1) ∧ insS S t < 64 := by
  have h1 : ∀ s, (insS S t).testBit s = true → 1 ≤ s ∧ s ≤ b + 1 := by
    intro s hs
    rw [insS_bit ht1] at hs
    split at hs
    · have := hS s hs
      omega
    · split at hs
      · cases hs
      · have := hS _ hs
        omega
  refine ⟨h1, Nat.lt_pow_two_of_testBit (n := 6) _ fun i hi => ?_⟩
  cases hbit : (insS S t).testBit i
  · rfl
  · have := h1 i hbit
    omega
theorem insS_i {S t : Nat} (hS : S < 64) (ht : t < 8) : ((nI S - (nI S &&& (((1 : Int32) <<< (nI t &&& 31)) - (1 : Int32)))) <<< ((1 : Int32) &&& 31)) ||| (nI S &&& (((1 : Int32) <<< (nI t &&& 31)) - (1 : Int32))) = nI (insS S t) := by
  have h1 : S &&& (1 <<< t) - 1 ≤ S := Nat.and_le_left
  rw [L1, i_shl (by omega), i_sub (shl1_pos ht), i_and, i_sub h1, i_shl (by omega), i_or]
  rfl
theorem up1_ok {t : Nat} (ht : t < 8) {P b : Nat} (hb : b < 5) (hv : VW b P) : ∀ q, q < 7 → up1 t (sl P q) < 8 := by
  intro q hq
  have := hv.2.1 q hq
  unfold up1
  split <;> omega
theorem s_insert {x y p : Nat} (w : WF h) (hc : CAt h.2.2 1 a) (ok : AOK a) (hx : x < 26) (hp : p < 7) (h5 : aB a < 5) : ∃ g, f_B_insert 1 (nI x) (nI y) (nI p) h = rV (hS h g) ∧ CAt g 1 (ins a x y p) ∧ Off h.2.2 g [1, 3, 5] := by
  obtain ⟨c1, c2, c3, c4, c5, c6, c7, c8, c9, c10⟩ := id hc
  have hles := les_le a x
  have ht : les a x + 1 < 8 := by omega
  have k1 := kO_W w K1
  have r2 := hR_W w K1 (by omega) (show R0 1 2 = some 2 from rfl)
  have r3 := hR_W w K1 (by omega) (show R0 1 3 = some 4 from rfl)
  have e0 := s_insCount (y := nI y) (z := nI p) w hc ok hx (aB a) 0 (by omega)
  have e1 := s_insShift (x := x) (y := y) (p := p) (f := h.2.2) w c2 h5 (show 1 ≤ les a x + 1 by omega) (by omega) (aB a - les a x) (aB a) (by omega) (Nat.le_refl _)
  rw [shG_0, hS_self] at e1
  rw [e_B_insert, L1]
  rw [show f_B_insert_6 1 (nI x) (nI y) (nI p) (nI 1) (nI 1) h = _ from e0, e1, e_B_insert_43, if_pos (by rw [i_lt (by omega) (by omega)]; omega)]
  have hS64 := ok.2.2.1
  have hv := ok.1
  have hu8 := up1_ok ht h5 hv
  generalize hT : les a x + 1 = T at *
  have g1 : ∀ j, shG h.2.2 (T - 1) (aB a) 1 j = h.2.2 1 j := fun j => by simp [shG]
  have hP1 : rnm (up1 T) (aP a) < 2097152 := pk7_lt hu8
  have hT6 : T < 6 := by omega
  have rn1 := s_renumber (h := hS h (s2 (s2 (shG h.2.2 (T - 1) (aB a)) 3 T (nI x)) 5 T (nI y))) (P := aP a) (t := T) (y := (1 : Int32)) (u := up1 T) (WF_S w) hv.1 (by simp [hS_2, s2_at, g1, c1]) (by omega) (fun q hq => ⟨hu8 q hq, fun hle => by rw [L1, i_add]; unfold up1; rw [if_pos hle], fun hlt => by unfold up1; rw [if_neg (by omega)]⟩)
  rw [hS_S, hS_2] at rn1
  simp only [oo_v, hI_k, hR_S, r2, r3, kO_S, k1, kO_W w RW2.1, kO_W w RW4.1, if_true, s_put (WF_S w) RW2 hT6, cV_v, hS_S, hS_2, s_put (WF_S w) RW4 hT6, rn1]
  have e5 : s2 (s2 (s2 (shG h.2.2 (T - 1) (aB a)) 3 T (nI x)) 5 T (nI y)) 1 0 (nI (rnm (up1 T) (aP a))) 1 4 = nI (aS a) := by simp [s2_at, g1, c5]
  have e6 : s2 (s2 (s2 (shG h.2.2 (T - 1) (aB a)) 3 T (nI x)) 5 T (nI y)) 1 0 (nI (rnm (up1 T) (aP a))) 1 1 = nI (aB a) := by simp [s2_at, g1, c2]
  have e7 : s2 (s2 (s2 (shG h.2.2 (T - 1) (aB a)) 3 T (nI x)) 5 T (nI y)) 1 0 (nI (rnm (up1 T) (aP a))) 1 0 = nI (rnm (up1 T) (aP a)) := by simp [s2_at]
  simp only [e5, insS_i hS64 ht, sI_S, hS_S, hS_2, kO_S, k1, if_true, oo_v]
  simp only [s2_at (k := 1) (j := 4), show ¬ (0 : Nat) = 4 by omega, if_true, if_false, e7, s_withSlot hP1 hp (show T < 8 by omega), cI_v, sI_S, hS_S, hS_2, kO_S, k1, oo_v]
  simp only [s2_at (k := 1) (j := 0) (b := 1), s2_at (k := 1) (j := 4) (b := 1), show ¬ (1 : Nat) = 0 by omega, show ¬ (1 : Nat) = 4 by omega, if_true, if_false, e6, L1, i_add]
  refine ⟨_, rfl, ?_, ?_⟩
  · unfold ins
    rw [hT]
    refine ⟨?_, ?_, fun s h1 h2 => ?_, fun s h1 h2 => ?_, ?_, ?_, ?_, ?_, ?_, ?_⟩
    · simp [s2_at]
    · show _ = nI (aB a + 1)
      simp [s2_at, g1, c2, i_add]
    · show _ = nI (if s < T then aL a s else if s = T then x else aL a (s - 1))
      have h2 : s ≤ aB a + 1 := h2
      simp only [s2_at, shG]
      by_cases z1 : s = T
      · subst z1; simp
      · by_cases z2 : s < T
        · have z3 : ¬ T - 1 + 1 < s := by omega
          have z4 := c3 s h1 (by omega)
          simp [z1, z2, z3, z4]
        · have z3 : T - 1 + 1 < s := by omega
          have z4 := c3 (s - 1) (by omega) (by omega)
          simp [z1, z2, z3, h2, z4]
    · show _ = nI (if s < T then aO a s else if s = T then y else aO a (s - 1))
      have h2 : s ≤ aB a + 1 := h2
      simp only [s2_at, shG]
      by_cases z1 : s = T
      · subst z1; simp
      · by_cases z2 : s < T
        · have z3 : ¬ T - 1 + 1 < s := by omega
          have z4 := c4 s h1 (by omega)
          simp [z1, z2, z3, z4]
        · have z3 : T - 1 + 1 < s := by omega
          have z4 := c4 (s - 1) (by omega) (by omega)
          simp [z1, z2, z3, h2, z4]
    · simp [s2_at]
    · simp [s2_at, g1, c6]
    · simp [s2_at, g1, c7]
    · simp [s2_at, g1, c8]
    · simp [s2_at, g1, c9]
    · simp [s2_at, g1, c10]
  · intro k hk
    funext j
    simp only [List.mem_cons, List.not_mem_nil, or_false, not_or] at hk
    obtain ⟨z1, z2, z3⟩ := hk
    simp [s2_at, shG, z1, z2, z3]
theorem cnt_mono {g : Nat → Bool} : ∀ (n : Nat), (∀ i j, i < n → j ≤ i → g i = true → g j = true) → ∀ i, i < n → (g i = true ↔ i < cnt g n)
  | 0, _, i, hi => by omega
  | n + 1, hg, i, hi => by
    have ih := cnt_mono n (fun i j h1 h2 => hg i j (by omega) h2)
    have hle := cnt_le g n
    show g i = true ↔ i < cnt g n + (g n).toNat
    cases hn : g n
    · show g i = true ↔ i < cnt g n
      by_cases h1 : i < n
      · exact ih i h1
      · obtain rfl : i = n := by omega
        rw [hn]
        simp
        omega
    · have hall : ∀ j, j < n → g j = true := fun j hj => hg n j (by omega) (by omega) hn
      have hc : cnt g n = n := by
        refine Nat.le_antisymm hle ?_
        cases n with
        | zero => omega
        | succ k =>
          have := (ih k (by omega)).mp (hall k (by omega))
          omega
      show g i = true ↔ i < cnt g n + 1
      rw [hc]
      constructor
      · intro _; omega
      · intro h1
        by_cases h2 : i < n
        · exact hall i h2
        · rw [show i = n by omega]; exact hn
theorem les_iff (ok : AOK a) {x s : Nat} (h1 : 1 ≤ s) (h2 : s ≤ aB a) : aL a s < x ↔ s ≤ les a x := by
  have hm := cnt_mono (g := fun i => decide (aL a (i + 1) < x)) (aB a) (fun i j hi hj hg => by
    have hg := of_decide_eq_true hg
    rcases Nat.lt_or_eq_of_le hj with h | h
    · have := ok.2.2.2.2.2.2.2 (j + 1) (i + 1) (by omega) (by omega) (by omega)
      exact decide_eq_true (by omega)
    · rw [h]; exact decide_eq_true hg) (s - 1) (by omega)
  rw [show s - 1 + 1 = s by omega, decide_eq_true_eq] at hm
  rw [hm]
  show s - 1 < les a x ↔ _
  omega
theorem ins_ok {x y p : Nat} (ok : AOK a) (hx : x < 26) (hy : 1 ≤ y ∧ y ≤ 9) (hp : p < 7) (h5 : aB a < 5) (h0 : sl (aP a) p = 0) (hn : ∀ s, 1 ≤ s → s ≤ aB a → aL a s ≠ x) : AOK (ins a x y p) := by
  obtain ⟨v1, v2, v3, v4, v5, v6, v7, v8⟩ := id ok
  have hles := les_le a x
  have hu8 := up1_ok (t := les a x + 1) (by omega) h5 v1
  have hQ := pk7_lt hu8
  have hsl : ∀ q, q < 7 → sl (rnm (up1 (les a x + 1)) (aP a)) q = up1 (les a x + 1) (sl (aP a) q) := fun q hq => pk7_sl hu8 hq
  have hi := insS_lt (t := les a x + 1) (by omega) h5 (by omega) v4
  have hli := fun s (h1 : 1 ≤ s) (h2 : s ≤ aB a) => les_iff (x := x) ok h1 h2
  have hqp : sl (rnm (up1 (les a x + 1)) (aP a)) p = 0 := by
    rw [hsl p hp, h0]
    unfold up1
    rw [if_neg (by omega)]
  unfold ins
  generalize hT : les a x + 1 = T at *
  refine ⟨⟨wsl_lt hQ hp (by omega), fun q hq => ?_, fun s h1 h2 => ?_⟩, by show aB a + 1 < 6; omega, hi.2, hi.1, v5, v6, fun s h1 h2 => ?_, fun s u h1 h2 h3 => ?_⟩
  · rw [sl_wsl hp hq (by omega)]
    have := v1.2.1 q hq
    show _ ≤ aB a + 1
    split
    · omega
    · rw [hsl q hq]
      unfold up1
      split <;> omega
  · have h2 : s ≤ aB a + 1 := h2
    have e1 := cs_wsl (P := rnm (up1 T) (aP a)) (p := p) (s := T) (t := s) hp (by omega)
    rw [hqp, show (0 == s) = false from by simp; omega] at e1
    have e2 : cs (rnm (up1 T) (aP a)) s = if s < T then cs (aP a) s else if s = T then 0 else cs (aP a) (s - 1) := by
      by_cases z1 : s < T
      · rw [if_pos z1]
        refine cnt_congr 7 (fun q hq => ?_)
        rw [hsl q hq]
        unfold up1
        split
        · rw [beq_eq_false_iff_ne.mpr (by omega), beq_eq_false_iff_ne.mpr (by omega)]
        · rfl
      · rw [if_neg z1]
        by_cases z2 : s = T
        · rw [if_pos z2]
          rw [show cs (rnm (up1 T) (aP a)) s = cnt (fun _ => false) 7 from cnt_congr 7 (fun q hq => by
            rw [hsl q hq]
            unfold up1
            split <;> exact beq_eq_false_iff_ne.mpr (by omega))]
          rfl
        · rw [if_neg z2]
          refine cnt_congr 7 (fun q hq => ?_)
          rw [hsl q hq]
          unfold up1
          split
          · by_cases z3 : sl (aP a) q = s - 1
            · rw [z3, beq_self_eq_true]
              exact beq_iff_eq.mpr (by omega)
            · rw [beq_eq_false_iff_ne.mpr (by omega), beq_eq_false_iff_ne.mpr z3]
          · rw [beq_eq_false_iff_ne.mpr (by omega), beq_eq_false_iff_ne.mpr (by omega)]
    rw [e2] at e1
    show cs _ s = 1
    by_cases z1 : s < T
    · rw [if_pos z1, v1.2.2 s h1 (by omega), show (T == s) = false from beq_eq_false_iff_ne.mpr (by omega)] at e1
      simpa using e1
    · rw [if_neg z1] at e1
      by_cases z2 : s = T
      · rw [if_pos z2, show (T == s) = true from beq_iff_eq.mpr z2.symm] at e1
        simpa using e1
      · rw [if_neg z2, v1.2.2 (s - 1) (by omega) (by omega), show (T == s) = false from beq_eq_false_iff_ne.mpr (by omega)] at e1
        simpa using e1
  · have h2 : s ≤ aB a + 1 := h2
    show (if s < T then aL a s else if s = T then x else aL a (s - 1)) < 26 ∧ 1 ≤ (if s < T then aO a s else if s = T then y else aO a (s - 1)) ∧ (if s < T then aO a s else if s = T then y else aO a (s - 1)) ≤ 9
    by_cases z1 : s < T
    · rw [if_pos z1, if_pos z1]
      exact v7 s h1 (by omega)
    · rw [if_neg z1, if_neg z1]
      by_cases z2 : s = T
      · rw [if_pos z2, if_pos z2]
        exact ⟨hx, hy⟩
      · rw [if_neg z2, if_neg z2]
        exact v7 (s - 1) (by omega) (by omega)
  · have h3 : u ≤ aB a + 1 := h3
    show (if s < T then aL a s else if s = T then x else aL a (s - 1)) < (if u < T then aL a u else if u = T then x else aL a (u - 1))
    by_cases z1 : s < T
    · rw [if_pos z1]
      by_cases z2 : u < T
      · rw [if_pos z2]
        exact v8 s u h1 h2 (by omega)
      · rw [if_neg z2]
        have y1 := (hli s h1 (by omega)).mpr (by omega)
        by_cases z3 : u = T
        · rw [if_pos z3]
          exact y1
        · rw [if_neg z3]
          by_cases z4 : s = u - 1
          · omega
          · exact v8 s (u - 1) h1 (by omega) (by omega)
    · rw [if_neg z1, if_neg (show ¬ u < T by omega), if_neg (show ¬ u = T by omega)]
      by_cases z2 : s = T
      · rw [if_pos z2]
        have y1 := mt (hli (u - 1) (by omega) (by omega)).mp (by omega)
        have y2 := hn (u - 1) (by omega) (by omega)
        omega
      · rw [if_neg z2]
        exact v8 (s - 1) (u - 1) (by omega) (by omega) (by omega)
end Ins
