/-! words as numbers to the base 27 -/
def spL (c : Nat → Nat) : Nat → Nat
  | 0 => 0
  | k + 1 => 27 * spL c k + c k
theorem spL_lt {c : Nat → Nat} : ∀ k, (∀ i, i < k → c i ≤ 26) → spL c k < 27 ^ k
  | 0, _ => by show 0 < 1; omega
  | k + 1, h => by
    have h1 := spL_lt k (fun i hi => h i (by omega))
    have h2 := h k (by omega)
    rw [Nat.pow_succ]
    show 27 * spL c k + c k < _
    omega
theorem spL_congr {c c' : Nat → Nat} : ∀ k, (∀ i, i < k → c i = c' i) → spL c k = spL c' k
  | 0, _ => rfl
  | k + 1, h => by
    show 27 * spL c k + c k = 27 * spL c' k + c' k
    rw [spL_congr k (fun i hi => h i (by omega)), h k (by omega)]
/-- the first place that differs decides -/
theorem spL_lex {c c' : Nat → Nat} {n p : Nat} (hp : p < n) (he : ∀ i, i < p → c i = c' i) (hl : c p < c' p) (h26 : ∀ i, i < n → c i ≤ 26) : spL c n < spL c' n := by
  obtain ⟨k, rfl⟩ : ∃ k, n = p + 1 + k := ⟨n - (p + 1), by omega⟩
  induction k with
  | zero =>
    show 27 * spL c p + c p < 27 * spL c' p + c' p
    rw [spL_congr p he]
    omega
  | succ k ih =>
    have := ih (by omega) (fun i hi => h26 i (by omega))
    have h1 := h26 (p + 1 + k) (by omega)
    show 27 * spL c (p + 1 + k) + c (p + 1 + k) < 27 * spL c' (p + 1 + k) + c' (p + 1 + k)
    omega
/-- a place's sign as a digit -/
def dgL (a : AS) (P p : Nat) : Nat := if sl P p = 0 then 0 else aL a (sl P p) + 1
theorem dgL_le {a : AS} {P p : Nat} (ha : AOK a) (hv : VW (aB a) P) (hp : p < 7) : dgL a P p ≤ 26 := by
  unfold dgL
  by_cases h0 : sl P p = 0
  · rw [if_pos h0]; omega
  · rw [if_neg h0]
    have := (ha.2.2.2.2.2.2.1 (sl P p) (by omega) (hv.2.1 p hp)).1
    omega
theorem bm64 {n : Nat} (h : n < 9223372036854775808) : Int.bmod (n : Int) (2 ^ 64) = (n : Int) := Int.bmod_eq_of_le (by omega) (by omega)
theorem j_step {q : Int64} {n c : Nat} {x : Int32} (hq : q.toInt = (n : Int)) (hn : n < 387420489) (hx : x = nI c) (hc : c ≤ 26) : (((Int32.toInt64 (27 : Int32)) * q) + Int32.toInt64 x).toInt = ((27 * n + c : Nat) : Int) := by
  have e1 : (Int32.toInt64 (27 : Int32)).toInt = 27 := by rw [Int32.toInt_toInt64]; rfl
  have e2 : (Int32.toInt64 x).toInt = (c : Int) := by rw [Int32.toInt_toInt64, hx, i_toInt (by omega)]
  have e3 : (27 : Int) * (n : Int) = ((27 * n : Nat) : Int) := by omega
  have e4 : ((27 * n : Nat) : Int) + (c : Int) = ((27 * n + c : Nat) : Int) := by omega
  rw [Int64.toInt_add, Int64.toInt_mul, e1, hq, e2, e3, bm64 (by omega), e4, bm64 (by omega)]
section Spelt
variable {z : ZS}
theorem s_spelt_5 {r : Nat} (hr : r < wds (aB (zA z))) : ∀ (k p : Nat) (q : Int64) (h : pH), p + k = 7 → Sg h z → q.toInt = (spL (dgL (zA z) (wd (aB (zA z)) r)) p : Int) →
    ∃ h1 q', f_L_spelt_5 0 (nI r) q (nI p) h = rL q' h1 ∧ Sg h1 z ∧ q'.toInt = (spL (dgL (zA z) (wd (aB (zA z)) r)) 7 : Int)
  | 0, p, q, h, hp, s, hq => by
    obtain rfl : p = 7 := by omega
    refine ⟨h, q, ?_, s, hq⟩
    rw [e_L_spelt_5, if_pos (by decide)]
  | k + 1, p, q, h, hp, s, hq => by
    have ha := s.2.1.1
    have hv := wd_VW ha.2.1 hr
    have hw := wds_lt ha.2.1
    obtain ⟨h1, e1, s1⟩ := x_word (nI r) (nI p) s
    have hlt : spL (dgL (zA z) (wd (aB (zA z)) r)) p < 387420489 := by
      have h1 := spL_lt (c := dgL (zA z) (wd (aB (zA z)) r)) p (fun i hi => dgL_le ha hv (by omega))
      have h2 : 27 ^ p ≤ 27 ^ 6 := Nat.pow_le_pow_right (by omega) (by omega)
      have h3 : 27 ^ 6 = 387420489 := rfl
      omega
    rw [e_L_spelt_5, if_neg (by rw [L7, i_le (by omega) (by omega)]; omega), if_pos (kO7 s), e1, cI_v, L1, i_add]
    have hs : (sWord z (nI r) (nI p)).1 = if sl (wd (aB (zA z)) r) p = 0 then -4 else nI (aL (zA z) (sl (wd (aB (zA z)) r) p)) := by
      show (if inb (nI r) (wds (aB (zA z))) = true ∧ inb (nI p) 7 = true then _ else _) = _
      rw [if_pos ⟨inb_of hr (by omega), inb_of (by omega) (by omega)⟩]
      simp only [cl, i_clamp (show r < 2147483648 by omega), i_clamp (show p < 2147483648 by omega)]
    rw [hs]
    by_cases h0 : sl (wd (aB (zA z)) r) p = 0
    · rw [if_pos h0, if_pos rfl]
      refine s_spelt_5 hr k (p + 1) _ h1 (by omega) s1 ?_
      rw [j_step hq hlt (c := 0) (x := 0) rfl (by omega)]
      show ((27 * spL (dgL (zA z) (wd (aB (zA z)) r)) p + 0 : Nat) : Int) = ((27 * spL (dgL (zA z) (wd (aB (zA z)) r)) p + dgL (zA z) (wd (aB (zA z)) r) p : Nat) : Int)
      rw [show dgL (zA z) (wd (aB (zA z)) r) p = 0 from if_pos h0]
    · have h26 := (ha.2.2.2.2.2.2.1 (sl (wd (aB (zA z)) r) p) (by omega) (hv.2.1 p (by omega))).1
      rw [if_neg h0, if_neg (fun e => by have h9 := i_nneg (show aL (zA z) (sl (wd (aB (zA z)) r) p) < 2147483648 by omega); rw [e] at h9; exact absurd (by decide) h9), i_add]
      refine s_spelt_5 hr k (p + 1) _ h1 (by omega) s1 ?_
      rw [j_step hq hlt (c := aL (zA z) (sl (wd (aB (zA z)) r) p) + 1) rfl (by omega)]
      show _ = ((27 * spL (dgL (zA z) (wd (aB (zA z)) r)) p + dgL (zA z) (wd (aB (zA z)) r) p : Nat) : Int)
      rw [show dgL (zA z) (wd (aB (zA z)) r) p = _ from if_neg h0]
theorem s_spelt {r : Nat} {h : pH} (hr : r < wds (aB (zA z))) (s : Sg h z) : ∃ h1 q', f_L_spelt 0 (nI r) h = rL q' h1 ∧ Sg h1 z ∧ q'.toInt = (spL (dgL (zA z) (wd (aB (zA z)) r)) 7 : Int) := by
  rw [e_L_spelt]
  exact s_spelt_5 hr 7 0 _ h rfl s (by rw [Int32.toInt_toInt64]; rfl)
theorem s_now_4 : ∀ (k p : Nat) (q : Int64) (h : pH), p + k = 7 → Sg h z → q.toInt = (spL (dgL (zA z) (aP (zA z))) p : Int) →
    ∃ h1 q', f_L_now_4 0 q (nI p) h = rL q' h1 ∧ Sg h1 z ∧ q'.toInt = (spL (dgL (zA z) (aP (zA z))) 7 : Int)
  | 0, p, q, h, hp, s, hq => by
    obtain rfl : p = 7 := by omega
    refine ⟨h, q, ?_, s, hq⟩
    rw [e_L_now_4, if_pos (by decide)]
  | k + 1, p, q, h, hp, s, hq => by
    have ha := s.2.1.1
    have hv := ha.1
    obtain ⟨h1, e1, s1⟩ := x_at (nI p) (0 : Int32) s
    have hlt : spL (dgL (zA z) (aP (zA z))) p < 387420489 := by
      have h1 := spL_lt (c := dgL (zA z) (aP (zA z))) p (fun i hi => dgL_le ha hv (by omega))
      have h2 : 27 ^ p ≤ 27 ^ 6 := Nat.pow_le_pow_right (by omega) (by omega)
      have h3 : 27 ^ 6 = 387420489 := rfl
      omega
    rw [e_L_now_4, if_neg (by rw [L7, i_le (by omega) (by omega)]; omega), if_pos (kO7 s), e1, cI_v, L1, i_add]
    have hs : (sAt z (nI p) 0).1 = if sl (aP (zA z)) p = 0 then -4 else nI (aL (zA z) (sl (aP (zA z)) p)) := by
      show (if inb (nI p) 7 = true ∧ inb (0 : Int32) 6 = true then _ else _) = _
      rw [if_pos ⟨inb_of (by omega) (by omega), by decide⟩]
      simp only [cl, i_clamp (show p < 2147483648 by omega)]
      rfl
    rw [hs]
    by_cases h0 : sl (aP (zA z)) p = 0
    · rw [if_pos h0, if_pos rfl]
      refine s_now_4 k (p + 1) _ h1 (by omega) s1 ?_
      rw [j_step hq hlt (c := 0) (x := 0) rfl (by omega)]
      show ((27 * spL (dgL (zA z) (aP (zA z))) p + 0 : Nat) : Int) = ((27 * spL (dgL (zA z) (aP (zA z))) p + dgL (zA z) (aP (zA z)) p : Nat) : Int)
      rw [show dgL (zA z) (aP (zA z)) p = 0 from if_pos h0]
    · have h26 := (ha.2.2.2.2.2.2.1 (sl (aP (zA z)) p) (by omega) (hv.2.1 p (by omega))).1
      rw [if_neg h0, if_neg (fun e => by have h9 := i_nneg (show aL (zA z) (sl (aP (zA z)) p) < 2147483648 by omega); rw [e] at h9; exact absurd (by decide) h9), i_add]
      refine s_now_4 k (p + 1) _ h1 (by omega) s1 ?_
      rw [j_step hq hlt (c := aL (zA z) (sl (aP (zA z)) p) + 1) rfl (by omega)]
      show _ = ((27 * spL (dgL (zA z) (aP (zA z))) p + dgL (zA z) (aP (zA z)) p : Nat) : Int)
      rw [show dgL (zA z) (aP (zA z)) p = _ from if_neg h0]
theorem s_now {h : pH} (s : Sg h z) : ∃ h1 q', f_L_now 0 h = rL q' h1 ∧ Sg h1 z ∧ q'.toInt = (spL (dgL (zA z) (aP (zA z))) 7 : Int) := by
  rw [e_L_now]
  exact s_now_4 7 0 _ h rfl s (by rw [Int32.toInt_toInt64]; rfl)
end Spelt
/-! the words of the dictionary rise -/
def lxL : Nat → Nat → Nat → Nat → Bool
  | 0, _, _, _ => false
  | k + 1, p, P, Q => if sl P p = sl Q p then lxL k (p + 1) P Q else decide (sl P p < sl Q p)
def riB (l : List Nat) : Bool := (l.zip (l.drop 1)).all fun q => lxL 7 0 q.1 q.2
theorem ri_0 : riB (allW 0) = true := by decide +kernel
theorem ri_1 : riB (allW 1) = true := by decide +kernel
theorem ri_2 : riB (allW 2) = true := by decide +kernel
theorem ri_3 : riB (allW 3) = true := by decide +kernel
theorem ri_4 : riB (allW 4) = true := by decide +kernel
theorem ri_5 : riB (allW 5) = true := by decide +kernel
theorem ri_all {b : Nat} (hb : b < 6) : riB (allW b) = true := by
  rcases (show b = 0 ∨ b = 1 ∨ b = 2 ∨ b = 3 ∨ b = 4 ∨ b = 5 by omega) with rfl | rfl | rfl | rfl | rfl | rfl
  · exact ri_0
  · exact ri_1
  · exact ri_2
  · exact ri_3
  · exact ri_4
  · exact ri_5
theorem lxL_spec {P Q : Nat} : ∀ (k p : Nat), p + k = 7 → lxL k p P Q = true → ∃ i, p ≤ i ∧ i < 7 ∧ (∀ j, p ≤ j → j < i → sl P j = sl Q j) ∧ sl P i < sl Q i
  | 0, _, _, h => by cases h
  | k + 1, p, hp, h => by
    unfold lxL at h
    by_cases he : sl P p = sl Q p
    · rw [if_pos he] at h
      obtain ⟨i, h1, h2, h3, h4⟩ := lxL_spec k (p + 1) (by omega) h
      refine ⟨i, by omega, h2, fun j j1 j2 => ?_, h4⟩
      by_cases hj : j = p
      · rw [hj]; exact he
      · exact h3 j (by omega) j2
    · rw [if_neg he] at h
      exact ⟨p, Nat.le_refl _, by omega, fun j j1 j2 => by omega, of_decide_eq_true h⟩
theorem wd_lex {b r : Nat} (hb : b < 6) (hr : r + 1 < wds b) : ∃ i, i < 7 ∧ (∀ j, j < i → sl (wd b r) j = sl (wd b (r + 1)) j) ∧ sl (wd b r) i < sl (wd b (r + 1)) i := by
  have h1 := allW_at hb (show r < wds b by omega)
  have h2 := allW_at hb hr
  have h3 : ((allW b).zip ((allW b).drop 1))[r]? = some (wd b r, wd b (r + 1)) := by
    rw [List.getElem?_zip_eq_some]
    refine ⟨h1, ?_⟩
    rw [List.getElem?_drop, Nat.add_comm 1 r]
    exact h2
  have h4 := List.all_eq_true.mp (ri_all hb) _ (List.mem_of_getElem? h3)
  obtain ⟨i, -, i2, i3, i4⟩ := lxL_spec 7 0 rfl h4
  exact ⟨i, i2, fun j hj => i3 j (Nat.zero_le _) hj, i4⟩
theorem sp_rise {a : AS} {r : Nat} (ha : AOK a) (hr : r + 1 < wds (aB a)) : spL (dgL a (wd (aB a) r)) 7 < spL (dgL a (wd (aB a) (r + 1))) 7 := by
  have hb := ha.2.1
  obtain ⟨i, h1, h2, h3⟩ := wd_lex hb hr
  have hv := wd_VW hb (show r < wds (aB a) by omega)
  have hv' := wd_VW hb hr
  refine spL_lex h1 (fun j hj => ?_) ?_ (fun j hj => dgL_le ha hv hj)
  · unfold dgL
    rw [h2 j hj]
  · unfold dgL
    have h4 := hv'.2.1 i h1
    by_cases h0 : sl (wd (aB a) r) i = 0
    · rw [if_pos h0, if_neg (by omega)]; omega
    · rw [if_neg h0, if_neg (by omega)]
      have := ha.2.2.2.2.2.2.2 _ _ (by omega) h3 h4
      omega
