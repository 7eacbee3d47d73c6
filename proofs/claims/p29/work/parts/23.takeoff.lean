/-! a book less -/
def takS (S t : Nat) : Nat := ((S >>> (t + 1)) <<< t) ||| (S &&& (1 <<< t) - 1)
/-- the book at place p comes off -/
def tak (a : AS) (p : Nat) : AS :=
  ((rnm (dn1 (sl (aP a) p)) (wsl (aP a) p 0), aB a - 1, takS (aS a) (sl (aP a) p), aF a, aC a), (fun s => if s < sl (aP a) p then aL a s else aL a (s + 1)), (fun s => if s < sl (aP a) p then aO a s else aO a (s + 1)), aM a, aE a, aR a)
theorem takS_i {S t : Nat} (hS : S < 64) (ht : t < 8) : ((ius (nI S) (nI t + (1 : Int32))) <<< (nI t &&& 31)) ||| (nI S &&& (((1 : Int32) <<< (nI t &&& 31)) - (1 : Int32))) = nI (takS S t) := by
  rw [L1, i_add, i_ius (by omega) (by omega), i_shl (by omega), i_shl (by omega), i_sub (shl1_pos ht), i_and, i_or]
  rfl
theorem takS_bit {S t s : Nat} : (takS S t).testBit s = if s < t then S.testBit s else S.testBit (s + 1) := by
  unfold takS
  rw [and_pow1, Nat.testBit_or, Nat.testBit_shiftLeft, Nat.testBit_shiftRight, Nat.testBit_mod_two_pow]
  by_cases h2 : s < t
  · rw [if_pos h2]
    have h3 : ¬ t ≤ s := by omega
    simp [h2, h3]
  · rw [if_neg h2]
    have h3 : t ≤ s := by omega
    have h4 : t + 1 + (s - t) = s + 1 := by omega
    simp [h2, h3, h4]
section Tak
variable {h : pH} {a : AS}
def shT (f : Nat → Nat → Int32) (t j : Nat) : Nat → Nat → Int32 := fun k s => if (k = 3 ∨ k = 5) ∧ t ≤ s ∧ s < j then f k (s + 1) else f k s
theorem shT_step {f : Nat → Nat → Int32} {t j : Nat} (hj : t ≤ j) : s2 (s2 (shT f t j) 3 j (f 3 (j + 1))) 5 j (f 5 (j + 1)) = shT f t (j + 1) := by
  funext k s
  simp only [s2_at, shT]
  by_cases hk3 : k = 3
  · subst hk3
    by_cases hs : s = j
    · subst hs
      simp [hj]
    · by_cases h2 : s < j
      · have : s < j + 1 := by omega
        simp [hs, h2, this]
      · have : ¬ s < j + 1 := by omega
        simp [hs, h2, this]
  · by_cases hk5 : k = 5
    · subst hk5
      by_cases hs : s = j
      · subst hs
        simp [hj]
      · by_cases h2 : s < j
        · have : s < j + 1 := by omega
          simp [hs, h2, this]
        · have : ¬ s < j + 1 := by omega
          simp [hs, h2, this]
    · simp [hk3, hk5]
theorem shT_0 {f : Nat → Nat → Int32} {t : Nat} : shT f t t = f := by
  funext k s
  unfold shT
  rw [if_neg (by omega)]
theorem s_takShift {t : Nat} {x : Int32} {f : Nat → Nat → Int32} (w : WF h) (hf : f 1 1 = nI (aB a)) (hb : aB a < 6) : ∀ (k j : Nat), j + k = aB a → t ≤ j →
    f_B_takeOff_34 1 (nI t) x (nI j) (hS h (shT f t j)) = f_B_takeOff_34 1 (nI t) x (nI (aB a)) (hS h (shT f t (aB a)))
  | 0, j, hj, htj => by rw [show j = aB a by omega]
  | k + 1, j, hj, htj => by
    have ih := s_takShift (t := t) (x := x) w hf hb k (j + 1) (by omega) (by omega)
    have r2 := hR_W w K1 (by omega) (show R0 1 2 = some 2 from rfl)
    have r3 := hR_W w K1 (by omega) (show R0 1 3 = some 4 from rfl)
    have k1 := kO_W w K1
    have g1 : shT f t j 1 1 = nI (aB a) := by simp [shT, hf]
    have g3 : shT f t j 3 (j + 1) = f 3 (j + 1) := by simp [shT, show ¬ j + 1 < j by omega]
    have g5 : s2 (shT f t j) 3 j (f 3 (j + 1)) 5 (j + 1) = f 5 (j + 1) := by simp [s2_at, shT, show ¬ j + 1 < j by omega]
    rw [e_B_takeOff_34]
    simp only [oo_v, hI_k, hR_S, r2, kO_S, k1, kO_W w RW2.1, if_true, hS_2, g1, L1, i_add, s_get (WF_S w) RW2 (show j + 1 < 6 by omega), cI_v, g3, s_put (WF_S w) RW2 (show j < 6 by omega), cV_v, hS_S, r3, kO_W w RW4.1, s_get (WF_S w) RW4 (show j + 1 < 6 by omega), g5, s_put (WF_S w) RW4 (show j < 6 by omega)]
    rw [if_neg (by rw [i_le (by omega) (by omega)]; omega), shT_step htj]
    exact ih
theorem s_takeOff {p : Nat} (w : WF h) (hc : CAt h.2.2 1 a) (ok : AOK a) (hp : p < 7) (h0 : sl (aP a) p ≠ 0) : ∃ g, f_B_takeOff 1 (nI p) h = rI (nI (aL a (sl (aP a) p))) (hS h g) ∧ CAt g 1 (tak a p) ∧ Off h.2.2 g [1, 3, 5] := by
  obtain ⟨c1, c2, c3, c4, c5, c6, c7, c8, c9, c10⟩ := id hc
  have v1 := ok.1
  have hb := ok.2.1
  have hS64 := ok.2.2.1
  have htb := v1.2.1 p hp
  have k1 := kO_W w K1
  have r2 := hR_W w K1 (by omega) (show R0 1 2 = some 2 from rfl)
  have e1 := s_takShift (t := sl (aP a) p) (x := nI (aL a (sl (aP a) p))) (f := s2 h.2.2 1 0 (nI (wsl (aP a) p 0))) w (by simp [s2_at, c2]) hb (aB a - sl (aP a) p) (sl (aP a) p) (by omega) (Nat.le_refl _)
  rw [shT_0] at e1
  rw [e_B_takeOff]
  simp only [oo_v, hI_k, k1, if_true, c1, s_slotAt v1.1 hp, cI_v, r2, kO_W w RW2.1, s_get w RW2 (show sl (aP a) p < 6 by omega), L0, s_withSlot v1.1 hp (show (0 : Nat) < 8 by omega), sI_S]
  rw [show h.2.2 (2 + 1) (sl (aP a) p) = nI (aL a (sl (aP a) p)) from c3 _ (by omega) htb, e1]
  unfold tak
  have hW : wsl (aP a) p 0 < 2097152 := wsl_lt v1.1 hp (by omega)
  have hsl : ∀ q, q < 7 → sl (wsl (aP a) p 0) q < 6 ∧ (q = p → sl (wsl (aP a) p 0) q = 0) := fun q hq => by
    rw [sl_wsl hp hq (by omega)]
    have := v1.2.1 q hq
    split
    · exact ⟨by omega, fun _ => rfl⟩
    · rename_i z
      exact ⟨by omega, fun y => absurd y z⟩
  generalize hT : sl (aP a) p = T at *
  generalize hQ : wsl (aP a) p 0 = Q at *
  have hd8 : ∀ q, q < 7 → dn1 T (sl Q q) < 8 := fun q hq => by
    have := (hsl q hq).1
    unfold dn1
    split <;> omega
  have g1 : ∀ j, shT (s2 h.2.2 1 0 (nI Q)) T (aB a) 1 j = if j = 0 then nI Q else h.2.2 1 j := fun j => by simp [shT, s2_at]
  have rn1 := s_renumber (h := hS h (shT (s2 h.2.2 1 0 (nI Q)) T (aB a))) (P := Q) (t := T + 1) (y := (-1 : Int32)) (u := dn1 T) (WF_S w) hW (by rw [hS_2, g1, if_pos rfl]) (by omega) (fun q hq => ⟨hd8 q hq, fun hle => by rw [i_dec (by omega)]; unfold dn1; rw [if_pos (by omega)], fun hlt => by unfold dn1; rw [if_neg (by omega)]⟩)
  rw [hS_S, hS_2] at rn1
  have e4 : s2 (shT (s2 h.2.2 1 0 (nI Q)) T (aB a)) 1 0 (nI (rnm (dn1 T) Q)) 1 4 = nI (aS a) := by simp [s2_at, g1, c5]
  have e5 : s2 (shT (s2 h.2.2 1 0 (nI Q)) T (aB a)) 1 0 (nI (rnm (dn1 T) Q)) 1 1 = nI (aB a) := by simp [s2_at, g1, c2]
  have e6 : shT (s2 h.2.2 1 0 (nI Q)) T (aB a) 1 1 = nI (aB a) := by simp [g1, c2]
  rw [e_B_takeOff_34]
  simp only [oo_v, hI_k, kO_S, k1, if_true, hS_2, e6]
  rw [if_pos (by rw [i_le (by omega) (by omega)]; exact Nat.le_refl _)]
  rw [show nI T + (1 : Int32) = nI (T + 1) from i_add T 1, rn1, cV_v]
  have ts := takS_i (S := aS a) (t := T) hS64 (by omega)
  rw [show nI T + (1 : Int32) = nI (T + 1) from i_add T 1] at ts
  simp only [oo_v, hI_k, kO_S, kO_I, k1, if_true, hS_2, hS_S, sI_S, e4, ts]
  simp only [s2_at (k := 1) (j := 4) (b := 1), show ¬ (1 : Nat) = 4 by omega, if_true, if_false, e5, L1, i_sub (show 1 ≤ aB a by omega)]
  refine ⟨_, rfl, ?_, ?_⟩
  · refine ⟨?_, ?_, fun s h1 h2 => ?_, fun s h1 h2 => ?_, ?_, ?_, ?_, ?_, ?_, ?_⟩
    · simp [s2_at]
    · simp [s2_at]
    · show _ = nI (if s < T then aL a s else aL a (s + 1))
      have h2 : s ≤ aB a - 1 := h2
      simp only [s2_at, shT]
      by_cases z2 : s < T
      · have z4 := c3 s h1 (by omega)
        have z5 : ¬ T ≤ s := by omega
        simp [z2, z4, z5]
      · have z4 := c3 (s + 1) (by omega) (by omega)
        have z5 : T ≤ s := by omega
        have z6 : s < aB a := by omega
        simp [z2, z4, z5, z6]
    · show _ = nI (if s < T then aO a s else aO a (s + 1))
      have h2 : s ≤ aB a - 1 := h2
      simp only [s2_at, shT]
      by_cases z2 : s < T
      · have z4 := c4 s h1 (by omega)
        have z5 : ¬ T ≤ s := by omega
        simp [z2, z4, z5]
      · have z4 := c4 (s + 1) (by omega) (by omega)
        have z5 : T ≤ s := by omega
        have z6 : s < aB a := by omega
        simp [z2, z4, z5, z6]
    · simp [s2_at]
    · simp [s2_at, g1, c6]
    · simp [s2_at, g1, c7]
    · simp [s2_at, g1, c8]
    · simp [s2_at, g1, c9]
    · simp [s2_at, g1, c10]
  · intro k hk
    funext j
    simp only [List.mem_cons, List.not_mem_nil, or_false, not_or] at hk
    obtain ⟨z1, z2, z3⟩ := hk
    simp [s2_at, shT, z1, z2, z3]
theorem cs_at {b P p : Nat} (hv : VW b P) (hp : p < 7) (h0 : sl P p ≠ 0) : ∀ q, q < 7 → sl P q = sl P p → q = p := by
  intro q hq he
  have h1 := hv.2.2 (sl P p) (by omega) (hv.2.1 p hp)
  by_cases hqp : q = p
  · exact hqp
  · exfalso
    have e1 := cs_wsl (P := P) (p := q) (s := 0) (t := sl P p) hq (by omega)
    have e2 := cs_wsl (P := wsl P q 0) (p := p) (s := 0) (t := sl P p) hp (by omega)
    rw [sl_wsl hq hp (by omega), if_neg (Ne.symm hqp)] at e2
    rw [he] at e1
    have z : (0 == sl P p) = false := beq_eq_false_iff_ne.mpr (by omega)
    rw [z, beq_self_eq_true] at e1 e2
    simp only [Bool.toNat_true, Bool.toNat_false] at e1 e2
    omega
theorem tak_ok {p : Nat} (ok : AOK a) (hp : p < 7) (h0 : sl (aP a) p ≠ 0) : AOK (tak a p) := by
  obtain ⟨v1, v2, v3, v4, v5, v6, v7, v8⟩ := id ok
  have htb := v1.2.1 p hp
  have hW : wsl (aP a) p 0 < 2097152 := wsl_lt v1.1 hp (by omega)
  have hslq : ∀ q, q < 7 → sl (wsl (aP a) p 0) q = if q = p then 0 else sl (aP a) q := fun q hq => sl_wsl hp hq (by omega)
  have hne : ∀ q, q < 7 → sl (wsl (aP a) p 0) q ≠ sl (aP a) p := fun q hq he => by
    rw [hslq q hq] at he
    split at he
    · omega
    · rename_i z
      exact z (cs_at v1 hp h0 q hq he)
  have hcs := fun t => cs_wsl (P := aP a) (p := p) (s := 0) (t := t) hp (by omega)
  unfold tak
  generalize hT : sl (aP a) p = T at *
  have hd8 : ∀ q, q < 7 → dn1 T (sl (wsl (aP a) p 0) q) < 8 := fun q hq => by
    have := v1.2.1 q hq
    rw [hslq q hq]
    unfold dn1
    split <;> split <;> omega
  have hsl : ∀ q, q < 7 → sl (rnm (dn1 T) (wsl (aP a) p 0)) q = dn1 T (sl (wsl (aP a) p 0) q) := fun q hq => pk7_sl hd8 hq
  have hbit : ∀ s, (takS (aS a) T).testBit s = true → 1 ≤ s ∧ s ≤ aB a - 1 := by
    intro s hs
    rw [takS_bit] at hs
    split at hs
    · have := v4 s hs
      omega
    · have := v4 _ hs
      omega
  refine ⟨⟨pk7_lt hd8, fun q hq => ?_, fun s h1 h2 => ?_⟩, by show aB a - 1 < 6; omega, ?_, hbit, v5, v6, fun s h1 h2 => ?_, fun s u h1 h2 h3 => ?_⟩
  · have e1 := v1.2.1 q hq
    have e2 := hne q hq
    show sl (rnm (dn1 T) (wsl (aP a) p 0)) q ≤ aB a - 1
    rw [hsl q hq]
    rw [hslq q hq] at e2 ⊢
    unfold dn1
    split at e2 <;> (repeat' split) <;> omega
  · have h2 : s ≤ aB a - 1 := h2
    show cs (rnm (dn1 T) (wsl (aP a) p 0)) s = 1
    by_cases z1 : s < T
    · have e1 : cs (rnm (dn1 T) (wsl (aP a) p 0)) s = cs (wsl (aP a) p 0) s := cnt_congr 7 (fun q hq => by
        rw [hsl q hq]
        have := hne q hq
        unfold dn1
        split
        · rw [beq_eq_false_iff_ne.mpr (by omega), beq_eq_false_iff_ne.mpr (by omega)]
        · rfl)
      have e2 := hcs s
      rw [v1.2.2 s h1 (by omega), show (T == s) = false from beq_eq_false_iff_ne.mpr (by omega), show (0 == s) = false from beq_eq_false_iff_ne.mpr (by omega)] at e2
      rw [e1]
      simpa using e2
    · have e1 : cs (rnm (dn1 T) (wsl (aP a) p 0)) s = cs (wsl (aP a) p 0) (s + 1) := cnt_congr 7 (fun q hq => by
        rw [hsl q hq]
        have := hne q hq
        unfold dn1
        split
        · by_cases z3 : sl (wsl (aP a) p 0) q = s + 1
          · rw [z3, beq_self_eq_true]
            exact beq_iff_eq.mpr (by omega)
          · rw [beq_eq_false_iff_ne.mpr (by omega), beq_eq_false_iff_ne.mpr z3]
        · rw [beq_eq_false_iff_ne.mpr (by omega), beq_eq_false_iff_ne.mpr (by omega)])
      have e2 := hcs (s + 1)
      rw [v1.2.2 (s + 1) (by omega) (by omega), show (T == s + 1) = false from beq_eq_false_iff_ne.mpr (by omega), show (0 == s + 1) = false from beq_eq_false_iff_ne.mpr (by omega)] at e2
      rw [e1]
      simpa using e2
  · refine Nat.lt_pow_two_of_testBit (n := 6) _ fun i hi => ?_
    cases hb : (takS (aS a) T).testBit i
    · rfl
    · have := hbit i hb
      omega
  · have h2 : s ≤ aB a - 1 := h2
    show (if s < T then aL a s else aL a (s + 1)) < 26 ∧ 1 ≤ (if s < T then aO a s else aO a (s + 1)) ∧ (if s < T then aO a s else aO a (s + 1)) ≤ 9
    by_cases z1 : s < T
    · rw [if_pos z1, if_pos z1]
      exact v7 s h1 (by omega)
    · rw [if_neg z1, if_neg z1]
      exact v7 (s + 1) (by omega) (by omega)
  · have h3 : u ≤ aB a - 1 := h3
    show (if s < T then aL a s else aL a (s + 1)) < (if u < T then aL a u else aL a (u + 1))
    by_cases z1 : s < T
    · rw [if_pos z1]
      by_cases z2 : u < T
      · rw [if_pos z2]
        exact v8 s u h1 h2 (by omega)
      · rw [if_neg z2]
        exact v8 s (u + 1) h1 (by omega) (by omega)
    · rw [if_neg z1, if_neg (show ¬ u < T by omega)]
      exact v8 (s + 1) (u + 1) (by omega) (by omega) (by omega)
end Tak
