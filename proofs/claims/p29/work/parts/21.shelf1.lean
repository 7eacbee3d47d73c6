/-! the shelf of now: what a move costs, moves, sums, keys -/
theorem K1 : K0[1]? = some (.inl 6) := rfl
theorem RW2 : rowW 2 6 := by unfold rowW; decide
theorem RW4 : rowW 4 6 := by unfold rowW; decide
def prc (o : Nat → Nat) (P m : Nat) : Nat := if m < 7 then o (sl P m) else max (o (sl P (plc m))) (o (sl P (plc m + 1)))
theorem imax_n {a b : Nat} (ha : a < 2147483648) (hb : b < 2147483648) : imax (nI a) (nI b) = nI (max a b) := by
  unfold imax
  by_cases h : a < b
  · rw [if_pos (by rw [i_lt ha hb]; exact h), Nat.max_eq_right (by omega)]
  · rw [if_neg (by rw [i_lt ha hb]; exact h), Nat.max_eq_left (by omega)]
theorem imin_n {a b : Nat} (ha : a < 2147483648) (hb : b < 2147483648) : imin (nI a) (nI b) = nI (min a b) := by
  unfold imin
  by_cases h : b < a
  · rw [if_pos (by rw [i_lt hb ha]; exact h), Nat.min_eq_right (by omega)]
  · rw [if_neg (by rw [i_lt hb ha]; exact h), Nat.min_eq_left (by omega)]
theorem rsn_pull {P S m : Nat} (h7 : m < 7) (h0 : rsn P S m = 0) : sl P m ≠ 0 ∧ S.testBit (sl P m) = false := by
  unfold rsn at h0
  rw [if_pos h7] at h0
  split at h0
  · omega
  · rename_i h1
    split at h0
    · omega
    · rename_i h2
      exact ⟨h1, by simpa using h2⟩
section Sh1
variable {h : pH} {a : AS} {m : Nat}
theorem s_price {r b P S : Nat} {o : Nat → Nat} (w : WF h) (q : rowW r 6) (hb : b < 6) (hv : VW b P) (ho : ∀ s, 1 ≤ s → s ≤ b → h.2.2 (r + 1) s = nI (o s) ∧ o s ≤ 9) (hm : m < 19) (h0 : rsn P S m = 0) : f_N_price (nI P) r (nI m) h = rI (nI (prc o P m)) h := by
  have hp := plc_lt hm
  have k1 := kO_W w q.1
  have b0 := hv.2.1 (plc m) hp
  unfold prc
  rw [e_N_price, s_placeOf hm, cI_v, s_slotAt hv.1 hp, cI_v, if_pos k1, s_get w q (by omega), cI_v, s_isPull hm, cI_v]
  by_cases h7 : m < 7
  · have hpm : plc m = m := by unfold plc; rw [if_pos h7]
    have h1 := rsn_pull h7 h0
    rw [hpm] at b0 ⊢
    rw [if_pos h7, if_pos h7, if_neg (by decide), (ho _ (by omega) b0).1]
  · obtain ⟨h1, h2, -, -⟩ := rsn_push hm h7 h0
    have hp6 := plc_lt6 hm h7
    have b1 := hv.2.1 (plc m + 1) (by omega)
    have o1 := ho (sl P (plc m)) (by omega) b0
    have o2 := ho (sl P (plc m + 1)) (by omega) b1
    rw [if_neg h7, if_neg h7, if_pos (by decide), L1, i_add, s_slotAt hv.1 (by omega), cI_v, if_pos k1, s_get w q (by omega), cI_v, o1.1, o2.1, imax_n (by omega) (by omega)]
/-- a move is made, or counted as refused -/
def mv (a : AS) (m : Nat) : AS := if rsn (aP a) (aS a) m = 0 then ((aft (aP a) m, aB a, aS a, aF a, aC a), aL a, aO a, aM a + 1, aE a + nI (prc (aO a) (aP a) m), aR a) else ((aP a, aB a, aS a, aF a, aC a), aL a, aO a, aM a, aE a, aR a + 1)
theorem mv_ok (ok : AOK a) (hm : m < 19) : AOK (mv a m) := by
  unfold mv
  split
  · rename_i h0
    exact ⟨aft_VW ok.2.1 ok.1 hm h0, ok.2⟩
  · exact ok
theorem mv_b : aB (mv a m) = aB a := by
  unfold mv
  split <;> rfl
theorem s_tryMove (w : WF h) (hc : CAt h.2.2 1 a) (ok : AOK a) (hm : m < 19) : ∃ g, f_B_tryMove 1 (nI m) h = rI (nI (rsn (aP a) (aS a) m)) (hS h g) ∧ CAt g 1 (mv a m) ∧ Off h.2.2 g [1] := by
  obtain ⟨c1, c2, c3, c4, c5, c6, c7, c8, c9, c10⟩ := id hc
  obtain ⟨v1, v2, v3, v4, v5, v6, v7, v8⟩ := id ok
  have k1 := kO_W w K1
  have r3 := hR_W w K1 (by omega) (show R0 1 3 = some 4 from rfl)
  rw [e_B_tryMove]
  simp only [oo_v, hI_k, k1, if_true, c1, c5, s_reason v1.1 (show aS a < 2147483648 by omega) hm, cI_v]
  by_cases h0 : rsn (aP a) (aS a) m = 0
  · have pr : ∀ g : Nat → Nat → Int32, Off h.2.2 g [1] → f_N_price (nI (aP a)) 4 (nI m) (hS h g) = rI (nI (prc (aO a) (aP a) m)) (hS h g) := by
      intro g hg
      refine s_price (WF_S w) RW4 v2 v1 (fun s h1 h2 => ⟨?_, (v7 s h1 h2).2.2⟩) hm h0
      show g 5 s = _
      rw [hg 5 (by simp)]
      exact c4 s h1 h2
    have n0 : ¬ (0 : Nat) = 7 := by omega
    have n1 : ¬ (8 : Nat) = 7 := by omega
    rw [h0, if_pos (by decide)]
    simp only [oo_v, hI_k, kO_I, kO_S, hR_I, hR_S, k1, r3, if_true, sI_S, hS_S, hS_2, s2_at, c1, c8, c9, n0, n1, if_false]
    rw [pr _ (s2_off (by simp)), cI_v]
    simp only [oo_v, hI_k, kO_I, kO_S, k1, if_true, sI_S, hS_S, hS_2, s2_at, c1, n0, if_false, cI_v, s_after v1.1 hm h0, show ¬ (0 : Nat) = 8 by omega]
    refine ⟨_, rfl, ?_, ?_⟩
    · unfold mv
      rw [if_pos h0]
      refine ⟨?_, ?_, fun s h1 h2 => ?_, fun s h1 h2 => ?_, ?_, ?_, ?_, ?_, ?_, ?_⟩
      · simp [s2_at]
      · simp [s2_at, c2]
      · simpa [s2_at] using c3 s h1 h2
      · simpa [s2_at] using c4 s h1 h2
      · simp [s2_at, c5]
      · simp [s2_at, c6]
      · simp [s2_at, c7]
      · simp [s2_at]
      · simp [s2_at]
      · simp [s2_at, c10]
    · exact Off.tr (Off.tr (s2_off (by simp)) (s2_off (by simp))) (s2_off (by simp))
  · have hlt := rsn_lt (aP a) (aS a) m
    rw [if_neg (by rw [i_eq0 (by omega)]; exact h0)]
    simp only [oo_v, hI_k, k1, if_true, c10, sI_S]
    refine ⟨_, rfl, ?_, s2_off (by simp)⟩
    unfold mv
    rw [if_neg h0]
    refine ⟨?_, ?_, fun s h1 h2 => ?_, fun s h1 h2 => ?_, ?_, ?_, ?_, ?_, ?_, ?_⟩
    · simp [s2_at, c1]
    · simp [s2_at, c2]
    · simpa [s2_at] using c3 s h1 h2
    · simpa [s2_at] using c4 s h1 h2
    · simp [s2_at, c5]
    · simp [s2_at, c6]
    · simp [s2_at, c7]
    · simp [s2_at, c8]
    · simp [s2_at, c9]
    · simp [s2_at]
theorem s_rankOfNow (w : WF h) (hc : CAt h.2.2 1 a) (ok : AOK a) : f_B_rankOfNow 1 h = rI (nI (rk (aB a) (aP a))) h := by
  rw [e_B_rankOfNow]
  simp only [oo_v, hI_k, kO_W w K1, if_true, hc.1, hc.2.1, s_rank ok.2.1 ok.1, cI_v]
/-- the slot of the book with this letter; 0 if there is none -/
def slt (a : AS) (x : Int32) : Nat → Nat → Nat
  | 0, _ => 0
  | k + 1, s => if nI (aL a s) = x then s else slt a x k (s + 1)
theorem s_slotOfL {x : Int32} (w : WF h) (hc : CAt h.2.2 1 a) (ok : AOK a) : ∀ (k s : Nat), 1 ≤ s → s + k = aB a + 1 → f_B_slotOf_2 1 x (nI s) h = rI (nI (slt a x k s)) h
  | 0, s, h1, hs => by
    have := ok.2.1
    rw [e_B_slotOf_2]
    simp only [oo_v, hI_k, kO_W w K1, if_true, hc.2.1]
    rw [if_pos (by rw [i_lt (by omega) (by omega)]; omega)]
    rfl
  | k + 1, s, h1, hs => by
    have := ok.2.1
    rw [e_B_slotOf_2]
    simp only [oo_v, hI_k, kO_W w K1, if_true, hc.2.1, hR_W w K1 (by omega) (show R0 1 2 = some 2 from rfl), kO_W w RW2.1, s_get w RW2 (show s < 6 by omega), cI_v, hc.2.2.1 s h1 (by omega)]
    rw [if_neg (by rw [i_lt (by omega) (by omega)]; omega)]
    unfold slt
    by_cases hx : nI (aL a s) = x
    · rw [if_pos hx, if_pos hx]
    · rw [if_neg hx, if_neg hx, L1, i_add]
      exact s_slotOfL w hc ok k (s + 1) (by omega) (by omega)
def slotOf (a : AS) (x : Int32) : Nat := slt a x (aB a) 1
theorem s_slotOf {x : Int32} (w : WF h) (hc : CAt h.2.2 1 a) (ok : AOK a) : f_B_slotOf 1 x h = rI (nI (slotOf a x)) h := by
  rw [e_B_slotOf]
  exact s_slotOfL w hc ok (aB a) 1 (by omega) (by omega)
def smw (o : Nat → Nat) : Nat → Nat
  | 0 => 0
  | n + 1 => smw o n + o (n + 1)
theorem s_sumL (w : WF h) (hc : CAt h.2.2 1 a) (ok : AOK a) : ∀ (k s : Nat), s + k = aB a → f_B_sumOfWeights_4 1 (nI (smw (aO a) s)) (nI (s + 1)) h = rI (nI (smw (aO a) (aB a))) h
  | 0, s, hs => by
    have := ok.2.1
    obtain rfl : s = aB a := by omega
    rw [e_B_sumOfWeights_4]
    simp only [oo_v, hI_k, kO_W w K1, if_true, hc.2.1]
    rw [if_pos (by rw [i_lt (by omega) (by omega)]; omega)]
  | k + 1, s, hs => by
    have := ok.2.1
    rw [e_B_sumOfWeights_4]
    simp only [oo_v, hI_k, kO_W w K1, if_true, hc.2.1, hR_W w K1 (by omega) (show R0 1 3 = some 4 from rfl), kO_W w RW4.1, s_get w RW4 (show s + 1 < 6 by omega), cI_v, hc.2.2.2.1 (s + 1) (by omega) (by omega)]
    rw [if_neg (by rw [i_lt (by omega) (by omega)]; omega), i_add, L1, i_add]
    exact s_sumL w hc ok k (s + 1) (by omega)
theorem s_sumOfWeights (w : WF h) (hc : CAt h.2.2 1 a) (ok : AOK a) : f_B_sumOfWeights 1 h = rI (nI (smw (aO a) (aB a))) h := by
  rw [e_B_sumOfWeights]
  exact s_sumL w hc ok (aB a) 0 (by omega)
def pmB (a : AS) (m : Nat) : Bool := decide (rsn (aP a) (aS a) m = 0)
theorem s_possL (w : WF h) (hc : CAt h.2.2 1 a) (ok : AOK a) : ∀ (k m : Nat), m + k = 19 → f_B_possibleMoves_4 1 (nI (cnt (pmB a) m)) (nI m) h = rI (nI (cnt (pmB a) 19)) h
  | 0, m, hm => by
    obtain rfl : m = 19 := by omega
    rw [e_B_possibleMoves_4, if_pos (by decide)]
  | k + 1, m, hm => by
    have h6 := ok.2.2.1
    have ih := s_possL w hc ok k (m + 1) (by omega)
    rw [e_B_possibleMoves_4, if_neg (by rw [L19, i_le (by omega) (by omega)]; omega)]
    simp only [oo_v, hI_k, kO_W w K1, if_true, hc.1, hc.2.2.2.2.1, s_reason ok.1.1 (show aS a < 2147483648 by omega) (show m < 19 by omega), cI_v]
    have hlt := rsn_lt (aP a) (aS a) m
    rw [show cnt (pmB a) (m + 1) = cnt (pmB a) m + (pmB a m).toNat from rfl] at ih
    unfold pmB at ih ⊢
    by_cases h0 : rsn (aP a) (aS a) m = 0
    · rw [if_pos (by rw [h0]; rfl), L1, i_add, i_add]
      rw [h0] at ih
      exact ih
    · rw [if_neg (by rw [i_eq0 (by omega)]; exact h0), L1, i_add]
      rw [decide_eq_false h0] at ih
      exact ih
theorem s_possibleMoves (w : WF h) (hc : CAt h.2.2 1 a) (ok : AOK a) : f_B_possibleMoves 1 h = rI (nI (cnt (pmB a) 19)) h := by
  rw [e_B_possibleMoves]
  exact s_possL w hc ok 19 0 rfl
end Sh1
