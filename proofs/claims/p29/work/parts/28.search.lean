/-! the search of the class: steps of a shelf, words in order -/
def ED (b S r m : Nat) : Option Nat := if rsn (wd b r) S m = 0 then some (rk b (aft (wd b r) m)) else none
def gol (b F C r : Nat) : Bool := inOrd (wd b r) F C
/-- the move pulls a book that is stuck -/
def hld (P S m : Nat) : Bool := decide (m < 7) && S.testBit (sl P m)
theorem rsn_split {P S m : Nat} : rsn P S m = 0 ↔ rsn P 0 m = 0 ∧ hld P S m = false := by
  unfold rsn hld
  by_cases h7 : m < 7
  · rw [if_pos h7, if_pos h7, decide_eq_true h7, Nat.zero_testBit, Bool.true_and]
    by_cases h0 : sl P m = 0
    · rw [if_pos h0, if_pos h0]; exact ⟨fun q => absurd q (by omega), fun q => absurd q.1 (by omega)⟩
    · rw [if_neg h0, if_neg h0]
      cases S.testBit (sl P m)
      · exact ⟨fun _ => ⟨rfl, rfl⟩, fun _ => rfl⟩
      · exact ⟨fun q => absurd q (by decide), fun q => absurd q.2 (by decide)⟩
  · rw [if_neg h7, if_neg h7, decide_eq_false h7, Bool.false_and]
    exact ⟨fun q => ⟨q, rfl⟩, fun q => q.1⟩
theorem ED_T {b S r m r' : Nat} (hm : m < 19) : ED b S r m = some r' ↔ T b (19 * r + m) = some r' ∧ hld (wd b r) S m = false := by
  unfold ED T
  rw [show (19 * r + m) / 19 = r by omega, show (19 * r + m) % 19 = m by omega]
  by_cases h0 : rsn (wd b r) S m = 0
  · have h1 := rsn_split.1 h0
    rw [if_pos h0, if_pos h1.1, h1.2]
    exact ⟨fun q => ⟨q, rfl⟩, fun q => q.1⟩
  · rw [if_neg h0]
    by_cases h1 : rsn (wd b r) 0 m = 0
    · rw [if_pos h1]
      exact ⟨fun q => (nomatch q), fun q => absurd (rsn_split.2 ⟨h1, q.2⟩) h0⟩
    · rw [if_neg h1]
      exact ⟨fun q => (nomatch q), fun q => (nomatch q.1)⟩
theorem ED_lt {b S : Nat} (hb : b < 6) : ∀ r m r', r < wds b → m < 19 → ED b S r m = some r' → r' < wds b := fun r m r' hr hm h =>
  T_lt hb (show 19 * r + m < 19 * wds b by omega) ((ED_T hm).1 h).1
/-- a price or none, as the rows keep it -/
def vI : Option Nat → Int32
  | none => -1
  | some w => nI w
theorem vI_m1 {x : Option Nat} (hx : ∀ w, x = some w → w < 2147483648) : vI x = -1 ↔ x = none := by
  cases x with
  | none => exact ⟨fun _ => rfl, fun _ => rfl⟩
  | some w =>
    refine ⟨fun q => ?_, fun q => nomatch q⟩
    have h1 := i_nneg (hx w rfl)
    rw [show nI w = -1 from q] at h1
    exact absurd (by decide) h1
section Search
variable {h : pH} {b : Nat}
theorem s_isHeld {r m S : Nat} (w : WF h) (hb : b < 6) (hr : r < wds b) (hm : m < 19) (hSl : S < 2147483648) {f : Nat → Nat → Int32} (hf : f 38 (fn b + r) = nI (wd b r)) :
    f_G_isHeld 36 (nI (fn b + r)) (nI m) (nI S) (hS h f) = rI (nI (hld (wd b r) S m).toNat) (hS h f) := by
  have hle := fn_le hb
  have hv := wd_VW hb hr
  have hs := sl_lt (wd b r) m
  rw [e_G_isHeld, s_isPull hm, cI_v]
  unfold hld
  by_cases h7 : m < 7
  · rw [if_pos h7, if_neg (by decide)]
    simp only [oo_v, hR_S, hR_W w K36 (by omega) (show R0 36 0 = some 37 from rfl), kO_S, kO_W w RW37.1, if_true, s_get (WF_S w) RW37 (show fn b + r < 3620 by omega), cI_v, hS_2]
    rw [show f (37 + 1) (fn b + r) = _ from hf, s_slotAt hv.1 h7, cI_v, s_isIn hSl (by omega), cI_v, decide_eq_true h7, Bool.true_and]
    cases S.testBit (sl (wd b r) m)
    · rw [if_pos (by decide)]; rfl
    · rw [if_neg (by decide)]; rfl
  · rw [if_neg h7, if_pos (by decide), decide_eq_false h7, Bool.false_and]; rfl
theorem K47 : K0[47]? = some (.inl 5) := rfl
theorem s_startAtOrder {k2 F C : Nat} {f : Nat → Nat → Int32} (w : WF h) (hb : b < 6) (hF : F < 2) (hC : C < 2) (hk : rowW k2 3620) (h2 : k2 + 1 ≠ 38) (h3 : k2 + 1 ≠ 1) (hg : GOK f b) (hf5 : f 1 5 = nI F) (hf6 : f 1 6 = nI C) : ∀ (k r : Nat) (g : Nat → Nat → Int32), r + k = wds b →
    (∀ r', r' < r → g (k2 + 1) (fn b + r') = vI (if gol b F C r' then some 0 else none)) → Off f g [k2 + 1] →
    ∃ g', f_S_startAtOrder_3 47 1 k2 (nI (fn b + wds b)) (nI (fn b + r)) (hS h g) = rV (hS h g') ∧ (∀ r', r' < wds b → g' (k2 + 1) (fn b + r') = vI (if gol b F C r' then some 0 else none)) ∧ Off f g' [k2 + 1]
  | 0, r, g, hr, h1, ho => by
    have hle := fn_le hb
    obtain rfl : r = wds b := by omega
    refine ⟨g, ?_, h1, ho⟩
    rw [e_S_startAtOrder_3, if_pos (by rw [i_le (by omega) (by omega)]; exact Nat.le_refl _)]
  | k + 1, r, g, hr, h1, ho => by
    have hle := fn_le hb
    have hv := wd_VW hb (show r < wds b by omega)
    have g38 : g 38 (fn b + r) = nI (wd b r) := by
      rw [ho 38 (by simp; omega)]
      exact hg.1 r (by omega)
    have g15 : g 1 5 = nI F := by rw [ho 1 (by simp; omega)]; exact hf5
    have g16 : g 1 6 = nI C := by rw [ho 1 (by simp; omega)]; exact hf6
    rw [e_S_startAtOrder_3, if_neg (by rw [i_le (by omega) (by omega)]; omega)]
    simp only [oo_v, hR_S, hR_W w K47 (by omega) (show R0 47 0 = some 36 from rfl), hR_W w K36 (by omega) (show R0 36 0 = some 37 from rfl), kO_S, kO_W w RW37.1, if_true, s_get (WF_S w) RW37 (show fn b + r < 3620 by omega), cI_v, hS_2, hI_W (WF_S w) K1]
    rw [show g (37 + 1) (fn b + r) = _ from g38, g15, g16, s_isInOrder hv.1 hF hC, cI_v]
    have nx : ∀ x : Int32, x = vI (if gol b F C r then some 0 else none) → ∃ g', f_S_startAtOrder_3 47 1 k2 (nI (fn b + wds b)) (nI (fn b + (r + 1))) (hS h (s2 g (k2 + 1) (fn b + r) x)) = rV (hS h g') ∧ (∀ r', r' < wds b → g' (k2 + 1) (fn b + r') = vI (if gol b F C r' then some 0 else none)) ∧ Off f g' [k2 + 1] := fun x hx => by
      refine s_startAtOrder w hb hF hC hk h2 h3 hg hf5 hf6 k (r + 1) _ (by omega) (fun r' hr' => ?_) (Off.tr ho (s2_off (by simp)))
      by_cases hrr : r' = r
      · subst hrr
        rw [s2_at]
        simp [hx]
      · have := h1 r' (by omega)
        rw [s2_at]
        simp [hrr, this]
    cases hgo : inOrd (wd b r) F C with
    | false =>
      rw [if_pos (by rfl)]
      simp only [kO_S, kO_W w hk.1, if_true, s_put (WF_S w) hk (show fn b + r < 3620 by omega), cV_v, hS_S, hS_2, L1, i_add]
      rw [show fn b + r + 1 = fn b + (r + 1) by omega]
      exact nx _ (by unfold gol; rw [hgo]; rfl)
    | true =>
      rw [if_neg (by decide)]
      simp only [kO_S, kO_W w hk.1, if_true, s_put (WF_S w) hk (show fn b + r < 3620 by omega), cV_v, hS_S, hS_2, L1, i_add]
      rw [show fn b + r + 1 = fn b + (r + 1) by omega]
      exact nx _ (by unfold gol; rw [hgo]; rfl)
end Search
