/-! the cheapest ways: the key, and what a word offers to those before it -/
def kyO (o : Nat → Nat) : Nat → Nat
  | 0 => 0
  | i + 1 => kyO o i * 16 + o (i + 1)
def kyC (b S F C : Nat) (o : Nat → Nat) : Nat := kyO o b * 2048 + kyM b S F C
theorem kyO_lt {o : Nat → Nat} : ∀ b, b < 6 → (∀ s, 1 ≤ s → s ≤ b → o s ≤ 9) → kyO o b < 655360
  | 0, _, _ => by show 0 < 655360; decide
  | 1, _, h => by
    have := h 1 (by omega) (by omega)
    simp only [kyO, Nat.zero_add, Nat.reduceAdd]; omega
  | 2, _, h => by
    have := h 1 (by omega) (by omega)
    have := h 2 (by omega) (by omega)
    simp only [kyO, Nat.zero_add, Nat.reduceAdd]; omega
  | 3, _, h => by
    have := h 1 (by omega) (by omega)
    have := h 2 (by omega) (by omega)
    have := h 3 (by omega) (by omega)
    simp only [kyO, Nat.zero_add, Nat.reduceAdd]; omega
  | 4, _, h => by
    have := h 1 (by omega) (by omega)
    have := h 2 (by omega) (by omega)
    have := h 3 (by omega) (by omega)
    have := h 4 (by omega) (by omega)
    simp only [kyO, Nat.zero_add, Nat.reduceAdd]; omega
  | 5, _, h => by
    have := h 1 (by omega) (by omega)
    have := h 2 (by omega) (by omega)
    have := h 3 (by omega) (by omega)
    have := h 4 (by omega) (by omega)
    have := h 5 (by omega) (by omega)
    simp only [kyO, Nat.zero_add, Nat.reduceAdd]; omega
  | b + 6, h, _ => by omega
theorem kyO_inj {o o' : Nat → Nat} : ∀ b, (∀ s, 1 ≤ s → s ≤ b → o s ≤ 9 ∧ o' s ≤ 9) → kyO o b = kyO o' b → ∀ s, 1 ≤ s → s ≤ b → o s = o' s
  | 0, _, _ => fun s h1 h2 => by omega
  | b + 1, h, e => fun s h1 h2 => by
    have h3 := h (b + 1) (by omega) (by omega)
    simp only [kyO] at e
    by_cases hs : s = b + 1
    · subst hs; omega
    · exact kyO_inj b (fun t ht1 ht2 => h t ht1 (by omega)) (by omega) s h1 (by omega)
theorem kyC_lt {b S F C : Nat} {o : Nat → Nat} (hb : b < 6) (hSl : S < 64) (hF : F < 2) (hC : C < 2) (ho : ∀ s, 1 ≤ s → s ≤ b → o s ≤ 9) : kyC b S F C o < 2147483648 := by
  have := kyO_lt b hb ho
  have := kyM_lt hb hSl hF hC
  unfold kyC
  omega
theorem shl_or {a c s : Nat} (hc : c < 2 ^ s) : a <<< s ||| c = a * 2 ^ s + c := by
  rw [← Nat.shiftLeft_add_eq_or_of_lt hc, Nat.shiftLeft_eq]
theorem prc_bd {b P m : Nat} {o : Nat → Nat} (hv : VW b P) (ho : ∀ s, 1 ≤ s → s ≤ b → 1 ≤ o s ∧ o s ≤ 9) (hm : m < 19) (h0 : rsn P 0 m = 0) : 1 ≤ prc o P m ∧ prc o P m ≤ 9 := by
  unfold rsn at h0
  unfold prc
  by_cases h7 : m < 7
  · rw [if_pos h7] at *
    have h1 := hv.2.1 m h7
    by_cases hz : sl P m = 0
    · rw [if_pos hz] at h0; omega
    · exact ho _ (by omega) h1
  · have h6 := plc_lt6 hm h7
    rw [if_neg h7] at *
    have h1 := hv.2.1 (plc m) (by omega)
    have h2 := hv.2.1 (plc m + 1) (by omega)
    by_cases hz : sl P (plc m) = 0
    · rw [if_pos hz] at h0; omega
    · rw [if_neg hz] at h0
      by_cases hz' : sl P (plc m + 1) = 0
      · rw [if_pos hz'] at h0; omega
      · have h3 := ho _ (show 1 ≤ sl P (plc m) by omega) h1
        have h4 := ho _ (show 1 ≤ sl P (plc m + 1) by omega) h2
        omega
def pr (b : Nat) (o : Nat → Nat) (r m : Nat) : Nat := prc o (wd b r) m
theorem ED_rsn {b S r m r' : Nat} (h : ED b S r m = some r') : rsn (wd b r) 0 m = 0 := by
  unfold ED at h
  split at h
  · rename_i h0; exact rsn_0 h0
  · cases h
theorem pr_bd {b S : Nat} {o : Nat → Nat} (hb : b < 6) (ho : ∀ s, 1 ≤ s → s ≤ b → 1 ≤ o s ∧ o s ≤ 9) : ∀ r m r', r < wds b → m < 19 → ED b S r m = some r' → 1 ≤ pr b o r m ∧ pr b o r m ≤ 9 := fun r m r' hr hm h =>
  prc_bd (wd_VW hb hr) ho hm (ED_rsn h)
def mxO (x : Option Nat) (n : Nat) : Nat := match x with
  | none => n
  | some t => max t n
theorem imax_v {x : Option Nat} {n : Nat} (hx : ∀ t, x = some t → t < 2147483648) (hn : n < 2147483648) : imax (vI x) (nI n) = vI (some (mxO x n)) := by
  cases x with
  | none =>
    show imax (-1) (nI n) = nI n
    unfold imax
    have h1 : (-1 : Int32) < nI n := by
      rw [Int32.lt_iff_toInt_lt, i_toInt hn]
      have : (-1 : Int32).toInt = -1 := by decide
      omega
    rw [if_pos h1]
  | some t => exact imax_n (hx t rfl) hn
/-- what the word x, c from order, has offered -/
def Ob (b S : Nat) (o : Nat → Nat) (x c : Nat) (d d' : Nat → Option Nat) (res : Option Nat) : Prop :=
  (∀ r u, r < wds b → d r = some u → ∃ u', d' r = some u' ∧ u' ≤ u) ∧
  (∀ r, r < wds b → d' r = d r ∨ ∃ m t, m < 19 ∧ ED b S r m = some x ∧ d' r = some (c + pr b o r m) ∧ res = some t ∧ c + pr b o r m ≤ t) ∧
  (∀ t, res = some t → t ≤ c + 9)
def Dt (k b : Nat) (f : Nat → Nat → Int32) (d : Nat → Option Nat) : Prop := ∀ r, r < wds b → f k (fn b + r) = vI (d r)
section Offer
variable {h : pH}
theorem s_keyC4 {a : AS} {f : Nat → Nat → Int32} (w : WF h) (ha : AOK a) (hc : CAt f 1 a) : ∀ (k i : Nat), i + k = aB a → f_B_keyOfCosts_4 1 (nI (kyO (aO a) i)) (nI (i + 1)) (hS h f) = rI (nI (kyC (aB a) (aS a) (aF a) (aC a) (aO a))) (hS h f)
  | 0, i, hi => by
    have hb := ha.2.1
    have hlt := kyM_lt hb ha.2.2.1 ha.2.2.2.2.1 ha.2.2.2.2.2.1
    obtain rfl : i = aB a := by omega
    rw [e_B_keyOfCosts_4]
    simp only [hI_W (WF_S w) K1, oo_v, hS_2, hc.2.1]
    rw [if_pos (by rw [i_lt (by omega) (by omega)]; omega)]
    simp only [kO_S, kO_W w K1, if_true, s_keyOfMoves w ha hc, cI_v]
    rw [show (11 : Int32) = nI 11 from rfl, i_shl (by omega), i_or, shl_or (by omega)]
    rfl
  | k + 1, i, hi => by
    have hb := ha.2.1
    have h9 := (ha.2.2.2.2.2.2.1 (i + 1) (by omega) (by omega)).2.2
    rw [e_B_keyOfCosts_4]
    simp only [hI_W (WF_S w) K1, oo_v, hS_2, hc.2.1]
    rw [if_neg (by rw [i_lt (by omega) (by omega)]; omega)]
    simp only [hR_S, hR_W w K1 (by omega) (show R0 1 3 = some 4 from rfl), oo_v, kO_S, kO_W w RW4.1, if_true, s_get (WF_S w) RW4 (show i + 1 < 6 by omega), cI_v, hS_2]
    rw [show f (4 + 1) (i + 1) = nI (aO a (i + 1)) from hc.2.2.2.1 (i + 1) (by omega) (by omega), show (4 : Int32) = nI 4 from rfl, i_shl (by omega), i_or, shl_or (by omega), L1, i_add]
    exact s_keyC4 w ha hc k (i + 1) (by omega)
theorem s_keyOfCosts {a : AS} {f : Nat → Nat → Int32} (w : WF h) (ha : AOK a) (hc : CAt f 1 a) : f_B_keyOfCosts 1 (hS h f) = rI (nI (kyC (aB a) (aS a) (aF a) (aC a) (aO a))) (hS h f) := by
  rw [e_B_keyOfCosts]
  exact s_keyC4 w ha hc (aB a) 0 (by omega)
end Offer
