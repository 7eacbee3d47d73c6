/-! what is told of all words of a shelf: how many can be put in order, the sum of moves, the greatest way, the worst word -/
def mxs (v : Nat → Option Nat) : Nat → Nat
  | 0 => 0
  | n + 1 => mxN (mxs v n) (v n)
def wst (v : Nat → Option Nat) : Nat → Option Nat × Nat
  | 0 => (none, 0)
  | n + 1 => match v n, (wst v n).1 with
    | none, _ => wst v n
    | some u, none => (some u, n)
    | some u, some t => if u ≤ t then wst v n else (some u, n)
theorem mxs_lt {v : Nat → Option Nat} {B : Nat} : ∀ n, (∀ r u, r < n → v r = some u → u ≤ B) → mxs v n ≤ B
  | 0, _ => Nat.zero_le _
  | n + 1, h => by
    have ih := mxs_lt n (fun r u hr hu => h r u (by omega) hu)
    show mxN (mxs v n) (v n) ≤ B
    cases hv : v n with
    | none => exact ih
    | some u => exact Nat.max_le.2 ⟨ih, h n u (by omega) hv⟩
theorem smv_lt {v : Nat → Option Nat} {B : Nat} : ∀ n, (∀ r u, r < n → v r = some u → u ≤ B) → sm (fun r => (v r).getD 0) n ≤ B * n
  | 0, _ => Nat.zero_le _
  | n + 1, h => by
    have ih := smv_lt n (fun r u hr hu => h r u (by omega) hu)
    show sm (fun r => (v r).getD 0) n + (v n).getD 0 ≤ B * (n + 1)
    have h2 : (v n).getD 0 ≤ B := by
      cases hv : v n with
      | none => exact Nat.zero_le _
      | some u => exact h n u (by omega) hv
    rw [Nat.mul_succ]
    omega
theorem wst_lt {v : Nat → Option Nat} {B : Nat} : ∀ n, (∀ r u, r < n → v r = some u → u ≤ B) → ∀ t, (wst v n).1 = some t → t ≤ B
  | 0, _, _, e => nomatch e
  | n + 1, h, t, e => by
    have ih := wst_lt n (fun r u hr hu => h r u (by omega) hu)
    simp only [wst] at e
    cases hv : v n with
    | none =>
      rw [hv] at e
      exact ih t e
    | some u =>
      have hu := h n u (by omega) hv
      rw [hv] at e
      cases hw : (wst v n).1 with
      | none =>
        rw [hw] at e
        cases e
        exact hu
      | some t' =>
        rw [hw] at e
        dsimp only at e
        split at e
        · exact ih t e
        · cases e
          exact hu
section Looks
variable {h : pH} {b k : Nat} {v : Nat → Option Nat} {g : Nat → Nat → Int32}
theorem s_savL (w : WF h) (hb : b < 6) (hB : g 1 1 = nI b) (hk : rowW k 3620) (hD : ∀ r, r < wds b → g (k + 1) (fn b + r) = vI (v r)) (hv : ∀ r u, r < wds b → v r = some u → u < 1000000) : ∀ (j r : Nat), r + j = wds b →
    f_S_savableWords_21 1 k (nI (fn b)) (nI (cnt (fun r => (v r).isSome) r)) (nI r) (hS h g) = rI (nI (cnt (fun r => (v r).isSome) (wds b))) (hS h g)
  | 0, r, hr => by
    have hw := wds_lt hb
    obtain rfl : r = wds b := by omega
    rw [e_S_savableWords_21]
    simp only [hI_W (WF_S w) K1, oo_v, hS_2, hB, s_wordsOf hb, cI_v]
    rw [if_pos (by rw [i_le (by omega) (by omega)]; exact Nat.le_refl _)]
  | j + 1, r, hr => by
    have hw := wds_lt hb
    have hle := fn_le hb
    have ih := s_savL w hb hB hk hD hv j (r + 1) (by omega)
    rw [e_S_savableWords_21]
    simp only [hI_W (WF_S w) K1, oo_v, hS_2, hB, s_wordsOf hb, cI_v]
    rw [if_neg (by rw [i_le (by omega) (by omega)]; omega)]
    simp only [kO_S, kO_W w hk.1, if_true, i_add, s_get (WF_S w) hk (show fn b + r < 3620 by omega), cI_v, hS_2, hD r (show r < wds b by omega), L1]
    have hc : cnt (fun r => (v r).isSome) (r + 1) = cnt (fun r => (v r).isSome) r + ((v r).isSome).toNat := rfl
    rw [hc] at ih
    cases hd : v r with
    | none =>
      rw [hd] at ih
      rw [if_pos (by rfl)]
      exact ih
    | some u =>
      have := hv r u (by omega) hd
      rw [hd] at ih
      rw [if_neg (by rw [show -nI 1 = (-1 : Int32) from rfl, vI_m1 (fun w' e => by cases e; omega)]; simp)]
      exact ih
theorem s_sumWL (w : WF h) (hb : b < 6) (hB : g 1 1 = nI b) (hk : rowW k 3620) (hD : ∀ r, r < wds b → g (k + 1) (fn b + r) = vI (v r)) (hv : ∀ r u, r < wds b → v r = some u → u < 1000000) : ∀ (j r : Nat), r + j = wds b →
    f_S_sumOfWays_21 1 k (nI (fn b)) (nI (sm (fun r => (v r).getD 0) r)) (nI r) (hS h g) = rI (nI (sm (fun r => (v r).getD 0) (wds b))) (hS h g)
  | 0, r, hr => by
    have hw := wds_lt hb
    obtain rfl : r = wds b := by omega
    rw [e_S_sumOfWays_21]
    simp only [hI_W (WF_S w) K1, oo_v, hS_2, hB, s_wordsOf hb, cI_v]
    rw [if_pos (by rw [i_le (by omega) (by omega)]; exact Nat.le_refl _)]
  | j + 1, r, hr => by
    have hw := wds_lt hb
    have hle := fn_le hb
    have ih := s_sumWL w hb hB hk hD hv j (r + 1) (by omega)
    rw [e_S_sumOfWays_21]
    simp only [hI_W (WF_S w) K1, oo_v, hS_2, hB, s_wordsOf hb, cI_v]
    rw [if_neg (by rw [i_le (by omega) (by omega)]; omega)]
    simp only [kO_S, kO_W w hk.1, if_true, i_add, s_get (WF_S w) hk (show fn b + r < 3620 by omega), cI_v, hS_2, hD r (show r < wds b by omega), L1]
    have hm : imax (vI (v r)) 0 = nI ((v r).getD 0) := by
      cases hd : v r with
      | none => decide
      | some u =>
        have := hv r u (by omega) hd
        show imax (nI u) 0 = nI u
        rw [L0, imax_n (by omega) (by omega), Nat.max_eq_left (Nat.zero_le _)]
    rw [hm, i_add]
    exact ih
theorem s_grtL (w : WF h) (hb : b < 6) (hB : g 1 1 = nI b) (hk : rowW k 3620) (hD : ∀ r, r < wds b → g (k + 1) (fn b + r) = vI (v r)) (hv : ∀ r u, r < wds b → v r = some u → u ≤ 1000000) : ∀ (j r : Nat), r + j = wds b →
    f_S_greatestWay_22 1 k (nI (fn b)) (nI (mxs v r)) (nI r) (hS h g) = rI (nI (mxs v (wds b))) (hS h g)
  | 0, r, hr => by
    have hw := wds_lt hb
    obtain rfl : r = wds b := by omega
    rw [e_S_greatestWay_22]
    simp only [hI_W (WF_S w) K1, oo_v, hS_2, hB, s_wordsOf hb, cI_v]
    rw [if_pos (by rw [i_le (by omega) (by omega)]; exact Nat.le_refl _)]
  | j + 1, r, hr => by
    have hw := wds_lt hb
    have hle := fn_le hb
    have hmx := mxs_lt r (fun r' u hr' hu => hv r' u (by omega) hu)
    have ih := s_grtL w hb hB hk hD hv j (r + 1) (by omega)
    rw [e_S_greatestWay_22]
    simp only [hI_W (WF_S w) K1, oo_v, hS_2, hB, s_wordsOf hb, cI_v]
    rw [if_neg (by rw [i_le (by omega) (by omega)]; omega)]
    simp only [kO_S, kO_W w hk.1, if_true, i_add, s_get (WF_S w) hk (show fn b + r < 3620 by omega), cI_v, hS_2, hD r (show r < wds b by omega), L1]
    rw [imax_v2 (by omega) (fun t e => by have := hv r t (by omega) e; omega)]
    exact ih
theorem s_wstL (w : WF h) (hb : b < 6) (hB : g 1 1 = nI b) (hk : rowW k 3620) (hD : ∀ r, r < wds b → g (k + 1) (fn b + r) = vI (v r)) (hv : ∀ r u, r < wds b → v r = some u → u ≤ 1000000) : ∀ (j r : Nat), r + j = wds b →
    f_S_worstRank_24 1 k (nI (fn b)) (vI (wst v r).1) (nI (wst v r).2) (nI r) (hS h g) = rI (nI (wst v (wds b)).2) (hS h g)
  | 0, r, hr => by
    have hw := wds_lt hb
    obtain rfl : r = wds b := by omega
    rw [e_S_worstRank_24]
    simp only [hI_W (WF_S w) K1, oo_v, hS_2, hB, s_wordsOf hb, cI_v]
    rw [if_pos (by rw [i_le (by omega) (by omega)]; exact Nat.le_refl _)]
  | j + 1, r, hr => by
    have hw := wds_lt hb
    have hle := fn_le hb
    have ih := s_wstL w hb hB hk hD hv j (r + 1) (by omega)
    have hwl := wst_lt r (fun r' u hr' hu => hv r' u (by omega) hu)
    rw [e_S_worstRank_24]
    simp only [hI_W (WF_S w) K1, oo_v, hS_2, hB, s_wordsOf hb, cI_v]
    rw [if_neg (by rw [i_le (by omega) (by omega)]; omega)]
    simp only [kO_S, kO_W w hk.1, if_true, i_add, s_get (WF_S w) hk (show fn b + r < 3620 by omega), cI_v, hS_2, hD r (show r < wds b by omega), L1]
    have hneg : ∀ u, u ≤ 1000000 → ¬ nI u ≤ (-1 : Int32) := fun u hu => by
      rw [Int32.le_iff_toInt_le, i_toInt (by omega)]
      have : (-1 : Int32).toInt = -1 := by decide
      omega
    cases hd : v r with
    | none =>
      have e : wst v (r + 1) = wst v r := by simp only [wst, hd]
      rw [e] at ih
      rw [if_pos ?_]
      · exact ih
      · cases hq : (wst v r).1 with
        | none => decide
        | some t =>
          have := hwl t hq
          show (-1 : Int32) ≤ nI t
          rw [Int32.le_iff_toInt_le, i_toInt (by omega)]
          have : (-1 : Int32).toInt = -1 := by decide
          omega
    | some u =>
      have hu := hv r u (by omega) hd
      cases hq : (wst v r).1 with
      | none =>
        have e : wst v (r + 1) = (some u, r) := by simp only [wst, hd, hq]
        rw [e] at ih
        rw [if_neg (show ¬ vI (some u) ≤ vI none from hneg u hu)]
        exact ih
      | some t =>
        have ht := hwl t hq
        by_cases hut : u ≤ t
        · have e : wst v (r + 1) = wst v r := by simp only [wst, hd, hq, if_pos hut]
          rw [e, hq] at ih
          rw [if_pos (show vI (some u) ≤ vI (some t) by show nI u ≤ nI t; rw [i_le (by omega) (by omega)]; exact hut)]
          exact ih
        · have e : wst v (r + 1) = (some u, r) := by simp only [wst, hd, hq, if_neg hut]
          rw [e] at ih
          rw [if_neg (show ¬ vI (some u) ≤ vI (some t) by show ¬ nI u ≤ nI t; rw [i_le (by omega) (by omega)]; exact hut)]
          exact ih
end Looks
section Looksb
variable {h : pH}
theorem s_savableWords {a : AS} {f : Nat → Nat → Int32} (w : WF h) (ha : AOK a) (hc : CAt f 1 a) (hG : GOK f (aB a)) (hK : SC f) :
    ∃ g, f_S_savableWords 47 1 (hS h f) = rI (nI (cnt (fun r => (wyO a 0 r).isSome) (wds (aB a)))) (hS h g) ∧ SC g ∧ Off f g sRows ∧ ∀ j, j ≠ 4 → j ≠ 5 → j ≠ 6 → g 47 j = f 47 j := by
  have hb := ha.2.1
  obtain ⟨g, k, e1, e2, e3, e4⟩ := s_findWays w ha hc hG hK (show 0 < 3 by omega)
  have hc' := CAt_off hc e4.2.1 (by simp [sRows]) (by simp [sRows]) (by simp [sRows])
  refine ⟨g, ?_, e4⟩
  rw [e_S_savableWords]
  rw [show (nI 0 : Int32) = 0 from rfl] at e1
  simp only [kO_S, kO_W w K47, if_true, e1, cR_v, oo_v, hI_W (WF_S w) K1, hS_2, hc'.2.1, s_firstNode (show aB a < 7 by omega), cI_v]
  exact s_savL w hb hc'.2.1 e2 e3 (fun r u hr hu => by have := wyO_lt ha hr hu; omega) (wds (aB a)) 0 (by omega)
theorem s_sumOfWays {a : AS} {f : Nat → Nat → Int32} (w : WF h) (ha : AOK a) (hc : CAt f 1 a) (hG : GOK f (aB a)) (hK : SC f) :
    ∃ g, f_S_sumOfWays 47 1 (hS h f) = rI (nI (sm (fun r => (wyO a 0 r).getD 0) (wds (aB a)))) (hS h g) ∧ SC g ∧ Off f g sRows ∧ ∀ j, j ≠ 4 → j ≠ 5 → j ≠ 6 → g 47 j = f 47 j := by
  have hb := ha.2.1
  obtain ⟨g, k, e1, e2, e3, e4⟩ := s_findWays w ha hc hG hK (show 0 < 3 by omega)
  have hc' := CAt_off hc e4.2.1 (by simp [sRows]) (by simp [sRows]) (by simp [sRows])
  refine ⟨g, ?_, e4⟩
  rw [e_S_sumOfWays]
  rw [show (nI 0 : Int32) = 0 from rfl] at e1
  simp only [kO_S, kO_W w K47, if_true, e1, cR_v, oo_v, hI_W (WF_S w) K1, hS_2, hc'.2.1, s_firstNode (show aB a < 7 by omega), cI_v]
  exact s_sumWL w hb hc'.2.1 e2 e3 (fun r u hr hu => by have := wyO_lt ha hr hu; omega) (wds (aB a)) 0 (by omega)
theorem s_greatestWay {a : AS} {f : Nat → Nat → Int32} {kd : Nat} (w : WF h) (ha : AOK a) (hc : CAt f 1 a) (hG : GOK f (aB a)) (hK : SC f) (hkd : kd < 3) :
    ∃ g, f_S_greatestWay 47 1 (nI kd) (hS h f) = rI (nI (mxs (wyO a kd) (wds (aB a)))) (hS h g) ∧ SC g ∧ Off f g sRows ∧ ∀ j, j ≠ 4 → j ≠ 5 → j ≠ 6 → g 47 j = f 47 j := by
  have hb := ha.2.1
  obtain ⟨g, k, e1, e2, e3, e4⟩ := s_findWays w ha hc hG hK hkd
  have hc' := CAt_off hc e4.2.1 (by simp [sRows]) (by simp [sRows]) (by simp [sRows])
  refine ⟨g, ?_, e4⟩
  rw [e_S_greatestWay]
  simp only [kO_S, kO_W w K47, if_true, e1, cR_v, oo_v, hI_W (WF_S w) K1, hS_2, hc'.2.1, s_firstNode (show aB a < 7 by omega), cI_v]
  exact s_grtL w hb hc'.2.1 e2 e3 (fun r u hr hu => by have := wyO_lt ha hr hu; omega) (wds (aB a)) 0 (by omega)
theorem s_worstRank {a : AS} {f : Nat → Nat → Int32} (w : WF h) (ha : AOK a) (hc : CAt f 1 a) (hG : GOK f (aB a)) (hK : SC f) :
    ∃ g, f_S_worstRank 47 1 (hS h f) = rI (nI (wst (wyO a 0) (wds (aB a))).2) (hS h g) ∧ SC g ∧ Off f g sRows ∧ ∀ j, j ≠ 4 → j ≠ 5 → j ≠ 6 → g 47 j = f 47 j := by
  have hb := ha.2.1
  obtain ⟨g, k, e1, e2, e3, e4⟩ := s_findWays w ha hc hG hK (show 0 < 3 by omega)
  have hc' := CAt_off hc e4.2.1 (by simp [sRows]) (by simp [sRows]) (by simp [sRows])
  refine ⟨g, ?_, e4⟩
  rw [e_S_worstRank]
  rw [show (nI 0 : Int32) = 0 from rfl] at e1
  simp only [kO_S, kO_W w K47, if_true, e1, cR_v, oo_v, hI_W (WF_S w) K1, hS_2, hc'.2.1, s_firstNode (show aB a < 7 by omega), cI_v]
  exact s_wstL w hb hc'.2.1 e2 e3 (fun r u hr hu => by have := wyO_lt ha hr hu; omega) (wds (aB a)) 0 (by omega)
end Looksb
