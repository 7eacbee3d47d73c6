/-! the reference's moves: order, gaps, why a move is refused, what it makes -/
section YMoves
variable {h : pH}
theorem s_YisWrong {a c F : Nat} {g : Nat → Nat → Int32} (w : WF h) (ha : a ≠ 0) (hc : c ≠ 0) (ha8 : a < 8) (hc8 : c < 8) (hF : F < 2) (h21 : g 64 21 = nI F) : f_Y_isWrong 63 (nI a) (nI c) (hS h g) = rI (nI (wrg F a c).toNat) (hS h g) := by
  rw [e_Y_isWrong]
  simp only [yR0 w, oo_v]
  rw [show (21 : Int32) = nI 21 from rfl, yA64 w (by omega), oo_v, h21]
  unfold wrg
  rw [decide_eq_true ha, decide_eq_true hc, Bool.true_and, Bool.true_and, L1]
  by_cases h1 : F = 1
  · rw [if_pos (by rw [h1]), if_pos h1]
    by_cases h2 : c ≤ a
    · rw [if_pos ((i_le (by omega) (by omega)).2 h2), decide_eq_false (by omega)]; rfl
    · rw [if_neg (fun e => h2 ((i_le (by omega) (by omega)).1 e)), decide_eq_true (by omega)]; rfl
  · rw [if_neg (fun e => h1 ((i_inj (by omega) (by omega)).1 e)), if_neg h1]
    by_cases h2 : a ≤ c
    · rw [if_pos ((i_le (by omega) (by omega)).2 h2), decide_eq_false (by omega)]; rfl
    · rw [if_neg (fun e => h2 ((i_le (by omega) (by omega)).1 e)), decide_eq_true (by omega)]; rfl
theorem s_YdisI {P F p A : Nat} {g : Nat → Nat → Int32} (w : WF h) (hp : p < 7) (hA : A < 1000) (hF : F < 2) (h21 : g 64 21 = nI F) (hW : WAt g 71 P) : ∀ (k q : Nat), q + k = 7 → p < q → f_Y_disorderOfWord_14 63 (nI (A + cnt (dsP P F p) q)) (nI p) (nI q) (hS h g) = f_Y_disorderOfWord_4 63 (nI (A + cnt (dsP P F p) 7)) (nI (p + 1)) (hS h g)
  | 0, q, hq, hpq => by
    obtain rfl : q = 7 := by omega
    rw [e_Y_disorderOfWord_14, L7, if_pos ((i_le (by omega) (by omega)).2 (Nat.le_refl _)), L1, i_add]
  | k + 1, q, hq, hpq => by
    have hsp := sl_lt P p
    have hsq := sl_lt P q
    have ih := s_YdisI w hp hA hF h21 hW k (q + 1) (by omega) (by omega)
    have e0 : cnt (dsP P F p) (q + 1) = cnt (dsP P F p) q + (dsP P F p q).toNat := rfl
    have e1 : dsP P F p q = wrg F (sl P p) (sl P q) := by unfold dsP; rw [decide_eq_true hpq, Bool.true_and]
    rw [e0, e1] at ih
    rw [e_Y_disorderOfWord_14, L7, if_neg (fun e => absurd ((i_le (by omega) (by omega)).1 e) (by omega))]
    simp only [yR11 w, oo_v, yA71 w (show p < 7 by omega), yA71 w (show q < 7 by omega), hW p hp, hW q (by omega), yK w, if_true]
    by_cases h0 : sl P p = 0
    · rw [show wrg F (sl P p) (sl P q) = false by rw [h0]; exact wrg_l0 _ _] at ih
      rw [if_pos ((i_le0 (by omega)).2 h0), L0, L1, i_add, i_add]
      exact ih
    · rw [if_neg (fun e => h0 ((i_le0 (by omega)).1 e))]
      by_cases h1 : sl P q = 0
      · rw [show wrg F (sl P p) (sl P q) = false by rw [h1]; exact wrg_r0 _ _] at ih
        rw [if_pos ((i_le0 (by omega)).2 h1), L0, L1, i_add, i_add]
        exact ih
      · rw [if_neg (fun e => h1 ((i_le0 (by omega)).1 e)), s_YisWrong w h0 h1 hsp hsq hF h21, cI_v]
        cases hw : wrg F (sl P p) (sl P q) with
        | false =>
          rw [hw] at ih
          rw [if_pos (show nI false.toNat = 0 from rfl), L0, L1, i_add, i_add]
          exact ih
        | true =>
          rw [hw] at ih
          rw [if_neg (show ¬ nI true.toNat = 0 by decide), L1, i_add, i_add]
          exact ih
theorem dsY_le (P F : Nat) (n : Nat) : sm (fun p => cnt (fun q => dsP P F p q) 7) n ≤ n * 7 := sm_le _ 7 (fun _ => cnt_le _ 7) n
theorem s_YdisO {P F : Nat} {g : Nat → Nat → Int32} (w : WF h) (hF : F < 2) (h21 : g 64 21 = nI F) (hW : WAt g 71 P) : ∀ (k p : Nat), p + k = 7 → f_Y_disorderOfWord_4 63 (nI (sm (fun p => cnt (fun q => dsP P F p q) 7) p)) (nI p) (hS h g) = rI (nI (dis P F)) (hS h g)
  | 0, p, hp => by
    obtain rfl : p = 7 := by omega
    rw [e_Y_disorderOfWord_4, L7, if_pos ((i_le (by omega) (by omega)).2 (Nat.le_refl _)), ← ds_dis]
    rfl
  | k + 1, p, hp => by
    have hle := dsY_le P F p
    have hz : cnt (dsP P F p) (p + 1) = 0 := (cnt_0 (p + 1)).2 fun q hq => by
      unfold dsP
      rw [decide_eq_false (by omega), Bool.false_and]
    have h1 := s_YdisI w (show p < 7 by omega) (show sm (fun p => cnt (fun q => dsP P F p q) 7) p < 1000 by omega) hF h21 hW (6 - p) (p + 1) (by omega) (by omega)
    rw [hz, Nat.add_zero] at h1
    rw [e_Y_disorderOfWord_4, L7, if_neg (fun e => absurd ((i_le (by omega) (by omega)).1 e) (by omega)), L1, i_add, h1]
    exact s_YdisO w hF h21 hW k (p + 1) (by omega)
theorem s_Ydisorder {P F : Nat} {g : Nat → Nat → Int32} (w : WF h) (hF : F < 2) (h21 : g 64 21 = nI F) (hW : WAt g 71 P) : f_Y_disorderOfWord 63 (hS h g) = rI (nI (dis P F)) (hS h g) := by
  rw [e_Y_disorderOfWord]
  exact s_YdisO w hF h21 hW 7 0 (by omega)
theorem s_YordL {P F C : Nat} {g : Nat → Nat → Int32} (w : WF h) (hF : F < 2) (hC : C < 2) (h21 : g 64 21 = nI F) (h22 : g 64 22 = nI C) (hW : WAt g 71 P) : ∀ (k j : Nat), j + k = 6 → f_Y_isWordInOrder_4 63 (nI (decide (cnt (clB P) j = 0)).toNat) (nI (j + 1)) (hS h g) = rI (nI (inOrd P F C).toNat) (hS h g)
  | 0, j, hj => by
    obtain rfl : j = 6 := by omega
    have hd := dis_le P F
    rw [e_Y_isWordInOrder_4, L7, if_pos ((i_le (by omega) (by omega)).2 (by omega)), if_pos (yK w), s_Ydisorder w hF h21 hW, cI_v, ← io_ord hC]
    unfold ioY
    rw [ds_dis]
    by_cases h0 : dis P F = 0
    · rw [if_pos ((i_eq0 (by omega)).2 h0), decide_eq_true h0, Bool.true_and]
      by_cases h1 : cnt (clB P) 6 = 0
      · rw [decide_eq_true h1, if_neg (by decide), Bool.true_or]
        rfl
      · rw [decide_eq_false h1, if_pos (by decide), Bool.false_or]
        simp only [yR0 w, oo_v]
        rw [show (22 : Int32) = nI 22 from rfl, yA64 w (by omega), oo_v, h22]
        by_cases h2 : C = 0
        · rw [if_pos ((i_eq0 (by omega)).2 h2), decide_eq_true h2]; rfl
        · rw [if_neg (fun e => h2 ((i_eq0 (by omega)).1 e)), decide_eq_false h2]; rfl
    · rw [if_neg (fun e => h0 ((i_eq0 (by omega)).1 e)), decide_eq_false h0, Bool.false_and]
      rfl
  | k + 1, j, hj => by
    have ih := s_YordL w hF hC h21 h22 hW k (j + 1) (by omega)
    have hs1 := sl_lt P (j + 1)
    have hs0 := sl_lt P j
    have e0 : cnt (clB P) (j + 1) = cnt (clB P) j + (clB P j).toNat := rfl
    rw [e0] at ih
    rw [e_Y_isWordInOrder_4, L7, if_neg (fun e => absurd ((i_le (by omega) (by omega)).1 e) (by omega))]
    by_cases h1 : cnt (clB P) j = 0
    · rw [decide_eq_true h1, if_neg (by decide)]
      rw [h1, Nat.zero_add] at ih
      simp only [yR11 w, oo_v, yA71 w (show j + 1 < 7 by omega), hW (j + 1) (by omega)]
      by_cases h2 : sl P (j + 1) = 0
      · rw [if_pos ((i_eq0 (by omega)).2 h2), L1, i_add]
        have e1 : clB P j = false := by unfold clB; rw [decide_eq_true h2]; rfl
        rw [e1] at ih
        exact ih
      · rw [if_neg (fun e => h2 ((i_eq0 (by omega)).1 e)), L1, i_sub (by omega), Nat.add_sub_cancel, yA71 w (show j < 7 by omega), oo_v, hW j (by omega)]
        by_cases h3 : sl P j = 0
        · rw [if_pos ((i_le0 (by omega)).2 h3), i_add]
          have e1 : clB P j = true := by unfold clB; rw [decide_eq_false h2, decide_eq_true h3]; rfl
          rw [e1] at ih
          exact ih
        · rw [if_neg (fun e => h3 ((i_le0 (by omega)).1 e)), i_add]
          have e1 : clB P j = false := by unfold clB; rw [decide_eq_false h2, decide_eq_false h3]; rfl
          rw [e1] at ih
          exact ih
    · rw [decide_eq_false h1, if_pos (by decide), L1, i_add]
      rw [decide_eq_false (by omega)] at ih
      exact ih
theorem s_YisWordInOrder {P F C : Nat} {g : Nat → Nat → Int32} (w : WF h) (hF : F < 2) (hC : C < 2) (h21 : g 64 21 = nI F) (h22 : g 64 22 = nI C) (hW : WAt g 71 P) : f_Y_isWordInOrder 63 (hS h g) = rI (nI (inOrd P F C).toNat) (hS h g) := by
  rw [e_Y_isWordInOrder]
  exact s_YordL w hF hC h21 h22 hW 6 0 (by omega)
theorem s_YgapL {P p : Nat} {g : Nat → Nat → Int32} (w : WF h) (hp : p < 7) (hW : WAt g 71 P) : ∀ (k d : Nat), d + k = 7 → (∃ q, q < 7 ∧ sl P q = 0 ∧ (q + d ≤ p ∨ p + d ≤ q)) → f_Y_nearestGap_2 63 (nI p) (nI d) (hS h g) = rI (nI (gB P p d k)) (hS h g)
  | 0, d, hd, hx => by
    obtain ⟨q, h1, h2, h3⟩ := hx
    omega
  | k + 1, d, hd, hx => by
    rw [e_Y_nearestGap_2, L7, if_neg (fun e => absurd ((i_le (by omega) (by omega)).1 e) (by omega))]
    unfold gB
    have h29 : ¬ (d ≤ p ∧ sl P (p - d) = 0) → f_Y_nearestGap_29 63 (nI p) (nI d) (hS h g) = rI (nI (if p + d < 7 ∧ sl P (p + d) = 0 then p + d else gB P p (d + 1) k)) (hS h g) := fun hn => by
      rw [e_Y_nearestGap_29, L7, i_add]
      have nx : ¬ (p + d < 7 ∧ sl P (p + d) = 0) → f_Y_nearestGap_2 63 (nI p) (nI (d + 1)) (hS h g) = rI (nI (gB P p (d + 1) k)) (hS h g) := fun hn2 => by
        refine s_YgapL w hp hW k (d + 1) (by omega) ?_
        obtain ⟨q, h1, h2, h3⟩ := hx
        refine ⟨q, h1, h2, ?_⟩
        rcases h3 with h3 | h3
        · have : q ≠ p - d := fun e => hn ⟨by omega, by rw [← e]; exact h2⟩
          omega
        · have : q ≠ p + d := fun e => hn2 ⟨by omega, by rw [← e]; exact h2⟩
          omega
      by_cases h1 : p + d < 7
      · have hs := sl_lt P (p + d)
        rw [if_neg (fun e => absurd ((i_le (by omega) (by omega)).1 e) (by omega))]
        simp only [yR11 w, oo_v, yA71 w h1, hW (p + d) h1]
        by_cases h2 : sl P (p + d) = 0
        · rw [if_pos ((i_eq0 (by omega)).2 h2), if_pos ⟨h1, h2⟩]
        · rw [if_neg (fun e => h2 ((i_eq0 (by omega)).1 e)), if_neg (fun e => h2 e.2), L1, i_add]
          exact nx (fun e => h2 e.2)
      · rw [if_pos ((i_le (by omega) (by omega)).2 (by omega)), if_neg (fun e => h1 e.1), L1, i_add]
        exact nx (fun e => h1 e.1)
    by_cases h1 : d ≤ p
    · have hs := sl_lt P (p - d)
      rw [i_sub h1, if_neg (i_nneg (by omega))]
      simp only [yR11 w, oo_v, yA71 w (show p - d < 7 by omega), hW (p - d) (by omega)]
      by_cases h2 : sl P (p - d) = 0
      · rw [if_pos ((i_eq0 (by omega)).2 h2), if_pos ⟨h1, h2⟩]
      · rw [if_neg (fun e => h2 ((i_eq0 (by omega)).1 e)), if_neg (fun e => h2 e.2)]
        exact h29 (fun e => h2 e.2)
    · rw [if_pos (i_subneg (by omega) (by omega)), if_neg (fun e => h1 e.1)]
      exact h29 (fun e => h1 e.1)
/-- the nearest gap: the place itself, if it is one -/
theorem s_YnearestGap {b P p : Nat} {g : Nat → Nat → Int32} (w : WF h) (hb : b < 6) (hv : VW b P) (hp : p < 7) (hW : WAt g 71 P) : f_Y_nearestGap 63 (nI p) (hS h g) = rI (nI (if sl P p = 0 then p else gap P p)) (hS h g) := by
  obtain ⟨q, h1, h2, _⟩ := VW_gap hb hv hp
  have h3 := s_YgapL w hp hW 7 0 (by omega) ⟨q, h1, h2, by omega⟩
  rw [e_Y_nearestGap, L0, h3]
  have h4 : gB P p 0 7 = if sl P p = 0 then p else gap P p := by
    unfold gB gap
    rw [Nat.sub_zero, Nat.add_zero]
    by_cases h0 : sl P p = 0
    · rw [if_pos ⟨Nat.zero_le _, h0⟩, if_pos h0]
    · rw [if_neg (fun e => h0 e.2), if_neg (fun e => h0 e.2), if_neg h0]
  rw [h4]
theorem s_YisPlace {q : Nat} (hq : q < 100) : f_Y_isPlace (nI q) h = rI (nI (decide (q < 7)).toNat) h := by
  rw [e_Y_isPlace, e_Y_in, if_neg (i_nneg (by omega)), L6]
  by_cases h1 : q < 7
  · rw [if_neg (fun e => absurd ((i_lt (by omega) (by omega)).1 e) (by omega)), cI_v, decide_eq_true h1, if_pos (Or.inr rfl)]; rfl
  · rw [if_pos ((i_lt (by omega) (by omega)).2 (by omega)), cI_v, decide_eq_false h1, if_pos (Or.inl rfl)]; rfl
theorem s_YisPlaceN {x : Int32} (hx : x < 0) : f_Y_isPlace x h = rI (nI 0) h := by
  rw [e_Y_isPlace, e_Y_in, if_pos hx, cI_v, if_pos (Or.inl rfl)]
  rfl
theorem plc_mod {m : Nat} (hm : m < 19) (h7 : ¬ m < 7) : m - 7 - (m - 7) / 6 * 6 = plc m := by
  unfold plc
  rw [if_neg h7]
  split <;> omega
theorem s_YwhyNotOf {b P S m : Nat} {g : Nat → Nat → Int32} (w : WF h) (hv : VW b P) (hm : m < 19) (hb : b < 6) (hT : ∀ s, 1 ≤ s → s ≤ b → g 70 (s - 1) = nI (S.testBit s).toNat) (hW : WAt g 71 P) : f_Y_whyNotOf 63 (nI m) (hS h g) = rI (nI (rsn P S m)) (hS h g) := by
  rw [e_Y_whyNotOf]
  unfold rsn
  by_cases h7 : m < 7
  · have hs := sl_lt P m
    have hsb := hv.2.1 m h7
    rw [L7, if_neg (fun e => absurd ((i_le (by omega) (by omega)).1 e) (by omega)), if_pos h7]
    simp only [yR11 w, yR9 w, oo_v, yA71 w h7, hW m h7]
    by_cases h0 : sl P m = 0
    · rw [if_pos ((i_eq0 (by omega)).2 h0), if_pos h0]; rfl
    · rw [if_neg (fun e => h0 ((i_eq0 (by omega)).1 e)), if_neg h0, L1, i_sub (by omega), yA70 w (by omega), oo_v, hT (sl P m) (by omega) hsb]
      cases S.testBit (sl P m)
      · rw [if_neg (by decide), if_neg (by decide)]; rfl
      · rw [if_pos (by rfl), if_pos (by rfl)]; rfl
  · have hp6 := plc_lt6 hm h7
    have hs0 := sl_lt P (plc m)
    have hs1 := sl_lt P (plc m + 1)
    rw [L7, if_pos ((i_le (by omega) (by omega)).2 (by omega)), if_neg h7, L6, if_neg (by decide), i_sub (by omega), i_div (by omega) (by omega), i_mul, i_sub (by omega), plc_mod hm h7]
    have h65 : ∀ (t : Int32) (X : Nat), (f_Y_isPlace t (hS h g) = rI (nI 0) (hS h g) ∧ X = 4 ∨ ∃ q, t = nI q ∧ q < 7 ∧ X = if sl P q = 0 then 0 else 4) → f_Y_whyNotOf_65 63 (nI (plc m)) t (hS h g) = rI (nI (if sl P (plc m) = 0 then 3 else if sl P (plc m + 1) = 0 then 3 else X)) (hS h g) := fun t X ht => by
      rw [e_Y_whyNotOf_65]
      simp only [yR11 w, oo_v, yA71 w (show plc m < 7 by omega), hW (plc m) (by omega)]
      by_cases h0 : sl P (plc m) = 0
      · rw [if_pos ((i_eq0 (by omega)).2 h0), if_pos h0]; rfl
      · rw [if_neg (fun e => h0 ((i_eq0 (by omega)).1 e)), if_neg h0, L1, i_add, yA71 w (show plc m + 1 < 7 by omega), oo_v, hW (plc m + 1) (by omega)]
        by_cases h1 : sl P (plc m + 1) = 0
        · rw [if_pos ((i_eq0 (by omega)).2 h1), if_pos h1]; rfl
        · rw [if_neg (fun e => h1 ((i_eq0 (by omega)).1 e)), if_neg h1]
          rcases ht with ⟨e1, e2⟩ | ⟨q, e1, e2, e3⟩
          · rw [e1, cI_v, if_pos (by rfl), e2]; rfl
          · have hsq := sl_lt P q
            rw [e1, s_YisPlace (by omega), cI_v, decide_eq_true e2, if_neg (by decide), yR11 w, oo_v, yA71 w e2, oo_v, hW q e2, e3]
            by_cases h2 : sl P q = 0
            · rw [if_pos ((i_eq0 (by omega)).2 h2), if_pos h2]; rfl
            · rw [if_neg (fun e => h2 ((i_eq0 (by omega)).1 e)), if_neg h2]; rfl
    by_cases h13 : m < 13
    · rw [L13, if_neg (fun e => absurd ((i_le (by omega) (by omega)).1 e) (by omega)), if_pos h13, L2, i_add]
      refine h65 _ _ ?_
      by_cases h2 : plc m + 2 < 7
      · refine Or.inr ⟨plc m + 2, rfl, h2, ?_⟩
        by_cases h3 : sl P (plc m + 2) = 0
        · rw [if_pos ⟨h2, h3⟩, if_pos h3]
        · rw [if_neg (fun e => h3 e.2), if_neg h3]
      · refine Or.inl ⟨?_, by rw [if_neg (fun e => h2 e.1)]⟩
        rw [s_YisPlace (by omega), decide_eq_false h2]; rfl
    · rw [L13, if_pos ((i_le (by omega) (by omega)).2 (by omega)), if_neg h13, L1]
      refine h65 _ _ ?_
      by_cases h2 : 1 ≤ plc m
      · refine Or.inr ⟨plc m - 1, i_sub h2, by omega, ?_⟩
        by_cases h3 : sl P (plc m - 1) = 0
        · rw [if_pos ⟨h2, h3⟩, if_pos h3]
        · rw [if_neg (fun e => h3 e.2), if_neg h3]
      · exact Or.inl ⟨s_YisPlaceN (i_subneg (by omega) (by omega)), by rw [if_neg (fun e => h2 e.1)]⟩
theorem s_Ymakes_2 {b P m : Nat} {O : Nat → Nat} {g0 : Nat → Nat → Int32} (w : WF h) (hb : b < 6) (hv : VW b P) (hm : m < 19) (h0 : rsn P 0 m = 0) (hW : WAt g0 71 P) (hO : ∀ s, 1 ≤ s → s ≤ b → g0 69 (s - 1) = nI (O s) ∧ O s ≤ 9) : ∀ (k q : Nat) (g : Nat → Nat → Int32), q + k = 7 → (∀ i, i < q → g 72 i = nI (sl P i)) → Off g0 g [72] →
    ∃ g', f_Y_makes_2 63 (nI m) (nI q) (hS h g) = rV (hS h g') ∧ WAt g' 72 (aft P m) ∧ g' 63 13 = nI (prc O P m) ∧ Off g0 g' [63, 72] ∧ ∀ j, j ≠ 13 → g' 63 j = g0 63 j
  | 0, q, g, hq, h1, ho => by
    have hg := VW_gap hb hv (show plc m < 7 from plc_lt hm)
    have g71 : WAt g 71 P := by unfold WAt; rw [ho 71 (by simp)]; exact hW
    have g69 : ∀ s, 1 ≤ s → s ≤ b → g 69 (s - 1) = nI (O s) ∧ O s ≤ 9 := by rw [ho 69 (by simp)]; exact hO
    have hbx : ∃ x, x < 7 ∧ sl P x = 0 ∧ x ≠ m := by
      by_cases h7 : m < 7
      · exact VW_gap hb hv h7
      · obtain ⟨x, a1, a2, _⟩ := VW_gap hb hv (show 0 < 7 by omega)
        exact ⟨x, a1, a2, by omega⟩
    have ha := fun x hx => aft_sl (q := x) hbx hm h0 hx
    rw [e_Y_makes_2, L7, if_pos ((i_le (by omega) (by omega)).2 (by omega))]
    by_cases h7 : m < 7
    · have hp := rsn_pull h7 h0
      have hsb := hv.2.1 m h7
      have hgl := gap_lt (P := P) h7
      obtain ⟨hgm, hg0⟩ := gap_at h7 (VW_gap hb hv h7)
      rw [if_neg (fun e => absurd ((i_le (by omega) (by omega)).1 e) (by omega))]
      simp only [yR8 w, yR11 w, oo_v, yA71 w h7, g71 m h7]
      rw [L1, i_sub (by omega), yA69 w (by omega), oo_v, (g69 _ (by omega) hsb).1, if_pos (yK w), i_f]
      simp only [yR12 w, oo_v, yK w, if_true]
      rw [s_YnearestGap w hb hv h7 (fun x hx => by rw [s2_at, if_neg (by omega)]; exact g71 x hx), cI_v, if_neg hp.1]
      simp only [yR11 w, oo_v, yA71 w h7, yB72 w hgl, if_true, i_w (show gap P m < 2147483648 by omega), yR12 w, yB72 w h7, i_w (show m < 2147483648 by omega)]
      rw [show s2 g 63 13 (nI (O (sl P m))) 71 m = nI (sl P m) by rw [s2_at, if_neg (by omega)]; exact g71 m h7, L0]
      refine ⟨_, rfl, fun x hx => ?_, ?_, Off.tr (Off.mono ho (by simp)) (Off.tr (s2_off (by simp)) (Off.tr (s2_off (by simp)) (s2_off (by simp)))), fun j hj => ?_⟩
      · rw [ha x hx, if_pos h7]
        by_cases x1 : x = gap P m
        · rw [if_pos x1, x1]
          simp [s2_at, hgm]
        · rw [if_neg x1]
          by_cases x2 : x = m
          · rw [if_pos x2, x2]
            simp [s2_at]
          · rw [if_neg x2]
            have := h1 x (by omega)
            simp [s2_at, x1, x2, this]
      · unfold prc
        rw [if_pos h7]
        simp [s2_at]
      · rw [← congrFun (ho 63 (by simp)) j]
        simp [s2_at, hj]
    · obtain ⟨p1, p2, p3, p4⟩ := rsn_push hm h7 h0
      have hp6 := plc_lt6 hm h7
      have hs0 := hv.2.1 (plc m) (by omega)
      have hs1 := hv.2.1 (plc m + 1) (by omega)
      rw [if_pos ((i_le (by omega) (by omega)).2 (by omega)), L6, if_neg (by decide), i_sub (by omega), i_div (by omega) (by omega), i_mul, i_sub (by omega), plc_mod hm h7]
      simp only [yR8 w, yR11 w, oo_v, yA71 w (show plc m < 7 by omega), g71 (plc m) (by omega), L1, i_add, yA71 w (show plc m + 1 < 7 by omega), g71 (plc m + 1) (by omega)]
      rw [i_sub (by omega), i_sub (by omega), yA69 w (show sl P (plc m) - 1 < 5 by omega), oo_v, yA69 w (show sl P (plc m + 1) - 1 < 5 by omega), oo_v, (g69 _ (by omega) hs0).1, (g69 _ (by omega) hs1).1]
      have hO0 := (g69 _ (show 1 ≤ sl P (plc m) by omega) hs0).2
      have hO1 := (g69 _ (show 1 ≤ sl P (plc m + 1) by omega) hs1).2
      have h162 : ∀ (z to : Nat) (x : Int32), z < 7 → to + 1 < 7 → x = nI (prc O P m) → (∀ i, i < 7 → (if i = to + 1 then sl P (plc m + 1) else if i = to then sl P (plc m) else if i = z then 0 else sl P i) = sl (aft P m) i) →
          ∃ g', f_Y_makes_162 63 (nI (plc m)) (nI to) 72 (nI z) (sI (hS h g) 63 13 x) = rV (hS h g') ∧ WAt g' 72 (aft P m) ∧ g' 63 13 = nI (prc O P m) ∧ Off g0 g' [63, 72] ∧ ∀ j, j ≠ 13 → g' 63 j = g0 63 j := fun z to x hz hto hx hall => by
        rw [e_Y_makes_162, i_f, if_pos (yB72 w hz)]
        simp only [i_w (show z < 2147483648 by omega), yR12 w, yR11 w, oo_v, yA71 w (show plc m < 7 by omega), yB72 w (show to < 7 by omega), if_true, i_w (show to < 2147483648 by omega), L1, i_add, yA71 w (show plc m + 1 < 7 by omega), yB72 w hto, i_w (show to + 1 < 2147483648 by omega), L0]
        refine ⟨_, rfl, fun i hi => ?_, ?_, Off.tr (Off.mono ho (by simp)) (Off.tr (s2_off (by simp)) (Off.tr (s2_off (by simp)) (Off.tr (s2_off (by simp)) (s2_off (by simp))))), fun j hj => ?_⟩
        · rw [← hall i hi]
          by_cases x1 : i = to + 1
          · rw [if_pos x1, x1]
            simp [s2_at, g71 (plc m + 1) (by omega)]
          · rw [if_neg x1]
            by_cases x2 : i = to
            · rw [if_pos x2, x2]
              simp [s2_at, g71 (plc m) (by omega)]
            · rw [if_neg x2]
              by_cases x3 : i = z
              · rw [if_pos x3, x3]
                rw [x3] at x1 x2
                simp [s2_at, x1, x2]
              · rw [if_neg x3]
                have := h1 i (by omega)
                simp [s2_at, x1, x2, x3, this]
        · rw [hx]
          simp [s2_at]
        · rw [← congrFun (ho 63 (by simp)) j]
          simp [s2_at, hj]
      have h127 : ∀ to : Nat, to + 1 < 7 → (∀ i, i < 7 → (if i = to + 1 then sl P (plc m + 1) else if i = to then sl P (plc m) else if i = (if m < 13 then plc m else plc m + 1) then 0 else sl P i) = sl (aft P m) i) →
          ∃ g', f_Y_makes_127 63 (nI m) (nI (plc m)) (nI (O (sl P (plc m)))) (nI (O (sl P (plc m + 1)))) (nI to) (hS h g) = rV (hS h g') ∧ WAt g' 72 (aft P m) ∧ g' 63 13 = nI (prc O P m) ∧ Off g0 g' [63, 72] ∧ ∀ j, j ≠ 13 → g' 63 j = g0 63 j := fun to hto hall => by
        have hpm : prc O P m = max (O (sl P (plc m))) (O (sl P (plc m + 1))) := by unfold prc; rw [if_neg h7]
        have h142 : ∀ x : Int32, x = nI (prc O P m) → ∃ g', f_Y_makes_142 63 (nI m) (nI (plc m)) (nI to) 63 x (hS h g) = rV (hS h g') ∧ WAt g' 72 (aft P m) ∧ g' 63 13 = nI (prc O P m) ∧ Off g0 g' [63, 72] ∧ ∀ j, j ≠ 13 → g' 63 j = g0 63 j := fun x hx => by
          rw [e_Y_makes_142, if_pos (yK w), hR_I, yR12 w, oo_v, L13]
          by_cases h13 : m < 13
          · rw [if_neg (fun e => absurd ((i_le (by omega) (by omega)).1 e) (by omega))]
            rw [if_pos h13] at hall
            exact h162 (plc m) to x (by omega) hto hx hall
          · rw [if_pos ((i_le (by omega) (by omega)).2 (by omega)), L1, i_add]
            rw [if_neg h13] at hall
            exact h162 (plc m + 1) to x (by omega) hto hx hall
        rw [e_Y_makes_127]
        by_cases hoo : O (sl P (plc m)) ≤ O (sl P (plc m + 1))
        · rw [if_pos ((i_le (by omega) (by omega)).2 hoo)]
          exact h142 _ (by rw [hpm, Nat.max_eq_right hoo])
        · rw [if_neg (fun e => hoo ((i_le (by omega) (by omega)).1 e))]
          exact h142 _ (by rw [hpm, Nat.max_eq_left (by omega)])
      rw [L13]
      by_cases h13 : m < 13
      · rw [if_neg (fun e => absurd ((i_le (by omega) (by omega)).1 e) (by omega))]
        have := (p3 h13).1
        refine h127 (plc m + 1) (by omega) (fun i hi => ?_)
        rw [ha i hi, if_neg h7, if_pos h13, if_pos h13]
      · rw [if_pos ((i_le (by omega) (by omega)).2 (by omega))]
        have := (p4 h13).1
        rw [i_sub this]
        refine h127 (plc m - 1) (by omega) (fun i hi => ?_)
        rw [ha i hi, if_neg h7, if_neg h13, if_neg h13, show plc m - 1 + 1 = plc m by omega]
  | k + 1, q, g, hq, h1, ho => by
    have g71 : WAt g 71 P := by unfold WAt; rw [ho 71 (by simp)]; exact hW
    rw [e_Y_makes_2, L7, if_neg (fun e => absurd ((i_le (by omega) (by omega)).1 e) (by omega))]
    simp only [yR12 w, yR11 w, oo_v, yA71 w (show q < 7 by omega), g71 q (by omega), yB72 w (show q < 7 by omega), if_true, i_w (show q < 2147483648 by omega), L1, i_add]
    refine s_Ymakes_2 w hb hv hm h0 hW hO k (q + 1) _ (by omega) (fun i hi => ?_) (Off.tr ho (s2_off (by simp)))
    by_cases hiq : i = q
    · subst hiq
      simp [s2_at]
    · have := h1 i (by omega)
      simp [s2_at, hiq, this]
/-- a move that is not refused: the word behind it, and its price -/
theorem s_Ymakes {b P m : Nat} {O : Nat → Nat} {g : Nat → Nat → Int32} (w : WF h) (hb : b < 6) (hv : VW b P) (hm : m < 19) (h0 : rsn P 0 m = 0) (hW : WAt g 71 P) (hO : ∀ s, 1 ≤ s → s ≤ b → g 69 (s - 1) = nI (O s) ∧ O s ≤ 9) :
    ∃ g', f_Y_makes 63 (nI m) (hS h g) = rV (hS h g') ∧ WAt g' 72 (aft P m) ∧ g' 63 13 = nI (prc O P m) ∧ Off g g' [63, 72] ∧ ∀ j, j ≠ 13 → g' 63 j = g 63 j := by
  rw [e_Y_makes]
  exact s_Ymakes_2 w hb hv hm h0 hW hO 7 0 g (by omega) (fun _ hi => absurd hi (Nat.not_lt_zero _)) Off.rf
theorem s_YgoesL {P : Nat} {g0 : Nat → Nat → Int32} (w : WF h) (hW : WAt g0 72 P) : ∀ (k q : Nat) (g : Nat → Nat → Int32), q + k = 7 → (∀ i, i < q → g 71 i = nI (sl P i)) → Off g0 g [71] → ∃ g', f_Y_goesOn_2 63 (nI q) (hS h g) = rV (hS h g') ∧ WAt g' 71 P ∧ Off g0 g' [71]
  | 0, q, g, hq, h1, ho => by
    refine ⟨g, ?_, fun i hi => h1 i (by omega), ho⟩
    rw [e_Y_goesOn_2, L7, if_pos ((i_le (by omega) (by omega)).2 (by omega))]
  | k + 1, q, g, hq, h1, ho => by
    have g72 : WAt g 72 P := by unfold WAt; rw [ho 72 (by simp)]; exact hW
    rw [e_Y_goesOn_2, L7, if_neg (fun e => absurd ((i_le (by omega) (by omega)).1 e) (by omega))]
    simp only [yR12 w, yR11 w, oo_v, yA72 w (show q < 7 by omega), g72 q (by omega), yB71 w (show q < 7 by omega), if_true, i_w (show q < 2147483648 by omega), L1, i_add]
    refine s_YgoesL w hW k (q + 1) _ (by omega) (fun i hi => ?_) (Off.tr ho (s2_off (by simp)))
    by_cases hiq : i = q
    · subst hiq
      simp [s2_at]
    · have := h1 i (by omega)
      simp [s2_at, hiq, this]
theorem s_YgoesOn {P : Nat} {g : Nat → Nat → Int32} (w : WF h) (hW : WAt g 72 P) : ∃ g', f_Y_goesOn 63 (hS h g) = rV (hS h g') ∧ WAt g' 71 P ∧ Off g g' [71] := by
  rw [e_Y_goesOn]
  exact s_YgoesL w hW 7 0 g (by omega) (fun _ hi => absurd hi (Nat.not_lt_zero _)) Off.rf
end YMoves
