/-! the reference's counts: sums by places are sums by slots -/
theorem sm_add (f g : Nat → Nat) : ∀ n, sm (fun i => f i + g i) n = sm f n + sm g n
  | 0 => rfl
  | n + 1 => by
    show sm (fun i => f i + g i) n + (f n + g n) = (sm f n + f n) + (sm g n + g n)
    rw [sm_add f g n]
    omega
theorem sm_ind {P t c : Nat} : ∀ n, sm (fun p => if sl P p = t then c else 0) n = c * cnt (fun p => sl P p == t) n
  | 0 => rfl
  | n + 1 => by
    show sm (fun p => if sl P p = t then c else 0) n + (if sl P n = t then c else 0) = c * (cnt (fun p => sl P p == t) n + (sl P n == t).toNat)
    rw [sm_ind n, Nat.mul_add]
    congr 1
    by_cases h : sl P n = t
    · rw [if_pos h, show (sl P n == t) = true from by simpa using h]
      show c = c * 1
      omega
    · rw [if_neg h, show (sl P n == t) = false from by simpa using h]
      rfl
theorem sm_slots {P b : Nat} {G : Nat → Nat} (hv : VW b P) : ∀ m, m ≤ b → sm (fun p => if 1 ≤ sl P p ∧ sl P p ≤ m then G (sl P p) else 0) 7 = sm (fun i => G (i + 1)) m
  | 0, _ => by
    rw [sm_congr (g' := fun _ => 0) 7 (fun p _ => by rw [if_neg (by omega)]), sm_zero]
    rfl
  | m + 1, h => by
    have ih := sm_slots (G := G) hv m (by omega)
    have h1 := hv.2.2 (m + 1) (by omega) h
    rw [sm_congr (g' := fun p => (if 1 ≤ sl P p ∧ sl P p ≤ m then G (sl P p) else 0) + (if sl P p = m + 1 then G (m + 1) else 0)) 7 (fun p _ => by
      by_cases q1 : sl P p = m + 1
      · rw [if_pos (by omega), if_neg (by omega), if_pos q1, q1, Nat.zero_add]
      · by_cases q2 : 1 ≤ sl P p ∧ sl P p ≤ m
        · rw [if_pos (by omega), if_pos q2, if_neg q1, Nat.add_zero]
        · rw [if_neg (by omega), if_neg q2, if_neg q1]), sm_add, ih, sm_ind]
    have h2 : cnt (fun p => sl P p == m + 1) 7 = 1 := h1
    rw [h2, Nat.mul_one]
    rfl
theorem sm_places {P b : Nat} {G : Nat → Nat} (hv : VW b P) : sm (fun p => if sl P p = 0 then 0 else G (sl P p)) 7 = sm (fun i => G (i + 1)) b := by
  rw [← sm_slots (G := G) hv b (Nat.le_refl _)]
  refine sm_congr 7 fun p hp => ?_
  have := hv.2.1 p hp
  by_cases h : sl P p = 0
  · rw [if_pos h, if_neg (by omega)]
  · rw [if_neg h, if_pos (by omega)]
theorem smw_sm (o : Nat → Nat) : ∀ n, smw o n = sm (fun i => o (i + 1)) n
  | 0 => rfl
  | n + 1 => by
    show smw o n + o (n + 1) = sm (fun i => o (i + 1)) n + o (n + 1)
    rw [smw_sm o n]
theorem pop_sm {S b : Nat} (hb : b < 6) (hS : ∀ s, S.testBit s = true → 1 ≤ s ∧ s ≤ b) : sm (fun i => (S.testBit (i + 1)).toNat) b = pop S := by
  have hz : ∀ s, (s = 0 ∨ b < s) → (S.testBit s).toNat = 0 := fun s hs => by
    cases hx : S.testBit s with
    | false => rfl
    | true =>
      have := hS s hx
      omega
  have h0 := hz 0 (Or.inl rfl)
  unfold pop
  show _ = cnt (fun i => S.testBit i) 0 + (S.testBit 0).toNat + (S.testBit 1).toNat + (S.testBit 2).toNat + (S.testBit 3).toNat + (S.testBit 4).toNat + (S.testBit 5).toNat
  rw [show cnt (fun i => S.testBit i) 0 = 0 from rfl, h0]
  rcases (show b = 0 ∨ b = 1 ∨ b = 2 ∨ b = 3 ∨ b = 4 ∨ b = 5 by omega) with rfl | rfl | rfl | rfl | rfl | rfl
  · rw [hz 1 (by omega), hz 2 (by omega), hz 3 (by omega), hz 4 (by omega), hz 5 (by omega)]; rfl
  · rw [hz 2 (by omega), hz 3 (by omega), hz 4 (by omega), hz 5 (by omega)]
    show 0 + (S.testBit 1).toNat = _
    omega
  · rw [hz 3 (by omega), hz 4 (by omega), hz 5 (by omega)]
    show 0 + (S.testBit 1).toNat + (S.testBit 2).toNat = _
    omega
  · rw [hz 4 (by omega), hz 5 (by omega)]
    show 0 + (S.testBit 1).toNat + (S.testBit 2).toNat + (S.testBit 3).toNat = _
    omega
  · rw [hz 5 (by omega)]
    show 0 + (S.testBit 1).toNat + (S.testBit 2).toNat + (S.testBit 3).toNat + (S.testBit 4).toNat = _
    omega
  · show 0 + (S.testBit 1).toNat + (S.testBit 2).toNat + (S.testBit 3).toNat + (S.testBit 4).toNat + (S.testBit 5).toNat = _
    omega
section YCounts
variable {h : pH}
theorem s_YwrongL {P p F : Nat} {g : Nat → Nat → Int32} (w : WF h) (hp : p < 7) (h0 : sl P p ≠ 0) (hF : F < 2) (h21 : g 64 21 = nI F) (hW : WAt g 71 P) : ∀ (k q : Nat), q + k = 7 → f_Y_wrongWith_4 63 (nI p) (nI (cnt (wbf P p F) q)) (nI q) (hS h g) = rI (nI (wb P p F)) (hS h g)
  | 0, q, hq => by
    obtain rfl : q = 7 := by omega
    rw [e_Y_wrongWith_4, L7, if_pos ((i_le (by omega) (by omega)).2 (Nat.le_refl _))]
    rfl
  | k + 1, q, hq => by
    have hsp := sl_lt P p
    have hsq := sl_lt P q
    have ih := s_YwrongL w hp h0 hF h21 hW k (q + 1) (by omega)
    have e0 : cnt (wbf P p F) (q + 1) = cnt (wbf P p F) q + (wbf P p F q).toNat := rfl
    rw [e0] at ih
    have hgo : ∀ x y : Nat, (q ≠ p → sl P q ≠ 0 → x ≠ 0 ∧ y ≠ 0 ∧ x < 8 ∧ y < 8 ∧ wbf P p F q = wrg F x y) → f_Y_wrongWith_52 63 (nI p) (nI (cnt (wbf P p F) q)) (nI q) (nI x) (nI y) (hS h g) = rI (nI (wb P p F)) (hS h g) := fun x y hxy => by
      rw [e_Y_wrongWith_52]
      by_cases hqp : q = p
      · rw [if_pos (by rw [hqp]), L0, L1, i_add, i_add]
        have e1 : wbf P p F q = false := by unfold wbf; rw [hqp, if_neg (Nat.lt_irrefl p)]; exact wrg_self _ _
        rw [e1] at ih
        exact ih
      · rw [if_neg (fun e => hqp ((i_inj (by omega) (by omega)).1 e))]
        simp only [yR11 w, oo_v, yA71 w (show q < 7 by omega), hW q (by omega), yK w, if_true]
        by_cases h1 : sl P q = 0
        · rw [if_pos ((i_le0 (by omega)).2 h1), L0, L1, i_add, i_add]
          have e1 : wbf P p F q = false := by
            unfold wbf
            by_cases q1 : q < p
            · rw [if_pos q1, h1]; exact wrg_l0 _ _
            · rw [if_neg q1, if_neg q1, h1]; exact wrg_r0 _ _
          rw [e1] at ih
          exact ih
        · obtain ⟨x0, y0, x8, y8, e1⟩ := hxy hqp h1
          rw [e1] at ih
          rw [if_neg (fun e => h1 ((i_le0 (by omega)).1 e)), s_YisWrong w x0 y0 x8 y8 hF h21, cI_v]
          cases hw : wrg F x y with
          | false =>
            rw [hw] at ih
            rw [if_pos (show nI false.toNat = 0 from rfl), L0, L1, i_add, i_add]
            exact ih
          | true =>
            rw [hw] at ih
            rw [if_neg (show ¬ nI true.toNat = 0 by decide), L1, i_add, i_add]
            exact ih
    rw [e_Y_wrongWith_4, L7, if_neg (fun e => absurd ((i_le (by omega) (by omega)).1 e) (by omega))]
    simp only [yR11 w, oo_v, yA71 w (show p < 7 by omega), yA71 w (show q < 7 by omega), hW p hp, hW q (by omega)]
    by_cases q1 : p ≤ q
    · rw [if_pos ((i_le (by omega) (by omega)).2 q1), e_Y_wrongWith_30]
      simp only [yR11 w, oo_v, yA71 w (show p < 7 by omega), yA71 w (show q < 7 by omega), hW p hp, hW q (by omega)]
      rw [if_pos ((i_le (by omega) (by omega)).2 q1)]
      exact hgo _ _ (fun _ z => ⟨h0, z, hsp, hsq, by unfold wbf; rw [if_neg (by omega), if_neg (by omega)]⟩)
    · rw [if_neg (fun e => q1 ((i_le (by omega) (by omega)).1 e)), e_Y_wrongWith_30]
      simp only [yR11 w, oo_v, yA71 w (show p < 7 by omega), yA71 w (show q < 7 by omega), hW p hp, hW q (by omega)]
      rw [if_neg (fun e => q1 ((i_le (by omega) (by omega)).1 e))]
      exact hgo _ _ (fun _ z => ⟨z, h0, hsq, hsp, by unfold wbf; rw [if_pos (by omega), if_pos (by omega)]⟩)
theorem s_YwrongWith {P p F : Nat} {g : Nat → Nat → Int32} (w : WF h) (hp : p < 7) (h0 : sl P p ≠ 0) (hF : F < 2) (h21 : g 64 21 = nI F) (hW : WAt g 71 P) : f_Y_wrongWith 63 (nI p) (hS h g) = rI (nI (wb P p F)) (hS h g) := by
  rw [e_Y_wrongWith]
  exact s_YwrongL w hp h0 hF h21 hW 7 0 (by omega)
theorem s_YmovesL {b P S : Nat} {g : Nat → Nat → Int32} (w : WF h) (hv : VW b P) (hb : b < 6) (hT : ∀ s, 1 ≤ s → s ≤ b → g 70 (s - 1) = nI (S.testBit s).toNat) (hW : WAt g 71 P) : ∀ (k m : Nat), m + k = 19 → f_Y_movesNow_4 63 (nI (cnt (fun m => decide (rsn P S m = 0)) m)) (nI m) (hS h g) = rI (nI (cnt (fun m => decide (rsn P S m = 0)) 19)) (hS h g)
  | 0, m, hm => by
    obtain rfl : m = 19 := by omega
    rw [e_Y_movesNow_4, L19, if_pos ((i_le (by omega) (by omega)).2 (Nat.le_refl _))]
  | k + 1, m, hm => by
    have hr := rsn_lt P S m
    have ih := s_YmovesL w hv hb hT hW k (m + 1) (by omega)
    have e0 : cnt (fun m => decide (rsn P S m = 0)) (m + 1) = cnt (fun m => decide (rsn P S m = 0)) m + (decide (rsn P S m = 0)).toNat := rfl
    rw [e0] at ih
    rw [e_Y_movesNow_4, L19, if_neg (fun e => absurd ((i_le (by omega) (by omega)).1 e) (by omega)), if_pos (yK w), s_YwhyNotOf w hv (by omega) hb hT hW, cI_v]
    by_cases h0 : rsn P S m = 0
    · rw [decide_eq_true h0] at ih
      rw [if_pos ((i_eq0 (by omega)).2 h0), L1, i_add, i_add]
      exact ih
    · rw [decide_eq_false h0] at ih
      rw [if_neg (fun e => h0 ((i_eq0 (by omega)).1 e)), L0, L1, i_add, i_add]
      exact ih
theorem s_YmovesNow {b P S : Nat} {g : Nat → Nat → Int32} (w : WF h) (hv : VW b P) (hb : b < 6) (hT : ∀ s, 1 ≤ s → s ≤ b → g 70 (s - 1) = nI (S.testBit s).toNat) (hW : WAt g 71 P) : f_Y_movesNow 63 (hS h g) = rI (nI (cnt (fun m => decide (rsn P S m = 0)) 19)) (hS h g) := by
  rw [e_Y_movesNow]
  exact s_YmovesL w hv hb hT hW 19 0 (by omega)
theorem s_YwioL {b F C : Nat} {g0 : Nat → Nat → Int32} (w : WF h) (hb : b < 6) (hF : F < 2) (hC : C < 2) (hB : g0 63 10 = nI b) (h21 : g0 64 21 = nI F) (h22 : g0 64 22 = nI C) : ∀ (k r : Nat) (g : Nat → Nat → Int32), r + k = wds b → Off g0 g [71] →
    ∃ g', f_Y_wordsInOrder_4 63 (nI (cnt (fun r => inOrd (wd b r) F C) r)) (nI r) (hS h g) = rI (nI (if C = 1 then 1 else wds b / wy 0 b)) (hS h g') ∧ Off g0 g' [71]
  | 0, r, g, hr, ho => by
    have hw := wds_lt hb
    obtain rfl : r = wds b := by omega
    refine ⟨g, ?_, ho⟩
    rw [e_Y_wordsInOrder_4, if_pos (yK w), s_Ywords w hb (by rw [ho 63 (by simp)]; exact hB), cI_v, if_pos ((i_le (by omega) (by omega)).2 (by omega)), wio hb hF hC]
  | k + 1, r, g, hr, ho => by
    have hw := wds_lt hb
    have hB' : g 63 10 = nI b := by rw [ho 63 (by simp)]; exact hB
    obtain ⟨g1, e1, e2, e3⟩ := s_Yspells (r := r) w hb (by omega) hB'
    have ho1 := Off.tr ho e3
    obtain ⟨g', f1, f2⟩ := s_YwioL w hb hF hC hB h21 h22 k (r + 1) g1 (by omega) ho1
    refine ⟨g', ?_, f2⟩
    have e0 : cnt (fun r => inOrd (wd b r) F C) (r + 1) = cnt (fun r => inOrd (wd b r) F C) r + (inOrd (wd b r) F C).toNat := rfl
    rw [e0] at f1
    rw [e_Y_wordsInOrder_4, if_pos (yK w), s_Ywords w hb hB', cI_v, if_neg (fun e => absurd ((i_le (by omega) (by omega)).1 e) (by omega)), if_pos (yK w), e1, cV_v, if_pos (yK w), s_YisWordInOrder w hF hC (by rw [ho1 64 (by simp)]; exact h21) (by rw [ho1 64 (by simp)]; exact h22) e2, cI_v]
    cases hi : inOrd (wd b r) F C with
    | false =>
      rw [hi] at f1
      rw [if_pos (show nI false.toNat = 0 from rfl), L0, L1, i_add, i_add]
      exact f1
    | true =>
      rw [hi] at f1
      rw [if_neg (show ¬ nI true.toNat = 0 by decide), L1, i_add, i_add]
      exact f1
theorem s_YwordsInOrder {b F C : Nat} {g : Nat → Nat → Int32} (w : WF h) (hb : b < 6) (hF : F < 2) (hC : C < 2) (hB : g 63 10 = nI b) (h21 : g 64 21 = nI F) (h22 : g 64 22 = nI C) : ∃ g', f_Y_wordsInOrder 63 (hS h g) = rI (nI (if C = 1 then 1 else wds b / wy 0 b)) (hS h g') ∧ Off g g' [71] := by
  rw [e_Y_wordsInOrder]
  exact s_YwioL w hb hF hC hB h21 h22 (wds b) 0 g (by omega) Off.rf
end YCounts
