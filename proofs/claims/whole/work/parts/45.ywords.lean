/-! the reference's words: ranks, spelling -/
theorem i_s0 {x : Int32} : x - nI 0 = x := by
  show x - 0 = x
  simp
theorem i_ss {x : Int32} {a b : Nat} : x - nI a - nI b = x - nI (a + b) := by rw [Int32.sub_sub, i_add]
theorem ff_bd : ∀ p, p < 8 → ∀ k, k < 8 → k ≤ p → 1 ≤ ff p k ∧ ff p k ≤ 5040 := by decide
theorem wY_le {p l : Nat} (hp : p < 8) (hl : l < 8) : wY p l ≤ 5040 := by
  unfold wY
  by_cases h : l ≤ p
  · rw [if_pos h]
    exact (ff_bd p hp l hl h).2
  · rw [if_neg h]
    exact Nat.zero_le _
section YWords
variable {h : pH}
theorem s_YwaysL {p l : Nat} (hp : p < 8) (hl : l ≤ p) : ∀ (j k : Nat), k + j = l → f_Y_ways_13 (nI p) (nI l) (nI (ff p k)) (nI k) h = rI (nI (ff p l)) h
  | 0, k, hk => by
    obtain rfl : k = l := by omega
    rw [e_Y_ways_13, if_pos ((i_le (by omega) (by omega)).2 (Nat.le_refl _))]
  | j + 1, k, hk => by
    have h1 := ff_bd p hp k (by omega) (by omega)
    rw [e_Y_ways_13, if_neg (fun q => absurd ((i_le (by omega) (by omega)).1 q) (by omega)), if_neg (fun q => absurd ((i_le0 (by omega)).1 q) (by omega)), i_sub (by omega), i_mul, L1, i_add]
    exact s_YwaysL hp hl j (k + 1) (by omega)
theorem s_Yways {p l : Nat} (hp : p < 8) (hl : l < 8) : f_Y_ways (nI p) (nI l) h = rI (nI (wY p l)) h := by
  rw [e_Y_ways]
  unfold wY
  by_cases h1 : l ≤ p
  · rw [if_pos ((i_le (by omega) (by omega)).2 h1), if_pos h1, L1, L0]
    exact s_YwaysL hp h1 l 0 (by omega)
  · rw [if_neg (fun q => h1 ((i_le (by omega) (by omega)).1 q)), if_neg h1, e_Y_ways_13, L0, if_neg (fun q => absurd ((i_le (by omega) (by omega)).1 q) (by omega)), if_pos ((i_le (by omega) (by omega)).2 (Nat.le_refl _))]
theorem wY7 : ∀ b, b < 6 → wY 7 b = wds b := by decide
theorem s_Ywords {b : Nat} {g : Nat → Nat → Int32} (w : WF h) (hb : b < 6) (hB : g 63 10 = nI b) : f_Y_words 63 (hS h g) = rI (nI (wds b)) (hS h g) := by
  rw [e_Y_words, yI w, oo_v, hB, L7, s_Yways (by omega) (by omega), cI_v, wY7 b hb]
theorem s_Ybef {b P p : Nat} {g : Nat → Nat → Int32} (w : WF h) (hb : b < 6) (hv : VW b P) (hp : p < 7) (hW : WAt g 72 P) : ∀ (k q : Nat), q + k = p →
    f_Y_before_26 63 (nI p) (nI (7 - b) - nI (c0 P q)) (nI (sl P p) - nI 1 - nI (c2 P p q)) (nI b - nI (c1 P q)) (nI q) (hS h g) = rI (nI (bfY b P p)) (hS h g)
  | 0, q, hq => by
    obtain rfl : q = p := by omega
    have hsl := sl_lt P q
    rw [e_Y_before_26, if_pos ((i_le (by omega) (by omega)).2 (Nat.le_refl _))]
    simp only [yR12 w, oo_v, yA72 w hp, hW q hp]
    unfold bfY
    by_cases h0 : sl P q = 0
    · rw [if_pos ((i_eq0 (by omega)).2 h0), if_pos h0]
      rfl
    · obtain ⟨k1, k2, k3⟩ := bf_eq hb hv hp h0
      rw [if_neg (fun e => h0 ((i_eq0 (by omega)).1 e)), if_neg h0, L6, i_sub (show q ≤ 6 by omega), L1, i_sub (show c1 P q ≤ b by omega), i_sub (show 1 ≤ b - c1 P q by omega), s_Yways (by omega) (by omega), cI_v, i_sub k1, i_sub (show 1 ≤ sl P q by omega), i_sub (show c2 P q q ≤ sl P q - 1 by omega), i_mul]
      by_cases h1 : 7 - b - c0 P q = 0
      · rw [if_pos ((i_le0 (by omega)).2 h1), if_pos h1, Nat.add_zero]
      · rw [if_neg (fun e => h1 ((i_le0 (by omega)).1 e)), if_neg h1, s_Yways (by omega) (by omega), cI_v, i_add]
  | k + 1, q, hq => by
    have hsq := sl_lt P q
    have hsp := sl_lt P p
    have ih := s_Ybef w hb hv hp hW k (q + 1) (by omega)
    have e0 : c0 P (q + 1) = c0 P q + (decide (sl P q = 0)).toNat := rfl
    have e1 : c1 P (q + 1) = c1 P q + (!decide (sl P q = 0)).toNat := rfl
    have e2 : c2 P p (q + 1) = c2 P p q + (!decide (sl P q = 0) && decide (sl P q < sl P p)).toNat := rfl
    rw [e0, e1, e2] at ih
    rw [e_Y_before_26, if_neg (fun e => absurd ((i_le (by omega) (by omega)).1 e) (by omega))]
    simp only [yR12 w, oo_v, yA72 w (show q < 7 by omega), hW q (by omega)]
    by_cases h0 : sl P q = 0
    · rw [decide_eq_true h0, Bool.not_true, Bool.false_and, Bool.toNat_false, Bool.toNat_true] at ih
      rw [if_pos ((i_eq0 (by omega)).2 h0), e_Y_before_48]
      simp only [yR12 w, oo_v, yA72 w (show q < 7 by omega), hW q (by omega)]
      rw [if_pos ((i_eq0 (by omega)).2 h0), e_Y_before_67]
      simp only [yR12 w, oo_v, yA72 w (show q < 7 by omega), hW q (by omega)]
      rw [if_pos ((i_le0 (by omega)).2 h0), L0, L1, i_s0, i_s0, i_ss (a := c0 P q), i_add]
      exact ih
    · rw [decide_eq_false h0, Bool.not_false, Bool.true_and, Bool.toNat_false, Bool.toNat_true] at ih
      rw [if_neg (fun e => h0 ((i_eq0 (by omega)).1 e)), e_Y_before_48]
      simp only [yR12 w, oo_v, yA72 w (show q < 7 by omega), hW q (by omega)]
      rw [if_neg (fun e => h0 ((i_eq0 (by omega)).1 e)), e_Y_before_67]
      simp only [yR12 w, oo_v, yA72 w (show q < 7 by omega), yA72 w hp, hW q (by omega), hW p hp]
      rw [if_neg (fun e => h0 ((i_le0 (by omega)).1 e))]
      by_cases h1 : sl P p ≤ sl P q
      · rw [decide_eq_false (show ¬ sl P q < sl P p by omega), Bool.toNat_false] at ih
        rw [if_pos ((i_le (by omega) (by omega)).2 h1), L0, L1, i_s0, i_s0, i_ss (a := c1 P q), i_add]
        exact ih
      · rw [decide_eq_true (show sl P q < sl P p by omega), Bool.toNat_true] at ih
        rw [if_neg (fun e => h1 ((i_le (by omega) (by omega)).1 e)), L0, L1, i_s0, i_ss (a := c2 P p q), i_ss (a := c1 P q), i_add]
        exact ih
theorem s_Ybefore {b P p : Nat} {g : Nat → Nat → Int32} (w : WF h) (hb : b < 6) (hv : VW b P) (hp : p < 7) (hB : g 63 10 = nI b) (hW : WAt g 72 P) : f_Y_before 63 (nI p) (hS h g) = rI (nI (bfY b P p)) (hS h g) := by
  have h1 := s_Ybef w hb hv hp hW p 0 (by omega)
  rw [e_Y_before]
  simp only [yI w, oo_v, hB, yR12 w, yA72 w hp, hW p hp, L7]
  rw [i_sub (show b ≤ 7 by omega), L1, L0]
  rw [show c0 P 0 = 0 from rfl, show c1 P 0 = 0 from rfl, show c2 P p 0 = 0 from rfl, i_s0, i_s0, i_s0] at h1
  exact h1
theorem s_YrankL {b P : Nat} {g : Nat → Nat → Int32} (w : WF h) (hb : b < 6) (hv : VW b P) (hB : g 63 10 = nI b) (hW : WAt g 72 P) : ∀ (k p : Nat), p + k = 7 → f_Y_rankOfThen_4 63 (nI (sm (bfY b P) p)) (nI p) (hS h g) = rI (nI (rk b P)) (hS h g)
  | 0, p, hp => by
    obtain rfl : p = 7 := by omega
    rw [e_Y_rankOfThen_4, L7, if_pos ((i_le (by omega) (by omega)).2 (Nat.le_refl _)), bf_rk hb hv]
  | k + 1, p, hp => by
    rw [e_Y_rankOfThen_4, L7, if_neg (fun e => absurd ((i_le (by omega) (by omega)).1 e) (by omega)), if_pos (yK w), s_Ybefore w hb hv (by omega) hB hW, cI_v, i_add, L1, i_add]
    exact s_YrankL w hb hv hB hW k (p + 1) (by omega)
theorem s_YrankOfThen {b P : Nat} {g : Nat → Nat → Int32} (w : WF h) (hb : b < 6) (hv : VW b P) (hB : g 63 10 = nI b) (hW : WAt g 72 P) : f_Y_rankOfThen 63 (hS h g) = rI (nI (rk b P)) (hS h g) := by
  rw [e_Y_rankOfThen]
  exact s_YrankL w hb hv hB hW 7 0 (by omega)
theorem s_YisUsedL {P p t : Nat} {g : Nat → Nat → Int32} (w : WF h) (hp : p < 7) (ht : t < 100) (hW : ∀ q, q < p → g 71 q = nI (sl P q)) : ∀ (k q : Nat), q + k = p → f_Y_isUsed_5 63 (nI t) (nI p) (nI (usY P t q).toNat) (nI q) (hS h g) = rI (nI (usY P t p).toNat) (hS h g)
  | 0, q, hq => by
    obtain rfl : q = p := by omega
    rw [e_Y_isUsed_5, if_pos ((i_le (by omega) (by omega)).2 (Nat.le_refl _))]
    cases usY P t q
    · rw [if_pos (show nI false.toNat = 0 ∨ nI false.toNat = 1 from Or.inl rfl)]
    · rw [if_pos (show nI true.toNat = 0 ∨ nI true.toNat = 1 from Or.inr rfl)]
  | k + 1, q, hq => by
    have hsq := sl_lt P q
    have ih := s_YisUsedL w hp ht hW k (q + 1) (by omega)
    have e0 : usY P t (q + 1) = (usY P t q || decide (sl P q = t)) := by
      unfold usY
      show decide (cnt _ q + (decide (sl P q = t)).toNat ≠ 0) = _
      by_cases h1 : cnt (fun q => decide (sl P q = t)) q = 0 <;> by_cases h2 : sl P q = t <;> simp [h1, h2]
    rw [e0] at ih
    rw [e_Y_isUsed_5, if_neg (fun e => absurd ((i_le (by omega) (by omega)).1 e) (by omega))]
    cases hu : usY P t q with
    | true =>
      rw [hu, Bool.true_or] at ih
      rw [if_neg (by decide), L1, i_add]
      exact ih
    | false =>
      rw [hu, Bool.false_or] at ih
      rw [if_pos (by rfl)]
      simp only [yR11 w, oo_v, yA71 w (show q < 7 by omega), hW q (by omega)]
      by_cases h2 : sl P q = t
      · rw [decide_eq_true h2] at ih
        rw [if_pos (by rw [h2]), L1, i_add]
        exact ih
      · rw [decide_eq_false h2] at ih
        rw [if_neg (fun e => h2 ((i_inj (by omega) (by omega)).1 e)), L1, i_add]
        exact ih
theorem s_YisUsed {P p t : Nat} {g : Nat → Nat → Int32} (w : WF h) (hp : p < 7) (ht : t < 100) (hW : ∀ q, q < p → g 71 q = nI (sl P q)) : f_Y_isUsed 63 (nI t) (nI p) (hS h g) = rI (nI (usY P t p).toNat) (hS h g) := by
  rw [e_Y_isUsed]
  exact s_YisUsedL w hp ht hW p 0 (by omega)
theorem s_YunusedL {b P p : Nat} {g : Nat → Nat → Int32} (w : WF h) (hb : b < 6) (hp : p < 7) (hB : g 63 10 = nI b) (hW : ∀ q, q < p → g 71 q = nI (sl P q)) : ∀ (k n t : Nat), t + k = b + 1 → n < 100000 → f_Y_unused_5 63 (nI p) (nI n) (nI t) (hS h g) = rI (nI (unY P p k n t)) (hS h g)
  | 0, n, t, ht, hn => by
    rw [e_Y_unused_5]
    simp only [yI w, oo_v, hB]
    rw [if_pos ((i_lt (by omega) (by omega)).2 (by omega))]
    rfl
  | k + 1, n, t, ht, hn => by
    rw [e_Y_unused_5]
    simp only [yI w, oo_v, hB]
    rw [if_neg (fun e => absurd ((i_lt (by omega) (by omega)).1 e) (by omega)), if_pos (yK w), s_YisUsed w hp (by omega) hW, cI_v]
    unfold unY
    cases hu : usY P t p with
    | true =>
      rw [if_neg (by decide), if_pos rfl, L1, i_add]
      exact s_YunusedL w hb hp hB hW k n (t + 1) (by omega) hn
    | false =>
      rw [if_pos (show nI false.toNat = 0 from rfl), if_neg (show ¬ (false = true) by decide)]
      by_cases h0 : n = 0
      · rw [if_pos ((i_eq0 (by omega)).2 h0), if_pos h0]
      · rw [if_neg (fun e => h0 ((i_eq0 (by omega)).1 e)), if_neg h0, i_dec (by omega), L1, i_add]
        exact s_YunusedL w hb hp hB hW k (n - 1) (t + 1) (by omega) (by omega)
theorem s_Yunused {b P p n : Nat} {g : Nat → Nat → Int32} (w : WF h) (hb : b < 6) (hp : p < 7) (hB : g 63 10 = nI b) (hW : ∀ q, q < p → g 71 q = nI (sl P q)) (hn : n < 100000) : f_Y_unused 63 (nI n) (nI p) (hS h g) = rI (nI (unY P p b n 1)) (hS h g) := by
  rw [e_Y_unused, L1]
  exact s_YunusedL w hb hp hB hW b n 1 (by omega) hn
theorem unY_lt {P p : Nat} : ∀ (k n t : Nat), t + k ≤ 7 → unY P p k n t < 8
  | 0, _, _, _ => by show 0 < 8; omega
  | k + 1, n, t, h => by
    unfold unY
    by_cases h1 : usY P t p = true
    · rw [if_pos h1]; exact unY_lt k n (t + 1) (by omega)
    · rw [if_neg h1]
      by_cases h2 : n = 0
      · rw [if_pos h2]; omega
      · rw [if_neg h2]; exact unY_lt k (n - 1) (t + 1) (by omega)
theorem s_Yspl {b R : Nat} {g0 : Nat → Nat → Int32} (w : WF h) (hb : b < 6) (hB : g0 63 10 = nI b) : ∀ (k y m rest P p : Nat) (g : Nat → Nat → Int32), p + k = 7 → y < 8 → m < 8 → rest < 100000 → P < 2097152 → (∀ q, q < p → g 71 q = nI (sl P q)) → (∀ q, p ≤ q → q < 7 → sl P q = 0) → spL b k y m rest P p = some R → Off g0 g [71] →
    ∃ g', f_Y_spells_19 63 (nI rest) (nI y) (nI m) (nI p) (hS h g) = rV (hS h g') ∧ WAt g' 71 R ∧ Off g0 g' [71]
  | 0, y, m, rest, P, p, g, hp, hy, hm, hr, hP, h1, h2, hs, ho => by
    have hs : some P = some R := hs
    cases hs
    refine ⟨g, ?_, fun q hq => h1 q (by omega), ho⟩
    rw [e_Y_spells_19, L7, if_pos ((i_le (by omega) (by omega)).2 (by omega))]
  | k + 1, y, m, rest, P, p, g, hp, hy, hm, hr, hP, h1, h2, hs, ho => by
    have hp7 : p < 7 := by omega
    have h44 : ∀ t, (if y = 0 then 0 else wY (6 - p) m) = t → t ≤ 5040 → ∃ g', f_Y_spells_44 63 (nI rest) (nI y) (nI m) (nI p) (nI t) (hS h g) = rV (hS h g') ∧ WAt g' 71 R ∧ Off g0 g' [71] := fun t ht ht5 => by
      unfold spL at hs
      rw [ht] at hs
      rw [e_Y_spells_44]
      simp only [yR11 w, oo_v, yB71 w hp7, if_true]
      by_cases hlt : rest < t
      · rw [if_pos hlt] at hs
        rw [if_neg (fun e => absurd ((i_le (by omega) (by omega)).1 e) (by omega)), i_w (by omega), L1, L0]
        have hy1 : 1 ≤ y := by
          rcases Nat.eq_zero_or_pos y with e | e
          · rw [if_pos e] at ht; omega
          · exact e
        rw [i_dec1 hy1, i_add]
        refine s_Yspl w hb hB k (y - 1) m rest P (p + 1) _ (by omega) (by omega) hm hr hP (fun q hq => ?_) (fun q hq1 hq2 => h2 q (by omega) hq2) hs (Off.tr ho (s2_off (by simp)))
        by_cases hqp : q = p
        · subst hqp
          rw [h2 q (Nat.le_refl _) hp7]
          simp [s2_at]
        · have := h1 q (by omega)
          simp [s2_at, hqp, this]
      · rw [if_neg hlt] at hs
        by_cases hm0 : m = 0
        · rw [if_pos hm0] at hs; cases hs
        · rw [if_neg hm0] at hs
          by_cases he0 : wY (6 - p) (m - 1) = 0
          · rw [if_pos he0] at hs; cases hs
          · rw [if_neg he0] at hs
            have hle := wY_le (show 6 - p < 8 by omega) (show m - 1 < 8 by omega)
            have hdm := Nat.div_add_mod (rest - t) (wY (6 - p) (m - 1))
            have hdl : (rest - t) / wY (6 - p) (m - 1) ≤ rest - t := Nat.div_le_self _ _
            have hml : (rest - t) % wY (6 - p) (m - 1) ≤ rest - t := Nat.mod_le _ _
            rw [Nat.mul_comm] at hdm
            have hul := unY_lt (P := P) (p := p) b ((rest - t) / wY (6 - p) (m - 1)) 1 (by omega)
            rw [if_pos ((i_le (by omega) (by omega)).2 (by omega)), i_w (by omega), L1, L0, i_dec1 (by omega), L6, i_sub (show p ≤ 6 by omega), s_Yways (by omega) (by omega), cI_v, if_neg (fun e => he0 ((i_inj (by omega) (by omega)).1 e)), if_neg (fun e => he0 ((i_inj (by omega) (by omega)).1 e))]
            simp only [yR11 w, oo_v, yK w, if_true]
            rw [i_sub (show t ≤ rest by omega), i_div (by omega) (by omega), s_Yunused (P := P) w hb hp7 (by rw [s2_at, if_neg (by omega), ho 63 (by simp)]; exact hB) (fun q hq => by
              rw [s2_at, if_pos rfl, if_neg (by omega)]
              exact h1 q hq) (by omega), cI_v, if_pos (yB71 w hp7), i_w (by omega), i_mul, i_sub (by omega), i_add, show rest - t - (rest - t) / wY (6 - p) (m - 1) * wY (6 - p) (m - 1) = (rest - t) % wY (6 - p) (m - 1) by omega]
            refine s_Yspl w hb hB k y (m - 1) _ (wsl P p (unY P p b ((rest - t) / wY (6 - p) (m - 1)) 1)) (p + 1) _ (by omega) hy (by omega) (by omega) (wsl_lt hP hp7 hul) (fun q hq => ?_) (fun q hq1 hq2 => ?_) hs (Off.tr ho (Off.tr (s2_off (by simp)) (s2_off (by simp))))
            · rw [sl_wsl hp7 (by omega) hul]
              by_cases hqp : q = p
              · subst hqp
                simp [s2_at]
              · have := h1 q (by omega)
                simp [s2_at, hqp, this]
            · rw [sl_wsl hp7 hq2 hul, if_neg (by omega)]
              exact h2 q (by omega) hq2
    rw [e_Y_spells_19, L7, if_neg (fun e => absurd ((i_le (by omega) (by omega)).1 e) (by omega))]
    by_cases hy0 : y = 0
    · rw [if_pos ((i_le0 (by omega)).2 hy0), L0]
      exact h44 0 (by rw [if_pos hy0]) (by omega)
    · rw [if_neg (fun e => hy0 ((i_le0 (by omega)).1 e)), L6, i_sub (show p ≤ 6 by omega), s_Yways (by omega) (by omega), cI_v]
      exact h44 _ (by rw [if_neg hy0]) (wY_le (by omega) (by omega))
theorem sl0 (q : Nat) : sl 0 q = 0 := by unfold sl; simp
/-- the word of a rank is spelled -/
theorem s_Yspells {b r : Nat} {g : Nat → Nat → Int32} (w : WF h) (hb : b < 6) (hr : r < wds b) (hB : g 63 10 = nI b) : ∃ g', f_Y_spells 63 (nI r) (hS h g) = rV (hS h g') ∧ WAt g' 71 (wd b r) ∧ Off g g' [71] := by
  have hw := wds_lt hb
  obtain ⟨g', e1, e2⟩ := s_Yspl w hb hB 7 (7 - b) b r 0 0 g (by omega) (by omega) (by omega) (by omega) (by omega) (fun _ hq => absurd hq (Nat.not_lt_zero _)) (fun q _ _ => sl0 q) (sp_wd hb hr) Off.rf
  refine ⟨g', ?_, e2⟩
  rw [e_Y_spells]
  simp only [yI w, oo_v, hB, L7]
  rw [i_sub (by omega), L0]
  exact e1
end YWords
