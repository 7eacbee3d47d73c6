/-! what the reference reaches from a word, pass by pass; what it tells of all words -/
section YReach
variable {h : pH} {b S F C : Nat} {O : Nat → Nat}
def SB (g : Nat → Nat → Int32) (b S r0 : Nat) (s : Nat → Bool) : Prop := (∀ r, r < wds b → g 77 r = nI (s r).toNat) ∧ (∀ r, r < wds b → s r = true → Rch b S r0 r) ∧ s r0 = true
theorem s_Yreached_45 {r0 : Nat} (w : WF h) (hb : b < 6) {g0 : Nat → Nat → Int32} (hB0 : g0 63 10 = nI b) (hN : Nq g0 b S O (19 * wds b)) : ∀ (k i c : Nat) (g : Nat → Nat → Int32) (s : Nat → Bool), i + k = 19 * wds b → c < 2 → SB g b S r0 s → Off g0 g [77] →
    ∃ g' s' c', f_Y_reached_45 63 (nI (cnt s (wds b))) (nI c) (nI i) (hS h g) = f_Y_reached_36 63 (nI (cnt s' (wds b))) (nI c') (hS h g') ∧ c' < 2 ∧ SB g' b S r0 s' ∧ Off g0 g' [77] ∧
      (c' = 0 → c = 0 ∧ s' = s ∧ ∀ j to, i ≤ j → j < 19 * wds b → s (j / 19) = true → ED b S (j / 19) (j % 19) = some to → s to = true) ∧
      cnt s (wds b) ≤ cnt s' (wds b) ∧ (c' = 1 → c = 1 ∨ cnt s (wds b) < cnt s' (wds b))
  | 0, i, c, g, s, hi, hc, hs, ho => by
    have hw := wds_lt hb
    refine ⟨g, s, c, ?_, hc, hs, ho, fun hc0 => ⟨hc0, rfl, fun j to h1 h2 => by omega⟩, Nat.le_refl _, fun h1 => Or.inl h1⟩
    rw [e_Y_reached_45, if_pos (yK w), s_Ywords w hb (by rw [ho 63 (by simp)]; exact hB0), cI_v, L19, i_mul, if_pos ((i_le (by omega) (by omega)).2 (by omega))]
  | k + 1, i, c, g, s, hi, hc, hs, ho => by
    have hw := wds_lt hb
    have hr : i / 19 < wds b := by omega
    have hm : i % 19 < 19 := Nat.mod_lt _ (by omega)
    have n1 := (hN i (by omega)).1
    have h73 : g 73 i = vI (ED b S (i / 19) (i % 19)) := by rw [ho 73 (by simp)]; exact n1
    have hsr := hs.1 (i / 19) hr
    have same : (s (i / 19) = true → ∀ to, ED b S (i / 19) (i % 19) = some to → s to = true) →
        ∃ g' s' c', f_Y_reached_45 63 (nI (cnt s (wds b))) (nI c) (nI (i + 1)) (hS h g) = f_Y_reached_36 63 (nI (cnt s' (wds b))) (nI c') (hS h g') ∧ c' < 2 ∧ SB g' b S r0 s' ∧ Off g0 g' [77] ∧
      (c' = 0 → c = 0 ∧ s' = s ∧ ∀ j to, i ≤ j → j < 19 * wds b → s (j / 19) = true → ED b S (j / 19) (j % 19) = some to → s to = true) ∧
      cnt s (wds b) ≤ cnt s' (wds b) ∧ (c' = 1 → c = 1 ∨ cnt s (wds b) < cnt s' (wds b)) := fun hx => by
      obtain ⟨g', s', c', f1, f2, f3, f4, f5, f6, f7⟩ := s_Yreached_45 w hb hB0 hN k (i + 1) c g s (by omega) hc hs ho
      refine ⟨g', s', c', f1, f2, f3, f4, fun hc0 => ?_, f6, f7⟩
      obtain ⟨y1, y2, y3⟩ := f5 hc0
      refine ⟨y1, y2, fun j to h1 h2 h3 h4 => ?_⟩
      by_cases hji : j = i
      · subst hji
        exact hx h3 to h4
      · exact y3 j to (by omega) h2 h3 h4
    rw [e_Y_reached_45, if_pos (yK w), s_Ywords w hb (by rw [ho 63 (by simp)]; exact hB0), cI_v, L19, i_mul, if_neg (fun e => absurd ((i_le (by omega) (by omega)).1 e) (by omega))]
    simp only [yR18 w, yR14 w, oo_v]
    rw [if_neg (by decide), i_div (by omega) (by omega), yA77 w (by omega), oo_v, hsr]
    cases hsi : s (i / 19) with
    | false =>
      rw [if_neg (by decide), L1, i_add]
      exact same (fun q => by rw [hsi] at q; cases q)
    | true =>
      rw [if_pos (by rfl)]
      simp only [yA73 w (show i < 47880 by omega), oo_v, h73]
      cases hE : ED b S (i / 19) (i % 19) with
      | none =>
        rw [if_pos (by decide), L1, i_add]
        exact same (fun _ to q => by rw [hE] at q; cases q)
      | some to =>
        have hto := ED_lt hb (i / 19) (i % 19) to hr hm hE
        have hst := hs.1 to hto
        rw [if_neg (show ¬ vI (some to) < 0 from i_nneg (by omega)), show vI (some to) = nI to from rfl, yA77 w (by omega), oo_v, hst]
        cases hsto : s to with
        | true =>
          rw [if_neg (by decide), L1, i_add]
          exact same (fun _ to' q => by rw [hE] at q; cases q; exact hsto)
        | false =>
          have hlt : cnt (fun q => if q = to then true else s q) (wds b) = cnt s (wds b) + 1 := by
            have h1 := cnt_upd s true to (wds b) hto
            rw [hsto] at h1
            have h2 : false.toNat = 0 := rfl
            have h3 : true.toNat = 1 := rfl
            omega
          rw [if_pos (by rfl), if_pos (yB77 w (by omega)), i_w (by omega), L1, i_add, i_add]
          obtain ⟨g', s', c', f1, f2, f3, f4, f5, f6, f7⟩ := s_Yreached_45 (r0 := r0) w hb hB0 hN k (i + 1) 1 (s2 g 77 to (nI 1)) (fun q => if q = to then true else s q) (by omega) (by omega) ⟨fun q hq => by
            by_cases hqt : q = to
            · dsimp only
              rw [if_pos hqt, hqt]
              simp [s2_at]
            · dsimp only
              rw [if_neg hqt]
              simp [s2_at, hqt, hs.1 q hq], fun q hq hx => by
            by_cases hqt : q = to
            · rw [hqt]
              obtain ⟨n, hn⟩ := hs.2.1 (i / 19) hr hsi
              exact ⟨n + 1, wk_snoc n r0 (i / 19) to (i % 19) hn hm hE⟩
            · dsimp only at hx
              rw [if_neg hqt] at hx
              exact hs.2.1 q hq hx, by
            by_cases hqt : r0 = to
            · dsimp only
              rw [if_pos hqt]
            · dsimp only
              rw [if_neg hqt]
              exact hs.2.2⟩ (Off.tr ho (s2_off (by simp)))
          rw [hlt] at f1 f6
          exact ⟨g', s', c', f1, f2, f3, f4, fun hc0 => absurd (f5 hc0).1 (by omega), by omega, fun _ => Or.inr (by omega)⟩
theorem SB_end {r0 : Nat} {g : Nat → Nat → Int32} {s : Nat → Bool} (hb : b < 6) (h0 : r0 < wds b) (hs : SB g b S r0 s) (hall : ∀ j to, 0 ≤ j → j < 19 * wds b → s (j / 19) = true → ED b S (j / 19) (j % 19) = some to → s to = true) : cnt s (wds b) = rcN b S r0 := by
  have key : ∀ n r, Wk (ED b S) n r0 r → s r = true := by
    intro n
    induction n with
    | zero =>
      intro r hr
      have hr : r0 = r := hr
      rw [← hr]
      exact hs.2.2
    | succ n ih =>
      intro r hr
      obtain ⟨r1, m, h1, h2, h3⟩ := wk_last n r0 r hr
      have h4 := Rch_lt hb h0 n r1 h1
      refine hall (19 * r1 + m) r (Nat.zero_le _) (by omega) ?_ ?_
      · rw [show (19 * r1 + m) / 19 = r1 by omega]
        exact ih r1 h1
      · rw [show (19 * r1 + m) / 19 = r1 by omega, show (19 * r1 + m) % 19 = m by omega]
        exact h3
  refine cnt_congr _ fun r hr => ?_
  cases hx : s r with
  | true => exact (@decide_eq_true _ (Classical.propDecidable _) (hs.2.1 r hr hx)).symm
  | false =>
    refine (@decide_eq_false _ (Classical.propDecidable _) fun q => ?_).symm
    obtain ⟨n, hn⟩ := q
    rw [key n r hn] at hx
    cases hx
theorem s_Yreached_36 {r0 : Nat} (w : WF h) (hb : b < 6) (h0 : r0 < wds b) {g0 : Nat → Nat → Int32} (hB0 : g0 63 10 = nI b) (hN : Nq g0 b S O (19 * wds b)) : ∀ (M : Nat) (g : Nat → Nat → Int32) (s : Nat → Bool), wds b ≤ M + cnt s (wds b) → SB g b S r0 s → Off g0 g [77] →
    ∃ g', f_Y_reached_36 63 (nI (cnt s (wds b))) (nI 1) (hS h g) = rI (nI (rcN b S r0)) (hS h g') ∧ Off g0 g' [77] := by
  intro M
  induction M with
  | zero =>
    intro g s hM hs ho
    obtain ⟨g', s', c', f1, f2, f3, f4, f5, f6, f7⟩ := s_Yreached_45 (r0 := r0) w hb hB0 hN (19 * wds b) 0 0 g s (by omega) (by omega) hs ho
    have hle := cnt_le s' (wds b)
    have hc0 : c' = 0 := by
      rcases (show c' = 0 ∨ c' = 1 by omega) with q | q
      · exact q
      · rcases f7 q with q2 | q2 <;> omega
    obtain ⟨y1, y2, y3⟩ := f5 hc0
    refine ⟨g', ?_, f4⟩
    rw [e_Y_reached_36, if_neg (by decide), L0, f1, hc0, e_Y_reached_36, if_pos (by rfl), y2, SB_end hb h0 hs y3]
  | succ M ih =>
    intro g s hM hs ho
    obtain ⟨g', s', c', f1, f2, f3, f4, f5, f6, f7⟩ := s_Yreached_45 (r0 := r0) w hb hB0 hN (19 * wds b) 0 0 g s (by omega) (by omega) hs ho
    rcases (show c' = 0 ∨ c' = 1 by omega) with hc0 | hc1
    · obtain ⟨y1, y2, y3⟩ := f5 hc0
      refine ⟨g', ?_, f4⟩
      rw [e_Y_reached_36, if_neg (by decide), L0, f1, hc0, e_Y_reached_36, if_pos (by rfl), y2, SB_end hb h0 hs y3]
    · have hlt : cnt s (wds b) < cnt s' (wds b) := by
        rcases f7 hc1 with q | q
        · omega
        · exact q
      obtain ⟨g'', k1, k2⟩ := ih g' s' (by omega) f3 f4
      refine ⟨g'', ?_, k2⟩
      rw [e_Y_reached_36, if_neg (by decide), L0, f1, hc1, k1]
theorem s_Yreached_2 {r0 : Nat} (w : WF h) (hb : b < 6) (h0 : r0 < wds b) {g0 : Nat → Nat → Int32} (hB0 : g0 63 10 = nI b) (hN : Nq g0 b S O (19 * wds b)) : ∀ (k r : Nat) (g : Nat → Nat → Int32), r + k = wds b → (∀ q, q < r → g 77 q = nI (decide (q = r0)).toNat) → Off g0 g [77] →
    ∃ g', f_Y_reached_2 63 (nI r0) (nI r) (hS h g) = rI (nI (rcN b S r0)) (hS h g') ∧ Off g0 g' [77]
  | 0, r, g, hr, h1, ho => by
    have hw := wds_lt hb
    have hc : cnt (fun q => decide (q = r0)) (wds b) = 1 := by
      have h1 := cnt_upd (fun _ => false) true r0 (wds b) h0
      rw [(cnt_0 (wds b)).2 (fun _ _ => rfl)] at h1
      rw [cnt_congr (g' := fun q => if q = r0 then true else false) (wds b) (fun q _ => by
        by_cases hq : q = r0
        · rw [if_pos hq, decide_eq_true hq]
        · rw [if_neg hq, decide_eq_false hq])]
      have h2 : false.toNat = 0 := rfl
      have h3 : true.toNat = 1 := rfl
      omega
    obtain ⟨g', e1, e2⟩ := s_Yreached_36 (S := S) w hb h0 hB0 hN (wds b) g (fun q => decide (q = r0)) (by omega) ⟨fun q hq => h1 q (by omega), fun q _ hq => ⟨0, (of_decide_eq_true hq).symm⟩, decide_eq_true rfl⟩ ho
    refine ⟨g', ?_, e2⟩
    rw [hc] at e1
    rw [e_Y_reached_2, if_pos (yK w), s_Ywords w hb (by rw [ho 63 (by simp)]; exact hB0), cI_v, if_pos ((i_le (by omega) (by omega)).2 (by omega)), L1, e1]
  | k + 1, r, g, hr, h1, ho => by
    have hw := wds_lt hb
    rw [e_Y_reached_2, if_pos (yK w), s_Ywords w hb (by rw [ho 63 (by simp)]; exact hB0), cI_v, if_neg (fun e => absurd ((i_le (by omega) (by omega)).1 e) (by omega))]
    simp only [yR18 w, oo_v, yB77 w (show r < 2520 by omega), if_true, i_w (show r < 2147483648 by omega), L1, i_add]
    by_cases hrr : r = r0
    · rw [if_pos (by rw [hrr])]
      refine s_Yreached_2 w hb h0 hB0 hN k (r + 1) _ (by omega) (fun q hq => ?_) (Off.tr ho (s2_off (by simp)))
      by_cases hqr : q = r
      · rw [decide_eq_true (hqr.trans hrr), hqr]
        simp [s2_at]
      · simp [s2_at, hqr, h1 q (by omega)]
    · rw [if_neg (fun e => hrr ((i_inj (by omega) (by omega)).1 e)), L0]
      refine s_Yreached_2 w hb h0 hB0 hN k (r + 1) _ (by omega) (fun q hq => ?_) (Off.tr ho (s2_off (by simp)))
      by_cases hqr : q = r
      · rw [decide_eq_false (by omega), hqr]
        simp [s2_at]
      · simp [s2_at, hqr, h1 q (by omega)]
theorem s_Yreached {r0 : Nat} {g : Nat → Nat → Int32} (w : WF h) (hb : b < 6) (h0 : r0 < wds b) (hB0 : g 63 10 = nI b) (hN : Nq g b S O (19 * wds b)) : ∃ g', f_Y_reached 63 (nI r0) (hS h g) = rI (nI (rcN b S r0)) (hS h g') ∧ Off g g' [77] := by
  rw [e_Y_reached]
  exact s_Yreached_2 w hb h0 hB0 hN (wds b) 0 g (by omega) (fun _ hq => absurd hq (Nat.not_lt_zero _)) Off.rf
/-- the answers about all words; what kind of number -/
def allA (v0 v1 : Nat → Option Nat) (n : Nat) (x : Nat) : Int32 := if x = 0 then nI (cnt (fun r => (v0 r).isSome) n) else if x = 1 then vI (wst v0 n).1 else if x = 2 then nI (mxs v1 n) else nI (wst v0 n).2
theorem wst_le {v : Nat → Option Nat} : ∀ n, (wst v n).2 ≤ n
  | 0 => Nat.le_refl _
  | n + 1 => by
    have ih := wst_le (v := v) n
    simp only [wst]
    cases v n with
    | none => dsimp only; omega
    | some u =>
      cases (wst v n).1 with
      | none => dsimp only; omega
      | some t =>
        dsimp only
        split
        · omega
        · dsimp only; omega
theorem s_Yall_45 {x : Nat} {g : Nat → Nat → Int32} (w : WF h) (hb : b < 6) (hO : ∀ s, 1 ≤ s → s ≤ b → 1 ≤ O s ∧ O s ≤ 9) (hB0 : g 63 10 = nI b) (hs : Sol g b S O F C) (hx : x < 4) : ∀ (k r : Nat), r + k = wds b →
    f_Y_all_45 63 (nI x) (nI (cnt (fun r => (lvK b S O F C 0 r).isSome) r)) (vI (wst (lvK b S O F C 0) r).1) (nI (mxs (lvK b S O F C 1) r)) (nI (wst (lvK b S O F C 0) r).2) (nI r) (hS h g) = rI (allA (lvK b S O F C 0) (lvK b S O F C 1) (wds b) x) (hS h g)
  | 0, r, hr => by
    have hw := wds_lt hb
    obtain rfl : r = wds b := by omega
    rw [e_Y_all_45, if_pos (yK w), s_Ywords w hb hB0, cI_v, if_pos ((i_le (by omega) (by omega)).2 (Nat.le_refl _)), L1, L2]
    unfold allA
    by_cases h0 : x = 0
    · rw [if_pos ((i_eq0 (by omega)).2 h0), if_pos h0]
    · rw [if_neg (fun e => h0 ((i_eq0 (by omega)).1 e)), if_neg h0]
      by_cases h1 : x = 1
      · rw [if_pos (by rw [h1]), if_pos h1]
      · rw [if_neg (fun e => h1 ((i_inj (by omega) (by omega)).1 e)), if_neg h1]
        by_cases h2 : x = 2
        · rw [if_pos (by rw [h2]), if_pos h2]
        · rw [if_neg (fun e => h2 ((i_inj (by omega) (by omega)).1 e)), if_neg h2]
  | k + 1, r, hr => by
    have hw := wds_lt hb
    have ih := s_Yall_45 w hb hO hB0 hs hx k (r + 1) (by omega)
    have h75 := sol_75 hs (show r < wds b by omega)
    have h76 := sol_76 hs (show r < wds b by omega)
    have hb0 := fun u q => lvK_lt (S := S) (F := F) (C := C) (kd := 0) (u := u) hb hO (show r < wds b by omega) q
    have hb1 := fun u q => lvK_lt (S := S) (F := F) (C := C) (kd := 1) (u := u) hb hO (show r < wds b by omega) q
    have hwl := wst_lt (v := lvK b S O F C 0) (B := 9 * 2519) r (fun r' u hr' hu => lvK_lt hb hO (by omega) hu)
    have hwr := wst_le (v := lvK b S O F C 0) r
    have hmx := mxs_lt (v := lvK b S O F C 1) (B := 9 * 2519) r (fun r' u hr' hu => lvK_lt hb hO (by omega) hu)
    have e0 : cnt (fun r => (lvK b S O F C 0 r).isSome) (r + 1) = cnt (fun r => (lvK b S O F C 0 r).isSome) r + ((lvK b S O F C 0 r).isSome).toNat := rfl
    have e1 : mxs (lvK b S O F C 1) (r + 1) = mxN (mxs (lvK b S O F C 1) r) (lvK b S O F C 1 r) := rfl
    rw [e0, e1] at ih
    rw [e_Y_all_45, if_pos (yK w), s_Ywords w hb hB0, cI_v, if_neg (fun e => absurd ((i_le (by omega) (by omega)).1 e) (by omega))]
    simp only [yR16 w, oo_v, yA75 w (show r < 2520 by omega), h75]
    rw [show (1000000 : Int32) = nI 1000000 from rfl]
    cases hv : lvK b S O F C 0 r with
    | none =>
      have hv1 : lvK b S O F C 1 r = none := by
        cases hx : lvK b S O F C 1 r with
        | none => rfl
        | some u =>
          obtain ⟨w', hw'⟩ := lv_ex (p' := if (0 : Nat) = 0 then fun _ _ => 1 else pr b O) hx
          rw [show lvK b S O F C 0 r = some w' from hw'] at hv
          cases hv
      have e2 : wst (lvK b S O F C 0) (r + 1) = wst (lvK b S O F C 0) r := by simp only [wst, hv]
      rw [hv, hv1, e2] at ih
      rw [Option.getD_none, if_pos ((i_le (a := 1000000) (b := 1000000) (by omega) (by omega)).2 (Nat.le_refl _)), if_pos True.intro, e_Y_all_84, if_pos (by rfl), e_Y_all_110, if_pos (by rfl), e_Y_all_141, if_pos (by rfl), L0, L1, i_add, i_add]
      exact ih
    | some u =>
      have hu := hb0 u hv
      obtain ⟨v1, hv1⟩ := lv_ex (p' := if (1 : Nat) = 0 then fun _ _ => 1 else pr b O) hv
      have hv1 : lvK b S O F C 1 r = some v1 := hv1
      have hu1 := hb1 v1 hv1
      rw [hv] at ih
      rw [Option.getD_some, if_neg (fun e => absurd ((i_le (by omega) (by omega)).1 e) (show ¬ 1000000 ≤ u by omega)), if_neg (by decide), e_Y_all_84, if_neg (by decide)]
      simp only [yR16 w, yR17 w, oo_v, yA75 w (show r < 2520 by omega), h75, hv, Option.getD_some]
      have hneg : ¬ nI u ≤ (-1 : Int32) := by
        rw [Int32.le_iff_toInt_le, i_toInt (by omega)]
        have : (-1 : Int32).toInt = -1 := by decide
        omega
      have h141 : ∀ (y : Option Nat) (z : Nat), f_Y_all_141 63 (nI x) (nI (cnt (fun r => (lvK b S O F C 0 r).isSome) r + 1)) (nI (mxs (lvK b S O F C 1) r)) (nI z) (nI r) (nI 1) (vI y) (hS h g) = f_Y_all_45 63 (nI x) (nI (cnt (fun r => (lvK b S O F C 0 r).isSome) r + 1)) (vI y) (nI (mxN (mxs (lvK b S O F C 1) r) (some v1))) (nI z) (nI (r + 1)) (hS h g) := fun y z => by
        rw [e_Y_all_141, if_neg (by decide)]
        simp only [yR17 w, oo_v, yA76 w (show r < 2520 by omega), h76, hv1, Option.getD_some, L1, i_add]
        by_cases hle : v1 ≤ mxs (lvK b S O F C 1) r
        · rw [if_pos ((i_le (by omega) (by omega)).2 hle), show mxN (mxs (lvK b S O F C 1) r) (some v1) = mxs (lvK b S O F C 1) r from Nat.max_eq_left hle]
        · rw [if_neg (fun e => hle ((i_le (by omega) (by omega)).1 e)), show mxN (mxs (lvK b S O F C 1) r) (some v1) = v1 from Nat.max_eq_right (by omega)]
      rw [hv1] at ih
      cases hq : (wst (lvK b S O F C 0) r).1 with
      | none =>
        have e2 : wst (lvK b S O F C 0) (r + 1) = (some u, r) := by simp only [wst, hv, hq]
        rw [e2] at ih
        rw [if_neg (show ¬ nI u ≤ vI none from hneg), e_Y_all_110, if_neg (by decide)]
        simp only [yR16 w, oo_v, yA75 w (show r < 2520 by omega), h75, hv, Option.getD_some]
        rw [if_neg (show ¬ nI u ≤ vI none from hneg), L1, i_add, show nI u = vI (some u) from rfl, h141]
        exact ih
      | some t =>
        have ht := hwl t hq
        by_cases hut : u ≤ t
        · have e2 : wst (lvK b S O F C 0) (r + 1) = wst (lvK b S O F C 0) r := by simp only [wst, hv, hq, if_pos hut]
          rw [e2, hq] at ih
          rw [if_pos (show nI u ≤ vI (some t) from (i_le (by omega) (by omega)).2 hut), e_Y_all_110, if_neg (by decide)]
          simp only [yR16 w, oo_v, yA75 w (show r < 2520 by omega), h75, hv, Option.getD_some]
          rw [if_pos (show nI u ≤ vI (some t) from (i_le (by omega) (by omega)).2 hut), L1, i_add, h141]
          exact ih
        · have e2 : wst (lvK b S O F C 0) (r + 1) = (some u, r) := by simp only [wst, hv, hq, if_neg hut]
          rw [e2] at ih
          rw [if_neg (show ¬ nI u ≤ vI (some t) from fun e => hut ((i_le (by omega) (by omega)).1 e)), e_Y_all_110, if_neg (by decide)]
          simp only [yR16 w, oo_v, yA75 w (show r < 2520 by omega), h75, hv, Option.getD_some]
          rw [if_neg (show ¬ nI u ≤ vI (some t) from fun e => hut ((i_le (by omega) (by omega)).1 e)), L1, i_add, show nI u = vI (some u) from rfl, h141]
          exact ih
end YReach
