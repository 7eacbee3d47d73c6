/-! what the reference's looks leave as it was; its small counts -/
def yRows : List Nat := [63, 68, 69, 70, 71, 72, 73, 74, 75, 76, 77]
def YF (f g : Nat → Nat → Int32) : Prop := Off f g yRows ∧ ∀ j, j ≠ 10 → j ≠ 13 → g 63 j = f 63 j
theorem YF.rf {f : Nat → Nat → Int32} : YF f f := ⟨Off.rf, fun _ _ _ => rfl⟩
theorem YF.tr {f g h : Nat → Nat → Int32} (a : YF f g) (b : YF g h) : YF f h := ⟨Off.tr a.1 b.1, fun j h1 h2 => (b.2 j h1 h2).trans (a.2 j h1 h2)⟩
theorem YF.of {f g : Nat → Nat → Int32} {l : List Nat} (h : Off f g l) (hl : ∀ k, k ∈ l → k ∈ yRows) (h63 : 63 ∉ l) : YF f g := ⟨Off.mono h hl, fun j _ _ => by rw [h 63 h63]⟩
theorem YF.at {f g : Nat → Nat → Int32} {k : Nat} (h : YF f g) (hk : k ∉ yRows) : g k = f k := h.1 k hk
theorem inb_yes {x : Int32} {n : Nat} (h : inb x n = true) : ∃ r, r < n ∧ x = nI r := by
  unfold inb at h
  simp only [Bool.and_eq_true, Bool.not_eq_true', decide_eq_false_iff_not, decide_eq_true_eq] at h
  refine ⟨x.toNatClampNeg, h.2, ?_⟩
  apply Int32.toInt_inj.mp
  have h1 : 0 ≤ x.toInt := by
    have := h.1
    rw [Int32.lt_iff_toInt_lt, Int32.toInt_zero] at this
    omega
  have h2 : x.toInt < 2147483648 := by
    have := Int32.toInt_lt x
    omega
  have h3 : (x.toNatClampNeg : Int) = x.toInt := by
    show ((x.toInt.toNat : Nat) : Int) = x.toInt
    omega
  rw [i_toInt (by omega), h3]
theorem inb_no {x : Int32} {n : Nat} (hn : n < 2147483648) (h : inb x n = false) : x < 0 ∨ nI n ≤ x := by
  unfold inb at h
  by_cases h0 : x < 0
  · exact Or.inl h0
  · refine Or.inr ?_
    rw [decide_eq_false h0, Bool.not_false, Bool.true_and] at h
    have h1 := of_decide_eq_false h
    have h2 : ¬ x.toInt.toNat < n := h1
    rw [Int32.lt_iff_toInt_lt, Int32.toInt_zero] at h0
    rw [Int32.le_iff_toInt_le, i_toInt hn]
    omega
section YFrame
variable {h : pH}
theorem s_Yin {x y : Int32} {n : Nat} (hn : 1 ≤ n) (hn2 : n < 2147483648) (hy : y = nI (n - 1)) : f_Y_in x 0 y h = rI (nI (inb x n).toNat) h := by
  rw [e_Y_in, hy]
  cases hx : inb x n with
  | true =>
    obtain ⟨r, h1, rfl⟩ := inb_yes hx
    rw [if_neg (i_nneg (by omega)), if_neg (fun e => absurd ((i_lt (by omega) (by omega)).1 e) (by omega))]
    rfl
  | false =>
    rcases inb_no hn2 hx with q | q
    · rw [if_pos q]; rfl
    · by_cases h0 : x < 0
      · rw [if_pos h0]; rfl
      · rw [if_neg h0, if_pos (by
          rw [Int32.le_iff_toInt_le, i_toInt hn2] at q
          rw [Int32.lt_iff_toInt_lt, i_toInt (by omega)]
          omega)]
        rfl
theorem s_YisPl {x : Int32} : f_Y_isPlace x h = rI (nI (inb x 7).toNat) h := by
  rw [e_Y_isPlace, s_Yin (y := 6) (n := 7) (by omega) (by omega) rfl, cI_v]
  cases inb x 7
  · rw [if_pos (show nI false.toNat = 0 ∨ nI false.toNat = 1 from Or.inl rfl)]
  · rw [if_pos (show nI true.toNat = 0 ∨ nI true.toNat = 1 from Or.inr rfl)]
theorem Yc_Lk {g : Nat → Nat → Int32} {a : AS} (ha : AOK a) (hl : Lk g (aB a) (aL a) (aO a) (aS a)) (hs : YSt (g 64) a) : Yc g (aB a) (aS a) (aO a) (aF a) (aC a) := by
  refine ⟨hl.1, fun s s1 s2 => ⟨(hl.2 s s1 s2).2.1, (ha.2.2.2.2.2.2.1 s s1 s2).2⟩, fun s s1 s2 => (hl.2 s s1 s2).2.2, hs.2.2.1, hs.2.2.2.1⟩
theorem Lkd_YF {f g : Nat → Nat → Int32} {a : AS} (h : Lkd f g a) : YF f g := ⟨Off.mono h.2.2.1 (by simp [yRows]), fun j h1 _ => h.2.2.2 j h1⟩
theorem s_YcopyL {b P : Nat} {g0 : Nat → Nat → Int32} (w : WF h) (hb : b < 6) (hv : VW b P) (hB : g0 63 10 = nI b) (hW : WAt g0 71 P) : ∀ (k q : Nat) (g : Nat → Nat → Int32), q + k = 7 → (∀ i, i < q → g 72 i = nI (sl P i)) → Off g0 g [72] → ∃ g', f_Y_rankNow_6 63 (nI q) (hS h g) = rI (nI (rk b P)) (hS h g') ∧ WAt g' 72 P ∧ Off g0 g' [72]
  | 0, q, g, hq, h1, ho => by
    have h72 : WAt g 72 P := fun i hi => h1 i (by omega)
    refine ⟨g, ?_, h72, ho⟩
    rw [e_Y_rankNow_6, L7, if_pos ((i_le (by omega) (by omega)).2 (by omega)), if_pos (yK w), s_YrankOfThen w hb hv (by rw [ho 63 (by simp)]; exact hB) h72, cI_v]
  | k + 1, q, g, hq, h1, ho => by
    have g71 : WAt g 71 P := by unfold WAt; rw [ho 71 (by simp)]; exact hW
    rw [e_Y_rankNow_6, L7, if_neg (fun e => absurd ((i_le (by omega) (by omega)).1 e) (by omega))]
    simp only [yR12 w, yR11 w, oo_v, yA71 w (show q < 7 by omega), g71 q (by omega), yB72 w (show q < 7 by omega), if_true, i_w (show q < 2147483648 by omega), L1, i_add]
    refine s_YcopyL w hb hv hB hW k (q + 1) _ (by omega) (fun i hi => ?_) (Off.tr ho (s2_off (by simp)))
    by_cases hiq : i = q
    · subst hiq
      simp [s2_at]
    · have := h1 i (by omega)
      simp [s2_at, hiq, this]
theorem s_YcopyR {b P : Nat} {g0 : Nat → Nat → Int32} (w : WF h) (hb : b < 6) (hv : VW b P) (hB : g0 63 10 = nI b) (hW : WAt g0 71 P) : ∀ (k q : Nat) (g : Nat → Nat → Int32), q + k = 7 → (∀ i, i < q → g 72 i = nI (sl P i)) → Off g0 g [72] → ∃ g', f_Y_rankOfWord_2 63 (nI q) (hS h g) = rI (nI (rk b P)) (hS h g') ∧ WAt g' 72 P ∧ Off g0 g' [72]
  | 0, q, g, hq, h1, ho => by
    have h72 : WAt g 72 P := fun i hi => h1 i (by omega)
    refine ⟨g, ?_, h72, ho⟩
    rw [e_Y_rankOfWord_2, L7, if_pos ((i_le (by omega) (by omega)).2 (by omega)), if_pos (yK w), s_YrankOfThen w hb hv (by rw [ho 63 (by simp)]; exact hB) h72, cI_v]
  | k + 1, q, g, hq, h1, ho => by
    have g71 : WAt g 71 P := by unfold WAt; rw [ho 71 (by simp)]; exact hW
    rw [e_Y_rankOfWord_2, L7, if_neg (fun e => absurd ((i_le (by omega) (by omega)).1 e) (by omega))]
    simp only [yR12 w, yR11 w, oo_v, yA71 w (show q < 7 by omega), g71 q (by omega), yB72 w (show q < 7 by omega), if_true, i_w (show q < 2147483648 by omega), L1, i_add]
    refine s_YcopyR w hb hv hB hW k (q + 1) _ (by omega) (fun i hi => ?_) (Off.tr ho (s2_off (by simp)))
    by_cases hiq : i = q
    · subst hiq
      simp [s2_at]
    · have := h1 i (by omega)
      simp [s2_at, hiq, this]
theorem s_YrankNow {f : Nat → Nat → Int32} {a : AS} (w : WF h) (ha : AOK a) (hs : YSt (f 64) a) : ∃ g, f_Y_rankNow 63 (hS h f) = rI (nI (rk (aB a) (aP a))) (hS h g) ∧ Lk g (aB a) (aL a) (aO a) (aS a) ∧ WAt g 71 (aP a) ∧ YF f g := by
  obtain ⟨g1, e1, e2⟩ := s_Ylooks w ha hs
  obtain ⟨g2, f1, f2, f3⟩ := s_YcopyL w ha.2.1 ha.1 e2.1.1 e2.2.1 7 0 g1 (by omega) (fun _ hi => absurd hi (Nat.not_lt_zero _)) Off.rf
  refine ⟨g2, ?_, ?_, ?_, YF.tr (Lkd_YF e2) (YF.of f3 (by simp [yRows]) (by simp))⟩
  · rw [e_Y_rankNow, if_pos (yK w), e1, cV_v, L0, f1]
  · unfold Lk
    rw [f3 63 (by simp), f3 68 (by simp), f3 69 (by simp), f3 70 (by simp)]
    exact e2.1
  · unfold WAt
    rw [f3 71 (by simp)]
    exact e2.2.1
theorem s_YrankOfWord {b P : Nat} {g : Nat → Nat → Int32} (w : WF h) (hb : b < 6) (hv : VW b P) (hB : g 63 10 = nI b) (hW : WAt g 71 P) : ∃ g', f_Y_rankOfWord 63 (hS h g) = rI (nI (rk b P)) (hS h g') ∧ Off g g' [72] := by
  obtain ⟨g2, f1, f2, f3⟩ := s_YcopyR w hb hv hB hW 7 0 g (by omega) (fun _ hi => absurd hi (Nat.not_lt_zero _)) Off.rf
  refine ⟨g2, ?_, f3⟩
  rw [e_Y_rankOfWord, L0, f1]
theorem s_YsumL {P R : Nat} {G : Nat → Nat} {g : Nat → Nat → Int32} {a : AS} (w : WF h) (ha : AOK a) (hs : YSt (g 64) a) (hR : R < 16) (hG : ∀ p, p < 7 → sl (aP a) p ≠ 0 → g 64 (R + p) = nI (G (sl (aP a) p))) : ∀ (k p : Nat), p + k = 7 → f_Y_sumOf_4 63 (nI R) (nI (sm (fun p => if sl (aP a) p = 0 then 0 else G (sl (aP a) p)) p)) (nI p) (hS h g) = rI (nI (sm (fun p => if sl (aP a) p = 0 then 0 else G (sl (aP a) p)) 7)) (hS h g)
  | 0, p, hp => by
    obtain rfl : p = 7 := by omega
    rw [e_Y_sumOf_4, L7, if_pos ((i_le (by omega) (by omega)).2 (Nat.le_refl _))]
  | k + 1, p, hp => by
    have ih := s_YsumL (P := P) w ha hs hR hG k (p + 1) (by omega)
    have e0 : sm (fun p => if sl (aP a) p = 0 then 0 else G (sl (aP a) p)) (p + 1) = sm (fun p => if sl (aP a) p = 0 then 0 else G (sl (aP a) p)) p + (if sl (aP a) p = 0 then 0 else G (sl (aP a) p)) := rfl
    rw [e0] at ih
    have hc := hs.1 p (by omega)
    have hsb := ha.1.2.1 p (by omega)
    rw [e_Y_sumOf_4, L7, if_neg (fun e => absurd ((i_le (by omega) (by omega)).1 e) (by omega))]
    simp only [yR0 w, oo_v, L0, i_add, Nat.zero_add, yA64 w (show p < 26 by omega), hc]
    by_cases h0 : sl (aP a) p = 0
    · rw [if_pos h0] at ih
      rw [if_pos h0, if_pos (by decide), Nat.add_zero, L1, i_add]
      exact ih
    · have hl := (ha.2.2.2.2.2.2.1 _ (show 1 ≤ sl (aP a) p by omega) hsb).1
      rw [if_neg h0] at ih
      rw [if_neg h0, if_neg (fun e => absurd ((i_le (by omega) (by omega)).1 e) (by omega)), yA64 w (show R + p < 26 by omega), oo_v, hG p (by omega) h0, i_add, L1, i_add]
      exact ih
end YFrame
