/-! the reference's looks -/
theorem pop_fix {a : AS} (ha : AOK a) : sm (fun p => if sl (aP a) p = 0 then 0 else ((aS a).testBit (sl (aP a) p)).toNat) 7 = pop (aS a) := by
  rw [sm_places (G := fun s => ((aS a).testBit s).toNat) ha.1]
  exact pop_sm ha.2.1 ha.2.2.2.1
section YLooks
variable {h : pH} {f : Nat → Nat → Int32} {z : ZS}
theorem Lk_T {g : Nat → Nat → Int32} {a : AS} (e : Lk g (aB a) (aL a) (aO a) (aS a)) : ∀ s, 1 ≤ s → s ≤ aB a → g 70 (s - 1) = nI ((aS a).testBit s).toNat := fun s s1 s2 => (e.2 s s1 s2).2.2
theorem s_Yat {x y : Int32} (w : WF h) (hz : ZOK z) (hy : YAt f z) : ∃ g, f_Y_at 63 x y (hS h f) = rI (sAt z x y).1 (hS h g) ∧ YAt g (sAt z x y).2 ∧ YB f g := by
  obtain ⟨ha, hz2, hz3, hz4⟩ := id hz
  rw [e_Y_at, s_YisPl, cI_v]
  unfold sAt
  cases h1 : inb x 7 with
  | false =>
    rw [if_pos (show nI false.toNat = 0 from rfl), if_neg (fun q => by cases q.1)]
    exact ⟨f, rfl, hy, YB.rf⟩
  | true =>
    rw [if_neg (show ¬ nI true.toNat = 0 by decide), s_Yin (y := 5) (n := 6) (by omega) (by omega) rfl, cI_v]
    cases h2 : inb y 6 with
    | false =>
      rw [if_pos (show nI false.toNat = 0 from rfl), if_neg (fun q => by cases q.2)]
      exact ⟨f, rfl, hy, YB.rf⟩
    | true =>
      obtain ⟨p, hp, rfl⟩ := inb_yes h1
      obtain ⟨v, hv, rfl⟩ := inb_yes h2
      obtain ⟨g, e1, e2⟩ := s_Ylooks w ha hy.1
      have y1 := Lkd_YF e2
      have hy1 := YAt_YF hy y1
      have hsl := sl_lt (aP (zA z)) p
      have hsb := ha.1.2.1 p hp
      rw [if_neg (show ¬ nI true.toNat = 0 by decide), if_pos (show true = true ∧ true = true from ⟨rfl, rfl⟩), if_pos (yK w), e1, cV_v]
      have hgap := s_YnearestGap w ha.2.1 ha.1 hp e2.2.1
      simp only [cl, i_clamp (show p < 2147483648 by omega)]
      by_cases h5 : v = 5
      · rw [if_pos (by rw [h5]; rfl), if_pos (yK w), hgap, cI_v, h5]
        by_cases h0 : sl (aP (zA z)) p = 0
        · rw [if_pos h0, if_pos h0, if_pos (by rfl)]
          exact ⟨g, rfl, hy1, YB.YF y1⟩
        · rw [if_neg h0, if_neg h0, if_neg (by decide), if_neg (by decide), if_neg (by decide), if_neg (by decide)]
          exact ⟨g, rfl, hy1, YB.YF y1⟩
      · have h5' : ¬ nI v = 5 := fun e => h5 ((i_inj (by omega) (by omega)).1 (show nI v = nI 5 from e))
        rw [if_neg h5']
        simp only [yR11 w, oo_v, yA71 w hp, e2.2.1 p hp]
        by_cases h0 : sl (aP (zA z)) p = 0
        · rw [if_pos ((i_eq0 (by omega)).2 h0), if_pos h0, if_neg h5']
          exact ⟨g, rfl, hy1, YB.YF y1⟩
        · rw [if_neg (fun e => h0 ((i_eq0 (by omega)).1 e)), if_neg h0]
          obtain ⟨d1, d2⟩ := hy1.1.2.1 p hp h0
          have d0 := hy1.1.1 p hp
          rw [if_neg h0] at d0
          have hl := (ha.2.2.2.2.2.2.1 _ (show 1 ≤ sl (aP (zA z)) p by omega) hsb).1
          rcases (show v = 0 ∨ v = 1 ∨ v = 2 ∨ v = 3 ∨ v = 4 by omega) with rfl | rfl | rfl | rfl | rfl
          · rw [if_pos (show nI 0 = 0 from rfl), if_pos (show nI 0 = 0 from rfl)]
            simp only [yR0 w, oo_v]
            rw [L0, i_add, Nat.zero_add, yA64 w (by omega), oo_v, d0, L1, i_sub (by omega), Nat.add_sub_cancel]
            exact ⟨g, rfl, hy1, YB.YF y1⟩
          · rw [if_neg (show ¬ nI 1 = 0 by decide), if_pos (show nI 1 = 1 from rfl), if_neg (show ¬ nI 1 = 0 by decide), if_pos (show nI 1 = 1 from rfl)]
            simp only [yR0 w, oo_v]
            rw [L7, i_add, yA64 w (by omega), oo_v, d1]
            exact ⟨g, rfl, hy1, YB.YF y1⟩
          · rw [if_neg (show ¬ nI 2 = 0 by decide), if_neg (show ¬ nI 2 = 1 by decide), if_pos (show nI 2 = 2 from rfl), if_neg (show ¬ nI 2 = 0 by decide), if_neg (show ¬ nI 2 = 1 by decide), if_pos (show nI 2 = 2 from rfl)]
            simp only [yR0 w, oo_v]
            rw [show (14 : Int32) = nI 14 from rfl, i_add, yA64 w (by omega), oo_v, d2]
            exact ⟨g, rfl, hy1, YB.YF y1⟩
          · rw [if_neg (show ¬ nI 3 = 0 by decide), if_neg (show ¬ nI 3 = 1 by decide), if_neg (show ¬ nI 3 = 2 by decide), if_pos (show nI 3 = 3 from rfl), if_neg (show ¬ nI 3 = 0 by decide), if_neg (show ¬ nI 3 = 1 by decide), if_neg (show ¬ nI 3 = 2 by decide), if_neg (show ¬ nI 3 = 4 by decide), if_pos (yK w), hgap, cI_v, if_neg h0]
            exact ⟨g, rfl, hy1, YB.YF y1⟩
          · rw [if_neg (show ¬ nI 4 = 0 by decide), if_neg (show ¬ nI 4 = 1 by decide), if_neg (show ¬ nI 4 = 2 by decide), if_neg (show ¬ nI 4 = 3 by decide), if_neg (show ¬ nI 4 = 0 by decide), if_neg (show ¬ nI 4 = 1 by decide), if_neg (show ¬ nI 4 = 2 by decide), if_pos (show nI 4 = 4 from rfl), if_pos (yK w), s_YwrongWith w hp h0 ha.2.2.2.2.1 hy1.1.2.2.1 e2.2.1, cI_v]
            exact ⟨g, rfl, hy1, YB.YF y1⟩
theorem s_YwhyL {x : Int32} (w : WF h) (hz : ZOK z) (hy : YAt f z) : ∃ g, f_Y_whyNot 63 x (hS h f) = rI (sWhyNot z x).1 (hS h g) ∧ YF f g ∧ (inb x 19 = true → Lkd f g (zA z)) := by
  obtain ⟨ha, hz2, hz3, hz4⟩ := id hz
  rw [e_Y_whyNot, s_Yin (y := 18) (n := 19) (by omega) (by omega) rfl, cI_v]
  unfold sWhyNot
  cases h1 : inb x 19 with
  | false =>
    rw [if_pos (show nI false.toNat = 0 from rfl), if_neg (by decide)]
    exact ⟨f, rfl, YF.rf, fun q => by cases q⟩
  | true =>
    obtain ⟨m, hm, rfl⟩ := inb_yes h1
    obtain ⟨g, e1, e2⟩ := s_Ylooks w ha hy.1
    rw [if_neg (show ¬ nI true.toNat = 0 by decide), if_pos rfl, if_pos (yK w), e1, cV_v, if_pos (yK w), s_YwhyNotOf w ha.1 hm ha.2.1 (Lk_T e2.1) e2.2.1, cI_v]
    simp only [cl, i_clamp (show m < 2147483648 by omega)]
    exact ⟨g, rfl, Lkd_YF e2, fun _ => e2⟩
theorem s_YwhyNot {x : Int32} (w : WF h) (hz : ZOK z) (hy : YAt f z) : ∃ g, f_Y_whyNot 63 x (hS h f) = rI (sWhyNot z x).1 (hS h g) ∧ YAt g (sWhyNot z x).2 ∧ YB f g := by
  obtain ⟨g, e1, e2, _⟩ := s_YwhyL (x := x) w hz hy
  exact ⟨g, e1, YAt_YF hy e2, YB.YF e2⟩
theorem s_Ycost {x : Int32} (w : WF h) (hz : ZOK z) (hy : YAt f z) : ∃ g, f_Y_cost 63 x (hS h f) = rI (sCost z x).1 (hS h g) ∧ YAt g (sCost z x).2 ∧ YB f g := by
  obtain ⟨ha, hz2, hz3, hz4⟩ := id hz
  obtain ⟨g, e1, e2, e3⟩ := s_YwhyL (x := x) w hz hy
  rw [e_Y_cost, if_pos (yK w), e1, cI_v]
  unfold sWhyNot sCost
  cases h1 : inb x 19 with
  | false =>
    dsimp only
    rw [if_neg (show ¬ false = true by decide), if_neg (show ¬ (-1 : Int32) = 0 by decide), if_pos (show (-1 : Int32) ≤ 0 by decide), if_neg (show ¬ false = true by decide)]
    exact ⟨g, rfl, YAt_YF hy e2, YB.YF e2⟩
  | true =>
    obtain ⟨m, hm, rfl⟩ := inb_yes h1
    have e3 := e3 h1
    have hrl := rsn_lt (aP (zA z)) (aS (zA z)) m
    simp only [cl, i_clamp (show m < 2147483648 by omega), if_true]
    by_cases h0 : rsn (aP (zA z)) (aS (zA z)) m = 0
    · obtain ⟨g2, k1, k2, k3, k4, k5⟩ := s_Ymakes (O := aO (zA z)) w ha.2.1 ha.1 hm (rsn_0 h0) e3.2.1 (fun s s1 s2 => ⟨(e3.1.2 s s1 s2).2.1, (ha.2.2.2.2.2.2.1 s s1 s2).2.2⟩)
      have y2 : YF g g2 := ⟨Off.mono k4 (by simp [yRows]), fun j _ hj => k5 j hj⟩
      rw [if_pos ((i_eq0 (by omega)).2 h0), if_pos h0, if_pos (yK w), k1, cV_v, yI w, oo_v, k3]
      exact ⟨g2, rfl, YAt_YF hy (YF.tr e2 y2), YB.YF (YF.tr e2 y2)⟩
    · rw [if_neg (fun e => h0 ((i_eq0 (by omega)).1 e)), if_neg h0, if_neg (fun e => h0 ((i_le0 (by omega)).1 e))]
      exact ⟨g, rfl, YAt_YF hy e2, YB.YF e2⟩
theorem s_Yleads {x : Int32} (w : WF h) (hz : ZOK z) (hy : YAt f z) : ∃ g, f_Y_leads 63 x (hS h f) = rI (sLeads z x).1 (hS h g) ∧ YAt g (sLeads z x).2 ∧ YB f g := by
  obtain ⟨ha, hz2, hz3, hz4⟩ := id hz
  obtain ⟨g, e1, e2, e3⟩ := s_YwhyL (x := x) w hz hy
  rw [e_Y_leads, if_pos (yK w), e1, cI_v]
  unfold sWhyNot sLeads
  cases h1 : inb x 19 with
  | false =>
    dsimp only
    rw [if_neg (show ¬ false = true by decide), if_neg (show ¬ (-1 : Int32) = 0 by decide), if_pos (show (-1 : Int32) ≤ 0 by decide), if_neg (show ¬ false = true by decide)]
    exact ⟨g, rfl, YAt_YF hy e2, YB.YF e2⟩
  | true =>
    obtain ⟨m, hm, rfl⟩ := inb_yes h1
    have e3 := e3 h1
    have hrl := rsn_lt (aP (zA z)) (aS (zA z)) m
    simp only [cl, i_clamp (show m < 2147483648 by omega), if_true]
    by_cases h0 : rsn (aP (zA z)) (aS (zA z)) m = 0
    · obtain ⟨g2, k1, k2, k3, k4, k5⟩ := s_Ymakes (O := aO (zA z)) w ha.2.1 ha.1 hm (rsn_0 h0) e3.2.1 (fun s s1 s2 => ⟨(e3.1.2 s s1 s2).2.1, (ha.2.2.2.2.2.2.1 s s1 s2).2.2⟩)
      have y2 : YF g g2 := ⟨Off.mono k4 (by simp [yRows]), fun j _ hj => k5 j hj⟩
      rw [if_pos ((i_eq0 (by omega)).2 h0), if_pos h0, if_pos (yK w), k1, cV_v, if_pos (yK w), s_YrankOfThen w ha.2.1 (aft_VW ha.2.1 ha.1 hm h0) (by rw [k5 10 (by omega)]; exact e3.1.1) k2, cI_v]
      exact ⟨g2, rfl, YAt_YF hy (YF.tr e2 y2), YB.YF (YF.tr e2 y2)⟩
    · rw [if_neg (fun e => h0 ((i_eq0 (by omega)).1 e)), if_neg h0, if_neg (fun e => h0 ((i_le0 (by omega)).1 e))]
      exact ⟨g, rfl, YAt_YF hy e2, YB.YF e2⟩
theorem s_Yword {x y : Int32} (w : WF h) (hz : ZOK z) (hy : YAt f z) : ∃ g, f_Y_word 63 x y (hS h f) = rI (sWord z x y).1 (hS h g) ∧ YAt g (sWord z x y).2 ∧ YB f g := by
  obtain ⟨ha, hz2, hz3, hz4⟩ := id hz
  have hb := ha.2.1
  have hw := wds_lt hb
  have hw1 := wds_pos hb
  obtain ⟨g, e1, e2⟩ := s_Ylooks w ha hy.1
  have y1 := Lkd_YF e2
  have hy1 := YAt_YF hy y1
  rw [e_Y_word, if_pos (yK w), e1, cV_v, if_pos (yK w), s_Ywords w hb e2.1.1, cI_v, L1, i_sub (by omega), s_Yin (n := wds (aB (zA z))) (by omega) (by omega) rfl, cI_v]
  unfold sWord
  cases h1 : inb x (wds (aB (zA z))) with
  | false =>
    rw [if_pos (show nI false.toNat = 0 from rfl), if_neg (fun q => by cases q.1)]
    exact ⟨g, rfl, hy1, YB.YF y1⟩
  | true =>
    rw [if_neg (show ¬ nI true.toNat = 0 by decide), s_YisPl, cI_v]
    cases h2 : inb y 7 with
    | false =>
      rw [if_pos (show nI false.toNat = 0 from rfl), if_neg (fun q => by cases q.2)]
      exact ⟨g, rfl, hy1, YB.YF y1⟩
    | true =>
      obtain ⟨r, hr, rfl⟩ := inb_yes h1
      obtain ⟨p, hp, rfl⟩ := inb_yes h2
      obtain ⟨g2, k1, k2, k3⟩ := s_Yspells w hb hr e2.1.1
      have y2 : YF g g2 := YF.of k3 (by simp [yRows]) (by simp)
      have hsl := sl_lt (wd (aB (zA z)) r) p
      have hsb := (wd_VW hb hr).2.1 p hp
      rw [if_neg (show ¬ nI true.toNat = 0 by decide), if_pos (show true = true ∧ true = true from ⟨rfl, rfl⟩), if_pos (yK w), k1, cV_v]
      simp only [yR11 w, yR7 w, oo_v, yA71 w hp, k2 p hp, cl, i_clamp (show p < 2147483648 by omega), i_clamp (show r < 2147483648 by omega)]
      by_cases h0 : sl (wd (aB (zA z)) r) p = 0
      · rw [if_pos ((i_eq0 (by omega)).2 h0), if_pos h0]
        exact ⟨g2, rfl, YAt_YF hy1 y2, YB.YF (YF.tr y1 y2)⟩
      · rw [if_neg (fun e => h0 ((i_eq0 (by omega)).1 e)), if_neg h0, i_sub (by omega), yA68 w (by omega), oo_v, k3 68 (by simp), (e2.1.2 _ (by omega) hsb).1]
        exact ⟨g2, rfl, YAt_YF hy1 y2, YB.YF (YF.tr y1 y2)⟩
theorem s_Yleast {x y : Int32} (w : WF h) (hz : ZOK z) (hy : YAt f z) : ∃ g, f_Y_least 63 x y (hS h f) = rI (sLeast z x y).1 (hS h g) ∧ YAt g (sLeast z x y).2 ∧ YB f g := by
  obtain ⟨ha, hz2, hz3, hz4⟩ := id hz
  have hb := ha.2.1
  have hw := wds_lt hb
  have hw1 := wds_pos hb
  obtain ⟨g, e1, e2⟩ := s_Ylooks w ha hy.1
  have y1 := Lkd_YF e2
  have hy1 := YAt_YF hy y1
  rw [e_Y_least, if_pos (yK w), e1, cV_v, if_pos (yK w), s_Ywords w hb e2.1.1, cI_v, L1, i_sub (by omega), s_Yin (n := wds (aB (zA z))) (by omega) (by omega) rfl, cI_v]
  unfold sLeast
  cases h1 : inb x (wds (aB (zA z))) with
  | false =>
    rw [if_pos (show nI false.toNat = 0 from rfl), if_neg (fun q => by cases q.1)]
    exact ⟨g, rfl, hy1, YB.YF y1⟩
  | true =>
    rw [if_neg (show ¬ nI true.toNat = 0 by decide), s_Yin (y := 2) (n := 3) (by omega) (by omega) rfl, cI_v]
    cases h2 : inb y 3 with
    | false =>
      rw [if_pos (show nI false.toNat = 0 from rfl), if_neg (fun q => by cases q.2)]
      exact ⟨g, rfl, hy1, YB.YF y1⟩
    | true =>
      obtain ⟨r, hr, rfl⟩ := inb_yes h1
      obtain ⟨v, hv, rfl⟩ := inb_yes h2
      obtain ⟨g2, k1, k2, k3, k4, k5⟩ := s_Ysolves w hb ha.2.2.2.2.1 ha.2.2.2.2.2.1 (Yc_Lk ha e2.1 hy1.1)
      have y2 : YF g g2 := ⟨Off.mono k4 (by simp [fRows, yRows]), fun j _ hj => k5 j hj⟩
      have hO : ∀ s, 1 ≤ s → s ≤ aB (zA z) → 1 ≤ aO (zA z) s ∧ aO (zA z) s ≤ 9 := fun s s1 s2 => (ha.2.2.2.2.2.2.1 s s1 s2).2
      have hbd : ∀ kd u, lvK (aB (zA z)) (aS (zA z)) (aO (zA z)) (aF (zA z)) (aC (zA z)) kd r = some u → u < 1000000 := fun kd u q => by have := lvK_lt hb hO hr q; omega
      rw [if_neg (show ¬ nI true.toNat = 0 by decide), if_pos (show true = true ∧ true = true from ⟨rfl, rfl⟩), if_pos (yK w), k1, cV_v]
      simp only [yR16 w, yR17 w, oo_v, cl, i_clamp (show v < 2147483648 by omega), i_clamp (show r < 2147483648 by omega)]
      by_cases h0 : v = 0
      · rw [if_pos ((i_eq0 (by omega)).2 h0), yA75 w (by omega), oo_v, sol_75 k3 hr, s_Yleast_52 (hbd 0), h0]
        exact ⟨g2, rfl, YAt_YF hy1 y2, YB.YF (YF.tr y1 y2)⟩
      · have hkd : wyO (zA z) v r = lvK (aB (zA z)) (aS (zA z)) (aO (zA z)) (aF (zA z)) (aC (zA z)) 1 r := by
          unfold wyO lvK
          rw [if_neg h0, if_neg (by omega)]
        rw [if_neg (fun e => h0 ((i_eq0 (by omega)).1 e)), yA76 w (by omega), oo_v, sol_76 k3 hr, s_Yleast_52 (hbd 1), hkd]
        exact ⟨g2, rfl, YAt_YF hy1 y2, YB.YF (YF.tr y1 y2)⟩
theorem s_Yplan {x y : Int32} (w : WF h) (hz : ZOK z) (hy : YAt f z) (hx : x = 0 ∨ x = 1) : ∃ g, f_Y_plan 63 x y (hS h f) = rI (sPlan z x y).1 (hS h g) ∧ YAt g (sPlan z x y).2 ∧ YB f g := by
  obtain ⟨ha, hz2, hz3, hz4⟩ := id hz
  have hb := ha.2.1
  rw [e_Y_plan]
  unfold sPlan
  by_cases h0 : 0 ≤ y
  · obtain ⟨t, ht, rfl⟩ : ∃ t, t < 2147483648 ∧ y = nI t := by
      refine ⟨y.toInt.toNat, ?_, ?_⟩
      · have := Int32.toInt_lt y
        omega
      · apply Int32.toInt_inj.mp
        rw [Int32.le_iff_toInt_le, Int32.toInt_zero] at h0
        have := Int32.toInt_lt y
        rw [i_toInt (by omega)]
        omega
    obtain ⟨kd, hkd, rfl⟩ : ∃ kd, kd < 2 ∧ x = nI kd := by
      rcases hx with rfl | rfl
      · exact ⟨0, by omega, rfl⟩
      · exact ⟨1, by omega, rfl⟩
    obtain ⟨g, e1, e2, e3, y1⟩ := s_YrankNow w ha hy.1
    have hy1 := YAt_YF hy y1
    obtain ⟨g2, k1, k2, k3, k4, k5⟩ := s_Ysolves w hb ha.2.2.2.2.1 ha.2.2.2.2.2.1 (Yc_Lk ha e2 hy1.1)
    have y2 : YF g g2 := ⟨Off.mono k4 (by simp [fRows, yRows]), fun j _ hj => k5 j hj⟩
    have hO : ∀ s, 1 ≤ s → s ≤ aB (zA z) → 1 ≤ aO (zA z) s ∧ aO (zA z) s ≤ 9 := fun s s1 s2 => (ha.2.2.2.2.2.2.1 s s1 s2).2
    have hrk := rk_lt hb ha.1
    rw [if_pos h0, if_pos h0, if_pos (yK w), e1, cI_v, if_pos (yK w), k1, cV_v, if_pos (yK w), e_Y_first, L0, s_Yfirst_2 w hb hO k3 hkd hrk 19 0 (by omega), cI_v, s_Yplan_26 w hb hO k3 hkd ht t 0 _ (by omega) hrk]
    simp only [cl, i_clamp (show kd < 2147483648 by omega), i_clamp ht]
    exact ⟨g2, rfl, YAt_YF hy1 y2, YB.YF (YF.tr y1 y2)⟩
  · rw [if_neg h0, if_neg h0]
    exact ⟨f, rfl, hy, YB.rf⟩
theorem s_Yall {x : Int32} (w : WF h) (hz : ZOK z) (hy : YAt f z) : ∃ g, f_Y_all 63 x (hS h f) = rI (sAll z x).1 (hS h g) ∧ YAt g (sAll z x).2 ∧ YB f g := by
  obtain ⟨ha, hz2, hz3, hz4⟩ := id hz
  have hb := ha.2.1
  rw [e_Y_all, s_Yin (y := 4) (n := 5) (by omega) (by omega) rfl, cI_v]
  unfold sAll
  cases h1 : inb x 5 with
  | false =>
    have h4 : inb x 4 = false := by
      cases hx : inb x 4 with
      | false => rfl
      | true =>
        obtain ⟨r, hr, rfl⟩ := inb_yes hx
        rw [inb_of (by omega) (by omega)] at h1
        cases h1
    have h5 : x ≠ 4 := fun e => by
      rw [e, show (4 : Int32) = nI 4 from rfl, inb_of (by omega) (by omega)] at h1
      cases h1
    rw [if_pos (show nI false.toNat = 0 from rfl), h4, if_neg (by decide), if_neg h5]
    exact ⟨f, rfl, hy, YB.rf⟩
  | true =>
    obtain ⟨v, hv, rfl⟩ := inb_yes h1
    obtain ⟨g, e1, e2, e3, y1⟩ := s_YrankNow w ha hy.1
    have hy1 := YAt_YF hy y1
    obtain ⟨g2, k1, k2, k3, k4, k5⟩ := s_Ysolves w hb ha.2.2.2.2.1 ha.2.2.2.2.2.1 (Yc_Lk ha e2 hy1.1)
    have y2 : YF g g2 := ⟨Off.mono k4 (by simp [fRows, yRows]), fun j _ hj => k5 j hj⟩
    have hO : ∀ s, 1 ≤ s → s ≤ aB (zA z) → 1 ≤ aO (zA z) s ∧ aO (zA z) s ≤ 9 := fun s s1 s2 => (ha.2.2.2.2.2.2.1 s s1 s2).2
    have hrk := rk_lt hb ha.1
    rw [if_neg (show ¬ nI true.toNat = 0 by decide), if_pos (yK w), e1, cI_v, if_pos (yK w), k1, cV_v, L4]
    by_cases h4 : v = 4
    · obtain ⟨g3, l1, l2⟩ := s_Yreached w hb hrk k2.1 k3.1
      have y3 : YF g2 g3 := YF.of l2 (by simp [yRows]) (by simp)
      rw [if_pos (by rw [h4]), if_pos (yK w), l1, cI_v, h4, if_neg (by decide), if_pos rfl]
      exact ⟨g3, rfl, YAt_YF hy1 (YF.tr y2 y3), YB.YF (YF.tr y1 (YF.tr y2 y3))⟩
    · have hl := s_Yall_45 (x := v) w hb hO k2.1 k3 (by omega) (wds (aB (zA z))) 0 (by omega)
      rw [if_neg (fun e => h4 ((i_inj (by omega) (by omega)).1 e)), inb_of (show v < 4 by omega) (by omega), if_pos rfl]
      simp only [cl, i_clamp (show v < 2147483648 by omega)]
      refine ⟨g2, ?_, YAt_YF hy1 y2, YB.YF (YF.tr y1 y2)⟩
      exact hl
theorem s_Ymean (w : WF h) (hz : ZOK z) (hy : YAt f z) : ∃ g, f_Y_mean 63 (hS h f) = rD (sMean z) (hS h g) ∧ YAt g z ∧ YB f g := by
  obtain ⟨ha, hz2, hz3, hz4⟩ := id hz
  have hb := ha.2.1
  obtain ⟨g, e1, e2⟩ := s_Ylooks w ha hy.1
  have y1 := Lkd_YF e2
  have hy1 := YAt_YF hy y1
  obtain ⟨g2, k1, k2, k3, k4, k5⟩ := s_Ysolves w hb ha.2.2.2.2.1 ha.2.2.2.2.2.1 (Yc_Lk ha e2.1 hy1.1)
  have y2 : YF g g2 := ⟨Off.mono k4 (by simp [fRows, yRows]), fun j _ hj => k5 j hj⟩
  have hO : ∀ s, 1 ≤ s → s ≤ aB (zA z) → 1 ≤ aO (zA z) s ∧ aO (zA z) s ≤ 9 := fun s s1 s2 => (ha.2.2.2.2.2.2.1 s s1 s2).2
  have hl := s_Ymean_14 w hb ha.2.2.2.2.1 ha.2.2.2.2.2.1 hO k2.1 k3 (wds (aB (zA z))) 0 (by omega)
  refine ⟨g2, ?_, YAt_YF hy1 y2, YB.YF (YF.tr y1 y2)⟩
  rw [e_Y_mean, if_pos (yK w), e1, cV_v, if_pos (yK w), k1, cV_v]
  exact hl
end YLooks
