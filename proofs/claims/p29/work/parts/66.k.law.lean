/-! the law itself -/
section Law
variable {L : Nat} {xs : Nat → Int32}
theorem lw_210 {e : Nat} {v : Int32} {h : pH} {z : ZS} (s : Sg h z) (nx : ∀ h z, Sg h z → ∃ h' z', f_L_law_146 L xs 0 (nI (e + 1)) h = rI 1 h' ∧ Sg h' z') : ∃ h' z', f_L_law_210 L xs 0 (nI e) v h = rI 1 h' ∧ Sg h' z' := by
  rw [e_L_law_210, if_neg (by decide), i_suc]
  by_cases c : nI e - nI e / (12 : Int32) * (12 : Int32) = 9
  · rw [if_pos c]
    by_cases c2 : (v >>> ((4 : Int32) &&& 31)) &&& (1 : Int32) = 1
    · obtain ⟨h1, z1, e1, s1⟩ := s_isPlan (kd := 1) (by omega) s
      obtain ⟨h2, z2, e2, s2⟩ := nx h1 z1 s1
      refine ⟨h2, z2, ?_, s2⟩
      rw [if_pos c2, show f_L_isPlan 0 1 h = _ from e1, cI_v, if_neg (by decide)]
      exact e2
    · obtain ⟨h1, z1, e1, s1⟩ := s_isPlan (kd := 0) (by omega) s
      obtain ⟨h2, z2, e2, s2⟩ := nx h1 z1 s1
      refine ⟨h2, z2, ?_, s2⟩
      rw [if_neg c2, show f_L_isPlan 0 0 h = _ from e1, cI_v, if_neg (by decide)]
      exact e2
  · rw [if_neg c]
    exact nx h z s
theorem lw_188 {e : Nat} {v : Int32} {h : pH} {z : ZS} (s : Sg h z) (nx : ∀ h z, Sg h z → ∃ h' z', f_L_law_146 L xs 0 (nI (e + 1)) h = rI 1 h' ∧ Sg h' z') : ∃ h' z', f_L_law_188 L xs 0 (nI e) v 1 h = rI 1 h' ∧ Sg h' z' := by
  rw [e_L_law_188, if_neg (by decide), if_neg (by decide)]
  by_cases c : nI e - nI e / (12 : Int32) * (12 : Int32) = 5
  · obtain ⟨h1, e1, s1⟩ := s_areLeast s
    rw [if_pos c, e1, cI_v, if_neg (by decide)]
    exact lw_210 s1 nx
  · rw [if_neg c]
    exact lw_210 s nx
theorem lw_end {h : pH} {z : ZS} (s : Sg h z) : ∃ h' z', f_L_law_146 L xs 0 (nI 40) h = rI 1 h' ∧ Sg h' z' := by
  obtain ⟨h1, e1, s1⟩ := x_add 26 1 0 s
  have a1 : sAdd z 26 1 0 = (-1, z) := by
    unfold sAdd
    rw [if_neg (fun q => absurd q.1 (by decide))]
  rw [a1] at e1 s1
  obtain ⟨h2, e2, s2⟩ := x_pull 7 s1
  have a2 : sPull z 7 = (-1, z) := by
    unfold sPull
    rw [if_neg (by decide)]
  rw [a2] at e2 s2
  obtain ⟨h3, e3, s3⟩ := x_push 6 1 s2
  have a3 : sPush z 6 1 = (-1, z) := by
    unfold sPush
    rw [if_neg (by decide)]
  rw [a3] at e3 s3
  obtain ⟨h4, e4, s4⟩ := x_whyNot 19 s3
  obtain ⟨h5, e5, s5⟩ := x_plan 1 (-1) (Or.inr rfl) s4
  obtain ⟨h6, e6, s6⟩ := x_all 5 s5
  obtain ⟨h7, e7, s7⟩ := x_round 4 s6
  have a4 : (sWhyNot z 19).1 = -1 := by
    unfold sWhyNot
    rw [if_neg (show ¬ inb 19 19 = true by decide)]
  have a5 : (sPlan z 1 (-1)).1 = -1 := by
    unfold sPlan
    rw [if_neg (show ¬ (0 : Int32) ≤ -1 by decide)]
  have a6 : (sAll z 5).1 = -1 := by
    unfold sAll
    rw [if_neg (show ¬ inb 5 4 = true by decide), if_neg (show ¬ (5 : Int32) = 4 by decide)]
  have a7 : (sRound z 4).1 = -1 := by
    unfold sRound
    rw [if_neg (show ¬ inb 4 4 = true by decide)]
  refine ⟨h7, z, ?_, s7⟩
  rw [e_L_law_146, if_pos (by decide), if_pos (kO7 s), e1, cI_v, if_pos rfl, if_pos (kO7 s1), e2, cI_v, if_pos rfl, if_pos (kO7 s2), e3, cI_v, if_pos rfl, if_pos (kO7 s3), e4, cI_v, a4, if_pos rfl, if_pos (kO7 s4), e5, cI_v, a5, if_pos rfl, if_pos (kO7 s5), e6, cI_v, a6, if_pos rfl, if_pos (kO7 s6), e7, cI_v, a7, if_pos rfl]
theorem lw_146 (hL : L ≤ 260) : ∀ (k e : Nat) (h : pH) (z : ZS), e + k = 40 → Sg h z → ∃ h' z', f_L_law_146 L xs 0 (nI e) h = rI 1 h' ∧ Sg h' z'
  | 0, e, h, z, he, s => by
    obtain rfl : e = 40 := by omega
    exact lw_end s
  | k + 1, e, h, z, he, s => by
    obtain ⟨h1, z1, e1, s1⟩ := s_does (v := csv (L, xs) (nI e)) s
    obtain ⟨h2, e2, s2⟩ := s_areBooks s1
    obtain ⟨h3, e3, s3⟩ := s_areWords (v := csv (L, xs) (nI e) >>> ((3 : Int32) &&& 31)) s2
    rw [e_L_law_146, if_neg (by rw [show (40 : Int32) = nI 40 from rfl, i_le (by omega) (by omega)]; omega), if_pos ⟨rfl, i_nneg (by omega), by omega⟩, e1, cI_v, if_neg (by decide), e2, cI_v, if_neg (by decide), e3, cI_v, if_neg (by decide)]
    exact lw_188 s3 (fun h z s => lw_146 hL k (e + 1) h z (by omega) s)
/-- so many books are set, their letters and places in order -/
def Thr (k : Nat) (a : AS) : Prop := aB a = k ∧ (∀ s, 1 ≤ s → s ≤ k → aL a s < 8 * k) ∧ ∀ q, q < 7 → 2 * k ≤ q → sl (aP a) q = 0
theorem thr_add {k x y p : Nat} {z : ZS} (hk : k < 3) (hz : ZOK z) (ht : Thr k (zA z)) (hx1 : 8 * k ≤ x) (hx2 : x < 8 * k + 8) (hy1 : 1 ≤ y) (hy2 : y ≤ 9) (hp1 : 2 * k ≤ p) (hp2 : p ≤ 2 * k + 1) :
    sAdd z (nI x) (nI y) (nI p) = (nI (k + 1), chg z (ins (zA z) x y p)) ∧ Thr (k + 1) (ins (zA z) x y p) := by
  obtain ⟨t1, t2, t3⟩ := ht
  have ha := hz.1
  have hso : slotOf (zA z) (nI x) = 0 := by
    rcases slotOf_spec (x := x) (by omega) ha with ⟨h1, _⟩ | ⟨h1, h2, h3⟩
    · exact h1
    · have := t2 _ h1 (by omega)
      omega
  have hle := les_le (zA z) x
  constructor
  · unfold sAdd
    rw [if_pos ⟨inb_of (by omega) (by omega), ⟨by rw [L1, i_lt (by omega) (by omega)]; omega, by rw [show (9 : Int32) = nI 9 from rfl, i_lt (by omega) (by omega)]; omega⟩, inb_of (by omega) (by omega)⟩]
    simp only [cl, i_clamp (show x < 2147483648 by omega), i_clamp (show p < 2147483648 by omega), i_clamp (show y < 2147483648 by omega)]
    rw [if_neg (fun q => by rcases q with q | q; exact q hso; exact q (t3 p (by omega) hp1)), if_pos (by omega), t1]
  · refine ⟨by show aB (zA z) + 1 = k + 1; omega, fun s s1 s2 => ?_, fun q q1 q2 => ?_⟩
    · show (if s < les (zA z) x + 1 then aL (zA z) s else if s = les (zA z) x + 1 then x else aL (zA z) (s - 1)) < _
      by_cases c1 : s < les (zA z) x + 1
      · rw [if_pos c1]
        have := t2 s s1 (by omega)
        omega
      · rw [if_neg c1]
        by_cases c2 : s = les (zA z) x + 1
        · rw [if_pos c2]; omega
        · rw [if_neg c2]
          have := t2 (s - 1) (by omega) (by omega)
          omega
    · have hu := up1_ok (t := les (zA z) x + 1) (by omega) (show aB (zA z) < 5 by omega) ha.1
      show sl (wsl (rnm (up1 (les (zA z) x + 1)) (aP (zA z))) p (les (zA z) x + 1)) q = 0
      rw [sl_wsl (by omega) q1 (by omega), if_neg (by omega), show sl (rnm (up1 (les (zA z) x + 1)) (aP (zA z))) q = up1 (les (zA z) x + 1) (sl (aP (zA z)) q) from pk7_sl hu q1, t3 q q1 (by omega)]
      unfold up1
      rw [if_neg (by omega)]
theorem lw_76 (hL : L ≤ 260) : ∀ (n k : Nat) (h : pH) (z : ZS), k + n = 3 → Sg h z → Thr k (zA z) → ∃ h' z', f_L_law_76 L xs 0 (nI k) h = rI 1 h' ∧ Sg h' z'
  | 0, k, h, z, hk, s, ht => by
    obtain rfl : k = 3 := by omega
    rw [e_L_law_76, if_pos (by decide)]
    exact lw_146 hL 37 3 h z rfl s
  | n + 1, k, h, z, hk, s, ht => by
    have hx := lwN_lt (csv (L, xs) (nI k)) (n := 8) (by omega)
    have hy := lwN_lt (csv (L, xs) (nI k) >>> ((3 : Int32) &&& 31)) (n := 9) (by omega)
    obtain ⟨i, i2, hi⟩ := and_1 (csv (L, xs) (nI k) >>> ((7 : Int32) &&& 31))
    obtain ⟨q1, q2⟩ := thr_add (x := lwN (csv (L, xs) (nI k)) 8 + 8 * k) (y := 1 + lwN (csv (L, xs) (nI k) >>> ((3 : Int32) &&& 31)) 9) (p := 2 * k + i) (by omega) s.2.1 ht (by omega) (by omega) (by omega) (by omega) (by omega) (by omega)
    obtain ⟨h1, e1, s1⟩ := x_add (nI (lwN (csv (L, xs) (nI k)) 8 + 8 * k)) (nI (1 + lwN (csv (L, xs) (nI k) >>> ((3 : Int32) &&& 31)) 9)) (nI (2 * k + i)) s
    rw [q1] at e1 s1
    obtain ⟨h2, z', e2, s2⟩ := lw_76 hL n (k + 1) h1 _ (by omega) s1 q2
    have c1 : f_L_low (csv (L, xs) (nI k)) (8 : Int32) h = rI (nI (lwN (csv (L, xs) (nI k)) 8)) h := s_low (n := 8) (by omega) (by omega)
    have c2 : f_L_low (csv (L, xs) (nI k) >>> ((3 : Int32) &&& 31)) (9 : Int32) h = rI (nI (lwN (csv (L, xs) (nI k) >>> ((3 : Int32) &&& 31)) 9)) h := s_low (n := 9) (by omega) (by omega)
    have d1 : nI (lwN (csv (L, xs) (nI k)) 8) + ((8 : Int32) * nI k) = nI (lwN (csv (L, xs) (nI k)) 8 + 8 * k) := by rw [L8, i_mul, i_add]
    have d2 : (1 : Int32) + nI (lwN (csv (L, xs) (nI k) >>> ((3 : Int32) &&& 31)) 9) = nI (1 + lwN (csv (L, xs) (nI k) >>> ((3 : Int32) &&& 31)) 9) := by rw [L1, i_add]
    have d3 : ((2 : Int32) * nI k) + ((csv (L, xs) (nI k) >>> ((7 : Int32) &&& 31)) &&& (1 : Int32)) = nI (2 * k + i) := by rw [hi, L2, i_mul, i_add]
    refine ⟨h2, z', ?_, s2⟩
    rw [e_L_law_76, if_neg (by rw [L3, i_le (by omega) (by omega)]; omega), if_pos ⟨rfl, i_nneg (by omega), by omega⟩, c1, cI_v, if_pos ⟨rfl, i_nneg (by omega), by omega⟩, c2, cI_v, if_pos ⟨rfl, i_nneg (by omega), by omega⟩, if_pos (kO7 s), d1, d2, d3, e1, cI_v, i_suc, if_pos rfl]
    exact e2
/-! a new object -/
theorem z0_gol (kd : Nat) : wyO (zA z0) kd 0 = some 0 := lv_eq.2 (lst_goal (by decide))
theorem z0_mean : sMean z0 = mnA 0 1 := by
  unfold sMean
  have h1 : sm (fun r => (wyO (zA z0) 0 r).getD 0) (wds (aB (zA z0))) = 0 := by
    show 0 + (wyO (zA z0) 0 0).getD 0 = 0
    rw [z0_gol]
    rfl
  have h2 : cnt (fun r => (wyO (zA z0) 0 r).isSome) (wds (aB (zA z0))) = 1 := by
    show 0 + (wyO (zA z0) 0 0).isSome.toNat = 1
    rw [z0_gol]
    rfl
  rw [h1, h2]
theorem z0_loosen : (sLoosen z0).1 = -4 := by
  show ansO (lsL (zA z0) 7 0 none none) = -4
  have h : ∀ k p, lsL (zA z0) k p none none = none := fun k => by
    induction k with
    | zero => exact fun p => rfl
    | succ k ih =>
      intro p
      unfold lsL
      rw [if_neg (by
        show ¬ Nat.testBit 0 _ = true
        rw [Nat.zero_testBit]
        decide)]
      exact ih (p + 1)
  rw [h]
  rfl
/-- THE LAW, of the pure machine: it answers 1 -/
theorem lw_all (hL : L ≤ 260) : ∃ h', f_L_law L xs hE = rI 1 h' ∧ WF h' := by
  obtain ⟨h1, e1, w, hx⟩ := i_start (fun h_1 => if kO h_1 7 0 = true then (cI (f_X_count 0 (6 : Int32) h_1) fun x_3 h_2 =>
    if x_3 = (1 : Int32) then
    (if kO h_2 7 0 = true then (cI (f_X_count 0 (3 : Int32) h_2) fun x_5 h_4 =>
      if x_5 = (1 : Int32) then
      (if kO h_4 7 0 = true then (cI (f_X_least 0 (0 : Int32) (1 : Int32) h_4) fun x_7 h_6 =>
        if x_7 = 0 then
        (if kO h_6 7 0 = true then (cI (f_X_loosen 0 h_6) fun x_9 h_8 =>
          if x_9 = (-4 : Int32) then
          (if kO h_8 7 0 = true then (cD (f_X_mean 0 h_8) fun d_11 h_10 =>
            if (Op.cmpValue (FP.dcmp d_11 FP.dconst0) .l) = 0 then
            (if kO h_10 7 0 = true then (cI (f_X_undo 0 h_10) fun x_13 h_12 =>
              if x_13 = (-2 : Int32) then
              (if kO h_12 7 0 = true then (cI (f_X_restore 0 h_12) fun x_15 h_14 =>
                if x_15 = (-2 : Int32) then
                ((f_L_law_76 L xs 0 (0 : Int32) h_14))
                else
                (rI (0 : Int32) h_14)) else none)
              else
              (rI (0 : Int32) h_12)) else none)
            else
            (rI (0 : Int32) h_10)) else none)
          else
          (rI (0 : Int32) h_8)) else none)
        else
        (rI (0 : Int32) h_6)) else none)
      else
      (rI (0 : Int32) h_4)) else none)
    else
    (rI (0 : Int32) h_2)) else none)
  have s : Sg h1 z0 := ⟨w, z0_ok, hx⟩
  obtain ⟨g1, a1, s1⟩ := x_count 6 s
  obtain ⟨g2, a2, s2⟩ := x_count 3 s1
  obtain ⟨g3, a3, s3⟩ := y_least (r := 0) (k := 1) (by decide) (by omega) s2
  obtain ⟨g4, a4, s4⟩ := x_loosen s3
  obtain ⟨g5, a5, s5⟩ := x_mean (by rw [z0_mean]; decide) s4
  obtain ⟨g6, a6, s6⟩ := x_undo s5
  obtain ⟨g7, a7, s7⟩ := x_restore s6
  obtain ⟨g8, z', a8, s8⟩ := lw_76 (L := L) (xs := xs) hL 3 0 g7 z0 rfl s7 ⟨rfl, fun t t1 t2 => by omega, fun q _ _ => sl0 q⟩
  refine ⟨g8, ?_, s8.1⟩
  rw [e_L_law]
  refine e1.trans ?_
  have a3 : f_X_least 0 0 1 g2 = rI 0 g3 := by
    have a3 : f_X_least 0 0 1 g2 = _ := a3
    rw [a3, z0_gol]
    rfl
  rw [z0_loosen] at a4
  rw [z0_mean] at a5
  rw [if_pos (kO7 s), a1, cI_v, if_pos (by decide), if_pos (kO7 s1), a2, cI_v, if_pos (by decide), if_pos (kO7 s2), a3, cI_v, if_pos rfl, if_pos (kO7 s3), a4, cI_v, if_pos rfl, if_pos (kO7 s4), a5, cD_v, if_pos (by decide), if_pos (kO7 s5), a6, cI_v, if_pos (by decide), if_pos (kO7 s6), a7, cI_v, if_pos (by decide)]
  exact a8
end Law
