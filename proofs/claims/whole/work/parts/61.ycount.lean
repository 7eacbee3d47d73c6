/-! the reference's count, round, loosen -/
noncomputable def rdIJ (W : Nat → Nat) : Nat × Nat := @dite _ (∃ i j, RD W i j) (Classical.propDecidable _) (fun q => (q.choose, q.choose_spec.choose)) (fun _ => (0, 0))
theorem rdIJ_eq {W : Nat → Nat} {i j : Nat} (h : RD W i j) : rdIJ W = (i, j) := by
  have q : ∃ i j, RD W i j := ⟨i, j, h⟩
  unfold rdIJ
  rw [dif_pos q]
  have h1 := RD_uniq q.choose_spec.choose_spec h
  exact Prod.ext h1.1 h1.2
noncomputable def sRound (z : ZS) (x : Int32) : Int32 × ZS :=
  ((if inb x 4 = true then (if pfR (zN z) (zL z) = -4 then rndA (itR (aS (zA z)) (aO (zA z)) (zL z) (zN z / 2) (aP (zA z))) (aF (zA z)) (rdIJ (fun j => (itR (aS (zA z)) (aO (zA z)) (zL z) (zN z / 2) (aP (zA z)) j).1)).1 (rdIJ (fun j => (itR (aS (zA z)) (aO (zA z)) (zL z) (zN z / 2) (aP (zA z)) j).1)).2 (cl x) else -2) else -1), z)
theorem ansO_m4 {u : Option Nat} (hu : ∀ p, u = some p → p < 2147483648) : ansO u = -4 ↔ u = none := by
  cases u with
  | none => exact ⟨fun _ => rfl, fun _ => rfl⟩
  | some p =>
    refine ⟨fun q => ?_, fun q => nomatch q⟩
    have h1 := i_nneg (hu p rfl)
    rw [show nI p = -4 from q] at h1
    exact absurd (by decide) h1
theorem mask_bit {S s t : Nat} (hS : S < 64) : (S &&& ((1 <<< s) ^^^ 2097151)).testBit t = (S.testBit t && !decide (t = s)) := by
  rw [Nat.testBit_and, Nat.testBit_xor, t21, Nat.one_shiftLeft, Nat.testBit_two_pow]
  by_cases hs : t < 21
  · rw [decide_eq_true hs]
    by_cases hq : t = s
    · rw [decide_eq_true hq, decide_eq_true hq.symm]; simp
    · rw [decide_eq_false hq, decide_eq_false (fun e => hq e.symm)]; simp
  · rw [big (n := S) (k := 6) hS (by omega)]; simp
section YCount
variable {h : pH} {f : Nat → Nat → Int32} {z : ZS}
theorem s_Yround {x : Int32} (w : WF h) (hz : ZOK z) (hy : YAt f z) : ∃ g, f_Y_round 63 x (hS h f) = rI (sRound z x).1 (hS h g) ∧ YAt g (sRound z x).2 ∧ YB f g := by
  obtain ⟨ha, hz2, hz3, hz4⟩ := id hz
  rw [e_Y_round, s_Yin (y := 3) (n := 4) (by omega) (by omega) rfl, cI_v]
  unfold sRound
  cases h1 : inb x 4 with
  | false =>
    rw [if_pos (show nI false.toNat = 0 from rfl), if_neg (by decide)]
    exact ⟨f, rfl, hy, YB.rf⟩
  | true =>
    obtain ⟨v, hv, rfl⟩ := inb_yes h1
    rw [if_neg (show ¬ nI true.toNat = 0 by decide), if_pos rfl, if_pos (yK w), s_YfaultOfProgram w hy.2.2.2, cI_v]
    by_cases hf : pfR (zN z) (zL z) = -4
    · obtain ⟨g, e1, e2, e3, y1⟩ := s_YrankNow w ha hy.1
      have hy1 := YAt_YF hy y1
      obtain ⟨g2, i, j, k1, k2, k3⟩ := s_Yround_30 (F := aF (zA z)) (S := aS (zA z)) (O := aO (zA z)) (x := v) w ha.2.1 ha.2.2.2.2.1 hy1.1.2.2.1 e2.1 (fun s s1 s2 => ⟨(e2.2 s s1 s2).2.1, (ha.2.2.2.2.2.2.1 s s1 s2).2⟩) (Lk_T e2) hy1.2.2.2 hf hv ha.1 e3 (wds (aB (zA z))) 0 g (by omega) (fun _ hq => absurd hq (Nat.not_lt_zero _)) Off.rf
      rw [if_pos hf, if_pos hf, if_pos (yK w), e1, cI_v, L0, k1, rdIJ_eq k2]
      simp only [cl, i_clamp (show v < 2147483648 by omega)]
      exact ⟨g2, rfl, YAt_YF hy1 k3, YB.YF (YF.tr y1 k3)⟩
    · rw [if_neg hf, if_neg hf]
      exact ⟨f, rfl, hy, YB.rf⟩
theorem s_Yloosen_7 (w : WF h) (hz : ZOK z) : ∀ (k p : Nat) (u v : Option Nat) (y : Nat) (g : Nat → Nat → Int32), p + k = 7 → YAt g z → (∀ q, u = some q → q < 7) → (u ≠ none → y = v.getD 1000000) → y ≤ 1000000 →
    ∃ g', f_Y_loosen_7 63 (ansO u) (nI y) (nI p) (hS h g) = rI (ansO (lsL (zA z) k p u v)) (hS h g') ∧ YF g g'
  | 0, p, u, v, y, g, hp, hy, hu, hv, hy6 => by
    refine ⟨g, ?_, YF.rf⟩
    rw [e_Y_loosen_7, L7, if_pos ((i_le (by omega) (by omega)).2 (by omega))]
    rfl
  | k + 1, p, u, v, y, g, hp, hy, hu, hv, hy6 => by
    obtain ⟨ha, hz2, hz3, hz4⟩ := id hz
    have hb := ha.2.1
    have hp7 : p < 7 := by omega
    have hsl := sl_lt (aP (zA z)) p
    have hsb := ha.1.2.1 p hp7
    have hS64 : aS (zA z) < 64 := ha.2.2.1
    obtain ⟨g1, e1, e2, e3, y1⟩ := s_YrankNow w ha hy.1
    have hy1 := YAt_YF hy y1
    rw [e_Y_loosen_7, L7, if_neg (fun e => absurd ((i_le (by omega) (by omega)).1 e) (by omega)), if_pos (yK w), e1, cI_v]
    simp only [yR11 w, oo_v, yA71 w hp7, e3 p hp7]
    have skip : (aS (zA z)).testBit (sl (aP (zA z)) p) = false → ∃ g', f_Y_loosen_7 63 (ansO u) (nI y) (nI p + 1) (hS h g1) = rI (ansO (lsL (zA z) (k + 1) p u v)) (hS h g') ∧ YF g g' := fun hn => by
      obtain ⟨g', q1, q2⟩ := s_Yloosen_7 w hz k (p + 1) u v y g1 (by omega) hy1 hu hv hy6
      refine ⟨g', ?_, YF.tr y1 q2⟩
      unfold lsL
      rw [hn, if_neg (by decide), L1, i_add]
      exact q1
    by_cases h0 : sl (aP (zA z)) p = 0
    · rw [if_pos ((i_le0 (by omega)).2 h0)]
      refine skip ?_
      rw [h0]
      cases hx : (aS (zA z)).testBit 0 with
      | false => rfl
      | true =>
        have := ha.2.2.2.1 0 hx
        omega
    · have d2 := (hy1.1.2.1 p hp7 h0).2
      rw [if_neg (fun e => h0 ((i_le0 (by omega)).1 e))]
      simp only [yR0 w, oo_v]
      rw [show (14 : Int32) = nI 14 from rfl, i_add, yA64 w (by omega), oo_v, d2]
      cases hst : (aS (zA z)).testBit (sl (aP (zA z)) p) with
      | false =>
        rw [if_neg (show ¬ nI false.toNat = 1 by decide)]
        exact skip hst
      | true =>
        rw [if_pos (show nI true.toNat = 1 from rfl)]
        simp only [yR9 w, yR11 w, oo_v, yA71 w hp7, e3 p hp7]
        rw [L1, i_sub (by omega), if_pos (yB70 w (by omega)), i_w (by omega), if_pos (yK w)]
        have hc : Yc (s2 g1 70 (sl (aP (zA z)) p - 1) 0) (aB (zA z)) (aS (zA z) &&& ((1 <<< sl (aP (zA z)) p) ^^^ 2097151)) (aO (zA z)) (aF (zA z)) (aC (zA z)) := by
          obtain ⟨c1, c2, c3, c4, c5⟩ := Yc_Lk ha e2 hy1.1
          refine ⟨by rw [s2_ne (by omega)]; exact c1, fun s s1 s2' => by rw [s2_ne (by omega)]; exact c2 s s1 s2', fun s s1 s2' => ?_, by rw [s2_ne (by omega)]; exact c4, by rw [s2_ne (by omega)]; exact c5⟩
          rw [mask_bit hS64, s2_at, if_pos rfl]
          by_cases hs : s = sl (aP (zA z)) p
          · rw [if_pos (by omega), decide_eq_true hs, Bool.not_true, Bool.and_false]
            rfl
          · rw [if_neg (by omega), decide_eq_false hs, Bool.not_false, Bool.and_true]
            exact c3 s s1 s2'
        obtain ⟨g2, k1, k2, k3, k4, k5⟩ := s_Ysolves w hb ha.2.2.2.2.1 ha.2.2.2.2.2.1 hc
        have y2 : YF g1 g2 := YF.tr (YF.of (l := [70]) (s2_off (by simp)) (by simp [yRows]) (by simp)) ⟨Off.mono k4 (by simp [fRows, yRows]), fun j _ hj => k5 j hj⟩
        have hy2 := YAt_YF hy1 y2
        have hrk := rk_lt hb ha.1
        have hw := wds_lt hb
        have hO : ∀ s, 1 ≤ s → s ≤ aB (zA z) → 1 ≤ aO (zA z) s ∧ aO (zA z) s ≤ 9 := fun s s1 s2 => (ha.2.2.2.2.2.2.1 s s1 s2).2
        have h75 := sol_75 k3 hrk
        generalize hway : lvK (aB (zA z)) (aS (zA z) &&& ((1 <<< sl (aP (zA z)) p) ^^^ 2097151)) (aO (zA z)) (aF (zA z)) (aC (zA z)) 0 (rk (aB (zA z)) (aP (zA z))) = way at h75
        have hwb : way.getD 1000000 ≤ 1000000 := by
          cases way with
          | none => exact Nat.le_refl _
          | some t =>
            have := lvK_lt hb hO hrk hway
            show t ≤ 1000000
            omega
        rw [k1, cV_v]
        have hwin : (u = none ∨ way.getD 1000000 < v.getD 1000000) → ∃ g', f_Y_loosen_76 63 (ansO u) (nI y) (nI p) (nI (rk (aB (zA z)) (aP (zA z)))) (hS h g2) = rI (ansO (lsL (zA z) (k + 1) p u v)) (hS h g') ∧ YF g g' := fun hc2 => by
          obtain ⟨g', q1, q2⟩ := s_Yloosen_7 w hz k (p + 1) (some p) way (way.getD 1000000) g2 (by omega) hy2 (fun q e => by cases e; omega) (fun _ => rfl) hwb
          refine ⟨g', ?_, YF.tr y1 (YF.tr y2 q2)⟩
          unfold lsL
          rw [if_pos hst, hway, if_pos hc2, e_Y_loosen_76, if_neg (by decide), e_Y_loosen_93, if_neg (by decide)]
          simp only [yR16 w, oo_v]
          rw [yA75 w (by omega), oo_v, h75, L1, i_add]
          exact q1
        by_cases hun : u = none
        · rw [if_pos ((ansO_m4 (fun q e => by have := hu q e; omega)).2 hun)]
          exact hwin (Or.inl hun)
        · have hyv := hv hun
          rw [if_neg (fun e => hun ((ansO_m4 (fun q e => by have := hu q e; omega)).1 e))]
          simp only [yR16 w, oo_v]
          rw [yA75 w (by omega), oo_v, h75]
          by_cases hle : y ≤ way.getD 1000000
          · obtain ⟨g', q1, q2⟩ := s_Yloosen_7 w hz k (p + 1) u v y g2 (by omega) hy2 hu hv hy6
            refine ⟨g', ?_, YF.tr y1 (YF.tr y2 q2)⟩
            unfold lsL
            rw [if_pos hst, hway, if_neg (show ¬ (u = none ∨ way.getD 1000000 < v.getD 1000000) from fun e => e.elim hun (fun e => by omega)), if_pos ((i_le (by omega) (by omega)).2 hle), if_pos True.intro, e_Y_loosen_93, if_pos (by rfl), L1, i_add]
            exact q1
          · rw [if_neg (fun e => hle ((i_le (by omega) (by omega)).1 e))]
            exact hwin (Or.inr (by omega))
theorem s_Yloosen (w : WF h) (hz : ZOK z) (hy : YAt f z) : ∃ g, f_Y_loosen 63 (hS h f) = rI (sLoosen z).1 (hS h g) ∧ YAt g (sLoosen z).2 ∧ YB f g := by
  obtain ⟨g, e1, e2⟩ := s_Yloosen_7 w hz 7 0 none none 0 f (by omega) hy (fun _ e => nomatch e) (fun e => absurd rfl e) (by omega)
  refine ⟨g, ?_, YAt_YF hy e2, YB.YF e2⟩
  rw [e_Y_loosen, L0]
  exact e1
theorem s_Ycount {x : Int32} (w : WF h) (hz : ZOK z) (hy : YAt f z) : ∃ g, f_Y_count 63 x (hS h f) = rI (sCount z x).1 (hS h g) ∧ YAt g (sCount z x).2 ∧ YB f g := by
  obtain ⟨ha, hz2, hz3, hz4⟩ := id hz
  have hb := ha.2.1
  obtain ⟨g, e1, e2⟩ := s_Ylooks w ha hy.1
  have y1 := Lkd_YF e2
  have hy1 := YAt_YF hy y1
  obtain ⟨n1, n2, n3, n4, n5, n6, n7⟩ := hy1.1
  have hF := ha.2.2.2.2.1
  have hC := ha.2.2.2.2.2.1
  have b14 := s_YsumL (P := 0) (R := 14) (G := fun s => ((aS (zA z)).testBit s).toNat) w ha hy1.1 (by omega) (fun p hp h0 => (n2 p hp h0).2) 7 0 (by omega)
  have b7 := s_YsumL (P := 0) (R := 7) (G := aO (zA z)) w ha hy1.1 (by omega) (fun p hp h0 => (n2 p hp h0).1) 7 0 (by omega)
  rw [e_Y_count, if_pos (yK w), e1, cV_v]
  unfold sCount
  dsimp only
  by_cases hx : x = 0
  · rw [if_pos hx, if_pos hx]
    rw [yI w, oo_v, e2.1.1]
    exact ⟨g, rfl, hy1, YB.YF y1⟩
  rw [if_neg hx, if_neg hx]
  clear hx
  by_cases hx : x = 1
  · rw [if_pos hx, if_pos hx]
    rw [if_pos (yK w), e_Y_sumOf]
    refine ⟨g, ?_, hy1, YB.YF y1⟩
    rw [pop_fix ha] at b14
    rw [show f_Y_sumOf_4 63 14 0 0 (hS h g) = _ from b14, cI_v]
  rw [if_neg hx, if_neg hx]
  clear hx
  by_cases hx : x = 2
  · rw [if_pos hx, if_pos hx]
    rw [if_pos (yK w), e_Y_sumOf]
    refine ⟨g, ?_, hy1, YB.YF y1⟩
    rw [sm_places ha.1, ← smw_sm] at b7
    rw [show f_Y_sumOf_4 63 7 0 0 (hS h g) = _ from b7, cI_v]
  rw [if_neg hx, if_neg hx]
  clear hx
  by_cases hx : x = 3
  · rw [if_pos hx, if_pos hx]
    rw [if_pos (yK w), s_YisWordInOrder w hF hC n3 n4 e2.2.1, cI_v]
    refine ⟨g, ?_, hy1, YB.YF y1⟩
    cases inOrd (aP (zA z)) (aF (zA z)) (aC (zA z))
    · rfl
    · rfl
  rw [if_neg hx, if_neg hx]
  clear hx
  by_cases hx : x = 4
  · rw [if_pos hx, if_pos hx]
    rw [if_pos (yK w), s_Ydisorder w hF n3 e2.2.1, cI_v]
    exact ⟨g, rfl, hy1, YB.YF y1⟩
  rw [if_neg hx, if_neg hx]
  clear hx
  by_cases hx : x = 5
  · rw [if_pos hx, if_pos hx]
    obtain ⟨g2, k1, _, _, k4⟩ := s_YrankNow w ha hy1.1
    rw [if_pos (yK w), k1, cI_v]
    exact ⟨g2, rfl, YAt_YF hy1 k4, YB.YF (YF.tr y1 k4)⟩
  rw [if_neg hx, if_neg hx]
  clear hx
  by_cases hx : x = 6
  · rw [if_pos hx, if_pos hx]
    rw [if_pos (yK w), s_Ywords w hb e2.1.1, cI_v]
    exact ⟨g, rfl, hy1, YB.YF y1⟩
  rw [if_neg hx, if_neg hx]
  clear hx
  by_cases hx : x = 7
  · rw [if_pos hx, if_pos hx]
    obtain ⟨g2, k1, k4⟩ := s_YwordsInOrder w hb hF hC e2.1.1 n3 n4
    have y2 : YF g g2 := YF.of k4 (by simp [yRows]) (by simp)
    rw [if_pos (yK w), k1, cI_v]
    exact ⟨g2, rfl, YAt_YF hy1 y2, YB.YF (YF.tr y1 y2)⟩
  rw [if_neg hx, if_neg hx]
  clear hx
  by_cases hx : x = 8
  · rw [if_pos hx, if_pos hx]
    rw [e_Y_count_136, hx]
    simp only [yR0 w, oo_v]
    rw [show ((23 : Int32) + 8 - 8) = nI 23 from by decide, yA64 w (by omega), oo_v, n5]
    exact ⟨g, rfl, hy1, YB.YF y1⟩
  rw [if_neg hx, if_neg hx]
  clear hx
  by_cases hx : x = 9
  · rw [if_pos hx, if_pos hx]
    rw [e_Y_count_136, hx]
    simp only [yR0 w, oo_v]
    rw [show ((23 : Int32) + 9 - 8) = nI 24 from by decide, yA64 w (by omega), oo_v, n6]
    exact ⟨g, rfl, hy1, YB.YF y1⟩
  rw [if_neg hx, if_neg hx]
  clear hx
  by_cases hx : x = 10
  · rw [if_pos hx, if_pos hx]
    rw [e_Y_count_136, hx]
    simp only [yR0 w, oo_v]
    rw [show ((23 : Int32) + 10 - 8) = nI 25 from by decide, yA64 w (by omega), oo_v, n7]
    exact ⟨g, rfl, hy1, YB.YF y1⟩
  rw [if_neg hx, if_neg hx]
  clear hx
  by_cases hx : x = 11
  · rw [if_pos hx, if_pos hx]
    rw [if_pos (yK w), s_YmovesNow w ha.1 hb (Lk_T e2.1) e2.2.1, cI_v]
    exact ⟨g, rfl, hy1, YB.YF y1⟩
  rw [if_neg hx, if_neg hx]
  clear hx
  by_cases hx : x = 12
  · rw [if_pos hx, if_pos hx]
    rw [e_Y_count_154, hx]
    simp only [yR0 w, oo_v]
    rw [show ((21 : Int32) + 12 - 12) = nI 21 from by decide, yA64 w (by omega), oo_v, n3]
    exact ⟨g, rfl, hy1, YB.YF y1⟩
  rw [if_neg hx, if_neg hx]
  clear hx
  by_cases hx : x = 13
  · rw [if_pos hx, if_pos hx]
    rw [e_Y_count_154, hx]
    simp only [yR0 w, oo_v]
    rw [show ((21 : Int32) + 13 - 12) = nI 22 from by decide, yA64 w (by omega), oo_v, n4]
    exact ⟨g, rfl, hy1, YB.YF y1⟩
  rw [if_neg hx, if_neg hx]
  clear hx
  by_cases hx : x = 14
  · rw [if_pos hx, if_pos hx]
    rw [yI w, oo_v, hy1.2.2.2.1]
    exact ⟨g, rfl, hy1, YB.YF y1⟩
  rw [if_neg hx, if_neg hx]
  clear hx
  by_cases hx : x = 15
  · rw [if_pos hx, if_pos hx]
    rw [yI w, oo_v, hy1.2.1.1]
    exact ⟨g, rfl, hy1, YB.YF y1⟩
  rw [if_neg hx, if_neg hx]
  clear hx
  exact ⟨g, rfl, hy1, YB.YF y1⟩
end YCount
