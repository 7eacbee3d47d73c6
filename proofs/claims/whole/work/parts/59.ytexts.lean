/-! the reference's texts, history, snapshot -/
section YTexts
variable {h : pH} {f : Nat → Nat → Int32} {z : ZS}
theorem s_Yappend {x : Int32} (w : WF h) (hy : YAt f z) : ∃ g, f_Y_append 63 x (hS h f) = rI (sAppend z x).1 (hS h g) ∧ YAt g (sAppend z x).2 ∧ YB f g := by
  obtain ⟨y1, y2, y3, y4⟩ := id hy
  obtain ⟨p1, p2, p3⟩ := id y4
  rw [e_Y_append, e_Y_in]
  unfold sAppend
  by_cases h1 : x < 33
  · rw [if_pos h1, cI_v, if_pos rfl, if_neg (fun q => q.1 h1)]
    exact ⟨f, rfl, hy, YB.rf⟩
  · rw [if_neg h1]
    by_cases h2 : (126 : Int32) < x
    · rw [if_pos h2, cI_v, if_pos rfl, if_neg (fun q => by
        have h3 := q.2
        rw [Int32.le_iff_toInt_le] at h3
        rw [Int32.lt_iff_toInt_lt] at h2
        omega)]
      exact ⟨f, rfl, hy, YB.rf⟩
    · have hx126 : x ≤ 126 := by
        rw [Int32.lt_iff_toInt_lt] at h2
        rw [Int32.le_iff_toInt_le]
        omega
      have hx : ∃ c, x = nI c ∧ 33 ≤ c ∧ c ≤ 126 := by
        refine ⟨x.toInt.toNat, ?_, ?_⟩
        · apply Int32.toInt_inj.mp
          rw [Int32.lt_iff_toInt_lt, show (33 : Int32).toInt = 33 from by decide] at h1
          have := Int32.toInt_lt x
          rw [i_toInt (by omega)]
          omega
        · rw [Int32.lt_iff_toInt_lt, show (33 : Int32).toInt = 33 from by decide] at h1
          rw [Int32.lt_iff_toInt_lt, show (126 : Int32).toInt = 126 from by decide] at h2
          omega
      obtain ⟨c, rfl, hc1, hc2⟩ := hx
      rw [if_neg h2, cI_v, if_neg (by decide), if_pos (show ¬ nI c < 33 ∧ nI c ≤ 126 from ⟨h1, hx126⟩), yI w, oo_v, p1, L60]
      by_cases h3 : zN z < 60
      · rw [if_neg (fun e => absurd ((i_inj (by omega) (by omega)).1 e) (by omega)), if_pos h3]
        simp only [yR5 w, yI w, oo_v, p1]
        rw [if_pos (yB67 w (by omega)), i_w (by omega)]
        simp only [yI w, oo_v, yK w, if_true, i_f]
        rw [s2_ne (show (63 : Nat) ≠ 67 by omega), p1, L1, i_add, s2_at, if_pos rfl, if_pos rfl]
        refine ⟨_, rfl, ⟨?_, ?_, ?_, ?_, ?_, fun i hi => ?_⟩, fun k hk => by rw [s2_ne (by omega), s2_ne (by omega)]⟩
        · rw [s2_ne (by omega), s2_ne (by omega)]; exact y1
        · exact YHt_of y2 (by rw [s2_at, if_pos rfl, if_neg (by omega), s2_ne (by omega)]) (by rw [s2_ne (by omega), s2_ne (by omega)])
        · exact YSn_of y3 (by rw [s2_at, if_pos rfl, if_neg (by omega), s2_ne (by omega)]) (by rw [s2_ne (by omega), s2_ne (by omega)])
        · rw [s2_at, if_pos rfl, if_pos rfl]
        · show zN z + 1 ≤ 60
          omega
        · have hi : i < zN z + 1 := hi
          show s2 (s2 f 67 (zN z) (nI c)) 63 6 (nI (zN z + 1)) 67 i = nI (if i = zN z then (nI c).toNatClampNeg else zL z i) ∧ 33 ≤ (if i = zN z then (nI c).toNatClampNeg else zL z i) ∧ (if i = zN z then (nI c).toNatClampNeg else zL z i) ≤ 126
          rw [s2_ne (by omega), s2_at, if_pos rfl, i_clamp (by omega)]
          by_cases hin : i = zN z
          · rw [if_pos hin, if_pos hin]
            exact ⟨rfl, hc1, hc2⟩
          · rw [if_neg hin, if_neg hin]
            exact p3 i (by omega)
      · rw [if_pos (by rw [show zN z = 60 by omega]), if_neg h3]
        exact ⟨f, rfl, hy, YB.rf⟩
theorem s_Yclear (w : WF h) (hy : YAt f z) : ∃ g, f_Y_clear 63 (hS h f) = rI (sClear z).1 (hS h g) ∧ YAt g (sClear z).2 ∧ YB f g := by
  obtain ⟨y1, y2, y3, y4⟩ := hy
  rw [e_Y_clear, yI w, oo_v, y4.1, if_pos (yK w), i_f]
  refine ⟨_, rfl, ⟨?_, ?_, ?_, ?_, ?_, fun i hi => absurd hi (Nat.not_lt_zero _)⟩, fun k hk => by rw [s2_ne (by omega)]⟩
  · rw [s2_ne (by omega)]; exact y1
  · exact YHt_of y2 (by rw [s2_at, if_pos rfl, if_neg (by omega)]) (by rw [s2_ne (by omega)])
  · exact YSn_of y3 (by rw [s2_at, if_pos rfl, if_neg (by omega)]) (by rw [s2_ne (by omega)])
  · rw [s2_at, if_pos rfl, if_pos rfl]
    rfl
  · exact Nat.zero_le _
theorem s_Yfault {x : Int32} (w : WF h) (hz : ZOK z) (hy : YAt f z) : ∃ g, f_Y_fault 63 x (hS h f) = rI (sFault z x).1 (hS h g) ∧ YAt g (sFault z x).2 ∧ YB f g := by
  rw [e_Y_fault]
  unfold sFault
  by_cases h0 : x = 0
  · rw [if_pos h0, if_pos h0, if_pos (yK w), s_YfaultOfProgram w hy.2.2.2, cI_v]
    exact ⟨f, rfl, hy, YB.rf⟩
  · rw [if_neg h0, if_neg h0]
    by_cases h1 : x = 1
    · obtain ⟨g, e1, e2⟩ := s_YfaultOfWord w hz.1 hy.1 hy.2.2.2
      rw [if_pos h1, if_pos h1, if_pos (yK w), e1, cI_v]
      exact ⟨g, rfl, YAt_YF hy (Lkd_YF e2), YB.YF (Lkd_YF e2)⟩
    · rw [if_neg h1, if_neg h1]
      exact ⟨f, rfl, hy, YB.rf⟩
theorem s_Yarr_18 {P : Nat} {g0 : Nat → Nat → Int32} {z : ZS} (w : WF h) (ha : AOK (zA z)) (hv : VW (aB (zA z)) P) (hs : YSt (g0 64) (zA z)) (hp : YP g0 (zN z) (zL z)) (h7 : zN z = 7) (hP : ∀ q, q < 7 → sgY (zA z) (zL z q) = nI (sl P q)) (hl : Lk g0 (aB (zA z)) (aL (zA z)) (aO (zA z)) (aS (zA z))) : ∀ (k p : Nat) (g : Nat → Nat → Int32), p + k = 7 → (∀ q, q < p → g 72 q = nI (sl P q)) → Off g0 g [72] →
    ∃ g', f_Y_arrange_18 63 (nI p) (hS h g) = rI (nI (rk (aB (zA z)) P)) (hS h g') ∧ YSt (g' 64) (wth (zA z) P) ∧ g' 63 6 = nI 0 ∧ Off g0 g' [63, 64, 71, 72] ∧ ∀ j, j ≠ 6 → g' 63 j = g0 63 j
  | 0, p, g, hk, h1, ho => by
    have h72 : WAt g 72 P := fun q hq => h1 q (by omega)
    obtain ⟨g1, e1, e2, e3⟩ := s_YgoesOn w h72
    have hl1 : Lk g1 (aB (zA z)) (aL (zA z)) (aO (zA z)) (aS (zA z)) := by
      unfold Lk
      rw [e3 63 (by simp), e3 68 (by simp), e3 69 (by simp), e3 70 (by simp), ho 63 (by simp), ho 68 (by simp), ho 69 (by simp), ho 70 (by simp)]
      exact hl
    obtain ⟨g2, f1, f2, f3⟩ := s_Ystands w ha hv hl1 e2 (by rw [e3 64 (by simp), ho 64 (by simp)]; exact hs)
    have g63 : g2 63 = g0 63 := by rw [f3 63 (by simp), e3 63 (by simp), ho 63 (by simp)]
    refine ⟨s2 g2 63 6 (nI 0), ?_, by rw [s2_ne (by omega)]; exact f2, by simp [s2_at], Off.tr (Off.mono ho (by simp)) (Off.tr (Off.mono e3 (by simp)) (Off.tr (Off.mono f3 (by simp)) (s2_off (by simp)))), fun j hj => by rw [s2_at, if_pos rfl, if_neg hj, g63]⟩
    rw [e_Y_arrange_18, L7, if_pos ((i_le (by omega) (by omega)).2 (by omega)), if_pos (yK w), e1, cV_v, if_pos (yK w), f1, cV_v, if_pos (yK w), i_f, if_pos (yK w), L0, s_YrankOfThen w ha.2.1 hv (by rw [s2_at, if_pos rfl, if_neg (by omega), g63]; exact hl.1) (fun q hq => by rw [s2_ne (by omega), f3 72 (by simp), e3 72 (by simp)]; exact h72 q hq), cI_v]
  | k + 1, p, g, hk, h1, ho => by
    have hl1 : Lk g (aB (zA z)) (aL (zA z)) (aO (zA z)) (aS (zA z)) := by
      unfold Lk
      rw [ho 63 (by simp), ho 68 (by simp), ho 69 (by simp), ho 70 (by simp)]
      exact hl
    rw [e_Y_arrange_18, L7, if_neg (fun e => absurd ((i_le (by omega) (by omega)).1 e) (by omega))]
    simp only [yR12 w, oo_v, yK w, if_true]
    rw [s_Ysigned w ha (YP_of hp (by rw [ho 63 (by simp)]) (ho 67 (by simp))) hl1 (by omega), cI_v, if_pos (yB72 w (by omega)), i_w (by omega), L1, i_add, hP p (by omega)]
    refine s_Yarr_18 w ha hv hs hp h7 hP hl k (p + 1) _ (by omega) (fun q hq => ?_) (Off.tr ho (s2_off (by simp)))
    by_cases hqp : q = p
    · subst hqp
      simp [s2_at]
    · have := h1 q (by omega)
      simp [s2_at, hqp, this]
theorem s_Yarrange (w : WF h) (hz : ZOK z) (hy : YAt f z) : ∃ g, f_Y_arrange 63 (hS h f) = rI (sArrange z).1 (hS h g) ∧ YAt g (sArrange z).2 ∧ YB f g := by
  obtain ⟨ha, hz2, hz3, hz4⟩ := id hz
  obtain ⟨g1, e1, e2⟩ := s_YfaultOfWord w ha hy.1 hy.2.2.2
  have y1 := Lkd_YF e2
  have hy1 := YAt_YF hy y1
  rw [e_Y_arrange, if_pos (yK w), e1, cI_v]
  unfold sArrange
  by_cases hf : wfR (zA z) (zN z) (zL z) = -4
  · obtain ⟨h7, hv, hq⟩ := wf_VW ha hy.2.2.2.2.1 (fun i hi => (hy.2.2.2.2.2 i hi).2.2) hf
    obtain ⟨g2, f1, f2, f3, f4⟩ := s_Yremembers w hy1.1 hz4 hy1.2.1
    have hl2 : Lk g2 (aB (zA z)) (aL (zA z)) (aO (zA z)) (aS (zA z)) := by
      unfold Lk
      rw [f4 10 (by omega), f3 68 (by simp), f3 69 (by simp), f3 70 (by simp)]
      exact e2.1
    obtain ⟨g3, k1, k2, k3, k4, k5⟩ := s_Yarr_18 w ha hv (by rw [f3 64 (by simp)]; exact hy1.1) (YP_of hy1.2.2.2 (f4 6 (by omega)) (f3 67 (by simp))) h7 (fun q hq7 => by rw [(hq q hq7).1]; exact (hq q hq7).2) hl2 7 0 g2 (by omega) (fun _ hi => absurd hi (Nat.not_lt_zero _)) Off.rf
    rw [if_pos hf, if_pos hf, if_pos (yK w), f1, cV_v, L0, k1]
    refine ⟨g3, rfl, ⟨k2, YHt_of f2 (k5 2 (by omega)) (k4 65 (by simp)), YSn_of hy1.2.2.1 (by rw [k5 4 (by omega), f4 4 (by omega)]) (by rw [k4 66 (by simp), f3 66 (by simp)]), k3, Nat.zero_le _, fun i hi => absurd hi (Nat.not_lt_zero _)⟩, YB.tr (YB.YF y1) (YB.tr (YB.of f3 (by decide)) (YB.of k4 (by decide)))⟩
  · rw [if_neg hf, if_neg hf]
    exact ⟨g1, rfl, hy1, YB.YF y1⟩
theorem s_Yrun_20 {n : Nat} {l : Nat → Nat} {g0 : Nat → Nat → Int32} (w : WF h) (hp : YP g0 n l) (hf : pfR n l = -4) : ∀ (k i c : Nat) (a : AS) (g : Nat → Nat → Int32), i + k = n / 2 → AOK a → YSt (g 64) a → YD g0 g → ∃ g', f_Y_run_20 63 (nI c) (nI i) (hS h g) = rI (nI (c + (rnL l k i a).2)) (hS h g') ∧ YSt (g' 64) (rnL l k i a).1 ∧ YD g0 g'
  | 0, i, c, a, g, hk, ha, hs, hd => by
    have hn := hp.2.1
    refine ⟨g, ?_, hs, hd⟩
    rw [e_Y_run_20, yI w, oo_v, hd.2 6 (by omega) (by omega), hp.1, if_neg (by decide), L2, i_div (by omega) (by omega), if_pos ((i_le (by omega) (by omega)).2 (by omega))]
    rfl
  | k + 1, i, c, a, g, hk, ha, hs, hd => by
    have hn := hp.2.1
    have hp' : YP g n l := YP_of hp (hd.2 6 (by omega) (by omega)) (hd.1 67 (by decide))
    have hm19 := (mvAt_lt hn hf (show i < n / 2 by omega)).1
    have hrl := rsn_lt (aP a) (aS a) (mvAt l i)
    obtain ⟨g1, e1, e2, e3⟩ := s_Ydoes w ha hs hm19
    obtain ⟨g2, k1, k2, k3⟩ := s_Yrun_20 w hp hf k (i + 1) (c + (if rsn (aP a) (aS a) (mvAt l i) = 0 then 1 else 0)) (mv a (mvAt l i)) g1 (by omega) (mv_ok ha hm19) e2 (YD.tr hd e3)
    refine ⟨g2, ?_, k2, k3⟩
    rw [e_Y_run_20, yI w, oo_v, hp'.1, if_neg (by decide), L2, i_div (by omega) (by omega), if_neg (fun e => absurd ((i_le (by omega) (by omega)).1 e) (by omega)), if_pos (yK w), s_YmoveAt w hp' hf (by omega), cI_v, if_pos (yK w), e1, cI_v]
    have hfin : f_Y_run_20 63 (nI (c + (if rsn (aP a) (aS a) (mvAt l i) = 0 then 1 else 0))) (nI (i + 1)) (hS h g1) = rI (nI (c + (rnL l (k + 1) i a).2)) (hS h g2) := by
      rw [k1]
      show rI (nI _) _ = rI (nI (c + ((if rsn (aP a) (aS a) (mvAt l i) = 0 then 1 else 0) + (rnL l k (i + 1) (mv a (mvAt l i))).2))) _
      rw [Nat.add_assoc]
    by_cases h0 : rsn (aP a) (aS a) (mvAt l i) = 0
    · rw [if_pos h0] at hfin
      rw [if_pos ((i_eq0 (by omega)).2 h0), L1, i_add, i_add]
      exact hfin
    · rw [if_neg h0] at hfin
      rw [if_neg (fun e => h0 ((i_eq0 (by omega)).1 e)), L0, L1, i_add, i_add]
      exact hfin
theorem s_Yrun (w : WF h) (hz : ZOK z) (hy : YAt f z) : ∃ g, f_Y_run 63 (hS h f) = rI (sRun z).1 (hS h g) ∧ YAt g (sRun z).2 ∧ YB f g := by
  obtain ⟨ha, hz2, hz3, hz4⟩ := id hz
  rw [e_Y_run, if_pos (yK w), s_YfaultOfProgram w hy.2.2.2, cI_v]
  unfold sRun
  by_cases hf : pfR (zN z) (zL z) = -4
  · obtain ⟨g2, f1, f2, f3, f4⟩ := s_Yremembers w hy.1 hz4 hy.2.1
    obtain ⟨g3, k1, k2, k3⟩ := s_Yrun_20 w (YP_of hy.2.2.2 (f4 6 (by omega)) (f3 67 (by simp))) hf (zN z / 2) 0 0 (zA z) g2 (by omega) ha (by rw [f3 64 (by simp)]; exact hy.1) (YD.of YF.rf)
    rw [if_pos hf, if_pos hf, if_pos (yK w), f1, cV_v, L0, k1, Nat.zero_add]
    exact ⟨g3, rfl, YAt_does hy f2 f3 f4 k2 k3, YB.tr (YB.of f3 (by decide)) (YB.YD k3)⟩
  · rw [if_neg hf, if_neg hf]
    exact ⟨f, rfl, hy, YB.rf⟩
theorem s_Yundo_22 {n : Nat} {g0 : Nat → Nat → Int32} (w : WF h) (hn : n < 4) (h2 : g0 63 2 = nI n) : ∀ (k j : Nat) (g : Nat → Nat → Int32), j + k = 26 → (∀ q, q < j → g 64 q = g0 65 (26 * n + q)) → Off g0 g [64] →
    ∃ g', f_Y_undo_22 63 (nI j) (hS h g) = rI (nI n) (hS h g') ∧ (∀ q, q < 26 → g' 64 q = g0 65 (26 * n + q)) ∧ Off g0 g' [64]
  | 0, j, g, hk, h1, ho => by
    refine ⟨g, ?_, fun q hq => h1 q (by omega), ho⟩
    rw [e_Y_undo_22, L26, if_pos ((i_le (by omega) (by omega)).2 (by omega)), yI w, oo_v, ho 63 (by simp), h2]
  | k + 1, j, g, hk, h1, ho => by
    rw [e_Y_undo_22, L26, if_neg (fun e => absurd ((i_le (by omega) (by omega)).1 e) (by omega))]
    simp only [yR0 w, yR1 w, yI w, oo_v]
    rw [ho 63 (by simp), h2, i_mul, i_add, yA65 w (by omega), oo_v, if_pos (yB64 w (by omega)), i_w (by omega), ho 65 (by simp), L1, i_add]
    refine s_Yundo_22 w hn h2 k (j + 1) _ (by omega) (fun q hq => ?_) (Off.tr ho (s2_off (by simp)))
    by_cases hqp : q = j
    · subst hqp
      simp [s2_at]
    · have := h1 q (by omega)
      simp [s2_at, hqp, this]
theorem s_Yundo (w : WF h) (hz : ZOK z) (hy : YAt f z) : ∃ g, f_Y_undo 63 (hS h f) = rI (sUndo z).1 (hS h g) ∧ YAt g (sUndo z).2 ∧ YB f g := by
  obtain ⟨ha, hz2, hz3, hz4⟩ := id hz
  obtain ⟨y1, y2, y3, y4⟩ := id hy
  rw [e_Y_undo, yI w, oo_v, y2.1]
  unfold sUndo
  cases hl : (zH z).getLast? with
  | none =>
    have he : zH z = [] := List.getLast?_eq_none_iff.mp hl
    rw [if_pos (by rw [he]; rfl)]
    exact ⟨f, rfl, hy, YB.rf⟩
  | some a =>
    obtain ⟨l, he⟩ := List.getLast?_eq_some_iff.mp hl
    have hlen : (zH z).length = l.length + 1 := by rw [he, List.length_append]; rfl
    have hd : (zH z).dropLast = l := by rw [he]; exact List.dropLast_concat
    rw [if_neg (fun e => by have := (i_eq0 (by omega)).1 e; omega), oo_v, if_pos (yK w), i_f, L1, i_sub (by omega), L0]
    obtain ⟨g2, k1, k2, k3⟩ := s_Yundo_22 (g0 := s2 f 63 2 (nI ((zH z).length - 1))) (n := l.length) w (by omega) (by rw [s2_at, if_pos rfl, if_pos rfl, hlen, Nat.add_sub_cancel]) 26 0 _ (by omega) (fun _ hq => absurd hq (Nat.not_lt_zero _)) Off.rf
    have hk63 : ∀ j, j ≠ 2 → g2 63 j = f 63 j := fun j hj => by rw [k3 63 (by simp), s2_at, if_pos rfl, if_neg hj]
    rw [k1]
    refine ⟨g2, by rw [hlen, Nat.add_sub_cancel], ⟨?_, ⟨?_, fun i c hi => ?_⟩, YSn_of y3 (hk63 4 (by omega)) (by rw [k3 66 (by simp), s2_ne (by omega)]), YP_of y4 (hk63 6 (by omega)) (by rw [k3 67 (by simp), s2_ne (by omega)])⟩, fun k hk => by rw [k3 k (by simp; omega), s2_ne (by omega)]⟩
    · refine YSt_congr (y2.2 l.length a (by rw [he, List.getElem?_append_right (Nat.le_refl _), Nat.sub_self]; rfl)) fun j hj => ?_
      rw [k2 j hj, s2_ne (by omega)]
    · rw [k3 63 (by simp), s2_at, if_pos rfl, if_pos rfl]
      show _ = nI ((zH z).dropLast).length
      rw [hd, hlen, Nat.add_sub_cancel]
    · have hi : (zH z).dropLast[i]? = some c := hi
      rw [hd] at hi
      have hil : i < l.length := (List.getElem?_eq_some_iff.mp hi).1
      rw [k3 65 (by simp), s2_ne (by omega)]
      exact y2.2 i c (by rw [he, List.getElem?_append_left hil]; exact hi)
theorem s_Ysave_2 {g0 : Nat → Nat → Int32} {a : AS} (w : WF h) (ha : AOK a) (hs : YSt (g0 64) a) : ∀ (k j : Nat) (g : Nat → Nat → Int32), j + k = 26 → (∀ q, q < j → g 66 q = g0 64 q) → Off g0 g [66] →
    ∃ g', f_Y_save_2 63 (nI j) (hS h g) = rI (nI (rk (aB a) (aP a))) (hS h g') ∧ YSt (g' 66) a ∧ g' 63 4 = 1 ∧ Off g0 g' (66 :: yRows) ∧ ∀ j, j ≠ 10 → j ≠ 13 → j ≠ 4 → g' 63 j = g0 63 j
  | 0, j, g, hk, h1, ho => by
    have g64 : s2 g 63 4 1 64 = g0 64 := by rw [s2_ne (by omega), ho 64 (by simp)]
    obtain ⟨g1, e1, _, _, e4⟩ := s_YrankNow (f := s2 g 63 4 1) w ha (by rw [g64]; exact hs)
    refine ⟨g1, ?_, ?_, ?_, Off.tr (Off.mono ho (by simp)) (Off.tr (s2_off (by simp [yRows])) (Off.mono e4.1 (fun k hk => List.mem_cons_of_mem _ hk))), fun j h10 h13 h4 => by rw [e4.2 j h10 h13, s2_at, if_pos rfl, if_neg h4, ho 63 (by simp)]⟩
    · rw [e_Y_save_2, L26, if_pos ((i_le (by omega) (by omega)).2 (by omega)), if_pos ⟨yK w, Or.inr rfl⟩, i_f, if_pos (yK w), e1, cI_v]
    · rw [e4.at (by simp [yRows]), s2_ne (by omega)]
      exact YSt_congr hs (fun q hq => h1 q (by omega))
    · rw [e4.2 4 (by omega) (by omega), s2_at, if_pos rfl, if_pos rfl]
  | k + 1, j, g, hk, h1, ho => by
    rw [e_Y_save_2, L26, if_neg (fun e => absurd ((i_le (by omega) (by omega)).1 e) (by omega))]
    simp only [yR0 w, yR3 w, oo_v, yA64 w (show j < 26 by omega), yB66 w (show j < 26 by omega), if_true]
    rw [i_w (by omega), ho 64 (by simp), L1, i_add]
    refine s_Ysave_2 w ha hs k (j + 1) _ (by omega) (fun q hq => ?_) (Off.tr ho (s2_off (by simp)))
    by_cases hqp : q = j
    · subst hqp
      simp [s2_at]
    · have := h1 q (by omega)
      simp [s2_at, hqp, this]
theorem s_Ysave (w : WF h) (hz : ZOK z) (hy : YAt f z) : ∃ g, f_Y_save 63 (hS h f) = rI (sSave z).1 (hS h g) ∧ YAt g (sSave z).2 ∧ YB f g := by
  obtain ⟨g, e1, e2, e3, e4, e5⟩ := s_Ysave_2 (g0 := f) w hz.1 hy.1 26 0 f (by omega) (fun _ hq => absurd hq (Nat.not_lt_zero _)) Off.rf
  refine ⟨g, ?_, ⟨by rw [e4 64 (by decide)]; exact hy.1, YHt_of hy.2.1 (e5 2 (by omega) (by omega) (by omega)) (e4 65 (by decide)), ⟨e3, e2⟩, YP_of hy.2.2.2 (e5 6 (by omega) (by omega) (by omega)) (e4 67 (by decide))⟩, YB.of e4 (by decide)⟩
  rw [e_Y_save, L0, e1]
  rfl
theorem s_Yrest_16 {g0 : Nat → Nat → Int32} {a : AS} (w : WF h) (ha : AOK a) (hs : YSt (g0 66) a) : ∀ (k j : Nat) (g : Nat → Nat → Int32), j + k = 26 → (∀ q, q < j → g 64 q = g0 66 q) → Off g0 g [64] →
    ∃ g', f_Y_restore_16 63 (nI j) (hS h g) = rI (nI (rk (aB a) (aP a))) (hS h g') ∧ YSt (g' 64) a ∧ YD g0 g'
  | 0, j, g, hk, h1, ho => by
    have hs' : YSt (g 64) a := YSt_congr hs (fun q hq => h1 q (by omega))
    obtain ⟨g1, e1, _, _, e4⟩ := s_YrankNow w ha hs'
    refine ⟨g1, ?_, ?_, YD.tr (YD.of64 ho) (YD.of e4)⟩
    · rw [e_Y_restore_16, L26, if_pos ((i_le (by omega) (by omega)).2 (by omega)), if_pos (yK w), e1, cI_v]
    · rw [e4.at (by simp [yRows])]
      exact hs'
  | k + 1, j, g, hk, h1, ho => by
    rw [e_Y_restore_16, L26, if_neg (fun e => absurd ((i_le (by omega) (by omega)).1 e) (by omega))]
    simp only [yR0 w, yR3 w, oo_v, yA66 w (show j < 26 by omega), yB64 w (show j < 26 by omega), if_true]
    rw [i_w (by omega), ho 66 (by simp), L1, i_add]
    refine s_Yrest_16 w ha hs k (j + 1) _ (by omega) (fun q hq => ?_) (Off.tr ho (s2_off (by simp)))
    by_cases hqp : q = j
    · subst hqp
      simp [s2_at]
    · have := h1 q (by omega)
      simp [s2_at, hqp, this]
theorem s_Yrestore (w : WF h) (hz : ZOK z) (hy : YAt f z) : ∃ g, f_Y_restore 63 (hS h f) = rI (sRestore z).1 (hS h g) ∧ YAt g (sRestore z).2 ∧ YB f g := by
  obtain ⟨ha, hz2, hz3, hz4⟩ := id hz
  obtain ⟨y1, y2, y3, y4⟩ := id hy
  rw [e_Y_restore, yI w, oo_v]
  unfold sRestore
  unfold YSn at y3
  cases hsn : zS z with
  | none =>
    rw [hsn] at y3
    rw [if_pos y3]
    exact ⟨f, rfl, hy, YB.rf⟩
  | some a =>
    rw [hsn] at y3
    obtain ⟨g2, f1, f2, f3, f4⟩ := s_Yremembers w hy.1 hz4 hy.2.1
    obtain ⟨g3, k1, k2, k3⟩ := s_Yrest_16 (g0 := g2) w (hz3 a hsn) (by rw [f3 66 (by simp)]; exact y3.2) 26 0 g2 (by omega) (fun _ hq => absurd hq (Nat.not_lt_zero _)) Off.rf
    rw [if_neg (by rw [y3.1]; decide), if_pos (yK w), f1, cV_v, L0, k1]
    exact ⟨g3, rfl, YAt_does hy f2 f3 f4 k2 k3, YB.tr (YB.of f3 (by decide)) (YB.YD k3)⟩
end YTexts
