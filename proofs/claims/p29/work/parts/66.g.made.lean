/-! moves that are made, words that are set up -/
section Made
variable {z : ZS}
theorem y_moves {m : Nat} {h : pH} (hm : m < 19) (s : Sg h z) : ∃ h1, f_L_moves 0 (nI m) h = rI (if m < 7 ∧ rsn (aP (zA z)) (aS (zA z)) m = 0 then nI (10 + gap (aP (zA z)) m) else nI (rsn (aP (zA z)) (aS (zA z)) m)) h1 ∧ Sg h1 (chg z (mv (zA z) m)) := by
  rw [e_L_moves]
  by_cases h7 : m < 7
  · obtain ⟨h1, e1, s1⟩ := x_pull (nI m) s
    have hs : sPull z (nI m) = ((if rsn (aP (zA z)) (aS (zA z)) m = 0 then nI (10 + gap (aP (zA z)) m) else nI (rsn (aP (zA z)) (aS (zA z)) m)), chg z (mv (zA z) m)) := by
      unfold sPull
      rw [if_pos (inb_of h7 (by omega))]
      simp only [cl, i_clamp (show m < 2147483648 by omega)]
    rw [hs] at e1 s1
    refine ⟨h1, ?_, s1⟩
    rw [if_neg (by rw [L7, i_le (by omega) (by omega)]; omega), if_pos (kO7 s), e1, cI_v]
    simp only [h7, true_and]
  · have hq : (nI m - (7 : Int32)) - (nI m - (7 : Int32)) / (6 : Int32) * (6 : Int32) = nI ((m - 7) % 6) := by
      rw [L7, L6, i_sub (by omega), i_div (by omega) (by omega), i_mul, i_sub (Nat.div_mul_le_self _ _)]
      congr 1
      have := Nat.div_add_mod (m - 7) 6
      rw [Nat.mul_comm] at this
      omega
    have hc : ((m - 7) % 6) < 6 := Nat.mod_lt _ (by omega)
    rw [if_pos (by rw [L7, i_le (by omega) (by omega)]; omega), if_neg (by decide), hq]
    have hs : ∀ y : Int32, sPush z (nI ((m - 7) % 6)) y = (nI (rsn (aP (zA z)) (aS (zA z)) ((if y = 0 then 13 else 7) + (m - 7) % 6)), chg z (mv (zA z) ((if y = 0 then 13 else 7) + (m - 7) % 6))) := fun y => by
      unfold sPush
      rw [if_pos (inb_of hc (by omega))]
      simp only [cl, i_clamp (show (m - 7) % 6 < 2147483648 by omega)]
    by_cases h13 : m < 13
    · obtain ⟨h1, e1, s1⟩ := x_push (nI ((m - 7) % 6)) 1 s
      rw [hs, if_neg (by decide), show 7 + (m - 7) % 6 = m by omega] at e1 s1
      refine ⟨h1, ?_, s1⟩
      rw [if_neg (by rw [L13, i_le (by omega) (by omega)]; omega), if_pos (kO7 s), e1, cI_v, if_neg (fun q => h7 q.1)]
    · obtain ⟨h1, e1, s1⟩ := x_push (nI ((m - 7) % 6)) 0 s
      rw [hs, if_pos rfl, show 13 + (m - 7) % 6 = m by omega] at e1 s1
      refine ⟨h1, ?_, s1⟩
      rw [if_pos (by rw [L13, i_le (by omega) (by omega)]; omega), if_pos (kO7 s), e1, cI_v, if_neg (fun q => h7 q.1)]
theorem mv_yes {a : AS} {m : Nat} (h0 : rsn (aP a) (aS a) m = 0) : mv a m = ((aft (aP a) m, aB a, aS a, aF a, aC a), aL a, aO a, aM a + 1, aE a + nI (prc (aO a) (aP a) m), aR a) := by
  unfold mv
  rw [if_pos h0]
theorem mv_no {a : AS} {m : Nat} (h0 : ¬ rsn (aP a) (aS a) m = 0) : mv a m = ((aP a, aB a, aS a, aF a, aC a), aL a, aO a, aM a, aE a, aR a + 1) := by
  unfold mv
  rw [if_neg h0]
theorem s_isMade {m : Nat} {h : pH} (hm : m < 19) (s : Sg h z) : ∃ h1 z', f_L_isMade 0 (nI m) h = rI 1 h1 ∧ Sg h1 z' := by
  have ha := s.2.1.1
  have hb := ha.2.1
  have hrs := rsn_lt (aP (zA z)) (aS (zA z)) m
  obtain ⟨h1, e1, s1⟩ := y_why hm s
  obtain ⟨h2, e2, s2⟩ := y_cost hm s1
  obtain ⟨h3, e3, s3⟩ := y_leads hm s2
  have key : ∀ (t : Int32) (h : pH), Sg h z → (m < 7 → rsn (aP (zA z)) (aS (zA z)) m = 0 → t = nI (gap (aP (zA z)) m)) → ∃ h1 z', f_L_isMade_35 0 (nI m) (nI (rsn (aP (zA z)) (aS (zA z)) m)) (if rsn (aP (zA z)) (aS (zA z)) m = 0 then nI (prc (aO (zA z)) (aP (zA z)) m) else -2) (if rsn (aP (zA z)) (aS (zA z)) m = 0 then nI (rk (aB (zA z)) (aft (aP (zA z)) m)) else -2) t h = rI 1 h1 ∧ Sg h1 z' := by
    intro t h s ht
    obtain ⟨h4, e4, s4⟩ := x_count 8 s
    obtain ⟨h5, e5, s5⟩ := x_count 9 s4
    obtain ⟨h6, e6, s6⟩ := x_count 10 s5
    obtain ⟨h7, e7, s7⟩ := x_count 5 s6
    obtain ⟨h8, e8, s8⟩ := y_moves hm s7
    obtain ⟨h9, e9, s9⟩ := x_count 8 s8
    obtain ⟨h10, e10, s10⟩ := x_count 9 s9
    obtain ⟨h11, e11, s11⟩ := x_count 10 s10
    obtain ⟨h12, e12, s12⟩ := x_count 5 s11
    rw [e_L_isMade_35, if_pos (kO7 s), e4, cI_v, ct_8, if_pos (kO7 s4), e5, cI_v, ct_9, if_pos (kO7 s5), e6, cI_v, ct_10, if_pos (kO7 s6), e7, cI_v, ct_5, e8, cI_v]
    rw [ct_8] at e9
    rw [ct_9] at e10
    rw [ct_10] at e11
    rw [ct_5] at e12
    have hz : ∀ a, zA (chg z a) = a := fun a => rfl
    rw [hz] at e9 e10 e11 e12
    refine ⟨h12, _, ?_, s12⟩
    by_cases h0 : rsn (aP (zA z)) (aS (zA z)) m = 0
    · rw [mv_yes h0] at e9 e10 e11 e12
      have fin : ∀ t1 : Int32, (if m < 7 ∧ rsn (aP (zA z)) (aS (zA z)) m = 0 then nI (10 + gap (aP (zA z)) m) else nI (rsn (aP (zA z)) (aS (zA z)) m)) = t1 → f_L_isMade_153 0 (nI (prc (aO (zA z)) (aP (zA z)) m)) (nI (rk (aB (zA z)) (aft (aP (zA z)) m))) (aM (zA z)) (aE (zA z)) (aR (zA z)) (if m < 7 ∧ rsn (aP (zA z)) (aS (zA z)) m = 0 then nI (10 + gap (aP (zA z)) m) else nI (rsn (aP (zA z)) (aS (zA z)) m)) t1 h8 = rI 1 h12 := by
        rintro t1 rfl
        rw [e_L_isMade_153, if_pos rfl, if_pos (kO7 s8), e9, cI_v, if_pos rfl, if_pos (kO7 s9), e10, cI_v, if_pos rfl, if_pos (kO7 s10), e11, cI_v, if_pos rfl, if_pos (kO7 s11), e12, cI_v, if_pos rfl]
      rw [if_pos (show nI (rsn (aP (zA z)) (aS (zA z)) m) ≤ 0 by rw [h0]; decide), if_pos h0, if_pos h0]
      by_cases h7 : m < 7
      · rw [if_neg (by rw [L7, i_le (by omega) (by omega)]; omega), ht h7 h0, show (10 : Int32) = nI 10 from rfl, i_add]
        exact fin _ (if_pos ⟨h7, h0⟩)
      · rw [if_pos (by rw [L7, i_le (by omega) (by omega)]; omega)]
        exact fin _ (by rw [if_neg (fun q => h7 q.1), h0]; rfl)
    · rw [mv_no h0] at e9 e10 e11 e12
      rw [if_neg (show ¬ nI (rsn (aP (zA z)) (aS (zA z)) m) ≤ 0 by rw [L0, i_le (by omega) (by omega)]; omega), if_neg (show ¬ (m < 7 ∧ rsn (aP (zA z)) (aS (zA z)) m = 0) from fun q => h0 q.2), if_pos rfl, if_pos (kO7 s8), e9, cI_v, if_pos rfl, if_pos (kO7 s9), e10, cI_v, if_pos rfl, if_pos (kO7 s10), e11, cI_v, if_pos rfl, if_pos (kO7 s11), e12, cI_v, if_pos rfl]
  rw [e_L_isMade, if_pos (kO7 s), e1, cI_v, if_pos (kO7 s1), e2, cI_v, if_pos (kO7 s2), e3, cI_v]
  by_cases h7 : m < 7
  · obtain ⟨h4, e4, s4⟩ := y_at3 h7 s3
    rw [if_neg (by rw [L7, i_le (by omega) (by omega)]; omega), if_pos (kO7 s3), e4, cI_v]
    exact key _ h4 s4 fun _ h0 => if_neg (rsn_pull h7 h0).1
  · rw [if_pos (by rw [L7, i_le (by omega) (by omega)]; omega)]
    exact key _ h3 s3 fun q => absurd q h7
end Made
/-! a word spelt on the pad -/
def spw (a : AS) (P q : Nat) : Nat := if sl P q = 0 then 46 else aL a (sl P q) + 97
theorem cnt_up {g : Nat → Bool} {k : Nat} : ∀ n, k ≤ n → cnt g k ≤ cnt g n
  | 0, h => by
    obtain rfl : k = 0 := by omega
    exact Nat.le_refl _
  | n + 1, h => by
    by_cases hk : k = n + 1
    · rw [hk]; exact Nat.le_refl _
    · have := cnt_up (g := g) (k := k) n (by omega)
      show cnt g k ≤ cnt g n + (g n).toNat
      omega
theorem gaps_7 {b P : Nat} (hv : VW b P) : cnt (fun q => decide (sl P q = 0)) 7 + b = 7 := by
  have h1 := bk_7 hv
  have h2 : ∀ n, cnt (fun q => decide (sl P q = 0)) n + sm (fun p => if sl P p = 0 then 0 else 1) n = n := fun n => by
    induction n with
    | zero => rfl
    | succ n ih =>
      show cnt (fun q => decide (sl P q = 0)) n + (decide (sl P n = 0)).toNat + (sm (fun p => if sl P p = 0 then 0 else 1) n + (if sl P n = 0 then 0 else 1)) = n + 1
      by_cases h0 : sl P n = 0
      · rw [decide_eq_true h0, if_pos h0]
        show cnt (fun q => decide (sl P q = 0)) n + 1 + (sm (fun p => if sl P p = 0 then 0 else 1) n + 0) = n + 1
        omega
      · rw [decide_eq_false h0, if_neg h0]
        show cnt (fun q => decide (sl P q = 0)) n + 0 + (sm (fun p => if sl P p = 0 then 0 else 1) n + 1) = n + 1
        omega
  have := h2 7
  rw [h1] at this
  exact this
theorem aL_inj {a : AS} (ha : AOK a) {s t : Nat} (s1 : 1 ≤ s) (s2 : s ≤ aB a) (t1 : 1 ≤ t) (t2 : t ≤ aB a) (e : aL a s = aL a t) : s = t := by
  rcases Nat.lt_trichotomy s t with h | h | h
  · have := ha.2.2.2.2.2.2.2 s t s1 h t2
    omega
  · exact h
  · have := ha.2.2.2.2.2.2.2 t s t1 h s2
    omega
theorem wf_spell {a : AS} {P : Nat} {l : Nat → Nat} (ha : AOK a) (hv : VW (aB a) P) (hl : ∀ q, q < 7 → l q = spw a P q) : wfR a 7 l = -4 ∧ rdL a l 7 0 0 = P := by
  have hb := ha.2.1
  have h46 : ∀ q, q < 7 → (l q = 46 ↔ sl P q = 0) := fun q hq => by
    rw [hl q hq]
    unfold spw
    by_cases h0 : sl P q = 0
    · rw [if_pos h0]; exact ⟨fun _ => h0, fun _ => rfl⟩
    · rw [if_neg h0]; exact ⟨fun e => by omega, fun e => absurd e h0⟩
  have hs : ∀ q, q < 7 → sgn a (l q) = sl P q := fun q hq => by
    by_cases h0 : sl P q = 0
    · rw [(h46 q hq).2 h0, sgn_46 ha, h0]
    · have hsb := hv.2.1 q hq
      have h26 := (ha.2.2.2.2.2.2.1 (sl P q) (by omega) hsb).1
      have e : l q = aL a (sl P q) + 97 := by
        rw [hl q hq]
        exact if_neg h0
      rcases sgn_spec (c := l q) (by omega) ha with ⟨_, h1⟩ | ⟨h1, h2, h3⟩
      · exact absurd e.symm (h1 (sl P q) (by omega) hsb)
      · exact aL_inj ha h1 h2 (by omega) hsb (by omega)
  have hd : dts l 7 + aB a = 7 := by
    have e : dts l 7 = cnt (fun q => decide (sl P q = 0)) 7 := cnt_congr (g := fun q => decide (l q = 46)) (g' := fun q => decide (sl P q = 0)) 7 fun q hq => by
      show decide (l q = 46) = decide (sl P q = 0)
      by_cases h0 : sl P q = 0
      · rw [decide_eq_true h0, decide_eq_true ((h46 q hq).2 h0)]
      · rw [decide_eq_false h0, decide_eq_false (fun e => h0 ((h46 q hq).1 e))]
    rw [e]
    exact gaps_7 hv
  have hu : ∀ s, 1 ≤ s → s ≤ aB a → uss a l s 7 = 1 := fun s s1 s2 => by
    rw [← hv.2.2 s s1 s2]
    exact cnt_congr 7 fun q hq => by
      rw [hs q hq]
      by_cases h0 : sl P q = 0
      · rw [decide_eq_true ((h46 q hq).2 h0), h0]
        have : ¬ (0 : Nat) = s := by omega
        simp [this]
      · rw [decide_eq_false (fun e => h0 ((h46 q hq).1 e))]
        by_cases h1 : sl P q = s
        · rw [h1]; simp
        · rw [decide_eq_false h1]; simp [h1]
  have key : ∀ (j k G S : Nat), k + j = 7 → Wk7 a l k G S → wfL a 7 l j k G S = -4 := by
    intro j
    induction j with
    | zero =>
      intro k G S hk hw
      unfold wfL
      rw [if_pos (Nat.le_refl 7)]
    | succ j ih =>
      intro k G S hk hw
      have hk7 : k < 7 := by omega
      unfold wfL
      by_cases h0 : sl P k = 0
      · have hlk := (h46 k hk7).2 h0
        have hG : G ≠ 0 := by
          have h1 := hw.1
          have h2 : dts l (k + 1) = dts l k + (decide (l k = 46)).toNat := rfl
          have h3 : dts l (k + 1) ≤ dts l 7 := cnt_up 7 (by omega)
          rw [h2, decide_eq_true hlk] at h3
          have h3 : dts l k + 1 ≤ dts l 7 := h3
          omega
        rw [if_pos hlk, if_neg hG]
        exact ih (k + 1) (G - 1) S (by omega) (Wk7_dot hw hlk hG)
      · have hlk : l k ≠ 46 := fun e => h0 ((h46 k hk7).1 e)
        have hsb := hv.2.1 k hk7
        have hS : S.testBit (sgn a (l k)) = true := by
          rw [hw.2.2.1, hs k hk7]
          refine decide_eq_true ⟨by omega, hsb, ?_⟩
          have h1 := hu (sl P k) (by omega) hsb
          have h2 : uss a l (sl P k) (k + 1) = uss a l (sl P k) k + (!decide (l k = 46) && decide (sgn a (l k) = sl P k)).toNat := rfl
          have h3 : uss a l (sl P k) (k + 1) ≤ uss a l (sl P k) 7 := cnt_up 7 (by omega)
          rw [h2, decide_eq_false hlk, decide_eq_true (hs k hk7)] at h3
          have h3 : uss a l (sl P k) k + 1 ≤ uss a l (sl P k) 7 := h3
          omega
        rw [if_neg hlk, if_pos hS]
        exact ih (k + 1) G _ (by omega) (Wk7_let ha hw hlk hS)
  refine ⟨key 7 0 _ _ rfl (Wk7_0 ha), ?_⟩
  obtain ⟨r1, r2⟩ := rdL_sl (a := a) (l := l) hb 7 0 0 (by omega) (by omega)
  refine sl_ext r1 hv.1 (fun q hq => ?_)
  rw [r2 q hq, if_pos (Nat.zero_le _)]
  exact hs q hq
section Arr
theorem s_arr_29 {a : AS} {r : Nat} (hr : r < wds (aB a)) : ∀ (k p : Nat) (x5 : Int32) (z : ZS) (h : pH), p + k = 7 → Sg h z → zA z = a → zN z = p → (∀ q, q < p → zL z q = spw a (wd (aB a) r) q) → (p = 0 ∨ x5 = nI p) →
    ∃ h1 z', f_L_isArranged_29 0 (nI r) (aM a) (nI (smw (aO a) (aB a))) (nI (pop (aS a))) x5 (nI p) h = rI 1 h1 ∧ Sg h1 z'
  | 0, p, x5, z, h, hp, s, hA, hN, hL, hx => by
    obtain rfl : p = 7 := by omega
    have ha := s.2.1.1
    rw [hA] at ha
    have hb := ha.2.1
    have hw := wds_lt hb
    obtain ⟨w1, w2⟩ := wf_spell ha (wd_VW hb hr) hL
    obtain ⟨h1, e1, s1⟩ := x_fault 1 s
    obtain ⟨h2, e2, s2⟩ := x_arrange s1
    have f1 : (sFault z 1).1 = -4 := by
      show wfR (zA z) (zN z) (zL z) = -4
      rw [hA, hN]
      exact w1
    have f2 : sArrange z = (nI r, (wth a (wd (aB a) r), kept (zH z) a, zS z, 0, zL z)) := by
      unfold sArrange
      rw [hA, hN, if_pos w1, w2, rk_wd hb hr]
    rw [f1] at e1
    rw [f2] at e2 s2
    obtain ⟨h3, e3, s3⟩ := x_count 5 s2
    obtain ⟨h4, e4, s4⟩ := x_count 8 s3
    obtain ⟨h5, e5, s5⟩ := x_count 2 s4
    obtain ⟨h6, e6, s6⟩ := x_count 1 s5
    obtain ⟨h7, e7, s7⟩ := x_count 14 s6
    have e3 : f_X_count 0 5 h2 = rI (nI r) h3 := by
      rw [e3, ct_5]
      show rI (nI (rk (aB a) (wd (aB a) r))) h3 = _
      rw [rk_wd hb hr]
    have e4 : f_X_count 0 8 h3 = rI (aM a) h4 := e4
    have e5 : f_X_count 0 2 h4 = rI (nI (smw (aO a) (aB a))) h5 := e5
    have e6 : f_X_count 0 1 h5 = rI (nI (pop (aS a))) h6 := e6
    have e7 : f_X_count 0 14 h6 = rI (nI 0) h7 := e7
    refine ⟨h7, _, ?_, s7⟩
    rw [e_L_isArranged_29, if_pos (by decide), if_pos (by rcases hx with hx | hx; omega; exact hx), if_pos (kO7 s), e1, cI_v, if_pos rfl, if_pos (kO7 s1), e2, cI_v, if_pos rfl, if_pos (kO7 s2), e3, cI_v, if_pos rfl, if_pos (kO7 s3), e4, cI_v, if_pos rfl, if_pos (kO7 s4), e5, cI_v, if_pos rfl, if_pos (kO7 s5), e6, cI_v, if_pos rfl, if_pos (kO7 s6), e7, cI_v, if_pos (show nI 0 = 0 from rfl)]
  | k + 1, p, x5, z, h, hp, s, hA, hN, hL, hx => by
    have ha := s.2.1.1
    rw [hA] at ha
    have hb := ha.2.1
    have hw := wds_lt hb
    have hv := wd_VW hb hr
    obtain ⟨h1, e1, s1⟩ := x_word (nI r) (nI p) s
    have hs : (sWord z (nI r) (nI p)).1 = if sl (wd (aB a) r) p = 0 then -4 else nI (aL a (sl (wd (aB a) r) p)) := by
      show (if inb (nI r) (wds (aB (zA z))) = true ∧ inb (nI p) 7 = true then _ else _) = _
      rw [hA, if_pos ⟨inb_of hr (by omega), inb_of (by omega) (by omega)⟩]
      simp only [cl, i_clamp (show r < 2147483648 by omega), i_clamp (show p < 2147483648 by omega)]
    rw [hs] at e1
    rw [e_L_isArranged_29, if_neg (by rw [L7, i_le (by omega) (by omega)]; omega), if_pos (kO7 s), e1, cI_v]
    have hap : ∀ c, 33 ≤ c → c ≤ 126 → sAppend z (nI c) = (nI (p + 1), (a, zH z, zS z, p + 1, fun i => if i = p then c else zL z i)) := fun c c1 c2 => by
      unfold sAppend
      rw [if_pos ⟨by rw [show (33 : Int32) = nI 33 from rfl, i_lt (by omega) (by omega)]; omega, by rw [show (126 : Int32) = nI 126 from rfl, i_le (by omega) (by omega)]; exact c2⟩, hN, if_pos (by omega), hA]
      simp only [cl, i_clamp (show c < 2147483648 by omega)]
    have nx : ∀ c, 33 ≤ c → c ≤ 126 → c = spw a (wd (aB a) r) p → ∃ h2, f_X_append 0 (nI c) h1 = rI (nI (p + 1)) h2 ∧ ∃ h3 z', f_L_isArranged_29 0 (nI r) (aM a) (nI (smw (aO a) (aB a))) (nI (pop (aS a))) (nI (p + 1)) (nI (p + 1)) h2 = rI 1 h3 ∧ Sg h3 z' := fun c c1 c2 c3 => by
      obtain ⟨h2, e2, s2⟩ := x_append (nI c) s1
      rw [hap c c1 c2] at e2 s2
      refine ⟨h2, e2, ?_⟩
      refine s_arr_29 hr k (p + 1) (nI (p + 1)) _ h2 (by omega) s2 rfl rfl (fun q hq => ?_) (Or.inr rfl)
      show (if q = p then c else zL z q) = _
      by_cases hqp : q = p
      · rw [if_pos hqp, hqp]; exact c3
      · rw [if_neg hqp]; exact hL q (by omega)
    by_cases h0 : sl (wd (aB a) r) p = 0
    · obtain ⟨h2, e2, h3, z', e3, s3⟩ := nx 46 (by omega) (by omega) (if_pos h0).symm
      refine ⟨h3, z', ?_, s3⟩
      rw [if_pos h0, if_pos rfl, if_pos (kO7 s1), L46, e2, cI_v, i_suc]
      exact e3
    · have h26 := (ha.2.2.2.2.2.2.1 (sl (wd (aB a) r) p) (by omega) (hv.2.1 p (by omega))).1
      obtain ⟨h2, e2, h3, z', e3, s3⟩ := nx (aL a (sl (wd (aB a) r) p) + 97) (by omega) (by omega) (if_neg h0).symm
      refine ⟨h3, z', ?_, s3⟩
      rw [if_neg h0, if_neg (i_neg (Or.inl rfl) (by omega)), if_pos (kO7 s1), show (97 : Int32) = nI 97 from rfl, i_add, Nat.add_comm 97, e2, cI_v, i_suc]
      exact e3
theorem s_isArranged {z : ZS} {r : Nat} {h : pH} (hr : r < wds (aB (zA z))) (s : Sg h z) : ∃ h1 z', f_L_isArranged 0 (nI r) h = rI 1 h1 ∧ Sg h1 z' := by
  obtain ⟨h1, e1, s1⟩ := x_count 8 s
  obtain ⟨h2, e2, s2⟩ := x_count 2 s1
  obtain ⟨h3, e3, s3⟩ := x_count 1 s2
  obtain ⟨h4, e4, s4⟩ := x_clear s3
  rw [e_L_isArranged, if_pos (kO7 s), e1, cI_v, ct_8, if_pos (kO7 s1), e2, cI_v, ct_2, if_pos (kO7 s2), e3, cI_v, ct_1, if_pos (kO7 s3), e4, cI_v]
  exact s_arr_29 hr 7 0 _ _ h4 rfl s4 rfl rfl (fun q hq => by omega) (Or.inl rfl)
end Arr
