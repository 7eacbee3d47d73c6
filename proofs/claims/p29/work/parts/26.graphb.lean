/-! the steps into each word, shared out and drawn -/
theorem t1b (b i : Nat) : (1 <<< b).testBit i = decide (b = i) := by rw [Nat.one_shiftLeft, Nat.testBit_two_pow]
section GraphB
variable {h : pH} {b : Nat}
theorem st0_lt {r : Nat} (hb : b < 6) (hr : r ≤ wds b) : fn b * 19 + st0 b r ≤ 68780 := by
  have := st0_le (b := b) hr
  have := fn_le hb
  omega
theorem s_share (w : WF h) (hb : b < 6) {f : Nat → Nat → Int32} (hf : ∀ r, r < wds b → f 46 (fn b + r) = nI (cN b r (19 * wds b))) : ∀ (k r : Nat) (g : Nat → Nat → Int32), r + k = wds b →
    (∀ r', r' < r → g 44 (fn b + r') = nI (fn b * 19 + st0 b r') ∧ g 46 (fn b + r') = nI (fn b * 19 + st0 b r')) → (∀ r', r ≤ r' → r' < wds b → g 46 (fn b + r') = f 46 (fn b + r')) → (∀ k', k' ≠ 44 → k' ≠ 46 → g k' = f k') → OffR b f g →
    ∃ g', f_G_shareOut_8 36 (nI (fn b + wds b)) (nI (fn b * 19 + st0 b r)) (nI (fn b + r)) (hS h g) = rV (hS h g') ∧ (∀ r', r' < wds b → g' 44 (fn b + r') = nI (fn b * 19 + st0 b r') ∧ g' 46 (fn b + r') = nI (fn b * 19 + st0 b r')) ∧ (∀ k', k' ≠ 44 → k' ≠ 46 → g' k' = f k') ∧ OffR b f g'
  | 0, r, g, hr, h1, h2, h3, h4 => by
    have hle := fn_le hb
    obtain rfl : r = wds b := by omega
    refine ⟨g, ?_, h1, h3, h4⟩
    rw [e_G_shareOut_8, if_pos (by rw [i_le (by omega) (by omega)]; exact Nat.le_refl _)]
  | k + 1, r, g, hr, h1, h2, h3, h4 => by
    have hle := fn_le hb
    have hst := st0_lt hb (show r ≤ wds b by omega)
    rw [e_G_shareOut_8, if_neg (by rw [i_le (by omega) (by omega)]; omega)]
    simp only [oo_v, hR_S, hR_W w K36 (by omega) (show R0 36 4 = some 45 from rfl), hR_W w K36 (by omega) (show R0 36 3 = some 43 from rfl), kO_S, kO_W w RW45.1, kO_W w RW43.1, if_true, s_get (WF_S w) RW45 (show fn b + r < 3620 by omega), cI_v, hS_2, s_put (WF_S w) RW43 (show fn b + r < 3620 by omega), cV_v, hS_S, s_put (WF_S w) RW45 (show fn b + r < 3620 by omega), L1, i_add, h2 r (Nat.le_refl _) (by omega), hf r (by omega)]
    have hR1 : Rg b 44 (fn b + r) := Or.inl ⟨Or.inr (Or.inl rfl), by omega, by omega⟩
    have hR2 : Rg b 46 (fn b + r) := Or.inl ⟨Or.inr (Or.inr rfl), by omega, by omega⟩
    rw [show fn b * 19 + st0 b r + cN b r (19 * wds b) = fn b * 19 + st0 b (r + 1) from by rw [st0_succ]; omega, show fn b + r + 1 = fn b + (r + 1) by omega]
    refine s_share w hb hf k (r + 1) (s2 (s2 g 44 (fn b + r) (nI (fn b * 19 + st0 b r))) 46 (fn b + r) (nI (fn b * 19 + st0 b r))) (by omega) (fun r' hr' => ?_) (fun r' h5 h6 => ?_) (fun k' h5 h6 => ?_) (OffR.tr h4 (OffR.tr (s2_offR hR1) (s2_offR hR2)))
    · by_cases hrr : r' = r
      · subst hrr
        exact ⟨by simp [s2_at], by simp [s2_at]⟩
      · have h7 := h1 r' (by omega)
        exact ⟨by simp [s2_at, hrr, h7.1], by simp [s2_at, hrr, h7.2]⟩
    · have hrr : r' ≠ r := by omega
      have h7 := h2 r' (by omega) h6
      simp [s2_at, hrr, h7]
    · funext j
      rw [s2_at, if_neg h6, s2_at, if_neg h5, h3 k' h5 h6]
theorem cN_lt {r i : Nat} (hi : i < 19 * wds b) (hT : T b i = some r) : cN b r i < cN b r (19 * wds b) := by
  have h1 := cN_mono (b := b) (r := r) (show i + 1 ≤ 19 * wds b by omega)
  rw [cN_succ, decide_eq_true hT] at h1
  exact h1
/-- the first i steps stand in the rows of their ends -/
def In (f : Nat → Nat → Int32) (b i : Nat) : Prop :=
  (∀ r, r < wds b → f 46 (fn b + r) = nI (fn b * 19 + st0 b r + cN b r i)) ∧
  (∀ r q, r < wds b → q < cN b r i → ∃ j, j < i ∧ T b j = some r ∧ f 42 (fn b * 19 + st0 b r + q) = nI (fn b * 19 + j)) ∧
  (∀ r j, r < wds b → j < i → T b j = some r → ∃ q, q < cN b r i ∧ f 42 (fn b * 19 + st0 b r + q) = nI (fn b * 19 + j))
theorem st0_apart {r r' q q' : Nat} (h1 : q < cN b r (19 * wds b)) (h2 : q' < cN b r' (19 * wds b)) (hne : r ≠ r') : st0 b r + q ≠ st0 b r' + q' := by
  rcases Nat.lt_or_gt_of_ne hne with h | h
  · have h3 : st0 b (r + 1) ≤ st0 b r' := sm_mono h
    rw [st0_succ] at h3
    omega
  · have h3 : st0 b (r' + 1) ≤ st0 b r := sm_mono h
    rw [st0_succ] at h3
    omega
theorem s_into (w : WF h) (hb : b < 6) {f : Nat → Nat → Int32} (hf : ∀ i, i < 19 * wds b → f 40 (fn b * 19 + i) = match T b i with
    | some r => nI (fn b + r)
    | none => -1) : ∀ (k i : Nat) (g : Nat → Nat → Int32), i + k = 19 * wds b → In g b i → (∀ k', k' ≠ 42 → k' ≠ 46 → g k' = f k') → OffR b f g →
    ∃ g', f_G_drawInto_5 36 (nI (fn b + wds b)) (nI (fn b * 19 + i)) (hS h g) = rV (hS h g') ∧ In g' b (19 * wds b) ∧ (∀ k', k' ≠ 42 → k' ≠ 46 → g' k' = f k') ∧ OffR b f g'
  | 0, i, g, hi, h1, h2, h3 => by
    have hle := fn_le hb
    obtain rfl : i = 19 * wds b := by omega
    refine ⟨g, ?_, h1, h2, h3⟩
    rw [e_G_drawInto_5, L19, i_mul, if_pos (by rw [i_le (by omega) (by omega)]; omega)]
  | k + 1, i, g, hi, h1, h2, h3 => by
    have hle := fn_le hb
    obtain ⟨d1, d2, d3⟩ := h1
    have g40 : g 40 (fn b * 19 + i) = match T b i with
        | some r => nI (fn b + r)
        | none => -1 := by rw [h2 40 (by omega) (by omega)]; exact hf i (by omega)
    rw [e_G_drawInto_5, L19, i_mul, if_neg (by rw [i_le (by omega) (by omega)]; omega)]
    simp only [oo_v, hR_S, hR_W w K36 (by omega) (show R0 36 1 = some 39 from rfl), kO_S, kO_W w RW39.1, if_true, s_get (WF_S w) RW39 (show fn b * 19 + i < 68780 by omega), cI_v, hS_2]
    rw [show g (39 + 1) (fn b * 19 + i) = _ from g40]
    cases hT : T b i with
    | none =>
      have nx : ∀ r, cN b r (i + 1) = cN b r i := fun r => by
        rw [cN_succ, hT, decide_eq_false (by simp)]
        rfl
      rw [if_pos (by rfl), L1, i_add]
      refine s_into w hb hf k (i + 1) g (by omega) ⟨fun r hr => by rw [nx]; exact d1 r hr, fun r q hr hq => ?_, fun r j hr hj hTj => ?_⟩ h2 h3
      · obtain ⟨j, e1, e2⟩ := d2 r q hr (by rw [nx] at hq; exact hq)
        exact ⟨j, by omega, e2⟩
      · have hji : j ≠ i := fun e => by rw [e, hT] at hTj; cases hTj
        obtain ⟨q, e1, e2⟩ := d3 r j hr (by omega) hTj
        exact ⟨q, by rw [nx]; exact e1, e2⟩
    | some r0 =>
      have hr0 := T_lt hb (show i < 19 * wds b by omega) hT
      have hlt := cN_lt (show i < 19 * wds b by omega) hT
      have hst : st0 b (r0 + 1) ≤ 19 * wds b := st0_le hr0
      rw [st0_succ] at hst
      have hne : nI (fn b + r0) ≠ -1 := fun e => by
        have := congrArg Int32.toInt e
        rw [i_toInt (by omega)] at this
        have h9 : Int32.toInt (-1) = -1 := by decide
        omega
      rw [if_neg hne]
      simp only [oo_v, hR_S, hR_W w K36 (by omega) (show R0 36 2 = some 41 from rfl), hR_W w K36 (by omega) (show R0 36 4 = some 45 from rfl), kO_S, kO_W w RW41.1, kO_W w RW45.1, if_true, s_get (WF_S w) RW45 (show fn b + r0 < 3620 by omega), cI_v, hS_2, d1 r0 hr0, s_put (WF_S w) RW41 (show fn b * 19 + st0 b r0 + cN b r0 i < 68780 by omega), cV_v, hS_S, show s2 g (41 + 1) (fn b * 19 + st0 b r0 + cN b r0 i) (nI (fn b * 19 + i)) (45 + 1) (fn b + r0) = nI (fn b * 19 + st0 b r0 + cN b r0 i) from d1 r0 hr0, s_put (WF_S w) RW45 (show fn b + r0 < 3620 by omega), L1, i_add]
      have hR1 : Rg b 42 (fn b * 19 + st0 b r0 + cN b r0 i) := Or.inr ⟨Or.inr rfl, by omega, by omega⟩
      have hR2 : Rg b 46 (fn b + r0) := Or.inl ⟨Or.inr (Or.inr rfl), by omega, by omega⟩
      have nx0 : cN b r0 (i + 1) = cN b r0 i + 1 := by rw [cN_succ, decide_eq_true hT]; rfl
      have nx : ∀ r, r ≠ r0 → cN b r (i + 1) = cN b r i := fun r hr => by
        rw [cN_succ, hT, decide_eq_false (fun q => hr (Option.some.inj q).symm)]
        rfl
      refine s_into w hb hf k (i + 1) (s2 (s2 g 42 (fn b * 19 + st0 b r0 + cN b r0 i) (nI (fn b * 19 + i))) 46 (fn b + r0) (nI (fn b * 19 + st0 b r0 + cN b r0 i + 1))) (by omega) ⟨fun r hr => ?_, fun r q hr hq => ?_, fun r j hr hj hTj => ?_⟩ (fun k' h5 h6 => ?_) (OffR.tr h3 (OffR.tr (s2_offR hR1) (s2_offR hR2)))
      · by_cases hrr : r = r0
        · subst hrr
          rw [nx0]
          simp [s2_at]
          rfl
        · rw [nx r hrr]
          have := d1 r hr
          simp [s2_at, hrr, this]
      · by_cases hrr : r = r0
        · subst hrr
          rw [nx0] at hq
          by_cases hqq : q = cN b r i
          · subst hqq
            exact ⟨i, by omega, hT, by simp [s2_at]⟩
          · obtain ⟨j, e1, e2, e3⟩ := d2 r q hr (by omega)
            refine ⟨j, by omega, e2, ?_⟩
            rw [s2_at, if_neg (by omega), s2_at, if_pos rfl, if_neg (by omega)]
            exact e3
        · rw [nx r hrr] at hq
          obtain ⟨j, e1, e2, e3⟩ := d2 r q hr hq
          refine ⟨j, by omega, e2, ?_⟩
          have hq2 : q < cN b r (19 * wds b) := Nat.lt_of_lt_of_le hq (cN_mono (by omega))
          have hap := st0_apart hq2 hlt hrr
          rw [s2_at, if_neg (by omega), s2_at, if_pos rfl, if_neg (by omega)]
          exact e3
      · by_cases hji : j = i
        · subst hji
          have : r = r0 := by rw [hT] at hTj; exact (Option.some.inj hTj).symm
          subst this
          exact ⟨cN b r j, by rw [nx0]; omega, by simp [s2_at]⟩
        · obtain ⟨q, e1, e2⟩ := d3 r j hr (by omega) hTj
          by_cases hrr : r = r0
          · subst hrr
            refine ⟨q, by rw [nx0]; omega, ?_⟩
            rw [s2_at, if_neg (by omega), s2_at, if_pos rfl, if_neg (by omega)]
            exact e2
          · refine ⟨q, by rw [nx r hrr]; exact e1, ?_⟩
            have hq2 : q < cN b r (19 * wds b) := Nat.lt_of_lt_of_le e1 (cN_mono (by omega))
            have hap := st0_apart hq2 hlt hrr
            rw [s2_at, if_neg (by omega), s2_at, if_pos rfl, if_neg (by omega)]
            exact e2
      · funext j
        rw [s2_at, if_neg h6, s2_at, if_neg h5, h2 k' h5 h6]
/-- the drawn regions; the counters of the others are 0 -/
def GAt (f : Nat → Nat → Int32) : Prop := ∃ D, D < 64 ∧ f 36 5 = nI D ∧ ∀ b, b < 6 → (D.testBit b = true → GOK f b) ∧ (D.testBit b = false → ∀ r, r < wds b → f 46 (fn b + r) = nI 0)
def gRows : List Nat := [36, 38, 40, 42, 44, 46]
theorem fn_mono {a c : Nat} (h : a ≤ c) : fn a ≤ fn c := by
  induction h with
  | refl => exact Nat.le_refl _
  | step _ ih => exact Nat.le_trans ih (Nat.le_add_right _ _)
theorem Rg_apart {a c j k : Nat} (hac : a ≠ c) (h : Rg a k j) : ¬ Rg c k j := by
  have h1 : a < c → fn a + wds a ≤ fn c := fun q => fn_mono q
  have h2 : c < a → fn c + wds c ≤ fn a := fun q => fn_mono q
  unfold Rg at *
  rcases Nat.lt_or_gt_of_ne hac with q | q
  · have := h1 q
    omega
  · have := h2 q
    omega
theorem GOK_off {f g : Nat → Nat → Int32} {a c : Nat} (ha : a < 6) (hac : a ≠ c) (h : GOK f a) (ho : OffR c f g) : GOK g a := by
  obtain ⟨h1, h2, h3, h4, h5, h6⟩ := h
  have hb : ∀ r, r < wds a → st0 a r + cN a r (19 * wds a) ≤ 19 * wds a := fun r hr => by
    have := st0_le (b := a) (r := r + 1) hr
    rwa [st0_succ] at this
  refine ⟨fun r hr => ?_, fun i hi => ?_, fun r hr => ?_, fun r hr => ?_, fun r q hr hq => ?_, fun r i hr hi hT => ?_⟩
  · rw [ho _ _ (Rg_apart hac (Or.inl ⟨Or.inl rfl, by omega, by omega⟩))]; exact h1 r hr
  · rw [ho _ _ (Rg_apart hac (Or.inr ⟨Or.inl rfl, by omega, by omega⟩))]; exact h2 i hi
  · rw [ho _ _ (Rg_apart hac (Or.inl ⟨Or.inr (Or.inl rfl), by omega, by omega⟩))]; exact h3 r hr
  · rw [ho _ _ (Rg_apart hac (Or.inl ⟨Or.inr (Or.inr rfl), by omega, by omega⟩))]; exact h4 r hr
  · have := hb r hr
    obtain ⟨i, e1, e2, e3⟩ := h5 r q hr hq
    exact ⟨i, e1, e2, by rw [ho _ _ (Rg_apart hac (Or.inr ⟨Or.inr rfl, by omega, by omega⟩))]; exact e3⟩
  · have := hb r hr
    obtain ⟨q, e1, e2⟩ := h6 r i hr hi hT
    exact ⟨q, e1, by rw [ho _ _ (Rg_apart hac (Or.inr ⟨Or.inr rfl, by omega, by omega⟩))]; exact e2⟩
theorem OffR_off {f g : Nat → Nat → Int32} (ho : OffR b f g) : Off f g gRows := by
  intro k hk
  funext j
  refine ho k j (fun q => hk ?_)
  unfold gRows
  simp only [List.mem_cons, List.not_mem_nil, or_false]
  unfold Rg at q
  omega
theorem s_draw (w : WF h) (hb : b < 6) (hg : GAt h.2.2) : ∃ g, f_G_draw 36 (nI b) h = rV (hS h g) ∧ GAt g ∧ GOK g b ∧ Off h.2.2 g gRows := by
  obtain ⟨D, hD, h36, hall⟩ := hg
  have hle := fn_le hb
  have k36 := kO_W w K36
  rw [e_G_draw, hI_W w K36, oo_v, h36, s_isIn (by omega) (by omega), cI_v]
  cases hbit : D.testBit b with
  | true =>
    refine ⟨h.2.2, ?_, ⟨D, hD, h36, hall⟩, (hall b hb).1 hbit, Off.rf⟩
    rw [if_pos rfl, if_neg (by decide)]
    rfl
  | false =>
    have hz := (hall b hb).2 hbit
    rw [if_pos (by decide)]
    generalize hf0 : s2 h.2.2 36 5 (nI (D ||| 1 <<< b)) = f0
    have hoff0 : Off h.2.2 f0 gRows := by rw [← hf0]; exact s2_off (by decide)
    have f36 : f0 36 5 = nI (D ||| 1 <<< b) := by rw [← hf0]; simp [s2_at]
    have fo : ∀ k, k ≠ 36 → f0 k = h.2.2 k := fun k hk => by
      rw [← hf0]
      funext j
      rw [s2_at, if_neg hk]
    have hw0 : WF (hS h f0) := WF_S w
    obtain ⟨g1, a1, a2, a3⟩ := s_on3 (h := hS h f0) hw0 hb (wds b) 0 f0 (by omega) ⟨fun r hr => by omega, fun j hj => by omega, fun r hr => by rw [fo 46 (by omega)]; exact hz r hr⟩ OffR.rf
    obtain ⟨o1, o2, o3⟩ := a2
    obtain ⟨g2, b1, b2, b3, b4⟩ := s_share (h := hS h f0) hw0 hb (f := g1) o3 (wds b) 0 g1 (by omega) (fun r' hr' => by omega) (fun r' _ _ => rfl) (fun _ _ _ => rfl) OffR.rf
    have g240 : ∀ i, i < 19 * wds b → g2 40 (fn b * 19 + i) = match T b i with
        | some r => nI (fn b + r)
        | none => -1 := fun i hi => by rw [b3 40 (by omega) (by omega)]; exact o2 i hi
    obtain ⟨g3, c1, c2, c3, c4⟩ := s_into (h := hS h f0) hw0 hb (f := g2) g240 (19 * wds b) 0 g2 (by omega) ⟨fun r hr => (b2 r hr).2, fun r q hr hq => by exact absurd hq (Nat.not_lt_zero _), fun r j hr hj => by omega⟩ (fun _ _ _ => rfl) OffR.rf
    have hoffR : OffR b f0 g3 := OffR.tr a3 (OffR.tr b4 c4)
    have hGb : GOK g3 b := by
      obtain ⟨i1, i2, i3⟩ := c2
      refine ⟨fun r hr => ?_, fun i hi => ?_, fun r hr => ?_, i1, i2, i3⟩
      · rw [c3 38 (by omega) (by omega), b3 38 (by omega) (by omega)]
        exact o1 r (by omega)
      · rw [c3 40 (by omega) (by omega)]
        exact g240 i hi
      · rw [c3 44 (by omega) (by omega)]
        exact (b2 r hr).1
    refine ⟨g3, ?_, ⟨D ||| 1 <<< b, ?_, ?_, fun c hc => ⟨fun hbc => ?_, fun hbc r hr => ?_⟩⟩, hGb, Off.tr hoff0 (OffR_off hoffR)⟩
    · rw [hI_W w K36, oo_v, if_pos k36, h36, L1, i_shl (by omega), i_or]
      simp only [sI_S, hf0, s_firstNode (show b < 7 by omega), s_wordsOf hb, cI_v, i_add, kO_S, k36, if_true]
      rw [e_G_drawOnward, show f_G_drawOnward_3 36 (nI b) (nI (fn b)) (nI (fn b + wds b)) (nI (fn b)) (hS h f0) = _ from a1, cV_v]
      simp only [kO_S, k36, if_true, hS_S]
      rw [e_G_shareOut, L19, i_mul, show f_G_shareOut_8 36 (nI (fn b + wds b)) (nI (fn b * 19)) (nI (fn b)) (hS h g1) = _ from b1, cV_v]
      simp only [kO_S, k36, if_true, hS_S]
      rw [e_G_drawInto, L19, i_mul, show f_G_drawInto_5 36 (nI (fn b + wds b)) (nI (fn b * 19)) (hS h g2) = _ from c1, cV_v]
      rfl
    · refine Nat.lt_pow_two_of_testBit (n := 6) _ fun i hi => ?_
      rw [Nat.testBit_or, t1b, big (k := 6) hD hi, decide_eq_false (by omega)]
      rfl
    · rw [hoffR 36 5 (by unfold Rg; omega)]
      exact f36
    · by_cases hcb : c = b
      · rw [hcb]; exact hGb
      · refine GOK_off hc hcb ?_ hoffR
        rw [Nat.testBit_or, t1b, decide_eq_false (show ¬ b = c by omega), Bool.or_false] at hbc
        have : D.testBit c = true := hbc
        have hG := (hall c hc).1 this
        obtain ⟨z1, z2, z3, z4, z5, z6⟩ := hG
        unfold GOK
        rw [fo 38 (by omega), fo 40 (by omega), fo 42 (by omega), fo 44 (by omega), fo 46 (by omega)]
        exact ⟨z1, z2, z3, z4, z5, z6⟩
    · rw [Nat.testBit_or, t1b, Bool.or_eq_false_iff, decide_eq_false_iff_not] at hbc
      have hcb : c ≠ b := fun e => hbc.2 e.symm
      rw [hoffR 46 _ (Rg_apart hcb (Or.inl ⟨Or.inr (Or.inr rfl), by omega, by omega⟩)), fo 46 (by omega)]
      exact (hall c hc).2 hbc.1 r hr
end GraphB
