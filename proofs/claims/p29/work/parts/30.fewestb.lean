/-! the fewest moves, from the words in order on; the key that says for which shelf they stand -/
def d0 (b F C r : Nat) : Option Nat := if gol b F C r then some 0 else none
/-- the first len places of the queue are the words in order under r -/
def Qi (b F C : Nat) (f : Nat → Nat → Int32) (q : Nat → Nat) (len r : Nat) : Prop :=
  (∀ i, i < len → q i < r ∧ gol b F C (q i) = true ∧ f 57 i = nI (fn b + q i)) ∧ (∀ i j, i < j → j < len → q i < q j) ∧ (∀ r', r' < r → gol b F C r' = true → ∃ i, i < len ∧ q i = r') ∧ len ≤ r
theorem Qi_Bf {b S F C : Nat} {f : Nat → Nat → Int32} {q : Nat → Nat} {len : Nat} (h : Qi b F C f q len (wds b)) (h9 : ∀ r, r < wds b → f 49 (fn b + r) = vI (d0 b F C r)) : Bf b S F C f (d0 b F C) q len 0 := by
  obtain ⟨h1, h2, h3, h4⟩ := h
  have hd : ∀ r w, d0 b F C r = some w → gol b F C r = true ∧ w = 0 := fun r w e => by
    unfold d0 at e
    split at e
    · rename_i hg
      cases e
      exact ⟨hg, rfl⟩
    · cases e
  have hd' : ∀ r, gol b F C r = true → d0 b F C r = some 0 := fun r e => by unfold d0; rw [if_pos e]
  refine ⟨h9, fun i hi => ⟨(h1 i hi).1, (h1 i hi).2.2, 0, Nat.zero_le _, hd' _ (h1 i hi).2.1⟩, fun i j hij hj => Nat.ne_of_lt (h2 i j hij hj), fun i j u v hij hj hu hv => ?_, fun r w hr e => ?_, fun r hr hg => hd' r hg, fun i r m hi => absurd hi (Nat.not_lt_zero _), fun j u v hj hh hv hu => ?_, Nat.zero_le _⟩
  · rw [(hd _ _ hu).2]; exact Nat.zero_le _
  · obtain ⟨hg, hw⟩ := hd r w e
    exact ⟨h3 r hr hg, 0, hg, hw⟩
  · rw [(hd _ _ hu).2]; exact Nat.zero_le _
/-- the rows hold the fewest moves of every word -/
def Fw (b S F C : Nat) (f : Nat → Nat → Int32) : Prop := ∀ r, r < wds b → ∃ o, f 49 (fn b + r) = vI o ∧ ∀ w, o = some w ↔ Lst (ED b S) (fun _ _ => 1) (gol b F C) r w
def kyM (b S F C : Nat) : Nat := ((S * 2 + F) * 2 + C) * 8 + b
/-- what was found once stands for its key -/
def FewC (f : Nat → Nat → Int32) : Prop := f 47 4 = -1 ∨ ∃ b S F C, b < 6 ∧ S < 64 ∧ F < 2 ∧ C < 2 ∧ f 47 4 = nI (kyM b S F C) ∧ Fw b S F C f
theorem kyM_lt {b S F C : Nat} (hb : b < 6) (hSl : S < 64) (hF : F < 2) (hC : C < 2) : kyM b S F C < 2048 := by unfold kyM; omega
theorem kyM_inj {b S F C b' S' F' C' : Nat} (hb : b < 6) (hF : F < 2) (hC : C < 2) (hb' : b' < 6) (hF' : F' < 2) (hC' : C' < 2) (e : kyM b S F C = kyM b' S' F' C') : b = b' ∧ S = S' ∧ F = F' ∧ C = C' := by unfold kyM at e; omega
set_option maxRecDepth 20000 in
theorem kyM_all : ∀ S, S < 64 → ∀ F, F < 2 → ∀ C, C < 2 → ∀ b, b < 6 → ((((((nI S <<< ((1 : Int32) &&& 31)) ||| nI F) <<< ((1 : Int32) &&& 31)) ||| nI C) <<< ((3 : Int32) &&& 31)) ||| nI b) = nI (kyM b S F C) := by decide +kernel
theorem GOK_of {f g : Nat → Nat → Int32} {b : Nat} {l : List Nat} (hc : GOK f b) (ho : Off f g l) (hl : 38 ∉ l ∧ 40 ∉ l ∧ 42 ∉ l ∧ 44 ∉ l ∧ 46 ∉ l) : GOK g b := by
  unfold GOK at *
  rw [ho 38 hl.1, ho 40 hl.2.1, ho 42 hl.2.2.1, ho 44 hl.2.2.2.1, ho 46 hl.2.2.2.2]
  exact hc
section Fewestb
variable {h : pH} {b : Nat}
theorem s_keyOfMoves {a : AS} {f : Nat → Nat → Int32} (w : WF h) (ha : AOK a) (hc : CAt f 1 a) : f_B_keyOfMoves 1 (hS h f) = rI (nI (kyM (aB a) (aS a) (aF a) (aC a))) (hS h f) := by
  obtain ⟨c0, c1, c2, c3, c4, c5, c6, _⟩ := hc
  rw [e_B_keyOfMoves]
  simp only [hI_W (WF_S w) K1, oo_v, hS_2, c1, c4, c5, c6]
  rw [kyM_all _ ha.2.2.1 _ ha.2.2.2.2.1 _ ha.2.2.2.2.2.1 _ ha.2.1]
theorem s_findFewest_98 {a : AS} (w : WF h) (ha : AOK a) (hc : CAt h.2.2 1 a) (hG : GOK h.2.2 (aB a)) : ∀ (k head : Nat) (g : Nat → Nat → Int32) (d : Nat → Option Nat) (q : Nat → Nat) (len : Nat), head + k = wds (aB a) → Bf (aB a) (aS a) (aF a) (aC a) g d q len head → Off h.2.2 g [49, 57] →
    ∃ g', f_S_findFewest_98 47 1 (nI len) (nI head) (hS h g) = rV (hS h g') ∧ Fw (aB a) (aS a) (aF a) (aC a) g' ∧ Off h.2.2 g' [49, 57] := by
  have hb : aB a < 6 := ha.2.1
  have hle := fn_le hb
  have hw25 := wds_lt hb
  have fin : ∀ (g : Nat → Nat → Int32) d q len head, len ≤ head → Bf (aB a) (aS a) (aF a) (aC a) g d q len head → Fw (aB a) (aS a) (aF a) (aC a) g := fun g d q len head hl hB r hr => by
    have h9 := hB.2.2.2.2.2.2.2.2
    obtain rfl : len = head := by omega
    exact ⟨d r, hB.1 r hr, Bf_end hb hB r hr⟩
  intro k
  induction k with
  | zero =>
    intro head g d q len hk hB ho
    have hl := Bf_len hB
    refine ⟨g, ?_, fin g d q len head (by omega) hB, ho⟩
    rw [e_S_findFewest_98, if_pos (by rw [i_le (by omega) (by omega)]; omega)]
  | succ k ih =>
    intro head g d q len hk hB ho
    have hl := Bf_len hB
    by_cases hh : len ≤ head
    · refine ⟨g, ?_, fin g d q len head hh hB, ho⟩
      rw [e_S_findFewest_98, if_pos (by rw [i_le (by omega) (by omega)]; omega)]
    · have hx := (hB.2.1 head (by omega)).1
      obtain ⟨v, _, hv⟩ := (hB.2.1 head (by omega)).2.2
      have g57 : g 57 head = nI (fn (aB a) + q head) := (hB.2.1 head (by omega)).2.1
      have hst := st0_lt hb (show q head ≤ wds (aB a) by omega)
      have g44 : g 44 (fn (aB a) + q head) = nI (fn (aB a) * 19 + st0 (aB a) (q head)) := by
        rw [ho 44 (by simp)]
        exact hG.2.2.1 _ hx
      have g14 : g 1 4 = nI (aS a) := by rw [ho 1 (by simp)]; exact hc.2.2.2.2.1
      have hSl : aS a < 64 := ha.2.2.1
      obtain ⟨g', d', q', len', e1, e2, e3⟩ := s_comeFrom_16 (F := aF a) (C := aC a) w hb (by omega) hG (cN (aB a) (q head) (19 * wds (aB a))) 0 g d q len v (by omega) hB (by omega) hv (fun i p _ _ hp => absurd hp (Nat.not_lt_zero _)) ho
      obtain ⟨g'', e4, e5, e6⟩ := ih (head + 1) g' d' q' len' (by omega) e2 e3
      refine ⟨g'', ?_, e5, e6⟩
      rw [← e4, e_S_findFewest_98, if_neg (by rw [i_le (by omega) (by omega)]; omega), if_neg (by rw [show (2520 : Int32) = nI 2520 from rfl, i_le (by omega) (by omega)]; omega)]
      simp only [oo_v, hR_S, hR_W w K47 (by omega) (show R0 47 8 = some 56 from rfl), kO_S, kO_W w RW56.1, kO_W w K47, if_true, s_get (WF_S w) RW56 (show head < 3620 by omega), cI_v, hS_2, hI_W (WF_S w) K1]
      rw [show g (56 + 1) head = _ from g57, g14, e_S_comeFrom]
      simp only [oo_v, hR_S, hR_W w K47 (by omega) (show R0 47 0 = some 36 from rfl), hR_W w K36 (by omega) (show R0 36 3 = some 43 from rfl), kO_S, kO_W w RW43.1, if_true, s_get (WF_S w) RW43 (show fn (aB a) + q head < 3620 by omega), cI_v, hS_2]
      rw [show g (43 + 1) (fn (aB a) + q head) = _ from g44]
      rw [Nat.add_zero] at e1
      rw [e1, cI_v, L1, i_add]
theorem s_findFewest_56 {a : AS} (w : WF h) (ha : AOK a) (hc : CAt h.2.2 1 a) (hG : GOK h.2.2 (aB a)) : ∀ (k r : Nat) (g : Nat → Nat → Int32) (q : Nat → Nat) (len : Nat), r + k = wds (aB a) → Qi (aB a) (aF a) (aC a) g q len r → (∀ r', r' < wds (aB a) → g 49 (fn (aB a) + r') = vI (d0 (aB a) (aF a) (aC a) r')) → Off h.2.2 g [49, 57] →
    ∃ g', f_S_findFewest_56 47 1 (nI (fn (aB a) + wds (aB a))) (nI len) (nI (fn (aB a) + r)) (hS h g) = rV (hS h g') ∧ Fw (aB a) (aS a) (aF a) (aC a) g' ∧ Off h.2.2 g' [49, 57]
  | 0, r, g, q, len, hr, hq, h9, ho => by
    have hle := fn_le ha.2.1
    obtain rfl : r = wds (aB a) := by omega
    obtain ⟨g', e1, e2⟩ := s_findFewest_98 w ha hc hG (wds (aB a)) 0 g _ q len (by omega) (Qi_Bf (S := aS a) hq h9) ho
    refine ⟨g', ?_, e2⟩
    rw [e_S_findFewest_56, if_pos (by rw [i_le (by omega) (by omega)]; exact Nat.le_refl _)]
    exact e1
  | k + 1, r, g, q, len, hr, hq, h9, ho => by
    have hle := fn_le ha.2.1
    obtain ⟨q1, q2, q3, q4⟩ := hq
    rw [e_S_findFewest_56, if_neg (by rw [i_le (by omega) (by omega)]; omega)]
    simp only [oo_v, hR_S, hR_W w K47 (by omega) (show R0 47 1 = some 48 from rfl), kO_S, kO_W w RW48.1, if_true, s_get (WF_S w) RW48 (show fn (aB a) + r < 3620 by omega), cI_v, hS_2]
    rw [show g (48 + 1) (fn (aB a) + r) = _ from h9 r (by omega)]
    cases hg : gol (aB a) (aF a) (aC a) r with
    | true =>
      rw [if_pos (by unfold d0; rw [hg]; rfl)]
      simp only [oo_v, hR_S, hR_W w K47 (by omega) (show R0 47 8 = some 56 from rfl), kO_S, kO_W w RW56.1, if_true, s_put (WF_S w) RW56 (show len < 3620 by omega), cV_v, hS_S, hS_2, L1, i_add]
      refine s_findFewest_56 w ha hc hG k (r + 1) _ (fun i => if i = len then r else q i) (len + 1) (by omega) ⟨fun i hi => ?_, fun i j hij hj => ?_, fun r' hr' hg' => ?_, by omega⟩ (fun r' hr' => ?_) (Off.tr ho (s2_off (by simp)))
      · by_cases hil : i = len
        · subst hil
          simp [s2_at, hg]
        · have := q1 i (by omega)
          simp [s2_at, hil, this]
          omega
      · have hil : i ≠ len := by omega
        by_cases hjl : j = len
        · simp only [if_neg hil, if_pos hjl]
          exact (q1 i (by omega)).1
        · simp only [if_neg hil, if_neg hjl]
          exact q2 i j hij (by omega)
      · by_cases hrr : r' = r
        · exact ⟨len, by omega, by simp [hrr]⟩
        · obtain ⟨i, hi, e⟩ := q3 r' (by omega) hg'
          exact ⟨i, by omega, by simp [show i ≠ len by omega, e]⟩
      · rw [s2_at, if_neg (by omega)]
        exact h9 r' hr'
    | false =>
      rw [if_neg (by unfold d0; rw [hg]; decide), L1, i_add]
      refine s_findFewest_56 w ha hc hG k (r + 1) g q len (by omega) ⟨fun i hi => ?_, q2, fun r' hr' hg' => ?_, by omega⟩ h9 ho
      · have := q1 i hi
        exact ⟨by omega, this.2⟩
      · refine q3 r' ?_ hg'
        have : r' ≠ r := fun e => by rw [e, hg] at hg'; cases hg'
        omega
/-- the fewest moves of every word stand behind findFewest -/
theorem s_findFewest {a : AS} {f : Nat → Nat → Int32} (w : WF h) (ha : AOK a) (hc : CAt f 1 a) (hG : GOK f (aB a)) (hK : FewC f) :
    ∃ g, f_S_findFewest 47 1 (hS h f) = rV (hS h g) ∧ Fw (aB a) (aS a) (aF a) (aC a) g ∧ FewC g ∧ Off f g [47, 49, 57] ∧ ∀ j, j ≠ 4 → g 47 j = f 47 j := by
  have hb : aB a < 6 := ha.2.1
  have hSl : aS a < 64 := ha.2.2.1
  have hF : aF a < 2 := ha.2.2.2.2.1
  have hC : aC a < 2 := ha.2.2.2.2.2.1
  have hle := fn_le hb
  have hlt := kyM_lt hb hSl hF hC
  have hhit : nI (kyM (aB a) (aS a) (aF a) (aC a)) = f 47 4 → Fw (aB a) (aS a) (aF a) (aC a) f := fun e => by
    rcases hK with e1 | ⟨b, S, F, C, k1, k2, k3, k4, k5, k6⟩
    · have h1 := i_nneg (show kyM (aB a) (aS a) (aF a) (aC a) < 2147483648 by omega)
      rw [e, e1] at h1
      exact absurd (by decide) h1
    · have hlt' := kyM_lt k1 k2 k3 k4
      rw [k5, i_inj (by omega) (by omega)] at e
      obtain ⟨rfl, e2, e3, e4⟩ := kyM_inj hb hF hC k1 k3 k4 e
      rw [e2, e3, e4]
      exact k6
  rw [e_S_findFewest]
  simp only [kO_S, kO_W w K1, kO_W w K47, if_true, s_keyOfMoves w ha hc, cI_v, oo_v, hS_2, hI_W (WF_S w) K47]
  by_cases he : nI (kyM (aB a) (aS a) (aF a) (aC a)) = f 47 4
  · rw [if_pos he]
    exact ⟨f, rfl, hhit he, hK, Off.rf, fun _ _ => rfl⟩
  · rw [if_neg he]
    have ho1 : Off f (s2 f 47 4 (nI (kyM (aB a) (aS a) (aF a) (aC a)))) [47] := s2_off (by simp)
    have hc' := CAt_off hc ho1 (by simp) (by simp) (by simp)
    have hG' := GOK_of hG ho1 (by simp)
    obtain ⟨g1, e1, e2, e3⟩ := s_startAtOrder (F := aF a) (C := aC a) w hb hF hC RW48 (by omega) (by omega) hG' hc'.2.2.2.2.2.1 hc'.2.2.2.2.2.2.1 (wds (aB a)) 0 _ (by omega) (fun r' hr' => absurd hr' (Nat.not_lt_zero _)) Off.rf
    have hc1 := CAt_off hc' e3 (by simp) (by simp) (by simp)
    have hG1 := GOK_of hG' e3 (by simp)
    obtain ⟨g2, e4, e5, e6⟩ := s_findFewest_56 (h := hS h g1) w ha hc1 hG1 (wds (aB a)) 0 g1 (fun _ => 0) 0 (by omega) ⟨fun i hi => absurd hi (Nat.not_lt_zero _), fun i j _ hj => absurd hj (Nat.not_lt_zero _), fun r hr => absurd hr (Nat.not_lt_zero _), Nat.zero_le _⟩ e2 Off.rf
    have ho2 : Off f g2 [47, 49, 57] := Off.tr (Off.mono ho1 (by simp)) (Off.tr (Off.mono e3 (by simp)) (Off.mono e6 (by simp)))
    have h47 : ∀ j, g2 47 j = s2 f 47 4 (nI (kyM (aB a) (aS a) (aF a) (aC a))) 47 j := fun j => by
      rw [e6 47 (by simp)]
      show g1 47 j = _
      rw [e3 47 (by simp)]
    refine ⟨g2, ?_, e5, Or.inr ⟨aB a, aS a, aF a, aC a, hb, hSl, hF, hC, ?_, e5⟩, ho2, fun j hj => ?_⟩
    · simp only [sI_S, hS_S, hS_2, kO_S, kO_W w K1, kO_W w K47, if_true, hI_W (WF_S w) K1, oo_v, hc'.2.1, s_firstNode (show aB a < 7 by omega), cI_v, s_wordsOf hb, hR_S, hR_W w K47 (by omega) (show R0 47 1 = some 48 from rfl), i_add]
      rw [e_S_startAtOrder]
      rw [Nat.add_zero] at e1
      rw [e1, cV_v]
      exact e4
    · rw [h47, s2_at, if_pos rfl, if_pos rfl]
    · rw [h47, s2_at, if_pos rfl, if_neg hj]
end Fewestb
