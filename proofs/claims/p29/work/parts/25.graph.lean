/-! the graph of the class: one region of nodes for each number of books -/
def fn : Nat → Nat
  | 0 => 0
  | b + 1 => fn b + wds b
theorem fn_le {b : Nat} (hb : b < 6) : fn b + wds b ≤ 3620 := by
  have : ∀ b, b < 6 → fn b + wds b ≤ 3620 := by decide
  exact this b hb
theorem s_fnL {h : pH} {b : Nat} (hb : b < 7) : ∀ (k i : Nat), i + k = b → f_G_firstNode_4 (nI b) (nI (fn i)) (nI i) h = rI (nI (fn b)) h
  | 0, i, hi => by
    obtain rfl : i = b := by omega
    rw [e_G_firstNode_4, if_pos (by rw [i_le (by omega) (by omega)]; exact Nat.le_refl _)]
  | k + 1, i, hi => by
    rw [e_G_firstNode_4, if_neg (by rw [i_le (by omega) (by omega)]; omega), s_wordsOf (by omega), cI_v, i_add, L1, i_add]
    exact s_fnL hb k (i + 1) (by omega)
theorem s_firstNode {h : pH} {b : Nat} (hb : b < 7) : f_G_firstNode (nI b) h = rI (nI (fn b)) h := by
  rw [e_G_firstNode]
  exact s_fnL hb b 0 (by omega)
theorem K36 : K0[36]? = some (.inl 0) := rfl
theorem RW37 : rowW 37 3620 := by unfold rowW; decide
theorem RW39 : rowW 39 68780 := by unfold rowW; decide
theorem RW41 : rowW 41 68780 := by unfold rowW; decide
theorem RW43 : rowW 43 3620 := by unfold rowW; decide
theorem RW45 : rowW 45 3620 := by unfold rowW; decide
/-- where a move leads, from the i-th step of a region on (19 steps a word): a node, if it is no move that is refused with no book stuck -/
def T (b i : Nat) : Option Nat := if rsn (wd b (i / 19)) 0 (i % 19) = 0 then some (rk b (aft (wd b (i / 19)) (i % 19))) else none
theorem T_lt {b i r : Nat} (hb : b < 6) (hi : i < 19 * wds b) (h : T b i = some r) : r < wds b := by
  unfold T at h
  split at h
  · rename_i h0
    cases h
    exact rk_lt hb (aft_VW hb (wd_VW hb (by omega)) (by omega) h0)
  · cases h
/-- how many of the first i steps lead to a word -/
def cN (b r i : Nat) : Nat := cnt (fun j => decide (T b j = some r)) i
theorem cN_le (b r i : Nat) : cN b r i ≤ i := cnt_le _ _
theorem cN_succ {b r i : Nat} : cN b r (i + 1) = cN b r i + (decide (T b i = some r)).toNat := rfl
theorem cN_mono {b r i k : Nat} (h : i ≤ k) : cN b r i ≤ cN b r k := by
  induction h with
  | refl => exact Nat.le_refl _
  | step _ ih => exact Nat.le_trans ih (Nat.le_add_right _ _)
theorem sm_one (g : Nat → Nat) (r0 : Nat) : ∀ n, sm (fun r => g r + (if r = r0 then 1 else 0)) n ≤ sm g n + (if r0 < n then 1 else 0)
  | 0 => by show 0 ≤ 0 + _; omega
  | n + 1 => by
    have ih := sm_one g r0 n
    show sm (fun r => g r + (if r = r0 then 1 else 0)) n + (g n + (if n = r0 then 1 else 0)) ≤ sm g n + g n + _
    split at ih <;> split <;> split <;> omega
theorem sm_congr {g g' : Nat → Nat} : ∀ n, (∀ i, i < n → g i = g' i) → sm g n = sm g' n
  | 0, _ => rfl
  | n + 1, h => by
    show sm g n + g n = sm g' n + g' n
    rw [sm_congr n (fun i hi => h i (by omega)), h n (by omega)]
theorem sm_mono {g : Nat → Nat} {a c : Nat} (h : a ≤ c) : sm g a ≤ sm g c := by
  induction h with
  | refl => exact Nat.le_refl _
  | step _ ih => exact Nat.le_trans ih (Nat.le_add_right _ _)
theorem sm_zero : ∀ n, sm (fun _ => 0) n = 0
  | 0 => rfl
  | n + 1 => by
    show sm (fun _ => 0) n + 0 = 0
    rw [sm_zero n]
theorem sm_cN (b : Nat) (n : Nat) : ∀ i, sm (fun r => cN b r i) n ≤ i
  | 0 => by
    rw [show (fun r => cN b r 0) = fun _ => 0 from rfl, sm_zero]
    exact Nat.le_refl _
  | i + 1 => by
    have ih := sm_cN b n i
    cases hT : T b i with
    | none =>
      have e : (fun r => cN b r (i + 1)) = fun r => cN b r i := by
        funext r
        rw [cN_succ, hT, decide_eq_false (by simp)]
        rfl
      rw [e]
      omega
    | some r0 =>
      have e : (fun r => cN b r (i + 1)) = fun r => cN b r i + (if r = r0 then 1 else 0) := by
        funext r
        rw [cN_succ, hT]
        by_cases hr : r = r0
        · rw [if_pos hr, decide_eq_true (by rw [hr])]; rfl
        · rw [if_neg hr, decide_eq_false (fun q => hr (Option.some.inj q).symm)]; rfl
      rw [e]
      have := sm_one (fun r => cN b r i) r0 n
      split at this <;> omega
/-- where the steps into a word begin, from the region's first step on -/
def st0 (b r : Nat) : Nat := sm (fun r => cN b r (19 * wds b)) r
theorem st0_le {b r : Nat} (hr : r ≤ wds b) : st0 b r ≤ 19 * wds b := Nat.le_trans (sm_mono hr) (sm_cN b (wds b) (19 * wds b))
theorem st0_succ {b r : Nat} : st0 b (r + 1) = st0 b r + cN b r (19 * wds b) := rfl
/-- what is outside a region's cells stays -/
def Rg (b k j : Nat) : Prop := ((k = 38 ∨ k = 44 ∨ k = 46) ∧ fn b ≤ j ∧ j < fn b + wds b) ∨ ((k = 40 ∨ k = 42) ∧ fn b * 19 ≤ j ∧ j < (fn b + wds b) * 19)
def OffR (b : Nat) (f g : Nat → Nat → Int32) : Prop := ∀ k j, ¬ Rg b k j → g k j = f k j
theorem OffR.rf {b : Nat} {f : Nat → Nat → Int32} : OffR b f f := fun _ _ _ => rfl
theorem OffR.tr {b : Nat} {f g h : Nat → Nat → Int32} (x : OffR b f g) (y : OffR b g h) : OffR b f h := fun k j q => (y k j q).trans (x k j q)
theorem s2_offR {b k j : Nat} {f : Nat → Nat → Int32} {x : Int32} (h : Rg b k j) : OffR b f (s2 f k j x) := by
  intro a c hac
  rw [s2_at]
  split
  · rename_i e1
    split
    · rename_i e2
      exact absurd (by rw [e1, e2]; exact h) hac
    · rfl
  · rfl
/-- a region that is drawn -/
def GOK (f : Nat → Nat → Int32) (b : Nat) : Prop :=
  (∀ r, r < wds b → f 38 (fn b + r) = nI (wd b r)) ∧
  (∀ i, i < 19 * wds b → f 40 (fn b * 19 + i) = match T b i with
    | some r => nI (fn b + r)
    | none => -1) ∧
  (∀ r, r < wds b → f 44 (fn b + r) = nI (fn b * 19 + st0 b r)) ∧
  (∀ r, r < wds b → f 46 (fn b + r) = nI (fn b * 19 + st0 b r + cN b r (19 * wds b))) ∧
  (∀ r q, r < wds b → q < cN b r (19 * wds b) → ∃ i, i < 19 * wds b ∧ T b i = some r ∧ f 42 (fn b * 19 + st0 b r + q) = nI (fn b * 19 + i)) ∧
  (∀ r i, r < wds b → i < 19 * wds b → T b i = some r → ∃ q, q < cN b r (19 * wds b) ∧ f 42 (fn b * 19 + st0 b r + q) = nI (fn b * 19 + i))
section Graph
variable {h : pH} {b : Nat}
/-- the first i steps of a region are drawn -/
def On (f : Nat → Nat → Int32) (b i : Nat) : Prop :=
  (∀ r, 19 * r < i → f 38 (fn b + r) = nI (wd b r)) ∧
  (∀ j, j < i → f 40 (fn b * 19 + j) = match T b j with
    | some r => nI (fn b + r)
    | none => -1) ∧
  (∀ r, r < wds b → f 46 (fn b + r) = nI (cN b r i))
theorem s_on89 {r m : Nat} {x : Int32} {g : Nat → Nat → Int32} (w : WF h) (hb : b < 6) (hr : r < wds b) (hm : m < 19) {y1 y2 y3 y5 : Int32} : f_G_drawOnward_89 36 y1 y2 y3 (nI (fn b + r)) y5 (nI m) x (hS h g) = f_G_drawOnward_33 36 y1 y2 y3 (nI (fn b + r)) y5 (nI (m + 1)) (hS h (s2 g 40 (fn b * 19 + (19 * r + m)) x)) := by
  have hle := fn_le hb
  rw [e_G_drawOnward_89]
  simp only [oo_v, hR_S, hR_W w K36 (by omega) (show R0 36 1 = some 39 from rfl), kO_S, kO_W w RW39.1, if_true, L19, L1, i_mul, i_add]
  rw [show (fn b + r) * 19 + m = fn b * 19 + (19 * r + m) by omega, s_put (WF_S w) RW39 (by omega), cV_v, hS_S, hS_2]
theorem s_on33 {r : Nat} (w : WF h) (hb : b < 6) (hr : r < wds b) {y3 : Int32} : ∀ (k m : Nat) (g : Nat → Nat → Int32), m + k = 19 → On g b (19 * r + m) → g 38 (fn b + r) = nI (wd b r) → OffR b h.2.2 g →
    ∃ g', f_G_drawOnward_33 36 (nI b) (nI (fn b)) y3 (nI (fn b + r)) (nI (wd b r)) (nI m) (hS h g) = f_G_drawOnward_3 36 (nI b) (nI (fn b)) y3 (nI (fn b + (r + 1))) (hS h g') ∧ On g' b (19 * (r + 1)) ∧ OffR b h.2.2 g'
  | 0, m, g, hm, ho, h38, hoff => by
    obtain rfl : m = 19 := by omega
    refine ⟨g, ?_, ?_, hoff⟩
    · rw [e_G_drawOnward_33, if_pos (by decide), L1, i_add]
      rfl
    · obtain ⟨o1, o2, o3⟩ := ho
      refine ⟨fun r' hr' => ?_, fun j hj => o2 j (by omega), fun r' hr' => ?_⟩
      · by_cases hrr : r' = r
        · rw [hrr]; exact h38
        · exact o1 r' (by omega)
      · rw [o3 r' hr', show 19 * r + 19 = 19 * (r + 1) by omega]
  | k + 1, m, g, hm, ho, h38, hoff => by
    have hle := fn_le hb
    have hv := wd_VW hb hr
    obtain ⟨o1, o2, o3⟩ := ho
    have hTi : T b (19 * r + m) = if rsn (wd b r) 0 m = 0 then some (rk b (aft (wd b r) m)) else none := by
      unfold T
      rw [show (19 * r + m) / 19 = r by omega, show (19 * r + m) % 19 = m by omega]
    have hstep : ∀ (x : Int32) (g1 : Nat → Nat → Int32), x = (match T b (19 * r + m) with
        | some r => nI (fn b + r)
        | none => -1) → (∀ r', r' < wds b → g1 46 (fn b + r') = nI (cN b r' (19 * r + m + 1))) → OffR b h.2.2 g1 → (∀ j, g1 38 j = g 38 j) → (∀ j, g1 40 j = g 40 j) →
        ∃ g', f_G_drawOnward_89 36 (nI b) (nI (fn b)) y3 (nI (fn b + r)) (nI (wd b r)) (nI m) x (hS h g1) = f_G_drawOnward_3 36 (nI b) (nI (fn b)) y3 (nI (fn b + (r + 1))) (hS h g') ∧ On g' b (19 * (r + 1)) ∧ OffR b h.2.2 g' := by
      intro x g1 hx h46 hoff1 e38 e40
      rw [s_on89 w hb hr (by omega)]
      refine s_on33 w hb hr k (m + 1) _ (by omega) ⟨fun r' hr' => ?_, fun j hj => ?_, fun r' hr' => ?_⟩ ?_ (OffR.tr hoff1 (s2_offR (Or.inr ⟨Or.inl rfl, by omega, by omega⟩)))
      · rw [s2_at, if_neg (by omega), e38]
        by_cases hrr : r' = r
        · rw [hrr]; exact h38
        · exact o1 r' (by omega)
      · rw [s2_at, if_pos rfl]
        by_cases hjj : j = 19 * r + m
        · rw [if_pos (by omega), hx, hjj]
        · rw [if_neg (by omega), e40]
          exact o2 j (by omega)
      · rw [s2_at, if_neg (by omega), h46 r' hr']
        rfl
      · rw [s2_at, if_neg (by omega), e38]
        exact h38
    have hrl := rsn_lt (wd b r) 0 m
    rw [e_G_drawOnward_33, if_neg (by rw [L19, i_le (by omega) (by omega)]; omega), L0, s_reason hv.1 (by omega) (by omega), cI_v]
    by_cases h0 : rsn (wd b r) 0 m = 0
    · have hva := aft_VW hb hv (show m < 19 by omega) h0
      have hrk := rk_lt hb hva
      rw [if_pos h0] at hTi
      rw [if_pos (by rw [h0]), s_after hv.1 (by omega) h0, cI_v, s_rank hb hva, cI_v, i_add]
      have hc := cN_le b (rk b (aft (wd b r) m)) (19 * r + m)
      simp only [oo_v, hR_S, hR_W w K36 (by omega) (show R0 36 4 = some 45 from rfl), kO_S, kO_W w RW45.1, if_true, s_get (WF_S w) RW45 (show fn b + rk b (aft (wd b r) m) < 3620 by omega), cI_v, hS_2, o3 _ hrk, L1, i_add, s_put (WF_S w) RW45 (show fn b + rk b (aft (wd b r) m) < 3620 by omega), cV_v, hS_S]
      refine hstep _ _ (by rw [hTi]) (fun r' hr' => ?_) (OffR.tr hoff (s2_offR (Or.inl ⟨Or.inr (Or.inr rfl), by omega, by omega⟩))) (fun j => by rw [s2_at, if_neg (by omega)]) (fun j => by rw [s2_at, if_neg (by omega)])
      rw [s2_at, if_pos rfl, cN_succ, hTi]
      by_cases hrr : r' = rk b (aft (wd b r) m)
      · rw [if_pos (by rw [hrr]), decide_eq_true (by rw [hrr]), hrr]
        rfl
      · rw [if_neg (by omega), decide_eq_false (fun q => hrr (Option.some.inj q).symm), o3 r' hr']
        rfl
    · rw [if_neg h0] at hTi
      rw [if_neg (by rw [i_inj (by omega) (by omega)]; exact h0)]
      refine hstep _ g (by rw [hTi]) (fun r' hr' => ?_) hoff (fun _ => rfl) (fun _ => rfl)
      rw [cN_succ, hTi, decide_eq_false (by simp), o3 r' hr']
      rfl
theorem s_on3 (w : WF h) (hb : b < 6) : ∀ (k r : Nat) (g : Nat → Nat → Int32), r + k = wds b → On g b (19 * r) → OffR b h.2.2 g →
    ∃ g', f_G_drawOnward_3 36 (nI b) (nI (fn b)) (nI (fn b + wds b)) (nI (fn b + r)) (hS h g) = rV (hS h g') ∧ On g' b (19 * wds b) ∧ OffR b h.2.2 g'
  | 0, r, g, hr, ho, hoff => by
    have hle := fn_le hb
    obtain rfl : r = wds b := by omega
    refine ⟨g, ?_, ho, hoff⟩
    rw [e_G_drawOnward_3, if_pos (by rw [i_le (by omega) (by omega)]; exact Nat.le_refl _)]
  | k + 1, r, g, hr, ho, hoff => by
    have hle := fn_le hb
    obtain ⟨o1, o2, o3⟩ := id ho
    rw [e_G_drawOnward_3, if_neg (by rw [i_le (by omega) (by omega)]; omega), i_sub (by omega), show fn b + r - fn b = r by omega, s_word hb (by omega), cI_v]
    simp only [oo_v, hR_S, hR_W w K36 (by omega) (show R0 36 0 = some 37 from rfl), kO_S, kO_W w RW37.1, if_true, s_put (WF_S w) RW37 (show fn b + r < 3620 by omega), cV_v, hS_S, hS_2]
    obtain ⟨g1, e1, e2, e3⟩ := s_on33 (y3 := nI (fn b + wds b)) w hb (show r < wds b by omega) 19 0 (s2 g 38 (fn b + r) (nI (wd b r))) rfl
      ⟨fun r' hr' => by
        rw [s2_at, if_pos rfl]
        split
        · rename_i e; rw [show r' = r by omega]
        · exact o1 r' (by omega), fun j hj => by rw [s2_at, if_neg (by omega)]; exact o2 j (by omega), fun r' hr' => by rw [s2_at, if_neg (by omega)]; exact o3 r' hr'⟩
      (by rw [s2_at, if_pos rfl, if_pos rfl]) (OffR.tr hoff (s2_offR (Or.inl ⟨Or.inl rfl, by omega, by omega⟩)))
    obtain ⟨g2, e4, e5, e6⟩ := s_on3 w hb k (r + 1) g1 (by omega) e2 e3
    exact ⟨g2, e1.trans e4, e5, e6⟩
end Graph
