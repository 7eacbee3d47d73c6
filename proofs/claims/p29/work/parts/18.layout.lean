/-! where the objects lie behind the two constructors -/
def K0 : List pK := [.inl 7, .inl 6, .inl 4, .inr (.inl 6), .inl 4, .inr (.inl 6), .inl 6, .inl 4, .inr (.inl 6), .inl 4, .inr (.inl 6), .inl 1, .inr (.inr 4), .inl 6, .inl 4, .inr (.inl 6), .inl 4, .inr (.inl 6), .inl 6, .inl 4, .inr (.inl 6), .inl 4, .inr (.inl 6), .inl 6, .inl 4, .inr (.inl 6), .inl 4, .inr (.inl 6), .inl 6, .inl 4, .inr (.inl 6), .inl 4, .inr (.inl 6), .inl 2, .inl 4, .inr (.inl 60), .inl 0, .inl 4, .inr (.inl 3620), .inl 4, .inr (.inl 68780), .inl 4, .inr (.inl 68780), .inl 4, .inr (.inl 3620), .inl 4, .inr (.inl 3620), .inl 5, .inl 4, .inr (.inl 3620), .inl 4, .inr (.inl 3620), .inl 4, .inr (.inl 3620), .inl 4, .inr (.inl 3620), .inl 4, .inr (.inl 3620), .inl 3, .inl 4, .inr (.inl 2520), .inl 4, .inr (.inl 2520)]
def R0l : List (List (Option Nat)) := [[some 1, some 6, none, some 11, some 33, some 36, some 47, some 58], [none, none, some 2, some 4, none, none, none, none, none, none], [some 3], [], [some 5], [], [none, none, some 7, some 9, none, none, none, none, none, none], [some 8], [], [some 10], [], [some 12, none], [], [none, none, some 14, some 16, none, none, none, none, none, none], [some 15], [], [some 17], [], [none, none, some 19, some 21, none, none, none, none, none, none], [some 20], [], [some 22], [], [none, none, some 24, some 26, none, none, none, none, none, none], [some 25], [], [some 27], [], [none, none, some 29, some 31, none, none, none, none, none, none], [some 30], [], [some 32], [], [some 34, none], [some 35], [], [some 37, some 39, some 41, some 43, some 45, none], [some 38], [], [some 40], [], [some 42], [], [some 44], [], [some 46], [], [some 36, some 48, some 50, some 52, none, none, none, some 54, some 56], [some 49], [], [some 51], [], [some 53], [], [some 55], [], [some 57], [], [some 59, some 61, none, none, none, none, none, none], [some 60], [], [some 62], []]
def R0 (k j : Nat) : Option Nat := (R0l.getD k []).getD j none
/-- the heap behind the constructors: kinds and references as they were made, but for the history's row of shelves (12) -/
def WF (h : pH) : Prop := h.1 = K0 ∧ ∀ k j, k ≠ 12 → h.2.1 k j = R0 k j
def hS (h : pH) (f : Nat → Nat → Int32) : pH := (h.1, h.2.1, f)
theorem WF_S {h : pH} {f : Nat → Nat → Int32} (w : WF h) : WF (hS h f) := w
theorem WF_I {h : pH} {k j : Nat} {x : Int32} (w : WF h) : WF (sI h k j x) := w
theorem sI_S {h : pH} {k j : Nat} {x : Int32} : sI h k j x = hS h (s2 h.2.2 k j x) := rfl
theorem hS_S {h : pH} {f g : Nat → Nat → Int32} : hS (hS h f) g = hS h g := rfl
theorem hS_2 {h : pH} {f : Nat → Nat → Int32} : (hS h f).2.2 = f := rfl
theorem hS_self {h : pH} : hS h h.2.2 = h := rfl
theorem s2_at {f : Nat → Nat → Int32} {k j a b : Nat} {x : Int32} : s2 f k j x a b = if a = k then (if b = j then x else f a b) else f a b := rfl
theorem inb_of {i n : Nat} (hi : i < n) (hn : n < 2147483648) : inb (nI i) n = true := by
  unfold inb
  rw [i_clamp (by omega)]
  have := i_nneg (a := i) (by omega)
  simp [this, hi]
section Layout
variable {h : pH} {ci k j r n i : Nat} {x : Int32}
theorem hR_W (w : WF h) (e : K0[k]? = some (.inl ci)) (hk : k ≠ 12) (e2 : R0 k j = some r) : hR h ci k j = some r := by
  unfold hR
  rw [w.1, if_pos e, w.2 k j hk, e2]
theorem hI_W (w : WF h) (e : K0[k]? = some (.inl ci)) : hI h ci k j = some (h.2.2 k j) := by
  unfold hI
  rw [w.1, if_pos e]
theorem kO_W (w : WF h) (e : K0[k]? = some (.inl ci)) : kO h ci k = true := by
  unfold kO
  rw [w.1]
  exact decide_eq_true e
theorem hN_W (w : WF h) (e : K0[k]? = some (.inr (.inl n))) : hN h k = some (nI n) := by
  unfold hN
  rw [w.1, e]
  rfl
theorem hA_W (w : WF h) (e : K0[k]? = some (.inr (.inl n))) (hi : i < n) (hn : n < 2147483648) : hA h k (nI i) = some (h.2.2 k i) := by
  unfold hA
  rw [w.1, e]
  show (if inb (nI i) n = true then some (h.2.2 k (nI i).toNatClampNeg) else none) = _
  rw [if_pos (inb_of hi hn), i_clamp (by omega)]
theorem bA_W (w : WF h) (e : K0[k]? = some (.inr (.inl n))) (hi : i < n) (hn : n < 2147483648) : bA h k (nI i) = true := by
  unfold bA
  rw [w.1, e]
  exact inb_of hi hn
/-- a Row at r, with n cells -/
def rowW (r n : Nat) : Prop := K0[r]? = some (.inl 4) ∧ R0 r 0 = some (r + 1) ∧ K0[r + 1]? = some (.inr (.inl n)) ∧ r ≠ 12 ∧ n < 2147483648
theorem s_get (w : WF h) (q : rowW r n) (hi : i < n) : f_R_get r (nI i) h = rI (h.2.2 (r + 1) i) h := by
  obtain ⟨q1, q2, q3, q4, q5⟩ := q
  rw [e_R_get, if_neg (i_nneg (by omega)), hR_W w q1 q4 q2, oo_v, hN_W w q3, oo_v, if_neg (by rw [i_le q5 (by omega)]; omega), oo_v, hA_W w q3 hi q5, oo_v]
theorem s_getN (w : WF h) (q : rowW r n) (hi : x < 0) : f_R_get r x h = rI (nI 0) h := by
  rw [e_R_get, if_pos hi]
  rfl
theorem s_getO (w : WF h) (q : rowW r n) (hi : n ≤ i) (h2 : i < 2147483648) : f_R_get r (nI i) h = rI (nI 0) h := by
  obtain ⟨q1, q2, q3, q4, q5⟩ := q
  rw [e_R_get, if_neg (i_nneg h2), hR_W w q1 q4 q2, oo_v, hN_W w q3, oo_v, if_pos (by rw [i_le q5 h2]; exact hi)]
  rfl
theorem s_put (w : WF h) (q : rowW r n) (hi : i < n) : f_R_put r (nI i) x h = rV (hS h (s2 h.2.2 (r + 1) i x)) := by
  obtain ⟨q1, q2, q3, q4, q5⟩ := q
  rw [e_R_put, if_neg (i_nneg (by omega)), hR_W w q1 q4 q2, oo_v, hN_W w q3, oo_v, if_neg (by rw [i_le q5 (by omega)]; omega), oo_v, if_pos (bA_W w q3 hi q5), i_clamp (by omega)]
  rfl
theorem s_putO (w : WF h) (q : rowW r n) (hi : n ≤ i) (h2 : i < 2147483648) : f_R_put r (nI i) x h = rV h := by
  obtain ⟨q1, q2, q3, q4, q5⟩ := q
  rw [e_R_put, if_neg (i_nneg h2), hR_W w q1 q4 q2, oo_v, hN_W w q3, oo_v, if_pos (by rw [i_le q5 h2]; exact hi)]
/-- the first i cells of row a as those of row c -/
def cp (f : Nat → Nat → Int32) (a c i : Nat) : Nat → Nat → Int32 := fun k j => if k = a ∧ j < i then f c j else f k j
theorem cp_succ {f : Nat → Nat → Int32} {a c i : Nat} (hac : c ≠ a) : s2 (cp f a c i) a i (cp f a c i c i) = cp f a c (i + 1) := by
  have h1 : cp f a c i c i = f c i := by
    unfold cp
    rw [if_neg (fun q => hac q.1)]
  rw [h1]
  funext k j
  rw [s2_at]
  unfold cp
  by_cases hk : k = a
  · subst hk
    rw [if_pos rfl]
    by_cases hj : j = i
    · subst hj
      rw [if_pos rfl, if_pos ⟨rfl, by omega⟩]
    · rw [if_neg hj]
      by_cases h2 : j < i
      · rw [if_pos ⟨rfl, h2⟩, if_pos ⟨rfl, by omega⟩]
      · rw [if_neg (fun q => h2 q.2), if_neg (fun q => by have := q.2; omega)]
  · rw [if_neg hk, if_neg (fun q => hk q.1), if_neg (fun q => hk q.1)]
theorem s_becomeL {r r' : Nat} (w : WF h) (q : rowW r n) (q' : rowW r' n) (hne : r' ≠ r) : ∀ (m i : Nat), i + m = n → f_R_become_2 r r' (nI i) (hS h (cp h.2.2 (r + 1) (r' + 1) i)) = rV (hS h (cp h.2.2 (r + 1) (r' + 1) n))
  | 0, i, hi => by
    obtain ⟨q1, q2, q3, q4, q5⟩ := q
    obtain rfl : i = n := by omega
    rw [e_R_become_2, hR_W (WF_S w) q1 q4 q2, oo_v, hN_W (WF_S w) q3, oo_v, if_pos (by rw [i_le q5 q5]; exact Nat.le_refl _)]
  | m + 1, i, hi => by
    have ih := s_becomeL w q q' hne m (i + 1) (by omega)
    obtain ⟨q1, q2, q3, q4, q5⟩ := id q
    rw [e_R_become_2, hR_W (WF_S w) q1 q4 q2, oo_v, hN_W (WF_S w) q3, oo_v, if_neg (by rw [i_le q5 (by omega)]; omega), oo_v, if_pos (kO_W (WF_S w) q'.1), s_get (WF_S w) q' (by omega), cI_v, if_pos (bA_W (WF_S w) q3 (by omega) q5), i_clamp (by omega), sI_S, hS_S, hS_2, cp_succ (by omega), L1, i_add]
    exact ih
theorem s_become {r r' : Nat} (w : WF h) (q : rowW r n) (q' : rowW r' n) (hne : r' ≠ r) : f_R_become r r' h = rV (hS h (cp h.2.2 (r + 1) (r' + 1) n)) := by
  have h1 := s_becomeL w q q' hne n 0 (by omega)
  have h2 : cp h.2.2 (r + 1) (r' + 1) 0 = h.2.2 := by
    funext k j
    unfold cp
    rw [if_neg (fun q => by have := q.2; omega)]
  rw [h2, hS_self] at h1
  rw [e_R_become]
  exact h1
end Layout
/-- the six shelves of the class: this one, the snapshot, four of the history -/
def isSh (B : Nat) : Prop := B = 1 ∨ B = 6 ∨ B = 13 ∨ B = 18 ∨ B = 23 ∨ B = 28
theorem sh_at {B : Nat} (hB : isSh B) : K0[B]? = some (.inl 6) ∧ R0 B 2 = some (B + 1) ∧ R0 B 3 = some (B + 3) ∧ rowW (B + 1) 6 ∧ rowW (B + 3) 6 ∧ B ≠ 12 := by
  rcases hB with rfl | rfl | rfl | rfl | rfl | rfl <;> (unfold rowW; decide)
