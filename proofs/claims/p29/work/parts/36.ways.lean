/-! what is found for a shelf: the fewest moves (kind 0), the least price (kinds 1 and 2) -/

/-- the least price of a way, if there is one -/
noncomputable def lv (E : Nat → Nat → Option Nat) (p : Nat → Nat → Nat) (goal : Nat → Bool) (r : Nat) : Option Nat :=
  @dite _ (∃ w, Lst E p goal r w) (Classical.propDecidable _) (fun q => some q.choose) (fun _ => none)
theorem lv_eq {E : Nat → Nat → Option Nat} {p : Nat → Nat → Nat} {goal : Nat → Bool} {r w : Nat} : lv E p goal r = some w ↔ Lst E p goal r w := by
  unfold lv
  by_cases q : ∃ w, Lst E p goal r w
  · rw [dif_pos q]
    constructor
    · intro e
      cases e
      exact q.choose_spec
    · exact fun hl => congrArg some (lst_uniq q.choose_spec hl)
  · rw [dif_neg q]
    exact ⟨fun e => (nomatch e), fun hl => absurd ⟨w, hl⟩ q⟩
theorem lv_of {E : Nat → Nat → Option Nat} {p : Nat → Nat → Nat} {goal : Nat → Bool} {r : Nat} {v : Option Nat} (h : ∀ w, v = some w ↔ Lst E p goal r w) : v = lv E p goal r := by
  cases hl : lv E p goal r with
  | some w => exact (h w).2 (lv_eq.1 hl)
  | none =>
    cases hv : v with
    | none => rfl
    | some w =>
      have := lv_eq.2 ((h w).1 hv)
      rw [hl] at this
      cases this
/-- moves (0) or price (else) from a word of the shelf to order -/
noncomputable def wyO (a : AS) (kd r : Nat) : Option Nat := lv (ED (aB a) (aS a)) (if kd = 0 then fun _ _ => 1 else pr (aB a) (aO a)) (gol (aB a) (aF a) (aC a)) r
theorem wyO_lt {a : AS} {kd r u : Nat} (ha : AOK a) (hr : r < wds (aB a)) (h : wyO a kd r = some u) : u ≤ 9 * 2519 := by
  have hw := wds_lt ha.2.1
  have ho9 : ∀ s, 1 ≤ s → s ≤ aB a → 1 ≤ aO a s ∧ aO a s ≤ 9 := fun s s1 s2 => (ha.2.2.2.2.2.2.1 s s1 s2).2
  have h1 := lv_eq.1 h
  have hb := pr_bd (S := aS a) ha.2.1 ho9
  have h2 := lst_le (B := 9) (fun r m r' q1 q2 q3 => by
    by_cases hk : kd = 0
    · rw [if_pos hk]; exact Nat.le_refl _
    · rw [if_neg hk]; exact (hb r m r' q1 q2 q3).1) (fun r m r' q1 q2 q3 => by
    by_cases hk : kd = 0
    · rw [if_pos hk]; show 1 ≤ 9; omega
    · rw [if_neg hk]; exact (hb r m r' q1 q2 q3).2) (ED_lt ha.2.1) hr h1
  omega
/-- what the search keeps from one call to the next -/
def SC (f : Nat → Nat → Int32) : Prop := FewC f ∧ CstC 51 5 f ∧ CstC 53 6 f
theorem FewC_of {f g : Nat → Nat → Int32} (h : FewC f) (h1 : g 47 4 = f 47 4) (h2 : g 49 = f 49) : FewC g := by
  unfold FewC Fw at *
  rw [h1, h2]
  exact h
theorem CstC_of {k j : Nat} {f g : Nat → Nat → Int32} (h : CstC k j f) (h1 : g 47 j = f 47 j) (h2 : g k = f k) : CstC k j g := by
  unfold CstC Cw at *
  rw [h1, h2]
  exact h
theorem SC_of {f g : Nat → Nat → Int32} {l : List Nat} (h : SC f) (ho : Off f g l) (hl : 47 ∉ l ∧ 49 ∉ l ∧ 51 ∉ l ∧ 53 ∉ l) : SC g :=
  ⟨FewC_of h.1 (by rw [ho 47 hl.1]) (ho 49 hl.2.1), CstC_of h.2.1 (by rw [ho 47 hl.1]) (ho 51 hl.2.2.1), CstC_of h.2.2 (by rw [ho 47 hl.1]) (ho 53 hl.2.2.2)⟩
def sRows : List Nat := [47, 49, 51, 53, 57]
section Ways
variable {h : pH}
theorem s_findWays {a : AS} {f : Nat → Nat → Int32} {kd : Nat} (w : WF h) (ha : AOK a) (hc : CAt f 1 a) (hG : GOK f (aB a)) (hK : SC f) (hkd : kd < 3) :
    ∃ g k, f_S_findWays 47 1 (nI kd) (hS h f) = rR k (hS h g) ∧ rowW k 3620 ∧ (∀ r, r < wds (aB a) → g (k + 1) (fn (aB a) + r) = vI (wyO a kd r)) ∧ SC g ∧ Off f g sRows ∧ ∀ j, j ≠ 4 → j ≠ 5 → j ≠ 6 → g 47 j = f 47 j := by
  obtain ⟨k1, k2, k3⟩ := hK
  rw [e_S_findWays]
  rcases (show kd = 0 ∨ kd = 1 ∨ kd = 2 by omega) with rfl | rfl | rfl
  · obtain ⟨g, e1, e2, e3, e4, e5⟩ := s_findFewest w ha hc hG k1
    refine ⟨g, 48, ?_, RW48, fun r hr => ?_, ⟨e3, CstC_of k2 (e5 5 (by omega)) (e4 51 (by simp)), CstC_of k3 (e5 6 (by omega)) (e4 53 (by simp))⟩, Off.mono e4 (by simp [sRows]), fun j h4 _ _ => e5 j h4⟩
    · rw [if_pos (by decide)]
      simp only [kO_S, kO_W w K47, if_true, e1, cV_v, oo_v, hR_S, hR_W w K47 (by omega) (show R0 47 1 = some 48 from rfl)]
    · obtain ⟨v, q1, q2⟩ := e2 r hr
      rw [q1, lv_of q2]
      rfl
  · obtain ⟨g, e1, e2, e3, e4, e5⟩ := s_settleCosts w ha hc hG k2
    refine ⟨g, 50, ?_, RW50, fun r hr => ?_, ⟨FewC_of k1 (e5 4 (by omega)) (e4 49 (by simp)), e3, CstC_of k3 (e5 6 (by omega)) (e4 53 (by simp))⟩, Off.mono e4 (by simp [sRows]), fun j _ h5 _ => e5 j h5⟩
    · rw [if_neg (by decide), if_pos (by decide)]
      simp only [kO_S, kO_W w K47, if_true, e1, cV_v, oo_v, hR_S, hR_W w K47 (by omega) (show R0 47 2 = some 50 from rfl)]
    · obtain ⟨v, q1, q2⟩ := e2 r hr
      rw [q1, lv_of q2]
      rfl
  · obtain ⟨g, e1, e2, e3, e4, e5⟩ := s_lowerCosts w ha hc hG k3
    refine ⟨g, 52, ?_, RW52, fun r hr => ?_, ⟨FewC_of k1 (e5 4 (by omega)) (e4 49 (by simp)), CstC_of k2 (e5 5 (by omega)) (e4 51 (by simp)), e3⟩, Off.mono e4 (by simp [sRows]), fun j _ _ h6 => e5 j h6⟩
    · rw [if_neg (by decide), if_neg (by decide)]
      simp only [kO_S, kO_W w K47, if_true, e1, cV_v, oo_v, hR_S, hR_W w K47 (by omega) (show R0 47 3 = some 52 from rfl)]
    · obtain ⟨v, q1, q2⟩ := e2 r hr
      rw [q1, lv_of q2]
      rfl
theorem s_wayFrom {a : AS} {f : Nat → Nat → Int32} {kd r : Nat} (w : WF h) (ha : AOK a) (hc : CAt f 1 a) (hG : GOK f (aB a)) (hK : SC f) (hkd : kd < 3) (hr : r < wds (aB a)) :
    ∃ g, f_S_wayFrom 47 1 (nI r) (nI kd) (hS h f) = rI (vI (wyO a kd r)) (hS h g) ∧ SC g ∧ Off f g sRows ∧ ∀ j, j ≠ 4 → j ≠ 5 → j ≠ 6 → g 47 j = f 47 j := by
  have hb := ha.2.1
  have hle := fn_le hb
  obtain ⟨g, k, e1, e2, e3, e4⟩ := s_findWays w ha hc hG hK hkd
  have hc' := CAt_off hc e4.2.1 (by simp [sRows]) (by simp [sRows]) (by simp [sRows])
  refine ⟨g, ?_, e4⟩
  rw [e_S_wayFrom]
  simp only [kO_S, kO_W w K47, if_true, e1, cR_v, oo_v, hI_W (WF_S w) K1, hS_2, hc'.2.1, s_firstNode (show aB a < 7 by omega), cI_v, kO_W w e2.1, i_add, s_get (WF_S w) e2 (show fn (aB a) + r < 3620 by omega), e3 r hr]
end Ways
