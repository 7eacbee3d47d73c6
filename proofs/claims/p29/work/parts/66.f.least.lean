/-! the word of now against those to which its moves lead -/
section Bell
variable {E : Nat → Nat → Option Nat} {p : Nat → Nat → Nat} {goal : Nat → Bool}
def mnL (e v : Nat → Option Nat) (p : Nat → Nat) : Nat → Nat
  | 0 => 1000000
  | m + 1 => match e m with
    | none => mnL e v p m
    | some r' => match v r' with
      | none => mnL e v p m
      | some u => if mnL e v p m ≤ u + p m then mnL e v p m else u + p m
theorem mnL_le {e v : Nat → Option Nat} {p : Nat → Nat} : ∀ n m, m < n → ∀ r' u, e m = some r' → v r' = some u → mnL e v p n ≤ u + p m
  | 0, m, h, _, _, _, _ => by omega
  | n + 1, m, h, r', u, h1, h2 => by
    by_cases hm : m = n
    · subst hm
      unfold mnL
      rw [h1]
      dsimp only
      rw [h2]
      dsimp only
      split <;> omega
    · have ih := mnL_le (p := p) n m (by omega) r' u h1 h2
      unfold mnL
      split
      · exact ih
      · split
        · exact ih
        · split <;> omega
theorem mnL_at {e v : Nat → Option Nat} {p : Nat → Nat} : ∀ n, mnL e v p n = 1000000 ∨ ∃ m r' u, m < n ∧ e m = some r' ∧ v r' = some u ∧ mnL e v p n = u + p m
  | 0 => Or.inl rfl
  | n + 1 => by
    have ih := mnL_at (e := e) (v := v) (p := p) n
    have ih' : mnL e v p n = 1000000 ∨ ∃ m r' u, m < n + 1 ∧ e m = some r' ∧ v r' = some u ∧ mnL e v p n = u + p m := by
      rcases ih with h | ⟨m, r', u, h1, h2⟩
      · exact Or.inl h
      · exact Or.inr ⟨m, r', u, by omega, h2⟩
    unfold mnL
    cases h1 : e n with
    | none => exact ih'
    | some r' =>
      dsimp only
      cases h2 : v r' with
      | none => exact ih'
      | some u =>
        dsimp only
        by_cases hc : mnL e v p n ≤ u + p n
        · rw [if_pos hc]; exact ih'
        · rw [if_neg hc]; exact Or.inr ⟨n, r', u, by omega, h1, h2, rfl⟩
theorem mnL_top {e v : Nat → Option Nat} {p : Nat → Nat} : ∀ n, mnL e v p n ≤ 1000000
  | 0 => Nat.le_refl _
  | n + 1 => by
    have ih := mnL_top (e := e) (v := v) (p := p) n
    unfold mnL
    split
    · exact ih
    · split
      · exact ih
      · split <;> omega
theorem bellman {r : Nat} (hg : goal r = false) (hb : ∀ m r' u, m < 19 → E r m = some r' → lv E p goal r' = some u → u + p r m < 1000000) :
    lv E p goal r = if mnL (E r) (lv E p goal) (p r) 19 = 1000000 then none else some (mnL (E r) (lv E p goal) (p r) 19) := by
  cases hl : lv E p goal r with
  | some w =>
    obtain ⟨m, r', w', a1, a2, a3, a4⟩ := lst_pos hg (lv_eq.1 hl)
    have h1 := mnL_le (p := p r) 19 m a1 r' w' a2 (lv_eq.2 a3)
    have h2 := hb m r' w' a1 a2 (lv_eq.2 a3)
    rw [if_neg (by omega)]
    rcases mnL_at (e := E r) (v := lv E p goal) (p := p r) 19 with h | ⟨m2, r2, u2, b1, b2, b3, b4⟩
    · omega
    · have := lst_edge b1 b2 (lv_eq.1 hl) (lv_eq.1 b3)
      congr 1
      omega
  | none =>
    rcases mnL_at (e := E r) (v := lv E p goal) (p := p r) 19 with h | ⟨m2, r2, u2, b1, b2, b3, b4⟩
    · rw [if_pos h]
    · obtain ⟨w, -, hw⟩ := lst_back b1 b2 (lv_eq.1 b3)
      rw [lv_eq.2 hw] at hl
      cases hl
theorem pt_any {p' : Nat → Nat → Nat} : ∀ (n r w : Nat), Pt E p goal n r w → ∃ w', Pt E p' goal n r w'
  | 0, _, _, h => ⟨0, h.1, rfl⟩
  | n + 1, r, w, h => by
    obtain ⟨m, r', w', a1, a2, a3, _⟩ := h
    obtain ⟨w2, h2⟩ := pt_any (p' := p') n r' w' a3
    exact ⟨p' r m + w2, m, r', w2, a1, a2, h2, rfl⟩
theorem lv_none {p' : Nat → Nat → Nat} {r : Nat} (h : lv E p goal r = none) : lv E p' goal r = none := by
  cases hl : lv E p' goal r with
  | none => rfl
  | some w =>
    obtain ⟨n, hn⟩ := (lv_eq.1 hl).1
    obtain ⟨w', h'⟩ := pt_any (p' := p) n r w hn
    obtain ⟨w2, -, h2⟩ := lst_ex w' n h'
    rw [lv_eq.2 h2] at h
    cases h
end Bell
section LLook
variable {h : pH} {z : ZS}
theorem y_why {m : Nat} (hm : m < 19) (s : Sg h z) : ∃ h1, f_X_whyNot 0 (nI m) h = rI (nI (rsn (aP (zA z)) (aS (zA z)) m)) h1 ∧ Sg h1 z := by
  obtain ⟨h1, e, s1⟩ := x_whyNot (nI m) s
  refine ⟨h1, ?_, s1⟩
  rw [e]
  show rI (if inb (nI m) 19 = true then _ else _) h1 = _
  rw [if_pos (inb_of hm (by omega))]
  simp only [cl, i_clamp (show m < 2147483648 by omega)]
theorem y_leads {m : Nat} (hm : m < 19) (s : Sg h z) : ∃ h1, f_X_leads 0 (nI m) h = rI (if rsn (aP (zA z)) (aS (zA z)) m = 0 then nI (rk (aB (zA z)) (aft (aP (zA z)) m)) else -2) h1 ∧ Sg h1 z := by
  obtain ⟨h1, e, s1⟩ := x_leads (nI m) s
  refine ⟨h1, ?_, s1⟩
  rw [e]
  show rI (if inb (nI m) 19 = true then _ else _) h1 = _
  rw [if_pos (inb_of hm (by omega))]
  simp only [cl, i_clamp (show m < 2147483648 by omega)]
theorem y_cost {m : Nat} (hm : m < 19) (s : Sg h z) : ∃ h1, f_X_cost 0 (nI m) h = rI (if rsn (aP (zA z)) (aS (zA z)) m = 0 then nI (prc (aO (zA z)) (aP (zA z)) m) else -2) h1 ∧ Sg h1 z := by
  obtain ⟨h1, e, s1⟩ := x_cost (nI m) s
  refine ⟨h1, ?_, s1⟩
  rw [e]
  show rI (if inb (nI m) 19 = true then _ else _) h1 = _
  rw [if_pos (inb_of hm (by omega))]
  simp only [cl, i_clamp (show m < 2147483648 by omega)]
theorem y_least {r k : Nat} (hr : r < wds (aB (zA z))) (hk : k < 3) (s : Sg h z) : ∃ h1, f_X_least 0 (nI r) (nI k) h = rI (ansO (wyO (zA z) k r)) h1 ∧ Sg h1 z := by
  have hw := wds_lt s.2.1.1.2.1
  obtain ⟨h1, e, s1⟩ := x_least (nI r) (nI k) s
  refine ⟨h1, ?_, s1⟩
  rw [e]
  show rI (if inb (nI r) (wds (aB (zA z))) = true ∧ inb (nI k) 3 = true then _ else _) h1 = _
  rw [if_pos ⟨inb_of hr (by omega), inb_of hk (by omega)⟩]
  simp only [cl, i_clamp (show r < 2147483648 by omega), i_clamp (show k < 2147483648 by omega)]
end LLook
theorem i_suc (n : Nat) : nI n + 1 = nI (n + 1) := i_add n 1
theorem i_neg {x : Int32} (hx : x = -4 ∨ x = -2 ∨ x = -1 ∨ x = -3) {n : Nat} (hn : n < 2147483648) : nI n ≠ x := by
  intro e
  have h9 := i_nneg hn
  rw [e] at h9
  rcases hx with rfl | rfl | rfl | rfl <;> exact absurd (by decide) h9
section Least
variable {z : ZS}
noncomputable def lsF (a : AS) (m : Nat) : Nat := mnL (ED (aB a) (aS a) (rk (aB a) (aP a))) (wyO a 0) (fun _ => 1) m
noncomputable def lsC (a : AS) (m : Nat) : Nat := mnL (ED (aB a) (aS a) (rk (aB a) (aP a))) (wyO a 1) (pr (aB a) (aO a) (rk (aB a) (aP a))) m
theorem ansO_lt {a : AS} {kd r : Nat} (ha : AOK a) (hr : r < wds (aB a)) : (∃ u, u ≤ 9 * 2519 ∧ wyO a kd r = some u ∧ ansO (wyO a kd r) = nI u) ∨ (wyO a kd r = none ∧ ansO (wyO a kd r) = -4) := by
  cases hu : wyO a kd r with
  | none => exact Or.inr ⟨rfl, rfl⟩
  | some u => exact Or.inl ⟨u, wyO_lt ha hr hu, rfl, rfl⟩
theorem s_least_321 {h : pH} {a : AS} (ha : AOK a) (hr : rk (aB a) (aP a) < wds (aB a)) (hn : inOrd (aP a) (aF a) (aC a) = false) :
    f_L_areLeast_283 (ansO (wyO a 0 (rk (aB a) (aP a)))) (ansO (wyO a 1 (rk (aB a) (aP a)))) (nI (lsF a 19)) (nI (lsC a 19)) 0 1 h = rI 1 h := by
  have hb := ha.2.1
  have ho9 : ∀ s, 1 ≤ s → s ≤ aB a → 1 ≤ aO a s ∧ aO a s ≤ 9 := fun s s1 s2 => (ha.2.2.2.2.2.2.1 s s1 s2).2
  have hg : gol (aB a) (aF a) (aC a) (rk (aB a) (aP a)) = false := by
    unfold gol
    rw [wd_rk hb ha.1]
    exact hn
  have t0 := mnL_top (e := ED (aB a) (aS a) (rk (aB a) (aP a))) (v := wyO a 0) (p := fun _ => 1) 19
  have t1 := mnL_top (e := ED (aB a) (aS a) (rk (aB a) (aP a))) (v := wyO a 1) (p := pr (aB a) (aO a) (rk (aB a) (aP a))) 19
  have e0 : wyO a 0 (rk (aB a) (aP a)) = if lsF a 19 = 1000000 then none else some (lsF a 19) := by
    refine bellman (E := ED (aB a) (aS a)) (p := fun _ _ => 1) hg (fun m r' u hm he hu => ?_)
    have hr' := ED_lt hb _ _ _ hr hm he
    have := wyO_lt (kd := 0) ha hr' hu
    show u + 1 < _
    omega
  have e1 : wyO a 1 (rk (aB a) (aP a)) = if lsC a 19 = 1000000 then none else some (lsC a 19) := by
    refine bellman (E := ED (aB a) (aS a)) (p := pr (aB a) (aO a)) hg (fun m r' u hm he hu => ?_)
    have hr' := ED_lt hb _ _ _ hr hm he
    have h1 := wyO_lt (kd := 1) ha hr' hu
    have h2 := (pr_bd hb ho9 _ _ _ hr hm he).2
    omega
  have t0 : lsF a 19 ≤ 1000000 := t0
  have t1 : lsC a 19 ≤ 1000000 := t1
  have hM : (1000000 : Int32) = nI 1000000 := rfl
  have fin : ∀ {t : Int32}, t = ansO (wyO a 0 (rk (aB a) (aP a))) → f_L_areLeast_321 (ansO (wyO a 1 (rk (aB a) (aP a)))) (nI (lsC a 19)) (ansO (wyO a 0 (rk (aB a) (aP a)))) t h = rI 1 h := by
    rintro t rfl
    rw [e_L_areLeast_321, if_pos rfl, hM]
    rw [e1]
    by_cases hc : lsC a 19 = 1000000
    · rw [if_pos hc, if_pos (by rw [hc]), if_pos (show ansO none = -4 from rfl)]
    · rw [if_neg hc, if_neg (by rw [i_inj (by omega) (by omega)]; exact hc), if_pos (show ansO (some (lsC a 19)) = nI (lsC a 19) from rfl)]
  rw [e_L_areLeast_283, if_neg (by decide), if_pos rfl, hM]
  by_cases hc : lsF a 19 = 1000000
  · rw [if_pos (by rw [hc])]
    exact fin (by rw [e0, if_pos hc]; rfl)
  · rw [if_neg (by rw [i_inj (by omega) (by omega)]; exact hc)]
    exact fin (by rw [e0, if_neg hc]; rfl)
theorem s_least_230 {h : pH} {t : Bool} (s : Sg h z) (ht : inOrd (aP (zA z)) (aF (zA z)) (aC (zA z)) = t) : ∃ h1, f_L_areLeast_230 0 (nI (rk (aB (zA z)) (aP (zA z)))) (ansO (wyO (zA z) 0 (rk (aB (zA z)) (aP (zA z))))) (ansO (wyO (zA z) 1 (rk (aB (zA z)) (aP (zA z))))) (nI (lsF (zA z) 19)) (nI (lsC (zA z) 19)) (nI (cnt (fun m => decide (rsn (aP (zA z)) (aS (zA z)) m = 0)) 19)) (nI t.toNat) h = rI 1 h1 ∧ Sg h1 z := by
  have ha := s.2.1.1
  have hb := ha.2.1
  have hr := rk_lt hb ha.1
  have ho9 : ∀ s, 1 ≤ s → s ≤ aB (zA z) → 1 ≤ aO (zA z) s ∧ aO (zA z) s ≤ 9 := fun s s1 s2 => (ha.2.2.2.2.2.2.1 s s1 s2).2
  obtain ⟨h1, e1, s1⟩ := x_count 11 s
  obtain ⟨h2, e2, s2⟩ := y_least (k := 2) hr (by omega) s1
  refine ⟨h2, ?_, s2⟩
  have h21 : wyO (zA z) 2 (rk (aB (zA z)) (aP (zA z))) = wyO (zA z) 1 (rk (aB (zA z)) (aP (zA z))) := rfl
  have fin : f_L_areLeast_283 (ansO (wyO (zA z) 0 (rk (aB (zA z)) (aP (zA z))))) (ansO (wyO (zA z) 1 (rk (aB (zA z)) (aP (zA z))))) (nI (lsF (zA z) 19)) (nI (lsC (zA z) 19)) (nI t.toNat) 1 h2 = rI 1 h2 := by
    cases t with
    | false => exact s_least_321 ha hr ht
    | true =>
      have hg : gol (aB (zA z)) (aF (zA z)) (aC (zA z)) (rk (aB (zA z)) (aP (zA z))) = true := by
        unfold gol
        rw [wd_rk hb ha.1]
        exact ht
      have g0 : wyO (zA z) 0 (rk (aB (zA z)) (aP (zA z))) = some 0 := lv_eq.2 (lst_goal hg)
      have g1 : wyO (zA z) 1 (rk (aB (zA z)) (aP (zA z))) = some 0 := lv_eq.2 (lst_goal hg)
      rw [e_L_areLeast_283, if_neg (by decide), if_neg (by decide), g0, g1, if_pos (show ansO (some 0) = 0 from rfl), if_pos (show ansO (some 0) = 0 from rfl)]
  rw [e_L_areLeast_230, if_pos (kO7 s), e1, cI_v, ct_11, if_pos rfl, if_pos (kO7 s1), show (2 : Int32) = nI 2 from rfl, e2, cI_v, h21, if_pos rfl]
  rcases ansO_lt (kd := 0) ha hr with ⟨u, u1, u2, u3⟩ | ⟨u2, u3⟩
  · rw [if_neg (by rw [u3]; exact i_neg (Or.inl rfl) (by omega)), e_L_areLeast_264]
    rcases ansO_lt (kd := 1) ha hr with ⟨w, w1, w2, w3⟩ | ⟨w2, w3⟩
    · rw [if_neg (by rw [w3]; exact i_neg (Or.inl rfl) (by omega)), if_pos rfl]
      exact fin
    · have this : wyO (zA z) 0 (rk (aB (zA z)) (aP (zA z))) = none := lv_none (p' := fun _ _ => 1) w2
      rw [u2] at this
      cases this
  · rw [if_pos u3, e_L_areLeast_264]
    have w2 : wyO (zA z) 1 (rk (aB (zA z)) (aP (zA z))) = none := lv_none (p' := pr (aB (zA z)) (aO (zA z))) u2
    rw [if_pos (by rw [w2]; rfl), if_pos rfl]
    exact fin
theorem s_least_34 : ∀ (k m : Nat) (h : pH), m + k = 19 → Sg h z → ∃ h1, f_L_areLeast_34 0 (nI (rk (aB (zA z)) (aP (zA z)))) (ansO (wyO (zA z) 0 (rk (aB (zA z)) (aP (zA z))))) (ansO (wyO (zA z) 1 (rk (aB (zA z)) (aP (zA z))))) (nI (lsF (zA z) m)) (nI (lsC (zA z) m)) (nI (cnt (fun m => decide (rsn (aP (zA z)) (aS (zA z)) m = 0)) m)) (nI m) h = rI 1 h1 ∧ Sg h1 z
  | 0, m, h, hm, s => by
    obtain rfl : m = 19 := by omega
    obtain ⟨h1, e1, s1⟩ := x_count 3 s
    rw [e_L_areLeast_34, if_pos (by decide), if_pos (kO7 s), e1, cI_v, ct_3]
    cases ht : inOrd (aP (zA z)) (aF (zA z)) (aC (zA z)) with
    | true =>
      rw [if_pos (by decide)]
      exact s_least_230 s1 ht
    | false =>
      rw [if_neg (by decide)]
      exact s_least_230 s1 ht
  | k + 1, m, h, hm, s => by
    have ha := s.2.1.1
    have hb := ha.2.1
    have hr := rk_lt hb ha.1
    have hm19 : m < 19 := by omega
    have ho9 : ∀ s, 1 ≤ s → s ≤ aB (zA z) → 1 ≤ aO (zA z) s ∧ aO (zA z) s ≤ 9 := fun s s1 s2 => (ha.2.2.2.2.2.2.1 s s1 s2).2
    have hw := wds_lt hb
    have hrs := rsn_lt (aP (zA z)) (aS (zA z)) m
    have hf := mnL_top (e := ED (aB (zA z)) (aS (zA z)) (rk (aB (zA z)) (aP (zA z)))) (v := wyO (zA z) 0) (p := fun _ => 1) m
    have hc := mnL_top (e := ED (aB (zA z)) (aS (zA z)) (rk (aB (zA z)) (aP (zA z)))) (v := wyO (zA z) 1) (p := pr (aB (zA z)) (aO (zA z)) (rk (aB (zA z)) (aP (zA z)))) m
    have hf : lsF (zA z) m ≤ 1000000 := hf
    have hc : lsC (zA z) m ≤ 1000000 := hc
    have ih := fun h s => s_least_34 k (m + 1) h (by omega) s
    have cS : cnt (fun m => decide (rsn (aP (zA z)) (aS (zA z)) m = 0)) (m + 1) = cnt (fun m => decide (rsn (aP (zA z)) (aS (zA z)) m = 0)) m + (decide (rsn (aP (zA z)) (aS (zA z)) m = 0)).toNat := rfl
    have hE : ED (aB (zA z)) (aS (zA z)) (rk (aB (zA z)) (aP (zA z))) m = if rsn (aP (zA z)) (aS (zA z)) m = 0 then some (rk (aB (zA z)) (aft (aP (zA z)) m)) else none := by
      unfold ED
      rw [wd_rk hb ha.1]
    obtain ⟨h1, e1, s1⟩ := y_why hm19 s
    obtain ⟨h2, e2, s2⟩ := y_leads hm19 s1
    obtain ⟨h3, e3, s3⟩ := y_cost hm19 s2
    rw [e_L_areLeast_34, if_neg (by rw [L19, i_le (by omega) (by omega)]; omega), if_pos (kO7 s), e1, cI_v, if_pos (kO7 s1), e2, cI_v, if_neg (i_nneg (by omega)), if_neg (by rw [show (4 : Int32) = nI 4 from rfl, i_lt (by omega) (by omega)]; omega)]
    by_cases h0 : rsn (aP (zA z)) (aS (zA z)) m = 0
    · have hv := aft_VW hb ha.1 hm19 h0
      have hr' := rk_lt hb hv
      rw [if_pos h0] at e3 hE
      rw [decide_eq_true h0] at cS
      have fS : lsF (zA z) (m + 1) = match wyO (zA z) 0 (rk (aB (zA z)) (aft (aP (zA z)) m)) with
        | none => lsF (zA z) m
        | some u => if lsF (zA z) m ≤ u + 1 then lsF (zA z) m else u + 1 := by
        show (match ED (aB (zA z)) (aS (zA z)) (rk (aB (zA z)) (aP (zA z))) m with
          | none => _
          | some r' => _) = _
        rw [hE]
        rfl
      have hpr : pr (aB (zA z)) (aO (zA z)) (rk (aB (zA z)) (aP (zA z))) m = prc (aO (zA z)) (aP (zA z)) m := by
        unfold pr
        rw [wd_rk hb ha.1]
      have gS : lsC (zA z) (m + 1) = match wyO (zA z) 1 (rk (aB (zA z)) (aft (aP (zA z)) m)) with
        | none => lsC (zA z) m
        | some u => if lsC (zA z) m ≤ u + prc (aO (zA z)) (aP (zA z)) m then lsC (zA z) m else u + prc (aO (zA z)) (aP (zA z)) m := by
        show (match ED (aB (zA z)) (aS (zA z)) (rk (aB (zA z)) (aP (zA z))) m with
          | none => _
          | some r' => _) = _
        rw [hE]
        show (match wyO (zA z) 1 (rk (aB (zA z)) (aft (aP (zA z)) m)) with
          | none => _
          | some u => if _ ≤ u + pr (aB (zA z)) (aO (zA z)) (rk (aB (zA z)) (aP (zA z))) m then _ else u + pr (aB (zA z)) (aO (zA z)) (rk (aB (zA z)) (aP (zA z))) m) = _
        rw [hpr]
        rfl
      have hp := prc_bd ha.1 ho9 hm19 (rsn_0 h0)
      obtain ⟨h4, e4, s4⟩ := y_least (k := 0) hr' (by omega) s3
      obtain ⟨h5, e5, s5⟩ := y_least (k := 1) hr' (by omega) s4
      obtain ⟨h6, e6, s6⟩ := y_cost hm19 s5
      obtain ⟨h7, e7, s7⟩ := y_cost hm19 s6
      rw [if_pos h0] at e6 e7
      rw [if_pos (by rw [h0]; decide), if_pos h0, if_neg (i_neg (Or.inr (Or.inl rfl)) (by omega)), e_L_areLeast_90, if_pos rfl, if_pos (by rw [h0]; decide), e_L_areLeast_103, if_pos (kO7 s2), e3, cI_v, if_neg (i_neg (Or.inr (Or.inl rfl)) (by omega)), e_L_areLeast_119, if_pos rfl, if_pos (by rw [h0]; rfl), if_pos (kO7 s3), show f_X_least 0 (nI (rk (aB (zA z)) (aft (aP (zA z)) m))) 0 h3 = _ from e4, cI_v, if_pos (kO7 s4), show f_X_least 0 (nI (rk (aB (zA z)) (aft (aP (zA z)) m))) 1 h4 = _ from e5, cI_v, i_suc]
      have key : ∀ h, Sg h z → ∀ t : Nat, t = lsF (zA z) (m + 1) → (∃ h1, f_X_cost 0 (nI m) h = rI (nI (prc (aO (zA z)) (aP (zA z)) m)) h1 ∧ Sg h1 z ∧ ∃ h2, f_X_cost 0 (nI m) h1 = rI (nI (prc (aO (zA z)) (aP (zA z)) m)) h2 ∧ Sg h2 z) →
          ∃ h1, f_L_areLeast_173 0 (nI (rk (aB (zA z)) (aP (zA z)))) (ansO (wyO (zA z) 0 (rk (aB (zA z)) (aP (zA z))))) (ansO (wyO (zA z) 1 (rk (aB (zA z)) (aP (zA z))))) (nI (lsC (zA z) m)) (nI (cnt (fun m => decide (rsn (aP (zA z)) (aS (zA z)) m = 0)) m + 1)) (nI m) (ansO (wyO (zA z) 1 (rk (aB (zA z)) (aft (aP (zA z)) m)))) (nI t) h = rI 1 h1 ∧ Sg h1 z := by
        rintro h s t rfl ⟨h8, e8, s8, h9, e9, s9⟩
        rw [e_L_areLeast_173, i_suc]
        rcases ansO_lt (kd := 1) ha hr' with ⟨w, w1, w2, w3⟩ | ⟨w2, w3⟩
        · rw [w2] at gS
          dsimp only at gS
          rw [w3, if_neg (i_nneg (by omega)), if_pos (kO7 s), e8, cI_v, i_add]
          by_cases hle : lsC (zA z) m ≤ w + prc (aO (zA z)) (aP (zA z)) m
          · rw [if_pos hle] at gS
            rw [if_pos ((i_le (by omega) (by omega)).2 hle), ← gS]
            obtain ⟨h10, e10, s10⟩ := ih h8 s8
            rw [cS] at e10
            exact ⟨h10, e10, s10⟩
          · rw [if_neg hle] at gS
            rw [if_neg (fun q => hle ((i_le (by omega) (by omega)).1 q)), if_pos (kO7 s8), e9, cI_v, i_add, ← gS]
            obtain ⟨h10, e10, s10⟩ := ih h9 s9
            rw [cS] at e10
            exact ⟨h10, e10, s10⟩
        · rw [w2] at gS
          dsimp only at gS
          rw [w3, if_pos (by decide), ← gS]
          obtain ⟨h10, e10, s10⟩ := ih h s
          rw [cS] at e10
          exact ⟨h10, e10, s10⟩
      rcases ansO_lt (kd := 0) ha hr' with ⟨u, u1, u2, u3⟩ | ⟨u2, u3⟩
      · rw [u2] at fS
        dsimp only at fS
        rw [u3, if_neg (i_nneg (by omega)), i_suc]
        by_cases hle : lsF (zA z) m ≤ u + 1
        · rw [if_pos hle] at fS
          rw [if_pos ((i_le (by omega) (by omega)).2 hle)]
          exact key h5 s5 _ fS.symm ⟨h6, e6, s6, h7, e7, s7⟩
        · rw [if_neg hle] at fS
          rw [if_neg (fun q => hle ((i_le (by omega) (by omega)).1 q))]
          exact key h5 s5 _ fS.symm ⟨h6, e6, s6, h7, e7, s7⟩
      · rw [u2] at fS
        dsimp only at fS
        rw [u3, if_pos (by decide)]
        exact key h5 s5 _ fS.symm ⟨h6, e6, s6, h7, e7, s7⟩
    · rw [if_neg h0] at e3 hE
      rw [decide_eq_false h0] at cS
      have fS : lsF (zA z) (m + 1) = lsF (zA z) m := by
        show (match ED (aB (zA z)) (aS (zA z)) (rk (aB (zA z)) (aP (zA z))) m with
          | none => _
          | some r' => _) = _
        rw [hE]
        rfl
      have gS : lsC (zA z) (m + 1) = lsC (zA z) m := by
        show (match ED (aB (zA z)) (aS (zA z)) (rk (aB (zA z)) (aP (zA z))) m with
          | none => _
          | some r' => _) = _
        rw [hE]
        rfl
      obtain ⟨h4, e4, s4⟩ := ih h3 s3
      rw [fS, gS, cS] at e4
      refine ⟨h4, ?_, s4⟩
      have h0' : ¬ nI (rsn (aP (zA z)) (aS (zA z)) m) ≤ 0 := by rw [L0, i_le (by omega) (by omega)]; omega
      rw [if_neg h0', if_neg h0, if_pos rfl, e_L_areLeast_90, if_pos rfl, if_neg h0', e_L_areLeast_103, if_pos (kO7 s2), e3, cI_v, if_pos rfl, e_L_areLeast_119, if_pos rfl, if_neg (by rw [i_eq0 (by omega)]; exact h0), i_suc]
      exact e4
theorem s_areLeast {h : pH} (s : Sg h z) : ∃ h1, f_L_areLeast 0 h = rI 1 h1 ∧ Sg h1 z := by
  have ha := s.2.1.1
  have hr := rk_lt ha.2.1 ha.1
  obtain ⟨h1, e1, s1⟩ := x_count 5 s
  obtain ⟨h2, e2, s2⟩ := y_least (k := 0) hr (by omega) s1
  obtain ⟨h3, e3, s3⟩ := y_least (k := 1) hr (by omega) s2
  obtain ⟨h4, e4, s4⟩ := s_least_34 19 0 h3 rfl s3
  refine ⟨h4, ?_, s4⟩
  rw [e_L_areLeast, if_pos (kO7 s), e1, cI_v, ct_5, if_pos (kO7 s1), show f_X_least 0 (nI (rk (aB (zA z)) (aP (zA z)))) 0 h1 = _ from e2, cI_v, if_pos (kO7 s2), show f_X_least 0 (nI (rk (aB (zA z)) (aP (zA z)))) 1 h2 = _ from e3, cI_v]
  exact e4
end Least
