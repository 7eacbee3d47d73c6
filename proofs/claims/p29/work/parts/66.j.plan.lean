/-! a plan carried out -/
section PlanM
variable {b S : Nat} {p : Nat → Nat → Nat} {goal : Nat → Bool}
/-- the plan from a word: so many moves, of this price in all -/
def PL (b S : Nat) (v : Nat → Option Nat) (p : Nat → Nat → Nat) (goal : Nat → Bool) : Nat → Nat → Nat → Prop
  | 0, c, r => goal r = true ∧ c = 0
  | n + 1, c, r => ∃ m r' c', nxL b S v p r 19 0 = some m ∧ ED b S r m = some r' ∧ PL b S v p goal n c' r' ∧ c = p r m + c'
theorem nxL_ex {r : Nat} {v : Nat → Option Nat} : ∀ (k m : Nat), m + k = 19 → (∃ m', m ≤ m' ∧ m' < 19 ∧ nxB b S v p r m' = true) → ∃ m', nxL b S v p r k m = some m'
  | 0, m, hm, ⟨m', h1, h2, _⟩ => by omega
  | k + 1, m, hm, ⟨m', h1, h2, h3⟩ => by
    unfold nxL
    by_cases hx : nxB b S v p r m = true
    · exact ⟨m, by rw [if_pos hx]⟩
    · rw [if_neg hx]
      exact nxL_ex k (m + 1) (by omega) ⟨m', by
        by_cases e : m' = m
        · exact absurd (e ▸ h3) hx
        · omega, h2, h3⟩
theorem PL_pt {v : Nat → Option Nat} : ∀ (n c r : Nat), PL b S v p goal n c r → Pt (ED b S) p goal n r c
  | 0, _, _, h => h
  | n + 1, c, r, h => by
    obtain ⟨m, r', c', h1, h2, h3, h4⟩ := h
    exact ⟨m, r', c', (nxL_some 19 0 rfl h1).1, h2, PL_pt n c' r' h3, h4⟩
theorem PL_ex {N : Nat} (hN : N = wds b) (hb : b < 6) (hp : ∀ r m r', r < N → m < 19 → ED b S r m = some r' → 1 ≤ p r m) : ∀ (u r : Nat), r < N → lv (ED b S) p goal r = some u → ∃ n, PL b S (lv (ED b S) p goal) p goal n u r := by
  intro u
  induction u using Nat.strongRecOn with
  | ind u ih =>
    intro r hr hu
    cases hg : goal r with
    | true =>
      have := lst_uniq (lv_eq.1 hu) (lst_goal hg)
      exact ⟨0, hg, this⟩
    | false =>
      obtain ⟨m, r', w', a1, a2, a3, a4⟩ := lst_pos hg (lv_eq.1 hu)
      have hB : nxB b S (lv (ED b S) p goal) p r m = true := by
        unfold nxB
        rw [a2]
        dsimp only
        rw [lv_eq.2 a3]
        dsimp only
        exact decide_eq_true (by rw [hu, a4])
      obtain ⟨m', h1⟩ := nxL_ex 19 0 rfl ⟨m, Nat.zero_le _, a1, hB⟩
      obtain ⟨h2, h3⟩ := nxL_some 19 0 rfl h1
      obtain ⟨r2, u2, b1, b2, b3⟩ := nxB_some h3
      have hp1 := hp r m' r2 hr h2 b1
      rw [hu] at b3
      have hu2 : u = p r m' + u2 := Option.some.inj b3
      obtain ⟨n, hn⟩ := ih u2 (by omega) r2 (by rw [hN]; exact ED_lt hb r m' r2 (by rw [← hN]; exact hr) h2 b1) b2
      exact ⟨n + 1, m', r2, u2, h1, b1, hn, hu2⟩
theorem nxL_goal {r : Nat} (hr : goal r = true) (hp : ∀ m r', m < 19 → ED b S r m = some r' → 1 ≤ p r m) : nxL b S (lv (ED b S) p goal) p r 19 0 = none := by
  cases h : nxL b S (lv (ED b S) p goal) p r 19 0 with
  | none => rfl
  | some m =>
    obtain ⟨h2, h3⟩ := nxL_some 19 0 rfl h
    obtain ⟨r2, u2, b1, b2, b3⟩ := nxB_some h3
    have h4 := hp m r2 h2 b1
    rw [lv_eq.2 (lst_goal hr)] at b3
    have := Option.some.inj b3
    omega
theorem nxL_nil {r : Nat} (hr : lv (ED b S) p goal r = none) : nxL b S (lv (ED b S) p goal) p r 19 0 = none := by
  cases h : nxL b S (lv (ED b S) p goal) p r 19 0 with
  | none => rfl
  | some m =>
    obtain ⟨h2, h3⟩ := nxL_some 19 0 rfl h
    obtain ⟨r2, u2, b1, b2, b3⟩ := nxB_some h3
    rw [hr] at b3
    cases b3
theorem PL_plan {N : Nat} (hN : N = wds b) (hb : b < 6) (hp : ∀ r m r', r < N → m < 19 → ED b S r m = some r' → 1 ≤ p r m) : ∀ (n c r : Nat) (l : Option Nat), r < N → PL b S (lv (ED b S) p goal) p goal n c r → plL b S (lv (ED b S) p goal) p (n + 1) r l = none ∧ ∀ k, 1 ≤ k → k ≤ n → ∃ m, m < 19 ∧ plL b S (lv (ED b S) p goal) p k r l = some m
  | 0, c, r, l, hr, h => by
    refine ⟨?_, fun k k1 k2 => by omega⟩
    unfold plL
    rw [nxL_goal h.1 (fun m r' hm he => hp r m r' hr hm he)]
  | n + 1, c, r, l, hr, h => by
    obtain ⟨m, r', c', h1, h2, h3, h4⟩ := h
    have hm := (nxL_some 19 0 rfl h1).1
    have hr' : r' < N := by rw [hN]; exact ED_lt hb r m r' (by rw [← hN]; exact hr) hm h2
    obtain ⟨i1, i2⟩ := PL_plan hN hb hp n c' r' (some m) hr' h3
    constructor
    · unfold plL
      rw [h1]
      dsimp only
      rw [h2]
      exact i1
    · intro k k1 k2
      obtain ⟨k', rfl⟩ : ∃ k', k = k' + 1 := ⟨k - 1, by omega⟩
      unfold plL
      rw [h1]
      dsimp only
      rw [h2]
      by_cases hk : k' = 0
      · subst hk
        exact ⟨m, hm, rfl⟩
      · exact i2 k' (by omega) (by omega)
theorem PL_one {v : Nat → Option Nat} : ∀ (n c r : Nat), PL b S v (fun _ _ => 1) goal n c r → c = n
  | 0, _, _, h => h.2
  | n + 1, c, r, h => by
    obtain ⟨m, r', c', h1, h2, h3, h4⟩ := h
    have := PL_one n c' r' h3
    have h4 : c = 1 + c' := h4
    omega
end PlanM
/-- the price that is looked at -/
def pkd (a : AS) (kd : Nat) : Nat → Nat → Nat := if kd = 0 then fun _ _ => 1 else pr (aB a) (aO a)
/-- the same books, standing elsewhere -/
def Same (a c : AS) : Prop := aB c = aB a ∧ aS c = aS a ∧ aF c = aF a ∧ aC c = aC a ∧ aL c = aL a ∧ aO c = aO a
theorem Same.wy {a c : AS} (q : Same a c) (kd : Nat) : wyO c kd = wyO a kd := by
  obtain ⟨q1, q2, q3, q4, q5, q6⟩ := q
  funext r
  unfold wyO
  rw [q1, q2, q3, q4, q6]
theorem Same.pk {a c : AS} (q : Same a c) (kd : Nat) : pkd c kd = pkd a kd := by
  obtain ⟨q1, q2, q3, q4, q5, q6⟩ := q
  unfold pkd
  rw [q1, q6]
section PlanW
variable {z : ZS} {kd : Nat}
theorem k01 (hk : kd < 2) : nI kd = 0 ∨ nI kd = 1 := by
  rcases (show kd = 0 ∨ kd = 1 by omega) with rfl | rfl
  · exact Or.inl rfl
  · exact Or.inr rfl
theorem y_plan {t : Nat} {h : pH} (hk : kd < 2) (ht : t < 2147483647) (s : Sg h z) : ∃ h1, f_X_plan 0 (nI kd) (nI t) h = rI (ansO (plL (aB (zA z)) (aS (zA z)) (wyO (zA z) kd) (pkd (zA z) kd) (t + 1) (rk (aB (zA z)) (aP (zA z))) none)) h1 ∧ Sg h1 z := by
  obtain ⟨h1, e, s1⟩ := x_plan (nI kd) (nI t) (k01 hk) s
  refine ⟨h1, ?_, s1⟩
  rw [e]
  show rI (if 0 ≤ nI t then _ else _) h1 = _
  rw [if_pos (by rw [L0, i_le (by omega) (by omega)]; omega)]
  simp only [cl, i_clamp (show kd < 2147483648 by omega), i_clamp (show t < 2147483648 by omega)]
  rfl
theorem ansO_some {o : Option Nat} {m : Nat} (h : o = some m) : ansO o = nI m := by rw [h]; rfl
theorem pk_bd {a : AS} (ha : AOK a) (kd : Nat) : ∀ r m r', r < wds (aB a) → m < 19 → ED (aB a) (aS a) r m = some r' → 1 ≤ pkd a kd r m := fun r m r' q1 q2 q3 =>
  (kd_bd (S := aS a) (kd := kd) ha.2.1 (fun s s1 s2 => (ha.2.2.2.2.2.2.1 s s1 s2).2) r m r' q1 q2 q3).1
/-- the end of it -/
theorem s_plan_195 {a : AS} {n u : Nat} {h : pH} (hk : kd < 2) (s : Sg h z) (hs : zS z = some a) (hn1 : 1 ≤ n) (hn : n ≤ 60) (hpl : PL (aB a) (aS a) (wyO a kd) (pkd a kd) (gol (aB a) (aF a) (aC a)) n u (rk (aB a) (aP a))) :
    ∃ h1 z', f_L_isPlan_195 0 (nI kd) (nI (rk (aB a) (aP a))) (aM a) (nI (rk (aB a) (aP a))) (nI n) 1 h = rI 1 h1 ∧ Sg h1 z' := by
  have ha : AOK a := s.2.1.2.2.1 a hs
  have hb := ha.2.1
  have hr := rk_lt hb ha.1
  obtain ⟨h1, e1, s1⟩ := x_restore s
  have hR : sRestore z = (nI (rk (aB a) (aP a)), chg z a) := by
    unfold sRestore
    rw [hs]
  rw [hR] at e1 s1
  obtain ⟨h2, e2, s2⟩ := x_count 8 s1
  obtain ⟨h3, e3, s3⟩ := y_plan (t := n) hk (by omega) s2
  obtain ⟨h4, e4, s4⟩ := y_plan (t := n - 1) hk (by omega) s3
  obtain ⟨p1, p2⟩ := PL_plan (N := wds (aB a)) rfl hb (pk_bd ha kd) n u _ none hr hpl
  obtain ⟨m, m1, m2⟩ := p2 n hn1 (Nat.le_refl _)
  have e2 : f_X_count 0 8 h1 = rI (aM a) h2 := e2
  have e3 : f_X_plan 0 (nI kd) (nI n) h2 = rI (-4) h3 := by
    rw [e3]
    show rI (ansO (plL (aB a) (aS a) (wyO a kd) (pkd a kd) (n + 1) (rk (aB a) (aP a)) none)) h3 = _
    rw [show plL (aB a) (aS a) (wyO a kd) (pkd a kd) (n + 1) (rk (aB a) (aP a)) none = none from p1]
    rfl
  have e4 : f_X_plan 0 (nI kd) (nI (n - 1)) h3 = rI (nI m) h4 := by
    rw [e4]
    show rI (ansO (plL (aB a) (aS a) (wyO a kd) (pkd a kd) (n - 1 + 1) (rk (aB a) (aP a)) none)) h4 = _
    rw [Nat.sub_add_cancel hn1, ansO_some (show plL (aB a) (aS a) (wyO a kd) (pkd a kd) n (rk (aB a) (aP a)) none = some m from m2)]
  refine ⟨h4, _, ?_, s4⟩
  rw [e_L_isPlan_195, if_neg (by decide), if_pos rfl, if_pos (kO7 s), e1, cI_v, if_pos rfl, if_pos (kO7 s1), e2, cI_v, if_pos rfl, if_pos (kO7 s2), e3, cI_v, if_pos rfl, if_pos (kO7 s3), L1, i_sub hn1, e4, cI_v, if_neg (i_nneg (by omega))]
theorem s_plan_145 {a : AS} {n u : Nat} {h : pH} (hk : kd < 2) (s : Sg h z) (hs : zS z = some a) (hn1 : 1 ≤ n) (hn : n ≤ 60) (hq : Same a (zA z)) (hg : inOrd (aP (zA z)) (aF (zA z)) (aC (zA z)) = true) (hM : aM (zA z) = aM a + nI n) (hE : kd = 1 → aE (zA z) = aE a + nI u) (hN : kd = 0 → u = n) (hpl : PL (aB a) (aS a) (wyO a kd) (pkd a kd) (gol (aB a) (aF a) (aC a)) n u (rk (aB a) (aP a))) :
    ∃ h1 z', f_L_isPlan_145 0 (nI kd) (nI (rk (aB a) (aP a))) (nI u) (aM a) (aE a) (nI (rk (aB a) (aP a))) (nI n) h = rI 1 h1 ∧ Sg h1 z' := by
  obtain ⟨h1, e1, s1⟩ := x_count 3 s
  obtain ⟨h2, e2, s2⟩ := x_count 8 s1
  rw [e_L_isPlan_145, if_pos (kO7 s), e1, cI_v, ct_3, hg, if_pos (show nI true.toNat = 1 from rfl), if_pos (kO7 s1), e2, cI_v, ct_8, if_pos hM]
  rcases (show kd = 0 ∨ kd = 1 by omega) with rfl | rfl
  · rw [if_pos (show nI 0 = 0 from rfl), if_pos (by rw [hN rfl])]
    exact s_plan_195 hk s2 hs hn1 hn hpl
  · obtain ⟨h3, e3, s3⟩ := x_count 9 s2
    rw [if_neg (show ¬ nI 1 = 0 by decide), if_pos (kO7 s2), e3, cI_v, ct_9, if_pos (by rw [hE rfl, Int32.add_comm, Int32.add_sub_cancel])]
    exact s_plan_195 hk s3 hs hn1 hn hpl
theorem s_plan_68 {a : AS} {n0 u : Nat} (hk : kd < 2) (ha : AOK a) (hn1 : 1 ≤ n0) (hn0 : n0 ≤ 60) (hN0 : kd = 0 → u = n0) (hpl0 : PL (aB a) (aS a) (wyO a kd) (pkd a kd) (gol (aB a) (aF a) (aC a)) n0 u (rk (aB a) (aP a))) :
    ∀ (N n c : Nat) (z : ZS) (h : pH), n + N = n0 → Sg h z → zS z = some a → Same a (zA z) → aM (zA z) = aM a + nI n → (kd = 1 → aE (zA z) + nI c = aE a + nI u) → PL (aB a) (aS a) (wyO a kd) (pkd a kd) (gol (aB a) (aF a) (aC a)) N c (rk (aB a) (aP (zA z))) →
    ∃ h1 z', f_L_isPlan_68 0 (nI kd) (nI (rk (aB a) (aP a))) (nI u) (aM a) (aE a) (nI (rk (aB a) (aP a))) (nI n) h = rI 1 h1 ∧ Sg h1 z'
  | 0, n, c, z, h, hn, s, hs, hq, hM, hE, hpl => by
    obtain rfl : n = n0 := by omega
    have hb := ha.2.1
    have hv : VW (aB a) (aP (zA z)) := by rw [← hq.1]; exact s.2.1.1.1
    have hg : inOrd (aP (zA z)) (aF (zA z)) (aC (zA z)) = true := by
      have := hpl.1
      unfold gol at this
      rw [wd_rk hb hv] at this
      rw [hq.2.2.1, hq.2.2.2.1]
      exact this
    have hE' : kd = 1 → aE (zA z) = aE a + nI u := fun e => by
      have := hE e
      rw [hpl.2, show nI 0 = 0 from rfl, Int32.add_zero] at this
      exact this
    obtain ⟨h1, e1, s1⟩ := x_count 3 s
    rw [e_L_isPlan_68]
    by_cases h60 : n = 60
    · rw [if_pos (by rw [L60, i_le (by omega) (by omega)]; omega)]
      exact s_plan_145 hk s hs hn1 hn0 hq hg hM hE' hN0 hpl0
    · rw [if_neg (by rw [L60, i_le (by omega) (by omega)]; omega), if_pos (kO7 s), e1, cI_v, ct_3, hg, if_neg (show ¬ nI true.toNat = 0 by decide)]
      exact s_plan_145 hk s1 hs hn1 hn0 hq hg hM hE' hN0 hpl0
  | N + 1, n, c, z, h, hn, s, hs, hq, hM, hE, hpl => by
    have hb := ha.2.1
    have hv : VW (aB a) (aP (zA z)) := by rw [← hq.1]; exact s.2.1.1.1
    have hr := rk_lt hb hv
    obtain ⟨m, r', c', h1, h2, h3, h4⟩ := id hpl
    have hm := (nxL_some 19 0 rfl h1).1
    have hng : inOrd (aP (zA z)) (aF (zA z)) (aC (zA z)) = false := by
      cases hi : inOrd (aP (zA z)) (aF (zA z)) (aC (zA z)) with
      | false => rfl
      | true =>
        exfalso
        have hg : gol (aB a) (aF a) (aC a) (rk (aB a) (aP (zA z))) = true := by
          unfold gol
          rw [wd_rk hb hv, ← hq.2.2.1, ← hq.2.2.2.1]
          exact hi
        have := nxL_goal (S := aS a) (p := pkd a kd) hg (fun m r' hm he => pk_bd ha kd _ m r' hr hm he)
        rw [show nxL (aB a) (aS a) (lv (ED (aB a) (aS a)) (pkd a kd) (gol (aB a) (aF a) (aC a))) (pkd a kd) (rk (aB a) (aP (zA z))) 19 0 = some m from h1] at this
        cases this
    obtain ⟨g1, e1, s1⟩ := x_count 3 s
    obtain ⟨g2, e2, s2⟩ := y_plan (t := 0) hk (by omega) s1
    obtain ⟨g3, e3, s3⟩ := y_moves hm s2
    have hED := h2
    unfold ED at hED
    rw [wd_rk hb hv] at hED
    have h0 : rsn (aP (zA z)) (aS a) m = 0 := by
      by_cases c0 : rsn (aP (zA z)) (aS a) m = 0
      · exact c0
      · rw [if_neg c0] at hED
        cases hED
    rw [if_pos h0] at hED
    have hr' : r' = rk (aB a) (aft (aP (zA z)) m) := (Option.some.inj hED).symm
    have h0' : rsn (aP (zA z)) (aS (zA z)) m = 0 := by rw [hq.2.1]; exact h0
    have e2 : f_X_plan 0 (nI kd) 0 g1 = rI (nI m) g2 := by
      have e2 : f_X_plan 0 (nI kd) 0 g1 = _ := e2
      rw [e2, hq.wy, hq.pk, hq.1, hq.2.1, ansO_some (m := m)]
      unfold plL
      rw [h1]
      dsimp only
      rw [h2]
      rfl
    rw [mv_yes h0'] at s3
    obtain ⟨g4, z', e4, s4⟩ := s_plan_68 hk ha hn1 hn0 hN0 hpl0 N (n + 1) c' _ g3 (by omega) s3 hs ⟨hq.1, hq.2.1, hq.2.2.1, hq.2.2.2.1, hq.2.2.2.2.1, hq.2.2.2.2.2⟩ (by
      show aM (zA z) + 1 = aM a + nI (n + 1)
      rw [hM, Int32.add_assoc, i_suc]) (fun e => by
      show aE (zA z) + nI (prc (aO (zA z)) (aP (zA z)) m) + nI c' = aE a + nI u
      rw [← hE e, Int32.add_assoc, i_add, h4]
      congr 2
      rw [e]
      show _ = pr (aB a) (aO a) (rk (aB a) (aP (zA z))) m + c'
      unfold pr
      rw [wd_rk hb hv, hq.2.2.2.2.2]) (by
      show PL _ _ _ _ _ N c' (rk (aB a) (aft (aP (zA z)) m))
      rw [← hr']
      exact h3)
    refine ⟨g4, z', ?_, s4⟩
    rw [e_L_isPlan_68, if_neg (by rw [L60, i_le (by omega) (by omega)]; omega), if_pos (kO7 s), e1, cI_v, ct_3, hng, if_pos (show nI false.toNat = 0 from rfl), if_pos (kO7 s1), e2, cI_v, if_neg (i_nneg (by omega)), if_pos (by rw [show (18 : Int32) = nI 18 from rfl, i_le (by omega) (by omega)]; omega), e3, cI_v, e_L_isPlan_113]
    by_cases h7 : m < 7
    · rw [if_neg (by rw [L7, i_le (by omega) (by omega)]; omega), if_pos (show m < 7 ∧ _ = 0 from ⟨h7, h0'⟩), if_pos (by
        have := gap_lt (P := aP (zA z)) h7
        rw [show (10 : Int32) = nI 10 from rfl, i_le (by omega) (by omega)]
        omega), i_suc]
      exact e4
    · rw [if_pos (by rw [L7, i_le (by omega) (by omega)]; omega), if_neg (show ¬ (m < 7 ∧ rsn (aP (zA z)) (aS (zA z)) m = 0) from fun q => h7 q.1), if_pos (show nI (rsn (aP (zA z)) (aS (zA z)) m) = 0 by rw [h0']; rfl), i_suc]
      exact e4
theorem s_isPlan {h : pH} (hk : kd < 2) (s : Sg h z) : ∃ h1 z', f_L_isPlan 0 (nI kd) h = rI 1 h1 ∧ Sg h1 z' := by
  have ha := s.2.1.1
  have hb := ha.2.1
  have hr := rk_lt hb ha.1
  have hO : ∀ s, 1 ≤ s → s ≤ aB (zA z) → 1 ≤ aO (zA z) s ∧ aO (zA z) s ≤ 9 := fun s s1 s2 => (ha.2.2.2.2.2.2.1 s s1 s2).2
  obtain ⟨h1, e1, s1⟩ := x_count 5 s
  have key : ∀ k : Int32, k = nI kd → ∃ h2 z', f_L_isPlan_17 0 (nI kd) (nI (rk (aB (zA z)) (aP (zA z)))) 0 (nI (rk (aB (zA z)) (aP (zA z)))) k h1 = rI 1 h2 ∧ Sg h2 z' := by
    rintro k rfl
    obtain ⟨h2, e2, s2⟩ := y_least (k := kd) hr (by omega) s1
    obtain ⟨h3, e3, s3⟩ := x_count 8 s2
    obtain ⟨h4, e4, s4⟩ := x_count 9 s3
    rw [e_L_isPlan_17, if_pos (kO7 s1), e2, cI_v, if_pos (kO7 s2), e3, cI_v, ct_8, if_pos (kO7 s3), e4, cI_v, ct_9]
    have none1 : nxL (aB (zA z)) (aS (zA z)) (wyO (zA z) kd) (pkd (zA z) kd) (rk (aB (zA z)) (aP (zA z))) 19 0 = none → ∃ h5, f_X_plan 0 (nI kd) 0 h4 = rI (-4) h5 ∧ Sg h5 z := fun hx => by
      obtain ⟨h5, e5, s5⟩ := y_plan (t := 0) hk (by omega) s4
      refine ⟨h5, ?_, s5⟩
      have e5 : f_X_plan 0 (nI kd) 0 h4 = _ := e5
      rw [e5]
      unfold plL
      rw [hx]
      rfl
    rcases ansO_lt (kd := kd) ha hr with ⟨u, u1, u2, u3⟩ | ⟨u2, u3⟩
    · rw [u3]
      by_cases hu : u = 0
      · subst hu
        have hg := (lvK_0 (S := aS (zA z)) (F := aF (zA z)) (C := aC (zA z)) (kd := kd) hb hO hr).1 u2
        obtain ⟨h5, e5, s5⟩ := none1 (nxL_goal (p := pkd (zA z) kd) hg (fun m r' hm he => pk_bd ha kd _ m r' hr hm he))
        exact ⟨h5, z, by rw [if_neg (by decide), if_pos (kO7 s4), e5, cI_v, if_pos rfl], s5⟩
      · obtain ⟨n0, hn⟩ := PL_ex (N := wds (aB (zA z))) rfl hb (pk_bd ha kd) u _ hr u2
        have hpt := PL_pt n0 u _ hn
        have h60 : n0 ≤ 60 := opt_short (kd := kd) hb hO ha.2.2.2.1 ha.2.2.2.2.1 ha.2.2.2.2.2.1 hr hpt (lv_eq.1 u2)
        have hn1 : 1 ≤ n0 := by
          cases n0 with
          | zero => exact absurd hn.2 hu
          | succ n => omega
        obtain ⟨h5, e5, s5⟩ := x_save s4
        have hS : sSave z = (nI (rk (aB (zA z)) (aP (zA z))), (zA z, zH z, some (zA z), zN z, zL z)) := rfl
        rw [hS] at e5 s5
        rw [if_pos (by rw [L1, i_le (by omega) (by omega)]; omega), if_pos (kO7 s4), e5, cI_v]
        exact s_plan_68 hk ha hn1 h60 (fun e => by subst e; exact PL_one n0 u _ hn) hn n0 0 u _ h5 (by omega) s5 rfl ⟨rfl, rfl, rfl, rfl, rfl, rfl⟩ (by
          show aM (zA z) = aM (zA z) + nI 0
          rw [show nI 0 = 0 from rfl, Int32.add_zero]) (fun _ => rfl) hn
    · obtain ⟨h5, e5, s5⟩ := none1 (nxL_nil (p := pkd (zA z) kd) u2)
      exact ⟨h5, z, by rw [u3, if_neg (by decide), if_pos (kO7 s4), e5, cI_v, if_pos rfl], s5⟩
  rw [e_L_isPlan, if_pos (kO7 s), e1, cI_v, ct_5]
  rcases (show kd = 0 ∨ kd = 1 by omega) with rfl | rfl
  · rw [if_pos (show nI 0 = 0 from rfl)]
    exact key 0 rfl
  · rw [if_neg (show ¬ nI 1 = 0 by decide)]
    exact key 1 rfl
end PlanW
