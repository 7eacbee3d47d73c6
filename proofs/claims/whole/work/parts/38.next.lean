/-! the first move that leads on along a way -/
def nxB (b S : Nat) (v : Nat → Option Nat) (p : Nat → Nat → Nat) (r m : Nat) : Bool := match ED b S r m with
  | none => false
  | some r' => match v r' with
    | none => false
    | some u => decide (v r = some (p r m + u))
def nxL (b S : Nat) (v : Nat → Option Nat) (p : Nat → Nat → Nat) (r : Nat) : Nat → Nat → Option Nat
  | 0, _ => none
  | k + 1, m => if nxB b S v p r m = true then some m else nxL b S v p r k (m + 1)
section Next
variable {h : pH}
theorem s_behind {b r m : Nat} {g : Nat → Nat → Int32} (w : WF h) (hb : b < 6) (hG : GOK g b) (hr : r < wds b) (hm : m < 19) : f_G_behind 36 (nI (fn b + r)) (nI m) (hS h g) = rI (match T b (19 * r + m) with
    | some r => nI (fn b + r)
    | none => -1) (hS h g) := by
  have hle := fn_le hb
  rw [e_G_behind, L19, i_mul, i_add, show (fn b + r) * 19 + m = fn b * 19 + (19 * r + m) by omega]
  simp only [oo_v, hR_S, hR_W w K36 (by omega) (show R0 36 1 = some 39 from rfl), kO_S, kO_W w RW39.1, if_true, s_get (WF_S w) RW39 (show fn b * 19 + (19 * r + m) < 68780 by omega), cI_v, hS_2]
  rw [show g (39 + 1) (fn b * 19 + (19 * r + m)) = _ from hG.2.1 (19 * r + m) (by omega)]
  all_goals (cases T b (19 * r + m) <;> rfl)
theorem s_nextMove_3 {a : AS} {k2 kd r : Nat} {g : Nat → Nat → Int32} {v : Nat → Option Nat} (w : WF h) (ha : AOK a) (hc : CAt g 1 a) (hG : GOK g (aB a)) (hk : rowW k2 3620) (hkd : kd < 3) (hr : r < wds (aB a)) (hD : ∀ r, r < wds (aB a) → g (k2 + 1) (fn (aB a) + r) = vI (v r)) (hv : ∀ r u, r < wds (aB a) → v r = some u → u ≤ 1000000) : ∀ (k m : Nat), m + k = 19 →
    f_S_nextMove_3 47 1 k2 (nI kd) (nI (fn (aB a) + r)) (nI m) (hS h g) = rI (vI (nxL (aB a) (aS a) v (if kd = 0 then fun _ _ => 1 else pr (aB a) (aO a)) r k m)) (hS h g)
  | 0, m, hm => by
    rw [e_S_nextMove_3, L19, if_pos (by rw [i_le (by omega) (by omega)]; omega)]
    rfl
  | k + 1, m, hm => by
    have hb := ha.2.1
    have hle := fn_le hb
    have hSl : aS a < 64 := ha.2.2.1
    have hm19 : m < 19 := by omega
    have ho9 : ∀ s, 1 ≤ s → s ≤ aB a → 1 ≤ aO a s ∧ aO a s ≤ 9 := fun s s1 s2 => (ha.2.2.2.2.2.2.1 s s1 s2).2
    have ih := s_nextMove_3 w ha hc hG hk hkd hr hD hv k (m + 1) (by omega)
    have g38 := hG.1 r hr
    rw [e_S_nextMove_3, if_neg (by rw [L19, i_le (by omega) (by omega)]; omega)]
    simp only [oo_v, hR_S, hR_W w K47 (by omega) (show R0 47 0 = some 36 from rfl), kO_S, kO_W w K36, if_true, s_behind w hb hG hr hm19, cI_v, L1, i_add]
    unfold nxL
    cases hT : T (aB a) (19 * r + m) with
    | none =>
      have hE : nxB (aB a) (aS a) v (if kd = 0 then fun _ _ => 1 else pr (aB a) (aO a)) r m = false := by
        unfold nxB
        cases hE : ED (aB a) (aS a) r m with
        | none => rfl
        | some r' =>
          have := ((ED_T hm19).1 hE).1
          rw [hT] at this
          cases this
      rw [hE]
      dsimp only
      rw [if_pos (by rfl), if_neg (by decide)]
      exact ih
    | some r' =>
      have hr' := T_lt hb (show 19 * r + m < 19 * wds (aB a) by omega) hT
      dsimp only
      rw [if_neg (by rw [show -nI 1 = (-1 : Int32) from rfl]; intro q; have h1 := i_nneg (show fn (aB a) + r' < 2147483648 by omega); rw [q] at h1; exact absurd (by decide) h1)]
      simp only [kO_S, kO_W w hk.1, if_true, s_get (WF_S w) hk (show fn (aB a) + r' < 3620 by omega), cI_v, hS_2, hD r' hr']
      cases hd : v r' with
      | none =>
        have hE : nxB (aB a) (aS a) v (if kd = 0 then fun _ _ => 1 else pr (aB a) (aO a)) r m = false := by
          unfold nxB
          cases hE : ED (aB a) (aS a) r m with
          | none => rfl
          | some r2 =>
            have := ((ED_T hm19).1 hE).1
            rw [hT] at this
            cases this
            simp only [hd]
        rw [hE, if_pos (by rfl), if_neg (by decide)]
        exact ih
      | some u =>
        have hu := hv r' u hr' hd
        rw [if_neg (by rw [show -nI 1 = (-1 : Int32) from rfl, vI_m1 (fun w' e => by cases e; omega)]; simp)]
        simp only [oo_v, hR_S, hR_W w K47 (by omega) (show R0 47 0 = some 36 from rfl), kO_S, kO_W w K36, if_true, hI_W (WF_S w) K1, hS_2, hc.2.2.2.2.1, s_isHeld w hb hr hm19 (show aS a < 2147483648 by omega) g38, cI_v]
        cases hh : hld (wd (aB a) r) (aS a) m with
        | true =>
          have hE : nxB (aB a) (aS a) v (if kd = 0 then fun _ _ => 1 else pr (aB a) (aO a)) r m = false := by
            unfold nxB
            cases hE : ED (aB a) (aS a) r m with
            | none => rfl
            | some r2 =>
              have := ((ED_T hm19).1 hE).2
              rw [hh] at this
              cases this
          rw [hE, if_neg (by decide), if_neg (by decide)]
          exact ih
        | false =>
          have hE0 := (ED_T hm19).2 ⟨hT, hh⟩
          have hrs := ED_rsn hE0
          have hpb := prc_bd (wd_VW hb hr) ho9 hm19 hrs
          have h86 : ∀ t, t ≤ 9 → (if kd = 0 then fun _ _ => 1 else pr (aB a) (aO a)) r m = t → f_S_nextMove_86 47 1 k2 (nI kd) (nI (fn (aB a) + r)) (nI m) (nI (fn (aB a) + r')) (nI t) (hS h g) = rI (vI (if nxB (aB a) (aS a) v (if kd = 0 then fun _ _ => 1 else pr (aB a) (aO a)) r m = true then some m else nxL (aB a) (aS a) v (if kd = 0 then fun _ _ => 1 else pr (aB a) (aO a)) r k (m + 1))) (hS h g) := fun t ht hpt => by
            rw [e_S_nextMove_86]
            simp only [kO_S, kO_W w hk.1, if_true, s_get (WF_S w) hk (show fn (aB a) + r' < 3620 by omega), s_get (WF_S w) hk (show fn (aB a) + r < 3620 by omega), cI_v, hS_2, hD r' hr', hD r hr, hd]
            have hn : nxB (aB a) (aS a) v (if kd = 0 then fun _ _ => 1 else pr (aB a) (aO a)) r m = decide (v r = some (t + u)) := by
              unfold nxB
              rw [hE0]
              simp only [hd, hpt]
            rw [hn, show nI t + vI (some u) = nI (t + u) from i_add t u]
            by_cases hvr : v r = some (t + u)
            · rw [decide_eq_true hvr, if_pos (by rw [hvr]; rfl), if_pos rfl]
              rfl
            · rw [decide_eq_false hvr, if_neg ?_, if_neg (by decide), L1, i_add]
              · exact ih
              · cases hq : v r with
                | none =>
                  intro q
                  have h1 := i_nneg (show t + u < 2147483648 by omega)
                  rw [show nI (t + u) = (-1 : Int32) from q] at h1
                  exact absurd (by decide) h1
                | some x =>
                  have hx := hv r x hr hq
                  intro q
                  rw [show vI (some x) = nI x from rfl, i_inj (by omega) (by omega)] at q
                  rw [hq, q] at hvr
                  exact hvr rfl
          rw [if_pos (by rfl)]
          by_cases hk0 : kd = 0
          · rw [if_pos (by rw [i_eq0 (by omega)]; exact hk0)]
            exact h86 1 (by omega) (by rw [if_pos hk0])
          · rw [if_neg (by rw [i_eq0 (by omega)]; exact hk0)]
            simp only [oo_v, hR_S, hR_W w K47 (by omega) (show R0 47 0 = some 36 from rfl), hR_W w K36 (by omega) (show R0 36 0 = some 37 from rfl), hR_W w K1 (by omega) (show R0 1 3 = some 4 from rfl), kO_S, kO_W w RW37.1, if_true, s_get (WF_S w) RW37 (show fn (aB a) + r < 3620 by omega), cI_v, hS_2]
            rw [show g (37 + 1) (fn (aB a) + r) = _ from g38, s_price (WF_S w) RW4 hb (wd_VW hb hr) (fun s s1 s2 => ⟨hc.2.2.2.1 s s1 s2, (ho9 s s1 s2).2⟩) hm19 hrs, cI_v]
            exact h86 _ hpb.2 (by rw [if_neg hk0]; rfl)
end Next
