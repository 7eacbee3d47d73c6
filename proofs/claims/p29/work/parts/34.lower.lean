/-! lowerCosts: pass by pass -/
def Lw (b S F C : Nat) (o : Nat → Nat) (d : Nat → Option Nat) (V i r : Nat) (fl : Bool) : Prop :=
  (∀ x v, x < wds b → d x = some v → (∃ n, Pt (ED b S) (pr b o) (gol b F C) n x v) ∧ v ≤ V) ∧
  (∀ x, x < wds b → gol b F C x = true → d x = some 0) ∧
  (∀ n x v, n ≤ i → x < wds b → Pt (ED b S) (pr b o) (gol b F C) n x v → ∃ u, d x = some u ∧ u ≤ v) ∧
  (∀ n x v, n ≤ i → x < r → x < wds b → Pt (ED b S) (pr b o) (gol b F C) n x v → ∀ r' m, r' < wds b → m < 19 → ED b S r' m = some x → ∃ u, d r' = some u ∧ u ≤ pr b o r' m + v) ∧
  (fl = false → ∀ x v, x < r → x < wds b → d x = some v → ∀ r' m, r' < wds b → m < 19 → ED b S r' m = some x → ∃ u, d r' = some u ∧ u ≤ pr b o r' m + v)
theorem Lw_step {b S F C V i r c : Nat} {o : Nat → Nat} {d d' : Nat → Option Nat} {res : Option Nat} {fl : Bool} (hb : b < 6) (ho9 : ∀ s, 1 ≤ s → s ≤ b → 1 ≤ o s ∧ o s ≤ 9) (hr : r < wds b) (hd : d r = some c) (hd' : d' r = some c) (h : Lw b S F C o d V i r fl) (hO : Ob b S o r c d d' res)
    (hcl : ∀ r' m, r' < wds b → m < 19 → ED b S r' m = some r → ∃ u, d' r' = some u ∧ u ≤ c + pr b o r' m) : Lw b S F C o d' (V + 9) i (r + 1) (fl || res.isSome) := by
  obtain ⟨h1, h2, h3, h4, h5⟩ := h
  obtain ⟨o1, o2, o3⟩ := hO
  have hcV := (h1 r c hr hd).2
  refine ⟨fun x v hx hv => ?_, fun x hx hg => ?_, fun n x v hn hx hp => ?_, fun n x v hn hxr hx hp r' m hr' hm hE => ?_, fun hfl x v hxr hx hv r' m hr' hm hE => ?_⟩
  · rcases o2 x hx with e | ⟨m, t', a1, a2, a3, a4, a5⟩
    · rw [e] at hv
      have := h1 x v hx hv
      exact ⟨this.1, by omega⟩
    · rw [a3] at hv
      cases hv
      have hp := pr_bd hb ho9 x m r hx a1 a2
      obtain ⟨n, hn⟩ := (h1 r c hr hd).1
      exact ⟨⟨n + 1, m, r, c, a1, a2, hn, Nat.add_comm _ _⟩, by omega⟩
  · obtain ⟨u, a1, a2⟩ := o1 x 0 hx (h2 x hx hg)
    rw [a1, show u = 0 by omega]
  · obtain ⟨u, a1, a2⟩ := h3 n x v hn hx hp
    obtain ⟨u', a3, a4⟩ := o1 x u hx a1
    exact ⟨u', a3, by omega⟩
  · by_cases hxe : x = r
    · subst hxe
      obtain ⟨u, a1, a2⟩ := hcl r' m hr' hm hE
      obtain ⟨u2, a3, a4⟩ := h3 n x v hn hx hp
      rw [hd] at a3
      cases a3
      exact ⟨u, a1, by omega⟩
    · obtain ⟨u, a1, a2⟩ := h4 n x v hn (by omega) hx hp r' m hr' hm hE
      obtain ⟨u', a3, a4⟩ := o1 r' u hr' a1
      exact ⟨u', a3, by omega⟩
  · rw [Bool.or_eq_false_iff] at hfl
    have hsame : ∀ y, y < wds b → d' y = d y := fun y hy => by
      rcases o2 y hy with e | ⟨m', t', a1, a2, a3, a4, a5⟩
      · exact e
      · rw [a4] at hfl
        exact absurd hfl.2 (by simp)
    by_cases hxe : x = r
    · subst hxe
      rw [hd'] at hv
      cases hv
      obtain ⟨u, a1, a2⟩ := hcl r' m hr' hm hE
      exact ⟨u, a1, by omega⟩
    · rw [hsame x hx] at hv
      rw [hsame r' hr']
      exact h5 hfl.1 x v (by omega) hx hv r' m hr' hm hE
theorem Lw_skip {b S F C V i r : Nat} {o : Nat → Nat} {d : Nat → Option Nat} {fl : Bool} (hd : d r = none) (h : Lw b S F C o d V i r fl) : Lw b S F C o d V i (r + 1) fl := by
  obtain ⟨h1, h2, h3, h4, h5⟩ := h
  refine ⟨h1, h2, h3, fun n x v hn hxr hx hp => ?_, fun hfl x v hxr hx hv => ?_⟩
  · by_cases hxe : x = r
    · subst hxe
      obtain ⟨u, a1, _⟩ := h3 n x v hn hx hp
      rw [hd] at a1
      cases a1
    · exact h4 n x v hn (by omega) hx hp
  · by_cases hxe : x = r
    · subst hxe
      rw [hd] at hv
      cases hv
    · exact h5 hfl x v (by omega) hx hv
theorem Lw_pass {b S F C V i : Nat} {o : Nat → Nat} {d : Nat → Option Nat} {fl : Bool} (hb : b < 6) (h : Lw b S F C o d V i (wds b) fl) : Lw b S F C o d V (i + 1) 0 false ∧ (fl = false → ∀ r, r < wds b → ∀ v, d r = some v ↔ Lst (ED b S) (pr b o) (gol b F C) r v) := by
  obtain ⟨h1, h2, h3, h4, h5⟩ := h
  refine ⟨⟨h1, h2, fun n x v hn hx hp => ?_, fun n x v _ q => absurd q (Nat.not_lt_zero _), fun _ x v q => absurd q (Nat.not_lt_zero _)⟩, fun hfl => ?_⟩
  · cases n with
    | zero => exact ⟨0, h2 x hx hp.1, Nat.zero_le _⟩
    | succ n =>
      obtain ⟨m, y, v', a1, a2, a3, a4⟩ := hp
      have hy := ED_lt hb x m y hx a1 a2
      obtain ⟨u, b1, b2⟩ := h4 n y v' (by omega) hy hy a3 x m hx a1 a2
      exact ⟨u, b1, by omega⟩
  · exact lst_of (ED_lt hb) (fun r v hr hv => (h1 r v hr hv).1) h2 (fun r m x v hr hm hE hv => h5 hfl x v (ED_lt hb r m x hr hm hE) (ED_lt hb r m x hr hm hE) hv r m hr hm hE)
theorem Lw_end {b S F C V i : Nat} {o : Nat → Nat} {d : Nat → Option Nat} {fl : Bool} (hb : b < 6) (ho9 : ∀ s, 1 ≤ s → s ≤ b → 1 ≤ o s ∧ o s ≤ 9) (hi : 2520 ≤ i) (h : Lw b S F C o d V i 0 fl) : ∀ r, r < wds b → ∀ v, d r = some v ↔ Lst (ED b S) (pr b o) (gol b F C) r v := by
  obtain ⟨h1, h2, h3, h4, h5⟩ := h
  have hw := wds_lt hb
  have key : ∀ r v, r < wds b → Lst (ED b S) (pr b o) (gol b F C) r v → d r = some v := fun r v hr hl => by
    obtain ⟨n, hn⟩ := hl.1
    have hs := lst_short (fun r m r' q1 q2 q3 => (pr_bd hb ho9 r m r' q1 q2 q3).1) (ED_lt hb) hr hn hl
    obtain ⟨u, a1, a2⟩ := h3 n r v (by omega) hr hn
    obtain ⟨n', hn'⟩ := (h1 r u hr a1).1
    have := hl.2 n' u hn'
    rw [a1, show u = v by omega]
  intro r hr v
  refine ⟨fun hv => ?_, key r v hr⟩
  obtain ⟨n, hn⟩ := (h1 r v hr hv).1
  obtain ⟨v', _, hl⟩ := lst_ex v n hn
  have := key r v' hr hl
  rw [hv] at this
  cases this
  exact hl
section Lower
variable {h : pH}
theorem s_lower_75 {a : AS} {i : Nat} (w : WF h) (ha : AOK a) (hc : CAt h.2.2 1 a) (hG : GOK h.2.2 (aB a)) (hi : i ≤ 2520) : ∀ (k r : Nat) (g : Nat → Nat → Int32) (d : Nat → Option Nat) (V : Nat) (fl : Bool), r + k = wds (aB a) → Lw (aB a) (aS a) (aF a) (aC a) (aO a) d V i r fl → V + 9 * k < 900000000 → Dt 53 (aB a) g d → Off h.2.2 g [53] →
    ∃ g' d' fl', f_S_lowerCosts_75 47 1 (nI (fn (aB a))) (nI (fn (aB a) + wds (aB a))) (nI fl.toNat) (nI i) (nI (fn (aB a) + r)) (hS h g) = f_S_lowerCosts_56 47 1 (nI (fn (aB a))) (nI (fn (aB a) + wds (aB a))) (nI fl'.toNat) (nI (i + 1)) (hS h g') ∧ Lw (aB a) (aS a) (aF a) (aC a) (aO a) d' (V + 9 * k) (i + 1) 0 false ∧ (fl' = false → ∀ r, r < wds (aB a) → ∀ v, d' r = some v ↔ Lst (ED (aB a) (aS a)) (pr (aB a) (aO a)) (gol (aB a) (aF a) (aC a)) r v) ∧ Dt 53 (aB a) g' d' ∧ Off h.2.2 g' [53]
  | 0, r, g, d, V, fl, hr, hs, hV, hD, ho => by
    have hle := fn_le ha.2.1
    obtain rfl : r = wds (aB a) := by omega
    have hp := Lw_pass ha.2.1 hs
    refine ⟨g, d, fl, ?_, hp.1, hp.2, hD, ho⟩
    rw [e_S_lowerCosts_75, if_pos (by rw [i_le (by omega) (by omega)]; exact Nat.le_refl _), L1, i_add]
  | k + 1, r, g, d, V, fl, hr, hs, hV, hD, ho => by
    have hle := fn_le ha.2.1
    have ho9 : ∀ s, 1 ≤ s → s ≤ aB a → 1 ≤ aO a s ∧ aO a s ≤ 9 := fun s s1 s2 => (ha.2.2.2.2.2.2.1 s s1 s2).2
    rw [e_S_lowerCosts_75, if_neg (by rw [i_le (by omega) (by omega)]; omega)]
    simp only [oo_v, hR_S, hR_W w K47 (by omega) (show R0 47 3 = some 52 from rfl), kO_S, kO_W w RW52.1, kO_W w K47, if_true, s_get (WF_S w) RW52 (show fn (aB a) + r < 3620 by omega), cI_v, hS_2]
    rw [show g (52 + 1) (fn (aB a) + r) = _ from hD r (by omega)]
    cases hd : d r with
    | none =>
      rw [if_pos (show vI none = -1 from rfl), L1, i_add]
      have hV' : Lw (aB a) (aS a) (aF a) (aC a) (aO a) d (V + 9) i (r + 1) fl := by
        obtain ⟨q1, q2⟩ := Lw_skip hd hs
        exact ⟨fun x v hx hv => ⟨(q1 x v hx hv).1, by have := (q1 x v hx hv).2; omega⟩, q2⟩
      have := s_lower_75 w ha hc hG hi k (r + 1) g d (V + 9) fl (by omega) hV' (by omega) hD ho
      rw [show V + 9 + 9 * k = V + 9 * (k + 1) by omega] at this
      exact this
    | some c =>
      have hcV := (hs.1 r c (by omega) hd).2
      obtain ⟨g1, d1, res, e1, e2, e3, e4, e5, e6⟩ := s_offerBack (k2 := 52) w ha (CAt_off hc ho (by simp) (by simp) (by simp)) (GOK_of hG ho (by simp)) (Or.inr rfl) (show r < wds (aB a) by omega) (show V < 1000000000 by omega) hcV (fun x u hx hu => (hs.1 x u hx hu).2) hD hd
      rw [if_neg (by rw [vI_m1 (fun w' e => by cases e; omega)]; simp), e1, cI_v]
      have hst := Lw_step ha.2.1 ho9 (by omega) hd e4 hs e3 e5
      have := s_lower_75 w ha hc hG hi k (r + 1) g1 d1 (V + 9) (fl || res.isSome) (by omega) hst (by omega) e2 (Off.tr ho e6)
      rw [show V + 9 + 9 * k = V + 9 * (k + 1) by omega] at this
      cases hq : res with
      | none =>
        rw [hq, Option.isSome_none, Bool.or_false] at this
        rw [if_pos (show vI none = -1 from rfl), L1, i_add]
        exact this
      | some t =>
        have ht := e3.2.2 t hq
        rw [hq, Option.isSome_some, Bool.or_true] at this
        rw [if_neg (by rw [vI_m1 (fun w' e => by cases e; omega)]; simp), L1, i_add]
        exact this
theorem s_lower_56 {a : AS} (w : WF h) (ha : AOK a) (hc : CAt h.2.2 1 a) (hG : GOK h.2.2 (aB a)) : ∀ (k i : Nat) (g : Nat → Nat → Int32) (d : Nat → Option Nat) (V : Nat) (fl : Bool), i + k = 2521 → Lw (aB a) (aS a) (aF a) (aC a) (aO a) d V i 0 false → (fl = false → ∀ r, r < wds (aB a) → ∀ v, d r = some v ↔ Lst (ED (aB a) (aS a)) (pr (aB a) (aO a)) (gol (aB a) (aF a) (aC a)) r v) → V + 22680 * k < 900000000 → Dt 53 (aB a) g d → Off h.2.2 g [53] →
    ∃ g' d', f_S_lowerCosts_56 47 1 (nI (fn (aB a))) (nI (fn (aB a) + wds (aB a))) (nI fl.toNat) (nI i) (hS h g) = rV (hS h g') ∧ (∀ r, r < wds (aB a) → ∀ v, d' r = some v ↔ Lst (ED (aB a) (aS a)) (pr (aB a) (aO a)) (gol (aB a) (aF a) (aC a)) r v) ∧ Dt 53 (aB a) g' d' ∧ Off h.2.2 g' [53] := by
  have ho9 : ∀ s, 1 ≤ s → s ≤ aB a → 1 ≤ aO a s ∧ aO a s ≤ 9 := fun s s1 s2 => (ha.2.2.2.2.2.2.1 s s1 s2).2
  have hw := wds_lt ha.2.1
  intro k
  induction k with
  | zero =>
    intro i g d V fl hi hs hfl hV hD ho
    refine ⟨g, d, ?_, Lw_end ha.2.1 ho9 (by omega) hs, hD, ho⟩
    rw [e_S_lowerCosts_56]
    cases fl with
    | false => rw [if_pos (by decide)]
    | true => rw [if_neg (by decide), if_pos (by rw [show (2520 : Int32) = nI 2520 from rfl, i_lt (by omega) (by omega)]; omega)]
  | succ k ih =>
    intro i g d V fl hi hs hfl hV hD ho
    cases fl with
    | false =>
      refine ⟨g, d, ?_, hfl rfl, hD, ho⟩
      rw [e_S_lowerCosts_56, if_pos (by decide)]
    | true =>
      obtain ⟨g1, d1, fl1, e1, e2, e3, e4, e5⟩ := s_lower_75 w ha hc hG (show i ≤ 2520 by omega) (wds (aB a)) 0 g d V false (by omega) hs (by omega) hD ho
      obtain ⟨g2, d2, e6, e7⟩ := ih (i + 1) g1 d1 (V + 9 * wds (aB a)) fl1 (by omega) e2 e3 (by omega) e4 e5
      refine ⟨g2, d2, ?_, e7⟩
      have hlt : ¬ ((2520 : Int32) < nI i) := by
        have h2 : i ≤ 2520 := by omega
        rw [show (2520 : Int32) = nI 2520 from rfl, i_lt (a := 2520) (b := i) (by decide) (Nat.lt_of_le_of_lt h2 (by decide))]
        exact Nat.not_lt.2 h2
      rw [e_S_lowerCosts_56, if_neg (by decide), if_neg hlt]
      rw [Nat.add_zero] at e1
      exact e1.trans e6
end Lower
