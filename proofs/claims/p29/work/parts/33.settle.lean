/-! settleCosts: prices in their order -/
def mxN (H : Nat) (x : Option Nat) : Nat := match x with
  | none => H
  | some t => max H t
theorem mxN_ge (H : Nat) (x : Option Nat) : H ≤ mxN H x := by
  cases x with
  | none => exact Nat.le_refl _
  | some t => exact Nat.le_max_left _ _
theorem imax_v2 {x : Option Nat} {H : Nat} (hH : H < 2147483648) (hx : ∀ t, x = some t → t < 2147483648) : imax (nI H) (vI x) = nI (mxN H x) := by
  cases x with
  | none =>
    show imax (nI H) (-1) = nI H
    unfold imax
    rw [if_neg (by
      rw [Int32.lt_iff_toInt_lt, i_toInt hH]
      have : (-1 : Int32).toInt = -1 := by decide
      omega)]
  | some t => exact imax_n hH (hx t rfl)
/-- prices that stand up to level t, and at level t for words under r -/
def St (b S F C : Nat) (o : Nat → Nat) (d : Nat → Option Nat) (H t r : Nat) : Prop :=
  (∀ x v, x < wds b → d x = some v → (∃ n, Pt (ED b S) (pr b o) (gol b F C) n x v) ∧ v ≤ H ∧ v ≤ 22700) ∧
  (∀ x, x < wds b → gol b F C x = true → d x = some 0) ∧
  (∀ x v, x < wds b → d x = some v → v < t ∨ (v = t ∧ x < r) → ∀ r' m, r' < wds b → m < 19 → ED b S r' m = some x → ∃ u, d r' = some u ∧ u ≤ pr b o r' m + v)
theorem St_step {b S F C H t r : Nat} {o : Nat → Nat} {d d' : Nat → Option Nat} {res : Option Nat} (hb : b < 6) (ho9 : ∀ s, 1 ≤ s → s ≤ b → 1 ≤ o s ∧ o s ≤ 9) (ht : t ≤ 22680) (hr : r < wds b) (hd : d r = some t) (h : St b S F C o d H t r) (hO : Ob b S o r t d d' res)
    (hcl : ∀ r' m, r' < wds b → m < 19 → ED b S r' m = some r → ∃ u, d' r' = some u ∧ u ≤ t + pr b o r' m) : St b S F C o d' (mxN H res) t (r + 1) := by
  obtain ⟨h1, h2, h3⟩ := h
  obtain ⟨o1, o2, o3⟩ := hO
  have hge := mxN_ge H res
  refine ⟨fun x v hx hv => ?_, fun x hx hg => ?_, fun x v hx hv hvt r' m hr' hm hE => ?_⟩
  · rcases o2 x hx with e | ⟨m, t', a1, a2, a3, a4, a5⟩
    · rw [e] at hv
      have := h1 x v hx hv
      exact ⟨this.1, by omega, this.2.2⟩
    · rw [a3] at hv
      cases hv
      have hp := pr_bd hb ho9 x m r hx a1 a2
      obtain ⟨n, hn⟩ := (h1 r t hr hd).1
      refine ⟨⟨n + 1, m, r, t, a1, a2, hn, Nat.add_comm _ _⟩, ?_, by omega⟩
      subst a4
      have : t' ≤ mxN H (some t') := Nat.le_max_right _ _
      omega
  · obtain ⟨u, a1, a2⟩ := o1 x 0 hx (h2 x hx hg)
    rw [a1, show u = 0 by omega]
  · have hdx : d x = some v := by
      rcases o2 x hx with e | ⟨m', t', a1, a2, a3, a4, a5⟩
      · rw [← e]; exact hv
      · rw [a3] at hv
        cases hv
        have hp := pr_bd hb ho9 x m' r hx a1 a2
        omega
    by_cases hxr : x = r
    · subst hxr
      rw [hd] at hdx
      cases hdx
      obtain ⟨u, a1, a2⟩ := hcl r' m hr' hm hE
      exact ⟨u, a1, by omega⟩
    · obtain ⟨u, a1, a2⟩ := h3 x v hx hdx (by omega) r' m hr' hm hE
      obtain ⟨u', a3, a4⟩ := o1 r' u hr' a1
      exact ⟨u', a3, by omega⟩
theorem St_end {b S F C H t : Nat} {o : Nat → Nat} {d : Nat → Option Nat} (hb : b < 6) (ho9 : ∀ s, 1 ≤ s → s ≤ b → 1 ≤ o s ∧ o s ≤ 9) (h : St b S F C o d H t 0) (ht : H < t ∨ 22680 < t) : ∀ r, r < wds b → ∀ v, d r = some v ↔ Lst (ED b S) (pr b o) (gol b F C) r v := by
  obtain ⟨h1, h2, h3⟩ := h
  have hbd := pr_bd (S := S) hb ho9
  rcases ht with ht | ht
  · refine lst_of (ED_lt hb) (fun r v hr hv => (h1 r v hr hv).1) h2 (fun r m x v hr hm hE hv => ?_)
    have hx := ED_lt hb r m x hr hm hE
    exact h3 x v hx hv (Or.inl (by have := (h1 x v hx hv).2.1; omega)) r m hr hm hE
  · have hw := wds_lt hb
    have key : ∀ n r v, r < wds b → Pt (ED b S) (pr b o) (gol b F C) n r v → Lst (ED b S) (pr b o) (gol b F C) r v → d r = some v := by
      intro n
      induction n with
      | zero => exact fun r v hr hp hl => by rw [hp.2]; exact h2 r hr hp.1
      | succ n ih =>
        intro r v hr hp hl
        obtain ⟨m, x, v', a1, a2, a3, a4, a5⟩ := lst_step hp hl
        have hx := ED_lt hb r m x hr a1 a2
        have hdx := ih x v' hx a3 a4
        have hv' := lst_le (B := 9) (fun r m r' q1 q2 q3 => (hbd r m r' q1 q2 q3).1) (fun r m r' q1 q2 q3 => (hbd r m r' q1 q2 q3).2) (ED_lt hb) hx a4
        obtain ⟨u, b1, b2⟩ := h3 x v' hx hdx (Or.inl (by omega)) r m hr a1 a2
        obtain ⟨n', hn'⟩ := (h1 r u hr b1).1
        have := hl.2 n' u hn'
        rw [b1, show u = v by omega]
    intro r hr v
    refine ⟨fun hv => ?_, fun hl => ?_⟩
    · obtain ⟨n, hn⟩ := (h1 r v hr hv).1
      obtain ⟨v', _, hl⟩ := lst_ex v n hn
      obtain ⟨n', hn'⟩ := hl.1
      have := key n' r v' hr hn' hl
      rw [hv] at this
      cases this
      exact hl
    · obtain ⟨n', hn'⟩ := hl.1
      exact key n' r v hr hn' hl
section Settle
variable {h : pH}
theorem s_offerBack {a : AS} {k2 x c V : Nat} {f : Nat → Nat → Int32} {d : Nat → Option Nat} (w : WF h) (ha : AOK a) (hc : CAt f 1 a) (hG : GOK f (aB a)) (hk : k2 = 50 ∨ k2 = 52) (hx : x < wds (aB a)) (hV : V < 1000000000) (hcV : c ≤ V) (hd : ∀ r u, r < wds (aB a) → d r = some u → u ≤ V) (hD : Dt (k2 + 1) (aB a) f d) (hdx : d x = some c) :
    ∃ g' d' res', f_S_offerBack 47 1 k2 (nI (fn (aB a) + x)) (hS h f) = rI (vI res') (hS h g') ∧ Dt (k2 + 1) (aB a) g' d' ∧ Ob (aB a) (aS a) (aO a) x c d d' res' ∧ d' x = some c ∧ (∀ r m, r < wds (aB a) → m < 19 → ED (aB a) (aS a) r m = some x → ∃ u, d' r = some u ∧ u ≤ c + pr (aB a) (aO a) r m) ∧ Off f g' [k2 + 1] := by
  have hle := fn_le ha.2.1
  obtain ⟨g', d', res', e⟩ := s_offerBack_16 (h := hS h f) w ha hc hG hk hx hV hcV hd (cN (aB a) x (19 * wds (aB a))) 0 f d none (by omega) hD Ob_rf hdx (fun _ _ _ _ q => absurd q (Nat.not_lt_zero _)) Off.rf
  refine ⟨g', d', res', ?_, e.2⟩
  rw [e_S_offerBack]
  simp only [oo_v, hR_S, hR_W w K47 (by omega) (show R0 47 0 = some 36 from rfl), hR_W w K36 (by omega) (show R0 36 3 = some 43 from rfl), kO_S, kO_W w RW43.1, if_true, s_get (WF_S w) RW43 (show fn (aB a) + x < 3620 by omega), cI_v, hS_2]
  rw [show f (43 + 1) (fn (aB a) + x) = _ from hG.2.2.1 x hx]
  exact e.1
theorem s_settle_74 {a : AS} {t : Nat} (w : WF h) (ha : AOK a) (hc : CAt h.2.2 1 a) (hG : GOK h.2.2 (aB a)) (ht : t ≤ 22680) : ∀ (k r : Nat) (g : Nat → Nat → Int32) (d : Nat → Option Nat) (H : Nat), r + k = wds (aB a) → St (aB a) (aS a) (aF a) (aC a) (aO a) d H t r → H ≤ 22700 → Dt 51 (aB a) g d → Off h.2.2 g [51] →
    ∃ g' d' H', f_S_settleCosts_74 47 1 (nI (fn (aB a))) (nI (fn (aB a) + wds (aB a))) (nI H) (nI t) (nI (fn (aB a) + r)) (hS h g) = f_S_settleCosts_56 47 1 (nI (fn (aB a))) (nI (fn (aB a) + wds (aB a))) (nI H') (nI (t + 1)) (hS h g') ∧ St (aB a) (aS a) (aF a) (aC a) (aO a) d' H' (t + 1) 0 ∧ H' ≤ 22700 ∧ Dt 51 (aB a) g' d' ∧ Off h.2.2 g' [51]
  | 0, r, g, d, H, hr, hs, hH, hD, ho => by
    have hle := fn_le ha.2.1
    obtain rfl : r = wds (aB a) := by omega
    refine ⟨g, d, H, ?_, ⟨hs.1, hs.2.1, fun x v hx hv hvt => hs.2.2 x v hx hv (by omega)⟩, hH, hD, ho⟩
    rw [e_S_settleCosts_74, if_pos (by rw [i_le (by omega) (by omega)]; exact Nat.le_refl _), L1, i_add]
  | k + 1, r, g, d, H, hr, hs, hH, hD, ho => by
    have hle := fn_le ha.2.1
    have ho9 : ∀ s, 1 ≤ s → s ≤ aB a → 1 ≤ aO a s ∧ aO a s ≤ 9 := fun s s1 s2 => (ha.2.2.2.2.2.2.1 s s1 s2).2
    rw [e_S_settleCosts_74, if_neg (by rw [i_le (by omega) (by omega)]; omega)]
    simp only [oo_v, hR_S, hR_W w K47 (by omega) (show R0 47 2 = some 50 from rfl), kO_S, kO_W w RW50.1, kO_W w K47, if_true, s_get (WF_S w) RW50 (show fn (aB a) + r < 3620 by omega), cI_v, hS_2]
    rw [show g (50 + 1) (fn (aB a) + r) = _ from hD r (by omega)]
    by_cases hd : d r = some t
    · obtain ⟨g1, d1, res, e1, e2, e3, e4, e5, e6⟩ := s_offerBack (k2 := 50) w ha (CAt_off hc ho (by simp) (by simp) (by simp)) (GOK_of hG ho (by simp)) (Or.inl rfl) (show r < wds (aB a) by omega) (show 22700 < 1000000000 by omega) (show t ≤ 22700 by omega) (fun x u hx hu => (hs.1 x u hx hu).2.2) hD hd
      have hres : ∀ t', res = some t' → t' ≤ 22689 := fun t' q => by
        have := e3.2.2 t' q
        omega
      rw [if_pos (by rw [hd]; rfl), e1, cI_v, imax_v2 (by omega) (fun t' q => by have := hres t' q; omega), L1, i_add]
      refine s_settle_74 w ha hc hG ht k (r + 1) g1 d1 (mxN H res) (by omega) (St_step ha.2.1 ho9 ht (by omega) hd hs e3 e5) ?_ e2 (Off.tr ho e6)
      cases hq : res with
      | none => exact hH
      | some t' =>
        have := hres t' hq
        exact Nat.max_le.2 ⟨hH, by omega⟩
    · rw [if_neg ?_, L1, i_add]
      · refine s_settle_74 w ha hc hG ht k (r + 1) g d H (by omega) ⟨hs.1, hs.2.1, fun x v hx hv hvt => hs.2.2 x v hx hv ?_⟩ hH hD ho
        by_cases hxr : x = r
        · subst hxr
          rcases hvt with q | q
          · exact Or.inl q
          · rw [hv, q.1] at hd
            exact absurd rfl hd
        · omega
      · cases hdr : d r with
        | none =>
          intro q
          have h1 := i_nneg (show t < 2147483648 by omega)
          rw [← show vI none = nI t from q] at h1
          exact absurd (by decide) h1
        | some u =>
          have hu := (hs.1 r u (by omega) hdr).2.2
          show ¬ nI u = nI t
          rw [i_inj (by omega) (by omega)]
          intro q
          rw [hdr, q] at hd
          exact hd rfl
theorem s_settle_56 {a : AS} (w : WF h) (ha : AOK a) (hc : CAt h.2.2 1 a) (hG : GOK h.2.2 (aB a)) : ∀ (k t : Nat) (g : Nat → Nat → Int32) (d : Nat → Option Nat) (H : Nat), t + k = 22681 → St (aB a) (aS a) (aF a) (aC a) (aO a) d H t 0 → H ≤ 22700 → Dt 51 (aB a) g d → Off h.2.2 g [51] →
    ∃ g' d', f_S_settleCosts_56 47 1 (nI (fn (aB a))) (nI (fn (aB a) + wds (aB a))) (nI H) (nI t) (hS h g) = rV (hS h g') ∧ (∀ r, r < wds (aB a) → ∀ v, d' r = some v ↔ Lst (ED (aB a) (aS a)) (pr (aB a) (aO a)) (gol (aB a) (aF a) (aC a)) r v) ∧ Dt 51 (aB a) g' d' ∧ Off h.2.2 g' [51] := by
  have ho9 : ∀ s, 1 ≤ s → s ≤ aB a → 1 ≤ aO a s ∧ aO a s ≤ 9 := fun s s1 s2 => (ha.2.2.2.2.2.2.1 s s1 s2).2
  intro k
  induction k with
  | zero =>
    intro t g d H ht hs hH hD ho
    refine ⟨g, d, ?_, St_end ha.2.1 ho9 hs (Or.inr (by omega)), hD, ho⟩
    rw [e_S_settleCosts_56]
    by_cases hHt : H < t
    · rw [if_pos (by rw [i_lt (by omega) (by omega)]; exact hHt)]
    · rw [if_neg (by rw [i_lt (by omega) (by omega)]; exact hHt), if_pos (by rw [show (22680 : Int32) = nI 22680 from rfl, i_lt (by omega) (by omega)]; omega)]
  | succ k ih =>
    intro t g d H ht hs hH hD ho
    by_cases hHt : H < t
    · refine ⟨g, d, ?_, St_end ha.2.1 ho9 hs (Or.inl hHt), hD, ho⟩
      rw [e_S_settleCosts_56, if_pos (by rw [i_lt (by omega) (by omega)]; exact hHt)]
    · obtain ⟨g1, d1, H1, e1, e2, e3, e4, e5⟩ := s_settle_74 w ha hc hG (show t ≤ 22680 by omega) (wds (aB a)) 0 g d H (by omega) hs hH hD ho
      obtain ⟨g2, d2, e6, e7⟩ := ih (t + 1) g1 d1 H1 (by omega) e2 e3 e4 e5
      refine ⟨g2, d2, ?_, e7⟩
      rw [e_S_settleCosts_56, if_neg (by rw [i_lt (by omega) (by omega)]; exact hHt), if_neg (by rw [show (22680 : Int32) = nI 22680 from rfl, i_lt (by omega) (by omega)]; omega)]
      rw [Nat.add_zero] at e1
      rw [e1]
      exact e6
end Settle
