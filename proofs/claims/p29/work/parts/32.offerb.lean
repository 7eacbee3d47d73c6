/-! offerBack -/
theorem RW50 : rowW 50 3620 := by unfold rowW; decide
theorem RW52 : rowW 52 3620 := by unfold rowW; decide
section Offerb
variable {h : pH}
theorem Ob_rf {b S x c : Nat} {o : Nat → Nat} {d : Nat → Option Nat} : Ob b S o x c d d none :=
  ⟨fun _ u _ hu => ⟨u, hu, Nat.le_refl _⟩, fun _ _ => Or.inl rfl, fun _ e => nomatch e⟩
theorem Ob_add {b S x c r m : Nat} {o : Nat → Nat} {d d' : Nat → Option Nat} {res : Option Nat} (hm : m < 19) (hE : ED b S r m = some x) (hp : pr b o r m ≤ 9) (h : Ob b S o x c d d' res) (hn : ∀ u, d' r = some u → c + pr b o r m ≤ u) :
    Ob b S o x c d (fun r' => if r' = r then some (c + pr b o r m) else d' r') (some (mxO res (c + pr b o r m))) := by
  obtain ⟨h1, h2, h3⟩ := h
  have hge : ∀ t, res = some t → t ≤ mxO res (c + pr b o r m) := fun t e => by subst e; exact Nat.le_max_left _ _
  have hge' : c + pr b o r m ≤ mxO res (c + pr b o r m) := by
    cases res with
    | none => exact Nat.le_refl _
    | some t => exact Nat.le_max_right _ _
  have hle' : mxO res (c + pr b o r m) ≤ c + 9 := by
    cases hres : res with
    | none => show c + pr b o r m ≤ c + 9; omega
    | some t =>
      have := h3 t hres
      show max t (c + pr b o r m) ≤ c + 9
      omega
  generalize mxO res (c + pr b o r m) = M at *
  refine ⟨fun r' u hr' hu => ?_, fun r' hr' => ?_, fun t e => by cases e; exact hle'⟩
  · obtain ⟨u', a1, a2⟩ := h1 r' u hr' hu
    by_cases hrr : r' = r
    · subst hrr
      have := hn u' a1
      exact ⟨_, if_pos rfl, by omega⟩
    · exact ⟨u', by simp [hrr, a1], a2⟩
  · by_cases hrr : r' = r
    · subst hrr
      exact Or.inr ⟨m, M, hm, hE, if_pos rfl, rfl, hge'⟩
    · simp only [if_neg hrr]
      rcases h2 r' hr' with e | ⟨m', t, a1, a2, a3, a4, a5⟩
      · exact Or.inl e
      · exact Or.inr ⟨m', M, a1, a2, a3, rfl, Nat.le_trans a5 (hge t a4)⟩
theorem s_offerBack_16 {a : AS} {k2 x c V : Nat} (w : WF h) (ha : AOK a) (hc : CAt h.2.2 1 a) (hG : GOK h.2.2 (aB a)) (hk : k2 = 50 ∨ k2 = 52) (hx : x < wds (aB a)) (hV : V < 1000000000) (hcV : c ≤ V) {d0 : Nat → Option Nat} (hd0 : ∀ r u, r < wds (aB a) → d0 r = some u → u ≤ V) : ∀ (k j : Nat) (g : Nat → Nat → Int32) (d : Nat → Option Nat) (res : Option Nat), j + k = cN (aB a) x (19 * wds (aB a)) → Dt (k2 + 1) (aB a) g d → Ob (aB a) (aS a) (aO a) x c d0 d res → d x = some c →
    (∀ i p, i < 19 * wds (aB a) → T (aB a) i = some x → p < j → h.2.2 42 (fn (aB a) * 19 + st0 (aB a) x + p) = nI (fn (aB a) * 19 + i) → hld (wd (aB a) (i / 19)) (aS a) (i % 19) = false → ∃ u, d (i / 19) = some u ∧ u ≤ c + pr (aB a) (aO a) (i / 19) (i % 19)) → Off h.2.2 g [k2 + 1] →
    ∃ g' d' res', f_S_offerBack_16 47 1 k2 (nI (fn (aB a) + x)) (vI res) (nI (fn (aB a) * 19 + st0 (aB a) x + j)) (hS h g) = rI (vI res') (hS h g') ∧ Dt (k2 + 1) (aB a) g' d' ∧ Ob (aB a) (aS a) (aO a) x c d0 d' res' ∧ d' x = some c ∧ (∀ r m, r < wds (aB a) → m < 19 → ED (aB a) (aS a) r m = some x → ∃ u, d' r = some u ∧ u ≤ c + pr (aB a) (aO a) r m) ∧ Off h.2.2 g' [k2 + 1]
  | 0, j, g, d, res, hj, hD, hO, hdx, hs, ho => by
    have hb := ha.2.1
    have hle := fn_le hb
    have hst := st0_lt hb (show x + 1 ≤ wds (aB a) by omega)
    rw [st0_succ] at hst
    have g46 : g 46 (fn (aB a) + x) = nI (fn (aB a) * 19 + st0 (aB a) x + cN (aB a) x (19 * wds (aB a))) := by
      rw [ho 46 (by simp; omega)]
      exact hG.2.2.2.1 _ hx
    refine ⟨g, d, res, ?_, hD, hO, hdx, fun r m hr hm hE => ?_, ho⟩
    · rw [e_S_offerBack_16]
      simp only [oo_v, hR_S, hR_W w K47 (by omega) (show R0 47 0 = some 36 from rfl), hR_W w K36 (by omega) (show R0 36 4 = some 45 from rfl), kO_S, kO_W w RW45.1, if_true, s_get (WF_S w) RW45 (show fn (aB a) + x < 3620 by omega), cI_v, hS_2]
      rw [show g (45 + 1) (fn (aB a) + x) = _ from g46, if_pos (by rw [i_le (by omega) (by omega)]; omega)]
    · obtain ⟨hT, hhd⟩ := (ED_T hm).1 hE
      obtain ⟨p, hp, hp2⟩ := hG.2.2.2.2.2 x (19 * r + m) hx (by omega) hT
      have h5 := hs (19 * r + m) p (by omega) hT (by omega) hp2
      rw [show (19 * r + m) / 19 = r by omega, show (19 * r + m) % 19 = m by omega] at h5
      exact h5 hhd
  | k + 1, j, g, d, res, hj, hD, hO, hdx, hs, ho => by
    have hb := ha.2.1
    have hle := fn_le hb
    have hw25 := wds_lt hb
    have hSl : aS a < 64 := ha.2.2.1
    have hk2 : rowW k2 3620 := by rcases hk with rfl | rfl
                                  · exact RW50
                                  · exact RW52
    have ho9 : ∀ s, 1 ≤ s → s ≤ aB a → 1 ≤ aO a s ∧ aO a s ≤ 9 := fun s s1 s2 => (ha.2.2.2.2.2.2.1 s s1 s2).2
    have hst := st0_lt hb (show x + 1 ≤ wds (aB a) by omega)
    rw [st0_succ] at hst
    have g46 : g 46 (fn (aB a) + x) = nI (fn (aB a) * 19 + st0 (aB a) x + cN (aB a) x (19 * wds (aB a))) := by
      rw [ho 46 (by simp; omega)]
      exact hG.2.2.2.1 _ hx
    obtain ⟨i, hi, hT, h42⟩ := hG.2.2.2.2.1 x j hx (by omega)
    have g42 : g 42 (fn (aB a) * 19 + st0 (aB a) x + j) = nI (fn (aB a) * 19 + i) := by
      rw [ho 42 (by simp; omega)]
      exact h42
    have hr : i / 19 < wds (aB a) := by omega
    have hm : i % 19 < 19 := Nat.mod_lt _ (by omega)
    have hT' : T (aB a) (19 * (i / 19) + i % 19) = some x := by rw [show 19 * (i / 19) + i % 19 = i by omega]; exact hT
    have hrs : rsn (wd (aB a) (i / 19)) 0 (i % 19) = 0 := by
      unfold T at hT
      split at hT
      · rename_i h0; exact h0
      · cases hT
    have hpb := prc_bd (wd_VW hb hr) ho9 hm hrs
    have g38 : g 38 (fn (aB a) + i / 19) = nI (wd (aB a) (i / 19)) := by
      rw [ho 38 (by simp; omega)]
      exact hG.1 _ hr
    have gd : g (k2 + 1) (fn (aB a) + i / 19) = vI (d (i / 19)) := hD _ hr
    have gx : g (k2 + 1) (fn (aB a) + x) = nI c := by rw [hD _ hx, hdx]; rfl
    have g14 : g 1 4 = nI (aS a) := by rw [ho 1 (by simp; omega)]; exact hc.2.2.2.2.1
    have g5 : ∀ s, 1 ≤ s → s ≤ aB a → (hS h g).2.2 (4 + 1) s = nI (aO a s) ∧ aO a s ≤ 9 := fun s s1 s2 => ⟨by
      show g 5 s = _
      rw [ho 5 (by simp; omega)]
      exact hc.2.2.2.1 s s1 s2, (ho9 s s1 s2).2⟩
    have hone : ∀ i' p, i' < 19 * wds (aB a) → h.2.2 42 (fn (aB a) * 19 + st0 (aB a) x + p) = nI (fn (aB a) * 19 + i') → p = j → i' = i := fun i' p hi' he hpj => by
      rw [hpj, h42, i_inj (by omega) (by omega)] at he
      omega
    have hdV : ∀ u, d (i / 19) = some u → u ≤ V + 9 := fun u hu => by
      rcases hO.2.1 _ hr with e | ⟨m', t, a1, a2, a3, a4, a5⟩
      · rw [e] at hu
        have := hd0 _ u hr hu
        omega
      · have := hO.2.2 t a4
        rw [a3] at hu
        cases hu
        omega
    have hresV : ∀ t, res = some t → t < 2147483648 := fun t e => by
      have := hO.2.2 t e
      omega
    have go : ∀ {g1 d1 res1}, Dt (k2 + 1) (aB a) g1 d1 → Ob (aB a) (aS a) (aO a) x c d0 d1 res1 → d1 x = some c → (∀ r u, d r = some u → ∃ u', d1 r = some u' ∧ u' ≤ u) → (hld (wd (aB a) (i / 19)) (aS a) (i % 19) = false → ∃ u, d1 (i / 19) = some u ∧ u ≤ c + pr (aB a) (aO a) (i / 19) (i % 19)) → Off h.2.2 g1 [k2 + 1] →
        ∃ g' d' res', f_S_offerBack_16 47 1 k2 (nI (fn (aB a) + x)) (vI res1) (nI (fn (aB a) * 19 + st0 (aB a) x + (j + 1))) (hS h g1) = rI (vI res') (hS h g') ∧ Dt (k2 + 1) (aB a) g' d' ∧ Ob (aB a) (aS a) (aO a) x c d0 d' res' ∧ d' x = some c ∧ (∀ r m, r < wds (aB a) → m < 19 → ED (aB a) (aS a) r m = some x → ∃ u, d' r = some u ∧ u ≤ c + pr (aB a) (aO a) r m) ∧ Off h.2.2 g' [k2 + 1] := fun {g1 d1 res1} c1 c2 c3 c4 c5 c6 => by
      refine s_offerBack_16 w ha hc hG hk hx hV hcV hd0 k (j + 1) g1 d1 res1 (by omega) c1 c2 c3 (fun i' p hi' hTi hp he hhd => ?_) c6
      by_cases hpj : p = j
      · have := hone i' p hi' he hpj
        subst this
        exact c5 hhd
      · obtain ⟨u, hu, hu2⟩ := hs i' p hi' hTi (by omega) he hhd
        obtain ⟨u', hu', hu3⟩ := c4 _ u hu
        exact ⟨u', hu', by omega⟩
    have g110 : (∀ u, d (i / 19) = some u → c + pr (aB a) (aO a) (i / 19) (i % 19) < u) → ∃ g' d' res', f_S_offerBack_110 47 1 k2 (nI (fn (aB a) + x)) (vI res) (nI (fn (aB a) * 19 + st0 (aB a) x + j)) (nI (fn (aB a) + i / 19)) (nI (i % 19)) (nI (c + pr (aB a) (aO a) (i / 19) (i % 19))) (hS h g) = rI (vI res') (hS h g') ∧ Dt (k2 + 1) (aB a) g' d' ∧ Ob (aB a) (aS a) (aO a) x c d0 d' res' ∧ d' x = some c ∧ (∀ r m, r < wds (aB a) → m < 19 → ED (aB a) (aS a) r m = some x → ∃ u, d' r = some u ∧ u ≤ c + pr (aB a) (aO a) r m) ∧ Off h.2.2 g' [k2 + 1] := fun hless => by
      rw [e_S_offerBack_110]
      simp only [oo_v, hR_S, hR_W w K47 (by omega) (show R0 47 0 = some 36 from rfl), kO_S, kO_W w K36, if_true, hI_W (WF_S w) K1, hS_2, g14, s_isHeld w hb hr hm (show aS a < 2147483648 by omega) g38, cI_v]
      cases hhd : hld (wd (aB a) (i / 19)) (aS a) (i % 19) with
      | true =>
        rw [if_neg (by decide), L1, i_add]
        exact go hD hO hdx (fun r u hu => ⟨u, hu, Nat.le_refl _⟩) (fun e => by rw [hhd] at e; cases e) ho
      | false =>
        have hE : ED (aB a) (aS a) (i / 19) (i % 19) = some x := (ED_T hm).2 ⟨hT', hhd⟩
        have hA := Ob_add hm hE hpb.2 hO (fun u hu => Nat.le_of_lt (hless u hu))
        rw [if_pos (by rfl)]
        simp only [kO_S, kO_W w hk2.1, if_true, s_put (WF_S w) hk2 (show fn (aB a) + i / 19 < 3620 by omega), cV_v, hS_S, hS_2, L1, i_add]
        have hpp : pr (aB a) (aO a) (i / 19) (i % 19) ≤ 9 := hpb.2
        rw [imax_v hresV (by omega)]
        refine go (fun r hr' => ?_) hA ?_ (fun r u hu => ?_) (fun _ => ⟨_, if_pos rfl, Nat.le_refl _⟩) (Off.tr ho (s2_off (by simp)))
        · by_cases hrr : r = i / 19
          · subst hrr
            simp [s2_at, vI]
          · simp [s2_at, hrr, hD r hr']
        · show (if x = i / 19 then some (c + pr (aB a) (aO a) (i / 19) (i % 19)) else d x) = some c
          rw [if_neg (fun e => by rw [e] at hdx; have := hless c hdx; omega)]
          exact hdx
        · show ∃ u', (if r = i / 19 then some (c + pr (aB a) (aO a) (i / 19) (i % 19)) else d r) = some u' ∧ u' ≤ u
          by_cases hrr : r = i / 19
          · rw [if_pos hrr]
            subst hrr
            exact ⟨_, rfl, Nat.le_of_lt (hless u hu)⟩
          · rw [if_neg hrr]
            exact ⟨u, hu, Nat.le_refl _⟩
    rw [e_S_offerBack_16]
    simp only [oo_v, hR_S, hR_W w K47 (by omega) (show R0 47 0 = some 36 from rfl), hR_W w K36 (by omega) (show R0 36 4 = some 45 from rfl), kO_S, kO_W w RW45.1, if_true, s_get (WF_S w) RW45 (show fn (aB a) + x < 3620 by omega), cI_v, hS_2]
    rw [show g (45 + 1) (fn (aB a) + x) = _ from g46, if_neg (by rw [i_le (by omega) (by omega)]; omega)]
    simp only [oo_v, hR_S, hR_W w K47 (by omega) (show R0 47 0 = some 36 from rfl), hR_W w K36 (by omega) (show R0 36 2 = some 41 from rfl), kO_S, kO_W w RW41.1, if_true, s_get (WF_S w) RW41 (show fn (aB a) * 19 + st0 (aB a) x + j < 68780 by omega), cI_v, hS_2]
    rw [show g (41 + 1) (fn (aB a) * 19 + st0 (aB a) x + j) = _ from g42, if_neg (by decide), if_neg (by decide), L19, i_div (by omega) (by omega), show (fn (aB a) * 19 + i) / 19 = fn (aB a) + i / 19 by omega, i_mul, i_sub (by omega), show fn (aB a) * 19 + i - (fn (aB a) + i / 19) * 19 = i % 19 by omega]
    simp only [oo_v, hR_S, hR_W w K47 (by omega) (show R0 47 0 = some 36 from rfl), hR_W w K36 (by omega) (show R0 36 0 = some 37 from rfl), hR_W w K1 (by omega) (show R0 1 3 = some 4 from rfl), kO_S, kO_W w RW37.1, kO_W w hk2.1, if_true, s_get (WF_S w) hk2 (show fn (aB a) + x < 3620 by omega), s_get (WF_S w) hk2 (show fn (aB a) + i / 19 < 3620 by omega), s_get (WF_S w) RW37 (show fn (aB a) + i / 19 < 3620 by omega), cI_v, hS_2]
    rw [show g (37 + 1) (fn (aB a) + i / 19) = _ from g38, gx, s_price (WF_S w) RW4 hb (wd_VW hb hr) g5 hm hrs, cI_v]
    simp only [kO_S, kO_W w hk2.1, if_true, s_get (WF_S w) hk2 (show fn (aB a) + i / 19 < 3620 by omega), cI_v, hS_2, gd, i_add]
    have hpp : pr (aB a) (aO a) (i / 19) (i % 19) ≤ 9 := hpb.2
    change ∃ g' d' res', (if vI (d (i / 19)) = -1 then f_S_offerBack_110 47 1 k2 (nI (fn (aB a) + x)) (vI res) (nI (fn (aB a) * 19 + st0 (aB a) x + j)) (nI (fn (aB a) + i / 19)) (nI (i % 19)) (nI (c + pr (aB a) (aO a) (i / 19) (i % 19))) (hS h g) else if vI (d (i / 19)) ≤ nI (c + pr (aB a) (aO a) (i / 19) (i % 19)) then _ else f_S_offerBack_110 47 1 k2 (nI (fn (aB a) + x)) (vI res) (nI (fn (aB a) * 19 + st0 (aB a) x + j)) (nI (fn (aB a) + i / 19)) (nI (i % 19)) (nI (c + pr (aB a) (aO a) (i / 19) (i % 19))) (hS h g)) = _ ∧ _
    cases hd : d (i / 19) with
    | none =>
      rw [if_pos (by rfl)]
      exact g110 (fun u hu => by rw [hd] at hu; cases hu)
    | some u =>
      have hul := hdV u hd
      rw [if_neg (by rw [vI_m1 (fun w' e => by cases e; omega)]; simp)]
      by_cases hcu : u ≤ c + pr (aB a) (aO a) (i / 19) (i % 19)
      · rw [if_pos (show vI (some u) ≤ nI (c + pr (aB a) (aO a) (i / 19) (i % 19)) by show nI u ≤ _; rw [i_le (by omega) (by omega)]; exact hcu), L1, i_add]
        exact go hD hO hdx (fun r u hu => ⟨u, hu, Nat.le_refl _⟩) (fun _ => ⟨u, hd, hcu⟩) ho
      · rw [if_neg (show ¬ vI (some u) ≤ nI (c + pr (aB a) (aO a) (i / 19) (i % 19)) by show ¬ nI u ≤ _; rw [i_le (by omega) (by omega)]; exact hcu)]
        exact g110 (fun u' hu' => by rw [hd] at hu'; cases hu'; omega)
end Offerb
