/-! the class's looks -/
def xRows : List Nat := [36, 38, 40, 42, 44, 46, 47, 49, 51, 53, 55, 57, 58, 60, 62]
theorem vI_ans {o : Option Nat} {h : pH} (ho : ∀ u, o = some u → u < 2147483648) : (if vI o = -1 then rI (-4) h else rI (vI o) h) = rI (ansO o) h := by
  cases o with
  | none => rw [if_pos (show vI none = -1 from rfl)]; rfl
  | some u =>
    rw [if_neg (fun q => absurd ((vI_m1 ho).1 q) (by simp))]
    rfl
theorem wst_mxs {v : Nat → Option Nat} : ∀ n, ((wst v n).1 = none ∧ (∀ r, r < n → v r = none) ∧ mxs v n = 0) ∨ (wst v n).1 = some (mxs v n)
  | 0 => Or.inl ⟨rfl, fun r hr => absurd hr (Nat.not_lt_zero _), rfl⟩
  | n + 1 => by
    have hm : mxs v (n + 1) = mxN (mxs v n) (v n) := rfl
    rcases wst_mxs (v := v) n with ⟨h1, h2, h3⟩ | h1
    · cases hv : v n with
      | none =>
        refine Or.inl ⟨by simp only [wst, hv, h1], fun r hr => ?_, by rw [hm, hv, h3]; rfl⟩
        by_cases hrn : r = n
        · rw [hrn]; exact hv
        · exact h2 r (by omega)
      | some u =>
        refine Or.inr ?_
        rw [hm, hv, h3]
        simp only [wst, hv, h1]
        show some u = some (max 0 u)
        rw [Nat.max_eq_right (Nat.zero_le _)]
    · refine Or.inr ?_
      cases hv : v n with
      | none =>
        rw [hm, hv]
        simp only [wst, hv]
        exact h1
      | some u =>
        rw [hm, hv]
        simp only [wst, hv, h1]
        show (if u ≤ mxs v n then wst v n else (some u, n)).1 = some (max (mxs v n) u)
        by_cases h : u ≤ mxs v n
        · rw [if_pos h, h1, Nat.max_eq_left h]
        · rw [if_neg h, Nat.max_eq_right (by omega)]
theorem wst_some {v : Nat → Option Nat} {n r : Nat} {u : Nat} (hr : r < n) (hv : v r = some u) : vI (wst v n).1 = nI (mxs v n) := by
  rcases wst_mxs (v := v) n with ⟨_, h2, _⟩ | h1
  · rw [h2 r hr] at hv
    cases hv
  · rw [h1]
    rfl
section XLooks
variable {h : pH} {z : ZS}
theorem XAt_look {g : Nat → Nat → Int32} (hx : XAt h z) (o : Off h.2.2 g xRows) (hG : GAt g) (hK : SC g) : XAt (hS h g) z ∧ XB h (hS h g) := by
  obtain ⟨x1, x2, x3, x4, x5, x6⟩ := hx
  exact ⟨⟨CAt_off x1 o (by decide) (by decide) (by decide), HAt_off x2 o (by decide), XSn_off x3 o (by decide), PAt_off x4 o (by decide), hG, hK⟩, XB.of (h1 := hS h g) o (by decide)⟩
theorem s_XdrawnSearch (w : WF h) (hz : ZOK z) (hx : XAt h z) : ∃ g, f_X_drawnSearch 0 h = rR 47 (hS h g) ∧ GAt g ∧ GOK g (aB (zA z)) ∧ Off h.2.2 g gRows ∧ CAt g 1 (zA z) ∧ SC g := by
  obtain ⟨x1, x2, x3, x4, x5, x6⟩ := hx
  obtain ⟨g, e1, e2, e3, e4⟩ := s_draw w hz.1.2.1 x5
  refine ⟨g, ?_, e2, e3, e4, CAt_off x1 e4 (by decide) (by decide) (by decide), SC_of x6 e4 (by decide)⟩
  rw [e_X_drawnSearch, xR5 w, oo_v, xR0 w, oo_v, hI_W w K1, oo_v, x1.2.1, if_pos (kO_W w K36), e1, cV_v, xR6 (WF_S w), oo_v]
theorem s_Xat {x y : Int32} (w : WF h) (hz : ZOK z) (hx : XAt h z) : ∃ h1, f_X_at 0 x y h = rI (sAt z x y).1 h1 ∧ WF h1 ∧ XAt h1 (sAt z x y).2 ∧ XB h h1 := by
  obtain ⟨ha, hz2, hz3, hz4⟩ := id hz
  have hc := hx.1
  have hb := ha.2.1
  rw [e_X_at, L7, s_XisB (by omega), cI_v]
  unfold sAt
  cases h1 : inb x 7 with
  | false =>
    rw [if_pos (show nI false.toNat = 0 from rfl), if_neg (fun q => by cases q.1)]
    exact ⟨h, rfl, w, hx, XB.rf⟩
  | true =>
    rw [if_neg (show ¬ nI true.toNat = 0 by decide), L6, s_XisB (by omega), cI_v]
    cases h2 : inb y 6 with
    | false =>
      rw [if_pos (show nI false.toNat = 0 from rfl), if_neg (fun q => by cases q.2)]
      exact ⟨h, rfl, w, hx, XB.rf⟩
    | true =>
      obtain ⟨p, hp, rfl⟩ := inb_yes h1
      obtain ⟨v, hv, rfl⟩ := inb_yes h2
      have hsl := sl_lt (aP (zA z)) p
      have hsb := ha.1.2.1 p hp
      rw [if_neg (show ¬ nI true.toNat = 0 by decide), if_pos (show true = true ∧ true = true from ⟨rfl, rfl⟩)]
      simp only [xR0 w, oo_v, hI_W w K1, hc.1, s_slotAt ha.1.1 hp, cI_v, cl, i_clamp (show p < 2147483648 by omega)]
      by_cases h0 : sl (aP (zA z)) p = 0
      · rw [if_pos ((i_eq0 (by omega)).2 h0), if_pos h0]
        by_cases h5 : v = 5
        · subst h5
          rw [if_pos (show nI 5 = 5 from rfl), if_pos (show nI 5 = 5 from rfl)]
          exact ⟨h, rfl, w, hx, XB.rf⟩
        · have h5' : ¬ nI v = 5 := fun e => h5 ((i_inj (by omega) (by omega)).1 (show nI v = nI 5 from e))
          rw [if_neg h5', if_neg h5']
          exact ⟨h, rfl, w, hx, XB.rf⟩
      · rw [if_neg (fun e => h0 ((i_eq0 (by omega)).1 e)), if_neg h0]
        rcases (show v = 0 ∨ v = 1 ∨ v = 2 ∨ v = 3 ∨ v = 4 ∨ v = 5 by omega) with rfl | rfl | rfl | rfl | rfl | rfl
        · rw [if_pos (show nI 0 = 0 from rfl), if_pos (show nI 0 = 0 from rfl)]
          rw [hR_W w K1 (by omega) (show R0 1 2 = some 2 from rfl), oo_v, if_pos (kO_W w RW2.1), s_get w RW2 (show sl (aP (zA z)) p < 6 by omega), cI_v]
          exact ⟨h, by rw [show h.2.2 (2 + 1) (sl (aP (zA z)) p) = _ from hc.2.2.1 _ (by omega) hsb], w, hx, XB.rf⟩
        · rw [if_neg (show ¬ nI 1 = 0 by decide), if_pos (show nI 1 = 1 from rfl), if_neg (show ¬ nI 1 = 0 by decide), if_pos (show nI 1 = 1 from rfl)]
          rw [hR_W w K1 (by omega) (show R0 1 3 = some 4 from rfl), oo_v, if_pos (kO_W w RW4.1), s_get w RW4 (show sl (aP (zA z)) p < 6 by omega), cI_v]
          exact ⟨h, by rw [show h.2.2 (4 + 1) (sl (aP (zA z)) p) = _ from hc.2.2.2.1 _ (by omega) hsb], w, hx, XB.rf⟩
        · rw [if_neg (show ¬ nI 2 = 0 by decide), if_neg (show ¬ nI 2 = 1 by decide), if_pos (show nI 2 = 2 from rfl), if_neg (show ¬ nI 2 = 0 by decide), if_neg (show ¬ nI 2 = 1 by decide), if_pos (show nI 2 = 2 from rfl)]
          rw [hc.2.2.2.2.1, s_isIn (show aS (zA z) < 2147483648 by have := ha.2.2.1; omega) (by omega), cI_v]
          refine ⟨h, ?_, w, hx, XB.rf⟩
          cases (aS (zA z)).testBit (sl (aP (zA z)) p) <;> rfl
        · rw [if_neg (show ¬ nI 3 = 0 by decide), if_neg (show ¬ nI 3 = 1 by decide), if_neg (show ¬ nI 3 = 2 by decide), if_pos (show nI 3 = 3 from rfl), if_neg (show ¬ nI 3 = 0 by decide), if_neg (show ¬ nI 3 = 1 by decide), if_neg (show ¬ nI 3 = 2 by decide), if_neg (show ¬ nI 3 = 4 by decide)]
          rw [s_gapBeside ha.1.1 hp, cI_v]
          exact ⟨h, rfl, w, hx, XB.rf⟩
        · rw [if_neg (show ¬ nI 4 = 0 by decide), if_neg (show ¬ nI 4 = 1 by decide), if_neg (show ¬ nI 4 = 2 by decide), if_neg (show ¬ nI 4 = 3 by decide), if_pos (show nI 4 = 4 from rfl), if_neg (show ¬ nI 4 = 0 by decide), if_neg (show ¬ nI 4 = 1 by decide), if_neg (show ¬ nI 4 = 2 by decide), if_pos (show nI 4 = 4 from rfl)]
          rw [hc.2.2.2.2.2.1, s_wrongBooks ha.1.1 hp ha.2.2.2.2.1, cI_v]
          exact ⟨h, rfl, w, hx, XB.rf⟩
        · rw [if_neg (show ¬ nI 5 = 0 by decide), if_neg (show ¬ nI 5 = 1 by decide), if_neg (show ¬ nI 5 = 2 by decide), if_neg (show ¬ nI 5 = 3 by decide), if_neg (show ¬ nI 5 = 4 by decide), if_neg (show ¬ nI 5 = 0 by decide), if_neg (show ¬ nI 5 = 1 by decide), if_neg (show ¬ nI 5 = 2 by decide), if_neg (show ¬ nI 5 = 4 by decide)]
          rw [s_gapBeside ha.1.1 hp, cI_v]
          exact ⟨h, rfl, w, hx, XB.rf⟩
theorem s_XwhyNot {x : Int32} (w : WF h) (hz : ZOK z) (hx : XAt h z) : ∃ h1, f_X_whyNot 0 x h = rI (sWhyNot z x).1 h1 ∧ WF h1 ∧ XAt h1 (sWhyNot z x).2 ∧ XB h h1 := by
  obtain ⟨ha, hz2, hz3, hz4⟩ := id hz
  have hc := hx.1
  rw [e_X_whyNot, L19, s_XisB (by omega), cI_v]
  unfold sWhyNot
  cases h1 : inb x 19 with
  | false =>
    rw [if_pos (show nI false.toNat = 0 from rfl), if_neg (by decide)]
    exact ⟨h, rfl, w, hx, XB.rf⟩
  | true =>
    obtain ⟨m, hm, rfl⟩ := inb_yes h1
    rw [if_neg (show ¬ nI true.toNat = 0 by decide), if_pos rfl]
    simp only [xR0 w, oo_v, hI_W w K1, hc.1, hc.2.2.2.2.1, cl, i_clamp (show m < 2147483648 by omega)]
    rw [s_reason ha.1.1 (show aS (zA z) < 2147483648 by have := ha.2.2.1; omega) hm, cI_v]
    exact ⟨h, rfl, w, hx, XB.rf⟩
theorem s_Xcost {x : Int32} (w : WF h) (hz : ZOK z) (hx : XAt h z) : ∃ h1, f_X_cost 0 x h = rI (sCost z x).1 h1 ∧ WF h1 ∧ XAt h1 (sCost z x).2 ∧ XB h h1 := by
  obtain ⟨ha, hz2, hz3, hz4⟩ := id hz
  have hc := hx.1
  rw [e_X_cost, L19, s_XisB (by omega), cI_v]
  unfold sCost
  cases h1 : inb x 19 with
  | false =>
    rw [if_pos (show nI false.toNat = 0 from rfl), if_neg (by decide)]
    exact ⟨h, rfl, w, hx, XB.rf⟩
  | true =>
    obtain ⟨m, hm, rfl⟩ := inb_yes h1
    have hrl := rsn_lt (aP (zA z)) (aS (zA z)) m
    rw [if_neg (show ¬ nI true.toNat = 0 by decide), if_pos rfl]
    simp only [xR0 w, oo_v, hI_W w K1, hc.1, hc.2.2.2.2.1, cl, i_clamp (show m < 2147483648 by omega)]
    rw [s_reason ha.1.1 (show aS (zA z) < 2147483648 by have := ha.2.2.1; omega) hm, cI_v]
    by_cases h0 : rsn (aP (zA z)) (aS (zA z)) m = 0
    · rw [if_pos ((i_eq0 (by omega)).2 h0), if_pos h0]
      simp only [xR0 w, oo_v, hI_W w K1, hc.1]
      rw [hR_W w K1 (by omega) (show R0 1 3 = some 4 from rfl), oo_v, s_price w RW4 ha.2.1 ha.1 (fun s s1 s2 => ⟨hc.2.2.2.1 s s1 s2, (ha.2.2.2.2.2.2.1 s s1 s2).2.2⟩) hm (rsn_0 h0), cI_v]
      exact ⟨h, rfl, w, hx, XB.rf⟩
    · rw [if_neg (fun e => h0 ((i_eq0 (by omega)).1 e)), if_neg h0]
      exact ⟨h, rfl, w, hx, XB.rf⟩
theorem s_Xleads {x : Int32} (w : WF h) (hz : ZOK z) (hx : XAt h z) : ∃ h1, f_X_leads 0 x h = rI (sLeads z x).1 h1 ∧ WF h1 ∧ XAt h1 (sLeads z x).2 ∧ XB h h1 := by
  obtain ⟨ha, hz2, hz3, hz4⟩ := id hz
  have hc := hx.1
  rw [e_X_leads, L19, s_XisB (by omega), cI_v]
  unfold sLeads
  cases h1 : inb x 19 with
  | false =>
    rw [if_pos (show nI false.toNat = 0 from rfl), if_neg (by decide)]
    exact ⟨h, rfl, w, hx, XB.rf⟩
  | true =>
    obtain ⟨m, hm, rfl⟩ := inb_yes h1
    have hrl := rsn_lt (aP (zA z)) (aS (zA z)) m
    rw [if_neg (show ¬ nI true.toNat = 0 by decide), if_pos rfl]
    simp only [xR0 w, oo_v, hI_W w K1, hc.1, hc.2.1, hc.2.2.2.2.1, cl, i_clamp (show m < 2147483648 by omega)]
    rw [s_reason ha.1.1 (show aS (zA z) < 2147483648 by have := ha.2.2.1; omega) hm, cI_v]
    by_cases h0 : rsn (aP (zA z)) (aS (zA z)) m = 0
    · rw [if_pos ((i_eq0 (by omega)).2 h0), if_pos h0]
      simp only [xR0 w, oo_v, hI_W w K1, hc.1]
      rw [s_after ha.1.1 hm h0, cI_v]
      simp only [xR0 w, oo_v, hI_W w K1, hc.2.1]
      rw [s_rank ha.2.1 (aft_VW ha.2.1 ha.1 hm h0), cI_v]
      exact ⟨h, rfl, w, hx, XB.rf⟩
    · rw [if_neg (fun e => h0 ((i_eq0 (by omega)).1 e)), if_neg h0]
      exact ⟨h, rfl, w, hx, XB.rf⟩
theorem s_Xword {x y : Int32} (w : WF h) (hz : ZOK z) (hx : XAt h z) : ∃ h1, f_X_word 0 x y h = rI (sWord z x y).1 h1 ∧ WF h1 ∧ XAt h1 (sWord z x y).2 ∧ XB h h1 := by
  obtain ⟨ha, hz2, hz3, hz4⟩ := id hz
  have hc := hx.1
  have hb := ha.2.1
  have hw := wds_lt hb
  rw [e_X_word]
  simp only [xR0 w, oo_v, hI_W w K1, hc.2.1, s_wordsOf hb, cI_v]
  rw [s_XisB (by omega), cI_v]
  unfold sWord
  cases h1 : inb x (wds (aB (zA z))) with
  | false =>
    rw [if_pos (show nI false.toNat = 0 from rfl), if_neg (fun q => by cases q.1)]
    exact ⟨h, rfl, w, hx, XB.rf⟩
  | true =>
    rw [if_neg (show ¬ nI true.toNat = 0 by decide), L7, s_XisB (by omega), cI_v]
    cases h2 : inb y 7 with
    | false =>
      rw [if_pos (show nI false.toNat = 0 from rfl), if_neg (fun q => by cases q.2)]
      exact ⟨h, rfl, w, hx, XB.rf⟩
    | true =>
      obtain ⟨r, hr, rfl⟩ := inb_yes h1
      obtain ⟨p, hp, rfl⟩ := inb_yes h2
      have hv := wd_VW hb hr
      have hsl := sl_lt (wd (aB (zA z)) r) p
      have hsb := hv.2.1 p hp
      rw [if_neg (show ¬ nI true.toNat = 0 by decide), if_pos (show true = true ∧ true = true from ⟨rfl, rfl⟩)]
      simp only [xR0 w, oo_v, hI_W w K1, hc.2.1, s_word hb hr, cI_v, s_slotAt hv.1 hp, cl, i_clamp (show p < 2147483648 by omega), i_clamp (show r < 2147483648 by omega)]
      by_cases h0 : sl (wd (aB (zA z)) r) p = 0
      · rw [if_pos ((i_eq0 (by omega)).2 h0), if_pos h0]
        exact ⟨h, rfl, w, hx, XB.rf⟩
      · rw [if_neg (fun e => h0 ((i_eq0 (by omega)).1 e)), if_neg h0, hR_W w K1 (by omega) (show R0 1 2 = some 2 from rfl), oo_v, if_pos (kO_W w RW2.1), s_get w RW2 (show sl (wd (aB (zA z)) r) p < 6 by omega), cI_v]
        exact ⟨h, by rw [show h.2.2 (2 + 1) (sl (wd (aB (zA z)) r) p) = _ from hc.2.2.1 _ (by omega) hsb], w, hx, XB.rf⟩
theorem s_Xleast {x y : Int32} (w : WF h) (hz : ZOK z) (hx : XAt h z) : ∃ h1, f_X_least 0 x y h = rI (sLeast z x y).1 h1 ∧ WF h1 ∧ XAt h1 (sLeast z x y).2 ∧ XB h h1 := by
  obtain ⟨ha, hz2, hz3, hz4⟩ := id hz
  have hc := hx.1
  have hb := ha.2.1
  have hw := wds_lt hb
  rw [e_X_least]
  simp only [xR0 w, oo_v, hI_W w K1, hc.2.1, s_wordsOf hb, cI_v]
  rw [s_XisB (by omega), cI_v]
  unfold sLeast
  cases h1 : inb x (wds (aB (zA z))) with
  | false =>
    rw [if_pos (show nI false.toNat = 0 from rfl), if_neg (fun q => by cases q.1)]
    exact ⟨h, rfl, w, hx, XB.rf⟩
  | true =>
    rw [if_neg (show ¬ nI true.toNat = 0 by decide), L3, s_XisB (by omega), cI_v]
    cases h2 : inb y 3 with
    | false =>
      rw [if_pos (show nI false.toNat = 0 from rfl), if_neg (fun q => by cases q.2)]
      exact ⟨h, rfl, w, hx, XB.rf⟩
    | true =>
      obtain ⟨r, hr, rfl⟩ := inb_yes h1
      obtain ⟨v, hv, rfl⟩ := inb_yes h2
      obtain ⟨g, e1, e2, e3, e4, e5, e6⟩ := s_XdrawnSearch w hz hx
      obtain ⟨g2, k1, k2, k3, k4⟩ := s_wayFrom w ha e5 e3 e6 hv hr
      have o : Off h.2.2 g2 xRows := Off.tr (Off.mono e4 (by decide)) (Off.mono k3 (by decide))
      obtain ⟨q1, q2⟩ := XAt_look hx o (GAt_off e2 k3 (by decide)) k2
      rw [if_neg (show ¬ nI true.toNat = 0 by decide), if_pos (show true = true ∧ true = true from ⟨rfl, rfl⟩), if_pos (kO_W w K00), e1, cR_v, xR0 (WF_S w), oo_v, if_pos (kO_W (WF_S w) K47), k1, cI_v]
      simp only [cl, i_clamp (show v < 2147483648 by omega), i_clamp (show r < 2147483648 by omega)]
      rw [vI_ans (fun u hu => by have := wyO_lt ha hr hu; omega)]
      exact ⟨hS h g2, rfl, WF_S w, q1, q2⟩
theorem s_Xplan {x y : Int32} (w : WF h) (hz : ZOK z) (hx : XAt h z) (hx01 : x = 0 ∨ x = 1) : ∃ h1, f_X_plan 0 x y h = rI (sPlan z x y).1 h1 ∧ WF h1 ∧ XAt h1 (sPlan z x y).2 ∧ XB h h1 := by
  obtain ⟨ha, hz2, hz3, hz4⟩ := id hz
  have hb := ha.2.1
  rw [e_X_plan]
  unfold sPlan
  by_cases h0 : 0 ≤ y
  · obtain ⟨t, ht, rfl⟩ : ∃ t, t < 2147483648 ∧ y = nI t := by
      refine ⟨y.toInt.toNat, ?_, ?_⟩
      · have := Int32.toInt_lt y
        omega
      · apply Int32.toInt_inj.mp
        rw [Int32.le_iff_toInt_le, Int32.toInt_zero] at h0
        have := Int32.toInt_lt y
        rw [i_toInt (by omega)]
        omega
    obtain ⟨kd, hkd, rfl⟩ : ∃ kd, kd < 2 ∧ x = nI kd := by
      rcases hx01 with rfl | rfl
      · exact ⟨0, by omega, rfl⟩
      · exact ⟨1, by omega, rfl⟩
    have hO : ∀ s, 1 ≤ s → s ≤ aB (zA z) → 1 ≤ aO (zA z) s ∧ aO (zA z) s ≤ 9 := fun s s1 s2 => (ha.2.2.2.2.2.2.1 s s1 s2).2
    have hrk := rk_lt hb ha.1
    obtain ⟨g, e1, e2, e3, e4, e5, e6⟩ := s_XdrawnSearch w hz hx
    rw [if_pos h0, if_pos h0, if_pos (kO_W w K00), e1, cR_v, xR0 (WF_S w), oo_v, if_pos (kO_W (WF_S w) K47)]
    simp only [cl, i_clamp (show kd < 2147483648 by omega), i_clamp ht]
    have hpl : ∀ k r l, (∀ u, l = some u → u < 19) → ∀ u, plL (aB (zA z)) (aS (zA z)) (wyO (zA z) kd) (if kd = 0 then fun _ _ => 1 else pr (aB (zA z)) (aO (zA z))) k r l = some u → u < 19 := fun k => by
      induction k with
      | zero => exact fun r l hl u hu => hl u hu
      | succ k ih =>
        intro r l hl u hu
        unfold plL at hu
        cases hn : nxL (aB (zA z)) (aS (zA z)) (wyO (zA z) kd) (if kd = 0 then fun _ _ => 1 else pr (aB (zA z)) (aO (zA z))) r 19 0 with
        | none => rw [hn] at hu; cases hu
        | some m =>
          have hm := (nxL_some 19 0 (by omega) hn).1
          rw [hn] at hu
          dsimp only at hu
          cases hE : ED (aB (zA z)) (aS (zA z)) r m with
          | none => rw [hE] at hu; cases hu
          | some r' =>
            rw [hE] at hu
            exact ih r' (some m) (fun u e => by cases e; exact hm) u hu
    obtain ⟨M, hM⟩ : ∃ M : Nat, M = 2520 := ⟨_, rfl⟩
    by_cases h25 : M ≤ t
    · obtain ⟨g2, k1, k2, k3, k4⟩ := s_plannedMove (M := M) (Q := M) w ha e5 e3 e6 hkd ht hM (Nat.le_refl _) (by omega) (Or.inl rfl)
      have o : Off h.2.2 g2 xRows := Off.tr (Off.mono e4 (by decide)) (Off.mono k3 (by decide))
      obtain ⟨q1, q2⟩ := XAt_look hx o (GAt_off e2 k3 (by decide)) k2
      have hn : plL (aB (zA z)) (aS (zA z)) (wyO (zA z) kd) (if kd = 0 then fun _ _ => 1 else pr (aB (zA z)) (aO (zA z))) (t + 1) (rk (aB (zA z)) (aP (zA z))) none = none := plL_none hb (fun r m r' a1 a2 a3 => (kd_bd (S := aS (zA z)) (kd := kd) hb hO r m r' a1 a2 a3).1) hrk (by omega)
      rw [k1, cI_v, hn]
      unfold plE
      rw [if_pos h25, if_pos rfl]
      exact ⟨hS h g2, rfl, WF_S w, q1, q2⟩
    · obtain ⟨g2, k1, k2, k3, k4⟩ := s_plannedMove (M := M) (Q := t + 1) w ha e5 e3 e6 hkd ht hM (by omega) (Nat.le_refl _) (Or.inr rfl)
      have o : Off h.2.2 g2 xRows := Off.tr (Off.mono e4 (by decide)) (Off.mono k3 (by decide))
      obtain ⟨q1, q2⟩ := XAt_look hx o (GAt_off e2 k3 (by decide)) k2
      rw [k1, cI_v]
      unfold plE
      rw [if_neg h25, vI_ans (fun u hu => by have := hpl (t + 1) (rk (aB (zA z)) (aP (zA z))) none (fun _ e => nomatch e) u hu; omega)]
      exact ⟨hS h g2, rfl, WF_S w, q1, q2⟩
  · rw [if_neg h0, if_neg h0]
    exact ⟨h, rfl, w, hx, XB.rf⟩
theorem s_Xall {x : Int32} (w : WF h) (hz : ZOK z) (hx : XAt h z) : ∃ h1, f_X_all 0 x h = rI (sAll z x).1 h1 ∧ WF h1 ∧ XAt h1 (sAll z x).2 ∧ XB h h1 := by
  obtain ⟨ha, hz2, hz3, hz4⟩ := id hz
  have hb := ha.2.1
  have hO : ∀ s, 1 ≤ s → s ≤ aB (zA z) → 1 ≤ aO (zA z) s ∧ aO (zA z) s ≤ 9 := fun s s1 s2 => (ha.2.2.2.2.2.2.1 s s1 s2).2
  obtain ⟨g, e1, e2, e3, e4, e5, e6⟩ := s_XdrawnSearch w hz hx
  rw [e_X_all]
  unfold sAll
  by_cases h0 : x = 0
  · obtain ⟨g2, k1, k2, k3, k4⟩ := s_savableWords w ha e5 e3 e6
    have o : Off h.2.2 g2 xRows := Off.tr (Off.mono e4 (by decide)) (Off.mono k3 (by decide))
    obtain ⟨q1, q2⟩ := XAt_look hx o (GAt_off e2 k3 (by decide)) k2
    rw [if_pos h0, if_pos (kO_W w K00), e1, cR_v, xR0 (WF_S w), oo_v, if_pos (kO_W (WF_S w) K47), k1, cI_v, h0]
    exact ⟨hS h g2, rfl, WF_S w, q1, q2⟩
  rw [if_neg h0]
  by_cases h1 : x = 1
  · obtain ⟨g2, k1, k2, k3, k4⟩ := s_greatestWay (kd := 0) w ha e5 e3 e6 (by omega)
    have o : Off h.2.2 g2 xRows := Off.tr (Off.mono e4 (by decide)) (Off.mono k3 (by decide))
    obtain ⟨q1, q2⟩ := XAt_look hx o (GAt_off e2 k3 (by decide)) k2
    obtain ⟨r0, r1, r2⟩ := gol_ex hb ha.2.2.2.2.1 ha.2.2.2.2.2.1
    have hw0 : wyO (zA z) 0 r0 = some 0 := (lvK_0 (S := aS (zA z)) (kd := 0) hb hO r1).2 r2
    rw [if_pos h1, if_pos (kO_W w K00), e1, cR_v, xR0 (WF_S w), oo_v, if_pos (kO_W (WF_S w) K47), L0, k1, cI_v, h1]
    refine ⟨hS h g2, ?_, WF_S w, q1, q2⟩
    show rI (nI (mxs (wyO (zA z) 0) (wds (aB (zA z))))) _ = rI (vI (wst (wyO (zA z) 0) (wds (aB (zA z)))).1) _
    rw [wst_some r1 hw0]
  rw [if_neg h1]
  by_cases h2 : x = 2
  · obtain ⟨g2, k1, k2, k3, k4⟩ := s_greatestWay (kd := 1) w ha e5 e3 e6 (by omega)
    have o : Off h.2.2 g2 xRows := Off.tr (Off.mono e4 (by decide)) (Off.mono k3 (by decide))
    obtain ⟨q1, q2⟩ := XAt_look hx o (GAt_off e2 k3 (by decide)) k2
    rw [if_pos h2, if_pos (kO_W w K00), e1, cR_v, xR0 (WF_S w), oo_v, if_pos (kO_W (WF_S w) K47), L1, k1, cI_v, h2]
    exact ⟨hS h g2, rfl, WF_S w, q1, q2⟩
  rw [if_neg h2]
  by_cases h3 : x = 3
  · obtain ⟨g2, k1, k2, k3, k4⟩ := s_worstRank w ha e5 e3 e6
    have o : Off h.2.2 g2 xRows := Off.tr (Off.mono e4 (by decide)) (Off.mono k3 (by decide))
    obtain ⟨q1, q2⟩ := XAt_look hx o (GAt_off e2 k3 (by decide)) k2
    rw [if_pos h3, if_pos (kO_W w K00), e1, cR_v, xR0 (WF_S w), oo_v, if_pos (kO_W (WF_S w) K47), k1, cI_v, h3]
    exact ⟨hS h g2, rfl, WF_S w, q1, q2⟩
  rw [if_neg h3]
  have hn4 : inb x 4 = false := by
    cases hx4 : inb x 4 with
    | false => rfl
    | true =>
      obtain ⟨r, hr, rfl⟩ := inb_yes hx4
      rcases (show r = 0 ∨ r = 1 ∨ r = 2 ∨ r = 3 by omega) with rfl | rfl | rfl | rfl
      · exact absurd rfl h0
      · exact absurd rfl h1
      · exact absurd rfl h2
      · exact absurd rfl h3
  rw [hn4, if_neg (show ¬ false = true by decide)]
  by_cases h4 : x = 4
  · obtain ⟨g2, d, q, len, k1, k2, k3, k4⟩ := s_reach (S := aS (zA z)) w ha e5 ha.2.2.1 e3
    have o : Off h.2.2 g2 xRows := Off.tr (Off.mono e4 (by decide)) (Off.mono k4 (by decide))
    obtain ⟨q1, q2⟩ := XAt_look hx o (GAt_off e2 k4 (by decide)) (SC_of e6 k4 (by decide))
    rw [if_pos h4, if_pos h4, if_pos (kO_W w K00), e1, cR_v]
    simp only [xR0 (WF_S w), oo_v, hI_W (WF_S w) K1, hS_2, e5.2.2.2.2.1]
    rw [if_pos (kO_W (WF_S w) K47), k1, cI_v, k3]
    exact ⟨hS h g2, rfl, WF_S w, q1, q2⟩
  · rw [if_neg h4, if_neg h4]
    exact ⟨h, rfl, w, hx, XB.rf⟩
theorem s_Xmean (hm : sMean z &&& 0x7fffffffffffffff ≤ 0x7ff0000000000000) (w : WF h) (hz : ZOK z) (hx : XAt h z) : ∃ h1, f_X_mean 0 h = rD (sMean z) h1 ∧ WF h1 ∧ XAt h1 z ∧ XB h h1 := by
  obtain ⟨ha, hz2, hz3, hz4⟩ := id hz
  have hb := ha.2.1
  have hw := wds_lt hb
  have hO : ∀ s, 1 ≤ s → s ≤ aB (zA z) → 1 ≤ aO (zA z) s ∧ aO (zA z) s ≤ 9 := fun s s1 s2 => (ha.2.2.2.2.2.2.1 s s1 s2).2
  obtain ⟨g, e1, e2, e3, e4, e5, e6⟩ := s_XdrawnSearch w hz hx
  obtain ⟨g2, k1, k2, k3, k4⟩ := s_savableWords w ha e5 e3 e6
  have hc2 : CAt g2 1 (zA z) := CAt_off e5 k3 (by decide) (by decide) (by decide)
  have hG2 := GOK_of e3 k3 (by decide)
  obtain ⟨g3, l1, l2, l3, l4⟩ := s_sumOfWays w ha hc2 hG2 k2
  have o : Off h.2.2 g3 xRows := Off.tr (Off.mono e4 (by decide)) (Off.tr (Off.mono k3 (by decide)) (Off.mono l3 (by decide)))
  obtain ⟨q1, q2⟩ := XAt_look hx o (GAt_off (GAt_off e2 k3 (by decide)) l3 (by decide)) l2
  obtain ⟨r0, r1, r2⟩ := gol_ex hb ha.2.2.2.2.1 ha.2.2.2.2.2.1
  have hne : cnt (fun r => (wyO (zA z) 0 r).isSome) (wds (aB (zA z))) ≠ 0 := cnt_pos (r := r0) _ r1 (by
    rw [show wyO (zA z) 0 r0 = some 0 from (lvK_0 (S := aS (zA z)) (kd := 0) hb hO r1).2 r2]
    rfl)
  have hle := cnt_le (fun r => (wyO (zA z) 0 r).isSome) (wds (aB (zA z)))
  rw [e_X_mean, if_pos (kO_W w K00), e1, cR_v, xR0 (WF_S w), oo_v, if_pos (kO_W (WF_S w) K47), k1, cI_v, if_neg (fun e => hne ((i_le0 (by omega)).1 e)), xR6 (WF_S w), oo_v, xR0 (WF_S w), oo_v, if_pos (kO_W (WF_S w) K47), l1, cI_v]
  exact ⟨hS h g3, if_pos hm, WF_S w, q1, q2⟩
theorem s_Xround {x : Int32} (w : WF h) (hz : ZOK z) (hx : XAt h z) : ∃ h1, f_X_round 0 x h = rI (sRound z x).1 h1 ∧ WF h1 ∧ XAt h1 (sRound z x).2 ∧ XB h h1 := by
  obtain ⟨ha, hz2, hz3, hz4⟩ := id hz
  obtain ⟨x1, x2, x3, x4, x5, x6⟩ := id hx
  rw [e_X_round, L4, s_XisB (by omega), cI_v]
  unfold sRound
  cases h1 : inb x 4 with
  | false =>
    rw [if_pos (show nI false.toNat = 0 from rfl), if_neg (by decide)]
    exact ⟨h, rfl, w, hx, XB.rf⟩
  | true =>
    obtain ⟨v, hv, rfl⟩ := inb_yes h1
    rw [if_neg (show ¬ nI true.toNat = 0 by decide), if_pos rfl, xR4 w, oo_v, if_pos (kO_W w K33), s_programFault w x4, cI_v]
    by_cases hf : pfR (zN z) (zL z) = -4
    · obtain ⟨g, i, j, k1, k2, k3, k4, k5, k6, k7, k8⟩ := s_follow (f := h.2.2) w ha x1 x4 hf
      have o : Off h.2.2 g xRows := Off.mono k8 (by decide)
      obtain ⟨q1, q2⟩ := XAt_look hx o (GAt_off x5 k8 (by decide)) (SC_of x6 k8 (by decide))
      rw [hS_self] at k1
      rw [show (-nI 4 : Int32) = -4 from rfl, if_pos hf, if_pos hf, xR7 w, oo_v, xR0 w, oo_v, xR4 w, oo_v, if_pos (kO_W w K58), k1, cV_v, rdIJ_eq k2]
      simp only [cl, i_clamp (show v < 2147483648 by omega), xR7 (WF_S w), oo_v, hI_W (WF_S w) K58, hS_2, k4, k5, k6, k7]
      unfold rndA
      rcases (show v = 0 ∨ v = 1 ∨ v = 2 ∨ v = 3 by omega) with rfl | rfl | rfl | rfl
      · exact ⟨hS h g, rfl, WF_S w, q1, q2⟩
      · exact ⟨hS h g, rfl, WF_S w, q1, q2⟩
      · exact ⟨hS h g, rfl, WF_S w, q1, q2⟩
      · exact ⟨hS h g, rfl, WF_S w, q1, q2⟩
    · rw [show (-nI 4 : Int32) = -4 from rfl, if_neg hf, if_neg hf]
      exact ⟨h, rfl, w, hx, XB.rf⟩
theorem s_Xloosen_7 : ∀ (k p : Nat) (u v : Option Nat) (h : pH), p + k = 7 → WF h → ZOK z → XAt h z → (∀ q, u = some q → q < 7) → (u = none → v = none) → (∀ t, v = some t → t ≤ 22671) →
    ∃ h1, f_X_loosen_7 0 (ansO u) (vI v) (nI p) h = rI (ansO (lsL (zA z) k p u v)) h1 ∧ WF h1 ∧ XAt h1 z ∧ XB h h1
  | 0, p, u, v, h, hp, w, hz, hx, hu, hv, hv6 => by
    refine ⟨h, ?_, w, hx, XB.rf⟩
    rw [e_X_loosen_7, L7, if_pos ((i_le (by omega) (by omega)).2 (by omega))]
    rfl
  | k + 1, p, u, v, h, hp, w, hz, hx, hu, hv, hv6 => by
    obtain ⟨ha, hz2, hz3, hz4⟩ := id hz
    have hb := ha.2.1
    have hc := hx.1
    have hp7 : p < 7 := by omega
    have hsl := sl_lt (aP (zA z)) p
    have hS64 : aS (zA z) < 64 := ha.2.2.1
    have hO : ∀ s, 1 ≤ s → s ≤ aB (zA z) → 1 ≤ aO (zA z) s ∧ aO (zA z) s ≤ 9 := fun s s1 s2 => (ha.2.2.2.2.2.2.1 s s1 s2).2
    have hrk := rk_lt hb ha.1
    rw [e_X_loosen_7, L7, if_neg (fun e => absurd ((i_le (by omega) (by omega)).1 e) (by omega))]
    simp only [xR0 w, oo_v, hI_W w K1, hc.1, hc.2.2.2.2.1, s_slotAt ha.1.1 hp7, cI_v]
    rw [s_isIn (show aS (zA z) < 2147483648 by omega) (by omega), cI_v]
    unfold lsL
    cases hst : (aS (zA z)).testBit (sl (aP (zA z)) p) with
    | false =>
      rw [if_pos (by rfl), if_neg (by decide), L1, i_add]
      exact s_Xloosen_7 k (p + 1) u v h (by omega) w hz hx hu hv hv6
    | true =>
      obtain ⟨g, e1, e2, e3, e4, e5, e6⟩ := s_XdrawnSearch w hz hx
      have hml : aS (zA z) &&& ((1 <<< sl (aP (zA z)) p) ^^^ 2097151) < 64 := Nat.lt_of_le_of_lt Nat.and_le_left hS64
      obtain ⟨g2, k1, k4⟩ := s_wayWith (S := aS (zA z) &&& ((1 <<< sl (aP (zA z)) p) ^^^ 2097151)) w ha e5 hml e3
      have o : Off h.2.2 g2 xRows := Off.tr (Off.mono e4 (by decide)) (Off.mono k4 (by decide))
      obtain ⟨q1, q2⟩ := XAt_look hx o (GAt_off e2 k4 (by decide)) (SC_of e6 k4 (by decide))
      rw [if_neg (by decide), if_pos rfl, if_pos (kO_W w K00), e1, cR_v]
      simp only [xR0 (WF_S w), oo_v, hI_W (WF_S w) K1, hS_2, e5.2.2.2.2.1]
      have hsh : 1 <<< sl (aP (zA z)) p < 2097152 := Nat.lt_trans (shl1_lt hsl) (by omega)
      rw [if_pos (kO_W (WF_S w) K47), L1, i_shl (by omega), i_m11 (by omega) hsh, k1, cI_v]
      have hway : ∀ t, lvK (aB (zA z)) (aS (zA z) &&& ((1 <<< sl (aP (zA z)) p) ^^^ 2097151)) (aO (zA z)) (aF (zA z)) (aC (zA z)) 0 (rk (aB (zA z)) (aP (zA z))) = some t → t ≤ 22671 := fun t e => by have := lvK_lt hb hO hrk e; omega
      have hlv : lv (ED (aB (zA z)) (aS (zA z) &&& ((1 <<< sl (aP (zA z)) p) ^^^ 2097151))) (fun _ _ => 1) (gol (aB (zA z)) (aF (zA z)) (aC (zA z))) (rk (aB (zA z)) (aP (zA z))) = lvK (aB (zA z)) (aS (zA z) &&& ((1 <<< sl (aP (zA z)) p) ^^^ 2097151)) (aO (zA z)) (aF (zA z)) (aC (zA z)) 0 (rk (aB (zA z)) (aP (zA z))) := rfl
      rw [hlv]
      generalize lvK (aB (zA z)) (aS (zA z) &&& ((1 <<< sl (aP (zA z)) p) ^^^ 2097151)) (aO (zA z)) (aF (zA z)) (aC (zA z)) 0 (rk (aB (zA z)) (aP (zA z))) = way at hway
      have hwin : ∃ h1, f_X_loosen_7 0 (nI p) (vI way) (nI p + nI 1) (hS h g2) = rI (ansO (lsL (zA z) k (p + 1) (some p) way)) h1 ∧ WF h1 ∧ XAt h1 z ∧ XB h h1 := by
        obtain ⟨h1, r1, r2, r3, r4⟩ := s_Xloosen_7 k (p + 1) (some p) way (hS h g2) (by omega) (WF_S w) hz q1 (fun q e => by cases e; omega) (fun e => nomatch e) hway
        rw [i_add]
        exact ⟨h1, r1, r2, r3, XB.tr q2 r4⟩
      have hlose : ∃ h1, f_X_loosen_7 0 (ansO u) (vI v) (nI p + nI 1) (hS h g2) = rI (ansO (lsL (zA z) k (p + 1) u v)) h1 ∧ WF h1 ∧ XAt h1 z ∧ XB h h1 := by
        obtain ⟨h1, r1, r2, r3, r4⟩ := s_Xloosen_7 k (p + 1) u v (hS h g2) (by omega) (WF_S w) hz q1 hu hv hv6
        rw [i_add]
        exact ⟨h1, r1, r2, r3, XB.tr q2 r4⟩
      by_cases hun : u = none
      · rw [if_pos (show ansO u = -4 from (ansO_m4 (fun q e => by have := hu q e; omega)).2 hun), if_pos (show u = none ∨ way.getD 1000000 < v.getD 1000000 from Or.inl hun)]
        exact hwin
      · rw [if_neg (show ¬ ansO u = -4 from fun e => hun ((ansO_m4 (fun q e => by have := hu q e; omega)).1 e))]
        cases hw : way with
        | none =>
          have hnl : ¬ (u = none ∨ (none : Option Nat).getD 1000000 < v.getD 1000000) := fun q => q.elim hun (fun q => by
            cases v with
            | none => exact absurd q (Nat.lt_irrefl _)
            | some t =>
              have h1 := hv6 t rfl
              have q : 1000000 < t := q
              omega)
          rw [if_pos (show vI none = -nI 1 from rfl), if_neg hnl]
          exact hlose
        | some t =>
          have ht := hway t hw
          rw [hw] at hwin
          rw [if_neg (show ¬ vI (some t) = -nI 1 from fun e => by have h1 := i_nneg (show t < 2147483648 by omega); rw [show nI t = -nI 1 from e] at h1; exact absurd (by decide) h1)]
          cases hvv : v with
          | none =>
            rw [if_pos (show vI none = -nI 1 from rfl), if_pos (show u = none ∨ (some t).getD 1000000 < (none : Option Nat).getD 1000000 from Or.inr (by show t < 1000000; omega))]
            exact hwin
          | some s =>
            have hs := hv6 s hvv
            rw [hvv] at hlose
            rw [if_neg (show ¬ vI (some s) = -nI 1 from fun e => by have h1 := i_nneg (show s < 2147483648 by omega); rw [show nI s = -nI 1 from e] at h1; exact absurd (by decide) h1)]
            by_cases hst2 : s ≤ t
            · rw [if_pos (show vI (some s) ≤ vI (some t) from (i_le (by omega) (by omega)).2 hst2), if_neg (show ¬ (u = none ∨ (some t).getD 1000000 < (some s).getD 1000000) from fun q => q.elim hun (fun q => by have q : t < s := q; omega))]
              exact hlose
            · rw [if_neg (show ¬ vI (some s) ≤ vI (some t) from fun e => hst2 ((i_le (by omega) (by omega)).1 e)), if_pos (show u = none ∨ (some t).getD 1000000 < (some s).getD 1000000 from Or.inr (by show t < s; omega))]
              exact hwin
theorem s_Xloosen (w : WF h) (hz : ZOK z) (hx : XAt h z) : ∃ h1, f_X_loosen 0 h = rI (sLoosen z).1 h1 ∧ WF h1 ∧ XAt h1 (sLoosen z).2 ∧ XB h h1 := by
  obtain ⟨h1, e1, e2⟩ := s_Xloosen_7 7 0 none none h (by omega) w hz hx (fun _ e => nomatch e) (fun _ => rfl) (fun _ e => nomatch e)
  refine ⟨h1, ?_, e2⟩
  rw [e_X_loosen, L0]
  exact e1
theorem s_XcountAcc {x : Int32} (w : WF h) (hz : ZOK z) (hx : XAt h z) (hn : ¬ x = 0 ∧ ¬ x = 1 ∧ ¬ x = 2 ∧ ¬ x = 3 ∧ ¬ x = 4 ∧ ¬ x = 5 ∧ ¬ x = 6 ∧ ¬ x = 7) : f_X_countAccounts 0 x h = rI (sCount z x).1 h := by
  obtain ⟨ha, hz2, hz3, hz4⟩ := id hz
  obtain ⟨x1, x2, x3, x4, x5, x6⟩ := id hx
  obtain ⟨c0, c1, c2, c3, c4, c5, c6, c7, c8, c9⟩ := x1
  obtain ⟨n0, n1, n2, n3, n4, n5, n6, n7⟩ := hn
  rw [e_X_countAccounts]
  unfold sCount
  dsimp only
  rw [if_neg n0, if_neg n1, if_neg n2, if_neg n3, if_neg n4, if_neg n5, if_neg n6, if_neg n7]
  simp only [xR0 w, xR3 w, xR4 w, oo_v, hI_W w K1, hI_W w K33, hI_W w K11, c5, c6, c7, c8, c9, x4.1, x2.2.1]
  by_cases h8 : x = 8
  · rw [if_pos h8, if_pos h8]
  rw [if_neg h8, if_neg h8]
  by_cases h9 : x = 9
  · rw [if_pos h9, if_pos h9]
  rw [if_neg h9, if_neg h9]
  by_cases h10 : x = 10
  · rw [if_pos h10, if_pos h10]
  rw [if_neg h10, if_neg h10]
  by_cases h11 : x = 11
  · rw [if_pos h11, if_pos h11]
    rw [if_pos (kO_W w K1), s_possibleMoves w hx.1 ha, cI_v]
    rfl
  rw [if_neg h11, if_neg h11]
  by_cases h12 : x = 12
  · rw [if_pos h12, if_pos h12]
  rw [if_neg h12, if_neg h12]
  by_cases h13 : x = 13
  · rw [if_pos h13, if_pos h13]
  rw [if_neg h13, if_neg h13]
  by_cases h14 : x = 14
  · rw [if_pos h14, if_pos h14]
  rw [if_neg h14, if_neg h14]
  by_cases h15 : x = 15
  · rw [if_pos h15, if_pos h15]
  rw [if_neg h15, if_neg h15]
theorem s_Xcount {x : Int32} (w : WF h) (hz : ZOK z) (hx : XAt h z) : ∃ h1, f_X_count 0 x h = rI (sCount z x).1 h1 ∧ WF h1 ∧ XAt h1 (sCount z x).2 ∧ XB h h1 := by
  obtain ⟨ha, hz2, hz3, hz4⟩ := id hz
  have hb := ha.2.1
  have hF := ha.2.2.2.2.1
  have hC := ha.2.2.2.2.2.1
  have hc := hx.1
  have hw := wds_lt hb
  refine ⟨h, ?_, w, hx, XB.rf⟩
  by_cases hn : ¬ x = 0 ∧ ¬ x = 1 ∧ ¬ x = 2 ∧ ¬ x = 3 ∧ ¬ x = 4 ∧ ¬ x = 5 ∧ ¬ x = 6 ∧ ¬ x = 7
  · have he := s_XcountAcc w hz hx hn
    obtain ⟨n0, n1, n2, n3, n4, n5, n6, n7⟩ := hn
    rw [e_X_count, if_neg n0, if_neg n1, if_neg n2, if_neg n3, if_neg n4, if_neg n5, if_neg n6, if_neg n7, if_pos (kO_W w K00), he, cI_v]
  · rw [e_X_count]
    simp only [xR0 w, oo_v, hI_W w K1, hc.1, hc.2.1, hc.2.2.2.2.1, hc.2.2.2.2.2.1, hc.2.2.2.2.2.2.1]
    unfold sCount
    dsimp only
    by_cases h0 : x = 0
    · rw [if_pos h0, if_pos h0]
    rw [if_neg h0, if_neg h0]
    by_cases h1 : x = 1
    · rw [if_pos h1, if_pos h1]
      rw [s_bitCount ha.2.2.1, cI_v]
    rw [if_neg h1, if_neg h1]
    by_cases h2 : x = 2
    · rw [if_pos h2, if_pos h2]
      rw [if_pos (kO_W w K1), s_sumOfWeights w hc ha, cI_v]
    rw [if_neg h2, if_neg h2]
    by_cases h3 : x = 3
    · rw [if_pos h3, if_pos h3]
      rw [s_isInOrder ha.1.1 hF hC, cI_v]
      cases inOrd (aP (zA z)) (aF (zA z)) (aC (zA z)) <;> rfl
    rw [if_neg h3, if_neg h3]
    by_cases h4 : x = 4
    · rw [if_pos h4, if_pos h4]
      rw [s_disorder ha.1.1 hF, cI_v]
    rw [if_neg h4, if_neg h4]
    by_cases h5 : x = 5
    · rw [if_pos h5, if_pos h5]
      rw [if_pos (kO_W w K1), s_rankOfNow w hc ha, cI_v]
    rw [if_neg h5, if_neg h5]
    by_cases h6 : x = 6
    · rw [if_pos h6, if_pos h6]
      rw [s_wordsOf hb, cI_v]
    rw [if_neg h6, if_neg h6]
    by_cases h7 : x = 7
    · rw [if_pos h7, if_pos h7]
      have hwy : ∀ b, b < 6 → 1 ≤ wy 0 b ∧ wy 0 b < 1000 := by decide
      have hwy1 := hwy _ hb
      by_cases h1 : aC (zA z) = 1
      · rw [if_pos (by rw [h1]; rfl), if_pos h1]
        rfl
      · rw [if_neg (show ¬ nI (aC (zA z)) = 1 from fun e => h1 ((i_inj (by omega) (by omega)).1 (show nI (aC (zA z)) = nI 1 from e))), if_neg h1, e_K_risingWordsOf, L0, s_ways (by omega) (by omega), cI_v, if_neg (fun e => absurd ((i_le (by omega) (by omega)).1 e) (by omega)), s_wordsOf hb, cI_v, if_neg (fun e => absurd ((i_inj (by omega) (by omega)).1 e) (by omega)), i_div (by omega) (by omega), cI_v]
    exact absurd ⟨h0, h1, h2, h3, h4, h5, h6, h7⟩ hn
end XLooks
