/-! what the class holds of the whole state; its changes -/
def XSn (f : Nat → Nat → Int32) (s : Option AS) : Prop := match s with
  | none => f 0 2 = 0
  | some a => f 0 2 = 1 ∧ CAt f 6 a
def XAt (h : pH) (z : ZS) : Prop := CAt h.2.2 1 (zA z) ∧ HAt h (zH z) ∧ XSn h.2.2 (zS z) ∧ PAt h.2.2 (zN z) (zL z) ∧ GAt h.2.2 ∧ SC h.2.2
def XB (h h1 : pH) : Prop := ∀ k, 63 ≤ k → h1.2.2 k = h.2.2 k
theorem XB.rf {h : pH} : XB h h := fun _ _ => rfl
theorem XB.tr {a b c : pH} (x : XB a b) (y : XB b c) : XB a c := fun k hk => (y k hk).trans (x k hk)
theorem XB.of {h h1 : pH} {l : List Nat} (o : Off h.2.2 h1.2.2 l) (hl : ∀ k, k ∈ l → k < 63) : XB h h1 := fun k hk => o k (fun q => by have := hl k q; omega)
theorem XSn_off {f g : Nat → Nat → Int32} {s : Option AS} {l : List Nat} (h : XSn f s) (o : Off f g l) (h0 : 0 ∉ l ∧ 6 ∉ l ∧ 8 ∉ l ∧ 10 ∉ l) : XSn g s := by
  cases s with
  | none => exact (congrFun (o 0 h0.1) 2).trans h
  | some a => exact ⟨(congrFun (o 0 h0.1) 2).trans h.1, CAt_off h.2 o h0.2.1 h0.2.2.1 h0.2.2.2⟩
theorem PAt_off {f g : Nat → Nat → Int32} {n : Nat} {p : Nat → Nat} {l : List Nat} (h : PAt f n p) (o : Off f g l) (h0 : 33 ∉ l ∧ 35 ∉ l) : PAt g n p := by
  unfold PAt at *
  rw [o 33 h0.1, o 35 h0.2]
  exact h
theorem GAt_off {f g : Nat → Nat → Int32} {l : List Nat} (h : GAt f) (o : Off f g l) (h0 : 36 ∉ l ∧ 38 ∉ l ∧ 40 ∉ l ∧ 42 ∉ l ∧ 44 ∉ l ∧ 46 ∉ l) : GAt g := by
  unfold GAt GOK at *
  rw [o 36 h0.1, o 38 h0.2.1, o 40 h0.2.2.1, o 42 h0.2.2.2.1, o 44 h0.2.2.2.2.1, o 46 h0.2.2.2.2.2]
  exact h
theorem HAt_off {h : pH} {g : Nat → Nat → Int32} {l : List Nat} {hs : List AS} (hh : HAt h hs) (o : Off h.2.2 g l) (h0 : ∀ k, k ∈ l → k ∉ hRows) : HAt (hS h g) hs := by
  obtain ⟨h1, h2, π, h3, h4, h5⟩ := hh
  refine ⟨h1, ?_, π, h3, h4, fun i a hi => ?_⟩
  · show g 11 1 = _
    rw [o 11 (fun q => h0 11 q (by decide))]
    exact h2
  · obtain ⟨a1, a2⟩ := h5 i a hi
    have hil : i < hs.length := (List.getElem?_eq_some_iff.mp hi).1
    have hin := hs_in (h3 i (by omega)).2
    exact ⟨CAt_off a1 o (fun q => h0 _ q hin.1) (fun q => h0 _ q hin.2.1) (fun q => h0 _ q hin.2.2.1), a2⟩
theorem s2_row {f : Nat → Nat → Int32} {r j k : Nat} {x : Int32} (hk : k ≠ j) : s2 f r j x r k = f r k := by rw [s2_at, if_pos rfl, if_neg hk]
theorem s2_hit {f : Nat → Nat → Int32} {r j : Nat} {x : Int32} : s2 f r j x r j = x := by rw [s2_at, if_pos rfl, if_pos rfl]
section XBase
variable {h : pH} {z : ZS}
theorem K00 : K0[0]? = some (.inl 7) := rfl
theorem xR0 (w : WF h) : hR h 7 0 0 = some 1 := hR_W w K00 (by omega) rfl
theorem xR1 (w : WF h) : hR h 7 0 1 = some 6 := hR_W w K00 (by omega) rfl
theorem xR3 (w : WF h) : hR h 7 0 3 = some 11 := hR_W w K00 (by omega) rfl
theorem xR4 (w : WF h) : hR h 7 0 4 = some 33 := hR_W w K00 (by omega) rfl
theorem xR5 (w : WF h) : hR h 7 0 5 = some 36 := hR_W w K00 (by omega) rfl
theorem xR6 (w : WF h) : hR h 7 0 6 = some 47 := hR_W w K00 (by omega) rfl
theorem xR7 (w : WF h) : hR h 7 0 7 = some 58 := hR_W w K00 (by omega) rfl
theorem K6 : K0[6]? = some (.inl 6) := rfl
theorem s_XisB {x : Int32} {n : Nat} (hn : n < 2147483648) : f_X_isBelow x (nI n) h = rI (nI (inb x n).toNat) h := by
  rw [e_X_isBelow]
  cases hx : inb x n with
  | true =>
    obtain ⟨r, h1, rfl⟩ := inb_yes hx
    rw [if_neg (i_nneg (by omega)), if_neg (fun e => absurd ((i_le (by omega) (by omega)).1 e) (by omega))]
    rfl
  | false =>
    rcases inb_no hn hx with q | q
    · rw [if_pos q]; rfl
    · by_cases h0 : x < 0
      · rw [if_pos h0]; rfl
      · rw [if_neg h0, if_pos q]; rfl
/-- a change behind what is kept -/
theorem XAt_chg {h' : pH} {g : Nat → Nat → Int32} {a : AS} (hx : XAt h z) (hh : HAt h' (kept (zH z) (zA z))) (ho : Off h.2.2 h'.2.2 hRows) (hc : CAt g 1 a) (o : Off h'.2.2 g [1, 3, 5]) : XAt (hS h' g) (chg z a) ∧ XB h (hS h' g) := by
  obtain ⟨x1, x2, x3, x4, x5, x6⟩ := hx
  have o2 : Off h.2.2 g ([1, 3, 5] ++ hRows) := Off.tr (Off.mono ho (fun k hk => List.mem_append_right _ hk)) (Off.mono o (fun k hk => List.mem_append_left _ hk))
  exact ⟨⟨hc, HAt_off hh o (by decide), XSn_off x3 o2 (by decide), PAt_off x4 o2 (by decide), GAt_off x5 o2 (by decide), SC_of x6 o2 (by decide)⟩, XB.of (h1 := hS h' g) o2 (by decide)⟩
theorem s_Xadd {x1 x2 x3 : Int32} (w : WF h) (hz : ZOK z) (hx : XAt h z) : ∃ h1, f_X_add 0 x1 x2 x3 h = rI (sAdd z x1 x2 x3).1 h1 ∧ WF h1 ∧ XAt h1 (sAdd z x1 x2 x3).2 ∧ XB h h1 := by
  obtain ⟨ha, hz2, hz3, hz4⟩ := id hz
  have hc := hx.1
  have hb := ha.2.1
  rw [e_X_add, L26, s_XisB (by omega), cI_v]
  unfold sAdd
  cases h1 : inb x1 26 with
  | false =>
    rw [if_pos (show nI false.toNat = 0 from rfl), if_neg (fun q => by cases q.1)]
    exact ⟨h, rfl, w, hx, XB.rf⟩
  | true =>
    rw [if_neg (show ¬ nI true.toNat = 0 by decide)]
    by_cases h2 : x2 < 1
    · rw [if_pos h2, if_neg (fun q => q.2.1.1 h2)]
      exact ⟨h, rfl, w, hx, XB.rf⟩
    · rw [if_neg h2]
      by_cases h3 : 9 < x2
      · rw [if_pos h3, if_neg (fun q => q.2.1.2 h3)]
        exact ⟨h, rfl, w, hx, XB.rf⟩
      · rw [if_neg h3, L7, s_XisB (by omega), cI_v]
        cases h4 : inb x3 7 with
        | false =>
          rw [if_pos (show nI false.toNat = 0 from rfl), if_neg (fun q => by cases q.2.2)]
          exact ⟨h, rfl, w, hx, XB.rf⟩
        | true =>
          obtain ⟨x, hxx, rfl⟩ := inb_yes h1
          obtain ⟨p, hp, rfl⟩ := inb_yes h4
          have hx2 : ∃ y, x2 = nI y ∧ 1 ≤ y ∧ y ≤ 9 := by
            refine ⟨x2.toInt.toNat, ?_, ?_⟩
            · apply Int32.toInt_inj.mp
              rw [Int32.lt_iff_toInt_lt, show (1 : Int32).toInt = 1 from by decide] at h2
              have := Int32.toInt_lt x2
              rw [i_toInt (by omega)]
              omega
            · rw [Int32.lt_iff_toInt_lt, show (1 : Int32).toInt = 1 from by decide] at h2
              rw [Int32.lt_iff_toInt_lt, show (9 : Int32).toInt = 9 from by decide] at h3
              omega
          obtain ⟨y, rfl, hy1, hy9⟩ := hx2
          have hsl := sl_lt (aP (zA z)) p
          have hso : slotOf (zA z) (nI x) < 8 := slt_lt hb (aB (zA z)) 1 (by omega) (by omega)
          rw [if_neg (show ¬ nI true.toNat = 0 by decide), xR0 w, oo_v, if_pos (kO_W w K1), s_slotOf w hc ha, cI_v, if_pos (show true = true ∧ (¬ nI y < 1 ∧ ¬ 9 < nI y) ∧ true = true from ⟨rfl, ⟨h2, h3⟩, rfl⟩)]
          simp only [cl, i_clamp (show x < 2147483648 by omega), i_clamp (show p < 2147483648 by omega), i_clamp (show y < 2147483648 by omega)]
          by_cases h5 : slotOf (zA z) (nI x) = 0
          · rw [if_pos ((i_eq0 (by omega)).2 h5)]
            simp only [xR0 w, oo_v, hI_W w K1, hc.1, hc.2.1, s_slotAt ha.1.1 hp, cI_v]
            by_cases h6 : sl (aP (zA z)) p = 0
            · rw [if_pos ((i_eq0 (by omega)).2 h6), if_neg (show ¬ (slotOf (zA z) (nI x) ≠ 0 ∨ sl (aP (zA z)) p ≠ 0) from fun q => q.elim (fun q => q h5) (fun q => q h6)), L5]
              by_cases h7 : aB (zA z) < 5
              · obtain ⟨h', e1, e2, e3, e4⟩ := s_keep w hx.2.1 hc hb
                have hc' : CAt h'.2.2 1 (zA z) := CAt_off hc e4 (by decide) (by decide) (by decide)
                obtain ⟨g, f1, f2, f3⟩ := s_insert (y := y) e2 hc' ha hxx hp h7
                obtain ⟨k1, k2⟩ := XAt_chg hx e3 e4 f2 f3
                rw [if_pos ((i_lt (by omega) (by omega)).2 h7), if_pos h7]
                simp only [xR0 w, xR3 w, oo_v]
                rw [if_pos (kO_W w K11), e1, cV_v]
                simp only [xR0 e2, oo_v]
                rw [if_pos (kO_W e2 K1), f1, cV_v]
                simp only [xR0 (WF_S e2), oo_v, hI_W (WF_S e2) K1, hS_2]
                exact ⟨hS h' g, by rw [f2.2.1]; rfl, WF_S e2, k1, k2⟩
              · rw [if_neg (fun e => h7 ((i_lt (by omega) (by omega)).1 e)), if_neg h7]
                exact ⟨h, rfl, w, hx, XB.rf⟩
            · rw [if_neg (fun e => h6 ((i_eq0 (by omega)).1 e)), if_pos (Or.inr h6)]
              exact ⟨h, rfl, w, hx, XB.rf⟩
          · rw [if_neg (fun e => h5 ((i_eq0 (by omega)).1 e)), if_pos (Or.inl h5)]
            exact ⟨h, rfl, w, hx, XB.rf⟩
theorem s_Xremove {x : Int32} (w : WF h) (hz : ZOK z) (hx : XAt h z) : ∃ h1, f_X_remove 0 x h = rI (sRemove z x).1 h1 ∧ WF h1 ∧ XAt h1 (sRemove z x).2 ∧ XB h h1 := by
  obtain ⟨ha, hz2, hz3, hz4⟩ := id hz
  have hc := hx.1
  rw [e_X_remove, L7, s_XisB (by omega), cI_v]
  unfold sRemove
  cases h4 : inb x 7 with
  | false =>
    rw [if_pos (show nI false.toNat = 0 from rfl), if_neg (by decide)]
    exact ⟨h, rfl, w, hx, XB.rf⟩
  | true =>
    obtain ⟨p, hp, rfl⟩ := inb_yes h4
    have hsl := sl_lt (aP (zA z)) p
    rw [if_neg (show ¬ nI true.toNat = 0 by decide), if_pos rfl]
    simp only [xR0 w, oo_v, hI_W w K1, hc.1, s_slotAt ha.1.1 hp, cI_v, cl, i_clamp (show p < 2147483648 by omega)]
    by_cases h6 : sl (aP (zA z)) p = 0
    · rw [if_pos ((i_eq0 (by omega)).2 h6), if_pos h6]
      exact ⟨h, rfl, w, hx, XB.rf⟩
    · obtain ⟨h', e1, e2, e3, e4⟩ := s_keep w hx.2.1 hc ha.2.1
      have hc' : CAt h'.2.2 1 (zA z) := CAt_off hc e4 (by decide) (by decide) (by decide)
      obtain ⟨g, f1, f2, f3⟩ := s_takeOff e2 hc' ha hp h6
      obtain ⟨k1, k2⟩ := XAt_chg hx e3 e4 f2 f3
      rw [if_neg (fun e => h6 ((i_eq0 (by omega)).1 e)), if_neg h6]
      simp only [xR3 w, oo_v]
      rw [if_pos (kO_W w K11), e1, cV_v, xR0 e2, oo_v, if_pos (kO_W e2 K1), f1, cI_v]
      exact ⟨hS h' g, rfl, WF_S e2, k1, k2⟩
theorem s_Xstick {x : Int32} (w : WF h) (hz : ZOK z) (hx : XAt h z) : ∃ h1, f_X_stick 0 x h = rI (sStick z x).1 h1 ∧ WF h1 ∧ XAt h1 (sStick z x).2 ∧ XB h h1 := by
  obtain ⟨ha, hz2, hz3, hz4⟩ := id hz
  have hc := hx.1
  rw [e_X_stick, L7, s_XisB (by omega), cI_v]
  unfold sStick
  cases h4 : inb x 7 with
  | false =>
    rw [if_pos (show nI false.toNat = 0 from rfl), if_neg (by decide)]
    exact ⟨h, rfl, w, hx, XB.rf⟩
  | true =>
    obtain ⟨p, hp, rfl⟩ := inb_yes h4
    have hsl := sl_lt (aP (zA z)) p
    have hsb := ha.1.2.1 p hp
    rw [if_neg (show ¬ nI true.toNat = 0 by decide), if_pos rfl]
    simp only [xR0 w, oo_v, hI_W w K1, hc.1, s_slotAt ha.1.1 hp, cI_v, cl, i_clamp (show p < 2147483648 by omega)]
    by_cases h6 : sl (aP (zA z)) p = 0
    · rw [if_pos ((i_eq0 (by omega)).2 h6), if_pos h6]
      exact ⟨h, rfl, w, hx, XB.rf⟩
    · obtain ⟨h', e1, e2, e3, e4⟩ := s_keep w hx.2.1 hc ha.2.1
      have hc' : CAt h'.2.2 1 (zA z) := CAt_off hc e4 (by decide) (by decide) (by decide)
      have hok := stk_ok ha (show 1 ≤ sl (aP (zA z)) p by omega) hsb
      have h64 : aS (zA z) ^^^ (1 <<< sl (aP (zA z)) p) < 64 := hok.2.2.1
      obtain ⟨c0, c1, c2, c3, c4, c5⟩ := hc'
      have hcs : CAt (s2 h'.2.2 1 4 (nI (aS (zA z) ^^^ (1 <<< sl (aP (zA z)) p)))) 1 (stk (zA z) (sl (aP (zA z)) p)) := by
        refine ⟨(s2_row (by omega)).trans c0, (s2_row (by omega)).trans c1, fun s s1 s2' => ?_, fun s s1 s2' => ?_, s2_hit, (s2_row (by omega)).trans c5.1, (s2_row (by omega)).trans c5.2.1, (s2_row (by omega)).trans c5.2.2.1, (s2_row (by omega)).trans c5.2.2.2.1, (s2_row (by omega)).trans c5.2.2.2.2⟩
        · rw [s2_ne (by omega)]; exact c2 s s1 s2'
        · rw [s2_ne (by omega)]; exact c3 s s1 s2'
      obtain ⟨k1, k2⟩ := XAt_chg hx e3 e4 hcs (s2_off (by simp))
      rw [if_neg (fun e => h6 ((i_eq0 (by omega)).1 e)), if_neg h6]
      simp only [xR3 w, oo_v]
      rw [if_pos (kO_W w K11), e1, cV_v]
      simp only [xR0 e2, oo_v, hI_W e2 K1, c4]
      rw [if_pos (kO_W e2 K1), L1, i_shl (by omega), i_xor]
      simp only [hR_I, hR_S, xR0 e2, oo_v, sI_S, hI_W (WF_S e2) K1, hS_2]
      rw [s2_at, if_pos rfl, if_pos rfl, s_isIn (by omega) (by omega), cI_v, xor_bit, decide_eq_true rfl]
      refine ⟨hS h' (s2 h'.2.2 1 4 (nI (aS (zA z) ^^^ (1 <<< sl (aP (zA z)) p)))), ?_, WF_S e2, k1, k2⟩
      cases (aS (zA z)).testBit (sl (aP (zA z)) p) <;> rfl
theorem s_Xpull {x : Int32} (w : WF h) (hz : ZOK z) (hx : XAt h z) : ∃ h1, f_X_pull 0 x h = rI (sPull z x).1 h1 ∧ WF h1 ∧ XAt h1 (sPull z x).2 ∧ XB h h1 := by
  obtain ⟨ha, hz2, hz3, hz4⟩ := id hz
  have hc := hx.1
  rw [e_X_pull, L7, s_XisB (by omega), cI_v]
  unfold sPull
  cases h4 : inb x 7 with
  | false =>
    rw [if_pos (show nI false.toNat = 0 from rfl), if_neg (by decide)]
    exact ⟨h, rfl, w, hx, XB.rf⟩
  | true =>
    obtain ⟨p, hp, rfl⟩ := inb_yes h4
    obtain ⟨h', e1, e2, e3, e4⟩ := s_keep w hx.2.1 hc ha.2.1
    have hc' : CAt h'.2.2 1 (zA z) := CAt_off hc e4 (by decide) (by decide) (by decide)
    obtain ⟨g, f1, f2, f3⟩ := s_tryMove (m := p) e2 hc' ha (by omega)
    obtain ⟨k1, k2⟩ := XAt_chg hx e3 e4 f2 (Off.mono f3 (by simp))
    have hrl := rsn_lt (aP (zA z)) (aS (zA z)) p
    rw [if_neg (show ¬ nI true.toNat = 0 by decide), if_pos rfl]
    simp only [xR0 w, xR3 w, oo_v, hI_W w K1, hc.1, s_gapBeside ha.1.1 hp, cI_v, cl, i_clamp (show p < 2147483648 by omega)]
    rw [if_pos (kO_W w K11), e1, cV_v, xR0 e2, oo_v, if_pos (kO_W e2 K1), f1, cI_v]
    by_cases h0 : rsn (aP (zA z)) (aS (zA z)) p = 0
    · rw [if_pos ((i_eq0 (by omega)).2 h0), if_pos h0, L10, i_add]
      exact ⟨hS h' g, rfl, WF_S e2, k1, k2⟩
    · rw [if_neg (fun e => h0 ((i_eq0 (by omega)).1 e)), if_neg h0]
      exact ⟨hS h' g, rfl, WF_S e2, k1, k2⟩
theorem s_Xpush {x y : Int32} (w : WF h) (hz : ZOK z) (hx : XAt h z) : ∃ h1, f_X_push 0 x y h = rI (sPush z x y).1 h1 ∧ WF h1 ∧ XAt h1 (sPush z x y).2 ∧ XB h h1 := by
  obtain ⟨ha, hz2, hz3, hz4⟩ := id hz
  have hc := hx.1
  rw [e_X_push, L6, s_XisB (by omega), cI_v]
  unfold sPush
  cases h4 : inb x 6 with
  | false =>
    rw [if_pos (show nI false.toNat = 0 from rfl), if_neg (by decide)]
    exact ⟨h, rfl, w, hx, XB.rf⟩
  | true =>
    obtain ⟨p, hp, rfl⟩ := inb_yes h4
    obtain ⟨h', e1, e2, e3, e4⟩ := s_keep w hx.2.1 hc ha.2.1
    have hc' : CAt h'.2.2 1 (zA z) := CAt_off hc e4 (by decide) (by decide) (by decide)
    rw [if_neg (show ¬ nI true.toNat = 0 by decide), if_pos rfl]
    simp only [xR0 w, xR3 w, oo_v, cl, i_clamp (show p < 2147483648 by omega)]
    rw [if_pos (kO_W w K11), e1, cV_v, xR0 e2, oo_v]
    by_cases hy0 : y = 0
    · obtain ⟨g, f1, f2, f3⟩ := s_tryMove (m := 13 + p) e2 hc' ha (by omega)
      obtain ⟨k1, k2⟩ := XAt_chg hx e3 e4 f2 (Off.mono f3 (by simp))
      rw [if_pos hy0, if_pos hy0, if_pos (kO_W e2 K1), L13, i_add, f1, cI_v]
      exact ⟨hS h' g, rfl, WF_S e2, k1, k2⟩
    · obtain ⟨g, f1, f2, f3⟩ := s_tryMove (m := 7 + p) e2 hc' ha (by omega)
      obtain ⟨k1, k2⟩ := XAt_chg hx e3 e4 f2 (Off.mono f3 (by simp))
      rw [if_neg hy0, if_neg hy0, if_pos (kO_W e2 K1), L7, i_add, f1, cI_v]
      exact ⟨hS h' g, rfl, WF_S e2, k1, k2⟩
theorem s_Xset {x y : Int32} (w : WF h) (hz : ZOK z) (hx : XAt h z) : ∃ h1, f_X_set 0 x y h = rI (sSet z x y).1 h1 ∧ WF h1 ∧ XAt h1 (sSet z x y).2 ∧ XB h h1 := by
  obtain ⟨ha, hz2, hz3, hz4⟩ := id hz
  have hc := hx.1
  rw [e_X_set, L2, s_XisB (by omega), cI_v]
  unfold sSet
  cases h4 : inb x 2 with
  | false =>
    rw [if_pos (show nI false.toNat = 0 from rfl), if_neg (fun q => by cases q.1)]
    exact ⟨h, rfl, w, hx, XB.rf⟩
  | true =>
    rw [if_neg (show ¬ nI true.toNat = 0 by decide), s_XisB (by omega), cI_v]
    cases h5 : inb y 2 with
    | false =>
      rw [if_pos (show nI false.toNat = 0 from rfl), if_neg (fun q => by cases q.2)]
      exact ⟨h, rfl, w, hx, XB.rf⟩
    | true =>
      obtain ⟨p, hp, rfl⟩ := inb_yes h4
      obtain ⟨v, hv, rfl⟩ := inb_yes h5
      obtain ⟨h', e1, e2, e3, e4⟩ := s_keep w hx.2.1 hc ha.2.1
      have hc' : CAt h'.2.2 1 (zA z) := CAt_off hc e4 (by decide) (by decide) (by decide)
      obtain ⟨c0, c1, c2, c3, c4, c5, c6, c7, c8, c9⟩ := hc'
      rw [if_neg (show ¬ nI true.toNat = 0 by decide), if_pos (show true = true ∧ true = true from ⟨rfl, rfl⟩)]
      simp only [xR0 w, xR3 w, oo_v, cl, i_clamp (show p < 2147483648 by omega), i_clamp (show v < 2147483648 by omega)]
      rw [if_pos (kO_W w K11), e1, cV_v]
      simp only [xR0 e2, oo_v, hI_W e2 K1, kO_W e2 K1, if_true, c5, c6, sI_S]
      by_cases h0 : p = 0
      · have hcs : CAt (s2 h'.2.2 1 5 (nI v)) 1 (sett (zA z) p v) := by
          refine ⟨(s2_row (by omega)).trans c0, (s2_row (by omega)).trans c1, fun s s1 s2' => ?_, fun s s1 s2' => ?_, (s2_row (by omega)).trans c4, by rw [s2_hit]; show nI v = nI (if p = 0 then v else aF (zA z)); rw [if_pos h0], by rw [s2_row (by omega), c6]; show nI (aC (zA z)) = nI (if p = 0 then aC (zA z) else v); rw [if_pos h0], (s2_row (by omega)).trans c7, (s2_row (by omega)).trans c8, (s2_row (by omega)).trans c9⟩
          · rw [s2_ne (by omega)]; exact c2 s s1 s2'
          · rw [s2_ne (by omega)]; exact c3 s s1 s2'
        obtain ⟨k1, k2⟩ := XAt_chg hx e3 e4 hcs (s2_off (by simp))
        rw [if_pos ((i_eq0 (by omega)).2 h0), if_pos h0]
        exact ⟨_, rfl, WF_S e2, k1, k2⟩
      · have hcs : CAt (s2 h'.2.2 1 6 (nI v)) 1 (sett (zA z) p v) := by
          refine ⟨(s2_row (by omega)).trans c0, (s2_row (by omega)).trans c1, fun s s1 s2' => ?_, fun s s1 s2' => ?_, (s2_row (by omega)).trans c4, by rw [s2_row (by omega), c5]; show nI (aF (zA z)) = nI (if p = 0 then v else aF (zA z)); rw [if_neg h0], by rw [s2_hit]; show nI v = nI (if p = 0 then aC (zA z) else v); rw [if_neg h0], (s2_row (by omega)).trans c7, (s2_row (by omega)).trans c8, (s2_row (by omega)).trans c9⟩
          · rw [s2_ne (by omega)]; exact c2 s s1 s2'
          · rw [s2_ne (by omega)]; exact c3 s s1 s2'
        obtain ⟨k1, k2⟩ := XAt_chg hx e3 e4 hcs (s2_off (by simp))
        rw [if_neg (fun e => h0 ((i_eq0 (by omega)).1 e)), if_neg h0]
        exact ⟨_, rfl, WF_S e2, k1, k2⟩
end XBase
