/-! both together, call by call; the law's loop -/
def Bo (h : pH) (z : ZS) : Prop := WF h ∧ ZOK z ∧ XAt h z ∧ YAt h.2.2 z
def Op (fX fY : pH → pR) : Prop := ∀ h z, Bo h z → ∃ v h1 h2 z', fX h = rI v h1 ∧ WF h1 ∧ fY h1 = rI v h2 ∧ Bo h2 z'
theorem YAt_XB {h h1 : pH} {z : ZS} (y : YAt h.2.2 z) (x : XB h h1) : YAt h1.2.2 z := by
  obtain ⟨y1, y2, y3, y4⟩ := y
  exact ⟨by rw [x 64 (by omega)]; exact y1, YHt_of y2 (by rw [x 63 (by omega)]) (x 65 (by omega)), YSn_of y3 (by rw [x 63 (by omega)]) (x 66 (by omega)), YP_of y4 (by rw [x 63 (by omega)]) (x 67 (by omega))⟩
theorem XAt_YB {h : pH} {g : Nat → Nat → Int32} {z : ZS} (hx : XAt h z) (y : YB h.2.2 g) : XAt (hS h g) z := by
  obtain ⟨x1, x2, x3, x4, x5, x6⟩ := hx
  have o : ∀ k, k < 63 → g k = h.2.2 k := y
  refine ⟨?_, ?_, ?_, ?_, ?_, ?_⟩
  · show CAt g 1 (zA z)
    unfold CAt at *
    rw [o 1 (by omega), o 3 (by omega), o 5 (by omega)]
    exact x1
  · obtain ⟨h1, h2, π, h3, h4, h5⟩ := x2
    refine ⟨h1, ?_, π, h3, h4, fun i a hi => ?_⟩
    · show g 11 1 = _
      rw [o 11 (by omega)]
      exact h2
    · obtain ⟨a1, a2⟩ := h5 i a hi
      have hil : i < (zH z).length := (List.getElem?_eq_some_iff.mp hi).1
      have hh := (h3 i (by omega)).2
      unfold isHs at hh
      refine ⟨?_, a2⟩
      show CAt g (π i) a
      unfold CAt at *
      rw [o (π i) (by omega), o (π i + 2) (by omega), o (π i + 4) (by omega)]
      exact a1
  · show XSn g (zS z)
    unfold XSn at *
    cases hs : zS z with
    | none => rw [hs] at x3; dsimp only at x3 ⊢; rw [o 0 (by omega)]; exact x3
    | some a =>
      rw [hs] at x3
      dsimp only at x3 ⊢
      unfold CAt at *
      rw [o 0 (by omega), o 6 (by omega), o 8 (by omega), o 10 (by omega)]
      exact x3
  · show PAt g (zN z) (zL z)
    unfold PAt at *
    rw [o 33 (by omega), o 35 (by omega)]
    exact x4
  · show GAt g
    unfold GAt GOK at *
    rw [o 36 (by omega), o 38 (by omega), o 40 (by omega), o 42 (by omega), o 44 (by omega), o 46 (by omega)]
    exact x5
  · show SC g
    exact ⟨FewC_of x6.1 (by rw [o 47 (by omega)]) (o 49 (by omega)), CstC_of x6.2.1 (by rw [o 47 (by omega)]) (o 51 (by omega)), CstC_of x6.2.2 (by rw [o 47 (by omega)]) (o 53 (by omega))⟩
theorem op_of {fX fY : pH → pR} {s : ZS → Int32 × ZS} (hX : ∀ h z, WF h → ZOK z → XAt h z → ∃ h1, fX h = rI (s z).1 h1 ∧ WF h1 ∧ XAt h1 (s z).2 ∧ XB h h1) (hY : ∀ (h : pH) (f : Nat → Nat → Int32) (z : ZS), WF h → ZOK z → YAt f z → ∃ g, fY (hS h f) = rI (s z).1 (hS h g) ∧ YAt g (s z).2 ∧ YB f g) (hZ : ∀ f z, ZOK z → YAt f z → ZOK (s z).2) : Op fX fY := by
  intro h z hb
  obtain ⟨w, hz, hx, hy⟩ := hb
  obtain ⟨h1, a1, a2, a3, a4⟩ := hX h z w hz hx
  obtain ⟨g, b1, b2, b3⟩ := hY h1 h1.2.2 z a2 hz (YAt_XB hy a4)
  rw [hS_self] at b1
  exact ⟨(s z).1, h1, hS h1 g, (s z).2, a1, a2, b1, WF_S a2, hZ h.2.2 z hz hy, XAt_YB a3 b3, b2⟩
theorem zok_add {z : ZS} {x1 x2 x3 : Int32} (hz : ZOK z) : ZOK (sAdd z x1 x2 x3).2 := by
  unfold sAdd
  by_cases h1 : inb x1 26 = true ∧ (¬ x2 < 1 ∧ ¬ 9 < x2) ∧ inb x3 7 = true
  · rw [if_pos h1]
    by_cases h2 : slotOf (zA z) x1 ≠ 0 ∨ sl (aP (zA z)) (cl x3) ≠ 0
    · rw [if_pos h2]; exact hz
    · rw [if_neg h2]
      by_cases h3 : aB (zA z) < 5
      · rw [if_pos h3]
        obtain ⟨x, hx, rfl⟩ := inb_yes h1.1
        obtain ⟨p, hp, rfl⟩ := inb_yes h1.2.2
        have hy : 1 ≤ cl x2 ∧ cl x2 ≤ 9 := by
          obtain ⟨q1, q2⟩ := h1.2.1
          rw [Int32.lt_iff_toInt_lt, show (1 : Int32).toInt = 1 from by decide] at q1
          rw [Int32.lt_iff_toInt_lt, show (9 : Int32).toInt = 9 from by decide] at q2
          show 1 ≤ x2.toInt.toNat ∧ x2.toInt.toNat ≤ 9
          omega
        simp only [cl, i_clamp (show x < 2147483648 by omega), i_clamp (show p < 2147483648 by omega)] at h2 ⊢
        have h4 : slotOf (zA z) (nI x) = 0 := Classical.byContradiction fun q => h2 (Or.inl q)
        have h5 : sl (aP (zA z)) p = 0 := Classical.byContradiction fun q => h2 (Or.inr q)
        refine chg_ok hz (ins_ok hz.1 hx hy hp h3 h5 (fun s s1 s2 e => ?_))
        rcases sgn_spec (a := zA z) (c := x + 97) (by omega) hz.1 with q | q
        · exact q.2 s s1 s2 (by omega)
        · have h8 := q.1
          unfold sgn at h8
          rw [i_sub (by omega), Nat.add_sub_cancel] at h8
          omega
      · rw [if_neg h3]; exact hz
  · rw [if_neg h1]; exact hz
theorem zok_remove {z : ZS} {x : Int32} (hz : ZOK z) : ZOK (sRemove z x).2 := by
  unfold sRemove
  by_cases h1 : inb x 7 = true
  · obtain ⟨p, hp, rfl⟩ := inb_yes h1
    rw [if_pos h1]
    simp only [cl, i_clamp (show p < 2147483648 by omega)]
    by_cases h2 : sl (aP (zA z)) p = 0
    · rw [if_pos h2]; exact hz
    · rw [if_neg h2]; exact chg_ok hz (tak_ok hz.1 hp h2)
  · rw [if_neg h1]; exact hz
theorem zok_stick {z : ZS} {x : Int32} (hz : ZOK z) : ZOK (sStick z x).2 := by
  unfold sStick
  by_cases h1 : inb x 7 = true
  · obtain ⟨p, hp, rfl⟩ := inb_yes h1
    rw [if_pos h1]
    simp only [cl, i_clamp (show p < 2147483648 by omega)]
    by_cases h2 : sl (aP (zA z)) p = 0
    · rw [if_pos h2]; exact hz
    · rw [if_neg h2]; exact chg_ok hz (stk_ok hz.1 (by omega) (hz.1.1.2.1 p hp))
  · rw [if_neg h1]; exact hz
theorem zok_pull {z : ZS} {x : Int32} (hz : ZOK z) : ZOK (sPull z x).2 := by
  unfold sPull
  by_cases h1 : inb x 7 = true
  · obtain ⟨p, hp, rfl⟩ := inb_yes h1
    rw [if_pos h1]
    simp only [cl, i_clamp (show p < 2147483648 by omega)]
    exact chg_ok hz (mv_ok hz.1 (by omega))
  · rw [if_neg h1]; exact hz
theorem zok_push {z : ZS} {x y : Int32} (hz : ZOK z) : ZOK (sPush z x y).2 := by
  unfold sPush
  by_cases h1 : inb x 6 = true
  · obtain ⟨p, hp, rfl⟩ := inb_yes h1
    rw [if_pos h1]
    simp only [cl, i_clamp (show p < 2147483648 by omega)]
    exact chg_ok hz (mv_ok hz.1 (by split <;> omega))
  · rw [if_neg h1]; exact hz
theorem zok_set {z : ZS} {x y : Int32} (hz : ZOK z) : ZOK (sSet z x y).2 := by
  unfold sSet
  by_cases h1 : inb x 2 = true ∧ inb y 2 = true
  · obtain ⟨v, hv, rfl⟩ := inb_yes h1.2
    rw [if_pos h1]
    exact chg_ok hz (sett_ok hz.1 (by rw [show cl (nI v) = v from i_clamp (by omega)]; exact hv))
  · rw [if_neg h1]; exact hz
theorem zok_append {z : ZS} {x : Int32} (hz : ZOK z) : ZOK (sAppend z x).2 := by
  unfold sAppend
  split
  · split
    · exact hz
    · exact hz
  · exact hz
theorem zok_arrange {f : Nat → Nat → Int32} {z : ZS} (hz : ZOK z) (hy : YAt f z) : ZOK (sArrange z).2 := by
  unfold sArrange
  by_cases hf : wfR (zA z) (zN z) (zL z) = -4
  · rw [if_pos hf]
    obtain ⟨h7, hv, hq⟩ := wf_VW hz.1 hy.2.2.2.2.1 (fun i hi => (hy.2.2.2.2.2 i hi).2.2) hf
    exact chg_ok hz (wth_ok hz.1 hv)
  · rw [if_neg hf]; exact hz
theorem zok_run {f : Nat → Nat → Int32} {z : ZS} (hz : ZOK z) (hy : YAt f z) : ZOK (sRun z).2 := by
  unfold sRun
  by_cases hf : pfR (zN z) (zL z) = -4
  · rw [if_pos hf]
    exact chg_ok hz (rnL_ok _ 0 _ hz.1 (fun j _ hj => (mvAt_lt hy.2.2.2.2.1 hf (by omega)).1)).1
  · rw [if_neg hf]; exact hz
theorem zok_undo {z : ZS} (hz : ZOK z) : ZOK (sUndo z).2 := by
  unfold sUndo
  cases hl : (zH z).getLast? with
  | none => exact hz
  | some a =>
    obtain ⟨l, he⟩ := List.getLast?_eq_some_iff.mp hl
    have hd : (zH z).dropLast = l := by rw [he]; exact List.dropLast_concat
    have hlen : (zH z).length = l.length + 1 := by rw [he, List.length_append]; rfl
    obtain ⟨z1, z2, z3, z4⟩ := hz
    refine ⟨z2 a (by rw [he]; simp), fun c hc => ?_, z3, ?_⟩
    · have hc : c ∈ (zH z).dropLast := hc
      rw [hd] at hc
      exact z2 c (by rw [he]; simp [hc])
    · show (zH z).dropLast.length ≤ 4
      rw [hd]
      omega
theorem zok_save {z : ZS} (hz : ZOK z) : ZOK (sSave z).2 := ⟨hz.1, hz.2.1, fun a e => by cases e; exact hz.1, hz.2.2.2⟩
theorem zok_restore {z : ZS} (hz : ZOK z) : ZOK (sRestore z).2 := by
  unfold sRestore
  cases hs : zS z with
  | none => exact hz
  | some a => exact chg_ok hz (hz.2.2.1 a hs)
theorem op_add (x1 x2 x3 : Int32) : Op (fun h => f_X_add 0 x1 x2 x3 h) (fun h => f_Y_add 63 x1 x2 x3 h) := op_of (s := fun z => sAdd z x1 x2 x3) (fun h z w hz hx => s_Xadd w hz hx) (fun h f z w hz hy => s_Yadd w hz hy) (fun f z hz hy => zok_add hz)
theorem op_remove (x1 : Int32) : Op (fun h => f_X_remove 0 x1 h) (fun h => f_Y_remove 63 x1 h) := op_of (s := fun z => sRemove z x1) (fun h z w hz hx => s_Xremove w hz hx) (fun h f z w hz hy => s_Yremove w hz hy) (fun f z hz hy => zok_remove hz)
theorem op_stick (x1 : Int32) : Op (fun h => f_X_stick 0 x1 h) (fun h => f_Y_stick 63 x1 h) := op_of (s := fun z => sStick z x1) (fun h z w hz hx => s_Xstick w hz hx) (fun h f z w hz hy => s_Ystick w hz hy) (fun f z hz hy => zok_stick hz)
theorem op_pull (x1 : Int32) : Op (fun h => f_X_pull 0 x1 h) (fun h => f_Y_pull 63 x1 h) := op_of (s := fun z => sPull z x1) (fun h z w hz hx => s_Xpull w hz hx) (fun h f z w hz hy => s_Ypull w hz hy) (fun f z hz hy => zok_pull hz)
theorem op_set (x1 x2 : Int32) : Op (fun h => f_X_set 0 x1 x2 h) (fun h => f_Y_set 63 x1 x2 h) := op_of (s := fun z => sSet z x1 x2) (fun h z w hz hx => s_Xset w hz hx) (fun h f z w hz hy => s_Yset w hz hy) (fun f z hz hy => zok_set hz)
theorem op_append (x1 : Int32) : Op (fun h => f_X_append 0 x1 h) (fun h => f_Y_append 63 x1 h) := op_of (s := fun z => sAppend z x1) (fun h z w hz hx => s_Xappend w hx) (fun h f z w hz hy => s_Yappend w hy) (fun f z hz hy => zok_append hz)
theorem op_clear : Op (fun h => f_X_clear 0 h) (fun h => f_Y_clear 63 h) := op_of (s := fun z => sClear z) (fun h z w hz hx => s_Xclear w hx) (fun h f z w hz hy => s_Yclear w hy) (fun f z hz hy => hz)
theorem op_fault (x1 : Int32) : Op (fun h => f_X_fault 0 x1 h) (fun h => f_Y_fault 63 x1 h) := op_of (s := fun z => sFault z x1) (fun h z w hz hx => s_Xfault w hz hx) (fun h f z w hz hy => s_Yfault w hz hy) (fun f z hz hy => hz)
theorem op_arrange : Op (fun h => f_X_arrange 0 h) (fun h => f_Y_arrange 63 h) := op_of (s := fun z => sArrange z) (fun h z w hz hx => s_Xarrange w hz hx) (fun h f z w hz hy => s_Yarrange w hz hy) (fun f z hz hy => zok_arrange hz hy)
theorem op_run : Op (fun h => f_X_run 0 h) (fun h => f_Y_run 63 h) := op_of (s := fun z => sRun z) (fun h z w hz hx => s_Xrun w hz hx) (fun h f z w hz hy => s_Yrun w hz hy) (fun f z hz hy => zok_run hz hy)
theorem op_at (x1 x2 : Int32) : Op (fun h => f_X_at 0 x1 x2 h) (fun h => f_Y_at 63 x1 x2 h) := op_of (s := fun z => sAt z x1 x2) (fun h z w hz hx => s_Xat w hz hx) (fun h f z w hz hy => s_Yat w hz hy) (fun f z hz hy => hz)
theorem op_whyNot (x1 : Int32) : Op (fun h => f_X_whyNot 0 x1 h) (fun h => f_Y_whyNot 63 x1 h) := op_of (s := fun z => sWhyNot z x1) (fun h z w hz hx => s_XwhyNot w hz hx) (fun h f z w hz hy => s_YwhyNot w hz hy) (fun f z hz hy => hz)
theorem op_cost (x1 : Int32) : Op (fun h => f_X_cost 0 x1 h) (fun h => f_Y_cost 63 x1 h) := op_of (s := fun z => sCost z x1) (fun h z w hz hx => s_Xcost w hz hx) (fun h f z w hz hy => s_Ycost w hz hy) (fun f z hz hy => hz)
theorem op_leads (x1 : Int32) : Op (fun h => f_X_leads 0 x1 h) (fun h => f_Y_leads 63 x1 h) := op_of (s := fun z => sLeads z x1) (fun h z w hz hx => s_Xleads w hz hx) (fun h f z w hz hy => s_Yleads w hz hy) (fun f z hz hy => hz)
theorem op_word (x1 x2 : Int32) : Op (fun h => f_X_word 0 x1 x2 h) (fun h => f_Y_word 63 x1 x2 h) := op_of (s := fun z => sWord z x1 x2) (fun h z w hz hx => s_Xword w hz hx) (fun h f z w hz hy => s_Yword w hz hy) (fun f z hz hy => hz)
theorem op_count (x1 : Int32) : Op (fun h => f_X_count 0 x1 h) (fun h => f_Y_count 63 x1 h) := op_of (s := fun z => sCount z x1) (fun h z w hz hx => s_Xcount w hz hx) (fun h f z w hz hy => s_Ycount w hz hy) (fun f z hz hy => hz)
theorem op_least (x1 x2 : Int32) : Op (fun h => f_X_least 0 x1 x2 h) (fun h => f_Y_least 63 x1 x2 h) := op_of (s := fun z => sLeast z x1 x2) (fun h z w hz hx => s_Xleast w hz hx) (fun h f z w hz hy => s_Yleast w hz hy) (fun f z hz hy => hz)
theorem op_all (x1 : Int32) : Op (fun h => f_X_all 0 x1 h) (fun h => f_Y_all 63 x1 h) := op_of (s := fun z => sAll z x1) (fun h z w hz hx => s_Xall w hz hx) (fun h f z w hz hy => s_Yall w hz hy) (fun f z hz hy => hz)
theorem op_round (x1 : Int32) : Op (fun h => f_X_round 0 x1 h) (fun h => f_Y_round 63 x1 h) := op_of (s := fun z => sRound z x1) (fun h z w hz hx => s_Xround w hz hx) (fun h f z w hz hy => s_Yround w hz hy) (fun f z hz hy => hz)
theorem op_loosen : Op (fun h => f_X_loosen 0 h) (fun h => f_Y_loosen 63 h) := op_of (s := fun z => sLoosen z) (fun h z w hz hx => s_Xloosen w hz hx) (fun h f z w hz hy => s_Yloosen w hz hy) (fun f z hz hy => hz)
theorem op_undo : Op (fun h => f_X_undo 0 h) (fun h => f_Y_undo 63 h) := op_of (s := fun z => sUndo z) (fun h z w hz hx => s_Xundo w hz hx) (fun h f z w hz hy => s_Yundo w hz hy) (fun f z hz hy => zok_undo hz)
theorem op_save : Op (fun h => f_X_save 0 h) (fun h => f_Y_save 63 h) := op_of (s := fun z => sSave z) (fun h z w hz hx => s_Xsave w hz hx) (fun h f z w hz hy => s_Ysave w hz hy) (fun f z hz hy => zok_save hz)
theorem op_restore : Op (fun h => f_X_restore 0 h) (fun h => f_Y_restore 63 h) := op_of (s := fun z => sRestore z) (fun h z w hz hx => s_Xrestore w hz hx) (fun h f z w hz hy => s_Yrestore w hz hy) (fun f z hz hy => zok_restore hz)
theorem op_push (x y : Int32) : Op (fun h => f_X_push 0 x y h) (fun h => f_Y_push 63 x y h) := op_of (s := fun z => sPush z x y) (fun h z w hz hx => s_Xpush w hz hx) (fun h f z w hz hy => s_Ypush w hz hy) (fun f z hz hy => zok_push hz)
theorem op_plan (x y : Int32) (hx01 : x = 0 ∨ x = 1) : Op (fun h => f_X_plan 0 x y h) (fun h => f_Y_plan 63 x y h) := op_of (s := fun z => sPlan z x y) (fun h z w hz hx => s_Xplan w hz hx hx01) (fun h f z w hz hy => s_Yplan w hz hy hx01) (fun f z hz hy => hz)
theorem op_mean : ∀ h z, Bo h z → ∃ d h1 h2 z', f_X_mean 0 h = rD d h1 ∧ WF h1 ∧ f_Y_mean 63 h1 = rD d h2 ∧ Bo h2 z' ∧ FP.dcmp d d = some .eq := by
  intro h z hb
  obtain ⟨w, hz, hx, hy⟩ := hb
  obtain ⟨h1, a1, a2, a3, a4⟩ := s_Xmean w hz hx
  obtain ⟨g, b1, b2, b3⟩ := s_Ymean a2 hz (YAt_XB hy a4)
  rw [hS_self] at b1
  refine ⟨sMean z, h1, hS h1 g, z, a1, a2, b1, ⟨WF_S a2, hz, XAt_YB a3 b3, b2⟩, ?_⟩
  have hb6 := hz.1.2.1
  have hw := wds_lt hb6
  have hO : ∀ s, 1 ≤ s → s ≤ aB (zA z) → 1 ≤ aO (zA z) s ∧ aO (zA z) s ≤ 9 := fun s s1 s2 => (hz.1.2.2.2.2.2.2.1 s s1 s2).2
  obtain ⟨r0, r1, r2⟩ := gol_ex hb6 hz.1.2.2.2.2.1 hz.1.2.2.2.2.2.1
  have hne : cnt (fun r => (wyO (zA z) 0 r).isSome) (wds (aB (zA z))) ≠ 0 := cnt_pos (r := r0) _ r1 (by
    rw [show wyO (zA z) 0 r0 = some 0 from (lvK_0 (S := aS (zA z)) (kd := 0) hb6 hO r1).2 r2]
    rfl)
  have hle := cnt_le (fun r => (wyO (zA z) 0 r).isSome) (wds (aB (zA z)))
  exact FP.Core.dcmp_self (ddiv_nn (by rw [i_toInt (by omega)]; omega))
section Law
variable {L : Nat} {xs : Nat → Int32}
theorem lw_push {i : Nat} (hi1 : inb (nI i + 1) L = true) (hi2 : inb (nI i + 2) L = true) {a : Int32} (ha : a = xs (Int32.toNatClampNeg (nI i + 1))) {b : Int32} (hb : b = if xs (Int32.toNatClampNeg (nI i + 2)) = 0 then 0 else 1) {h : pH} {z : ZS} (B : Bo h z) (ih : ∀ h z, Bo h z → ∃ h', f_L_law_18 L xs 0 63 (nI i + 4) h = rI 1 h' ∧ WF h') : ∃ h', f_L_law_283 L xs 0 63 (nI i) 0 a b h = rI 1 h' ∧ WF h' := by
  obtain ⟨v, h1, h2, z', e1, w1, e2, B'⟩ := op_push a b h z B
  dsimp only at e1 e2
  rw [e_L_law_283, if_pos (kO_W B.1 K00), e1, cI_v, if_pos hi1, if_pos hi2, ← ha]
  by_cases h0 : xs (Int32.toNatClampNeg (nI i + 2)) = 0
  · rw [if_pos h0] at hb
    subst hb
    rw [if_pos h0, if_pos (kO_W w1 K63), e2, cI_v, if_pos rfl]
    exact ih h2 z' B'
  · rw [if_neg h0] at hb
    subst hb
    rw [if_neg h0, if_pos (kO_W w1 K63), e2, cI_v, if_pos rfl]
    exact ih h2 z' B'
theorem lw_plan {i : Nat} (hi1 : inb (nI i + 1) L = true) (hi2 : inb (nI i + 2) L = true) {b : Int32} (hb : b = if xs (Int32.toNatClampNeg (nI i + 1)) = 0 then 0 else 1) {h : pH} {z : ZS} (B : Bo h z) (ih : ∀ h z, Bo h z → ∃ h', f_L_law_18 L xs 0 63 (nI i + 4) h = rI 1 h' ∧ WF h') : ∃ h', f_L_law_636 L xs 0 63 (nI i) 0 b h = rI 1 h' ∧ WF h' := by
  have hb01 : b = 0 ∨ b = 1 := by
    rw [hb]
    split
    · exact Or.inl rfl
    · exact Or.inr rfl
  obtain ⟨v, h1, h2, z', e1, w1, e2, B'⟩ := op_plan b (xs (Int32.toNatClampNeg (nI i + 2))) hb01 h z B
  dsimp only at e1 e2
  rw [e_L_law_636, if_pos hi2, if_pos (kO_W B.1 K00), e1, cI_v, if_pos hi1]
  have h658 : ∃ h', f_L_law_658 L xs 0 63 (nI i) v 63 b h1 = rI 1 h' ∧ WF h' := by
    rw [e_L_law_658, if_pos hi2, if_pos (kO_W w1 K63), e2, cI_v, if_pos rfl]
    exact ih h2 z' B'
  by_cases h0 : xs (Int32.toNatClampNeg (nI i + 1)) = 0
  · rw [if_pos h0] at hb
    subst hb
    rw [if_pos h0]
    exact h658
  · rw [if_neg h0] at hb
    subst hb
    rw [if_neg h0]
    exact h658
theorem lw_step {i : Nat} (hL : L ≤ 2048) (hi : i + 4 ≤ L) {h : pH} {z : ZS} (B : Bo h z) (ih : ∀ h z, Bo h z → ∃ h', f_L_law_18 L xs 0 63 (nI i + 4) h = rI 1 h' ∧ WF h') : ∃ h', f_L_law_18 L xs 0 63 (nI i) h = rI 1 h' ∧ WF h' := by
  have hi0 : inb (nI i) L = true := inb_of (by omega) (by omega)
  have hi1 : inb (nI i + 1) L = true := by rw [L1, i_add]; exact inb_of (by omega) (by omega)
  have hi2 : inb (nI i + 2) L = true := by rw [L2, i_add]; exact inb_of (by omega) (by omega)
  have hi3 : inb (nI i + 3) L = true := by rw [L3, i_add]; exact inb_of (by omega) (by omega)
  have hlt : ¬ (Int32.ofNat L) - (4 : Int32) < nI i := by
    rw [show Int32.ofNat L = nI L from rfl, L4, i_sub (by omega), i_lt (by omega) (by omega)]
    omega
  have w := B.1
  rw [e_L_law_18, if_neg hlt, if_pos hi0]
  generalize xs (Int32.toNatClampNeg (nI i)) &&& 31 = v
  by_cases hv : v = 0
  · rw [if_pos hv]
    obtain ⟨v', h1, h2, z', e1, w1, e2, B'⟩ := op_add (xs (Int32.toNatClampNeg (nI i + 1))) (xs (Int32.toNatClampNeg (nI i + 2))) (xs (Int32.toNatClampNeg (nI i + 3))) h z B
    dsimp only at e1 e2
    rw [if_pos hi1, if_pos hi2, if_pos hi3, if_pos (kO_W w K00), e1, cI_v, if_pos hi1, if_pos hi2, if_pos hi3, if_pos (kO_W w1 K63), e2, cI_v, if_pos rfl]
    exact ih h2 z' B'
  rw [if_neg hv]
  clear hv
  by_cases hv : v = 1
  · rw [if_pos hv]
    obtain ⟨v', h1, h2, z', e1, w1, e2, B'⟩ := op_remove (xs (Int32.toNatClampNeg (nI i + 1))) h z B
    dsimp only at e1 e2
    rw [if_pos hi1, if_pos (kO_W w K00), e1, cI_v, if_pos hi1, if_pos (kO_W w1 K63), e2, cI_v, if_pos rfl]
    exact ih h2 z' B'
  rw [if_neg hv]
  clear hv
  by_cases hv : v = 2
  · rw [if_pos hv]
    obtain ⟨v', h1, h2, z', e1, w1, e2, B'⟩ := op_stick (xs (Int32.toNatClampNeg (nI i + 1))) h z B
    dsimp only at e1 e2
    rw [if_pos hi1, if_pos (kO_W w K00), e1, cI_v, if_pos hi1, if_pos (kO_W w1 K63), e2, cI_v, if_pos rfl]
    exact ih h2 z' B'
  rw [if_neg hv]
  clear hv
  by_cases hv : v = 3
  · rw [if_pos hv]
    obtain ⟨v', h1, h2, z', e1, w1, e2, B'⟩ := op_pull (xs (Int32.toNatClampNeg (nI i + 1))) h z B
    dsimp only at e1 e2
    rw [if_pos hi1, if_pos (kO_W w K00), e1, cI_v, if_pos hi1, if_pos (kO_W w1 K63), e2, cI_v, if_pos rfl]
    exact ih h2 z' B'
  rw [if_neg hv]
  clear hv
  by_cases hv : v = 4
  · rw [if_pos hv]
    rw [if_pos hi1, if_pos hi2]
    by_cases h0 : xs (Int32.toNatClampNeg (nI i + 2)) = 0
    · rw [if_pos h0]
      exact lw_push hi1 hi2 rfl (by rw [if_pos h0]) B ih
    · rw [if_neg h0]
      exact lw_push hi1 hi2 rfl (by rw [if_neg h0]) B ih
  rw [if_neg hv]
  clear hv
  by_cases hv : v = 5
  · rw [if_pos hv]
    obtain ⟨v', h1, h2, z', e1, w1, e2, B'⟩ := op_set (xs (Int32.toNatClampNeg (nI i + 1))) (xs (Int32.toNatClampNeg (nI i + 2))) h z B
    dsimp only at e1 e2
    rw [if_pos hi1, if_pos hi2, if_pos (kO_W w K00), e1, cI_v, if_pos hi1, if_pos hi2, if_pos (kO_W w1 K63), e2, cI_v, if_pos rfl]
    exact ih h2 z' B'
  rw [if_neg hv]
  clear hv
  by_cases hv : v = 6
  · rw [if_pos hv]
    obtain ⟨v', h1, h2, z', e1, w1, e2, B'⟩ := op_append (xs (Int32.toNatClampNeg (nI i + 1))) h z B
    dsimp only at e1 e2
    rw [if_pos hi1, if_pos (kO_W w K00), e1, cI_v, if_pos hi1, if_pos (kO_W w1 K63), e2, cI_v, if_pos rfl]
    exact ih h2 z' B'
  rw [if_neg hv]
  clear hv
  by_cases hv : v = 7
  · rw [if_pos hv]
    obtain ⟨v', h1, h2, z', e1, w1, e2, B'⟩ := op_clear  h z B
    dsimp only at e1 e2
    rw [if_pos (kO_W w K00), e1, cI_v, if_pos (kO_W w1 K63), e2, cI_v, if_pos rfl]
    exact ih h2 z' B'
  rw [if_neg hv]
  clear hv
  by_cases hv : v = 8
  · rw [if_pos hv]
    obtain ⟨v', h1, h2, z', e1, w1, e2, B'⟩ := op_fault (xs (Int32.toNatClampNeg (nI i + 1))) h z B
    dsimp only at e1 e2
    rw [if_pos hi1, if_pos (kO_W w K00), e1, cI_v, if_pos hi1, if_pos (kO_W w1 K63), e2, cI_v, if_pos rfl]
    exact ih h2 z' B'
  rw [if_neg hv]
  clear hv
  by_cases hv : v = 9
  · rw [if_pos hv]
    obtain ⟨v', h1, h2, z', e1, w1, e2, B'⟩ := op_arrange  h z B
    dsimp only at e1 e2
    rw [if_pos (kO_W w K00), e1, cI_v, if_pos (kO_W w1 K63), e2, cI_v, if_pos rfl]
    exact ih h2 z' B'
  rw [if_neg hv]
  clear hv
  by_cases hv : v = 10
  · rw [if_pos hv]
    obtain ⟨v', h1, h2, z', e1, w1, e2, B'⟩ := op_run  h z B
    dsimp only at e1 e2
    rw [if_pos (kO_W w K00), e1, cI_v, if_pos (kO_W w1 K63), e2, cI_v, if_pos rfl]
    exact ih h2 z' B'
  rw [if_neg hv]
  clear hv
  by_cases hv : v = 11
  · rw [if_pos hv]
    obtain ⟨v', h1, h2, z', e1, w1, e2, B'⟩ := op_at (xs (Int32.toNatClampNeg (nI i + 1))) (xs (Int32.toNatClampNeg (nI i + 2))) h z B
    dsimp only at e1 e2
    rw [if_pos hi1, if_pos hi2, if_pos (kO_W w K00), e1, cI_v, if_pos hi1, if_pos hi2, if_pos (kO_W w1 K63), e2, cI_v, if_pos rfl]
    exact ih h2 z' B'
  rw [if_neg hv]
  clear hv
  by_cases hv : v = 12
  · rw [if_pos hv]
    obtain ⟨v', h1, h2, z', e1, w1, e2, B'⟩ := op_whyNot (xs (Int32.toNatClampNeg (nI i + 1))) h z B
    dsimp only at e1 e2
    rw [if_pos hi1, if_pos (kO_W w K00), e1, cI_v, if_pos hi1, if_pos (kO_W w1 K63), e2, cI_v, if_pos rfl]
    exact ih h2 z' B'
  rw [if_neg hv]
  clear hv
  by_cases hv : v = 13
  · rw [if_pos hv]
    obtain ⟨v', h1, h2, z', e1, w1, e2, B'⟩ := op_cost (xs (Int32.toNatClampNeg (nI i + 1))) h z B
    dsimp only at e1 e2
    rw [if_pos hi1, if_pos (kO_W w K00), e1, cI_v, if_pos hi1, if_pos (kO_W w1 K63), e2, cI_v, if_pos rfl]
    exact ih h2 z' B'
  rw [if_neg hv]
  clear hv
  by_cases hv : v = 14
  · rw [if_pos hv]
    obtain ⟨v', h1, h2, z', e1, w1, e2, B'⟩ := op_leads (xs (Int32.toNatClampNeg (nI i + 1))) h z B
    dsimp only at e1 e2
    rw [if_pos hi1, if_pos (kO_W w K00), e1, cI_v, if_pos hi1, if_pos (kO_W w1 K63), e2, cI_v, if_pos rfl]
    exact ih h2 z' B'
  rw [if_neg hv]
  clear hv
  by_cases hv : v = 15
  · rw [if_pos hv]
    obtain ⟨v', h1, h2, z', e1, w1, e2, B'⟩ := op_word (xs (Int32.toNatClampNeg (nI i + 1))) (xs (Int32.toNatClampNeg (nI i + 2))) h z B
    dsimp only at e1 e2
    rw [if_pos hi1, if_pos hi2, if_pos (kO_W w K00), e1, cI_v, if_pos hi1, if_pos hi2, if_pos (kO_W w1 K63), e2, cI_v, if_pos rfl]
    exact ih h2 z' B'
  rw [if_neg hv]
  clear hv
  by_cases hv : v = 16
  · rw [if_pos hv]
    obtain ⟨v', h1, h2, z', e1, w1, e2, B'⟩ := op_count (xs (Int32.toNatClampNeg (nI i + 1))) h z B
    dsimp only at e1 e2
    rw [if_pos hi1, if_pos (kO_W w K00), e1, cI_v, if_pos hi1, if_pos (kO_W w1 K63), e2, cI_v, if_pos rfl]
    exact ih h2 z' B'
  rw [if_neg hv]
  clear hv
  by_cases hv : v = 17
  · rw [if_pos hv]
    obtain ⟨v', h1, h2, z', e1, w1, e2, B'⟩ := op_least (xs (Int32.toNatClampNeg (nI i + 1))) (xs (Int32.toNatClampNeg (nI i + 2))) h z B
    dsimp only at e1 e2
    rw [if_pos hi1, if_pos hi2, if_pos (kO_W w K00), e1, cI_v, if_pos hi1, if_pos hi2, if_pos (kO_W w1 K63), e2, cI_v, if_pos rfl]
    exact ih h2 z' B'
  rw [if_neg hv]
  clear hv
  by_cases hv : v = 18
  · rw [if_pos hv]
    rw [if_pos hi1]
    by_cases h0 : xs (Int32.toNatClampNeg (nI i + 1)) = 0
    · rw [if_pos h0]
      exact lw_plan hi1 hi2 (by rw [if_pos h0]) B ih
    · rw [if_neg h0]
      exact lw_plan hi1 hi2 (by rw [if_neg h0]) B ih
  rw [if_neg hv]
  clear hv
  by_cases hv : v = 19
  · rw [if_pos hv]
    obtain ⟨v', h1, h2, z', e1, w1, e2, B'⟩ := op_all (xs (Int32.toNatClampNeg (nI i + 1))) h z B
    dsimp only at e1 e2
    rw [if_pos hi1, if_pos (kO_W w K00), e1, cI_v, if_pos hi1, if_pos (kO_W w1 K63), e2, cI_v, if_pos rfl]
    exact ih h2 z' B'
  rw [if_neg hv]
  clear hv
  by_cases hv : v = 20
  · rw [if_pos hv]
    obtain ⟨d, h1, h2, z', e1, w1, e2, B', e3⟩ := op_mean h z B
    rw [if_pos (kO_W w K00), e1, cD_v, if_pos (kO_W w1 K63), e2, cD_v, e3, if_pos (by rfl)]
    exact ih h2 z' B'
  rw [if_neg hv]
  clear hv
  by_cases hv : v = 21
  · rw [if_pos hv]
    obtain ⟨v', h1, h2, z', e1, w1, e2, B'⟩ := op_round (xs (Int32.toNatClampNeg (nI i + 1))) h z B
    dsimp only at e1 e2
    rw [if_pos hi1, if_pos (kO_W w K00), e1, cI_v, if_pos hi1, if_pos (kO_W w1 K63), e2, cI_v, if_pos rfl]
    exact ih h2 z' B'
  rw [if_neg hv]
  clear hv
  by_cases hv : v = 22
  · rw [if_pos hv]
    obtain ⟨v', h1, h2, z', e1, w1, e2, B'⟩ := op_loosen  h z B
    dsimp only at e1 e2
    rw [if_pos (kO_W w K00), e1, cI_v, if_pos (kO_W w1 K63), e2, cI_v, if_pos rfl]
    exact ih h2 z' B'
  rw [if_neg hv]
  clear hv
  by_cases hv : v = 23
  · rw [if_pos hv]
    obtain ⟨v', h1, h2, z', e1, w1, e2, B'⟩ := op_undo  h z B
    dsimp only at e1 e2
    rw [if_pos (kO_W w K00), e1, cI_v, if_pos (kO_W w1 K63), e2, cI_v, if_pos rfl]
    exact ih h2 z' B'
  rw [if_neg hv]
  clear hv
  by_cases hv : v = 24
  · rw [if_pos hv]
    obtain ⟨v', h1, h2, z', e1, w1, e2, B'⟩ := op_save  h z B
    dsimp only at e1 e2
    rw [if_pos (kO_W w K00), e1, cI_v, if_pos (kO_W w1 K63), e2, cI_v, if_pos rfl]
    exact ih h2 z' B'
  rw [if_neg hv]
  clear hv
  by_cases hv : v = 25
  · rw [if_pos hv]
    obtain ⟨v', h1, h2, z', e1, w1, e2, B'⟩ := op_restore  h z B
    dsimp only at e1 e2
    rw [if_pos (kO_W w K00), e1, cI_v, if_pos (kO_W w1 K63), e2, cI_v, if_pos rfl]
    exact ih h2 z' B'
  rw [if_neg hv]
  clear hv
  exact ih h z B
theorem lw_end {i : Nat} (hL : L ≤ 2048) (hn : L < i + 4) (hi : i ≤ L + 4) {h : pH} {z : ZS} (B : Bo h z) : ∃ h', f_L_law_18 L xs 0 63 (nI i) h = rI 1 h' ∧ WF h' := by
  refine ⟨h, ?_, B.1⟩
  rw [e_L_law_18, if_pos ?_]
  rw [show Int32.ofNat L = nI L from rfl, L4]
  by_cases h4 : 4 ≤ L
  · rw [i_sub h4, i_lt (by omega) (by omega)]
    omega
  · have h1 := i_subneg (show L < 4 by omega) (by omega)
    rw [Int32.lt_iff_toInt_lt, Int32.toInt_zero] at h1
    rw [Int32.lt_iff_toInt_lt, i_toInt (by omega)]
    omega
theorem lw_loop (hL : L ≤ 2048) : ∀ (n i : Nat), L < i + 4 + 4 * n → i ≤ L + 4 → ∀ h z, Bo h z → ∃ h', f_L_law_18 L xs 0 63 (nI i) h = rI 1 h' ∧ WF h'
  | 0, i, hn, hi, h, z, B => lw_end hL (by omega) hi B
  | n + 1, i, hn, hi, h, z, B => by
    by_cases h4 : i + 4 ≤ L
    · refine lw_step hL h4 B (fun h z B => ?_)
      rw [L4, i_add]
      exact lw_loop hL n (i + 4) (by omega) (by omega) h z B
    · exact lw_end hL (by omega) hi B
/-- THE LAW, of the pure machine: it answers 1 -/
theorem lw_all (hL : L ≤ 2048) : ∃ h', f_L_law L xs hE = rI 1 h' ∧ WF h' := by
  obtain ⟨h2, e1, w, hx, hy⟩ := i_start (fun k h => f_L_law_18 L xs 0 k 0 h)
  obtain ⟨h', e2, w'⟩ := lw_loop (L := L) (xs := xs) hL (L + 1) 0 (by omega) (by omega) h2 z0 ⟨w, z0_ok, hx, hy⟩
  refine ⟨h', ?_, w'⟩
  rw [e_L_law]
  exact e1.trans e2
end Law
