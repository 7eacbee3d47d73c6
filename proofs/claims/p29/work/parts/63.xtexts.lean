/-! the class's texts, history, snapshot -/
section XTexts
variable {h : pH} {z : ZS}
theorem s_Xappend {x : Int32} (w : WF h) (hx : XAt h z) : ∃ h1, f_X_append 0 x h = rI (sAppend z x).1 h1 ∧ WF h1 ∧ XAt h1 (sAppend z x).2 ∧ XB h h1 := by
  obtain ⟨x1, x2, x3, x4, x5, x6⟩ := id hx
  rw [e_X_append]
  unfold sAppend
  by_cases h1 : x < 33
  · rw [if_pos h1, if_neg (fun q => q.1 h1)]
    exact ⟨h, rfl, w, hx, XB.rf⟩
  · rw [if_neg h1]
    by_cases h2 : x ≤ 126
    · obtain ⟨c, rfl, hc1, hc2⟩ : ∃ c, x = nI c ∧ 33 ≤ c ∧ c ≤ 126 := by
        refine ⟨x.toInt.toNat, ?_, ?_⟩
        · apply Int32.toInt_inj.mp
          rw [Int32.lt_iff_toInt_lt, show (33 : Int32).toInt = 33 from by decide] at h1
          have := Int32.toInt_lt x
          rw [i_toInt (by omega)]
          omega
        · rw [Int32.lt_iff_toInt_lt, show (33 : Int32).toInt = 33 from by decide] at h1
          rw [Int32.le_iff_toInt_le, show (126 : Int32).toInt = 126 from by decide] at h2
          omega
      have hn := x4.2.1
      rw [if_pos h2, if_pos (show ¬ nI c < 33 ∧ nI c ≤ 126 from ⟨h1, h2⟩)]
      simp only [xR4 w, oo_v, hI_W w K33, x4.1]
      rw [L60]
      by_cases h3 : zN z < 60
      · obtain ⟨g, e1, e2, e3⟩ := s_write w x4 h3 ⟨hc1, hc2⟩
        rw [if_pos ((i_lt (by omega) (by omega)).2 h3), if_pos h3, if_pos (kO_W w K33), e1, cV_v]
        simp only [xR4 (WF_S w), oo_v, hI_W (WF_S w) K33, hS_2, e2.1]
        simp only [cl, i_clamp (show c < 2147483648 by omega)]
        exact ⟨hS h g, rfl, WF_S w, ⟨CAt_off x1 e3 (by decide) (by decide) (by decide), HAt_off x2 e3 (by decide), XSn_off x3 e3 (by decide), e2, GAt_off x5 e3 (by decide), SC_of x6 e3 (by decide)⟩, XB.of (h1 := hS h g) e3 (by decide)⟩
      · rw [if_neg (fun e => h3 ((i_lt (by omega) (by omega)).1 e)), if_neg h3]
        exact ⟨h, rfl, w, hx, XB.rf⟩
    · rw [if_neg h2, if_neg (fun q => h2 q.2)]
      exact ⟨h, rfl, w, hx, XB.rf⟩
theorem s_Xclear (w : WF h) (hx : XAt h z) : ∃ h1, f_X_clear 0 h = rI (sClear z).1 h1 ∧ WF h1 ∧ XAt h1 (sClear z).2 ∧ XB h h1 := by
  obtain ⟨x1, x2, x3, x4, x5, x6⟩ := hx
  have o : Off h.2.2 (s2 h.2.2 33 1 (nI 0)) [33] := s2_off (by simp)
  rw [e_X_clear]
  simp only [xR4 w, oo_v, hI_W w K33, x4.1]
  rw [if_pos (kO_W w K33), sI_S, L0]
  exact ⟨hS h (s2 h.2.2 33 1 (nI 0)), rfl, WF_S w, ⟨CAt_off x1 o (by decide) (by decide) (by decide), HAt_off x2 o (by decide), XSn_off x3 o (by decide), ⟨show s2 h.2.2 33 1 (nI 0) 33 1 = nI 0 from s2_hit, Nat.zero_le _, fun i hi => absurd hi (Nat.not_lt_zero _)⟩, GAt_off x5 o (by decide), SC_of x6 o (by decide)⟩, XB.of (h1 := hS h (s2 h.2.2 33 1 (nI 0))) o (by decide)⟩
theorem s_Xfault {x : Int32} (w : WF h) (hz : ZOK z) (hx : XAt h z) : ∃ h1, f_X_fault 0 x h = rI (sFault z x).1 h1 ∧ WF h1 ∧ XAt h1 (sFault z x).2 ∧ XB h h1 := by
  rw [e_X_fault, L2, s_XisB (by omega), cI_v]
  unfold sFault
  cases h1 : inb x 2 with
  | false =>
    have h0 : x ≠ 0 := fun e => by
      rw [e, L0, inb_of (by omega) (by omega)] at h1
      cases h1
    have h2 : x ≠ 1 := fun e => by
      rw [e, L1, inb_of (by omega) (by omega)] at h1
      cases h1
    rw [if_pos (show nI false.toNat = 0 from rfl), if_neg h0, if_neg h2]
    exact ⟨h, rfl, w, hx, XB.rf⟩
  | true =>
    obtain ⟨v, hv, rfl⟩ := inb_yes h1
    rw [if_neg (show ¬ nI true.toNat = 0 by decide)]
    by_cases h0 : v = 0
    · rw [if_pos ((i_eq0 (by omega)).2 h0), if_pos ((i_eq0 (by omega)).2 h0), xR4 w, oo_v, if_pos (kO_W w K33), s_programFault w hx.2.2.2.1, cI_v]
      exact ⟨h, rfl, w, hx, XB.rf⟩
    · have h2 : v = 1 := by omega
      subst h2
      rw [if_neg (show ¬ nI 1 = 0 by decide), if_neg (show ¬ nI 1 = 0 by decide), if_pos (show nI 1 = 1 from rfl), xR4 w, oo_v, xR0 w, oo_v, if_pos (kO_W w K33), s_wordFault w hx.2.2.2.1 hx.1 hz.1, cI_v]
      exact ⟨h, rfl, w, hx, XB.rf⟩
theorem s_Xarrange (w : WF h) (hz : ZOK z) (hx : XAt h z) : ∃ h1, f_X_arrange 0 h = rI (sArrange z).1 h1 ∧ WF h1 ∧ XAt h1 (sArrange z).2 ∧ XB h h1 := by
  obtain ⟨ha, hz2, hz3, hz4⟩ := id hz
  obtain ⟨x1, x2, x3, x4, x5, x6⟩ := id hx
  rw [e_X_arrange, xR4 w, oo_v, xR0 w, oo_v, if_pos (kO_W w K33), s_wordFault w x4 x1 ha, cI_v]
  unfold sArrange
  by_cases hf : wfR (zA z) (zN z) (zL z) = -4
  · obtain ⟨h7, hv, hq⟩ := wf_VW ha x4.2.1 (fun i hi => (x4.2.2 i hi).2.2) hf
    obtain ⟨h', e1, e2, e3, e4⟩ := s_keep w x2 x1 ha.2.1
    have hc' : CAt h'.2.2 1 (zA z) := CAt_off x1 e4 (by decide) (by decide) (by decide)
    have hp' : PAt h'.2.2 (zN z) (zL z) := PAt_off x4 e4 (by decide)
    obtain ⟨c0, c1, c2, c3, c4, c5, c6, c7, c8, c9⟩ := id hc'
    have hcs : CAt (s2 (s2 h'.2.2 1 0 (nI (rdL (zA z) (zL z) 7 0 0))) 33 1 (nI 0)) 1 (wth (zA z) (rdL (zA z) (zL z) 7 0 0)) := by
      refine ⟨by rw [s2_ne (by omega)]; exact s2_hit, by rw [s2_ne (by omega)]; exact (s2_row (by omega)).trans c1, fun s s1 s2' => ?_, fun s s1 s2' => ?_, by rw [s2_ne (by omega)]; exact (s2_row (by omega)).trans c4, by rw [s2_ne (by omega)]; exact (s2_row (by omega)).trans c5, by rw [s2_ne (by omega)]; exact (s2_row (by omega)).trans c6, by rw [s2_ne (by omega)]; exact (s2_row (by omega)).trans c7, by rw [s2_ne (by omega)]; exact (s2_row (by omega)).trans c8, by rw [s2_ne (by omega)]; exact (s2_row (by omega)).trans c9⟩
      · rw [s2_ne (by omega), s2_ne (by omega)]; exact c2 s s1 s2'
      · rw [s2_ne (by omega), s2_ne (by omega)]; exact c3 s s1 s2'
    have o : Off h'.2.2 (s2 (s2 h'.2.2 1 0 (nI (rdL (zA z) (zL z) 7 0 0))) 33 1 (nI 0)) [1, 33] := Off.tr (s2_off (by simp)) (s2_off (by simp))
    have o2 : Off h.2.2 (s2 (s2 h'.2.2 1 0 (nI (rdL (zA z) (zL z) 7 0 0))) 33 1 (nI 0)) ([1, 33] ++ hRows) := Off.tr (Off.mono e4 (fun k hk => List.mem_append_right _ hk)) (Off.mono o (fun k hk => List.mem_append_left _ hk))
    have hok : AOK (wth (zA z) (rdL (zA z) (zL z) 7 0 0)) := wth_ok ha hv
    have hr := s_rankOfNow (h := hS h' (s2 (s2 h'.2.2 1 0 (nI (rdL (zA z) (zL z) 7 0 0))) 33 1 (nI 0))) (WF_S e2) hcs hok
    rw [if_pos hf, if_pos hf]
    simp only [xR3 w, xR0 w, oo_v]
    rw [if_pos (kO_W w K11), e1, cV_v]
    simp only [xR4 e2, xR0 e2, oo_v]
    rw [if_pos (kO_W e2 K33), s_readWord e2 hp' hc' ha (by omega), cI_v, if_pos (kO_W e2 K1)]
    rw [hR_I, xR4 e2, oo_v, kO_I, if_pos (kO_W e2 K33), hR_I, hR_I, xR0 e2, oo_v, kO_I, kO_I, if_pos (kO_W e2 K1), sI_S, sI_S, hS_S, hS_2, L0, hr, cI_v]
    exact ⟨_, rfl, WF_S e2, ⟨hcs, HAt_off e3 o (by decide), XSn_off x3 o2 (by decide), ⟨show s2 (s2 h'.2.2 1 0 (nI (rdL (zA z) (zL z) 7 0 0))) 33 1 (nI 0) 33 1 = nI 0 from s2_hit, Nat.zero_le _, fun i hi => absurd hi (Nat.not_lt_zero _)⟩, GAt_off x5 o2 (by decide), SC_of x6 o2 (by decide)⟩, XB.of (h1 := hS h' _) o2 (by decide)⟩
  · rw [if_neg hf, if_neg hf]
    exact ⟨h, rfl, w, hx, XB.rf⟩
theorem rnL_aM {l : Nat → Nat} : ∀ (k i : Nat) (a : AS), aM (rnL l k i a).1 = aM a + nI (rnL l k i a).2
  | 0, _, a => by
    show aM a = aM a + 0
    simp
  | k + 1, i, a => by
    show aM (rnL l k (i + 1) (mv a (mvAt l i))).1 = aM a + nI ((if rsn (aP a) (aS a) (mvAt l i) = 0 then 1 else 0) + (rnL l k (i + 1) (mv a (mvAt l i))).2)
    rw [rnL_aM k (i + 1) (mv a (mvAt l i)), ← i_add]
    by_cases h0 : rsn (aP a) (aS a) (mvAt l i) = 0
    · have : aM (mv a (mvAt l i)) = aM a + 1 := by unfold mv; rw [if_pos h0]
      rw [this, if_pos h0, L1, Int32.add_assoc]
    · have : aM (mv a (mvAt l i)) = aM a := by unfold mv; rw [if_neg h0]
      rw [this, if_neg h0, show nI 0 + nI (rnL l k (i + 1) (mv a (mvAt l i))).2 = nI (rnL l k (i + 1) (mv a (mvAt l i))).2 by rw [i_add, Nat.zero_add]]
theorem s_Xundo (w : WF h) (hz : ZOK z) (hx : XAt h z) : ∃ h1, f_X_undo 0 h = rI (sUndo z).1 h1 ∧ WF h1 ∧ XAt h1 (sUndo z).2 ∧ XB h h1 := by
  obtain ⟨ha, hz2, hz3, hz4⟩ := id hz
  obtain ⟨x1, x2, x3, x4, x5, x6⟩ := id hx
  rw [e_X_undo]
  simp only [xR3 w, oo_v, hI_W w K11, x2.2.1]
  unfold sUndo
  cases hl : (zH z).getLast? with
  | none =>
    have he : zH z = [] := List.getLast?_eq_none_iff.mp hl
    rw [if_pos (by rw [he]; rfl)]
    exact ⟨h, rfl, w, hx, XB.rf⟩
  | some a =>
    obtain ⟨l, he⟩ := List.getLast?_eq_some_iff.mp hl
    have hlen : (zH z).length = l.length + 1 := by rw [he, List.length_append]; rfl
    have hd : (zH z).dropLast = l := by rw [he]; exact List.dropLast_concat
    obtain ⟨h', e1, e2, e3, e4, e5⟩ := s_giveBack (l := l) (a := a) w (by rw [← he]; exact x2)
    rw [if_neg (fun e => by have := (i_eq0 (by omega)).1 e; omega)]
    simp only [xR0 w, oo_v]
    rw [if_pos (kO_W w K11), e1, cV_v, xR3 e2, oo_v, hI_W e2 K11, oo_v, e3.2.1]
    refine ⟨h', by rw [hlen, Nat.add_sub_cancel], e2, ⟨e4, ?_, XSn_off x3 e5 (by decide), PAt_off x4 e5 (by decide), GAt_off x5 e5 (by decide), SC_of x6 e5 (by decide)⟩, XB.of e5 (by decide)⟩
    show HAt h' (zH z).dropLast
    rw [hd]
    exact e3
theorem s_Xsave (w : WF h) (hz : ZOK z) (hx : XAt h z) : ∃ h1, f_X_save 0 h = rI (sSave z).1 h1 ∧ WF h1 ∧ XAt h1 (sSave z).2 ∧ XB h h1 := by
  obtain ⟨ha, hz2, hz3, hz4⟩ := id hz
  obtain ⟨x1, x2, x3, x4, x5, x6⟩ := id hx
  obtain ⟨g, e1, e2, e3⟩ := s_Bbecome (B := 6) (C := 1) w (Or.inr (Or.inl rfl)) (Or.inl rfl) (by omega) x1 ha.2.1
  have o : Off h.2.2 (s2 g 0 2 1) [6, 8, 10, 0] := Off.tr (Off.mono e3 (by simp)) (s2_off (by simp))
  have hc : CAt (s2 g 0 2 1) 1 (zA z) := CAt_off x1 o (by decide) (by decide) (by decide)
  have hr := s_rankOfNow (h := hS h (s2 g 0 2 1)) (WF_S w) hc ha
  rw [e_X_save]
  simp only [xR1 w, xR0 w, oo_v]
  rw [if_pos (kO_W w K6), e1, cV_v, if_pos ⟨kO_W (WF_S w) K00, Or.inr True.intro⟩]
  simp only [hR_I, hR_S, xR0 w, oo_v, kO_I, kO_S, kO_W w K1, if_true, sI_S, hS_S, hS_2]
  rw [hr, cI_v]
  refine ⟨_, rfl, WF_S w, ⟨hc, HAt_off x2 o (by decide), ⟨show s2 g 0 2 1 0 2 = 1 from s2_hit, ?_⟩, PAt_off x4 o (by decide), GAt_off x5 o (by decide), SC_of x6 o (by decide)⟩, XB.of (h1 := hS h _) o (by decide)⟩
  exact CAt_off (l := [0]) e2 (s2_off (by simp)) (by decide) (by decide) (by decide)
theorem s_Xrestore (w : WF h) (hz : ZOK z) (hx : XAt h z) : ∃ h1, f_X_restore 0 h = rI (sRestore z).1 h1 ∧ WF h1 ∧ XAt h1 (sRestore z).2 ∧ XB h h1 := by
  obtain ⟨ha, hz2, hz3, hz4⟩ := id hz
  obtain ⟨x1, x2, x3, x4, x5, x6⟩ := id hx
  rw [e_X_restore, hI_W w K00, oo_v]
  unfold sRestore
  unfold XSn at x3
  cases hsn : zS z with
  | none =>
    rw [hsn] at x3
    rw [if_pos x3]
    exact ⟨h, rfl, w, hx, XB.rf⟩
  | some a =>
    rw [hsn] at x3
    have hak := hz3 a hsn
    obtain ⟨h', e1, e2, e3, e4⟩ := s_keep w x2 x1 ha.2.1
    have hc6 : CAt h'.2.2 6 a := CAt_off x3.2 e4 (by decide) (by decide) (by decide)
    obtain ⟨g, f1, f2, f3⟩ := s_Bbecome (B := 1) (C := 6) e2 (Or.inl rfl) (Or.inr (Or.inl rfl)) (by omega) hc6 hak.2.1
    obtain ⟨q1, q2⟩ := XAt_chg hx e3 e4 f2 f3
    have hr := s_rankOfNow (h := hS h' g) (WF_S e2) f2 hak
    rw [if_neg (by rw [x3.1]; decide)]
    simp only [xR3 w, xR0 w, oo_v]
    rw [if_pos (kO_W w K11), e1, cV_v]
    simp only [xR0 e2, xR1 e2, oo_v]
    rw [if_pos (kO_W e2 K1), f1, cV_v]
    simp only [xR0 (WF_S e2), oo_v]
    rw [if_pos (kO_W (WF_S e2) K1), hr, cI_v]
    exact ⟨hS h' g, rfl, WF_S e2, q1, q2⟩
end XTexts
