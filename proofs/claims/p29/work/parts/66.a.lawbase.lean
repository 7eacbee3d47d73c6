/-! the law's own methods: what they see of the class -/
def Sg (h : pH) (z : ZS) : Prop := WF h ∧ ZOK z ∧ XAt h z
theorem cL_v {d : Int64} {h : pH} {K : Int64 → pH → pR} : cL (rL d h) K = K d h := rfl
theorem kO7 {h : pH} {z : ZS} (q : Sg h z) : kO h 7 0 = true := kO_W q.1 K00
section Look
variable {h : pH} {z : ZS}
theorem x_at (x y : Int32) (q : Sg h z) : ∃ h1, f_X_at 0 x y h = rI (sAt z x y).1 h1 ∧ Sg h1 z := by
  obtain ⟨h1, e, w, k, _⟩ := s_Xat (x := x) (y := y) q.1 q.2.1 q.2.2
  exact ⟨h1, e, w, q.2.1, k⟩
theorem x_whyNot (x : Int32) (q : Sg h z) : ∃ h1, f_X_whyNot 0 x h = rI (sWhyNot z x).1 h1 ∧ Sg h1 z := by
  obtain ⟨h1, e, w, k, _⟩ := s_XwhyNot (x := x) q.1 q.2.1 q.2.2
  exact ⟨h1, e, w, q.2.1, k⟩
theorem x_cost (x : Int32) (q : Sg h z) : ∃ h1, f_X_cost 0 x h = rI (sCost z x).1 h1 ∧ Sg h1 z := by
  obtain ⟨h1, e, w, k, _⟩ := s_Xcost (x := x) q.1 q.2.1 q.2.2
  exact ⟨h1, e, w, q.2.1, k⟩
theorem x_leads (x : Int32) (q : Sg h z) : ∃ h1, f_X_leads 0 x h = rI (sLeads z x).1 h1 ∧ Sg h1 z := by
  obtain ⟨h1, e, w, k, _⟩ := s_Xleads (x := x) q.1 q.2.1 q.2.2
  exact ⟨h1, e, w, q.2.1, k⟩
theorem x_word (x y : Int32) (q : Sg h z) : ∃ h1, f_X_word 0 x y h = rI (sWord z x y).1 h1 ∧ Sg h1 z := by
  obtain ⟨h1, e, w, k, _⟩ := s_Xword (x := x) (y := y) q.1 q.2.1 q.2.2
  exact ⟨h1, e, w, q.2.1, k⟩
theorem x_count (x : Int32) (q : Sg h z) : ∃ h1, f_X_count 0 x h = rI (sCount z x).1 h1 ∧ Sg h1 z := by
  obtain ⟨h1, e, w, k, _⟩ := s_Xcount (x := x) q.1 q.2.1 q.2.2
  exact ⟨h1, e, w, q.2.1, k⟩
theorem x_least (x y : Int32) (q : Sg h z) : ∃ h1, f_X_least 0 x y h = rI (sLeast z x y).1 h1 ∧ Sg h1 z := by
  obtain ⟨h1, e, w, k, _⟩ := s_Xleast (x := x) (y := y) q.1 q.2.1 q.2.2
  exact ⟨h1, e, w, q.2.1, k⟩
theorem x_plan (x y : Int32) (h01 : x = 0 ∨ x = 1) (q : Sg h z) : ∃ h1, f_X_plan 0 x y h = rI (sPlan z x y).1 h1 ∧ Sg h1 z := by
  obtain ⟨h1, e, w, k, _⟩ := s_Xplan (x := x) (y := y) q.1 q.2.1 q.2.2 h01
  exact ⟨h1, e, w, q.2.1, k⟩
theorem x_all (x : Int32) (q : Sg h z) : ∃ h1, f_X_all 0 x h = rI (sAll z x).1 h1 ∧ Sg h1 z := by
  obtain ⟨h1, e, w, k, _⟩ := s_Xall (x := x) q.1 q.2.1 q.2.2
  exact ⟨h1, e, w, q.2.1, k⟩
theorem x_round (x : Int32) (q : Sg h z) : ∃ h1, f_X_round 0 x h = rI (sRound z x).1 h1 ∧ Sg h1 z := by
  obtain ⟨h1, e, w, k, _⟩ := s_Xround (x := x) q.1 q.2.1 q.2.2
  exact ⟨h1, e, w, q.2.1, k⟩
theorem x_loosen (q : Sg h z) : ∃ h1, f_X_loosen 0 h = rI (sLoosen z).1 h1 ∧ Sg h1 z := by
  obtain ⟨h1, e, w, k, _⟩ := s_Xloosen q.1 q.2.1 q.2.2
  exact ⟨h1, e, w, q.2.1, k⟩
theorem x_mean (hm : sMean z &&& 0x7fffffffffffffff ≤ 0x7ff0000000000000) (q : Sg h z) : ∃ h1, f_X_mean 0 h = rD (sMean z) h1 ∧ Sg h1 z := by
  obtain ⟨h1, e, w, k, _⟩ := s_Xmean hm q.1 q.2.1 q.2.2
  exact ⟨h1, e, w, q.2.1, k⟩
theorem x_fault (x : Int32) (q : Sg h z) : ∃ h1, f_X_fault 0 x h = rI (sFault z x).1 h1 ∧ Sg h1 z := by
  obtain ⟨h1, e, w, k, _⟩ := s_Xfault (x := x) q.1 q.2.1 q.2.2
  exact ⟨h1, e, w, q.2.1, k⟩
/-! changes -/
theorem x_add (x1 x2 x3 : Int32) (q : Sg h z) : ∃ h1, f_X_add 0 x1 x2 x3 h = rI (sAdd z x1 x2 x3).1 h1 ∧ Sg h1 (sAdd z x1 x2 x3).2 := by
  obtain ⟨h1, e, w, k, _⟩ := s_Xadd (x1 := x1) (x2 := x2) (x3 := x3) q.1 q.2.1 q.2.2
  exact ⟨h1, e, w, zok_add q.2.1, k⟩
theorem x_remove (x : Int32) (q : Sg h z) : ∃ h1, f_X_remove 0 x h = rI (sRemove z x).1 h1 ∧ Sg h1 (sRemove z x).2 := by
  obtain ⟨h1, e, w, k, _⟩ := s_Xremove (x := x) q.1 q.2.1 q.2.2
  exact ⟨h1, e, w, zok_remove q.2.1, k⟩
theorem x_stick (x : Int32) (q : Sg h z) : ∃ h1, f_X_stick 0 x h = rI (sStick z x).1 h1 ∧ Sg h1 (sStick z x).2 := by
  obtain ⟨h1, e, w, k, _⟩ := s_Xstick (x := x) q.1 q.2.1 q.2.2
  exact ⟨h1, e, w, zok_stick q.2.1, k⟩
theorem x_pull (x : Int32) (q : Sg h z) : ∃ h1, f_X_pull 0 x h = rI (sPull z x).1 h1 ∧ Sg h1 (sPull z x).2 := by
  obtain ⟨h1, e, w, k, _⟩ := s_Xpull (x := x) q.1 q.2.1 q.2.2
  exact ⟨h1, e, w, zok_pull q.2.1, k⟩
theorem x_push (x y : Int32) (q : Sg h z) : ∃ h1, f_X_push 0 x y h = rI (sPush z x y).1 h1 ∧ Sg h1 (sPush z x y).2 := by
  obtain ⟨h1, e, w, k, _⟩ := s_Xpush (x := x) (y := y) q.1 q.2.1 q.2.2
  exact ⟨h1, e, w, zok_push q.2.1, k⟩
theorem x_set (x y : Int32) (q : Sg h z) : ∃ h1, f_X_set 0 x y h = rI (sSet z x y).1 h1 ∧ Sg h1 (sSet z x y).2 := by
  obtain ⟨h1, e, w, k, _⟩ := s_Xset (x := x) (y := y) q.1 q.2.1 q.2.2
  exact ⟨h1, e, w, zok_set q.2.1, k⟩
theorem x_append (x : Int32) (q : Sg h z) : ∃ h1, f_X_append 0 x h = rI (sAppend z x).1 h1 ∧ Sg h1 (sAppend z x).2 := by
  obtain ⟨h1, e, w, k, _⟩ := s_Xappend (x := x) q.1 q.2.2
  exact ⟨h1, e, w, zok_append q.2.1, k⟩
theorem x_clear (q : Sg h z) : ∃ h1, f_X_clear 0 h = rI (sClear z).1 h1 ∧ Sg h1 (sClear z).2 := by
  obtain ⟨h1, e, w, k, _⟩ := s_Xclear q.1 q.2.2
  exact ⟨h1, e, w, q.2.1, k⟩
theorem x_arrange (q : Sg h z) : ∃ h1, f_X_arrange 0 h = rI (sArrange z).1 h1 ∧ Sg h1 (sArrange z).2 := by
  obtain ⟨h1, e, w, k, _⟩ := s_Xarrange q.1 q.2.1 q.2.2
  refine ⟨h1, e, w, ?_, k⟩
  obtain ⟨ha, hz2, hz3, hz4⟩ := id q.2.1
  have hp := q.2.2.2.2.2.1
  unfold sArrange
  by_cases hf : wfR (zA z) (zN z) (zL z) = -4
  · obtain ⟨h7, hv, -⟩ := wf_VW ha hp.2.1 (fun i hi => (hp.2.2 i hi).2.2) hf
    rw [if_pos hf]
    have h9 := chg_ok q.2.1 (wth_ok ha hv)
    exact ⟨h9.1, h9.2.1, h9.2.2.1, h9.2.2.2⟩
  · rw [if_neg hf]
    exact q.2.1
theorem x_undo (q : Sg h z) : ∃ h1, f_X_undo 0 h = rI (sUndo z).1 h1 ∧ Sg h1 (sUndo z).2 := by
  obtain ⟨h1, e, w, k, _⟩ := s_Xundo q.1 q.2.1 q.2.2
  exact ⟨h1, e, w, zok_undo q.2.1, k⟩
theorem x_save (q : Sg h z) : ∃ h1, f_X_save 0 h = rI (sSave z).1 h1 ∧ Sg h1 (sSave z).2 := by
  obtain ⟨h1, e, w, k, _⟩ := s_Xsave q.1 q.2.1 q.2.2
  exact ⟨h1, e, w, zok_save q.2.1, k⟩
theorem x_restore (q : Sg h z) : ∃ h1, f_X_restore 0 h = rI (sRestore z).1 h1 ∧ Sg h1 (sRestore z).2 := by
  obtain ⟨h1, e, w, k, _⟩ := s_Xrestore q.1 q.2.1 q.2.2
  exact ⟨h1, e, w, zok_restore q.2.1, k⟩
end Look
/-! remainders of the script's numbers -/
theorem and_nn (x : Int32) : ∃ k, k < 2147483648 ∧ x &&& (2147483647 : Int32) = nI k := by
  refine ⟨x.toBitVec.toNat % 2147483648, Nat.mod_lt _ (by omega), ?_⟩
  apply Int32.toBitVec_inj.mp
  rw [Int32.toBitVec_and, i_bv]
  apply BitVec.eq_of_toNat_eq
  rw [BitVec.toNat_and, BitVec.toNat_ofNat, show (2147483647 : Int32).toBitVec.toNat = 2 ^ 31 - 1 from rfl, Nat.and_two_pow_sub_one_eq_mod]
  have : x.toBitVec.toNat % 2147483648 < 2147483648 := Nat.mod_lt _ (by omega)
  rw [Nat.mod_eq_of_lt (show x.toBitVec.toNat % 2147483648 < 2 ^ 32 by omega)]
noncomputable def lwN (x : Int32) (n : Nat) : Nat := (and_nn x).choose % n
theorem lwN_lt (x : Int32) {n : Nat} (hn : 1 ≤ n) : lwN x n < n := Nat.mod_lt _ (by omega)
theorem s_low {x : Int32} {n : Nat} {h : pH} (h1 : 1 ≤ n) (hn : n < 2147483648) : f_L_low x (nI n) h = rI (nI (lwN x n)) h := by
  obtain ⟨k1, k2⟩ := (and_nn x).choose_spec
  rw [e_L_low, if_neg (by rw [i_eq0 hn]; omega), k2, i_div k1 hn, i_mul, i_sub (Nat.div_mul_le_self _ _)]
  unfold lwN
  congr 2
  have := Nat.div_add_mod (and_nn x).choose n
  rw [Nat.mul_comm] at this
  omega
