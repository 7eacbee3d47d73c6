section Sound4
variable {p : Program} {l : Launch} {e : Env} {R : Room} {s : State} {m : MethodId} {args : Array Value} {below : List Frame} {meth : Method} {c : Code} {Q : State → Prop}
variable {Ms : List pM} {M : pM} {base b0 : Nat} {D : va_G} {cI cQ : ClassId} {H0 H : Heap} {C0 Z0 : Nat} {r : Option Value × pH} {sc : pX} {go : Nat → pL → List Value → pH → pR} {cl : Nat → List Value → Nat → Nat → pL → List Value → pH → pR}
variable {pc len a b : Nat} {v : Int32} {li : List Nat} {ls : pL} {st : List Value} {h : pH} {LS : Array Slot} {locs : List Loc} {cells slots : Nat}
variable {call : Nat → List Value → pH → pR}
theorem cal_of {M : pM} {np nl : Nat} (hf : calB Ms M a np nl li = true) : ∃ N, Ms[a]? = some N ∧ Cond.methodLink M.1.cls (li.getD 0 0) N.1 ∈ gW ∧ Cond.code N.1 N.2.1 (mL N) (mR N) ∈ gW ∧ Cond.initialized N.1.cls ∈ gW ∧ mF N + 1 ≤ mF M ∧ 8 + (mL N + 11) + mO N ≤ mO M ∧ (N.1.cls ≠ "java/lang/invoke/MethodHandle" ∧ N.1.cls ≠ "java/lang/invoke/VarHandle") ∧ (parseMethodDescriptor N.1.desc).map (fun d => d.parameters.length) = some np ∧ nl ≤ mL N := by
  unfold calB at hf
  split at hf
  · rename_i N hN
    simp only [Bool.and_eq_true, decide_eq_true_eq] at hf
    obtain ⟨⟨⟨⟨⟨⟨⟨⟨⟨h1, h2⟩, h3⟩, h4⟩, h5⟩, h6⟩, h7⟩, h8⟩, h9⟩, h10⟩ := hf
    exact ⟨N, hN, wAt_in h1, wAt_in h2, wAt_in h3, h4, h5, ⟨h6, h7⟩, h8, h10⟩
  · cases hf
theorem calW {N : pM} {np mc ms : Nat} {s : State} {args : Array Value} {R : Room} {own : String} {idx : Nat} (hts : ∀ w ∈ gW, w.before args s = true) (h1 : Cond.methodLink own idx N.1 ∈ gW) (h2 : Cond.code N.1 N.2.1 (mL N) (mR N) ∈ gW) (h3 : Cond.initialized N.1.cls ∈ gW) (h4 : mF N + 1 ≤ R.frames) (h5 : 8 + (mL N + 11) + mO N ≤ R.locals) (h6 : N.1.cls ≠ "java/lang/invoke/MethodHandle" ∧ N.1.cls ≠ "java/lang/invoke/VarHandle") (h7 : (parseMethodDescriptor N.1.desc).map (fun d => d.parameters.length) = some np) :
    CallB R s args own idx N.1 N.2.1 (mL N) (mR N) (Cond.code N.1 N.2.1 (mL N) (mR N) :: gW) ({ frames := mF N, cells := mc, slots := ms, locals := mO N }) mc ms np := by
  have hG : GoodIn gW (Cond.code N.1 N.2.1 (mL N) (mR N) :: gW) := fun w hw => by
    rcases List.mem_cons.mp hw with rfl | hw
    · exact gW_good _ h2
    · exact gW_good _ hw
  refine ⟨rfl, rfl, h4, h5, pay_in hts hG, List.mem_cons_self, hts _ h2, hts _ h3, h6, fun sig hs => ?_, hts _ h1⟩
  rw [hs] at h7
  exact (Option.some.inj h7).symm
theorem pv_app {v : Option Value} {r' : List Value} : (v.map (pv base b0)).toList ++ r'.map (pv base b0) = (v.toList ++ r').map (pv base b0) := by cases v <;> simp
theorem take_rev {n : Nat} {st : List Value} : ((st.take n).reverse.map (pv base b0)).reverse = (st.take n).map (pv base b0) := by rw [← List.map_reverse, List.reverse_reverse]
theorem tg_6 (F : pFx p R s m args meth c M base C0 D cI cQ H0) (K : pKK p l e R s m args below meth c Q M base b0 D cI cQ H0 C0 Z0 r go) (hs : stp sc none (fun v h => some (v, h)) go cl (pc, len, 6, a, b, v, li) ls st h = some r) (X : pMt base b0 D cI cQ H0 (mL M) C0 Z0 ls h LS H locs cells slots) (hd : decode M.2.1 pc = .ok (exI (pc, len, 6, a, b, v, li), len)) (sd : sdB Ms M (pc, len, 6, a, b, v, li) = true) (KM : ∀ pc ls st h, go pc ls st h = some r → hle h r.2) (hRc : r.2.1.length ≤ R.cells + C0) (hRs : hz r.2 ≤ R.slots + Z0) (hcl : ∀ y as rk pc ls st h, cl y as rk pc ls st h = some r → ∃ v h', call y as h = some (v, h') ∧ go pc ls (v.toList ++ st) h' = some r) (CH : pCH Ms l base b0 D cI cQ call) : W p l e R s m args below meth c H locs cells slots Q (F0 m pc LS (st.map (pv base b0))) := by
  obtain ⟨hx, hb, hml, hown, hts, hnw, hnm, hfr, hlo, hK, hbs, hrt, hsz, hlk⟩ := F
  have hs : (match (generalizing := false) st.drop (b - 1) with
        | .ref k :: r => bif Nat.ble (r.map Value.category).sum 8 && (st.take (b - 1)).all (fun v => Nat.beq v.category 1) then (if kO h (li.getD 2 0) k = true then cl a (.ref k :: (st.take (b - 1)).reverse) (li.getD 1 0) (pc + len) ls r h else none) else none
        | _ => none : pR) = some r := hs
  have h1 : ((len = 3 ∧ 1 ≤ b) ∧ calB Ms M a (b - 1) b li = true) ∧ virB Ms a li = true := by simpa only [sdB, Bool.and_eq_true, decide_eq_true_eq] using sd
  obtain ⟨⟨⟨rfl, hb1'⟩, hf⟩, hv⟩ := h1
  obtain ⟨N, hN, w1, w2, w3, f1, f2, f3, f4, f5⟩ := cal_of hf
  split at hs
  rotate_left
  · cases hs
  rename_i k r' hst
  have hlen : b - 1 < st.length := by
    have h9 := congrArg List.length hst
    rw [List.length_drop, List.length_cons] at h9
    omega
  rw [cond_eq_ite] at hs
  split at hs
  · rename_i hbb
    simp only [Bool.and_eq_true] at hbb
    obtain ⟨hb1, hb2⟩ := hbb
    split at hs
    rotate_left
    · cases hs
    rename_i hk
    have hk := kO_at hk
    obtain ⟨v', h', hcall, hs⟩ := hcl _ _ _ _ _ _ _ hs
    have hb8 := Nat.le_of_ble_eq_true hb1
    have hcat : ∀ v ∈ (.ref k :: (st.take (b - 1)).reverse), v.category = 1 := by
      intro v hv
      rcases List.mem_cons.mp hv with rfl | hv
      · rfl
      · exact Nat.eq_of_beq_eq_true (List.all_eq_true.mp hb2 v (List.mem_reverse.mp hv))
    have hln : (.ref k :: (st.take (b - 1)).reverse).length ≤ mL N := by
      rw [List.length_cons, List.length_reverse, List.length_take]
      omega
    obtain ⟨hle1, hMet⟩ := CH a N _ _ _ _ hN hcat hln hcall
    have hle2 := KM _ _ _ _ hs
    have a1 := hle1.1
    have a2 := hle1.2
    have a3 := hle2.1
    have a4 := hle2.2
    have x5 := X.2.2.2.2.1
    have x6 := X.2.2.2.2.2
    refine W_size hsz (fun hsl => ?_)
    have hHs : H.size = base + h.1.length := by
      have := X.1
      omega
    unfold virB at hv
    rw [hN] at hv
    simp only [Bool.and_eq_true] at hv
    obtain ⟨⟨v1, v2⟩, v3⟩ := hv
    split at v3
    rotate_left
    · cases v3
    rename_i q hq
    have v3 := of_decide_eq_true v3
    refine pc_call (v := v') (h' := h') (rest := (r'.map (pv base b0))) rfl (va_runV (As := ((st.take (b - 1)).reverse.map (pv base b0))) (rest := (r'.map (pv base b0))) (C := N.1.cls) (b := base + k) ⟨hx, hb, hml, hown, hts⟩ hMet ⟨calW hts w1 w2 w3 (Nat.le_trans f1 hfr) (Nat.le_trans f2 hlo) f3 f4, hts _ (wAt_in v1), hts _ (wAt_in v2)⟩ ⟨pB_blind, by have h9 := va_recv hK X.2.1 hq (pW_at hk); rw [v3] at h9; exact h9, fun U hU hW => ⟨rfl, by rw [hU]; exact hHs, by rw [hU]; exact X.2.1, va_K.moved hW.alike hK, pNt_warm hW hnw⟩⟩ rfl (by rw [List.length_map, List.length_reverse, List.length_take]; omega) X.2.2.2.1.1 (by show st.map (pv base b0) = _; rw [take_rev, show Value.ref (base + k) :: r'.map (pv base b0) = (Value.ref k :: r').map (pv base b0) from rfl, ← hst, ← List.map_append, List.take_append_drop]) (lv_room (by rw [cats]; exact hb8)) hd ⟨by omega, by omega⟩) X.2.2.1 (fun H1 locs1 hP1 hz1 hS1 => ?_)
    rw [pv_app]
    exact K _ _ _ _ _ _ _ _ _ hs ⟨hz1, hP1, hS1, X.2.2.2.1, by omega, by omega⟩
  · cases hs
theorem tg_8 (F : pFx p R s m args meth c M base C0 D cI cQ H0) (K : pKK p l e R s m args below meth c Q M base b0 D cI cQ H0 C0 Z0 r go) (hs : stp sc none (fun v h => some (v, h)) go cl (pc, len, 8, a, b, v, li) ls st h = some r) (X : pMt base b0 D cI cQ H0 (mL M) C0 Z0 ls h LS H locs cells slots) (hd : decode M.2.1 pc = .ok (exI (pc, len, 8, a, b, v, li), len)) (sd : sdB Ms M (pc, len, 8, a, b, v, li) = true) (KM : ∀ pc ls st h, go pc ls st h = some r → hle h r.2) (hRc : r.2.1.length ≤ R.cells + C0) (hRs : hz r.2 ≤ R.slots + Z0) (hcl : ∀ y as rk pc ls st h, cl y as rk pc ls st h = some r → ∃ v h', call y as h = some (v, h') ∧ go pc ls (v.toList ++ st) h' = some r) (CH : pCH Ms l base b0 D cI cQ call) : W p l e R s m args below meth c H locs cells slots Q (F0 m pc LS (st.map (pv base b0))) := by
  obtain ⟨hx, hb, hml, hown, hts, hnw, hnm, hfr, hlo, hK, hbs, hrt, hsz, hlk⟩ := F
  have hs : (match (generalizing := false) st.drop (b - 1) with
        | .ref k :: r => bif Nat.ble (r.map Value.category).sum 8 && (st.take (b - 1)).all (fun v => Nat.beq v.category 1) then cl a (.ref k :: (st.take (b - 1)).reverse) (li.getD 1 0) (pc + len) ls r h else none
        | _ => none : pR) = some r := hs
  have h1 : ((len = 3 ∧ 1 ≤ b) ∧ calB Ms M a (b - 1) b li = true) ∧ spcB Ms a li = true := by simpa only [sdB, Bool.and_eq_true, decide_eq_true_eq] using sd
  obtain ⟨⟨⟨rfl, hb1'⟩, hf⟩, hv⟩ := h1
  obtain ⟨N, hN, w1, w2, w3, f1, f2, f3, f4, f5⟩ := cal_of hf
  split at hs
  rotate_left
  · cases hs
  rename_i k r' hst
  have hlen : b - 1 < st.length := by
    have h9 := congrArg List.length hst
    rw [List.length_drop, List.length_cons] at h9
    omega
  rw [cond_eq_ite] at hs
  split at hs
  · rename_i hbb
    simp only [Bool.and_eq_true] at hbb
    obtain ⟨hb1, hb2⟩ := hbb
    obtain ⟨v', h', hcall, hs⟩ := hcl _ _ _ _ _ _ _ hs
    have hb8 := Nat.le_of_ble_eq_true hb1
    have hcat : ∀ v ∈ (.ref k :: (st.take (b - 1)).reverse), v.category = 1 := by
      intro v hv
      rcases List.mem_cons.mp hv with rfl | hv
      · rfl
      · exact Nat.eq_of_beq_eq_true (List.all_eq_true.mp hb2 v (List.mem_reverse.mp hv))
    have hln : (.ref k :: (st.take (b - 1)).reverse).length ≤ mL N := by
      rw [List.length_cons, List.length_reverse, List.length_take]
      omega
    obtain ⟨hle1, hMet⟩ := CH a N _ _ _ _ hN hcat hln hcall
    have hle2 := KM _ _ _ _ hs
    have a1 := hle1.1
    have a2 := hle1.2
    have a3 := hle2.1
    have a4 := hle2.2
    have x5 := X.2.2.2.2.1
    have x6 := X.2.2.2.2.2
    refine W_size hsz (fun hsl => ?_)
    have hHs : H.size = base + h.1.length := by
      have := X.1
      omega
    unfold spcB at hv
    rw [hN] at hv
    simp only [Bool.and_eq_true, decide_eq_true_eq] at hv
    obtain ⟨⟨v1, v2⟩, v3⟩ := hv
    refine pc_call (v := v') (h' := h') (rest := (r'.map (pv base b0))) rfl (va_runI (As := ((st.take (b - 1)).reverse.map (pv base b0))) (rest := (r'.map (pv base b0))) (b := base + k) ⟨hx, hb, hml, hown, hts⟩ hMet ⟨by have h9 := calW (N := N) (mc := h'.1.length - h.1.length) (ms := hz h' - hz h) hts w1 w2 w3 (Nat.le_trans f1 hfr) (Nat.le_trans f2 hlo) f3 f4; rw [v3] at h9 ⊢; exact h9, v2, hts _ (wAt_in v1)⟩ ⟨pB_blind, fun U hU hW => ⟨rfl, by rw [hU]; exact hHs, by rw [hU]; exact X.2.1, va_K.moved hW.alike hK, pNt_warm hW hnw⟩⟩ rfl (by rw [List.length_map, List.length_reverse, List.length_take]; omega) X.2.2.2.1.1 (by show st.map (pv base b0) = _; rw [take_rev, show Value.ref (base + k) :: r'.map (pv base b0) = (Value.ref k :: r').map (pv base b0) from rfl, ← hst, ← List.map_append, List.take_append_drop]) (lv_room (by rw [cats]; exact hb8)) hd ⟨by omega, by omega⟩) X.2.2.1 (fun H1 locs1 hP1 hz1 hS1 => ?_)
    rw [pv_app]
    exact K _ _ _ _ _ _ _ _ _ hs ⟨hz1, hP1, hS1, X.2.2.2.1, by omega, by omega⟩
  · cases hs
theorem tg_7 (F : pFx p R s m args meth c M base C0 D cI cQ H0) (K : pKK p l e R s m args below meth c Q M base b0 D cI cQ H0 C0 Z0 r go) (hs : stp sc none (fun v h => some (v, h)) go cl (pc, len, 7, a, b, v, li) ls st h = some r) (X : pMt base b0 D cI cQ H0 (mL M) C0 Z0 ls h LS H locs cells slots) (hd : decode M.2.1 pc = .ok (exI (pc, len, 7, a, b, v, li), len)) (sd : sdB Ms M (pc, len, 7, a, b, v, li) = true) (KM : ∀ pc ls st h, go pc ls st h = some r → hle h r.2) (hRc : r.2.1.length ≤ R.cells + C0) (hRs : hz r.2 ≤ R.slots + Z0) (hcl : ∀ y as rk pc ls st h, cl y as rk pc ls st h = some r → ∃ v h', call y as h = some (v, h') ∧ go pc ls (v.toList ++ st) h' = some r) (CH : pCH Ms l base b0 D cI cQ call) : W p l e R s m args below meth c H locs cells slots Q (F0 m pc LS (st.map (pv base b0))) := by
  obtain ⟨hx, hb, hml, hown, hts, hnw, hnm, hfr, hlo, hK, hbs, hrt, hsz, hlk⟩ := F
  have hs : (bif (Nat.ble b st.length && Nat.ble ((st.drop b).map Value.category).sum 8) && (st.take b).all (fun v => Nat.beq v.category 1) then cl a (st.take b).reverse (li.getD 1 0) (pc + len) ls (st.drop b) h else none : pR) = some r := hs
  have h1 : (len = 3 ∧ calB Ms M a b b li = true) ∧ stcB Ms a li = true := by simpa only [sdB, Bool.and_eq_true, decide_eq_true_eq] using sd
  obtain ⟨⟨rfl, hf⟩, hv⟩ := h1
  obtain ⟨N, hN, w1, w2, w3, f1, f2, f3, f4, f5⟩ := cal_of hf
  rw [cond_eq_ite] at hs
  split at hs
  · rename_i hbb
    simp only [Bool.and_eq_true] at hbb
    obtain ⟨⟨hb0, hb1⟩, hb2⟩ := hbb
    have hlen := Nat.le_of_ble_eq_true hb0
    obtain ⟨v', h', hcall, hs⟩ := hcl _ _ _ _ _ _ _ hs
    have hb8 := Nat.le_of_ble_eq_true hb1
    have hcat : ∀ v ∈ (st.take b).reverse, v.category = 1 := by
      intro v hv
      skip
      skip
      exact Nat.eq_of_beq_eq_true (List.all_eq_true.mp hb2 v (List.mem_reverse.mp hv))
    have hln : (st.take b).reverse.length ≤ mL N := by
      rw [List.length_reverse, List.length_take]
      omega
    obtain ⟨hle1, hMet⟩ := CH a N _ _ _ _ hN hcat hln hcall
    have hle2 := KM _ _ _ _ hs
    have a1 := hle1.1
    have a2 := hle1.2
    have a3 := hle2.1
    have a4 := hle2.2
    have x5 := X.2.2.2.2.1
    have x6 := X.2.2.2.2.2
    refine W_size hsz (fun hsl => ?_)
    have hHs : H.size = base + h.1.length := by
      have := X.1
      omega
    unfold stcB at hv
    rw [hN] at hv
    refine pc_call (v := v') (h' := h') (rest := ((st.drop b).map (pv base b0))) rfl (va_runS (As := ((st.take b).reverse.map (pv base b0))) (rest := ((st.drop b).map (pv base b0))) ⟨hx, hb, hml, hown, hts⟩ hMet ⟨calW hts w1 w2 w3 (Nat.le_trans f1 hfr) (Nat.le_trans f2 hlo) f3 f4, hts _ (wAt_in hv)⟩ ⟨pB_blind, fun U hU hW => ⟨rfl, by rw [hU]; exact hHs, by rw [hU]; exact X.2.1, va_K.moved hW.alike hK, pNt_warm hW hnw⟩⟩ rfl (by rw [List.length_map, List.length_reverse, List.length_take]; omega) X.2.2.2.1.1 (by show st.map (pv base b0) = _; rw [take_rev, ← List.map_append, List.take_append_drop]) (lv_room (by rw [cats]; exact hb8)) hd ⟨by omega, by omega⟩) X.2.2.1 (fun H1 locs1 hP1 hz1 hS1 => ?_)
    rw [pv_app]
    exact K _ _ _ _ _ _ _ _ _ hs ⟨hz1, hP1, hS1, X.2.2.2.1, by omega, by omega⟩
  · cases hs
end Sound4
