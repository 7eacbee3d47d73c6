section Sound3
variable {p : Program} {l : Launch} {e : Env} {R : Room} {s : State} {m : MethodId} {args : Array Value} {below : List Frame} {meth : Method} {c : Code} {Q : State → Prop}
variable {Ms : List pM} {M : pM} {base b0 : Nat} {D : va_G} {cI cQ : ClassId} {H0 H : Heap} {C0 Z0 : Nat} {r : Option Value × pH} {sc : pX} {go : Nat → pL → List Value → pH → pR} {cl : Nat → List Value → Nat → Nat → pL → List Value → pH → pR}
variable {pc len a b : Nat} {v : Int32} {li : List Nat} {ls : pL} {st : List Value} {h : pH} {LS : Array Slot} {locs : List Loc} {cells slots : Nat}
/-- the end of a method: its answer on the stack -/
def pRi (M : pM) (i : Instr) (v : Option Value) : Prop :=
  (i = .ireturn ∧ ∃ x, v = some (.int x) ∧ (mR M = some .int ∨ (mR M = some .boolean ∧ (x = 0 ∨ x = 1)))) ∨ (i = .return_ ∧ v = none ∧ mR M = none) ∨ (i = .areturn ∧ ∃ k, v = some (.ref k) ∧ rkOf (mR M) = 2) ∨ (i = .dreturn ∧ ∃ x, v = some (.double x) ∧ mR M = some .double) ∨ (i = .lreturn ∧ ∃ x, v = some (.long x) ∧ mR M = some .long)
def pRT (p : Program) (l : Launch) (e : Env) (R : Room) (s : State) (m : MethodId) (args : Array Value) (below : List Frame) (meth : Method) (c : Code) (Q : State → Prop) (M : pM) (base b0 : Nat) (D : va_G) (cI cQ : ClassId) (H0 : Heap) (C0 Z0 : Nat) (r : Option Value × pH) : Prop :=
  ∀ (pc : Nat) (i : Instr) (LS : Array Slot) (H : Heap) (locs : List Loc) (cells slots : Nat), decode M.2.1 pc = .ok (i, 1) → pRi M i r.1 → base + r.2.1.length ≤ H.size → va_P D vwCl (pW base cI cQ r.2) H → va_S (fun q => base ≤ q) H0 H locs → cells + C0 = r.2.1.length → slots + Z0 = hz r.2 →
    W p l e R s m args below meth c H locs cells slots Q (F0 m pc LS (r.1.map (pv base b0)).toList)
/-- a call, read as a contract -/
def pB (base : Nat) (D : va_G) (cI cQ : ClassId) (h : pH) (U : State) : Prop := U.heap.size = base + h.1.length ∧ va_P D vwCl (pW base cI cQ h) U.heap ∧ va_K D vwCl [(cI, .int), (cQ, .object "ShelfSpines$Shelf")] U ∧ ∀ w ∈ pNt, va_Nw w U
def pQ (base b0 : Nat) (D : va_G) (cI cQ : ClassId) (v : Option Value) (h : pH) : Array Value → State → Outcome → State → Prop := fun _ st oc t => (oc = .returned (v.map (pv base b0)) ∧ va_P D vwCl (pW base cI cQ h) t.heap ∧ base + h.1.length ≤ t.heap.size) ∧ va_F (fun q => base ≤ q) st t
def pMet (l : Launch) (base b0 : Nat) (D : va_G) (cI cQ : ClassId) (N : pM) (as : List Value) (h : pH) (v : Option Value) (h' : pH) : Prop :=
  Met l N.1 (Cond.code N.1 N.2.1 (mL N) (mR N) :: gW) ({ frames := mF N, cells := h'.1.length - h.1.length, slots := hz h' - hz h, locals := mO N }) (va_Pc (as.map (pv base b0)) (pB base D cI cQ h)) (pQ base b0 D cI cQ v h') (h'.1.length - h.1.length) (hz h' - hz h) (fun q => base ≤ q)
/-- what is known of calls: of each that ends, its contract -/
def pCH (Ms : List pM) (l : Launch) (base b0 : Nat) (D : va_G) (cI cQ : ClassId) (call : Nat → List Value → pH → pR) : Prop :=
  ∀ (y : Nat) (N : pM) (as : List Value) (h : pH) (v : Option Value) (h' : pH), Ms[y]? = some N → (∀ v ∈ as, v.category = 1) → as.length ≤ mL N → call y as h = some (v, h') → hle h h' ∧ pMet l base b0 D cI cQ N as h v h'
theorem pNt_kind {w : Cond} (h : (match w with
    | .fieldLinkNest _ _ _ _ _ _ => true
    | .arrayOver (.object _) => true
    | _ => false) = true) : (∃ a b c d e f, w = .fieldLinkNest a b c d e f) ∨ ∃ n, w = .arrayOver (.object n) := by
  split at h
  · exact Or.inl ⟨_, _, _, _, _, _, rfl⟩
  · exact Or.inr ⟨_, rfl⟩
  · cases h
theorem pB_blind {as : List Value} : FrameBlind (va_Pc as (pB base D cI cQ h)) := by
  rintro a U g mk ⟨h1, h2, h3, h4, h5⟩
  refine ⟨h1, h2, h3, va_K.moved (u := U) (U := U.calling g mk a) (Vm.Alike.refl U.vm) h4, fun w hw => ?_⟩
  have h6 := (List.mem_filter.mp hw).2
  have h7 := h5 w hw
  rcases pNt_kind h6 with ⟨_, _, _, _, _, _, rfl⟩ | ⟨_, rfl⟩
  · exact va_Nw.same rfl (u := U) (U := U.calling g mk a) rfl h7
  · exact va_AO.moved (u := U) (U := U.calling g mk a) (Vm.Alike.refl U.vm) h7
theorem pNt_warm {s U : State} (hW : s.WarmedH U.vm) (hn : ∀ w ∈ pNt, va_Nw w s) : ∀ w ∈ pNt, va_Nw w U := by
  intro w hw
  have h6 := (List.mem_filter.mp hw).2
  have h7 := hn w hw
  rcases pNt_kind h6 with ⟨_, _, _, _, _, _, rfl⟩ | ⟨_, rfl⟩
  · exact va_Nw.warmF hW h7
  · exact va_AO.moved hW.alike h7
theorem gW_good : GoodIn gW gW := fun w hw => ⟨hw, good_of_word (List.mem_filter.mp hw).2⟩
/-- from a call's run to what stands behind it -/
theorem pc_call {g : JFrame} {rest st0 : List Value} {a : Array Value} {mc ms : Nat} {v : Option Value} {h' : pH} (hg : g = F0 m pc LS st0)
    (hr : va_Run p l e R s m args below meth c H locs cells slots mc ms g rest (pQ base b0 D cI cQ v h' a) (fun q => base ≤ q)) (hS : va_S (fun q => base ≤ q) H0 H locs)
    (kk : ∀ (H1 : Heap) (locs1 : List Loc), va_P D vwCl (pW base cI cQ h') H1 → base + h'.1.length ≤ H1.size → va_S (fun q => base ≤ q) H0 H1 locs1 → W p l e R s m args below meth c H1 locs1 (cells + mc) (slots + ms) Q (F0 m (pc + 3) LS ((v.map (pv base b0)).toList ++ rest))) : W p l e R s m args below meth c H locs cells slots Q (F0 m pc LS st0) := by
  intro T hT X
  subst hg
  obtain ⟨v', st₀, t, T', L, h0, X', hL, e1, e2, ⟨⟨hv, hP, hz⟩, hF⟩, st⟩ := hr T hT X
  cases hv
  have hF1 := hF.1
  have hF2 := hF.2
  rw [h0] at hF1 hF2
  obtain ⟨t2, a1, b1⟩ := kk T'.heap (locs ++ L) (by rw [e1]; exact hP) (by rw [e1]; exact hz)
    ⟨Nat.le_trans hS.1 (by rw [e1]; exact hF1), fun q h1 h2 => by rw [e1, hF2 q (Nat.lt_of_lt_of_le h1 hS.1) h2]; exact hS.2.1 q h1 h2, fun q hq => by
      rcases List.mem_append.mp hq with h | h
      · exact hS.2.2 q h
      · exact hL q h⟩ T' rfl X'
  exact ⟨t2, st t2 a1, b1⟩
theorem cats {st : List Value} : ((st.map (pv base b0)).map fun v => v.category).sum = (st.map Value.category).sum := by
  rw [List.map_map]
  congr 1
  apply List.map_congr_left
  intro v _
  exact pv_cat
theorem tg_9 (F : pFx p R s m args meth c M base C0 D cI cQ H0) (K : pKK p l e R s m args below meth c Q M base b0 D cI cQ H0 C0 Z0 r go) (hs : stp sc none (fun v h => some (v, h)) go cl (pc, len, 9, a, b, v, li) ls st h = some r) (X : pMt base b0 D cI cQ H0 (mL M) C0 Z0 ls h LS H locs cells slots) (hd : decode M.2.1 pc = .ok (exI (pc, len, 9, a, b, v, li), len)) (sd : sdB Ms M (pc, len, 9, a, b, v, li) = true) (T : pRT p l e R s m args below meth c Q M base b0 D cI cQ H0 C0 Z0 r) : W p l e R s m args below meth c H locs cells slots Q (F0 m pc LS (st.map (pv base b0))) := by
  obtain ⟨hx, hb, hml, hown, hts, hnw, hnm, hfr, hlo, hK, hbs, hrt, hsz, hlk⟩ := F
  have hs : (match (generalizing := false) st with
        | [.int x] => bif Nat.beq b 0 then some (some (.int x), h) else (if x = 0 ∨ x = 1 then some (some (.int x), h) else none)
        | _ => none : pR) = some r := hs
  have h1 : len = 1 ∧ (bif Nat.beq b 0 then decide (mR M = some .int) else decide (mR M = some .boolean)) = true := by simpa only [sdB, Bool.and_eq_true, decide_eq_true_eq] using sd
  split at hs
  · rename_i x hold
    clear hold
    obtain ⟨rfl, h2⟩ := h1
    rw [cond_eq_ite] at hs h2
    split at hs
    · rename_i h3
      rw [if_pos h3] at h2
      cases hs
      exact T pc .ireturn LS H locs cells slots hd (Or.inl ⟨rfl, x, rfl, Or.inl (of_decide_eq_true h2)⟩) X.1 X.2.1 X.2.2.1 X.2.2.2.2.1 X.2.2.2.2.2
    · rename_i h3
      rw [if_neg h3] at h2
      split at hs
      · rename_i h4
        cases hs
        exact T pc .ireturn LS H locs cells slots hd (Or.inl ⟨rfl, x, rfl, Or.inr ⟨of_decide_eq_true h2, h4⟩⟩) X.1 X.2.1 X.2.2.1 X.2.2.2.2.1 X.2.2.2.2.2
      · cases hs
  · cases hs
theorem tg_19 (F : pFx p R s m args meth c M base C0 D cI cQ H0) (K : pKK p l e R s m args below meth c Q M base b0 D cI cQ H0 C0 Z0 r go) (hs : stp sc none (fun v h => some (v, h)) go cl (pc, len, 19, a, b, v, li) ls st h = some r) (X : pMt base b0 D cI cQ H0 (mL M) C0 Z0 ls h LS H locs cells slots) (hd : decode M.2.1 pc = .ok (exI (pc, len, 19, a, b, v, li), len)) (sd : sdB Ms M (pc, len, 19, a, b, v, li) = true) (T : pRT p l e R s m args below meth c Q M base b0 D cI cQ H0 C0 Z0 r) : W p l e R s m args below meth c H locs cells slots Q (F0 m pc LS (st.map (pv base b0))) := by
  obtain ⟨hx, hb, hml, hown, hts, hnw, hnm, hfr, hlo, hK, hbs, hrt, hsz, hlk⟩ := F
  have hs : (match (generalizing := false) st with
        | [] => some (none, h)
        | _ => none : pR) = some r := hs
  split at hs
  · have h1 : len = 1 ∧ mR M = none := by simpa only [sdB, Bool.and_eq_true, decide_eq_true_eq] using sd
    obtain ⟨rfl, h2⟩ := h1
    cases hs
    exact T pc .return_ LS H locs cells slots hd (Or.inr (Or.inl ⟨rfl, rfl, h2⟩)) X.1 X.2.1 X.2.2.1 X.2.2.2.2.1 X.2.2.2.2.2
  · cases hs
theorem tg_30 (F : pFx p R s m args meth c M base C0 D cI cQ H0) (K : pKK p l e R s m args below meth c Q M base b0 D cI cQ H0 C0 Z0 r go) (hs : stp sc none (fun v h => some (v, h)) go cl (pc, len, 30, a, b, v, li) ls st h = some r) (X : pMt base b0 D cI cQ H0 (mL M) C0 Z0 ls h LS H locs cells slots) (hd : decode M.2.1 pc = .ok (exI (pc, len, 30, a, b, v, li), len)) (sd : sdB Ms M (pc, len, 30, a, b, v, li) = true) (T : pRT p l e R s m args below meth c Q M base b0 D cI cQ H0 C0 Z0 r) : W p l e R s m args below meth c H locs cells slots Q (F0 m pc LS (st.map (pv base b0))) := by
  obtain ⟨hx, hb, hml, hown, hts, hnw, hnm, hfr, hlo, hK, hbs, hrt, hsz, hlk⟩ := F
  have hs : (match (generalizing := false) st with
        | [.ref x] => some (some (.ref x), h)
        | _ => none : pR) = some r := hs
  split at hs
  · rename_i x _
    have h1 : len = 1 ∧ rkOf (mR M) = 2 := by simpa only [sdB, Bool.and_eq_true, decide_eq_true_eq] using sd
    obtain ⟨rfl, h2⟩ := h1
    cases hs
    exact T pc .areturn LS H locs cells slots hd (Or.inr (Or.inr (Or.inl ⟨rfl, x, rfl, h2⟩))) X.1 X.2.1 X.2.2.1 X.2.2.2.2.1 X.2.2.2.2.2
  · cases hs
theorem tg_36 (F : pFx p R s m args meth c M base C0 D cI cQ H0) (K : pKK p l e R s m args below meth c Q M base b0 D cI cQ H0 C0 Z0 r go) (hs : stp sc none (fun v h => some (v, h)) go cl (pc, len, 36, a, b, v, li) ls st h = some r) (X : pMt base b0 D cI cQ H0 (mL M) C0 Z0 ls h LS H locs cells slots) (hd : decode M.2.1 pc = .ok (exI (pc, len, 36, a, b, v, li), len)) (sd : sdB Ms M (pc, len, 36, a, b, v, li) = true) (T : pRT p l e R s m args below meth c Q M base b0 D cI cQ H0 C0 Z0 r) : W p l e R s m args below meth c H locs cells slots Q (F0 m pc LS (st.map (pv base b0))) := by
  obtain ⟨hx, hb, hml, hown, hts, hnw, hnm, hfr, hlo, hK, hbs, hrt, hsz, hlk⟩ := F
  have hs : (match (generalizing := false) st with
        | [.double x] => some (some (.double x), h)
        | _ => none : pR) = some r := hs
  split at hs
  · rename_i x _
    have h1 : len = 1 ∧ mR M = some .double := by simpa only [sdB, Bool.and_eq_true, decide_eq_true_eq] using sd
    obtain ⟨rfl, h2⟩ := h1
    cases hs
    exact T pc .dreturn LS H locs cells slots hd (Or.inr (Or.inr (Or.inr (Or.inl ⟨rfl, x, rfl, h2⟩)))) X.1 X.2.1 X.2.2.1 X.2.2.2.2.1 X.2.2.2.2.2
  · cases hs
theorem hz_nK {q : pK} : hz (nK h q) = hz h + kz q := by
  show ((h.1 ++ [q]).map kz).sum = _
  simp [hz]
theorem nK_len {q : pK} : (nK h q).1.length = h.1.length + 1 := by
  show (h.1 ++ [q]).length = _
  simp
theorem tg_21 (F : pFx p R s m args meth c M base C0 D cI cQ H0) (K : pKK p l e R s m args below meth c Q M base b0 D cI cQ H0 C0 Z0 r go) (hs : stp sc none (fun v h => some (v, h)) go cl (pc, len, 21, a, b, v, li) ls st h = some r) (X : pMt base b0 D cI cQ H0 (mL M) C0 Z0 ls h LS H locs cells slots) (hd : decode M.2.1 pc = .ok (exI (pc, len, 21, a, b, v, li), len)) (sd : sdB Ms M (pc, len, 21, a, b, v, li) = true) (KM : ∀ pc ls st h, go pc ls st h = some r → hle h r.2) (hRc : r.2.1.length ≤ R.cells + C0) (hRs : hz r.2 ≤ R.slots + Z0) : W p l e R s m args below meth c H locs cells slots Q (F0 m pc LS (st.map (pv base b0))) := by
  obtain ⟨hx, hb, hml, hown, hts, hnw, hnm, hfr, hlo, hK, hbs, hrt, hsz, hlk⟩ := F
  have hs : (go (pc + len) ls (.ref h.1.length :: st) (nK h (.inl a)) : pR) = some r := hs
  have h1 : len = 3 ∧ newB M a li = true := by simpa only [sdB, Bool.and_eq_true, decide_eq_true_eq] using sd
  obtain ⟨rfl, h2⟩ := h1
  unfold newB at h2
  split at h2
  · rename_i q hq
    simp only [Bool.and_eq_true] at h2
    obtain ⟨⟨w1, w2⟩, w3⟩ := h2
    obtain ⟨c1, c2, c3, c4, g5⟩ := cls_ok a _ hq
    have hm := KM _ _ _ _ hs
    have hm1 := hm.1
    have hm2 := hm.2
    rw [nK_len] at hm1
    rw [hz_nK] at hm2
    have hkz : kz (.inl a) = q.2.2 := by rw [← g5]; rfl
    rw [hkz] at hm2
    have x5 := X.2.2.2.2.1
    have x6 := X.2.2.2.2.2
    refine W_size hsz (fun hsl => ?_)
    have hHs : H.size = base + h.1.length := by
      have := X.1
      omega
    have hKn := hK.1 a _ hq
    refine W.newcK hx hb hown (hts _ (wAt_in w1)) (hts _ (wAt_in w2)) (hts _ (wAt_in w3)) rfl hd (by omega) (by omega) hKn.2.1 rfl fun H1 kC hkC e1 z1 o1 => ?_
    have hP1 : va_P D vwCl (pW base cI cQ (nK h (.inl a))) H1 := by
      rw [pW_nK]
      refine (X.2.1.kept (fun k x hx => o1 x.1 ((X.2.1 k x hx).lt))).app (fun k x hx => ?_)
      have hz : k < 1 := (List.getElem?_eq_some_iff.mp hx).1
      rw [show k = 0 by omega] at hx
      cases hx
      refine ⟨_, hq, ?_⟩
      rw [← hHs]
      refine (u_born (pTy a) hts c1 hKn hkC e1 c2).to (fun j hj => ?_)
      show _ = (pF base (nK h (.inl a)) a _).getD j .null
      rw [List.getD_eq_getElem?_getD, pF_at (by rw [g5]; exact hj)]
      have h8 := c4 j hj
      have h9 : (nK h (.inl a)).2.1 h.1.length j = none := by simp [nK, z2]
      have h10 : (nK h (.inl a)).2.2 h.1.length j = 0 := by simp [nK, z2]
      rw [h9, h10]
      have h11 := fk_ne9 hq hj
      generalize pTy a j = t at h8
      cases t <;> simp only [tyk] at h8 <;> first | (exact absurd h8.symm h11) | (rw [← h8]; rfl)
    have hS1 : va_S (fun q => base ≤ q) H0 H1 locs := ⟨Nat.le_trans X.2.2.1.1 (by omega), fun x h1 h2 => (o1 x (Nat.lt_of_lt_of_le h1 X.2.2.1.1)).trans (X.2.2.1.2.1 x h1 h2), X.2.2.1.2.2⟩
    have hk2 := K _ _ _ _ LS H1 locs (cells + 1) (slots + q.2.2) hs ⟨by rw [nK_len]; omega, hP1, hS1, X.2.2.2.1, by rw [nK_len]; omega, by rw [hz_nK, hkz]; omega⟩
    rw [hHs]
    exact hk2
  · cases h2
theorem tg_22 (F : pFx p R s m args meth c M base C0 D cI cQ H0) (K : pKK p l e R s m args below meth c Q M base b0 D cI cQ H0 C0 Z0 r go) (hs : stp sc none (fun v h => some (v, h)) go cl (pc, len, 22, a, b, v, li) ls st h = some r) (X : pMt base b0 D cI cQ H0 (mL M) C0 Z0 ls h LS H locs cells slots) (hd : decode M.2.1 pc = .ok (exI (pc, len, 22, a, b, v, li), len)) (sd : sdB Ms M (pc, len, 22, a, b, v, li) = true) (KM : ∀ pc ls st h, go pc ls st h = some r → hle h r.2) (hRc : r.2.1.length ≤ R.cells + C0) (hRs : hz r.2 ≤ R.slots + Z0) : W p l e R s m args below meth c H locs cells slots Q (F0 m pc LS (st.map (pv base b0))) := by
  obtain ⟨hx, hb, hml, hown, hts, hnw, hnm, hfr, hlo, hK, hbs, hrt, hsz, hlk⟩ := F
  have hs : (match (generalizing := false) st with
        | .int n :: r => if ¬ n < 0 ∧ n.toNatClampNeg ≤ 100000 then go (pc + len) ls (.ref h.1.length :: r) (nK h (.inr (.inl n.toNatClampNeg))) else none
        | _ => none : pR) = some r := hs
  have h1 : len = 2 ∧ wAt (li.getD 3 0) (.arrayClass .int) = true := by simpa only [sdB, Bool.and_eq_true, decide_eq_true_eq] using sd
  obtain ⟨rfl, w1⟩ := h1
  split at hs
  · rename_i n _ _
    split at hs
    · rename_i hn
      have hm := KM _ _ _ _ hs
      have hm1 := hm.1
      have hm2 := hm.2
      rw [nK_len] at hm1
      rw [hz_nK] at hm2
      have hkz : kz (.inr (.inl n.toNatClampNeg)) = n.toNatClampNeg := rfl
      rw [hkz] at hm2
      have x5 := X.2.2.2.2.1
      have x6 := X.2.2.2.2.2
      refine W_size hsz (fun hsl => ?_)
      have hHs : H.size = base + h.1.length := by
        have := X.1
        omega
      refine va_newaK (atype := .int) hx hb (hts _ (wAt_in w1)) rfl hd rfl hn.1 rfl (by show n.toNatClampNeg * 4 ≤ _; omega) (by omega) (by omega) rfl fun H1 cA e1 z1 o1 hAr hNm => ?_
      have hcA : cA = cI := by
        have h7 : s.vm.findClass ("[" ++ FieldType.int.toString) = some cI := (hK.2 0 _ rfl).2
        exact Option.some.inj (hNm.symm.trans h7)
      subst hcA
      have hP1 : va_P D vwCl (pW base cA cQ (nK h (.inr (.inl n.toNatClampNeg)))) H1 := by
        rw [pW_nK]
        refine (X.2.1.kept (fun k x hx => o1 x.1 ((X.2.1 k x hx).lt))).app (fun k x hx => ?_)
        have hz : k < 1 := (List.getElem?_eq_some_iff.mp hx).1
        rw [show k = 0 by omega] at hx
        cases hx
        show H1[base + h.1.length]? = some (vp_cell cA (n.toNatClampNeg, .inl ((nK h (.inr (.inl n.toNatClampNeg))).2.2 h.1.length)))
        have h10 : (nK h (.inr (.inl n.toNatClampNeg))).2.2 h.1.length = fun _ => 0 := by funext j; simp [nK, z2]
        rw [h10, vp_cell_i, ← hHs]
        exact e1
      have hS1 : va_S (fun q => base ≤ q) H0 H1 locs := ⟨Nat.le_trans X.2.2.1.1 (by omega), fun x h1 h2 => (o1 x (Nat.lt_of_lt_of_le h1 X.2.2.1.1)).trans (X.2.2.1.2.1 x h1 h2), X.2.2.1.2.2⟩
      have hk2 := K _ _ _ _ LS H1 locs (cells + 1) (slots + n.toNatClampNeg) hs ⟨by rw [nK_len]; omega, hP1, hS1, X.2.2.2.1, by rw [nK_len]; omega, by rw [hz_nK, hkz]; omega⟩
      rw [hHs]
      exact hk2
    · cases hs
  · cases hs
theorem tg_41 (F : pFx p R s m args meth c M base C0 D cI cQ H0) (K : pKK p l e R s m args below meth c Q M base b0 D cI cQ H0 C0 Z0 r go) (hs : stp sc none (fun v h => some (v, h)) go cl (pc, len, 41, a, b, v, li) ls st h = some r) (X : pMt base b0 D cI cQ H0 (mL M) C0 Z0 ls h LS H locs cells slots) (hd : decode M.2.1 pc = .ok (exI (pc, len, 41, a, b, v, li), len)) (sd : sdB Ms M (pc, len, 41, a, b, v, li) = true) (KM : ∀ pc ls st h, go pc ls st h = some r → hle h r.2) (hRc : r.2.1.length ≤ R.cells + C0) (hRs : hz r.2 ≤ R.slots + Z0) : W p l e R s m args below meth c H locs cells slots Q (F0 m pc LS (st.map (pv base b0))) := by
  obtain ⟨hx, hb, hml, hown, hts, hnw, hnm, hfr, hlo, hK, hbs, hrt, hsz, hlk⟩ := F
  have hs : (match (generalizing := false) st with
        | .int n :: r => if ¬ n < 0 ∧ n.toNatClampNeg ≤ 100000 then go (pc + len) ls (.ref h.1.length :: r) (nK h (.inr (.inr n.toNatClampNeg))) else none
        | _ => none : pR) = some r := hs
  have h1 : (len = 3 ∧ wAt (li.getD 3 0) (.classLink M.1.cls (li.getD 0 0) "ShelfSpines$Shelf") = true) ∧ lw_tbl[li.getD 4 0]? = some (.arrayOver (.object "ShelfSpines$Shelf")) := by simpa only [sdB, Bool.and_eq_true, decide_eq_true_eq] using sd
  obtain ⟨⟨rfl, w1⟩, w2⟩ := h1
  split at hs
  · rename_i n _ _
    split at hs
    · rename_i hn
      have hm := KM _ _ _ _ hs
      have hm1 := hm.1
      have hm2 := hm.2
      rw [nK_len] at hm1
      rw [hz_nK] at hm2
      have hkz : kz (.inr (.inr n.toNatClampNeg)) = n.toNatClampNeg := rfl
      rw [hkz] at hm2
      have x5 := X.2.2.2.2.1
      have x6 := X.2.2.2.2.2
      refine W_size hsz (fun hsl => ?_)
      have hHs : H.size = base + h.1.length := by
        have := X.1
        omega
      refine W.anew hx hb hown (hts _ (wAt_in w1)) (va_AO.use (hnw _ (List.mem_filter.mpr ⟨List.mem_of_getElem? w2, rfl⟩))) rfl hd rfl hn.1 (by omega) (by omega) (by omega) fun cA kA comp f1 f2 f3 f4 => ?_
      have hcA : cA = cQ := by
        obtain ⟨_, _, _, _, _, h7⟩ := (hK.2 1 _ rfl).2
        exact Option.some.inj (f1.symm.trans h7)
      subst hcA
      generalize hH1 : H.push ({ cls := cA, slots := Array.replicate n.toNatClampNeg .null, vm := .none } : Cell) = H1
      have z1 : H1.size = H.size + 1 := by rw [← hH1, Array.size_push]
      have e1 : H1[H.size]? = some (arrV cA n.toNatClampNeg (fun _ => .null)) := by rw [← hH1, Array.getElem?_push_size, ← arrV_new]
      have o1 : ∀ q : Nat, q < H.size → H1[q]? = H[q]? := fun q hq => by rw [← hH1, Array.getElem?_push, if_neg (Nat.ne_of_lt hq)]
      have hP1 : va_P D vwCl (pW base cI cA (nK h (.inr (.inr n.toNatClampNeg)))) H1 := by
        rw [pW_nK]
        refine (X.2.1.kept (fun k x hx => o1 x.1 ((X.2.1 k x hx).lt))).app (fun k x hx => ?_)
        have hz : k < 1 := (List.getElem?_eq_some_iff.mp hx).1
        rw [show k = 0 by omega] at hx
        cases hx
        show H1[base + h.1.length]? = some (vp_cell cA (n.toNatClampNeg, .inr (.inr (.inr (.inr (fun j => ((nK h (.inr (.inr n.toNatClampNeg))).2.1 h.1.length j).map (base + ·)))))))
        have h10 : (fun j => ((nK h (.inr (.inr n.toNatClampNeg))).2.1 h.1.length j).map (base + ·)) = fun _ => none := by funext j; simp [nK, z2]
        rw [h10, vp_cell_q, ← hHs]
        exact e1
      have hS1 : va_S (fun q => base ≤ q) H0 H1 locs := ⟨Nat.le_trans X.2.2.1.1 (by omega), fun x h1 h2 => (o1 x (Nat.lt_of_lt_of_le h1 X.2.2.1.1)).trans (X.2.2.1.2.1 x h1 h2), X.2.2.1.2.2⟩
      have hk2 := K _ _ _ _ LS H1 locs (cells + 1) (slots + n.toNatClampNeg) hs ⟨by rw [nK_len]; omega, hP1, hS1, X.2.2.2.1, by rw [nK_len]; omega, by rw [hz_nK, hkz]; omega⟩
      rw [hHs]
      exact hk2
    · cases hs
  · cases hs
theorem tg_42 (F : pFx p R s m args meth c M base C0 D cI cQ H0) (K : pKK p l e R s m args below meth c Q M base b0 D cI cQ H0 C0 Z0 r go) (hs : stp sc none (fun v h => some (v, h)) go cl (pc, len, 42, a, b, v, li) ls st h = some r) (X : pMt base b0 D cI cQ H0 (mL M) C0 Z0 ls h LS H locs cells slots) (hd : decode M.2.1 pc = .ok (exI (pc, len, 42, a, b, v, li), len)) (sd : sdB Ms M (pc, len, 42, a, b, v, li) = true) : W p l e R s m args below meth c H locs cells slots Q (F0 m pc LS (st.map (pv base b0))) := by
  obtain ⟨hx, hb, hml, hown, hts, hnw, hnm, hfr, hlo, hK, hbs, hrt, hsz, hlk⟩ := F
  have hs : (match (generalizing := false) st with
        | .ref _ :: r => bif Nat.ble (r.map Value.category).sum 8 then go (pc + len) ls r h else none
        | _ => none : pR) = some r := hs
  have h1 : ((((len = 3 ∧ wAt (li.getD 3 0) (.methodLink M.1.cls (li.getD 0 0) Lib.objectInit) = true) ∧ wAt (li.getD 4 0) (.instanceMethod Lib.objectInit) = true) ∧ wAt (li.getD 5 0) (.code Lib.objectInit ⟨#[0xb1]⟩ 1 none) = true) ∧ 1 ≤ mF M) ∧ 20 ≤ mO M := by simpa only [sdB, Bool.and_eq_true, decide_eq_true_eq] using sd
  obtain ⟨⟨⟨⟨⟨rfl, w1⟩, w2⟩, w3⟩, h5⟩, h6⟩ := h1
  split at hs
  · rename_i _ r' _
    rw [cond_eq_ite] at hs
    split at hs
    · rename_i h7
      refine W.objInit hx hb hown (hts _ (wAt_in w1)) (hts _ (wAt_in w2)) (hts _ (wAt_in w3)) rfl (by rw [hml]; exact X.2.2.2.1.1) rfl hd (Nat.le_trans h5 hfr) ?_ (K _ _ _ _ _ _ _ _ _ hs X)
      have h8 := Nat.le_of_ble_eq_true h7
      show 2 * 0 + ((r'.map (pv base b0)).map fun v => v.category).sum + 12 ≤ _
      rw [cats]
      omega
    · cases hs
  · cases hs
theorem i32_addn {v : Int32} {i : Nat} (h0 : 0 ≤ v.toInt) (h1 : v.toInt ≤ 100) (hi : i ≤ 100) : (v + Int32.ofNat i).toInt = v.toInt + i := by
  rw [Int32.toInt_add, Int32.toInt_ofNat_of_lt (by omega)]
  exact Int.bmod_eq_of_le (by omega) (by omega)
theorem i32_succ {v : Int32} {i : Nat} : v + 1 + Int32.ofNat i = v + Int32.ofNat (i + 1) := by
  rw [Int32.ofNat_add, Int32.add_assoc, Int32.add_comm 1]
  rfl
theorem swt_some {x : Int32} {d : Nat} {ro : Option Value × pH} {K' : Nat → pR} : ∀ {ts : List Nat} {v : Int32}, swt x v ts d K' = some ro → (∃ i t, ts[i]? = some t ∧ x = v + Int32.ofNat i ∧ K' t = some ro) ∨ ((∀ i, i < ts.length → x ≠ v + Int32.ofNat i) ∧ K' d = some ro)
  | [], v, H => Or.inr ⟨fun i h => by simp at h, H⟩
  | t :: ts, v, H => by
    unfold swt at H
    split at H
    · rename_i hc
      exact Or.inl ⟨0, t, rfl, by rw [hc]; simp, H⟩
    · rename_i hc
      rcases swt_some H with ⟨i, t', h1, h2, h3⟩ | ⟨h1, h2⟩
      · exact Or.inl ⟨i + 1, t', by simpa using h1, by rw [h2, i32_succ], h3⟩
      · refine Or.inr ⟨fun i hi => ?_, h2⟩
        cases i with
        | zero => simpa using hc
        | succ i =>
          rw [← i32_succ]
          exact h1 i (by simpa using hi)
theorem tg_24 (F : pFx p R s m args meth c M base C0 D cI cQ H0) (K : pKK p l e R s m args below meth c Q M base b0 D cI cQ H0 C0 Z0 r go) (hs : stp sc none (fun v h => some (v, h)) go cl (pc, len, 24, a, b, v, li) ls st h = some r) (X : pMt base b0 D cI cQ H0 (mL M) C0 Z0 ls h LS H locs cells slots) (hd : decode M.2.1 pc = .ok (exI (pc, len, 24, a, b, v, li), len)) (sd : sdB Ms M (pc, len, 24, a, b, v, li) = true) : W p l e R s m args below meth c H locs cells slots Q (F0 m pc LS (st.map (pv base b0))) := by
  obtain ⟨hx, hb, hml, hown, hts, hnw, hnm, hfr, hlo, hK, hbs, hrt, hsz, hlk⟩ := F
  have hs : (match (generalizing := false) st with
        | .int x :: r => swt x v (li.drop 1) (li.getD 0 0) fun t => go t ls r h
        | _ => none : pR) = some r := hs
  have h1 : ((2 ≤ li.length ∧ li.length ≤ 100) ∧ 0 ≤ v.toInt) ∧ v.toInt ≤ 100 := by simpa only [sdB, Bool.and_eq_true, decide_eq_true_eq] using sd
  obtain ⟨⟨⟨n1, n2⟩, n3⟩, n4⟩ := h1
  split at hs
  · rename_i x _ _
    rcases swt_some hs with ⟨i, t, h1, h2, h3⟩ | ⟨h1, h3⟩
    · have hi : i < (li.drop 1).length := (List.getElem?_eq_some_iff.mp h1).1
      rw [List.length_drop] at hi
      have h4 : x.toInt = v.toInt + i := by rw [h2]; exact i32_addn n3 n4 (by omega)
      refine lv_tableIn (off := (t : Int) - (pc : Int)) (tgt := t) hx hb hd (by omega) (by omega) ?_ (by omega) (K _ _ _ _ _ _ _ _ _ h3 X)
      rw [show (x.toInt - v.toInt).toNat = i by omega]
      rw [List.getElem?_toArray, List.getElem?_map, h1]
      rfl
    · refine lv_tableOut (tgt := li.getD 0 0) hx hb hd ?_ (by omega) (K _ _ _ _ _ _ _ _ _ h3 X)
      rcases Int.lt_or_le x.toInt v.toInt with h5 | h5
      · exact Or.inl h5
      · refine Or.inr (Int.not_le.mp fun h6 => ?_)
        refine h1 (x.toInt - v.toInt).toNat (by rw [List.length_drop]; omega) (Int32.toInt_inj.mp ?_)
        rw [i32_addn n3 n4 (by omega)]
        omega
  · cases hs
theorem tg_25 (F : pFx p R s m args meth c M base C0 D cI cQ H0) (K : pKK p l e R s m args below meth c Q M base b0 D cI cQ H0 C0 Z0 r go) (hs : stp sc none (fun v h => some (v, h)) go cl (pc, len, 25, a, b, v, li) ls st h = some r) (X : pMt base b0 D cI cQ H0 (mL M) C0 Z0 ls h LS H locs cells slots) (hd : decode M.2.1 pc = .ok (exI (pc, len, 25, a, b, v, li), len)) (sd : sdB Ms M (pc, len, 25, a, b, v, li) = true) : W p l e R s m args below meth c H locs cells slots Q (F0 m pc LS (st.map (pv base b0))) := by
  obtain ⟨hx, hb, hml, hown, hts, hnw, hnm, hfr, hlo, hK, hbs, hrt, hsz, hlk⟩ := F
  have hs : (match (generalizing := false) st with
        | .int x :: r => if x = 0 then go (li.getD 1 0) ls r h else if x = 1 then go (li.getD 2 0) ls r h else go (li.getD 0 0) ls r h
        | _ => none : pR) = some r := hs
  have hp : ((#[(0, (li.getD 1 0 : Nat) - (pc : Int)), (1, (li.getD 2 0 : Nat) - (pc : Int))] : Array (Int × Int)).toList.zip ((#[(0, (li.getD 1 0 : Nat) - (pc : Int)), (1, (li.getD 2 0 : Nat) - (pc : Int))] : Array (Int × Int)).toList.drop 1)).all (fun (a, next) => a.1 < next.1) = true := by simp
  split at hs
  · rename_i x _ _
    split at hs
    · rename_i h1
      subst h1
      exact lv_lookup (off := (li.getD 1 0 : Nat) - (pc : Int)) (tgt := li.getD 1 0) hx hb hd hp (by simp [Op.lookupswitch.offset]) (by omega) (K _ _ _ _ _ _ _ _ _ hs X)
    · rename_i h0
      split at hs
      · rename_i h1
        subst h1
        exact lv_lookup (off := (li.getD 2 0 : Nat) - (pc : Int)) (tgt := li.getD 2 0) hx hb hd hp (by simp [Op.lookupswitch.offset]) (by omega) (K _ _ _ _ _ _ _ _ _ hs X)
      · rename_i h1
        have h2 : ¬ x.toInt = 0 := fun q => h0 (Int32.toInt_inj.mp (q.trans (by decide)))
        have h3 : ¬ x.toInt = 1 := fun q => h1 (Int32.toInt_inj.mp (q.trans (by decide)))
        have h4 : ¬ 0 = x.toInt := fun q => h2 q.symm
        have h5 : ¬ 1 = x.toInt := fun q => h3 q.symm
        exact lv_lookup (off := (li.getD 0 0 : Nat) - (pc : Int)) (tgt := li.getD 0 0) hx hb hd hp (by simp [Op.lookupswitch.offset, h4, h5]) (by omega) (K _ _ _ _ _ _ _ _ _ hs X)
  · cases hs
theorem tg_45 (F : pFx p R s m args meth c M base C0 D cI cQ H0) (K : pKK p l e R s m args below meth c Q M base b0 D cI cQ H0 C0 Z0 r go) (hs : stp sc none (fun v h => some (v, h)) go cl (pc, len, 45, a, b, v, li) ls st h = some r) (X : pMt base b0 D cI cQ H0 (mL M) C0 Z0 ls h LS H locs cells slots) (hd : decode M.2.1 pc = .ok (exI (pc, len, 45, a, b, v, li), len)) (sd : sdB Ms M (pc, len, 45, a, b, v, li) = true) (KM : ∀ pc ls st h, go pc ls st h = some r → hle h r.2) (hRc : r.2.1.length ≤ R.cells + C0) (hRs : hz r.2 ≤ R.slots + Z0) : W p l e R s m args below meth c H locs cells slots Q (F0 m pc LS (st.map (pv base b0))) := by
  obtain ⟨hx, hb, hml, hown, hts, hnw, hnm, hfr, hlo, hK, hbs, hrt, hsz, hlk⟩ := F
  have hs : (match (generalizing := false) st with
        | .int y :: .int x :: r => bif Nat.ble (r.map Value.category).sum 8 then go (pc + len) ls (.int (imax x y) :: r) h else none
        | _ => none : pR) = some r := hs
  have h1 : (((((len = 3 ∧ wAt (li.getD 3 0) (.methodLink M.1.cls (li.getD 0 0) Lib.Math.max.name) = true) ∧ wAt (li.getD 4 0) (.static Lib.Math.max.name) = true) ∧ wAt (li.getD 5 0) (.initialized "java/lang/Math") = true) ∧ wAt (li.getD 6 0) (.code Lib.Math.max.name Lib.Math.max.code 2 (some .int)) = true) ∧ 1 ≤ mF M) ∧ 21 ≤ mO M := by simpa only [sdB, Bool.and_eq_true, decide_eq_true_eq] using sd
  obtain ⟨⟨⟨⟨⟨⟨rfl, w1⟩, w2⟩, w3⟩, w4⟩, h5⟩, h6⟩ := h1
  split at hs
  · rename_i y x r' _
    rw [cond_eq_ite] at hs
    split at hs
    · rename_i h7
      have h8 := Nat.le_of_ble_eq_true h7
      have hm := KM _ _ _ _ hs
      have hm1 := hm.1
      have hm2 := hm.2
      have x5 := X.2.2.2.2.1
      have x6 := X.2.2.2.2.2
      exact va_mmax hx hb (hml.trans X.2.2.2.1.1.symm) hown (hts _ (wAt_in w1)) (hts _ (wAt_in w2)) (hts _ (wAt_in w3)) (hts _ (wAt_in w4)) (Nat.le_trans h5 hfr) (by rw [cats]; omega) (by omega) (by omega) hd (K _ _ _ _ _ _ _ _ _ hs X)
    · cases hs
  · cases hs
theorem tg_46 (F : pFx p R s m args meth c M base C0 D cI cQ H0) (K : pKK p l e R s m args below meth c Q M base b0 D cI cQ H0 C0 Z0 r go) (hs : stp sc none (fun v h => some (v, h)) go cl (pc, len, 46, a, b, v, li) ls st h = some r) (X : pMt base b0 D cI cQ H0 (mL M) C0 Z0 ls h LS H locs cells slots) (hd : decode M.2.1 pc = .ok (exI (pc, len, 46, a, b, v, li), len)) (sd : sdB Ms M (pc, len, 46, a, b, v, li) = true) (KM : ∀ pc ls st h, go pc ls st h = some r → hle h r.2) (hRc : r.2.1.length ≤ R.cells + C0) (hRs : hz r.2 ≤ R.slots + Z0) : W p l e R s m args below meth c H locs cells slots Q (F0 m pc LS (st.map (pv base b0))) := by
  obtain ⟨hx, hb, hml, hown, hts, hnw, hnm, hfr, hlo, hK, hbs, hrt, hsz, hlk⟩ := F
  have hs : (match (generalizing := false) st with
        | .int y :: .int x :: r => bif Nat.ble (r.map Value.category).sum 8 then go (pc + len) ls (.int (imin x y) :: r) h else none
        | _ => none : pR) = some r := hs
  have h1 : (((((len = 3 ∧ wAt (li.getD 3 0) (.methodLink M.1.cls (li.getD 0 0) Lib.Math.min.name) = true) ∧ wAt (li.getD 4 0) (.static Lib.Math.min.name) = true) ∧ wAt (li.getD 5 0) (.initialized "java/lang/Math") = true) ∧ wAt (li.getD 6 0) (.code Lib.Math.min.name Lib.Math.min.code 2 (some .int)) = true) ∧ 1 ≤ mF M) ∧ 21 ≤ mO M := by simpa only [sdB, Bool.and_eq_true, decide_eq_true_eq] using sd
  obtain ⟨⟨⟨⟨⟨⟨rfl, w1⟩, w2⟩, w3⟩, w4⟩, h5⟩, h6⟩ := h1
  split at hs
  · rename_i y x r' _
    rw [cond_eq_ite] at hs
    split at hs
    · rename_i h7
      have h8 := Nat.le_of_ble_eq_true h7
      have hm := KM _ _ _ _ hs
      have hm1 := hm.1
      have hm2 := hm.2
      have x5 := X.2.2.2.2.1
      have x6 := X.2.2.2.2.2
      exact va_mmin hx hb (hml.trans X.2.2.2.1.1.symm) hown (hts _ (wAt_in w1)) (hts _ (wAt_in w2)) (hts _ (wAt_in w3)) (hts _ (wAt_in w4)) (Nat.le_trans h5 hfr) (by rw [cats]; omega) (by omega) (by omega) hd (K _ _ _ _ _ _ _ _ _ hs X)
    · cases hs
  · cases hs
end Sound3
