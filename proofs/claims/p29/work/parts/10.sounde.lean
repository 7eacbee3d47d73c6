section Sound5
variable {Ms : List pM} {l : Launch}
def pCHn (Ms : List pM) (l : Launch) (n : Nat) : Prop := ∀ (base b0 : Nat) (D : va_G) (cI cQ : ClassId), pCH Ms l base b0 D cI cQ (fun y as h => rn Ms none n y 0 (as.map some) [] h)
def pFR (Ms : List pM) (l : Launch) (n : Nat) : Prop :=
  ∀ (sc : pX) (mi : Nat) (M : pM) (pc : Nat) (ls : pL) (st : List Value) (h : pH) (r : Option Value × pH), Ms[mi]? = some M → rn Ms sc n mi pc ls st h = some r →
    ∀ (p : Program) (e : Env) (R : Room) (s : State) (m : MethodId) (args : Array Value) (below : List Frame) (meth : Method) (c : Code) (Q : State → Prop) (base b0 : Nat) (D : va_G) (cI cQ : ClassId) (H0 H : Heap) (C0 Z0 : Nat) (LS : Array Slot) (locs : List Loc) (cells slots : Nat),
      pFx p R s m args meth c M base C0 D cI cQ H0 → pSc sc b0 s H0 base → pRT p l e R s m args below meth c Q M base b0 D cI cQ H0 C0 Z0 r → pMt base b0 D cI cQ H0 (mL M) C0 Z0 ls h LS H locs cells slots → r.2.1.length ≤ R.cells + C0 → hz r.2 ≤ R.slots + Z0 →
      W p l e R s m args below meth c H locs cells slots Q (F0 m pc LS (st.map (pv base b0)))
theorem fr_step (hMs : ∀ (mi : Nat) (M : pM), Ms[mi]? = some M → okM Ms M) {n : Nat} (hF : pFR Ms l n) (hC : pCHn Ms l n) : pFR Ms l (n + 1) := by
  intro sc mi M pc ls st h r hM hr p e R s m args below meth c Q base b0 D cI cQ H0 H C0 Z0 LS locs cells slots F S T X hRc hRs
  rw [rn_succ, hM, oo_v] at hr
  obtain ⟨e0, he, hs⟩ := oo_some hr
  obtain ⟨hein, hepc⟩ := fe_in he
  obtain ⟨hd, sd⟩ := (hMs mi M hM).2 e0 hein
  obtain ⟨pc0, len, tag, a, b, v, li⟩ := e0
  have hepc : pc0 = pc := hepc
  subst hepc
  have K : pKK p l e R s m args below meth c Q M base b0 D cI cQ H0 C0 Z0 r (fun pc ls st h => rn Ms sc n mi pc (trm M.2.2.2.2.2.2.2 pc ls) st h) := by
    intro pc ls st h LS H locs cells slots h1 X1
    exact hF sc mi M pc _ st h r hM h1 p e R s m args below meth c Q base b0 D cI cQ H0 H C0 Z0 LS locs cells slots F S T ⟨X1.1, X1.2.1, X1.2.2.1, lr_trm X1.2.2.2.1, X1.2.2.2.2⟩ hRc hRs
  have KM : ∀ (pc : Nat) (ls : pL) (st : List Value) (h : pH), rn Ms sc n mi pc (trm M.2.2.2.2.2.2.2 pc ls) st h = some r → hle h r.2 := fun pc ls st h h1 => rn_le n h1
  have hcl : ∀ (y : Nat) (as : List Value) (rk pc : Nat) (ls : pL) (st : List Value) (h : pH), cc rk (rn Ms none n y 0 (as.map some) [] h) (fun w h => rn Ms sc n mi pc (trm M.2.2.2.2.2.2.2 pc ls) (w ++ st) h) = some r → ∃ (v : Option Value) (h' : pH), rn Ms none n y 0 (as.map some) [] h = some (v, h') ∧ rn Ms sc n mi pc (trm M.2.2.2.2.2.2.2 pc ls) (v.toList ++ st) h' = some r := by
    intro y as rk pc ls st h h1
    obtain ⟨v, h', w, h2, h3, h4⟩ := cc_some h1
    exact ⟨v, h', h2, by rw [← h3]; exact h4⟩
  have CH := hC base b0 D cI cQ
  match tag, hs, hd, sd with
  | 0, hs, hd, sd => exact tg_0 F K hs X hd sd
  | 1, hs, hd, sd => exact tg_1 F K hs X hd sd
  | 2, hs, hd, sd => exact tg_2 F K hs X hd sd
  | 3, hs, hd, sd => exact tg_3 F K hs X hd sd
  | 4, hs, hd, sd => exact tg_4 F K hs X hd sd
  | 5, hs, hd, sd => exact tg_5 F K hs X hd sd
  | 6, hs, hd, sd => exact tg_6 F K hs X hd sd KM hRc hRs hcl CH
  | 7, hs, hd, sd => exact tg_7 F K hs X hd sd KM hRc hRs hcl CH
  | 8, hs, hd, sd => exact tg_8 F K hs X hd sd KM hRc hRs hcl CH
  | 9, hs, hd, sd => exact tg_9 F K hs X hd sd T
  | 10, hs, hd, sd => exact tg_10 F K hs X hd sd
  | 11, hs, hd, sd => exact tg_11 F K hs X hd sd
  | 12, hs, hd, sd => exact tg_12 F K hs X hd sd S
  | 13, hs, hd, sd => exact tg_13 F K hs X hd sd
  | 14, hs, hd, sd => exact tg_14 F K hs X hd sd
  | 15, hs, hd, sd => exact tg_15 F K hs X hd sd
  | 16, hs, hd, sd => exact tg_16 F K hs X hd sd
  | 17, hs, hd, sd => exact tg_17 F K hs X hd sd
  | 18, hs, hd, sd => exact tg_18 F K hs X hd sd
  | 19, hs, hd, sd => exact tg_19 F K hs X hd sd T
  | 20, hs, hd, sd => exact tg_20 F K hs X hd sd
  | 21, hs, hd, sd => exact tg_21 F K hs X hd sd KM hRc hRs
  | 22, hs, hd, sd => exact tg_22 F K hs X hd sd KM hRc hRs
  | 23, hs, hd, sd => exact tg_23 F K hs X hd sd
  | 24, hs, hd, sd => exact tg_24 F K hs X hd sd
  | 25, hs, hd, sd => exact tg_25 F K hs X hd sd
  | 26, hs, hd, sd => exact tg_26 F K hs X hd sd S
  | 27, hs, hd, sd => exact tg_27 F K hs X hd sd
  | 28, hs, hd, sd => exact tg_28 F K hs X hd sd
  | 29, hs, hd, sd => exact tg_29 F K hs X hd sd
  | 30, hs, hd, sd => exact tg_30 F K hs X hd sd T
  | 31, hs, hd, sd => exact tg_31 F K hs X hd sd
  | 32, hs, hd, sd => exact tg_32 F K hs X hd sd
  | 33, hs, hd, sd => exact tg_33 F K hs X hd sd
  | 34, hs, hd, sd => exact tg_34 F K hs X hd sd
  | 35, hs, hd, sd => exact tg_35 F K hs X hd sd
  | 36, hs, hd, sd => exact tg_36 F K hs X hd sd T
  | 37, hs, hd, sd => exact tg_37 F K hs X hd sd
  | 38, hs, hd, sd => exact tg_38 F K hs X hd sd
  | 39, hs, hd, sd => exact tg_39 F K hs X hd sd
  | 40, hs, hd, sd => exact tg_40 F K hs X hd sd
  | 41, hs, hd, sd => exact tg_41 F K hs X hd sd KM hRc hRs
  | 42, hs, hd, sd => exact tg_42 F K hs X hd sd
  | 43, hs, hd, sd => exact tg_43 F K hs X hd sd
  | 44, hs, hd, sd => exact tg_44 F K hs X hd sd
  | 45, hs, hd, sd => exact tg_45 F K hs X hd sd KM hRc hRs
  | 46, hs, hd, sd => exact tg_46 F K hs X hd sd KM hRc hRs
  | 47, hs, hd, sd => exact tg_47 F K hs X hd sd
  | 48, hs, hd, sd => exact tg_48 F K hs X hd sd
  | 49, hs, hd, sd => exact tg_49 F K hs X hd sd
  | 50, hs, hd, sd => exact tg_50 F K hs X hd sd
  | 51, hs, hd, sd => exact tg_51 F K hs X hd sd
  | 52, hs, hd, sd => exact tg_52 F K hs X hd sd
  | 53, hs, hd, sd => exact tg_53 F K hs X hd sd T
  | 54, hs, hd, sd => exact tg_54 F K hs X hd sd KM hRc hRs S
  | t + 55, hs, hd, sd => simp [sdB] at sd
theorem lv_args_at : ∀ (vs : List Value) (j : Nat), (∀ v ∈ vs, v.category = 1) → ∀ (i : Nat) (v : Value), vs[i]? = some v → (j + i, v) ∈ lv_args j vs
  | [], j, _, i, v, h => by simp at h
  | w :: vs, j, hc, 0, v, h => by
    have : w = v := by simpa using h
    subst this
    exact List.mem_cons_self
  | w :: vs, j, hc, i + 1, v, h => by
    have h1 : vs[i]? = some v := by simpa using h
    have h2 := lv_args_at vs (j + 1) (fun v hv => hc v (List.mem_cons_of_mem _ hv)) i v h1
    have h3 : ¬ w.category = 2 := by
      have := hc w List.mem_cons_self
      omega
    show (j + (i + 1), v) ∈ (j, w) :: lv_args (if w.category = 2 then j + 2 else j + 1) vs
    rw [if_neg h3, show j + (i + 1) = j + 1 + i by omega]
    exact List.mem_cons_of_mem _ h2
theorem lg_len : ∀ (vs : List Value), (∀ v ∈ vs, v.category = 1) → (lg_sl vs).length = vs.length
  | [], _ => rfl
  | w :: vs, hc => by
    have h3 : ¬ w.category = 2 := by
      have := hc w List.mem_cons_self
      omega
    have h4 := lg_len vs (fun v hv => hc v (List.mem_cons_of_mem _ hv))
    unfold lg_sl at h4 ⊢
    rw [List.flatMap_cons, if_neg h3, List.length_append, h4, List.length_cons]
    simp only [List.length_cons, List.length_nil]
    omega
set_option maxHeartbeats 1000000 in
theorem ch_of (hMs : ∀ (mi : Nat) (M : pM), Ms[mi]? = some M → okM Ms M) {n : Nat} (hF : pFR Ms l n) : pCHn Ms l n := by
  intro base b0 D cI cQ y N as h v h' hN hcat hlen hrun
  have hle1 := rn_le n hrun
  refine ⟨hle1, ?_⟩
  unfold pMet
  refine Met.ofW (cc := N.2.1) (maxL := mL N) (ret := mR N) (hMs y N hN).1 rfl ?_
  intro p e s m args below meth c s₁ B hml hv
  obtain ⟨rfl, hsz, hP, hK, hn⟩ := hv
  have hts := atoms_spec (ws := Cond.code N.1 N.2.1 (mL N) (mR N) :: gW) B.pre
  have hcat' : ∀ v ∈ as.map (pv base b0), v.category = 1 := by
    intro v hv
    obtain ⟨w, h1, rfl⟩ := List.mem_map.mp hv
    rw [pv_cat]
    exact hcat w h1
  have hll : (lg_sl (as.map (pv base b0))).length ≤ mL N := by rw [lg_len _ hcat', List.length_map]; exact hlen
  have hl := lv_entry (as.map (pv base b0)) (n := mL N) hll
  rw [lg_entry_eq]
  have a1 := hle1.1
  have a2 := hle1.2
  dsimp only at a1 a2
  refine hF none y N 0 (as.map some) [] h (v, h') hN hrun p e _ s m _ below meth c _ base b0 D cI cQ s.heap s.heap h.1.length (hz h) _ [] 0 0
    ⟨B.exec, B.bytes, hml, findClass_of_methodNamed B.named, fun w hw => hts w (List.mem_cons_of_mem _ hw), hn, (name_of_methodNamed B.named B.method).1, Nat.le_refl _, Nat.le_refl _, hK, by omega, B.returns.symm, hsz, B.notSynchronized⟩
    (fun q hq => by cases hq) ?_ ⟨by omega, hP, va_S.rf, ⟨hl.1, hl.2.1, fun i w hi => ?_⟩, by omega, by omega⟩ (by show h'.1.length ≤ (h'.1.length - h.1.length) + h.1.length; omega) (by show hz h' ≤ (hz h' - hz h) + hz h; omega)
  · intro pc i LS H locs cells slots hd hi hlo hP1 hS1 hc hz1
    dsimp only at hc hz1
    obtain rfl : cells = h'.1.length - h.1.length := by omega
    obtain rfl : slots = hz h' - hz h := by omega
    have hq : ∀ t : State, t.heap = H → s.WarmedH t.vm → pQ base b0 D cI cQ v h' (as.map (pv base b0)).toArray s (.returned (v.map (pv base b0))) t := fun t ht hW => ⟨⟨rfl, by rw [ht]; exact hP1, by rw [ht]; exact hlo⟩, hS1.F ht⟩
    rcases hi with ⟨rfl, x, hx1, hx2⟩ | ⟨rfl, hx1, hx2⟩ | ⟨rfl, k, hx1, hx2⟩ | ⟨rfl, x, hx1, hx2⟩ | ⟨rfl, x, hx1, hx2⟩
    · dsimp only at hx1
      subst hx1
      rcases hx2 with hx2 | ⟨hx2, hx3⟩
      · exact W.iret (v := x) B.exec B.bytes (B.returns.trans hx2) hq hS1.2.2 hd B.notSynchronized
      · exact W.zret (v := x) (ty := .boolean) B.exec B.bytes (B.returns.trans hx2) (by rcases hx3 with rfl | rfl <;> decide) hq hS1.2.2 hd B.notSynchronized
    · dsimp only at hx1
      subst hx1
      exact W.vret B.exec B.bytes (B.returns.trans hx2) hq hS1.2.2 hd B.notSynchronized
    · dsimp only at hx1
      subst hx1
      have h9 : ∃ rt, mR N = some rt ∧ ((∃ n, rt = .object n) ∨ ∃ t, rt = .array t) := by
        revert hx2
        generalize mR N = o
        intro hx2
        cases o with
        | none => cases hx2
        | some rt => cases rt <;> first | exact ⟨_, rfl, Or.inl ⟨_, rfl⟩⟩ | exact ⟨_, rfl, Or.inr ⟨_, rfl⟩⟩ | (exact absurd hx2 (by simp [rkOf]))
      obtain ⟨rt, g1, g2⟩ := h9
      exact W.aret (v := .ref (base + k)) B.exec B.bytes (B.returns.trans g1) g2 (Or.inr ⟨_, rfl⟩) hq hS1.2.2 hd B.notSynchronized
    · dsimp only at hx1
      subst hx1
      exact W.dret (v := x) B.exec B.bytes (B.returns.trans hx2) hq hS1.2.2 hd B.notSynchronized
    · dsimp only at hx1
      subst hx1
      exact W.lret (v := x) B.exec B.bytes (B.returns.trans hx2) hq hS1.2.2 hd B.notSynchronized
  · rw [List.getElem?_map] at hi
    cases hz1 : as[i]? with
    | none => rw [hz1] at hi; cases hi
    | some w1 =>
      rw [hz1] at hi
      obtain rfl : w1 = w := by simpa using hi
      have h8 := lv_args_at (as.map (pv base b0)) 0 hcat' i (pv base b0 w1) (by rw [List.getElem?_map, hz1]; rfl)
      rw [Nat.zero_add] at h8
      exact hl.2.2 (i, pv base b0 w1) h8
/-- THE MACHINE DOES WHAT THE PURE ONE DOES: every run that ends, of a frame and of a call -/
theorem fr_all (hMs : ∀ (mi : Nat) (M : pM), Ms[mi]? = some M → okM Ms M) : ∀ n, pFR Ms l n
  | 0 => fun _ _ _ _ _ _ _ _ _ h => by cases h
  | n + 1 => fr_step hMs (fr_all hMs n) (ch_of hMs (fr_all hMs n))
end Sound5
