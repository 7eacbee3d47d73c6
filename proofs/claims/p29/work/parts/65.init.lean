/-! the two constructors, run by the kernel; references lie where they may alone -/
def Qr (h : pH) : Prop := ∀ k j, h.2.1 k j ≠ none → (∃ ci, h.1[k]? = some (.inl ci) ∧ j < 20) ∨ ∃ n, h.1[k]? = some (.inr (.inr n))
theorem Qr_sI {h : pH} {k j : Nat} {x : Int32} (q : Qr h) : Qr (sI h k j x) := q
theorem Qr_set {h : pH} {k b r : Nat} (q : Qr h) (hk : (∃ ci, h.1[k]? = some (.inl ci) ∧ b < 20) ∨ ∃ n, h.1[k]? = some (.inr (.inr n))) : Qr (sR h k b r) := by
  intro k' j hne
  by_cases e1 : k' = k
  · by_cases e2 : j = b
    · rw [e1, e2]
      exact hk
    · refine q k' j (fun hz => hne ?_)
      show (if k' = k then (if j = b then some r else h.2.1 k' j) else h.2.1 k' j) = none
      rw [if_pos e1, if_neg e2]
      exact hz
  · refine q k' j (fun hz => hne ?_)
    show (if k' = k then (if j = b then some r else h.2.1 k' j) else h.2.1 k' j) = none
    rw [if_neg e1]
    exact hz
theorem Qr_sR {h : pH} {c k b r : Nat} (q : Qr h) (hk : kO h c k = true) (hb : b < 20) : Qr (sR h k b r) := Qr_set q (Or.inl ⟨c, of_decide_eq_true hk, hb⟩)
theorem Qr_sA {h : pH} {k b r x : Nat} {i : Int32} (q : Qr h) (hk : bQ h k i x = true) : Qr (sR h k b r) := by
  refine Qr_set q (Or.inr ?_)
  unfold bQ at hk
  split at hk
  · exact ⟨_, by assumption⟩
  · cases hk
theorem Qr_nK {h : pH} {p : pK} (q : Qr h) : Qr (nK h p) := by
  intro k j hne
  have e : (nK h p).2.1 k j = if k = h.1.length then none else h.2.1 k j := by
    show z2 h.2.1 h.1.length none k j = _
    unfold z2
    split <;> rfl
  rw [e] at hne
  by_cases hk : k = h.1.length
  · rw [if_pos hk] at hne
    exact absurd rfl hne
  · rw [if_neg hk] at hne
    have hl : ∀ x, h.1[k]? = some x → (h.1 ++ [p])[k]? = some x := fun x hx => by
      have := (List.getElem?_eq_some_iff.mp hx).1
      rw [List.getElem?_append_left this]
      exact hx
    rcases q k j hne with ⟨ci, h1, h2⟩ | ⟨n, h1⟩
    · exact Or.inl ⟨ci, hl _ h1, h2⟩
    · exact Or.inr ⟨n, hl _ h1⟩
set_option maxHeartbeats 4000000 in
theorem stp_Q {sc : pX} {go : Nat → pL → List Value → pH → pR} {cl : Nat → List Value → Nat → Nat → pL → List Value → pH → pR} {e : pE} {ls : pL} {st : List Value} {h : pH} {r : Option Value × pH}
    (H : stp sc none (fun v h => some (v, h)) go cl e ls st h = some r) (hQ : Qr h) (hb : e.2.2.1 = 17 → e.2.2.2.2.1 < 20) :
    r.2 = h ∨ (∃ pc' ls' st' h', go pc' ls' st' h' = some r ∧ Qr h') ∨ (∃ y as rk pc' ls' st', cl y as rk pc' ls' st' h = some r) := by
  obtain ⟨pc, len, tag, a, b, v, l⟩ := e
  unfold stp at H
  dsimp only at H hb
  simp only [cond_eq_ite, frc_eq] at H
  split at H
  all_goals first
    | exact Or.inr (Or.inl ⟨_, _, _, _, H, by first | exact hQ | exact Qr_nK hQ⟩)
    | skip
  all_goals try (split at H)
  all_goals first
    | (cases H; done)
    | exact Or.inl (by cases H; rfl)
    | exact Or.inr (Or.inl ⟨_, _, _, _, H, by first | exact hQ | exact Qr_nK hQ⟩)
    | skip
  all_goals first
    | (refine Exists.elim (oo_some H) fun t ht => ?_; obtain ⟨h1, H⟩ := ht)
    | (refine Exists.elim (bop_leaf H) fun t ht => ?_; exact Or.inr (Or.inl ⟨_, _, _, _, ht.1, hQ⟩))
    | (refine Exists.elim (swt_leaf H) fun t ht => ?_; exact Or.inr (Or.inl ⟨_, _, _, _, ht.1, hQ⟩))
    | skip
  all_goals try (split at H)
  all_goals try (split at H)
  all_goals try (split at H)
  all_goals first
    | (cases H; done)
    | exact Or.inl (by cases H; rfl)
    | exact Or.inr (Or.inl ⟨_, _, _, _, H, by first | exact hQ | exact Qr_nK hQ | exact Qr_sI hQ | exact Qr_sR hQ (by assumption) (hb rfl) | exact Qr_sA hQ (by assumption)⟩)
    | exact Or.inr (Or.inr ⟨_, _, _, _, _, _, H⟩)
    | skip
theorem rn_Q {Ms : List pM} (hM : ∀ (mi : Nat) (M : pM), Ms[mi]? = some M → ∀ e, e ∈ M.2.2.2.2.2.2.1 → e.2.2.1 = 17 → e.2.2.2.2.1 < 20) : ∀ (n : Nat) {sc : pX} {mi pc : Nat} {ls : pL} {st : List Value} {h : pH} {r : Option Value × pH}, rn Ms sc n mi pc ls st h = some r → Qr h → Qr r.2
  | 0, _, _, _, _, _, _, _, H, _ => by cases H
  | n + 1, sc, mi, pc, ls, st, h, r, H, hQ => by
    rw [rn_succ] at H
    obtain ⟨M, h1, H⟩ := oo_some H
    obtain ⟨e, h2, H⟩ := oo_some H
    rcases stp_Q H hQ (hM mi M h1 e (fe_in h2).1) with h3 | ⟨pc', ls', st', h', H, h3⟩ | ⟨y, as, rk, pc', ls', st', H⟩
    · rw [h3]; exact hQ
    · exact rn_Q hM n H h3
    · obtain ⟨v, h4, w, h5, -, h6⟩ := cc_some H
      exact rn_Q hM n h6 (rn_Q hM n h5 hQ)
def row17 (M : pM) : Bool := M.2.2.2.2.2.2.1.all fun e => !(Nat.beq e.2.2.1 17) || Nat.blt e.2.2.2.2.1 20
theorem pMs_17 : pMs.all row17 = true := by decide +kernel
theorem pMs_17' (mi : Nat) (M : pM) (h : pMs[mi]? = some M) : ∀ e, e ∈ M.2.2.2.2.2.2.1 → e.2.2.1 = 17 → e.2.2.2.2.1 < 20 := by
  intro e he h17
  have h1 := List.all_eq_true.mp pMs_17 M (List.mem_of_getElem? h)
  have h2 := List.all_eq_true.mp h1 e he
  rw [h17] at h2
  have h3 : Nat.blt e.2.2.2.2.1 20 = true := by simpa using h2
  exact Nat.blt_eq.mp h3
def hE : pH := ([], fun _ _ => none, fun _ _ => 0)
theorem Qr_E : Qr hE := fun _ _ h => absurd rfl h
def iX : pR := rn pMs none 400 7 0 [some (.ref 0)] [] (nK hE (.inl 7))
/-- what is looked at in the two objects behind their constructors -/
def ichk (h : pH) : Bool := decide (h.1 = K0) && (List.range 63).all (fun k => decide (k = 12) || (List.range 20).all fun j => decide (h.2.1 k j = R0 k j))
def ichk2 (h : pH) : Bool := (List.range 4).all (fun j => decide (h.2.1 12 j = some (13 + 5 * j))) && (List.range 10).all (fun j => decide (h.2.2 1 j = 0)) && decide (h.2.2 11 1 = 0) && decide (h.2.2 0 2 = 0) && decide (h.2.2 33 1 = 0) && decide (h.2.2 36 5 = 0) && decide (h.2.2 47 4 = -1) && decide (h.2.2 47 5 = -1) && decide (h.2.2 47 6 = -1)
def iok (p : pH → Bool) : Bool := match iX with
  | some (none, h2) => p h2
  | _ => false
theorem iY_1 : iok ichk = true := by decide +kernel
theorem iY_2 : iok ichk2 = true := by decide +kernel
theorem iY_3 : iok (fun h => (List.range 3620).all fun j => decide (h.2.2 46 j = 0)) = true := by decide +kernel
theorem sl0 (q : Nat) : sl 0 q = 0 := by unfold sl; simp
def a0 : AS := ((0, 0, 0, 0, 0), fun _ => 0, fun _ => 0, 0, 0, 0)
def z0 : ZS := (a0, [], none, 0, fun _ => 0)
theorem a0_ok : AOK a0 := by
  refine ⟨⟨by show 0 < 2097152; omega, fun p _ => by rw [show aP a0 = 0 from rfl, sl0]; exact Nat.zero_le _, fun s h1 h2 => ?_⟩, by show 0 < 6; omega, by show 0 < 64; omega, fun s h => ?_, by show 0 < 2; omega, by show 0 < 2; omega, fun s h1 h2 => ?_, fun s t h1 h2 h3 => ?_⟩
  · have h2 : s ≤ 0 := h2
    omega
  · have h : Nat.testBit 0 s = true := h
    rw [Nat.zero_testBit] at h
    cases h
  · have h2 : s ≤ 0 := h2
    omega
  · have h3 : t ≤ 0 := h3
    omega
theorem z0_ok : ZOK z0 := ⟨a0_ok, fun a h => (by cases h), fun a h => (by cases h), Nat.zero_le _⟩
theorem R0_len : ∀ k, k < 63 → (R0l.getD k []).length ≤ 20 := by decide +kernel
theorem K0_rr : ∀ k, k < 63 → ∀ n, n < 200000 → K0[k]? = some (.inr (.inr n)) → k = 12 := by
  have h : ∀ k, k < 63 → (match K0[k]? with
    | some (.inr (.inr _)) => decide (k = 12)
    | _ => true) = true := by decide +kernel
  intro k hk n _ e
  have h1 := h k hk
  rw [e] at h1
  exact of_decide_eq_true h1
theorem K0_rr' {k n : Nat} (hk : k < 63) (e : K0[k]? = some (.inr (.inr n))) : k = 12 := by
  have h : ∀ k, k < 63 → (match K0[k]? with
    | some (.inr (.inr _)) => decide (k = 12)
    | _ => true) = true := by decide +kernel
  have h1 := h k hk
  rw [e] at h1
  exact of_decide_eq_true h1
theorem WF_of {h : pH} (q : Qr h) (c : ichk h = true) : WF h := by
  unfold ichk at c
  rw [Bool.and_eq_true, decide_eq_true_eq, List.all_eq_true] at c
  obtain ⟨c1, c2⟩ := c
  refine ⟨c1, fun k j hk => ?_⟩
  by_cases hk63 : k < 63
  · have h1 := c2 k (List.mem_range.mpr hk63)
    rw [decide_eq_false hk, Bool.false_or, List.all_eq_true] at h1
    by_cases hj : j < 20
    · exact of_decide_eq_true (h1 j (List.mem_range.mpr hj))
    · have h2 : R0 k j = none := by
        have := R0_len k hk63
        unfold R0
        rw [List.getD_eq_getElem?_getD, List.getElem?_eq_none (by omega)]
        rfl
      rw [h2]
      refine Classical.byContradiction fun hne => ?_
      rcases q k j hne with ⟨ci, _, h3⟩ | ⟨n, h3⟩
      · exact hj h3
      · rw [c1] at h3
        exact hk (K0_rr' hk63 h3)
  · have h2 : R0 k j = none := by
      unfold R0
      rw [List.getD_eq_getElem?_getD, List.getD_eq_getElem?_getD, List.getElem?_eq_none (l := R0l) (by show 63 ≤ k; omega)]
      rfl
    rw [h2]
    refine Classical.byContradiction fun hne => ?_
    have hnone : h.1[k]? = none := by
      rw [c1]
      exact List.getElem?_eq_none (by show 63 ≤ k; omega)
    rcases q k j hne with ⟨ci, h3, _⟩ | ⟨n, h3⟩
    · rw [hnone] at h3; cases h3
    · rw [hnone] at h3; cases h3
/-- behind the constructor -/
theorem i_start (K : pH → pR) : ∃ h1, (cV (f_X_init 0 (nK hE (.inl 7))) fun h1 => K h1) = K h1 ∧ WF h1 ∧ XAt h1 z0 := by
  have c1 := iY_1
  have c2 := iY_2
  have c3 := iY_3
  unfold iok at c1 c2 c3
  cases hX : iX with
  | none => rw [hX] at c1; cases c1
  | some rX =>
    obtain ⟨vX, h1⟩ := rX
    cases vX with
    | some v => rw [hX] at c1; cases c1
    | none =>
      rw [hX] at c1 c2 c3
      dsimp only at c1 c2 c3
      have q1 : Qr h1 := rn_Q pMs_17' 400 (r := (none, h1)) hX (Qr_nK Qr_E)
      have w := WF_of q1 c1
      refine ⟨h1, ?_, w, ?_⟩
      · have e1 : f_X_init 0 (nK hE (.inl 7)) = some (none, h1) := run_of (n := 400) hX
        rw [e1]
        rfl
      · unfold ichk2 at c2
        simp only [Bool.and_eq_true, decide_eq_true_eq, List.all_eq_true, List.mem_range] at c2
        obtain ⟨⟨⟨⟨⟨⟨⟨⟨d1, d2⟩, d3⟩, d4⟩, d5⟩, d6⟩, d7⟩, d8⟩, d9⟩ := c2
        rw [List.all_eq_true] at c3
        refine ⟨⟨d2 0 (by omega), d2 1 (by omega), fun s s1 s2 => ?_, fun s s1 s2 => ?_, d2 4 (by omega), d2 5 (by omega), d2 6 (by omega), d2 7 (by omega), d2 8 (by omega), d2 9 (by omega)⟩, ⟨Nat.zero_le _, d3, fun j => 13 + 5 * j, fun j hj => ⟨d1 j hj, by unfold isHs; dsimp only; omega⟩, fun i j _ _ e => by dsimp only at e; omega, fun i a hi => by cases hi⟩, d4, ⟨d5, Nat.zero_le _, fun i hi => absurd hi (Nat.not_lt_zero _)⟩, ⟨0, by omega, d6, fun b hb => ⟨fun e => (by rw [Nat.zero_testBit] at e; cases e), fun _ r hr => ?_⟩⟩, Or.inl d7, Or.inl d8, Or.inl d9⟩
        · have s2 : s ≤ 0 := s2
          omega
        · have s2 : s ≤ 0 := s2
          omega
        · have := fn_le hb
          exact of_decide_eq_true (c3 (fn b + r) (List.mem_range.mpr (by omega)))
