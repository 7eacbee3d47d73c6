/-! sizes only grow; what a row does with its next state; the limit of the runs -/
def kz (q : pK) : Nat := match q with
  | .inl ci => (vwCl[ci]?.map (fun q => q.2.2)).getD 0
  | .inr (.inl n) => n
  | .inr (.inr n) => n
def hz (h : pH) : Nat := (h.1.map kz).sum
def hle (h h' : pH) : Prop := h.1.length ≤ h'.1.length ∧ hz h ≤ hz h'
theorem hle_rf {h : pH} : hle h h := ⟨Nat.le_refl _, Nat.le_refl _⟩
theorem hle_tr {a b c : pH} (h : hle a b) (k : hle b c) : hle a c := ⟨Nat.le_trans h.1 k.1, Nat.le_trans h.2 k.2⟩
theorem hle_sI {h : pH} {k j : Nat} {x : Int32} : hle h (sI h k j x) := ⟨Nat.le_refl _, Nat.le_refl _⟩
theorem hle_sR {h : pH} {k j r : Nat} : hle h (sR h k j r) := ⟨Nat.le_refl _, Nat.le_refl _⟩
theorem hle_nK {h : pH} {q : pK} : hle h (nK h q) := by
  refine ⟨?_, ?_⟩
  · show h.1.length ≤ (h.1 ++ [q]).length
    simp
  · show hz h ≤ ((h.1 ++ [q]).map kz).sum
    simp [hz]
theorem oo_v {α β : Type} {fl : β} {x : α} {K : α → β} : oo fl (some x) K = K x := rfl
theorem oo_some {α β : Type} {o : Option α} {K : α → Option β} {r : β} (H : oo none o K = some r) : ∃ x, o = some x ∧ K x = some r := by
  cases o with
  | none => cases H
  | some x => exact ⟨x, rfl, H⟩
theorem bop_leaf {β : Type} {b : Nat} {x y : Int32} {K : Int32 → Option β} {r : β} (H : bop b x y K = some r) : ∃ z, K z = some r ∧ ∀ {γ : Type} (K' : Int32 → γ), bop b x y K' = K' z := by
  unfold bop at H ⊢
  split at H <;> exact ⟨_, H, fun _ => rfl⟩
theorem swt_leaf {β : Type} {x : Int32} {d : Nat} {r : β} : ∀ {ts : List Nat} {v : Int32} {K : Nat → Option β}, swt x v ts d K = some r → ∃ t, K t = some r ∧ ∀ {γ : Type} (K' : Nat → γ), swt x v ts d K' = K' t
  | [], v, K, H => ⟨d, H, fun _ => rfl⟩
  | t :: ts, v, K, H => by
    unfold swt at H
    split at H
    · rename_i hc
      exact ⟨t, H, fun K' => by unfold swt; rw [if_pos hc]⟩
    · rename_i hc
      obtain ⟨t', h1, h2⟩ := swt_leaf H
      exact ⟨t', h1, fun K' => by unfold swt; rw [if_neg hc]; exact h2 K'⟩
set_option maxHeartbeats 4000000 in
theorem stp_leaf {sc : pX} {go : Nat → pL → List Value → pH → pR} {cl : Nat → List Value → Nat → Nat → pL → List Value → pH → pR} {e : pE} {ls : pL} {st : List Value} {h : pH} {r : Option Value × pH}
    (H : stp sc none (fun v h => some (v, h)) go cl e ls st h = some r) :
    (r.2 = h ∧ ∀ go' cl', stp sc none (fun v h => some (v, h)) go' cl' e ls st h = some r) ∨
    (∃ pc' ls' st' h', go pc' ls' st' h' = some r ∧ hle h h' ∧ ∀ go' cl', stp sc none (fun v h => some (v, h)) go' cl' e ls st h = go' pc' ls' st' h') ∨
    (∃ y as rk pc' ls' st', cl y as rk pc' ls' st' h = some r ∧ ∀ go' cl', stp sc none (fun v h => some (v, h)) go' cl' e ls st h = cl' y as rk pc' ls' st' h) := by
  obtain ⟨pc, len, tag, a, b, v, l⟩ := e
  unfold stp at H ⊢
  dsimp only at H ⊢
  simp only [cond_eq_ite, frc_eq] at H ⊢
  split at H
  all_goals first
    | exact Or.inr (Or.inl ⟨_, _, _, _, H, by first | exact hle_rf | exact hle_nK, fun _ _ => rfl⟩)
    | skip
  all_goals try (split at H)
  all_goals first
    | (cases H; done)
    | exact Or.inl ⟨by cases H; rfl, fun _ _ => H⟩
    | exact Or.inr (Or.inl ⟨_, _, _, _, H, by first | exact hle_rf | exact hle_nK, fun _ _ => rfl⟩)
    | skip
  all_goals first
    | (refine Exists.elim (oo_some H) fun t ht => ?_; obtain ⟨h1, H⟩ := ht; simp only [h1, oo])
    | (refine Exists.elim (bop_leaf H) fun t ht => ?_; exact Or.inr (Or.inl ⟨_, _, _, _, ht.1, hle_rf, fun _ _ => ht.2 _⟩))
    | (refine Exists.elim (swt_leaf H) fun t ht => ?_; exact Or.inr (Or.inl ⟨_, _, _, _, ht.1, hle_rf, fun _ _ => ht.2 _⟩))
    | skip
  all_goals try (split at H)
  all_goals try (split at H)
  all_goals try (split at H)
  all_goals first
    | (cases H; done)
    | exact Or.inl ⟨by cases H; rfl, fun _ _ => by first | (simp only [*, ↓reduceIte]; done) | simp [*]⟩
    | exact Or.inr (Or.inl ⟨_, _, _, _, H, by first | exact hle_rf | exact hle_nK | exact hle_sI | exact hle_sR, fun _ _ => by first | rfl | (simp only [*, ↓reduceIte]; done) | simp [*]⟩)
    | exact Or.inr (Or.inr ⟨_, _, _, _, _, _, H, fun _ _ => by first | rfl | (simp only [*, ↓reduceIte]; done) | simp [*]⟩)
    | skip
/-- a row's end, read with other hands -/
theorem stp_use {sc : pX} {go go' : Nat → pL → List Value → pH → pR} {cl cl' : Nat → List Value → Nat → Nat → pL → List Value → pH → pR} {e : pE} {ls : pL} {st : List Value} {h : pH} {r : Option Value × pH}
    (H : stp sc none (fun v h => some (v, h)) go cl e ls st h = some r) (hg : ∀ pc ls st h, go pc ls st h = some r → go' pc ls st h = some r) (hc : ∀ y as rk pc ls st h, cl y as rk pc ls st h = some r → cl' y as rk pc ls st h = some r) :
    stp sc none (fun v h => some (v, h)) go' cl' e ls st h = some r := by
  rcases stp_leaf H with ⟨-, H⟩ | ⟨pc', ls', st', h', H, -, H2⟩ | ⟨y, as, rk, pc', ls', st', H, H2⟩
  · exact H _ _
  · rw [H2]; exact hg _ _ _ _ H
  · rw [H2]; exact hc _ _ _ _ _ _ _ H
theorem cc_use {rk : Nat} {o o' : pR} {K K' : List Value → pH → pR} {r : Option Value × pH} (H : cc rk o K = some r) (ho : ∀ x, o = some x → o' = some x) (hK : ∀ v h w, o = some (v, h) → w = v.toList → K w h = some r → K' w h = some r) : cc rk o' K' = some r := by
  rcases rk with _ | _ | _ | _ | rk
  · change cV o _ = _ at H
    change cV o' _ = _
    unfold cV at H ⊢
    split at H
    · rw [ho _ rfl]; exact hK _ _ _ rfl rfl H
    · cases H
  · change cI o _ = _ at H
    change cI o' _ = _
    unfold cI at H ⊢
    split at H
    · rw [ho _ rfl]; exact hK _ _ _ rfl rfl H
    · cases H
  · change cR o _ = _ at H
    change cR o' _ = _
    unfold cR at H ⊢
    split at H
    · rw [ho _ rfl]; exact hK _ _ _ rfl rfl H
    · cases H
  · change cD o _ = _ at H
    change cD o' _ = _
    unfold cD at H ⊢
    split at H
    · rw [ho _ rfl]; exact hK _ _ _ rfl rfl H
    · cases H
  · change cL o _ = _ at H
    change cL o' _ = _
    unfold cL at H ⊢
    split at H
    · rw [ho _ rfl]; exact hK _ _ _ rfl rfl H
    · cases H
theorem cc_some {rk : Nat} {o : pR} {K : List Value → pH → pR} {r : Option Value × pH} (H : cc rk o K = some r) : ∃ v h w, o = some (v, h) ∧ w = v.toList ∧ K w h = some r := by
  unfold cc at H
  split at H
  · unfold cV at H
    split at H
    · exact ⟨_, _, _, rfl, rfl, H⟩
    · cases H
  · unfold cI at H
    split at H
    · exact ⟨_, _, _, rfl, rfl, H⟩
    · cases H
  · unfold cR at H
    split at H
    · exact ⟨_, _, _, rfl, rfl, H⟩
    · cases H
  · unfold cD at H
    split at H
    · exact ⟨_, _, _, rfl, rfl, H⟩
    · cases H
  · unfold cL at H
    split at H
    · exact ⟨_, _, _, rfl, rfl, H⟩
    · cases H
section RunsB
variable {Ms : List pM}
theorem rn_succ {sc : pX} {n mi pc : Nat} {ls : pL} {st : List Value} {h : pH} : rn Ms sc (n + 1) mi pc ls st h = oo none Ms[mi]? fun M => oo none (fe M.2.2.2.2.2.2.1 pc) fun e =>
    stp sc none (fun v h => some (v, h)) (fun pc ls st h => rn Ms sc n mi pc (trm M.2.2.2.2.2.2.2 pc ls) st h)
      (fun y as rk pc ls r h => cc rk (rn Ms none n y 0 (as.map some) [] h) fun w h => rn Ms sc n mi pc (trm M.2.2.2.2.2.2.2 pc ls) (w ++ r) h) e ls st h := rfl
theorem rn_mono1 : ∀ (n : Nat) {sc : pX} {mi pc : Nat} {ls : pL} {st : List Value} {h : pH} {r : Option Value × pH}, rn Ms sc n mi pc ls st h = some r → rn Ms sc (n + 1) mi pc ls st h = some r
  | 0, _, _, _, _, _, _, _, H => by cases H
  | n + 1, sc, mi, pc, ls, st, h, r, H => by
    rw [rn_succ] at H ⊢
    obtain ⟨M, h1, H⟩ := oo_some H
    obtain ⟨e, h2, H⟩ := oo_some H
    rw [h1]
    show oo none (fe M.2.2.2.2.2.2.1 pc) _ = some r
    rw [h2]
    exact stp_use H (fun _ _ _ _ k => rn_mono1 n k) (fun _ _ _ _ _ _ _ k => cc_use k (fun _ k => rn_mono1 n k) (fun _ _ _ _ _ k => rn_mono1 n k))
theorem rn_mono {n k : Nat} (hk : n ≤ k) {sc : pX} {mi pc : Nat} {ls : pL} {st : List Value} {h : pH} {r : Option Value × pH} (H : rn Ms sc n mi pc ls st h = some r) : rn Ms sc k mi pc ls st h = some r := by
  induction hk with
  | refl => exact H
  | step _ ih => exact rn_mono1 _ ih
theorem rn_le : ∀ (n : Nat) {sc : pX} {mi pc : Nat} {ls : pL} {st : List Value} {h : pH} {r : Option Value × pH}, rn Ms sc n mi pc ls st h = some r → hle h r.2
  | 0, _, _, _, _, _, _, _, H => by cases H
  | n + 1, sc, mi, pc, ls, st, h, r, H => by
    rw [rn_succ] at H
    obtain ⟨M, h1, H⟩ := oo_some H
    obtain ⟨e, h2, H⟩ := oo_some H
    rcases stp_leaf H with ⟨h3, -⟩ | ⟨pc', ls', st', h', H, h3, -⟩ | ⟨y, as, rk, pc', ls', st', H, -⟩
    · rw [h3]; exact hle_rf
    · exact hle_tr h3 (rn_le n H)
    · obtain ⟨v, h4, w, h5, -, h6⟩ := cc_some H
      exact hle_tr (rn_le n h5) (rn_le n h6)
variable (Ms)
noncomputable def run (sc : pX) (mi pc : Nat) (ls : pL) (st : List Value) (h : pH) : pR := @dite _ (∃ n r, rn Ms sc n mi pc ls st h = some r) (Classical.propDecidable _) (fun H => some (Classical.choose (Classical.choose_spec H))) (fun _ => none)
variable {Ms}
theorem run_of {n : Nat} {sc : pX} {mi pc : Nat} {ls : pL} {st : List Value} {h : pH} {r : Option Value × pH} (H : rn Ms sc n mi pc ls st h = some r) : run Ms sc mi pc ls st h = some r := by
  have E : ∃ n r, rn Ms sc n mi pc ls st h = some r := ⟨n, r, H⟩
  unfold run
  rw [dif_pos E]
  have h1 := Classical.choose_spec (Classical.choose_spec E)
  have h2 := rn_mono (Nat.le_max_left n (Classical.choose E)) H
  have h3 := rn_mono (Nat.le_max_right n (Classical.choose E)) h1
  rw [h2] at h3
  exact h3.symm
theorem run_to {sc : pX} {mi pc : Nat} {ls : pL} {st : List Value} {h : pH} {r : Option Value × pH} (H : run Ms sc mi pc ls st h = some r) : ∃ n, rn Ms sc n mi pc ls st h = some r := by
  unfold run at H
  split at H
  · rename_i E
    have h1 := Classical.choose_spec (Classical.choose_spec E)
    cases H
    exact ⟨_, h1⟩
  · cases H
/-- the row at pc, with the runs themselves as hands -/
theorem run_row {sc : pX} {mi pc : Nat} {ls : pL} {st : List Value} {h : pH} {M : pM} (hM : Ms[mi]? = some M) : run Ms sc mi pc ls st h = oo none (fe M.2.2.2.2.2.2.1 pc) fun e =>
    stp sc none (fun v h => some (v, h)) (fun pc ls st h => run Ms sc mi pc (trm M.2.2.2.2.2.2.2 pc ls) st h)
      (fun y as rk pc ls r h => cc rk (run Ms none y 0 (as.map some) [] h) fun w h => run Ms sc mi pc (trm M.2.2.2.2.2.2.2 pc ls) (w ++ r) h) e ls st h := by
  apply Option.ext
  intro r
  constructor
  · intro H
    obtain ⟨n, H⟩ := run_to H
    cases n with
    | zero => cases H
    | succ n =>
      rw [rn_succ, hM] at H
      rw [oo_v] at H
      obtain ⟨e, h2, H⟩ := oo_some H
      rw [h2]
      exact stp_use H (fun _ _ _ _ k => run_of k) (fun _ _ _ _ _ _ _ k => cc_use k (fun _ k => run_of k) (fun _ _ _ _ _ k => run_of k))
  · intro H
    obtain ⟨e, h2, H⟩ := oo_some H
    have fin : ∀ n, (stp sc none (fun v h => some (v, h)) (fun pc ls st h => rn Ms sc n mi pc (trm M.2.2.2.2.2.2.2 pc ls) st h)
      (fun y as rk pc ls r h => cc rk (rn Ms none n y 0 (as.map some) [] h) fun w h => rn Ms sc n mi pc (trm M.2.2.2.2.2.2.2 pc ls) (w ++ r) h) e ls st h = some r) → run Ms sc mi pc ls st h = some r := by
      intro n k
      refine run_of (n := n + 1) ?_
      rw [rn_succ, hM]
      show oo none (fe M.2.2.2.2.2.2.1 pc) _ = some r
      rw [h2]
      exact k
    rcases stp_leaf H with ⟨-, H⟩ | ⟨pc', ls', st', h', H, -, H2⟩ | ⟨y, as, rk, pc', ls', st', H, H2⟩
    · exact fin 0 (H _ _)
    · obtain ⟨n, H⟩ := run_to H
      exact fin n ((H2 _ _).trans H)
    · obtain ⟨v, h4, w, h5, h6, h7⟩ := cc_some H
      obtain ⟨n1, k1⟩ := run_to h5
      obtain ⟨n2, k2⟩ := run_to h7
      refine fin (max n1 n2) ((H2 _ _).trans ?_)
      refine cc_use H (fun x hx => ?_) (fun v' h' w' hx hw _ => ?_)
      · rw [h5] at hx
        cases hx
        exact rn_mono (Nat.le_max_left _ _) k1
      · rw [h5] at hx
        cases hx
        rw [h6, ← hw] at k2
        exact rn_mono (Nat.le_max_right _ _) k2
/-- a stretch of rows, up to the next cut -/
noncomputable def exq (Ms : List pM) (sc : pX) (C : pC) (I : List pE) (mi : Nat) : Nat → Nat → pL → List Value → pH → pR
  | 0, pc, ls, st, h => run Ms sc mi pc ls st h
  | k + 1, pc, ls, st, h => oo none (fe I pc) fun e =>
    stp sc none (fun v h => some (v, h)) (fun pc ls st h => match cf C pc with
        | some m => run Ms sc mi pc (mk m ls) st h
        | none => exq Ms sc C I mi k pc ls st h)
      (fun y as rk pc ls r h => cc rk (run Ms none y 0 (as.map some) [] h) fun w h => match cf C pc with
        | some m => run Ms sc mi pc (mk m ls) (w ++ r) h
        | none => exq Ms sc C I mi k pc ls (w ++ r) h) e ls st h
theorem exq_run {sc : pX} {mi : Nat} {M : pM} (hM : Ms[mi]? = some M) : ∀ (k pc : Nat) (ls : pL) (st : List Value) (h : pH), exq Ms sc M.2.2.2.2.2.2.2 M.2.2.2.2.2.2.1 mi k pc ls st h = run Ms sc mi pc ls st h
  | 0, _, _, _, _ => rfl
  | k + 1, pc, ls, st, h => by
    have ih : ∀ pc ls st h, (match cf M.2.2.2.2.2.2.2 pc with
        | some m => run Ms sc mi pc (mk m ls) st h
        | none => exq Ms sc M.2.2.2.2.2.2.2 M.2.2.2.2.2.2.1 mi k pc ls st h) = run Ms sc mi pc (trm M.2.2.2.2.2.2.2 pc ls) st h := by
      intro pc ls st h
      unfold trm
      cases cf M.2.2.2.2.2.2.2 pc with
      | some m => rfl
      | none => exact exq_run hM k pc ls st h
    rw [run_row hM]
    unfold exq
    simp only [ih]
end RunsB
