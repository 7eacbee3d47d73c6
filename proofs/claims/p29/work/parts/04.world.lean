/-! the pure heap as a world of the kit: the object of number k lies at base + k -/
def fk (ci j : Nat) : Nat := (pFk.getD ci []).getD j 9
def pN (ci : Nat) : Nat := (vwCl[ci]?.map (fun q => q.2.2)).getD 0
def pv (base b : Nat) (v : Value) : Value := match v with
  | .ref k => .ref (base + k)
  | .null => .ref b
  | v => v
def pF (base : Nat) (h : pH) (ci k : Nat) : List Value := (List.range (pN ci)).map fun j => if fk ci j = 2 then va_rf ((h.2.1 k j).map (base + ·)) else .int (h.2.2 k j)
def pent (base : Nat) (cI cQ : ClassId) (h : pH) (q : pK) (k : Nat) : va_E := match q with
  | .inl ci => .inr (ci, pF base h ci k)
  | .inr (.inl n) => .inl (cI, n, .inl (h.2.2 k))
  | .inr (.inr n) => .inl (cQ, n, .inr (.inr (.inr (.inr fun j => (h.2.1 k j).map (base + ·)))))
def pW (base : Nat) (cI cQ : ClassId) (h : pH) : va_W := h.1.zipIdx.map fun q => (base + q.2, pent base cI cQ h q.1 q.2)
section World
variable {base : Nat} {cI cQ : ClassId} {h : pH}
theorem pW_i (i : Nat) : (pW base cI cQ h)[i]? = h.1[i]?.map fun q => (base + i, pent base cI cQ h q i) := by
  simp only [pW, List.getElem?_map, List.getElem?_zipIdx, Option.map_map, Nat.zero_add]
  rfl
theorem pW_at {k : Nat} {q : pK} (hk : h.1[k]? = some q) : (pW base cI cQ h)[k]? = some (base + k, pent base cI cQ h q k) := by rw [pW_i, hk]; rfl
theorem pW_D : va_D (fun q => base ≤ q) (pW base cI cQ h) := by
  have key : ∀ (k : Nat) (q : Nat × va_E), (pW base cI cQ h)[k]? = some q → q.1 = base + k := by
    intro k q hk
    rw [pW_i] at hk
    cases hq : h.1[k]? with
    | none => rw [hq] at hk; cases hk
    | some z => rw [hq] at hk; cases hk; rfl
  refine ⟨fun i j p q hi hj hpq => ?_, fun k q hk => ?_⟩
  · have h1 := key i p hi
    have h2 := key j q hj
    omega
  · have h1 := key k q hk
    show base ≤ q.1
    omega
theorem pent_eq {h' : pH} {q : pK} {k : Nat} (h1 : h.2.1 k = h'.2.1 k) (h2 : h.2.2 k = h'.2.2 k) : pent base cI cQ h q k = pent base cI cQ h' q k := by
  unfold pent pF
  rw [h1, h2]
theorem pW_set {h' : pH} {k : Nat} {q : pK} {e : va_E} (hk : h.1[k]? = some q) (hK : h'.1 = h.1) (ho : ∀ i, i ≠ k → h.2.1 i = h'.2.1 i ∧ h.2.2 i = h'.2.2 i) (he : pent base cI cQ h' q k = e) : pW base cI cQ h' = (pW base cI cQ h).set k (base + k, e) := by
  apply List.ext_getElem?
  intro i
  rw [List.getElem?_set]
  by_cases hi : k = i
  · subst hi
    have hl : k < (pW base cI cQ h).length := (List.getElem?_eq_some_iff.mp (pW_at (base := base) (cI := cI) (cQ := cQ) hk)).1
    rw [if_pos rfl, if_pos hl, pW_i, hK, hk, ← he]
    rfl
  · rw [if_neg hi, pW_i, pW_i, hK]
    cases hq : h.1[i]? with
    | none => rfl
    | some z =>
      exact congrArg (fun e => some (base + i, e)) (pent_eq (ho i (Ne.symm hi)).1 (ho i (Ne.symm hi)).2).symm
theorem s2_ne {α : Type} {f : Nat → Nat → α} {k j i : Nat} {x : α} (hi : i ≠ k) : s2 f k j x i = f i := by
  funext b
  simp [s2, hi]
theorem s2_self {α : Type} {f : Nat → Nat → α} {k j b : Nat} {x : α} : s2 f k j x k b = if b = j then x else f k b := by simp [s2]
theorem pF_set {h' : pH} {ci k j : Nat} {v : Value} (hj : j < pN ci) (h1 : ∀ i, i ≠ j → h'.2.1 k i = h.2.1 k i ∧ h'.2.2 k i = h.2.2 k i) (hv : (if fk ci j = 2 then va_rf ((h'.2.1 k j).map (base + ·)) else .int (h'.2.2 k j)) = v) : pF base h' ci k = (pF base h ci k).set j v := by
  apply List.ext_getElem?
  intro i
  rw [List.getElem?_set]
  by_cases hi : j = i
  · subst hi
    rw [if_pos rfl, if_pos (by simp [pF, hj])]
    simp only [pF, List.getElem?_map, List.getElem?_range hj, Option.map_some]
    rw [hv]
  · rw [if_neg hi]
    simp only [pF, List.getElem?_map]
    cases hr : (List.range (pN ci))[i]? with
    | none => rfl
    | some z =>
      have hz : z = i := by
        have := List.getElem?_eq_some_iff.mp hr
        obtain ⟨a1, a2⟩ := this
        simpa using a2.symm
      subst hz
      simp only [Option.map_some]
      rw [(h1 z (Ne.symm hi)).1, (h1 z (Ne.symm hi)).2]
theorem pW_sI {k ci j : Nat} {x : Int32} (hk : h.1[k]? = some (.inl ci)) (hj : j < pN ci) (hf : fk ci j ≠ 2) : pW base cI cQ (sI h k j x) = (pW base cI cQ h).set k (base + k, .inr (ci, (pF base h ci k).set j (.int x))) := by
  refine pW_set hk rfl (fun i hi => ⟨rfl, (s2_ne hi).symm⟩) ?_
  show Sum.inr (ci, pF base (sI h k j x) ci k) = _
  rw [pF_set (h := h) (h' := sI h k j x) (v := .int x) hj (fun i hi => ⟨rfl, by show s2 h.2.2 k j x k i = _; rw [s2_self, if_neg hi]⟩) (by rw [if_neg hf]; show Value.int (s2 h.2.2 k j x k j) = _; rw [s2_self, if_pos rfl])]
theorem pW_sR {k ci j r : Nat} (hk : h.1[k]? = some (.inl ci)) (hj : j < pN ci) (hf : fk ci j = 2) : pW base cI cQ (sR h k j r) = (pW base cI cQ h).set k (base + k, .inr (ci, (pF base h ci k).set j (.ref (base + r)))) := by
  refine pW_set hk rfl (fun i hi => ⟨(s2_ne hi).symm, rfl⟩) ?_
  show Sum.inr (ci, pF base (sR h k j r) ci k) = _
  rw [pF_set (h := h) (h' := sR h k j r) (v := .ref (base + r)) hj (fun i hi => ⟨by show s2 h.2.1 k j (some r) k i = _; rw [s2_self, if_neg hi], rfl⟩) (by rw [if_pos hf]; show va_rf ((s2 h.2.1 k j (some r) k j).map (base + ·)) = _; rw [s2_self, if_pos rfl]; rfl)]
theorem pW_aI {k n j : Nat} {x : Int32} (hk : h.1[k]? = some (.inr (.inl n))) : pW base cI cQ (sI h k j x) = (pW base cI cQ h).set k (base + k, .inl (cI, n, .inl (upd (h.2.2 k) j x))) := by
  refine pW_set hk rfl (fun i hi => ⟨rfl, (s2_ne hi).symm⟩) ?_
  show Sum.inl (cI, n, Sum.inl (s2 h.2.2 k j x k)) = _
  rw [show s2 h.2.2 k j x k = upd (h.2.2 k) j x from by funext b; rw [s2_self]; rfl]
theorem pW_aR {k n j r : Nat} (hk : h.1[k]? = some (.inr (.inr n))) : pW base cI cQ (sR h k j r) = (pW base cI cQ h).set k (base + k, .inl (cQ, n, .inr (.inr (.inr (.inr (va_up (fun j => (h.2.1 k j).map (base + ·)) j (some (base + r)))))))) := by
  refine pW_set hk rfl (fun i hi => ⟨(s2_ne hi).symm, rfl⟩) ?_
  show Sum.inl (cQ, n, Sum.inr (Sum.inr (Sum.inr (Sum.inr fun i => (s2 h.2.1 k j (some r) k i).map (base + ·))))) = _
  rw [show (fun i => (s2 h.2.1 k j (some r) k i).map (base + ·)) = va_up (fun j => (h.2.1 k j).map (base + ·)) j (some (base + r)) from by
    funext b
    rw [s2_self]
    unfold va_up
    by_cases hb : b = j
    · rw [if_pos hb, if_pos hb]; rfl
    · rw [if_neg hb, if_neg hb]]
theorem pW_nK {q : pK} : pW base cI cQ (nK h q) = pW base cI cQ h ++ [(base + h.1.length, pent base cI cQ (nK h q) q h.1.length)] := by
  have hl : (pW base cI cQ h).length = h.1.length := by simp [pW]
  apply List.ext_getElem?
  intro i
  rw [pW_i]
  show (h.1 ++ [q])[i]?.map _ = _
  by_cases hi : i < h.1.length
  · rw [List.getElem?_append_left hi, List.getElem?_append_left (by rw [hl]; exact hi), pW_i]
    cases hq : h.1[i]? with
    | none => rfl
    | some z =>
      have hne : i ≠ h.1.length := by omega
      exact congrArg (fun e => some (base + i, e)) (pent_eq (h := nK h q) (h' := h) (by funext b; simp [nK, z2, hne]) (by funext b; simp [nK, z2, hne]))
  · rw [List.getElem?_append_right (by omega), List.getElem?_append_right (by rw [hl]; omega), hl]
    by_cases he : i = h.1.length
    · subst he
      rw [Nat.sub_self]
      rfl
    · rw [List.getElem?_eq_none (by simp; omega), List.getElem?_eq_none (by simp; omega)]
      rfl
end World
/-! locals -/
def lr (base b nL : Nat) (ls : pL) (LS : Array Slot) : Prop := LS.size = nL ∧ lv_wf LS ∧ ∀ (i : Nat) (v : Value), ls[i]? = some (some v) → LS[i]? = some (.val (pv base b v))
def asc (base b : Nat) (ls : pL) : List (Nat × Value) := (List.range ls.length).filterMap fun i => match ls[i]? with
  | some (some v) => some (i, pv base b v)
  | _ => none
theorem asc_mem {base b : Nat} {ls : pL} {q : Nat × Value} : q ∈ asc base b ls ↔ ∃ v, ls[q.1]? = some (some v) ∧ q.2 = pv base b v := by
  unfold asc
  rw [List.mem_filterMap]
  constructor
  · rintro ⟨i, -, hi⟩
    split at hi
    · rename_i v hv
      cases hi
      exact ⟨v, hv, rfl⟩
    · cases hi
  · rintro ⟨v, hv, he⟩
    refine ⟨q.1, List.mem_range.mpr (List.getElem?_eq_some_iff.mp hv).1, ?_⟩
    rw [hv]
    show some (q.1, pv base b v) = some q
    rw [← he]
theorem lr_has {base b nL : Nat} {ls : pL} {LS : Array Slot} (h : lr base b nL ls LS) : lv_has LS nL (asc base b ls) := ⟨h.1, h.2.1, fun q hq => by
  obtain ⟨v, hv, he⟩ := asc_mem.mp hq
  rw [he]
  exact h.2.2 q.1 v hv⟩
theorem stl_at {ls : pL} {a i : Nat} {o : Option Value} {v : Value} (h : (stl ls a o)[i]? = some (some v)) : (i = a ∧ o = some v) ∨ (i ≠ a ∧ ls[i]? = some (some v)) := by
  unfold stl at h
  split at h
  · rename_i hl
    by_cases hi : i = a
    · subst hi
      rw [List.getElem?_set_self hl] at h
      exact Or.inl ⟨rfl, Option.some.inj h⟩
    · rw [List.getElem?_set_ne (Ne.symm hi)] at h
      exact Or.inr ⟨hi, h⟩
  · rename_i hl
    by_cases h1 : i < ls.length
    · rw [List.append_assoc, List.getElem?_append_left h1] at h
      exact Or.inr ⟨by omega, h⟩
    · by_cases h2 : i < a
      · rw [List.getElem?_append_left (by simp; omega), List.getElem?_append_right (by omega), List.getElem?_replicate] at h
        split at h <;> cases h
      · rw [List.getElem?_append_right (by simp; omega)] at h
        simp only [List.length_append, List.length_replicate] at h
        have hz : i - (ls.length + (a - ls.length)) < 1 := (List.getElem?_eq_some_iff.mp h).1
        rw [show i - (ls.length + (a - ls.length)) = 0 by omega] at h
        exact Or.inl ⟨by omega, Option.some.inj h⟩
theorem pv_cat {base b : Nat} {v : Value} : (pv base b v).category = v.category := by cases v <;> rfl
theorem lr_stl1 {base b nL a : Nat} {ls : pL} {LS : Array Slot} {v : Value} (ho : okS ls a = true)
    (h : lv_has LS nL ((a, pv base b v) :: (asc base b ls).filter (fun q => !(q.1 == a) && !(q.1 + 1 == a && q.2.category == 2)))) : lr base b nL (stl ls a (some v)) LS := by
  refine ⟨h.1, h.2.1, fun i w hi => ?_⟩
  rcases stl_at hi with ⟨rfl, h1⟩ | ⟨h1, h2⟩
  · cases h1
    exact h.2.2 (i, pv base b v) List.mem_cons_self
  · refine h.2.2 (i, pv base b w) (List.mem_cons_of_mem _ (List.mem_filter.mpr ⟨asc_mem.mpr ⟨w, h2, rfl⟩, ?_⟩))
    simp only [Bool.and_eq_true, Bool.not_eq_true', beq_eq_false_iff_ne, ne_eq, Bool.and_eq_false_iff]
    refine ⟨h1, ?_⟩
    by_cases h3 : i + 1 = a
    · refine Or.inr ?_
      subst h3
      unfold okS at ho
      simp only [h2] at ho
      rw [pv_cat]
      simpa using ho
    · exact Or.inl h3
theorem lr_stl2 {base b nL a : Nat} {ls : pL} {LS : Array Slot} {v : Value} (ho : okS ls a = true)
    (h : lv_has LS nL ((a, pv base b v) :: (asc base b ls).filter (fun q => !(q.1 == a) && (!(q.1 == a + 1) && !(q.1 + 1 == a && q.2.category == 2))))) : lr base b nL (stl (stl ls a (some v)) (a + 1) none) LS := by
  refine ⟨h.1, h.2.1, fun i w hi => ?_⟩
  rcases stl_at hi with ⟨-, h1⟩ | ⟨h0, hi⟩
  · cases h1
  rcases stl_at hi with ⟨rfl, h1⟩ | ⟨h1, h2⟩
  · cases h1
    exact h.2.2 (i, pv base b v) List.mem_cons_self
  · refine h.2.2 (i, pv base b w) (List.mem_cons_of_mem _ (List.mem_filter.mpr ⟨asc_mem.mpr ⟨w, h2, rfl⟩, ?_⟩))
    simp only [Bool.and_eq_true, Bool.not_eq_true', beq_eq_false_iff_ne, ne_eq, Bool.and_eq_false_iff]
    refine ⟨h1, h0, ?_⟩
    by_cases h3 : i + 1 = a
    · refine Or.inr ?_
      subst h3
      unfold okS at ho
      simp only [h2] at ho
      rw [pv_cat]
      simpa using ho
    · exact Or.inl h3
theorem mk_at : ∀ {m : List Bool} {ls : pL} {i : Nat} {v : Value}, (mk m ls)[i]? = some (some v) → ls[i]? = some (some v)
  | [], _, i, v, h => by simp [mk] at h
  | _ :: _, [], i, v, h => by simp [mk] at h
  | b :: m, o :: ls, 0, v, h => by
    cases b with
    | true => exact h
    | false => simp [mk] at h
  | b :: m, o :: ls, i + 1, v, h => by
    rw [List.getElem?_cons_succ]
    exact mk_at (by simpa [mk] using h)
theorem lr_trm {base b nL pc : Nat} {C : pC} {ls : pL} {LS : Array Slot} (h : lr base b nL ls LS) : lr base b nL (trm C pc ls) LS := by
  refine ⟨h.1, h.2.1, fun i v hi => h.2.2 i v ?_⟩
  unfold trm at hi
  split at hi
  · exact mk_at hi
  · exact hi
theorem ldI_at {ls : pL} {a : Nat} {x : Int32} (h : ldI ls a = some x) : ls[a]? = some (some (.int x)) := by
  unfold ldI at h
  split at h
  · rename_i y hy
    cases h
    exact hy
  · cases h
theorem ldD_at {ls : pL} {a : Nat} {x : UInt64} (h : ldD ls a = some x) : ls[a]? = some (some (.double x)) := by
  unfold ldD at h
  split at h
  · rename_i y hy
    cases h
    exact hy
  · cases h
theorem ldL_at {ls : pL} {a : Nat} {x : Int64} (h : ldL ls a = some x) : ls[a]? = some (some (.long x)) := by
  unfold ldL at h
  split at h
  · rename_i y hy
    cases h
    exact hy
  · cases h
theorem ldR_at {ls : pL} {a : Nat} {w : Value} (h : ldR ls a = some w) : ls[a]? = some (some w) ∧ ((∃ k, w = .ref k) ∨ w = .null) := by
  unfold ldR at h
  split at h
  · rename_i y hy
    cases h
    exact ⟨hy, Or.inl ⟨_, rfl⟩⟩
  · rename_i hy
    cases h
    exact ⟨hy, Or.inr rfl⟩
  · cases h
