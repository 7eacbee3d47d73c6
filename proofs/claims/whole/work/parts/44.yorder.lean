/-! the words in order, counted one by one; disorder and order as the reference tells them -/
def wioB (F C b : Nat) : Bool := decide (((allW b).filter (fun P => inOrd P F C)).length = if C = 1 then 1 else wds b / wy 0 b)
set_option maxRecDepth 20000 in
theorem wio_0 : (List.range 6).all (wioB 0 0) = true := by decide +kernel
set_option maxRecDepth 20000 in
theorem wio_1 : (List.range 6).all (wioB 0 1) = true := by decide +kernel
set_option maxRecDepth 20000 in
theorem wio_2 : (List.range 6).all (wioB 1 0) = true := by decide +kernel
set_option maxRecDepth 20000 in
theorem wio_3 : (List.range 6).all (wioB 1 1) = true := by decide +kernel
theorem cnt_list {g : Nat → Bool} {l : List Nat} {f : Nat → Nat} : ∀ n, n ≤ l.length → (∀ r, r < n → l[r]? = some (f r)) → cnt (fun r => g (f r)) n = ((l.take n).filter g).length
  | 0, _, _ => by rw [List.take_zero]; rfl
  | n + 1, hn, h => by
    have ih := cnt_list (g := g) n (by omega) (fun r hr => h r (by omega))
    have h1 := h n (by omega)
    rw [List.take_add_one, h1, List.filter_append, List.length_append, ← ih]
    show cnt (fun r => g (f r)) n + (g (f n)).toNat = _
    congr 1
    show _ = ((([f n] : List Nat).filter g)).length
    rw [List.filter_cons]
    cases g (f n) <;> rfl
theorem allW_at {b r : Nat} (hb : b < 6) (hr : r < wds b) : (allW b)[r]? = some (wd b r) := by
  have h := hr
  rw [← allW_len hb] at h
  have h1 := List.getElem?_eq_getElem h
  generalize (allW b)[r] = P at h1
  have hm : (P, r) ∈ (allW b).zipIdx := List.mem_iff_getElem?.mpr ⟨r, by rw [List.getElem?_zipIdx, h1]; simp⟩
  have h2 := List.all_eq_true.mp (chk_all hb) (P, r) hm
  simp only [chk, Bool.and_eq_true, decide_eq_true_eq] at h2
  have h3 : wd b r = P := by unfold wd; rw [h2.1.2]; rfl
  rw [h3, h1]
theorem wio {b F C : Nat} (hb : b < 6) (hF : F < 2) (hC : C < 2) : cnt (fun r => inOrd (wd b r) F C) (wds b) = if C = 1 then 1 else wds b / wy 0 b := by
  rw [cnt_list (g := fun P => inOrd P F C) (l := allW b) (f := wd b) (wds b) (by rw [allW_len hb]; exact Nat.le_refl _) (fun r hr => allW_at hb hr), ← allW_len hb, List.take_length, allW_len hb]
  have hm := List.mem_range.mpr hb
  rcases (show F = 0 ∨ F = 1 by omega) with rfl | rfl <;> rcases (show C = 0 ∨ C = 1 by omega) with rfl | rfl
  · exact of_decide_eq_true (List.all_eq_true.mp wio_0 b hm)
  · exact of_decide_eq_true (List.all_eq_true.mp wio_1 b hm)
  · exact of_decide_eq_true (List.all_eq_true.mp wio_2 b hm)
  · exact of_decide_eq_true (List.all_eq_true.mp wio_3 b hm)
theorem wrg_self (F x : Nat) : wrg F x x = false := by
  unfold wrg
  by_cases hF : F = 1
  · rw [if_pos hF]; simp
  · rw [if_neg hF]; simp
theorem ds_dis {P F : Nat} : dsY P F = dis P F := by
  have h1 : ∀ p q, dsP P F p q = if p < q then wrg F (sl P p) (sl P q) else false := fun p q => by
    unfold dsP
    by_cases h : p < q
    · rw [if_pos h, decide_eq_true h, Bool.true_and]
    · rw [if_neg h, decide_eq_false h, Bool.false_and]
  have h2 : ∀ p q, wbf P p F q = if p < q then wrg F (sl P p) (sl P q) else if q < p then wrg F (sl P q) (sl P p) else false := fun p q => by
    unfold wbf
    rcases Nat.lt_trichotomy p q with h | h | h
    · rw [if_pos h, if_neg (show ¬ q < p by omega), if_neg (show ¬ q < p by omega)]
    · subst h
      rw [if_neg (Nat.lt_irrefl p), if_neg (Nat.lt_irrefl p), if_neg (Nat.lt_irrefl p)]
      exact wrg_self _ _
    · rw [if_neg (show ¬ p < q by omega), if_pos h, if_pos h, if_pos h]
  unfold dsY dis wb
  simp only [sm, cnt, h1, h2]
  simp only [show ¬ (0 : Nat) < 0 by omega, show (0 : Nat) < 1 by omega, show (0 : Nat) < 2 by omega, show (0 : Nat) < 3 by omega, show (0 : Nat) < 4 by omega, show (0 : Nat) < 5 by omega, show (0 : Nat) < 6 by omega, show ¬ (1 : Nat) < 0 by omega, show ¬ (1 : Nat) < 1 by omega, show (1 : Nat) < 2 by omega, show (1 : Nat) < 3 by omega, show (1 : Nat) < 4 by omega, show (1 : Nat) < 5 by omega, show (1 : Nat) < 6 by omega, show ¬ (2 : Nat) < 0 by omega, show ¬ (2 : Nat) < 1 by omega, show ¬ (2 : Nat) < 2 by omega, show (2 : Nat) < 3 by omega, show (2 : Nat) < 4 by omega, show (2 : Nat) < 5 by omega, show (2 : Nat) < 6 by omega, show ¬ (3 : Nat) < 0 by omega, show ¬ (3 : Nat) < 1 by omega, show ¬ (3 : Nat) < 2 by omega, show ¬ (3 : Nat) < 3 by omega, show (3 : Nat) < 4 by omega, show (3 : Nat) < 5 by omega, show (3 : Nat) < 6 by omega, show ¬ (4 : Nat) < 0 by omega, show ¬ (4 : Nat) < 1 by omega, show ¬ (4 : Nat) < 2 by omega, show ¬ (4 : Nat) < 3 by omega, show ¬ (4 : Nat) < 4 by omega, show (4 : Nat) < 5 by omega, show (4 : Nat) < 6 by omega, show ¬ (5 : Nat) < 0 by omega, show ¬ (5 : Nat) < 1 by omega, show ¬ (5 : Nat) < 2 by omega, show ¬ (5 : Nat) < 3 by omega, show ¬ (5 : Nat) < 4 by omega, show ¬ (5 : Nat) < 5 by omega, show (5 : Nat) < 6 by omega, show ¬ (6 : Nat) < 0 by omega, show ¬ (6 : Nat) < 1 by omega, show ¬ (6 : Nat) < 2 by omega, show ¬ (6 : Nat) < 3 by omega, show ¬ (6 : Nat) < 4 by omega, show ¬ (6 : Nat) < 5 by omega, show ¬ (6 : Nat) < 6 by omega, if_true, if_false, Bool.toNat_false]
  omega
theorem wrg_l0 (F x : Nat) : wrg F 0 x = false := by unfold wrg; rfl
theorem wrg_r0 (F x : Nat) : wrg F x 0 = false := by unfold wrg; simp
theorem wrg_tr {F x y z : Nat} (hy : y ≠ 0) (h1 : wrg F x y = false) (h2 : wrg F y z = false) : wrg F x z = false := by
  by_cases hx : x = 0
  · rw [hx]; exact wrg_l0 _ _
  by_cases hz : z = 0
  · rw [hz]; exact wrg_r0 _ _
  unfold wrg at *
  by_cases hF : F = 1
  · simp [hF, hx, hy, hz] at *
    omega
  · simp [hF, hx, hy, hz] at *
    omega
theorem ord_iff {P F C : Nat} : ∀ (k p last g : Nat), p + k = 7 → g < 2 → (ord P F C k p last g = true ↔ (∀ i j, p ≤ i → i < j → j < 7 → wrg F (sl P i) (sl P j) = false) ∧ (∀ j, p ≤ j → j < 7 → wrg F last (sl P j) = false) ∧ (C = 1 → (g = 1 → ∀ j, p ≤ j → j < 7 → sl P j = 0) ∧ (g = 0 → ∀ j, p ≤ j → j + 1 < 7 → sl P j = 0 → sl P (j + 1) = 0)))
  | 0, p, last, g, hp, hg => ⟨fun _ => ⟨fun i j _ _ _ => by omega, fun j _ _ => by omega, fun _ => ⟨fun _ j _ _ => by omega, fun _ j _ _ => by omega⟩⟩, fun _ => rfl⟩
  | k + 1, p, last, g, hp, hg => by
    unfold ord
    by_cases h0 : sl P p = 0
    · rw [if_pos h0, ord_iff k (p + 1) last 1 (by omega) (by omega)]
      constructor
      · intro ⟨a1, a2, a3⟩
        refine ⟨fun i j h1 h2 h3 => ?_, fun j h1 h2 => ?_, fun hc => ⟨fun _ j h1 h2 => ?_, fun _ j h1 h2 _ => ?_⟩⟩
        · by_cases hi : i = p
          · rw [hi, h0]; exact wrg_l0 _ _
          · exact a1 i j (by omega) h2 h3
        · by_cases hi : j = p
          · rw [hi, h0]; exact wrg_r0 _ _
          · exact a2 j (by omega) h2
        · by_cases hi : j = p
          · rw [hi]; exact h0
          · exact (a3 hc).1 rfl j (by omega) h2
        · exact (a3 hc).1 rfl (j + 1) (by omega) h2
      · intro ⟨a1, a2, a3⟩
        refine ⟨fun i j h1 h2 h3 => a1 i j (by omega) h2 h3, fun j h1 h2 => a2 j (by omega) h2, fun hc => ⟨fun _ j h1 h2 => ?_, fun h => absurd h (by omega)⟩⟩
        rcases (show g = 0 ∨ g = 1 by omega) with hg0 | hg1
        · have : ∀ n, p + n < 7 → sl P (p + n) = 0 := fun n => by
            induction n with
            | zero => exact fun _ => h0
            | succ n ih => exact fun h => (a3 hc).2 hg0 (p + n) (by omega) (by omega) (ih (by omega))
          have h3 := this (j - p) (by omega)
          rw [show p + (j - p) = j by omega] at h3
          exact h3
        · exact (a3 hc).1 hg1 j (by omega) h2
    · rw [if_neg h0]
      by_cases hgc : g = 1 ∧ C = 1
      · rw [if_pos hgc]
        exact ⟨fun e => (nomatch e), fun a => absurd ((a.2.2 hgc.2).1 hgc.1 p (Nat.le_refl _) (by omega)) h0⟩
      · rw [if_neg hgc]
        cases hw : wrg F last (sl P p) with
        | true =>
          rw [if_pos rfl]
          refine ⟨fun e => (nomatch e), fun a => ?_⟩
          rw [a.2.1 p (Nat.le_refl _) (by omega)] at hw
          cases hw
        | false =>
          rw [if_neg (by decide), ord_iff k (p + 1) (sl P p) g (by omega) hg]
          constructor
          · intro ⟨a1, a2, a3⟩
            refine ⟨fun i j h1 h2 h3 => ?_, fun j h1 h2 => ?_, fun hc => ⟨fun hg1 => absurd ⟨hg1, hc⟩ hgc, fun hg0 j h1 h2 h3 => ?_⟩⟩
            · by_cases hi : i = p
              · rw [hi]; exact a2 j (by omega) h3
              · exact a1 i j (by omega) h2 h3
            · by_cases hi : j = p
              · rw [hi]; exact hw
              · exact wrg_tr h0 hw (a2 j (by omega) h2)
            · by_cases hi : j = p
              · rw [hi] at h3; exact absurd h3 h0
              · exact (a3 hc).2 hg0 j (by omega) h2 h3
          · intro ⟨a1, a2, a3⟩
            exact ⟨fun i j h1 h2 h3 => a1 i j (by omega) h2 h3, fun j h1 h2 => a1 p j (Nat.le_refl _) (by omega) h2, fun hc => ⟨fun hg1 => absurd ⟨hg1, hc⟩ hgc, fun hg0 j h1 h2 h3 => (a3 hc).2 hg0 j (by omega) h2 h3⟩⟩
theorem sm_0 {g : Nat → Nat} : ∀ n, sm g n = 0 ↔ ∀ i, i < n → g i = 0
  | 0 => ⟨fun _ _ h => absurd h (Nat.not_lt_zero _), fun _ => rfl⟩
  | n + 1 => by
    show sm g n + g n = 0 ↔ _
    rw [Nat.add_eq_zero_iff, sm_0 n]
    constructor
    · intro ⟨a, c⟩ i hi
      by_cases h : i = n
      · rw [h]; exact c
      · exact a i (by omega)
    · exact fun a => ⟨fun i hi => a i (by omega), a n (by omega)⟩
theorem cnt_0 {g : Nat → Bool} : ∀ n, cnt g n = 0 ↔ ∀ i, i < n → g i = false
  | 0 => ⟨fun _ _ h => absurd h (Nat.not_lt_zero _), fun _ => rfl⟩
  | n + 1 => by
    show cnt g n + (g n).toNat = 0 ↔ _
    rw [Nat.add_eq_zero_iff, cnt_0 n]
    constructor
    · intro ⟨a, c⟩ i hi
      by_cases h : i = n
      · rw [h]
        cases hg : g n with
        | false => rfl
        | true => rw [hg] at c; cases c
      · exact a i (by omega)
    · exact fun a => ⟨fun i hi => a i (by omega), by rw [a n (by omega)]; rfl⟩
theorem io_ord {P F C : Nat} (hC : C < 2) : ioY P F C = inOrd P F C := by
  have h1 := ord_iff (P := P) (F := F) (C := C) 7 0 0 0 (by omega) (by omega)
  have h2 : ioY P F C = true ↔ (∀ i j, 0 ≤ i → i < j → j < 7 → wrg F (sl P i) (sl P j) = false) ∧ (∀ j, 0 ≤ j → j < 7 → wrg F 0 (sl P j) = false) ∧ (C = 1 → ((0 : Nat) = 1 → ∀ j, 0 ≤ j → j < 7 → sl P j = 0) ∧ ((0 : Nat) = 0 → ∀ j, 0 ≤ j → j + 1 < 7 → sl P j = 0 → sl P (j + 1) = 0)) := by
    unfold ioY
    rw [Bool.and_eq_true, decide_eq_true_eq, Bool.or_eq_true, decide_eq_true_eq, decide_eq_true_eq]
    unfold dsY
    rw [sm_0, cnt_0]
    constructor
    · intro ⟨a, c⟩
      refine ⟨fun i j _ h2 h3 => ?_, fun j _ _ => wrg_l0 _ _, fun hc => ⟨fun h => absurd h (by omega), fun _ j _ h2 h3 => ?_⟩⟩
      · have := (cnt_0 7).1 (a i (by omega)) j h3
        unfold dsP at this
        rw [decide_eq_true h2, Bool.true_and] at this
        exact this
      · rcases c with c | c
        · have := c j (by omega)
          unfold clB at this
          rw [decide_eq_true h3, Bool.and_true] at this
          simpa using this
        · omega
    · intro ⟨a1, a2, a3⟩
      refine ⟨fun i hi => (cnt_0 7).2 fun j hj => ?_, ?_⟩
      · unfold dsP
        by_cases h : i < j
        · rw [a1 i j (Nat.zero_le _) h hj, Bool.and_false]
        · rw [decide_eq_false h, Bool.false_and]
      · by_cases hc : C = 1
        · refine Or.inl fun j hj => ?_
          unfold clB
          by_cases h : sl P j = 0
          · rw [(a3 hc).2 rfl j (Nat.zero_le _) (by omega) h]
            rfl
          · rw [decide_eq_false h, Bool.and_false]
        · exact Or.inr (by omega)
  have h3 : ioY P F C = true ↔ inOrd P F C = true := h2.trans h1.symm
  cases hx : ioY P F C with
  | true => exact (h3.1 hx).symm
  | false =>
    cases hy : inOrd P F C with
    | false => rfl
    | true => rw [h3.2 hy] at hx; cases hx
theorem bf_eq {b P p : Nat} (hb : b < 6) (hv : VW b P) (hp : p < 7) (h0 : sl P p ≠ 0) : c0 P p ≤ 7 - b ∧ c1 P p + 1 ≤ b ∧ c2 P p p + 1 ≤ sl P p := by
  rcases bf_ok hb hv hp with h | h
  · exact absurd h h0
  · exact h
