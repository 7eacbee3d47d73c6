/-! ways in a graph of at most N words: n moves, price w in all; the least price -/
section Paths
variable (E : Nat → Nat → Option Nat) (p : Nat → Nat → Nat) (goal : Nat → Bool)
def Pt : Nat → Nat → Nat → Prop
  | 0, r, w => goal r = true ∧ w = 0
  | n + 1, r, w => ∃ m r' w', m < 19 ∧ E r m = some r' ∧ Pt n r' w' ∧ w = p r m + w'
/-- w is the least price of a way from r -/
def Lst (r w : Nat) : Prop := (∃ n, Pt E p goal n r w) ∧ ∀ n' w', Pt E p goal n' r w' → w ≤ w'
variable {E p goal}
theorem lst_uniq {r w w' : Nat} (h : Lst E p goal r w) (h' : Lst E p goal r w') : w = w' := by
  obtain ⟨⟨n, h1⟩, h2⟩ := h
  obtain ⟨⟨n', h3⟩, h4⟩ := h'
  have := h2 _ _ h3
  have := h4 _ _ h1
  omega
theorem lst_ex {r : Nat} : ∀ (w n : Nat), Pt E p goal n r w → ∃ w', w' ≤ w ∧ Lst E p goal r w' := by
  intro w
  induction w using Nat.strongRecOn with
  | ind w ih =>
    intro n hn
    by_cases hw : ∃ n' w', Pt E p goal n' r w' ∧ w' < w
    · obtain ⟨n', w', h1, h2⟩ := hw
      obtain ⟨v, h3, h4⟩ := ih w' h2 n' h1
      exact ⟨v, by omega, h4⟩
    · refine ⟨w, Nat.le_refl _, ⟨n, hn⟩, fun n' w' h1 => ?_⟩
      rcases Nat.lt_or_ge w' w with h2 | h2
      · exact absurd ⟨n', w', h1, h2⟩ hw
      · exact h2
theorem lst_goal {r : Nat} (h : goal r = true) : Lst E p goal r 0 := ⟨⟨0, h, rfl⟩, fun _ _ _ => Nat.zero_le _⟩
theorem lst_edge {r m r' w w' : Nat} (hm : m < 19) (he : E r m = some r') (h : Lst E p goal r w) (h' : Lst E p goal r' w') : w ≤ p r m + w' := by
  obtain ⟨⟨n', h3⟩, _⟩ := h'
  exact h.2 (n' + 1) _ ⟨m, r', w', hm, he, h3, rfl⟩
theorem lst_back {r m r' w' : Nat} (hm : m < 19) (he : E r m = some r') (h' : Lst E p goal r' w') : ∃ w, w ≤ p r m + w' ∧ Lst E p goal r w := by
  obtain ⟨⟨n', h3⟩, _⟩ := h'
  exact lst_ex (p r m + w') (n' + 1) ⟨m, r', w', hm, he, h3, rfl⟩
/-- the first move of a least way leaves a least way -/
theorem lst_step {n r w : Nat} (h : Pt E p goal (n + 1) r w) (hl : Lst E p goal r w) : ∃ m r' w', m < 19 ∧ E r m = some r' ∧ Pt E p goal n r' w' ∧ Lst E p goal r' w' ∧ w = p r m + w' := by
  obtain ⟨m, r', w', hm, he, h1, h2⟩ := h
  refine ⟨m, r', w', hm, he, h1, ⟨⟨n, h1⟩, fun n'' w'' h3 => ?_⟩, h2⟩
  have := hl.2 (n'' + 1) _ ⟨m, r', w'', hm, he, h3, rfl⟩
  omega
theorem lst_pos {r w : Nat} (hg : goal r = false) (hl : Lst E p goal r w) : ∃ m r' w', m < 19 ∧ E r m = some r' ∧ Lst E p goal r' w' ∧ w = p r m + w' := by
  obtain ⟨n, h1⟩ := hl.1
  cases n with
  | zero => rw [h1.1] at hg; cases hg
  | succ n =>
    obtain ⟨m, r', w', a1, a2, _, a3, a4⟩ := lst_step h1 hl
    exact ⟨m, r', w', a1, a2, a3, a4⟩
theorem lst_zero {N r w : Nat} (hr : r < N) (hp : ∀ r m r', r < N → m < 19 → E r m = some r' → 1 ≤ p r m) (hl : Lst E p goal r w) : w = 0 ↔ goal r = true := by
  constructor
  · intro hw
    cases hg : goal r with
    | true => rfl
    | false =>
      obtain ⟨m, r', w', a1, a2, _, a4⟩ := lst_pos hg hl
      have := hp r m r' hr a1 a2
      omega
  · exact fun hg => lst_uniq hl (lst_goal hg)
/-- n + 1 different numbers under N: n is under N -/
theorem pigeon : ∀ (N n : Nat) (f : Nat → Nat), (∀ j, j ≤ n → f j < N) → (∀ i j, i < j → j ≤ n → f i ≠ f j) → n < N
  | 0, n, f, h, _ => absurd (h 0 (Nat.zero_le _)) (Nat.not_lt_zero _)
  | N + 1, 0, _, _, _ => Nat.succ_pos _
  | N + 1, n + 1, f, h, hne => by
    have := pigeon N n (fun i => if f i = N then f (n + 1) else f i) (fun j hj => by
      have h1 := h j (by omega)
      have h2 := h (n + 1) (Nat.le_refl _)
      have h3 := hne j (n + 1) (by omega) (Nat.le_refl _)
      show (if f j = N then f (n + 1) else f j) < N
      by_cases hN : f j = N
      · rw [if_pos hN]; omega
      · rw [if_neg hN]; omega) (fun i j hij hj => by
      have h3 := hne j (n + 1) (by omega) (Nat.le_refl _)
      have h4 := hne i (n + 1) (by omega) (Nat.le_refl _)
      have h5 := hne i j hij (by omega)
      show (if f i = N then f (n + 1) else f i) ≠ (if f j = N then f (n + 1) else f j)
      by_cases hi : f i = N
      · by_cases hj' : f j = N
        · exact absurd (hi.trans hj'.symm) h5
        · rw [if_pos hi, if_neg hj']; exact fun e => h3 e.symm
      · by_cases hj' : f j = N
        · rw [if_neg hi, if_pos hj']; exact h4
        · rw [if_neg hi, if_neg hj']; exact h5)
    omega
/-- the words of a least way, from its end -/
theorem lst_nodes {N : Nat} (hp : ∀ r m r', r < N → m < 19 → E r m = some r' → 1 ≤ p r m) (hE : ∀ r m r', r < N → m < 19 → E r m = some r' → r' < N) : ∀ (n r w : Nat), r < N → Pt E p goal n r w → Lst E p goal r w →
    ∃ f c : Nat → Nat, (∀ j, j ≤ n → f j < N ∧ Lst E p goal (f j) (c j)) ∧ (∀ i j, i < j → j ≤ n → c i < c j) ∧ c n = w
  | 0, r, w, hr, h, hl => ⟨fun _ => r, fun _ => w, fun _ _ => ⟨hr, hl⟩, fun i j hij hj => by omega, rfl⟩
  | n + 1, r, w, hr, h, hl => by
    obtain ⟨m, r', w', a1, a2, a3, a4, a5⟩ := lst_step h hl
    obtain ⟨f, c, b1, b2, b3⟩ := lst_nodes hp hE n r' w' (hE r m r' hr a1 a2) a3 a4
    have hpm := hp r m r' hr a1 a2
    refine ⟨fun j => if j ≤ n then f j else r, fun j => if j ≤ n then c j else w, fun j hj => ?_, fun i j hij hj => ?_, ?_⟩
    · by_cases hjn : j ≤ n
      · simp only [if_pos hjn]; exact b1 j hjn
      · simp only [if_neg hjn]; exact ⟨hr, hl⟩
    · by_cases hjn : j ≤ n
      · simp only [if_pos hjn, if_pos (show i ≤ n by omega)]; exact b2 i j hij hjn
      · simp only [if_neg hjn, if_pos (show i ≤ n by omega)]
        rcases Nat.lt_or_ge i n with h5 | h5
        · have := b2 i n h5 (Nat.le_refl _)
          omega
        · obtain rfl : i = n := by omega
          omega
    · simp only [if_neg (show ¬ n + 1 ≤ n by omega)]
theorem lst_short {N n r w : Nat} (hp : ∀ r m r', r < N → m < 19 → E r m = some r' → 1 ≤ p r m) (hE : ∀ r m r', r < N → m < 19 → E r m = some r' → r' < N) (hr : r < N) (h : Pt E p goal n r w) (hl : Lst E p goal r w) : n < N := by
  obtain ⟨f, c, b1, b2, _⟩ := lst_nodes hp hE n r w hr h hl
  refine pigeon N n f (fun j hj => (b1 j hj).1) (fun i j hij hj e => ?_)
  have h1 := (b1 i (by omega)).2
  have h2 := (b1 j hj).2
  rw [e] at h1
  have := lst_uniq h1 h2
  have := b2 i j hij hj
  omega
theorem pt_le {N B : Nat} (hE : ∀ r m r', r < N → m < 19 → E r m = some r' → r' < N) (hB : ∀ r m r', r < N → m < 19 → E r m = some r' → p r m ≤ B) : ∀ (n r w : Nat), r < N → Pt E p goal n r w → w ≤ B * n
  | 0, _, _, _, h => by rw [h.2]; exact Nat.zero_le _
  | n + 1, r, _, hr, h => by
    obtain ⟨m, r', w', a1, a2, a3, a4⟩ := h
    have := pt_le hE hB n r' w' (hE r m r' hr a1 a2) a3
    have := hB r m r' hr a1 a2
    rw [a4, Nat.mul_succ]
    omega
theorem lst_le {N B r w : Nat} (hp : ∀ r m r', r < N → m < 19 → E r m = some r' → 1 ≤ p r m) (hB : ∀ r m r', r < N → m < 19 → E r m = some r' → p r m ≤ B) (hE : ∀ r m r', r < N → m < 19 → E r m = some r' → r' < N) (hr : r < N) (hl : Lst E p goal r w) : w ≤ B * (N - 1) := by
  obtain ⟨n, h1⟩ := hl.1
  have h2 := lst_short hp hE hr h1 hl
  exact Nat.le_trans (pt_le hE hB n r w hr h1) (Nat.mul_le_mul_left _ (by omega))
/-- numbers that are prices of ways, are 0 in order, and stand for every step: they are the least -/
theorem lst_of {N : Nat} {d : Nat → Option Nat} (hE : ∀ r m r', r < N → m < 19 → E r m = some r' → r' < N)
    (h1 : ∀ r w, r < N → d r = some w → ∃ n, Pt E p goal n r w) (h2 : ∀ r, r < N → goal r = true → d r = some 0)
    (h3 : ∀ r m r' w', r < N → m < 19 → E r m = some r' → d r' = some w' → ∃ w, d r = some w ∧ w ≤ p r m + w') :
    ∀ r, r < N → ∀ w, d r = some w ↔ Lst E p goal r w := by
  have key : ∀ n r w, r < N → Pt E p goal n r w → ∃ v, d r = some v ∧ v ≤ w := by
    intro n
    induction n with
    | zero => exact fun r w hr h => ⟨0, h2 r hr h.1, Nat.zero_le _⟩
    | succ n ih =>
      intro r w hr h
      obtain ⟨m, r', w', a1, a2, a3, a4⟩ := h
      obtain ⟨v', b1, b2⟩ := ih r' w' (hE r m r' hr a1 a2) a3
      obtain ⟨v, c1, c2⟩ := h3 r m r' v' hr a1 a2 b1
      exact ⟨v, c1, by omega⟩
  intro r hr w
  constructor
  · refine fun hd => ⟨h1 r w hr hd, fun n' w' h' => ?_⟩
    obtain ⟨v, c1, c2⟩ := key n' r w' hr h'
    rw [hd] at c1
    cases c1
    exact c2
  · intro hl
    obtain ⟨n, hn⟩ := hl.1
    obtain ⟨v, c1, c2⟩ := key n r w hr hn
    obtain ⟨n', hn'⟩ := h1 r v hr c1
    have := hl.2 n' v hn'
    rw [c1, show v = w by omega]
end Paths
