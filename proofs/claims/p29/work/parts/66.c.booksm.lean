/-! sums over places and over slots; order; the nearest gap -/
theorem sm_swap (f : Nat → Nat → Nat) (b : Nat) : ∀ n, sm (fun p => sm (f p) b) n = sm (fun i => sm (fun p => f p i) n) b
  | 0 => by
    show 0 = sm (fun _ => 0) b
    rw [sm_zero]
  | n + 1 => by
    show sm (fun p => sm (f p) b) n + sm (f n) b = sm (fun i => sm (fun p => f p i) n + f n i) b
    rw [sm_swap f b n, sm_add]
theorem sm_hit {t c : Nat} {u : Nat → Nat} : ∀ n, sm (fun p => if u p = t then c else 0) n = c * cnt (fun p => u p == t) n
  | 0 => rfl
  | n + 1 => by
    show sm (fun p => if u p = t then c else 0) n + (if u n = t then c else 0) = c * (cnt (fun p => u p == t) n + (u n == t).toNat)
    rw [sm_hit n, Nat.mul_add]
    by_cases h : u n = t
    · rw [if_pos h, show (u n == t) = true by simp [h]]
      simp
    · rw [if_neg h, show (u n == t) = false by simp [h]]
      simp
theorem sm_pick {g : Nat → Nat} {s : Nat} (h1 : 1 ≤ s) : ∀ b, s ≤ b → sm (fun i => if s = i + 1 then g (i + 1) else 0) b = g s
  | 0, h => by omega
  | b + 1, h => by
    show sm (fun i => if s = i + 1 then g (i + 1) else 0) b + (if s = b + 1 then g (b + 1) else 0) = g s
    by_cases hs : s = b + 1
    · rw [if_pos hs]
      have h0 : ∀ n, n ≤ b → sm (fun i => if s = i + 1 then g (i + 1) else 0) n = 0 := fun n => by
        induction n with
        | zero => exact fun _ => rfl
        | succ n ih =>
          intro hn
          show sm (fun i => if s = i + 1 then g (i + 1) else 0) n + (if s = n + 1 then g (n + 1) else 0) = 0
          rw [ih (by omega), if_neg (by omega)]
      rw [h0 b (Nat.le_refl _), hs, Nat.zero_add]
    · rw [if_neg hs, sm_pick h1 b (by omega), Nat.add_zero]
/-- each book stands at one place -/
theorem sm_places {b P : Nat} (hv : VW b P) (g : Nat → Nat) : sm (fun p => if sl P p = 0 then 0 else g (sl P p)) 7 = sm (fun i => g (i + 1)) b := by
  have e1 : sm (fun p => if sl P p = 0 then 0 else g (sl P p)) 7 = sm (fun p => sm (fun i => if sl P p = i + 1 then g (i + 1) else 0) b) 7 := by
    refine sm_congr 7 (fun p hp => ?_)
    by_cases h0 : sl P p = 0
    · rw [if_pos h0]
      have : ∀ n, sm (fun i => if sl P p = i + 1 then g (i + 1) else 0) n = 0 := fun n => by
        induction n with
        | zero => rfl
        | succ n ih =>
          show sm (fun i => if sl P p = i + 1 then g (i + 1) else 0) n + (if sl P p = n + 1 then g (n + 1) else 0) = 0
          rw [ih, if_neg (by omega)]
      rw [this]
    · rw [if_neg h0, sm_pick (by omega) b (hv.2.1 p hp)]
  rw [e1, sm_swap]
  refine sm_congr b (fun i hi => ?_)
  rw [sm_hit]
  have := hv.2.2 (i + 1) (by omega) (by omega)
  unfold cs at this
  rw [this, Nat.mul_one]
theorem cnt_sm (g : Nat → Bool) : ∀ n, cnt g n = sm (fun i => (g i).toNat) n
  | 0 => rfl
  | n + 1 => by
    show cnt g n + (g n).toNat = sm (fun i => (g i).toNat) n + (g n).toNat
    rw [cnt_sm g n]
theorem sm_one' : ∀ n, sm (fun _ => 1) n = n
  | 0 => rfl
  | n + 1 => by
    show sm (fun _ => 1) n + 1 = n + 1
    rw [sm_one' n]
theorem bk_7 {b P : Nat} (hv : VW b P) : sm (fun p => if sl P p = 0 then 0 else 1) 7 = b := by
  rw [sm_places hv (fun _ => 1)]
  exact sm_one' b
theorem smw_sm (o : Nat → Nat) : ∀ n, smw o n = sm (fun i => o (i + 1)) n
  | 0 => rfl
  | n + 1 => by
    show smw o n + o (n + 1) = sm (fun i => o (i + 1)) n + o (n + 1)
    rw [smw_sm o n]
theorem pop_sm {b S : Nat} (hb : b < 6) (hS : ∀ s, S.testBit s = true → 1 ≤ s ∧ s ≤ b) : pop S = sm (fun i => (S.testBit (i + 1)).toNat) b := by
  have hz : ∀ s, ¬ (1 ≤ s ∧ s ≤ b) → S.testBit s = false := fun s hs => by
    cases h : S.testBit s with
    | false => rfl
    | true => exact absurd (hS s h) hs
  have h0 := hz 0 (by omega)
  unfold pop
  rw [cnt_sm]
  rcases (show b = 0 ∨ b = 1 ∨ b = 2 ∨ b = 3 ∨ b = 4 ∨ b = 5 by omega) with rfl | rfl | rfl | rfl | rfl | rfl <;>
    simp [sm, h0, hz 1, hz 2, hz 3, hz 4, hz 5]
/-! pairs that stand the wrong way round -/
theorem sm_sym (g : Nat → Nat → Nat) (h0 : ∀ p, g p p = 0) (hs : ∀ p q, g p q = g q p) : ∀ n, sm (fun p => sm (g p) n) n = 2 * sm (fun p => sm (g p) p) n
  | 0 => rfl
  | n + 1 => by
    show sm (fun p => sm (g p) n + g p n) n + (sm (g n) n + g n n) = 2 * (sm (fun p => sm (g p) p) n + sm (g n) n)
    rw [sm_add, sm_sym g h0 hs n, h0 n, show sm (fun p => g p n) n = sm (g n) n from sm_congr n (fun i _ => hs i n)]
    omega
theorem wrg_self (f a : Nat) : wrg f a a = false := by
  unfold wrg
  split <;> simp
theorem wrg_0l (f c : Nat) : wrg f 0 c = false := by unfold wrg; simp
theorem wrg_0r (f a : Nat) : wrg f a 0 = false := by unfold wrg; simp
theorem wbf_sym {P f p q : Nat} : wbf P p f q = wbf P q f p := by
  unfold wbf
  by_cases h : q < p
  · rw [if_pos h, if_pos h, if_neg (by omega), if_neg (by omega)]
  · rw [if_neg h, if_neg h]
    by_cases h2 : p < q
    · rw [if_pos h2, if_pos h2]
    · obtain rfl : p = q := by omega
      rw [if_neg h]
theorem dis_2 (P f : Nat) : 2 * dis P f = sm (fun p => wb P p f) 7 := by
  have h1 : sm (fun p => wb P p f) 7 = 2 * sm (fun p => sm (fun q => (wbf P p f q).toNat) p) 7 := by
    rw [← sm_sym (fun p q => (wbf P p f q).toNat) (fun p => by unfold wbf; rw [if_neg (by omega), wrg_self]; rfl) (fun p q => by rw [wbf_sym]) 7]
    exact sm_congr 7 (fun p _ => cnt_sm _ 7)
  unfold dis
  rw [h1]
  omega
theorem wb_gap {P p f : Nat} (h : sl P p = 0) : wb P p f = 0 := by
  refine (cnt_0 7).2 (fun q _ => ?_)
  unfold wbf
  rw [h]
  split
  · exact wrg_0r _ _
  · exact wrg_0l _ _
theorem wr_7 (P f : Nat) : sm (fun p => if sl P p = 0 then 0 else wb P p f) 7 = 2 * dis P f := by
  rw [dis_2]
  refine sm_congr 7 (fun p _ => ?_)
  by_cases h : sl P p = 0
  · rw [if_pos h, wb_gap h]
  · rw [if_neg h]
theorem sm_eq0 {g : Nat → Nat} : ∀ n, sm g n = 0 ↔ ∀ i, i < n → g i = 0
  | 0 => ⟨fun _ i hi => by omega, fun _ => rfl⟩
  | n + 1 => by
    show sm g n + g n = 0 ↔ _
    have ih := sm_eq0 (g := g) n
    constructor
    · intro h i hi
      by_cases hin : i = n
      · rw [hin]; omega
      · exact ih.1 (by omega) i (by omega)
    · intro h
      have h1 := ih.2 (fun i hi => h i (by omega))
      have h2 := h n (by omega)
      omega
/-! order, place by place -/
theorem wrg_tr {f a x c : Nat} (hx : x ≠ 0) (h1 : wrg f a x = false) (h2 : wrg f x c = false) : wrg f a c = false := by
  unfold wrg at *
  by_cases ha : a = 0
  · simp [ha]
  · by_cases hc : c = 0
    · simp [hc]
    · by_cases hf : f = 1
      · simp [ha, hx, hc, hf] at *; omega
      · simp [ha, hx, hc, hf] at *; omega
theorem ord_iff {P f c : Nat} : ∀ (k p last g : Nat), p + k = 7 → g < 2 → (ord P f c k p last g = true ↔ ∀ q, p ≤ q → q < 7 → sl P q ≠ 0 →
    (c = 1 → g = 0 ∧ ∀ r, p ≤ r → r < q → sl P r ≠ 0) ∧ wrg f last (sl P q) = false ∧ ∀ r, p ≤ r → r < q → wrg f (sl P r) (sl P q) = false)
  | 0, p, last, g, hp, hg => by
    unfold ord
    exact ⟨fun _ q h1 h2 => by omega, fun _ => rfl⟩
  | k + 1, p, last, g, hp, hg => by
    unfold ord
    by_cases h0 : sl P p = 0
    · rw [if_pos h0, ord_iff k (p + 1) last 1 (by omega) (by omega)]
      constructor
      · intro h q h1 h2 h3
        have hqp : q ≠ p := fun e => h3 (e ▸ h0)
        obtain ⟨a1, a2, a3⟩ := h q (by omega) h2 h3
        refine ⟨fun hc => absurd (a1 hc).1 (by omega), a2, fun r r1 r2 => ?_⟩
        by_cases hr : r = p
        · rw [hr, h0, wrg_0l]
        · exact a3 r (by omega) r2
      · intro h q h1 h2 h3
        obtain ⟨a1, a2, a3⟩ := h q (by omega) h2 h3
        exact ⟨fun hc => absurd h0 ((a1 hc).2 p (Nat.le_refl _) (by omega)), a2, fun r r1 r2 => a3 r (by omega) r2⟩
    · rw [if_neg h0]
      by_cases hgc : g = 1 ∧ c = 1
      · rw [if_pos hgc]
        constructor
        · intro h; cases h
        · intro h
          have := ((h p (Nat.le_refl _) (by omega) h0).1 hgc.2).1
          omega
      · rw [if_neg hgc]
        cases hw : wrg f last (sl P p) with
        | true =>
          rw [if_pos rfl]
          constructor
          · intro h; cases h
          · intro h
            have := (h p (Nat.le_refl _) (by omega) h0).2.1
            rw [hw] at this
            cases this
        | false =>
          rw [if_neg (by decide), ord_iff k (p + 1) (sl P p) g (by omega) hg]
          constructor
          · intro h q h1 h2 h3
            by_cases hqp : q = p
            · subst hqp
              exact ⟨fun hc => ⟨by omega, fun r r1 r2 => by omega⟩, hw, fun r r1 r2 => by omega⟩
            · obtain ⟨a1, a2, a3⟩ := h q (by omega) h2 h3
              refine ⟨fun hc => ⟨(a1 hc).1, fun r r1 r2 => ?_⟩, wrg_tr h0 hw a2, fun r r1 r2 => ?_⟩
              · by_cases hr : r = p
                · rw [hr]; exact h0
                · exact (a1 hc).2 r (by omega) r2
              · by_cases hr : r = p
                · rw [hr]; exact a2
                · exact a3 r (by omega) r2
          · intro h q h1 h2 h3
            obtain ⟨a1, a2, a3⟩ := h q (by omega) h2 h3
            exact ⟨fun hc => ⟨(a1 hc).1, fun r r1 r2 => (a1 hc).2 r (by omega) r2⟩, a3 p (Nat.le_refl _) (by omega), fun r r1 r2 => a3 r (by omega) r2⟩
/-- no gap ahead of a book, up to a place -/
def clB (P : Nat) : Nat → Bool
  | 0 => true
  | k + 1 => clB P k && (decide (sl P k = 0) || decide (k = 0) || !decide (sl P (k - 1) = 0))
theorem clB_iff {P : Nat} : ∀ n, clB P n = true ↔ ∀ q, q < n → sl P q ≠ 0 → ∀ r, r < q → sl P r ≠ 0
  | 0 => ⟨fun _ q hq => by omega, fun _ => rfl⟩
  | n + 1 => by
    unfold clB
    rw [Bool.and_eq_true, clB_iff n]
    constructor
    · rintro ⟨h1, h2⟩ q hq h0 r hr
      by_cases hqn : q = n
      · subst hqn
        simp only [Bool.or_eq_true, decide_eq_true_eq, Bool.not_eq_true', decide_eq_false_iff_not] at h2
        rcases h2 with (h2 | h2) | h2
        · exact absurd h2 h0
        · omega
        · by_cases hr1 : r = q - 1
          · rw [hr1]; exact h2
          · exact h1 (q - 1) (by omega) h2 r (by omega)
      · exact h1 q (by omega) h0 r hr
    · intro h
      refine ⟨fun q hq => h q (by omega), ?_⟩
      simp only [Bool.or_eq_true, decide_eq_true_eq, Bool.not_eq_true', decide_eq_false_iff_not]
      by_cases h0 : sl P n = 0
      · exact Or.inl (Or.inl h0)
      · by_cases hn : n = 0
        · exact Or.inl (Or.inr hn)
        · exact Or.inr (h n (by omega) h0 (n - 1) (by omega))
theorem ord_7 {P F C : Nat} (hC : C < 2) : inOrd P F C = (decide (2 * dis P F = 0) && (clB P 7 || decide (C = 0))) := by
  have h1 : 2 * dis P F = 0 ↔ ∀ q, q < 7 → ∀ r, r < q → wrg F (sl P r) (sl P q) = false := by
    rw [dis_2, sm_eq0]
    constructor
    · intro h q hq r hr
      have := (cnt_0 7).1 (h q hq) r (by omega)
      unfold wbf at this
      rw [if_pos hr, if_pos hr] at this
      exact this
    · intro h p hp
      refine (cnt_0 7).2 (fun q hq => ?_)
      unfold wbf
      by_cases hqp : q < p
      · rw [if_pos hqp, if_pos hqp]; exact h p hp q hqp
      · rw [if_neg hqp, if_neg hqp]
        by_cases hpq : p < q
        · exact h q hq p hpq
        · rw [show q = p by omega]; exact wrg_self _ _
  have h2 := ord_iff (P := P) (f := F) (c := C) 7 0 0 0 rfl (by omega)
  have h3 := clB_iff (P := P) 7
  apply Bool.eq_iff_iff.2
  rw [Bool.and_eq_true, decide_eq_true_eq, Bool.or_eq_true, decide_eq_true_eq, h1, h3]
  show ord P F C 7 0 0 0 = true ↔ _
  rw [h2]
  constructor
  · intro h
    refine ⟨fun q hq r hr => ?_, ?_⟩
    · by_cases h0 : sl P q = 0
      · rw [h0, wrg_0r]
      · exact (h q (Nat.zero_le _) hq h0).2.2 r (Nat.zero_le _) hr
    · by_cases hc : C = 0
      · exact Or.inr hc
      · exact Or.inl fun q hq h0 r hr => ((h q (Nat.zero_le _) hq h0).1 (by omega)).2 r (Nat.zero_le _) hr
  · rintro ⟨h4, h5⟩ q _ hq h0
    refine ⟨fun hc => ⟨rfl, fun r _ hr => ?_⟩, wrg_0l _ _, fun r _ hr => h4 q hq r hr⟩
    rcases h5 with h5 | h5
    · exact h5 q hq h0 r hr
    · omega
/-! the nearest gap -/
theorem gB_near {P p : Nat} (hp : p < 7) (h0 : sl P p ≠ 0) : ∀ (k d : Nat), d + k = 7 → 1 ≤ d → (∀ q, q < 7 → sl P q = 0 → q + d ≤ p ∨ p + d ≤ q) → (∃ q, q < 7 ∧ sl P q = 0) →
    ∀ q, q < 7 → sl P q = 0 → (p - gB P p d k) + (gB P p d k - p) < (p - q) + (q - p) ∨ ((p - q) + (q - p) = (p - gB P p d k) + (gB P p d k - p) ∧ gB P p d k ≤ q)
  | 0, d, hd, h1, h, ⟨q, q1, q2⟩ => by
    have := h q q1 q2
    omega
  | k + 1, d, hd, h1, h, he => by
    intro q q1 q2
    have hq := h q q1 q2
    unfold gB
    by_cases c1 : d ≤ p ∧ sl P (p - d) = 0
    · rw [if_pos c1]
      omega
    · rw [if_neg c1]
      by_cases c2 : p + d < 7 ∧ sl P (p + d) = 0
      · rw [if_pos c2]
        by_cases hqd : q + d = p
        · exact absurd ⟨by omega, by rw [show p - d = q by omega]; exact q2⟩ c1
        · omega
      · rw [if_neg c2]
        refine gB_near hp h0 k (d + 1) (by omega) (by omega) (fun r r1 r2 => ?_) he q q1 q2
        have hr := h r r1 r2
        by_cases e1 : r + d = p
        · exact absurd ⟨by omega, by rw [show p - d = r by omega]; exact r2⟩ c1
        · by_cases e2 : p + d = r
          · exact absurd ⟨by omega, by rw [e2]; exact r2⟩ c2
          · omega
/-- what the class tells as the nearest gap -/
def ngp (P p : Nat) : Nat := if sl P p = 0 then p else gap P p
theorem ngp_ok {b P p : Nat} (hb : b < 6) (hv : VW b P) (hp : p < 7) : ngp P p < 7 ∧ sl P (ngp P p) = 0 ∧ ∀ q, q < 7 → sl P q = 0 → (p - ngp P p) + (ngp P p - p) < (p - q) + (q - p) ∨ ((p - q) + (q - p) = (p - ngp P p) + (ngp P p - p) ∧ ngp P p ≤ q) := by
  unfold ngp
  by_cases h0 : sl P p = 0
  · rw [if_pos h0]
    refine ⟨hp, h0, fun q _ _ => ?_⟩
    omega
  · rw [if_neg h0]
    obtain ⟨q, q1, q2, q3⟩ := VW_gap hb hv hp
    exact ⟨gap_lt hp, (gap_at hp ⟨q, q1, q2, q3⟩).2, gB_near hp h0 6 1 rfl (by omega) (fun r r1 r2 => by
      by_cases e : r = p
      · exact absurd (e ▸ r2) h0
      · omega) ⟨q, q1, q2⟩⟩
