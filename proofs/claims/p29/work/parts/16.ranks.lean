/-! order, disorder -/
def cnt (g : Nat → Bool) : Nat → Nat
  | 0 => 0
  | n + 1 => cnt g n + (g n).toNat
def wrg (f a c : Nat) : Bool := decide (a ≠ 0) && decide (c ≠ 0) && (if f = 1 then decide (a < c) else decide (c < a))
theorem s_isWrong {a c f : Nat} {h : pH} (ha : a < 8) (hc : c < 8) (hf : f < 2) : f_N_isWrong (nI a) (nI c) (nI f) h = rI (nI (wrg f a c).toNat) h := by
  rw [e_N_isWrong, wrg]
  by_cases h1 : a = 0
  · subst h1; rw [if_pos (by decide)]; rfl
  · rw [if_neg (by rw [i_eq0 (by omega)]; exact h1)]
    by_cases h2 : c = 0
    · subst h2; rw [if_pos (by decide)]; simp [L0]
    · rw [if_neg (by rw [i_eq0 (by omega)]; exact h2)]
      by_cases h3 : f = 1
      · subst h3
        rw [if_pos (by decide)]
        by_cases h4 : a < c
        · rw [if_neg (by rw [i_le (by omega) (by omega)]; omega)]; simp [h1, h2, h4]; rfl
        · rw [if_pos (by rw [i_le (by omega) (by omega)]; omega)]; simp [h1, h2, h4]; rfl
      · have h5 : f = 0 := by omega
        subst h5
        rw [if_neg (by decide)]
        by_cases h4 : c < a
        · rw [if_neg (by rw [i_le (by omega) (by omega)]; omega)]; simp [h1, h2, h4]; rfl
        · rw [if_pos (by rw [i_le (by omega) (by omega)]; omega)]; simp [h1, h2, h4]; rfl
theorem cnt_le (g : Nat → Bool) : ∀ n, cnt g n ≤ n
  | 0 => Nat.le_refl _
  | n + 1 => by
    have h1 := cnt_le g n
    have h2 : (g n).toNat ≤ 1 := by cases g n <;> decide
    unfold cnt
    omega
def wbf (P p f q : Nat) : Bool := wrg f (if q < p then sl P q else sl P p) (if q < p then sl P p else sl P q)
theorem s_wb {P p f : Nat} {h : pH} (hP : P < 2097152) (hp : p < 7) (hf : f < 2) : ∀ (k q : Nat), q + k = 7 → f_N_wrongBooks_12 (nI P) (nI p) (nI f) (nI (sl P p)) (nI (cnt (wbf P p f) q)) (nI q) h = rI (nI (cnt (wbf P p f) 7)) h
  | 0, q, hq => by
    obtain rfl : q = 7 := by omega
    rw [e_N_wrongBooks_12, if_pos (by decide)]
  | k + 1, q, hq => by
    have hc := cnt_le (wbf P p f) q
    have ih := s_wb (h := h) hP hp hf k (q + 1) (by omega)
    have fin : ∀ b : Bool, wbf P p f q = b → cI (rI (nI b.toNat) h) (fun x_2 h_1 => if x_2 = 0 then f_N_wrongBooks_12 (nI P) (nI p) (nI f) (nI (sl P p)) (nI (cnt (wbf P p f) q)) (nI q + 1) h_1 else f_N_wrongBooks_12 (nI P) (nI p) (nI f) (nI (sl P p)) (nI (cnt (wbf P p f) q) + 1) (nI q + 1) h_1) = rI (nI (cnt (wbf P p f) 7)) h := by
      intro b hb
      rw [cI_v, L1, i_add, i_add]
      rw [show cnt (wbf P p f) (q + 1) = cnt (wbf P p f) q + b.toNat from by rw [← hb]; rfl] at ih
      cases b
      · rw [if_pos (by decide)]; exact ih
      · rw [if_neg (by decide)]; exact ih
    rw [e_N_wrongBooks_12, if_neg (by rw [L7, i_le (by omega) (by omega)]; omega)]
    by_cases hqp : q < p
    · rw [if_neg (by rw [i_le (by omega) (by omega)]; omega), s_slotAt hP (by omega), cI_v, e_N_wrongBooks_35, if_neg (by rw [i_le (by omega) (by omega)]; omega), e_N_wrongBooks_53, s_isWrong (sl_lt _ _) (sl_lt _ _) hf]
      exact fin _ (by unfold wbf; rw [if_pos hqp, if_pos hqp])
    · rw [if_pos (by rw [i_le (by omega) (by omega)]; omega), e_N_wrongBooks_35, if_pos (by rw [i_le (by omega) (by omega)]; omega), s_slotAt hP (by omega), cI_v, e_N_wrongBooks_53, s_isWrong (sl_lt _ _) (sl_lt _ _) hf]
      exact fin _ (by unfold wbf; rw [if_neg hqp, if_neg hqp])
def wb (P p f : Nat) : Nat := cnt (wbf P p f) 7
theorem s_wrongBooks {P p f : Nat} {h : pH} (hP : P < 2097152) (hp : p < 7) (hf : f < 2) : f_N_wrongBooks (nI P) (nI p) (nI f) h = rI (nI (wb P p f)) h := by
  rw [e_N_wrongBooks, s_slotAt hP hp, cI_v]
  exact s_wb hP hp hf 7 0 rfl
def sm (g : Nat → Nat) : Nat → Nat
  | 0 => 0
  | n + 1 => sm g n + g n
theorem sm_le (g : Nat → Nat) (c : Nat) (hg : ∀ i, g i ≤ c) : ∀ n, sm g n ≤ n * c
  | 0 => Nat.zero_le _
  | n + 1 => by
    have h1 := sm_le g c hg n
    have h2 := hg n
    unfold sm
    rw [Nat.succ_mul]
    omega
theorem s_dis {P f : Nat} {h : pH} (hP : P < 2097152) (hf : f < 2) : ∀ (k p : Nat), p + k = 7 → f_N_disorder_4 (nI P) (nI f) (nI (sm (fun p => wb P p f) p)) (nI p) h = rI (nI (sm (fun p => wb P p f) 7 / 2)) h
  | 0, p, hp => by
    obtain rfl : p = 7 := by omega
    have h1 := sm_le (fun p => wb P p f) 7 (fun p => cnt_le _ 7) 7
    rw [e_N_disorder_4, if_pos (by decide)]
    generalize sm (fun p => wb P p f) 7 = z at h1 ⊢
    have h2 : ∀ z, z < 50 → nI z >>> ((1 : Int32) &&& 31) = nI (z / 2) := by decide
    rw [h2 z (by omega)]
  | k + 1, p, hp => by
    rw [e_N_disorder_4, if_neg (by rw [L7, i_le (by omega) (by omega)]; omega), s_wrongBooks hP (by omega) hf, cI_v, i_add, L1, i_add]
    exact s_dis hP hf k (p + 1) (by omega)
def dis (P f : Nat) : Nat := sm (fun p => wb P p f) 7 / 2
theorem s_disorder {P f : Nat} {h : pH} (hP : P < 2097152) (hf : f < 2) : f_N_disorder (nI P) (nI f) h = rI (nI (dis P f)) h := by
  rw [e_N_disorder]
  exact s_dis hP hf 7 0 rfl
/-- in order: from a place on, the book before it, whether a gap was there -/
def ord (P f c : Nat) : Nat → Nat → Nat → Nat → Bool
  | 0, _, _, _ => true
  | k + 1, p, last, g => if sl P p = 0 then ord P f c k (p + 1) last 1 else if g = 1 ∧ c = 1 then false else if wrg f last (sl P p) then false else ord P f c k (p + 1) (sl P p) g
theorem s_ord {P f c : Nat} {h : pH} (hP : P < 2097152) (hf : f < 2) (hc : c < 2) : ∀ (k p last g : Nat), p + k = 7 → last < 8 → g < 2 → f_N_isInOrder_8 (nI P) (nI f) (nI c) (nI last) (nI g) (nI p) h = rI (nI (ord P f c k p last g).toNat) h
  | 0, p, last, g, hp, hl, hg => by
    rw [e_N_isInOrder_8, if_pos (by rw [L7, i_le (by omega) (by omega)]; omega)]; rfl
  | k + 1, p, last, g, hp, hl, hg => by
    have hs := sl_lt P p
    have h44 : (¬ (g = 1 ∧ c = 1)) → sl P p ≠ 0 → f_N_isInOrder_44 (nI P) (nI f) (nI c) (nI last) (nI g) (nI p) (nI (sl P p)) h = rI (nI (ord P f c (k + 1) p last g).toNat) h := by
      intro h1 h2
      rw [e_N_isInOrder_44, s_isWrong hl hs hf, cI_v]
      unfold ord
      rw [if_neg h2, if_neg h1]
      cases hw : wrg f last (sl P p)
      · rw [if_pos (by decide), if_neg (by decide), L1, i_add]
        exact s_ord hP hf hc k (p + 1) (sl P p) g (by omega) hs hg
      · rw [if_neg (by decide), if_pos (by decide)]; rfl
    rw [e_N_isInOrder_8, if_neg (by rw [L7, i_le (by omega) (by omega)]; omega), s_slotAt hP (by omega), cI_v]
    by_cases h0 : sl P p = 0
    · rw [h0, if_pos (by decide), L1, i_add]
      have ih := s_ord (h := h) hP hf hc k (p + 1) last 1 (by omega) hl (by omega)
      unfold ord
      rw [if_pos h0]
      exact ih
    · rw [if_neg (by rw [i_eq0 (by omega)]; exact h0)]
      by_cases hg0 : g = 0
      · subst hg0
        rw [if_pos (by decide)]
        exact h44 (by omega) h0
      · have : g = 1 := by omega
        subst this
        rw [if_neg (by decide)]
        by_cases hc1 : c = 1
        · subst hc1
          rw [if_pos (by decide)]
          unfold ord
          rw [if_neg h0, if_pos ⟨rfl, rfl⟩]; rfl
        · have : c = 0 := by omega
          subst this
          rw [if_neg (by decide)]
          exact h44 (by omega) h0
def inOrd (P f c : Nat) : Bool := ord P f c 7 0 0 0
theorem s_isInOrder {P f c : Nat} {h : pH} (hP : P < 2097152) (hf : f < 2) (hc : c < 2) : f_N_isInOrder (nI P) (nI f) (nI c) h = rI (nI (inOrd P f c).toNat) h := by
  rw [e_N_isInOrder]
  exact s_ord hP hf hc 7 0 0 0 rfl (by omega) (by omega)
/-! the dictionary -/
def wyL (a x : Nat) : Nat → Nat
  | 0 => a
  | k + 1 => wyL (a * x) (x + 1) k
def wy (g k : Nat) : Nat := wyL 1 (g + 1) k
theorem s_wyL {g k : Nat} {h : pH} (hg : g < 100) (hk : k < 100) : ∀ (j a x : Nat), x + j = g + k + 1 → f_K_ways_6 (nI g) (nI k) (nI a) (nI x) h = rI (nI (wyL a x j)) h
  | 0, a, x, hx => by
    rw [e_K_ways_6, i_add, if_pos (by rw [i_lt (by omega) (by omega)]; omega)]; rfl
  | j + 1, a, x, hx => by
    rw [e_K_ways_6, i_add, if_neg (by rw [i_lt (by omega) (by omega)]; omega), i_mul, L1, i_add]
    exact s_wyL hg hk j (a * x) (x + 1) (by omega)
theorem s_ways {g k : Nat} {h : pH} (hg : g < 100) (hk : k < 100) : f_K_ways (nI g) (nI k) h = rI (nI (wy g k)) h := by
  rw [e_K_ways, L1, i_add]
  exact s_wyL hg hk k 1 (g + 1) (by omega)
def wds (b : Nat) : Nat := wy (7 - b) b
theorem s_wordsOf {b : Nat} {h : pH} (hb : b < 6) : f_K_wordsOf (nI b) h = rI (nI (wds b)) h := by
  rw [e_K_wordsOf, L7, i_sub (by omega), s_ways (by omega) (by omega), cI_v]
  rfl
def pop (n : Nat) : Nat := cnt (fun i => n.testBit i) 6
def bcA (x : Int32) : Int32 := x - (ius x (1 : Int32) &&& (1431655765 : Int32))
def bcB (x : Int32) : Int32 := (x &&& (858993459 : Int32)) + (ius x (2 : Int32) &&& (858993459 : Int32))
def bcC (x : Int32) : Int32 := (x + ius x (4 : Int32)) &&& (252645135 : Int32)
def bcD (x : Int32) : Int32 := x + ius x (8 : Int32)
def bcE (x : Int32) : Int32 := (x + ius x (16 : Int32)) &&& (63 : Int32)
theorem s_bitCount {n : Nat} {h : pH} (hn : n < 64) : f_J_bitCount (nI n) h = rI (nI (pop n)) h := by
  have key : ∀ n, n < 64 → bcE (bcD (bcC (bcB (bcA (nI n))))) = nI (pop n) := by decide +kernel
  rw [e_J_bitCount, ← key n hn]
  rfl
/-- the rank of a word, as the class counts it; none: out of the range that is looked at -/
def rkL (P : Nat) : Nat → Nat → Nat → Nat → Nat → Nat → Option Nat
  | 0, _, _, _, acc, _ => some acc
  | k + 1, g, b, S, acc, p =>
    if sl P p = 0 then (if g = 0 then none else rkL P k (g - 1) b S acc (p + 1))
    else if b = 0 then none else rkL P k g (b - 1) (S &&& ((1 <<< sl P p) ^^^ 2097151)) ((if g = 0 then acc else acc + wy (g - 1) b) + pop (S &&& (1 <<< sl P p) - 1) * wy g (b - 1)) (p + 1)
theorem shl1_lt {s : Nat} (hs : s < 8) : 1 <<< s < 256 := by
  have : ∀ s, s < 8 → 1 <<< s < 256 := by decide
  exact this s hs
theorem shl1_pos {s : Nat} (hs : s < 8) : 1 ≤ 1 <<< s := by
  have : ∀ s, s < 8 → 1 ≤ 1 <<< s := by decide
  exact this s hs
theorem i_dec {a : Nat} (ha : 1 ≤ a) : nI a + (-1 : Int32) = nI (a - 1) := by
  obtain ⟨c, rfl⟩ : ∃ c, a = c + 1 := ⟨a - 1, by omega⟩
  rw [Nat.add_sub_cancel, ← i_add, Int32.add_assoc, show nI 1 + (-1 : Int32) = 0 from rfl, Int32.add_zero]
theorem i_dec1 {a : Nat} (ha : 1 ≤ a) : nI a + -nI 1 = nI (a - 1) := i_dec ha
theorem i_m11 {a b : Nat} (ha : a < 2097152) (hb : b < 2097152) : nI a &&& (nI b ^^^ -nI 1) = nI (a &&& (b ^^^ 2097151)) := i_m1 ha hb
theorem s_rkL {P : Nat} {h : pH} (hP : P < 2097152) : ∀ (k g b S acc p r : Nat), p + k = 7 → g < 8 → b < 8 → S < 64 → rkL P k g b S acc p = some r → f_K_rankOf_22 (nI P) (nI g) (nI b) (nI S) (nI acc) (nI p) h = rI (nI r) h
  | 0, g, b, S, acc, p, r, hp, hg, hb, hS, hr => by
    cases hr
    rw [e_K_rankOf_22, if_pos (by rw [L7, i_le (by omega) (by omega)]; omega)]
  | k + 1, g, b, S, acc, p, r, hp, hg, hb, hS, hr => by
    have hs := sl_lt P p
    unfold rkL at hr
    rw [e_K_rankOf_22, if_neg (by rw [L7, i_le (by omega) (by omega)]; omega), s_slotAt hP (by omega), cI_v]
    by_cases h0 : sl P p = 0
    · rw [if_pos h0] at hr
      split at hr
      · cases hr
      · rename_i hg0
        rw [h0, if_pos (by decide), i_dec (by omega), L1, i_add]
        exact s_rkL hP k (g - 1) b S acc (p + 1) r (by omega) (by omega) hb hS hr
    · rw [if_neg h0] at hr
      rw [if_neg (by rw [i_eq0 (by omega)]; exact h0)]
      split at hr
      · cases hr
      · rename_i hb0
        have hS2 : S &&& ((1 <<< sl P p) ^^^ 2097151) < 64 := Nat.lt_of_le_of_lt Nat.and_le_left hS
        have hS3 : S &&& (1 <<< sl P p) - 1 < 64 := Nat.lt_of_le_of_lt Nat.and_le_left hS
        have h64 : ∀ a, f_K_rankOf_64 (nI P) (nI g) (nI b) (nI S) (nI a) (nI p) (nI (sl P p)) h = f_K_rankOf_22 (nI P) (nI g) (nI (b - 1)) (nI (S &&& ((1 <<< sl P p) ^^^ 2097151))) (nI (a + pop (S &&& (1 <<< sl P p) - 1) * wy g (b - 1))) (nI (p + 1)) h := by
          intro a
          have hs1 := shl1_lt hs
          rw [e_K_rankOf_64, L1, i_shl (by omega), i_sub (shl1_pos hs), i_and, s_bitCount hS3, cI_v, i_dec1 (by omega), s_ways (by omega) (by omega), cI_v, i_m11 (by omega) (by omega), i_mul, i_add, i_add]
        by_cases hg0 : g = 0
        · subst hg0
          rw [if_pos (by decide), h64]
          exact s_rkL hP k 0 (b - 1) _ _ (p + 1) r (by omega) (by omega) (by omega) hS2 (by rw [if_pos rfl] at hr; exact hr)
        · rw [if_neg (by rw [i_le0 (by omega)]; exact hg0), L1, i_sub (by omega), s_ways (by omega) (by omega), cI_v, i_add, h64]
          exact s_rkL hP k g (b - 1) _ _ (p + 1) r (by omega) hg (by omega) hS2 (by rw [if_neg hg0] at hr; exact hr)
def rkC (b P : Nat) : Option Nat := rkL P 7 (7 - b) b ((1 <<< (b + 1)) - 2) 0 0
theorem shlb {b : Nat} (hb : b < 6) : (1 <<< (b + 1)) - 2 < 64 ∧ 2 ≤ 1 <<< (b + 1) := by
  have : ∀ b, b < 6 → (1 <<< (b + 1)) - 2 < 64 ∧ 2 ≤ 1 <<< (b + 1) := by decide
  exact this b hb
theorem s_rankOf {b P r : Nat} {h : pH} (hP : P < 2097152) (hb : b < 6) (hr : rkC b P = some r) : f_K_rankOf (nI P) (nI b) h = rI (nI r) h := by
  rw [e_K_rankOf, L7, i_sub (by omega), L1, i_add, i_shl (by omega), L2, i_sub (shlb hb).2]
  exact s_rkL hP 7 (7 - b) b _ 0 0 r rfl (by omega) (by omega) (shlb hb).1 hr
/-- the slot behind so many lesser ones -/
def sbL (S n : Nat) : Nat → Nat → Nat → Nat
  | 0, _, _ => 0
  | k + 1, ps, s => if S.testBit s then (if ps = n then s else sbL S n k (ps + 1) (s + 1)) else sbL S n k ps (s + 1)
theorem s_sbL {S n : Nat} {h : pH} (hS : S < 64) (hn : n < 100000) : ∀ (k ps s : Nat), s + k = 6 → ps < 100 → ps + k < 100 → f_K_slotBehind_4 (nI S) (nI n) (nI ps) (nI s) h = rI (nI (sbL S n k ps s)) h
  | 0, ps, s, hs, _, _ => by
    rw [e_K_slotBehind_4, if_pos (by rw [L5, i_lt (by omega) (by omega)]; omega)]; rfl
  | k + 1, ps, s, hs, h1, h2 => by
    rw [e_K_slotBehind_4, if_neg (by rw [L5, i_lt (by omega) (by omega)]; omega), s_isIn (by omega) (by omega), cI_v]
    unfold sbL
    cases S.testBit s
    · rw [if_pos (by decide), if_neg (by decide), L1, i_add]
      exact s_sbL hS hn k ps (s + 1) (by omega) h1 (by omega)
    · rw [if_neg (by decide), if_pos rfl]
      by_cases h3 : ps = n
      · rw [if_pos (by rw [h3]), if_pos h3]
      · rw [if_neg (by rw [i_inj (by omega) (by omega)]; exact h3), if_neg h3, L1, i_add, i_add]
        exact s_sbL hS hn k (ps + 1) (s + 1) (by omega) (by omega) (by omega)
theorem s_slotBehind {S n : Nat} {h : pH} (hS : S < 64) (hn : n < 100000) : f_K_slotBehind (nI S) (nI n) h = rI (nI (sbL S n 5 0 1)) h := by
  rw [e_K_slotBehind]
  exact s_sbL hS hn 5 0 1 rfl (by omega) (by omega)
theorem sbL_lt {S n : Nat} : ∀ (k ps s : Nat), s + k = 6 → sbL S n k ps s < 8
  | 0, ps, s, hs => by show 0 < 8; omega
  | k + 1, ps, s, hs => by
    unfold sbL
    split
    · split
      · omega
      · exact sbL_lt k _ _ (by omega)
    · exact sbL_lt k _ _ (by omega)
/-- the word of a rank -/
def wdL : Nat → Nat → Nat → Nat → Nat → Nat → Nat → Option Nat
  | 0, _, _, _, _, P, _ => some P
  | k + 1, g, b, S, rest, P, p =>
    if (if g = 0 then 0 else wy (g - 1) b) ≤ rest then
      (if b = 0 ∨ wy g (b - 1) = 0 ∨ 100000 ≤ wy g (b - 1) then none else
        wdL k g (b - 1) (S &&& ((1 <<< sbL S ((rest - (if g = 0 then 0 else wy (g - 1) b)) / wy g (b - 1)) 5 0 1) ^^^ 2097151)) ((rest - (if g = 0 then 0 else wy (g - 1) b)) - (rest - (if g = 0 then 0 else wy (g - 1) b)) / wy g (b - 1) * wy g (b - 1)) (wsl P p (sbL S ((rest - (if g = 0 then 0 else wy (g - 1) b)) / wy g (b - 1)) 5 0 1)) (p + 1))
    else if g = 0 then none else wdL k (g - 1) b S rest P (p + 1)
theorem s_wdL {h : pH} : ∀ (k g b S rest P p r : Nat), P < 2097152 → p + k = 7 → g < 8 → b < 8 → S < 64 → rest < 100000 → (∀ g b, g < 8 → b < 8 → wy g b < 2147483648) → wdL k g b S rest P p = some r → f_K_wordAt_25 (nI g) (nI b) (nI S) (nI rest) (nI P) (nI p) h = rI (nI r) h
  | 0, g, b, S, rest, P, p, r, hP, hp, hg, hb, hS, hre, hw, hr => by
    cases hr
    rw [e_K_wordAt_25, if_pos (by rw [L7, i_le (by omega) (by omega)]; omega)]
  | k + 1, g, b, S, rest, P, p, r, hP, hp, hg, hb, hS, hre, hw, hr => by
    unfold wdL at hr
    have h47 : ∀ w, (w = if g = 0 then 0 else wy (g - 1) b) → f_K_wordAt_47 (nI g) (nI b) (nI S) (nI rest) (nI P) (nI p) (nI w) h = rI (nI r) h := by
      intro w hww
      rw [← hww] at hr
      have hw1 : w < 2147483648 := by
        rw [hww]
        split
        · omega
        · exact hw _ _ (by omega) hb
      rw [e_K_wordAt_47]
      by_cases hc : w ≤ rest
      · rw [if_pos hc] at hr
        rw [if_pos (by rw [i_le hw1 (by omega)]; exact hc)]
        split at hr
        · cases hr
        · rename_i hn
          have hb0 : 1 ≤ b := by omega
          have hx := hw g (b - 1) hg (by omega)
          have hx0 : wy g (b - 1) ≠ 0 := by omega
          have hd : (rest - w) / wy g (b - 1) ≤ rest - w := Nat.div_le_self _ _
          have hmul : (rest - w) / wy g (b - 1) * wy g (b - 1) ≤ rest - w := Nat.div_mul_le_self _ _
          have hsb := sbL_lt (S := S) (n := (rest - w) / wy g (b - 1)) 5 0 1 rfl
          have hs1 := shl1_lt hsb
          rw [i_dec hb0, s_ways (by omega) (by omega), cI_v, if_neg (by rw [i_le0 hx]; exact hx0), if_neg (by rw [i_eq0 hx]; exact hx0), i_sub hc, i_div (by omega) hx, e_K_wordAt_93, s_slotBehind hS (by omega), cI_v, s_withSlot hP (by omega) hsb, cI_v, L1, i_shl (by omega), i_m11 (by omega) (by omega), i_mul, i_sub hmul, i_add]
          exact s_wdL k g (b - 1) _ _ _ (p + 1) r (wsl_lt hP (by omega) hsb) (by omega) hg (by omega) (Nat.lt_of_le_of_lt Nat.and_le_left hS) (by omega) hw hr
      · rw [if_neg hc] at hr
        rw [if_neg (by rw [i_le hw1 (by omega)]; exact hc)]
        split at hr
        · cases hr
        · rename_i hg0
          rw [i_dec (by omega), L1, i_add]
          exact s_wdL k (g - 1) b S rest P (p + 1) r hP (by omega) (by omega) hb hS hre hw hr
    rw [e_K_wordAt_25, if_neg (by rw [L7, i_le (by omega) (by omega)]; omega)]
    by_cases hg0 : g = 0
    · subst hg0
      rw [if_pos (by decide), L0]
      exact h47 0 (by rw [if_pos rfl])
    · rw [if_neg (by rw [i_le0 (by omega)]; exact hg0), L1, i_sub (by omega), s_ways (by omega) (by omega), cI_v]
      exact h47 _ (by rw [if_neg hg0])
def wdC (b r : Nat) : Option Nat := wdL 7 (7 - b) b ((1 <<< (b + 1)) - 2) r 0 0
theorem wy_lt : ∀ g b, g < 8 → b < 8 → wy g b < 2147483648 := by
  have : ∀ g, g < 8 → ∀ b, b < 8 → wy g b < 2147483648 := by decide +kernel
  exact fun g b h1 h2 => this g h1 b h2
theorem s_wordAt {b r P : Nat} {h : pH} (hb : b < 6) (hr : r < 100000) (hw : wdC b r = some P) : f_K_wordAt (nI r) (nI b) h = rI (nI P) h := by
  rw [e_K_wordAt, L7, i_sub (by omega), L1, i_add, i_shl (by omega), L2, i_sub (shlb hb).2]
  exact s_wdL 7 (7 - b) b _ r 0 0 P (by omega) rfl (by omega) (by omega) (shlb hb).1 hr wy_lt hw
