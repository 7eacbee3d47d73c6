/-! the reference's object: its rows, its slots -/
theorem K63 : K0[63]? = some (.inl 8) := rfl
theorem i_w {h : pH} {g : Nat → Nat → Int32} {k i : Nat} {x : Int32} (hi : i < 2147483648) : sI (hS h g) k (Int32.toNatClampNeg (nI i)) x = hS h (s2 g k i x) := by
  rw [i_clamp hi]
  rfl
theorem i_f {h : pH} {g : Nat → Nat → Int32} {k i : Nat} {x : Int32} : sI (hS h g) k i x = hS h (s2 g k i x) := rfl
section YBase
variable {h : pH} {g : Nat → Nat → Int32} {i j : Nat}
theorem yK (w : WF h) : kO (hS h g) 8 63 = true := kO_W (WF_S w) K63
theorem yI (w : WF h) : hI (hS h g) 8 63 j = some (g 63 j) := hI_W (WF_S w) K63
theorem yR0 (w : WF h) : hR (hS h g) 8 63 0 = some 64 := hR_W (WF_S w) K63 (by omega) rfl
theorem yR1 (w : WF h) : hR (hS h g) 8 63 1 = some 65 := hR_W (WF_S w) K63 (by omega) rfl
theorem yR3 (w : WF h) : hR (hS h g) 8 63 3 = some 66 := hR_W (WF_S w) K63 (by omega) rfl
theorem yR5 (w : WF h) : hR (hS h g) 8 63 5 = some 67 := hR_W (WF_S w) K63 (by omega) rfl
theorem yR7 (w : WF h) : hR (hS h g) 8 63 7 = some 68 := hR_W (WF_S w) K63 (by omega) rfl
theorem yR8 (w : WF h) : hR (hS h g) 8 63 8 = some 69 := hR_W (WF_S w) K63 (by omega) rfl
theorem yR9 (w : WF h) : hR (hS h g) 8 63 9 = some 70 := hR_W (WF_S w) K63 (by omega) rfl
theorem yR11 (w : WF h) : hR (hS h g) 8 63 11 = some 71 := hR_W (WF_S w) K63 (by omega) rfl
theorem yR12 (w : WF h) : hR (hS h g) 8 63 12 = some 72 := hR_W (WF_S w) K63 (by omega) rfl
theorem yR14 (w : WF h) : hR (hS h g) 8 63 14 = some 73 := hR_W (WF_S w) K63 (by omega) rfl
theorem yR15 (w : WF h) : hR (hS h g) 8 63 15 = some 74 := hR_W (WF_S w) K63 (by omega) rfl
theorem yR16 (w : WF h) : hR (hS h g) 8 63 16 = some 75 := hR_W (WF_S w) K63 (by omega) rfl
theorem yR17 (w : WF h) : hR (hS h g) 8 63 17 = some 76 := hR_W (WF_S w) K63 (by omega) rfl
theorem yR18 (w : WF h) : hR (hS h g) 8 63 18 = some 77 := hR_W (WF_S w) K63 (by omega) rfl
theorem yA64 (w : WF h) (hi : i < 26) : hA (hS h g) 64 (nI i) = some (g 64 i) := hA_W (WF_S w) (n := 26) rfl hi (by omega)
theorem yB64 (w : WF h) (hi : i < 26) : bA (hS h g) 64 (nI i) = true := bA_W (WF_S w) (n := 26) rfl hi (by omega)
theorem yA65 (w : WF h) (hi : i < 104) : hA (hS h g) 65 (nI i) = some (g 65 i) := hA_W (WF_S w) (n := 104) rfl hi (by omega)
theorem yB65 (w : WF h) (hi : i < 104) : bA (hS h g) 65 (nI i) = true := bA_W (WF_S w) (n := 104) rfl hi (by omega)
theorem yA66 (w : WF h) (hi : i < 26) : hA (hS h g) 66 (nI i) = some (g 66 i) := hA_W (WF_S w) (n := 26) rfl hi (by omega)
theorem yB66 (w : WF h) (hi : i < 26) : bA (hS h g) 66 (nI i) = true := bA_W (WF_S w) (n := 26) rfl hi (by omega)
theorem yA67 (w : WF h) (hi : i < 60) : hA (hS h g) 67 (nI i) = some (g 67 i) := hA_W (WF_S w) (n := 60) rfl hi (by omega)
theorem yB67 (w : WF h) (hi : i < 60) : bA (hS h g) 67 (nI i) = true := bA_W (WF_S w) (n := 60) rfl hi (by omega)
theorem yA68 (w : WF h) (hi : i < 5) : hA (hS h g) 68 (nI i) = some (g 68 i) := hA_W (WF_S w) (n := 5) rfl hi (by omega)
theorem yB68 (w : WF h) (hi : i < 5) : bA (hS h g) 68 (nI i) = true := bA_W (WF_S w) (n := 5) rfl hi (by omega)
theorem yA69 (w : WF h) (hi : i < 5) : hA (hS h g) 69 (nI i) = some (g 69 i) := hA_W (WF_S w) (n := 5) rfl hi (by omega)
theorem yB69 (w : WF h) (hi : i < 5) : bA (hS h g) 69 (nI i) = true := bA_W (WF_S w) (n := 5) rfl hi (by omega)
theorem yA70 (w : WF h) (hi : i < 5) : hA (hS h g) 70 (nI i) = some (g 70 i) := hA_W (WF_S w) (n := 5) rfl hi (by omega)
theorem yB70 (w : WF h) (hi : i < 5) : bA (hS h g) 70 (nI i) = true := bA_W (WF_S w) (n := 5) rfl hi (by omega)
theorem yA71 (w : WF h) (hi : i < 7) : hA (hS h g) 71 (nI i) = some (g 71 i) := hA_W (WF_S w) (n := 7) rfl hi (by omega)
theorem yB71 (w : WF h) (hi : i < 7) : bA (hS h g) 71 (nI i) = true := bA_W (WF_S w) (n := 7) rfl hi (by omega)
theorem yA72 (w : WF h) (hi : i < 7) : hA (hS h g) 72 (nI i) = some (g 72 i) := hA_W (WF_S w) (n := 7) rfl hi (by omega)
theorem yB72 (w : WF h) (hi : i < 7) : bA (hS h g) 72 (nI i) = true := bA_W (WF_S w) (n := 7) rfl hi (by omega)
theorem yA73 (w : WF h) (hi : i < 47880) : hA (hS h g) 73 (nI i) = some (g 73 i) := hA_W (WF_S w) (n := 47880) rfl hi (by omega)
theorem yB73 (w : WF h) (hi : i < 47880) : bA (hS h g) 73 (nI i) = true := bA_W (WF_S w) (n := 47880) rfl hi (by omega)
theorem yA74 (w : WF h) (hi : i < 47880) : hA (hS h g) 74 (nI i) = some (g 74 i) := hA_W (WF_S w) (n := 47880) rfl hi (by omega)
theorem yB74 (w : WF h) (hi : i < 47880) : bA (hS h g) 74 (nI i) = true := bA_W (WF_S w) (n := 47880) rfl hi (by omega)
theorem yA75 (w : WF h) (hi : i < 2520) : hA (hS h g) 75 (nI i) = some (g 75 i) := hA_W (WF_S w) (n := 2520) rfl hi (by omega)
theorem yB75 (w : WF h) (hi : i < 2520) : bA (hS h g) 75 (nI i) = true := bA_W (WF_S w) (n := 2520) rfl hi (by omega)
theorem yA76 (w : WF h) (hi : i < 2520) : hA (hS h g) 76 (nI i) = some (g 76 i) := hA_W (WF_S w) (n := 2520) rfl hi (by omega)
theorem yB76 (w : WF h) (hi : i < 2520) : bA (hS h g) 76 (nI i) = true := bA_W (WF_S w) (n := 2520) rfl hi (by omega)
theorem yA77 (w : WF h) (hi : i < 2520) : hA (hS h g) 77 (nI i) = some (g 77 i) := hA_W (WF_S w) (n := 2520) rfl hi (by omega)
theorem yB77 (w : WF h) (hi : i < 2520) : bA (hS h g) 77 (nI i) = true := bA_W (WF_S w) (n := 2520) rfl hi (by omega)
end YBase
def YSt (c : Nat → Int32) (a : AS) : Prop :=
  (∀ p, p < 7 → c p = if sl (aP a) p = 0 then 0 else nI (aL a (sl (aP a) p) + 1)) ∧
  (∀ p, p < 7 → sl (aP a) p ≠ 0 → c (7 + p) = nI (aO a (sl (aP a) p)) ∧ c (14 + p) = nI ((aS a).testBit (sl (aP a) p)).toNat) ∧
  c 21 = nI (aF a) ∧ c 22 = nI (aC a) ∧ c 23 = aM a ∧ c 24 = aE a ∧ c 25 = aR a
/-- what was looked at: books, their letters, weights, stuck or not -/
def Lk (f : Nat → Nat → Int32) (b : Nat) (L O : Nat → Nat) (S : Nat) : Prop := f 63 10 = nI b ∧ ∀ s, 1 ≤ s → s ≤ b → f 68 (s - 1) = nI (L s) ∧ f 69 (s - 1) = nI (O s) ∧ f 70 (s - 1) = nI (S.testBit s).toNat
def WAt (f : Nat → Nat → Int32) (k P : Nat) : Prop := ∀ p, p < 7 → f k p = nI (sl P p)
theorem cnt_ex {g : Nat → Bool} : ∀ n, cnt g n ≠ 0 → ∃ i, i < n ∧ g i = true
  | 0, hn => absurd rfl hn
  | n + 1, hn => by
    by_cases hg : g n = true
    · exact ⟨n, by omega, hg⟩
    · have hn : cnt g n + (g n).toNat ≠ 0 := hn
      rw [Bool.not_eq_true] at hg
      rw [hg] at hn
      obtain ⟨i, h1, h2⟩ := cnt_ex n hn
      exact ⟨i, by omega, h2⟩
theorem VW_place {b P s : Nat} (hv : VW b P) (h1 : 1 ≤ s) (h2 : s ≤ b) : ∃ q, q < 7 ∧ sl P q = s := by
  have h3 := hv.2.2 s h1 h2
  obtain ⟨q, hq, e⟩ := cnt_ex (g := fun p => sl P p == s) 7 (by
    show cs P s ≠ 0
    rw [h3]
    omega)
  exact ⟨q, hq, by simpa using e⟩
def LkI (f g : Nat → Nat → Int32) (a : AS) (l p n : Nat) : Prop :=
  n ≤ aB a ∧ g 63 10 = nI n ∧
  (∀ s, 1 ≤ s → s ≤ n → g 68 (s - 1) = nI (aL a s) ∧ g 69 (s - 1) = nI (aO a s) ∧ g 70 (s - 1) = nI ((aS a).testBit s).toNat) ∧
  (∀ q, q < 7 → g 71 q = nI (if sl (aP a) q ≤ n then sl (aP a) q else 0)) ∧
  (∀ s, 1 ≤ s → s ≤ n → aL a s + 1 ≤ l ∧ (aL a s + 1 = l → ∀ q, q < 7 → sl (aP a) q = s → q < p)) ∧
  (∀ s, n < s → s ≤ aB a → l ≤ aL a s + 1 ∧ (aL a s + 1 = l → ∀ q, q < 7 → sl (aP a) q = s → p ≤ q)) ∧
  Off f g [63, 68, 69, 70, 71] ∧ ∀ j, j ≠ 10 → g 63 j = f 63 j
def Lkd (f g : Nat → Nat → Int32) (a : AS) : Prop := Lk g (aB a) (aL a) (aO a) (aS a) ∧ WAt g 71 (aP a) ∧ Off f g [63, 68, 69, 70, 71] ∧ ∀ j, j ≠ 10 → g 63 j = f 63 j
section Looks
variable {h : pH} {f : Nat → Nat → Int32} {a : AS}
theorem s_Ylooks_36 (w : WF h) (ha : AOK a) (hs : YSt (f 64) a) {l : Nat} (hl1 : 1 ≤ l) (hl : l < 27) : ∀ (k p n : Nat) (g : Nat → Nat → Int32), p + k = 7 → LkI f g a l p n → ∃ g' n', f_Y_looks_36 63 (nI l) (nI p) (hS h g) = f_Y_looks_28 63 (nI (l + 1)) (hS h g') ∧ LkI f g' a (l + 1) 0 n'
  | 0, p, n, g, hp, hI => by
    obtain ⟨i1, i2, i3, i4, i5, i6, i7, i8⟩ := hI
    refine ⟨g, n, ?_, i1, i2, i3, i4, fun s h1 h2 => ?_, fun s h1 h2 => ?_, i7, i8⟩
    · rw [e_Y_looks_36, L7, if_pos ((i_le (by omega) (by omega)).2 (by omega)), L1, i_add]
    · have := (i5 s h1 h2).1
      exact ⟨by omega, fun e => by omega⟩
    · obtain ⟨q1, q2⟩ := i6 s h1 h2
      obtain ⟨q, hq, e⟩ := VW_place ha.1 (show 1 ≤ s by omega) h2
      have : aL a s + 1 ≠ l := fun e2 => by
        have := q2 e2 q hq e
        omega
      exact ⟨by omega, fun _ _ _ _ => Nat.zero_le _⟩
  | k + 1, p, n, g, hp, hI => by
    obtain ⟨i1, i2, i3, i4, i5, i6, i7, i8⟩ := hI
    have hb := ha.2.1
    have hp7 : p < 7 := by omega
    have g64 : g 64 = f 64 := i7 64 (by simp)
    have hc := hs.1 p hp7
    have hsl := ha.1.2.1 p hp7
    have hL : ∀ s, 1 ≤ s → s ≤ aB a → aL a s < 26 := fun s s1 s2 => (ha.2.2.2.2.2.2.1 s s1 s2).1
    rw [e_Y_looks_36, L7, if_neg (fun q => absurd ((i_le (by omega) (by omega)).1 q) (by omega))]
    simp only [yR0 w, oo_v, L0, i_add, yA64 w (show 0 + p < 26 by omega)]
    rw [Nat.zero_add, g64, hc]
    by_cases hz : sl (aP a) p ≠ 0 ∧ aL a (sl (aP a) p) + 1 = l
    · obtain ⟨z1, z2⟩ := hz
      obtain ⟨d1, d2⟩ := hs.2.1 p hp7 z1
      have hns : n < sl (aP a) p := by
        rcases Nat.lt_or_ge n (sl (aP a) p) with q | q
        · exact q
        · have := (i5 (sl (aP a) p) (by omega) q).2 z2 p hp7 rfl
          omega
      have hn1 : sl (aP a) p = n + 1 := by
        rcases Nat.lt_or_ge (n + 1) (sl (aP a) p) with q | q
        · have h1 := ha.2.2.2.2.2.2.2 (n + 1) (sl (aP a) p) (by omega) q hsl
          have h2 := (i6 (n + 1) (by omega) (by omega)).1
          omega
        · omega
      rw [hn1] at z1 z2 d1 d2 hsl
      rw [hn1, if_neg z1, if_pos (by rw [z2])]
      simp only [yR7 w, yI w, oo_v, i2, yB68 w (show n < 5 by omega), if_true]
      rw [L1, i_sub hl1]
      simp only [i_w (show n < 2147483648 by omega), yR8 w, yI w, yR0 w, oo_v]
      rw [show s2 g 68 n (nI (l - 1)) 63 10 = nI n by simp [s2_at, i2]]
      simp only [L7, i_add, yA64 w (show 7 + p < 26 by omega), oo_v, yB69 w (show n < 5 by omega), if_true, i_w (show n < 2147483648 by omega), yR9 w, yI w, yR0 w]
      rw [show s2 (s2 g 68 n (nI (l - 1))) 69 n (s2 g 68 n (nI (l - 1)) 64 (7 + p)) 63 10 = nI n by simp [s2_at, i2]]
      rw [show (14 : Int32) = nI 14 from rfl]
      simp only [i_add, yA64 w (show 14 + p < 26 by omega), oo_v, yB70 w (show n < 5 by omega), if_true, i_w (show n < 2147483648 by omega), yI w, yK w, i_f, yR11 w, yB71 w hp7, i_w (show p < 2147483648 by omega)]
      rw [show s2 g 68 n (nI (l - 1)) 64 (7 + p) = nI (aO a (n + 1)) by rw [← d1, ← g64]; simp [s2_at]]
      rw [show s2 (s2 g 68 n (nI (l - 1))) 69 n (nI (aO a (n + 1))) 64 (14 + p) = nI ((aS a).testBit (n + 1)).toNat by rw [← d2, ← g64]; simp [s2_at]]
      rw [show s2 (s2 (s2 g 68 n (nI (l - 1))) 69 n (nI (aO a (n + 1)))) 70 n (nI ((aS a).testBit (n + 1)).toNat) 63 10 = nI n by simp [s2_at, i2], i_add]
      rw [show s2 (s2 (s2 (s2 g 68 n (nI (l - 1))) 69 n (nI (aO a (n + 1)))) 70 n (nI ((aS a).testBit (n + 1)).toNat)) 63 10 (nI (n + 1)) 63 10 = nI (n + 1) by simp [s2_at]]
      refine s_Ylooks_36 w ha hs hl1 hl k (p + 1) (n + 1) _ (by omega) ⟨hsl, by simp [s2_at], fun s h1 h2 => ?_, fun q hq => ?_, fun s h1 h2 => ?_, fun s h1 h2 => ?_, ?_, fun j hj => ?_⟩
      · by_cases hsn : s = n + 1
        · subst hsn
          simp [s2_at, show l - 1 = aL a (n + 1) by omega]
        · have h3 := i3 s h1 (by omega)
          have h4 : ¬ s - 1 = n := by omega
          simp [s2_at, h4, h3]
      · by_cases hqp : q = p
        · subst hqp
          rw [if_pos (by omega), hn1]
          simp [s2_at]
        · have h3 : sl (aP a) q ≠ n + 1 := fun e => hqp (cs_at ha.1 hp7 (by omega) q hq (by omega))
          have h4 := i4 q hq
          have h5 : (if sl (aP a) q ≤ n + 1 then sl (aP a) q else 0) = (if sl (aP a) q ≤ n then sl (aP a) q else 0) := by
            by_cases h6 : sl (aP a) q ≤ n
            · rw [if_pos h6, if_pos (by omega)]
            · rw [if_neg h6, if_neg (by omega)]
          rw [h5, ← h4]
          simp [s2_at, hqp]
      · by_cases hsn : s = n + 1
        · subst hsn
          refine ⟨by omega, fun _ q hq e => ?_⟩
          have := cs_at ha.1 hp7 (by omega) q hq (by omega)
          omega
        · obtain ⟨h3, h4⟩ := i5 s h1 (by omega)
          exact ⟨h3, fun e q hq e2 => by have := h4 e q hq e2; omega⟩
      · obtain ⟨h3, h4⟩ := i6 s (by omega) h2
        refine ⟨h3, fun e => ?_⟩
        have h5 := ha.2.2.2.2.2.2.2 (n + 1) s (by omega) (by omega) h2
        omega
      · exact Off.tr i7 (Off.tr (s2_off (by simp)) (Off.tr (s2_off (by simp)) (Off.tr (s2_off (by simp)) (Off.tr (s2_off (by simp)) (s2_off (by simp))))))
      · rw [← i8 j hj]
        simp [s2_at, hj]
    · have hne : ¬ (if sl (aP a) p = 0 then (0 : Int32) else nI (aL a (sl (aP a) p) + 1)) = nI l := by
        by_cases h0 : sl (aP a) p = 0
        · rw [if_pos h0, L0, i_inj (by omega) (by omega)]
          omega
        · have := hL (sl (aP a) p) (by omega) hsl
          rw [if_neg h0, i_inj (by omega) (by omega)]
          exact fun e => hz ⟨h0, e⟩
      rw [if_neg hne, L1, i_add]
      refine s_Ylooks_36 w ha hs hl1 hl k (p + 1) n g (by omega) ⟨i1, i2, i3, i4, fun s h1 h2 => ?_, fun s h1 h2 => ?_, i7, i8⟩
      · obtain ⟨h3, h4⟩ := i5 s h1 h2
        exact ⟨h3, fun e q hq e2 => by have := h4 e q hq e2; omega⟩
      · obtain ⟨h3, h4⟩ := i6 s h1 h2
        refine ⟨h3, fun e q hq e2 => ?_⟩
        have h5 := h4 e q hq e2
        rcases Nat.lt_or_ge p q with h6 | h6
        · exact h6
        · exfalso
          have h7 : q = p := by omega
          rw [h7] at e2
          exact hz ⟨by omega, by rw [e2]; exact e⟩
theorem s_Ylooks_28 (w : WF h) (ha : AOK a) (hs : YSt (f 64) a) : ∀ (k l n : Nat) (g : Nat → Nat → Int32), l + k = 27 → 1 ≤ l → LkI f g a l 0 n → ∃ g', f_Y_looks_28 63 (nI l) (hS h g) = rV (hS h g') ∧ Lkd f g' a
  | 0, l, n, g, hk, hl, hI => by
    obtain ⟨i1, i2, i3, i4, i5, i6, i7, i8⟩ := hI
    have hnb : n = aB a := by
      rcases Nat.lt_or_ge n (aB a) with q | q
      · have h1 := (i6 (aB a) q (Nat.le_refl _)).1
        have h2 := (ha.2.2.2.2.2.2.1 (aB a) (by omega) (Nat.le_refl _)).1
        omega
      · omega
    subst hnb
    refine ⟨g, ?_, ⟨i2, i3⟩, fun q hq => ?_, i7, i8⟩
    · rw [e_Y_looks_28, L26, if_pos ((i_lt (by omega) (by omega)).2 (by omega))]
    · rw [i4 q hq, if_pos (ha.1.2.1 q hq)]
  | k + 1, l, n, g, hk, hl, hI => by
    obtain ⟨g', n', e1, e2⟩ := s_Ylooks_36 w ha hs hl (by omega) 7 0 n g (by omega) hI
    obtain ⟨g'', e3, e4⟩ := s_Ylooks_28 w ha hs k (l + 1) n' g' (by omega) (by omega) e2
    refine ⟨g'', ?_, e4⟩
    rw [e_Y_looks_28, L26, if_neg (fun q => absurd ((i_lt (by omega) (by omega)).1 q) (by omega)), L0, e1, e3]
theorem s_Ylooks_7 (w : WF h) (ha : AOK a) (hs : YSt (f 64) a) : ∀ (k p : Nat) (g : Nat → Nat → Int32), p + k = 7 → g 63 10 = nI 0 → (∀ q, q < p → g 71 q = nI 0) → Off f g [63, 68, 69, 70, 71] → (∀ j, j ≠ 10 → g 63 j = f 63 j) → ∃ g', f_Y_looks_7 63 (nI p) (hS h g) = rV (hS h g') ∧ Lkd f g' a
  | 0, p, g, hk, h1, h2, h3, h4 => by
    obtain ⟨g', e1, e2⟩ := s_Ylooks_28 w ha hs 26 1 0 g (by omega) (by omega) ⟨Nat.zero_le _, h1, fun s _ _ => by omega, fun q hq => by
      rw [h2 q (by omega)]
      by_cases h0 : sl (aP a) q ≤ 0
      · rw [if_pos h0, show sl (aP a) q = 0 by omega]
      · rw [if_neg h0], fun s _ _ => by omega, fun s h1 h2 => ⟨by omega, fun _ _ _ _ => Nat.zero_le _⟩, h3, h4⟩
    refine ⟨g', ?_, e2⟩
    rw [e_Y_looks_7, L7, if_pos ((i_le (by omega) (by omega)).2 (by omega)), L1]
    exact e1
  | k + 1, p, g, hk, h1, h2, h3, h4 => by
    rw [e_Y_looks_7, L7, if_neg (fun q => absurd ((i_le (by omega) (by omega)).1 q) (by omega))]
    simp only [yR11 w, oo_v, yB71 w (show p < 7 by omega), if_true, i_w (show p < 2147483648 by omega), L1, i_add]
    refine s_Ylooks_7 w ha hs k (p + 1) _ (by omega) (by simp [s2_at, h1]) (fun q hq => ?_) (Off.tr h3 (s2_off (by simp))) (fun j hj => by rw [← h4 j hj]; simp [s2_at])
    by_cases hqp : q = p
    · subst hqp
      simp [s2_at]
      rfl
    · have := h2 q (by omega)
      simp [s2_at, hqp, this]
theorem s_Ylooks (w : WF h) (ha : AOK a) (hs : YSt (f 64) a) : ∃ g, f_Y_looks 63 (hS h f) = rV (hS h g) ∧ Lkd f g a := by
  rw [e_Y_looks, if_pos (yK w), i_f, L0]
  exact s_Ylooks_7 w ha hs 7 0 _ (by omega) (by simp [s2_at]) (fun _ hq => absurd hq (Nat.not_lt_zero _)) (s2_off (by simp)) (fun j hj => by simp [s2_at, hj])
theorem s_YbooksNow (w : WF h) (ha : AOK a) (hs : YSt (f 64) a) : ∃ g, f_Y_booksNow 63 (hS h f) = rI (nI (aB a)) (hS h g) ∧ Lkd f g a := by
  obtain ⟨g, e1, e2⟩ := s_Ylooks w ha hs
  refine ⟨g, ?_, e2⟩
  rw [e_Y_booksNow, if_pos (yK w), e1, cV_v, yI w, oo_v, e2.1.1]
end Looks
