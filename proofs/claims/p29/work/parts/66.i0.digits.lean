/-! least ways are short. Digits of packed numbers -/
def dg (k X i : Nat) : Nat := (X >>> (k * i)) % 2 ^ k
theorem dg_s {k X i : Nat} : dg k X (i + 1) = dg k (X >>> k) i := by
  unfold dg
  rw [← Nat.shiftRight_add, Nat.mul_succ, Nat.add_comm]
theorem dg_lt {k X i : Nat} : dg k X i < 2 ^ k := Nat.mod_lt _ (Nat.two_pow_pos k)
theorem shr_add {k X Y : Nat} (h : X % 2 ^ k + Y % 2 ^ k < 2 ^ k) : (X + Y) >>> k = X >>> k + Y >>> k := by
  rw [Nat.shiftRight_eq_div_pow, Nat.shiftRight_eq_div_pow, Nat.shiftRight_eq_div_pow]
  have hx := Nat.div_add_mod X (2 ^ k)
  have hy := Nat.div_add_mod Y (2 ^ k)
  have e : X + Y = (X % 2 ^ k + Y % 2 ^ k) + 2 ^ k * (X / 2 ^ k + Y / 2 ^ k) := by
    rw [Nat.mul_add]
    omega
  have e2 : (X + Y) / 2 ^ k = ((X % 2 ^ k + Y % 2 ^ k) + 2 ^ k * (X / 2 ^ k + Y / 2 ^ k)) / 2 ^ k := congrArg (· / 2 ^ k) e
  rw [e2, Nat.add_mul_div_left _ _ (Nat.two_pow_pos k), Nat.div_eq_of_lt h, Nat.zero_add]
theorem dg_add {k : Nat} : ∀ (i X Y : Nat), (∀ j, j ≤ i → dg k X j + dg k Y j < 2 ^ k) → dg k (X + Y) i = dg k X i + dg k Y i
  | 0, X, Y, h => by
    have h0 := h 0 (Nat.le_refl _)
    unfold dg at h0 ⊢
    rw [Nat.mul_zero, Nat.shiftRight_zero, Nat.shiftRight_zero] at *
    rw [Nat.shiftRight_zero, Nat.add_mod, Nat.mod_eq_of_lt h0]
  | i + 1, X, Y, h => by
    have h0 := h 0 (Nat.zero_le _)
    unfold dg at h0
    rw [Nat.mul_zero, Nat.shiftRight_zero, Nat.shiftRight_zero] at h0
    rw [dg_s, dg_s, dg_s, shr_add h0]
    exact dg_add i _ _ (fun j hj => by
      have := h (j + 1) (by omega)
      rw [dg_s, dg_s] at this
      exact this)
theorem dg_and {k X Y i : Nat} : dg k (X &&& Y) i = dg k X i &&& dg k Y i := by
  unfold dg
  rw [Nat.shiftRight_and_distrib, Nat.and_mod_two_pow]
theorem dg_0 {k i : Nat} : dg k 0 i = 0 := by
  unfold dg
  rw [Nat.zero_shiftRight, Nat.zero_mod]
theorem hf_5 : ∀ d, d < 32 → d &&& 16 = 0 → d < 16 := by decide
theorem hf_6 : ∀ d, d < 64 → d &&& 32 = 0 → d < 32 := by decide
/-- half of the numbers of a digit -/
abbrev hf (k : Nat) : Nat := 2 ^ (k - 1)
theorem dg_half {k D G i : Nat} (hk : k = 5 ∨ k = 6) (h : D &&& G = 0) (hG : dg k G i = hf k) : dg k D i < hf k := by
  have h1 := dg_and (k := k) (X := D) (Y := G) (i := i)
  rw [h, dg_0, hG] at h1
  have h2 := dg_lt (k := k) (X := D) (i := i)
  rcases hk with rfl | rfl
  · exact hf_5 _ h2 h1.symm
  · exact hf_6 _ h2 h1.symm
theorem sw_le {k X Z G n : Nat} (hk : k = 5 ∨ k = 6) (h1 : X ≤ Z) (h2 : (Z - X) &&& G = 0) (hG : ∀ i, i < n → dg k G i = hf k) (hX : ∀ i, i < n → dg k X i ≤ hf k) : ∀ i, i < n → dg k X i ≤ dg k Z i := by
  intro i hi
  have e : Z = (Z - X) + X := by omega
  rw [e, dg_add i (Z - X) X (fun j hj => by
    have a1 := dg_half hk h2 (hG j (by omega))
    have a2 := hX j (by omega)
    rcases hk with rfl | rfl <;> (unfold hf at a1 a2; omega))]
  omega
/-- fields that lie further on -/
theorem dg_blk {k X a n i : Nat} (hi : i < n) : dg k ((X >>> (k * a)) % 2 ^ (k * n)) i = dg k X (a + i) := by
  unfold dg
  rw [Nat.mul_add, Nat.shiftRight_add]
  obtain ⟨d, rfl⟩ : ∃ d, n = i + 1 + d := ⟨n - (i + 1), by omega⟩
  generalize X >>> (k * a) = Y
  rw [Nat.shiftRight_eq_div_pow, Nat.shiftRight_eq_div_pow, show k * (i + 1 + d) = k * i + (k + k * d) by rw [Nat.mul_add, Nat.mul_add, Nat.mul_one, Nat.add_assoc], Nat.pow_add 2 (k * i), Nat.mod_mul_right_div_self, Nat.pow_add, Nat.mod_mul_right_mod]
/-! ways as lists of moves -/
section Ways
variable (E : Nat → Nat → Option Nat) (g : Nat → Bool)
def Wy : List Nat → Nat → Prop
  | [], r => g r = true
  | m :: ms, r => m < 19 ∧ ∃ r', E r m = some r' ∧ Wy ms r'
def ct (q : Nat → Nat → Nat) : List Nat → Nat → Nat
  | [], _ => 0
  | m :: ms, r => q r m + match E r m with
    | none => 0
    | some r' => ct q ms r'
variable {E g}
theorem pt_wy {p : Nat → Nat → Nat} : ∀ (n r w : Nat), Pt E p g n r w → ∃ ms, Wy E g ms r ∧ ms.length = n ∧ ct E p ms r = w
  | 0, r, w, h => ⟨[], h.1, rfl, h.2.symm⟩
  | n + 1, r, w, h => by
    obtain ⟨m, r', w', h1, h2, h3, h4⟩ := h
    obtain ⟨ms, a1, a2, a3⟩ := pt_wy n r' w' h3
    refine ⟨m :: ms, ⟨h1, r', h2, a1⟩, by rw [List.length_cons, a2], ?_⟩
    show p r m + (match E r m with | none => 0 | some r' => ct E p ms r') = w
    rw [h2, h4]
    dsimp only
    rw [a3]
theorem wy_pt {p : Nat → Nat → Nat} : ∀ (ms : List Nat) (r : Nat), Wy E g ms r → Pt E p g ms.length r (ct E p ms r)
  | [], r, h => ⟨h, rfl⟩
  | m :: ms, r, h => by
    obtain ⟨h1, r', h2, h3⟩ := h
    refine ⟨m, r', ct E p ms r', h1, h2, wy_pt ms r' h3, ?_⟩
    show p r m + (match E r m with | none => 0 | some r' => ct E p ms r') = _
    rw [h2]
theorem ct_sum {N : Nat} (hE : ∀ r m r', r < N → m < 19 → E r m = some r' → r' < N) {p : Nat → Nat → Nat} {q : Nat → Nat → Nat → Nat} {T : Nat} (hq : ∀ r m r', r < N → m < 19 → E r m = some r' → p r m = sm (fun t => q t r m) T) : ∀ (ms : List Nat) (r : Nat), r < N → Wy E g ms r → ct E p ms r = sm (fun t => ct E (q t) ms r) T
  | [], r, _, _ => by
    show 0 = sm (fun _ => 0) T
    rw [sm_zero]
  | m :: ms, r, hr, h => by
    obtain ⟨h1, r', h2, h3⟩ := h
    have ih := ct_sum hE hq ms r' (hE r m r' hr h1 h2) h3
    have e : ∀ f : Nat → Nat → Nat, ct E f (m :: ms) r = f r m + ct E f ms r' := fun f => by
      show f r m + (match E r m with | none => 0 | some r' => ct E f ms r') = _
      rw [h2]
    rw [e, ih, hq r m r' hr h1 h2, ← sm_add]
    exact sm_congr T fun t _ => (e (q t)).symm
theorem ct_pot {N : Nat} (hE : ∀ r m r', r < N → m < 19 → E r m = some r' → r' < N) {q : Nat → Nat → Nat} {mu : Nat → Nat} (h1 : ∀ r m r', r < N → m < 19 → E r m = some r' → mu r ≤ q r m + mu r') (h0 : ∀ r, r < N → g r = true → mu r = 0) : ∀ (ms : List Nat) (r : Nat), r < N → Wy E g ms r → mu r ≤ ct E q ms r
  | [], r, hr, h => by
    rw [h0 r hr h]
    exact Nat.zero_le _
  | m :: ms, r, hr, h => by
    obtain ⟨a1, r', a2, a3⟩ := h
    have ih := ct_pot hE h1 h0 ms r' (hE r m r' hr a1 a2) a3
    have := h1 r m r' hr a1 a2
    show _ ≤ q r m + (match E r m with | none => 0 | some r' => ct E q ms r')
    rw [a2]
    dsimp only
    omega
end Ways
/-! prices by levels of weight -/
/-- does a move touch one of these slots -/
def tc (h : Nat → Bool) (P m : Nat) : Nat := if m < 7 then (h (sl P m)).toNat else (h (sl P (plc m)) || h (sl P (plc m + 1))).toNat
theorem lev_max : ∀ x, x < 10 → ∀ y, y < 10 → max x y = sm (fun t => (decide (t + 1 ≤ x) || decide (t + 1 ≤ y)).toNat) 9 := by decide
theorem lev_one : ∀ x, x < 10 → x = sm (fun t => (decide (t + 1 ≤ x)).toNat) 9 := by decide
theorem prc_lev {O : Nat → Nat} {P m : Nat} (hO : ∀ p, p < 7 → O (sl P p) ≤ 9) (hm : m < 19) : prc O P m = sm (fun t => tc (fun s => decide (t + 1 ≤ O s)) P m) 9 := by
  unfold prc tc
  by_cases h7 : m < 7
  · rw [if_pos h7]
    have := lev_one (O (sl P m)) (by have := hO m h7; omega)
    exact this.trans (sm_congr 9 fun t _ => by rw [if_pos h7])
  · have hp := plc_lt6 hm h7
    rw [if_neg h7]
    have h1 := hO (plc m) (by omega)
    have h2 := hO (plc m + 1) (by omega)
    exact (lev_max _ (by omega) _ (by omega)).trans (sm_congr 9 fun t _ => by rw [if_neg h7])
/-- a least way is not longer than 60, if each way goes a good way round -/
theorem soft {E : Nat → Nat → Option Nat} {g : Nat → Bool} {N : Nat} {p : Nat → Nat → Nat} {q : Nat → Nat → Nat → Nat} (hE : ∀ r m r', r < N → m < 19 → E r m = some r' → r' < N) (hq : ∀ r m r', r < N → m < 19 → E r m = some r' → p r m = sm (fun t => q t r m) 9) (hq0 : ∀ r m r', r < N → m < 19 → E r m = some r' → q 0 r m = 1)
    {mu : Nat → Nat} {n r w K : Nat} (hr : r < N) (hP : Pt E p g n r w) (hL : Lst E p g r w) (hmu : ∀ t, 1 ≤ t → t < 9 → ∀ ms, Wy E g ms r → mu t ≤ ct E (q t) ms r)
    {us : List Nat} (hU : Wy E g us r) (hK : us.length + 8 * K ≤ 60) (hu : ∀ t, 1 ≤ t → t < 9 → ct E (q t) us r ≤ K + mu t) : n ≤ 60 := by
  obtain ⟨ms, h1, h2, h3⟩ := pt_wy n r w hP
  have hlen : ∀ (ms : List Nat) (r : Nat), r < N → Wy E g ms r → ct E (q 0) ms r = ms.length := by
    intro ms
    induction ms with
    | nil => exact fun _ _ _ => rfl
    | cons m ms ih =>
      intro r hr h
      obtain ⟨a1, r', a2, a3⟩ := h
      show q 0 r m + (match E r m with | none => 0 | some r' => ct E (q 0) ms r') = _
      rw [a2]
      dsimp only
      rw [ih r' (hE r m r' hr a1 a2) a3, hq0 r m r' hr a1 a2, List.length_cons]
      omega
  have e1 := ct_sum hE hq ms r hr h1
  have e2 := ct_sum hE hq us r hr hU
  have hw := hL.2 _ _ (wy_pt (p := p) us r hU)
  have l1 := hlen ms r hr h1
  have l2 := hlen us r hr hU
  simp only [sm] at e1 e2
  have b1 := hmu 1 (by omega) (by omega) ms h1
  have b2 := hmu 2 (by omega) (by omega) ms h1
  have b3 := hmu 3 (by omega) (by omega) ms h1
  have b4 := hmu 4 (by omega) (by omega) ms h1
  have b5 := hmu 5 (by omega) (by omega) ms h1
  have b6 := hmu 6 (by omega) (by omega) ms h1
  have b7 := hmu 7 (by omega) (by omega) ms h1
  have b8 := hmu 8 (by omega) (by omega) ms h1
  have u1 := hu 1 (by omega) (by omega)
  have u2 := hu 2 (by omega) (by omega)
  have u3 := hu 3 (by omega) (by omega)
  have u4 := hu 4 (by omega) (by omega)
  have u5 := hu 5 (by omega) (by omega)
  have u6 := hu 6 (by omega) (by omega)
  have u7 := hu 7 (by omega) (by omega)
  have u8 := hu 8 (by omega) (by omega)
  omega
