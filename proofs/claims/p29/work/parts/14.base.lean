/-! numbers: ints that are written as Nat -/
theorem i_add (a b : Nat) : nI a + nI b = nI (a + b) := (Int32.ofNat_add a b).symm
theorem i_mul (a b : Nat) : nI a * nI b = nI (a * b) := (Int32.ofNat_mul a b).symm
theorem i_toInt {a : Nat} (h : a < 2147483648) : (nI a).toInt = (a : Int) := nI_toInt h
theorem i_inj {a b : Nat} (ha : a < 2147483648) (hb : b < 2147483648) : nI a = nI b ↔ a = b := by
  constructor
  · intro h
    have h1 := congrArg Int32.toInt h
    rw [i_toInt ha, i_toInt hb] at h1
    omega
  · rintro rfl; rfl
theorem i_le {a b : Nat} (ha : a < 2147483648) (hb : b < 2147483648) : nI a ≤ nI b ↔ a ≤ b := by
  rw [Int32.le_iff_toInt_le, i_toInt ha, i_toInt hb]
  omega
theorem i_lt {a b : Nat} (ha : a < 2147483648) (hb : b < 2147483648) : nI a < nI b ↔ a < b := by
  rw [Int32.lt_iff_toInt_lt, i_toInt ha, i_toInt hb]
  omega
theorem i_sub {a b : Nat} (h : b ≤ a) : nI a - nI b = nI (a - b) := by
  have h1 := i_add (a - b) b
  rw [Nat.sub_add_cancel h] at h1
  rw [← h1, Int32.add_sub_cancel]
theorem i_clamp {a : Nat} (h : a < 2147483648) : (nI a).toNatClampNeg = a := nI_clamp h
theorem i_nneg {a : Nat} (h : a < 2147483648) : ¬ nI a < 0 := by
  rw [Int32.lt_iff_toInt_lt, i_toInt h, Int32.toInt_zero]
  omega
theorem i_div {a b : Nat} (ha : a < 2147483648) (hb : b < 2147483648) : nI a / nI b = nI (a / b) := by
  apply Int32.toInt_inj.mp
  rw [Int32.toInt_div, i_toInt ha, i_toInt hb, i_toInt (Nat.lt_of_le_of_lt (Nat.div_le_self a b) ha), Int.tdiv_eq_ediv_of_nonneg (by omega)]
  have h1 : ((a : Int) / (b : Int)) = ((a / b : Nat) : Int) := by simp
  rw [h1]
  have h2 : a / b ≤ a := Nat.div_le_self a b
  generalize a / b = q at h2 ⊢
  exact Int.bmod_eq_of_le (by omega) (by omega)
theorem i_bv (a : Nat) : (nI a).toBitVec = BitVec.ofNat 32 a := rfl
theorem i_and (a b : Nat) : nI a &&& nI b = nI (a &&& b) := by
  apply Int32.toBitVec_inj.mp
  rw [Int32.toBitVec_and, i_bv, i_bv, i_bv]
  apply BitVec.eq_of_toNat_eq
  simp [Nat.and_mod_two_pow]
theorem i_or (a b : Nat) : nI a ||| nI b = nI (a ||| b) := by
  apply Int32.toBitVec_inj.mp
  rw [Int32.toBitVec_or, i_bv, i_bv, i_bv]
  apply BitVec.eq_of_toNat_eq
  simp [Nat.or_mod_two_pow]
theorem i_xor (a b : Nat) : nI a ^^^ nI b = nI (a ^^^ b) := by
  apply Int32.toBitVec_inj.mp
  rw [Int32.toBitVec_xor, i_bv, i_bv, i_bv]
  apply BitVec.eq_of_toNat_eq
  simp [Nat.xor_mod_two_pow]
theorem smod32 : ∀ s, s < 32 → (BitVec.ofNat 32 s).smod 32 = BitVec.ofNat 32 s := by decide
theorem i_shl {a s : Nat} (hs : s < 32) : nI a <<< (nI s &&& 31) = nI (a <<< s) := by
  rw [show (31 : Int32) = nI 31 from rfl, i_and, show s &&& 31 = s from by
    rw [show (31 : Nat) = 2 ^ 5 - 1 from rfl, Nat.and_two_pow_sub_one_eq_mod]
    omega]
  apply Int32.toBitVec_inj.mp
  rw [Int32.toBitVec_shiftLeft, i_bv, i_bv, i_bv, smod32 s hs, BitVec.shiftLeft_eq']
  apply BitVec.eq_of_toNat_eq
  have h2 : s % 4294967296 = s := by omega
  simp [BitVec.toNat_shiftLeft, h2, Nat.shiftLeft_eq, Nat.mod_mul_mod]
theorem and31 {s : Nat} (hs : s < 32) : s &&& 31 = s := by
  rw [show (31 : Nat) = 2 ^ 5 - 1 from rfl, Nat.and_two_pow_sub_one_eq_mod]
  omega
theorem i_ius {a s : Nat} (ha : a < 2147483648) (hs : s < 32) : ius (nI a) (nI s) = nI (a >>> s) := by
  apply Int32.toBitVec_inj.mp
  have h1 : (ius (nI a) (nI s)).toBitVec = (nI a).toBitVec >>> (((nI s).toBitVec &&& 31#32) % 32#32) := rfl
  rw [h1, i_bv, i_bv, i_bv, BitVec.ushiftRight_eq']
  apply BitVec.eq_of_toNat_eq
  have h2 : s % 4294967296 = s := by omega
  have h3 : a % 4294967296 = a := by omega
  have h4 : s % 32 = s := by omega
  have h5 : a >>> s ≤ a := by rw [Nat.shiftRight_eq_div_pow]; exact Nat.div_le_self _ _
  simp [h2, h3, and31 hs, h4]
  exact (Nat.mod_eq_of_lt (Nat.lt_of_le_of_lt h5 (by omega))).symm
theorem i_m1 {a b : Nat} (ha : a < 2097152) (hb : b < 2097152) : nI a &&& (nI b ^^^ (-1 : Int32)) = nI (a &&& (b ^^^ 2097151)) := by
  apply Int32.toBitVec_inj.mp
  rw [Int32.toBitVec_and, Int32.toBitVec_xor, i_bv, i_bv, i_bv, show (-1 : Int32).toBitVec = BitVec.ofNat 32 (2 ^ 32 - 1) from by decide]
  apply BitVec.eq_of_toNat_eq
  have h2 : a % 4294967296 = a := by omega
  have h3 : b % 4294967296 = b := by omega
  have h4 : a &&& (b ^^^ 2097151) ≤ a := Nat.and_le_left
  simp only [BitVec.toNat_and, BitVec.toNat_xor, BitVec.toNat_ofNat]
  rw [show 2 ^ 32 = 4294967296 from rfl, h2, h3, Nat.mod_eq_of_lt (show a &&& (b ^^^ 2097151) < 4294967296 by omega)]
  apply Nat.eq_of_testBit_eq
  intro i
  simp only [Nat.testBit_and, Nat.testBit_xor]
  by_cases hi : i < 21
  · rw [show (4294967296 - 1) % 4294967296 = 2 ^ 32 - 1 from rfl, show 2097151 = 2 ^ 21 - 1 from rfl, Nat.testBit_two_pow_sub_one, Nat.testBit_two_pow_sub_one]
    simp [hi, show i < 32 by omega]
  · have h5 : a.testBit i = false := Nat.testBit_lt_two_pow (Nat.lt_of_lt_of_le ha (show 2 ^ 21 ≤ 2 ^ i from Nat.pow_le_pow_right (by omega) (by omega)))
    simp [h5]
theorem i_subneg {a b : Nat} (h : a < b) (hb : b < 2147483648) : nI a - nI b < 0 := by
  rw [Int32.lt_iff_toInt_lt, Int32.toInt_sub, i_toInt (by omega), i_toInt hb, Int32.toInt_zero, Int.bmod_eq_of_le (by omega) (by omega)]
  omega
/-! words: seven places of three bits -/
def sl (P p : Nat) : Nat := P >>> (3 * p) &&& 7
def wsl (P p s : Nat) : Nat := (P &&& ((7 <<< (3 * p)) ^^^ 2097151)) ||| (s <<< (3 * p))
theorem sl_lt (P p : Nat) : sl P p < 8 := by
  have : sl P p ≤ 7 := Nat.and_le_right
  omega
theorem t7 (i : Nat) : Nat.testBit 7 i = decide (i < 3) := Nat.testBit_two_pow_sub_one (n := 3) (i := i)
theorem t21 (i : Nat) : Nat.testBit 2097151 i = decide (i < 21) := Nat.testBit_two_pow_sub_one (n := 21) (i := i)
theorem sl_bit (P p i : Nat) : (sl P p).testBit i = (P.testBit (3 * p + i) && decide (i < 3)) := by
  unfold sl
  rw [Nat.testBit_and, Nat.testBit_shiftRight, t7]
theorem big {n i k : Nat} (h : n < 2 ^ k) (hi : k ≤ i) : n.testBit i = false := Nat.testBit_lt_two_pow (Nat.lt_of_lt_of_le h (Nat.pow_le_pow_right (by omega) hi))
theorem wsl_bit {P p s i : Nat} : (wsl P p s).testBit i = ((P.testBit i && ((decide (3 * p ≤ i) && decide (i - 3 * p < 3)) != decide (i < 21))) || (decide (3 * p ≤ i) && s.testBit (i - 3 * p))) := by
  unfold wsl
  rw [Nat.testBit_or, Nat.testBit_and, Nat.testBit_xor, Nat.testBit_shiftLeft, Nat.testBit_shiftLeft, t7, t21]
theorem sl_wsl {P p s q : Nat} (hp : p < 7) (hq : q < 7) (hs : s < 8) : sl (wsl P p s) q = if q = p then s else sl P q := by
  apply Nat.eq_of_testBit_eq
  intro i
  rw [sl_bit, wsl_bit]
  by_cases hi : i < 3
  · by_cases hqp : q = p
    · subst hqp
      rw [if_pos rfl]
      have h1 : 3 * q ≤ 3 * q + i := by omega
      have h2 : 3 * q + i - 3 * q = i := by omega
      have h3 : 3 * q + i < 21 := by omega
      simp [h2, h3, hi]
    · rw [if_neg hqp, sl_bit]
      have h3 : 3 * q + i < 21 := by omega
      rcases Nat.lt_or_gt_of_ne hqp with h | h
      · have h4 : ¬ 3 * p ≤ 3 * q + i := by omega
        simp [h3, h4, hi]
      · have h4 : 3 * p ≤ 3 * q + i := by omega
        have h5 : ¬ 3 * q + i - 3 * p < 3 := by omega
        have h6 : s.testBit (3 * q + i - 3 * p) = false := big (k := 3) hs (by omega)
        simp [h3, h5, h6, hi]
  · have h1 : (if q = p then s else sl P q).testBit i = false := by
      by_cases hqp : q = p
      · rw [if_pos hqp]; exact big (k := 3) hs (by omega)
      · rw [if_neg hqp]; exact big (k := 3) (sl_lt P q) (by omega)
    rw [h1]
    simp [hi]
theorem lt_21 {n : Nat} (h : ∀ i, 21 ≤ i → n.testBit i = false) : n < 2097152 := Nat.lt_pow_two_of_testBit n h
theorem wsl_lt {P p s : Nat} (hP : P < 2097152) (hp : p < 7) (hs : s < 8) : wsl P p s < 2097152 := by
  apply lt_21
  intro i hi
  rw [wsl_bit, big (n := P) (k := 21) hP hi]
  have h6 : s.testBit (i - 3 * p) = false := big (k := 3) hs (by omega)
  simp [h6]
theorem sl_ext {P Q : Nat} (hP : P < 2097152) (hQ : Q < 2097152) (h : ∀ q, q < 7 → sl P q = sl Q q) : P = Q := by
  apply Nat.eq_of_testBit_eq
  intro i
  by_cases hi : i < 21
  · have h1 := congrArg (fun n => n.testBit (i % 3)) (h (i / 3) (by omega))
    simp only [sl_bit] at h1
    rw [show 3 * (i / 3) + i % 3 = i by omega] at h1
    simpa [show i % 3 < 3 by omega] using h1
  · rw [big (n := P) (k := 21) hP (by omega), big (n := Q) (k := 21) hQ (by omega)]
