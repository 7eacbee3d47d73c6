/-! what the static methods of the class answer -/
theorem cI_v {x : Int32} {h : pH} {K : Int32 → pH → pR} : cI (rI x h) K = K x h := rfl
theorem cV_v {h : pH} {K : pH → pR} : cV (rV h) K = K h := rfl
theorem cR_v {k : Nat} {h : pH} {K : Nat → pH → pR} : cR (rR k h) K = K k h := rfl
theorem cD_v {d : UInt64} {h : pH} {K : UInt64 → pH → pR} : cD (rD d h) K = K d h := rfl
theorem L0 : (0 : Int32) = nI 0 := rfl
theorem L1 : (1 : Int32) = nI 1 := rfl
theorem L2 : (2 : Int32) = nI 2 := rfl
theorem L3 : (3 : Int32) = nI 3 := rfl
theorem L4 : (4 : Int32) = nI 4 := rfl
theorem L5 : (5 : Int32) = nI 5 := rfl
theorem L6 : (6 : Int32) = nI 6 := rfl
theorem L7 : (7 : Int32) = nI 7 := rfl
theorem L8 : (8 : Int32) = nI 8 := rfl
theorem L9 : (9 : Int32) = nI 9 := rfl
theorem L10 : (10 : Int32) = nI 10 := rfl
theorem L13 : (13 : Int32) = nI 13 := rfl
theorem L19 : (19 : Int32) = nI 19 := rfl
theorem L26 : (26 : Int32) = nI 26 := rfl
theorem L60 : (60 : Int32) = nI 60 := rfl
theorem i_pos {a : Nat} (h : a < 2147483648) : (0 : Int32) < nI a ↔ 0 < a := by rw [L0, i_lt (by omega) h]
theorem i_eq0 {a : Nat} (h : a < 2147483648) : nI a = 0 ↔ a = 0 := by rw [L0, i_inj h (by omega)]
theorem i_le0 {a : Nat} (h : a < 2147483648) : nI a ≤ 0 ↔ a = 0 := by rw [L0, i_le h (by omega)]; omega
theorem s_slotAt {P p : Nat} {h : pH} (hP : P < 2097152) (hp : p < 7) : f_N_slotAt (nI P) (nI p) h = rI (nI (sl P p)) h := by
  rw [e_N_slotAt, L3, L7, i_mul, i_ius (by omega) (by omega), i_and]
  rfl
theorem s_withSlot {P p s : Nat} {h : pH} (hP : P < 2097152) (hp : p < 7) (hs : s < 8) : f_N_withSlot (nI P) (nI p) (nI s) h = rI (nI (wsl P p s)) h := by
  have h7 : 7 <<< (3 * p) < 2097152 := by
    apply lt_21
    intro i hi
    rw [Nat.testBit_shiftLeft, t7]
    simp
    omega
  rw [e_N_withSlot, L3, L7, i_mul, i_shl (by omega), i_shl (by omega), i_m1 hP h7, i_or]
  rfl
theorem and1 (n : Nat) : n &&& 1 = if n.testBit 0 then 1 else 0 := by
  rw [Nat.and_one_is_mod, Nat.testBit_zero]
  by_cases h : n % 2 = 1
  · simp [h]
  · simp [h]; omega
theorem s_isIn {S s : Nat} {h : pH} (hS : S < 2147483648) (hs : s < 32) : f_N_isIn (nI S) (nI s) h = rI (nI (if S.testBit s then 1 else 0)) h := by
  rw [e_N_isIn, L1, i_ius hS hs, i_and, and1, Nat.testBit_shiftRight, Nat.add_zero]
  cases S.testBit s
  · rw [if_neg (by decide)]; rfl
  · rw [if_pos (by decide)]; rfl
def gapAt (P q : Nat) : Prop := q < 7 ∧ sl P q = 0
theorem s_isGap {P q : Nat} {h : pH} (hP : P < 2097152) (hq : q < 100) : f_N_isGap (nI P) (nI q) h = rI (nI (if q < 7 ∧ sl P q = 0 then 1 else 0)) h := by
  rw [e_N_isGap, if_neg (i_nneg (by omega))]
  by_cases h7 : q < 7
  · rw [if_neg (by rw [L7, i_le (by omega) (by omega)]; omega), L3, L7, i_mul, i_ius (by omega) (by omega), i_and]
    have h1 : sl P q < 8 := sl_lt P q
    show (if nI (sl P q) = 0 then _ else _) = _
    by_cases h2 : sl P q = 0
    · rw [if_pos (by rw [h2]; rfl), if_pos ⟨h7, h2⟩]; rfl
    · rw [if_neg (by rw [i_eq0 (by omega)]; exact h2), if_neg (fun k => h2 k.2)]; rfl
  · rw [if_pos (by rw [L7, i_le (by omega) (by omega)]; omega), if_neg (fun k => h7 k.1)]; rfl
theorem s_isGapN {P : Nat} {x : Int32} {h : pH} (hx : x < 0) : f_N_isGap (nI P) x h = rI (nI 0) h := by
  rw [e_N_isGap, if_pos hx]; rfl
/-- the nearest gap beside a place, from a distance on -/
def gB (P p : Nat) : Nat → Nat → Nat
  | _, 0 => p
  | d, k + 1 => if d ≤ p ∧ sl P (p - d) = 0 then p - d else if p + d < 7 ∧ sl P (p + d) = 0 then p + d else gB P p (d + 1) k
def gap (P p : Nat) : Nat := gB P p 1 6
theorem s_gB {P p : Nat} {h : pH} (hP : P < 2097152) (hp : p < 7) : ∀ (k d : Nat), d + k = 7 → f_N_gapBeside_2 (nI P) (nI p) (nI d) h = rI (nI (gB P p d k)) h
  | 0, d, hd => by
    rw [e_N_gapBeside_2, if_pos (by rw [L7, i_le (by omega) (by omega)]; omega)]
    rfl
  | k + 1, d, hd => by
    rw [e_N_gapBeside_2, if_neg (by rw [L7, i_le (by omega) (by omega)]; omega)]
    have h1 : f_N_isGap (nI P) (nI p - nI d) h = rI (nI (if d ≤ p ∧ sl P (p - d) = 0 then 1 else 0)) h := by
      by_cases hdp : d ≤ p
      · rw [i_sub hdp, s_isGap hP (by omega)]
        simp only [hdp, show p - d < 7 by omega, true_and]
      · rw [s_isGapN (i_subneg (by omega) (by omega)), if_neg (fun k => hdp k.1)]
    rw [h1, cI_v]
    unfold gB
    by_cases c1 : d ≤ p ∧ sl P (p - d) = 0
    · rw [if_pos c1, if_pos c1, if_neg (by decide), i_sub c1.1]
    · rw [if_neg c1, if_neg c1, if_pos (by decide), i_add, s_isGap hP (by omega), cI_v]
      by_cases c2 : p + d < 7 ∧ sl P (p + d) = 0
      · rw [if_pos c2, if_pos c2, if_neg (by decide)]
      · rw [if_neg c2, if_neg c2, if_pos (by decide), L1, i_add]
        exact s_gB hP hp k (d + 1) (by omega)
theorem s_gapBeside {P p : Nat} {h : pH} (hP : P < 2097152) (hp : p < 7) : f_N_gapBeside (nI P) (nI p) h = rI (nI (gap P p)) h := by
  rw [e_N_gapBeside]
  exact s_gB hP hp 6 1 rfl
/-- the place of a move -/
def plc (m : Nat) : Nat := if m < 7 then m else if m < 13 then m - 7 else m - 13
theorem plc_lt {m : Nat} (hm : m < 19) : plc m < 7 := by unfold plc; split; omega; split <;> omega
theorem plc_lt6 {m : Nat} (hm : m < 19) (h7 : ¬ m < 7) : plc m < 6 := by unfold plc; rw [if_neg h7]; split <;> omega
theorem s_placeOf {m : Nat} {h : pH} (hm : m < 19) : f_N_placeOf (nI m) h = rI (nI (plc m)) h := by
  rw [e_N_placeOf, plc]
  by_cases h1 : m < 7
  · rw [if_neg (by rw [L7, i_le (by omega) (by omega)]; omega), if_pos h1]
  · rw [if_pos (by rw [L7, i_le (by omega) (by omega)]; omega), if_neg h1]
    by_cases h2 : m < 13
    · rw [if_neg (by rw [L13, i_le (by omega) (by omega)]; omega), if_pos h2, L7, i_sub (by omega)]
    · rw [if_pos (by rw [L13, i_le (by omega) (by omega)]; omega), if_neg h2, L13, i_sub (by omega)]
theorem s_isPull {m : Nat} {h : pH} (hm : m < 19) : f_N_isPull (nI m) h = rI (nI (if m < 7 then 1 else 0)) h := by
  rw [e_N_isPull]
  by_cases h1 : m < 7
  · rw [if_neg (by rw [L7, i_le (by omega) (by omega)]; omega), if_pos h1]; rfl
  · rw [if_pos (by rw [L7, i_le (by omega) (by omega)]; omega), if_neg h1]; rfl
/-- why a move is refused; 0: it isn't -/
def rsn (P S m : Nat) : Nat :=
  if m < 7 then (if sl P m = 0 then 1 else if S.testBit (sl P m) then 2 else 0)
  else if sl P (plc m) = 0 then 3 else if sl P (plc m + 1) = 0 then 3
  else if m < 13 then (if plc m + 2 < 7 ∧ sl P (plc m + 2) = 0 then 0 else 4) else (if 1 ≤ plc m ∧ sl P (plc m - 1) = 0 then 0 else 4)
theorem rsn_lt (P S m : Nat) : rsn P S m < 5 := by unfold rsn; (repeat' split) <;> omega
theorem s_reason {P S m : Nat} {h : pH} (hP : P < 2097152) (hS : S < 2147483648) (hm : m < 19) : f_N_reason (nI P) (nI S) (nI m) h = rI (nI (rsn P S m)) h := by
  have hs := sl_lt P (plc m)
  have hp := plc_lt hm
  rw [e_N_reason, s_placeOf hm, cI_v, s_slotAt hP hp, cI_v, s_isPull hm, cI_v]
  unfold rsn
  by_cases h7 : m < 7
  · have hpm : plc m = m := by unfold plc; rw [if_pos h7]
    rw [if_pos h7, if_pos h7, if_neg (by decide), hpm]
    rw [hpm] at hs
    by_cases h0 : sl P m = 0
    · rw [if_pos h0, h0, if_pos (by decide)]; rfl
    · rw [if_neg (by rw [i_eq0 (by omega)]; exact h0), if_neg h0, s_isIn hS (by omega), cI_v]
      cases S.testBit (sl P m)
      · rw [if_pos (by decide), if_neg (by decide)]; rfl
      · rw [if_neg (by decide), if_pos rfl]; rfl
  · have hp6 := plc_lt6 hm h7
    have hs1 := sl_lt P (plc m + 1)
    rw [if_neg h7, if_neg h7, if_pos (by decide)]
    by_cases h0 : sl P (plc m) = 0
    · rw [if_pos h0, h0, if_pos (by decide)]; rfl
    · rw [if_neg (by rw [i_eq0 (by omega)]; exact h0), if_neg h0, L1, i_add, s_slotAt hP (by omega), cI_v]
      by_cases h1 : sl P (plc m + 1) = 0
      · rw [if_pos h1, h1, if_pos (by decide)]; rfl
      · rw [if_neg (by rw [i_eq0 (by omega)]; exact h1), if_neg h1]
        by_cases h13 : m < 13
        · rw [if_neg (by rw [L13, i_le (by omega) (by omega)]; omega), if_pos h13, L2, i_add, s_isGap hP (by omega), cI_v]
          by_cases h2 : plc m + 2 < 7 ∧ sl P (plc m + 2) = 0
          · rw [if_pos h2, if_pos h2, if_neg (by decide)]; rfl
          · rw [if_neg h2, if_neg h2, if_pos (by decide)]; rfl
        · rw [if_pos (by rw [L13, i_le (by omega) (by omega)]; omega), if_neg h13]
          have h3 : f_N_isGap (nI P) (nI (plc m) - nI 1) h = rI (nI (if 1 ≤ plc m ∧ sl P (plc m - 1) = 0 then 1 else 0)) h := by
            by_cases hdp : 1 ≤ plc m
            · rw [i_sub hdp, s_isGap hP (by omega)]
              simp only [hdp, show plc m - 1 < 7 by omega, true_and]
            · rw [s_isGapN (i_subneg (by omega) (by omega)), if_neg (fun k => hdp k.1)]
          rw [h3, cI_v]
          by_cases h2 : 1 ≤ plc m ∧ sl P (plc m - 1) = 0
          · rw [if_pos h2, if_pos h2, if_neg (by decide)]; rfl
          · rw [if_neg h2, if_neg h2, if_pos (by decide)]; rfl
theorem gB_lt {P p : Nat} (hp : p < 7) : ∀ (k d : Nat), gB P p d k < 7
  | 0, d => hp
  | k + 1, d => by
    unfold gB
    split
    · omega
    · split
      · omega
      · exact gB_lt hp k (d + 1)
theorem gap_lt {P p : Nat} (hp : p < 7) : gap P p < 7 := gB_lt hp 6 1
/-- the word behind a move -/
def aft (P m : Nat) : Nat :=
  if m < 7 then wsl (wsl P m 0) (gap P m) (sl P m)
  else if m < 13 then wsl (wsl (wsl P (plc m) 0) (plc m + 1) (sl P (plc m))) (plc m + 2) (sl P (plc m + 1))
  else wsl (wsl (wsl P (plc m + 1) 0) (plc m - 1) (sl P (plc m))) (plc m) (sl P (plc m + 1))
theorem rsn_push {P S m : Nat} (hm : m < 19) (h7 : ¬ m < 7) (h0 : rsn P S m = 0) : sl P (plc m) ≠ 0 ∧ sl P (plc m + 1) ≠ 0 ∧ (m < 13 → plc m + 2 < 7 ∧ sl P (plc m + 2) = 0) ∧ (¬ m < 13 → 1 ≤ plc m ∧ sl P (plc m - 1) = 0) := by
  unfold rsn at h0
  rw [if_neg h7] at h0
  split at h0
  · omega
  · rename_i h1
    split at h0
    · omega
    · rename_i h2
      split at h0
      · rename_i h3
        split at h0
        · rename_i h4
          exact ⟨h1, h2, fun _ => h4, fun k => absurd h3 k⟩
        · omega
      · rename_i h3
        split at h0
        · rename_i h4
          exact ⟨h1, h2, fun k => absurd k h3, fun _ => h4⟩
        · omega
theorem s_after {P S m : Nat} {h : pH} (hP : P < 2097152) (hm : m < 19) (h0 : rsn P S m = 0) : f_N_after (nI P) (nI m) h = rI (nI (aft P m)) h := by
  have hs := sl_lt P (plc m)
  have hp := plc_lt hm
  rw [e_N_after, s_placeOf hm, cI_v, s_slotAt hP hp, cI_v, s_isPull hm, cI_v]
  unfold aft
  by_cases h7 : m < 7
  · have hpm : plc m = m := by unfold plc; rw [if_pos h7]
    rw [if_pos h7, if_pos h7, if_neg (by decide), hpm, L0, s_withSlot hP h7 (by omega), cI_v, s_gapBeside hP h7, cI_v, s_withSlot (wsl_lt hP h7 (by omega)) (gap_lt h7) (by rw [hpm] at hs; exact hs), cI_v]
  · obtain ⟨h1, h2, h3, h4⟩ := rsn_push hm h7 h0
    have hp6 := plc_lt6 hm h7
    have hs1 := sl_lt P (plc m + 1)
    rw [if_neg h7, if_neg h7, if_pos (by decide), L1, i_add, s_slotAt hP (by omega), cI_v]
    by_cases h13 : m < 13
    · obtain ⟨h5, h6⟩ := h3 h13
      rw [if_neg (by rw [L13, i_le (by omega) (by omega)]; omega), if_pos h13, L0, s_withSlot hP hp (by omega), cI_v, s_withSlot (wsl_lt hP hp (by omega)) (by omega) hs, cI_v, L2, i_add, s_withSlot (wsl_lt (wsl_lt hP hp (by omega)) (by omega) hs) (by omega) hs1, cI_v]
    · obtain ⟨h5, h6⟩ := h4 h13
      rw [if_pos (by rw [L13, i_le (by omega) (by omega)]; omega), if_neg h13, L0, s_withSlot hP (by omega) (by omega), cI_v, i_sub h5, s_withSlot (wsl_lt hP (by omega) (by omega)) (by omega) hs, cI_v, s_withSlot (wsl_lt (wsl_lt hP (by omega) (by omega)) (by omega) hs) hp hs1, cI_v]
