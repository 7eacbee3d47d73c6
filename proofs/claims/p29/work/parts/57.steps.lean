/-! what each call answers, and the state behind it -/
def sAdd (z : ZS) (x1 x2 x3 : Int32) : Int32 × ZS :=
  if inb x1 26 = true ∧ (¬ x2 < 1 ∧ ¬ 9 < x2) ∧ inb x3 7 = true then
    (if slotOf (zA z) x1 ≠ 0 ∨ sl (aP (zA z)) (cl x3) ≠ 0 then (-2, z) else if aB (zA z) < 5 then (nI (aB (zA z) + 1), chg z (ins (zA z) (cl x1) (cl x2) (cl x3))) else (-3, z))
  else (-1, z)
def sRemove (z : ZS) (x : Int32) : Int32 × ZS :=
  if inb x 7 = true then (if sl (aP (zA z)) (cl x) = 0 then (-2, z) else (nI (aL (zA z) (sl (aP (zA z)) (cl x))), chg z (tak (zA z) (cl x)))) else (-1, z)
/-- the book of a slot is stuck, or loose if it was stuck -/
def stk (a : AS) (s : Nat) : AS := ((aP a, aB a, aS a ^^^ (1 <<< s), aF a, aC a), aL a, aO a, aM a, aE a, aR a)
def sStick (z : ZS) (x : Int32) : Int32 × ZS :=
  if inb x 7 = true then (if sl (aP (zA z)) (cl x) = 0 then (-2, z) else (nI (!(aS (zA z)).testBit (sl (aP (zA z)) (cl x))).toNat, chg z (stk (zA z) (sl (aP (zA z)) (cl x))))) else (-1, z)
def sPull (z : ZS) (x : Int32) : Int32 × ZS :=
  if inb x 7 = true then ((if rsn (aP (zA z)) (aS (zA z)) (cl x) = 0 then nI (10 + gap (aP (zA z)) (cl x)) else nI (rsn (aP (zA z)) (aS (zA z)) (cl x))), chg z (mv (zA z) (cl x))) else (-1, z)
def sPush (z : ZS) (x y : Int32) : Int32 × ZS :=
  if inb x 6 = true then (nI (rsn (aP (zA z)) (aS (zA z)) ((if y = 0 then 13 else 7) + cl x)), chg z (mv (zA z) ((if y = 0 then 13 else 7) + cl x))) else (-1, z)
def sett (a : AS) (x y : Nat) : AS := ((aP a, aB a, aS a, if x = 0 then y else aF a, if x = 0 then aC a else y), aL a, aO a, aM a, aE a, aR a)
def sSet (z : ZS) (x y : Int32) : Int32 × ZS :=
  if inb x 2 = true ∧ inb y 2 = true then ((if cl x = 0 then nI (aF (zA z)) else nI (aC (zA z))), chg z (sett (zA z) (cl x) (cl y))) else (-1, z)
def sAppend (z : ZS) (x : Int32) : Int32 × ZS :=
  if ¬ x < 33 ∧ x ≤ 126 then (if zN z < 60 then (nI (zN z + 1), (zA z, zH z, zS z, zN z + 1, fun i => if i = zN z then cl x else zL z i)) else (-3, z)) else (-1, z)
def sClear (z : ZS) : Int32 × ZS := (nI (zN z), (zA z, zH z, zS z, 0, zL z))
def sFault (z : ZS) (x : Int32) : Int32 × ZS := (if x = 0 then pfR (zN z) (zL z) else if x = 1 then wfR (zA z) (zN z) (zL z) else -1, z)
def sArrange (z : ZS) : Int32 × ZS :=
  if wfR (zA z) (zN z) (zL z) = -4 then (nI (rk (aB (zA z)) (rdL (zA z) (zL z) 7 0 0)), (wth (zA z) (rdL (zA z) (zL z) 7 0 0), kept (zH z) (zA z), zS z, 0, zL z)) else (-2, z)
/-- so many steps of a program, from one on: the shelf behind them, and how many moves were made -/
def rnL (l : Nat → Nat) : Nat → Nat → AS → AS × Nat
  | 0, _, a => (a, 0)
  | k + 1, i, a => ((rnL l k (i + 1) (mv a (mvAt l i))).1, (if rsn (aP a) (aS a) (mvAt l i) = 0 then 1 else 0) + (rnL l k (i + 1) (mv a (mvAt l i))).2)
def sRun (z : ZS) : Int32 × ZS :=
  if pfR (zN z) (zL z) = -4 then (nI (rnL (zL z) (zN z / 2) 0 (zA z)).2, chg z (rnL (zL z) (zN z / 2) 0 (zA z)).1) else (-2, z)
def sAt (z : ZS) (x y : Int32) : Int32 × ZS :=
  ((if inb x 7 = true ∧ inb y 6 = true then
    (if sl (aP (zA z)) (cl x) = 0 then (if y = 5 then x else -4)
    else if y = 0 then nI (aL (zA z) (sl (aP (zA z)) (cl x))) else if y = 1 then nI (aO (zA z) (sl (aP (zA z)) (cl x))) else if y = 2 then nI ((aS (zA z)).testBit (sl (aP (zA z)) (cl x))).toNat
    else if y = 4 then nI (wb (aP (zA z)) (cl x) (aF (zA z))) else nI (gap (aP (zA z)) (cl x)))
  else -1), z)
def sWhyNot (z : ZS) (x : Int32) : Int32 × ZS := ((if inb x 19 = true then nI (rsn (aP (zA z)) (aS (zA z)) (cl x)) else -1), z)
def sCost (z : ZS) (x : Int32) : Int32 × ZS := ((if inb x 19 = true then (if rsn (aP (zA z)) (aS (zA z)) (cl x) = 0 then nI (prc (aO (zA z)) (aP (zA z)) (cl x)) else -2) else -1), z)
def sLeads (z : ZS) (x : Int32) : Int32 × ZS := ((if inb x 19 = true then (if rsn (aP (zA z)) (aS (zA z)) (cl x) = 0 then nI (rk (aB (zA z)) (aft (aP (zA z)) (cl x))) else -2) else -1), z)
def sWord (z : ZS) (x y : Int32) : Int32 × ZS :=
  ((if inb x (wds (aB (zA z))) = true ∧ inb y 7 = true then (if sl (wd (aB (zA z)) (cl x)) (cl y) = 0 then -4 else nI (aL (zA z) (sl (wd (aB (zA z)) (cl x)) (cl y)))) else -1), z)
def sCount (z : ZS) (x : Int32) : Int32 × ZS :=
  ((if x = 0 then nI (aB (zA z)) else if x = 1 then nI (pop (aS (zA z))) else if x = 2 then nI (smw (aO (zA z)) (aB (zA z))) else if x = 3 then nI (inOrd (aP (zA z)) (aF (zA z)) (aC (zA z))).toNat
    else if x = 4 then nI (dis (aP (zA z)) (aF (zA z))) else if x = 5 then nI (rk (aB (zA z)) (aP (zA z))) else if x = 6 then nI (wds (aB (zA z)))
    else if x = 7 then nI (if aC (zA z) = 1 then 1 else wds (aB (zA z)) / wy 0 (aB (zA z))) else if x = 8 then aM (zA z) else if x = 9 then aE (zA z) else if x = 10 then aR (zA z)
    else if x = 11 then nI (cnt (fun m => decide (rsn (aP (zA z)) (aS (zA z)) m = 0)) 19) else if x = 12 then nI (aF (zA z)) else if x = 13 then nI (aC (zA z)) else if x = 14 then nI (zN z) else if x = 15 then nI (zH z).length else -1), z)
noncomputable def sLeast (z : ZS) (x y : Int32) : Int32 × ZS :=
  ((if inb x (wds (aB (zA z))) = true ∧ inb y 3 = true then ansO (wyO (zA z) (cl y) (cl x)) else -1), z)
noncomputable def sPlan (z : ZS) (x y : Int32) : Int32 × ZS :=
  ((if 0 ≤ y then ansO (plL (aB (zA z)) (aS (zA z)) (wyO (zA z) (cl x)) (if cl x = 0 then fun _ _ => 1 else pr (aB (zA z)) (aO (zA z))) (cl y + 1) (rk (aB (zA z)) (aP (zA z))) none) else -1), z)
noncomputable def sAll (z : ZS) (x : Int32) : Int32 × ZS :=
  ((if inb x 4 = true then allA (wyO (zA z) 0) (wyO (zA z) 1) (wds (aB (zA z))) (cl x) else if x = 4 then nI (rcN (aB (zA z)) (aS (zA z)) (rk (aB (zA z)) (aP (zA z)))) else -1), z)
noncomputable def sMean (z : ZS) : UInt64 := mnA (sm (fun r => (wyO (zA z) 0 r).getD 0) (wds (aB (zA z)))) (cnt (fun r => (wyO (zA z) 0 r).isSome) (wds (aB (zA z))))
/-- the best book to make loose: from a place on; the best one so far and how far the shelf is then -/
noncomputable def lsL (a : AS) : Nat → Nat → Option Nat → Option Nat → Option Nat
  | 0, _, u, _ => u
  | k + 1, p, u, v => if (aS a).testBit (sl (aP a) p) = true then
      (if u = none ∨ (lvK (aB a) (aS a &&& ((1 <<< sl (aP a) p) ^^^ 2097151)) (aO a) (aF a) (aC a) 0 (rk (aB a) (aP a))).getD 1000000 < v.getD 1000000 then
        lsL a k (p + 1) (some p) (lvK (aB a) (aS a &&& ((1 <<< sl (aP a) p) ^^^ 2097151)) (aO a) (aF a) (aC a) 0 (rk (aB a) (aP a)))
      else lsL a k (p + 1) u v)
    else lsL a k (p + 1) u v
noncomputable def sLoosen (z : ZS) : Int32 × ZS := (ansO (lsL (zA z) 7 0 none none), z)
def sUndo (z : ZS) : Int32 × ZS := match (zH z).getLast? with
  | none => (-2, z)
  | some a => (nI ((zH z).length - 1), (a, (zH z).dropLast, zS z, zN z, zL z))
def sSave (z : ZS) : Int32 × ZS := (nI (rk (aB (zA z)) (aP (zA z))), (zA z, zH z, some (zA z), zN z, zL z))
def sRestore (z : ZS) : Int32 × ZS := match zS z with
  | none => (-2, z)
  | some a => (nI (rk (aB a) (aP a)), chg z a)
/-! the states stay good -/
theorem xor_bit {S s t : Nat} : (S ^^^ (1 <<< s)).testBit t = (S.testBit t != decide (s = t)) := by
  rw [Nat.testBit_xor, Nat.one_shiftLeft, Nat.testBit_two_pow]
theorem stk_ok {a : AS} {s : Nat} (ha : AOK a) (h1 : 1 ≤ s) (h2 : s ≤ aB a) : AOK (stk a s) := by
  obtain ⟨a1, a2, a3, a4, a5, a6, a7, a8⟩ := ha
  refine ⟨a1, a2, ?_, fun t ht => ?_, a5, a6, a7, a8⟩
  · have h3 : aS a < 2 ^ 6 := a3
    have h4 : 1 <<< s < 2 ^ 6 := by
      rw [Nat.one_shiftLeft]
      exact Nat.pow_lt_pow_right (by omega) (by omega)
    exact Nat.xor_lt_two_pow h3 h4
  · have ht : (aS a ^^^ (1 <<< s)).testBit t = true := ht
    rw [xor_bit] at ht
    by_cases hst : s = t
    · exact ⟨by omega, by show t ≤ aB a; omega⟩
    · rw [decide_eq_false hst] at ht
      exact a4 t (by simpa using ht)
theorem sett_ok {a : AS} {x y : Nat} (ha : AOK a) (hy : y < 2) : AOK (sett a x y) := by
  obtain ⟨a1, a2, a3, a4, a5, a6, a7, a8⟩ := ha
  refine ⟨a1, a2, a3, a4, ?_, ?_, a7, a8⟩
  · show (if x = 0 then y else aF a) < 2
    split <;> omega
  · show (if x = 0 then aC a else y) < 2
    split <;> omega
theorem wth_ok {a : AS} {P : Nat} (ha : AOK a) (hv : VW (aB a) P) : AOK (wth a P) := by
  obtain ⟨a1, a2, a3, a4, a5, a6, a7, a8⟩ := ha
  exact ⟨hv, a2, a3, a4, a5, a6, a7, a8⟩
theorem rnL_ok {l : Nat → Nat} : ∀ (k i : Nat) (a : AS), AOK a → (∀ j, i ≤ j → j < i + k → mvAt l j < 19) → AOK (rnL l k i a).1 ∧ (rnL l k i a).2 ≤ k
  | 0, _, _, ha, _ => ⟨ha, Nat.le_refl _⟩
  | k + 1, i, a, ha, hm => by
    have h1 := rnL_ok (l := l) k (i + 1) (mv a (mvAt l i)) (mv_ok ha (hm i (Nat.le_refl _) (by omega))) (fun j h1 h2 => hm j (by omega) (by omega))
    refine ⟨h1.1, ?_⟩
    show (if rsn (aP a) (aS a) (mvAt l i) = 0 then 1 else 0) + (rnL l k (i + 1) (mv a (mvAt l i))).2 ≤ k + 1
    split <;> omega
/-! a pad without a fault as a word spells one -/
theorem wfL_end {a : AS} {n : Nat} {l : Nat → Nat} (ha : AOK a) : ∀ (j k G S : Nat), k + j = n → n ≤ 60 → Wk7 a l k G S → wfL a n l j k G S = -4 → n = 7 ∧ ∃ G' S', Wk7 a l 7 G' S'
  | 0, k, G, S, hk, hn, hw, h => by
    have h7 := Wk7_le ha hw
    unfold wfL at h
    by_cases q : 7 ≤ n
    · obtain rfl : k = 7 := by omega
      exact ⟨by omega, G, S, hw⟩
    · rw [if_neg q] at h
      have h1 := i_nneg (show n < 2147483648 by omega)
      rw [h] at h1
      exact absurd (by decide) h1
  | j + 1, k, G, S, hk, hn, hw, h => by
    have h7 := Wk7_le ha hw
    have hneg : ∀ m : Nat, m < 2147483648 → nI m ≠ -4 := fun m hm e => by
      have h1 := i_nneg hm
      rw [e] at h1
      exact absurd (by decide) h1
    unfold wfL at h
    by_cases hd : l k = 46
    · rw [if_pos hd] at h
      by_cases hG : G = 0
      · rw [if_pos hG] at h
        exact absurd h (hneg k (by omega))
      · rw [if_neg hG] at h
        exact wfL_end ha j (k + 1) (G - 1) S (by omega) hn (Wk7_dot hw hd hG) h
    · rw [if_neg hd] at h
      by_cases hS : S.testBit (sgn a (l k)) = true
      · rw [if_pos hS] at h
        exact wfL_end ha j (k + 1) G _ (by omega) hn (Wk7_let ha hw hd hS) h
      · rw [if_neg hS] at h
        exact absurd h (hneg k (by omega))
theorem rdL_sl {a : AS} {l : Nat → Nat} (hb : aB a < 6) : ∀ (k i P : Nat), i + k = 7 → P < 2097152 → rdL a l k P i < 2097152 ∧ ∀ q, q < 7 → sl (rdL a l k P i) q = if i ≤ q then sgn a (l q) else sl P q
  | 0, i, P, hi, hP => ⟨hP, fun q hq => by
    rw [if_neg (by omega)]
    rfl⟩
  | k + 1, i, P, hi, hP => by
    have hs := sgn_lt (a := a) (c := l i) hb
    obtain ⟨h1, h2⟩ := rdL_sl (l := l) hb k (i + 1) (wsl P i (sgn a (l i))) (by omega) (wsl_lt hP (by omega) hs)
    refine ⟨h1, fun q hq => ?_⟩
    show sl (rdL a l k (wsl P i (sgn a (l i))) (i + 1)) q = _
    rw [h2 q hq, sl_wsl (by omega) hq hs]
    by_cases q1 : i + 1 ≤ q
    · rw [if_pos q1, if_pos (by omega)]
    · by_cases q2 : q = i
      · rw [if_neg q1, if_pos q2, if_pos (by omega), q2]
      · rw [if_neg q1, if_neg q2, if_neg (by omega)]
theorem wf_VW {a : AS} {n : Nat} {l : Nat → Nat} (ha : AOK a) (hn : n ≤ 60) (hl : ∀ i, i < n → l i ≤ 126) (h : wfR a n l = -4) : n = 7 ∧ VW (aB a) (rdL a l 7 0 0) ∧ ∀ q, q < 7 → sl (rdL a l 7 0 0) q = sgn a (l q) ∧ sgY a (l q) = nI (sgn a (l q)) := by
  have hb := ha.2.1
  obtain ⟨h7, G, S, hw⟩ := wfL_end ha n 0 _ _ (by omega) hn (Wk7_0 ha) h
  obtain ⟨hG, hS, hu⟩ := Wk7_7 ha hw
  obtain ⟨r1, r2⟩ := rdL_sl (a := a) (l := l) hb 7 0 0 (by omega) (by omega)
  have hsl : ∀ q, q < 7 → sl (rdL a l 7 0 0) q = sgn a (l q) := fun q hq => by rw [r2 q hq, if_pos (Nat.zero_le _)]
  obtain ⟨w1, w2, w3, w4, w5⟩ := hw
  have hsum := sm_congr (g := fun i => uss a l (i + 1) 7) (g' := fun _ => 1) (aB a) (fun i hi => hu (i + 1) (by omega) (by omega))
  refine ⟨h7, ⟨r1, fun p hp => ?_, fun s s1 s2 => ?_⟩, fun q hq => ⟨hsl q hq, ?_⟩⟩
  · rw [hsl p hp]
    rcases sgn_spec (c := l p) (by have := hl p (by omega); omega) ha with q | q
    · omega
    · exact q.2.1
  · have h2 : cs (rdL a l 7 0 0) s = uss a l s 7 := cnt_congr 7 fun q hq => by
      rw [hsl q hq]
      by_cases h1 : l q = 46
      · rw [decide_eq_true h1, h1, sgn_46 ha]
        have : ¬ (0 : Nat) = s := by omega
        simp [this]
      · rw [decide_eq_false h1]
        by_cases h3 : sgn a (l q) = s
        · rw [h3]; simp
        · rw [decide_eq_false h3]; simp [h3]
    rw [h2]
    exact hu s s1 s2
  · unfold sgY
    by_cases h1 : l q = 46
    · rw [if_pos h1, h1, sgn_46 ha]
    · rw [if_neg h1]
      by_cases h2 : sgn a (l q) = 0
      · exfalso
        have hz : ∀ k, k ≤ 7 → q < k → dts l k + sm (fun i => uss a l (i + 1) k) (aB a) < k := fun k => by
          induction k with
          | zero => omega
          | succ k ih =>
            intro hk hqk
            have e0 : dts l (k + 1) = dts l k + (decide (l k = 46)).toNat := rfl
            have e1 : ∀ s, uss a l s (k + 1) = uss a l s k + (!decide (l k = 46) && decide (sgn a (l k) = s)).toNat := fun s => rfl
            have hbase : dts l k + sm (fun i => uss a l (i + 1) k) (aB a) ≤ k := by
              have hle : ∀ m, dts l m + sm (fun i => uss a l (i + 1) m) (aB a) ≤ m := fun m => by
                induction m with
                | zero =>
                  show 0 + sm (fun _ => 0) (aB a) ≤ 0
                  rw [sm_zero]
                  exact Nat.le_refl _
                | succ m ihm =>
                  have e0 : dts l (m + 1) = dts l m + (decide (l m = 46)).toNat := rfl
                  have e1 : ∀ s, uss a l s (m + 1) = uss a l s m + (!decide (l m = 46) && decide (sgn a (l m) = s)).toNat := fun s => rfl
                  by_cases hd : l m = 46
                  · rw [e0, sm_congr (g' := fun i => uss a l (i + 1) m) (aB a) (fun i _ => by rw [e1, decide_eq_true hd]; rfl), decide_eq_true hd]
                    show dts l m + 1 + _ ≤ m + 1
                    omega
                  · have hone := sm_one (fun i => uss a l (i + 1) m) (sgn a (l m) - 1) (aB a)
                    by_cases hz : sgn a (l m) = 0
                    · rw [e0, sm_congr (g' := fun i => uss a l (i + 1) m) (aB a) (fun i _ => by rw [e1, decide_eq_false hd, hz]; simp), decide_eq_false hd]
                      show dts l m + 0 + _ ≤ m + 1
                      omega
                    · rw [e0, sm_congr (g' := fun i => uss a l (i + 1) m + (if i = sgn a (l m) - 1 then 1 else 0)) (aB a) (fun i _ => by
                        rw [e1, decide_eq_false hd]
                        by_cases hi : i = sgn a (l m) - 1
                        · rw [if_pos hi, decide_eq_true (show sgn a (l m) = i + 1 by omega)]; rfl
                        · rw [if_neg hi, decide_eq_false (show ¬ sgn a (l m) = i + 1 by omega)]; rfl), decide_eq_false hd]
                      have h1 : (if sgn a (l m) - 1 < aB a then 1 else 0) ≤ 1 := by split <;> omega
                      show dts l m + 0 + _ ≤ m + 1
                      omega
              exact hle k
            by_cases hqk2 : q = k
            · subst hqk2
              rw [e0, sm_congr (g' := fun i => uss a l (i + 1) q) (aB a) (fun i _ => by rw [e1, decide_eq_false h1, h2]; simp), decide_eq_false h1]
              show dts l q + 0 + _ < q + 1
              omega
            · have ih := ih (by omega) (by omega)
              by_cases hd : l k = 46
              · rw [e0, sm_congr (g' := fun i => uss a l (i + 1) k) (aB a) (fun i _ => by rw [e1, decide_eq_true hd]; rfl), decide_eq_true hd]
                show dts l k + 1 + _ < k + 1
                omega
              · have hone := sm_one (fun i => uss a l (i + 1) k) (sgn a (l k) - 1) (aB a)
                by_cases hz : sgn a (l k) = 0
                · rw [e0, sm_congr (g' := fun i => uss a l (i + 1) k) (aB a) (fun i _ => by rw [e1, decide_eq_false hd, hz]; simp), decide_eq_false hd]
                  show dts l k + 0 + _ < k + 1
                  omega
                · rw [e0, sm_congr (g' := fun i => uss a l (i + 1) k + (if i = sgn a (l k) - 1 then 1 else 0)) (aB a) (fun i _ => by
                    rw [e1, decide_eq_false hd]
                    by_cases hi : i = sgn a (l k) - 1
                    · rw [if_pos hi, decide_eq_true (show sgn a (l k) = i + 1 by omega)]; rfl
                    · rw [if_neg hi, decide_eq_false (show ¬ sgn a (l k) = i + 1 by omega)]; rfl), decide_eq_false hd]
                  have h1 : (if sgn a (l k) - 1 < aB a then 1 else 0) ≤ 1 := by split <;> omega
                  show dts l k + 0 + _ < k + 1
                  omega
        have := hz 7 (Nat.le_refl _) hq
        omega
      · rw [if_neg h2]
