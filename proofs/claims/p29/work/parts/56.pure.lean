/-! what the class needs of the mathematics that stood beside the reference -/
abbrev cl (x : Int32) : Nat := x.toNatClampNeg
theorem cnt_ex {g : Nat → Bool} : ∀ n, cnt g n ≠ 0 → ∃ i, i < n ∧ g i = true
  | 0, hn => absurd rfl hn
  | n + 1, hn => by
    by_cases hg : g n = true
    · exact ⟨n, by omega, hg⟩
    · have hn : cnt g n + (g n).toNat ≠ 0 := hn
      rw [Bool.not_eq_true] at hg
      rw [hg] at hn
      obtain ⟨i, h1, h2⟩ := cnt_ex n hn
      exact ⟨i, by omega, h2⟩
def wioB (F C b : Nat) : Bool := decide (((allW b).filter (fun P => inOrd P F C)).length = if C = 1 then 1 else wds b / wy 0 b)
set_option maxRecDepth 20000 in
theorem wio_0 : (List.range 6).all (wioB 0 0) = true := by decide +kernel
set_option maxRecDepth 20000 in
theorem wio_1 : (List.range 6).all (wioB 0 1) = true := by decide +kernel
set_option maxRecDepth 20000 in
theorem wio_2 : (List.range 6).all (wioB 1 0) = true := by decide +kernel
set_option maxRecDepth 20000 in
theorem wio_3 : (List.range 6).all (wioB 1 1) = true := by decide +kernel
theorem cnt_list {g : Nat → Bool} {l : List Nat} {f : Nat → Nat} : ∀ n, n ≤ l.length → (∀ r, r < n → l[r]? = some (f r)) → cnt (fun r => g (f r)) n = ((l.take n).filter g).length
  | 0, _, _ => by rw [List.take_zero]; rfl
  | n + 1, hn, h => by
    have ih := cnt_list (g := g) n (by omega) (fun r hr => h r (by omega))
    have h1 := h n (by omega)
    rw [List.take_add_one, h1, List.filter_append, List.length_append, ← ih]
    show cnt (fun r => g (f r)) n + (g (f n)).toNat = _
    congr 1
    show _ = ((([f n] : List Nat).filter g)).length
    rw [List.filter_cons]
    cases g (f n) <;> rfl
theorem allW_at {b r : Nat} (hb : b < 6) (hr : r < wds b) : (allW b)[r]? = some (wd b r) := by
  have h := hr
  rw [← allW_len hb] at h
  have h1 := List.getElem?_eq_getElem h
  generalize (allW b)[r] = P at h1
  have hm : (P, r) ∈ (allW b).zipIdx := List.mem_iff_getElem?.mpr ⟨r, by rw [List.getElem?_zipIdx, h1]; simp⟩
  have h2 := List.all_eq_true.mp (chk_all hb) (P, r) hm
  simp only [chk, Bool.and_eq_true, decide_eq_true_eq] at h2
  have h3 : wd b r = P := by unfold wd; rw [h2.1.2]; rfl
  rw [h3, h1]
theorem wio {b F C : Nat} (hb : b < 6) (hF : F < 2) (hC : C < 2) : cnt (fun r => inOrd (wd b r) F C) (wds b) = if C = 1 then 1 else wds b / wy 0 b := by
  rw [cnt_list (g := fun P => inOrd P F C) (l := allW b) (f := wd b) (wds b) (by rw [allW_len hb]; exact Nat.le_refl _) (fun r hr => allW_at hb hr), ← allW_len hb, List.take_length, allW_len hb]
  have hm := List.mem_range.mpr hb
  rcases (show F = 0 ∨ F = 1 by omega) with rfl | rfl <;> rcases (show C = 0 ∨ C = 1 by omega) with rfl | rfl
  · exact of_decide_eq_true (List.all_eq_true.mp wio_0 b hm)
  · exact of_decide_eq_true (List.all_eq_true.mp wio_1 b hm)
  · exact of_decide_eq_true (List.all_eq_true.mp wio_2 b hm)
  · exact of_decide_eq_true (List.all_eq_true.mp wio_3 b hm)
theorem cnt_0 {g : Nat → Bool} : ∀ n, cnt g n = 0 ↔ ∀ i, i < n → g i = false
  | 0 => ⟨fun _ _ h => absurd h (Nat.not_lt_zero _), fun _ => rfl⟩
  | n + 1 => by
    show cnt g n + (g n).toNat = 0 ↔ _
    rw [Nat.add_eq_zero_iff, cnt_0 n]
    constructor
    · intro ⟨a, c⟩ i hi
      by_cases h : i = n
      · rw [h]
        cases hg : g n with
        | false => rfl
        | true => rw [hg] at c; cases c
      · exact a i (by omega)
    · exact fun a => ⟨fun i hi => a i (by omega), by rw [a n (by omega)]; rfl⟩
theorem inb_yes {x : Int32} {n : Nat} (h : inb x n = true) : ∃ r, r < n ∧ x = nI r := by
  unfold inb at h
  simp only [Bool.and_eq_true, Bool.not_eq_true', decide_eq_false_iff_not, decide_eq_true_eq] at h
  refine ⟨x.toNatClampNeg, h.2, ?_⟩
  apply Int32.toInt_inj.mp
  have h1 : 0 ≤ x.toInt := by
    have := h.1
    rw [Int32.lt_iff_toInt_lt, Int32.toInt_zero] at this
    omega
  have h2 : x.toInt < 2147483648 := by
    have := Int32.toInt_lt x
    omega
  have h3 : (x.toNatClampNeg : Int) = x.toInt := by
    show ((x.toInt.toNat : Nat) : Int) = x.toInt
    omega
  rw [i_toInt (by omega), h3]
theorem inb_no {x : Int32} {n : Nat} (hn : n < 2147483648) (h : inb x n = false) : x < 0 ∨ nI n ≤ x := by
  unfold inb at h
  by_cases h0 : x < 0
  · exact Or.inl h0
  · refine Or.inr ?_
    rw [decide_eq_false h0, Bool.not_false, Bool.true_and] at h
    have h1 := of_decide_eq_false h
    have h2 : ¬ x.toInt.toNat < n := h1
    rw [Int32.lt_iff_toInt_lt, Int32.toInt_zero] at h0
    rw [Int32.le_iff_toInt_le, i_toInt hn]
    omega
theorem sm_add (f g : Nat → Nat) : ∀ n, sm (fun i => f i + g i) n = sm f n + sm g n
  | 0 => rfl
  | n + 1 => by
    show sm (fun i => f i + g i) n + (f n + g n) = (sm f n + f n) + (sm g n + g n)
    rw [sm_add f g n]
    omega
def ansO (o : Option Nat) : Int32 := match o with
  | none => -4
  | some w => nI w
/-- moves (kind 0) or price from a word to order -/
noncomputable def lvK (b S : Nat) (O : Nat → Nat) (F C kd r : Nat) : Option Nat := lv (ED b S) (if kd = 0 then fun _ _ => 1 else pr b O) (gol b F C) r
theorem kd_bd {b S kd : Nat} {O : Nat → Nat} (hb : b < 6) (hO : ∀ s, 1 ≤ s → s ≤ b → 1 ≤ O s ∧ O s ≤ 9) : ∀ r m r', r < wds b → m < 19 → ED b S r m = some r' → 1 ≤ (if kd = 0 then fun _ _ => 1 else pr b O) r m ∧ (if kd = 0 then fun _ _ => 1 else pr b O) r m ≤ 9 := fun r m r' hr hm h => by
  by_cases hk : kd = 0
  · rw [if_pos hk]
    show 1 ≤ 1 ∧ 1 ≤ 9
    omega
  · rw [if_neg hk]
    exact pr_bd hb hO r m r' hr hm h
theorem lvK_lt {b S F C kd r u : Nat} {O : Nat → Nat} (hb : b < 6) (hO : ∀ s, 1 ≤ s → s ≤ b → 1 ≤ O s ∧ O s ≤ 9) (hr : r < wds b) (h : lvK b S O F C kd r = some u) : u ≤ 9 * 2519 := by
  have hw := wds_lt hb
  have h2 := lst_le (B := 9) (fun r m r' q1 q2 q3 => (kd_bd (S := S) (kd := kd) hb hO r m r' q1 q2 q3).1) (fun r m r' q1 q2 q3 => (kd_bd (S := S) (kd := kd) hb hO r m r' q1 q2 q3).2) (ED_lt hb) hr (lv_eq.1 h)
  omega
theorem lvK_0 {b S F C kd r : Nat} {O : Nat → Nat} (hb : b < 6) (hO : ∀ s, 1 ≤ s → s ≤ b → 1 ≤ O s ∧ O s ≤ 9) (hr : r < wds b) : lvK b S O F C kd r = some 0 ↔ gol b F C r = true :=
  ⟨fun h => (lst_zero hr (fun r m r' q1 q2 q3 => (kd_bd (S := S) (kd := kd) hb hO r m r' q1 q2 q3).1) (lv_eq.1 h)).1 rfl, fun h => lv_eq.2 (lst_goal h)⟩
section Pu1
variable {h : pH} {b S F C : Nat} {O : Nat → Nat}
/-- the answers about all words; what kind of number -/
def allA (v0 v1 : Nat → Option Nat) (n : Nat) (x : Nat) : Int32 := if x = 0 then nI (cnt (fun r => (v0 r).isSome) n) else if x = 1 then vI (wst v0 n).1 else if x = 2 then nI (mxs v1 n) else nI (wst v0 n).2
end Pu1
/-- the mean of so many -/
def mnA (s n : Nat) : UInt64 := FP.ddiv (FP.i2d (nI s)) (FP.i2d (nI n))
theorem cnt_pos {g : Nat → Bool} {r : Nat} : ∀ n, r < n → g r = true → cnt g n ≠ 0 := fun n hr hg h0 => by
  have := (cnt_0 n).1 h0 r hr
  rw [hg] at this
  cases this
theorem gol_ex {b F C : Nat} (hb : b < 6) (hF : F < 2) (hC : C < 2) : ∃ r, r < wds b ∧ gol b F C r = true := by
  have h1 := wio hb hF hC
  have h2 : ∀ b, b < 6 → wds b / wy 0 b ≠ 0 := by decide
  have h3 : cnt (fun r => inOrd (wd b r) F C) (wds b) ≠ 0 := by
    rw [h1]
    by_cases hc : C = 1
    · rw [if_pos hc]; omega
    · rw [if_neg hc]; exact h2 b hb
  exact cnt_ex _ h3
section Pu2
variable {h : pH} {n : Nat} {l : Nat → Nat} {g : Nat → Nat → Int32}
variable {b S F : Nat} {O : Nat → Nat}
/-- the answer of round, of a kind -/
def rndA (W : Nat → Nat × Nat) (F i j x : Nat) : Int32 := if x = 0 then nI i else if x = 1 then nI (j - i) else if x = 2 then nI ((W j).2 - (W i).2) else nI (mnD (fun i => dis (W i).1 F) j)
end Pu2
theorem i_97 {c x : Nat} (hc : c < 1000) (hx : x < 26) : nI x = nI c - nI 97 ↔ x + 97 = c := by
  constructor
  · intro h
    have h1 : nI x + nI 97 = nI c := by rw [h, Int32.sub_add_cancel]
    rw [i_add, i_inj (by omega) (by omega)] at h1
    exact h1
  · intro h
    rw [← h, i_sub (by omega), Nat.add_sub_cancel]
theorem slt_spec {a : AS} {c : Nat} (hc : c < 1000) (ha : AOK a) : ∀ (k s : Nat), 1 ≤ s → s + k = aB a + 1 → (slt a (nI c - nI 97) k s = 0 ∧ ∀ t, s ≤ t → t ≤ aB a → aL a t + 97 ≠ c) ∨ (s ≤ slt a (nI c - nI 97) k s ∧ slt a (nI c - nI 97) k s ≤ aB a ∧ aL a (slt a (nI c - nI 97) k s) + 97 = c)
  | 0, s, h1, h2 => Or.inl ⟨rfl, fun t _ _ => by omega⟩
  | k + 1, s, h1, h2 => by
    unfold slt
    have hL := (ha.2.2.2.2.2.2.1 s h1 (by omega)).1
    by_cases h : nI (aL a s) = nI c - nI 97
    · rw [if_pos h]
      exact Or.inr ⟨Nat.le_refl _, by omega, (i_97 hc hL).1 h⟩
    · rw [if_neg h]
      rcases slt_spec hc ha k (s + 1) (by omega) (by omega) with ⟨e1, e2⟩ | ⟨e1, e2, e3⟩
      · refine Or.inl ⟨e1, fun t q1 q2 => ?_⟩
        by_cases hts : t = s
        · rw [hts]; exact fun e => h ((i_97 hc hL).2 e)
        · exact e2 t (by omega) q2
      · exact Or.inr ⟨by omega, e2, e3⟩
theorem sgn_spec {a : AS} {c : Nat} (hc : c < 1000) (ha : AOK a) : (sgn a c = 0 ∧ ∀ t, 1 ≤ t → t ≤ aB a → aL a t + 97 ≠ c) ∨ (1 ≤ sgn a c ∧ sgn a c ≤ aB a ∧ aL a (sgn a c) + 97 = c) := slt_spec hc ha (aB a) 1 (Nat.le_refl _) (by omega)
theorem sgn_46 {a : AS} (ha : AOK a) : sgn a 46 = 0 := by
  rcases sgn_spec (c := 46) (by omega) ha with h | h
  · exact h.1
  · omega
/-- the book and 1 of a sign; 0 for a gap, -1 for neither -/
def sgY (a : AS) (c : Nat) : Int32 := if c = 46 then nI 0 else if sgn a c = 0 then -1 else nI (sgn a c)
section Pu3
variable {h : pH} {n : Nat} {l : Nat → Nat} {a : AS} {g : Nat → Nat → Int32}
def dts (l : Nat → Nat) (k : Nat) : Nat := cnt (fun q => decide (l q = 46)) k
def uss (a : AS) (l : Nat → Nat) (s k : Nat) : Nat := cnt (fun q => !decide (l q = 46) && decide (sgn a (l q) = s)) k
/-- the first k signs make no fault: what is left then -/
def Wk7 (a : AS) (l : Nat → Nat) (k G S : Nat) : Prop := G + dts l k = 7 - aB a ∧ S < 64 ∧ (∀ s, S.testBit s = decide (1 ≤ s ∧ s ≤ aB a ∧ uss a l s k = 0)) ∧ (∀ s, 1 ≤ s → s ≤ aB a → uss a l s k ≤ 1) ∧ dts l k + sm (fun i => uss a l (i + 1) k) (aB a) = k
theorem msk_bit : ∀ b, b < 6 → ∀ s, s < 6 → ((1 <<< (b + 1)) - 2).testBit s = decide (1 ≤ s ∧ s ≤ b) := by decide
theorem Wk7_0 (ha : AOK a) : Wk7 a l 0 (7 - aB a) ((1 <<< (aB a + 1)) - 2) := by
  have hb := ha.2.1
  have hlt := (shlb hb).1
  refine ⟨rfl, hlt, fun s => ?_, fun s _ _ => Nat.zero_le _, ?_⟩
  · by_cases hs : s < 6
    · rw [msk_bit _ hb s hs]
      exact decide_eq_decide.mpr ⟨fun q => ⟨q.1, q.2, rfl⟩, fun q => ⟨q.1, q.2.1⟩⟩
    · rw [big (k := 6) hlt (by omega)]
      exact (decide_eq_false (fun q => by omega)).symm
  · show 0 + sm (fun i => 0) (aB a) = 0
    rw [sm_zero]
theorem sm_1 {f : Nat → Nat} : ∀ n, (∀ i, i < n → f i ≤ 1) → sm f n = n → ∀ i, i < n → f i = 1
  | 0, _, _, i, hi => by omega
  | n + 1, h, hs, i, hi => by
    have hs : sm f n + f n = n + 1 := hs
    have h1 := h n (by omega)
    have h2 : sm f n ≤ n := by
      have : ∀ m, m ≤ n → sm f m ≤ m := fun m => by
        induction m with
        | zero => exact fun _ => Nat.le_refl _
        | succ m ih =>
          intro hm
          have := ih (by omega)
          have := h m (by omega)
          show sm f m + f m ≤ m + 1
          omega
      exact this n (Nat.le_refl _)
    by_cases hin : i = n
    · rw [hin]; omega
    · exact sm_1 n (fun j hj => h j (by omega)) (by omega) i (by omega)
theorem sm_bd {f : Nat → Nat} : ∀ n, (∀ i, i < n → f i ≤ 1) → sm f n ≤ n
  | 0, _ => Nat.le_refl _
  | n + 1, h => by
    have := sm_bd n (fun i hi => h i (by omega))
    have := h n (by omega)
    show sm f n + f n ≤ n + 1
    omega
theorem Wk7_le {k G S : Nat} (ha : AOK a) (hw : Wk7 a l k G S) : k ≤ 7 := by
  obtain ⟨h1, h2, h3, h4, h5⟩ := hw
  have := sm_bd (f := fun i => uss a l (i + 1) k) (aB a) (fun i hi => h4 (i + 1) (by omega) (by omega))
  have hb := ha.2.1
  omega
theorem Wk7_7 {G S : Nat} (ha : AOK a) (hw : Wk7 a l 7 G S) : G = 0 ∧ (∀ s, S.testBit s = false) ∧ ∀ s, 1 ≤ s → s ≤ aB a → uss a l s 7 = 1 := by
  obtain ⟨h1, h2, h3, h4, h5⟩ := hw
  have hb := ha.2.1
  have hle := sm_bd (f := fun i => uss a l (i + 1) 7) (aB a) (fun i hi => h4 (i + 1) (by omega) (by omega))
  have hall := sm_1 (f := fun i => uss a l (i + 1) 7) (aB a) (fun i hi => h4 (i + 1) (by omega) (by omega)) (by omega)
  have hu : ∀ s, 1 ≤ s → s ≤ aB a → uss a l s 7 = 1 := fun s s1 s2 => by
    have := hall (s - 1) (by omega)
    rw [show s - 1 + 1 = s by omega] at this
    exact this
  refine ⟨by omega, fun s => ?_, hu⟩
  rw [h3 s]
  refine decide_eq_false fun ⟨s1, s2, s3⟩ => ?_
  have := hu s s1 s2
  omega
theorem Wk7_dot {k G S : Nat} (hw : Wk7 a l k G S) (hd : l k = 46) (hG : G ≠ 0) : Wk7 a l (k + 1) (G - 1) S := by
  obtain ⟨h1, h2, h3, h4, h5⟩ := hw
  have e0 : dts l (k + 1) = dts l k + 1 := by
    show dts l k + (decide (l k = 46)).toNat = _
    rw [decide_eq_true hd]; rfl
  have e1 : ∀ s, uss a l s (k + 1) = uss a l s k := fun s => by
    show uss a l s k + (!decide (l k = 46) && decide (sgn a (l k) = s)).toNat = _
    rw [decide_eq_true hd]; rfl
  refine ⟨by omega, h2, fun s => by rw [e1]; exact h3 s, fun s s1 s2 => by rw [e1]; exact h4 s s1 s2, ?_⟩
  rw [e0, sm_congr (g' := fun i => uss a l (i + 1) k) (aB a) (fun i _ => e1 (i + 1))]
  omega
theorem Wk7_let {k G S : Nat} (ha : AOK a) (hw : Wk7 a l k G S) (hd : l k ≠ 46) (hS : S.testBit (sgn a (l k)) = true) : Wk7 a l (k + 1) G (S &&& ((1 <<< sgn a (l k)) ^^^ 2097151)) := by
  obtain ⟨h1, h2, h3, h4, h5⟩ := hw
  have hb := ha.2.1
  have hsl := sgn_lt (a := a) (c := l k) hb
  have hS2 := hS
  rw [h3] at hS2
  obtain ⟨s1, s2, s3⟩ := of_decide_eq_true hS2
  have e0 : dts l (k + 1) = dts l k := by
    show dts l k + (decide (l k = 46)).toNat = _
    rw [decide_eq_false hd]; rfl
  have e1 : ∀ s, uss a l s (k + 1) = uss a l s k + (if s = sgn a (l k) then 1 else 0) := fun s => by
    show uss a l s k + (!decide (l k = 46) && decide (sgn a (l k) = s)).toNat = _
    rw [decide_eq_false hd]
    by_cases hs : s = sgn a (l k)
    · rw [if_pos hs, decide_eq_true hs.symm]; rfl
    · rw [if_neg hs, decide_eq_false (fun e => hs e.symm)]; rfl
  have hbit : ∀ s, (S &&& ((1 <<< sgn a (l k)) ^^^ 2097151)).testBit s = (S.testBit s && !decide (s = sgn a (l k))) := fun s => by
    rw [Nat.testBit_and, Nat.testBit_xor, t21, Nat.one_shiftLeft, Nat.testBit_two_pow]
    by_cases hs : s < 21
    · rw [decide_eq_true hs]
      by_cases hq : s = sgn a (l k)
      · rw [decide_eq_true hq, decide_eq_true hq.symm]; simp
      · rw [decide_eq_false hq, decide_eq_false (fun e => hq e.symm)]; simp
    · rw [big (n := S) (k := 6) h2 (by omega)]; simp
  refine ⟨by rw [e0]; exact h1, ?_, fun s => ?_, fun s q1 q2 => ?_, ?_⟩
  · have : S &&& ((1 <<< sgn a (l k)) ^^^ 2097151) ≤ S := Nat.and_le_left
    omega
  · rw [hbit, h3, e1]
    by_cases hs : s = sgn a (l k)
    · rw [if_pos hs, decide_eq_true hs, decide_eq_false (p := 1 ≤ s ∧ s ≤ aB a ∧ uss a l s k + 1 = 0) (by omega)]; simp
    · rw [if_neg hs, decide_eq_false hs, Nat.add_zero]; simp
  · rw [e1]
    by_cases hs : s = sgn a (l k)
    · rw [if_pos hs, hs, s3]; omega
    · rw [if_neg hs]; exact h4 s q1 q2
  · rw [e0, sm_congr (g' := fun i => uss a l (i + 1) k + (if i + 1 = sgn a (l k) then 1 else 0)) (aB a) (fun i _ => e1 (i + 1)), sm_add]
    have hone : ∀ m, sm (fun i => if i + 1 = sgn a (l k) then 1 else 0) m = if sgn a (l k) ≤ m then 1 else 0 := fun m => by
      induction m with
      | zero => rw [if_neg (by omega)]; rfl
      | succ m ih =>
        show sm (fun i => if i + 1 = sgn a (l k) then 1 else 0) m + (if m + 1 = sgn a (l k) then 1 else 0) = _
        rw [ih]
        by_cases q1 : sgn a (l k) ≤ m
        · rw [if_pos q1, if_neg (by omega), if_pos (by omega)]
        · by_cases q2 : m + 1 = sgn a (l k)
          · rw [if_neg q1, if_pos q2, if_pos (by omega)]
          · rw [if_neg q1, if_neg q2, if_neg (by omega)]
    rw [hone, if_pos s2]
    omega
end Pu3
abbrev ZS : Type := AS × List AS × Option AS × Nat × (Nat → Nat)
abbrev zA (z : ZS) : AS := z.1
abbrev zH (z : ZS) : List AS := z.2.1
abbrev zS (z : ZS) : Option AS := z.2.2.1
abbrev zN (z : ZS) : Nat := z.2.2.2.1
abbrev zL (z : ZS) : Nat → Nat := z.2.2.2.2
def ZOK (z : ZS) : Prop := AOK (zA z) ∧ (∀ a, a ∈ zH z → AOK a) ∧ (∀ a, zS z = some a → AOK a) ∧ (zH z).length ≤ 4
def chg (z : ZS) (a : AS) : ZS := (a, kept (zH z) (zA z), zS z, zN z, zL z)
section Pu4
variable {h : pH} {a : AS}
/-- the same books, another word -/
def wth (a : AS) (P : Nat) : AS := ((P, aB a, aS a, aF a, aC a), aL a, aO a, aM a, aE a, aR a)
end Pu4
noncomputable def rdIJ (W : Nat → Nat) : Nat × Nat := @dite _ (∃ i j, RD W i j) (Classical.propDecidable _) (fun q => (q.choose, q.choose_spec.choose)) (fun _ => (0, 0))
theorem rdIJ_eq {W : Nat → Nat} {i j : Nat} (h : RD W i j) : rdIJ W = (i, j) := by
  have q : ∃ i j, RD W i j := ⟨i, j, h⟩
  unfold rdIJ
  rw [dif_pos q]
  have h1 := RD_uniq q.choose_spec.choose_spec h
  exact Prod.ext h1.1 h1.2
noncomputable def sRound (z : ZS) (x : Int32) : Int32 × ZS :=
  ((if inb x 4 = true then (if pfR (zN z) (zL z) = -4 then rndA (itR (aS (zA z)) (aO (zA z)) (zL z) (zN z / 2) (aP (zA z))) (aF (zA z)) (rdIJ (fun j => (itR (aS (zA z)) (aO (zA z)) (zL z) (zN z / 2) (aP (zA z)) j).1)).1 (rdIJ (fun j => (itR (aS (zA z)) (aO (zA z)) (zL z) (zN z / 2) (aP (zA z)) j).1)).2 (cl x) else -2) else -1), z)
theorem ansO_m4 {u : Option Nat} (hu : ∀ p, u = some p → p < 2147483648) : ansO u = -4 ↔ u = none := by
  cases u with
  | none => exact ⟨fun _ => rfl, fun _ => rfl⟩
  | some p =>
    refine ⟨fun q => ?_, fun q => nomatch q⟩
    have h1 := i_nneg (hu p rfl)
    rw [show nI p = -4 from q] at h1
    exact absurd (by decide) h1
