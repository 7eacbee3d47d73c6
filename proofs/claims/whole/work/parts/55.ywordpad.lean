/-! the reference's pad as a word -/
theorem i_97 {c x : Nat} (hc : c < 1000) (hx : x < 26) : nI x = nI c - nI 97 ↔ x + 97 = c := by
  constructor
  · intro h
    have h1 : nI x + nI 97 = nI c := by rw [h, Int32.sub_add_cancel]
    rw [i_add, i_inj (by omega) (by omega)] at h1
    exact h1
  · intro h
    rw [← h, i_sub (by omega), Nat.add_sub_cancel]
theorem slt_spec {a : AS} {c : Nat} (hc : c < 1000) (ha : AOK a) : ∀ (k s : Nat), 1 ≤ s → s + k = aB a + 1 → (slt a (nI c - nI 97) k s = 0 ∧ ∀ t, s ≤ t → t ≤ aB a → aL a t + 97 ≠ c) ∨ (s ≤ slt a (nI c - nI 97) k s ∧ slt a (nI c - nI 97) k s ≤ aB a ∧ aL a (slt a (nI c - nI 97) k s) + 97 = c)
  | 0, s, h1, h2 => Or.inl ⟨rfl, fun t _ _ => by omega⟩
  | k + 1, s, h1, h2 => by
    unfold slt
    have hL := (ha.2.2.2.2.2.2.1 s h1 (by omega)).1
    by_cases h : nI (aL a s) = nI c - nI 97
    · rw [if_pos h]
      exact Or.inr ⟨Nat.le_refl _, by omega, (i_97 hc hL).1 h⟩
    · rw [if_neg h]
      rcases slt_spec hc ha k (s + 1) (by omega) (by omega) with ⟨e1, e2⟩ | ⟨e1, e2, e3⟩
      · refine Or.inl ⟨e1, fun t q1 q2 => ?_⟩
        by_cases hts : t = s
        · rw [hts]; exact fun e => h ((i_97 hc hL).2 e)
        · exact e2 t (by omega) q2
      · exact Or.inr ⟨by omega, e2, e3⟩
theorem sgn_spec {a : AS} {c : Nat} (hc : c < 1000) (ha : AOK a) : (sgn a c = 0 ∧ ∀ t, 1 ≤ t → t ≤ aB a → aL a t + 97 ≠ c) ∨ (1 ≤ sgn a c ∧ sgn a c ≤ aB a ∧ aL a (sgn a c) + 97 = c) := slt_spec hc ha (aB a) 1 (Nat.le_refl _) (by omega)
theorem aL_inj {a : AS} (ha : AOK a) {s t : Nat} (h1 : 1 ≤ s) (h2 : s ≤ aB a) (h3 : 1 ≤ t) (h4 : t ≤ aB a) (h : aL a s = aL a t) : s = t := by
  rcases Nat.lt_trichotomy s t with q | q | q
  · have := ha.2.2.2.2.2.2.2 s t h1 q h4; omega
  · exact q
  · have := ha.2.2.2.2.2.2.2 t s h3 q h2; omega
theorem sgn_46 {a : AS} (ha : AOK a) : sgn a 46 = 0 := by
  rcases sgn_spec (c := 46) (by omega) ha with h | h
  · exact h.1
  · omega
/-- the book and 1 of a sign; 0 for a gap, -1 for neither -/
def sgY (a : AS) (c : Nat) : Int32 := if c = 46 then nI 0 else if sgn a c = 0 then -1 else nI (sgn a c)
section YWordPad
variable {h : pH} {n : Nat} {l : Nat → Nat} {a : AS} {g : Nat → Nat → Int32}
theorem s_Ysigned_19 {k : Nat} (w : WF h) (ha : AOK a) (hp : YP g n l) (hl : Lk g (aB a) (aL a) (aO a) (aS a)) (hk : k < n) : ∀ (j s : Nat) (v : Int32), s + j = aB a → f_Y_signed_19 63 (nI k) v (nI s) (hS h g) = rI (if s < sgn a (l k) then nI (sgn a (l k)) else v) (hS h g)
  | 0, s, v, hs => by
    have hb := ha.2.1
    have hc := (hp.2.2 k hk).2.2
    rw [e_Y_signed_19, yI w, oo_v, hl.1, if_pos ((i_le (by omega) (by omega)).2 (by omega)), if_neg (by
      rcases sgn_spec (c := l k) (by omega) ha with q | q <;> omega)]
  | j + 1, s, v, hs => by
    have hb := ha.2.1
    have hn := hp.2.1
    obtain ⟨c1, c2, c3⟩ := hp.2.2 k hk
    have hL := (ha.2.2.2.2.2.2.1 (s + 1) (by omega) (by omega)).1
    have h68 := (hl.2 (s + 1) (by omega) (by omega)).1
    rw [Nat.add_sub_cancel] at h68
    rw [e_Y_signed_19, yI w, oo_v, hl.1, if_neg (fun e => absurd ((i_le (by omega) (by omega)).1 e) (by omega))]
    simp only [yR5 w, yR7 w, oo_v, yA67 w (show k < 60 by omega), c1, yA68 w (show s < 5 by omega), h68, L97, i_add, L1]
    by_cases hm : l k = 97 + aL a (s + 1)
    · have hsg : sgn a (l k) = s + 1 := by
        rcases sgn_spec (c := l k) (by omega) ha with q | q
        · exact absurd (by omega) (q.2 (s + 1) (by omega) (by omega))
        · exact aL_inj ha q.1 q.2.1 (by omega) (by omega) (by omega)
      rw [if_pos (by rw [hm]), s_Ysigned_19 w ha hp hl hk j (s + 1) _ (by omega), hsg, if_neg (Nat.lt_irrefl _), if_pos (by omega)]
    · have hsg : sgn a (l k) ≠ s + 1 := fun e => by
        rcases sgn_spec (c := l k) (by omega) ha with q | q
        · omega
        · rw [e] at q; omega
      rw [if_neg (fun e => hm ((i_inj (by omega) (by omega)).1 e)), s_Ysigned_19 w ha hp hl hk j (s + 1) _ (by omega)]
      by_cases h1 : s < sgn a (l k)
      · rw [if_pos h1, if_pos (by omega)]
      · rw [if_neg h1, if_neg (by omega)]
theorem s_Ysigned {k : Nat} (w : WF h) (ha : AOK a) (hp : YP g n l) (hl : Lk g (aB a) (aL a) (aO a) (aS a)) (hk : k < n) : f_Y_signed 63 (nI k) (hS h g) = rI (sgY a (l k)) (hS h g) := by
  have hn := hp.2.1
  obtain ⟨c1, c2, c3⟩ := hp.2.2 k hk
  rw [e_Y_signed]
  simp only [yR5 w, oo_v, yA67 w (show k < 60 by omega), c1]
  unfold sgY
  rw [L46]
  by_cases h1 : l k = 46
  · rw [if_pos (by rw [h1]), if_pos h1, L0, s_Ysigned_19 w ha hp hl hk (aB a) 0 _ (by omega), h1, sgn_46 ha, if_neg (Nat.lt_irrefl _)]
  · rw [if_neg (fun e => h1 ((i_inj (by omega) (by omega)).1 e)), if_neg h1, L0, s_Ysigned_19 w ha hp hl hk (aB a) 0 _ (by omega)]
    by_cases h2 : sgn a (l k) = 0
    · rw [if_neg (by omega), if_pos h2]
    · rw [if_pos (by omega), if_neg h2]
def dts (l : Nat → Nat) (k : Nat) : Nat := cnt (fun q => decide (l q = 46)) k
def uss (a : AS) (l : Nat → Nat) (s k : Nat) : Nat := cnt (fun q => !decide (l q = 46) && decide (sgn a (l q) = s)) k
/-- the first k signs make no fault: what is left then -/
def Wk7 (a : AS) (l : Nat → Nat) (k G S : Nat) : Prop := G + dts l k = 7 - aB a ∧ S < 64 ∧ (∀ s, S.testBit s = decide (1 ≤ s ∧ s ≤ aB a ∧ uss a l s k = 0)) ∧ (∀ s, 1 ≤ s → s ≤ aB a → uss a l s k ≤ 1) ∧ dts l k + sm (fun i => uss a l (i + 1) k) (aB a) = k
theorem msk_bit : ∀ b, b < 6 → ∀ s, s < 6 → ((1 <<< (b + 1)) - 2).testBit s = decide (1 ≤ s ∧ s ≤ b) := by decide
theorem Wk7_0 (ha : AOK a) : Wk7 a l 0 (7 - aB a) ((1 <<< (aB a + 1)) - 2) := by
  have hb := ha.2.1
  have hlt := (shlb hb).1
  refine ⟨rfl, hlt, fun s => ?_, fun s _ _ => Nat.zero_le _, ?_⟩
  · by_cases hs : s < 6
    · rw [msk_bit _ hb s hs]
      exact decide_eq_decide.mpr ⟨fun q => ⟨q.1, q.2, rfl⟩, fun q => ⟨q.1, q.2.1⟩⟩
    · rw [big (k := 6) hlt (by omega)]
      exact (decide_eq_false (fun q => by omega)).symm
  · show 0 + sm (fun i => 0) (aB a) = 0
    rw [sm_zero]
theorem sm_1 {f : Nat → Nat} : ∀ n, (∀ i, i < n → f i ≤ 1) → sm f n = n → ∀ i, i < n → f i = 1
  | 0, _, _, i, hi => by omega
  | n + 1, h, hs, i, hi => by
    have hs : sm f n + f n = n + 1 := hs
    have h1 := h n (by omega)
    have h2 : sm f n ≤ n := by
      have : ∀ m, m ≤ n → sm f m ≤ m := fun m => by
        induction m with
        | zero => exact fun _ => Nat.le_refl _
        | succ m ih =>
          intro hm
          have := ih (by omega)
          have := h m (by omega)
          show sm f m + f m ≤ m + 1
          omega
      exact this n (Nat.le_refl _)
    by_cases hin : i = n
    · rw [hin]; omega
    · exact sm_1 n (fun j hj => h j (by omega)) (by omega) i (by omega)
theorem sm_bd {f : Nat → Nat} : ∀ n, (∀ i, i < n → f i ≤ 1) → sm f n ≤ n
  | 0, _ => Nat.le_refl _
  | n + 1, h => by
    have := sm_bd n (fun i hi => h i (by omega))
    have := h n (by omega)
    show sm f n + f n ≤ n + 1
    omega
theorem Wk7_le {k G S : Nat} (ha : AOK a) (hw : Wk7 a l k G S) : k ≤ 7 := by
  obtain ⟨h1, h2, h3, h4, h5⟩ := hw
  have := sm_bd (f := fun i => uss a l (i + 1) k) (aB a) (fun i hi => h4 (i + 1) (by omega) (by omega))
  have hb := ha.2.1
  omega
theorem Wk7_7 {G S : Nat} (ha : AOK a) (hw : Wk7 a l 7 G S) : G = 0 ∧ (∀ s, S.testBit s = false) ∧ ∀ s, 1 ≤ s → s ≤ aB a → uss a l s 7 = 1 := by
  obtain ⟨h1, h2, h3, h4, h5⟩ := hw
  have hb := ha.2.1
  have hle := sm_bd (f := fun i => uss a l (i + 1) 7) (aB a) (fun i hi => h4 (i + 1) (by omega) (by omega))
  have hall := sm_1 (f := fun i => uss a l (i + 1) 7) (aB a) (fun i hi => h4 (i + 1) (by omega) (by omega)) (by omega)
  have hu : ∀ s, 1 ≤ s → s ≤ aB a → uss a l s 7 = 1 := fun s s1 s2 => by
    have := hall (s - 1) (by omega)
    rw [show s - 1 + 1 = s by omega] at this
    exact this
  refine ⟨by omega, fun s => ?_, hu⟩
  rw [h3 s]
  refine decide_eq_false fun ⟨s1, s2, s3⟩ => ?_
  have := hu s s1 s2
  omega
theorem Wk7_dot {k G S : Nat} (hw : Wk7 a l k G S) (hd : l k = 46) (hG : G ≠ 0) : Wk7 a l (k + 1) (G - 1) S := by
  obtain ⟨h1, h2, h3, h4, h5⟩ := hw
  have e0 : dts l (k + 1) = dts l k + 1 := by
    show dts l k + (decide (l k = 46)).toNat = _
    rw [decide_eq_true hd]; rfl
  have e1 : ∀ s, uss a l s (k + 1) = uss a l s k := fun s => by
    show uss a l s k + (!decide (l k = 46) && decide (sgn a (l k) = s)).toNat = _
    rw [decide_eq_true hd]; rfl
  refine ⟨by omega, h2, fun s => by rw [e1]; exact h3 s, fun s s1 s2 => by rw [e1]; exact h4 s s1 s2, ?_⟩
  rw [e0, sm_congr (g' := fun i => uss a l (i + 1) k) (aB a) (fun i _ => e1 (i + 1))]
  omega
theorem Wk7_let {k G S : Nat} (ha : AOK a) (hw : Wk7 a l k G S) (hd : l k ≠ 46) (hS : S.testBit (sgn a (l k)) = true) : Wk7 a l (k + 1) G (S &&& ((1 <<< sgn a (l k)) ^^^ 2097151)) := by
  obtain ⟨h1, h2, h3, h4, h5⟩ := hw
  have hb := ha.2.1
  have hsl := sgn_lt (a := a) (c := l k) hb
  have hS2 := hS
  rw [h3] at hS2
  obtain ⟨s1, s2, s3⟩ := of_decide_eq_true hS2
  have e0 : dts l (k + 1) = dts l k := by
    show dts l k + (decide (l k = 46)).toNat = _
    rw [decide_eq_false hd]; rfl
  have e1 : ∀ s, uss a l s (k + 1) = uss a l s k + (if s = sgn a (l k) then 1 else 0) := fun s => by
    show uss a l s k + (!decide (l k = 46) && decide (sgn a (l k) = s)).toNat = _
    rw [decide_eq_false hd]
    by_cases hs : s = sgn a (l k)
    · rw [if_pos hs, decide_eq_true hs.symm]; rfl
    · rw [if_neg hs, decide_eq_false (fun e => hs e.symm)]; rfl
  have hbit : ∀ s, (S &&& ((1 <<< sgn a (l k)) ^^^ 2097151)).testBit s = (S.testBit s && !decide (s = sgn a (l k))) := fun s => by
    rw [Nat.testBit_and, Nat.testBit_xor, t21, Nat.one_shiftLeft, Nat.testBit_two_pow]
    by_cases hs : s < 21
    · rw [decide_eq_true hs]
      by_cases hq : s = sgn a (l k)
      · rw [decide_eq_true hq, decide_eq_true hq.symm]; simp
      · rw [decide_eq_false hq, decide_eq_false (fun e => hq e.symm)]; simp
    · rw [big (n := S) (k := 6) h2 (by omega)]; simp
  refine ⟨by rw [e0]; exact h1, ?_, fun s => ?_, fun s q1 q2 => ?_, ?_⟩
  · have : S &&& ((1 <<< sgn a (l k)) ^^^ 2097151) ≤ S := Nat.and_le_left
    omega
  · rw [hbit, h3, e1]
    by_cases hs : s = sgn a (l k)
    · rw [if_pos hs, decide_eq_true hs, decide_eq_false (p := 1 ≤ s ∧ s ≤ aB a ∧ uss a l s k + 1 = 0) (by omega)]; simp
    · rw [if_neg hs, decide_eq_false hs, Nat.add_zero]; simp
  · rw [e1]
    by_cases hs : s = sgn a (l k)
    · rw [if_pos hs, hs, s3]; omega
    · rw [if_neg hs]; exact h4 s q1 q2
  · rw [e0, sm_congr (g' := fun i => uss a l (i + 1) k + (if i + 1 = sgn a (l k) then 1 else 0)) (aB a) (fun i _ => e1 (i + 1)), sm_add]
    have hone : ∀ m, sm (fun i => if i + 1 = sgn a (l k) then 1 else 0) m = if sgn a (l k) ≤ m then 1 else 0 := fun m => by
      induction m with
      | zero => rw [if_neg (by omega)]; rfl
      | succ m ih =>
        show sm (fun i => if i + 1 = sgn a (l k) then 1 else 0) m + (if m + 1 = sgn a (l k) then 1 else 0) = _
        rw [ih]
        by_cases q1 : sgn a (l k) ≤ m
        · rw [if_pos q1, if_neg (by omega), if_pos (by omega)]
        · by_cases q2 : m + 1 = sgn a (l k)
          · rw [if_neg q1, if_pos q2, if_pos (by omega)]
          · rw [if_neg q1, if_neg q2, if_neg (by omega)]
    rw [hone, if_pos s2]
    omega
/-- how many of the first signs are like this one -/
theorem s_YsameL {k : Nat} {x : Int32} (w : WF h) (ha : AOK a) (hp : YP g n l) (hl : Lk g (aB a) (aL a) (aO a) (aS a)) (hk : k < n) (hx : ¬ x < 0) : ∀ (j q : Nat), q + j = k → f_Y_faultOfWord_35 63 (nI k) x (nI (cnt (fun q => decide (sgY a (l q) = x)) q)) (nI q) (hS h g) = f_Y_faultOfWord_69 63 (nI k) x (nI (cnt (fun q => decide (sgY a (l q) = x)) k)) (hS h g)
  | 0, q, hq => by
    have hn := hp.2.1
    obtain rfl : q = k := by omega
    rw [e_Y_faultOfWord_35, if_pos ((i_le (by omega) (by omega)).2 (Nat.le_refl _))]
  | j + 1, q, hq => by
    have hn := hp.2.1
    have ih := s_YsameL w ha hp hl hk hx j (q + 1) (by omega)
    have e0 : cnt (fun q => decide (sgY a (l q) = x)) (q + 1) = cnt (fun q => decide (sgY a (l q) = x)) q + (decide (sgY a (l q) = x)).toNat := rfl
    rw [e0] at ih
    rw [e_Y_faultOfWord_35, if_neg (fun e => absurd ((i_le (by omega) (by omega)).1 e) (by omega)), if_neg hx, if_pos (yK w), s_Ysigned w ha hp hl (by omega), cI_v]
    by_cases h1 : sgY a (l q) = x
    · rw [decide_eq_true h1] at ih
      rw [if_pos h1, L1, i_add, i_add]
      exact ih
    · rw [decide_eq_false h1] at ih
      rw [if_neg h1, L0, L1, i_add, i_add]
      exact ih
theorem s_YwfL (w : WF h) (ha : AOK a) (hp : YP g n l) (hl : Lk g (aB a) (aL a) (aO a) (aS a)) : ∀ (j k G S : Nat), k + j = n → Wk7 a l k G S → f_Y_faultOfWord_6 63 (nI k) (hS h g) = rI (wfL a n l j k G S) (hS h g)
  | 0, k, G, S, hk, hw => by
    have hn := hp.2.1
    rw [e_Y_faultOfWord_6]
    simp only [yI w, oo_v, hp.1]
    rw [if_pos ((i_le (by omega) (by omega)).2 (by omega))]
    unfold wfL
    by_cases h7 : 7 ≤ n
    · rw [L7, if_pos ((i_le (by omega) (by omega)).2 h7), if_pos h7]
    · rw [L7, if_neg (fun e => h7 ((i_le (by omega) (by omega)).1 e)), if_neg h7]
  | j + 1, k, G, S, hk, hw => by
    have hn := hp.2.1
    have hb := ha.2.1
    have hk7 := Wk7_le ha hw
    obtain ⟨c1, c2, c3⟩ := hp.2.2 k (by omega)
    rw [e_Y_faultOfWord_6]
    simp only [yI w, oo_v, hp.1]
    rw [if_neg (fun e => absurd ((i_le (by omega) (by omega)).1 e) (by omega))]
    unfold wfL
    by_cases h7 : 7 ≤ k
    · obtain rfl : k = 7 := by omega
      obtain ⟨q1, q2, q3⟩ := Wk7_7 ha hw
      rw [L7, if_pos ((i_le (by omega) (by omega)).2 (Nat.le_refl _)), e_Y_faultOfWord_35, if_neg (by decide), if_pos (by decide), e_Y_faultOfWord_69, if_neg (by decide), e_Y_faultOfWord_84, if_pos (by decide), q2]
      by_cases hd : l 7 = 46
      · rw [if_pos hd, if_pos q1]
      · rw [if_neg hd, if_neg (by decide)]
    · rw [L7, if_neg (fun e => h7 ((i_le (by omega) (by omega)).1 e)), if_pos (yK w), s_Ysigned w ha hp hl (by omega), cI_v]
      obtain ⟨w1, w2, w3, w4, w5⟩ := id hw
      by_cases hd : l k = 46
      · have hsg : sgY a (l k) = nI 0 := by unfold sgY; rw [if_pos hd]
        have hdt : cnt (fun q => decide (sgY a (l q) = nI 0)) k = dts l k := cnt_congr k fun q _ => by
          by_cases h1 : l q = 46
          · rw [decide_eq_true h1]
            exact decide_eq_true (by unfold sgY; rw [if_pos h1])
          · rw [decide_eq_false h1]
            refine decide_eq_false ?_
            unfold sgY
            rw [if_neg h1]
            by_cases h2 : sgn a (l q) = 0
            · rw [if_pos h2]; decide
            · rw [if_neg h2]
              have := sgn_lt (a := a) (c := l q) hb
              exact fun e => h2 ((i_inj (by omega) (by omega)).1 e)
        rw [hsg, if_pos hd]
        have hs := s_YsameL (x := nI 0) w ha hp hl (show k < n by omega) (by decide) k 0 (by omega)
        rw [show cnt (fun q => decide (sgY a (l q) = nI 0)) 0 = 0 from rfl, hdt] at hs
        rw [L0, hs, e_Y_faultOfWord_69, if_pos (by rfl), yI w, oo_v, hl.1, L7, i_sub (by omega), e_Y_faultOfWord_84, if_neg (by decide)]
        by_cases hG : G = 0
        · rw [if_pos (by rw [show dts l k = 7 - aB a by omega]), if_pos hG]
        · rw [if_neg (fun e => hG (by have := (i_inj (by omega) (by omega)).1 e; omega)), if_neg hG, L1, i_add]
          exact s_YwfL w ha hp hl j (k + 1) (G - 1) S (by omega) (Wk7_dot hw hd hG)
      · rw [if_neg hd]
        by_cases h0 : sgn a (l k) = 0
        · have hsg : sgY a (l k) = -1 := by unfold sgY; rw [if_neg hd, if_pos h0]
          have hbf : S.testBit (sgn a (l k)) = false := by rw [w3, h0]; exact decide_eq_false (by omega)
          rw [hsg, hbf, if_neg (by decide)]
          have h35 : f_Y_faultOfWord_35 63 (nI k) (-1) 0 0 (hS h g) = f_Y_faultOfWord_69 63 (nI k) (-1) 0 (hS h g) := by
            rw [e_Y_faultOfWord_35]
            by_cases hk0 : nI k ≤ 0
            · rw [if_pos hk0]
            · rw [if_neg hk0, if_pos (by decide)]
          rw [h35, e_Y_faultOfWord_69, if_neg (by decide), e_Y_faultOfWord_84, if_pos (by decide)]
        · have hsl := sgn_lt (a := a) (c := l k) hb
          have hsb : 1 ≤ sgn a (l k) ∧ sgn a (l k) ≤ aB a := by
            rcases sgn_spec (c := l k) (by omega) ha with q | q
            · omega
            · exact ⟨q.1, q.2.1⟩
          have hsg : sgY a (l k) = nI (sgn a (l k)) := by unfold sgY; rw [if_neg hd, if_neg h0]
          have hdt : cnt (fun q => decide (sgY a (l q) = nI (sgn a (l k)))) k = uss a l (sgn a (l k)) k := cnt_congr k fun q _ => by
            have hql := sgn_lt (a := a) (c := l q) hb
            by_cases h1 : l q = 46
            · rw [decide_eq_true h1]
              refine decide_eq_false ?_
              unfold sgY
              rw [if_pos h1]
              exact fun e => h0 ((i_inj (by omega) (by omega)).1 e).symm
            · rw [decide_eq_false h1, Bool.not_false, Bool.true_and]
              unfold sgY
              rw [if_neg h1]
              by_cases h2 : sgn a (l q) = 0
              · rw [if_pos h2, decide_eq_false (p := sgn a (l q) = sgn a (l k)) (by omega)]
                refine decide_eq_false fun e => ?_
                have h3 := i_nneg (show sgn a (l k) < 2147483648 by omega)
                rw [← e] at h3
                exact absurd (by decide) h3
              · rw [if_neg h2]
                by_cases h3 : sgn a (l q) = sgn a (l k)
                · rw [decide_eq_true h3]; exact decide_eq_true (by rw [h3])
                · rw [decide_eq_false h3]; exact decide_eq_false (fun e => h3 ((i_inj (by omega) (by omega)).1 e))
          rw [hsg]
          have hs := s_YsameL (x := nI (sgn a (l k))) w ha hp hl (show k < n by omega) (i_nneg (by omega)) k 0 (by omega)
          rw [show cnt (fun q => decide (sgY a (l q) = nI (sgn a (l k)))) 0 = 0 from rfl, hdt] at hs
          have hu1 := w4 (sgn a (l k)) hsb.1 hsb.2
          rw [L0, hs, e_Y_faultOfWord_69, if_neg (fun e => h0 ((i_eq0 (by omega)).1 e)), e_Y_faultOfWord_84, if_neg (i_nneg (by omega)), L1]
          by_cases hu : uss a l (sgn a (l k)) k = 0
          · have hbt : S.testBit (sgn a (l k)) = true := by rw [w3]; exact decide_eq_true ⟨hsb.1, hsb.2, hu⟩
            rw [if_neg (fun e => by have := (i_inj (by omega) (by omega)).1 e; omega), if_pos hbt, i_add]
            exact s_YwfL w ha hp hl j (k + 1) G _ (by omega) (Wk7_let ha hw hd hbt)
          · have hbf : S.testBit (sgn a (l k)) = false := by rw [w3]; exact decide_eq_false (by omega)
            rw [if_pos (by rw [show uss a l (sgn a (l k)) k = 1 by omega]), if_neg (by rw [hbf]; decide)]
theorem s_YfaultOfWord {f : Nat → Nat → Int32} (w : WF h) (ha : AOK a) (hs : YSt (f 64) a) (hp : YP f n l) : ∃ g, f_Y_faultOfWord 63 (hS h f) = rI (wfR a n l) (hS h g) ∧ Lkd f g a := by
  obtain ⟨g1, e1, e2⟩ := s_Ylooks w ha hs
  refine ⟨g1, ?_, e2⟩
  rw [e_Y_faultOfWord, if_pos (yK w), e1, cV_v, L0]
  exact s_YwfL w ha (YP_of hp (e2.2.2.2 6 (by omega)) (e2.2.2.1 67 (by simp))) e2.1 n 0 _ _ (by omega) (Wk7_0 ha)
end YWordPad
