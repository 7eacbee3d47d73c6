/-! the whole state: shelf, history, snapshot, pad; what the reference holds of it; its changes -/
abbrev ZS : Type := AS × List AS × Option AS × Nat × (Nat → Nat)
abbrev zA (z : ZS) : AS := z.1
abbrev zH (z : ZS) : List AS := z.2.1
abbrev zS (z : ZS) : Option AS := z.2.2.1
abbrev zN (z : ZS) : Nat := z.2.2.2.1
abbrev zL (z : ZS) : Nat → Nat := z.2.2.2.2
def ZOK (z : ZS) : Prop := AOK (zA z) ∧ (∀ a, a ∈ zH z → AOK a) ∧ (∀ a, zS z = some a → AOK a) ∧ (zH z).length ≤ 4
def chg (z : ZS) (a : AS) : ZS := (a, kept (zH z) (zA z), zS z, zN z, zL z)
theorem chg_ok {z : ZS} {a : AS} (hz : ZOK z) (ha : AOK a) : ZOK (chg z a) := by
  obtain ⟨h1, h2, h3, h4⟩ := hz
  refine ⟨ha, fun c hc => ?_, h3, ?_⟩
  · have hc : c ∈ kept (zH z) (zA z) := hc
    unfold kept at hc
    rw [List.mem_append] at hc
    rcases hc with hc | hc
    · split at hc
      · exact h2 c hc
      · exact h2 c (List.mem_of_mem_drop hc)
    · rw [List.mem_singleton] at hc
      rw [hc]
      exact h1
  · show (kept (zH z) (zA z)).length ≤ 4
    unfold kept
    rw [List.length_append]
    show (if (zH z).length < 4 then zH z else (zH z).drop 1).length + 1 ≤ 4
    split
    · omega
    · rw [List.length_drop]
      omega
def YSn (f : Nat → Nat → Int32) (s : Option AS) : Prop := match s with
  | none => f 63 4 = 0
  | some a => f 63 4 = 1 ∧ YSt (f 66) a
def YHt (f : Nat → Nat → Int32) (l : List AS) : Prop := f 63 2 = nI l.length ∧ ∀ i a, l[i]? = some a → YSt (fun j => f 65 (26 * i + j)) a
def YAt (f : Nat → Nat → Int32) (z : ZS) : Prop := YSt (f 64) (zA z) ∧ YHt f (zH z) ∧ YSn f (zS z) ∧ YP f (zN z) (zL z)
theorem YSt_congr {c c' : Nat → Int32} {a : AS} (h : YSt c a) (hc : ∀ j, j < 26 → c' j = c j) : YSt c' a := by
  obtain ⟨h1, h2, h3, h4, h5, h6, h7⟩ := h
  refine ⟨fun p hp => ?_, fun p hp h0 => ?_, ?_, ?_, ?_, ?_, ?_⟩
  · rw [hc p (by omega)]; exact h1 p hp
  · rw [hc (7 + p) (by omega), hc (14 + p) (by omega)]; exact h2 p hp h0
  · rw [hc 21 (by omega)]; exact h3
  · rw [hc 22 (by omega)]; exact h4
  · rw [hc 23 (by omega)]; exact h5
  · rw [hc 24 (by omega)]; exact h6
  · rw [hc 25 (by omega)]; exact h7
theorem YSn_of {f g : Nat → Nat → Int32} {s : Option AS} (h : YSn f s) (h1 : g 63 4 = f 63 4) (h2 : g 66 = f 66) : YSn g s := by
  cases s with
  | none => exact h1.trans h
  | some a => exact ⟨h1.trans h.1, by rw [h2]; exact h.2⟩
theorem YHt_of {f g : Nat → Nat → Int32} {l : List AS} (h : YHt f l) (h1 : g 63 2 = f 63 2) (h2 : g 65 = f 65) : YHt g l := by
  unfold YHt at *
  rw [h1, h2]
  exact h
theorem YAt_YF {f g : Nat → Nat → Int32} {z : ZS} (h : YAt f z) (y : YF f g) : YAt g z :=
  ⟨by rw [y.at (by simp [yRows])]; exact h.1, YHt_of h.2.1 (y.2 2 (by omega) (by omega)) (y.at (by simp [yRows])), YSn_of h.2.2.1 (y.2 4 (by omega) (by omega)) (y.at (by simp [yRows])), YP_of h.2.2.2 (y.2 6 (by omega) (by omega)) (y.at (by simp [yRows]))⟩
section YState
variable {h : pH} {a : AS}
theorem s_Yrem_49 {f : Nat → Nat → Int32} {n : Nat} (w : WF h) (hn : n < 4) (h2 : f 63 2 = nI n) : ∀ (k j : Nat) (g : Nat → Nat → Int32), j + k = 26 → (∀ q, q < j → g 65 (26 * n + q) = f 64 q) → (∀ q, (q < 26 * n ∨ 26 * n + 26 ≤ q) → g 65 q = f 65 q) → Off f g [65] →
    ∃ g', f_Y_remembers_49 63 (nI j) (hS h g) = rV (hS h g') ∧ (∀ q, q < 26 → g' 65 (26 * n + q) = f 64 q) ∧ (∀ q, (q < 26 * n ∨ 26 * n + 26 ≤ q) → g' 65 q = f 65 q) ∧ g' 63 2 = nI (n + 1) ∧ Off f g' [63, 65] ∧ ∀ j, j ≠ 2 → g' 63 j = f 63 j
  | 0, j, g, hj, h3, h4, ho => by
    have g63 : g 63 = f 63 := ho 63 (by simp)
    refine ⟨s2 g 63 2 (nI (n + 1)), ?_, fun q hq => ?_, fun q hq => ?_, by simp [s2_at], Off.tr (Off.mono ho (by simp)) (s2_off (by simp)), fun j hj => ?_⟩
    · rw [e_Y_remembers_49, L26, if_pos ((i_le (by omega) (by omega)).2 (by omega)), yI w, oo_v, if_pos (yK w), i_f, g63, h2, L1, i_add]
    · rw [s2_ne (by omega)]; exact h3 q (by omega)
    · rw [s2_ne (by omega)]; exact h4 q hq
    · rw [s2_at, if_pos rfl, if_neg hj, g63]
  | k + 1, j, g, hj, h3, h4, ho => by
    rw [e_Y_remembers_49, L26, if_neg (fun e => absurd ((i_le (by omega) (by omega)).1 e) (by omega))]
    simp only [yR1 w, yR0 w, yI w, oo_v, yA64 w (show j < 26 by omega)]
    rw [show g 63 = f 63 from ho 63 (by simp), h2, show g 64 = f 64 from ho 64 (by simp), i_mul, i_add, if_pos (yB65 w (by omega)), i_w (by omega), L1, i_add]
    refine s_Yrem_49 w hn h2 k (j + 1) _ (by omega) (fun q hq => ?_) (fun q hq => ?_) (Off.tr ho (s2_off (by simp)))
    · by_cases hqj : q = j
      · subst hqj
        simp [s2_at]
      · have := h3 q (by omega)
        simp [s2_at, hqj, this]
    · rw [s2_at, if_pos rfl, if_neg (by omega)]
      exact h4 q hq
theorem s_Yrem_10 {f : Nat → Nat → Int32} (w : WF h) (h2 : f 63 2 = nI 4) : ∀ (k j : Nat) (g : Nat → Nat → Int32), j + k = 78 → (∀ q, g 65 q = if q < j then f 65 (26 + q) else f 65 q) → Off f g [65] →
    ∃ g', f_Y_remembers_10 63 (nI j) (hS h g) = f_Y_remembers_49 63 0 (hS h g') ∧ (∀ q, q < 78 → g' 65 q = f 65 (26 + q)) ∧ g' 63 2 = nI 3 ∧ Off f g' [63, 65] ∧ ∀ j, j ≠ 2 → g' 63 j = f 63 j
  | 0, j, g, hj, h3, ho => by
    have g63 : g 63 = f 63 := ho 63 (by simp)
    refine ⟨s2 g 63 2 (nI 3), ?_, fun q hq => ?_, by simp [s2_at], Off.tr (Off.mono ho (by simp)) (s2_off (by simp)), fun j hj => ?_⟩
    · rw [e_Y_remembers_10, show (78 : Int32) = nI 78 from rfl, if_pos ((i_le (by omega) (by omega)).2 (by omega)), yI w, oo_v, if_pos (yK w), i_f, g63, h2, L1, i_sub (by omega)]
    · rw [s2_ne (by omega), h3 q, if_pos (by omega)]
    · rw [s2_at, if_pos rfl, if_neg hj, g63]
  | k + 1, j, g, hj, h3, ho => by
    rw [e_Y_remembers_10, show (78 : Int32) = nI 78 from rfl, if_neg (fun e => absurd ((i_le (by omega) (by omega)).1 e) (by omega))]
    simp only [yR1 w, oo_v, L26, i_add, yA65 w (show 26 + j < 104 by omega), yB65 w (show j < 104 by omega), if_true, i_w (show j < 2147483648 by omega), L1]
    refine s_Yrem_10 w h2 k (j + 1) _ (by omega) (fun q => ?_) (Off.tr ho (s2_off (by simp)))
    by_cases hqj : q = j
    · subst hqj
      rw [s2_at, if_pos rfl, if_pos rfl, h3 (26 + q), if_neg (by omega), if_pos (by omega)]
    · rw [s2_at, if_pos rfl, if_neg hqj, h3 q]
      by_cases h5 : q < j
      · rw [if_pos h5, if_pos (by omega)]
      · rw [if_neg h5, if_neg (by omega)]
/-- what is before a change is kept -/
theorem s_Yremembers {f : Nat → Nat → Int32} {l : List AS} (w : WF h) (hs : YSt (f 64) a) (hl : l.length ≤ 4) (hh : YHt f l) : ∃ g, f_Y_remembers 63 (hS h f) = rV (hS h g) ∧ YHt g (kept l a) ∧ Off f g [63, 65] ∧ ∀ j, j ≠ 2 → g 63 j = f 63 j := by
  obtain ⟨h1, h2⟩ := hh
  rw [e_Y_remembers, yI w, oo_v, h1, L4]
  unfold kept
  by_cases h4 : l.length = 4
  · obtain ⟨g1, e1, e2, e3, e4, e5⟩ := s_Yrem_10 w (by rw [h1, h4]) 78 0 f (by omega) (fun q => by rw [if_neg (Nat.not_lt_zero _)]) Off.rf
    obtain ⟨g2, f1, f2, f3, f4, f5, f6⟩ := s_Yrem_49 w (by omega) e3 26 0 g1 (by omega) (fun _ hq => absurd hq (Nat.not_lt_zero _)) (fun _ _ => rfl) Off.rf
    refine ⟨g2, ?_, ⟨?_, fun i c hi => ?_⟩, Off.tr e4 f5, fun j hj => by rw [f6 j hj]; exact e5 j hj⟩
    · rw [if_pos (by rw [h4]), L0, e1, L0, f1]
    · rw [f4, List.length_append, if_neg (by omega), List.length_drop, h4]
      rfl
    · rw [if_neg (by omega)] at hi
      by_cases hi3 : i < 3
      · rw [List.getElem?_append_left (by rw [List.length_drop]; omega), List.getElem?_drop] at hi
        refine YSt_congr (h2 (1 + i) c hi) fun j hj => ?_
        show g2 65 (26 * i + j) = f 65 (26 * (1 + i) + j)
        rw [f3 _ (Or.inl (by omega)), e2 _ (by omega)]
        congr 1
        omega
      · rw [List.getElem?_append_right (by rw [List.length_drop]; omega), List.length_drop] at hi
        have hz : i - (l.length - 1) < 1 := (List.getElem?_eq_some_iff.mp hi).1
        rw [show i - (l.length - 1) = 0 by omega] at hi
        cases hi
        refine YSt_congr hs fun j hj => ?_
        show g2 65 (26 * i + j) = f 64 j
        rw [show i = 3 by omega, f2 j hj, e4 64 (by simp)]
  · obtain ⟨g2, f1, f2, f3, f4, f5, f6⟩ := s_Yrem_49 w (show l.length < 4 by omega) h1 26 0 f (by omega) (fun _ hq => absurd hq (Nat.not_lt_zero _)) (fun _ _ => rfl) Off.rf
    refine ⟨g2, ?_, ⟨?_, fun i c hi => ?_⟩, f5, f6⟩
    · rw [if_neg (fun e => h4 ((i_inj (by omega) (by omega)).1 e)), L0, f1]
    · rw [f4, List.length_append, if_pos (by omega)]
      rfl
    · rw [if_pos (by omega)] at hi
      by_cases hil : i < l.length
      · rw [List.getElem?_append_left hil] at hi
        refine YSt_congr (h2 i c hi) fun j hj => ?_
        show g2 65 (26 * i + j) = f 65 (26 * i + j)
        exact f3 _ (Or.inl (by omega))
      · rw [List.getElem?_append_right (by omega)] at hi
        have hz : i - l.length < 1 := (List.getElem?_eq_some_iff.mp hi).1
        rw [show i - l.length = 0 by omega] at hi
        cases hi
        refine YSt_congr hs fun j hj => ?_
        show g2 65 (26 * i + j) = f 64 j
        rw [show i = l.length by omega, f2 j hj]
/-- where the books stand is written from the word -/
def StC (c : Nat → Int32) (b P : Nat) (L O : Nat → Nat) (S p : Nat) : Prop := c p = (if sl P p = 0 then 0 else nI (L (sl P p) + 1)) ∧ (sl P p ≠ 0 → c (7 + p) = nI (O (sl P p)) ∧ c (14 + p) = nI (S.testBit (sl P p)).toNat)
theorem s_Ystands_2 {b P S : Nat} {L O : Nat → Nat} {g0 : Nat → Nat → Int32} (w : WF h) (hb : b < 6) (hv : VW b P) (hl : Lk g0 b L O S) (hW : WAt g0 71 P) : ∀ (k p : Nat) (g : Nat → Nat → Int32), p + k = 7 → (∀ q, q < p → StC (g 64) b P L O S q) → Off g0 g [64] → (∀ j, 21 ≤ j → g 64 j = g0 64 j) →
    ∃ g', f_Y_stands_2 63 (nI p) (hS h g) = rV (hS h g') ∧ (∀ q, q < 7 → StC (g' 64) b P L O S q) ∧ Off g0 g' [64] ∧ ∀ j, 21 ≤ j → g' 64 j = g0 64 j
  | 0, p, g, hp, h1, ho, h2 => by
    refine ⟨g, ?_, fun q hq => h1 q (by omega), ho, h2⟩
    rw [e_Y_stands_2, L7, if_pos ((i_le (by omega) (by omega)).2 (by omega))]
  | k + 1, p, g, hp, h1, ho, h2 => by
    have hs := sl_lt P p
    have hsb := hv.2.1 p (by omega)
    have g71 : g 71 p = nI (sl P p) := by rw [ho 71 (by simp)]; exact hW p (by omega)
    have step : ∀ x y z : Int32, x = (if sl P p = 0 then 0 else nI (L (sl P p) + 1)) → (sl P p ≠ 0 → y = nI (O (sl P p)) ∧ z = nI (S.testBit (sl P p)).toNat) →
        ∃ g', f_Y_stands_2 63 (nI (p + 1)) (hS h (s2 (s2 (s2 g 64 p x) 64 (7 + p) y) 64 (14 + p) z)) = rV (hS h g') ∧ (∀ q, q < 7 → StC (g' 64) b P L O S q) ∧ Off g0 g' [64] ∧ ∀ j, 21 ≤ j → g' 64 j = g0 64 j := fun x y z hx hyz => by
      refine s_Ystands_2 w hb hv hl hW k (p + 1) _ (by omega) (fun q hq => ?_) (Off.tr ho (Off.tr (s2_off (by simp)) (Off.tr (s2_off (by simp)) (s2_off (by simp))))) (fun j hj => ?_)
      · by_cases hqp : q = p
        · subst hqp
          refine ⟨?_, fun h0 => ?_⟩
          · rw [← hx]
            simp [s2_at, show ¬ q = 14 + q by omega, show ¬ q = 7 + q by omega]
          · rw [← (hyz h0).1, ← (hyz h0).2]
            simp [s2_at]
        · obtain ⟨q1, q2⟩ := h1 q (by omega)
          refine ⟨?_, fun h0 => ?_⟩
          · rw [← q1]
            simp [s2_at, hqp, show ¬ q = 14 + p by omega, show ¬ q = 7 + p by omega]
          · rw [← (q2 h0).1, ← (q2 h0).2]
            simp [s2_at, hqp, show ¬ 7 + q = 14 + p by omega, show ¬ 7 + q = p by omega, show ¬ 14 + q = 7 + p by omega, show ¬ 14 + q = p by omega]
      · rw [← h2 j hj]
        simp [s2_at, show ¬ j = 14 + p by omega, show ¬ j = 7 + p by omega, show ¬ j = p by omega]
    rw [e_Y_stands_2, L7, if_neg (fun e => absurd ((i_le (by omega) (by omega)).1 e) (by omega))]
    simp only [yR11 w, yR0 w, oo_v, yA71 w (show p < 7 by omega), g71]
    by_cases h0 : sl P p = 0
    · have hneg : ¬ (0 : Int32) ≤ nI (sl P p) - (1 : Int32) := by rw [h0]; decide
      rw [if_neg hneg, e_Y_stands_40, L0, i_add, if_pos (yB64 w (by omega)), i_w (by omega)]
      simp only [yR0 w, oo_v]
      rw [if_neg (show ¬ nI 0 ≤ nI (sl P p) - (1 : Int32) from hneg), e_Y_stands_63, L7, i_add, if_pos (yB64 w (by omega)), i_w (by omega)]
      simp only [yR0 w, oo_v]
      rw [if_neg hneg, show (14 : Int32) = nI 14 from rfl, i_add, if_pos (yB64 w (by omega)), i_w (by omega), Nat.zero_add, L1, i_add]
      exact step _ _ _ (by rw [if_pos h0]; rfl) (fun q => absurd h0 q)
    · obtain ⟨l1, l2, l3⟩ := hl.2 (sl P p) (by omega) hsb
      have hpos : (0 : Int32) ≤ nI (sl P p - 1) := by rw [L0]; exact (i_le (by omega) (by omega)).2 (Nat.zero_le _)
      rw [if_pos (show (0 : Int32) ≤ nI (sl P p) - (1 : Int32) by rw [L1, i_sub (by omega)]; exact hpos), L1, i_sub (show 1 ≤ sl P p by omega)]
      simp only [yR7 w, oo_v, yA68 w (show sl P p - 1 < 5 by omega)]
      rw [show g 68 = g0 68 from ho 68 (by simp), l1, i_add, e_Y_stands_40, L0, i_add, if_pos (yB64 w (by omega)), i_w (by omega)]
      simp only [yR0 w, yR8 w, oo_v]
      rw [if_pos (show nI 0 ≤ nI (sl P p - 1) from hpos)]
      simp only [yA69 w (show sl P p - 1 < 5 by omega), oo_v]
      rw [s2_ne (show (69 : Nat) ≠ 64 by omega), show g 69 = g0 69 from ho 69 (by simp), l2, e_Y_stands_63, L7, i_add, if_pos (yB64 w (by omega)), i_w (by omega)]
      simp only [yR0 w, yR9 w, oo_v]
      rw [if_pos hpos]
      simp only [yA70 w (show sl P p - 1 < 5 by omega), oo_v]
      rw [s2_ne (show (70 : Nat) ≠ 64 by omega), s2_ne (show (70 : Nat) ≠ 64 by omega), show g 70 = g0 70 from ho 70 (by simp), l3, show (14 : Int32) = nI 14 from rfl, i_add, if_pos (yB64 w (by omega)), i_w (by omega), Nat.zero_add, L1, i_add]
      exact step _ _ _ (by rw [if_neg h0]) (fun _ => ⟨rfl, rfl⟩)
/-- the same books, another word -/
def wth (a : AS) (P : Nat) : AS := ((P, aB a, aS a, aF a, aC a), aL a, aO a, aM a, aE a, aR a)
theorem s_Ystands {P : Nat} {g : Nat → Nat → Int32} (w : WF h) (ha : AOK a) (hv : VW (aB a) P) (hl : Lk g (aB a) (aL a) (aO a) (aS a)) (hW : WAt g 71 P) (hs : YSt (g 64) a) : ∃ g', f_Y_stands 63 (hS h g) = rV (hS h g') ∧ YSt (g' 64) (wth a P) ∧ Off g g' [64] := by
  obtain ⟨g', e1, e2, e3, e4⟩ := s_Ystands_2 w ha.2.1 hv hl hW 7 0 g (by omega) (fun _ hq => absurd hq (Nat.not_lt_zero _)) Off.rf (fun _ _ => rfl)
  refine ⟨g', ?_, ⟨fun p hp => (e2 p hp).1, fun p hp h0 => (e2 p hp).2 h0, ?_, ?_, ?_, ?_, ?_⟩, e3⟩
  · rw [e_Y_stands, L0, e1]
  · rw [e4 21 (by omega)]; exact hs.2.2.1
  · rw [e4 22 (by omega)]; exact hs.2.2.2.1
  · rw [e4 23 (by omega)]; exact hs.2.2.2.2.1
  · rw [e4 24 (by omega)]; exact hs.2.2.2.2.2.1
  · rw [e4 25 (by omega)]; exact hs.2.2.2.2.2.2
/-- a change of the shelf alone -/
def YD (f g : Nat → Nat → Int32) : Prop := Off f g (64 :: yRows) ∧ ∀ j, j ≠ 10 → j ≠ 13 → g 63 j = f 63 j
theorem YD.tr {f g h : Nat → Nat → Int32} (x : YD f g) (y : YD g h) : YD f h := ⟨Off.tr x.1 y.1, fun j h1 h2 => (y.2 j h1 h2).trans (x.2 j h1 h2)⟩
theorem YD.of {f g : Nat → Nat → Int32} (x : YF f g) : YD f g := ⟨Off.mono x.1 (fun k hk => List.mem_cons_of_mem _ hk), x.2⟩
theorem YD.of64 {f g : Nat → Nat → Int32} (x : Off f g [64]) : YD f g := ⟨Off.mono x (by simp), fun j _ _ => by rw [x 63 (by simp)]⟩
/-- a move is made, or counted as refused -/
theorem s_Ydoes {f : Nat → Nat → Int32} {m : Nat} (w : WF h) (ha : AOK a) (hs : YSt (f 64) a) (hm : m < 19) : ∃ g, f_Y_does 63 (nI m) (hS h f) = rI (nI (rsn (aP a) (aS a) m)) (hS h g) ∧ YSt (g 64) (mv a m) ∧ YD f g := by
  have hb := ha.2.1
  have ho9 : ∀ s, 1 ≤ s → s ≤ aB a → 1 ≤ aO a s ∧ aO a s ≤ 9 := fun s s1 s2 => (ha.2.2.2.2.2.2.1 s s1 s2).2
  have hrl := rsn_lt (aP a) (aS a) m
  obtain ⟨g1, e1, e2⟩ := s_Ylooks w ha hs
  have g64 : g1 64 = f 64 := e2.2.2.1 64 (by simp)
  have y1 := Lkd_YF e2
  rw [e_Y_does, if_pos (yK w), e1, cV_v, if_pos (yK w), s_YwhyNotOf w ha.1 hm hb (fun s s1 s2 => (e2.1.2 s s1 s2).2.2) e2.2.1, cI_v]
  unfold mv
  by_cases h0 : rsn (aP a) (aS a) m = 0
  · rw [if_pos ((i_le0 (by omega)).2 h0), if_pos h0, if_pos (yK w)]
    have hva := aft_VW hb ha.1 hm h0
    obtain ⟨g2, k1, k2, k3, k4, k5⟩ := s_Ymakes (O := aO a) w hb ha.1 hm (rsn_0 h0) e2.2.1 (fun s s1 s2 => ⟨(e2.1.2 s s1 s2).2.1, (ho9 s s1 s2).2⟩)
    obtain ⟨g3, l1, l2, l3⟩ := s_YgoesOn w k2
    have hlk : Lk g3 (aB a) (aL a) (aO a) (aS a) := by
      unfold Lk
      rw [l3 63 (by simp), k5 10 (by omega), l3 68 (by simp), l3 69 (by simp), l3 70 (by simp), k4 68 (by simp), k4 69 (by simp), k4 70 (by simp)]
      exact e2.1
    have g643 : g3 64 = f 64 := by rw [l3 64 (by simp), k4 64 (by simp), g64]
    obtain ⟨g4, m1, m2, m3⟩ := s_Ystands w ha hva hlk l2 (by rw [g643]; exact hs)
    have h13 : g4 63 13 = nI (prc (aO a) (aP a) m) := by rw [m3 63 (by simp), l3 63 (by simp), k3]
    have y2 : YF g1 g2 := ⟨Off.mono k4 (by simp [yRows]), fun j _ hj => k5 j hj⟩
    have y3 : YF g2 g3 := YF.of l3 (by simp [yRows]) (by simp)
    rw [k1, cV_v, if_pos (yK w), l1, cV_v, if_pos (yK w), m1, cV_v]
    simp only [yR0 w, oo_v]
    rw [show (23 : Int32) = nI 23 from rfl, show (24 : Int32) = nI 24 from rfl, yA64 w (by omega), oo_v, if_pos (yB64 w (by omega)), i_w (by omega)]
    simp only [yR0 w, yI w, oo_v]
    rw [yA64 w (by omega), oo_v, if_pos (yB64 w (by omega)), i_w (by omega)]
    refine ⟨_, by rw [h0]; rfl, ?_, YD.tr (YD.of (YF.tr (YF.tr y1 y2) y3)) (YD.tr (YD.of64 m3) (YD.of64 (Off.tr (s2_off (by simp)) (s2_off (by simp)))))⟩
    obtain ⟨n1, n2, n3, n4, n5, n6, n7⟩ := m2
    refine ⟨fun p hp => ?_, fun p hp hz => ?_, ?_, ?_, ?_, ?_, ?_⟩
    · rw [s2_at, if_pos rfl, if_neg (by omega), s2_at, if_pos rfl, if_neg (by omega)]
      exact n1 p hp
    · rw [s2_at, if_pos rfl, if_neg (by omega), s2_at, if_pos rfl, if_neg (by omega), s2_at, if_pos rfl, if_neg (by omega), s2_at, if_pos rfl, if_neg (by omega)]
      exact n2 p hp hz
    · have : g4 64 21 = nI (aF a) := n3
      simp [s2_at, this]
    · have : g4 64 22 = nI (aC a) := n4
      simp [s2_at, this]
    · have : g4 64 23 = aM a := n5
      simp [s2_at, this]
    · have : g4 64 24 = aE a := n6
      rw [s2_at, if_pos rfl, if_pos rfl, s2_at, if_pos rfl, if_neg (by omega), this, s2_ne (by omega), h13]
    · have : g4 64 25 = aR a := n7
      simp [s2_at, this]
  · rw [if_neg (fun e => h0 ((i_le0 (by omega)).1 e)), if_neg h0]
    simp only [yR0 w, oo_v]
    rw [show (25 : Int32) = nI 25 from rfl, yA64 w (by omega), oo_v, if_pos (yB64 w (by omega)), i_w (by omega)]
    refine ⟨_, rfl, ?_, YD.tr (YD.of y1) (YD.of64 (s2_off (by simp)))⟩
    obtain ⟨n1, n2, n3, n4, n5, n6, n7⟩ := hs
    rw [← g64] at n1 n2 n3 n4 n5 n6 n7
    refine ⟨fun p hp => ?_, fun p hp hz => ?_, ?_, ?_, ?_, ?_, ?_⟩
    · rw [s2_at, if_pos rfl, if_neg (by omega)]
      exact n1 p hp
    · rw [s2_at, if_pos rfl, if_neg (by omega), s2_at, if_pos rfl, if_neg (by omega)]
      exact n2 p hp hz
    · simpa [s2_at] using n3
    · simpa [s2_at] using n4
    · simpa [s2_at] using n5
    · simpa [s2_at] using n6
    · have : g1 64 25 = aR a := n7
      simp [s2_at, this]
end YState
