/-! the reference's numbers become less until none does: they are the least -/
def DA (g : Nat → Nat → Int32) (k b : Nat) (d : Nat → Nat) : Prop := ∀ r, r < wds b → g k r = nI (d r)
/-- numbers that are prices of ways, or none -/
def Sv (b S F C : Nat) (p : Nat → Nat → Nat) (d : Nat → Nat) : Prop := ∀ r, r < wds b → d r ≤ 1000000 ∧ (d r < 1000000 → ∃ n, Pt (ED b S) p (gol b F C) n r (d r)) ∧ (gol b F C r = true → d r = 0)
def dcr (d : Nat → Nat) (r to x : Nat) : Nat → Nat := fun q => if q = r then min (d r) (d to + x) else d q
theorem Sv_dcr {b S F C r m to : Nat} {p : Nat → Nat → Nat} {d : Nat → Nat} (hto : to < wds b) (hm : m < 19) (hE : ED b S r m = some to) (h : Sv b S F C p d) : Sv b S F C p (dcr d r to (p r m)) := fun q hq => by
  unfold dcr
  by_cases hqr : q = r
  · subst hqr
    rw [if_pos rfl]
    obtain ⟨h1, h2, h3⟩ := h q hq
    obtain ⟨k1, k2, k3⟩ := h to hto
    refine ⟨Nat.le_trans (Nat.min_le_left _ _) h1, fun hl => ?_, fun hg => by rw [h3 hg]; exact Nat.zero_min _⟩
    by_cases hle : d q ≤ d to + p q m
    · rw [Nat.min_eq_left hle] at hl ⊢
      exact h2 hl
    · have hle : d to + p q m ≤ d q := by omega
      rw [Nat.min_eq_right hle] at hl ⊢
      obtain ⟨n, hn⟩ := k2 (by omega)
      exact ⟨n + 1, m, to, d to, hm, hE, hn, Nat.add_comm _ _⟩
  · rw [if_neg hqr]
    exact h q hq
theorem Sv_end {b S F C : Nat} {p : Nat → Nat → Nat} {d : Nat → Nat} (hb : b < 6) (hp1 : ∀ r m r', r < wds b → m < 19 → ED b S r m = some r' → 1 ≤ p r m ∧ p r m ≤ 9) (h : Sv b S F C p d) (hs : ∀ r m to, r < wds b → m < 19 → ED b S r m = some to → d r ≤ d to + p r m) : ∀ r, r < wds b → d r = (lv (ED b S) p (gol b F C) r).getD 1000000 := by
  have hw := wds_lt hb
  have key : ∀ n r w, r < wds b → Pt (ED b S) p (gol b F C) n r w → d r ≤ w := by
    intro n
    induction n with
    | zero => exact fun r w hr h1 => by rw [(h r hr).2.2 h1.1]; exact Nat.zero_le _
    | succ n ih =>
      intro r w hr h1
      obtain ⟨m, r', w', a1, a2, a3, a4⟩ := h1
      have h2 := ih r' w' (ED_lt hb r m r' hr a1 a2) a3
      have h3 := hs r m r' hr a1 a2
      omega
  intro r hr
  cases hx : lv (ED b S) p (gol b F C) r with
  | none =>
    show d r = 1000000
    obtain ⟨h1, h2, h3⟩ := h r hr
    rcases Nat.lt_or_ge (d r) 1000000 with q | q
    · obtain ⟨n, hn⟩ := h2 q
      obtain ⟨w, _, hl⟩ := lst_ex _ _ hn
      rw [lv_eq.2 hl] at hx
      cases hx
    · omega
  | some w =>
    show d r = w
    have hl := lv_eq.1 hx
    have hle := lst_le (B := 9) (fun r m r' q1 q2 q3 => (hp1 r m r' q1 q2 q3).1) (fun r m r' q1 q2 q3 => (hp1 r m r' q1 q2 q3).2) (ED_lt hb) hr hl
    obtain ⟨n, hn⟩ := hl.1
    have h1 := key n r w hr hn
    obtain ⟨n', hn'⟩ := (h r hr).2.1 (by omega)
    have h2 := hl.2 _ _ hn'
    omega
theorem sm_dcr {d d' : Nat → Nat} : ∀ N, (∀ q, q < N → d' q ≤ d q) → sm d' N ≤ sm d N
  | 0, _ => Nat.le_refl _
  | N + 1, h => by
    have h1 := sm_dcr N (fun q hq => h q (by omega))
    have h2 := h N (by omega)
    show sm d' N + d' N ≤ sm d N + d N
    omega
theorem sm_lt {d d' : Nat → Nat} : ∀ N, (∀ q, q < N → d' q ≤ d q) → (∃ q, q < N ∧ d' q < d q) → sm d' N < sm d N
  | 0, _, hx => by
    obtain ⟨q, hq, _⟩ := hx
    omega
  | N + 1, h, hx => by
    obtain ⟨q, hq, hl⟩ := hx
    have h1 := sm_dcr N (fun q hq => h q (by omega))
    have h2 := h N (by omega)
    show sm d' N + d' N < sm d N + d N
    by_cases hqN : q = N
    · rw [hqN] at hl
      omega
    · have h3 := sm_lt N (fun q hq => h q (by omega)) ⟨q, by omega, hl⟩
      omega
theorem dcr_le {d : Nat → Nat} {r to x q : Nat} : dcr d r to x q ≤ d q := by
  unfold dcr
  by_cases h : q = r
  · rw [if_pos h, h]; exact Nat.min_le_left _ _
  · rw [if_neg h]; exact Nat.le_refl _
section Least
variable {h : pH} {b S F C : Nat} {O : Nat → Nat}
theorem s_Ylessens {r m : Nat} {g : Nat → Nat → Int32} {da db : Nat → Nat} (w : WF h) (hb : b < 6) (hr : r < wds b) (hm : m < 19) (hN : Nq g b S O (19 * wds b)) (hO : ∀ s, 1 ≤ s → s ≤ b → 1 ≤ O s ∧ O s ≤ 9) (hA : DA g 75 b da) (hB : DA g 76 b db) (ha6 : ∀ q, q < wds b → da q ≤ 1000000 ∧ db q ≤ 1000000) :
    (ED b S r m = none ∧ f_Y_lessens 63 (nI r) (nI m) (hS h g) = rI (nI 0) (hS h g)) ∨ ∃ to g', ED b S r m = some to ∧ f_Y_lessens 63 (nI r) (nI m) (hS h g) = rI (nI (if da to + 1 < da r ∨ db to + pr b O r m < db r then 1 else 0)) (hS h g') ∧ DA g' 75 b (dcr da r to 1) ∧ DA g' 76 b (dcr db r to (pr b O r m)) ∧ Off g g' [75, 76] := by
  have hw := wds_lt hb
  have hix : 19 * r + m < 47880 := by omega
  obtain ⟨n1, n2⟩ := hN (19 * r + m) (by omega)
  rw [show (19 * r + m) / 19 = r by omega, show (19 * r + m) % 19 = m by omega] at n1 n2
  rw [e_Y_lessens]
  simp only [yR14 w, oo_v, L19, i_mul, i_add, yA73 w hix, n1]
  cases hE : ED b S r m with
  | none =>
    refine Or.inl ⟨rfl, ?_⟩
    rw [if_neg (by decide)]
    rfl
  | some to =>
    have hto := ED_lt hb r m to hr hm hE
    have n3 := n2 to hE
    have hpb := (pr_bd (S := S) hb hO r m to hr hm hE).2
    obtain ⟨a1, a2⟩ := ha6 r hr
    obtain ⟨a3, a4⟩ := ha6 to hto
    have hAr := hA r hr
    have hAt := hA to hto
    have hBr := hB r hr
    have hBt := hB to hto
    refine Or.inr ⟨to, s2 (s2 g 75 r (nI (min (da r) (da to + 1)))) 76 r (nI (min (db r) (db to + pr b O r m))), rfl, ?_, fun q hq => ?_, fun q hq => ?_, Off.tr (s2_off (by simp)) (s2_off (by simp))⟩
    · have h108 : ∀ c : Nat, c < 2 → f_Y_lessens_108 63 (nI r) (nI m) (nI to) (nI c) 75 (nI r) (nI (min (da r) (da to + 1))) (hS h g) = rI (nI c) (hS h (s2 (s2 g 75 r (nI (min (da r) (da to + 1)))) 76 r (nI (min (db r) (db to + pr b O r m))))) := fun c hc => by
        have hc01 : nI c = 0 ∨ nI c = 1 := by
          rcases (show c = 0 ∨ c = 1 by omega) with rfl | rfl
          · exact Or.inl rfl
          · exact Or.inr rfl
        rw [e_Y_lessens_108, if_pos (yB75 w (by omega)), i_w (by omega)]
        simp only [yR17 w, yR15 w, oo_v, L19, i_mul, i_add, yA76 w (show to < 2520 by omega), yA74 w hix, yA76 w (show r < 2520 by omega)]
        rw [s2_ne (show (76 : Nat) ≠ 75 by omega), s2_ne (show (74 : Nat) ≠ 75 by omega), n3, hBt, hBr, i_add]
        by_cases hle : db r ≤ db to + pr b O r m
        · rw [if_pos ((i_le (by omega) (by omega)).2 hle), if_pos (yB76 w (by omega)), i_w (by omega), if_pos hc01, Nat.min_eq_left hle]
        · rw [if_neg (fun e => hle ((i_le (by omega) (by omega)).1 e)), if_pos (yB76 w (by omega)), i_w (by omega), if_pos hc01, Nat.min_eq_right (show db to + pr b O r m ≤ db r by omega)]
      have h67 : ∀ c : Nat, c < 2 → f_Y_lessens_67 63 (nI r) (nI m) (nI to) (nI c) (hS h g) = rI (nI c) (hS h (s2 (s2 g 75 r (nI (min (da r) (da to + 1)))) 76 r (nI (min (db r) (db to + pr b O r m))))) := fun c hc => by
        rw [e_Y_lessens_67]
        simp only [yR16 w, oo_v, yA75 w (show to < 2520 by omega), yA75 w (show r < 2520 by omega), hAr, hAt, L1, i_add]
        by_cases hle : da r ≤ da to + 1
        · rw [if_pos ((i_le (by omega) (by omega)).2 hle)]
          have := h108 c hc
          rw [Nat.min_eq_left hle] at this ⊢
          exact this
        · rw [if_neg (fun e => hle ((i_le (by omega) (by omega)).1 e))]
          have := h108 c hc
          rw [Nat.min_eq_right (show da to + 1 ≤ da r by omega)] at this ⊢
          exact this
      rw [if_pos (show (0 : Int32) ≤ vI (some to) by show 0 ≤ nI to; rw [L0, i_le (by omega) (by omega)]; exact Nat.zero_le _)]
      simp only [vI, yR16 w, yR17 w, yR15 w, oo_v, yA75 w (show to < 2520 by omega), yA75 w (show r < 2520 by omega), yA76 w (show to < 2520 by omega), yA76 w (show r < 2520 by omega), hAr, hAt, hBr, hBt, L1, i_add, yA74 w hix, n3]
      by_cases hl1 : da to + 1 < da r
      · rw [if_pos ((i_lt (by omega) (by omega)).2 hl1), if_pos (Or.inl hl1)]
        exact h67 1 (by omega)
      · rw [if_neg (fun e => hl1 ((i_lt (by omega) (by omega)).1 e))]
        by_cases hl2 : db r ≤ db to + pr b O r m
        · rw [if_pos ((i_le (by omega) (by omega)).2 hl2), if_neg (by omega), L0]
          exact h67 0 (by omega)
        · rw [if_neg (fun e => hl2 ((i_le (by omega) (by omega)).1 e)), if_pos (Or.inr (by omega))]
          exact h67 1 (by omega)
    · unfold dcr
      by_cases hqr : q = r
      · rw [if_pos hqr, hqr]
        simp [s2_at]
      · rw [if_neg hqr]
        simp [s2_at, hqr, hA q hq]
    · unfold dcr
      by_cases hqr : q = r
      · rw [if_pos hqr, hqr]
        simp [s2_at]
      · rw [if_neg hqr]
        simp [s2_at, hqr, hB q hq]
theorem s_Ysolves_14 (w : WF h) (hb : b < 6) (hO : ∀ s, 1 ≤ s → s ≤ b → 1 ≤ O s ∧ O s ≤ 9) {g0 : Nat → Nat → Int32} (hB0 : g0 63 10 = nI b) (hN : Nq g0 b S O (19 * wds b)) : ∀ (k i c : Nat) (g : Nat → Nat → Int32) (da db : Nat → Nat), i + k = 19 * wds b → c < 2 → DA g 75 b da → DA g 76 b db → Sv b S F C (fun _ _ => 1) da → Sv b S F C (pr b O) db → Off g0 g [75, 76] →
    ∃ g' da' db' c', f_Y_solves_14 63 (nI c) (nI i) (hS h g) = f_Y_solves_6 63 (nI c') (hS h g') ∧ c' < 2 ∧ DA g' 75 b da' ∧ DA g' 76 b db' ∧ Sv b S F C (fun _ _ => 1) da' ∧ Sv b S F C (pr b O) db' ∧ Off g0 g' [75, 76] ∧ (∀ q, q < wds b → da' q ≤ da q ∧ db' q ≤ db q) ∧
      (c' = 0 → c = 0 ∧ (∀ q, q < wds b → da' q = da q ∧ db' q = db q) ∧ ∀ j to, i ≤ j → j < 19 * wds b → ED b S (j / 19) (j % 19) = some to → da (j / 19) ≤ da to + 1 ∧ db (j / 19) ≤ db to + pr b O (j / 19) (j % 19)) ∧
      (c' = 1 → c = 1 ∨ sm da' (wds b) + sm db' (wds b) < sm da (wds b) + sm db (wds b))
  | 0, i, c, g, da, db, hi, hc, hA, hB, hv1, hv2, ho => by
    have hw := wds_lt hb
    refine ⟨g, da, db, c, ?_, hc, hA, hB, hv1, hv2, ho, fun q _ => ⟨Nat.le_refl _, Nat.le_refl _⟩, fun hc0 => ⟨hc0, fun _ _ => ⟨rfl, rfl⟩, fun j to h1 h2 => by omega⟩, fun h1 => Or.inl h1⟩
    rw [e_Y_solves_14, if_pos (yK w), s_Ywords w hb (by rw [ho 63 (by simp)]; exact hB0), cI_v, L19, i_mul, if_pos ((i_le (by omega) (by omega)).2 (by omega))]
  | k + 1, i, c, g, da, db, hi, hc, hA, hB, hv1, hv2, ho => by
    have hw := wds_lt hb
    have hr : i / 19 < wds b := by omega
    have hm : i % 19 < 19 := Nat.mod_lt _ (by omega)
    have hN' : Nq g b S O (19 * wds b) := by
      unfold Nq at *
      rw [ho 73 (by simp), ho 74 (by simp)]
      exact hN
    have hle := s_Ylessens w hb hr hm hN' hO hA hB (fun q hq => ⟨(hv1 q hq).1, (hv2 q hq).1⟩)
    rw [e_Y_solves_14, if_pos (yK w), s_Ywords w hb (by rw [ho 63 (by simp)]; exact hB0), cI_v, L19, i_mul, if_neg (fun e => absurd ((i_le (by omega) (by omega)).1 e) (by omega)), if_neg (by decide), if_neg (by decide), if_pos (yK w), i_div (by omega) (by omega), i_mul, i_sub (by omega), show i - i / 19 * 19 = i % 19 by omega]
    rcases hle with ⟨hE, e1⟩ | ⟨to, g1, hE, e1, e2, e3, e4⟩
    · rw [e1, cI_v, if_pos (by rfl), L1, i_add]
      have hgo : (if nI c = 0 then f_Y_solves_14 63 0 (nI (i + 1)) (hS h g) else f_Y_solves_14 63 (nI 1) (nI (i + 1)) (hS h g)) = f_Y_solves_14 63 (nI c) (nI (i + 1)) (hS h g) := by
        rcases (show c = 0 ∨ c = 1 by omega) with rfl | rfl
        · rw [if_pos (by rfl), L0]
        · rw [if_neg (by decide)]
      rw [hgo]
      obtain ⟨g', da', db', c', f1, f2, f3, f4, f5, f6, f7, f8, f9, f10⟩ := s_Ysolves_14 w hb hO hB0 hN k (i + 1) c g da db (by omega) hc hA hB hv1 hv2 ho
      refine ⟨g', da', db', c', f1, f2, f3, f4, f5, f6, f7, f8, fun hc0 => ?_, f10⟩
      obtain ⟨y1, y2, y3⟩ := f9 hc0
      refine ⟨y1, y2, fun j to h1 h2 h3 => ?_⟩
      by_cases hji : j = i
      · rw [hji, hE] at h3
        cases h3
      · exact y3 j to (by omega) h2 h3
    · have hto := ED_lt hb (i / 19) (i % 19) to hr hm hE
      have hs1 := Sv_dcr (p := fun _ _ => 1) hto hm hE hv1
      have hs2 := Sv_dcr (p := pr b O) hto hm hE hv2
      have ho1 := Off.tr ho e4
      by_cases hl : da to + 1 < da (i / 19) ∨ db to + pr b O (i / 19) (i % 19) < db (i / 19)
      · rw [e1, if_pos hl, cI_v, if_neg (by decide), L1, i_add]
        obtain ⟨g', da', db', c', f1, f2, f3, f4, f5, f6, f7, f8, f9, f10⟩ := s_Ysolves_14 w hb hO hB0 hN k (i + 1) 1 g1 _ _ (by omega) (by omega) e2 e3 hs1 hs2 ho1
        refine ⟨g', da', db', c', f1, f2, f3, f4, f5, f6, f7, fun q hq => ⟨Nat.le_trans (f8 q hq).1 dcr_le, Nat.le_trans (f8 q hq).2 dcr_le⟩, fun hc0 => absurd (f9 hc0).1 (by omega), fun _ => Or.inr ?_⟩
        have s1 := sm_dcr (d := dcr da (i / 19) to 1) (d' := da') (wds b) (fun q hq => (f8 q hq).1)
        have s2 := sm_dcr (d := dcr db (i / 19) to (pr b O (i / 19) (i % 19))) (d' := db') (wds b) (fun q hq => (f8 q hq).2)
        rcases hl with hl | hl
        · have s3 := sm_lt (d := da) (d' := dcr da (i / 19) to 1) (wds b) (fun q _ => dcr_le) ⟨i / 19, hr, by unfold dcr; rw [if_pos rfl]; omega⟩
          have s4 := sm_dcr (d := db) (d' := dcr db (i / 19) to (pr b O (i / 19) (i % 19))) (wds b) (fun q _ => dcr_le)
          omega
        · have s3 := sm_dcr (d := da) (d' := dcr da (i / 19) to 1) (wds b) (fun q _ => dcr_le)
          have s4 := sm_lt (d := db) (d' := dcr db (i / 19) to (pr b O (i / 19) (i % 19))) (wds b) (fun q _ => dcr_le) ⟨i / 19, hr, by unfold dcr; rw [if_pos rfl]; omega⟩
          omega
      · have q1 : dcr da (i / 19) to 1 = da := by
          funext q
          unfold dcr
          by_cases hq : q = i / 19
          · rw [if_pos hq, hq, Nat.min_eq_left (by omega)]
          · rw [if_neg hq]
        have q2 : dcr db (i / 19) to (pr b O (i / 19) (i % 19)) = db := by
          funext q
          unfold dcr
          by_cases hq : q = i / 19
          · rw [if_pos hq, hq, Nat.min_eq_left (by omega)]
          · rw [if_neg hq]
        rw [q1] at e2
        rw [q2] at e3
        rw [e1, if_neg hl, cI_v, if_pos (by rfl), L1, i_add]
        have hgo : (if nI c = 0 then f_Y_solves_14 63 0 (nI (i + 1)) (hS h g1) else f_Y_solves_14 63 (nI 1) (nI (i + 1)) (hS h g1)) = f_Y_solves_14 63 (nI c) (nI (i + 1)) (hS h g1) := by
          rcases (show c = 0 ∨ c = 1 by omega) with rfl | rfl
          · rw [if_pos (by rfl), L0]
          · rw [if_neg (by decide)]
        rw [hgo]
        obtain ⟨g', da', db', c', f1, f2, f3, f4, f5, f6, f7, f8, f9, f10⟩ := s_Ysolves_14 w hb hO hB0 hN k (i + 1) c g1 da db (by omega) hc e2 e3 hv1 hv2 ho1
        refine ⟨g', da', db', c', f1, f2, f3, f4, f5, f6, f7, f8, fun hc0 => ?_, f10⟩
        obtain ⟨y1, y2, y3⟩ := f9 hc0
        refine ⟨y1, y2, fun j to' h1 h2 h3 => ?_⟩
        by_cases hji : j = i
        · subst hji
          rw [hE] at h3
          cases h3
          omega
        · exact y3 j to' (by omega) h2 h3
/-- the numbers of all words are the least -/
def Sol (g : Nat → Nat → Int32) (b S : Nat) (O : Nat → Nat) (F C : Nat) : Prop := Nq g b S O (19 * wds b) ∧ (∀ r, r < wds b → g 75 r = nI ((lv (ED b S) (fun _ _ => 1) (gol b F C) r).getD 1000000)) ∧ ∀ r, r < wds b → g 76 r = nI ((lv (ED b S) (pr b O) (gol b F C) r).getD 1000000)
theorem s_Ysolves_6 (w : WF h) (hb : b < 6) (hO : ∀ s, 1 ≤ s → s ≤ b → 1 ≤ O s ∧ O s ≤ 9) {g0 : Nat → Nat → Int32} (hB0 : g0 63 10 = nI b) (hN : Nq g0 b S O (19 * wds b)) : ∀ (M : Nat) (g : Nat → Nat → Int32) (da db : Nat → Nat), sm da (wds b) + sm db (wds b) ≤ M → DA g 75 b da → DA g 76 b db → Sv b S F C (fun _ _ => 1) da → Sv b S F C (pr b O) db → Off g0 g [75, 76] →
    ∃ g', f_Y_solves_6 63 (nI 1) (hS h g) = rV (hS h g') ∧ Sol g' b S O F C ∧ Off g0 g' [75, 76] := by
  have hpb := pr_bd (S := S) hb hO
  have done : ∀ (g g1 : Nat → Nat → Int32) (da db da' db' : Nat → Nat), DA g1 75 b da' → DA g1 76 b db' → Sv b S F C (fun _ _ => 1) da' → Sv b S F C (pr b O) db' → Off g0 g1 [75, 76] → (∀ q, q < wds b → da' q = da q ∧ db' q = db q) → (∀ j to, 0 ≤ j → j < 19 * wds b → ED b S (j / 19) (j % 19) = some to → da (j / 19) ≤ da to + 1 ∧ db (j / 19) ≤ db to + pr b O (j / 19) (j % 19)) → Sol g1 b S O F C := fun g g1 da db da' db' hA hB hv1 hv2 ho hq hall => by
    have hx : ∀ r m to, r < wds b → m < 19 → ED b S r m = some to → da' r ≤ da' to + 1 ∧ db' r ≤ db' to + pr b O r m := fun r m to hr hm hE => by
      have h1 := hall (19 * r + m) to (Nat.zero_le _) (by omega)
      rw [show (19 * r + m) / 19 = r by omega, show (19 * r + m) % 19 = m by omega] at h1
      have hto := ED_lt hb r m to hr hm hE
      rw [(hq r hr).1, (hq r hr).2, (hq to hto).1, (hq to hto).2]
      exact h1 hE
    refine ⟨?_, fun r hr => ?_, fun r hr => ?_⟩
    · unfold Nq at *
      rw [ho 73 (by simp), ho 74 (by simp)]
      exact hN
    · rw [hA r hr, Sv_end hb (fun _ _ _ _ _ _ => ⟨Nat.le_refl 1, by omega⟩) hv1 (fun r m to h1 h2 h3 => (hx r m to h1 h2 h3).1) r hr]
    · rw [hB r hr, Sv_end hb hpb hv2 (fun r m to h1 h2 h3 => (hx r m to h1 h2 h3).2) r hr]
  intro M
  induction M with
  | zero =>
    intro g da db hM hA hB hv1 hv2 ho
    obtain ⟨g', da', db', c', f1, f2, f3, f4, f5, f6, f7, f8, f9, f10⟩ := s_Ysolves_14 w hb hO hB0 hN (19 * wds b) 0 0 g da db (by omega) (by omega) hA hB hv1 hv2 ho
    have hc0 : c' = 0 := by
      rcases (show c' = 0 ∨ c' = 1 by omega) with q | q
      · exact q
      · rcases f10 q with q2 | q2 <;> omega
    obtain ⟨y1, y2, y3⟩ := f9 hc0
    refine ⟨g', ?_, done g g' da db da' db' f3 f4 f5 f6 f7 y2 y3, f7⟩
    rw [e_Y_solves_6, if_neg (by decide), L0, f1, hc0, e_Y_solves_6, if_pos (by rfl)]
  | succ M ih =>
    intro g da db hM hA hB hv1 hv2 ho
    obtain ⟨g', da', db', c', f1, f2, f3, f4, f5, f6, f7, f8, f9, f10⟩ := s_Ysolves_14 w hb hO hB0 hN (19 * wds b) 0 0 g da db (by omega) (by omega) hA hB hv1 hv2 ho
    rcases (show c' = 0 ∨ c' = 1 by omega) with hc0 | hc1
    · obtain ⟨y1, y2, y3⟩ := f9 hc0
      refine ⟨g', ?_, done g g' da db da' db' f3 f4 f5 f6 f7 y2 y3, f7⟩
      rw [e_Y_solves_6, if_neg (by decide), L0, f1, hc0, e_Y_solves_6, if_pos (by rfl)]
    · have hlt : sm da' (wds b) + sm db' (wds b) < sm da (wds b) + sm db (wds b) := by
        rcases f10 hc1 with q | q
        · omega
        · exact q
      obtain ⟨g'', k1, k2, k3⟩ := ih g' da' db' (by omega) f3 f4 f5 f6 f7
      refine ⟨g'', ?_, k2, k3⟩
      rw [e_Y_solves_6, if_neg (by decide), L0, f1, hc1, k1]
/-- all numbers are found -/
theorem s_Ysolves {g : Nat → Nat → Int32} (w : WF h) (hb : b < 6) (hF : F < 2) (hC : C < 2) (hc : Yc g b S O F C) : ∃ g', f_Y_solves 63 (hS h g) = rV (hS h g') ∧ Yc g' b S O F C ∧ Sol g' b S O F C ∧ Off g g' fRows ∧ ∀ j, j ≠ 13 → g' 63 j = g 63 j := by
  have hO : ∀ s, 1 ≤ s → s ≤ b → 1 ≤ O s ∧ O s ≤ 9 := fun s s1 s2 => (hc.2.1 s s1 s2).2
  obtain ⟨g1, e1, e2, e3, e4, e5, e6⟩ := s_YfindsMoves w hb hF hC hc
  have hsv : ∀ p, Sv b S F C p (fun r => if gol b F C r = true then 0 else 1000000) := fun p r hr => by
    dsimp only
    by_cases hg : gol b F C r = true
    · rw [if_pos hg]
      exact ⟨by omega, fun _ => ⟨0, hg, rfl⟩, fun _ => rfl⟩
    · rw [if_neg hg]
      exact ⟨Nat.le_refl _, fun q => absurd q (Nat.lt_irrefl _), fun q => absurd q hg⟩
  obtain ⟨g2, f1, f2, f3⟩ := s_Ysolves_6 (F := F) (C := C) w hb hO e2.1 e3 _ g1 _ _ (Nat.le_refl _) (fun r hr => (e4 r hr).1) (fun r hr => (e4 r hr).2) (hsv _) (hsv _) Off.rf
  refine ⟨g2, ?_, Yc_of e2 (by rw [f3 63 (by simp)]) (f3 69 (by simp)) (f3 70 (by simp)) (f3 64 (by simp)), f2, Off.tr e5 (Off.mono f3 (by simp [fRows])), fun j hj => by rw [f3 63 (by simp)]; exact e6 j hj⟩
  rw [e_Y_solves, if_pos (yK w), e1, cV_v, L1]
  exact f1
end Least
