/-! the reference finds all moves of all words, then numbers become less until none does -/
def Yc (g : Nat → Nat → Int32) (b S : Nat) (O : Nat → Nat) (F C : Nat) : Prop := g 63 10 = nI b ∧ (∀ s, 1 ≤ s → s ≤ b → g 69 (s - 1) = nI (O s) ∧ 1 ≤ O s ∧ O s ≤ 9) ∧ (∀ s, 1 ≤ s → s ≤ b → g 70 (s - 1) = nI (S.testBit s).toNat) ∧ g 64 21 = nI F ∧ g 64 22 = nI C
theorem Yc_of {g g' : Nat → Nat → Int32} {b S F C : Nat} {O : Nat → Nat} (h : Yc g b S O F C) (h1 : g' 63 10 = g 63 10) (h2 : g' 69 = g 69) (h3 : g' 70 = g 70) (h4 : g' 64 = g 64) : Yc g' b S O F C := by
  unfold Yc at *
  rw [h1, h2, h3, h4]
  exact h
/-- the first n steps are found -/
def Nq (g : Nat → Nat → Int32) (b S : Nat) (O : Nat → Nat) (n : Nat) : Prop := ∀ i, i < n → g 73 i = vI (ED b S (i / 19) (i % 19)) ∧ (∀ r', ED b S (i / 19) (i % 19) = some r' → g 74 i = nI (pr b O (i / 19) (i % 19)))
def D0 (g : Nat → Nat → Int32) (b F C n : Nat) : Prop := ∀ r, r < n → g 75 r = nI (if gol b F C r = true then 0 else 1000000) ∧ g 76 r = nI (if gol b F C r = true then 0 else 1000000)
def fRows : List Nat := [63, 71, 72, 73, 74, 75, 76]
section Finds
variable {h : pH} {b S F C : Nat} {O : Nat → Nat} {g0 : Nat → Nat → Int32}
theorem s_Yfinds_48 (w : WF h) (hb : b < 6) {r : Nat} (hr : r < wds b) : ∀ (k m : Nat) (g : Nat → Nat → Int32), m + k = 19 → Yc g b S O F C → WAt g 71 (wd b r) → Nq g b S O (19 * r + m) → D0 g b F C (r + 1) → Off g0 g fRows → (∀ j, j ≠ 13 → g 63 j = g0 63 j) →
    ∃ g', f_Y_findsMoves_48 63 (nI r) (nI m) (hS h g) = f_Y_findsMoves_2 63 (nI (r + 1)) (hS h g') ∧ Yc g' b S O F C ∧ Nq g' b S O (19 * (r + 1)) ∧ D0 g' b F C (r + 1) ∧ Off g0 g' fRows ∧ ∀ j, j ≠ 13 → g' 63 j = g0 63 j
  | 0, m, g, hm, hc, hW, hN, hD, ho, h63 => by
    have hw := wds_lt hb
    refine ⟨g, ?_, hc, by rw [show 19 * (r + 1) = 19 * r + m by omega]; exact hN, hD, ho, h63⟩
    rw [e_Y_findsMoves_48, L19, if_pos ((i_le (by omega) (by omega)).2 (by omega)), L1, i_add]
  | k + 1, m, g, hm, hc, hW, hN, hD, ho, h63 => by
    have hw := wds_lt hb
    have hm19 : m < 19 := by omega
    have hv := wd_VW hb hr
    have hrl := rsn_lt (wd b r) S m
    have hix : 19 * r + m < 47880 := by omega
    obtain ⟨c1, c2, c3, c4, c5⟩ := id hc
    rw [e_Y_findsMoves_48, L19, if_neg (fun e => absurd ((i_le (by omega) (by omega)).1 e) (by omega)), if_pos (yK w), s_YwhyNotOf w hv hm19 hb c3 hW, cI_v]
    have nx : ∀ g1 : Nat → Nat → Int32, Yc g1 b S O F C → WAt g1 71 (wd b r) → (∀ i, i < 19 * r + m → g1 73 i = g 73 i ∧ g1 74 i = g 74 i) → g1 73 (19 * r + m) = vI (ED b S r m) → (∀ r', ED b S r m = some r' → g1 74 (19 * r + m) = nI (pr b O r m)) → D0 g1 b F C (r + 1) → Off g0 g1 fRows → (∀ j, j ≠ 13 → g1 63 j = g0 63 j) →
        ∃ g', f_Y_findsMoves_48 63 (nI r) (nI (m + 1)) (hS h g1) = f_Y_findsMoves_2 63 (nI (r + 1)) (hS h g') ∧ Yc g' b S O F C ∧ Nq g' b S O (19 * (r + 1)) ∧ D0 g' b F C (r + 1) ∧ Off g0 g' fRows ∧ ∀ j, j ≠ 13 → g' 63 j = g0 63 j := fun g1 x1 x2 x3 x4 x5 x6 x7 x8 => by
      refine s_Yfinds_48 w hb hr k (m + 1) g1 (by omega) x1 x2 (fun i hi => ?_) x6 x7 x8
      by_cases him : i = 19 * r + m
      · rw [him, show (19 * r + m) / 19 = r by omega, show (19 * r + m) % 19 = m by omega]
        exact ⟨x4, x5⟩
      · obtain ⟨y1, y2⟩ := hN i (by omega)
        obtain ⟨z1, z2⟩ := x3 i (by omega)
        rw [z1, z2]
        exact ⟨y1, y2⟩
    by_cases h0 : rsn (wd b r) S m = 0
    · have hE : ED b S r m = some (rk b (aft (wd b r) m)) := by unfold ED; rw [if_pos h0]
      have hva := aft_VW hb hv hm19 h0
      rw [if_pos ((i_eq0 (by omega)).2 h0), e_Y_findsMoves_67]
      simp only [yR14 w, oo_v, L19, i_mul, i_add]
      rw [if_pos (yB73 w hix), if_neg (by decide), i_w (by omega), if_pos (yK w)]
      obtain ⟨g1, e1, e2, e3, e4, e5⟩ := s_Ymakes (g := s2 g 73 (19 * r + m) (-1)) w hb hv hm19 (rsn_0 h0) (fun q hq => by rw [s2_at, if_neg (by omega)]; exact hW q hq) (fun s s1 s2' => by rw [s2_at, if_neg (by omega)]; exact ⟨(c2 s s1 s2').1, (c2 s s1 s2').2.2⟩)
      have g10 : g1 63 10 = nI b := by rw [e5 10 (by omega), s2_at, if_neg (by omega)]; exact c1
      rw [e1, cV_v]
      simp only [yR14 w, oo_v, yK w, if_true]
      rw [s_YrankOfThen w hb hva g10 e2, cI_v, if_pos (yB73 w hix), i_w (by omega)]
      simp only [yR15 w, yI w, oo_v]
      rw [if_pos (yB74 w hix), i_w (by omega), L1, i_add, show s2 g1 73 (19 * r + m) (nI (rk b (aft (wd b r) m))) 63 13 = nI (prc O (wd b r) m) by rw [s2_at, if_neg (by omega)]; exact e3]
      refine nx _ ?_ ?_ ?_ ?_ ?_ ?_ ?_ ?_
      · refine Yc_of hc ?_ ?_ ?_ ?_
        · rw [s2_at, if_neg (by omega), s2_at, if_neg (by omega), g10, c1]
        · rw [s2_ne (by omega), s2_ne (by omega), e4 69 (by simp), s2_ne (by omega)]
        · rw [s2_ne (by omega), s2_ne (by omega), e4 70 (by simp), s2_ne (by omega)]
        · rw [s2_ne (by omega), s2_ne (by omega), e4 64 (by simp), s2_ne (by omega)]
      · intro q hq
        rw [s2_ne (by omega), s2_ne (by omega), e4 71 (by simp), s2_ne (by omega)]
        exact hW q hq
      · intro i hi
        have h1 : ¬ i = 19 * r + m := by omega
        have h2 := e4 73 (by simp)
        have h3 := e4 74 (by simp)
        constructor
        · simp [s2_at, h1, h2]
        · simp [s2_at, h1, h3]
      · rw [hE]
        simp [s2_at, vI]
      · intro r' _
        simp [s2_at, pr]
      · intro r' hr'
        have h2 := e4 75 (by simp)
        have h3 := e4 76 (by simp)
        have := hD r' hr'
        simp [s2_at, h2, h3, this]
      · exact Off.tr ho (Off.tr (s2_off (by simp [fRows])) (Off.tr (Off.mono e4 (by simp [fRows])) (Off.tr (s2_off (by simp [fRows])) (s2_off (by simp [fRows])))))
      · intro j hj
        rw [s2_ne (by omega), s2_ne (by omega), e5 j hj, s2_ne (by omega)]
        exact h63 j hj
    · have hE : ED b S r m = none := by unfold ED; rw [if_neg h0]
      rw [if_neg (fun e => h0 ((i_eq0 (by omega)).1 e)), e_Y_findsMoves_67]
      simp only [yR14 w, oo_v, L19, i_mul, i_add]
      rw [if_pos (yB73 w hix), if_pos True.intro, i_w (by omega), L1, i_add]
      refine nx _ ?_ ?_ ?_ ?_ ?_ ?_ ?_ ?_
      · exact Yc_of hc (by rw [s2_ne (by omega)]) (by rw [s2_ne (by omega)]) (by rw [s2_ne (by omega)]) (by rw [s2_ne (by omega)])
      · intro q hq
        rw [s2_ne (by omega)]
        exact hW q hq
      · intro i hi
        have h1 : ¬ i = 19 * r + m := by omega
        simp [s2_at, h1]
      · rw [hE, s2_at, if_pos rfl, if_pos rfl]
        rfl
      · intro r' hr'
        rw [hE] at hr'
        cases hr'
      · intro r' hr'
        rw [s2_ne (by omega), s2_ne (by omega)]
        exact hD r' hr'
      · exact Off.tr ho (s2_off (by simp [fRows]))
      · intro j hj
        rw [s2_ne (by omega)]
        exact h63 j hj
theorem s_Yfinds_2 (w : WF h) (hb : b < 6) (hF : F < 2) (hC : C < 2) : ∀ (k r : Nat) (g : Nat → Nat → Int32), r + k = wds b → Yc g b S O F C → Nq g b S O (19 * r) → D0 g b F C r → Off g0 g fRows → (∀ j, j ≠ 13 → g 63 j = g0 63 j) →
    ∃ g', f_Y_findsMoves_2 63 (nI r) (hS h g) = rV (hS h g') ∧ Yc g' b S O F C ∧ Nq g' b S O (19 * wds b) ∧ D0 g' b F C (wds b) ∧ Off g0 g' fRows ∧ ∀ j, j ≠ 13 → g' 63 j = g0 63 j
  | 0, r, g, hr, hc, hN, hD, ho, h63 => by
    have hw := wds_lt hb
    obtain rfl : r = wds b := by omega
    refine ⟨g, ?_, hc, hN, hD, ho, h63⟩
    rw [e_Y_findsMoves_2, if_pos (yK w), s_Ywords w hb hc.1, cI_v, if_pos ((i_le (by omega) (by omega)).2 (by omega))]
  | k + 1, r, g, hr, hc, hN, hD, ho, h63 => by
    have hw := wds_lt hb
    obtain ⟨c1, c2, c3, c4, c5⟩ := id hc
    rw [e_Y_findsMoves_2, if_pos (yK w), s_Ywords w hb c1, cI_v, if_neg (fun e => absurd ((i_le (by omega) (by omega)).1 e) (by omega)), if_pos (yK w)]
    obtain ⟨g1, e1, e2, e3⟩ := s_Yspells (r := r) w hb (by omega) c1
    rw [e1, cV_v]
    simp only [yR16 w, oo_v, yK w, if_true]
    rw [s_YisWordInOrder w hF hC (by rw [e3 64 (by simp)]; exact c4) (by rw [e3 64 (by simp)]; exact c5) e2, cI_v]
    have h33 : ∃ g', f_Y_findsMoves_33 63 (nI r) 75 (nI r) (nI (if gol b F C r = true then 0 else 1000000)) (hS h g1) = rV (hS h g') ∧ Yc g' b S O F C ∧ Nq g' b S O (19 * wds b) ∧ D0 g' b F C (wds b) ∧ Off g0 g' fRows ∧ ∀ j, j ≠ 13 → g' 63 j = g0 63 j := by
      rw [e_Y_findsMoves_33, if_pos (yB75 w (show r < 2520 by omega)), i_w (by omega)]
      simp only [yR17 w, yR16 w, oo_v, yA75 w (show r < 2520 by omega), yB76 w (show r < 2520 by omega), if_true]
      rw [i_w (by omega), show s2 g1 75 r (nI (if gol b F C r = true then 0 else 1000000)) 75 r = nI (if gol b F C r = true then 0 else 1000000) by rw [s2_at, if_pos rfl, if_pos rfl], L0]
      obtain ⟨g2, f1, f2, f3, f4, f5, f6⟩ := s_Yfinds_48 (g0 := g0) (S := S) (O := O) (F := F) (C := C) w hb (show r < wds b by omega) 19 0 (s2 (s2 g1 75 r (nI (if gol b F C r = true then 0 else 1000000))) 76 r (nI (if gol b F C r = true then 0 else 1000000))) (by omega) (Yc_of hc (by rw [s2_ne (by omega), s2_ne (by omega), e3 63 (by simp)]) (by rw [s2_ne (by omega), s2_ne (by omega), e3 69 (by simp)]) (by rw [s2_ne (by omega), s2_ne (by omega), e3 70 (by simp)]) (by rw [s2_ne (by omega), s2_ne (by omega), e3 64 (by simp)])) (fun q hq => by rw [s2_ne (by omega), s2_ne (by omega)]; exact e2 q hq) (fun i hi => by rw [s2_ne (by omega), s2_ne (by omega), s2_ne (by omega), s2_ne (by omega), e3 73 (by simp), e3 74 (by simp)]; exact hN i hi) (fun r' hr' => by
        by_cases hrr : r' = r
        · rw [hrr]
          simp [s2_at]
        · have h1 := hD r' (by omega)
          have h2 := e3 75 (by simp)
          have h3 := e3 76 (by simp)
          simp [s2_at, hrr, h1, h2, h3]) (Off.tr ho (Off.tr (Off.mono e3 (by simp [fRows])) (Off.tr (s2_off (by simp [fRows])) (s2_off (by simp [fRows]))))) (fun j hj => by rw [s2_ne (by omega), s2_ne (by omega), e3 63 (by simp)]; exact h63 j hj)
      rw [f1]
      exact s_Yfinds_2 w hb hF hC k (r + 1) g2 (by omega) f2 f3 f4 f5 f6
    unfold gol at h33
    cases hg : inOrd (wd b r) F C with
    | false =>
      rw [hg, if_neg (by decide)] at h33
      rw [if_pos (by rfl)]
      exact h33
    | true =>
      rw [hg, if_pos rfl] at h33
      rw [if_neg (by decide)]
      exact h33
theorem s_YfindsMoves {g : Nat → Nat → Int32} (w : WF h) (hb : b < 6) (hF : F < 2) (hC : C < 2) (hc : Yc g b S O F C) : ∃ g', f_Y_findsMoves 63 (hS h g) = rV (hS h g') ∧ Yc g' b S O F C ∧ Nq g' b S O (19 * wds b) ∧ D0 g' b F C (wds b) ∧ Off g g' fRows ∧ ∀ j, j ≠ 13 → g' 63 j = g 63 j := by
  rw [e_Y_findsMoves]
  exact s_Yfinds_2 w hb hF hC (wds b) 0 g (by omega) hc (fun _ hi => absurd hi (by omega)) (fun _ hi => absurd hi (Nat.not_lt_zero _)) Off.rf (fun _ _ => rfl)
end Finds
