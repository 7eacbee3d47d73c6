/-! the reference's pad as a program; how it comes round -/
def YP (f : Nat → Nat → Int32) (n : Nat) (l : Nat → Nat) : Prop := f 63 6 = nI n ∧ n ≤ 60 ∧ ∀ i, i < n → f 67 i = nI (l i) ∧ 33 ≤ l i ∧ l i ≤ 126
theorem YP_of {f g : Nat → Nat → Int32} {n : Nat} {l : Nat → Nat} (h : YP f n l) (h1 : g 63 6 = f 63 6) (h2 : g 67 = f 67) : YP g n l := by
  unfold YP at *
  rw [h1, h2]
  exact h
section YProg
variable {h : pH} {n : Nat} {l : Nat → Nat} {g : Nat → Nat → Int32}
theorem s_YmostOf {c : Nat} (hc : c < 1000) : f_Y_mostOf (nI c) h = rI (if c = 112 then nI 6 else if c = 114 ∨ c = 108 then nI 5 else -1) h := by
  rw [e_Y_mostOf, L112, L114, L108]
  by_cases h1 : c = 112
  · rw [if_pos (by rw [h1]), if_pos h1]; rfl
  · rw [if_neg (fun e => h1 ((i_inj (by omega) (by omega)).1 e)), if_neg h1]
    by_cases h2 : c = 114
    · rw [if_pos (by rw [h2]), if_pos (Or.inl h2)]; rfl
    · rw [if_neg (fun e => h2 ((i_inj (by omega) (by omega)).1 e))]
      by_cases h3 : c = 108
      · rw [if_pos (by rw [h3]), if_pos (Or.inr h3)]; rfl
      · rw [if_neg (fun e => h3 ((i_inj (by omega) (by omega)).1 e)), if_neg (by omega)]
theorem s_YpfL (w : WF h) (hp : YP g n l) : ∀ (k i : Nat), i + k = n → (i % 2 = 1 → isK (l (i - 1)) = true) → f_Y_faultOfProgram_2 63 (nI i) (hS h g) = rI (pfL n l k i) (hS h g)
  | 0, i, hi, hk => by
    obtain ⟨p1, p2, p3⟩ := hp
    rw [e_Y_faultOfProgram_2]
    simp only [yI w, oo_v, p1]
    rw [if_pos ((i_le (by omega) (by omega)).2 (by omega))]
    unfold pfL
    by_cases h0 : n = 0
    · rw [if_pos ((i_eq0 (by omega)).2 h0), if_pos (Or.inl h0)]
    · rw [if_neg (fun e => h0 ((i_eq0 (by omega)).1 e)), if_neg (by decide), L2, i_div (by omega) (by omega), i_mul, i_sub (by omega), show n - n / 2 * 2 = n % 2 by omega, L1]
      by_cases h1 : n % 2 = 1
      · rw [if_pos (by rw [h1]), if_pos (Or.inr h1)]
      · rw [if_neg (fun e => h1 ((i_inj (by omega) (by omega)).1 e)), if_neg (by omega)]
  | k + 1, i, hi, hk => by
    obtain ⟨p1, p2, p3⟩ := id hp
    obtain ⟨c1, c2, c3⟩ := p3 i (by omega)
    rw [e_Y_faultOfProgram_2]
    simp only [yI w, oo_v, p1]
    rw [if_neg (fun e => absurd ((i_le (by omega) (by omega)).1 e) (by omega)), if_neg (by decide), L2, i_div (by omega) (by omega), i_mul, i_sub (by omega), show i - i / 2 * 2 = i % 2 by omega]
    unfold pfL
    by_cases h0 : i % 2 = 0
    · rw [if_pos ((i_eq0 (by omega)).2 h0)]
      simp only [yR5 w, oo_v, yA67 w (show i < 60 by omega), c1]
      rw [s_YmostOf (by omega), cI_v]
      have hfit : fitP l i = isK (l i) := by unfold fitP; rw [if_pos h0]
      have hnx : isK (l i) = true → f_Y_faultOfProgram_2 63 (nI i + 1) (hS h g) = rI (pfL n l k (i + 1)) (hS h g) := fun e => by
        rw [L1, i_add]
        exact s_YpfL w hp k (i + 1) (by omega) (fun _ => by rw [Nat.add_sub_cancel]; exact e)
      rw [hfit]
      by_cases q1 : l i = 112
      · have e : isK (l i) = true := by unfold isK; rw [q1]; rfl
        rw [if_pos q1, if_neg (by decide), if_neg (by decide), e, if_pos rfl]
        exact hnx e
      · rw [if_neg q1]
        by_cases q2 : l i = 114 ∨ l i = 108
        · have e : isK (l i) = true := by
            unfold isK
            rcases q2 with q | q <;> rw [q] <;> rfl
          rw [if_pos q2, if_neg (by decide), if_neg (by decide), e, if_pos rfl]
          exact hnx e
        · have e : isK (l i) = false := by
            unfold isK
            rw [decide_eq_false q1, decide_eq_false (fun q => q2 (Or.inl q)), decide_eq_false (fun q => q2 (Or.inr q))]
            rfl
          rw [if_neg q2, if_pos (by decide), if_pos True.intro, e, if_neg (show ¬ false = true by decide)]
    · have hi1 : i % 2 = 1 := by omega
      obtain ⟨d1, d2, d3⟩ := p3 (i - 1) (by omega)
      have hkk := hk hi1
      rw [if_neg (fun e => h0 ((i_eq0 (by omega)).1 e))]
      simp only [yR5 w, oo_v, yA67 w (show i < 60 by omega), c1, L1]
      rw [i_sub (by omega), yA67 w (by omega), oo_v, d1, s_YmostOf (by omega), cI_v]
      have hfit : fitP l i = isPl (l (i - 1)) (l i) := by unfold fitP; rw [if_neg h0]
      have hnx : f_Y_faultOfProgram_2 63 (nI (i + 1)) (hS h g) = rI (pfL n l k (i + 1)) (hS h g) := s_YpfL w hp k (i + 1) (by omega) (fun e => by omega)
      have hin : ∀ m : Nat, m < 100 → f_Y_in (nI (l i) - (48 : Int32)) 0 (nI m) (hS h g) = rI (nI (decide (48 ≤ l i) && decide (l i < 48 + (m + 1))).toNat) (hS h g) := fun m hm => by
        rw [e_Y_in, L48]
        by_cases q1 : 48 ≤ l i
        · rw [i_sub q1, if_neg (i_nneg (by omega)), decide_eq_true q1]
          by_cases q2 : l i < 48 + (m + 1)
          · rw [if_neg (fun e => absurd ((i_lt (by omega) (by omega)).1 e) (by omega)), decide_eq_true q2]; rfl
          · rw [if_pos ((i_lt (by omega) (by omega)).2 (by omega)), decide_eq_false q2]; rfl
        · rw [if_pos (i_subneg (by omega) (by omega)), decide_eq_false q1]; rfl
      have hfin : ∀ bb : Bool, fitP l i = bb → (if nI bb.toNat = 0 then rI (nI i) (hS h g) else f_Y_faultOfProgram_2 63 (nI i + nI 1) (hS h g)) = rI (if fitP l i = true then pfL n l k (i + 1) else nI i) (hS h g) := fun bb hbb => by
        rw [hbb]
        cases bb with
        | false => rw [if_pos (show nI false.toNat = 0 from rfl), if_neg (by decide)]
        | true =>
          rw [if_neg (show ¬ nI true.toNat = 0 by decide), if_pos rfl, i_add]
          exact hnx
      by_cases q1 : l (i - 1) = 112
      · rw [if_pos q1, hin 6 (by omega), cI_v]
        exact hfin _ (by rw [hfit]; unfold isPl; rw [if_pos q1])
      · have q2 : l (i - 1) = 114 ∨ l (i - 1) = 108 := by
          unfold isK at hkk
          rw [decide_eq_false q1, Bool.false_or, Bool.or_eq_true, decide_eq_true_eq, decide_eq_true_eq] at hkk
          exact hkk
        rw [if_neg q1, if_pos q2, hin 5 (by omega), cI_v]
        exact hfin _ (by rw [hfit]; unfold isPl; rw [if_neg q1])
theorem s_YfaultOfProgram (w : WF h) (hp : YP g n l) : f_Y_faultOfProgram 63 (hS h g) = rI (pfR n l) (hS h g) := by
  rw [e_Y_faultOfProgram]
  exact s_YpfL w hp n 0 (by omega) (fun e => by omega)
theorem s_YmoveAt {i : Nat} (w : WF h) (hp : YP g n l) (hf : pfR n l = -4) (hi : i < n / 2) : f_Y_moveAt 63 (nI i) (hS h g) = rI (nI (mvAt l i)) (hS h g) := by
  obtain ⟨p1, p2, p3⟩ := hp
  have h48 := (mvAt_lt p2 hf hi).2
  obtain ⟨c1, c2, c3⟩ := p3 (2 * i) (by omega)
  obtain ⟨d1, d2, d3⟩ := p3 (2 * i + 1) (by omega)
  rw [e_Y_moveAt, L2, L1, i_mul, i_add]
  simp only [yR5 w, oo_v, yA67 w (show 2 * i + 1 < 60 by omega), yA67 w (show 2 * i < 60 by omega), c1, d1]
  unfold mvAt
  rw [L112, L114, L48, i_sub h48, L0, L7, L13, i_add, i_add, i_add]
  by_cases q1 : l (2 * i) = 112
  · rw [if_pos (by rw [q1]), if_pos q1, Nat.add_zero]
  · rw [if_neg (fun e => q1 ((i_inj (by omega) (by omega)).1 e)), if_neg q1]
    by_cases q2 : l (2 * i) = 114
    · rw [if_pos (by rw [q2]), if_pos q2]
    · rw [if_neg (fun e => q2 ((i_inj (by omega) (by omega)).1 e)), if_neg q2]
variable {b S F : Nat} {O : Nat → Nat}
/-- what stands while words are gone through: books, weights, stuck ones, the setting -/
def Yg (g0 g : Nat → Nat → Int32) : Prop := Off g0 g [63, 71, 72] ∧ ∀ j, j ≠ 13 → g 63 j = g0 63 j
theorem Yg.tr {a c d : Nat → Nat → Int32} (x : Yg a c) (y : Yg c d) : Yg a d := ⟨Off.tr x.1 y.1, fun j hj => (y.2 j hj).trans (x.2 j hj)⟩
theorem s_Yrounds_4 {g0 : Nat → Nat → Int32} (w : WF h) (hb : b < 6) (hO : ∀ s, 1 ≤ s → s ≤ b → g0 69 (s - 1) = nI (O s) ∧ 1 ≤ O s ∧ O s ≤ 9) (hT : ∀ s, 1 ≤ s → s ≤ b → g0 70 (s - 1) = nI (S.testBit s).toNat) (hp : YP g0 n l) (hf : pfR n l = -4) : ∀ (k i : Nat) (g : Nat → Nat → Int32) (P c : Nat), i + k = n / 2 → VW b P → WAt g 71 P → Yg g0 g →
    ∃ g', f_Y_rounds_4 63 (nI c) (nI i) (hS h g) = rI (nI (gr S O l k i P c).2) (hS h g') ∧ WAt g' 71 (gr S O l k i P c).1 ∧ Yg g g'
  | 0, i, g, P, c, hi, hv, hW, ho => by
    have hn := hp.2.1
    refine ⟨g, ?_, hW, Off.rf, fun _ _ => rfl⟩
    rw [e_Y_rounds_4, yI w, oo_v, ho.2 6 (by omega), hp.1, if_neg (by decide), L2, i_div (by omega) (by omega), if_pos ((i_le (by omega) (by omega)).2 (by omega))]
    rfl
  | k + 1, i, g, P, c, hi, hv, hW, ho => by
    have hn := hp.2.1
    have hp' : YP g n l := YP_of hp (ho.2 6 (by omega)) (ho.1 67 (by simp))
    have hm19 := (mvAt_lt hn hf (show i < n / 2 by omega)).1
    have hrl := rsn_lt P S (mvAt l i)
    have h69 : g 69 = g0 69 := ho.1 69 (by simp)
    have h70 : g 70 = g0 70 := ho.1 70 (by simp)
    rw [e_Y_rounds_4, yI w, oo_v, hp'.1, if_neg (by decide), L2, i_div (by omega) (by omega), if_neg (fun e => absurd ((i_le (by omega) (by omega)).1 e) (by omega)), if_pos (yK w), s_YmoveAt w hp' hf (by omega), cI_v, if_pos (yK w), s_YwhyNotOf w hv hm19 hb (by rw [h70]; exact hT) hW, cI_v]
    simp only [gr]
    by_cases hr : rsn P S (mvAt l i) = 0
    · obtain ⟨g1, e1, e2, e3, e4, e5⟩ := s_Ymakes (O := O) w hb hv hm19 (rsn_0 hr) hW (fun s s1 s2 => by rw [h69]; exact ⟨(hO s s1 s2).1, (hO s s1 s2).2.2⟩)
      obtain ⟨g2, f1, f2, f3⟩ := s_YgoesOn w e2
      have hg12 : Yg g g2 := ⟨Off.tr (Off.mono e4 (by simp)) (Off.mono f3 (by simp)), fun j hj => by rw [f3 63 (by simp)]; exact e5 j hj⟩
      obtain ⟨g3, k1, k2, k3⟩ := s_Yrounds_4 w hb hO hT hp hf k (i + 1) g2 (aft P (mvAt l i)) (c + prc O P (mvAt l i)) (by omega) (aft_VW hb hv hm19 hr) f2 (Yg.tr ho hg12)
      refine ⟨g3, ?_, ?_, Yg.tr hg12 k3⟩
      · rw [if_pos ((i_eq0 (by omega)).2 hr), if_pos hr, if_pos (yK w), s_YmoveAt w hp' hf (by omega), cI_v, if_pos (yK w), e1, cV_v, if_pos (yK w), f1, cV_v, yI w, oo_v, f3 63 (by simp), e3, i_add, L1, i_add]
        exact k1
      · rw [if_pos hr]
        exact k2
    · obtain ⟨g3, k1, k2, k3⟩ := s_Yrounds_4 w hb hO hT hp hf k (i + 1) g P c (by omega) hv hW ho
      refine ⟨g3, ?_, ?_, k3⟩
      · rw [if_neg (fun e => hr ((i_eq0 (by omega)).1 e)), if_neg hr, L1, i_add]
        exact k1
      · rw [if_neg hr]
        exact k2
/-- ahead of round j: what the reference has seen -/
def Rs (b : Nat) (W : Nat → Nat × Nat) (f : Nat → Nat → Int32) (j : Nat) : Prop :=
  WAt f 71 (W j).1 ∧ (∀ i, i < j → f 77 (rk b (W i).1) = nI i) ∧ (∀ r, r < wds b → (∀ i, i < j → rk b (W i).1 ≠ r) → f 77 r = -1) ∧ ∀ a c, a < c → c < j → (W a).1 ≠ (W c).1
theorem Rs_le {W : Nat → Nat × Nat} {f : Nat → Nat → Int32} {j : Nat} (hb : b < 6) (hW : ∀ j, VW b (W j).1) (h : Rs b W f j) : j ≤ wds b := by
  rcases Nat.eq_zero_or_pos j with e | e
  · omega
  · have := pigeon (wds b) (j - 1) (fun i => rk b (W i).1) (fun i _ => rk_lt hb (hW i)) (fun i k hik hk q => h.2.2.2 i k hik (by omega) (rk_inj hb (hW i) (hW k) q))
    omega
/-- the answer of round, of a kind -/
def rndA (W : Nat → Nat × Nat) (F i j x : Nat) : Int32 := if x = 0 then nI i else if x = 1 then nI (j - i) else if x = 2 then nI ((W j).2 - (W i).2) else nI (mnD (fun i => dis (W i).1 F) j)
theorem s_Yround_128 {g0 : Nat → Nat → Int32} {i j x P0 : Nat} {z : Int32} (w : WF h) (hb : b < 6) (hO : ∀ s, 1 ≤ s → s ≤ b → g0 69 (s - 1) = nI (O s) ∧ 1 ≤ O s ∧ O s ≤ 9) (hT : ∀ s, 1 ≤ s → s ≤ b → g0 70 (s - 1) = nI (S.testBit s).toNat) (hp : YP g0 n l) (hf : pfR n l = -4) (hx : x < 4) (hj : j < 100000) (hv0 : VW b P0)
    (h77 : g0 77 (rk b (itR S O l (n / 2) P0 i).1) = nI i) (hz : z = nI (mnD (fun i => dis (itR S O l (n / 2) P0 i).1 F) j)) : ∀ (k y : Nat) (g : Nat → Nat → Int32), i + y + k = j → WAt g 71 (itR S O l (n / 2) P0 (i + y)).1 → Yg g0 g →
    ∃ g', f_Y_round_128 63 (nI x) (nI (rk b (itR S O l (n / 2) P0 i).1)) z (nI (j - i)) (nI ((itR S O l (n / 2) P0 (i + y)).2 - (itR S O l (n / 2) P0 i).2)) (nI y) (hS h g) = rI (rndA (itR S O l (n / 2) P0) F i j x) (hS h g') ∧ Yg g g'
  | 0, y, g, hk, hW, ho => by
    have hn := hp.2.1
    have hW2 := itR_ok (S := S) (t := n / 2) (P := P0) hb (fun s s1 s2 => (hO s s1 s2).2) hv0 (fun j hj => (mvAt_lt hn hf hj).1)
    have hrk := rk_lt hb (hW2 i).1
    have hw := wds_lt hb
    refine ⟨g, ?_, Off.rf, fun _ _ => rfl⟩
    rw [e_Y_round_128, if_pos ((i_le (by omega) (by omega)).2 (by omega)), L1, L2]
    unfold rndA
    by_cases h0 : x = 0
    · rw [if_pos ((i_eq0 (by omega)).2 h0), if_pos h0]
      simp only [yR18 w, oo_v]
      rw [yA77 w (by omega), oo_v, ho.1 77 (by simp), h77]
    · rw [if_neg (fun e => h0 ((i_eq0 (by omega)).1 e)), if_neg h0]
      by_cases h1 : x = 1
      · rw [if_pos (by rw [h1]), if_pos h1]
      · rw [if_neg (fun e => h1 ((i_inj (by omega) (by omega)).1 e)), if_neg h1]
        by_cases h2 : x = 2
        · rw [if_pos (by rw [h2]), if_pos h2, show i + y = j by omega]
        · rw [if_neg (fun e => h2 ((i_inj (by omega) (by omega)).1 e)), if_neg h2, hz]
  | k + 1, y, g, hk, hW, ho => by
    have hn := hp.2.1
    have hO9 : ∀ s, 1 ≤ s → s ≤ b → 1 ≤ O s ∧ O s ≤ 9 := fun s s1 s2 => (hO s s1 s2).2
    have hW2 := itR_ok (S := S) (t := n / 2) (P := P0) hb hO9 hv0 (fun j hj => (mvAt_lt hn hf hj).1)
    have hmono := itR_mono (b := b) (S := S) (o := O) (l := l) (t := n / 2) (P := P0) (show i ≤ i + y by omega)
    obtain ⟨g1, e1, e2, e3⟩ := s_Yrounds_4 w hb hO hT hp hf (n / 2) 0 g (itR S O l (n / 2) P0 (i + y)).1 0 (by omega) (hW2 (i + y)).1 hW ho
    have hst : itR S O l (n / 2) P0 (i + (y + 1)) = gr S O l (n / 2) 0 (itR S O l (n / 2) P0 (i + y)).1 (itR S O l (n / 2) P0 (i + y)).2 := rfl
    have hst2 := hst.trans (gr_c (n / 2) 0 _ _)
    obtain ⟨g2, k1, k2⟩ := s_Yround_128 w hb hO hT hp hf hx hj hv0 h77 hz k (y + 1) g1 (by omega) (by rw [hst2]; exact e2) (Yg.tr ho e3)
    refine ⟨g2, ?_, Yg.tr e3 k2⟩
    rw [e_Y_round_128, if_neg (fun e => absurd ((i_le (by omega) (by omega)).1 e) (by omega)), if_pos (yK w), e_Y_rounds, L0, e1, cI_v, i_add, L1, i_add]
    rw [hst2] at k1
    rw [show (itR S O l (n / 2) P0 (i + y)).2 - (itR S O l (n / 2) P0 i).2 + (gr S O l (n / 2) 0 (itR S O l (n / 2) P0 (i + y)).1 0).2 = (itR S O l (n / 2) P0 (i + y)).2 + (gr S O l (n / 2) 0 (itR S O l (n / 2) P0 (i + y)).1 0).2 - (itR S O l (n / 2) P0 i).2 by omega]
    exact k1
def lsD (g : Nat → Nat) : Nat → Nat
  | 0 => 1000000
  | j + 1 => min (lsD g j) (g j)
theorem lsD_mnD {g : Nat → Nat} (hg : ∀ i, g i ≤ 100) : ∀ j, lsD g (j + 1) = mnD g (j + 1)
  | 0 => by
    show min 1000000 (g 0) = min (g 0) (g 0)
    have := hg 0
    omega
  | j + 1 => by
    show min (lsD g (j + 1)) (g (j + 1)) = min (mnD g (j + 1)) (g (j + 1))
    rw [lsD_mnD hg j]
theorem lsD_le (g : Nat → Nat) : ∀ j, lsD g j ≤ 1000000
  | 0 => Nat.le_refl _
  | j + 1 => Nat.le_trans (Nat.min_le_left _ _) (lsD_le g j)
theorem s_Yround_57 {g0 : Nat → Nat → Int32} {x P0 : Nat} (w : WF h) (hb : b < 6) (hF : F < 2) (h21 : g0 64 21 = nI F) (hB : g0 63 10 = nI b) (hO : ∀ s, 1 ≤ s → s ≤ b → g0 69 (s - 1) = nI (O s) ∧ 1 ≤ O s ∧ O s ≤ 9) (hT : ∀ s, 1 ≤ s → s ≤ b → g0 70 (s - 1) = nI (S.testBit s).toNat) (hp : YP g0 n l) (hf : pfR n l = -4) (hx : x < 4) (hv0 : VW b P0) : ∀ (k j : Nat) (g : Nat → Nat → Int32), j + k = wds b → Rs b (itR S O l (n / 2) P0) g j → YF g0 g → (∀ j, j ≠ 13 → g 63 j = g0 63 j) → (g 69 = g0 69 ∧ g 70 = g0 70) →
    ∃ g' i j', f_Y_round_57 63 (nI x) (nI (rk b (itR S O l (n / 2) P0 j).1)) (nI j) (nI (lsD (fun i => dis (itR S O l (n / 2) P0 i).1 F) j)) (hS h g) = rI (rndA (itR S O l (n / 2) P0) F i j' x) (hS h g') ∧ RD (fun j => (itR S O l (n / 2) P0 j).1) i j' ∧ YF g0 g' := by
  have hn := hp.2.1
  have hw := wds_lt hb
  have hO9 : ∀ s, 1 ≤ s → s ≤ b → 1 ≤ O s ∧ O s ≤ 9 := fun s s1 s2 => (hO s s1 s2).2
  have hW := itR_ok (S := S) (t := n / 2) (P := P0) hb hO9 hv0 (fun j hj => (mvAt_lt hn hf hj).1)
  have YgF : ∀ {c d : Nat → Nat → Int32}, Yg c d → YF c d := fun y => ⟨Off.mono y.1 (by simp [yRows]), fun j _ h13 => y.2 j h13⟩
  have seen : ∀ (j : Nat) (g : Nat → Nat → Int32), j ≤ wds b → Rs b (itR S O l (n / 2) P0) g j → YF g0 g → (∀ j, j ≠ 13 → g 63 j = g0 63 j) → (g 69 = g0 69 ∧ g 70 = g0 70) → (∃ i, i < j ∧ rk b (itR S O l (n / 2) P0 i).1 = rk b (itR S O l (n / 2) P0 j).1) →
      ∃ g' i j', f_Y_round_57 63 (nI x) (nI (rk b (itR S O l (n / 2) P0 j).1)) (nI j) (nI (lsD (fun i => dis (itR S O l (n / 2) P0 i).1 F) j)) (hS h g) = rI (rndA (itR S O l (n / 2) P0) F i j' x) (hS h g') ∧ RD (fun j => (itR S O l (n / 2) P0 j).1) i j' ∧ YF g0 g' := by
    intro j g hj hR ho h63 h6970 hi
    obtain ⟨i, hij, hr⟩ := hi
    obtain ⟨r1, r2, r3, r4⟩ := hR
    have hrl := rk_lt hb (hW j).1
    have q1 := r2 i hij
    have hwi := rk_inj hb (hW i).1 (hW j).1 hr
    have hls : lsD (fun i => dis (itR S O l (n / 2) P0 i).1 F) j = mnD (fun i => dis (itR S O l (n / 2) P0 i).1 F) j := by
      obtain ⟨j', rfl⟩ : ∃ j', j = j' + 1 := ⟨j - 1, by omega⟩
      exact lsD_mnD (fun i => dis_le _ _) j'
    obtain ⟨g', e1, e2⟩ := s_Yround_128 (g0 := g) (F := F) (i := i) (j := j) (z := nI (lsD (fun i => dis (itR S O l (n / 2) P0 i).1 F) j)) w hb (by rw [h6970.1]; exact hO) (by rw [h6970.2]; exact hT) (YP_of hp (h63 6 (by omega)) (ho.at (by simp [yRows]))) hf hx (by omega) hv0 q1 (by rw [hls]) (j - i) 0 g (by omega) (by rw [Nat.add_zero, hwi]; exact r1) ⟨Off.rf, fun _ _ => rfl⟩
    refine ⟨g', i, j, ?_, ⟨hij, hwi, r4⟩, YF.tr ho (YgF e2)⟩
    rw [e_Y_round_57]
    simp only [yR18 w, oo_v]
    rw [yA77 w (by omega), oo_v, ← hr, q1, if_pos (show (0 : Int32) ≤ nI i by rw [L0]; exact (i_le (by omega) (by omega)).2 (Nat.zero_le _)), oo_v, i_sub (by omega), L0]
    rw [Nat.add_zero, Nat.sub_self] at e1
    exact e1
  intro k
  induction k with
  | zero =>
    intro j g hk hR ho h63 h6970
    refine seen j g (by omega) hR ho h63 h6970 (Classical.byContradiction fun hno => ?_)
    have := pigeon (wds b) j (fun i => rk b (itR S O l (n / 2) P0 i).1) (fun i _ => rk_lt hb (hW i).1) (fun i c hic hc q => by
      by_cases hcj : c = j
      · subst hcj
        exact hno ⟨i, hic, q⟩
      · exact hR.2.2.2 i c hic (by omega) (rk_inj hb (hW i).1 (hW c).1 q))
    omega
  | succ k ih =>
    intro j g hk hR ho h63 h6970
    by_cases hse : ∃ i, i < j ∧ rk b (itR S O l (n / 2) P0 i).1 = rk b (itR S O l (n / 2) P0 j).1
    · exact seen j g (by omega) hR ho h63 h6970 hse
    · obtain ⟨r1, r2, r3, r4⟩ := hR
      have hrl := rk_lt hb (hW j).1
      have hno : ∀ i, i < j → rk b (itR S O l (n / 2) P0 i).1 ≠ rk b (itR S O l (n / 2) P0 j).1 := fun i hi q => hse ⟨i, hi, q⟩
      have q1 := r3 _ hrl hno
      have hd := dis_le (itR S O l (n / 2) P0 j).1 F
      have hls := lsD_le (fun i => dis (itR S O l (n / 2) P0 i).1 F) j
      generalize hg1 : s2 g 77 (rk b (itR S O l (n / 2) P0 j).1) (nI j) = g1
      have o1 : Off g g1 [77] := by rw [← hg1]; exact s2_off (by simp)
      have hW1 : WAt g1 71 (itR S O l (n / 2) P0 j).1 := by unfold WAt; rw [o1 71 (by simp)]; exact r1
      obtain ⟨g2, e1, e2, e3⟩ := s_Yrounds_4 (g0 := g1) w hb (by rw [o1 69 (by simp), h6970.1]; exact hO) (by rw [o1 70 (by simp), h6970.2]; exact hT) (YP_of hp (by rw [o1 63 (by simp)]; exact h63 6 (by omega)) (by rw [o1 67 (by simp)]; exact ho.at (by simp [yRows]))) hf (n / 2) 0 g1 (itR S O l (n / 2) P0 j).1 0 (by omega) (hW j).1 hW1 ⟨Off.rf, fun _ _ => rfl⟩
      have hst : itR S O l (n / 2) P0 (j + 1) = ((gr S O l (n / 2) 0 (itR S O l (n / 2) P0 j).1 0).1, (itR S O l (n / 2) P0 j).2 + (gr S O l (n / 2) 0 (itR S O l (n / 2) P0 j).1 0).2) := gr_c (n / 2) 0 _ _
      have hst1 : (itR S O l (n / 2) P0 (j + 1)).1 = (gr S O l (n / 2) 0 (itR S O l (n / 2) P0 j).1 0).1 := by rw [hst]
      rw [← hst1] at e2
      obtain ⟨g3, f1, f2⟩ := s_YrankOfWord w hb (hW (j + 1)).1 (show g2 63 10 = nI b by rw [e3.2 10 (by omega), o1 63 (by simp), h63 10 (by omega)]; exact hB) e2
      have y1 : YF g g1 := YF.of o1 (by simp [yRows]) (by simp)
      have y3 : YF g2 g3 := YF.of f2 (by simp [yRows]) (by simp)
      have yy : YF g0 g3 := YF.tr (YF.tr ho y1) (YF.tr (YgF e3) y3)
      have g77 : ∀ r, g3 77 r = g1 77 r := fun r => by rw [f2 77 (by simp), e3.1 77 (by simp)]
      have hR' : Rs b (itR S O l (n / 2) P0) g3 (j + 1) := by
        refine ⟨?_, fun i hi => ?_, fun r hr hall => ?_, fun c d hcd hd => ?_⟩
        · unfold WAt
          rw [f2 71 (by simp)]
          exact e2
        · rw [g77, ← hg1]
          by_cases hij : i = j
          · rw [hij]; simp [s2_at]
          · have h1 := r2 i (by omega)
            have h2 := hno i (by omega)
            simp [s2_at, h2, h1]
        · rw [g77, ← hg1]
          have h2 := hall j (by omega)
          have h3 := r3 r hr (fun i hi => hall i (by omega))
          simp [s2_at, Ne.symm h2, h3]
        · by_cases hdj : d = j
          · subst hdj
            exact fun q => hno c hcd (by rw [q])
          · exact r4 c d hcd (by omega)
      obtain ⟨g', i, j', k1, k2⟩ := ih (j + 1) g3 (by omega) hR' yy (fun c hc => by rw [f2 63 (by simp), e3.2 c hc, o1 63 (by simp)]; exact h63 c hc) ⟨by rw [f2 69 (by simp), e3.1 69 (by simp), o1 69 (by simp)]; exact h6970.1, by rw [f2 70 (by simp), e3.1 70 (by simp), o1 70 (by simp)]; exact h6970.2⟩
      refine ⟨g', i, j', ?_, k2⟩
      rw [← k1]
      have h93 : ∀ z : Int32, z = nI (lsD (fun i => dis (itR S O l (n / 2) P0 i).1 F) (j + 1)) → f_Y_round_93 63 (nI x) (nI j) z (hS h g1) = f_Y_round_57 63 (nI x) (nI (rk b (itR S O l (n / 2) P0 (j + 1)).1)) (nI (j + 1)) (nI (lsD (fun i => dis (itR S O l (n / 2) P0 i).1 F) (j + 1))) (hS h g3) := fun z hz => by
        rw [e_Y_round_93, if_pos (yK w), e_Y_rounds, L0, e1, cI_v, if_pos (yK w), f1, cI_v, L1, i_add, hz]
      rw [e_Y_round_57]
      simp only [yR18 w, oo_v]
      rw [yA77 w (by omega), oo_v, q1, if_neg (by decide), if_pos (yB77 w (by omega)), i_w (by omega), hg1, if_pos (yK w), s_Ydisorder w hF (by rw [o1 64 (by simp), ho.at (show 64 ∉ yRows by simp [yRows])]; exact h21) hW1, cI_v]
      by_cases hle : lsD (fun i => dis (itR S O l (n / 2) P0 i).1 F) j ≤ dis (itR S O l (n / 2) P0 j).1 F
      · rw [if_pos ((i_le (by omega) (by omega)).2 hle)]
        exact h93 _ (by show nI _ = nI (min _ _); rw [Nat.min_eq_left hle])
      · rw [if_neg (fun e => hle ((i_le (by omega) (by omega)).1 e))]
        exact h93 _ (by
          show nI (dis (itR S O l (n / 2) P0 j).1 F) = nI (min (lsD (fun i => dis (itR S O l (n / 2) P0 i).1 F) j) (dis (itR S O l (n / 2) P0 j).1 F))
          rw [Nat.min_eq_right (by omega)])
theorem s_Yround_30 {g0 : Nat → Nat → Int32} {x P0 : Nat} (w : WF h) (hb : b < 6) (hF : F < 2) (h21 : g0 64 21 = nI F) (hB : g0 63 10 = nI b) (hO : ∀ s, 1 ≤ s → s ≤ b → g0 69 (s - 1) = nI (O s) ∧ 1 ≤ O s ∧ O s ≤ 9) (hT : ∀ s, 1 ≤ s → s ≤ b → g0 70 (s - 1) = nI (S.testBit s).toNat) (hp : YP g0 n l) (hf : pfR n l = -4) (hx : x < 4) (hv0 : VW b P0) (hW : WAt g0 71 P0) : ∀ (k r : Nat) (g : Nat → Nat → Int32), r + k = wds b → (∀ q, q < r → g 77 q = -1) → Off g0 g [77] →
    ∃ g' i j', f_Y_round_30 63 (nI x) (nI (rk b P0)) (nI r) (hS h g) = rI (rndA (itR S O l (n / 2) P0) F i j' x) (hS h g') ∧ RD (fun j => (itR S O l (n / 2) P0 j).1) i j' ∧ YF g0 g'
  | 0, r, g, hr, h1, ho => by
    have hw := wds_lt hb
    obtain ⟨g', i, j, e1, e2⟩ := s_Yround_57 w hb hF h21 hB hO hT hp hf hx hv0 (wds b) 0 g (by omega) ⟨by unfold WAt; rw [ho 71 (by simp)]; exact hW, fun _ hi => absurd hi (Nat.not_lt_zero _), fun q hq _ => h1 q (by omega), fun _ _ _ hi => absurd hi (Nat.not_lt_zero _)⟩ (YF.of ho (by simp [yRows]) (by simp)) (fun j _ => by rw [ho 63 (by simp)]) ⟨ho 69 (by simp), ho 70 (by simp)⟩
    refine ⟨g', i, j, ?_, e2⟩
    rw [← e1, e_Y_round_30, if_pos (yK w), s_Ywords w hb (by rw [ho 63 (by simp)]; exact hB), cI_v, if_pos ((i_le (by omega) (by omega)).2 (by omega))]
    rfl
  | k + 1, r, g, hr, h1, ho => by
    have hw := wds_lt hb
    rw [e_Y_round_30, if_pos (yK w), s_Ywords w hb (by rw [ho 63 (by simp)]; exact hB), cI_v, if_neg (fun e => absurd ((i_le (by omega) (by omega)).1 e) (by omega))]
    simp only [yR18 w, oo_v, yB77 w (show r < 2520 by omega), if_true, i_w (show r < 2147483648 by omega), L1, i_add]
    refine s_Yround_30 w hb hF h21 hB hO hT hp hf hx hv0 hW k (r + 1) _ (by omega) (fun q hq => ?_) (Off.tr ho (s2_off (by simp)))
    by_cases hqr : q = r
    · subst hqr
      simp [s2_at]
      rfl
    · have := h1 q (by omega)
      simp [s2_at, hqr, this]
end YProg
