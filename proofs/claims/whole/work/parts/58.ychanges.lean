/-! the reference's calls that change the state -/
def YB (f g : Nat → Nat → Int32) : Prop := ∀ k, k < 63 → g k = f k
theorem YB.rf {f : Nat → Nat → Int32} : YB f f := fun _ _ => rfl
theorem YB.tr {f g h : Nat → Nat → Int32} (a : YB f g) (b : YB g h) : YB f h := fun k hk => (b k hk).trans (a k hk)
theorem YB.of {f g : Nat → Nat → Int32} {l : List Nat} (h : Off f g l) (hl : ∀ k, k ∈ l → 63 ≤ k) : YB f g := fun k hk => h k (fun q => by have := hl k q; omega)
theorem YB.YF {f g : Nat → Nat → Int32} (h : YF f g) : YB f g := YB.of h.1 (by decide)
theorem YB.YD {f g : Nat → Nat → Int32} (h : YD f g) : YB f g := YB.of h.1 (by decide)
theorem YAt_chg {f g : Nat → Nat → Int32} {z : ZS} {a : AS} (h : YAt f z) (h1 : YHt g (kept (zH z) (zA z))) (h2 : YSt (g 64) a) (h3 : g 63 4 = f 63 4) (h4 : g 66 = f 66) (h5 : g 63 6 = f 63 6) (h6 : g 67 = f 67) : YAt g (chg z a) :=
  ⟨h2, h1, YSn_of h.2.2.1 h3 h4, YP_of h.2.2.2 h5 h6⟩
section YChanges
variable {h : pH} {f : Nat → Nat → Int32} {z : ZS}
theorem s_Yplace {x : Nat} (w : WF h) (ha : AOK (zA z)) (hs : YSt (f 64) (zA z)) (hx : x < 26) : ∀ (k p : Nat), p + k = 7 → (∀ q, q < p → sl (aP (zA z)) q = 0 ∨ aL (zA z) (sl (aP (zA z)) q) ≠ x) → ∃ v, f_Y_place_2 63 (nI x) (nI p) (hS h f) = rI v (hS h f) ∧ (0 ≤ v ↔ slotOf (zA z) (nI x) ≠ 0)
  | 0, p, hp, hn => by
    refine ⟨-4, ?_, ?_⟩
    · rw [e_Y_place_2, L7, if_pos ((i_le (by omega) (by omega)).2 (by omega))]
    · refine ⟨fun q => absurd q (by decide), fun q => absurd ?_ q⟩
      rcases sgn_spec (a := zA z) (c := x + 97) (by omega) ha with e | e
      · have h1 := e.1
        unfold sgn at h1
        rw [i_sub (by omega), Nat.add_sub_cancel] at h1
        exact h1
      · obtain ⟨q, hq, hq2⟩ := VW_place ha.1 e.1 e.2.1
        rcases hn q (by omega) with h1 | h1
        · omega
        · rw [hq2] at h1
          omega
  | k + 1, p, hp, hn => by
    have hsb := ha.1.2.1 p (by omega)
    rw [e_Y_place_2, L7, if_neg (fun e => absurd ((i_le (by omega) (by omega)).1 e) (by omega))]
    simp only [yR0 w, oo_v, L0, i_add, Nat.zero_add, yA64 w (show p < 26 by omega), hs.1 p (by omega), L1]
    by_cases hm : sl (aP (zA z)) p ≠ 0 ∧ aL (zA z) (sl (aP (zA z)) p) = x
    · refine ⟨nI p, ?_, fun _ => ?_, fun _ => (i_le (by omega) (by omega)).2 (Nat.zero_le _)⟩
      · rw [if_neg hm.1, hm.2, if_pos rfl]
      · intro hz
        rcases sgn_spec (a := zA z) (c := x + 97) (by omega) ha with e | e
        · exact e.2 (sl (aP (zA z)) p) (by omega) hsb (by omega)
        · have h1 := e.1
          unfold sgn at h1
          rw [i_sub (by omega), Nat.add_sub_cancel] at h1
          omega
    · have hne : ¬ (if sl (aP (zA z)) p = 0 then nI 0 else nI (aL (zA z) (sl (aP (zA z)) p) + 1)) = nI (x + 1) := by
        by_cases h0 : sl (aP (zA z)) p = 0
        · rw [if_pos h0, i_inj (by omega) (by omega)]; omega
        · have hl := (ha.2.2.2.2.2.2.1 _ (show 1 ≤ sl (aP (zA z)) p by omega) hsb).1
          rw [if_neg h0, i_inj (by omega) (by omega)]
          exact fun e => hm ⟨h0, by omega⟩
      rw [if_neg hne]
      refine s_Yplace w ha hs hx k (p + 1) (by omega) (fun q hq => ?_)
      by_cases hqp : q = p
      · rw [hqp]
        by_cases h0 : sl (aP (zA z)) p = 0
        · exact Or.inl h0
        · exact Or.inr (fun e => hm ⟨h0, e⟩)
      · exact hn q (by omega)
theorem s_Yadd {x1 x2 x3 : Int32} (w : WF h) (hz : ZOK z) (hy : YAt f z) : ∃ g, f_Y_add 63 x1 x2 x3 (hS h f) = rI (sAdd z x1 x2 x3).1 (hS h g) ∧ YAt g (sAdd z x1 x2 x3).2 ∧ YB f g := by
  obtain ⟨ha, hz2, hz3, hz4⟩ := hz
  have hs := hy.1
  have hb := ha.2.1
  rw [e_Y_add, s_Yin (y := 25) (n := 26) (by omega) (by omega) rfl, cI_v]
  unfold sAdd
  cases h1 : inb x1 26 with
  | false =>
    rw [if_pos (show nI false.toNat = 0 from rfl), if_neg (fun q => by cases q.1)]
    exact ⟨f, rfl, hy, YB.rf⟩
  | true =>
    obtain ⟨x, hx, rfl⟩ := inb_yes h1
    rw [if_neg (show ¬ nI true.toNat = 0 by decide), e_Y_in]
    by_cases h2 : x2 < 1
    · rw [if_pos h2, cI_v, if_pos rfl, if_neg (fun q => q.2.1.1 h2)]
      exact ⟨f, rfl, hy, YB.rf⟩
    · rw [if_neg h2]
      by_cases h3 : 9 < x2
      · rw [if_pos h3, cI_v, if_pos rfl, if_neg (fun q => q.2.1.2 h3)]
        exact ⟨f, rfl, hy, YB.rf⟩
      · rw [if_neg h3, cI_v, if_neg (by decide), s_YisPl, cI_v]
        cases h4 : inb x3 7 with
        | false =>
          rw [if_pos (show nI false.toNat = 0 from rfl), if_neg (fun q => by cases q.2.2)]
          exact ⟨f, rfl, hy, YB.rf⟩
        | true =>
          obtain ⟨p, hp, rfl⟩ := inb_yes h4
          have hsb := ha.1.2.1 p hp
          have hx2 : ∃ y, x2 = nI y ∧ 1 ≤ y ∧ y ≤ 9 := by
            refine ⟨x2.toInt.toNat, ?_, ?_⟩
            · apply Int32.toInt_inj.mp
              rw [Int32.lt_iff_toInt_lt, show (1 : Int32).toInt = 1 from by decide] at h2
              have := Int32.toInt_lt x2
              rw [i_toInt (by omega)]
              omega
            · rw [Int32.lt_iff_toInt_lt, show (1 : Int32).toInt = 1 from by decide] at h2
              rw [Int32.lt_iff_toInt_lt, show (9 : Int32).toInt = 9 from by decide] at h3
              omega
          obtain ⟨y, rfl, hy1, hy9⟩ := hx2
          obtain ⟨v, v1, v2⟩ := s_Yplace w ha hs hx 7 0 (by omega) (fun _ hq => absurd hq (Nat.not_lt_zero _))
          rw [if_neg (show ¬ nI true.toNat = 0 by decide), if_pos (yK w), e_Y_place, L0, v1, cI_v, if_pos (show true = true ∧ (¬ nI y < 1 ∧ ¬ 9 < nI y) ∧ true = true from ⟨rfl, ⟨h2, h3⟩, rfl⟩)]
          simp only [cl, i_clamp (show x < 2147483648 by omega), i_clamp (show p < 2147483648 by omega), i_clamp (show y < 2147483648 by omega)]
          by_cases h5 : slotOf (zA z) (nI x) ≠ 0
          · rw [← L0, if_pos (v2.2 h5), if_pos (Or.inl h5)]
            exact ⟨f, rfl, hy, YB.rf⟩
          · rw [← L0, if_neg (fun q => h5 (v2.1 q))]
            simp only [yR0 w, oo_v]
            rw [L0, i_add, Nat.zero_add, yA64 w (by omega), oo_v, hs.1 p hp]
            by_cases h6 : sl (aP (zA z)) p = 0
            · rw [if_pos h6, if_pos (by decide), if_neg (show ¬ (slotOf (zA z) (nI x) ≠ 0 ∨ sl (aP (zA z)) p ≠ 0) from fun q => q.elim h5 (fun q => q h6)), if_pos (yK w)]
              obtain ⟨g1, e1, e2⟩ := s_YbooksNow w ha hs
              have y1 := Lkd_YF e2
              have hy1' := YAt_YF hy y1
              rw [e1, cI_v, L5]
              by_cases h7 : aB (zA z) < 5
              · rw [if_neg (fun e => absurd ((i_inj (by omega) (by omega)).1 e) (by omega)), if_pos h7, if_pos (yK w)]
                obtain ⟨g2, f1, f2, f3, f4⟩ := s_Yremembers w hy1'.1 hz4 hy1'.2.1
                rw [f1, cV_v]
                simp only [yR0 w, oo_v]
                rw [if_pos (yB64 w (by omega)), i_w (by omega)]
                simp only [yR0 w, oo_v]
                rw [L7, i_add, if_pos (yB64 w (by omega)), i_w (by omega)]
                simp only [yR0 w, oo_v]
                rw [show (14 : Int32) = nI 14 from rfl, i_add, if_pos (yB64 w (by omega)), i_w (by omega), if_pos (yK w), L1, i_add]
                have hins : YSt (s2 (s2 (s2 g2 64 p (nI (x + 1))) 64 (7 + p) (nI y)) 64 (14 + p) (nI 0) 64) (ins (zA z) x y p) := by
                  refine YSt_ins ha (hy1'.1) h7 hp ?_ ?_ ?_ (fun j j1 j2 j3 => ?_)
                  · simp [s2_at, show ¬ p = 14 + p by omega, show ¬ p = 7 + p by omega]
                  · simp [s2_at, show ¬ 7 + p = 14 + p by omega]
                  · simp [s2_at]
                  · rw [← f3 64 (by simp)]
                    simp [s2_at, j1, j2, j3]
                have hok : AOK (ins (zA z) x y p) := ins_ok ha hx ⟨hy1, hy9⟩ hp h7 h6 (fun s s1 s2 e => by
                  rcases sgn_spec (a := zA z) (c := x + 97) (by omega) ha with q | q
                  · exact q.2 s s1 s2 (by omega)
                  · have h8 := q.1
                    unfold sgn at h8
                    rw [i_sub (by omega), Nat.add_sub_cancel] at h8
                    omega)
                obtain ⟨g3, k1, k2⟩ := s_YbooksNow w hok hins
                rw [k1, cI_v]
                have o3 : Off g2 (s2 (s2 (s2 g2 64 p (nI (x + 1))) 64 (7 + p) (nI y)) 64 (14 + p) (nI 0)) [64] := Off.tr (s2_off (by simp)) (Off.tr (s2_off (by simp)) (s2_off (by simp)))
                have hy2 : YAt (s2 (s2 (s2 g2 64 p (nI (x + 1))) 64 (7 + p) (nI y)) 64 (14 + p) (nI 0)) (chg z (ins (zA z) x y p)) := YAt_chg hy1' (YHt_of f2 (by rw [o3 63 (by simp)]) (o3 65 (by simp))) hins (by rw [o3 63 (by simp), f4 4 (by omega)]) (by rw [o3 66 (by simp), f3 66 (by simp)]) (by rw [o3 63 (by simp), f4 6 (by omega)]) (by rw [o3 67 (by simp), f3 67 (by simp)])
                exact ⟨g3, rfl, YAt_YF hy2 (Lkd_YF k2), YB.tr (YB.YF y1) (YB.tr (YB.of f3 (by decide)) (YB.tr (YB.of o3 (by decide)) (YB.YF (Lkd_YF k2))))⟩
              · rw [if_pos (by rw [show aB (zA z) = 5 by omega]), if_neg h7]
                exact ⟨g1, rfl, hy1', YB.YF y1⟩
            · have hl := (ha.2.2.2.2.2.2.1 _ (show 1 ≤ sl (aP (zA z)) p by omega) hsb).1
              rw [if_neg h6, if_neg (fun e => absurd ((i_le (by omega) (by omega)).1 e) (by omega)), if_pos (Or.inr h6)]
              exact ⟨f, rfl, hy, YB.rf⟩
theorem s_Yremove {x : Int32} (w : WF h) (hz : ZOK z) (hy : YAt f z) : ∃ g, f_Y_remove 63 x (hS h f) = rI (sRemove z x).1 (hS h g) ∧ YAt g (sRemove z x).2 ∧ YB f g := by
  obtain ⟨ha, hz2, hz3, hz4⟩ := hz
  have hs := hy.1
  rw [e_Y_remove, s_YisPl, cI_v]
  unfold sRemove
  cases h4 : inb x 7 with
  | false =>
    rw [if_pos (show nI false.toNat = 0 from rfl), if_neg (by decide)]
    exact ⟨f, rfl, hy, YB.rf⟩
  | true =>
    obtain ⟨p, hp, rfl⟩ := inb_yes h4
    have hsb := ha.1.2.1 p hp
    rw [if_neg (show ¬ nI true.toNat = 0 by decide), if_pos rfl]
    simp only [yR0 w, oo_v, cl, i_clamp (show p < 2147483648 by omega)]
    rw [L0, i_add, Nat.zero_add, yA64 w (by omega), oo_v, hs.1 p hp]
    by_cases h6 : sl (aP (zA z)) p = 0
    · rw [if_pos h6, if_pos (show (0 : Int32) = nI 0 from rfl), if_pos h6]
      exact ⟨f, rfl, hy, YB.rf⟩
    · have hl := (ha.2.2.2.2.2.2.1 _ (show 1 ≤ sl (aP (zA z)) p by omega) hsb).1
      obtain ⟨g2, f1, f2, f3, f4⟩ := s_Yremembers w hy.1 hz4 hy.2.1
      rw [if_neg h6, if_neg (fun e => absurd ((i_inj (by omega) (by omega)).1 e) (by omega)), if_neg h6, if_pos (yK w), f1, cV_v]
      simp only [yR0 w, oo_v]
      rw [yA64 w (by omega), oo_v, if_pos (yB64 w (by omega)), i_w (by omega), f3 64 (by simp), hs.1 p hp, if_neg h6, L1, i_sub (by omega), Nat.add_sub_cancel]
      have o3 : Off g2 (s2 g2 64 p (nI 0)) [64] := s2_off (by simp)
      refine ⟨_, rfl, YAt_chg hy (YHt_of f2 (by rw [o3 63 (by simp)]) (o3 65 (by simp))) ?_ (by rw [o3 63 (by simp), f4 4 (by omega)]) (by rw [o3 66 (by simp), f3 66 (by simp)]) (by rw [o3 63 (by simp), f4 6 (by omega)]) (by rw [o3 67 (by simp), f3 67 (by simp)]), YB.tr (YB.of f3 (by decide)) (YB.of o3 (by decide))⟩
      exact YSt_tak ha hs hp h6 (by rw [s2_at, if_pos rfl, if_pos rfl]; rfl) (fun j hj => by rw [← f3 64 (by simp), s2_at, if_pos rfl, if_neg hj])
theorem s_Ystick {x : Int32} (w : WF h) (hz : ZOK z) (hy : YAt f z) : ∃ g, f_Y_stick 63 x (hS h f) = rI (sStick z x).1 (hS h g) ∧ YAt g (sStick z x).2 ∧ YB f g := by
  obtain ⟨ha, hz2, hz3, hz4⟩ := hz
  have hs := hy.1
  rw [e_Y_stick, s_YisPl, cI_v]
  unfold sStick
  cases h4 : inb x 7 with
  | false =>
    rw [if_pos (show nI false.toNat = 0 from rfl), if_neg (by decide)]
    exact ⟨f, rfl, hy, YB.rf⟩
  | true =>
    obtain ⟨p, hp, rfl⟩ := inb_yes h4
    have hsb := ha.1.2.1 p hp
    rw [if_neg (show ¬ nI true.toNat = 0 by decide), if_pos rfl]
    simp only [yR0 w, oo_v, cl, i_clamp (show p < 2147483648 by omega)]
    rw [L0, i_add, Nat.zero_add, yA64 w (by omega), oo_v, hs.1 p hp]
    by_cases h6 : sl (aP (zA z)) p = 0
    · rw [if_pos h6, if_pos (show (0 : Int32) = nI 0 from rfl), if_pos h6]
      exact ⟨f, rfl, hy, YB.rf⟩
    · have hl := (ha.2.2.2.2.2.2.1 _ (show 1 ≤ sl (aP (zA z)) p by omega) hsb).1
      obtain ⟨g2, f1, f2, f3, f4⟩ := s_Yremembers w hy.1 hz4 hy.2.1
      rw [if_neg h6, if_neg (fun e => absurd ((i_inj (by omega) (by omega)).1 e) (by omega)), if_neg h6, if_pos (yK w), f1, cV_v]
      simp only [yR0 w, oo_v]
      rw [show (14 : Int32) = nI 14 from rfl, i_add, yA64 w (by omega), oo_v, if_pos (yB64 w (by omega)), i_w (by omega)]
      simp only [yR0 w, oo_v]
      rw [yA64 w (by omega), oo_v, s2_at, if_pos rfl, if_pos rfl, f3 64 (by simp), (hs.2.1 p hp h6).2]
      have hnot : ∀ bb : Bool, (1 : Int32) - nI bb.toNat = nI (!bb).toNat := fun bb => by cases bb <;> rfl
      rw [hnot]
      have o3 : Off g2 (s2 g2 64 (14 + p) (nI (!(aS (zA z)).testBit (sl (aP (zA z)) p)).toNat)) [64] := s2_off (by simp)
      refine ⟨_, rfl, YAt_chg hy (YHt_of f2 (by rw [o3 63 (by simp)]) (o3 65 (by simp))) ?_ (by rw [o3 63 (by simp), f4 4 (by omega)]) (by rw [o3 66 (by simp), f3 66 (by simp)]) (by rw [o3 63 (by simp), f4 6 (by omega)]) (by rw [o3 67 (by simp), f3 67 (by simp)]), YB.tr (YB.of f3 (by decide)) (YB.of o3 (by decide))⟩
      exact YSt_stk ha hs hp h6 (by rw [s2_at, if_pos rfl, if_pos rfl]) (fun j hj => by rw [← f3 64 (by simp), s2_at, if_pos rfl, if_neg hj])
theorem YAt_does {f g1 g : Nat → Nat → Int32} {z : ZS} {a : AS} (hy : YAt f z) (f2 : YHt g1 (kept (zH z) (zA z))) (f3 : Off f g1 [63, 65]) (f4 : ∀ j, j ≠ 2 → g1 63 j = f 63 j) (h2 : YSt (g 64) a) (d : YD g1 g) : YAt g (chg z a) :=
  YAt_chg hy (YHt_of f2 (d.2 2 (by omega) (by omega)) (d.1 65 (by decide))) h2 (by rw [d.2 4 (by omega) (by omega), f4 4 (by omega)]) (by rw [d.1 66 (by decide), f3 66 (by simp)]) (by rw [d.2 6 (by omega) (by omega), f4 6 (by omega)]) (by rw [d.1 67 (by decide), f3 67 (by simp)])
theorem s_Ypull {x : Int32} (w : WF h) (hz : ZOK z) (hy : YAt f z) : ∃ g, f_Y_pull 63 x (hS h f) = rI (sPull z x).1 (hS h g) ∧ YAt g (sPull z x).2 ∧ YB f g := by
  obtain ⟨ha, hz2, hz3, hz4⟩ := hz
  have hs := hy.1
  rw [e_Y_pull, s_YisPl, cI_v]
  unfold sPull
  cases h4 : inb x 7 with
  | false =>
    rw [if_pos (show nI false.toNat = 0 from rfl), if_neg (by decide)]
    exact ⟨f, rfl, hy, YB.rf⟩
  | true =>
    obtain ⟨p, hp, rfl⟩ := inb_yes h4
    obtain ⟨g1, f1, f2, f3, f4⟩ := s_Yremembers w hy.1 hz4 hy.2.1
    have hs1 : YSt (g1 64) (zA z) := by rw [f3 64 (by simp)]; exact hs
    obtain ⟨g2, e1, e2⟩ := s_Ylooks w ha hs1
    have y2 := Lkd_YF e2
    have hs2 : YSt (g2 64) (zA z) := by rw [y2.at (by simp [yRows])]; exact hs1
    obtain ⟨g3, k1, k2, k3⟩ := s_Ydoes (m := p) w ha hs2 (by omega)
    have hrl := rsn_lt (aP (zA z)) (aS (zA z)) p
    rw [if_neg (show ¬ nI true.toNat = 0 by decide), if_pos rfl, if_pos (yK w), f1, cV_v, if_pos (yK w), e1, cV_v, if_pos (yK w), s_YnearestGap w ha.2.1 ha.1 hp e2.2.1, cI_v, if_pos (yK w), k1, cI_v]
    simp only [cl, i_clamp (show p < 2147483648 by omega)]
    have hb : YB f g3 := YB.tr (YB.of f3 (by decide)) (YB.tr (YB.YF y2) (YB.YD k3))
    have hA := YAt_does hy f2 f3 f4 k2 (YD.tr (YD.of y2) k3)
    by_cases h0 : rsn (aP (zA z)) (aS (zA z)) p = 0
    · rw [if_pos ((i_le0 (by omega)).2 h0), if_pos h0, if_neg (rsn_pull hp h0).1, L10, i_add]
      exact ⟨g3, rfl, hA, hb⟩
    · rw [if_neg (fun e => h0 ((i_le0 (by omega)).1 e)), if_neg h0]
      exact ⟨g3, rfl, hA, hb⟩
theorem s_Ypush {x y : Int32} (w : WF h) (hz : ZOK z) (hy : YAt f z) : ∃ g, f_Y_push 63 x y (hS h f) = rI (sPush z x y).1 (hS h g) ∧ YAt g (sPush z x y).2 ∧ YB f g := by
  obtain ⟨ha, hz2, hz3, hz4⟩ := hz
  have hs := hy.1
  rw [e_Y_push, s_Yin (y := 5) (n := 6) (by omega) (by omega) rfl, cI_v]
  unfold sPush
  cases h4 : inb x 6 with
  | false =>
    rw [if_pos (show nI false.toNat = 0 from rfl), if_neg (by decide)]
    exact ⟨f, rfl, hy, YB.rf⟩
  | true =>
    obtain ⟨p, hp, rfl⟩ := inb_yes h4
    obtain ⟨g1, f1, f2, f3, f4⟩ := s_Yremembers w hy.1 hz4 hy.2.1
    have hs1 : YSt (g1 64) (zA z) := by rw [f3 64 (by simp)]; exact hs
    rw [if_neg (show ¬ nI true.toNat = 0 by decide), if_pos rfl, if_pos (yK w), f1, cV_v]
    simp only [cl, i_clamp (show p < 2147483648 by omega)]
    by_cases hy0 : y = 0
    · obtain ⟨g3, k1, k2, k3⟩ := s_Ydoes (m := 13 + p) w ha hs1 (by omega)
      rw [if_pos hy0, if_pos hy0, if_pos (yK w), L13, i_add, k1, cI_v]
      exact ⟨g3, rfl, YAt_does hy f2 f3 f4 k2 k3, YB.tr (YB.of f3 (by decide)) (YB.YD k3)⟩
    · obtain ⟨g3, k1, k2, k3⟩ := s_Ydoes (m := 7 + p) w ha hs1 (by omega)
      rw [if_neg hy0, if_neg hy0, if_pos (yK w), L7, i_add, k1, cI_v]
      exact ⟨g3, rfl, YAt_does hy f2 f3 f4 k2 k3, YB.tr (YB.of f3 (by decide)) (YB.YD k3)⟩
theorem s_Yset {x y : Int32} (w : WF h) (hz : ZOK z) (hy : YAt f z) : ∃ g, f_Y_set 63 x y (hS h f) = rI (sSet z x y).1 (hS h g) ∧ YAt g (sSet z x y).2 ∧ YB f g := by
  obtain ⟨ha, hz2, hz3, hz4⟩ := hz
  have hs := hy.1
  rw [e_Y_set, s_Yin (y := 1) (n := 2) (by omega) (by omega) rfl, cI_v]
  unfold sSet
  cases h4 : inb x 2 with
  | false =>
    rw [if_pos (show nI false.toNat = 0 from rfl), if_neg (fun q => by cases q.1)]
    exact ⟨f, rfl, hy, YB.rf⟩
  | true =>
    rw [if_neg (show ¬ nI true.toNat = 0 by decide), s_Yin (y := 1) (n := 2) (by omega) (by omega) rfl, cI_v]
    cases h5 : inb y 2 with
    | false =>
      rw [if_pos (show nI false.toNat = 0 from rfl), if_neg (fun q => by cases q.2)]
      exact ⟨f, rfl, hy, YB.rf⟩
    | true =>
      obtain ⟨p, hp, rfl⟩ := inb_yes h4
      obtain ⟨v, hv, rfl⟩ := inb_yes h5
      obtain ⟨g1, f1, f2, f3, f4⟩ := s_Yremembers w hy.1 hz4 hy.2.1
      rw [if_neg (show ¬ nI true.toNat = 0 by decide), if_pos (show true = true ∧ true = true from ⟨rfl, rfl⟩), if_pos (yK w), f1, cV_v]
      simp only [yR0 w, oo_v, cl, i_clamp (show p < 2147483648 by omega), i_clamp (show v < 2147483648 by omega)]
      rw [show (21 : Int32) = nI 21 from rfl, i_add, yA64 w (by omega), oo_v, if_pos (yB64 w (by omega)), i_w (by omega), f3 64 (by simp)]
      have o3 : Off g1 (s2 g1 64 (21 + p) (nI v)) [64] := s2_off (by simp)
      have h21 : f 64 (21 + p) = if p = 0 then nI (aF (zA z)) else nI (aC (zA z)) := by
        rcases (show p = 0 ∨ p = 1 by omega) with rfl | rfl
        · exact hs.2.2.1
        · exact hs.2.2.2.1
      rw [h21]
      refine ⟨_, rfl, YAt_chg hy (YHt_of f2 (by rw [o3 63 (by simp)]) (o3 65 (by simp))) ?_ (by rw [o3 63 (by simp), f4 4 (by omega)]) (by rw [o3 66 (by simp), f3 66 (by simp)]) (by rw [o3 63 (by simp), f4 6 (by omega)]) (by rw [o3 67 (by simp), f3 67 (by simp)]), YB.tr (YB.of f3 (by decide)) (YB.of o3 (by decide))⟩
      have hc : ∀ j, j ≠ 21 + p → s2 g1 64 (21 + p) (nI v) 64 j = f 64 j := fun j hj => by rw [← f3 64 (by simp), s2_at, if_pos rfl, if_neg hj]
      have hcp : s2 g1 64 (21 + p) (nI v) 64 (21 + p) = nI v := by rw [s2_at, if_pos rfl, if_pos rfl]
      refine ⟨fun q hq => ?_, fun q hq h0 => ?_, ?_, ?_, ?_, ?_, ?_⟩
      · rw [hc q (by omega)]; exact hs.1 q hq
      · rw [hc (7 + q) (by omega), hc (14 + q) (by omega)]; exact hs.2.1 q hq h0
      · show _ = nI (if p = 0 then v else aF (zA z))
        rcases (show p = 0 ∨ p = 1 by omega) with rfl | rfl
        · rw [if_pos rfl]; exact hcp
        · rw [if_neg (by omega), hc 21 (by omega)]; exact hs.2.2.1
      · show _ = nI (if p = 0 then aC (zA z) else v)
        rcases (show p = 0 ∨ p = 1 by omega) with rfl | rfl
        · rw [if_pos rfl, hc 22 (by omega)]; exact hs.2.2.2.1
        · rw [if_neg (by omega)]; exact hcp
      · rw [hc 23 (by omega)]; exact hs.2.2.2.2.1
      · rw [hc 24 (by omega)]; exact hs.2.2.2.2.2.1
      · rw [hc 25 (by omega)]; exact hs.2.2.2.2.2.2
end YChanges
