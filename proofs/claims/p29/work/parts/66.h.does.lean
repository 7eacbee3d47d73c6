/-! what the law does with the class -/
theorem and_1 (x : Int32) : ∃ k, k < 2 ∧ x &&& (1 : Int32) = nI k := by
  refine ⟨x.toBitVec.toNat % 2, Nat.mod_lt _ (by omega), ?_⟩
  apply Int32.toBitVec_inj.mp
  rw [Int32.toBitVec_and, i_bv]
  apply BitVec.eq_of_toNat_eq
  rw [BitVec.toNat_and, BitVec.toNat_ofNat, show (1 : Int32).toBitVec.toNat = 2 ^ 1 - 1 from rfl, Nat.and_two_pow_sub_one_eq_mod]
  have : x.toBitVec.toNat % 2 < 2 := Nat.mod_lt _ (by omega)
  rw [Nat.mod_eq_of_lt (show x.toBitVec.toNat % 2 < 2 ^ 32 by omega)]
theorem slotOf_spec {a : AS} {x : Nat} (hx : x < 26) (ha : AOK a) : (slotOf a (nI x) = 0 ∧ ∀ t, 1 ≤ t → t ≤ aB a → aL a t ≠ x) ∨ (1 ≤ slotOf a (nI x) ∧ slotOf a (nI x) ≤ aB a ∧ aL a (slotOf a (nI x)) = x) := by
  have h := sgn_spec (c := x + 97) (by omega) ha
  have e : sgn a (x + 97) = slotOf a (nI x) := by
    unfold sgn
    rw [i_sub (by omega), Nat.add_sub_cancel]
  rw [e] at h
  rcases h with ⟨h1, h2⟩ | ⟨h1, h2, h3⟩
  · exact Or.inl ⟨h1, fun t t1 t2 e => h2 t t1 t2 (by omega)⟩
  · exact Or.inr ⟨h1, h2, by omega⟩
theorem slot_place {b P t : Nat} (hv : VW b P) (h1 : 1 ≤ t) (h2 : t ≤ b) : ∃ p, p < 7 ∧ sl P p = t := by
  have h := hv.2.2 t h1 h2
  unfold cs at h
  obtain ⟨p, p1, p2⟩ := cnt_ex (g := fun p => sl P p == t) 7 (by omega)
  exact ⟨p, p1, by simpa using p2⟩
/-- a letter is on the shelf, up to a place -/
def thB (a : AS) (x : Nat) : Nat → Bool
  | 0 => false
  | k + 1 => thB a x k || (!decide (sl (aP a) k = 0) && decide (aL a (sl (aP a) k) = x))
theorem thB_iff {a : AS} {x : Nat} : ∀ n, thB a x n = true ↔ ∃ p, p < n ∧ sl (aP a) p ≠ 0 ∧ aL a (sl (aP a) p) = x
  | 0 => ⟨fun h => (nomatch h), fun ⟨_, h, _⟩ => absurd h (Nat.not_lt_zero _)⟩
  | n + 1 => by
    unfold thB
    rw [Bool.or_eq_true, thB_iff n, Bool.and_eq_true, Bool.not_eq_true', decide_eq_false_iff_not, decide_eq_true_eq]
    constructor
    · rintro (⟨p, h1, h2⟩ | h)
      · exact ⟨p, by omega, h2⟩
      · exact ⟨n, by omega, h⟩
    · rintro ⟨p, h1, h2⟩
      by_cases hp : p = n
      · subst hp
        exact Or.inr h2
      · exact Or.inl ⟨p, by omega, h2⟩
theorem thB_slot {a : AS} {x : Nat} (hx : x < 26) (ha : AOK a) : thB a x 7 = decide (slotOf a (nI x) ≠ 0) := by
  apply Bool.eq_iff_iff.2
  rw [thB_iff, decide_eq_true_eq]
  rcases slotOf_spec hx ha with ⟨h1, h2⟩ | ⟨h1, h2, h3⟩
  · constructor
    · rintro ⟨p, p1, p2, p3⟩
      exact absurd p3 (h2 _ (by omega) (ha.1.2.1 p p1))
    · intro h
      exact absurd h1 h
  · constructor
    · intro _
      omega
    · intro _
      obtain ⟨p, p1, p2⟩ := slot_place ha.1 h1 h2
      exact ⟨p, p1, by omega, by rw [p2]; exact h3⟩
section Does
variable {z : ZS}
theorem ins_at {a : AS} {x y p : Nat} (hp : p < 7) (ha : AOK a) : sl (aP (ins a x y p)) p = les a x + 1 ∧ aO (ins a x y p) (les a x + 1) = y ∧ (aS (ins a x y p)).testBit (les a x + 1) = false ∧ aB (ins a x y p) = aB a + 1 := by
  have hle := les_le a x
  have hb := ha.2.1
  refine ⟨?_, ?_, ?_, rfl⟩
  · show sl (wsl (rnm (up1 (les a x + 1)) (aP a)) p (les a x + 1)) p = _
    rw [sl_wsl hp hp (by omega), if_pos rfl]
  · show (if les a x + 1 < les a x + 1 then _ else if les a x + 1 = les a x + 1 then y else _) = y
    rw [if_neg (by omega), if_pos rfl]
  · show (insS (aS a) (les a x + 1)).testBit (les a x + 1) = false
    rw [insS_bit (by omega), if_neg (by omega), if_pos rfl]
theorem s_does_185 {v t : Int32} {h : pH} {p w : Nat} (hp : p < 7) (hw : w = lwN (v >>> ((12 : Int32) &&& 31)) 9) (s : Sg h z) (ht : t < 0 ∨ (¬ t < 0 ∧ sl (aP (zA z)) p ≠ 0 ∧ aO (zA z) (sl (aP (zA z)) p) = 1 + w ∧ (aS (zA z)).testBit (sl (aP (zA z)) p) = false)) :
    ∃ h1 z', f_L_does_185 0 v (nI p) t t t h = rI 1 h1 ∧ Sg h1 z' := by
  rw [e_L_does_185, if_pos rfl]
  rcases ht with ht | ⟨t1, t2, t3, t4⟩
  · exact ⟨h, z, by rw [if_pos ht], s⟩
  · obtain ⟨h1, e1, s1⟩ := y_at1 hp s
    obtain ⟨h2, e2, s2⟩ := y_at2 hp s1
    rw [if_neg t2, t3] at e1
    rw [if_neg t2, t4] at e2
    refine ⟨h2, z, ?_, s2⟩
    rw [if_neg t1, if_pos (kO7 s), e1, cI_v, show (9 : Int32) = nI 9 from rfl, s_low (by omega) (by omega), cI_v, ← hw, show (1 : Int32) + nI w = nI (1 + w) from i_add 1 w, if_pos rfl, if_pos (kO7 s1), e2, cI_v, if_pos (show nI false.toNat = 0 from rfl)]
theorem s_does_101 {v : Int32} {p x : Nat} (hp : p < 7) (hx : x < 26) {t0 : Bool} (ht0 : t0 = !decide (sl (aP (zA z)) p = 0)) : ∀ (k q : Nat) (h : pH), q + k = 7 → Sg h z →
    ∃ h1 z', f_L_does_101 0 v (nI p) (nI (aB (zA z))) (nI x) (nI (t0 || thB (zA z) x q).toNat) (nI q) h = rI 1 h1 ∧ Sg h1 z'
  | 0, q, h, hq, s => by
    obtain rfl : q = 7 := by omega
    have ha := s.2.1.1
    have hb := ha.2.1
    have hw := lwN_lt (v >>> ((12 : Int32) &&& 31)) (n := 9) (by omega)
    obtain ⟨w, hw1⟩ : ∃ w, w = lwN (v >>> ((12 : Int32) &&& 31)) 9 := ⟨_, rfl⟩
    rw [← hw1] at hw
    obtain ⟨h1, e1, s1⟩ := x_add (nI x) (nI (1 + w)) (nI p) s
    have hin : inb (nI x) 26 = true ∧ (¬ nI (1 + w) < 1 ∧ ¬ (9 : Int32) < nI (1 + w)) ∧ inb (nI p) 7 = true := ⟨inb_of hx (by omega), ⟨by rw [L1, i_lt (by omega) (by omega)]; omega, by rw [show (9 : Int32) = nI 9 from rfl, i_lt (by omega) (by omega)]; omega⟩, inb_of hp (by omega)⟩
    have hs : sAdd z (nI x) (nI (1 + w)) (nI p) = if slotOf (zA z) (nI x) ≠ 0 ∨ sl (aP (zA z)) p ≠ 0 then (-2, z) else if aB (zA z) < 5 then (nI (aB (zA z) + 1), chg z (ins (zA z) x (1 + w) p)) else (-3, z) := by
      unfold sAdd
      rw [if_pos hin]
      simp only [cl, i_clamp (show x < 2147483648 by omega), i_clamp (show p < 2147483648 by omega), i_clamp (show 1 + w < 2147483648 by omega)]
    have hT : (t0 || thB (zA z) x 7) = decide (slotOf (zA z) (nI x) ≠ 0 ∨ sl (aP (zA z)) p ≠ 0) := by
      rw [ht0, thB_slot hx ha]
      by_cases c1 : slotOf (zA z) (nI x) = 0 <;> by_cases c2 : sl (aP (zA z)) p = 0 <;> simp [c1, c2]
    rw [hs] at e1 s1
    rw [e_L_does_101, if_pos (by decide), show (9 : Int32) = nI 9 from rfl, s_low (by omega) (by omega), cI_v, ← hw1, if_pos (kO7 s), show (1 : Int32) + nI w = nI (1 + w) from i_add 1 w, e1, cI_v, hT]
    by_cases c : slotOf (zA z) (nI x) ≠ 0 ∨ sl (aP (zA z)) p ≠ 0
    · rw [if_pos c] at s1
      rw [if_pos c, decide_eq_true c, if_neg (show ¬ nI true.toNat = 0 by decide)]
      exact s_does_185 hp hw1 s1 (Or.inl (show (-2 : Int32) < 0 by decide))
    · rw [if_neg c] at s1
      rw [if_neg c, decide_eq_false c, if_pos (show nI false.toNat = 0 from rfl)]
      by_cases h5 : aB (zA z) < 5
      · rw [if_pos h5] at s1
        rw [if_pos h5, if_neg (by rw [L5, i_inj (by omega) (by omega)]; omega), i_suc]
        obtain ⟨q1, q2, q3, -⟩ := ins_at (x := x) (y := 1 + w) hp ha
        refine s_does_185 hp hw1 s1 (Or.inr ⟨i_nneg (by omega), ?_, ?_, ?_⟩)
        · show sl (aP (ins (zA z) x (1 + w) p)) p ≠ 0
          rw [q1]
          omega
        · show aO (ins (zA z) x (1 + w) p) (sl (aP (ins (zA z) x (1 + w) p)) p) = 1 + w
          rw [q1, q2]
        · show (aS (ins (zA z) x (1 + w) p)).testBit (sl (aP (ins (zA z) x (1 + w) p)) p) = false
          rw [q1, q3]
      · rw [if_neg h5] at s1
        rw [if_neg h5, if_pos (by rw [L5, i_inj (by omega) (by omega)]; omega)]
        exact s_does_185 hp hw1 s1 (Or.inl (show (-3 : Int32) < 0 by decide))
  | k + 1, q, h, hq, s => by
    have hq7 : q < 7 := by omega
    have ha := s.2.1.1
    have hS : thB (zA z) x (q + 1) = (thB (zA z) x q || (!decide (sl (aP (zA z)) q = 0) && decide (aL (zA z) (sl (aP (zA z)) q) = x))) := rfl
    rw [e_L_does_101, if_neg (by rw [L7, i_le (by omega) (by omega)]; omega)]
    cases hc : (t0 || thB (zA z) x q) with
    | true =>
      obtain ⟨h1, z', e1, s1⟩ := s_does_101 (v := v) hp hx ht0 k (q + 1) h (by omega) s
      rw [hS, ← Bool.or_assoc, hc, Bool.true_or] at e1
      refine ⟨h1, z', ?_, s1⟩
      rw [if_neg (show ¬ nI true.toNat = 0 by decide), i_suc]
      exact e1
    | false =>
      obtain ⟨h1, e1, s1⟩ := y_at0 hq7 s
      obtain ⟨h2, z', e2, s2⟩ := s_does_101 (v := v) hp hx ht0 k (q + 1) h1 (by omega) s1
      rw [hS, ← Bool.or_assoc, hc, Bool.false_or] at e2
      refine ⟨h2, z', ?_, s2⟩
      rw [if_pos (show nI false.toNat = 0 from rfl), if_pos (kO7 s), e1, cI_v, i_suc]
      by_cases h0 : sl (aP (zA z)) q = 0
      · rw [decide_eq_true h0] at e2
        rw [if_pos h0, if_neg (fun e => absurd e.symm (i_neg (Or.inl rfl) (by omega)))]
        exact e2
      · have h26 := (ha.2.2.2.2.2.2.1 (sl (aP (zA z)) q) (by omega) (ha.1.2.1 q hq7)).1
        rw [decide_eq_false h0] at e2
        rw [if_neg h0]
        by_cases hx2 : aL (zA z) (sl (aP (zA z)) q) = x
        · rw [decide_eq_true hx2] at e2
          rw [if_pos (by rw [hx2])]
          exact e2
        · rw [decide_eq_false hx2] at e2
          rw [if_neg (by rw [i_inj (by omega) (by omega)]; exact hx2)]
          exact e2
theorem s_does_76 {v : Int32} {p : Nat} {h : pH} (hp : p < 7) (s : Sg h z) : ∃ h1 z', f_L_does_76 0 v (nI p) (if sl (aP (zA z)) p = 0 then -4 else nI (aL (zA z) (sl (aP (zA z)) p))) (nI (aB (zA z))) h = rI 1 h1 ∧ Sg h1 z' := by
  have ha := s.2.1.1
  have hx := lwN_lt (v >>> ((7 : Int32) &&& 31)) (n := 26) (by omega)
  rw [e_L_does_76, L26, s_low (by omega) (by omega), cI_v]
  by_cases h0 : sl (aP (zA z)) p = 0
  · rw [if_pos h0, if_pos (by decide)]
    exact s_does_101 (t0 := false) hp hx (by rw [decide_eq_true h0]; rfl) 7 0 h rfl s
  · have h26 := (ha.2.2.2.2.2.2.1 (sl (aP (zA z)) p) (by omega) (ha.1.2.1 p hp)).1
    rw [if_neg h0, if_neg (i_nneg (by omega))]
    exact s_does_101 (t0 := true) hp hx (by rw [decide_eq_false h0]; rfl) 7 0 h rfl s
theorem s_does_261 {p : Nat} {h : pH} (hp : p < 7) (s : Sg h z) : ∃ h1 z', f_L_does_261 0 (nI p) (if sl (aP (zA z)) p = 0 then -4 else nI (aL (zA z) (sl (aP (zA z)) p))) h = rI 1 h1 ∧ Sg h1 z' := by
  have ha := s.2.1.1
  obtain ⟨h1, e1, s1⟩ := y_at2 hp s
  obtain ⟨h2, e2, s2⟩ := x_stick (nI p) s1
  have hs : sStick z (nI p) = if sl (aP (zA z)) p = 0 then (-2, z) else (nI (!(aS (zA z)).testBit (sl (aP (zA z)) p)).toNat, chg z (stk (zA z) (sl (aP (zA z)) p))) := by
    unfold sStick
    rw [if_pos (inb_of hp (by omega))]
    simp only [cl, i_clamp (show p < 2147483648 by omega)]
  rw [hs] at e2 s2
  refine ⟨h2, _, ?_, s2⟩
  rw [e_L_does_261, if_pos (kO7 s), e1, cI_v, if_pos (kO7 s1), e2, cI_v]
  by_cases h0 : sl (aP (zA z)) p = 0
  · rw [if_pos h0, if_pos h0, if_pos h0, if_neg (by decide), if_pos rfl]
  · have h26 := (ha.2.2.2.2.2.2.1 (sl (aP (zA z)) p) (by omega) (ha.1.2.1 p hp)).1
    rw [if_neg h0, if_neg h0, if_neg h0, if_pos (by rw [L0, i_le (by omega) (by omega)]; omega)]
    cases (aS (zA z)).testBit (sl (aP (zA z)) p)
    · rw [if_pos (show nI (!false).toNat = 1 - nI false.toNat by decide)]
    · rw [if_pos (show nI (!true).toNat = 1 - nI true.toNat by decide)]
theorem s_does_set {x y : Int32} {h : pH} {i j : Nat} (hi : i < 2) (hj : j < 2) (hx : x = nI i) (hy : y = nI j) (s : Sg h z) : ∃ h1 h2 h3 w, f_X_count 0 ((12 : Int32) + x) h = rI w h1 ∧ kO h1 7 0 = true ∧ f_X_set 0 x y h1 = rI w h2 ∧ kO h2 7 0 = true ∧ f_X_count 0 ((12 : Int32) + x) h2 = rI y h3 ∧ ∃ z', Sg h3 z' := by
  subst hx hy
  obtain ⟨h1, e1, s1⟩ := x_count ((12 : Int32) + nI i) s
  obtain ⟨h2, e2, s2⟩ := x_set (nI i) (nI j) s1
  obtain ⟨h3, e3, s3⟩ := x_count ((12 : Int32) + nI i) s2
  have hs : sSet z (nI i) (nI j) = ((if i = 0 then nI (aF (zA z)) else nI (aC (zA z))), chg z (sett (zA z) i j)) := by
    unfold sSet
    rw [if_pos ⟨inb_of hi (by omega), inb_of hj (by omega)⟩]
    simp only [cl, i_clamp (show i < 2147483648 by omega), i_clamp (show j < 2147483648 by omega)]
  rw [hs] at e2 s2 e3 s3
  rcases (show i = 0 ∨ i = 1 by omega) with rfl | rfl
  · have e1 : f_X_count 0 ((12 : Int32) + nI 0) h = rI (nI (aF (zA z))) h1 := e1
    have e3 : f_X_count 0 ((12 : Int32) + nI 0) h2 = rI (nI j) h3 := e3
    exact ⟨h1, h2, h3, nI (aF (zA z)), e1, kO7 s1, e2, kO7 s2, e3, _, s3⟩
  · have e1 : f_X_count 0 ((12 : Int32) + nI 1) h = rI (nI (aC (zA z))) h1 := e1
    have e3 : f_X_count 0 ((12 : Int32) + nI 1) h2 = rI (nI j) h3 := e3
    exact ⟨h1, h2, h3, nI (aC (zA z)), e1, kO7 s1, e2, kO7 s2, e3, _, s3⟩
theorem s_does {v : Int32} {h : pH} (s : Sg h z) : ∃ h1 z', f_L_does 0 v h = rI 1 h1 ∧ Sg h1 z' := by
  have ha := s.2.1.1
  have hb := ha.2.1
  have hp := lwN_lt (v >>> ((4 : Int32) &&& 31)) (n := 7) (by omega)
  obtain ⟨p, hp1⟩ : ∃ p, p = lwN (v >>> ((4 : Int32) &&& 31)) 7 := ⟨_, rfl⟩
  rw [← hp1] at hp
  have hk := lwN_lt v (n := 12) (by omega)
  obtain ⟨k, hk1⟩ : ∃ k, k = lwN v 12 := ⟨_, rfl⟩
  rw [← hk1] at hk
  obtain ⟨h1, e1, s1⟩ := y_at0 hp s
  obtain ⟨h2, e2, s2⟩ := x_count 0 s1
  have l7 : f_L_low (v >>> ((4 : Int32) &&& 31)) (7 : Int32) h = rI (nI p) h := by
    rw [hp1]
    exact s_low (n := 7) (by omega) (by omega)
  have l12 : f_L_low v (12 : Int32) h2 = rI (nI k) h2 := by
    rw [hk1]
    exact s_low (n := 12) (by omega) (by omega)
  rw [e_L_does, l7, cI_v, if_pos (kO7 s), e1, cI_v, if_pos (kO7 s1), e2, cI_v, ct_0, l12, cI_v]
  by_cases k0 : k = 0
  · rw [if_pos (by rw [k0]; rfl)]
    exact s_does_76 hp s2
  rw [if_neg (by rw [i_eq0 (by omega)]; exact k0)]
  by_cases k1 : k = 1
  · rw [if_pos (by rw [k1]; rfl)]
    exact s_does_76 hp s2
  rw [if_neg (by rw [L1, i_inj (by omega) (by omega)]; exact k1)]
  by_cases k2 : k = 2
  · rw [if_pos (by rw [k2]; rfl)]
    by_cases c : (v >>> ((7 : Int32) &&& 31)) &&& (1 : Int32) = 0
    · exact ⟨h2, z, by rw [if_pos c], s2⟩
    · obtain ⟨h3, e3, s3⟩ := x_remove (nI p) s2
      have hs : sRemove z (nI p) = if sl (aP (zA z)) p = 0 then (-2, z) else (nI (aL (zA z) (sl (aP (zA z)) p)), chg z (tak (zA z) p)) := by
        unfold sRemove
        rw [if_pos (inb_of hp (by omega))]
        simp only [cl, i_clamp (show p < 2147483648 by omega)]
      rw [hs] at e3 s3
      refine ⟨h3, _, ?_, s3⟩
      rw [if_neg c, if_pos (kO7 s2), e3, cI_v]
      by_cases h0 : sl (aP (zA z)) p = 0
      · rw [if_pos h0, if_pos h0, if_neg (by decide), if_pos rfl]
      · have h26 := (ha.2.2.2.2.2.2.1 (sl (aP (zA z)) p) (by omega) (ha.1.2.1 p hp)).1
        rw [if_neg h0, if_neg h0, if_pos (by rw [L0, i_le (by omega) (by omega)]; omega), if_pos rfl]
  rw [if_neg (by rw [L2, i_inj (by omega) (by omega)]; exact k2)]
  by_cases k3 : k = 3
  · rw [if_pos (by rw [k3]; rfl)]
    exact s_does_261 hp s2
  rw [if_neg (by rw [L3, i_inj (by omega) (by omega)]; exact k3)]
  by_cases k4 : k = 4
  · rw [if_pos (by rw [k4]; rfl)]
    exact s_does_261 hp s2
  rw [if_neg (by rw [show (4 : Int32) = nI 4 from rfl, i_inj (by omega) (by omega)]; exact k4)]
  by_cases k5 : k = 5
  · obtain ⟨i, i2, hi⟩ := and_1 (v >>> ((4 : Int32) &&& 31))
    obtain ⟨j, j2, hj⟩ := and_1 (v >>> ((5 : Int32) &&& 31))
    obtain ⟨h3, h4, h5, w, e3, o3, e4, o4, e5, z', s5⟩ := s_does_set i2 j2 hi hj s2
    refine ⟨h5, z', ?_, s5⟩
    rw [if_pos (by rw [k5]; rfl), if_pos (kO7 s2), e3, cI_v, if_pos o3, e4, cI_v, if_pos rfl, if_pos o4, e5, cI_v, if_pos rfl]
  rw [if_neg (by rw [L5, i_inj (by omega) (by omega)]; exact k5)]
  have arr : ∃ h1 z', f_L_does_353 0 v h2 = rI 1 h1 ∧ Sg h1 z' := by
    have hw := wds_lt hb
    have hw1 := wds_pos hb
    obtain ⟨h3, e3, s3⟩ := x_count 6 s2
    obtain ⟨h4, z', e4, s4⟩ := s_isArranged (lwN_lt (v >>> ((4 : Int32) &&& 31)) hw1) s3
    refine ⟨h4, z', ?_, s4⟩
    rw [e_L_does_353, if_pos (kO7 s2), e3, cI_v, ct_6, s_low hw1 (by omega), cI_v, e4, cI_v, if_pos (Or.inr rfl)]
  by_cases k6 : k = 6
  · rw [if_pos (by rw [k6]; rfl)]
    exact arr
  rw [if_neg (by rw [L6, i_inj (by omega) (by omega)]; exact k6)]
  by_cases k7 : k = 7
  · rw [if_pos (by rw [k7]; rfl)]
    exact arr
  rw [if_neg (by rw [L7, i_inj (by omega) (by omega)]; exact k7)]
  obtain ⟨h3, z', e3, s3⟩ := s_isMade (lwN_lt (v >>> ((4 : Int32) &&& 31)) (n := 19) (by omega)) s2
  refine ⟨h3, z', ?_, s3⟩
  rw [L19, s_low (by omega) (by omega), cI_v, e3, cI_v, if_pos (Or.inr rfl)]
end Does
