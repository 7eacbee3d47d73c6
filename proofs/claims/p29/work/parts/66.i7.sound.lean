/-! what the checks say -/
/-- the constants -/
def CsOK (b k nS : Nat) (LM Fa LA sS al sup Um : Nat → Nat) (G Gs ones : Nat) : Prop :=
  (∀ i, i < 2 * nC b nS → dg k G i = hf k) ∧ (∀ i, i < 2 ^ b - 1 → dg k Gs i = hf k) ∧ (∀ i, i < 2 ^ b - 1 → dg k ones i = 1) ∧
  (∀ a, a < b → ∀ i, i < 2 * nC b nS → dg k (Fa (a + 1)) i ≤ 1) ∧
  (∀ a, a < b → ∀ C, C < 2 → ∀ si, si < nS → ∀ h, h < 2 ^ b - 1 → dg k (Fa (a + 1)) (nC b nS * C + (2 ^ b - 1) * si + h) = ((h + 1).testBit a).toNat) ∧
  (∀ a, a < b → ∀ C, C < 2 → ∀ si, si < nS → ∀ h, h < 2 ^ b - 1 → (sS si).testBit (a + 1) = false → dg k (LM (a + 1)) (nC b nS * C + (2 ^ b - 1) * si + h) = 2 ^ k - 1) ∧
  (∀ a, a < b → ∀ s, s < 2 ^ b → s.testBit a = false → ∀ C, C < 2 → (LA (a + 1)).testBit (s + 2 ^ b * C) = true) ∧
  (∀ a, a < b → ∀ h, h < 2 ^ b - 1 → dg k (Um (a + 1)) h = ((h + 1).testBit a).toNat) ∧
  (∀ Q, Q < 2 ^ b → ∀ s, s < 2 ^ b → (al Q).testBit s = true → s &&& Q = 0) ∧
  (∀ si, si < nS → ∀ s, s < 2 ^ b → (sup si).testBit s = true → (sS si >>> 1) &&& s = sS si >>> 1)
/-- all that is checked of the words and their bounds -/
def CkOK (b k N nS : Nat) (row pot LM Fa LA sS al sup Um : Nat → Nat) (G Gs ones : Nat) : Prop :=
  b < 6 ∧ (k = 5 ∨ k = 6) ∧ N = wds b ∧ (∀ r, r < N → row r % 2097152 = wd b r) ∧ (∀ r, r < N → rowB b k N nS row pot LM Fa LA G r = true) ∧ CsOK b k nS LM Fa LA sS al sup Um G Gs ones
section CSound
variable {b k N nS : Nat} {row pot LM Fa LA sS al sup Um : Nat → Nat} {G Gs ones : Nat}
theorem ed_ok {P X sv m t : Nat} (h : edB N row pot LM Fa LA G P X sv m t = true) : rsn P 0 m = 0 ∧ t < N ∧ row t % 2097152 = aft P m ∧ (m < 7 → (((row t >>> 249) &&& LA (sl P m)) ||| sv = sv) ∧ leB G (X &&& LM (sl P m)) ((Fa (sl P m) + pot t) &&& LM (sl P m)) = true) ∧
    (¬ m < 7 → ((row t >>> 249) ||| sv = sv) ∧ leB G X ((Fa (sl P (plc m)) ||| Fa (sl P (plc m + 1))) + pot t) = true) := by
  unfold edB at h
  simp only [fz_eq, Bool.and_eq_true] at h
  obtain ⟨h1, h2, h3, h4⟩ := h
  refine ⟨beq_iff h1, Nat.blt_eq.mp h2, beq_iff h3, fun h7 => ?_, fun h7 => ?_⟩
  · rw [show Nat.blt m 7 = true from Nat.blt_eq.mpr h7, cond_true, Bool.and_eq_true] at h4
    exact ⟨beq_iff h4.1, h4.2⟩
  · rw [show Nat.blt m 7 = false from by
      cases hb : Nat.blt m 7 with
      | false => rfl
      | true => exact absurd (Nat.blt_eq.mp hb) h7, cond_false, Bool.and_eq_true] at h4
    exact ⟨beq_iff h4.1, h4.2⟩
theorem row_ok {r : Nat} (h : rowB b k N nS row pot LM Fa LA G r = true) : pot r &&& G = 0 ∧
    (∀ C, C < 2 → inOrd (row r % 2097152) 0 C = true → (pot r >>> (k * (nC b nS * C))) % 2 ^ (k * nC b nS) = 0 ∧ ((row r >>> 249) >>> (2 ^ b * C)) % 2 ^ 2 ^ b = 2 ^ 2 ^ b - 1) ∧
    ∀ m, m < 19 → (∃ t, edB N row pot LM Fa LA G (row r % 2097152) (pot r) (row r >>> 249) m t = true) ∨ rsn (row r % 2097152) 0 m ≠ 0 := by
  unfold rowB at h
  simp only [fz_eq, Bool.and_eq_true] at h
  obtain ⟨h1, h2, h3⟩ := h
  refine ⟨beq_iff h1, fun C hC hi => ?_, fun m hm => ?_⟩
  · have h4 := lp_iff h2 C hC
    rw [hi, cond_true, Bool.and_eq_true] at h4
    exact ⟨beq_iff h4.1, beq_iff h4.2⟩
  · have h4 := lp_iff h3 m hm
    cases ht : Nat.beq ((row r >>> (21 + 12 * m)) % 4096) 4095 with
    | true =>
      rw [ht, cond_true] at h4
      right
      intro h0
      rw [h0] at h4
      exact absurd h4 (by decide)
    | false =>
      rw [ht, cond_false] at h4
      exact Or.inl ⟨_, h4⟩
theorem fi_lt {C si h : Nat} (hC : C < 2) (hs : si < nS) (hh : h < 2 ^ b - 1) : nC b nS * C + (2 ^ b - 1) * si + h < 2 * nC b nS := by
  unfold nC
  have h1 : (2 ^ b - 1) * (si + 1) ≤ (2 ^ b - 1) * nS := Nat.mul_le_mul_left _ (by omega)
  rw [Nat.mul_succ] at h1
  rw [Nat.mul_comm nS]
  rcases (show C = 0 ∨ C = 1 by omega) with rfl | rfl <;> omega
/-- the slots that a move touches -/
theorem mv_slots {P m : Nat} (hv : VW b P) (hm : m < 19) (h0 : rsn P 0 m = 0) : (m < 7 → 1 ≤ sl P m ∧ sl P m ≤ b) ∧ (¬ m < 7 → (1 ≤ sl P (plc m) ∧ sl P (plc m) ≤ b) ∧ 1 ≤ sl P (plc m + 1) ∧ sl P (plc m + 1) ≤ b) := by
  refine ⟨fun h7 => ?_, fun h7 => ?_⟩
  · have := (rsn_pull h7 h0).1
    exact ⟨by omega, hv.2.1 m h7⟩
  · have h1 := rsn_push hm h7 h0
    have hp := plc_lt6 hm h7
    exact ⟨⟨by omega, hv.2.1 _ (by omega)⟩, by omega, hv.2.1 _ (by omega)⟩
/-- the bounds from below -/
def muF (b k nS : Nat) (pot : Nat → Nat) (si C H r : Nat) : Nat := if H = 0 then 0 else dg k (pot r) (nC b nS * C + (2 ^ b - 1) * si + (H - 1))
theorem tmk_0 {P m : Nat} : tmk 0 P m = 0 := by
  unfold tmk tc
  split <;> simp

theorem edge_ok (ck : CkOK b k N nS row pot LM Fa LA sS al sup Um G Gs ones) {S r m r' : Nat} (hr : r < N) (hm : m < 19) (he : ED b S r m = some r') :
    (∀ si C H, si < nS → C < 2 → H < 2 ^ b → (∀ s, 1 ≤ s → (sS si).testBit s = true → S.testBit s = true) → muF b k nS pot si C H r ≤ tmk H (wd b r) m + muF b k nS pot si C H r') ∧
    ∀ C, C < 2 → S >>> 1 < 2 ^ b → (row r' >>> 249).testBit (S >>> 1 + 2 ^ b * C) = true → (row r >>> 249).testBit (S >>> 1 + 2 ^ b * C) = true := by
  obtain ⟨hb, hk, hN, hw, hrow, c1, c2, c3, c4, c5, c6, c7, c8, c9, c10⟩ := ck
  subst hN
  have hv := wd_VW hb hr
  have h0 : rsn (wd b r) S m = 0 := by
    unfold ED at he
    by_cases h : rsn (wd b r) S m = 0
    · exact h
    · rw [if_neg h] at he; cases he
  obtain ⟨h00, hh⟩ := rsn_split.1 h0
  have hr' : r' = rk b (aft (wd b r) m) := by
    unfold ED at he
    rw [if_pos h0] at he
    exact (Option.some.inj he).symm
  obtain ⟨x1, -, x3⟩ := row_ok (hrow r hr)
  rw [hw r hr] at x3
  rcases x3 m hm with ⟨t, ht⟩ | hne
  · obtain ⟨t1, t2, t3, t4, t5⟩ := ed_ok ht
    rw [hw t t2] at t3
    have htr : r' = t := by rw [hr', ← t3, rk_wd hb t2]
    subst htr
    obtain ⟨y1, -, -⟩ := row_ok (hrow r' t2)
    obtain ⟨s1, s2⟩ := mv_slots hv hm h00
    have hX : ∀ i, i < 2 * nC b nS → dg k (pot r) i < hf k := fun i hi => dg_half hk x1 (c1 i hi)
    have hY : ∀ i, i < 2 * nC b nS → dg k (pot r') i < hf k := fun i hi => dg_half hk y1 (c1 i hi)
    have hf2 : hf k + hf k = 2 ^ k ∧ 1 ≤ hf k := by rcases hk with rfl | rfl <;> decide
    by_cases h7 : m < 7
    · obtain ⟨q1, q2⟩ := t4 h7
      obtain ⟨a1, a2⟩ := s1 h7
      have hSa : S.testBit (sl (wd b r) m) = false := by
        unfold hld at hh
        rw [decide_eq_true h7, Bool.true_and] at hh
        exact hh
      obtain ⟨a, ha⟩ : ∃ a, sl (wd b r) m = a + 1 := ⟨sl (wd b r) m - 1, by omega⟩
      rw [ha] at q1 q2 hSa
      have hab : a < b := by omega
      obtain ⟨l1, l2⟩ := leB_of q2
      have hle := sw_le (n := 2 * nC b nS) hk l1 l2 c1 (fun i hi => by
        rw [dg_and]
        have := Nat.and_le_left (n := dg k (pot r) i) (m := dg k (LM (a + 1)) i)
        have := hX i hi
        omega)
      constructor
      · intro si C H hsi hC hH hsub
        unfold muF
        by_cases hH0 : H = 0
        · rw [if_pos hH0]; exact Nat.zero_le _
        · rw [if_neg hH0, if_neg hH0]
          have hh1 : H - 1 < 2 ^ b - 1 := by omega
          have hfi := fi_lt (b := b) hC hsi hh1
          have hsf : (sS si).testBit (a + 1) = false := by
            cases h9 : (sS si).testBit (a + 1) with
            | false => rfl
            | true => rw [hsub _ (by omega) h9] at hSa; cases hSa
          have d1 := c6 a hab C hC si hsi (H - 1) hh1 hsf
          have d2 := c5 a hab C hC si hsi (H - 1) hh1
          have d3 := hle _ hfi
          rw [dg_and, dg_and, d1, Nat.and_two_pow_sub_one_eq_mod, Nat.and_two_pow_sub_one_eq_mod, Nat.mod_eq_of_lt dg_lt, Nat.mod_eq_of_lt dg_lt, dg_add _ _ _ (fun j hj => by
            have e1 := c4 a hab j (by omega)
            have e2 := hY j (by omega)
            omega), d2, Nat.sub_add_cancel (by omega)] at d3
          have e : tmk H (wd b r) m = (H.testBit a).toNat := by
            unfold tmk tc
            rw [if_pos h7, ha]
            show (H.testBit (a + 1 - 1)).toNat = _
            rw [Nat.add_sub_cancel]
          rw [e]
          exact d3
      · intro C hC hS2 hbit
        have hsa : (S >>> 1).testBit a = false := by
          rw [Nat.testBit_shiftRight, Nat.add_comm]
          exact hSa
        have := c7 a hab (S >>> 1) hS2 hsa C hC
        rw [← q1, Nat.testBit_or, Nat.testBit_and, hbit, this]
        rfl
    · obtain ⟨q1, q2⟩ := t5 h7
      obtain ⟨⟨a1, a2⟩, a3, a4⟩ := s2 h7
      obtain ⟨a, ha⟩ : ∃ a, sl (wd b r) (plc m) = a + 1 := ⟨sl (wd b r) (plc m) - 1, by omega⟩
      obtain ⟨c, hc'⟩ : ∃ c, sl (wd b r) (plc m + 1) = c + 1 := ⟨sl (wd b r) (plc m + 1) - 1, by omega⟩
      rw [ha, hc'] at q2
      have hab : a < b := by omega
      have hcb : c < b := by omega
      obtain ⟨l1, l2⟩ := leB_of q2
      have hle := sw_le (n := 2 * nC b nS) hk l1 l2 c1 (fun i hi => by
        have := hX i hi
        omega)
      have or1 : ∀ x y : Nat, x ≤ 1 → y ≤ 1 → x ||| y ≤ 1 := by
        intro x y hx hy
        rcases (show x = 0 ∨ x = 1 by omega) with rfl | rfl <;> rcases (show y = 0 ∨ y = 1 by omega) with rfl | rfl <;> decide
      constructor
      · intro si C H hsi hC hH hsub
        unfold muF
        by_cases hH0 : H = 0
        · rw [if_pos hH0]; exact Nat.zero_le _
        · rw [if_neg hH0, if_neg hH0]
          have hh1 : H - 1 < 2 ^ b - 1 := by omega
          have hfi := fi_lt (b := b) hC hsi hh1
          have d2 := c5 a hab C hC si hsi (H - 1) hh1
          have d4 := c5 c hcb C hC si hsi (H - 1) hh1
          have d3 := hle _ hfi
          rw [dg_add _ _ _ (fun j hj => by
            have e1 := c4 a hab j (by omega)
            have e3 := c4 c hcb j (by omega)
            have e2 := hY j (by omega)
            rw [dg_or]
            have := or1 _ _ e1 e3
            omega), dg_or, d2, d4, Nat.sub_add_cancel (by omega)] at d3
          have e : tmk H (wd b r) m = (H.testBit a).toNat ||| (H.testBit c).toNat := by
            unfold tmk tc
            rw [if_neg h7, ha, hc']
            show (H.testBit (a + 1 - 1) || H.testBit (c + 1 - 1)).toNat = _
            rw [Nat.add_sub_cancel, Nat.add_sub_cancel]
            cases H.testBit a <;> cases H.testBit c <;> rfl
          rw [e]
          exact d3
      · intro C hC hS2 hbit
        rw [← q1, Nat.testBit_or, hbit]
        rfl
  · exact absurd h00 hne

theorem goal_ok (ck : CkOK b k N nS row pot LM Fa LA sS al sup Um G Gs ones) {r C : Nat} (hr : r < N) (hC : C < 2) (hg : gol b 0 C r = true) : (∀ si H, si < nS → H < 2 ^ b → muF b k nS pot si C H r = 0) ∧ ∀ s, s < 2 ^ b → (row r >>> 249).testBit (s + 2 ^ b * C) = true := by
  obtain ⟨hb, hk, hN, hw, hrow, hc⟩ := ck
  obtain ⟨-, x2, -⟩ := row_ok (hrow r hr)
  rw [hw r hr] at x2
  obtain ⟨x2, x3⟩ := x2 C hC hg
  constructor
  · intro si H hsi hH
    unfold muF
    by_cases hH0 : H = 0
    · rw [if_pos hH0]
    · rw [if_neg hH0]
      have h1 : (2 ^ b - 1) * si + (H - 1) < nC b nS := by
        unfold nC
        have h1 : (2 ^ b - 1) * (si + 1) ≤ (2 ^ b - 1) * nS := Nat.mul_le_mul_left _ (by omega)
        rw [Nat.mul_succ] at h1
        rw [Nat.mul_comm nS]
        omega
      have h2 := dg_blk (k := k) (X := pot r) (a := nC b nS * C) (n := nC b nS) h1
      rw [x2, dg_0, ← Nat.add_assoc] at h2
      exact h2.symm
  · intro s hs
    have h1 : (((row r >>> 249) >>> (2 ^ b * C)) % 2 ^ 2 ^ b).testBit s = true := by
      rw [x3, Nat.testBit_two_pow_sub_one]
      exact decide_eq_true hs
    rw [Nat.testBit_mod_two_pow, Nat.testBit_shiftRight, Bool.and_eq_true, Nat.add_comm] at h1
    exact h1.2

/-- a word from which there is a way is marked -/
theorem solv_ok (ck : CkOK b k N nS row pot LM Fa LA sS al sup Um G Gs ones) {S C : Nat} {p : Nat → Nat → Nat} (hC : C < 2) (hS2 : S >>> 1 < 2 ^ b) : ∀ (n r w : Nat), r < N → Pt (ED b S) p (gol b 0 C) n r w → (row r >>> 249).testBit (S >>> 1 + 2 ^ b * C) = true
  | 0, r, w, hr, h => (goal_ok ck hr hC h.1).2 _ hS2
  | n + 1, r, w, hr, h => by
    obtain ⟨m, r', w', h1, h2, h3, h4⟩ := h
    have hr' : r' < N := by rw [ck.2.2.1]; exact ED_lt ck.1 r m r' (by rw [← ck.2.2.1]; exact hr) h1 h2
    exact (edge_ok ck hr h1 h2).2 C hC hS2 (solv_ok ck hC hS2 n r' w' hr' h3)
end CSound
