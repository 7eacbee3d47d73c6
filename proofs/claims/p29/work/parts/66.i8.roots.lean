/-! ways round, and what they show -/
def wk : List Nat → Nat → Nat → Prop
  | [], P, P' => P = P'
  | m :: ms, P, P' => m < 19 ∧ rsn P 0 m = 0 ∧ wk ms (aft P m) P'
def plQ : List Nat → Nat → Nat
  | [], _ => 0
  | m :: ms, P => (if m < 7 then 1 <<< sl P m else 0) ||| plQ ms (aft P m)
def cu (Um : Nat → Nat) : List Nat → Nat → Nat
  | [], _ => 0
  | m :: ms, P => (if m < 7 then Um (sl P m) else Um (sl P (plc m)) ||| Um (sl P (plc m + 1))) + cu Um ms (aft P m)
def cw (q : Nat → Nat → Nat) : List Nat → Nat → Nat
  | [], _ => 0
  | m :: ms, P => q P m + cw q ms (aft P m)
section CRoots
variable {b k N nS : Nat} {row pot LM Fa LA sS al sup Um : Nat → Nat} {G Gs ones : Nat}
theorem pw_ok {R : Type} {fl : R} {K : Nat → Nat → Nat → Nat → R} : ∀ (f x P Q u L : Nat), pw Um fl f x P Q u L K ≠ fl → ∃ ms P', wk ms P P' ∧ pw Um fl f x P Q u L K = K P' (Q ||| plQ ms P) (u + cu Um ms P) (L + ms.length)
  | 0, x, P, Q, u, L, h => absurd rfl h
  | f + 1, x, P, Q, u, L, h => by
    unfold pw at h ⊢
    simp only [fz_eq] at h ⊢
    cases h31 : Nat.beq (x % 32) 31 with
    | true =>
      refine ⟨[], P, rfl, ?_⟩
      rw [cond_true]
      show K P Q u L = K P (Q ||| 0) (u + 0) (L + 0)
      rw [Nat.or_zero]
      rfl
    | false =>
      rw [h31, cond_false] at h
      rw [cond_false]
      cases hc : (Nat.blt (x % 32) 19 && Nat.beq (rsn P 0 (x % 32)) 0) with
      | false =>
        rw [hc, cond_false] at h
        exact absurd rfl h
      | true =>
        rw [hc, cond_true] at h
        rw [cond_true]
        rw [Bool.and_eq_true] at hc
        have hm : x % 32 < 19 := Nat.blt_eq.mp hc.1
        have h0 := beq_iff hc.2
        cases h7 : Nat.blt (x % 32) 7 with
        | true =>
          have h7' : x % 32 < 7 := Nat.blt_eq.mp h7
          rw [h7, cond_true] at h
          rw [cond_true]
          obtain ⟨ms, P', e1, e2⟩ := pw_ok f _ _ _ _ _ h
          refine ⟨x % 32 :: ms, P', ⟨hm, h0, e1⟩, ?_⟩
          rw [e2]
          show K P' _ _ _ = K P' (Q ||| ((if x % 32 < 7 then 1 <<< sl P (x % 32) else 0) ||| plQ ms (aft P (x % 32)))) (u + ((if x % 32 < 7 then Um (sl P (x % 32)) else Um (sl P (plc (x % 32))) ||| Um (sl P (plc (x % 32) + 1))) + cu Um ms (aft P (x % 32)))) (L + (ms.length + 1))
          rw [if_pos h7', if_pos h7', Nat.or_assoc, Nat.add_assoc, Nat.add_assoc, Nat.add_comm 1]
        | false =>
          have h7' : ¬ x % 32 < 7 := fun q => by
            rw [Nat.blt_eq.mpr q] at h7
            cases h7
          rw [h7, cond_false] at h
          rw [cond_false]
          obtain ⟨ms, P', e1, e2⟩ := pw_ok f _ _ _ _ _ h
          refine ⟨x % 32 :: ms, P', ⟨hm, h0, e1⟩, ?_⟩
          rw [e2]
          show K P' _ _ _ = K P' (Q ||| ((if x % 32 < 7 then 1 <<< sl P (x % 32) else 0) ||| plQ ms (aft P (x % 32)))) (u + ((if x % 32 < 7 then Um (sl P (x % 32)) else Um (sl P (plc (x % 32))) ||| Um (sl P (plc (x % 32) + 1))) + cu Um ms (aft P (x % 32)))) (L + (ms.length + 1))
          rw [if_neg h7', if_neg h7', Nat.zero_or, Nat.add_assoc, Nat.add_assoc, Nat.add_comm 1]
theorem wk_wy {C S : Nat} (hb : b < 6) : ∀ (ms : List Nat) (P P' : Nat), VW b P → wk ms P P' → (∀ s, S.testBit s = true → (plQ ms P).testBit s = false) → inOrd P' 0 C = true →
    Wy (ED b S) (gol b 0 C) ms (rk b P) ∧ ∀ q : Nat → Nat → Nat, ct (ED b S) (fun r m => q (wd b r) m) ms (rk b P) = cw q ms P
  | [], P, P', hv, h, _, hi => by
    have h : P = P' := h
    subst h
    refine ⟨?_, fun q => rfl⟩
    show inOrd (wd b (rk b P)) 0 C = true
    rw [wd_rk hb hv]
    exact hi
  | m :: ms, P, P', hv, h, hS, hi => by
    obtain ⟨hm, h0, h3⟩ := h
    have hS1 : ∀ s, S.testBit s = true → (if m < 7 then 1 <<< sl P m else 0).testBit s = false ∧ (plQ ms (aft P m)).testBit s = false := fun s hs => by
      have := hS s hs
      unfold plQ at this
      rw [Nat.testBit_or, Bool.or_eq_false_iff] at this
      exact this
    have hr : rsn P S m = 0 := rsn_split.2 ⟨h0, by
      unfold hld
      by_cases h7 : m < 7
      · cases hs : S.testBit (sl P m) with
        | false => rw [Bool.and_false]
        | true =>
          have h9 := (hS1 _ hs).1
          rw [if_pos h7, Nat.one_shiftLeft, Nat.testBit_two_pow_self] at h9
          cases h9
      · rw [decide_eq_false h7, Bool.false_and]⟩
    have hv' := aft_VW hb hv hm h0
    obtain ⟨i1, i2⟩ := wk_wy hb ms (aft P m) P' hv' h3 (fun s hs => (hS1 s hs).2) hi
    have hE : ED b S (rk b P) m = some (rk b (aft P m)) := by
      unfold ED
      rw [wd_rk hb hv, if_pos hr]
    refine ⟨⟨hm, _, hE, i1⟩, fun q => ?_⟩
    show q (wd b (rk b P)) m + (match ED b S (rk b P) m with | none => 0 | some r' => ct (ED b S) (fun r m => q (wd b r) m) ms r') = q P m + cw q ms (aft P m)
    rw [hE, wd_rk hb hv]
    dsimp only
    rw [i2]
theorem tmk_le {H P m : Nat} : tmk H P m ≤ 1 := by
  have tn : ∀ x : Bool, x.toNat ≤ 1 := by decide
  unfold tmk tc
  split
  · exact tn _
  · exact tn _
theorem um_dg {P m i : Nat} (hu : ∀ a, a < b → ∀ h, h < 2 ^ b - 1 → dg k (Um (a + 1)) h = ((h + 1).testBit a).toNat) (hv : VW b P) (hm : m < 19) (h0 : rsn P 0 m = 0) (hi : i < 2 ^ b - 1) : dg k (if m < 7 then Um (sl P m) else Um (sl P (plc m)) ||| Um (sl P (plc m + 1))) i = tmk (i + 1) P m := by
  obtain ⟨s1, s2⟩ := mv_slots hv hm h0
  unfold tmk tc
  by_cases h7 : m < 7
  · obtain ⟨a1, a2⟩ := s1 h7
    obtain ⟨a, ha⟩ : ∃ a, sl P m = a + 1 := ⟨sl P m - 1, by omega⟩
    rw [if_pos h7, if_pos h7, ha, hu a (by omega) i hi]
    rfl
  · obtain ⟨⟨a1, a2⟩, a3, a4⟩ := s2 h7
    obtain ⟨a, ha⟩ : ∃ a, sl P (plc m) = a + 1 := ⟨sl P (plc m) - 1, by omega⟩
    obtain ⟨c, hc⟩ : ∃ c, sl P (plc m + 1) = c + 1 := ⟨sl P (plc m + 1) - 1, by omega⟩
    rw [if_neg h7, if_neg h7, ha, hc, dg_or, hu a (by omega) i hi, hu c (by omega) i hi]
    show _ = ((i + 1).testBit a || (i + 1).testBit c).toNat
    cases (i + 1).testBit a <;> cases (i + 1).testBit c <;> rfl
theorem cu_dg (hu : ∀ a, a < b → ∀ h, h < 2 ^ b - 1 → dg k (Um (a + 1)) h = ((h + 1).testBit a).toNat) (hb : b < 6) : ∀ (ms : List Nat) (P P' : Nat), VW b P → wk ms P P' → ms.length < 2 ^ k → ∀ i, i < 2 ^ b - 1 → dg k (cu Um ms P) i = cw (tmk (i + 1)) ms P ∧ cw (tmk (i + 1)) ms P ≤ ms.length
  | [], P, P', _, _, _, i, hi => ⟨dg_0, Nat.le_refl _⟩
  | m :: ms, P, P', hv, h, hl, i, hi => by
    obtain ⟨hm, h0, h3⟩ := h
    have hv' := aft_VW hb hv hm h0
    rw [List.length_cons] at hl
    have ih := cu_dg hu hb ms (aft P m) P' hv' h3 (by omega)
    have hum := fun j hj => um_dg (k := k) (i := j) hu hv hm h0 hj
    have e : cu Um (m :: ms) P = (if m < 7 then Um (sl P m) else Um (sl P (plc m)) ||| Um (sl P (plc m + 1))) + cu Um ms (aft P m) := rfl
    have e2 : cw (tmk (i + 1)) (m :: ms) P = tmk (i + 1) P m + cw (tmk (i + 1)) ms (aft P m) := rfl
    have h1 := tmk_le (H := i + 1) (P := P) (m := m)
    have h2 := ih i hi
    rw [e2, List.length_cons]
    refine ⟨?_, by omega⟩
    rw [e, dg_add i _ _ (fun j hj => by
      have a1 := tmk_le (H := j + 1) (P := P) (m := m)
      have a2 := ih j (by omega)
      rw [hum j (by omega), a2.1]
      omega), hum i hi, h2.1]
theorem min_ex {p : Nat → Prop} : ∀ n, p n → ∃ n, p n ∧ ∀ m, m < n → ¬ p m := by
  intro n
  induction n using Nat.strongRecOn with
  | ind n ih =>
    intro h
    by_cases hm : ∃ m, m < n ∧ p m
    · obtain ⟨m, h1, h2⟩ := hm
      exact ih m h1 h2
    · exact ⟨n, h, fun m h1 h2 => hm ⟨m, h1, h2⟩⟩
/-- sets of books, each within the one before -/
def Chn (b : Nat) (h : Nat → Nat) : Prop := (∀ t, h t < 2 ^ b) ∧ ∀ t s, (h (t + 1)).testBit s = true → (h t).testBit s = true
theorem Chn.le {h : Nat → Nat} (q : Chn b h) {t u : Nat} (htu : t ≤ u) : ∀ s, (h u).testBit s = true → (h t).testBit s = true := by
  induction htu with
  | refl => exact fun s hs => hs
  | step _ ih => exact fun s hs => ih s (q.2 _ s hs)
theorem cc_ok {blk : Nat} : ∀ (f H : Nat) (ps : List (Nat × Nat)) (h : Nat → Nat), Chn b h → (∀ t s, (h t).testBit s = true → H.testBit s = true) → H < 2 ^ b → ccB b k blk f H ps = true → ∃ q, q ∈ ps ∧ ∀ t, gdB k blk q (h t) = true
  | 0, H, ps, h, hc, hs, hH, hcc => by
    unfold ccB at hcc
    rw [Bool.and_eq_true] at hcc
    have h0 := beq_iff hcc.1
    subst h0
    cases ps with
    | nil => exact absurd hcc.2 (by decide)
    | cons q ps =>
      refine ⟨q, List.mem_cons_self, fun t => ?_⟩
      have : h t = 0 := Nat.eq_of_testBit_eq fun i => by
        rw [Nat.zero_testBit]
        cases hi : (h t).testBit i with
        | false => rfl
        | true =>
          have := hs t i hi
          rw [Nat.zero_testBit] at this
          cases this
      rw [this]
      rfl
  | f + 1, H, ps, h, hc, hs, hH, hcc => by
    unfold ccB at hcc
    rw [Bool.and_eq_true] at hcc
    obtain ⟨h1, h2⟩ := hcc
    by_cases hall : ∀ t, h t = H
    · cases hp : ps.filter (fun q => gdB k blk q H) with
      | nil => rw [hp] at h1; exact absurd h1 (by decide)
      | cons q qs =>
        have hq : q ∈ ps.filter (fun q => gdB k blk q H) := by rw [hp]; exact List.mem_cons_self
        obtain ⟨q1, q2⟩ := List.mem_filter.mp hq
        exact ⟨q, q1, fun t => by rw [hall t]; exact q2⟩
    · obtain ⟨t1, ht1⟩ : ∃ t, h t ≠ H := Classical.byContradiction fun hn => hall fun t => Classical.byContradiction fun ht => hn ⟨t, ht⟩
      obtain ⟨t0, ht0, hmin⟩ := min_ex (p := fun t => h t ≠ H) t1 ht1
      obtain ⟨s, s1, s2⟩ : ∃ s, H.testBit s = true ∧ (h t0).testBit s = false := Classical.byContradiction fun hn => ht0 (Nat.eq_of_testBit_eq fun i => by
        cases hi : H.testBit i with
        | true =>
          cases hj : (h t0).testBit i with
          | true => rfl
          | false => exact absurd ⟨i, hi, hj⟩ hn
        | false =>
          cases hj : (h t0).testBit i with
          | false => rfl
          | true => rw [hs t0 i hj] at hi; cases hi)
      have hsb : s < b := Classical.byContradiction fun hn => by
        rw [Nat.testBit_lt_two_pow (Nat.lt_of_lt_of_le hH (Nat.pow_le_pow_right (by omega) (Nat.not_lt.mp hn)))] at s1
        cases s1
      have h3 := lp_iff h2 s hsb
      rw [s1, cond_true] at h3
      have hx : ∀ i, (H ^^^ (1 <<< s)).testBit i = (H.testBit i != decide (s = i)) := fun i => by
        rw [Nat.testBit_xor, Nat.one_shiftLeft, Nat.testBit_two_pow]
      obtain ⟨q, q1, q2⟩ := cc_ok f (H ^^^ (1 <<< s)) _ (fun t => h (t0 + t)) ⟨fun t => hc.1 _, fun t i hi => hc.2 _ i hi⟩ (fun t i hi => by
        rw [hx]
        have a1 := hc.le (Nat.le_add_right t0 t) i hi
        have a2 := hs _ i hi
        have a3 : ¬ s = i := fun e => by rw [← e, s2] at a1; cases a1
        rw [a2, decide_eq_false a3]
        rfl) (Nat.xor_lt_two_pow hH (by rw [Nat.one_shiftLeft]; exact Nat.pow_lt_pow_right (by omega) hsb)) h3
      obtain ⟨q3, q4⟩ := List.mem_filter.mp q1
      refine ⟨q, q3, fun t => ?_⟩
      by_cases ht : t < t0
      · have : h t = H := Classical.byContradiction fun hn => hmin t ht hn
        rw [this]
        exact q4
      · have := q2 (t - t0)
        rw [show t0 + (t - t0) = t by omega] at this
        exact this
/-- the slots that a way pulls -/
theorem plQ_lt (hb : b < 6) : ∀ (ms : List Nat) (P P' : Nat), VW b P → wk ms P P' → plQ ms P >>> 1 < 2 ^ b
  | [], P, P', _, _ => by
    show 0 >>> 1 < 2 ^ b
    rw [Nat.zero_shiftRight]
    exact Nat.two_pow_pos b
  | m :: ms, P, P', hv, h => by
    obtain ⟨hm, h0, h3⟩ := h
    have ih := plQ_lt hb ms (aft P m) P' (aft_VW hb hv hm h0) h3
    show ((if m < 7 then 1 <<< sl P m else 0) ||| plQ ms (aft P m)) >>> 1 < 2 ^ b
    rw [Nat.shiftRight_or_distrib]
    refine Nat.or_lt_two_pow ?_ ih
    by_cases h7 : m < 7
    · obtain ⟨a1, a2⟩ := (mv_slots hv hm h0).1 h7
      rw [if_pos h7]
      obtain ⟨a, ha⟩ : ∃ a, sl P m = a + 1 := ⟨sl P m - 1, by omega⟩
      rw [ha, Nat.one_shiftLeft, Nat.shiftRight_eq_div_pow, Nat.pow_succ, Nat.mul_div_cancel _ (by decide)]
      exact Nat.pow_lt_pow_right (by omega) (by omega)
    · rw [if_neg h7, Nat.zero_shiftRight]
      exact Nat.two_pow_pos b
theorem pws_ok {C : Nat} {K : Nat → List (Nat × Nat) → Nat} : ∀ (xs : List Nat) (P Q : Nat) (acc : List (Nat × Nat)), pws Um C xs P Q acc K ≠ 0 → ∃ Q' acc', pws Um C xs P Q acc K = K Q' acc' ∧ (∀ s, Q.testBit s = true → Q'.testBit s = true) ∧ (b < 6 → VW b P → Q >>> 1 < 2 ^ b → Q' >>> 1 < 2 ^ b) ∧
    ∀ q, q ∈ acc' → q ∈ acc ∨ ∃ ms P', wk ms P P' ∧ inOrd P' 0 C = true ∧ ms.length ≤ 31 ∧ q = (cu Um ms P, ms.length) ∧ ∀ s, (plQ ms P).testBit s = true → Q'.testBit s = true
  | [], P, Q, acc, h => ⟨Q, acc, rfl, fun s hs => hs, fun _ _ h => h, fun q hq => Or.inl hq⟩
  | x :: xs, P, Q, acc, h => by
    unfold pws at h ⊢
    obtain ⟨ms, P', e1, e2⟩ := pw_ok _ _ _ _ _ _ h
    rw [e2] at h ⊢
    rw [Nat.zero_add, Nat.zero_add] at h ⊢
    cases hc : (inOrd P' 0 C && Nat.ble ms.length 31) with
    | false =>
      rw [hc, cond_false] at h
      exact absurd rfl h
    | true =>
      rw [hc, cond_true] at h
      rw [cond_true]
      rw [Bool.and_eq_true] at hc
      obtain ⟨Q', acc', a1, a2, a0, a3⟩ := pws_ok xs P _ _ h
      refine ⟨Q', acc', a1, fun s hs => a2 s (by rw [Nat.testBit_or, hs, Bool.true_or]), fun hb hv hQ => a0 hb hv (by
        rw [Nat.shiftRight_or_distrib]
        exact Nat.or_lt_two_pow hQ (plQ_lt hb ms P P' hv e1)), fun q hq => ?_⟩
      rcases a3 q hq with h4 | h4
      · rcases List.mem_cons.mp h4 with rfl | h4
        · exact Or.inr ⟨ms, P', e1, hc.1, Nat.le_of_ble_eq_true hc.2, rfl, fun s hs => a2 s (by rw [Nat.testBit_or, hs, Bool.or_true])⟩
        · exact Or.inl h4
      · exact Or.inr h4
end CRoots
