/-! the roots, and what all of it shows -/
section CFin
variable {b k N nS : Nat} {row pot LM Fa LA sS al sup Um : Nat → Nat} {G Gs ones : Nat}
/-- an entry shows of a word and some sets of stuck books: each chain has a good way round -/
def EnOK (b k nS : Nat) (sS Um : Nat → Nat) (P X C s : Nat) : Prop :=
  ∃ si, si < nS ∧ (sS si >>> 1) &&& s = sS si >>> 1 ∧ ∀ h, Chn b h → ∃ ms P', wk ms P P' ∧ inOrd P' 0 C = true ∧ (ms.length ≤ 60 ∧ ms.length < 2 ^ k) ∧ (∀ i, s.testBit i = true → (plQ ms P).testBit (i + 1) = false) ∧ ∀ t, gdB k (blkO b k nS X C si) (cu Um ms P, ms.length) (h t) = true
theorem and_0 {x y i : Nat} (h : x &&& y = 0) (hx : x.testBit i = true) : y.testBit i = false := by
  have h1 : (x &&& y).testBit i = false := by rw [h]; exact Nat.zero_testBit i
  rw [Nat.testBit_and, hx, Bool.true_and] at h1
  exact h1
theorem ent_ok (hb : b < 6) (hk : k = 5 ∨ k = 6) (hc : CsOK b k nS LM Fa LA sS al sup Um G Gs ones) {P X C si s : Nat} (hv : VW b P) (hX : ∀ i, i < 2 * nC b nS → dg k X i < hf k) (hC : C < 2) (hs : s < 2 ^ b) : ∀ xs : List Nat, (entB b k nS al sup Um Gs ones P X C si xs).testBit s = true → EnOK b k nS sS Um P X C s := by
  obtain ⟨c1, c2, c3, c4, c5, c6, c7, c8, c9, c10⟩ := hc
  have hf2 : hf k + hf k = 2 ^ k ∧ 1 ≤ hf k ∧ 8 ≤ hf k ∧ hf k ≤ 32 := by rcases hk with rfl | rfl <;> decide
  have hblk : ∀ i, si < nS → i < 2 ^ b - 1 → dg k (blkO b k nS X C si) i < hf k := fun i hsi hi => by
    unfold blkO
    rw [dg_blk hi]
    exact hX _ (fi_lt hC hsi hi)
  have multi : ∀ xs, (pws Um C xs P 0 [] fun Q acc => bif Nat.blt si nS && ccB b k (blkO b k nS X C si) b (2 ^ b - 1) acc then al (Q >>> 1) &&& sup si else 0).testBit s = true → EnOK b k nS sS Um P X C s := by
    intro xs h
    have hne : (pws Um C xs P 0 [] fun Q acc => bif Nat.blt si nS && ccB b k (blkO b k nS X C si) b (2 ^ b - 1) acc then al (Q >>> 1) &&& sup si else 0) ≠ 0 := fun e => by
      rw [e, Nat.zero_testBit] at h
      cases h
    obtain ⟨Q, acc, e1, e2, e0, e3⟩ := pws_ok (b := b) xs P 0 [] hne
    rw [e1] at h
    cases hcc : (Nat.blt si nS && ccB b k (blkO b k nS X C si) b (2 ^ b - 1) acc) with
    | false =>
      rw [hcc, cond_false, Nat.zero_testBit] at h
      cases h
    | true =>
      rw [hcc, cond_true, Nat.testBit_and, Bool.and_eq_true] at h
      rw [Bool.and_eq_true] at hcc
      have hsi : si < nS := Nat.blt_eq.mp hcc.1
      refine ⟨si, hsi, c10 si hsi s hs h.2, fun hh hch => ?_⟩
      obtain ⟨q, q1, q2⟩ := cc_ok b (2 ^ b - 1) acc hh hch (fun t i hi => by
        rw [Nat.testBit_two_pow_sub_one]
        refine decide_eq_true (Classical.byContradiction fun hn => ?_)
        rw [Nat.testBit_lt_two_pow (Nat.lt_of_lt_of_le (hch.1 t) (Nat.pow_le_pow_right (by omega) (Nat.not_lt.mp hn)))] at hi
        cases hi) (by have := Nat.two_pow_pos b; omega) hcc.2
      rcases e3 q q1 with h4 | ⟨ms, P', a1, a2, a3, a4, a5⟩
      · cases h4
      · subst a4
        refine ⟨ms, P', a1, a2, ⟨by omega, by rcases hk with rfl | rfl <;> omega⟩, fun i hi => ?_, q2⟩
        cases hp : (plQ ms P).testBit (i + 1) with
        | false => rfl
        | true =>
          have h5 := a5 _ hp
          have h6 : (Q >>> 1).testBit i = true := by
            rw [Nat.testBit_shiftRight, Nat.add_comm]
            exact h5
          have hQ : Q >>> 1 < 2 ^ b := e0 hb hv (by rw [Nat.zero_shiftRight]; exact Nat.two_pow_pos b)
          have h7 := c9 _ hQ s hs h.1
          have h8 := and_0 h7 hi
          rw [h6] at h8
          cases h8
  intro xs
  match xs with
  | [] => exact multi []
  | [x] =>
    intro h
    have he : entB b k nS al sup Um Gs ones P X C si [x] = pw Um 0 40 x P 0 0 0 fun P' Q u L => bif inOrd P' 0 C && (Nat.ble L (hf k) && (leB Gs u (blkO b k nS X C si + (60 - L) / 8 * ones) && Nat.blt si nS)) then al (Q >>> 1) &&& sup si else 0 := rfl
    rw [he] at h
    have hne : (pw Um 0 40 x P 0 0 0 fun P' Q u L => bif inOrd P' 0 C && (Nat.ble L (hf k) && (leB Gs u (blkO b k nS X C si + (60 - L) / 8 * ones) && Nat.blt si nS)) then al (Q >>> 1) &&& sup si else 0) ≠ 0 := fun e => by
      rw [e, Nat.zero_testBit] at h
      cases h
    obtain ⟨ms, P', e1, e2⟩ := pw_ok _ _ _ _ _ _ hne
    rw [e2, Nat.zero_add, Nat.zero_add, Nat.zero_or] at h
    cases hcc : (inOrd P' 0 C && (Nat.ble ms.length (hf k) && (leB Gs (cu Um ms P) (blkO b k nS X C si + (60 - ms.length) / 8 * ones) && Nat.blt si nS))) with
    | false =>
      rw [hcc, cond_false, Nat.zero_testBit] at h
      cases h
    | true =>
      rw [hcc, cond_true, Nat.testBit_and, Bool.and_eq_true] at h
      simp only [Bool.and_eq_true] at hcc
      obtain ⟨g1, g2, g3, g4⟩ := hcc
      have hsi : si < nS := Nat.blt_eq.mp g4
      have hlen := Nat.le_of_ble_eq_true g2
      have hQ := plQ_lt hb ms P P' hv e1
      have h7 := c9 _ hQ s hs h.1
      obtain ⟨l1, l2⟩ := leB_of g3
      have hL : ms.length < 2 ^ k := by omega
      have hcu := cu_dg c8 hb ms P P' hv e1 hL
      have hle := sw_le (n := 2 ^ b - 1) hk l1 l2 c2 (fun i hi => by
        have := hcu i hi
        omega)
      have hK : (60 - ms.length) / 8 ≤ 7 := by omega
      have hone : ∀ K, K ≤ 7 → ∀ i, i < 2 ^ b - 1 → dg k (K * ones) i = K := by
        intro K
        induction K with
        | zero =>
          intro _ i _
          rw [Nat.zero_mul, dg_0]
        | succ K ih =>
          intro hK i hi
          rw [Nat.succ_mul, dg_add i _ _ (fun j hj => by
            rw [ih (by omega) j (by omega), c3 j (by omega)]
            omega), ih (by omega) i hi, c3 i hi]
      refine ⟨si, hsi, c10 si hsi s hs h.2, fun hh hch => ⟨ms, P', e1, g1, ⟨by omega, hL⟩, fun i hi => ?_, fun t => ?_⟩⟩
      · cases hp : (plQ ms P).testBit (i + 1) with
        | false => rfl
        | true =>
          have h6 : (plQ ms P >>> 1).testBit i = true := by
            rw [Nat.testBit_shiftRight, Nat.add_comm]
            exact hp
          have h8 := and_0 h7 hi
          rw [h6] at h8
          cases h8
      · unfold gdB
        by_cases h0 : hh t = 0
        · rw [h0]
          rfl
        · have hlt := hch.1 t
          have hi : hh t - 1 < 2 ^ b - 1 := by omega
          have h9 := hle _ hi
          rw [dg_add _ _ _ (fun j hj => by
            have a1 := hblk j hsi (by omega)
            rw [hone _ hK j (by omega)]
            omega), hone _ hK _ hi] at h9
          rw [Bool.or_eq_true]
          right
          rw [Nat.ble_eq, Nat.add_comm]
          exact h9
  | x :: y :: zs => exact multi (x :: y :: zs)
theorem orE_ok {P X C s : Nat} : ∀ es : List (Nat × List Nat), (orE b k nS al sup Um Gs ones P X C es).testBit s = true → ∃ e, e ∈ es ∧ (entB b k nS al sup Um Gs ones P X C e.1 e.2).testBit s = true
  | [], h => by
    have h : Nat.testBit 0 s = true := h
    rw [Nat.zero_testBit] at h
    cases h
  | e :: es, h => by
    unfold orE at h
    rw [Nat.testBit_or, Bool.or_eq_true] at h
    rcases h with h | h
    · exact ⟨e, List.mem_cons_self, h⟩
    · obtain ⟨e', h1, h2⟩ := orE_ok es h
      exact ⟨e', List.mem_cons_of_mem _ h1, h2⟩
theorem beq_and {w x s : Nat} (h : Nat.beq (w &&& x) w = true) (hs : w.testBit s = true) : x.testBit s = true := by
  have h1 := beq_iff h
  rw [← h1, Nat.testBit_and, Bool.and_eq_true] at hs
  exact hs.2
theorem rt_ok {r C s : Nat} {e : List (Nat × List Nat) × List (Nat × List Nat)} (h : rtB b k nS row pot al sup Um Gs ones r e = true) (hC : C < 2) (hi : inOrd (row r % 2097152) 0 C = false) (hs : s < 2 ^ b) (hb : (row r >>> 249).testBit (s + 2 ^ b * C) = true) :
    ∃ e' : Nat × List Nat, (entB b k nS al sup Um Gs ones (row r % 2097152) (pot r) C e'.1 e'.2).testBit s = true := by
  unfold rtB at h
  simp only [fz_eq, Bool.and_eq_true] at h
  obtain ⟨h1, h2⟩ := h
  rcases (show C = 0 ∨ C = 1 by omega) with rfl | rfl
  · rw [hi, cond_false] at h1
    have h3 := beq_and (s := s) h1 (by
      rw [Nat.testBit_mod_two_pow, decide_eq_true hs, Bool.true_and]
      rw [Nat.mul_zero, Nat.add_zero] at hb
      exact hb)
    obtain ⟨e', _, h4⟩ := orE_ok _ h3
    exact ⟨e', h4⟩
  · rw [hi, cond_false] at h2
    have h3 := beq_and (s := s) h2 (by
      rw [Nat.testBit_mod_two_pow, decide_eq_true hs, Bool.true_and, Nat.testBit_shiftRight, Nat.add_comm]
      rw [Nat.mul_one] at hb
      exact hb)
    obtain ⟨e', _, h4⟩ := orE_ok _ h3
    exact ⟨e', h4⟩
theorem rts_ok : ∀ (es : List (List (Nat × List Nat) × List (Nat × List Nat))) (r : Nat), rtsB b k nS row pot al sup Um Gs ones r es = true → ∀ i, i < es.length → ∃ e, rtB b k nS row pot al sup Um Gs ones (r + i) e = true
  | [], _, _, i, hi => absurd hi (Nat.not_lt_zero _)
  | e :: es, r, h, i, hi => by
    unfold rtsB at h
    rw [Bool.and_eq_true] at h
    cases i with
    | zero => exact ⟨e, h.1⟩
    | succ i =>
      obtain ⟨e', h'⟩ := rts_ok es (r + 1) h.2 i (by rw [List.length_cons] at hi; omega)
      exact ⟨e', by rw [show r + (i + 1) = r + 1 + i by omega]; exact h'⟩
/-- a set of books as a number -/
theorem msk_ex (f : Nat → Bool) : ∀ b, ∃ H, H < 2 ^ b ∧ ∀ i, H.testBit i = (decide (i < b) && f i)
  | 0 => ⟨0, by decide, fun i => by rw [Nat.zero_testBit, decide_eq_false (Nat.not_lt_zero i), Bool.false_and]⟩
  | b + 1 => by
    obtain ⟨H, h1, h2⟩ := msk_ex f b
    refine ⟨H ||| (if f b then 2 ^ b else 0), ?_, fun i => ?_⟩
    · refine Nat.or_lt_two_pow (Nat.lt_of_lt_of_le h1 (Nat.pow_le_pow_right (by omega) (by omega))) ?_
      split
      · exact Nat.pow_lt_pow_right (by omega) (by omega)
      · exact Nat.two_pow_pos _
    · rw [Nat.testBit_or, h2]
      by_cases hi : i = b
      · subst hi
        rw [decide_eq_false (Nat.lt_irrefl i), Bool.false_and, Bool.false_or, decide_eq_true (Nat.lt_succ_self i), Bool.true_and]
        cases f i with
        | true => rw [if_pos rfl, Nat.testBit_two_pow_self]
        | false => rw [if_neg (by decide), Nat.zero_testBit]
      · have h3 : (if f b = true then 2 ^ b else 0).testBit i = false := by
          split
          · rw [Nat.testBit_two_pow, decide_eq_false (Ne.symm hi)]
          · exact Nat.zero_testBit i
        rw [h3, Bool.or_false]
        congr 1
        by_cases hlt : i < b
        · rw [decide_eq_true hlt, decide_eq_true (Nat.lt_succ_of_lt hlt)]
        · rw [decide_eq_false hlt, decide_eq_false (show ¬ i < b + 1 by omega)]
theorem cw_congr {q q' : Nat → Nat → Nat} (hb : b < 6) (hq : ∀ P m, VW b P → m < 19 → rsn P 0 m = 0 → q P m = q' P m) : ∀ (ms : List Nat) (P P' : Nat), VW b P → wk ms P P' → cw q ms P = cw q' ms P
  | [], _, _, _, _ => rfl
  | m :: ms, P, P', hv, h => by
    obtain ⟨hm, h0, h3⟩ := h
    show q P m + cw q ms (aft P m) = q' P m + cw q' ms (aft P m)
    rw [hq P m hv hm h0, cw_congr hb hq ms (aft P m) P' (aft_VW hb hv hm h0) h3]
theorem cw_zero : ∀ (ms : List Nat) (P : Nat), cw (tmk 0) ms P = 0
  | [], _ => rfl
  | m :: ms, P => by
    show tmk 0 P m + cw (tmk 0) ms (aft P m) = 0
    rw [tmk_0, cw_zero ms]
/-- THE BOUND, for shelves whose letters are to rise, with weights for all slots -/
theorem cert (ck : CkOK b k N nS row pot LM Fa LA sS al sup Um G Gs ones) (hrt : ∀ r, r < N → ∃ e, rtB b k nS row pot al sup Um Gs ones r e = true) {S C n r w : Nat} {O : Nat → Nat} (hC : C < 2) (hS : ∀ s, S.testBit s = true → 1 ≤ s ∧ s ≤ b) (hO : ∀ s, 1 ≤ O s ∧ O s ≤ 9) (hr : r < N)
    (hP : Pt (ED b S) (pr b O) (gol b 0 C) n r w) (hL : Lst (ED b S) (pr b O) (gol b 0 C) r w) : n ≤ 60 := by
  obtain ⟨hb, hk, hN, hw, hrow, hc⟩ := id ck
  obtain ⟨c1, c2, c3, c4, c5, c6, c7, c8, c9, c10⟩ := id hc
  have hE : ∀ r m r', r < N → m < 19 → ED b S r m = some r' → r' < N := fun r m r' q1 q2 q3 => by rw [hN]; exact ED_lt hb r m r' (by rw [← hN]; exact q1) q2 q3
  have hpr : ∀ r m r', r < N → m < 19 → ED b S r m = some r' → 1 ≤ pr b O r m ∧ pr b O r m ≤ 9 := fun r m r' q1 q2 q3 => pr_bd hb (fun s _ _ => hO s) r m r' (by rw [← hN]; exact q1) q2 q3
  cases hg : gol b 0 C r with
  | true =>
    have h0 := lst_uniq hL (lst_goal hg)
    cases n with
    | zero => omega
    | succ n =>
      obtain ⟨m, r', w', a1, a2, a3, a4⟩ := hP
      have := (hpr r m r' hr a1 a2).1
      omega
  | false =>
    have hS2 : S >>> 1 < 2 ^ b := Classical.byContradiction fun hn => by
      obtain ⟨i, i1, i2⟩ : ∃ i, b ≤ i ∧ (S >>> 1).testBit i = true := Nat.exists_ge_and_testBit_of_ge_two_pow (Nat.not_lt.mp hn)
      rw [Nat.testBit_shiftRight] at i2
      have := (hS _ i2).2
      omega
    have hv : VW b (wd b r) := wd_VW hb (by rw [← hN]; exact hr)
    have hbit := solv_ok ck hC hS2 n r w hr hP
    obtain ⟨e, he⟩ := hrt r hr
    obtain ⟨e', hent⟩ := rt_ok he hC (by rw [hw r hr]; exact hg) hS2 hbit
    obtain ⟨x1, -, -⟩ := row_ok (hrow r hr)
    rw [hw r hr] at hent
    obtain ⟨si, hsi, hsub, hall⟩ := ent_ok hb hk hc hv (fun i hi => dg_half hk x1 (c1 i hi)) hC hS2 e'.2 hent
    -- the levels
    have hlev : ∀ t, ∃ H, H < 2 ^ b ∧ ∀ i, H.testBit i = (decide (i < b) && decide (t + 1 ≤ O (i + 1))) := fun t => msk_ex (fun i => decide (t + 1 ≤ O (i + 1))) b
    obtain ⟨h, hh⟩ : ∃ h : Nat → Nat, ∀ t, h t < 2 ^ b ∧ ∀ i, (h t).testBit i = (decide (i < b) && decide (t + 1 ≤ O (i + 1))) := ⟨fun t => (hlev t).choose, fun t => (hlev t).choose_spec⟩
    have hch : Chn b h := ⟨fun t => (hh t).1, fun t s hs => by
      rw [(hh _).2, Bool.and_eq_true, decide_eq_true_eq, decide_eq_true_eq] at hs
      rw [(hh _).2, decide_eq_true hs.1, decide_eq_true (show t + 1 ≤ O (s + 1) by omega)]
      rfl⟩
    obtain ⟨ms, P', m1, m2, m3, m4, m5⟩ := hall h hch
    have htq : ∀ t P m, VW b P → m < 19 → rsn P 0 m = 0 → tc (fun s => decide (t + 1 ≤ O s)) P m = tmk (h t) P m := fun t P m hv hm h0 => by
      obtain ⟨s1, s2⟩ := mv_slots hv hm h0
      have hslot : ∀ s, 1 ≤ s → s ≤ b → (h t).testBit (s - 1) = decide (t + 1 ≤ O s) := fun s a1 a2 => by
        rw [(hh t).2, decide_eq_true (show s - 1 < b by omega), Bool.true_and, Nat.sub_add_cancel a1]
      unfold tmk tc
      by_cases h7 : m < 7
      · obtain ⟨a1, a2⟩ := s1 h7
        rw [if_pos h7, if_pos h7]
        show _ = ((h t).testBit (sl P m - 1)).toNat
        rw [hslot _ a1 a2]
      · obtain ⟨⟨a1, a2⟩, a3, a4⟩ := s2 h7
        rw [if_neg h7, if_neg h7]
        show _ = ((h t).testBit (sl P (plc m) - 1) || (h t).testBit (sl P (plc m + 1) - 1)).toNat
        rw [hslot _ a1 a2, hslot _ a3 a4]
    have hSq : ∀ s, S.testBit s = true → (plQ ms (wd b r)).testBit s = false := fun s hs => by
      obtain ⟨a1, a2⟩ := hS s hs
      have := m4 (s - 1) (by rw [Nat.testBit_shiftRight, Nat.add_comm, Nat.sub_add_cancel a1]; exact hs)
      rw [Nat.sub_add_cancel a1] at this
      exact this
    obtain ⟨u1, u2⟩ := wk_wy (S := S) hb ms (wd b r) P' hv m1 hSq m2
    rw [rk_wd hb (by rw [← hN]; exact hr)] at u1 u2
    have hsS : ∀ s, 1 ≤ s → (sS si).testBit s = true → S.testBit s = true := fun s s1 hs => by
      have h1 : (sS si >>> 1).testBit (s - 1) = true := by
        rw [Nat.testBit_shiftRight, Nat.add_comm, Nat.sub_add_cancel s1]
        exact hs
      rw [← hsub, Nat.testBit_and, Bool.and_eq_true] at h1
      have h2 := h1.2
      rw [Nat.testBit_shiftRight, Nat.add_comm, Nat.sub_add_cancel s1] at h2
      exact h2
    have hcu := cu_dg c8 hb ms (wd b r) P' hv m1 m3.2
    refine soft (q := fun t r m => tc (fun s => decide (t + 1 ≤ O s)) (wd b r) m) (mu := fun t => muF b k nS pot si C (h t) r) (us := ms) (K := (60 - ms.length) / 8) hE (fun r m r' q1 q2 q3 => ?_) (fun r m r' q1 q2 q3 => ?_) hr hP hL (fun t t1 t9 ms hW => ?_) u1 (by have := m3.1; omega) (fun t t1 t9 => ?_)
    · exact prc_lev (fun p _ => (hO _).2) q2
    · have hall1 : ∀ s, decide (0 + 1 ≤ O s) = true := fun s => decide_eq_true (hO s).1
      unfold tc
      split
      · show (decide (0 + 1 ≤ O (sl (wd b r) m))).toNat = 1
        rw [hall1]; rfl
      · show (decide (0 + 1 ≤ O (sl (wd b r) (plc m))) || decide (0 + 1 ≤ O (sl (wd b r) (plc m + 1)))).toNat = 1
        rw [hall1]; rfl
    · refine ct_pot (mu := fun r => muF b k nS pot si C (h t) r) hE (fun r m r' q1 q2 q3 => ?_) (fun r q1 q2 => (goal_ok ck q1 hC q2).1 si (h t) hsi (hh t).1) ms r hr hW
      have := (edge_ok ck q1 q2 q3).1 si C (h t) hsi hC (hh t).1 hsS
      rw [← htq t (wd b r) m (wd_VW hb (by rw [← hN]; exact q1)) q2 (ED_rsn q3)] at this
      exact this
    · have e1 := u2 (fun P m => tc (fun s => decide (t + 1 ≤ O s)) P m)
      have e2 := cw_congr hb (htq t) ms (wd b r) P' hv m1
      show ct (ED b S) (fun r m => tc (fun s => decide (t + 1 ≤ O s)) (wd b r) m) ms r ≤ _
      rw [e1]
      show cw (fun P m => tc (fun s => decide (t + 1 ≤ O s)) P m) ms (wd b r) ≤ _
      rw [show cw (fun P m => tc (fun s => decide (t + 1 ≤ O s)) P m) ms (wd b r) = _ from e2]
      have h5 := m5 t
      unfold gdB at h5
      unfold muF
      by_cases h0 : h t = 0
      · rw [h0, cw_zero]
        exact Nat.zero_le _
      · have hlt := (hh t).1
        have hi : h t - 1 < 2 ^ b - 1 := by omega
        rw [Bool.or_eq_true] at h5
        rcases h5 with h5 | h5
        · exact absurd (beq_iff h5) h0
        · have h6 := Nat.le_of_ble_eq_true h5
          dsimp only at h6
          rw [(hcu _ hi).1, Nat.sub_add_cancel (by omega)] at h6
          unfold blkO at h6
          rw [dg_blk hi] at h6
          rw [if_neg h0]
          exact h6
end CFin
