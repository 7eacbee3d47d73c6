/-! the constants checked; stretches of rows put together -/
theorem lpo {f : Nat → Bool} {lo n r : Nat} (h : lp (fun i => f (lo + i)) n = true) (h1 : lo ≤ r) (h2 : r < lo + n) : f r = true := by
  have h3 := lp_iff h (r - lo) (by omega)
  rw [show lo + (r - lo) = r by omega] at h3
  exact h3
def cs1B (b k nS : Nat) (G Gs ones : Nat) : Bool :=
  lp (fun i => Nat.beq (dg k G i) (hf k)) (2 * nC b nS) && (lp (fun i => Nat.beq (dg k Gs i) (hf k)) (2 ^ b - 1) && lp (fun i => Nat.beq (dg k ones i) 1) (2 ^ b - 1))
def cs2B (b k nS : Nat) (LM Fa sS : Nat → Nat) (a : Nat) : Bool :=
  lp (fun i => Nat.ble (dg k (Fa (a + 1)) i) 1) (2 * nC b nS) &&
  lp (fun C => lp (fun si => lp (fun h => Nat.beq (dg k (Fa (a + 1)) (nC b nS * C + (2 ^ b - 1) * si + h)) ((h + 1).testBit a).toNat && (bif (sS si).testBit (a + 1) then true else Nat.beq (dg k (LM (a + 1)) (nC b nS * C + (2 ^ b - 1) * si + h)) (2 ^ k - 1))) (2 ^ b - 1)) nS) 2
def cs3B (b k nS : Nat) (LA sS al sup Um : Nat → Nat) : Bool :=
  lp (fun a => lp (fun s => bif s.testBit a then true else lp (fun C => (LA (a + 1)).testBit (s + 2 ^ b * C)) 2) (2 ^ b)) b &&
  (lp (fun a => lp (fun h => Nat.beq (dg k (Um (a + 1)) h) ((h + 1).testBit a).toNat) (2 ^ b - 1)) b &&
  (lp (fun Q => lp (fun s => bif (al Q).testBit s then Nat.beq (s &&& Q) 0 else true) (2 ^ b)) (2 ^ b) &&
  lp (fun si => lp (fun s => bif (sup si).testBit s then Nat.beq ((sS si >>> 1) &&& s) (sS si >>> 1) else true) (2 ^ b)) nS))
theorem cs_ok {b k nS : Nat} {LM Fa LA sS al sup Um : Nat → Nat} {G Gs ones : Nat} (h1 : cs1B b k nS G Gs ones = true) (h2 : ∀ a, a < b → cs2B b k nS LM Fa sS a = true) (h3 : cs3B b k nS LA sS al sup Um = true) : CsOK b k nS LM Fa LA sS al sup Um G Gs ones := by
  unfold cs1B at h1
  unfold cs3B at h3
  simp only [Bool.and_eq_true] at h1 h3
  obtain ⟨a1, a2, a3⟩ := h1
  obtain ⟨d1, d2, d3, d4⟩ := h3
  have g2 : ∀ a, a < b → (∀ i, i < 2 * nC b nS → dg k (Fa (a + 1)) i ≤ 1) ∧ ∀ C, C < 2 → ∀ si, si < nS → ∀ h, h < 2 ^ b - 1 → dg k (Fa (a + 1)) (nC b nS * C + (2 ^ b - 1) * si + h) = ((h + 1).testBit a).toNat ∧ ((sS si).testBit (a + 1) = false → dg k (LM (a + 1)) (nC b nS * C + (2 ^ b - 1) * si + h) = 2 ^ k - 1) := fun a ha => by
    have h4 := h2 a ha
    unfold cs2B at h4
    rw [Bool.and_eq_true] at h4
    refine ⟨fun i hi => Nat.le_of_ble_eq_true (lp_iff h4.1 i hi), fun C hC si hsi h hh => ?_⟩
    have h5 := lp_iff (lp_iff (lp_iff h4.2 C hC) si hsi) h hh
    rw [Bool.and_eq_true] at h5
    refine ⟨beq_iff h5.1, fun hs => ?_⟩
    have h6 := h5.2
    rw [hs, cond_false] at h6
    exact beq_iff h6
  refine ⟨fun i hi => beq_iff (lp_iff a1 i hi), fun i hi => beq_iff (lp_iff a2 i hi), fun i hi => beq_iff (lp_iff a3 i hi), fun a ha => (g2 a ha).1, fun a ha C hC si hsi h hh => ((g2 a ha).2 C hC si hsi h hh).1, fun a ha C hC si hsi h hh => ((g2 a ha).2 C hC si hsi h hh).2, fun a ha s hs hb C hC => ?_, fun a ha h hh => beq_iff (lp_iff (lp_iff d2 a ha) h hh), fun Q hQ s hs hb => ?_, fun si hsi s hs hb => ?_⟩
  · have h5 := lp_iff (lp_iff d1 a ha) s hs
    rw [hb, cond_false] at h5
    exact lp_iff h5 C hC
  · have h5 := lp_iff (lp_iff d3 Q hQ) s hs
    rw [hb, cond_true] at h5
    exact beq_iff h5
  · have h5 := lp_iff (lp_iff d4 si hsi) s hs
    rw [hb, cond_true] at h5
    exact beq_iff h5
theorem wo_ok {b : Nat} {row : Nat → Nat} (hb : b < 6) (h : (allW b).zipIdx.all (fun q => Nat.beq (row q.2 % 2097152) q.1) = true) : ∀ r, r < wds b → row r % 2097152 = wd b r := by
  intro r hr
  have h1 := allW_at hb hr
  have h2 : (wd b r, r) ∈ (allW b).zipIdx := List.mem_of_getElem? (i := r) (by rw [List.getElem?_zipIdx, h1]; simp)
  exact beq_iff (List.all_eq_true.mp h _ h2)
theorem rts_at {b k nS : Nat} {row pot al sup Um : Nat → Nat} {Gs ones : Nat} {es : List (List (Nat × List Nat) × List (Nat × List Nat))} {lo n r : Nat} (h : rtsB b k nS row pot al sup Um Gs ones lo es = true) (hn : es.length = n) (h1 : lo ≤ r) (h2 : r < lo + n) : ∃ e, rtB b k nS row pot al sup Um Gs ones r e = true := by
  obtain ⟨e, he⟩ := rts_ok es lo h (r - lo) (by omega)
  rw [show lo + (r - lo) = r by omega] at he
  exact ⟨e, he⟩
