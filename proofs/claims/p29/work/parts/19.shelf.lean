/-! the abstract shelf: word, books, stuck ones, settings; letters and weights by slots; accounts -/
abbrev AS : Type := (Nat × Nat × Nat × Nat × Nat) × (Nat → Nat) × (Nat → Nat) × Int32 × Int32 × Int32
abbrev aP (a : AS) : Nat := a.1.1
abbrev aB (a : AS) : Nat := a.1.2.1
abbrev aS (a : AS) : Nat := a.1.2.2.1
abbrev aF (a : AS) : Nat := a.1.2.2.2.1
abbrev aC (a : AS) : Nat := a.1.2.2.2.2
abbrev aL (a : AS) : Nat → Nat := a.2.1
abbrev aO (a : AS) : Nat → Nat := a.2.2.1
abbrev aM (a : AS) : Int32 := a.2.2.2.1
abbrev aE (a : AS) : Int32 := a.2.2.2.2.1
abbrev aR (a : AS) : Int32 := a.2.2.2.2.2
def AOK (a : AS) : Prop := VW (aB a) (aP a) ∧ aB a < 6 ∧ aS a < 64 ∧ (∀ s, (aS a).testBit s = true → 1 ≤ s ∧ s ≤ aB a) ∧ aF a < 2 ∧ aC a < 2 ∧ (∀ s, 1 ≤ s → s ≤ aB a → aL a s < 26 ∧ 1 ≤ aO a s ∧ aO a s ≤ 9) ∧ ∀ s t, 1 ≤ s → s < t → t ≤ aB a → aL a s < aL a t
def CAt (f : Nat → Nat → Int32) (B : Nat) (a : AS) : Prop := f B 0 = nI (aP a) ∧ f B 1 = nI (aB a) ∧ (∀ s, 1 ≤ s → s ≤ aB a → f (B + 2) s = nI (aL a s)) ∧ (∀ s, 1 ≤ s → s ≤ aB a → f (B + 4) s = nI (aO a s)) ∧ f B 4 = nI (aS a) ∧ f B 5 = nI (aF a) ∧ f B 6 = nI (aC a) ∧ f B 7 = aM a ∧ f B 8 = aE a ∧ f B 9 = aR a
/-- only these rows have changed -/
def Off (f g : Nat → Nat → Int32) (l : List Nat) : Prop := ∀ k, k ∉ l → g k = f k
theorem Off.rf {f : Nat → Nat → Int32} {l : List Nat} : Off f f l := fun _ _ => rfl
theorem Off.tr {f g h : Nat → Nat → Int32} {l : List Nat} (a : Off f g l) (b : Off g h l) : Off f h l := fun k hk => (b k hk).trans (a k hk)
theorem Off.mono {f g : Nat → Nat → Int32} {l l' : List Nat} (a : Off f g l) (h : ∀ k, k ∈ l → k ∈ l') : Off f g l' := fun k hk => a k (fun q => hk (h k q))
theorem s2_off {f : Nat → Nat → Int32} {k j : Nat} {x : Int32} {l : List Nat} (h : k ∈ l) : Off f (s2 f k j x) l := by
  intro a ha
  funext b
  rw [s2_at, if_neg (fun (q : a = k) => ha (q ▸ h))]
theorem cp_off {f : Nat → Nat → Int32} {a c i : Nat} {l : List Nat} (h : a ∈ l) : Off f (cp f a c i) l := by
  intro k hk
  funext b
  unfold cp
  rw [if_neg (fun (q : k = a ∧ b < i) => hk (q.1 ▸ h))]
theorem hR_W' {h : pH} {ci k j : Nat} (w : WF h) (e : K0[k]? = some (.inl ci)) (hk : k ≠ 12) : hR h ci k j = R0 k j := by
  unfold hR
  rw [w.1, if_pos e, w.2 k j hk]
theorem hI_k {h : pH} {c k j : Nat} : hI h c k j = if kO h c k = true then some (h.2.2 k j) else none := by
  unfold hI kO
  by_cases e : h.1[k]? = some (.inl c)
  · rw [if_pos e, if_pos (decide_eq_true e)]
  · rw [if_neg e, if_neg (by simpa using e)]
theorem kO_I {h : pH} {c k' k j : Nat} {x : Int32} : kO (sI h k j x) c k' = kO h c k' := rfl
theorem kO_S {h : pH} {c k : Nat} {f : Nat → Nat → Int32} : kO (hS h f) c k = kO h c k := rfl
theorem hR_I {h : pH} {c k' j' k j : Nat} {x : Int32} : hR (sI h k j x) c k' j' = hR h c k' j' := rfl
theorem hR_S {h : pH} {c k j : Nat} {f : Nat → Nat → Int32} : hR (hS h f) c k j = hR h c k j := rfl
theorem hN_I {h : pH} {k' k j : Nat} {x : Int32} : hN (sI h k j x) k' = hN h k' := rfl
theorem hN_S {h : pH} {k : Nat} {f : Nat → Nat → Int32} : hN (hS h f) k = hN h k := rfl
theorem sI_2 {h : pH} {k j : Nat} {x : Int32} : (sI h k j x).2.2 = s2 h.2.2 k j x := rfl
theorem s_Bbecome {h : pH} {B C : Nat} {a : AS} (w : WF h) (hB : isSh B) (hC : isSh C) (hne : B ≠ C) (hc : CAt h.2.2 C a) (hb : aB a < 6) : ∃ g, f_B_become B C h = rV (hS h g) ∧ CAt g B a ∧ Off h.2.2 g [B, B + 2, B + 4] := by
  obtain ⟨e1, e2, e3, e4, e5, e6⟩ := sh_at hB
  obtain ⟨c1, c2, c3, c4, c5, c6⟩ := sh_at hC
  have n1 : C + 1 ≠ B + 1 := by omega
  have n3 : C + 3 ≠ B + 3 := by omega
  rw [e_B_become]
  have k1 := kO_W w e1
  have k2 := kO_W w c1
  have k3 := kO_W w e4.1
  have k4 := kO_W w e5.1
  have r1 := hR_W w e1 e6 e2
  have r2 := hR_W w e1 e6 e3
  have r3 := hR_W w c1 c6 c2
  have r4 := hR_W w c1 c6 c3
  simp only [oo_v, hI_k, kO_I, kO_S, hR_I, hR_S, k1, k2, k3, k4, r1, r2, r3, r4, if_true, cV_v, s_become (WF_S w) e4 c4 n1, s_become (WF_S w) e5 c5 n3, sI_S, hS_S, hS_2]
  have hCB : C ≠ B := Ne.symm hne
  have dj : ¬ C + 1 + 1 = B ∧ ¬ C + 3 + 1 = B ∧ ¬ C + 2 = B ∧ ¬ C = B + 1 + 1 ∧ ¬ C = B + 3 + 1 ∧ ¬ B = B + 1 + 1 ∧ ¬ B = B + 3 + 1 := by
    unfold isSh at hB hC
    omega
  obtain ⟨j1, j2, j3, j4, j5, j6, j7⟩ := dj
  refine ⟨_, rfl, ?_, ?_⟩
  · obtain ⟨d1, d2, d3, d4, d5, d6, d7, d8, d9, d10⟩ := hc
    refine ⟨?_, ?_, fun s hs1 hs2 => ?_, fun s hs1 hs2 => ?_, ?_, ?_, ?_, ?_, ?_, ?_⟩
    · simp [s2_at, cp, hCB, j1, j2, j3, j4, j5, j6, j7, d1]
    · simp [s2_at, cp, hCB, j1, j2, j3, j4, j5, j6, j7, d2]
    · have hs6 : s < 6 := by omega
      simp [s2_at, cp, hCB, j1, j2, j3, j4, j5, j6, j7, hs6, d3 s hs1 hs2]
    · have hs6 : s < 6 := by omega
      simp [s2_at, cp, hCB, j1, j2, j3, j4, j5, j6, j7, hs6, d4 s hs1 hs2]
    · simp [s2_at, cp, hCB, j1, j2, j3, j4, j5, j6, j7, d5]
    · simp [s2_at, cp, hCB, j1, j2, j3, j4, j5, j6, j7, d6]
    · simp [s2_at, cp, hCB, j1, j2, j3, j4, j5, j6, j7, d7]
    · simp [s2_at, cp, hCB, j1, j2, j3, j4, j5, j6, j7, d8]
    · simp [s2_at, cp, hCB, j1, j2, j3, j4, j5, j6, j7, d9]
    · simp [s2_at, cp, hCB, j1, j2, j3, j4, j5, j6, j7, d10]
  · intro k hk
    funext j
    simp only [List.mem_cons, List.not_mem_nil, or_false, not_or] at hk
    obtain ⟨z1, z2, z3⟩ := hk
    simp [s2_at, cp, z1, z2, z3]
