/-! the law's looks at the books -/
section Ct
variable {z : ZS}
theorem ct_0 : (sCount z 0).1 = nI (aB (zA z)) := rfl
theorem ct_1 : (sCount z 1).1 = nI (pop (aS (zA z))) := rfl
theorem ct_2 : (sCount z 2).1 = nI (smw (aO (zA z)) (aB (zA z))) := rfl
theorem ct_3 : (sCount z 3).1 = nI (inOrd (aP (zA z)) (aF (zA z)) (aC (zA z))).toNat := rfl
theorem ct_4 : (sCount z 4).1 = nI (dis (aP (zA z)) (aF (zA z))) := rfl
theorem ct_5 : (sCount z 5).1 = nI (rk (aB (zA z)) (aP (zA z))) := rfl
theorem ct_6 : (sCount z 6).1 = nI (wds (aB (zA z))) := rfl
theorem ct_8 : (sCount z 8).1 = aM (zA z) := rfl
theorem ct_9 : (sCount z 9).1 = aE (zA z) := rfl
theorem ct_10 : (sCount z 10).1 = aR (zA z) := rfl
theorem ct_11 : (sCount z 11).1 = nI (cnt (fun m => decide (rsn (aP (zA z)) (aS (zA z)) m = 0)) 19) := rfl
theorem ct_12 : (sCount z 12).1 = nI (aF (zA z)) := rfl
theorem ct_13 : (sCount z 13).1 = nI (aC (zA z)) := rfl
theorem ct_14 : (sCount z 14).1 = nI (zN z) := rfl
end Ct
theorem m4_iff {c : Prop} [Decidable c] {n : Nat} (hn : n < 2147483648) : ((if c then (-4 : Int32) else nI n) = -4) ↔ c := by
  by_cases hc : c
  · rw [if_pos hc]; exact ⟨fun _ => hc, fun _ => rfl⟩
  · rw [if_neg hc]
    refine ⟨fun e => ?_, fun q => absurd q hc⟩
    have h9 := i_nneg hn
    rw [e] at h9
    exact absurd (by decide) h9
section At
variable {h : pH} {z : ZS} {p : Nat}
theorem at_in (hp : p < 7) {y : Int32} (hy : inb y 6 = true) : (sAt z (nI p) y).1 = if sl (aP (zA z)) p = 0 then (if y = 5 then nI p else -4) else if y = 0 then nI (aL (zA z) (sl (aP (zA z)) p)) else if y = 1 then nI (aO (zA z) (sl (aP (zA z)) p)) else if y = 2 then nI ((aS (zA z)).testBit (sl (aP (zA z)) p)).toNat else if y = 4 then nI (wb (aP (zA z)) p (aF (zA z))) else nI (gap (aP (zA z)) p) := by
  show (if inb (nI p) 7 = true ∧ inb y 6 = true then _ else _) = _
  rw [if_pos ⟨inb_of hp (by omega), hy⟩]
  simp only [cl, i_clamp (show p < 2147483648 by omega)]
theorem y_at0 (hp : p < 7) (s : Sg h z) : ∃ h1, f_X_at 0 (nI p) 0 h = rI (if sl (aP (zA z)) p = 0 then -4 else nI (aL (zA z) (sl (aP (zA z)) p))) h1 ∧ Sg h1 z := by
  obtain ⟨h1, e, s1⟩ := x_at (nI p) 0 s
  rw [at_in hp (by decide)] at e
  exact ⟨h1, e, s1⟩
theorem y_at1 (hp : p < 7) (s : Sg h z) : ∃ h1, f_X_at 0 (nI p) 1 h = rI (if sl (aP (zA z)) p = 0 then -4 else nI (aO (zA z) (sl (aP (zA z)) p))) h1 ∧ Sg h1 z := by
  obtain ⟨h1, e, s1⟩ := x_at (nI p) 1 s
  rw [at_in hp (by decide)] at e
  exact ⟨h1, e, s1⟩
theorem y_at2 (hp : p < 7) (s : Sg h z) : ∃ h1, f_X_at 0 (nI p) 2 h = rI (if sl (aP (zA z)) p = 0 then -4 else nI ((aS (zA z)).testBit (sl (aP (zA z)) p)).toNat) h1 ∧ Sg h1 z := by
  obtain ⟨h1, e, s1⟩ := x_at (nI p) 2 s
  rw [at_in hp (by decide)] at e
  exact ⟨h1, e, s1⟩
theorem y_at3 (hp : p < 7) (s : Sg h z) : ∃ h1, f_X_at 0 (nI p) 3 h = rI (if sl (aP (zA z)) p = 0 then -4 else nI (gap (aP (zA z)) p)) h1 ∧ Sg h1 z := by
  obtain ⟨h1, e, s1⟩ := x_at (nI p) 3 s
  rw [at_in hp (by decide)] at e
  exact ⟨h1, e, s1⟩
theorem y_at4 (hp : p < 7) (s : Sg h z) : ∃ h1, f_X_at 0 (nI p) 4 h = rI (if sl (aP (zA z)) p = 0 then -4 else nI (wb (aP (zA z)) p (aF (zA z)))) h1 ∧ Sg h1 z := by
  obtain ⟨h1, e, s1⟩ := x_at (nI p) 4 s
  rw [at_in hp (by decide)] at e
  exact ⟨h1, e, s1⟩
theorem y_at5 (hp : p < 7) (s : Sg h z) : ∃ h1, f_X_at 0 (nI p) 5 h = rI (nI (ngp (aP (zA z)) p)) h1 ∧ Sg h1 z := by
  obtain ⟨h1, e, s1⟩ := x_at (nI p) 5 s
  rw [at_in hp (by decide)] at e
  refine ⟨h1, ?_, s1⟩
  rw [e]
  unfold ngp
  by_cases h0 : sl (aP (zA z)) p = 0
  · rw [if_pos h0, if_pos h0]; rfl
  · rw [if_neg h0, if_neg h0]; rfl
end At
section Books
variable {z : ZS}
theorem i_absd {a c : Nat} (ha : a < 7) (hc : c < 7) : (if nI a ≤ nI c then nI c - nI a else nI a - nI c) = nI ((a - c) + (c - a)) := by
  by_cases h : a ≤ c
  · rw [if_pos ((i_le (by omega) (by omega)).2 h), i_sub h]
    congr 1
    omega
  · rw [if_neg (fun q => h ((i_le (by omega) (by omega)).1 q)), i_sub (by omega)]
    congr 1
    omega
/-- no gap is nearer than the one told -/
theorem s_near {p g : Nat} {x1 x2 x3 x4 x5 x7 : Int32} (hp : p < 7) (hg : g < 7) (hn : ∀ q, q < 7 → sl (aP (zA z)) q = 0 → (p - g) + (g - p) < (p - q) + (q - p) ∨ ((p - q) + (q - p) = (p - g) + (g - p) ∧ g ≤ q)) : ∀ (k q : Nat) (h : pH), q + k = 7 → Sg h z →
    ∃ h1, f_L_areBooks_135 0 x1 x2 x3 x4 x5 (nI p) x7 (nI g) 1 (nI q) h = f_L_areBooks_237 0 x1 x2 x3 x4 x5 (nI p) x7 1 h1 ∧ Sg h1 z
  | 0, q, h, hq, s => by
    obtain rfl : q = 7 := by omega
    exact ⟨h, by rw [e_L_areBooks_135, if_pos (by decide)], s⟩
  | k + 1, q, h, hq, s => by
    have hq7 : q < 7 := by omega
    obtain ⟨h1, e1, s1⟩ := y_at0 hq7 s
    obtain ⟨h2, e2, s2⟩ := s_near (x1 := x1) (x2 := x2) (x3 := x3) (x4 := x4) (x5 := x5) (x7 := x7) hp hg hn k (q + 1) h1 (by omega) s1
    have hA : ∀ y : Int32, y = nI ((p - q) + (q - p)) → f_L_areBooks_167 0 x1 x2 x3 x4 x5 (nI p) x7 (nI g) (nI q) y h = f_L_areBooks_237 0 x1 x2 x3 x4 x5 (nI p) x7 1 h2 := by
      rintro y rfl
      have hB : ∀ w : Int32, w = nI ((p - g) + (g - p)) → f_L_areBooks_189 0 x1 x2 x3 x4 x5 (nI p) x7 (nI g) (nI q) (nI ((p - q) + (q - p))) w h = f_L_areBooks_237 0 x1 x2 x3 x4 x5 (nI p) x7 1 h2 := by
        rintro w rfl
        have hl : aL (zA z) (sl (aP (zA z)) q) < 2147483648 ∨ sl (aP (zA z)) q = 0 := by
          by_cases h0 : sl (aP (zA z)) q = 0
          · exact Or.inr h0
          · have := (s.2.1.1.2.2.2.2.2.2.1 (sl (aP (zA z)) q) (by omega) (s.2.1.1.1.2.1 q hq7)).1
            exact Or.inl (by omega)
        rw [e_L_areBooks_189, if_pos (kO7 s), e1, cI_v, L1, i_add]
        rw [L1] at e2
        by_cases h0 : sl (aP (zA z)) q = 0
        · rw [if_pos h0, if_pos rfl]
          rcases hn q hq7 h0 with hd | ⟨hd, hd2⟩
          · rw [if_pos ((i_lt (by omega) (by omega)).2 hd)]
            exact e2
          · rw [if_neg (fun q => absurd ((i_lt (by omega) (by omega)).1 q) (by omega)), if_pos (by rw [hd]), if_neg (fun q => absurd ((i_lt (by omega) (by omega)).1 q) (by omega))]
            exact e2
        · have hl := hl.resolve_right h0
          rw [if_neg h0, if_neg (fun e => by have h9 := i_nneg hl; rw [e] at h9; exact absurd (by decide) h9)]
          exact e2
      rw [e_L_areBooks_167]
      have h9 := i_absd hp hg
      by_cases c : nI p ≤ nI g
      · rw [if_pos c] at h9 ⊢
        exact hB _ h9
      · rw [if_neg c] at h9 ⊢
        exact hB _ h9
    refine ⟨h2, ?_, s2⟩
    rw [e_L_areBooks_135, if_neg (by rw [L7, i_le (by omega) (by omega)]; omega), if_neg (by decide)]
    have h9 := i_absd hp hq7
    by_cases c : nI p ≤ nI q
    · rw [if_pos c] at h9 ⊢
      exact hA _ h9
    · rw [if_neg c] at h9 ⊢
      exact hA _ h9
def bkF (P k : Nat) : Nat := sm (fun p => if sl P p = 0 then 0 else 1) k
def wtF (a : AS) (k : Nat) : Nat := sm (fun p => if sl (aP a) p = 0 then 0 else aO a (sl (aP a) p)) k
def stF (a : AS) (k : Nat) : Nat := sm (fun p => if sl (aP a) p = 0 then 0 else ((aS a).testBit (sl (aP a) p)).toNat) k
def wrF (a : AS) (k : Nat) : Nat := sm (fun p => if sl (aP a) p = 0 then 0 else wb (aP a) p (aF a)) k
theorem s_books_382 {h : pH} {t : Bool} (s : Sg h z) (ht : inOrd (aP (zA z)) (aF (zA z)) (aC (zA z)) = t) : ∃ h1, f_L_areBooks_382 0 (nI (bkF (aP (zA z)) 7)) (nI (wtF (zA z) 7)) (nI (stF (zA z) 7)) (nI (wrF (zA z) 7)) (nI t.toNat) h = rI 1 h1 ∧ Sg h1 z := by
  have ha := s.2.1.1
  have hb := ha.2.1
  have f1 : bkF (aP (zA z)) 7 = aB (zA z) := bk_7 ha.1
  have f2 : wtF (zA z) 7 = smw (aO (zA z)) (aB (zA z)) := by rw [smw_sm]; exact sm_places ha.1 (aO (zA z))
  have f3 : stF (zA z) 7 = pop (aS (zA z)) := by rw [pop_sm hb ha.2.2.2.1]; exact sm_places ha.1 (fun s => ((aS (zA z)).testBit s).toNat)
  have f4 : wrF (zA z) 7 = 2 * dis (aP (zA z)) (aF (zA z)) := wr_7 _ _
  obtain ⟨h1, e1, s1⟩ := x_count 0 s
  obtain ⟨h2, e2, s2⟩ := x_count 1 s1
  obtain ⟨h3, e3, s3⟩ := x_count 2 s2
  obtain ⟨h4, e4, s4⟩ := x_count 4 s3
  obtain ⟨h5, e5, s5⟩ := x_count 3 s4
  refine ⟨h5, ?_, s5⟩
  rw [f1, f2, f3, f4, e_L_areBooks_382, if_pos (kO7 s), e1, cI_v, ct_0, if_pos rfl, if_neg (by rw [L6, i_le (by omega) (by omega)]; omega), if_pos (kO7 s1), e2, cI_v, ct_1, if_pos rfl, if_pos (kO7 s2), e3, cI_v, ct_2, if_pos rfl, if_pos (kO7 s3), e4, cI_v, ct_4, L2, i_mul, if_pos rfl, if_pos (kO7 s4), e5, cI_v, ct_3, ht]
  cases t
  · rw [if_pos (by decide), if_pos (by decide)]
  · rw [if_neg (by decide), if_pos (by decide)]
theorem s_books_313 {p : Nat} {h : pH} {x1 x2 x3 t0 t1 : Int32} (hp : p < 7) (s : Sg h z) : ∃ h1, f_L_areBooks_313 0 x1 x2 x3 (nI (clB (aP (zA z)) p).toNat) (nI p) (nI (decide (sl (aP (zA z)) p = 0)).toNat) t0 t1 h = f_L_areBooks_15 0 x1 x2 x3 (t0 + t1) (nI (clB (aP (zA z)) (p + 1)).toNat) (nI (p + 1)) h1 ∧ Sg h1 z := by
  have ha := s.2.1.1
  rw [e_L_areBooks_313, L1, i_add]
  have hc : clB (aP (zA z)) (p + 1) = (clB (aP (zA z)) p && (decide (sl (aP (zA z)) p = 0) || decide (p = 0) || !decide (sl (aP (zA z)) (p - 1) = 0))) := rfl
  rw [hc]
  cases c1 : clB (aP (zA z)) p with
  | false => exact ⟨h, by rw [if_pos (by decide)]; rfl, s⟩
  | true =>
    rw [if_neg (by decide)]
    by_cases h0 : sl (aP (zA z)) p = 0
    · exact ⟨h, by rw [decide_eq_true h0, if_neg (by decide)]; rfl, s⟩
    · rw [decide_eq_false h0, if_pos (by decide)]
      by_cases hp0 : p = 0
      · exact ⟨h, by rw [if_pos (by rw [hp0]; rfl), decide_eq_true hp0]; rfl, s⟩
      · obtain ⟨h1, e1, s1⟩ := y_at0 (show p - 1 < 7 by omega) s
        refine ⟨h1, ?_, s1⟩
        rw [if_neg (by rw [i_eq0 (by omega)]; exact hp0), if_pos (kO7 s), i_sub (by omega), show (0 : Int32) = 0 from rfl, e1, cI_v, decide_eq_false hp0]
        by_cases h1 : sl (aP (zA z)) (p - 1) = 0
        · rw [if_pos h1, if_pos rfl, decide_eq_true h1]; rfl
        · have := (ha.2.2.2.2.2.2.1 (sl (aP (zA z)) (p - 1)) (by omega) (ha.1.2.1 (p - 1) (by omega))).1
          rw [if_neg h1, if_neg (fun e => by have h9 := i_nneg (show aL (zA z) (sl (aP (zA z)) (p - 1)) < 2147483648 by omega); rw [e] at h9; exact absurd (by decide) h9), decide_eq_false h1]; rfl
/-- one place -/
theorem s_books_237 {p : Nat} {h : pH} (hp : p < 7) (s : Sg h z) : ∃ h1, f_L_areBooks_237 0 (nI (bkF (aP (zA z)) p)) (nI (wtF (zA z) p)) (nI (stF (zA z) p)) (nI (wrF (zA z) p)) (nI (clB (aP (zA z)) p).toNat) (nI p) (nI (decide (sl (aP (zA z)) p = 0)).toNat) 1 h =
    f_L_areBooks_15 0 (nI (bkF (aP (zA z)) (p + 1))) (nI (wtF (zA z) (p + 1))) (nI (stF (zA z) (p + 1))) (nI (wrF (zA z) (p + 1))) (nI (clB (aP (zA z)) (p + 1)).toNat) (nI (p + 1)) h1 ∧ Sg h1 z := by
  have b1 : bkF (aP (zA z)) (p + 1) = bkF (aP (zA z)) p + (if sl (aP (zA z)) p = 0 then 0 else 1) := rfl
  have b2 : wtF (zA z) (p + 1) = wtF (zA z) p + (if sl (aP (zA z)) p = 0 then 0 else aO (zA z) (sl (aP (zA z)) p)) := rfl
  have b3 : stF (zA z) (p + 1) = stF (zA z) p + (if sl (aP (zA z)) p = 0 then 0 else ((aS (zA z)).testBit (sl (aP (zA z)) p)).toNat) := rfl
  have b4 : wrF (zA z) (p + 1) = wrF (zA z) p + (if sl (aP (zA z)) p = 0 then 0 else wb (aP (zA z)) p (aF (zA z))) := rfl
  rw [e_L_areBooks_237, if_neg (by decide)]
  by_cases h0 : sl (aP (zA z)) p = 0
  · obtain ⟨h1, e1, s1⟩ := s_books_313 (x1 := nI (bkF (aP (zA z)) p) + 0) (x2 := nI (wtF (zA z) p) + 0) (x3 := nI (stF (zA z) p) + 0) (t0 := nI (wrF (zA z) p)) (t1 := 0) hp s
    refine ⟨h1, ?_, s1⟩
    rw [decide_eq_true h0] at e1 ⊢
    rw [if_neg (by decide), e_L_areBooks_255, if_neg (by decide), e_L_areBooks_274, if_neg (by decide), e_L_areBooks_293, if_neg (by decide), e1, b1, b2, b3, b4, if_pos h0, if_pos h0, if_pos h0, if_pos h0, L0, i_add, i_add, i_add, i_add]
  · obtain ⟨h1, e1, s1⟩ := y_at1 hp s
    obtain ⟨h2, e2, s2⟩ := y_at2 hp s1
    obtain ⟨h3, e3, s3⟩ := y_at4 hp s2
    obtain ⟨h4, e4, s4⟩ := s_books_313 (x1 := nI (bkF (aP (zA z)) p) + 1) (x2 := nI (wtF (zA z) p) + nI (aO (zA z) (sl (aP (zA z)) p))) (x3 := nI (stF (zA z) p) + nI ((aS (zA z)).testBit (sl (aP (zA z)) p)).toNat) (t0 := nI (wrF (zA z) p)) (t1 := nI (wb (aP (zA z)) p (aF (zA z)))) hp s3
    refine ⟨h4, ?_, s4⟩
    rw [if_neg h0] at e1 e2 e3
    rw [decide_eq_false h0] at e4 ⊢
    rw [if_pos (by decide), e_L_areBooks_255, if_pos (by decide), if_pos (kO7 s), e1, cI_v, e_L_areBooks_274, if_pos (by decide), if_pos (kO7 s1), e2, cI_v, e_L_areBooks_293, if_pos (by decide), if_pos (kO7 s2), e3, cI_v, e4, b1, b2, b3, b4, if_neg h0, if_neg h0, if_neg h0, if_neg h0, L1, i_add, i_add, i_add, i_add]
theorem s_books_39 {p : Nat} {h : pH} (hp : p < 7) (s : Sg h z) : ∃ h1, f_L_areBooks_39 0 (nI (bkF (aP (zA z)) p)) (nI (wtF (zA z) p)) (nI (stF (zA z) p)) (nI (wrF (zA z) p)) (nI (clB (aP (zA z)) p).toNat) (nI p) (nI (decide (sl (aP (zA z)) p = 0)).toNat) h =
    f_L_areBooks_15 0 (nI (bkF (aP (zA z)) (p + 1))) (nI (wtF (zA z) (p + 1))) (nI (stF (zA z) (p + 1))) (nI (wrF (zA z) (p + 1))) (nI (clB (aP (zA z)) (p + 1)).toNat) (nI (p + 1)) h1 ∧ Sg h1 z := by
  have ha := s.2.1.1
  obtain ⟨n1, n2, n3⟩ := ngp_ok ha.2.1 ha.1 hp
  have fin : ∀ {h : pH}, Sg h z → ∃ h1, f_L_areBooks_135 0 (nI (bkF (aP (zA z)) p)) (nI (wtF (zA z) p)) (nI (stF (zA z) p)) (nI (wrF (zA z) p)) (nI (clB (aP (zA z)) p).toNat) (nI p) (nI (decide (sl (aP (zA z)) p = 0)).toNat) (nI (ngp (aP (zA z)) p)) 1 0 h =
    f_L_areBooks_15 0 (nI (bkF (aP (zA z)) (p + 1))) (nI (wtF (zA z) (p + 1))) (nI (stF (zA z) (p + 1))) (nI (wrF (zA z) (p + 1))) (nI (clB (aP (zA z)) (p + 1)).toNat) (nI (p + 1)) h1 ∧ Sg h1 z := by
    intro h s
    obtain ⟨h1, e1, s1⟩ := s_near (x1 := nI (bkF (aP (zA z)) p)) (x2 := nI (wtF (zA z) p)) (x3 := nI (stF (zA z) p)) (x4 := nI (wrF (zA z) p)) (x5 := nI (clB (aP (zA z)) p).toNat) (x7 := nI (decide (sl (aP (zA z)) p = 0)).toNat) hp n1 n3 7 0 h rfl s
    obtain ⟨h2, e2, s2⟩ := s_books_237 hp s1
    exact ⟨h2, e1.trans e2, s2⟩
  obtain ⟨h1, e1, s1⟩ := y_at5 hp s
  obtain ⟨h2, e2, s2⟩ := y_at0 n1 s1
  rw [if_pos n2] at e2
  obtain ⟨h3, e3, s3⟩ := y_at3 hp s2
  rw [e_L_areBooks_39, if_pos (kO7 s), e1, cI_v, if_neg (i_nneg (by omega)), if_neg (by rw [L7, i_le (by omega) (by omega)]; omega), if_pos (kO7 s1), e2, cI_v, if_pos rfl]
  by_cases h0 : sl (aP (zA z)) p = 0
  · obtain ⟨h4, e4, s4⟩ := y_at4 hp s3
    obtain ⟨h5, e5, s5⟩ := fin s4
    rw [if_pos h0] at e3 e4
    refine ⟨h5, ?_, s5⟩
    have hg : ngp (aP (zA z)) p = p := if_pos h0
    rw [decide_eq_true h0] at e5 ⊢
    rw [if_neg (by decide), if_pos (by rw [hg]), if_pos (kO7 s2), e3, cI_v, if_pos rfl, if_pos (kO7 s3), e4, cI_v, if_pos rfl]
    exact e5
  · obtain ⟨h4, e4, s4⟩ := fin s3
    rw [if_neg h0] at e3
    refine ⟨h4, ?_, s4⟩
    have hg : ngp (aP (zA z)) p = gap (aP (zA z)) p := if_neg h0
    rw [decide_eq_false h0] at e4 ⊢
    rw [if_pos (by decide), if_pos (kO7 s2), e3, cI_v, if_pos (by rw [hg])]
    exact e4
theorem s_books_15 : ∀ (k p : Nat) (h : pH), p + k = 7 → Sg h z → ∃ h1, f_L_areBooks_15 0 (nI (bkF (aP (zA z)) p)) (nI (wtF (zA z) p)) (nI (stF (zA z) p)) (nI (wrF (zA z) p)) (nI (clB (aP (zA z)) p).toNat) (nI p) h = rI 1 h1 ∧ Sg h1 z
  | 0, p, h, hp, s => by
    obtain rfl : p = 7 := by omega
    have ha := s.2.1.1
    have hC : aC (zA z) < 2 := ha.2.2.2.2.2.1
    have hle : wrF (zA z) 7 < 2147483648 := by
      have := sm_le (fun p => if sl (aP (zA z)) p = 0 then 0 else wb (aP (zA z)) p (aF (zA z))) 7 (fun p => by
        show (if _ then _ else _) ≤ 7
        split
        · omega
        · exact cnt_le _ 7) 7
      show sm _ 7 < _
      omega
    have ho := ord_7 (P := aP (zA z)) (F := aF (zA z)) hC
    have hw : wrF (zA z) 7 = 2 * dis (aP (zA z)) (aF (zA z)) := wr_7 _ _
    rw [← hw] at ho
    rw [e_L_areBooks_15, if_pos (by decide)]
    by_cases h0 : wrF (zA z) 7 = 0
    · rw [if_pos (by rw [h0]; rfl)]
      rw [decide_eq_true h0, Bool.true_and] at ho
      cases c1 : clB (aP (zA z)) 7 with
      | true =>
        rw [c1, Bool.true_or] at ho
        rw [if_neg (by decide)]
        exact s_books_382 s ho
      | false =>
        rw [c1, Bool.false_or] at ho
        obtain ⟨h1, e1, s1⟩ := x_count 13 s
        obtain ⟨h2, e2, s2⟩ := s_books_382 s1 ho
        refine ⟨h2, ?_, s2⟩
        rw [if_pos (by decide), if_pos (kO7 s), e1, cI_v, ct_13]
        by_cases hc0 : aC (zA z) = 0
        · rw [if_pos (by rw [hc0]; rfl)]
          rw [decide_eq_true hc0] at e2
          exact e2
        · rw [if_neg (by rw [i_eq0 (by omega)]; exact hc0)]
          rw [decide_eq_false hc0] at e2
          exact e2
    · rw [if_neg (by rw [i_eq0 hle]; exact h0)]
      rw [decide_eq_false h0, Bool.false_and] at ho
      exact s_books_382 s ho
  | k + 1, p, h, hp, s => by
    have hp7 : p < 7 := by omega
    obtain ⟨h1, e1, s1⟩ := y_at0 hp7 s
    obtain ⟨h2, e2, s2⟩ := s_books_39 hp7 s1
    obtain ⟨h3, e3, s3⟩ := s_books_15 k (p + 1) h2 (by omega) s2
    refine ⟨h3, ?_, s3⟩
    rw [e_L_areBooks_15, if_neg (by rw [L7, i_le (by omega) (by omega)]; omega), if_pos (kO7 s), e1, cI_v]
    by_cases h0 : sl (aP (zA z)) p = 0
    · rw [decide_eq_true h0] at e2
      rw [if_pos h0, if_pos rfl]
      exact e2.trans e3
    · have := (s.2.1.1.2.2.2.2.2.2.1 (sl (aP (zA z)) p) (by omega) (s.2.1.1.1.2.1 p hp7)).1
      rw [decide_eq_false h0] at e2
      rw [if_neg h0, if_neg (fun e => by have h9 := i_nneg (show aL (zA z) (sl (aP (zA z)) p) < 2147483648 by omega); rw [e] at h9; exact absurd (by decide) h9)]
      exact e2.trans e3
theorem s_areBooks {h : pH} (s : Sg h z) : ∃ h1, f_L_areBooks 0 h = rI 1 h1 ∧ Sg h1 z := by
  rw [e_L_areBooks]
  exact s_books_15 7 0 h rfl s
end Books
