/-! doubles: a quotient of whole numbers; the mean as the reference tells it -/
theorem nn_bits {a : UInt64} (h : FP.Core.val64 a ≠ .nan) : a &&& 0x7fffffffffffffff ≤ 0x7ff0000000000000 := by
  rw [UInt64.le_iff_toNat_le, FP.Core.mask_toNat]
  have h1 : ¬ FP.Core.infBits FP.Core.b64 < FP.Core.mag FP.Core.b64 a.toNat := fun q => h ((FP.Core.decode_nan (f := FP.Core.b64) a.toNat).2 q)
  have h2 : FP.Core.mag FP.Core.b64 a.toNat = a.toNat % 2 ^ 63 := by
    unfold FP.Core.mag
    rw [FP.Core.half_b64]
  have h3 : FP.Core.infBits FP.Core.b64 = 9218868437227405312 := by decide
  rw [h2, h3] at h1
  show a.toNat % 2 ^ 63 ≤ 9218868437227405312
  omega
theorem dint_fin {i : Int} {a : UInt64} (h : FP.Core.DInt i a) : ∃ s c q, FP.Core.val64 a = .fin s c q ∧ (c = 0 ↔ i = 0) := by
  unfold FP.Core.DInt at h
  cases hv : FP.Core.val64 a with
  | nan => rw [hv] at h; exact h.elim
  | inf s => rw [hv] at h; exact h.elim
  | fin s c q =>
    rw [hv] at h
    exact ⟨s, c, q, rfl, FP.Core.whole_zero h⟩
theorem i2d_nn (x : Int32) : FP.Core.val64 (FP.i2d x) ≠ .nan := by
  obtain ⟨s, c, q, h, _⟩ := dint_fin (FP.Core.i2d_int x)
  show FP.Core.val64 (FP.Core.i2d x) ≠ .nan
  rw [h]
  exact nofun
theorem dmul_1 (x : Int32) : FP.dmul (FP.i2d x) FP.dconst1 = FP.i2d x := FP.Core.dmul_one (i2d_nn x)
theorem ddiv_nn {x y : Int32} (hy : y.toInt ≠ 0) : FP.Core.val64 (FP.ddiv (FP.i2d x) (FP.i2d y)) ≠ .nan := by
  obtain ⟨s, c, q, h1, _⟩ := dint_fin (FP.Core.i2d_int x)
  obtain ⟨t, d, r, h2, h3⟩ := dint_fin (FP.Core.i2d_int y)
  show FP.Core.val64 (FP.Core.ddiv (FP.Core.i2d x) (FP.Core.i2d y)) ≠ .nan
  rw [FP.Core.val64_ddiv, h1, h2]
  show (if d = 0 then (if c = 0 then FP.Core.Datum.nan else .inf (s != t)) else FP.Core.roundRatio FP.Core.b64 (s != t) c d (q - r)) ≠ .nan
  rw [if_neg (fun e => hy (h3.1 e))]
  exact FP.Core.roundRatio_ne_nan _ _ _ _ _
/-- the mean of so many -/
def mnA (s n : Nat) : UInt64 := FP.ddiv (FP.i2d (nI s)) (FP.i2d (nI n))
theorem mnA_nn {s n : Nat} (hn : n ≠ 0) (h2 : n < 2147483648) : mnA s n &&& 0x7fffffffffffffff ≤ 0x7ff0000000000000 := nn_bits (ddiv_nn (by rw [i_toInt h2]; omega))
theorem cnt_pos {g : Nat → Bool} {r : Nat} : ∀ n, r < n → g r = true → cnt g n ≠ 0 := fun n hr hg h0 => by
  have := (cnt_0 n).1 h0 r hr
  rw [hg] at this
  cases this
theorem gol_ex {b F C : Nat} (hb : b < 6) (hF : F < 2) (hC : C < 2) : ∃ r, r < wds b ∧ gol b F C r = true := by
  have h1 := wio hb hF hC
  have h2 : ∀ b, b < 6 → wds b / wy 0 b ≠ 0 := by decide
  have h3 : cnt (fun r => inOrd (wd b r) F C) (wds b) ≠ 0 := by
    rw [h1]
    by_cases hc : C = 1
    · rw [if_pos hc]; omega
    · rw [if_neg hc]; exact h2 b hb
  exact cnt_ex _ h3
section YMean
variable {h : pH} {b S F C : Nat} {O : Nat → Nat} {g : Nat → Nat → Int32}
theorem s_Ymean_14 (w : WF h) (hb : b < 6) (hF : F < 2) (hC : C < 2) (hO : ∀ s, 1 ≤ s → s ≤ b → 1 ≤ O s ∧ O s ≤ 9) (hB0 : g 63 10 = nI b) (hs : Sol g b S O F C) : ∀ (k r : Nat), r + k = wds b →
    f_Y_mean_14 63 (nI (cnt (fun r => (lvK b S O F C 0 r).isSome) r)) (nI (sm (fun r => (lvK b S O F C 0 r).getD 0) r)) (nI r) (hS h g) = rD (mnA (sm (fun r => (lvK b S O F C 0 r).getD 0) (wds b)) (cnt (fun r => (lvK b S O F C 0 r).isSome) (wds b))) (hS h g)
  | 0, r, hr => by
    have hw := wds_lt hb
    obtain rfl : r = wds b := by omega
    obtain ⟨r0, g1, g2⟩ := gol_ex hb hF hC
    have hne : cnt (fun r => (lvK b S O F C 0 r).isSome) (wds b) ≠ 0 := cnt_pos (r := r0) _ g1 (by
      rw [(lvK_0 (S := S) (kd := 0) hb hO g1).2 g2]
      rfl)
    have hle := cnt_le (fun r => (lvK b S O F C 0 r).isSome) (wds b)
    rw [e_Y_mean_14, if_pos (yK w), s_Ywords w hb hB0, cI_v, if_pos ((i_le (by omega) (by omega)).2 (Nat.le_refl _)), dmul_1, if_pos (nn_bits (i2d_nn _))]
    exact if_pos (mnA_nn (s := sm (fun r => (lvK b S O F C 0 r).getD 0) (wds b)) hne (by omega))
  | k + 1, r, hr => by
    have hw := wds_lt hb
    have ih := s_Ymean_14 w hb hF hC hO hB0 hs k (r + 1) (by omega)
    have h75 := sol_75 hs (show r < wds b by omega)
    have hb0 := fun u q => lvK_lt (S := S) (F := F) (C := C) (kd := 0) (u := u) hb hO (show r < wds b by omega) q
    have e0 : cnt (fun r => (lvK b S O F C 0 r).isSome) (r + 1) = cnt (fun r => (lvK b S O F C 0 r).isSome) r + ((lvK b S O F C 0 r).isSome).toNat := rfl
    have e1 : sm (fun r => (lvK b S O F C 0 r).getD 0) (r + 1) = sm (fun r => (lvK b S O F C 0 r).getD 0) r + (lvK b S O F C 0 r).getD 0 := rfl
    rw [e0, e1] at ih
    rw [e_Y_mean_14, if_pos (yK w), s_Ywords w hb hB0, cI_v, if_neg (fun e => absurd ((i_le (by omega) (by omega)).1 e) (by omega))]
    simp only [yR16 w, oo_v, yA75 w (show r < 2520 by omega), h75]
    rw [show (1000000 : Int32) = nI 1000000 from rfl]
    cases hv : lvK b S O F C 0 r with
    | none =>
      rw [hv] at ih
      rw [Option.getD_none, if_pos ((i_le (a := 1000000) (b := 1000000) (by omega) (by omega)).2 (Nat.le_refl _)), e_Y_mean_39]
      simp only [yR16 w, oo_v, yA75 w (show r < 2520 by omega), h75, hv]
      rw [show (1000000 : Int32) = nI 1000000 from rfl, Option.getD_none, if_pos ((i_le (a := 1000000) (b := 1000000) (by omega) (by omega)).2 (Nat.le_refl _)), L0, L1, i_add, i_add, i_add]
      exact ih
    | some u =>
      have hu := hb0 u hv
      rw [hv] at ih
      rw [Option.getD_some, if_neg (fun e => absurd ((i_le (by omega) (by omega)).1 e) (show ¬ 1000000 ≤ u by omega)), e_Y_mean_39]
      simp only [yR16 w, oo_v, yA75 w (show r < 2520 by omega), h75, hv]
      rw [show (1000000 : Int32) = nI 1000000 from rfl, Option.getD_some, if_neg (fun e => absurd ((i_le (by omega) (by omega)).1 e) (show ¬ 1000000 ≤ u by omega)), L1, i_add, i_add, i_add]
      exact ih
end YMean
