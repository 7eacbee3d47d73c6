/-! the reference's plans and what it tells of all words -/
def ansO (o : Option Nat) : Int32 := match o with
  | none => -4
  | some w => nI w
/-- moves (kind 0) or price from a word to order -/
noncomputable def lvK (b S : Nat) (O : Nat → Nat) (F C kd r : Nat) : Option Nat := lv (ED b S) (if kd = 0 then fun _ _ => 1 else pr b O) (gol b F C) r
theorem wyO_lvK {a : AS} {kd r : Nat} : wyO a kd r = lvK (aB a) (aS a) (aO a) (aF a) (aC a) kd r := rfl
theorem lv_ex {E : Nat → Nat → Option Nat} {p p' : Nat → Nat → Nat} {goal : Nat → Bool} {r w : Nat} (h : lv E p goal r = some w) : ∃ w', lv E p' goal r = some w' := by
  obtain ⟨n, hn⟩ := (lv_eq.1 h).1
  have key : ∀ n r w, Pt E p goal n r w → ∃ w', Pt E p' goal n r w' := by
    intro n
    induction n with
    | zero => exact fun r w h => ⟨0, h.1, rfl⟩
    | succ n ih =>
      intro r w h
      obtain ⟨m, r', w', a1, a2, a3, _⟩ := h
      obtain ⟨w2, h2⟩ := ih r' w' a3
      exact ⟨_, m, r', w2, a1, a2, h2, rfl⟩
  obtain ⟨w', h'⟩ := key n r w hn
  obtain ⟨w2, _, hl⟩ := lst_ex _ _ h'
  exact ⟨w2, lv_eq.2 hl⟩
theorem kd_bd {b S kd : Nat} {O : Nat → Nat} (hb : b < 6) (hO : ∀ s, 1 ≤ s → s ≤ b → 1 ≤ O s ∧ O s ≤ 9) : ∀ r m r', r < wds b → m < 19 → ED b S r m = some r' → 1 ≤ (if kd = 0 then fun _ _ => 1 else pr b O) r m ∧ (if kd = 0 then fun _ _ => 1 else pr b O) r m ≤ 9 := fun r m r' hr hm h => by
  by_cases hk : kd = 0
  · rw [if_pos hk]
    show 1 ≤ 1 ∧ 1 ≤ 9
    omega
  · rw [if_neg hk]
    exact pr_bd hb hO r m r' hr hm h
theorem lvK_lt {b S F C kd r u : Nat} {O : Nat → Nat} (hb : b < 6) (hO : ∀ s, 1 ≤ s → s ≤ b → 1 ≤ O s ∧ O s ≤ 9) (hr : r < wds b) (h : lvK b S O F C kd r = some u) : u ≤ 9 * 2519 := by
  have hw := wds_lt hb
  have h2 := lst_le (B := 9) (fun r m r' q1 q2 q3 => (kd_bd (S := S) (kd := kd) hb hO r m r' q1 q2 q3).1) (fun r m r' q1 q2 q3 => (kd_bd (S := S) (kd := kd) hb hO r m r' q1 q2 q3).2) (ED_lt hb) hr (lv_eq.1 h)
  omega
theorem lvK_0 {b S F C kd r : Nat} {O : Nat → Nat} (hb : b < 6) (hO : ∀ s, 1 ≤ s → s ≤ b → 1 ≤ O s ∧ O s ≤ 9) (hr : r < wds b) : lvK b S O F C kd r = some 0 ↔ gol b F C r = true :=
  ⟨fun h => (lst_zero hr (fun r m r' q1 q2 q3 => (kd_bd (S := S) (kd := kd) hb hO r m r' q1 q2 q3).1) (lv_eq.1 h)).1 rfl, fun h => lv_eq.2 (lst_goal h)⟩
section YPlans
variable {h : pH} {b S F C : Nat} {O : Nat → Nat} {g : Nat → Nat → Int32}
theorem sol_75 (hs : Sol g b S O F C) {r : Nat} (hr : r < wds b) : g 75 r = nI ((lvK b S O F C 0 r).getD 1000000) := hs.2.1 r hr
theorem sol_76 (hs : Sol g b S O F C) {r : Nat} (hr : r < wds b) : g 76 r = nI ((lvK b S O F C 1 r).getD 1000000) := hs.2.2 r hr
theorem s_Yfirst_2 {kd r : Nat} (w : WF h) (hb : b < 6) (hO : ∀ s, 1 ≤ s → s ≤ b → 1 ≤ O s ∧ O s ≤ 9) (hs : Sol g b S O F C) (hkd : kd < 2) (hr : r < wds b) : ∀ (k m : Nat), m + k = 19 → f_Y_first_2 63 (nI r) (nI kd) (nI m) (hS h g) = rI (ansO (nxL b S (lvK b S O F C kd) (if kd = 0 then fun _ _ => 1 else pr b O) r k m)) (hS h g)
  | 0, m, hm => by
    rw [e_Y_first_2, L19, if_pos ((i_le (by omega) (by omega)).2 (by omega))]
    rfl
  | k + 1, m, hm => by
    have hw := wds_lt hb
    have hm19 : m < 19 := by omega
    have ih := s_Yfirst_2 w hb hO hs hkd hr k (m + 1) (by omega)
    have hix : 19 * r + m < 47880 := by omega
    obtain ⟨n1, n2⟩ := hs.1 (19 * r + m) (by omega)
    rw [show (19 * r + m) / 19 = r by omega, show (19 * r + m) % 19 = m by omega] at n1 n2
    have h75 := sol_75 hs hr
    have h76 := sol_76 hs hr
    have hb0 := fun u q => lvK_lt (S := S) (F := F) (C := C) (kd := 0) (u := u) hb hO hr q
    have hb1 := fun u q => lvK_lt (S := S) (F := F) (C := C) (kd := 1) (u := u) hb hO hr q
    unfold nxL
    rw [e_Y_first_2, if_neg (by rw [L19]; exact fun e => absurd ((i_le (by omega) (by omega)).1 e) (by omega))]
    simp only [yR14 w, oo_v, L19, i_mul, i_add, yA73 w hix, n1, L1]
    have hno : nxB b S (lvK b S O F C kd) (if kd = 0 then fun _ _ => 1 else pr b O) r m = false → f_Y_first_2 63 (nI r) (nI kd) (nI (m + 1)) (hS h g) = rI (ansO (if nxB b S (lvK b S O F C kd) (if kd = 0 then fun _ _ => 1 else pr b O) r m = true then some m else nxL b S (lvK b S O F C kd) (if kd = 0 then fun _ _ => 1 else pr b O) r k (m + 1))) (hS h g) := fun hn => by
      rw [hn, if_neg (by decide)]
      exact ih
    have hyes : nxB b S (lvK b S O F C kd) (if kd = 0 then fun _ _ => 1 else pr b O) r m = true → rI (nI m) (hS h g) = rI (ansO (if nxB b S (lvK b S O F C kd) (if kd = 0 then fun _ _ => 1 else pr b O) r m = true then some m else nxL b S (lvK b S O F C kd) (if kd = 0 then fun _ _ => 1 else pr b O) r k (m + 1))) (hS h g) := fun hn => by
      rw [hn, if_pos rfl]
      rfl
    cases hE : ED b S r m with
    | none =>
      rw [if_pos (by decide)]
      exact hno (by unfold nxB; rw [hE])
    | some to =>
      have hto := ED_lt hb r m to hr hm19 hE
      have n3 := n2 to hE
      have hpb := pr_bd (S := S) hb hO r m to hr hm19 hE
      have t75 := sol_75 hs hto
      have t76 := sol_76 hs hto
      have tb0 := fun u q => lvK_lt (S := S) (F := F) (C := C) (kd := 0) (u := u) hb hO hto q
      have tb1 := fun u q => lvK_lt (S := S) (F := F) (C := C) (kd := 1) (u := u) hb hO hto q
      rw [if_neg (show ¬ vI (some to) < 0 from i_nneg (by omega))]
      simp only [yR16 w, yR17 w, yR15 w, oo_v, yA75 w (show r < 2520 by omega), yA76 w (show r < 2520 by omega), yA74 w hix, vI, yA75 w (show to < 2520 by omega), yA76 w (show to < 2520 by omega), h75, h76, t75, t76, n3, i_add]
      rw [show (1000000 : Int32) = nI 1000000 from rfl]
      cases hv : lvK b S O F C 0 r with
      | none =>
        rw [Option.getD_none, if_pos ((i_le (a := 1000000) (b := 1000000) (by omega) (by omega)).2 (Nat.le_refl _))]
        refine hno ?_
        have hvk : lvK b S O F C kd r = none := by
          cases hx : lvK b S O F C kd r with
          | none => rfl
          | some u =>
            obtain ⟨w', hw'⟩ := lv_ex (p' := if (0 : Nat) = 0 then fun _ _ => 1 else pr b O) hx
            rw [show lvK b S O F C 0 r = some w' from hw'] at hv
            cases hv
        unfold nxB
        rw [hE]
        dsimp only
        cases lvK b S O F C kd to with
        | none => rfl
        | some u => dsimp only; rw [hvk]; rfl
      | some v0 =>
        have hv0 := hb0 v0 hv
        rw [Option.getD_some, if_neg (fun e => absurd ((i_le (by omega) (by omega)).1 e) (show ¬ 1000000 ≤ v0 by omega))]
        by_cases hz : v0 = 0
        · rw [if_pos (by rw [hz]; decide)]
          rw [hz] at hv
          have hg := (lvK_0 hb hO hr).1 hv
          have hvk : lvK b S O F C kd r = some 0 := (lvK_0 hb hO hr).2 hg
          refine hno ?_
          unfold nxB
          rw [hE]
          dsimp only
          cases lvK b S O F C kd to with
          | none => rfl
          | some u =>
            dsimp only
            rw [hvk]
            refine decide_eq_false fun q => ?_
            have h1 := (kd_bd (S := S) (kd := kd) hb hO r m to hr hm19 hE).1
            have h2 := Option.some.inj q
            omega
        · rw [if_neg (fun e => absurd ((i_le0 (by omega)).1 e) hz)]
          rcases (show kd = 0 ∨ kd = 1 by omega) with rfl | rfl
          · rw [if_pos (by rfl)]
            cases ht : lvK b S O F C 0 to with
            | none =>
              rw [Option.getD_none, if_neg (fun e => absurd ((i_inj (by omega) (by omega)).1 e) (show ¬ 1000000 + 1 = v0 by omega)), if_pos True.intro]
              refine hno ?_
              unfold nxB
              rw [hE]
              dsimp only
              rw [ht]
            | some u =>
              have htu := tb0 u ht
              have hnb : nxB b S (lvK b S O F C 0) (if (0 : Nat) = 0 then fun _ _ => 1 else pr b O) r m = decide (v0 = 1 + u) := by
                unfold nxB
                rw [hE]
                dsimp only
                rw [ht]
                dsimp only
                rw [hv, if_pos rfl]
                simp only [Option.some.injEq]
              by_cases he : u + 1 = v0
              · rw [Option.getD_some, if_pos (by rw [he]), if_neg (by decide)]
                exact hyes (by rw [hnb]; exact decide_eq_true (by omega))
              · rw [Option.getD_some, if_neg (fun e => he ((i_inj (by omega) (by omega)).1 e)), if_pos True.intro]
                exact hno (by rw [hnb]; exact decide_eq_false (by omega))
          · rw [if_neg (by decide)]
            obtain ⟨v1, hv1⟩ := lv_ex (p' := if (1 : Nat) = 0 then fun _ _ => 1 else pr b O) hv
            have hv1 : lvK b S O F C 1 r = some v1 := hv1
            have hv1b := hb1 v1 hv1
            rw [hv1, Option.getD_some]
            cases ht : lvK b S O F C 1 to with
            | none =>
              rw [Option.getD_none, if_neg (fun e => absurd ((i_inj (by omega) (by omega)).1 e) (show ¬ 1000000 + pr b O r m = v1 by omega)), if_pos True.intro]
              refine hno ?_
              unfold nxB
              rw [hE]
              dsimp only
              rw [ht]
            | some u =>
              have htu := tb1 u ht
              have hnb : nxB b S (lvK b S O F C 1) (if (1 : Nat) = 0 then fun _ _ => 1 else pr b O) r m = decide (v1 = pr b O r m + u) := by
                unfold nxB
                rw [hE]
                dsimp only
                rw [ht]
                dsimp only
                rw [hv1, if_neg (by omega)]
                simp only [Option.some.injEq]
              by_cases he : u + pr b O r m = v1
              · rw [Option.getD_some, if_pos (by rw [he]), if_neg (by decide)]
                exact hyes (by rw [hnb]; exact decide_eq_true (by omega))
              · rw [Option.getD_some, if_neg (fun e => he ((i_inj (by omega) (by omega)).1 e)), if_pos True.intro]
                exact hno (by rw [hnb]; exact decide_eq_false (by omega))
theorem s_Yplan_26 {kd t : Nat} (w : WF h) (hb : b < 6) (hO : ∀ s, 1 ≤ s → s ≤ b → 1 ≤ O s ∧ O s ≤ 9) (hs : Sol g b S O F C) (hkd : kd < 2) (ht : t < 2147483648) : ∀ (j k r : Nat), k + j = t → r < wds b →
    f_Y_plan_26 63 (nI kd) (nI t) (nI r) (ansO (nxL b S (lvK b S O F C kd) (if kd = 0 then fun _ _ => 1 else pr b O) r 19 0)) (nI k) (hS h g) = rI (ansO (plL b S (lvK b S O F C kd) (if kd = 0 then fun _ _ => 1 else pr b O) (j + 1) r none)) (hS h g)
  | 0, k, r, hk, hr => by
    rw [e_Y_plan_26, if_pos ((i_le (by omega) (by omega)).2 (by omega))]
    unfold plL
    cases hx : nxL b S (lvK b S O F C kd) (if kd = 0 then fun _ _ => 1 else pr b O) r 19 0 with
    | none => rfl
    | some m =>
      obtain ⟨hm, hB⟩ := nxL_some 19 0 (by omega) hx
      obtain ⟨r', u, hE, -, -⟩ := nxB_some hB
      dsimp only
      rw [hE]
      rfl
  | j + 1, k, r, hk, hr => by
    have hw := wds_lt hb
    rw [e_Y_plan_26, if_neg (fun e => absurd ((i_le (by omega) (by omega)).1 e) (by omega))]
    unfold plL
    cases hx : nxL b S (lvK b S O F C kd) (if kd = 0 then fun _ _ => 1 else pr b O) r 19 0 with
    | none =>
      rw [if_pos (by rfl)]
    | some m =>
      obtain ⟨hm, hB⟩ := nxL_some 19 0 (by omega) hx
      obtain ⟨r', u, hE, -, -⟩ := nxB_some hB
      have hr' := ED_lt hb r m r' hr hm hE
      have ih := s_Yplan_26 w hb hO hs hkd ht j (k + 1) r' (by omega) hr'
      have hix : 19 * r + m < 47880 := by omega
      have n1 := (hs.1 (19 * r + m) (by omega)).1
      rw [show (19 * r + m) / 19 = r by omega, show (19 * r + m) % 19 = m by omega, hE] at n1
      rw [if_neg (show ¬ ansO (some m) = -4 from fun e => by have h1 := i_nneg (show m < 2147483648 by omega); rw [show nI m = (-4 : Int32) from e] at h1; exact absurd (by decide) h1)]
      rw [show ansO (some m) = nI m from rfl]
      simp only [yR14 w, oo_v, L19, i_mul, i_add, yA73 w hix, n1, vI, yK w, if_true, L1]
      rw [e_Y_first, L0, s_Yfirst_2 w hb hO hs hkd hr' 19 0 (by omega), cI_v, ih, hE]
      rfl
theorem s_Yleast_52 {o : Option Nat} (ho : ∀ u, o = some u → u < 1000000) : f_Y_least_52 (nI (o.getD 1000000)) h = rI (ansO o) h := by
  rw [e_Y_least_52, show (1000000 : Int32) = nI 1000000 from rfl]
  cases o with
  | none => rw [Option.getD_none, if_pos ((i_le (a := 1000000) (b := 1000000) (by omega) (by omega)).2 (Nat.le_refl _))]; rfl
  | some u =>
    have := ho u rfl
    rw [Option.getD_some, if_neg (fun e => absurd ((i_le (by omega) (by omega)).1 e) (show ¬ 1000000 ≤ u by omega))]
    rfl
end YPlans
