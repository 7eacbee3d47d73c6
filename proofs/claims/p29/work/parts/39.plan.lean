/-! the planned move: so many moves on along a way -/
def plL (b S : Nat) (v : Nat → Option Nat) (p : Nat → Nat → Nat) : Nat → Nat → Option Nat → Option Nat
  | 0, _, l => l
  | k + 1, r, _ => match nxL b S v p r 19 0 with
    | none => none
    | some m => match ED b S r m with
      | none => none
      | some r' => plL b S v p k r' (some m)
theorem nxL_some {b S r m' : Nat} {v : Nat → Option Nat} {p : Nat → Nat → Nat} : ∀ (k m : Nat), m + k = 19 → nxL b S v p r k m = some m' → m' < 19 ∧ nxB b S v p r m' = true
  | 0, _, _, e => nomatch e
  | k + 1, m, hm, e => by
    unfold nxL at e
    by_cases hx : nxB b S v p r m = true
    · rw [if_pos hx] at e
      cases e
      exact ⟨by omega, hx⟩
    · rw [if_neg hx] at e
      exact nxL_some k (m + 1) (by omega) e
theorem nxB_some {b S r m : Nat} {v : Nat → Option Nat} {p : Nat → Nat → Nat} (h : nxB b S v p r m = true) : ∃ r' u, ED b S r m = some r' ∧ v r' = some u ∧ v r = some (p r m + u) := by
  unfold nxB at h
  cases hE : ED b S r m with
  | none => rw [hE] at h; cases h
  | some r' =>
    rw [hE] at h
    dsimp only at h
    cases hv : v r' with
    | none => rw [hv] at h; cases h
    | some u =>
      rw [hv] at h
      exact ⟨r', u, rfl, hv, of_decide_eq_true h⟩
def plE (M t : Nat) (x : Option Nat) : Int32 := if M ≤ t then -1 else vI x
section Plan
variable {h : pH}
theorem s_planned_89 {t : Nat} {l : Option Nat} (ht : t < 2147483648) : f_S_plannedMove_89 (nI t) (vI l) h = rI (plE 2520 t l) h := by
  rw [e_S_plannedMove_89, show (2520 : Int32) = nI 2520 from rfl]
  have hm : (2520 : Nat) < 2147483648 := by omega
  generalize (2520 : Nat) = M at hm
  unfold plE
  by_cases h25 : M ≤ t
  · rw [if_pos ((i_le hm ht).2 h25), if_pos h25]
  · rw [if_neg (fun q => h25 ((i_le hm ht).1 q)), if_neg h25]
theorem s_planned_36 {a : AS} {k2 kd t : Nat} {g : Nat → Nat → Int32} {v : Nat → Option Nat} (w : WF h) (ha : AOK a) (hc : CAt g 1 a) (hG : GOK g (aB a)) (hk : rowW k2 3620) (hkd : kd < 3) (ht : t < 2147483648) (hD : ∀ r, r < wds (aB a) → g (k2 + 1) (fn (aB a) + r) = vI (v r)) (hv : ∀ r u, r < wds (aB a) → v r = some u → u ≤ 1000000) {M Q : Nat} (hM : M = 2520) (hQ : Q ≤ M) (hQt : Q ≤ t + 1) (hQe : Q = M ∨ Q = t + 1) : ∀ (k i r : Nat) (l : Option Nat), i + k = Q → r < wds (aB a) →
    f_S_plannedMove_36 47 1 (nI kd) (nI t) k2 (nI (fn (aB a) + r)) (vI l) (nI i) (hS h g) = rI (plE M t (plL (aB a) (aS a) v (if kd = 0 then fun _ _ => 1 else pr (aB a) (aO a)) k r l)) (hS h g)
  | 0, i, r, l, hi, hr => by
    have h89 := s_planned_89 (h := hS h g) (l := l) ht
    rw [← hM] at h89
    rw [e_S_plannedMove_36]
    by_cases h1 : t < i
    · rw [if_pos ((i_lt ht (show i < 2147483648 by omega)).2 h1)]
      exact h89
    · rw [if_neg (fun q => h1 ((i_lt ht (show i < 2147483648 by omega)).1 q)), if_pos (by rw [show (2520 : Int32) = nI 2520 from rfl, ← hM]; exact (i_le (by omega) (by omega)).2 (by omega))]
      exact h89
  | k + 1, i, r, l, hi, hr => by
    have hb := ha.2.1
    have hn := s_nextMove_3 w ha hc hG hk hkd hr hD hv 19 0 (by omega)
    rw [e_S_plannedMove_36, if_neg (fun q => absurd ((i_lt ht (show i < 2147483648 by omega)).1 q) (by omega)), if_neg (by rw [show (2520 : Int32) = nI 2520 from rfl, ← hM]; exact fun q => absurd ((i_le (by omega) (by omega)).1 q) (by omega))]
    simp only [kO_S, kO_W w K47, if_true]
    rw [e_S_nextMove, show (0 : Int32) = nI 0 from rfl, hn, cI_v]
    unfold plL
    cases hx : nxL (aB a) (aS a) v (if kd = 0 then fun _ _ => 1 else pr (aB a) (aO a)) r 19 0 with
    | none =>
      rw [if_pos (show vI none = -1 from rfl)]
      unfold plE
      dsimp only
      rw [show vI none = -1 from rfl, ite_self]
    | some m =>
      obtain ⟨hm, hB⟩ := nxL_some 19 0 (by omega) hx
      obtain ⟨r', u, hE, -, -⟩ := nxB_some hB
      have hr' := ED_lt hb r m r' hr hm hE
      have hT := ((ED_T hm).1 hE).1
      have ih := s_planned_36 w ha hc hG hk hkd ht hD hv hM hQ hQt hQe k (i + 1) r' (some m) (by omega) hr'
      have hbh := s_behind w hb hG hr hm
      rw [hT] at hbh
      rw [if_neg (fun q => absurd ((vI_m1 (x := some m) (fun w' e => by cases e; omega)).1 q) (by simp))]
      simp only [oo_v, hR_S, hR_W w K47 (by omega) (show R0 47 0 = some 36 from rfl), kO_S, kO_W w K36, if_true]
      rw [show vI (some m) = nI m from rfl, hbh, cI_v, L1, i_add, hE]
      exact ih
/-- the planned move, its way found first -/
theorem s_plannedMove {a : AS} {kd t : Nat} {f : Nat → Nat → Int32} (w : WF h) (ha : AOK a) (hc : CAt f 1 a) (hG : GOK f (aB a)) (hK : SC f) (hkd : kd < 2) (ht : t < 2147483648) {M Q : Nat} (hM : M = 2520) (hQ : Q ≤ M) (hQt : Q ≤ t + 1) (hQe : Q = M ∨ Q = t + 1) :
    ∃ g, f_S_plannedMove 47 1 (nI kd) (nI t) (hS h f) = rI (plE M t (plL (aB a) (aS a) (wyO a kd) (if kd = 0 then fun _ _ => 1 else pr (aB a) (aO a)) Q (rk (aB a) (aP a)) none)) (hS h g) ∧ SC g ∧ Off f g sRows ∧ ∀ j, j ≠ 4 → j ≠ 5 → j ≠ 6 → g 47 j = f 47 j := by
  have hb := ha.2.1
  obtain ⟨g, k, e1, e2, e3, e4⟩ := s_findWays w ha hc hG hK (show kd < 3 by omega)
  have hc' := CAt_off hc e4.2.1 (by simp [sRows]) (by simp [sRows]) (by simp [sRows])
  have hG' := GOK_of hG e4.2.1 (by simp [sRows])
  refine ⟨g, ?_, e4⟩
  have h11 : f_S_plannedMove_11 47 1 (nI kd) (nI t) 47 1 (nI kd) (hS h f) = rI (plE M t (plL (aB a) (aS a) (wyO a kd) (if kd = 0 then fun _ _ => 1 else pr (aB a) (aO a)) Q (rk (aB a) (aP a)) none)) (hS h g) := by
    rw [e_S_plannedMove_11]
    simp only [kO_S, kO_W w K47, kO_W w K1, if_true, e1, cR_v, oo_v, hI_W (WF_S w) K1, hS_2, hc'.2.1, s_firstNode (show aB a < 7 by omega), cI_v]
    rw [s_rankOfNow (WF_S w) hc' ha, cI_v, i_add, L0]
    exact s_planned_36 w ha hc' hG' e2 (by omega) ht e3 (fun r u hr hu => by have := wyO_lt ha hr hu; omega) hM hQ hQt hQe Q 0 (rk (aB a) (aP a)) none (by omega) (rk_lt hb ha.1)
  rw [e_S_plannedMove]
  by_cases hk0 : kd = 0
  · rw [if_pos (by rw [i_eq0 (by omega)]; exact hk0)]
    rw [show (0 : Int32) = nI kd by rw [hk0]; rfl]
    exact h11
  · rw [if_neg (by rw [i_eq0 (by omega)]; exact hk0)]
    rw [show (1 : Int32) = nI kd by rw [show kd = 1 by omega]; rfl]
    exact h11
end Plan
/-- a plan of k moves lies on a least way -/
theorem plL_pt {b S : Nat} {p : Nat → Nat → Nat} {goal : Nat → Bool} : ∀ (k r w : Nat) (l : Option Nat), Lst (ED b S) p goal r w → plL b S (lv (ED b S) p goal) p k r l ≠ none → ∃ n, k ≤ n ∧ Pt (ED b S) p goal n r w
  | 0, r, w, _, hl, _ => by
    obtain ⟨n, hn⟩ := hl.1
    exact ⟨n, Nat.zero_le _, hn⟩
  | k + 1, r, w, l, hl, hne => by
    unfold plL at hne
    cases hx : nxL b S (lv (ED b S) p goal) p r 19 0 with
    | none => rw [hx] at hne; exact absurd rfl hne
    | some m =>
      obtain ⟨hm, hB⟩ := nxL_some 19 0 (by omega) hx
      obtain ⟨r', u, hE, hu, hr⟩ := nxB_some hB
      rw [hx] at hne
      dsimp only at hne
      rw [hE] at hne
      obtain ⟨n, hn, hp⟩ := plL_pt k r' u (some m) (lv_eq.1 hu) hne
      have hw := lst_uniq hl (lv_eq.1 hr)
      exact ⟨n + 1, by omega, m, r', u, hm, hE, hp, hw⟩
theorem plL_none {b S k r : Nat} {p : Nat → Nat → Nat} {goal : Nat → Bool} {l : Option Nat} (hb : b < 6) (hp : ∀ r m r', r < wds b → m < 19 → ED b S r m = some r' → 1 ≤ p r m) (hr : r < wds b) (hk : 2520 ≤ k) : plL b S (lv (ED b S) p goal) p k r l = none := by
  cases hx : plL b S (lv (ED b S) p goal) p k r l with
  | none => rfl
  | some m =>
    exfalso
    have hw := wds_lt hb
    have hne : plL b S (lv (ED b S) p goal) p k r l ≠ none := by rw [hx]; exact nofun
    have hv : ∃ w, Lst (ED b S) p goal r w := by
      obtain ⟨k', rfl⟩ : ∃ k', k = k' + 1 := ⟨k - 1, by omega⟩
      unfold plL at hne
      cases hy : nxL b S (lv (ED b S) p goal) p r 19 0 with
      | none => rw [hy] at hne; exact absurd rfl hne
      | some m =>
        obtain ⟨hm, hB⟩ := nxL_some 19 0 (by omega) hy
        obtain ⟨r', u, hE, hu, hr⟩ := nxB_some hB
        exact ⟨_, lv_eq.1 hr⟩
    obtain ⟨w, hl⟩ := hv
    obtain ⟨n, hn, hpt⟩ := plL_pt k r w l hl hne
    have := lst_short hp (ED_lt hb) hr hpt hl
    omega
