/-! how a program comes round: words and what was paid, round by round -/
def gr (S : Nat) (o l : Nat → Nat) : Nat → Nat → Nat → Nat → Nat × Nat
  | 0, _, P, c => (P, c)
  | k + 1, i, P, c => if rsn P S (mvAt l i) = 0 then gr S o l k (i + 1) (aft P (mvAt l i)) (c + prc o P (mvAt l i)) else gr S o l k (i + 1) P c
theorem gr_c {S : Nat} {o l : Nat → Nat} : ∀ (k i P c : Nat), gr S o l k i P c = ((gr S o l k i P 0).1, c + (gr S o l k i P 0).2)
  | 0, _, _, _ => rfl
  | k + 1, i, P, c => by
    simp only [gr]
    by_cases h : rsn P S (mvAt l i) = 0
    · rw [if_pos h, if_pos h, gr_c k (i + 1) _ (c + _), gr_c k (i + 1) _ (0 + _)]
      simp only [Prod.mk.injEq, true_and]
      omega
    · rw [if_neg h, if_neg h]
      exact gr_c k (i + 1) P c
/-- word and paid sum ahead of round j -/
def itR (S : Nat) (o l : Nat → Nat) (t P : Nat) : Nat → Nat × Nat
  | 0 => (P, 0)
  | j + 1 => gr S o l t 0 (itR S o l t P j).1 (itR S o l t P j).2
theorem gr_vw {b S : Nat} {o l : Nat → Nat} (hb : b < 6) (ho : ∀ s, 1 ≤ s → s ≤ b → 1 ≤ o s ∧ o s ≤ 9) : ∀ (k i P c : Nat), VW b P → (∀ j, i ≤ j → j < i + k → mvAt l j < 19) → VW b (gr S o l k i P c).1 ∧ (gr S o l k i P c).2 ≤ c + 9 * k
  | 0, _, _, _, hv, _ => ⟨hv, Nat.le_refl _⟩
  | k + 1, i, P, c, hv, hm => by
    have hm19 := hm i (Nat.le_refl _) (by omega)
    simp only [gr]
    by_cases h : rsn P S (mvAt l i) = 0
    · rw [if_pos h]
      have h1 := gr_vw (S := S) hb ho k (i + 1) (aft P (mvAt l i)) (c + prc o P (mvAt l i)) (aft_VW hb hv hm19 h) (fun j h1 h2 => hm j (by omega) (by omega))
      have h2 := prc_bd hv ho hm19 (rsn_0 h)
      exact ⟨h1.1, by omega⟩
    · rw [if_neg h]
      have h1 := gr_vw (S := S) hb ho k (i + 1) P c hv (fun j h1 h2 => hm j (by omega) (by omega))
      exact ⟨h1.1, by omega⟩
theorem itR_ok {b S t P : Nat} {o l : Nat → Nat} (hb : b < 6) (ho : ∀ s, 1 ≤ s → s ≤ b → 1 ≤ o s ∧ o s ≤ 9) (hv : VW b P) (hm : ∀ j, j < t → mvAt l j < 19) : ∀ j, VW b (itR S o l t P j).1 ∧ (itR S o l t P j).2 ≤ 9 * t * j
  | 0 => ⟨hv, Nat.le_refl _⟩
  | j + 1 => by
    obtain ⟨h1, h2⟩ := itR_ok hb ho hv hm j
    have h3 := gr_vw (S := S) hb ho t 0 (itR S o l t P j).1 (itR S o l t P j).2 h1 (fun i _ hi => hm i (by omega))
    refine ⟨h3.1, ?_⟩
    rw [Nat.mul_succ]
    exact Nat.le_trans h3.2 (by omega)
theorem itR_mono {b S t P : Nat} {o l : Nat → Nat} : ∀ {j k : Nat}, j ≤ k → (itR S o l t P j).2 ≤ (itR S o l t P k).2 := by
  intro j k hjk
  induction hjk with
  | refl => exact Nat.le_refl _
  | step _ ih =>
    refine Nat.le_trans ih ?_
    show _ ≤ (gr S o l t 0 _ _).2
    rw [gr_c]
    exact Nat.le_add_right _ _
/-- the word ahead of round j comes again, that of round i was the same; none came again before -/
def RD (w : Nat → Nat) (i j : Nat) : Prop := i < j ∧ w i = w j ∧ ∀ a c, a < c → c < j → w a ≠ w c
theorem RD_uniq {w : Nat → Nat} {i j i' j' : Nat} (h : RD w i j) (h' : RD w i' j') : i = i' ∧ j = j' := by
  obtain ⟨h1, h2, h3⟩ := h
  obtain ⟨k1, k2, k3⟩ := h'
  have hj : j = j' := by
    rcases Nat.lt_trichotomy j j' with q | q | q
    · exact absurd h2 (k3 i j h1 q)
    · exact q
    · exact absurd k2 (h3 i' j' k1 q)
  subst hj
  refine ⟨?_, rfl⟩
  rcases Nat.lt_trichotomy i i' with q | q | q
  · exact absurd (h2.trans k2.symm) (h3 i i' q k1)
  · exact q
  · exact absurd (k2.trans h2.symm) (h3 i' i q h1)
def mnD (g : Nat → Nat) : Nat → Nat
  | 0 => g 0
  | j + 1 => min (mnD g j) (g j)
theorem mnD_le (g : Nat → Nat) (c : Nat) (hg : ∀ i, g i ≤ c) : ∀ j, mnD g j ≤ c
  | 0 => hg 0
  | j + 1 => Nat.le_trans (Nat.min_le_left _ _) (mnD_le g c hg j)
theorem dis_le (P f : Nat) : dis P f ≤ 100 := by
  unfold dis
  have := sm_le (fun p => wb P p f) 7 (fun p => cnt_le _ 7) 7
  omega
theorem K58 : K0[58]? = some (.inl 3) := rfl
theorem RW59 : rowW 59 2520 := by unfold rowW; decide
theorem RW61 : rowW 61 2520 := by unfold rowW; decide
section Rounds
variable {h : pH} {a : AS} {n : Nat} {l : Nat → Nat}
theorem s_goRound_2 (w : WF h) (ha : AOK a) (hc : CAt h.2.2 1 a) (hp : PAt h.2.2 n l) (hf : pfR n l = -4) : ∀ (k i : Nat) (g : Nat → Nat → Int32) (P c : Nat), i + k = n / 2 → VW (aB a) P → g 58 2 = nI P → g 58 3 = nI c → c + 9 * k < 1000000000 → Off h.2.2 g [58, 60, 62] →
    ∃ g', f_D_goRound_2 58 1 33 (nI i) (hS h g) = rV (hS h g') ∧ g' 58 2 = nI (gr (aS a) (aO a) l k i P c).1 ∧ g' 58 3 = nI (gr (aS a) (aO a) l k i P c).2 ∧ ∀ k j, ¬ (k = 58 ∧ (j = 2 ∨ j = 3)) → g' k j = g k j
  | 0, i, g, P, c, hi, hv, h2, h3, hc9, ho => by
    have hn := hp.2.1
    have hp' : PAt g n l := by unfold PAt at *; rw [ho 33 (by simp), ho 35 (by simp)]; exact hp
    refine ⟨g, ?_, h2, h3, fun _ _ _ => rfl⟩
    rw [e_D_goRound_2]
    simp only [kO_S, kO_W w K33, if_true, s_steps (WF_S w) hp', cI_v]
    rw [if_pos ((i_le (by omega) (by omega)).2 (by omega))]
  | k + 1, i, g, P, c, hi, hv, h2, h3, hc9, ho => by
    have hn := hp.2.1
    have hb := ha.2.1
    have hSl : aS a < 64 := ha.2.2.1
    have ho9 : ∀ s, 1 ≤ s → s ≤ aB a → 1 ≤ aO a s ∧ aO a s ≤ 9 := fun s s1 s2 => (ha.2.2.2.2.2.2.1 s s1 s2).2
    have hp' : PAt g n l := by unfold PAt at *; rw [ho 33 (by simp), ho 35 (by simp)]; exact hp
    have hc' := CAt_off hc ho (by simp) (by simp) (by simp)
    have hm19 := (mvAt_lt hn hf (show i < n / 2 by omega)).1
    rw [e_D_goRound_2]
    simp only [kO_S, kO_W w K33, if_true, s_steps (WF_S w) hp', cI_v]
    rw [if_neg (fun q => absurd ((i_le (by omega) (by omega)).1 q) (by omega))]
    simp only [s_moveAt (WF_S w) hp' hf (show i < n / 2 by omega), cI_v, hI_W (WF_S w) K58, hI_W (WF_S w) K1, oo_v, hS_2, h2, hc'.2.2.2.2.1, s_reason hv.1 (show aS a < 2147483648 by omega) hm19]
    simp only [gr]
    have hrl := rsn_lt P (aS a) (mvAt l i)
    by_cases hr : rsn P (aS a) (mvAt l i) = 0
    · rw [if_pos ((i_eq0 (by omega)).2 hr), if_pos hr]
      have hpb := prc_bd hv ho9 hm19 (rsn_0 hr)
      simp only [hR_S, hR_W w K1 (by omega) (show R0 1 3 = some 4 from rfl), oo_v, h3]
      rw [s_price (WF_S w) RW4 hb hv (fun s s1 s2 => ⟨hc'.2.2.2.1 s s1 s2, (ho9 s s1 s2).2⟩) hm19 (rsn_0 hr), cI_v]
      simp only [kO_S, kO_W w K58, if_true, sI_S, hS_S, hS_2, hI_W (WF_S w) K58, oo_v, i_add, L1]
      rw [show s2 g 58 3 (nI (c + prc (aO a) P (mvAt l i))) 58 2 = nI P by simp [s2_at, h2]]
      rw [s_after hv.1 hm19 hr, cI_v]
      simp only [kO_S, kO_W w K58, if_true, sI_S, hS_S, hS_2]
      obtain ⟨g', e1, e2, e3, e4⟩ := s_goRound_2 w ha hc hp hf k (i + 1) (s2 (s2 g 58 3 (nI (c + prc (aO a) P (mvAt l i)))) 58 2 (nI (aft P (mvAt l i)))) (aft P (mvAt l i)) (c + prc (aO a) P (mvAt l i)) (by omega) (aft_VW hb hv hm19 hr) (by simp [s2_at]) (by simp [s2_at]) (by omega) (Off.tr ho (Off.tr (s2_off (by simp)) (s2_off (by simp))))
      refine ⟨g', e1, e2, e3, fun k' j' hkj => ?_⟩
      rw [e4 k' j' hkj, s2_at, s2_at]
      by_cases hk : k' = 58
      · subst hk
        have h5 : j' ≠ 2 ∧ j' ≠ 3 := ⟨fun q => hkj ⟨rfl, Or.inl q⟩, fun q => hkj ⟨rfl, Or.inr q⟩⟩
        rw [if_pos rfl, if_neg h5.1, if_pos rfl, if_neg h5.2]
      · rw [if_neg hk, if_neg hk]
    · rw [if_neg (fun q => hr ((i_eq0 (by omega)).1 q)), if_neg hr, L1, i_add]
      exact s_goRound_2 w ha hc hp hf k (i + 1) g P c (by omega) hv h2 h3 (by omega) ho
theorem s_start_2 {f : Nat → Nat → Int32} (w : WF h) (ha : AOK a) (hc : CAt f 1 a) : ∀ (k r : Nat) (g : Nat → Nat → Int32), r + k = wds (aB a) → (∀ r', r' < r → g 60 r' = -1) → Off f g [60] →
    ∃ g', f_D_start_2 58 1 (nI r) (hS h g) = rV (hS h g') ∧ (∀ r', r' < wds (aB a) → g' 60 r' = -1) ∧ g' 58 2 = nI (aP a) ∧ g' 58 3 = nI 0 ∧ g' 58 7 = nI (dis (aP a) (aF a)) ∧ Off f g' [58, 60]
  | 0, r, g, hr, h1, ho => by
    have hb := ha.2.1
    have hw25 := wds_lt hb
    have hc' := CAt_off hc ho (by simp) (by simp) (by simp)
    refine ⟨s2 (s2 (s2 g 58 2 (nI (aP a))) 58 3 (nI 0)) 58 7 (nI (dis (aP a) (aF a))), ?_, fun r' hr' => ?_, by simp [s2_at], by simp [s2_at], by simp [s2_at], Off.tr (Off.mono ho (by simp)) (Off.tr (s2_off (by simp)) (Off.tr (s2_off (by simp)) (s2_off (by simp))))⟩
    · rw [e_D_start_2]
      simp only [hI_W (WF_S w) K1, oo_v, hS_2, hc'.2.1, s_wordsOf hb, cI_v]
      rw [if_pos ((i_le (by omega) (by omega)).2 (by omega))]
      simp only [kO_S, kO_I, kO_W w K58, if_true, sI_S, hS_S, hS_2, hI_W (WF_S w) K58, hI_W (WF_S w) K1, oo_v]
      rw [show s2 (s2 g 58 2 (g 1 0)) 58 3 0 58 2 = nI (aP a) by simp [s2_at, hc'.1], show s2 (s2 g 58 2 (g 1 0)) 58 3 0 1 5 = nI (aF a) by simp [s2_at, hc'.2.2.2.2.2.1], hc'.1, s_disorder ha.1.1 ha.2.2.2.2.1, cI_v]
      simp only [kO_S, kO_W w K58, if_true, sI_S, hS_S, hS_2]
      rfl
    · rw [show s2 (s2 (s2 g 58 2 (nI (aP a))) 58 3 (nI 0)) 58 7 (nI (dis (aP a) (aF a))) 60 r' = g 60 r' by simp [s2_at]]
      exact h1 r' (by omega)
  | k + 1, r, g, hr, h1, ho => by
    have hb := ha.2.1
    have hw25 := wds_lt hb
    have hc' := CAt_off hc ho (by simp) (by simp) (by simp)
    rw [e_D_start_2]
    simp only [hI_W (WF_S w) K1, oo_v, hS_2, hc'.2.1, s_wordsOf hb, cI_v]
    rw [if_neg (fun q => absurd ((i_le (by omega) (by omega)).1 q) (by omega))]
    simp only [oo_v, hR_S, hR_W w K58 (by omega) (show R0 58 0 = some 59 from rfl), kO_S, kO_W w RW59.1, if_true, s_put (WF_S w) RW59 (show r < 2520 by omega), cV_v, hS_S, hS_2, L1, i_add]
    refine s_start_2 w ha hc k (r + 1) _ (by omega) (fun r' hr' => ?_) (Off.tr ho (s2_off (by simp)))
    by_cases hrr : r' = r
    · subst hrr
      simp [s2_at]
      rfl
    · have := h1 r' (by omega)
      simp [s2_at, hrr, this]
/-- ahead of round j: what was looked at -/
def Rn (b F : Nat) (W : Nat → Nat × Nat) (f : Nat → Nat → Int32) (j : Nat) : Prop :=
  f 58 2 = nI (W j).1 ∧ f 58 3 = nI (W j).2 ∧ f 58 7 = nI (mnD (fun i => dis (W i).1 F) j) ∧
  (∀ i, i < j → f 60 (rk b (W i).1) = nI i ∧ f 62 (rk b (W i).1) = nI (W i).2) ∧
  (∀ r, r < wds b → (∀ i, i < j → rk b (W i).1 ≠ r) → f 60 r = -1) ∧
  ∀ a c, a < c → c < j → (W a).1 ≠ (W c).1
theorem rk_inj {b P Q : Nat} (hb : b < 6) (hP : VW b P) (hQ : VW b Q) (h : rk b P = rk b Q) : P = Q := by
  rw [← wd_rk hb hP, ← wd_rk hb hQ, h]
theorem Rn_le {b F : Nat} {W : Nat → Nat × Nat} {f : Nat → Nat → Int32} {j : Nat} (hb : b < 6) (hW : ∀ j, VW b (W j).1) (h : Rn b F W f j) : j ≤ wds b := by
  rcases Nat.eq_zero_or_pos j with e | e
  · omega
  · have := pigeon (wds b) (j - 1) (fun i => rk b (W i).1) (fun i _ => rk_lt hb (hW i)) (fun i k hik hk q => h.2.2.2.2.2 i k hik (by omega) (rk_inj hb (hW i) (hW k) q))
    omega
theorem s_follow_10 (w : WF h) (ha : AOK a) (hc : CAt h.2.2 1 a) (hp : PAt h.2.2 n l) (hf : pfR n l = -4) : ∀ (k j : Nat) (g : Nat → Nat → Int32), j + k = wds (aB a) → Rn (aB a) (aF a) (itR (aS a) (aO a) l (n / 2) (aP a)) g j → Off h.2.2 g [58, 60, 62] →
    ∃ g' i j', f_D_follow_10 58 1 33 0 (nI j) (hS h g) = rV (hS h g') ∧ RD (fun j => (itR (aS a) (aO a) l (n / 2) (aP a) j).1) i j' ∧ j' ≤ 2520 ∧ g' 58 4 = nI i ∧ g' 58 5 = nI (j' - i) ∧ g' 58 6 = nI ((itR (aS a) (aO a) l (n / 2) (aP a) j').2 - (itR (aS a) (aO a) l (n / 2) (aP a) i).2) ∧ g' 58 7 = nI (mnD (fun i => dis (itR (aS a) (aO a) l (n / 2) (aP a) i).1 (aF a)) j') ∧ Off h.2.2 g' [58, 60, 62] := by
  have hb := ha.2.1
  have hn := hp.2.1
  have hw25 := wds_lt hb
  have ho9 : ∀ s, 1 ≤ s → s ≤ aB a → 1 ≤ aO a s ∧ aO a s ≤ 9 := fun s s1 s2 => (ha.2.2.2.2.2.2.1 s s1 s2).2
  have hW := itR_ok (S := aS a) (t := n / 2) (P := aP a) hb ho9 ha.1 (fun j hj => (mvAt_lt hn hf hj).1)
  have hpd : ∀ j, j ≤ 2520 → (itR (aS a) (aO a) l (n / 2) (aP a) j).2 ≤ 9 * 30 * 2520 := fun j hj => Nat.le_trans (hW j).2 (Nat.mul_le_mul (by omega) hj)
  have seen : ∀ (j : Nat) (g : Nat → Nat → Int32), j ≤ wds (aB a) → Rn (aB a) (aF a) (itR (aS a) (aO a) l (n / 2) (aP a)) g j → Off h.2.2 g [58, 60, 62] → (∃ i, i < j ∧ rk (aB a) (itR (aS a) (aO a) l (n / 2) (aP a) i).1 = rk (aB a) (itR (aS a) (aO a) l (n / 2) (aP a) j).1) →
      ∃ g' i j', f_D_follow_10 58 1 33 0 (nI j) (hS h g) = rV (hS h g') ∧ RD (fun j => (itR (aS a) (aO a) l (n / 2) (aP a) j).1) i j' ∧ j' ≤ 2520 ∧ g' 58 4 = nI i ∧ g' 58 5 = nI (j' - i) ∧ g' 58 6 = nI ((itR (aS a) (aO a) l (n / 2) (aP a) j').2 - (itR (aS a) (aO a) l (n / 2) (aP a) i).2) ∧ g' 58 7 = nI (mnD (fun i => dis (itR (aS a) (aO a) l (n / 2) (aP a) i).1 (aF a)) j') ∧ Off h.2.2 g' [58, 60, 62] := by
    intro j g hj hR ho hi
    obtain ⟨i, hij, hr⟩ := hi
    obtain ⟨r1, r2, r3, r4, r5, r6⟩ := hR
    have hc' := CAt_off hc ho (by simp) (by simp) (by simp)
    have hrl := rk_lt hb (hW j).1
    obtain ⟨q1, q2⟩ := r4 i hij
    rw [hr] at q1 q2
    have hpi := itR_mono (b := aB a) (S := aS a) (o := aO a) (l := l) (t := n / 2) (P := aP a) (show i ≤ j by omega)
    have hpj := hpd j (by omega)
    refine ⟨s2 (s2 (s2 g 58 4 (nI i)) 58 5 (nI (j - i))) 58 6 (nI ((itR (aS a) (aO a) l (n / 2) (aP a) j).2 - (itR (aS a) (aO a) l (n / 2) (aP a) i).2)), i, j, ?_, ⟨hij, rk_inj hb (hW i).1 (hW j).1 hr, r6⟩, by omega, by simp [s2_at], by simp [s2_at], by simp [s2_at], by simp [s2_at, r3], Off.tr ho (Off.tr (s2_off (by simp)) (Off.tr (s2_off (by simp)) (s2_off (by simp))))⟩
    rw [e_D_follow_10, if_pos rfl, if_neg (by rw [show (2520 : Int32) = nI 2520 from rfl]; exact fun q => absurd ((i_lt (by omega) (by omega)).1 q) (by omega))]
    simp only [hI_W (WF_S w) K58, hI_W (WF_S w) K1, oo_v, hS_2, r1, hc'.2.1, s_rank hb (hW j).1, cI_v, hR_S, hR_W w K58 (by omega) (show R0 58 0 = some 59 from rfl), kO_S, kO_W w RW59.1, if_true, s_get (WF_S w) RW59 (show rk (aB a) (itR (aS a) (aO a) l (n / 2) (aP a) j).1 < 2520 by omega)]
    rw [show g (59 + 1) (rk (aB a) (itR (aS a) (aO a) l (n / 2) (aP a) j).1) = _ from q1, if_neg (fun q => by have h1 := i_nneg (show i < 2147483648 by omega); rw [q] at h1; exact absurd (by decide) h1), e_D_follow_53, if_neg (by decide)]
    simp only [oo_v, hR_S, hR_W w K58 (by omega) (show R0 58 0 = some 59 from rfl), kO_S, kO_W w RW59.1, if_true, s_get (WF_S w) RW59 (show rk (aB a) (itR (aS a) (aO a) l (n / 2) (aP a) j).1 < 2520 by omega), cI_v, hS_2, kO_W w K58, sI_S, hS_S, hI_W (WF_S w) K58]
    rw [show g (59 + 1) (rk (aB a) (itR (aS a) (aO a) l (n / 2) (aP a) j).1) = _ from q1]
    rw [show s2 g 58 4 (nI i) 58 4 = nI i by simp [s2_at], i_sub (by omega)]
    simp only [oo_v, hR_S, hR_W w K58 (by omega) (show R0 58 1 = some 61 from rfl), kO_S, kO_W w RW61.1, if_true, s_get (WF_S w) RW61 (show rk (aB a) (itR (aS a) (aO a) l (n / 2) (aP a) j).1 < 2520 by omega), cI_v, hS_2]
    rw [show s2 (s2 g 58 4 (nI i)) 58 5 (nI (j - i)) 58 3 = nI (itR (aS a) (aO a) l (n / 2) (aP a) j).2 by simp [s2_at, r2], show s2 (s2 g 58 4 (nI i)) 58 5 (nI (j - i)) (61 + 1) (rk (aB a) (itR (aS a) (aO a) l (n / 2) (aP a) j).1) = nI (itR (aS a) (aO a) l (n / 2) (aP a) i).2 by simp [s2_at, q2], i_sub hpi]
    simp only [kO_S, kO_W w K58, if_true]
    rw [e_D_follow_10, if_neg (by decide)]
    rfl
  intro k
  induction k with
  | zero =>
    intro j g hk hR ho
    refine seen j g (by omega) hR ho (Classical.byContradiction fun hno => ?_)
    have := pigeon (wds (aB a)) j (fun i => rk (aB a) (itR (aS a) (aO a) l (n / 2) (aP a) i).1) (fun i _ => rk_lt hb (hW i).1) (fun i c hic hc q => by
      by_cases hcj : c = j
      · subst hcj
        exact hno ⟨i, hic, q⟩
      · exact hR.2.2.2.2.2 i c hic (by omega) (rk_inj hb (hW i).1 (hW c).1 q))
    omega
  | succ k ih =>
    intro j g hk hR ho
    by_cases hse : ∃ i, i < j ∧ rk (aB a) (itR (aS a) (aO a) l (n / 2) (aP a) i).1 = rk (aB a) (itR (aS a) (aO a) l (n / 2) (aP a) j).1
    · exact seen j g (by omega) hR ho hse
    · obtain ⟨r1, r2, r3, r4, r5, r6⟩ := hR
      have hc' := CAt_off hc ho (by simp) (by simp) (by simp)
      have hrl := rk_lt hb (hW j).1
      have hno : ∀ i, i < j → rk (aB a) (itR (aS a) (aO a) l (n / 2) (aP a) i).1 ≠ rk (aB a) (itR (aS a) (aO a) l (n / 2) (aP a) j).1 := fun i hi q => hse ⟨i, hi, q⟩
      have q1 := r5 _ hrl hno
      have hpj := hpd j (by omega)
      have hd := dis_le (itR (aS a) (aO a) l (n / 2) (aP a) j).1 (aF a)
      have hmn := mnD_le (fun i => dis (itR (aS a) (aO a) l (n / 2) (aP a) i).1 (aF a)) 100 (fun i => dis_le _ _) j
      generalize hg2 : s2 (s2 (s2 g 60 (rk (aB a) (itR (aS a) (aO a) l (n / 2) (aP a) j).1) (nI j)) 62 (rk (aB a) (itR (aS a) (aO a) l (n / 2) (aP a) j).1) (nI (itR (aS a) (aO a) l (n / 2) (aP a) j).2)) 58 7 (nI (mnD (fun i => dis (itR (aS a) (aO a) l (n / 2) (aP a) i).1 (aF a)) (j + 1))) = g2
      have ho2 : Off h.2.2 g2 [58, 60, 62] := by rw [← hg2]; exact Off.tr ho (Off.tr (s2_off (by simp)) (Off.tr (s2_off (by simp)) (s2_off (by simp))))
      obtain ⟨g3, e1, e2, e3, e4⟩ := s_goRound_2 w ha hc hp hf (n / 2) 0 g2 (itR (aS a) (aO a) l (n / 2) (aP a) j).1 (itR (aS a) (aO a) l (n / 2) (aP a) j).2 (by omega) (hW j).1 (by rw [← hg2]; simp [s2_at, r1]) (by rw [← hg2]; simp [s2_at, r2]) (by omega) ho2
      have e60 : ∀ r, g3 60 r = g2 60 r := fun r => e4 60 r (by omega)
      have e62 : ∀ r, g3 62 r = g2 62 r := fun r => e4 62 r (by omega)
      have ho3 : Off h.2.2 g3 [58, 60, 62] := fun k hk => by
        have h1 := ho2 k hk
        rw [← h1]
        funext c
        exact e4 k c (fun q => hk (by rw [q.1]; simp))
      have hR' : Rn (aB a) (aF a) (itR (aS a) (aO a) l (n / 2) (aP a)) g3 (j + 1) := by
        refine ⟨e2, e3, by rw [e4 58 7 (by omega), ← hg2]; simp [s2_at], fun i hi => ?_, fun r hr hall => ?_, fun c d hcd hd => ?_⟩
        · rw [e60, e62, ← hg2]
          by_cases hij : i = j
          · rw [hij]; simp [s2_at]
          · have h1 := r4 i (by omega)
            have h2 := hno i (by omega)
            simp [s2_at, h2, h1]
        · rw [e60, ← hg2]
          have h2 := hall j (by omega)
          have h3 := r5 r hr (fun i hi => hall i (by omega))
          simp [s2_at, Ne.symm h2, h3]
        · by_cases hdj : d = j
          · subst hdj
            exact fun q => hno c hcd (by rw [q])
          · exact r6 c d hcd (by omega)
      obtain ⟨g', i, j', f1, f2⟩ := ih (j + 1) g3 (by omega) hR' ho3
      · refine ⟨g', i, j', ?_, f2⟩
        rw [← f1]
        rw [e_D_follow_10, if_pos rfl, if_neg (by rw [show (2520 : Int32) = nI 2520 from rfl]; exact fun q => absurd ((i_lt (by omega) (by omega)).1 q) (by omega))]
        simp only [hI_W (WF_S w) K58, hI_W (WF_S w) K1, oo_v, hS_2, r1, hc'.2.1, s_rank hb (hW j).1, cI_v, hR_S, hR_W w K58 (by omega) (show R0 58 0 = some 59 from rfl), kO_S, kO_W w RW59.1, if_true, s_get (WF_S w) RW59 (show rk (aB a) (itR (aS a) (aO a) l (n / 2) (aP a) j).1 < 2520 by omega)]
        rw [show g (59 + 1) (rk (aB a) (itR (aS a) (aO a) l (n / 2) (aP a) j).1) = _ from q1, if_pos rfl, e_D_follow_53, if_pos rfl]
        simp only [oo_v, hR_S, hR_W w K58 (by omega) (show R0 58 0 = some 59 from rfl), hR_W w K58 (by omega) (show R0 58 1 = some 61 from rfl), kO_S, kO_W w RW59.1, kO_W w RW61.1, if_true, s_put (WF_S w) RW59 (show rk (aB a) (itR (aS a) (aO a) l (n / 2) (aP a) j).1 < 2520 by omega), cV_v, hS_2, hS_S, kO_W w K58, sI_S, hI_W (WF_S w) K58]
        rw [show s2 g (59 + 1) (rk (aB a) (itR (aS a) (aO a) l (n / 2) (aP a) j).1) (nI j) 58 3 = nI (itR (aS a) (aO a) l (n / 2) (aP a) j).2 by simp [s2_at, r2]]
        simp only [s_put (WF_S w) RW61 (show rk (aB a) (itR (aS a) (aO a) l (n / 2) (aP a) j).1 < 2520 by omega), cV_v, hS_2, hS_S, oo_v, hI_W (WF_S w) K58, hI_W (WF_S w) K1]
        rw [show s2 (s2 g (59 + 1) (rk (aB a) (itR (aS a) (aO a) l (n / 2) (aP a) j).1) (nI j)) (61 + 1) (rk (aB a) (itR (aS a) (aO a) l (n / 2) (aP a) j).1) (nI (itR (aS a) (aO a) l (n / 2) (aP a) j).2) 58 2 = nI (itR (aS a) (aO a) l (n / 2) (aP a) j).1 by simp [s2_at, r1], show s2 (s2 g (59 + 1) (rk (aB a) (itR (aS a) (aO a) l (n / 2) (aP a) j).1) (nI j)) (61 + 1) (rk (aB a) (itR (aS a) (aO a) l (n / 2) (aP a) j).1) (nI (itR (aS a) (aO a) l (n / 2) (aP a) j).2) 58 7 = nI (mnD (fun i => dis (itR (aS a) (aO a) l (n / 2) (aP a) i).1 (aF a)) j) by simp [s2_at, r3], show s2 (s2 g (59 + 1) (rk (aB a) (itR (aS a) (aO a) l (n / 2) (aP a) j).1) (nI j)) (61 + 1) (rk (aB a) (itR (aS a) (aO a) l (n / 2) (aP a) j).1) (nI (itR (aS a) (aO a) l (n / 2) (aP a) j).2) 1 5 = nI (aF a) by simp [s2_at, hc'.2.2.2.2.2.1], s_disorder (hW j).1.1 ha.2.2.2.2.1, cI_v, imin_n (by omega) (by omega)]
        simp only [kO_S, kO_W w K58, if_true, sI_S, hS_S, hS_2]
        rw [e_D_goRound, L0, show s2 (s2 (s2 g (59 + 1) (rk (aB a) (itR (aS a) (aO a) l (n / 2) (aP a) j).1) (nI j)) (61 + 1) (rk (aB a) (itR (aS a) (aO a) l (n / 2) (aP a) j).1) (nI (itR (aS a) (aO a) l (n / 2) (aP a) j).2)) 58 7 (nI (min (mnD (fun i => dis (itR (aS a) (aO a) l (n / 2) (aP a) i).1 (aF a)) j) (dis (itR (aS a) (aO a) l (n / 2) (aP a) j).1 (aF a)))) = g2 from hg2, e1, cV_v, L1, i_add]
/-- the program comes round: what the class has found then -/
theorem s_follow {f : Nat → Nat → Int32} (w : WF h) (ha : AOK a) (hc : CAt f 1 a) (hp : PAt f n l) (hf : pfR n l = -4) :
    ∃ g' i j', f_D_follow 58 1 33 (hS h f) = rV (hS h g') ∧ RD (fun j => (itR (aS a) (aO a) l (n / 2) (aP a) j).1) i j' ∧ j' ≤ 2520 ∧ g' 58 4 = nI i ∧ g' 58 5 = nI (j' - i) ∧ g' 58 6 = nI ((itR (aS a) (aO a) l (n / 2) (aP a) j').2 - (itR (aS a) (aO a) l (n / 2) (aP a) i).2) ∧ g' 58 7 = nI (mnD (fun i => dis (itR (aS a) (aO a) l (n / 2) (aP a) i).1 (aF a)) j') ∧ Off f g' [58, 60, 62] := by
  obtain ⟨g, e1, e2, e3, e4, e5, e6⟩ := s_start_2 w ha hc (wds (aB a)) 0 f (by omega) (fun _ h1 => absurd h1 (Nat.not_lt_zero _)) Off.rf
  obtain ⟨g', i, j', q1, q2⟩ := s_follow_10 (h := hS h f) w ha hc hp hf (wds (aB a)) 0 g (by omega) ⟨e3, e4, e5, fun _ hi => absurd hi (Nat.not_lt_zero _), fun r hr _ => e2 r hr, fun _ _ _ hi => absurd hi (Nat.not_lt_zero _)⟩ (Off.mono e6 (by simp))
  refine ⟨g', i, j', ?_, q2⟩
  rw [e_D_follow, if_pos (kO_W (WF_S w) K58), e_D_start, L0, e1, cV_v]
  exact q1
end Rounds
