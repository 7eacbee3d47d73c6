/-! the cheapest ways, found twice: settleCosts and lowerCosts behind their keys -/
section Congr
variable {E : Nat → Nat → Option Nat} {p p' : Nat → Nat → Nat} {goal : Nat → Bool} {N : Nat}
theorem pt_congr (hE : ∀ r m r', r < N → m < 19 → E r m = some r' → r' < N) (hp : ∀ r m r', r < N → m < 19 → E r m = some r' → p r m = p' r m) : ∀ (n r w : Nat), r < N → Pt E p goal n r w → Pt E p' goal n r w
  | 0, _, _, _, h => h
  | n + 1, r, w, hr, h => by
    obtain ⟨m, r', w', a1, a2, a3, a4⟩ := h
    exact ⟨m, r', w', a1, a2, pt_congr hE hp n r' w' (hE r m r' hr a1 a2) a3, by rw [← hp r m r' hr a1 a2]; exact a4⟩
theorem lst_congr (hE : ∀ r m r', r < N → m < 19 → E r m = some r' → r' < N) (hp : ∀ r m r', r < N → m < 19 → E r m = some r' → p r m = p' r m) {r w : Nat} (hr : r < N) : Lst E p goal r w ↔ Lst E p' goal r w := by
  have hp' : ∀ r m r', r < N → m < 19 → E r m = some r' → p' r m = p r m := fun r m r' q1 q2 q3 => (hp r m r' q1 q2 q3).symm
  constructor
  · refine fun ⟨⟨n, h1⟩, h2⟩ => ⟨⟨n, pt_congr hE hp n r w hr h1⟩, fun n' w' h3 => h2 n' w' (pt_congr hE hp' n' r w' hr h3)⟩
  · refine fun ⟨⟨n, h1⟩, h2⟩ => ⟨⟨n, pt_congr hE hp' n r w hr h1⟩, fun n' w' h3 => h2 n' w' (pt_congr hE hp n' r w' hr h3)⟩
end Congr
theorem prc_congr {b P m : Nat} {o o' : Nat → Nat} (hv : VW b P) (ho : ∀ s, 1 ≤ s → s ≤ b → o s = o' s) (hm : m < 19) (h0 : rsn P 0 m = 0) : prc o P m = prc o' P m := by
  unfold rsn at h0
  unfold prc
  by_cases h7 : m < 7
  · rw [if_pos h7] at h0
    rw [if_pos h7, if_pos h7]
    have h1 := hv.2.1 m h7
    by_cases hz : sl P m = 0
    · rw [if_pos hz] at h0; omega
    · exact ho _ (by omega) h1
  · have h6 := plc_lt6 hm h7
    rw [if_neg h7] at h0
    rw [if_neg h7, if_neg h7]
    have h1 := hv.2.1 (plc m) (by omega)
    have h2 := hv.2.1 (plc m + 1) (by omega)
    by_cases hz : sl P (plc m) = 0
    · rw [if_pos hz] at h0; omega
    · rw [if_neg hz] at h0
      by_cases hz' : sl P (plc m + 1) = 0
      · rw [if_pos hz'] at h0; omega
      · rw [ho _ (show 1 ≤ sl P (plc m) by omega) h1, ho _ (show 1 ≤ sl P (plc m + 1) by omega) h2]
/-- the row k holds the least prices of every word -/
def Cw (k b S F C : Nat) (o : Nat → Nat) (f : Nat → Nat → Int32) : Prop := ∀ r, r < wds b → ∃ v, f k (fn b + r) = vI v ∧ ∀ u, v = some u ↔ Lst (ED b S) (pr b o) (gol b F C) r u
theorem Cw_congr {k b S F C : Nat} {o o' : Nat → Nat} {f : Nat → Nat → Int32} (hb : b < 6) (ho : ∀ s, 1 ≤ s → s ≤ b → o s = o' s) (h : Cw k b S F C o f) : Cw k b S F C o' f := fun r hr => by
  obtain ⟨v, h1, h2⟩ := h r hr
  refine ⟨v, h1, fun u => (h2 u).trans (lst_congr (ED_lt hb) (fun r m r' q1 q2 q3 => ?_) hr)⟩
  exact prc_congr (wd_VW hb q1) ho q2 (ED_rsn q3)
/-- what was found once stands for its key: the key in slot j, the prices in row k -/
def CstC (k j : Nat) (f : Nat → Nat → Int32) : Prop := f 47 j = -1 ∨ ∃ b S F C o, b < 6 ∧ S < 64 ∧ F < 2 ∧ C < 2 ∧ (∀ s, 1 ≤ s → s ≤ b → o s ≤ 9) ∧ f 47 j = nI (kyC b S F C o) ∧ Cw k b S F C o f
theorem CstC_hit {k j : Nat} {a : AS} {f : Nat → Nat → Int32} (ha : AOK a) (hK : CstC k j f) (e : nI (kyC (aB a) (aS a) (aF a) (aC a) (aO a)) = f 47 j) : Cw k (aB a) (aS a) (aF a) (aC a) (aO a) f := by
  have ho9 : ∀ s, 1 ≤ s → s ≤ aB a → aO a s ≤ 9 := fun s s1 s2 => (ha.2.2.2.2.2.2.1 s s1 s2).2.2
  have hlt := kyC_lt ha.2.1 ha.2.2.1 ha.2.2.2.2.1 ha.2.2.2.2.2.1 ho9
  rcases hK with e1 | ⟨b, S, F, C, o, k1, k2, k3, k4, ko, k5, k6⟩
  · have h1 := i_nneg hlt
    rw [e, e1] at h1
    exact absurd (by decide) h1
  · have hlt' := kyC_lt k1 k2 k3 k4 ko
    have hm1 := kyM_lt ha.2.1 ha.2.2.1 ha.2.2.2.2.1 ha.2.2.2.2.2.1
    have hm2 := kyM_lt k1 k2 k3 k4
    rw [k5, i_inj hlt hlt'] at e
    unfold kyC at e
    obtain ⟨e1, e2, e3, e4⟩ := kyM_inj (S := aS a) (S' := S) ha.2.1 ha.2.2.2.2.1 ha.2.2.2.2.2.1 k1 k3 k4 (by omega)
    have e5 : kyO (aO a) (aB a) = kyO o b := by omega
    subst e1
    rw [e2, e3, e4]
    exact Cw_congr ha.2.1 (fun s s1 s2 => (kyO_inj (aB a) (fun s s1 s2 => ⟨ho9 s s1 s2, ko s s1 s2⟩) e5 s s1 s2).symm) k6
section Costs
variable {h : pH}
theorem s_settleCosts {a : AS} {f : Nat → Nat → Int32} (w : WF h) (ha : AOK a) (hc : CAt f 1 a) (hG : GOK f (aB a)) (hK : CstC 51 5 f) :
    ∃ g, f_S_settleCosts 47 1 (hS h f) = rV (hS h g) ∧ Cw 51 (aB a) (aS a) (aF a) (aC a) (aO a) g ∧ CstC 51 5 g ∧ Off f g [47, 51] ∧ ∀ j, j ≠ 5 → g 47 j = f 47 j := by
  have hb : aB a < 6 := ha.2.1
  have hF : aF a < 2 := ha.2.2.2.2.1
  have hC : aC a < 2 := ha.2.2.2.2.2.1
  have ho9 : ∀ s, 1 ≤ s → s ≤ aB a → aO a s ≤ 9 := fun s s1 s2 => (ha.2.2.2.2.2.2.1 s s1 s2).2.2
  have hle := fn_le hb
  rw [e_S_settleCosts]
  simp only [kO_S, kO_W w K1, kO_W w K47, if_true, s_keyOfCosts w ha hc, cI_v, oo_v, hS_2, hI_W (WF_S w) K47]
  by_cases he : nI (kyC (aB a) (aS a) (aF a) (aC a) (aO a)) = f 47 5
  · rw [if_pos he]
    exact ⟨f, rfl, CstC_hit ha hK he, hK, Off.rf, fun _ _ => rfl⟩
  · rw [if_neg he]
    have ho1 : Off f (s2 f 47 5 (nI (kyC (aB a) (aS a) (aF a) (aC a) (aO a)))) [47] := s2_off (by simp)
    have hc' := CAt_off hc ho1 (by simp) (by simp) (by simp)
    have hG' := GOK_of hG ho1 (by simp)
    obtain ⟨g1, e1, e2, e3⟩ := s_startAtOrder (F := aF a) (C := aC a) w hb hF hC RW50 (by omega) (by omega) hG' hc'.2.2.2.2.2.1 hc'.2.2.2.2.2.2.1 (wds (aB a)) 0 _ (by omega) (fun r' hr' => absurd hr' (Nat.not_lt_zero _)) Off.rf
    have hc1 := CAt_off hc' e3 (by simp) (by simp) (by simp)
    have hG1 := GOK_of hG' e3 (by simp)
    have hst : St (aB a) (aS a) (aF a) (aC a) (aO a) (d0 (aB a) (aF a) (aC a)) 0 0 0 := by
      have hd : ∀ r v, d0 (aB a) (aF a) (aC a) r = some v → gol (aB a) (aF a) (aC a) r = true ∧ v = 0 := fun r v q => by
        unfold d0 at q
        split at q
        · rename_i hg
          cases q
          exact ⟨hg, rfl⟩
        · cases q
      refine ⟨fun x v hx hv => ?_, fun x hx hg => by unfold d0; rw [if_pos hg], fun x v hx hv q => by omega⟩
      obtain ⟨q1, q2⟩ := hd x v hv
      exact ⟨⟨0, q1, q2⟩, by omega, by omega⟩
    obtain ⟨g2, d2, e4, e5, e5', e6⟩ := s_settle_56 (h := hS h g1) w ha hc1 hG1 22681 0 g1 (d0 (aB a) (aF a) (aC a)) 0 (by omega) hst (by omega) e2 Off.rf
    have hCw : Cw 51 (aB a) (aS a) (aF a) (aC a) (aO a) g2 := fun r hr => ⟨d2 r, e5' r hr, e5 r hr⟩
    have ho2 : Off f g2 [47, 51] := Off.tr (Off.mono ho1 (by simp)) (Off.tr (Off.mono e3 (by simp)) (Off.mono e6 (by simp)))
    have h47 : ∀ j, g2 47 j = s2 f 47 5 (nI (kyC (aB a) (aS a) (aF a) (aC a) (aO a))) 47 j := fun j => by
      rw [e6 47 (by simp)]
      show g1 47 j = _
      rw [e3 47 (by simp)]
    refine ⟨g2, ?_, hCw, Or.inr ⟨aB a, aS a, aF a, aC a, aO a, hb, ha.2.2.1, hF, hC, ho9, ?_, hCw⟩, ho2, fun j hj => ?_⟩
    · simp only [sI_S, hS_S, hS_2, kO_S, kO_W w K1, kO_W w K47, if_true, hI_W (WF_S w) K1, oo_v, hc'.2.1, s_firstNode (show aB a < 7 by omega), cI_v, s_wordsOf hb, hR_S, hR_W w K47 (by omega) (show R0 47 2 = some 50 from rfl), i_add]
      rw [e_S_startAtOrder]
      rw [Nat.add_zero] at e1
      rw [e1, cV_v]
      exact e4
    · rw [h47, s2_at, if_pos rfl, if_pos rfl]
    · rw [h47, s2_at, if_pos rfl, if_neg hj]
theorem s_lowerCosts {a : AS} {f : Nat → Nat → Int32} (w : WF h) (ha : AOK a) (hc : CAt f 1 a) (hG : GOK f (aB a)) (hK : CstC 53 6 f) :
    ∃ g, f_S_lowerCosts 47 1 (hS h f) = rV (hS h g) ∧ Cw 53 (aB a) (aS a) (aF a) (aC a) (aO a) g ∧ CstC 53 6 g ∧ Off f g [47, 53] ∧ ∀ j, j ≠ 6 → g 47 j = f 47 j := by
  have hb : aB a < 6 := ha.2.1
  have hF : aF a < 2 := ha.2.2.2.2.1
  have hC : aC a < 2 := ha.2.2.2.2.2.1
  have ho9 : ∀ s, 1 ≤ s → s ≤ aB a → aO a s ≤ 9 := fun s s1 s2 => (ha.2.2.2.2.2.2.1 s s1 s2).2.2
  have hle := fn_le hb
  rw [e_S_lowerCosts]
  simp only [kO_S, kO_W w K1, kO_W w K47, if_true, s_keyOfCosts w ha hc, cI_v, oo_v, hS_2, hI_W (WF_S w) K47]
  by_cases he : nI (kyC (aB a) (aS a) (aF a) (aC a) (aO a)) = f 47 6
  · rw [if_pos he]
    exact ⟨f, rfl, CstC_hit ha hK he, hK, Off.rf, fun _ _ => rfl⟩
  · rw [if_neg he]
    have ho1 : Off f (s2 f 47 6 (nI (kyC (aB a) (aS a) (aF a) (aC a) (aO a)))) [47] := s2_off (by simp)
    have hc' := CAt_off hc ho1 (by simp) (by simp) (by simp)
    have hG' := GOK_of hG ho1 (by simp)
    obtain ⟨g1, e1, e2, e3⟩ := s_startAtOrder (F := aF a) (C := aC a) w hb hF hC RW52 (by omega) (by omega) hG' hc'.2.2.2.2.2.1 hc'.2.2.2.2.2.2.1 (wds (aB a)) 0 _ (by omega) (fun r' hr' => absurd hr' (Nat.not_lt_zero _)) Off.rf
    have hc1 := CAt_off hc' e3 (by simp) (by simp) (by simp)
    have hG1 := GOK_of hG' e3 (by simp)
    have hst : Lw (aB a) (aS a) (aF a) (aC a) (aO a) (d0 (aB a) (aF a) (aC a)) 0 0 0 false := by
      have hg0 : ∀ x, gol (aB a) (aF a) (aC a) x = true → d0 (aB a) (aF a) (aC a) x = some 0 := fun x hg => by unfold d0; rw [if_pos hg]
      have hd : ∀ r v, d0 (aB a) (aF a) (aC a) r = some v → gol (aB a) (aF a) (aC a) r = true ∧ v = 0 := fun r v q => by
        unfold d0 at q
        split at q
        · rename_i hg
          cases q
          exact ⟨hg, rfl⟩
        · cases q
      refine ⟨fun x v hx hv => ?_, fun x hx hg => hg0 x hg, fun n x v hn hx hp => ?_, fun n x v _ q => absurd q (Nat.not_lt_zero _), fun _ x v q => absurd q (Nat.not_lt_zero _)⟩
      · obtain ⟨q1, q2⟩ := hd x v hv
        exact ⟨⟨0, q1, q2⟩, by omega⟩
      · obtain rfl : n = 0 := by omega
        exact ⟨0, hg0 x hp.1, Nat.zero_le _⟩
    obtain ⟨g2, d2, e4, e5, e5', e6⟩ := s_lower_56 (h := hS h g1) w ha hc1 hG1 2521 0 g1 (d0 (aB a) (aF a) (aC a)) 0 true (by omega) hst (fun q => by cases q) (by omega) e2 Off.rf
    have hCw : Cw 53 (aB a) (aS a) (aF a) (aC a) (aO a) g2 := fun r hr => ⟨d2 r, e5' r hr, e5 r hr⟩
    have ho2 : Off f g2 [47, 53] := Off.tr (Off.mono ho1 (by simp)) (Off.tr (Off.mono e3 (by simp)) (Off.mono e6 (by simp)))
    have h47 : ∀ j, g2 47 j = s2 f 47 6 (nI (kyC (aB a) (aS a) (aF a) (aC a) (aO a))) 47 j := fun j => by
      rw [e6 47 (by simp)]
      show g1 47 j = _
      rw [e3 47 (by simp)]
    refine ⟨g2, ?_, hCw, Or.inr ⟨aB a, aS a, aF a, aC a, aO a, hb, ha.2.2.1, hF, hC, ho9, ?_, hCw⟩, ho2, fun j hj => ?_⟩
    · simp only [sI_S, hS_S, hS_2, kO_S, kO_W w K1, kO_W w K47, if_true, hI_W (WF_S w) K1, oo_v, hc'.2.1, s_firstNode (show aB a < 7 by omega), cI_v, s_wordsOf hb, hR_S, hR_W w K47 (by omega) (show R0 47 3 = some 52 from rfl), i_add]
      rw [e_S_startAtOrder]
      rw [Nat.add_zero] at e1
      rw [e1, cV_v]
      exact e4
    · rw [h47, s2_at, if_pos rfl, if_pos rfl]
    · rw [h47, s2_at, if_pos rfl, if_neg hj]
end Costs
