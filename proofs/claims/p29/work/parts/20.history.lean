/-! the history: four shelves of the class, by their places in the row 12 -/
def isHs (B : Nat) : Prop := B = 13 ∨ B = 18 ∨ B = 23 ∨ B = 28
def hRows : List Nat := [11, 13, 15, 17, 18, 20, 22, 23, 25, 27, 28, 30, 32]
theorem hs_sh {B : Nat} (hB : isHs B) : isSh B := by
  unfold isHs at hB
  unfold isSh
  omega
def HAt (h : pH) (l : List AS) : Prop := l.length ≤ 4 ∧ h.2.2 11 1 = nI l.length ∧ ∃ π : Nat → Nat, (∀ j, j < 4 → h.2.1 12 j = some (π j) ∧ isHs (π j)) ∧ (∀ i j, i < 4 → j < 4 → π i = π j → i = j) ∧ ∀ (i : Nat) (a : AS), l[i]? = some a → CAt h.2.2 (π i) a ∧ aB a < 6
theorem K12 : K0[12]? = some (.inr (.inr 4)) := rfl
theorem K11 : K0[11]? = some (.inl 1) := rfl
theorem R11 : R0 11 0 = some 12 := rfl
section Hist
variable {h : pH} {j v : Nat}
theorem hQ_W (w : WF h) (hj : j < 4) : hQ h 12 (nI j) = h.2.1 12 j := by
  unfold hQ
  rw [w.1, K12]
  show (if inb (nI j) 4 = true then h.2.1 12 (nI j).toNatClampNeg else none) = _
  rw [if_pos (inb_of hj (by omega)), i_clamp (by omega)]
theorem bQ_W (w : WF h) (hj : j < 4) (hv : K0[v]? = some (.inl 6)) : bQ h 12 (nI j) v = true := by
  unfold bQ
  rw [w.1, K12]
  show (inb (nI j) 4 && decide (K0[v]? = some (.inl 6))) = true
  rw [inb_of hj (by omega), hv]
  rfl
theorem hN_12 (w : WF h) : hN h 12 = some (nI 4) := by
  unfold hN
  rw [w.1, K12]
  rfl
theorem WF_R {r : Nat} (w : WF h) : WF (sR h 12 j r) := ⟨w.1, fun k i hk => by
  show s2 h.2.1 12 j (some r) k i = _
  rw [s2_ne hk]
  exact w.2 k i hk⟩
theorem sR_12 {r i : Nat} : (sR h 12 j r).2.1 12 i = if i = j then some r else h.2.1 12 i := by
  show s2 h.2.1 12 j (some r) 12 i = _
  rw [s2_self]
theorem s_drop1 {i p q : Nat} (w : WF h) (h1 : 1 ≤ i) (h4 : i < 4) (hp : h.2.1 12 (i - 1) = some p) (hq : h.2.1 12 i = some q) (kp : K0[p]? = some (.inl 6)) (kq : K0[q]? = some (.inl 6)) :
    f_H_dropOldest_2 11 (nI i) h = f_H_dropOldest_2 11 (nI (i + 1)) (sR (sR h 12 (i - 1) q) 12 i p) := by
  have r1 := hR_W w K11 (by omega) R11
  rw [e_H_dropOldest_2, r1, oo_v, hN_12 w, oo_v, if_neg (by rw [i_le (by omega) (by omega)]; omega), oo_v, L1, i_sub h1, hQ_W w (by omega), hp, oo_v, oo_v, oo_v, hQ_W w h4, hq, oo_v, if_pos (bQ_W w (by omega) kq), hR_W (WF_R w) K11 (by omega) R11, oo_v, i_clamp (by omega), if_pos (bQ_W (WF_R w) h4 kp), i_clamp (by omega), i_add]
theorem s_drop {π : Nat → Nat} (w : WF h) (hlen : h.2.2 11 1 = nI 4) (hπ : ∀ j, j < 4 → h.2.1 12 j = some (π j) ∧ isHs (π j)) : ∃ h', f_H_dropOldest 11 h = rV h' ∧ WF h' ∧ h'.2.2 = s2 h.2.2 11 1 (nI 3) ∧ ∀ j, j < 4 → h'.2.1 12 j = some (if j = 3 then π 0 else π (j + 1)) := by
  obtain ⟨p0, q0⟩ := hπ 0 (by omega)
  obtain ⟨p1, q1⟩ := hπ 1 (by omega)
  obtain ⟨p2, q2⟩ := hπ 2 (by omega)
  obtain ⟨p3, q3⟩ := hπ 3 (by omega)
  have k0 := (sh_at (hs_sh q0)).1
  have k1 := (sh_at (hs_sh q1)).1
  have k2 := (sh_at (hs_sh q2)).1
  have k3 := (sh_at (hs_sh q3)).1
  rw [e_H_dropOldest, L1, s_drop1 w (Nat.le_refl 1) (by omega) p0 p1 k0 k1]
  generalize ha : sR (sR h 12 (1 - 1) (π 1)) 12 1 (π 0) = ha'
  have wa : WF ha' := ha ▸ WF_R (WF_R w)
  have fa : ∀ i, ha'.2.1 12 i = if i = 1 then some (π 0) else if i = 0 then some (π 1) else h.2.1 12 i := fun i => by rw [← ha, sR_12, sR_12]
  have sa : ha'.2.2 = h.2.2 := by rw [← ha]; rfl
  rw [s_drop1 wa (by omega) (by omega) (by rw [fa]; rfl) (by rw [fa]; exact p2) k0 k2]
  generalize hb : sR (sR ha' 12 (1 + 1 - 1) (π 2)) 12 (1 + 1) (π 0) = hb'
  have wb : WF hb' := hb ▸ WF_R (WF_R wa)
  have fb : ∀ i, hb'.2.1 12 i = if i = 2 then some (π 0) else if i = 1 then some (π 2) else ha'.2.1 12 i := fun i => by rw [← hb, sR_12, sR_12]
  have sb : hb'.2.2 = h.2.2 := by rw [← hb]; exact sa
  rw [s_drop1 wb (by omega) (by omega) (by rw [fb]; rfl) (by rw [fb]; simp only [show ¬ (1 + 1 + 1 = 2) by omega, show ¬ (1 + 1 + 1 = 1) by omega, if_false]; rw [fa]; exact p3) k0 k3]
  generalize hc : sR (sR hb' 12 (1 + 1 + 1 - 1) (π 3)) 12 (1 + 1 + 1) (π 0) = hc'
  have wc : WF hc' := hc ▸ WF_R (WF_R wb)
  have fc : ∀ i, hc'.2.1 12 i = if i = 3 then some (π 0) else if i = 2 then some (π 3) else hb'.2.1 12 i := fun i => by rw [← hc, sR_12, sR_12]
  have sc : hc'.2.2 = h.2.2 := by rw [← hc]; exact sb
  have r1 := hR_W wc K11 (by omega) R11
  refine ⟨sI hc' 11 1 (nI 3), ?_, WF_I wc, by show s2 hc'.2.2 11 1 (nI 3) = _; rw [sc], fun j hj => ?_⟩
  · rw [e_H_dropOldest_2, r1, oo_v, hN_12 wc, oo_v, if_pos (by decide), hI_W wc K11, oo_v, if_pos (kO_W wc K11), sc, hlen]
    rfl
  · show hc'.2.1 12 j = _
    rw [fc, fb, fa]
    have : j = 0 ∨ j = 1 ∨ j = 2 ∨ j = 3 := by omega
    rcases this with rfl | rfl | rfl | rfl <;> rfl
def kept (l : List AS) (a : AS) : List AS := (if l.length < 4 then l else l.drop 1) ++ [a]
theorem hs_in {B : Nat} (hB : isHs B) : B ∈ hRows ∧ B + 2 ∈ hRows ∧ B + 4 ∈ hRows ∧ B ≠ 11 ∧ B + 2 ≠ 11 ∧ B + 4 ≠ 11 := by
  rcases hB with rfl | rfl | rfl | rfl <;> decide
theorem hs_apart {B C : Nat} (hB : isHs B) (hC : isHs C) (hne : B ≠ C) : C ∉ [B, B + 2, B + 4] ∧ C + 2 ∉ [B, B + 2, B + 4] ∧ C + 4 ∉ [B, B + 2, B + 4] := by
  rcases hB with rfl | rfl | rfl | rfl <;> rcases hC with rfl | rfl | rfl | rfl <;> first | (exact absurd rfl hne) | decide
theorem CAt_off {f g : Nat → Nat → Int32} {B : Nat} {a : AS} {l : List Nat} (hc : CAt f B a) (ho : Off f g l) (h0 : B ∉ l) (h2 : B + 2 ∉ l) (h4 : B + 4 ∉ l) : CAt g B a := by
  unfold CAt at *
  rw [ho B h0, ho (B + 2) h2, ho (B + 4) h4]
  exact hc
theorem s_keep16 {l : List AS} {a : AS} (w : WF h) (hl : l.length < 4) (hh : HAt h l) (hc : CAt h.2.2 1 a) (hb : aB a < 6) : ∃ h', f_H_keep_16 11 1 h = rV h' ∧ WF h' ∧ HAt h' (l ++ [a]) ∧ Off h.2.2 h'.2.2 hRows ∧ h'.2.1 = h.2.1 := by
  obtain ⟨h1, h2, π, h3, h4, h5⟩ := hh
  have r1 := hR_W w K11 (by omega) R11
  obtain ⟨p0, q0⟩ := h3 l.length hl
  have qs := hs_sh q0
  have hin := hs_in q0
  have hne1 : π l.length ≠ 1 := by
    unfold isHs at q0
    omega
  obtain ⟨g, e1, e2, e3⟩ := s_Bbecome w qs (Or.inl rfl) hne1 hc hb
  have e4 : g 11 = h.2.2 11 := e3 11 (by
    simp only [List.mem_cons, List.not_mem_nil, or_false, not_or]
    omega)
  refine ⟨sI (hS h g) 11 1 (nI (l.length + 1)), ?_, WF_I (WF_S w), ⟨?_, ?_, π, h3, h4, fun i c hi => ?_⟩, ?_, rfl⟩
  · rw [e_H_keep_16]
    simp only [hI_W w K11, r1, hN_12 w, h2, hQ_W w hl, p0, oo_v, hI_W (WF_S w) K11, hS_2]
    rw [if_neg (i_nneg (by omega)), if_neg (by rw [i_le (by omega) (by omega)]; omega), if_pos (kO_W w (sh_at qs).1), e1, cV_v, hI_W (WF_S w) K11, oo_v, if_pos (kO_W (WF_S w) K11), hS_2, e4, h2, L1, i_add]
  · rw [List.length_append]
    show l.length + 1 ≤ 4
    omega
  · show s2 g 11 1 (nI (l.length + 1)) 11 1 = _
    rw [s2_at, if_pos rfl, if_pos rfl, List.length_append]
    rfl
  · have hoff : Off g (s2 g 11 1 (nI (l.length + 1))) [11] := s2_off (by simp)
    by_cases hil : i < l.length
    · rw [List.getElem?_append_left hil] at hi
      obtain ⟨a1, a2⟩ := h5 i c hi
      have qi := (h3 i (by omega)).2
      have hd := hs_apart q0 qi (fun e => by have := h4 _ _ hl (by omega) e; omega)
      have hi2 := hs_in qi
      exact ⟨CAt_off (CAt_off a1 e3 hd.1 hd.2.1 hd.2.2) hoff (by simpa using hi2.2.2.2.1) (by simpa using hi2.2.2.2.2.1) (by simpa using hi2.2.2.2.2.2), a2⟩
    · rw [List.getElem?_append_right (by omega)] at hi
      have hz : i - l.length < 1 := (List.getElem?_eq_some_iff.mp hi).1
      rw [show i - l.length = 0 by omega] at hi
      cases hi
      rw [show i = l.length by omega]
      exact ⟨CAt_off e2 hoff (by simpa using hin.2.2.2.1) (by simpa using hin.2.2.2.2.1) (by simpa using hin.2.2.2.2.2), hb⟩
  · refine Off.tr (e3.mono (fun k hk => ?_)) (s2_off (by decide))
    simp only [List.mem_cons, List.not_mem_nil, or_false] at hk
    rcases hk with rfl | rfl | rfl
    · exact hin.1
    · exact hin.2.1
    · exact hin.2.2.1
/-- a change is kept: the shelf before it, of five the oldest falls out -/
theorem s_keep {l : List AS} {a : AS} (w : WF h) (hh : HAt h l) (hc : CAt h.2.2 1 a) (hb : aB a < 6) : ∃ h', f_H_keep 11 1 h = rV h' ∧ WF h' ∧ HAt h' (kept l a) ∧ Off h.2.2 h'.2.2 hRows := by
  obtain ⟨h1, h2, π, h3, h4, h5⟩ := id hh
  have r1 := hR_W w K11 (by omega) R11
  rw [e_H_keep, hI_W w K11, oo_v, r1, oo_v, hN_12 w, oo_v, h2]
  unfold kept
  by_cases hl : l.length < 4
  · rw [if_pos (by rw [i_lt (by omega) (by omega)]; exact hl), if_pos hl]
    obtain ⟨h', e1, e2, e3, e4, -⟩ := s_keep16 w hl hh hc hb
    exact ⟨h', e1, e2, e3, e4⟩
  · rw [if_neg (by rw [i_lt (by omega) (by omega)]; exact hl), if_neg hl, if_pos (kO_W w K11)]
    obtain ⟨h', e1, e2, e3, e4⟩ := s_drop w (by rw [h2]; congr 1; omega) h3
    rw [e1, cV_v]
    have hoff : Off h.2.2 h'.2.2 [11] := by rw [e3]; exact s2_off (by simp)
    have hh' : HAt h' (l.drop 1) := by
      refine ⟨by rw [List.length_drop]; omega, ?_, fun j => if j = 3 then π 0 else π (j + 1), fun j hj => ⟨e4 j hj, ?_⟩, fun i j hi hj hij => ?_, fun i c hi => ?_⟩
      · rw [e3, s2_at, if_pos rfl, if_pos rfl, List.length_drop]
        congr 1
        omega
      · show isHs (if j = 3 then π 0 else π (j + 1))
        split
        · exact (h3 0 (by omega)).2
        · exact (h3 (j + 1) (by omega)).2
      · dsimp only at hij
        split at hij <;> split at hij
        · omega
        · have := h4 _ _ (by omega) (by omega) hij
          omega
        · have := h4 _ _ (by omega) (by omega) hij
          omega
        · have := h4 _ _ (by omega) (by omega) hij
          omega
      · rw [List.getElem?_drop] at hi
        have hil : 1 + i < l.length := (List.getElem?_eq_some_iff.mp hi).1
        obtain ⟨a1, a2⟩ := h5 (1 + i) c hi
        have hi2 := hs_in (h3 (1 + i) (by omega)).2
        dsimp only
        rw [if_neg (by omega), show i + 1 = 1 + i by omega]
        exact ⟨CAt_off a1 hoff (by simpa using hi2.2.2.2.1) (by simpa using hi2.2.2.2.2.1) (by simpa using hi2.2.2.2.2.2), a2⟩
    have hc' : CAt h'.2.2 1 a := CAt_off hc hoff (by simp) (by simp) (by simp)
    obtain ⟨h'', g1, g2, g3, g4, -⟩ := s_keep16 e2 (by rw [List.length_drop]; omega) hh' hc' hb
    exact ⟨h'', g1, g2, g3, Off.tr (hoff.mono (by decide)) g4⟩
/-- the latest state comes back -/
theorem s_giveBack {l : List AS} {a : AS} (w : WF h) (hh : HAt h (l ++ [a])) : ∃ h', f_H_giveBack 11 1 h = rV h' ∧ WF h' ∧ HAt h' l ∧ CAt h'.2.2 1 a ∧ Off h.2.2 h'.2.2 [11, 1, 3, 5] := by
  obtain ⟨h1, h2, π, h3, h4, h5⟩ := hh
  rw [List.length_append] at h1 h2
  have h1 : l.length + 1 ≤ 4 := h1
  have h2 : h.2.2 11 1 = nI (l.length + 1) := h2
  have r1 := hR_W w K11 (by omega) R11
  obtain ⟨p0, q0⟩ := h3 l.length (by omega)
  obtain ⟨a1, a2⟩ := h5 l.length a (by rw [List.getElem?_append_right (Nat.le_refl _), Nat.sub_self]; rfl)
  have qs := hs_sh q0
  have hne1 : 1 ≠ π l.length := by
    unfold isHs at q0
    omega
  obtain ⟨g, e1, e2, e3⟩ := s_Bbecome w (Or.inl rfl) qs hne1 a1 a2
  have hoff : Off g (s2 g 11 1 (nI l.length)) [11] := s2_off (by simp)
  refine ⟨sI (hS h g) 11 1 (nI l.length), ?_, WF_I (WF_S w), ⟨by omega, ?_, π, h3, h4, fun i c hi => ?_⟩, CAt_off e2 hoff (by simp) (by simp) (by simp), Off.tr (e3.mono (by decide)) (s2_off (by decide))⟩
  · rw [e_H_giveBack, hI_W w K11, oo_v, h2, L1, i_sub (by omega), Nat.add_sub_cancel, if_neg (i_nneg (by omega)), r1, oo_v, hN_12 w, oo_v, if_neg (by rw [i_le (by omega) (by omega)]; omega), oo_v, hQ_W w (by omega), p0, oo_v, oo_v, hQ_W w (by omega), p0, oo_v, if_pos (kO_W w (show K0[1]? = some (.inl 6) from rfl)), e1, cV_v, if_pos (kO_W (WF_S w) K11)]
  · show s2 g 11 1 (nI l.length) 11 1 = _
    rw [s2_at, if_pos rfl, if_pos rfl]
  · have hil : i < l.length := (List.getElem?_eq_some_iff.mp hi).1
    obtain ⟨b1, b2⟩ := h5 i c (by rw [List.getElem?_append_left hil]; exact hi)
    have qi := (h3 i (by omega)).2
    have hi2 := hs_in qi
    have d1 : π i ∉ [1, 1 + 2, 1 + 4] ∧ π i + 2 ∉ [1, 1 + 2, 1 + 4] ∧ π i + 4 ∉ [1, 1 + 2, 1 + 4] := by
      unfold isHs at qi
      simp only [List.mem_cons, List.not_mem_nil, or_false, not_or]
      omega
    exact ⟨CAt_off (CAt_off b1 e3 d1.1 d1.2.1 d1.2.2) hoff (by simpa using hi2.2.2.2.1) (by simpa using hi2.2.2.2.2.1) (by simpa using hi2.2.2.2.2.2), b2⟩
end Hist
