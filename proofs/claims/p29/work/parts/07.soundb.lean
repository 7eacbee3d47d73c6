section Sound2
variable {p : Program} {l : Launch} {e : Env} {R : Room} {s : State} {m : MethodId} {args : Array Value} {below : List Frame} {meth : Method} {c : Code} {Q : State → Prop}
variable {Ms : List pM} {M : pM} {base b0 : Nat} {D : va_G} {cI cQ : ClassId} {H0 H : Heap} {C0 Z0 : Nat} {r : Option Value × pH} {sc : pX} {go : Nat → pL → List Value → pH → pR} {cl : Nat → List Value → Nat → Nat → pL → List Value → pH → pR}
variable {pc len a b : Nat} {v : Int32} {li : List Nat} {ls : pL} {st : List Value} {h : pH} {LS : Array Slot} {locs : List Loc} {cells slots : Nat}
theorem W_size (hsz : s.heap.size = base + C0) (k : H.size ≤ base + C0 + cells → W p l e R s m args below meth c H locs cells slots Q (F0 m pc LS st)) : W p l e R s m args below meth c H locs cells slots Q (F0 m pc LS st) := by
  intro T hT X
  have h1 : T.heap.size ≤ s.heap.size + cells := X.same.2.2.1
  rw [hT, hsz] at h1
  exact k h1 T hT X
theorem pW_lo (hb : base ≤ H.size) (hP : va_P D vwCl (pW base cI cQ h) H) : base + h.1.length ≤ H.size := by
  by_cases h0 : h.1.length = 0
  · omega
  · have h1 : h.1.length - 1 < h.1.length := by omega
    have h2 := (hP _ _ (pW_at (List.getElem?_eq_getElem h1))).lt
    have h3 : base + (h.1.length - 1) < H.size := h2
    omega
theorem fld_of {M : pM} (hf : fldB M a b li = true) : ∃ q : vw_C, vwCl[a]? = some (q.1, q.2.1, q.2.2) ∧ b < q.2.2 ∧ (q.2.1 b).1 = q.1 ∧ ((Nat.beq (li.getD 1 0) 0 = true ∧ Cond.fieldLink M.1.cls (li.getD 0 0) q.1 (q.2.1 b).2.1 (q.2.1 b).2.2.1 ∈ gW) ∨ (Nat.beq (li.getD 1 0) 0 = false ∧ Cond.fieldLinkNest M.1.cls (li.getD 0 0) q.1 (q.2.1 b).2.1 (q.2.1 b).2.2.1 "ShelfSpines" ∈ pNt)) := by
  unfold fldB at hf
  split at hf
  · rename_i q hq
    simp only [Bool.and_eq_true, decide_eq_true_eq] at hf
    obtain ⟨⟨h1, h2⟩, h3⟩ := hf
    refine ⟨q, hq, h1, h2, ?_⟩
    cases hn : Nat.beq (li.getD 1 0) 0 with
    | true =>
      rw [hn] at h3
      exact Or.inl ⟨rfl, wAt_in h3⟩
    | false =>
      rw [hn] at h3
      simp only [cond_false, decide_eq_true_eq] at h3
      exact Or.inr ⟨rfl, List.mem_filter.mpr ⟨List.mem_of_getElem? h3, rfl⟩⟩
  · cases hf
theorem pF_at {ci j k : Nat} (hj : j < pN ci) : (pF base h ci k)[j]? = some (if fk ci j = 2 then va_rf ((h.2.1 k j).map (base + ·)) else .int (h.2.2 k j)) := by
  simp only [pF, List.getElem?_map, List.getElem?_range hj, Option.map_some]
theorem pF_len {ci k : Nat} : (pF base h ci k).length = pN ci := by simp [pF]
theorem hI_at {ci k j : Nat} {x : Int32} (hh : hI h ci k j = some x) : h.1[k]? = some (.inl ci) ∧ h.2.2 k j = x := by
  unfold hI at hh
  split at hh
  · rename_i h1
    exact ⟨h1, Option.some.inj hh⟩
  · cases hh
theorem hR_at {ci k j : Nat} {x : Nat} (hh : hR h ci k j = some x) : h.1[k]? = some (.inl ci) ∧ h.2.1 k j = some x := by
  unfold hR at hh
  split at hh
  · rename_i h1
    exact ⟨h1, hh⟩
  · cases hh
theorem inb_vp {i : Int32} {n : Nat} (hh : inb i n = true) : vp_in i n := by
  simp only [inb, Bool.and_eq_true, Bool.not_eq_true', decide_eq_false_iff_not, decide_eq_true_eq] at hh
  rintro (h1 | h1)
  · exact hh.1 h1
  · omega
theorem hA_at {k : Nat} {i x : Int32} (hh : hA h k i = some x) : ∃ n, h.1[k]? = some (.inr (.inl n)) ∧ vp_in i n ∧ h.2.2 k i.toNatClampNeg = x := by
  unfold hA at hh
  split at hh
  · rename_i n h1
    split at hh
    · rename_i h2
      exact ⟨n, h1, inb_vp h2, Option.some.inj hh⟩
    · cases hh
  · cases hh
theorem hQ_at {k : Nat} {i : Int32} {x : Nat} (hh : hQ h k i = some x) : ∃ n, h.1[k]? = some (.inr (.inr n)) ∧ vp_in i n ∧ h.2.1 k i.toNatClampNeg = some x := by
  unfold hQ at hh
  split at hh
  · rename_i n h1
    split at hh
    · rename_i h2
      exact ⟨n, h1, inb_vp h2, hh⟩
    · cases hh
  · cases hh
theorem hN_at {k : Nat} {x : Int32} (hh : hN h k = some x) : ∃ n, (h.1[k]? = some (.inr (.inl n)) ∨ h.1[k]? = some (.inr (.inr n))) ∧ Int32.ofNat n = x := by
  unfold hN at hh
  split at hh
  · rename_i n h1
    exact ⟨n, Or.inl h1, Option.some.inj hh⟩
  · rename_i n h1
    exact ⟨n, Or.inr h1, Option.some.inj hh⟩
  · cases hh
theorem bA_at {k : Nat} {i : Int32} (hh : bA h k i = true) : ∃ n, h.1[k]? = some (.inr (.inl n)) ∧ vp_in i n := by
  unfold bA at hh
  split at hh
  · rename_i n h1
    exact ⟨n, h1, inb_vp hh⟩
  · cases hh
theorem bQ_at {k x : Nat} {i : Int32} (hh : bQ h k i x = true) : ∃ n, h.1[k]? = some (.inr (.inr n)) ∧ vp_in i n ∧ h.1[x]? = some (.inl 6) := by
  unfold bQ at hh
  split at hh
  · rename_i n h1
    simp only [Bool.and_eq_true, decide_eq_true_eq] at hh
    exact ⟨n, h1, inb_vp hh.1, hh.2⟩
  · cases hh
theorem kO_at {ci k : Nat} (hh : kO h ci k = true) : h.1[k]? = some (.inl ci) := of_decide_eq_true hh
theorem i32_len3 {x : Prop} (h : x) : x := h
theorem tg_2 (F : pFx p R s m args meth c M base C0 D cI cQ H0) (K : pKK p l e R s m args below meth c Q M base b0 D cI cQ H0 C0 Z0 r go) (hs : stp sc none (fun v h => some (v, h)) go cl (pc, len, 2, a, b, v, li) ls st h = some r) (X : pMt base b0 D cI cQ H0 (mL M) C0 Z0 ls h LS H locs cells slots) (hd : decode M.2.1 pc = .ok (exI (pc, len, 2, a, b, v, li), len)) (sd : sdB Ms M (pc, len, 2, a, b, v, li) = true) : W p l e R s m args below meth c H locs cells slots Q (F0 m pc LS (st.map (pv base b0))) := by
  obtain ⟨hx, hb, hml, hown, hts, hnw, hnm, hfr, hlo, hK, hbs, hrt, hsz, hlk⟩ := F
  have hs : (match (generalizing := false) st with
        | .ref k :: r => oo none (hI h a k b) fun x => go (pc + len) ls (.int x :: r) h
        | _ => none : pR) = some r := hs
  have h1 : (len = 3 ∧ fk a b ≠ 2) ∧ fldB M a b li = true := by simpa only [sdB, Bool.and_eq_true, decide_eq_true_eq] using sd
  obtain ⟨⟨rfl, h2⟩, hf⟩ := h1
  obtain ⟨q, hq, g2, g3, hl⟩ := fld_of hf
  obtain ⟨c1, c2, c3, c4, g5⟩ := cls_ok a _ hq
  split at hs
  · obtain ⟨x, h3, hs⟩ := oo_some hs
    obtain ⟨h3, h4⟩ := hI_at h3
    have hsame : ∀ x, s.fieldFound? (q.2.1 b).1 (q.2.1 b).2.1 (q.2.1 b).2.2.1 = some x → s.fieldFound? q.1 (q.2.1 b).2.1 (q.2.1 b).2.2.1 = some x := fun x h => by rw [g3] at h; exact h
    rcases hl with ⟨-, hl⟩ | ⟨-, hl⟩
    · exact va_get (D := D) (ci := a) (C := q.1) (T := q.2.1) (N := q.2.2) (v := .int x) hx hb hts c1 hown hK X.2.1 _ (pW_at h3) hq b g2 (hts _ hl) hsame (by rw [pF_at (by rw [g5]; exact g2), if_neg h2, h4]) hd (K _ _ _ _ _ _ _ _ _ hs X)
    · exact va_getN (D := D) (ci := a) (C := q.1) (T := q.2.1) (N := q.2.2) (v := .int x) hx hb hts c1 hown hK X.2.1 _ (pW_at h3) hq b g2 (va_Nw.use rfl (hnw _ hl)) hsame (by rw [pF_at (by rw [g5]; exact g2), if_neg h2, h4]) hd (K _ _ _ _ _ _ _ _ _ hs X)
  · cases hs
theorem tg_3 (F : pFx p R s m args meth c M base C0 D cI cQ H0) (K : pKK p l e R s m args below meth c Q M base b0 D cI cQ H0 C0 Z0 r go) (hs : stp sc none (fun v h => some (v, h)) go cl (pc, len, 3, a, b, v, li) ls st h = some r) (X : pMt base b0 D cI cQ H0 (mL M) C0 Z0 ls h LS H locs cells slots) (hd : decode M.2.1 pc = .ok (exI (pc, len, 3, a, b, v, li), len)) (sd : sdB Ms M (pc, len, 3, a, b, v, li) = true) : W p l e R s m args below meth c H locs cells slots Q (F0 m pc LS (st.map (pv base b0))) := by
  obtain ⟨hx, hb, hml, hown, hts, hnw, hnm, hfr, hlo, hK, hbs, hrt, hsz, hlk⟩ := F
  have hs : (match (generalizing := false) st with
        | .ref k :: r => oo none (hR h a k b) fun x => go (pc + len) ls (.ref x :: r) h
        | _ => none : pR) = some r := hs
  have h1 : (len = 3 ∧ fk a b = 2) ∧ fldB M a b li = true := by simpa only [sdB, Bool.and_eq_true, decide_eq_true_eq] using sd
  obtain ⟨⟨rfl, h2⟩, hf⟩ := h1
  obtain ⟨q, hq, g2, g3, hl⟩ := fld_of hf
  obtain ⟨c1, c2, c3, c4, g5⟩ := cls_ok a _ hq
  split at hs
  · obtain ⟨x, h3, hs⟩ := oo_some hs
    obtain ⟨h3, h4⟩ := hR_at h3
    have hsame : ∀ x, s.fieldFound? (q.2.1 b).1 (q.2.1 b).2.1 (q.2.1 b).2.2.1 = some x → s.fieldFound? q.1 (q.2.1 b).2.1 (q.2.1 b).2.2.1 = some x := fun x h => by rw [g3] at h; exact h
    rcases hl with ⟨-, hl⟩ | ⟨-, hl⟩
    · exact va_get (D := D) (ci := a) (C := q.1) (T := q.2.1) (N := q.2.2) (v := .ref (base + x)) hx hb hts c1 hown hK X.2.1 _ (pW_at h3) hq b g2 (hts _ hl) hsame (by rw [pF_at (by rw [g5]; exact g2), if_pos h2, h4]; rfl) hd (K _ _ _ _ _ _ _ _ _ hs X)
    · exact va_getN (D := D) (ci := a) (C := q.1) (T := q.2.1) (N := q.2.2) (v := .ref (base + x)) hx hb hts c1 hown hK X.2.1 _ (pW_at h3) hq b g2 (va_Nw.use rfl (hnw _ hl)) hsame (by rw [pF_at (by rw [g5]; exact g2), if_pos h2, h4]; rfl) hd (K _ _ _ _ _ _ _ _ _ hs X)
  · cases hs
theorem put_16 {x : Int32} {k : Nat} {r' : List Value} (F : pFx p R s m args meth c M base C0 D cI cQ H0) (X : pMt base b0 D cI cQ H0 (mL M) C0 Z0 ls h LS H locs cells slots) (hd : decode M.2.1 pc = .ok (.putfield (li.getD 0 0), 3)) (h2 : fk a b ≠ 2) (hf : fldB M a b li = true) (hfi : finB M a b li = true) (hk : h.1[k]? = some (.inl a)) (hb2 : fk a b = 0 ∨ fk a b = 1 ∧ (x = 0 ∨ x = 1))
    (kk : ∀ (H1 : Heap) (locs1 : List Loc), pMt base b0 D cI cQ H0 (mL M) C0 Z0 ls (sI h k b x) LS H1 locs1 cells slots → W p l e R s m args below meth c H1 locs1 cells slots Q (F0 m (pc + 3) LS r')) : W p l e R s m args below meth c H locs cells slots Q (F0 m pc LS (.int x :: .ref (base + k) :: r')) := by
  obtain ⟨hx, hb, hml, hown, hts, hnw, hnm, hfr, hlo, hK, hbs, hrt, hsz, hlk⟩ := F
  obtain ⟨q, hq, g2, g3, hl⟩ := fld_of hf
  obtain ⟨c1, c2, c3, c4, g5⟩ := cls_ok a _ hq
  have hsame : ∀ x, s.fieldFound? (q.2.1 b).1 (q.2.1 b).2.1 (q.2.1 b).2.2.1 = some x → s.fieldFound? q.1 (q.2.1 b).2.1 (q.2.1 b).2.2.1 = some x := fun x h => by rw [g3] at h; exact h
  have hty : narrow (pTy a b) (.int x) = .int x ∧ fits (pTy a b) (.int x) = true := by
    have h8 := c4 b g2
    rcases hb2 with h9 | ⟨h9, h10⟩
    · rw [h9] at h8
      generalize pTy a b = t at h8
      cases t <;> first | exact ⟨rfl, rfl⟩ | (simp [tyk] at h8)
    · rw [h9] at h8
      generalize pTy a b = t at h8
      rcases h10 with rfl | rfl <;> cases t <;> first | exact ⟨by decide, by decide⟩ | (simp [tyk] at h8)
  have fin : ∀ (H1 : Heap) (locs1 : List Loc), va_P D vwCl ((pW base cI cQ h).set k (base + k, .inr (a, (pF base h a k).set b (.int x)))) H1 → va_D (fun q => base ≤ q) ((pW base cI cQ h).set k (base + k, .inr (a, (pF base h a k).set b (.int x)))) → va_S (fun q => base ≤ q) H0 H1 locs1 → W p l e R s m args below meth c H1 locs1 cells slots Q (F0 m (pc + 3) LS r') := by
    intro H1 locs1 hP1 hD1 hS1
    have hP2 : va_P D vwCl (pW base cI cQ (sI h k b x)) H1 := by rw [pW_sI hk (by rw [g5]; exact g2) h2]; exact hP1
    exact kk H1 locs1 ⟨pW_lo (Nat.le_trans hbs hS1.1) hP2, hP2, hS1, X.2.2.2.1, X.2.2.2.2⟩
  have hlen : b < (pF base h a k).length := by rw [pF_len, g5]; exact g2
  unfold finB at hfi
  rw [hq] at hfi
  simp only [Bool.or_eq_true, Bool.and_eq_true, Bool.not_eq_true', decide_eq_true_eq] at hfi
  rcases hfi with hff | ⟨⟨f1, f2⟩, f3⟩
  · rcases hl with ⟨-, hl⟩ | ⟨-, hl⟩
    · exact va_put (D := D) (ci := a) (C := q.1) (T := q.2.1) (N := q.2.2) (ty := pTy a b) hx hb hts c1 (pTy a) c2 c3 hown hK X.2.1 pW_D X.2.2.1 k (pW_at hk) hq b g2 (hts _ hl) hsame hff (c2 b g2) hty.1 hty.2 hlen hd fin
    · exact va_putN (D := D) (ci := a) (C := q.1) (T := q.2.1) (N := q.2.2) (ty := pTy a b) hx hb hts c1 (pTy a) c2 c3 hown hK X.2.1 pW_D X.2.2.1 k (pW_at hk) hq b g2 (va_Nw.use rfl (hnw _ hl)) hsame hff (c2 b g2) hty.1 hty.2 hlen hd fin
  · rcases hl with ⟨-, hl⟩ | ⟨hl0, hl⟩
    · by_cases hff : (q.2.1 b).2.2.2 = true
      · exact va_putF (D := D) (ci := a) (C := q.1) (T := q.2.1) (N := q.2.2) (ty := pTy a b) hx hb hts c1 (pTy a) c2 c3 hown hK X.2.1 pW_D X.2.2.1 k (pW_at hk) hq b g2 (hts _ hl) hsame hff (hnm.trans f2) f3 (c2 b g2) hty.1 hty.2 hlen hd fin
      · exact va_put (D := D) (ci := a) (C := q.1) (T := q.2.1) (N := q.2.2) (ty := pTy a b) hx hb hts c1 (pTy a) c2 c3 hown hK X.2.1 pW_D X.2.2.1 k (pW_at hk) hq b g2 (hts _ hl) hsame (by simpa using hff) (c2 b g2) hty.1 hty.2 hlen hd fin
    · rw [hl0] at f1
      cases f1
theorem put_17 {x : Nat} {k : Nat} {r' : List Value} (F : pFx p R s m args meth c M base C0 D cI cQ H0) (X : pMt base b0 D cI cQ H0 (mL M) C0 Z0 ls h LS H locs cells slots) (hd : decode M.2.1 pc = .ok (.putfield (li.getD 0 0), 3)) (h2 : fk a b = 2) (hf : fldB M a b li = true) (hfi : finB M a b li = true) (hk : h.1[k]? = some (.inl a)) 
    (kk : ∀ (H1 : Heap) (locs1 : List Loc), pMt base b0 D cI cQ H0 (mL M) C0 Z0 ls (sR h k b x) LS H1 locs1 cells slots → W p l e R s m args below meth c H1 locs1 cells slots Q (F0 m (pc + 3) LS r')) : W p l e R s m args below meth c H locs cells slots Q (F0 m pc LS (.ref (base + x) :: .ref (base + k) :: r')) := by
  obtain ⟨hx, hb, hml, hown, hts, hnw, hnm, hfr, hlo, hK, hbs, hrt, hsz, hlk⟩ := F
  obtain ⟨q, hq, g2, g3, hl⟩ := fld_of hf
  obtain ⟨c1, c2, c3, c4, g5⟩ := cls_ok a _ hq
  have hsame : ∀ x, s.fieldFound? (q.2.1 b).1 (q.2.1 b).2.1 (q.2.1 b).2.2.1 = some x → s.fieldFound? q.1 (q.2.1 b).2.1 (q.2.1 b).2.2.1 = some x := fun x h => by rw [g3] at h; exact h
  have hty : narrow (pTy a b) (.ref (base + x)) = .ref (base + x) ∧ fits (pTy a b) (.ref (base + x)) = true := by
    have h8 := c4 b g2
    rw [h2] at h8
    generalize pTy a b = t at h8
    cases t <;> first | exact ⟨rfl, rfl⟩ | (simp [tyk] at h8)
  have fin : ∀ (H1 : Heap) (locs1 : List Loc), va_P D vwCl ((pW base cI cQ h).set k (base + k, .inr (a, (pF base h a k).set b (.ref (base + x))))) H1 → va_D (fun q => base ≤ q) ((pW base cI cQ h).set k (base + k, .inr (a, (pF base h a k).set b (.ref (base + x))))) → va_S (fun q => base ≤ q) H0 H1 locs1 → W p l e R s m args below meth c H1 locs1 cells slots Q (F0 m (pc + 3) LS r') := by
    intro H1 locs1 hP1 hD1 hS1
    have hP2 : va_P D vwCl (pW base cI cQ (sR h k b x)) H1 := by rw [pW_sR hk (by rw [g5]; exact g2) h2]; exact hP1
    exact kk H1 locs1 ⟨pW_lo (Nat.le_trans hbs hS1.1) hP2, hP2, hS1, X.2.2.2.1, X.2.2.2.2⟩
  have hlen : b < (pF base h a k).length := by rw [pF_len, g5]; exact g2
  unfold finB at hfi
  rw [hq] at hfi
  simp only [Bool.or_eq_true, Bool.and_eq_true, Bool.not_eq_true', decide_eq_true_eq] at hfi
  rcases hfi with hff | ⟨⟨f1, f2⟩, f3⟩
  · rcases hl with ⟨-, hl⟩ | ⟨-, hl⟩
    · exact va_put (D := D) (ci := a) (C := q.1) (T := q.2.1) (N := q.2.2) (ty := pTy a b) hx hb hts c1 (pTy a) c2 c3 hown hK X.2.1 pW_D X.2.2.1 k (pW_at hk) hq b g2 (hts _ hl) hsame hff (c2 b g2) hty.1 hty.2 hlen hd fin
    · exact va_putN (D := D) (ci := a) (C := q.1) (T := q.2.1) (N := q.2.2) (ty := pTy a b) hx hb hts c1 (pTy a) c2 c3 hown hK X.2.1 pW_D X.2.2.1 k (pW_at hk) hq b g2 (va_Nw.use rfl (hnw _ hl)) hsame hff (c2 b g2) hty.1 hty.2 hlen hd fin
  · rcases hl with ⟨-, hl⟩ | ⟨hl0, hl⟩
    · by_cases hff : (q.2.1 b).2.2.2 = true
      · exact va_putF (D := D) (ci := a) (C := q.1) (T := q.2.1) (N := q.2.2) (ty := pTy a b) hx hb hts c1 (pTy a) c2 c3 hown hK X.2.1 pW_D X.2.2.1 k (pW_at hk) hq b g2 (hts _ hl) hsame hff (hnm.trans f2) f3 (c2 b g2) hty.1 hty.2 hlen hd fin
      · exact va_put (D := D) (ci := a) (C := q.1) (T := q.2.1) (N := q.2.2) (ty := pTy a b) hx hb hts c1 (pTy a) c2 c3 hown hK X.2.1 pW_D X.2.2.1 k (pW_at hk) hq b g2 (hts _ hl) hsame (by simpa using hff) (c2 b g2) hty.1 hty.2 hlen hd fin
    · rw [hl0] at f1
      cases f1
theorem fk_ne9 {q : vw_C} (hq : vwCl[a]? = some q) (hb : b < q.2.2) : fk a b ≠ 9 := by
  have key : ∀ (ci : Nat) (q : vw_C), vwCl[ci]? = some q → ∀ k, k < q.2.2 → fk ci k ≠ 9
    | 0, q, h => by cases h; decide
    | 1, q, h => by cases h; decide
    | 2, q, h => by cases h; decide
    | 3, q, h => by cases h; decide
    | 4, q, h => by cases h; decide
    | 5, q, h => by cases h; decide
    | 6, q, h => by cases h; decide
    | 7, q, h => by cases h; decide
    | k + 8, q, h => by simp [vwCl] at h
  exact key a q hq b hb
theorem tg_16 (F : pFx p R s m args meth c M base C0 D cI cQ H0) (K : pKK p l e R s m args below meth c Q M base b0 D cI cQ H0 C0 Z0 r go) (hs : stp sc none (fun v h => some (v, h)) go cl (pc, len, 16, a, b, v, li) ls st h = some r) (X : pMt base b0 D cI cQ H0 (mL M) C0 Z0 ls h LS H locs cells slots) (hd : decode M.2.1 pc = .ok (exI (pc, len, 16, a, b, v, li), len)) (sd : sdB Ms M (pc, len, 16, a, b, v, li) = true) : W p l e R s m args below meth c H locs cells slots Q (F0 m pc LS (st.map (pv base b0))) := by
  obtain ⟨hx, hb, hml, hown, hts, hnw, hnm, hfr, hlo, hK, hbs, hrt, hsz, hlk⟩ := F
  have hs : (match (generalizing := false) st with
        | .int x :: .ref k :: r => bif Nat.beq (li.getD 2 0) 0 then (if kO h a k = true then go (pc + len) ls r (sI h k b x) else none) else (if kO h a k = true ∧ (x = 0 ∨ x = 1) then go (pc + len) ls r (sI h k b x) else none)
        | _ => none : pR) = some r := hs
  have h1 : ((((len = 3 ∧ fk a b ≠ 2) ∧ fldB M a b li = true) ∧ finB M a b li = true) ∧ fk a b = li.getD 2 0) := by simpa only [sdB, Bool.and_eq_true, decide_eq_true_eq] using sd
  obtain ⟨⟨⟨⟨rfl, h2⟩, hf⟩, hfi⟩, h6⟩ := h1
  have F : pFx p R s m args meth c M base C0 D cI cQ H0 := ⟨hx, hb, hml, hown, hts, hnw, hnm, hfr, hlo, hK, hbs, hrt, hsz, hlk⟩
  split at hs
  · rw [cond_eq_ite] at hs
    split at hs
    · rename_i hz0
      split at hs
      · rename_i hk
        exact put_16 F X hd h2 hf hfi (kO_at hk) (Or.inl (h6.trans (Nat.eq_of_beq_eq_true hz0))) (fun H1 locs1 X1 => K _ _ _ _ _ _ _ _ _ hs X1)
      · cases hs
    · split at hs
      · rename_i hk
        refine put_16 F X hd h2 hf hfi (kO_at hk.1) ?_ (fun H1 locs1 X1 => K _ _ _ _ _ _ _ _ _ hs X1)
        obtain ⟨q, hq, g2, -⟩ := fld_of hf
        have h8 := (cls_ok a _ hq).2.2.2.1 b g2
        have h9 : fk a b = 0 ∨ fk a b = 1 ∨ fk a b = 2 ∨ fk a b = 9 := by
          rw [← h8]
          generalize pTy a b = t
          cases t <;> simp [tyk]
        rcases h9 with h9 | h9 | h9 | h9
        · exact Or.inl h9
        · exact Or.inr ⟨h9, hk.2⟩
        · exact absurd h9 h2
        · exact absurd h9 (by rename_i hz0 hk0; exact fk_ne9 hq g2)
      · cases hs
  · cases hs
theorem tg_17 (F : pFx p R s m args meth c M base C0 D cI cQ H0) (K : pKK p l e R s m args below meth c Q M base b0 D cI cQ H0 C0 Z0 r go) (hs : stp sc none (fun v h => some (v, h)) go cl (pc, len, 17, a, b, v, li) ls st h = some r) (X : pMt base b0 D cI cQ H0 (mL M) C0 Z0 ls h LS H locs cells slots) (hd : decode M.2.1 pc = .ok (exI (pc, len, 17, a, b, v, li), len)) (sd : sdB Ms M (pc, len, 17, a, b, v, li) = true) : W p l e R s m args below meth c H locs cells slots Q (F0 m pc LS (st.map (pv base b0))) := by
  obtain ⟨hx, hb, hml, hown, hts, hnw, hnm, hfr, hlo, hK, hbs, hrt, hsz, hlk⟩ := F
  have hs : (match (generalizing := false) st with
        | .ref x :: .ref k :: r => if kO h a k = true then go (pc + len) ls r (sR h k b x) else none
        | _ => none : pR) = some r := hs
  have h1 : ((len = 3 ∧ fk a b = 2) ∧ fldB M a b li = true) ∧ finB M a b li = true := by simpa only [sdB, Bool.and_eq_true, decide_eq_true_eq] using sd
  obtain ⟨⟨⟨rfl, h2⟩, hf⟩, hfi⟩ := h1
  have F : pFx p R s m args meth c M base C0 D cI cQ H0 := ⟨hx, hb, hml, hown, hts, hnw, hnm, hfr, hlo, hK, hbs, hrt, hsz, hlk⟩
  split at hs
  · split at hs
    · rename_i hk
      exact put_17 F X hd h2 hf hfi (kO_at hk) (fun H1 locs1 X1 => K _ _ _ _ _ _ _ _ _ hs X1)
    · cases hs
  · cases hs
theorem tg_18 (F : pFx p R s m args meth c M base C0 D cI cQ H0) (K : pKK p l e R s m args below meth c Q M base b0 D cI cQ H0 C0 Z0 r go) (hs : stp sc none (fun v h => some (v, h)) go cl (pc, len, 18, a, b, v, li) ls st h = some r) (X : pMt base b0 D cI cQ H0 (mL M) C0 Z0 ls h LS H locs cells slots) (hd : decode M.2.1 pc = .ok (exI (pc, len, 18, a, b, v, li), len)) (sd : sdB Ms M (pc, len, 18, a, b, v, li) = true) : W p l e R s m args below meth c H locs cells slots Q (F0 m pc LS (st.map (pv base b0))) := by
  obtain ⟨hx, hb, hml, hown, hts, hnw, hnm, hfr, hlo, hK, hbs, hrt, hsz, hlk⟩ := F
  have hs : (match (generalizing := false) st with
        | .int x :: .int i :: .ref k :: r => if bA h k i = true then go (pc + len) ls r (sI h k i.toNatClampNeg x) else none
        | _ => none : pR) = some r := hs
  have h1 : len = 1 := by simpa [sdB] using sd
  subst h1
  split at hs
  · split at hs
    · rename_i hk
      obtain ⟨n, h3, h4⟩ := bA_at hk
      refine va_iast hx hb hK X.2.1 pW_D X.2.2.1 _ 0 (pW_at h3) rfl h4 hd (fun H1 locs1 hP1 hD1 hS1 => ?_)
      have hP2 := hP1
      rw [← pW_aI h3] at hP2
      exact K _ _ _ _ _ _ _ _ _ hs ⟨pW_lo (Nat.le_trans hbs hS1.1) hP2, hP2, hS1, X.2.2.2.1, X.2.2.2.2⟩
    · cases hs
  · cases hs
theorem tg_33 (F : pFx p R s m args meth c M base C0 D cI cQ H0) (K : pKK p l e R s m args below meth c Q M base b0 D cI cQ H0 C0 Z0 r go) (hs : stp sc none (fun v h => some (v, h)) go cl (pc, len, 33, a, b, v, li) ls st h = some r) (X : pMt base b0 D cI cQ H0 (mL M) C0 Z0 ls h LS H locs cells slots) (hd : decode M.2.1 pc = .ok (exI (pc, len, 33, a, b, v, li), len)) (sd : sdB Ms M (pc, len, 33, a, b, v, li) = true) : W p l e R s m args below meth c H locs cells slots Q (F0 m pc LS (st.map (pv base b0))) := by
  obtain ⟨hx, hb, hml, hown, hts, hnw, hnm, hfr, hlo, hK, hbs, hrt, hsz, hlk⟩ := F
  have hs : (match (generalizing := false) st with
        | .ref x :: .int i :: .ref k :: r => if bQ h k i x = true then go (pc + len) ls r (sR h k i.toNatClampNeg x) else none
        | _ => none : pR) = some r := hs
  have h1 : len = 1 := by simpa [sdB] using sd
  subst h1
  split at hs
  · split at hs
    · rename_i hk
      obtain ⟨n, h3, h4, h5⟩ := bQ_at hk
      refine va_astq (r := (RX7, TX7, 10)) hx hb hK X.2.1 pW_D X.2.2.1 _ 1 _ 6 (pW_at h3) rfl (pW_at h5) rfl h4 hd (fun H1 locs1 hP1 hD1 hS1 => ?_)
      have hP2 := hP1
      rw [← pW_aR h3] at hP2
      exact K _ _ _ _ _ _ _ _ _ hs ⟨pW_lo (Nat.le_trans hbs hS1.1) hP2, hP2, hS1, X.2.2.2.1, X.2.2.2.2⟩
    · cases hs
  · cases hs
theorem tg_12 (F : pFx p R s m args meth c M base C0 D cI cQ H0) (K : pKK p l e R s m args below meth c Q M base b0 D cI cQ H0 C0 Z0 r go) (hs : stp sc none (fun v h => some (v, h)) go cl (pc, len, 12, a, b, v, li) ls st h = some r) (X : pMt base b0 D cI cQ H0 (mL M) C0 Z0 ls h LS H locs cells slots) (hd : decode M.2.1 pc = .ok (exI (pc, len, 12, a, b, v, li), len)) (sd : sdB Ms M (pc, len, 12, a, b, v, li) = true) (S : pSc sc b0 s H0 base) : W p l e R s m args below meth c H locs cells slots Q (F0 m pc LS (st.map (pv base b0))) := by
  obtain ⟨hx, hb, hml, hown, hts, hnw, hnm, hfr, hlo, hK, hbs, hrt, hsz, hlk⟩ := F
  have hs : (match (generalizing := false) st with
        | .int i :: .ref k :: r => oo none (hA h k i) fun x => go (pc + len) ls (.int x :: r) h
        | .int i :: .null :: r => oo none sc fun q => if inb i q.1 = true then go (pc + len) ls (.int (q.2 i.toNatClampNeg) :: r) h else none
        | _ => none : pR) = some r := hs
  have h1 : len = 1 := by simpa [sdB] using sd
  subst h1
  split at hs
  · obtain ⟨x, h2, hs⟩ := oo_some hs
    obtain ⟨n, h3, h4, h5⟩ := hA_at h2
    subst h5
    exact va_iald hx hb hK X.2.1 _ 0 (pW_at h3) rfl h4 hd (K _ _ _ _ _ _ _ _ _ hs X)
  · obtain ⟨q, h2, hs⟩ := oo_some hs
    obtain ⟨s1, s2, s3⟩ := S q h2
    split at hs
    · rename_i h4
      exact va_sld (A := fun q => base ≤ q) hx hb s1 s2 s3 X.2.2.1 (inb_vp h4) hd (K _ _ _ _ _ _ _ _ _ hs X)
    · cases hs
  · cases hs
theorem tg_26 (F : pFx p R s m args meth c M base C0 D cI cQ H0) (K : pKK p l e R s m args below meth c Q M base b0 D cI cQ H0 C0 Z0 r go) (hs : stp sc none (fun v h => some (v, h)) go cl (pc, len, 26, a, b, v, li) ls st h = some r) (X : pMt base b0 D cI cQ H0 (mL M) C0 Z0 ls h LS H locs cells slots) (hd : decode M.2.1 pc = .ok (exI (pc, len, 26, a, b, v, li), len)) (sd : sdB Ms M (pc, len, 26, a, b, v, li) = true) (S : pSc sc b0 s H0 base) : W p l e R s m args below meth c H locs cells slots Q (F0 m pc LS (st.map (pv base b0))) := by
  obtain ⟨hx, hb, hml, hown, hts, hnw, hnm, hfr, hlo, hK, hbs, hrt, hsz, hlk⟩ := F
  have hs : (match (generalizing := false) st with
        | .ref k :: r => oo none (hN h k) fun x => go (pc + len) ls (.int x :: r) h
        | .null :: r => oo none sc fun q => go (pc + len) ls (.int (Int32.ofNat q.1) :: r) h
        | _ => none : pR) = some r := hs
  have h1 : len = 1 := by simpa [sdB] using sd
  subst h1
  split at hs
  · obtain ⟨x, h2, hs⟩ := oo_some hs
    obtain ⟨n, h3, h5⟩ := hN_at h2
    rcases h3 with h3 | h3
    · exact va_alen hx hb hK X.2.1 _ 0 (pW_at h3) rfl h5 hd (K _ _ _ _ _ _ _ _ _ hs X)
    · exact va_alen hx hb hK X.2.1 _ 1 (pW_at h3) rfl h5 hd (K _ _ _ _ _ _ _ _ _ hs X)
  · obtain ⟨q, h2, hs⟩ := oo_some hs
    obtain ⟨s1, s2, s3⟩ := S q h2
    exact va_slen (A := fun q => base ≤ q) hx hb s1 s2 s3 X.2.2.1 hd (K _ _ _ _ _ _ _ _ _ hs X)
  · cases hs
theorem tg_28 (F : pFx p R s m args meth c M base C0 D cI cQ H0) (K : pKK p l e R s m args below meth c Q M base b0 D cI cQ H0 C0 Z0 r go) (hs : stp sc none (fun v h => some (v, h)) go cl (pc, len, 28, a, b, v, li) ls st h = some r) (X : pMt base b0 D cI cQ H0 (mL M) C0 Z0 ls h LS H locs cells slots) (hd : decode M.2.1 pc = .ok (exI (pc, len, 28, a, b, v, li), len)) (sd : sdB Ms M (pc, len, 28, a, b, v, li) = true) : W p l e R s m args below meth c H locs cells slots Q (F0 m pc LS (st.map (pv base b0))) := by
  obtain ⟨hx, hb, hml, hown, hts, hnw, hnm, hfr, hlo, hK, hbs, hrt, hsz, hlk⟩ := F
  have hs : (match (generalizing := false) st with
        | .int i :: .ref k :: r => oo none (hQ h k i) fun x => go (pc + len) ls (.ref x :: r) h
        | _ => none : pR) = some r := hs
  have h1 : len = 1 := by simpa [sdB] using sd
  subst h1
  split at hs
  · obtain ⟨x, h2, hs⟩ := oo_some hs
    obtain ⟨n, h3, h4, h5⟩ := hQ_at h2
    refine va_aldq hx hb hK X.2.1 _ 1 (pW_at h3) rfl h4 hd ?_
    rw [h5]
    exact K _ _ _ _ _ _ _ _ _ hs X
  · cases hs
end Sound2
