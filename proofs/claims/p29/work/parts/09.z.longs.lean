/-! longs, and the script's cell -/
section Sound4b
variable {p : Program} {l : Launch} {e : Env} {R : Room} {s : State} {m : MethodId} {args : Array Value} {below : List Frame} {meth : Method} {c : Code} {Q : State → Prop}
variable {Ms : List pM} {M : pM} {base b0 : Nat} {D : va_G} {cI cQ : ClassId} {H0 H : Heap} {C0 Z0 : Nat} {r : Option Value × pH} {sc : pX} {go : Nat → pL → List Value → pH → pR} {cl : Nat → List Value → Nat → Nat → pL → List Value → pH → pR}
variable {pc len a b : Nat} {v : Int32} {li : List Nat} {ls : pL} {st : List Value} {h : pH} {LS : Array Slot} {locs : List Loc} {cells slots : Nat}
theorem tg_47 (F : pFx p R s m args meth c M base C0 D cI cQ H0) (K : pKK p l e R s m args below meth c Q M base b0 D cI cQ H0 C0 Z0 r go) (hs : stp sc none (fun v h => some (v, h)) go cl (pc, len, 47, a, b, v, li) ls st h = some r) (X : pMt base b0 D cI cQ H0 (mL M) C0 Z0 ls h LS H locs cells slots) (hd : decode M.2.1 pc = .ok (exI (pc, len, 47, a, b, v, li), len)) (sd : sdB Ms M (pc, len, 47, a, b, v, li) = true) : W p l e R s m args below meth c H locs cells slots Q (F0 m pc LS (st.map (pv base b0))) := by
  obtain ⟨hx, hb, hml, hown, hts, hnw, hnm, hfr, hlo, hK, hbs, hrt, hsz, hlk⟩ := F
  have hs : (match (generalizing := false) st with
        | .int x :: r => go (pc + len) ls (.long x.toInt64 :: r) h
        | _ => none : pR) = some r := hs
  have h1 : len = 1 := by simpa [sdB] using sd
  subst h1
  split at hs
  · exact lv_i2l hx hb hd rfl (K _ _ _ _ _ _ _ _ _ hs X)
  · cases hs
theorem tg_48 (F : pFx p R s m args meth c M base C0 D cI cQ H0) (K : pKK p l e R s m args below meth c Q M base b0 D cI cQ H0 C0 Z0 r go) (hs : stp sc none (fun v h => some (v, h)) go cl (pc, len, 48, a, b, v, li) ls st h = some r) (X : pMt base b0 D cI cQ H0 (mL M) C0 Z0 ls h LS H locs cells slots) (hd : decode M.2.1 pc = .ok (exI (pc, len, 48, a, b, v, li), len)) (sd : sdB Ms M (pc, len, 48, a, b, v, li) = true) : W p l e R s m args below meth c H locs cells slots Q (F0 m pc LS (st.map (pv base b0))) := by
  obtain ⟨hx, hb, hml, hown, hts, hnw, hnm, hfr, hlo, hK, hbs, hrt, hsz, hlk⟩ := F
  obtain ⟨x, h1, hs⟩ := oo_some (o := ldL ls a) hs
  have h2 := X.2.2.2.1.2.2 a _ (ldL_at h1)
  rcases len12 sd with ⟨rfl, h4⟩ | rfl
  · exact lv_lload_n hx hb hd (fin4 h4) h2 (K _ _ _ _ _ _ _ _ _ hs X)
  · exact lv_lload hx hb hd h2 (K _ _ _ _ _ _ _ _ _ hs X)
theorem tg_49 (F : pFx p R s m args meth c M base C0 D cI cQ H0) (K : pKK p l e R s m args below meth c Q M base b0 D cI cQ H0 C0 Z0 r go) (hs : stp sc none (fun v h => some (v, h)) go cl (pc, len, 49, a, b, v, li) ls st h = some r) (X : pMt base b0 D cI cQ H0 (mL M) C0 Z0 ls h LS H locs cells slots) (hd : decode M.2.1 pc = .ok (exI (pc, len, 49, a, b, v, li), len)) (sd : sdB Ms M (pc, len, 49, a, b, v, li) = true) : W p l e R s m args below meth c H locs cells slots Q (F0 m pc LS (st.map (pv base b0))) := by
  obtain ⟨hx, hb, hml, hown, hts, hnw, hnm, hfr, hlo, hK, hbs, hrt, hsz, hlk⟩ := F
  have hs : (match (generalizing := false) st with
        | .long x :: r => bif okS ls a then (frc (stl (stl ls a (some (.long x))) (a + 1) none) fun ls => go (pc + len) ls r h) else none
        | _ => none : pR) = some r := hs
  split at hs
  · rename_i x y z
    simp only [cond_eq_ite, frc_eq] at hs
    split at hs
    · rename_i ho
      have h1 : ((decide (len = 1) && decide (a < 4)) || decide (len = 2)) = true ∧ a + 1 < mL M := by simpa only [sdB, Bool.and_eq_true, decide_eq_true_eq] using sd
      obtain ⟨h1, h5⟩ := h1
      rcases len12 h1 with ⟨rfl, h4⟩ | rfl
      · exact lv_lstore_n (lv := asc base b0 ls) hx hb hd (fin4 h4) (lr_has X.2.2.2.1) h5 rfl (fun ls' hl => K _ _ _ _ _ _ _ _ _ hs ⟨X.1, X.2.1, X.2.2.1, lr_stl2 (v := .long x) ho hl, X.2.2.2.2⟩)
      · exact lv_lstore (lv := asc base b0 ls) hx hb hd (lr_has X.2.2.2.1) h5 rfl (fun ls' hl => K _ _ _ _ _ _ _ _ _ hs ⟨X.1, X.2.1, X.2.2.1, lr_stl2 (v := .long x) ho hl, X.2.2.2.2⟩)
    · cases hs
  · cases hs
theorem tg_50 (F : pFx p R s m args meth c M base C0 D cI cQ H0) (K : pKK p l e R s m args below meth c Q M base b0 D cI cQ H0 C0 Z0 r go) (hs : stp sc none (fun v h => some (v, h)) go cl (pc, len, 50, a, b, v, li) ls st h = some r) (X : pMt base b0 D cI cQ H0 (mL M) C0 Z0 ls h LS H locs cells slots) (hd : decode M.2.1 pc = .ok (exI (pc, len, 50, a, b, v, li), len)) (sd : sdB Ms M (pc, len, 50, a, b, v, li) = true) : W p l e R s m args below meth c H locs cells slots Q (F0 m pc LS (st.map (pv base b0))) := by
  obtain ⟨hx, hb, hml, hown, hts, hnw, hnm, hfr, hlo, hK, hbs, hrt, hsz, hlk⟩ := F
  match b, hd, sd, hs with
  | 0, hd, sd, hs =>
    have h1 : len = 1 ∧ Int64.ofNat ((Fin.ofNat 2 a : Fin 2) : Nat) = v.toInt64 := by simpa only [sdB, Bool.and_eq_true, decide_eq_true_eq] using sd
    obtain ⟨rfl, h1⟩ := h1
    exact lv_lconst hx hb hd h1 (K _ _ _ _ _ _ _ _ _ hs X)
  | b + 1, hd, sd, hs =>
    have h1 : len = 3 ∧ wAt (li.getD 3 0) (.constantLong M.1.cls a v.toInt64) = true := by simpa only [sdB, Bool.and_eq_true, decide_eq_true_eq] using sd
    obtain ⟨rfl, h1⟩ := h1
    exact lv_ldc2 hx hb hown (hts _ (wAt_in h1)) hd (K _ _ _ _ _ _ _ _ _ hs X)
theorem tg_51 (F : pFx p R s m args meth c M base C0 D cI cQ H0) (K : pKK p l e R s m args below meth c Q M base b0 D cI cQ H0 C0 Z0 r go) (hs : stp sc none (fun v h => some (v, h)) go cl (pc, len, 51, a, b, v, li) ls st h = some r) (X : pMt base b0 D cI cQ H0 (mL M) C0 Z0 ls h LS H locs cells slots) (hd : decode M.2.1 pc = .ok (exI (pc, len, 51, a, b, v, li), len)) (sd : sdB Ms M (pc, len, 51, a, b, v, li) = true) : W p l e R s m args below meth c H locs cells slots Q (F0 m pc LS (st.map (pv base b0))) := by
  obtain ⟨hx, hb, hml, hown, hts, hnw, hnm, hfr, hlo, hK, hbs, hrt, hsz, hlk⟩ := F
  have hs : (match (generalizing := false) st with
        | .long y :: .long x :: r => bif Nat.beq b 0 then go (pc + len) ls (.long (x + y) :: r) h else go (pc + len) ls (.long (x * y) :: r) h
        | _ => none : pR) = some r := hs
  have h1 : len = 1 := by simpa [sdB] using sd
  subst h1
  split at hs
  · match b, hd, hs with
    | 0, hd, hs => exact lv_ladd hx hb hd (K _ _ _ _ _ _ _ _ _ hs X)
    | b + 1, hd, hs => exact lv_lmul hx hb hd (K _ _ _ _ _ _ _ _ _ hs X)
  · cases hs
theorem tg_52 (F : pFx p R s m args meth c M base C0 D cI cQ H0) (K : pKK p l e R s m args below meth c Q M base b0 D cI cQ H0 C0 Z0 r go) (hs : stp sc none (fun v h => some (v, h)) go cl (pc, len, 52, a, b, v, li) ls st h = some r) (X : pMt base b0 D cI cQ H0 (mL M) C0 Z0 ls h LS H locs cells slots) (hd : decode M.2.1 pc = .ok (exI (pc, len, 52, a, b, v, li), len)) (sd : sdB Ms M (pc, len, 52, a, b, v, li) = true) : W p l e R s m args below meth c H locs cells slots Q (F0 m pc LS (st.map (pv base b0))) := by
  obtain ⟨hx, hb, hml, hown, hts, hnw, hnm, hfr, hlo, hK, hbs, hrt, hsz, hlk⟩ := F
  have hs : (match (generalizing := false) st with
        | .long y :: .long x :: r => go (pc + len) ls (.int (lg_cmp x y) :: r) h
        | _ => none : pR) = some r := hs
  have h1 : len = 1 := by simpa [sdB] using sd
  subst h1
  split at hs
  · exact W.lcmp hx hb hd (K _ _ _ _ _ _ _ _ _ hs X)
  · cases hs
theorem tg_53 (F : pFx p R s m args meth c M base C0 D cI cQ H0) (K : pKK p l e R s m args below meth c Q M base b0 D cI cQ H0 C0 Z0 r go) (hs : stp sc none (fun v h => some (v, h)) go cl (pc, len, 53, a, b, v, li) ls st h = some r) (X : pMt base b0 D cI cQ H0 (mL M) C0 Z0 ls h LS H locs cells slots) (hd : decode M.2.1 pc = .ok (exI (pc, len, 53, a, b, v, li), len)) (sd : sdB Ms M (pc, len, 53, a, b, v, li) = true) (T : pRT p l e R s m args below meth c Q M base b0 D cI cQ H0 C0 Z0 r) : W p l e R s m args below meth c H locs cells slots Q (F0 m pc LS (st.map (pv base b0))) := by
  obtain ⟨hx, hb, hml, hown, hts, hnw, hnm, hfr, hlo, hK, hbs, hrt, hsz, hlk⟩ := F
  have hs : (match (generalizing := false) st with
        | [.long x] => some (some (.long x), h)
        | _ => none : pR) = some r := hs
  split at hs
  · rename_i x _
    have h1 : len = 1 ∧ mR M = some .long := by simpa only [sdB, Bool.and_eq_true, decide_eq_true_eq] using sd
    obtain ⟨rfl, h2⟩ := h1
    cases hs
    exact T pc .lreturn LS H locs cells slots hd (Or.inr (Or.inr (Or.inr (Or.inr ⟨rfl, x, rfl, h2⟩)))) X.1 X.2.1 X.2.2.1 X.2.2.2.2.1 X.2.2.2.2.2
  · cases hs
theorem d_cell_0 : decode cL_cell 0 = .ok (.iload_n 1, 1) := by decide +kernel
theorem d_cell_1 : decode cL_cell 1 = .ok (.aload_n 0, 1) := by decide +kernel
theorem d_cell_2 : decode cL_cell 2 = .ok (.arraylength, 1) := by decide +kernel
theorem d_cell_3 : decode cL_cell 3 = .ok (.if_icmp .ge 9, 3) := by decide +kernel
theorem d_cell_6 : decode cL_cell 6 = .ok (.aload_n 0, 1) := by decide +kernel
theorem d_cell_7 : decode cL_cell 7 = .ok (.iload_n 1, 1) := by decide +kernel
theorem d_cell_8 : decode cL_cell 8 = .ok (.iaload, 1) := by decide +kernel
theorem d_cell_9 : decode cL_cell 9 = .ok (.goto 15, 3) := by decide +kernel
theorem d_cell_12 : decode cL_cell 12 = .ok (.sipush 7919, 3) := by decide +kernel
theorem d_cell_15 : decode cL_cell 15 = .ok (.iload_n 1, 1) := by decide +kernel
theorem d_cell_16 : decode cL_cell 16 = .ok (.iconst 3, 1) := by decide +kernel
theorem d_cell_17 : decode cL_cell 17 = .ok (.iadd, 1) := by decide +kernel
theorem d_cell_18 : decode cL_cell 18 = .ok (.imul, 1) := by decide +kernel
theorem d_cell_19 : decode cL_cell 19 = .ok (.iload_n 1, 1) := by decide +kernel
theorem d_cell_20 : decode cL_cell 20 = .ok (.bipush 11, 2) := by decide +kernel
theorem d_cell_22 : decode cL_cell 22 = .ok (.iadd, 1) := by decide +kernel
theorem d_cell_23 : decode cL_cell 23 = .ok (.imul, 1) := by decide +kernel
theorem d_cell_24 : decode cL_cell 24 = .ok (.ireturn, 1) := by decide +kernel
/-- the script's cell, as a contract -/
theorem c_cell {b L : Nat} {xs : Nat → Int32} {k : Int32} {Hc : Heap} (hk : ¬ k < 0) (hL : L < 2147483648) : Met l yL_cell (Cond.code yL_cell cL_cell 2 (some .int) :: gW) ({ frames := 0, cells := 0, slots := 0, locals := 0 }) (va_Pc [.ref b, .int k] (fun U => U.heap = Hc ∧ va_X b L xs U Hc ∧ b < Hc.size)) (va_Qi (S := Unit) (fun r _ => r = csv (L, xs) k) (fun _ t => t.heap = Hc) (fun _ => False)) 0 0 (fun _ => False) := by
  refine Met.ofW (cc := cL_cell) (maxL := 2) (ret := some .int) (by decide) rfl ?_
  intro p e s m args below meth c s₁ B hml hv
  obtain ⟨rfl, hH, hX, hbl⟩ := hv
  subst hH
  have hl := lv_entry ([.ref b, .int k]) (n := 2) (Nat.le_of_ble_eq_true rfl)
  rw [lg_entry_eq]
  generalize (lg_sl ([.ref b, .int k]) ++ List.replicate (2 - (lg_sl ([.ref b, .int k])).length) Slot.unset).toArray = ls at hl ⊢
  have l0 := hl.2.2 (0, .ref b) List.mem_cons_self
  have l1 := hl.2.2 (1, .int k) (List.mem_cons_of_mem _ List.mem_cons_self)
  have hS : va_S (fun _ : Nat => False) s.heap s.heap [] := va_S.rf
  have fin : ∀ v : Int32, v = csv (L, xs) k → W p l e (headSpec (Cond.code yL_cell cL_cell 2 (some .int) :: gW) ({ frames := 0, cells := 0, slots := 0, locals := 0 })).room s m [Value.ref b, Value.int k].toArray below meth c s.heap [] 0 0 (MQ below (va_Qi (S := Unit) (fun r _ => r = csv (L, xs) k) (fun _ t => t.heap = s.heap) (fun _ => False)) [Value.ref b, Value.int k].toArray s 0 0 (fun _ => False)) (F0 m 24 ls [.int v]) := fun v hv =>
    W.iret (v := v) B.exec B.bytes B.returns (fun t ht hW => ⟨⟨v, (), rfl, hv, ht⟩, hS.F ht⟩) hS.2.2 d_cell_24 B.notSynchronized
  refine lv_iload_n B.exec B.bytes d_cell_0 rfl l1 ?_
  refine lv_aload_n B.exec B.bytes d_cell_1 rfl l0 ?_
  refine va_slen B.exec B.bytes hX hbl (fun q => q) hS d_cell_2 ?_
  have h2 : Int32.ofNat L ≤ k ↔ L ≤ k.toNatClampNeg := by
    rw [Int32.le_iff_toInt_le, Int32.toInt_ofNat_of_lt (by omega)]
    have h3 : ¬ k.toInt < 0 := fun q => hk (by rw [Int32.lt_iff_toInt_lt]; exact q)
    have h4 : (k.toNatClampNeg : Int) = k.toInt := by
      show (k.toInt.toNat : Int) = _
      omega
    omega
  refine lv_icmp_ge (tgt := 12) B.exec B.bytes d_cell_3 rfl (fun hc => ?_) (fun hc => ?_)
  · have h3 := h2.1 hc
    refine lv_sipush B.exec B.bytes d_cell_12 (v := 7919) (by decide) ?_
    refine lv_iload_n B.exec B.bytes d_cell_15 rfl l1 ?_
    refine lv_iconst B.exec B.bytes d_cell_16 (v := 3) rfl ?_
    refine lv_iadd B.exec B.bytes d_cell_17 ?_
    refine lv_imul B.exec B.bytes d_cell_18 ?_
    refine lv_iload_n B.exec B.bytes d_cell_19 rfl l1 ?_
    refine lv_bipush B.exec B.bytes d_cell_20 (v := 11) (by decide) ?_
    refine lv_iadd B.exec B.bytes d_cell_22 ?_
    refine lv_imul B.exec B.bytes d_cell_23 ?_
    refine fin _ ?_
    unfold csv inb
    rw [if_neg (by simp; intro _; exact h3)]
  · have h3 : k.toNatClampNeg < L := Nat.not_le.mp fun q => hc (h2.2 q)
    have hin : inb k L = true := by
      unfold inb
      simp [hk, h3]
    refine lv_aload_n B.exec B.bytes d_cell_6 rfl l0 ?_
    refine lv_iload_n B.exec B.bytes d_cell_7 rfl l1 ?_
    refine va_sld B.exec B.bytes hX hbl (fun q => q) hS (inb_vp hin) d_cell_8 ?_
    refine lv_goto (tgt := 24) B.exec B.bytes d_cell_9 rfl ?_
    refine fin _ ?_
    unfold csv
    rw [if_pos hin]
theorem cell_np : (parseMethodDescriptor yL_cell.desc).map (fun d => d.parameters.length) = some 2 := by decide +kernel
theorem tg_54 (F : pFx p R s m args meth c M base C0 D cI cQ H0) (K : pKK p l e R s m args below meth c Q M base b0 D cI cQ H0 C0 Z0 r go) (hs : stp sc none (fun v h => some (v, h)) go cl (pc, len, 54, a, b, v, li) ls st h = some r) (X : pMt base b0 D cI cQ H0 (mL M) C0 Z0 ls h LS H locs cells slots) (hd : decode M.2.1 pc = .ok (exI (pc, len, 54, a, b, v, li), len)) (sd : sdB Ms M (pc, len, 54, a, b, v, li) = true) (KM : ∀ pc ls st h, go pc ls st h = some r → hle h r.2) (hRc : r.2.1.length ≤ R.cells + C0) (hRs : hz r.2 ≤ R.slots + Z0) (S : pSc sc b0 s H0 base) : W p l e R s m args below meth c H locs cells slots Q (F0 m pc LS (st.map (pv base b0))) := by
  obtain ⟨hx, hb, hml, hown, hts, hnw, hnm, hfr, hlo, hK, hbs, hrt, hsz, hlk⟩ := F
  have hs : (match (generalizing := false) st with
        | .int i :: .null :: r => oo none sc fun q => if Nat.ble (r.map Value.category).sum 8 = true ∧ ¬ i < 0 ∧ q.1 < 2147483648 then go (pc + len) ls (.int (csv q i) :: r) h else none
        | _ => none : pR) = some r := hs
  have h1 : (((((len = 3 ∧ wAt (li.getD 3 0) (.methodLink M.1.cls (li.getD 0 0) yL_cell) = true) ∧ wAt (li.getD 4 0) (.static yL_cell) = true) ∧ wAt (li.getD 5 0) (.initialized yL_cell.cls) = true) ∧ wAt (li.getD 6 0) (.code yL_cell cL_cell 2 (some .int)) = true) ∧ 1 ≤ mF M) ∧ 21 ≤ mO M := by simpa only [sdB, Bool.and_eq_true, decide_eq_true_eq] using sd
  obtain ⟨⟨⟨⟨⟨⟨rfl, w1⟩, w2⟩, w3⟩, w4⟩, f1⟩, f2⟩ := h1
  split at hs
  · rename_i i r' _
    · obtain ⟨q, hq, hs⟩ := oo_some hs
      split at hs
      · rename_i hi
        obtain ⟨hb8, hi, hL⟩ := hi
        obtain ⟨s1, s2, s3⟩ := S q hq
        have hS0 := X.2.2.1
        have hX : va_X b0 q.1 q.2 s H := s1.kept (hS0.2.1 b0 s2 s3)
        have hbl : b0 < H.size := Nat.lt_of_lt_of_le s2 hS0.1
        have hle2 := KM _ _ _ _ hs
        have a3 := hle2.1
        have a4 := hle2.2
        have x5 := X.2.2.2.2.1
        have x6 := X.2.2.2.2.2
        have hb8 := Nat.le_of_ble_eq_true hb8
        have hG : GoodIn gW (Cond.code yL_cell cL_cell 2 (some .int) :: gW) := fun w hw => by
          rcases List.mem_cons.mp hw with rfl | hw
          · exact gW_good _ (wAt_in w4)
          · exact gW_good _ hw
        refine va_calli (A1 := fun _ => False) (S := Unit) (va_runS (As := [.ref b0, .int i]) (rest := r'.map (pv base b0)) ⟨hx, hb, hml, hown, hts⟩ (c_cell (l := l) (b := b0) (L := q.1) (xs := q.2) (k := i) (Hc := H) hi hL) ⟨⟨rfl, rfl, by show 0 + 1 ≤ R.frames; omega, by show 8 + (2 + 11) + 0 ≤ R.locals; omega, pay_in hts hG, List.mem_cons_self, hts _ (wAt_in w4), hts _ (wAt_in w3), ⟨by decide, by decide⟩, fun sig hsg => ?_, hts _ (wAt_in w1)⟩, hts _ (wAt_in w2)⟩ ⟨?_, fun U hU hW => ⟨rfl, hU, hX.moved hW.alike, hbl⟩⟩ rfl rfl X.2.2.2.1.1 rfl (lv_room (by rw [cats]; exact hb8)) hd ⟨by omega, by omega⟩) hS0 (fun _ _ q => q.elim) (fun _ q => q.elim) ?_
        · have h9 := cell_np
          rw [hsg] at h9
          exact (Option.some.inj h9).symm
        · rintro a U g mk ⟨g1, g2, g3, g4⟩
          exact ⟨g1, g2, g3.moved (u := U) (U := U.calling g mk a) (Vm.Alike.refl U.vm), g4⟩
        · intro rr u t H1 locs1 e1 _ e2 e3 _ _ e4
          have e5 : H1 = H := e1.symm.trans e3
          subst e5
          have e2 : rr = csv q i := e2
          subst e2
          exact K _ _ _ _ _ _ _ _ _ hs ⟨X.1, X.2.1, e4, X.2.2.2⟩
      · cases hs
  · cases hs
end Sound4b
