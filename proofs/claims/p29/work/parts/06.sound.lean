/-! a state of the pure machine and a state of the machine -/
def pMt (base b0 : Nat) (D : va_G) (cI cQ : ClassId) (H0 : Heap) (nL C0 Z0 : Nat) (ls : pL) (h : pH) (LS : Array Slot) (H : Heap) (locs : List Loc) (cells slots : Nat) : Prop :=
  base + h.1.length ≤ H.size ∧ va_P D vwCl (pW base cI cQ h) H ∧ va_S (fun q => base ≤ q) H0 H locs ∧ lr base b0 nL ls LS ∧ cells + C0 = h.1.length ∧ slots + Z0 = hz h
def pFx (p : Program) (R : Room) (s : State) (m : MethodId) (args : Array Value) (meth : Method) (c : Code) (M : pM) (base C0 : Nat) (D : va_G) (cI cQ : ClassId) (H0 : Heap) : Prop :=
  p.tables.exec = Jvm.exec ∧ c.code = M.2.1 ∧ c.maxLocals = mL M ∧ s.vm.findClass M.1.cls = some m.cls ∧ (∀ w ∈ gW, w.before args s = true) ∧ (∀ w ∈ pNt, va_Nw w s) ∧ meth.name = M.1.name ∧ mF M ≤ R.frames ∧ mO M ≤ R.locals ∧ va_K D vwCl [(cI, .int), (cQ, .object "ShelfSpines$Shelf")] s ∧ base ≤ H0.size ∧ mR M = meth.sig.returnType ∧ s.heap.size = base + C0 ∧ meth.locks = false
/-- the script, where there is one -/
def pSc (sc : pX) (b0 : Nat) (s : State) (H0 : Heap) (base : Nat) : Prop := ∀ q, sc = some q → va_X b0 q.1 q.2 s H0 ∧ b0 < H0.size ∧ ¬ base ≤ b0
section Sound
variable {p : Program} {l : Launch} {e : Env} {R : Room} {s : State} {m : MethodId} {args : Array Value} {below : List Frame} {meth : Method} {c : Code} {Q : State → Prop}
variable {Ms : List pM} {M : pM} {base b0 : Nat} {D : va_G} {cI cQ : ClassId} {H0 H : Heap} {C0 Z0 : Nat} {r : Option Value × pH} {sc : pX} {go : Nat → pL → List Value → pH → pR} {cl : Nat → List Value → Nat → Nat → pL → List Value → pH → pR}
variable {pc len a b : Nat} {v : Int32} {li : List Nat} {ls : pL} {st : List Value} {h : pH} {LS : Array Slot} {locs : List Loc} {cells slots : Nat}
def pKK (p : Program) (l : Launch) (e : Env) (R : Room) (s : State) (m : MethodId) (args : Array Value) (below : List Frame) (meth : Method) (c : Code) (Q : State → Prop) (M : pM) (base b0 : Nat) (D : va_G) (cI cQ : ClassId) (H0 : Heap) (C0 Z0 : Nat) (r : Option Value × pH) (go : Nat → pL → List Value → pH → pR) : Prop :=
  ∀ (pc : Nat) (ls : pL) (st : List Value) (h : pH) (LS : Array Slot) (H : Heap) (locs : List Loc) (cells slots : Nat), go pc ls st h = some r → pMt base b0 D cI cQ H0 (mL M) C0 Z0 ls h LS H locs cells slots →
    W p l e R s m args below meth c H locs cells slots Q (F0 m pc LS (st.map (pv base b0)))
theorem len12 {len a : Nat} (h : ((decide (len = 1) && decide (a < 4)) || decide (len = 2)) = true) : (len = 1 ∧ a < 4) ∨ len = 2 := by simpa using h
theorem fin4 {a : Nat} (h : a < 4) : ((Fin.ofNat 4 a : Fin 4) : Nat) = a := Nat.mod_eq_of_lt h
theorem i32_of_toInt (v : Int32) : Int32.ofInt v.toInt = v := Int32.ofInt_toInt v

theorem tg_0 (F : pFx p R s m args meth c M base C0 D cI cQ H0) (K : pKK p l e R s m args below meth c Q M base b0 D cI cQ H0 C0 Z0 r go) (hs : stp sc none (fun v h => some (v, h)) go cl (pc, len, 0, a, b, v, li) ls st h = some r) (X : pMt base b0 D cI cQ H0 (mL M) C0 Z0 ls h LS H locs cells slots) (hd : decode M.2.1 pc = .ok (exI (pc, len, 0, a, b, v, li), len)) (sd : sdB Ms M (pc, len, 0, a, b, v, li) = true) : W p l e R s m args below meth c H locs cells slots Q (F0 m pc LS (st.map (pv base b0))) := by
  obtain ⟨hx, hb, hml, hown, hts, hnw, hnm, hfr, hlo, hK, hbs, hrt, hsz, hlk⟩ := F
  obtain ⟨x, h1, hs⟩ := oo_some (o := ldR ls a) hs
  obtain ⟨h1, h3⟩ := ldR_at h1
  have h2 := X.2.2.2.1.2.2 a _ h1
  rcases h3 with ⟨k, rfl⟩ | rfl <;> rcases len12 sd with ⟨rfl, h4⟩ | rfl
  · exact lv_aload_n hx hb hd (fin4 h4) h2 (K _ _ _ _ _ _ _ _ _ hs X)
  · exact lv_aload hx hb hd h2 (K _ _ _ _ _ _ _ _ _ hs X)
  · exact lv_aload_n hx hb hd (fin4 h4) h2 (K _ _ _ _ _ _ _ _ _ hs X)
  · exact lv_aload hx hb hd h2 (K _ _ _ _ _ _ _ _ _ hs X)
theorem tg_1 (F : pFx p R s m args meth c M base C0 D cI cQ H0) (K : pKK p l e R s m args below meth c Q M base b0 D cI cQ H0 C0 Z0 r go) (hs : stp sc none (fun v h => some (v, h)) go cl (pc, len, 1, a, b, v, li) ls st h = some r) (X : pMt base b0 D cI cQ H0 (mL M) C0 Z0 ls h LS H locs cells slots) (hd : decode M.2.1 pc = .ok (exI (pc, len, 1, a, b, v, li), len)) (sd : sdB Ms M (pc, len, 1, a, b, v, li) = true) : W p l e R s m args below meth c H locs cells slots Q (F0 m pc LS (st.map (pv base b0))) := by
  obtain ⟨hx, hb, hml, hown, hts, hnw, hnm, hfr, hlo, hK, hbs, hrt, hsz, hlk⟩ := F
  obtain ⟨x, h1, hs⟩ := oo_some (o := ldI ls a) hs
  have h2 := X.2.2.2.1.2.2 a _ (ldI_at h1)
  rcases len12 sd with ⟨rfl, h4⟩ | rfl
  · exact lv_iload_n hx hb hd (fin4 h4) h2 (K _ _ _ _ _ _ _ _ _ hs X)
  · exact lv_iload hx hb hd h2 (K _ _ _ _ _ _ _ _ _ hs X)
theorem tg_27 (F : pFx p R s m args meth c M base C0 D cI cQ H0) (K : pKK p l e R s m args below meth c Q M base b0 D cI cQ H0 C0 Z0 r go) (hs : stp sc none (fun v h => some (v, h)) go cl (pc, len, 27, a, b, v, li) ls st h = some r) (X : pMt base b0 D cI cQ H0 (mL M) C0 Z0 ls h LS H locs cells slots) (hd : decode M.2.1 pc = .ok (exI (pc, len, 27, a, b, v, li), len)) (sd : sdB Ms M (pc, len, 27, a, b, v, li) = true) : W p l e R s m args below meth c H locs cells slots Q (F0 m pc LS (st.map (pv base b0))) := by
  obtain ⟨hx, hb, hml, hown, hts, hnw, hnm, hfr, hlo, hK, hbs, hrt, hsz, hlk⟩ := F
  obtain ⟨x, h1, hs⟩ := oo_some (o := ldD ls a) hs
  have h2 := X.2.2.2.1.2.2 a _ (ldD_at h1)
  rcases len12 sd with ⟨rfl, h4⟩ | rfl
  · exact lv_dload_n hx hb hd (fin4 h4) h2 (K _ _ _ _ _ _ _ _ _ hs X)
  · exact lv_dload hx hb hd h2 (K _ _ _ _ _ _ _ _ _ hs X)
theorem tg_4 (F : pFx p R s m args meth c M base C0 D cI cQ H0) (K : pKK p l e R s m args below meth c Q M base b0 D cI cQ H0 C0 Z0 r go) (hs : stp sc none (fun v h => some (v, h)) go cl (pc, len, 4, a, b, v, li) ls st h = some r) (X : pMt base b0 D cI cQ H0 (mL M) C0 Z0 ls h LS H locs cells slots) (hd : decode M.2.1 pc = .ok (exI (pc, len, 4, a, b, v, li), len)) (sd : sdB Ms M (pc, len, 4, a, b, v, li) = true) : W p l e R s m args below meth c H locs cells slots Q (F0 m pc LS (st.map (pv base b0))) := by
  obtain ⟨hx, hb, hml, hown, hts, hnw, hnm, hfr, hlo, hK, hbs, hrt, hsz, hlk⟩ := F
  match b, hd, sd, hs with
  | 0, hd, sd, hs =>
    have h1 : len = 1 := by simpa [sdB] using sd
    subst h1
    exact lv_iconst hx hb hd (i32_of_toInt v) (K _ _ _ _ _ _ _ _ _ hs X)
  | 1, hd, sd, hs =>
    have h1 : len = 2 ∧ (Int8.ofInt v.toInt).toInt32 = v := by simpa only [sdB, Bool.and_eq_true, decide_eq_true_eq] using sd
    obtain ⟨rfl, h1⟩ := h1
    exact lv_bipush hx hb hd h1 (K _ _ _ _ _ _ _ _ _ hs X)
  | 2, hd, sd, hs =>
    have h1 : len = 3 ∧ (Int16.ofInt v.toInt).toInt32 = v := by simpa only [sdB, Bool.and_eq_true, decide_eq_true_eq] using sd
    obtain ⟨rfl, h1⟩ := h1
    exact lv_sipush hx hb hd h1 (K _ _ _ _ _ _ _ _ _ hs X)
  | 3, hd, sd, hs =>
    have h1 : len = 2 ∧ wAt (li.getD 3 0) (.constant M.1.cls a v) = true := by simpa only [sdB, Bool.and_eq_true, decide_eq_true_eq] using sd
    obtain ⟨rfl, h1⟩ := h1
    exact lv_ldc hx hb hown (hts _ (wAt_in h1)) hd (K _ _ _ _ _ _ _ _ _ hs X)
  | b + 4, hd, sd, hs =>
    have h1 : len = 3 ∧ wAt (li.getD 3 0) (.constant M.1.cls a v) = true := by simpa only [sdB, Bool.and_eq_true, decide_eq_true_eq] using sd
    obtain ⟨rfl, h1⟩ := h1
    exact lv_ldcw hx hb hown (hts _ (wAt_in h1)) hd (K _ _ _ _ _ _ _ _ _ hs X)
theorem tg_5 (F : pFx p R s m args meth c M base C0 D cI cQ H0) (K : pKK p l e R s m args below meth c Q M base b0 D cI cQ H0 C0 Z0 r go) (hs : stp sc none (fun v h => some (v, h)) go cl (pc, len, 5, a, b, v, li) ls st h = some r) (X : pMt base b0 D cI cQ H0 (mL M) C0 Z0 ls h LS H locs cells slots) (hd : decode M.2.1 pc = .ok (exI (pc, len, 5, a, b, v, li), len)) (sd : sdB Ms M (pc, len, 5, a, b, v, li) = true) : W p l e R s m args below meth c H locs cells slots Q (F0 m pc LS (st.map (pv base b0))) := by
  obtain ⟨hx, hb, hml, hown, hts, hnw, hnm, hfr, hlo, hK, hbs, hrt, hsz, hlk⟩ := F
  have h1 : len = 3 := by simpa [sdB] using sd
  subst h1
  exact lv_goto hx hb hd (by omega) (K _ _ _ _ _ _ _ _ _ hs X)
theorem tg_10 (F : pFx p R s m args meth c M base C0 D cI cQ H0) (K : pKK p l e R s m args below meth c Q M base b0 D cI cQ H0 C0 Z0 r go) (hs : stp sc none (fun v h => some (v, h)) go cl (pc, len, 10, a, b, v, li) ls st h = some r) (X : pMt base b0 D cI cQ H0 (mL M) C0 Z0 ls h LS H locs cells slots) (hd : decode M.2.1 pc = .ok (exI (pc, len, 10, a, b, v, li), len)) (sd : sdB Ms M (pc, len, 10, a, b, v, li) = true) : W p l e R s m args below meth c H locs cells slots Q (F0 m pc LS (st.map (pv base b0))) := by
  obtain ⟨hx, hb, hml, hown, hts, hnw, hnm, hfr, hlo, hK, hbs, hrt, hsz, hlk⟩ := F
  have hs : (match (generalizing := false) st with
        | .int x :: r => bif okS ls a then (frc (stl ls a (some (.int x))) fun ls => go (pc + len) ls r h) else none
        | _ => none : pR) = some r := hs
  split at hs
  · rename_i x y z
    simp only [cond_eq_ite, frc_eq] at hs
    split at hs
    · rename_i ho
      have h1 : ((decide (len = 1) && decide (a < 4)) || decide (len = 2)) = true ∧ a < mL M := by simpa only [sdB, Bool.and_eq_true, decide_eq_true_eq] using sd
      obtain ⟨h1, h5⟩ := h1
      rcases len12 h1 with ⟨rfl, h4⟩ | rfl
      · exact lv_istore_n (lv := asc base b0 ls) hx hb hd (fin4 h4) (lr_has X.2.2.2.1) h5 rfl (fun ls' hl => K _ _ _ _ _ _ _ _ _ hs ⟨X.1, X.2.1, X.2.2.1, lr_stl1 (v := .int x) ho hl, X.2.2.2.2⟩)
      · exact lv_istore (lv := asc base b0 ls) hx hb hd (lr_has X.2.2.2.1) h5 rfl (fun ls' hl => K _ _ _ _ _ _ _ _ _ hs ⟨X.1, X.2.1, X.2.2.1, lr_stl1 (v := .int x) ho hl, X.2.2.2.2⟩)
    · cases hs
  · cases hs
theorem tg_23 (F : pFx p R s m args meth c M base C0 D cI cQ H0) (K : pKK p l e R s m args below meth c Q M base b0 D cI cQ H0 C0 Z0 r go) (hs : stp sc none (fun v h => some (v, h)) go cl (pc, len, 23, a, b, v, li) ls st h = some r) (X : pMt base b0 D cI cQ H0 (mL M) C0 Z0 ls h LS H locs cells slots) (hd : decode M.2.1 pc = .ok (exI (pc, len, 23, a, b, v, li), len)) (sd : sdB Ms M (pc, len, 23, a, b, v, li) = true) : W p l e R s m args below meth c H locs cells slots Q (F0 m pc LS (st.map (pv base b0))) := by
  obtain ⟨hx, hb, hml, hown, hts, hnw, hnm, hfr, hlo, hK, hbs, hrt, hsz, hlk⟩ := F
  have hs : (match (generalizing := false) st with
        | .ref x :: r => bif okS ls a then (frc (stl ls a (some (.ref x))) fun ls => go (pc + len) ls r h) else none
        | _ => none : pR) = some r := hs
  split at hs
  · rename_i x y z
    simp only [cond_eq_ite, frc_eq] at hs
    split at hs
    · rename_i ho
      have h1 : ((decide (len = 1) && decide (a < 4)) || decide (len = 2)) = true ∧ a < mL M := by simpa only [sdB, Bool.and_eq_true, decide_eq_true_eq] using sd
      obtain ⟨h1, h5⟩ := h1
      rcases len12 h1 with ⟨rfl, h4⟩ | rfl
      · exact lv_astore_n (lv := asc base b0 ls) hx hb hd (fin4 h4) (lr_has X.2.2.2.1) h5 rfl (fun ls' hl => K _ _ _ _ _ _ _ _ _ hs ⟨X.1, X.2.1, X.2.2.1, lr_stl1 (v := .ref x) ho hl, X.2.2.2.2⟩)
      · exact lv_astore (lv := asc base b0 ls) hx hb hd (lr_has X.2.2.2.1) h5 rfl (fun ls' hl => K _ _ _ _ _ _ _ _ _ hs ⟨X.1, X.2.1, X.2.2.1, lr_stl1 (v := .ref x) ho hl, X.2.2.2.2⟩)
    · cases hs
  · cases hs
theorem tg_35 (F : pFx p R s m args meth c M base C0 D cI cQ H0) (K : pKK p l e R s m args below meth c Q M base b0 D cI cQ H0 C0 Z0 r go) (hs : stp sc none (fun v h => some (v, h)) go cl (pc, len, 35, a, b, v, li) ls st h = some r) (X : pMt base b0 D cI cQ H0 (mL M) C0 Z0 ls h LS H locs cells slots) (hd : decode M.2.1 pc = .ok (exI (pc, len, 35, a, b, v, li), len)) (sd : sdB Ms M (pc, len, 35, a, b, v, li) = true) : W p l e R s m args below meth c H locs cells slots Q (F0 m pc LS (st.map (pv base b0))) := by
  obtain ⟨hx, hb, hml, hown, hts, hnw, hnm, hfr, hlo, hK, hbs, hrt, hsz, hlk⟩ := F
  have hs : (match (generalizing := false) st with
        | .double x :: r => bif okS ls a then (frc (stl (stl ls a (some (.double x))) (a + 1) none) fun ls => go (pc + len) ls r h) else none
        | _ => none : pR) = some r := hs
  split at hs
  · rename_i x y z
    simp only [cond_eq_ite, frc_eq] at hs
    split at hs
    · rename_i ho
      have h1 : ((decide (len = 1) && decide (a < 4)) || decide (len = 2)) = true ∧ a + 1 < mL M := by simpa only [sdB, Bool.and_eq_true, decide_eq_true_eq] using sd
      obtain ⟨h1, h5⟩ := h1
      rcases len12 h1 with ⟨rfl, h4⟩ | rfl
      · exact lv_dstore_n (lv := asc base b0 ls) hx hb hd (fin4 h4) (lr_has X.2.2.2.1) h5 rfl (fun ls' hl => K _ _ _ _ _ _ _ _ _ hs ⟨X.1, X.2.1, X.2.2.1, lr_stl2 (v := .double x) ho hl, X.2.2.2.2⟩)
      · exact lv_dstore (lv := asc base b0 ls) hx hb hd (lr_has X.2.2.2.1) h5 rfl (fun ls' hl => K _ _ _ _ _ _ _ _ _ hs ⟨X.1, X.2.1, X.2.2.1, lr_stl2 (v := .double x) ho hl, X.2.2.2.2⟩)
    · cases hs
  · cases hs
theorem tg_15 (F : pFx p R s m args meth c M base C0 D cI cQ H0) (K : pKK p l e R s m args below meth c Q M base b0 D cI cQ H0 C0 Z0 r go) (hs : stp sc none (fun v h => some (v, h)) go cl (pc, len, 15, a, b, v, li) ls st h = some r) (X : pMt base b0 D cI cQ H0 (mL M) C0 Z0 ls h LS H locs cells slots) (hd : decode M.2.1 pc = .ok (exI (pc, len, 15, a, b, v, li), len)) (sd : sdB Ms M (pc, len, 15, a, b, v, li) = true) : W p l e R s m args below meth c H locs cells slots Q (F0 m pc LS (st.map (pv base b0))) := by
  obtain ⟨hx, hb, hml, hown, hts, hnw, hnm, hfr, hlo, hK, hbs, hrt, hsz, hlk⟩ := F
  obtain ⟨x, h1, hs⟩ := oo_some (o := ldI ls a) hs
  simp only [cond_eq_ite, frc_eq] at hs
  split at hs
  · rename_i ho
    have h5 : len = 3 ∧ a < mL M := by simpa only [sdB, Bool.and_eq_true, decide_eq_true_eq] using sd
    obtain ⟨rfl, h5⟩ := h5
    have h6 : (a, Value.int x) ∈ asc base b0 ls := asc_mem.mpr ⟨.int x, ldI_at h1, rfl⟩
    obtain ⟨q, h7⟩ := List.getElem?_of_mem h6
    exact lv_iinc (lv := asc base b0 ls) (v := x + v) hx hb hd (lr_has X.2.2.2.1) h7 (by rw [i32_of_toInt]) h5 rfl (fun ls' hl => K _ _ _ _ _ _ _ _ _ hs ⟨X.1, X.2.1, X.2.2.1, lr_stl1 (v := .int (x + v)) ho hl, X.2.2.2.2⟩)
  · cases hs
theorem tg_11 (F : pFx p R s m args meth c M base C0 D cI cQ H0) (K : pKK p l e R s m args below meth c Q M base b0 D cI cQ H0 C0 Z0 r go) (hs : stp sc none (fun v h => some (v, h)) go cl (pc, len, 11, a, b, v, li) ls st h = some r) (X : pMt base b0 D cI cQ H0 (mL M) C0 Z0 ls h LS H locs cells slots) (hd : decode M.2.1 pc = .ok (exI (pc, len, 11, a, b, v, li), len)) (sd : sdB Ms M (pc, len, 11, a, b, v, li) = true) : W p l e R s m args below meth c H locs cells slots Q (F0 m pc LS (st.map (pv base b0))) := by
  obtain ⟨hx, hb, hml, hown, hts, hnw, hnm, hfr, hlo, hK, hbs, hrt, hsz, hlk⟩ := F
  have hs : (match (generalizing := false) st with
        | .int y :: .int x :: r => bop b x y fun z => go (pc + len) ls (.int z :: r) h
        | _ => none : pR) = some r := hs
  have h1 : len = 1 := by simpa [sdB] using sd
  subst h1
  split at hs
  · match b, hd, hs with
    | 0, hd, hs => exact lv_iadd hx hb hd (K _ _ _ _ _ _ _ _ _ hs X)
    | 1, hd, hs => exact lv_isub hx hb hd (K _ _ _ _ _ _ _ _ _ hs X)
    | 2, hd, hs => exact lv_imul hx hb hd (K _ _ _ _ _ _ _ _ _ hs X)
    | 3, hd, hs => exact lv_iand hx hb hd (K _ _ _ _ _ _ _ _ _ hs X)
    | 4, hd, hs => exact lv_ior hx hb hd (K _ _ _ _ _ _ _ _ _ hs X)
    | 5, hd, hs => exact lv_ixor hx hb hd (K _ _ _ _ _ _ _ _ _ hs X)
    | 6, hd, hs => exact lv_ishl hx hb hd (K _ _ _ _ _ _ _ _ _ hs X)
    | 7, hd, hs => exact lv_ishr hx hb hd (K _ _ _ _ _ _ _ _ _ hs X)
    | b + 8, hd, hs => exact lv_iushr hx hb hd rfl (K _ _ _ _ _ _ _ _ _ hs X)
  · cases hs
theorem tg_43 (F : pFx p R s m args meth c M base C0 D cI cQ H0) (K : pKK p l e R s m args below meth c Q M base b0 D cI cQ H0 C0 Z0 r go) (hs : stp sc none (fun v h => some (v, h)) go cl (pc, len, 43, a, b, v, li) ls st h = some r) (X : pMt base b0 D cI cQ H0 (mL M) C0 Z0 ls h LS H locs cells slots) (hd : decode M.2.1 pc = .ok (exI (pc, len, 43, a, b, v, li), len)) (sd : sdB Ms M (pc, len, 43, a, b, v, li) = true) : W p l e R s m args below meth c H locs cells slots Q (F0 m pc LS (st.map (pv base b0))) := by
  obtain ⟨hx, hb, hml, hown, hts, hnw, hnm, hfr, hlo, hK, hbs, hrt, hsz, hlk⟩ := F
  have hs : (match (generalizing := false) st with
        | .int y :: .int x :: r => if y = 0 then none else go (pc + len) ls (.int (x / y) :: r) h
        | _ => none : pR) = some r := hs
  have h1 : len = 1 := by simpa [sdB] using sd
  subst h1
  split at hs
  · split at hs
    · cases hs
    · rename_i hne
      exact lv_idiv hx hb hd hne (K _ _ _ _ _ _ _ _ _ hs X)
  · cases hs
theorem tg_44 (F : pFx p R s m args meth c M base C0 D cI cQ H0) (K : pKK p l e R s m args below meth c Q M base b0 D cI cQ H0 C0 Z0 r go) (hs : stp sc none (fun v h => some (v, h)) go cl (pc, len, 44, a, b, v, li) ls st h = some r) (X : pMt base b0 D cI cQ H0 (mL M) C0 Z0 ls h LS H locs cells slots) (hd : decode M.2.1 pc = .ok (exI (pc, len, 44, a, b, v, li), len)) (sd : sdB Ms M (pc, len, 44, a, b, v, li) = true) : W p l e R s m args below meth c H locs cells slots Q (F0 m pc LS (st.map (pv base b0))) := by
  obtain ⟨hx, hb, hml, hown, hts, hnw, hnm, hfr, hlo, hK, hbs, hrt, hsz, hlk⟩ := F
  have hs : (match (generalizing := false) st with
        | .int y :: .int x :: r => if y = 0 then none else go (pc + len) ls (.int (x - x / y * y) :: r) h
        | _ => none : pR) = some r := hs
  have h1 : len = 1 := by simpa [sdB] using sd
  subst h1
  split at hs
  · split at hs
    · cases hs
    · rename_i hne
      exact lv_irem hx hb hd hne (K _ _ _ _ _ _ _ _ _ hs X)
  · cases hs
theorem tg_13 (F : pFx p R s m args meth c M base C0 D cI cQ H0) (K : pKK p l e R s m args below meth c Q M base b0 D cI cQ H0 C0 Z0 r go) (hs : stp sc none (fun v h => some (v, h)) go cl (pc, len, 13, a, b, v, li) ls st h = some r) (X : pMt base b0 D cI cQ H0 (mL M) C0 Z0 ls h LS H locs cells slots) (hd : decode M.2.1 pc = .ok (exI (pc, len, 13, a, b, v, li), len)) (sd : sdB Ms M (pc, len, 13, a, b, v, li) = true) : W p l e R s m args below meth c H locs cells slots Q (F0 m pc LS (st.map (pv base b0))) := by
  obtain ⟨hx, hb, hml, hown, hts, hnw, hnm, hfr, hlo, hK, hbs, hrt, hsz, hlk⟩ := F
  have hs : (match (generalizing := false) st with
        | .int y :: .int x :: r => match (generalizing := false) b with
          | 0 => if x = y then go a ls r h else go (pc + len) ls r h
          | 1 => if x = y then go (pc + len) ls r h else go a ls r h
          | 2 => if x < y then go a ls r h else go (pc + len) ls r h
          | 3 => if y ≤ x then go a ls r h else go (pc + len) ls r h
          | 4 => if y < x then go a ls r h else go (pc + len) ls r h
          | _ => if x ≤ y then go a ls r h else go (pc + len) ls r h
        | _ => none : pR) = some r := hs
  have h1 : len = 3 := by simpa [sdB] using sd
  subst h1
  split at hs
  · match b, hd, hs with
    | 0, hd, hs =>
      refine lv_icmp_eq (tgt := a) hx hb hd (by omega) (fun hc => ?_) (fun hc => ?_)
      · exact K _ _ _ _ _ _ _ _ _ ((if_pos hc).symm.trans hs) X
      · exact K _ _ _ _ _ _ _ _ _ ((if_neg hc).symm.trans hs) X
    | 1, hd, hs =>
      refine lv_icmp_ne (tgt := a) hx hb hd (by omega) (fun hc => ?_) (fun hc => ?_)
      · exact K _ _ _ _ _ _ _ _ _ ((if_neg hc).symm.trans hs) X
      · exact K _ _ _ _ _ _ _ _ _ ((if_pos hc).symm.trans hs) X
    | 2, hd, hs =>
      refine lv_icmp_lt (tgt := a) hx hb hd (by omega) (fun hc => ?_) (fun hc => ?_)
      · exact K _ _ _ _ _ _ _ _ _ ((if_pos hc).symm.trans hs) X
      · exact K _ _ _ _ _ _ _ _ _ ((if_neg hc).symm.trans hs) X
    | 3, hd, hs =>
      refine lv_icmp_ge (tgt := a) hx hb hd (by omega) (fun hc => ?_) (fun hc => ?_)
      · exact K _ _ _ _ _ _ _ _ _ ((if_pos hc).symm.trans hs) X
      · exact K _ _ _ _ _ _ _ _ _ ((if_neg hc).symm.trans hs) X
    | 4, hd, hs =>
      refine lv_icmp_gt (tgt := a) hx hb hd (by omega) (fun hc => ?_) (fun hc => ?_)
      · exact K _ _ _ _ _ _ _ _ _ ((if_pos hc).symm.trans hs) X
      · exact K _ _ _ _ _ _ _ _ _ ((if_neg hc).symm.trans hs) X
    | b + 5, hd, hs =>
      refine lv_icmp_le (tgt := a) hx hb hd (by omega) (fun hc => ?_) (fun hc => ?_)
      · exact K _ _ _ _ _ _ _ _ _ ((if_pos hc).symm.trans hs) X
      · exact K _ _ _ _ _ _ _ _ _ ((if_neg hc).symm.trans hs) X
  · cases hs
theorem tg_14 (F : pFx p R s m args meth c M base C0 D cI cQ H0) (K : pKK p l e R s m args below meth c Q M base b0 D cI cQ H0 C0 Z0 r go) (hs : stp sc none (fun v h => some (v, h)) go cl (pc, len, 14, a, b, v, li) ls st h = some r) (X : pMt base b0 D cI cQ H0 (mL M) C0 Z0 ls h LS H locs cells slots) (hd : decode M.2.1 pc = .ok (exI (pc, len, 14, a, b, v, li), len)) (sd : sdB Ms M (pc, len, 14, a, b, v, li) = true) : W p l e R s m args below meth c H locs cells slots Q (F0 m pc LS (st.map (pv base b0))) := by
  obtain ⟨hx, hb, hml, hown, hts, hnw, hnm, hfr, hlo, hK, hbs, hrt, hsz, hlk⟩ := F
  have hs : (match (generalizing := false) st with
        | .int x :: r => match (generalizing := false) b with
          | 0 => if x = 0 then go a ls r h else go (pc + len) ls r h
          | 1 => if x = 0 then go (pc + len) ls r h else go a ls r h
          | 2 => if x < 0 then go a ls r h else go (pc + len) ls r h
          | 3 => if 0 ≤ x then go a ls r h else go (pc + len) ls r h
          | 4 => if 0 < x then go a ls r h else go (pc + len) ls r h
          | _ => if x ≤ 0 then go a ls r h else go (pc + len) ls r h
        | _ => none : pR) = some r := hs
  have h1 : len = 3 := by simpa [sdB] using sd
  subst h1
  split at hs
  · match b, hd, hs with
    | 0, hd, hs =>
      refine lv_if_eq (tgt := a) hx hb hd (by omega) (fun hc => ?_) (fun hc => ?_)
      · exact K _ _ _ _ _ _ _ _ _ ((if_pos hc).symm.trans hs) X
      · exact K _ _ _ _ _ _ _ _ _ ((if_neg hc).symm.trans hs) X
    | 1, hd, hs =>
      refine lv_if_ne (tgt := a) hx hb hd (by omega) (fun hc => ?_) (fun hc => ?_)
      · exact K _ _ _ _ _ _ _ _ _ ((if_neg hc).symm.trans hs) X
      · exact K _ _ _ _ _ _ _ _ _ ((if_pos hc).symm.trans hs) X
    | 2, hd, hs =>
      refine lv_if_lt (tgt := a) hx hb hd (by omega) (fun hc => ?_) (fun hc => ?_)
      · exact K _ _ _ _ _ _ _ _ _ ((if_pos hc).symm.trans hs) X
      · exact K _ _ _ _ _ _ _ _ _ ((if_neg hc).symm.trans hs) X
    | 3, hd, hs =>
      refine lv_if_ge (tgt := a) hx hb hd (by omega) (fun hc => ?_) (fun hc => ?_)
      · exact K _ _ _ _ _ _ _ _ _ ((if_pos hc).symm.trans hs) X
      · exact K _ _ _ _ _ _ _ _ _ ((if_neg hc).symm.trans hs) X
    | 4, hd, hs =>
      refine lv_if_gt (tgt := a) hx hb hd (by omega) (fun hc => ?_) (fun hc => ?_)
      · exact K _ _ _ _ _ _ _ _ _ ((if_pos hc).symm.trans hs) X
      · exact K _ _ _ _ _ _ _ _ _ ((if_neg hc).symm.trans hs) X
    | b + 5, hd, hs =>
      refine lv_if_le (tgt := a) hx hb hd (by omega) (fun hc => ?_) (fun hc => ?_)
      · exact K _ _ _ _ _ _ _ _ _ ((if_pos hc).symm.trans hs) X
      · exact K _ _ _ _ _ _ _ _ _ ((if_neg hc).symm.trans hs) X
  · cases hs
theorem tg_29 (F : pFx p R s m args meth c M base C0 D cI cQ H0) (K : pKK p l e R s m args below meth c Q M base b0 D cI cQ H0 C0 Z0 r go) (hs : stp sc none (fun v h => some (v, h)) go cl (pc, len, 29, a, b, v, li) ls st h = some r) (X : pMt base b0 D cI cQ H0 (mL M) C0 Z0 ls h LS H locs cells slots) (hd : decode M.2.1 pc = .ok (exI (pc, len, 29, a, b, v, li), len)) (sd : sdB Ms M (pc, len, 29, a, b, v, li) = true) : W p l e R s m args below meth c H locs cells slots Q (F0 m pc LS (st.map (pv base b0))) := by
  obtain ⟨hx, hb, hml, hown, hts, hnw, hnm, hfr, hlo, hK, hbs, hrt, hsz, hlk⟩ := F
  have hs : (match (generalizing := false) st with
        | .int x :: r => go (pc + len) ls (.double (FP.i2d x) :: r) h
        | _ => none : pR) = some r := hs
  have h1 : len = 1 := by simpa [sdB] using sd
  subst h1
  split at hs
  · exact lv_i2d hx hb hd (K _ _ _ _ _ _ _ _ _ hs X)
  · cases hs
theorem tg_32 (F : pFx p R s m args meth c M base C0 D cI cQ H0) (K : pKK p l e R s m args below meth c Q M base b0 D cI cQ H0 C0 Z0 r go) (hs : stp sc none (fun v h => some (v, h)) go cl (pc, len, 32, a, b, v, li) ls st h = some r) (X : pMt base b0 D cI cQ H0 (mL M) C0 Z0 ls h LS H locs cells slots) (hd : decode M.2.1 pc = .ok (exI (pc, len, 32, a, b, v, li), len)) (sd : sdB Ms M (pc, len, 32, a, b, v, li) = true) : W p l e R s m args below meth c H locs cells slots Q (F0 m pc LS (st.map (pv base b0))) := by
  obtain ⟨hx, hb, hml, hown, hts, hnw, hnm, hfr, hlo, hK, hbs, hrt, hsz, hlk⟩ := F
  have hs : (match (generalizing := false) st with
        | .double y :: .double x :: r => go (pc + len) ls (.int (Op.cmpValue (FP.dcmp x y) .l) :: r) h
        | _ => none : pR) = some r := hs
  have h1 : len = 1 := by simpa [sdB] using sd
  subst h1
  split at hs
  · exact lv_dcmp hx hb hd (K _ _ _ _ _ _ _ _ _ hs X)
  · cases hs
theorem tg_37 (F : pFx p R s m args meth c M base C0 D cI cQ H0) (K : pKK p l e R s m args below meth c Q M base b0 D cI cQ H0 C0 Z0 r go) (hs : stp sc none (fun v h => some (v, h)) go cl (pc, len, 37, a, b, v, li) ls st h = some r) (X : pMt base b0 D cI cQ H0 (mL M) C0 Z0 ls h LS H locs cells slots) (hd : decode M.2.1 pc = .ok (exI (pc, len, 37, a, b, v, li), len)) (sd : sdB Ms M (pc, len, 37, a, b, v, li) = true) : W p l e R s m args below meth c H locs cells slots Q (F0 m pc LS (st.map (pv base b0))) := by
  obtain ⟨hx, hb, hml, hown, hts, hnw, hnm, hfr, hlo, hK, hbs, hrt, hsz, hlk⟩ := F
  have hs : (match (generalizing := false) st with
        | .double y :: .double x :: r => if FP.ddiv x y &&& 0x7fffffffffffffff ≤ 0x7ff0000000000000 then go (pc + len) ls (.double (FP.ddiv x y) :: r) h else none
        | _ => none : pR) = some r := hs
  have h1 : len = 1 := by simpa [sdB] using sd
  subst h1
  split at hs
  · split at hs
    · rename_i hne
      exact lv_ddiv hx hb hd hne (K _ _ _ _ _ _ _ _ _ hs X)
    · cases hs
  · cases hs
theorem tg_40 (F : pFx p R s m args meth c M base C0 D cI cQ H0) (K : pKK p l e R s m args below meth c Q M base b0 D cI cQ H0 C0 Z0 r go) (hs : stp sc none (fun v h => some (v, h)) go cl (pc, len, 40, a, b, v, li) ls st h = some r) (X : pMt base b0 D cI cQ H0 (mL M) C0 Z0 ls h LS H locs cells slots) (hd : decode M.2.1 pc = .ok (exI (pc, len, 40, a, b, v, li), len)) (sd : sdB Ms M (pc, len, 40, a, b, v, li) = true) : W p l e R s m args below meth c H locs cells slots Q (F0 m pc LS (st.map (pv base b0))) := by
  obtain ⟨hx, hb, hml, hown, hts, hnw, hnm, hfr, hlo, hK, hbs, hrt, hsz, hlk⟩ := F
  have hs : (match (generalizing := false) st with
        | .double y :: .double x :: r => if FP.dmul x y &&& 0x7fffffffffffffff ≤ 0x7ff0000000000000 then go (pc + len) ls (.double (FP.dmul x y) :: r) h else none
        | _ => none : pR) = some r := hs
  have h1 : len = 1 := by simpa [sdB] using sd
  subst h1
  split at hs
  · split at hs
    · rename_i hne
      exact lv_dmul hx hb hd hne (K _ _ _ _ _ _ _ _ _ hs X)
    · cases hs
  · cases hs
theorem tg_38 (F : pFx p R s m args meth c M base C0 D cI cQ H0) (K : pKK p l e R s m args below meth c Q M base b0 D cI cQ H0 C0 Z0 r go) (hs : stp sc none (fun v h => some (v, h)) go cl (pc, len, 38, a, b, v, li) ls st h = some r) (X : pMt base b0 D cI cQ H0 (mL M) C0 Z0 ls h LS H locs cells slots) (hd : decode M.2.1 pc = .ok (exI (pc, len, 38, a, b, v, li), len)) (sd : sdB Ms M (pc, len, 38, a, b, v, li) = true) : W p l e R s m args below meth c H locs cells slots Q (F0 m pc LS (st.map (pv base b0))) := by
  obtain ⟨hx, hb, hml, hown, hts, hnw, hnm, hfr, hlo, hK, hbs, hrt, hsz, hlk⟩ := F
  have h1 : len = 1 := by simpa [sdB] using sd
  subst h1
  match b, hd, hs with
  | 0, hd, hs => exact lv_dconst0 hx hb hd (K _ _ _ _ _ _ _ _ _ hs X)
  | b + 1, hd, hs => exact lv_dconst1 hx hb hd (K _ _ _ _ _ _ _ _ _ hs X)
theorem tg_34 (F : pFx p R s m args meth c M base C0 D cI cQ H0) (K : pKK p l e R s m args below meth c Q M base b0 D cI cQ H0 C0 Z0 r go) (hs : stp sc none (fun v h => some (v, h)) go cl (pc, len, 34, a, b, v, li) ls st h = some r) (X : pMt base b0 D cI cQ H0 (mL M) C0 Z0 ls h LS H locs cells slots) (hd : decode M.2.1 pc = .ok (exI (pc, len, 34, a, b, v, li), len)) (sd : sdB Ms M (pc, len, 34, a, b, v, li) = true) : W p l e R s m args below meth c H locs cells slots Q (F0 m pc LS (st.map (pv base b0))) := by
  obtain ⟨hx, hb, hml, hown, hts, hnw, hnm, hfr, hlo, hK, hbs, hrt, hsz, hlk⟩ := F
  have hs : (match (generalizing := false) st with
        | .ref _ :: r => go (pc + len) ls r h
        | _ => none : pR) = some r := hs
  have h1 : len = 3 := by simpa [sdB] using sd
  subst h1
  split at hs
  · exact lv_ifnull hx hb hd (K _ _ _ _ _ _ _ _ _ hs X)
  · cases hs
theorem tg_20 (F : pFx p R s m args meth c M base C0 D cI cQ H0) (K : pKK p l e R s m args below meth c Q M base b0 D cI cQ H0 C0 Z0 r go) (hs : stp sc none (fun v h => some (v, h)) go cl (pc, len, 20, a, b, v, li) ls st h = some r) (X : pMt base b0 D cI cQ H0 (mL M) C0 Z0 ls h LS H locs cells slots) (hd : decode M.2.1 pc = .ok (exI (pc, len, 20, a, b, v, li), len)) (sd : sdB Ms M (pc, len, 20, a, b, v, li) = true) : W p l e R s m args below meth c H locs cells slots Q (F0 m pc LS (st.map (pv base b0))) := by
  obtain ⟨hx, hb, hml, hown, hts, hnw, hnm, hfr, hlo, hK, hbs, hrt, hsz, hlk⟩ := F
  have hs : (match (generalizing := false) st with
        | w :: r => bif Nat.beq w.category 1 then go (pc + len) ls (w :: w :: r) h else none
        | _ => none : pR) = some r := hs
  have h1 : len = 1 := by simpa [sdB] using sd
  subst h1
  split at hs
  · rw [cond_eq_ite] at hs
    split at hs
    · rename_i hc
      exact lv_dup hx hb hd (by rw [pv_cat]; exact Nat.eq_of_beq_eq_true hc) (K _ _ _ _ _ _ _ _ _ hs X)
    · cases hs
  · cases hs
theorem tg_39 (F : pFx p R s m args meth c M base C0 D cI cQ H0) (K : pKK p l e R s m args below meth c Q M base b0 D cI cQ H0 C0 Z0 r go) (hs : stp sc none (fun v h => some (v, h)) go cl (pc, len, 39, a, b, v, li) ls st h = some r) (X : pMt base b0 D cI cQ H0 (mL M) C0 Z0 ls h LS H locs cells slots) (hd : decode M.2.1 pc = .ok (exI (pc, len, 39, a, b, v, li), len)) (sd : sdB Ms M (pc, len, 39, a, b, v, li) = true) : W p l e R s m args below meth c H locs cells slots Q (F0 m pc LS (st.map (pv base b0))) := by
  obtain ⟨hx, hb, hml, hown, hts, hnw, hnm, hfr, hlo, hK, hbs, hrt, hsz, hlk⟩ := F
  have hs : (match (generalizing := false) st with
        | w :: r => bif Nat.beq w.category 1 then go (pc + len) ls r h else none
        | _ => none : pR) = some r := hs
  have h1 : len = 1 := by simpa [sdB] using sd
  subst h1
  split at hs
  · rw [cond_eq_ite] at hs
    split at hs
    · rename_i hc
      exact lv_pop hx hb hd (by rw [pv_cat]; exact Nat.eq_of_beq_eq_true hc) (K _ _ _ _ _ _ _ _ _ hs X)
    · cases hs
  · cases hs
theorem tg_31 (F : pFx p R s m args meth c M base C0 D cI cQ H0) (K : pKK p l e R s m args below meth c Q M base b0 D cI cQ H0 C0 Z0 r go) (hs : stp sc none (fun v h => some (v, h)) go cl (pc, len, 31, a, b, v, li) ls st h = some r) (X : pMt base b0 D cI cQ H0 (mL M) C0 Z0 ls h LS H locs cells slots) (hd : decode M.2.1 pc = .ok (exI (pc, len, 31, a, b, v, li), len)) (sd : sdB Ms M (pc, len, 31, a, b, v, li) = true) : W p l e R s m args below meth c H locs cells slots Q (F0 m pc LS (st.map (pv base b0))) := by
  obtain ⟨hx, hb, hml, hown, hts, hnw, hnm, hfr, hlo, hK, hbs, hrt, hsz, hlk⟩ := F
  have hs : (match (generalizing := false) st with
        | w :: u :: r => bif Nat.beq w.category 1 && Nat.beq u.category 1 then go (pc + len) ls (w :: u :: w :: u :: r) h else none
        | _ => none : pR) = some r := hs
  have h1 : len = 1 := by simpa [sdB] using sd
  subst h1
  split at hs
  · rw [cond_eq_ite] at hs
    split at hs
    · rename_i hc
      rw [Bool.and_eq_true] at hc
      exact lv_dup2_11 hx hb hd (by rw [pv_cat]; exact Nat.eq_of_beq_eq_true hc.1) (by rw [pv_cat]; exact Nat.eq_of_beq_eq_true hc.2) (K _ _ _ _ _ _ _ _ _ hs X)
    · cases hs
  · cases hs
end Sound
