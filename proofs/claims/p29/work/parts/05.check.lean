/-! what is checked of a method's rows beforehand -/
abbrev mI (M : pM) : List pE := M.2.2.2.2.2.2.1
abbrev mC (M : pM) : pC := M.2.2.2.2.2.2.2
abbrev mL (M : pM) : Nat := M.2.2.1
abbrev mR (M : pM) : Option FieldType := M.2.2.2.1
abbrev mF (M : pM) : Nat := M.2.2.2.2.1
abbrev mO (M : pM) : Nat := M.2.2.2.2.2.1
def gW : List Cond := lw_tbl.filter goodWord
def wAt (i : Nat) (w : Cond) : Bool := decide (lw_tbl[i]? = some w) && goodWord w
theorem wAt_in {i : Nat} {w : Cond} (h : wAt i w = true) : w ∈ gW := by
  simp only [wAt, Bool.and_eq_true, decide_eq_true_eq] at h
  exact List.mem_filter.mpr ⟨List.mem_of_getElem? h.1, h.2⟩
def pTy (ci k : Nat) : FieldType := match ci with
  | 0 => tyX0 k
  | 1 => tyX1 k
  | 2 => tyX2 k
  | 3 => tyX4 k
  | 4 => tyX5 k
  | 5 => tyX6 k
  | 6 => tyX7 k
  | _ => tyX9 k
def tyk (t : FieldType) : Nat := match t with
  | .int => 0
  | .boolean => 1
  | .object _ => 2
  | .array _ => 2
  | _ => 9
def rkOf (t : Option FieldType) : Nat := match t with
  | none => 0
  | some .int => 1
  | some .boolean => 1
  | some (.object _) => 2
  | some (.array _) => 2
  | some .double => 3
  | some .long => 4
  | _ => 9
def exI (e : pE) : Instr := match e with
  | (pc, len, tag, a, b, v, l) => match tag with
    | 0 => if len = 1 then .aload_n (Fin.ofNat 4 a) else .aload a
    | 1 => if len = 1 then .iload_n (Fin.ofNat 4 a) else .iload a
    | 2 => .getfield (l.getD 0 0)
    | 3 => .getfield (l.getD 0 0)
    | 4 => match b with
      | 0 => .iconst v.toInt
      | 1 => .bipush v.toInt
      | 2 => .sipush v.toInt
      | 3 => .ldc a
      | _ => .ldc_w a
    | 5 => .goto ((a : Int) - pc)
    | 6 => .invokevirtual (l.getD 0 0)
    | 7 => .invokestatic (l.getD 0 0)
    | 8 => .invokespecial (l.getD 0 0)
    | 9 => .ireturn
    | 10 => if len = 1 then .istore_n (Fin.ofNat 4 a) else .istore a
    | 11 => match b with
      | 0 => .iadd
      | 1 => .isub
      | 2 => .imul
      | 3 => .iand
      | 4 => .ior
      | 5 => .ixor
      | 6 => .ishl
      | 7 => .ishr
      | _ => .iushr
    | 12 => .iaload
    | 13 => match b with
      | 0 => .if_icmp .eq ((a : Int) - pc)
      | 1 => .if_icmp .ne ((a : Int) - pc)
      | 2 => .if_icmp .lt ((a : Int) - pc)
      | 3 => .if_icmp .ge ((a : Int) - pc)
      | 4 => .if_icmp .gt ((a : Int) - pc)
      | _ => .if_icmp .le ((a : Int) - pc)
    | 14 => match b with
      | 0 => .ifCond .eq ((a : Int) - pc)
      | 1 => .ifCond .ne ((a : Int) - pc)
      | 2 => .ifCond .lt ((a : Int) - pc)
      | 3 => .ifCond .ge ((a : Int) - pc)
      | 4 => .ifCond .gt ((a : Int) - pc)
      | _ => .ifCond .le ((a : Int) - pc)
    | 15 => .iinc a v.toInt
    | 16 => .putfield (l.getD 0 0)
    | 17 => .putfield (l.getD 0 0)
    | 18 => .iastore
    | 19 => .return_
    | 20 => .dup
    | 21 => .new (l.getD 0 0)
    | 22 => .newarray .int
    | 23 => if len = 1 then .astore_n (Fin.ofNat 4 a) else .astore a
    | 24 => .tableswitch ((l.getD 0 0 : Nat) - (pc : Int)) v.toInt (v.toInt + (l.length : Int) - 2) ((l.drop 1).map (fun (t : Nat) => (t : Int) - (pc : Int))).toArray
    | 25 => .lookupswitch ((l.getD 0 0 : Nat) - (pc : Int)) #[(0, (l.getD 1 0 : Nat) - (pc : Int)), (1, (l.getD 2 0 : Nat) - (pc : Int))]
    | 26 => .arraylength
    | 27 => if len = 1 then .dload_n (Fin.ofNat 4 a) else .dload a
    | 28 => .aaload
    | 29 => .i2d
    | 30 => .areturn
    | 31 => .dup2
    | 32 => .dcmp .l
    | 33 => .aastore
    | 34 => .ifnull ((a : Int) - pc)
    | 35 => if len = 1 then .dstore_n (Fin.ofNat 4 a) else .dstore a
    | 36 => .dreturn
    | 37 => .ddiv
    | 38 => match b with
      | 0 => .dconst 0
      | _ => .dconst 1
    | 39 => .pop
    | 40 => .dmul
    | 41 => .anewarray (l.getD 0 0)
    | 42 => .invokespecial (l.getD 0 0)
    | 43 => .idiv
    | 45 => .invokestatic (l.getD 0 0)
    | 46 => .invokestatic (l.getD 0 0)
    | 47 => .i2l
    | 48 => if len = 1 then .lload_n (Fin.ofNat 4 a) else .lload a
    | 49 => if len = 1 then .lstore_n (Fin.ofNat 4 a) else .lstore a
    | 50 => match b with
      | 0 => .lconst (Fin.ofNat 2 a)
      | _ => .ldc2_w a
    | 51 => match b with
      | 0 => .ladd
      | _ => .lmul
    | 52 => .lcmp
    | 53 => .lreturn
    | 54 => .invokestatic (l.getD 0 0)
    | _ => .irem
def fldB (M : pM) (a b : Nat) (l : List Nat) : Bool := match vwCl[a]? with
  | some q => decide (b < q.2.2) && decide ((q.2.1 b).1 = q.1) && (bif Nat.beq (l.getD 1 0) 0 then wAt (l.getD 3 0) (.fieldLink M.1.cls (l.getD 0 0) q.1 (q.2.1 b).2.1 (q.2.1 b).2.2.1) else decide (lw_tbl[l.getD 3 0]? = some (.fieldLinkNest M.1.cls (l.getD 0 0) q.1 (q.2.1 b).2.1 (q.2.1 b).2.2.1 "ShelfSpines")))
  | none => false
def finB (M : pM) (a b : Nat) (l : List Nat) : Bool := match vwCl[a]? with
  | some q => !(q.2.1 b).2.2.2 || (Nat.beq (l.getD 1 0) 0 && decide (M.1.name = "<init>") && decide ((q.2.1 b).1 = M.1.cls))
  | none => false
def calB (Ms : List pM) (M : pM) (a np nl : Nat) (l : List Nat) : Bool := match Ms[a]? with
  | some N => wAt (l.getD 3 0) (.methodLink M.1.cls (l.getD 0 0) N.1) && wAt (l.getD 4 0) (.code N.1 N.2.1 (mL N) (mR N)) && wAt (l.getD 5 0) (.initialized N.1.cls) && decide (mF N + 1 ≤ mF M) && decide (8 + (mL N + 11) + mO N ≤ mO M) && decide (N.1.cls ≠ "java/lang/invoke/MethodHandle") && decide (N.1.cls ≠ "java/lang/invoke/VarHandle") && decide ((parseMethodDescriptor N.1.desc).map (fun d => d.parameters.length) = some np) && decide (rkOf (mR N) = l.getD 1 0) && decide (nl ≤ mL N)
  | none => false
def newB (M : pM) (a : Nat) (l : List Nat) : Bool := match vwCl[a]? with
  | some q => wAt (l.getD 3 0) (.classLink M.1.cls (l.getD 0 0) q.1) && wAt (l.getD 4 0) (.instantiable q.1 q.2.2) && wAt (l.getD 5 0) (.initialized q.1)
  | none => false
def virB (Ms : List pM) (a : Nat) (l : List Nat) : Bool := match Ms[a]? with
  | some N => wAt (l.getD 6 0) (.instanceMethod N.1) && wAt (l.getD 7 0) (.selects N.1.cls N.1 N.1) && (match vwCl[l.getD 2 0]? with
    | some q => decide (q.1 = N.1.cls)
    | none => false)
  | none => false
def stcB (Ms : List pM) (a : Nat) (l : List Nat) : Bool := match Ms[a]? with
  | some N => wAt (l.getD 6 0) (.static N.1)
  | none => false
def spcB (Ms : List pM) (a : Nat) (l : List Nat) : Bool := match Ms[a]? with
  | some N => wAt (l.getD 6 0) (.instanceMethod N.1) && decide (N.1.name = "<init>") && decide (mR N = none)
  | none => false
def sdB (Ms : List pM) (M : pM) (e : pE) : Bool := match e with
  | (pc, len, tag, a, b, v, l) => match tag with
    | 0 => (decide (len = 1) && decide (a < 4)) || decide (len = 2)
    | 1 => (decide (len = 1) && decide (a < 4)) || decide (len = 2)
    | 2 => decide (len = 3) && decide (fk a b ≠ 2) && fldB M a b l
    | 3 => decide (len = 3) && decide (fk a b = 2) && fldB M a b l
    | 4 => match b with
      | 0 => decide (len = 1)
      | 1 => decide (len = 2) && decide ((Int8.ofInt v.toInt).toInt32 = v)
      | 2 => decide (len = 3) && decide ((Int16.ofInt v.toInt).toInt32 = v)
      | 3 => decide (len = 2) && wAt (l.getD 3 0) (.constant M.1.cls a v)
      | _ => decide (len = 3) && wAt (l.getD 3 0) (.constant M.1.cls a v)
    | 5 => decide (len = 3)
    | 6 => decide (len = 3) && decide (1 ≤ b) && calB Ms M a (b - 1) b l && virB Ms a l
    | 7 => decide (len = 3) && calB Ms M a b b l && stcB Ms a l
    | 8 => decide (len = 3) && decide (1 ≤ b) && calB Ms M a (b - 1) b l && spcB Ms a l
    | 9 => decide (len = 1) && (bif Nat.beq b 0 then decide (mR M = some .int) else decide (mR M = some .boolean))
    | 10 => ((decide (len = 1) && decide (a < 4)) || decide (len = 2)) && decide (a < mL M)
    | 11 => decide (len = 1)
    | 12 => decide (len = 1)
    | 13 => decide (len = 3)
    | 14 => decide (len = 3)
    | 15 => decide (len = 3) && decide (a < mL M)
    | 16 => decide (len = 3) && decide (fk a b ≠ 2) && fldB M a b l && finB M a b l && decide (fk a b = l.getD 2 0)
    | 17 => decide (len = 3) && decide (fk a b = 2) && fldB M a b l && finB M a b l
    | 18 => decide (len = 1)
    | 19 => decide (len = 1) && decide (mR M = none)
    | 20 => decide (len = 1)
    | 21 => decide (len = 3) && newB M a l
    | 22 => decide (len = 2) && wAt (l.getD 3 0) (.arrayClass .int)
    | 23 => ((decide (len = 1) && decide (a < 4)) || decide (len = 2)) && decide (a < mL M)
    | 24 => decide (2 ≤ l.length) && decide (l.length ≤ 100) && decide (0 ≤ v.toInt) && decide (v.toInt ≤ 100)
    | 25 => decide (l.length = 3)
    | 26 => decide (len = 1)
    | 27 => (decide (len = 1) && decide (a < 4)) || decide (len = 2)
    | 28 => decide (len = 1)
    | 29 => decide (len = 1)
    | 30 => decide (len = 1) && decide (rkOf (mR M) = 2)
    | 31 => decide (len = 1)
    | 32 => decide (len = 1)
    | 33 => decide (len = 1)
    | 34 => decide (len = 3)
    | 35 => ((decide (len = 1) && decide (a < 4)) || decide (len = 2)) && decide (a + 1 < mL M)
    | 36 => decide (len = 1) && decide (mR M = some .double)
    | 37 => decide (len = 1)
    | 38 => decide (len = 1)
    | 39 => decide (len = 1)
    | 40 => decide (len = 1)
    | 41 => decide (len = 3) && wAt (l.getD 3 0) (.classLink M.1.cls (l.getD 0 0) "ShelfSpines$Shelf") && decide (lw_tbl[l.getD 4 0]? = some (.arrayOver (.object "ShelfSpines$Shelf")))
    | 42 => decide (len = 3) && wAt (l.getD 3 0) (.methodLink M.1.cls (l.getD 0 0) Lib.objectInit) && wAt (l.getD 4 0) (.instanceMethod Lib.objectInit) && wAt (l.getD 5 0) (.code Lib.objectInit ⟨#[0xb1]⟩ 1 none) && decide (1 ≤ mF M) && decide (20 ≤ mO M)
    | 43 => decide (len = 1)
    | 44 => decide (len = 1)
    | 45 => decide (len = 3) && wAt (l.getD 3 0) (.methodLink M.1.cls (l.getD 0 0) Lib.Math.max.name) && wAt (l.getD 4 0) (.static Lib.Math.max.name) && wAt (l.getD 5 0) (.initialized "java/lang/Math") && wAt (l.getD 6 0) (.code Lib.Math.max.name Lib.Math.max.code 2 (some .int)) && decide (1 ≤ mF M) && decide (21 ≤ mO M)
    | 46 => decide (len = 3) && wAt (l.getD 3 0) (.methodLink M.1.cls (l.getD 0 0) Lib.Math.min.name) && wAt (l.getD 4 0) (.static Lib.Math.min.name) && wAt (l.getD 5 0) (.initialized "java/lang/Math") && wAt (l.getD 6 0) (.code Lib.Math.min.name Lib.Math.min.code 2 (some .int)) && decide (1 ≤ mF M) && decide (21 ≤ mO M)
    | 47 => decide (len = 1)
    | 48 => (decide (len = 1) && decide (a < 4)) || decide (len = 2)
    | 49 => ((decide (len = 1) && decide (a < 4)) || decide (len = 2)) && decide (a + 1 < mL M)
    | 50 => match b with
      | 0 => decide (len = 1) && decide (Int64.ofNat ((Fin.ofNat 2 a : Fin 2) : Nat) = v.toInt64)
      | _ => decide (len = 3) && wAt (l.getD 3 0) (.constantLong M.1.cls a v.toInt64)
    | 51 => decide (len = 1)
    | 52 => decide (len = 1)
    | 53 => decide (len = 1) && decide (mR M = some .long)
    | 54 => decide (len = 3) && wAt (l.getD 3 0) (.methodLink M.1.cls (l.getD 0 0) yL_cell) && wAt (l.getD 4 0) (.static yL_cell) && wAt (l.getD 5 0) (.initialized yL_cell.cls) && wAt (l.getD 6 0) (.code yL_cell cL_cell 2 (some .int)) && decide (1 ≤ mF M) && decide (21 ≤ mO M)
    | _ => false
/-- a method's rows are those of its code -/
def okM (Ms : List pM) (M : pM) : Prop := plainName M.1.cls = true ∧ ∀ e ∈ mI M, decode M.2.1 e.1 = .ok (exI e, e.2.1) ∧ sdB Ms M e = true
def okB (Ms : List pM) (M : pM) (I : List pE) : Bool := plainName M.1.cls && I.all fun e => decide (decode M.2.1 e.1 = .ok (exI e, e.2.1)) && sdB Ms M e
theorem okB_M {Ms : List pM} {M : pM} (h : okB Ms M (mI M) = true) : okM Ms M := by
  obtain ⟨h0, h⟩ := (Bool.and_eq_true _ _).mp h
  refine ⟨h0, fun e he => ?_⟩
  have h1 := List.all_eq_true.mp h e he
  simpa only [Bool.and_eq_true, decide_eq_true_eq] using h1
def pNt : List Cond := lw_tbl.filter fun w => match w with
  | .fieldLinkNest _ _ _ _ _ _ => true
  | .arrayOver (.object _) => true
  | _ => false
theorem fe_in : ∀ {I : List pE} {pc : Nat} {e : pE}, fe I pc = some e → e ∈ I ∧ e.1 = pc
  | [], _, _, h => by cases h
  | q :: I, pc, e, h => by
    unfold fe at h
    cases hb : Nat.beq q.1 pc with
    | true =>
      rw [hb] at h
      cases h
      exact ⟨List.mem_cons_self, Nat.eq_of_beq_eq_true hb⟩
    | false =>
      rw [hb] at h
      obtain ⟨h1, h2⟩ := fe_in (I := I) h
      exact ⟨List.mem_cons_of_mem _ h1, h2⟩

theorem cls_ok : ∀ (ci : Nat) (q : vw_C), vwCl[ci]? = some q → (∀ w ∈ u_ws q.1 q.2.1 q.2.2, w ∈ gW) ∧ (∀ k, k < q.2.2 → parseFieldDescriptor (q.2.1 k).2.2.1 = some (pTy ci k)) ∧ (∀ a, a < q.2.2 → ∀ b, b < q.2.2 → a ≠ b → (q.2.1 a).2.1 ≠ (q.2.1 b).2.1) ∧ (∀ k, k < q.2.2 → tyk (pTy ci k) = fk ci k) ∧ pN ci = q.2.2
  | 0, q, h => by
    cases h
    exact ⟨by decide +kernel, tyX0_ok, nmX0, by decide +kernel, by decide +kernel⟩
  | 1, q, h => by
    cases h
    exact ⟨by decide +kernel, tyX1_ok, nmX1, by decide +kernel, by decide +kernel⟩
  | 2, q, h => by
    cases h
    exact ⟨by decide +kernel, tyX2_ok, nmX2, by decide +kernel, by decide +kernel⟩
  | 3, q, h => by
    cases h
    exact ⟨by decide +kernel, tyX4_ok, nmX4, by decide +kernel, by decide +kernel⟩
  | 4, q, h => by
    cases h
    exact ⟨by decide +kernel, tyX5_ok, nmX5, by decide +kernel, by decide +kernel⟩
  | 5, q, h => by
    cases h
    exact ⟨by decide +kernel, tyX6_ok, nmX6, by decide +kernel, by decide +kernel⟩
  | 6, q, h => by
    cases h
    exact ⟨by decide +kernel, tyX7_ok, nmX7, by decide +kernel, by decide +kernel⟩
  | 7, q, h => by
    cases h
    exact ⟨by decide +kernel, tyX9_ok, nmX9, by decide +kernel, by decide +kernel⟩
  | k + 8, q, h => by simp [vwCl] at h
