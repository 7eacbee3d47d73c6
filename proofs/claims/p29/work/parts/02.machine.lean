/-! THE PURE MACHINE: places of objects are their numbers in the order of making; ints and references in two tables -/
abbrev pK : Type := Nat ⊕ (Nat ⊕ Nat)
abbrev pH : Type := List pK × (Nat → Nat → Option Nat) × (Nat → Nat → Int32)
/-- pc, length, tag, a, b, v, l -/
abbrev pE : Type := Nat × Nat × Nat × Nat × Nat × Int32 × List Nat
abbrev pL : Type := List (Option Value)
abbrev pR : Type := Option (Option Value × pH)
abbrev pX : Type := Option (Nat × (Nat → Int32))
abbrev pC : Type := List (Nat × List Bool)
/-- name, code, slots of its frame, answer, frames below it, room of frames below it, rows, cuts -/
abbrev pM : Type := MethodName × ByteArray × Nat × Option FieldType × Nat × Nat × List pE × pC
def s2 {α : Type} (f : Nat → Nat → α) (k j : Nat) (x : α) : Nat → Nat → α := fun a b => if a = k then (if b = j then x else f a b) else f a b
def z2 {α : Type} (f : Nat → Nat → α) (k : Nat) (d : α) : Nat → Nat → α := fun a b => if a = k then d else f a b
def inb (i : Int32) (n : Nat) : Bool := !(decide (i < 0)) && decide (i.toNatClampNeg < n)
def kO (h : pH) (ci k : Nat) : Bool := decide (h.1[k]? = some (.inl ci))
def hI (h : pH) (ci k j : Nat) : Option Int32 := if h.1[k]? = some (.inl ci) then some (h.2.2 k j) else none
def hR (h : pH) (ci k j : Nat) : Option Nat := if h.1[k]? = some (.inl ci) then h.2.1 k j else none
def hA (h : pH) (k : Nat) (i : Int32) : Option Int32 := match h.1[k]? with
  | some (.inr (.inl n)) => if inb i n = true then some (h.2.2 k i.toNatClampNeg) else none
  | _ => none
def hQ (h : pH) (k : Nat) (i : Int32) : Option Nat := match h.1[k]? with
  | some (.inr (.inr n)) => if inb i n = true then h.2.1 k i.toNatClampNeg else none
  | _ => none
def hN (h : pH) (k : Nat) : Option Int32 := match h.1[k]? with
  | some (.inr (.inl n)) => some (Int32.ofNat n)
  | some (.inr (.inr n)) => some (Int32.ofNat n)
  | _ => none
def bA (h : pH) (k : Nat) (i : Int32) : Bool := match h.1[k]? with
  | some (.inr (.inl n)) => inb i n
  | _ => false
def bQ (h : pH) (k : Nat) (i : Int32) (v : Nat) : Bool := match h.1[k]? with
  | some (.inr (.inr n)) => inb i n && decide (h.1[v]? = some (.inl 6))
  | _ => false
def sI (h : pH) (k j : Nat) (x : Int32) : pH := (h.1, h.2.1, s2 h.2.2 k j x)
def sR (h : pH) (k j r : Nat) : pH := (h.1, s2 h.2.1 k j (some r), h.2.2)
def nK (h : pH) (q : pK) : pH := (h.1 ++ [q], z2 h.2.1 h.1.length none, z2 h.2.2 h.1.length 0)
def ius (x y : Int32) : Int32 := (x.toUInt32 >>> (y.toUInt32 &&& Int32.toUInt32 31)).toInt32
def bop {R : Type} (b : Nat) (x y : Int32) (K : Int32 → R) : R := match b with
  | 0 => K (x + y)
  | 1 => K (x - y)
  | 2 => K (x * y)
  | 3 => K (x &&& y)
  | 4 => K (x ||| y)
  | 5 => K (x ^^^ y)
  | 6 => K (x <<< (y &&& 31))
  | 7 => K (x >>> (y &&& 31))
  | _ => K (ius x y)
def ldI (ls : pL) (a : Nat) : Option Int32 := match ls[a]? with
  | some (some (.int x)) => some x
  | _ => none
def ldD (ls : pL) (a : Nat) : Option UInt64 := match ls[a]? with
  | some (some (.double x)) => some x
  | _ => none
def ldL (ls : pL) (a : Nat) : Option Int64 := match ls[a]? with
  | some (some (.long x)) => some x
  | _ => none
def ldR (ls : pL) (a : Nat) : Option Value := match ls[a]? with
  | some (some (.ref x)) => some (.ref x)
  | some (some .null) => some .null
  | _ => none
def stl (ls : pL) (a : Nat) (v : Option Value) : pL := if a < ls.length then ls.set a v else ls ++ List.replicate (a - ls.length) none ++ [v]
def okS (ls : pL) (a : Nat) : Bool := match a with
  | 0 => true
  | a + 1 => match ls[a]? with
    | some (some v) => !(v.category == 2)
    | _ => true
/-- the same list, its cells made first -/
def frc {R : Type} : pL → (pL → R) → R
  | [], K => K []
  | o :: ls, K => frc ls fun l => K (o :: l)
theorem frc_eq {R : Type} : ∀ (ls : pL) (K : pL → R), frc ls K = K ls
  | [], _ => rfl
  | o :: ls, K => frc_eq ls fun l => K (o :: l)
def oo {α R : Type} (fl : R) (o : Option α) (K : α → R) : R := match o with
  | some x => K x
  | none => fl
def imax (x y : Int32) : Int32 := if x < y then y else x
def imin (x y : Int32) : Int32 := if y < x then y else x
def swt {R : Type} (x v : Int32) (ts : List Nat) (d : Nat) (K : Nat → R) : R := match ts with
  | [] => K d
  | t :: ts => if x = v then K t else swt x (v + 1) ts d K
/-- the law's own cell of the script -/
def csv (q : Nat × (Nat → Int32)) (i : Int32) : Int32 := if inb i q.1 = true then q.2 i.toNatClampNeg else 7919 * (i + 3) * (i + 11)
/-- what a row does: it fails, answers, goes on, or calls -/
def stp {R : Type} (sc : pX) (fl : R) (rt : Option Value → pH → R) (go : Nat → pL → List Value → pH → R) (cl : Nat → List Value → Nat → Nat → pL → List Value → pH → R) (e : pE) (ls : pL) (st : List Value) (h : pH) : R :=
  match e with
  | (pc, len, tag, a, b, v, l) =>
  match tag with
  | 0 => oo fl (ldR ls a) fun w => go (pc + len) ls (w :: st) h
  | 1 => oo fl (ldI ls a) fun x => go (pc + len) ls (.int x :: st) h
  | 2 => match st with
    | .ref k :: r => oo fl (hI h a k b) fun x => go (pc + len) ls (.int x :: r) h
    | _ => fl
  | 3 => match st with
    | .ref k :: r => oo fl (hR h a k b) fun x => go (pc + len) ls (.ref x :: r) h
    | _ => fl
  | 4 => go (pc + len) ls (.int v :: st) h
  | 5 => go a ls st h
  | 6 => match st.drop (b - 1) with
    | .ref k :: r => bif Nat.ble (r.map Value.category).sum 8 && (st.take (b - 1)).all (fun v => Nat.beq v.category 1) then (if kO h (l.getD 2 0) k = true then cl a (.ref k :: (st.take (b - 1)).reverse) (l.getD 1 0) (pc + len) ls r h else fl) else fl
    | _ => fl
  | 7 => bif (Nat.ble b st.length && Nat.ble ((st.drop b).map Value.category).sum 8) && (st.take b).all (fun v => Nat.beq v.category 1) then cl a (st.take b).reverse (l.getD 1 0) (pc + len) ls (st.drop b) h else fl
  | 8 => match st.drop (b - 1) with
    | .ref k :: r => bif Nat.ble (r.map Value.category).sum 8 && (st.take (b - 1)).all (fun v => Nat.beq v.category 1) then cl a (.ref k :: (st.take (b - 1)).reverse) (l.getD 1 0) (pc + len) ls r h else fl
    | _ => fl
  | 9 => match st with
    | [.int x] => bif Nat.beq b 0 then rt (some (.int x)) h else (if x = 0 ∨ x = 1 then rt (some (.int x)) h else fl)
    | _ => fl
  | 10 => match st with
    | .int x :: r => bif okS ls a then (frc (stl ls a (some (.int x))) fun ls => go (pc + len) ls r h) else fl
    | _ => fl
  | 11 => match st with
    | .int y :: .int x :: r => bop b x y fun z => go (pc + len) ls (.int z :: r) h
    | _ => fl
  | 12 => match st with
    | .int i :: .ref k :: r => oo fl (hA h k i) fun x => go (pc + len) ls (.int x :: r) h
    | .int i :: .null :: r => oo fl sc fun q => if inb i q.1 = true then go (pc + len) ls (.int (q.2 i.toNatClampNeg) :: r) h else fl
    | _ => fl
  | 13 => match st with
    | .int y :: .int x :: r => match b with
      | 0 => if x = y then go a ls r h else go (pc + len) ls r h
      | 1 => if x = y then go (pc + len) ls r h else go a ls r h
      | 2 => if x < y then go a ls r h else go (pc + len) ls r h
      | 3 => if y ≤ x then go a ls r h else go (pc + len) ls r h
      | 4 => if y < x then go a ls r h else go (pc + len) ls r h
      | _ => if x ≤ y then go a ls r h else go (pc + len) ls r h
    | _ => fl
  | 14 => match st with
    | .int x :: r => match b with
      | 0 => if x = 0 then go a ls r h else go (pc + len) ls r h
      | 1 => if x = 0 then go (pc + len) ls r h else go a ls r h
      | 2 => if x < 0 then go a ls r h else go (pc + len) ls r h
      | 3 => if 0 ≤ x then go a ls r h else go (pc + len) ls r h
      | 4 => if 0 < x then go a ls r h else go (pc + len) ls r h
      | _ => if x ≤ 0 then go a ls r h else go (pc + len) ls r h
    | _ => fl
  | 15 => oo fl (ldI ls a) fun x => bif okS ls a then (frc (stl ls a (some (.int (x + v)))) fun ls => go (pc + len) ls st h) else fl
  | 16 => match st with
    | .int x :: .ref k :: r => bif Nat.beq (l.getD 2 0) 0 then (if kO h a k = true then go (pc + len) ls r (sI h k b x) else fl) else (if kO h a k = true ∧ (x = 0 ∨ x = 1) then go (pc + len) ls r (sI h k b x) else fl)
    | _ => fl
  | 17 => match st with
    | .ref x :: .ref k :: r => if kO h a k = true then go (pc + len) ls r (sR h k b x) else fl
    | _ => fl
  | 18 => match st with
    | .int x :: .int i :: .ref k :: r => if bA h k i = true then go (pc + len) ls r (sI h k i.toNatClampNeg x) else fl
    | _ => fl
  | 19 => match st with
    | [] => rt none h
    | _ => fl
  | 20 => match st with
    | w :: r => bif Nat.beq w.category 1 then go (pc + len) ls (w :: w :: r) h else fl
    | _ => fl
  | 21 => go (pc + len) ls (.ref h.1.length :: st) (nK h (.inl a))
  | 22 => match st with
    | .int n :: r => if ¬ n < 0 ∧ n.toNatClampNeg ≤ 100000 then go (pc + len) ls (.ref h.1.length :: r) (nK h (.inr (.inl n.toNatClampNeg))) else fl
    | _ => fl
  | 23 => match st with
    | .ref x :: r => bif okS ls a then (frc (stl ls a (some (.ref x))) fun ls => go (pc + len) ls r h) else fl
    | _ => fl
  | 24 => match st with
    | .int x :: r => swt x v (l.drop 1) (l.getD 0 0) fun t => go t ls r h
    | _ => fl
  | 25 => match st with
    | .int x :: r => if x = 0 then go (l.getD 1 0) ls r h else if x = 1 then go (l.getD 2 0) ls r h else go (l.getD 0 0) ls r h
    | _ => fl
  | 26 => match st with
    | .ref k :: r => oo fl (hN h k) fun x => go (pc + len) ls (.int x :: r) h
    | .null :: r => oo fl sc fun q => go (pc + len) ls (.int (Int32.ofNat q.1) :: r) h
    | _ => fl
  | 27 => oo fl (ldD ls a) fun x => go (pc + len) ls (.double x :: st) h
  | 28 => match st with
    | .int i :: .ref k :: r => oo fl (hQ h k i) fun x => go (pc + len) ls (.ref x :: r) h
    | _ => fl
  | 29 => match st with
    | .int x :: r => go (pc + len) ls (.double (FP.i2d x) :: r) h
    | _ => fl
  | 30 => match st with
    | [.ref x] => rt (some (.ref x)) h
    | _ => fl
  | 31 => match st with
    | w :: u :: r => bif Nat.beq w.category 1 && Nat.beq u.category 1 then go (pc + len) ls (w :: u :: w :: u :: r) h else fl
    | _ => fl
  | 32 => match st with
    | .double y :: .double x :: r => go (pc + len) ls (.int (Op.cmpValue (FP.dcmp x y) .l) :: r) h
    | _ => fl
  | 33 => match st with
    | .ref x :: .int i :: .ref k :: r => if bQ h k i x = true then go (pc + len) ls r (sR h k i.toNatClampNeg x) else fl
    | _ => fl
  | 34 => match st with
    | .ref _ :: r => go (pc + len) ls r h
    | _ => fl
  | 35 => match st with
    | .double x :: r => bif okS ls a then (frc (stl (stl ls a (some (.double x))) (a + 1) none) fun ls => go (pc + len) ls r h) else fl
    | _ => fl
  | 36 => match st with
    | [.double x] => rt (some (.double x)) h
    | _ => fl
  | 37 => match st with
    | .double y :: .double x :: r => if FP.ddiv x y &&& 0x7fffffffffffffff ≤ 0x7ff0000000000000 then go (pc + len) ls (.double (FP.ddiv x y) :: r) h else fl
    | _ => fl
  | 38 => bif Nat.beq b 0 then go (pc + len) ls (.double FP.dconst0 :: st) h else go (pc + len) ls (.double FP.dconst1 :: st) h
  | 39 => match st with
    | w :: r => bif Nat.beq w.category 1 then go (pc + len) ls r h else fl
    | _ => fl
  | 40 => match st with
    | .double y :: .double x :: r => if FP.dmul x y &&& 0x7fffffffffffffff ≤ 0x7ff0000000000000 then go (pc + len) ls (.double (FP.dmul x y) :: r) h else fl
    | _ => fl
  | 41 => match st with
    | .int n :: r => if ¬ n < 0 ∧ n.toNatClampNeg ≤ 100000 then go (pc + len) ls (.ref h.1.length :: r) (nK h (.inr (.inr n.toNatClampNeg))) else fl
    | _ => fl
  | 42 => match st with
    | .ref _ :: r => bif Nat.ble (r.map Value.category).sum 8 then go (pc + len) ls r h else fl
    | _ => fl
  | 43 => match st with
    | .int y :: .int x :: r => if y = 0 then fl else go (pc + len) ls (.int (x / y) :: r) h
    | _ => fl
  | 44 => match st with
    | .int y :: .int x :: r => if y = 0 then fl else go (pc + len) ls (.int (x - x / y * y) :: r) h
    | _ => fl
  | 45 => match st with
    | .int y :: .int x :: r => bif Nat.ble (r.map Value.category).sum 8 then go (pc + len) ls (.int (imax x y) :: r) h else fl
    | _ => fl
  | 46 => match st with
    | .int y :: .int x :: r => bif Nat.ble (r.map Value.category).sum 8 then go (pc + len) ls (.int (imin x y) :: r) h else fl
    | _ => fl
  | 47 => match st with
    | .int x :: r => go (pc + len) ls (.long x.toInt64 :: r) h
    | _ => fl
  | 48 => oo fl (ldL ls a) fun x => go (pc + len) ls (.long x :: st) h
  | 49 => match st with
    | .long x :: r => bif okS ls a then (frc (stl (stl ls a (some (.long x))) (a + 1) none) fun ls => go (pc + len) ls r h) else fl
    | _ => fl
  | 50 => go (pc + len) ls (.long v.toInt64 :: st) h
  | 51 => match st with
    | .long y :: .long x :: r => bif Nat.beq b 0 then go (pc + len) ls (.long (x + y) :: r) h else go (pc + len) ls (.long (x * y) :: r) h
    | _ => fl
  | 52 => match st with
    | .long y :: .long x :: r => go (pc + len) ls (.int (lg_cmp x y) :: r) h
    | _ => fl
  | 53 => match st with
    | [.long x] => rt (some (.long x)) h
    | _ => fl
  | 54 => match st with
    | .int i :: .null :: r => oo fl sc fun q => if Nat.ble (r.map Value.category).sum 8 = true ∧ ¬ i < 0 ∧ q.1 < 2147483648 then go (pc + len) ls (.int (csv q i) :: r) h else fl
    | _ => fl
  | _ => fl
def fe : List pE → Nat → Option pE
  | [], _ => none
  | e :: I, pc => bif Nat.beq e.1 pc then some e else fe I pc
def mk : List Bool → pL → pL
  | b :: m, o :: ls => (bif b then o else none) :: mk m ls
  | _, _ => []
def cf : pC → Nat → Option (List Bool)
  | [], _ => none
  | q :: C, pc => bif Nat.beq q.1 pc then some q.2 else cf C pc
def trm (C : pC) (pc : Nat) (ls : pL) : pL := match cf C pc with
  | some m => mk m ls
  | none => ls
def cV (o : pR) (K : pH → pR) : pR := match o with
  | some (none, h) => K h
  | _ => none
def cI (o : pR) (K : Int32 → pH → pR) : pR := match o with
  | some (some (.int x), h) => K x h
  | _ => none
def cR (o : pR) (K : Nat → pH → pR) : pR := match o with
  | some (some (.ref x), h) => K x h
  | _ => none
def cD (o : pR) (K : UInt64 → pH → pR) : pR := match o with
  | some (some (.double x), h) => K x h
  | _ => none
def cL (o : pR) (K : Int64 → pH → pR) : pR := match o with
  | some (some (.long x), h) => K x h
  | _ => none
def cc (rk : Nat) (o : pR) (K : List Value → pH → pR) : pR := match rk with
  | 0 => cV o fun h => K [] h
  | 1 => cI o fun x h => K [.int x] h
  | 2 => cR o fun x h => K [.ref x] h
  | 3 => cD o fun x h => K [.double x] h
  | _ => cL o fun x h => K [.long x] h
section Runs
variable (Ms : List pM)
def rn (sc : pX) : Nat → Nat → Nat → pL → List Value → pH → pR
  | 0, _, _, _, _, _ => none
  | n + 1, mi, pc, ls, st, h => oo none Ms[mi]? fun M => oo none (fe M.2.2.2.2.2.2.1 pc) fun e =>
    stp sc none (fun v h => some (v, h)) (fun pc ls st h => rn sc n mi pc (trm M.2.2.2.2.2.2.2 pc ls) st h)
      (fun y as rk pc ls r h => cc rk (rn none n y 0 (as.map some) [] h) fun w h => rn sc n mi pc (trm M.2.2.2.2.2.2.2 pc ls) (w ++ r) h) e ls st h
end Runs
