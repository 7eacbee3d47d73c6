/-! what is checked of a table of words, of bounds from below, and of ways round -/
noncomputable def fz {R : Type} (n : Nat) (K : Nat → R) : R := Nat.rec (motive := fun _ => R) (K 0) (fun k _ => K (k + 1)) n
theorem fz_eq {R : Type} (n : Nat) (K : Nat → R) : fz n K = K n := by cases n <;> rfl
def lp (f : Nat → Bool) : Nat → Bool
  | 0 => true
  | n + 1 => f n && lp f n
theorem lp_iff {f : Nat → Bool} : ∀ {n : Nat}, lp f n = true → ∀ i, i < n → f i = true
  | 0, _, i, hi => absurd hi (Nat.not_lt_zero _)
  | n + 1, h, i, hi => by
    unfold lp at h
    rw [Bool.and_eq_true] at h
    by_cases e : i = n
    · rw [e]; exact h.1
    · exact lp_iff h.2 i (by omega)
def leB (G X Z : Nat) : Bool := Nat.ble X Z && Nat.beq ((Z - X) &&& G) 0
theorem leB_of {G X Z : Nat} (h : leB G X Z = true) : X ≤ Z ∧ (Z - X) &&& G = 0 := by
  unfold leB at h
  rw [Bool.and_eq_true] at h
  exact ⟨Nat.le_of_ble_eq_true h.1, Nat.eq_of_beq_eq_true h.2⟩
theorem beq_iff {a c : Nat} (h : Nat.beq a c = true) : a = c := Nat.eq_of_beq_eq_true h
theorem dg_or {k X Y i : Nat} : dg k (X ||| Y) i = dg k X i ||| dg k Y i := by
  unfold dg
  rw [Nat.shiftRight_or_distrib, Nat.or_mod_two_pow]
/-- how often one of these books is touched -/
def tmk (H P m : Nat) : Nat := tc (fun s => H.testBit (s - 1)) P m
section Cert
variable (b k N nS : Nat) (row pot LM Fa LA sS al sup Um : Nat → Nat) (G Gs ones : Nat)
/-- a step of a word, and the bounds at both its ends -/
noncomputable def edB (P X sv m t : Nat) : Bool :=
  Nat.beq (rsn P 0 m) 0 && (Nat.blt t N && (Nat.beq (row t % 2097152) (aft P m) &&
    (bif Nat.blt m 7 then fz (sl P m) fun a => Nat.beq (((row t >>> 249) &&& LA a) ||| sv) sv && leB G (X &&& LM a) ((Fa a + pot t) &&& LM a)
    else Nat.beq ((row t >>> 249) ||| sv) sv && leB G X ((Fa (sl P (plc m)) ||| Fa (sl P (plc m + 1))) + pot t))))
def nC : Nat := nS * (2 ^ b - 1)
noncomputable def rowB (r : Nat) : Bool :=
  fz (row r) fun R => fz (R % 2097152) fun P => fz (pot r) fun X => fz (R >>> 249) fun sv =>
    Nat.beq (X &&& G) 0 && (lp (fun C => bif inOrd P 0 C then Nat.beq ((X >>> (k * (nC b nS * C))) % 2 ^ (k * nC b nS)) 0 && Nat.beq ((sv >>> (2 ^ b * C)) % 2 ^ 2 ^ b) (2 ^ 2 ^ b - 1) else true) 2 &&
      lp (fun m => fz ((R >>> (21 + 12 * m)) % 4096) fun t => bif Nat.beq t 4095 then !(Nat.beq (rsn P 0 m) 0) else edB N row pot LM Fa LA G P X sv m t) 19)
/-! ways round -/
noncomputable def pw {R : Type} (fl : R) : Nat → Nat → Nat → Nat → Nat → Nat → (Nat → Nat → Nat → Nat → R) → R
  | 0, _, _, _, _, _, _ => fl
  | f + 1, x, P, Q, u, L, K => fz (x % 32) fun m => bif Nat.beq m 31 then K P Q u L else
      bif Nat.blt m 19 && Nat.beq (rsn P 0 m) 0 then fz (aft P m) fun P' => fz (x / 32) fun x' => fz (L + 1) fun L' =>
        (bif Nat.blt m 7 then fz (Q ||| 1 <<< (sl P m)) fun Q' => fz (u + Um (sl P m)) fun u' => pw fl f x' P' Q' u' L' K
        else fz (u + (Um (sl P (plc m)) ||| Um (sl P (plc m + 1)))) fun u' => pw fl f x' P' Q u' L' K)
      else fl
noncomputable def pws (C : Nat) : List Nat → Nat → Nat → List (Nat × Nat) → (Nat → List (Nat × Nat) → Nat) → Nat
  | [], _, Q, acc, K => K Q acc
  | x :: xs, P, Q, acc, K => pw Um 0 40 x P Q 0 0 fun P' Q' u L => bif inOrd P' 0 C && Nat.ble L 31 then pws C xs P Q' ((u, L) :: acc) K else 0
def gdB (blk : Nat) (q : Nat × Nat) (H : Nat) : Bool := Nat.beq H 0 || Nat.ble (dg k q.1 (H - 1)) ((60 - q.2) / 8 + dg k blk (H - 1))
def ccB (blk : Nat) : Nat → Nat → List (Nat × Nat) → Bool
  | 0, H, ps => Nat.beq H 0 && !ps.isEmpty
  | f + 1, H, ps => !(ps.filter fun q => gdB k blk q H).isEmpty && lp (fun s => bif H.testBit s then ccB blk f (H ^^^ (1 <<< s)) (ps.filter fun q => gdB k blk q H) else true) b
def blkO (X C si : Nat) : Nat := (X >>> (k * (nC b nS * C + (2 ^ b - 1) * si))) % 2 ^ (k * (2 ^ b - 1))
noncomputable def entB (P X C si : Nat) : List Nat → Nat
  | [x] => pw Um 0 40 x P 0 0 0 fun P' Q u L => bif inOrd P' 0 C && (Nat.ble L (hf k) && (leB Gs u (blkO b k nS X C si + (60 - L) / 8 * ones) && Nat.blt si nS)) then al (Q >>> 1) &&& sup si else 0
  | xs => pws Um C xs P 0 [] fun Q acc => bif Nat.blt si nS && ccB b k (blkO b k nS X C si) b (2 ^ b - 1) acc then al (Q >>> 1) &&& sup si else 0
noncomputable def orE (P X C : Nat) : List (Nat × List Nat) → Nat
  | [] => 0
  | e :: es => entB b k nS al sup Um Gs ones P X C e.1 e.2 ||| orE P X C es
noncomputable def rtB (r : Nat) (e : List (Nat × List Nat) × List (Nat × List Nat)) : Bool :=
  fz (row r) fun R => fz (R % 2097152) fun P => fz (pot r) fun X => fz (R >>> 249) fun sv =>
    (bif inOrd P 0 0 then true else fz (sv % 2 ^ 2 ^ b) fun w => Nat.beq (w &&& orE b k nS al sup Um Gs ones P X 0 e.1) w) &&
    (bif inOrd P 0 1 then true else fz ((sv >>> 2 ^ b) % 2 ^ 2 ^ b) fun w => Nat.beq (w &&& orE b k nS al sup Um Gs ones P X 1 e.2) w)
noncomputable def rtsB : Nat → List (List (Nat × List Nat) × List (Nat × List Nat)) → Bool
  | _, [] => true
  | r, e :: es => rtB b k nS row pot al sup Um Gs ones r e && rtsB (r + 1) es
end Cert
