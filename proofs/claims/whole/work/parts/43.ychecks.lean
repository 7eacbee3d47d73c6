/-! the reference's counting, told with Nat; it comes to the same for every word -/
def ff (p : Nat) : Nat → Nat
  | 0 => 1
  | k + 1 => ff p k * (p - k)
def wY (p l : Nat) : Nat := if l ≤ p then ff p l else 0
def c0 (P q : Nat) : Nat := cnt (fun i => decide (sl P i = 0)) q
def c1 (P q : Nat) : Nat := cnt (fun i => !decide (sl P i = 0)) q
def c2 (P p q : Nat) : Nat := cnt (fun i => !decide (sl P i = 0) && decide (sl P i < sl P p)) q
/-- how many words begin alike but have a lesser sign at place p -/
def bfY (b P p : Nat) : Nat := if sl P p = 0 then 0 else (sl P p - 1 - c2 P p p) * wY (6 - p) (b - c1 P p - 1) + (if 7 - b - c0 P p = 0 then 0 else wY (6 - p) (b - c1 P p))
def bfB (b P p : Nat) : Bool := decide (sl P p = 0) || (decide (c0 P p ≤ 7 - b) && (decide (c1 P p + 1 ≤ b) && decide (c2 P p p + 1 ≤ sl P p)))
def usY (P t p : Nat) : Bool := decide (cnt (fun q => decide (sl P q = t)) p ≠ 0)
/-- of the books that do not stand ahead of place p, from t on, the one behind so many others -/
def unY (P p : Nat) : Nat → Nat → Nat → Nat
  | 0, _, _ => 0
  | k + 1, n, t => if usY P t p = true then unY P p k n (t + 1) else if n = 0 then t else unY P p k (n - 1) (t + 1)
def spL (b : Nat) : Nat → Nat → Nat → Nat → Nat → Nat → Option Nat
  | 0, _, _, _, P, _ => some P
  | k + 1, g, m, rest, P, p => if rest < (if g = 0 then 0 else wY (6 - p) m) then spL b k (g - 1) m rest P (p + 1) else
      if m = 0 then none else if wY (6 - p) (m - 1) = 0 then none else
      spL b k g (m - 1) ((rest - (if g = 0 then 0 else wY (6 - p) m)) % wY (6 - p) (m - 1)) (wsl P p (unY P p b ((rest - (if g = 0 then 0 else wY (6 - p) m)) / wY (6 - p) (m - 1)) 1)) (p + 1)
def dsP (P F p q : Nat) : Bool := decide (p < q) && wrg F (sl P p) (sl P q)
def dsY (P F : Nat) : Nat := sm (fun p => cnt (fun q => dsP P F p q) 7) 7
def clB (P p : Nat) : Bool := !decide (sl P (p + 1) = 0) && decide (sl P p = 0)
def ioY (P F C : Nat) : Bool := decide (dsY P F = 0) && (decide (cnt (clB P) 6 = 0) || decide (C = 0))
def chk2 (b : Nat) (q : Nat × Nat) : Bool := ((List.range 7).all (bfB b q.1)) && (decide (sm (bfY b q.1) 7 = q.2) && decide (spL b 7 (7 - b) b q.2 0 0 = some q.1))
set_option maxRecDepth 20000 in
theorem chk2_0 : (allW 0).zipIdx.all (chk2 0) = true := by decide +kernel
set_option maxRecDepth 20000 in
theorem chk2_1 : (allW 1).zipIdx.all (chk2 1) = true := by decide +kernel
set_option maxRecDepth 20000 in
theorem chk2_2 : (allW 2).zipIdx.all (chk2 2) = true := by decide +kernel
set_option maxRecDepth 20000 in
theorem chk2_3 : (allW 3).zipIdx.all (chk2 3) = true := by decide +kernel
set_option maxRecDepth 20000 in
theorem chk2_4 : (allW 4).zipIdx.all (chk2 4) = true := by decide +kernel
set_option maxRecDepth 20000 in
theorem chk2_5 : (allW 5).zipIdx.all (chk2 5) = true := by decide +kernel
theorem chk2_all {b : Nat} (hb : b < 6) : (allW b).zipIdx.all (chk2 b) = true := by
  rcases (show b = 0 ∨ b = 1 ∨ b = 2 ∨ b = 3 ∨ b = 4 ∨ b = 5 by omega) with rfl | rfl | rfl | rfl | rfl | rfl
  · exact chk2_0
  · exact chk2_1
  · exact chk2_2
  · exact chk2_3
  · exact chk2_4
  · exact chk2_5
theorem chk2_at {b r : Nat} (hb : b < 6) (hr : r < wds b) : chk2 b (wd b r, r) = true := by
  have h := hr
  rw [← allW_len hb] at h
  have h1 := List.getElem?_eq_getElem h
  generalize (allW b)[r] = P at h1
  have hm : (P, r) ∈ (allW b).zipIdx := List.mem_iff_getElem?.mpr ⟨r, by rw [List.getElem?_zipIdx, h1]; simp⟩
  have h2 := List.all_eq_true.mp (chk_all hb) (P, r) hm
  simp only [chk, Bool.and_eq_true, decide_eq_true_eq] at h2
  have h3 : wd b r = P := by unfold wd; rw [h2.1.2]; rfl
  rw [h3]
  exact List.all_eq_true.mp (chk2_all hb) (P, r) hm
theorem bf_ok {b P p : Nat} (hb : b < 6) (hv : VW b P) (hp : p < 7) : sl P p = 0 ∨ (c0 P p ≤ 7 - b ∧ c1 P p + 1 ≤ b ∧ c2 P p p + 1 ≤ sl P p) := by
  have h := chk2_at hb (rk_lt hb hv)
  rw [wd_rk hb hv] at h
  simp only [chk2, Bool.and_eq_true, List.all_eq_true] at h
  have h1 := h.1 p (List.mem_range.mpr hp)
  simpa [bfB] using h1
theorem bf_rk {b P : Nat} (hb : b < 6) (hv : VW b P) : sm (bfY b P) 7 = rk b P := by
  have h := chk2_at hb (rk_lt hb hv)
  rw [wd_rk hb hv] at h
  simp only [chk2, Bool.and_eq_true, decide_eq_true_eq] at h
  exact h.2.1
theorem sp_wd {b r : Nat} (hb : b < 6) (hr : r < wds b) : spL b 7 (7 - b) b r 0 0 = some (wd b r) := by
  have h := chk2_at hb hr
  simp only [chk2, Bool.and_eq_true, decide_eq_true_eq] at h
  exact h.2.2
