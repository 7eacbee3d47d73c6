/-! all words of some number of books, in the order of their ranks -/
def awL : Nat → List Nat → Nat → List (List Nat)
  | 0, ss, g => if ss = [] ∧ g = 0 then [[]] else []
  | k + 1, ss, g => (if g = 0 then [] else (awL k ss (g - 1)).map (fun w => 0 :: w)) ++ ss.flatMap (fun s => (awL k (ss.erase s) g).map (fun w => s :: w))
def pkL : List Nat → Nat
  | [] => 0
  | s :: w => s + 8 * pkL w
def allW (b : Nat) : List Nat := (awL 7 ((List.range b).map (fun s => s + 1)) (7 - b)).map pkL
def cs (P t : Nat) : Nat := cnt (fun p => sl P p == t) 7
def VW (b P : Nat) : Prop := P < 2097152 ∧ (∀ p, p < 7 → sl P p ≤ b) ∧ ∀ s, 1 ≤ s → s ≤ b → cs P s = 1
def vwB (b P : Nat) : Bool := decide (P < 2097152) && ((List.range 7).all fun p => decide (sl P p ≤ b)) && ((List.range b).all fun s => decide (cs P (s + 1) = 1))
theorem vwB_of {b P : Nat} (h : vwB b P = true) : VW b P := by
  simp only [vwB, Bool.and_eq_true, decide_eq_true_eq, List.all_eq_true, List.mem_range] at h
  refine ⟨h.1.1, h.1.2, fun s h1 h2 => ?_⟩
  have h3 := h.2 (s - 1) (by omega)
  rwa [show s - 1 + 1 = s by omega] at h3
def chk (b : Nat) (q : Nat × Nat) : Bool := decide (rkC b q.1 = some q.2) && decide (wdC b q.2 = some q.1) && vwB b q.1
theorem chk_0 : (allW 0).zipIdx.all (chk 0) = true := by decide +kernel
theorem chk_1 : (allW 1).zipIdx.all (chk 1) = true := by decide +kernel
theorem chk_2 : (allW 2).zipIdx.all (chk 2) = true := by decide +kernel
theorem chk_3 : (allW 3).zipIdx.all (chk 3) = true := by decide +kernel
theorem chk_4 : (allW 4).zipIdx.all (chk 4) = true := by decide +kernel
theorem chk_5 : (allW 5).zipIdx.all (chk 5) = true := by decide +kernel
theorem chk_all {b : Nat} (hb : b < 6) : (allW b).zipIdx.all (chk b) = true := by
  match b, hb with
  | 0, _ => exact chk_0
  | 1, _ => exact chk_1
  | 2, _ => exact chk_2
  | 3, _ => exact chk_3
  | 4, _ => exact chk_4
  | 5, _ => exact chk_5
theorem allW_len {b : Nat} (hb : b < 6) : (allW b).length = wds b := by
  have : ∀ b, b < 6 → (allW b).length = wds b := by decide +kernel
  exact this b hb
theorem awL_mem : ∀ (k : Nat) (w ss : List Nat) (g : Nat), w.length = k → (w.filter (fun s => s != 0)).Perm ss → w.count 0 = g → w ∈ awL k ss g
  | 0, w, ss, g, hl, hp, hc => by
    obtain rfl : w = [] := List.eq_nil_of_length_eq_zero hl
    have h1 : ss = [] := List.nil_perm.mp (by simpa using hp)
    subst h1
    subst hc
    simp [awL]
  | k + 1, [], ss, g, hl, hp, hc => by simp at hl
  | k + 1, s :: w, ss, g, hl, hp, hc => by
    have hl' : w.length = k := by simpa using hl
    unfold awL
    rw [List.mem_append]
    by_cases h0 : s = 0
    · subst h0
      have h1 : w.count 0 + 1 = g := by simpa using hc
      refine Or.inl ?_
      rw [if_neg (by omega)]
      exact List.mem_map.mpr ⟨w, awL_mem k w ss (g - 1) hl' (by simpa using hp) (by omega), rfl⟩
    · refine Or.inr ?_
      have h2 : ((s :: w).filter (fun s => s != 0)) = s :: w.filter (fun s => s != 0) := List.filter_cons_of_pos (by simpa using h0)
      rw [h2] at hp
      have h3 := List.cons_perm_iff_perm_erase.mp hp
      rw [List.mem_flatMap]
      refine ⟨s, h3.1, List.mem_map.mpr ⟨w, awL_mem k w (ss.erase s) g hl' h3.2 ?_, rfl⟩⟩
      rw [← hc, List.count_cons_of_ne (by simpa using h0)]
theorem sl_div (P p : Nat) : sl P p = P / 2 ^ (3 * p) % 8 := by
  unfold sl
  rw [Nat.shiftRight_eq_div_pow, show (7 : Nat) = 2 ^ 3 - 1 from rfl, Nat.and_two_pow_sub_one_eq_mod]
theorem pkL_sl {P : Nat} (hP : P < 2097152) : pkL ((List.range 7).map (sl P)) = P := by
  have h : (List.range 7).map (sl P) = [sl P 0, sl P 1, sl P 2, sl P 3, sl P 4, sl P 5, sl P 6] := rfl
  rw [h]
  simp only [pkL, sl_div]
  omega
theorem VW_mem {b P : Nat} (hb : b < 6) (h : VW b P) : P ∈ allW b := by
  obtain ⟨h1, h2, h3⟩ := h
  unfold allW
  refine List.mem_map.mpr ⟨(List.range 7).map (sl P), ?_, pkL_sl h1⟩
  have hcs : ∀ t, List.count t ((List.range 7).map (sl P)) = cs P t := by
    intro t
    have h : (List.range 7).map (sl P) = [sl P 0, sl P 1, sl P 2, sl P 3, sl P 4, sl P 5, sl P 6] := rfl
    rw [h]
    simp only [List.count_cons, List.count_nil, cs, cnt]
    have hb : ∀ c : Bool, (if c = true then 1 else 0) = c.toNat := by decide
    simp only [hb]
    omega
  have hperm : (((List.range 7).map (sl P)).filter (fun s => s != 0)).Perm ((List.range b).map (fun s => s + 1)) := by
    rw [List.perm_iff_count]
    intro t
    by_cases ht0 : t = 0
    · subst ht0
      rw [List.count_eq_zero.mpr (by simp), List.count_eq_zero.mpr (by simp)]
    · rw [List.count_filter (by simpa using ht0), hcs]
      by_cases htb : t ≤ b
      · rw [h3 t (by omega) htb]
        have h9 : ∀ b, b < 6 → ∀ t, t < 6 → 1 ≤ t → t ≤ b → List.count t ((List.range b).map (fun s => s + 1)) = 1 := by decide
        exact (h9 b hb t (by omega) (by omega) htb).symm
      · rw [← hcs, List.count_eq_zero.mpr, List.count_eq_zero.mpr]
        · intro h
          obtain ⟨s, h4, h5⟩ := List.mem_map.mp h
          have := List.mem_range.mp h4
          omega
        · intro h
          obtain ⟨s, h4, h5⟩ := List.mem_map.mp h
          have := h2 s (List.mem_range.mp h4)
          omega
  refine awL_mem 7 _ _ (7 - b) (by simp) hperm ?_
  have h5 := hperm.length_eq
  have h6 := List.length_eq_countP_add_countP (fun s => s != 0) (l := (List.range 7).map (sl P))
  rw [List.length_map, List.length_range] at h5 h6
  rw [← List.countP_eq_length_filter] at h5
  have h7 : List.count 0 ((List.range 7).map (sl P)) = List.countP (fun s => decide ¬(s != 0) = true) ((List.range 7).map (sl P)) := by
    unfold List.count
    congr 1
    funext s
    by_cases hs : s = 0 <;> simp [hs]
  omega
/-- a word has a rank, and the rank its word -/
theorem VW_rank {b P : Nat} (hb : b < 6) (h : VW b P) : ∃ r, r < wds b ∧ rkC b P = some r ∧ wdC b r = some P := by
  obtain ⟨r, hr⟩ := List.getElem?_of_mem (VW_mem hb h)
  have h1 := List.all_eq_true.mp (chk_all hb) (P, r) (List.mem_iff_getElem?.mpr ⟨r, by rw [List.getElem?_zipIdx, hr]; simp⟩)
  simp only [chk, Bool.and_eq_true, decide_eq_true_eq] at h1
  refine ⟨r, ?_, h1.1.1, h1.1.2⟩
  rw [← allW_len hb]
  exact (List.getElem?_eq_some_iff.mp hr).1
theorem rank_VW {b r : Nat} (hb : b < 6) (h : r < wds b) : ∃ P, VW b P ∧ wdC b r = some P ∧ rkC b P = some r := by
  rw [← allW_len hb] at h
  have hr := List.getElem?_eq_getElem h
  generalize (allW b)[r] = P at hr
  have h1 := List.all_eq_true.mp (chk_all hb) (P, r) (List.mem_iff_getElem?.mpr ⟨r, by rw [List.getElem?_zipIdx, hr]; simp⟩)
  simp only [chk, Bool.and_eq_true, decide_eq_true_eq] at h1
  exact ⟨P, vwB_of h1.2, h1.1.2, h1.1.1⟩
def rk (b P : Nat) : Nat := (rkC b P).getD 0
def wd (b r : Nat) : Nat := (wdC b r).getD 0
theorem rk_lt {b P : Nat} (hb : b < 6) (h : VW b P) : rk b P < wds b := by
  obtain ⟨r, h1, h2, h3⟩ := VW_rank hb h
  unfold rk
  rw [h2]
  exact h1
theorem rk_some {b P : Nat} (hb : b < 6) (h : VW b P) : rkC b P = some (rk b P) := by
  obtain ⟨r, h1, h2, h3⟩ := VW_rank hb h
  unfold rk
  rw [h2]
  rfl
theorem wd_rk {b P : Nat} (hb : b < 6) (h : VW b P) : wd b (rk b P) = P := by
  obtain ⟨r, h1, h2, h3⟩ := VW_rank hb h
  unfold rk wd
  rw [h2]
  show (wdC b r).getD 0 = P
  rw [h3]
  rfl
theorem wd_VW {b r : Nat} (hb : b < 6) (h : r < wds b) : VW b (wd b r) := by
  obtain ⟨P, h1, h2, h3⟩ := rank_VW hb h
  unfold wd
  rw [h2]
  exact h1
theorem wd_some {b r : Nat} (hb : b < 6) (h : r < wds b) : wdC b r = some (wd b r) := by
  obtain ⟨P, h1, h2, h3⟩ := rank_VW hb h
  unfold wd
  rw [h2]
  rfl
theorem rk_wd {b r : Nat} (hb : b < 6) (h : r < wds b) : rk b (wd b r) = r := by
  obtain ⟨P, h1, h2, h3⟩ := rank_VW hb h
  unfold rk wd
  rw [h2]
  show (rkC b P).getD 0 = r
  rw [h3]
  rfl
theorem wds_lt {b : Nat} (hb : b < 6) : wds b ≤ 2520 := by
  have : ∀ b, b < 6 → wds b ≤ 2520 := by decide
  exact this b hb
theorem wds_pos {b : Nat} (hb : b < 6) : 0 < wds b := by
  have : ∀ b, b < 6 → 0 < wds b := by decide
  exact this b hb
theorem s_rank {b P : Nat} {h : pH} (hb : b < 6) (hv : VW b P) : f_K_rankOf (nI P) (nI b) h = rI (nI (rk b P)) h := s_rankOf hv.1 hb (rk_some hb hv)
theorem s_word {b r : Nat} {h : pH} (hb : b < 6) (hr : r < wds b) : f_K_wordAt (nI r) (nI b) h = rI (nI (wd b r)) h := s_wordAt hb (by have := wds_lt hb; omega) (wd_some hb hr)
/-! moves keep words words -/
theorem cnt_upd (g : Nat → Bool) (v : Bool) (i : Nat) : ∀ n, i < n → cnt (fun q => if q = i then v else g q) n + (g i).toNat = cnt g n + v.toNat
  | 0, h => by omega
  | n + 1, h => by
    show cnt (fun q => if q = i then v else g q) n + (if n = i then v else g n).toNat + (g i).toNat = cnt g n + (g n).toNat + v.toNat
    by_cases hn : n = i
    · subst hn
      rw [if_pos rfl]
      have h1 : ∀ m, m ≤ n → cnt (fun q => if q = n then v else g q) m = cnt g m := by
        intro m
        induction m with
        | zero => intro _; rfl
        | succ m ih =>
          intro hm
          show cnt _ m + (if m = n then v else g m).toNat = cnt g m + (g m).toNat
          rw [ih (by omega), if_neg (by omega)]
      rw [h1 n (Nat.le_refl _)]
      omega
    · rw [if_neg hn]
      have := cnt_upd g v i n (by omega)
      omega
theorem cnt_congr {g g' : Nat → Bool} : ∀ n, (∀ q, q < n → g q = g' q) → cnt g n = cnt g' n
  | 0, _ => rfl
  | n + 1, h => by
    show cnt g n + (g n).toNat = cnt g' n + (g' n).toNat
    rw [cnt_congr n (fun q hq => h q (by omega)), h n (by omega)]
theorem cs_wsl {P p s t : Nat} (hp : p < 7) (hs : s < 8) : cs (wsl P p s) t + (sl P p == t).toNat = cs P t + (s == t).toNat := by
  have h1 := cnt_upd (fun q => sl P q == t) (s == t) p 7 hp
  have h2 : cs (wsl P p s) t = cnt (fun q => if q = p then (s == t) else (sl P q == t)) 7 := by
    apply cnt_congr
    intro q hq
    rw [sl_wsl hp hq hs]
    by_cases hqp : q = p
    · rw [if_pos hqp, if_pos hqp]
    · rw [if_neg hqp, if_neg hqp]
  rw [h2]
  exact h1
theorem gB_gap {P p : Nat} (hp : p < 7) : ∀ (k d : Nat), d + k = 7 → 1 ≤ d → (∃ q, q < 7 ∧ sl P q = 0 ∧ (q + d ≤ p ∨ p + d ≤ q)) → gB P p d k ≠ p ∧ sl P (gB P p d k) = 0
  | 0, d, hd, h1, ⟨q, h2, h3, h4⟩ => by omega
  | k + 1, d, hd, h1, ⟨q, h2, h3, h4⟩ => by
    unfold gB
    split
    · rename_i h; exact ⟨by omega, h.2⟩
    · rename_i h5
      split
      · rename_i h; exact ⟨by omega, h.2⟩
      · rename_i h6
        refine gB_gap hp k (d + 1) (by omega) (by omega) ⟨q, h2, h3, ?_⟩
        rcases h4 with h4 | h4
        · refine Or.inl ?_
          rcases Nat.lt_or_eq_of_le h4 with h7 | h7
          · omega
          · exact absurd ⟨by omega, by rw [show p - d = q by omega]; exact h3⟩ h5
        · refine Or.inr ?_
          rcases Nat.lt_or_eq_of_le h4 with h7 | h7
          · omega
          · exact absurd ⟨by omega, by rw [h7]; exact h3⟩ h6
theorem gap_at {P p : Nat} (hp : p < 7) (h : ∃ q, q < 7 ∧ sl P q = 0 ∧ q ≠ p) : gap P p ≠ p ∧ sl P (gap P p) = 0 := by
  obtain ⟨q, h1, h2, h3⟩ := h
  exact gB_gap hp 6 1 rfl (by omega) ⟨q, h1, h2, by omega⟩
theorem VW_gap {b P p : Nat} (hb : b < 6) (hv : VW b P) (hp : p < 7) : ∃ q, q < 7 ∧ sl P q = 0 ∧ q ≠ p := by
  refine Classical.byContradiction fun hn => ?_
  have h1 : ∀ q, q < 7 → q ≠ p → sl P q ≠ 0 := fun q h2 h3 h4 => hn ⟨q, h2, h4, h3⟩
  have tot : ∀ q, q < 7 → q ≠ p → 1 ≤ (sl P q == 1).toNat + (sl P q == 2).toNat + (sl P q == 3).toNat + (sl P q == 4).toNat + (sl P q == 5).toNat := by
    intro q h2 h3
    have h4 := h1 q h2 h3
    have h5 := hv.2.1 q h2
    have h6 : sl P q = 1 ∨ sl P q = 2 ∨ sl P q = 3 ∨ sl P q = 4 ∨ sl P q = 5 := by omega
    rcases h6 with h6 | h6 | h6 | h6 | h6 <;> rw [h6] <;> decide
  have hle : ∀ s, 1 ≤ s → cs P s ≤ 1 := by
    intro s hs
    by_cases hsb : s ≤ b
    · rw [hv.2.2 s hs hsb]; omega
    · have : cs P s = 0 := by
        unfold cs
        rw [cnt_congr (g' := fun _ => false) 7 (fun q hq => by
          have := hv.2.1 q hq
          simp only [beq_eq_false_iff_ne, ne_eq]
          omega)]
        rfl
      omega
  have c1 := hle 1 (by omega)
  have c2 := hle 2 (by omega)
  have c3 := hle 3 (by omega)
  have c4 := hle 4 (by omega)
  have c5 := hle 5 (by omega)
  simp only [cs, cnt] at c1 c2 c3 c4 c5
  have t0 := tot 0 (by omega)
  have t1 := tot 1 (by omega)
  have t2 := tot 2 (by omega)
  have t3 := tot 3 (by omega)
  have t4 := tot 4 (by omega)
  have t5 := tot 5 (by omega)
  have t6 := tot 6 (by omega)
  have hp' : p = 0 ∨ p = 1 ∨ p = 2 ∨ p = 3 ∨ p = 4 ∨ p = 5 ∨ p = 6 := by omega
  rcases hp' with rfl | rfl | rfl | rfl | rfl | rfl | rfl
  · have := t1 (by decide); have := t2 (by decide); have := t3 (by decide); have := t4 (by decide); have := t5 (by decide); have := t6 (by decide); omega
  · have := t0 (by decide); have := t2 (by decide); have := t3 (by decide); have := t4 (by decide); have := t5 (by decide); have := t6 (by decide); omega
  · have := t0 (by decide); have := t1 (by decide); have := t3 (by decide); have := t4 (by decide); have := t5 (by decide); have := t6 (by decide); omega
  · have := t0 (by decide); have := t1 (by decide); have := t2 (by decide); have := t4 (by decide); have := t5 (by decide); have := t6 (by decide); omega
  · have := t0 (by decide); have := t1 (by decide); have := t2 (by decide); have := t3 (by decide); have := t5 (by decide); have := t6 (by decide); omega
  · have := t0 (by decide); have := t1 (by decide); have := t2 (by decide); have := t3 (by decide); have := t4 (by decide); have := t6 (by decide); omega
  · have := t0 (by decide); have := t1 (by decide); have := t2 (by decide); have := t3 (by decide); have := t4 (by decide); have := t5 (by decide); omega
theorem aft_sl {P m q : Nat} (hb : ∃ g, g < 7 ∧ sl P g = 0 ∧ g ≠ m) (hm : m < 19) (h0 : rsn P 0 m = 0) (hq : q < 7) : sl (aft P m) q =
    if m < 7 then (if q = gap P m then sl P m else if q = m then 0 else sl P q)
    else if m < 13 then (if q = plc m + 2 then sl P (plc m + 1) else if q = plc m + 1 then sl P (plc m) else if q = plc m then 0 else sl P q)
    else (if q = plc m then sl P (plc m + 1) else if q = plc m - 1 then sl P (plc m) else if q = plc m + 1 then 0 else sl P q) := by
  unfold aft
  by_cases h7 : m < 7
  · rw [if_pos h7, if_pos h7, sl_wsl (gap_lt h7) hq (sl_lt _ _), sl_wsl h7 hq (by omega)]
  · obtain ⟨h1, h2, h3, h4⟩ := rsn_push hm h7 h0
    have hp6 := plc_lt6 hm h7
    rw [if_neg h7, if_neg h7]
    by_cases h13 : m < 13
    · have := (h3 h13).1
      rw [if_pos h13, if_pos h13, sl_wsl (by omega) hq (sl_lt _ _), sl_wsl (by omega) hq (sl_lt _ _), sl_wsl (by omega) hq (by omega)]
    · have := (h4 h13).1
      rw [if_neg h13, if_neg h13, sl_wsl (by omega) hq (sl_lt _ _), sl_wsl (by omega) hq (sl_lt _ _), sl_wsl (by omega) hq (by omega)]
theorem rsn_0 {P S m : Nat} (h : rsn P S m = 0) : rsn P 0 m = 0 := by
  unfold rsn at *
  by_cases h7 : m < 7
  · rw [if_pos h7] at *
    split at h
    · omega
    · rename_i h1
      rw [if_neg h1, Nat.zero_testBit]
      rfl
  · rw [if_neg h7] at *
    exact h
theorem aft_lt {P m : Nat} (hP : P < 2097152) (hm : m < 19) (h0 : rsn P 0 m = 0) : aft P m < 2097152 := by
  unfold aft
  by_cases h7 : m < 7
  · rw [if_pos h7]
    exact wsl_lt (wsl_lt hP h7 (by omega)) (gap_lt h7) (sl_lt _ _)
  · obtain ⟨h1, h2, h3, h4⟩ := rsn_push hm h7 h0
    have hp6 := plc_lt6 hm h7
    rw [if_neg h7]
    by_cases h13 : m < 13
    · have := (h3 h13).1
      rw [if_pos h13]
      exact wsl_lt (wsl_lt (wsl_lt hP (by omega) (by omega)) (by omega) (sl_lt _ _)) (by omega) (sl_lt _ _)
    · have := (h4 h13).1
      rw [if_neg h13]
      exact wsl_lt (wsl_lt (wsl_lt hP (by omega) (by omega)) (by omega) (sl_lt _ _)) (by omega) (sl_lt _ _)
theorem aft_cs {b P m t : Nat} (hb : b < 6) (hv : VW b P) (hm : m < 19) (h0 : rsn P 0 m = 0) (ht : 1 ≤ t) : cs (aft P m) t = cs P t := by
  have z : (0 == t) = false := by simp; omega
  unfold aft
  by_cases h7 : m < 7
  · rw [if_pos h7]
    have hg := gap_at h7 (VW_gap hb hv h7)
    have e1 := cs_wsl (P := P) (p := m) (s := 0) (t := t) h7 (by omega)
    have e2 := cs_wsl (P := wsl P m 0) (p := gap P m) (s := sl P m) (t := t) (gap_lt h7) (sl_lt _ _)
    rw [sl_wsl h7 (gap_lt h7) (by omega), if_neg hg.1, hg.2] at e2
    rw [z] at e1 e2
    simp only [Bool.toNat_false] at e1 e2
    omega
  · obtain ⟨h1, h2, h3, h4⟩ := rsn_push hm h7 h0
    have hp6 := plc_lt6 hm h7
    rw [if_neg h7]
    by_cases h13 : m < 13
    · obtain ⟨h5, h6⟩ := h3 h13
      rw [if_pos h13]
      have e1 := cs_wsl (P := P) (p := plc m) (s := 0) (t := t) (by omega) (by omega)
      have e2 := cs_wsl (P := wsl P (plc m) 0) (p := plc m + 1) (s := sl P (plc m)) (t := t) (by omega) (sl_lt _ _)
      have e3 := cs_wsl (P := wsl (wsl P (plc m) 0) (plc m + 1) (sl P (plc m))) (p := plc m + 2) (s := sl P (plc m + 1)) (t := t) (by omega) (sl_lt _ _)
      rw [sl_wsl (by omega) (by omega) (by omega), if_neg (by omega)] at e2
      rw [sl_wsl (by omega) (by omega) (sl_lt _ _), if_neg (by omega), sl_wsl (by omega) (by omega) (by omega), if_neg (by omega), h6] at e3
      rw [z] at e1 e3
      simp only [Bool.toNat_false] at e1 e2 e3
      omega
    · obtain ⟨h5, h6⟩ := h4 h13
      rw [if_neg h13]
      have e1 := cs_wsl (P := P) (p := plc m + 1) (s := 0) (t := t) (by omega) (by omega)
      have e2 := cs_wsl (P := wsl P (plc m + 1) 0) (p := plc m - 1) (s := sl P (plc m)) (t := t) (by omega) (sl_lt _ _)
      have e3 := cs_wsl (P := wsl (wsl P (plc m + 1) 0) (plc m - 1) (sl P (plc m))) (p := plc m) (s := sl P (plc m + 1)) (t := t) (by omega) (sl_lt _ _)
      rw [sl_wsl (by omega) (by omega) (by omega), if_neg (by omega), h6] at e2
      rw [sl_wsl (by omega) (by omega) (sl_lt _ _), if_neg (by omega), sl_wsl (by omega) (by omega) (by omega), if_neg (by omega)] at e3
      rw [z] at e1 e2
      simp only [Bool.toNat_false] at e1 e2 e3
      omega
/-- a move leads from a word to a word -/
theorem aft_VW {b P S m : Nat} (hb : b < 6) (hv : VW b P) (hm : m < 19) (hr : rsn P S m = 0) : VW b (aft P m) := by
  have h0 := rsn_0 hr
  refine ⟨aft_lt hv.1 hm h0, fun q hq => ?_, fun s h1 h2 => (aft_cs hb hv hm h0 h1).trans (hv.2.2 s h1 h2)⟩
  by_cases h7 : m < 7
  · rw [aft_sl (VW_gap hb hv h7) hm h0 hq, if_pos h7]
    have a1 := hv.2.1 q hq
    have a2 := hv.2.1 m h7
    split
    · omega
    · split <;> omega
  · obtain ⟨h1, h2, h3, h4⟩ := rsn_push hm h7 h0
    have hp6 := plc_lt6 hm h7
    have a1 := hv.2.1 q hq
    have a2 := hv.2.1 (plc m) (by omega)
    have a3 := hv.2.1 (plc m + 1) (by omega)
    rw [aft_sl (by
      by_cases h13 : m < 13
      · exact ⟨_, (h3 h13).1, (h3 h13).2, by omega⟩
      · exact ⟨_, by omega, (h4 h13).2, by omega⟩) hm h0 hq, if_neg h7]
    split
    · split
      · omega
      · split
        · omega
        · split <;> omega
    · split
      · omega
      · split
        · omega
        · split <;> omega
