/-! the fewest moves to order: breadth first, from the words in order back -/
def Bf (b S F C : Nat) (f : Nat → Nat → Int32) (d : Nat → Option Nat) (q : Nat → Nat) (len head : Nat) : Prop :=
  (∀ r, r < wds b → f 49 (fn b + r) = vI (d r)) ∧
  (∀ i, i < len → q i < wds b ∧ f 57 i = nI (fn b + q i) ∧ ∃ w, w ≤ i ∧ d (q i) = some w) ∧
  (∀ i j, i < j → j < len → q i ≠ q j) ∧
  (∀ i j u v, i ≤ j → j < len → d (q i) = some u → d (q j) = some v → u ≤ v) ∧
  (∀ r w, r < wds b → d r = some w → (∃ i, i < len ∧ q i = r) ∧ ∃ n, Pt (ED b S) (fun _ _ => 1) (gol b F C) n r w) ∧
  (∀ r, r < wds b → gol b F C r = true → d r = some 0) ∧
  (∀ i r m, i < head → r < wds b → m < 19 → ED b S r m = some (q i) → ∃ u v, d r = some u ∧ d (q i) = some v ∧ u ≤ v + 1) ∧
  (∀ j u v, j < len → head < len → d (q head) = some v → d (q j) = some u → u ≤ v + 1) ∧ head ≤ len
theorem Bf_len {b S F C : Nat} {f : Nat → Nat → Int32} {d : Nat → Option Nat} {q : Nat → Nat} {len head : Nat} (h : Bf b S F C f d q len head) : len ≤ wds b := by
  obtain ⟨_, h2, h3, _⟩ := h
  rcases Nat.eq_zero_or_pos len with e | e
  · omega
  · have := pigeon (wds b) (len - 1) q (fun j hj => (h2 j (by omega)).1) (fun i j hij hj => h3 i j hij (by omega))
    omega
theorem Bf_lt {b S F C : Nat} {f : Nat → Nat → Int32} {d : Nat → Option Nat} {q : Nat → Nat} {len head r w : Nat} (hb : b < 6) (h : Bf b S F C f d q len head) (hr : r < wds b) (hd : d r = some w) : w < 2520 := by
  have hl := Bf_len h
  have hw := wds_lt hb
  obtain ⟨_, h2, _, _, h5, _⟩ := h
  obtain ⟨i, hi, hq⟩ := (h5 r w hr hd).1
  obtain ⟨w', hw', hd'⟩ := (h2 i hi).2.2
  rw [hq, hd] at hd'
  cases hd'
  omega
/-- a word that was not reached is reached from the head -/
theorem Bf_add {b S F C : Nat} {f : Nat → Nat → Int32} {d : Nat → Option Nat} {q : Nat → Nat} {len head r m v : Nat} (hr : r < wds b) (hm : m < 19) (hh : head < len) (h : Bf b S F C f d q len head) (hE : ED b S r m = some (q head)) (hv : d (q head) = some v) (hn : d r = none) :
    Bf b S F C (s2 (s2 f 49 (fn b + r) (nI (v + 1))) 57 len (nI (fn b + r))) (fun r' => if r' = r then some (v + 1) else d r') (fun i => if i = len then r else q i) (len + 1) head := by
  obtain ⟨h1, h2, h3, h4, h5, h6, h7, h8, h9⟩ := h
  have hold : ∀ i, i < len → q i ≠ r := fun i hi e => by
    obtain ⟨w, _, hw⟩ := (h2 i hi).2.2
    rw [e, hn] at hw
    cases hw
  obtain ⟨wv, hwv, hdv⟩ := (h2 head hh).2.2
  have hvh : v ≤ head := by rw [hv] at hdv; cases hdv; exact hwv
  refine ⟨fun r' hr' => ?_, fun i hi => ?_, fun i j hij hj => ?_, fun i j u x hij hj hu hx => ?_, fun r' w' hr' hw' => ?_, fun r' hr' hg => ?_, fun i r' m' hi hr' hm' hE' => ?_, fun j u x hj _ hx hu => ?_, by omega⟩
  · by_cases hrr : r' = r
    · subst hrr
      simp [s2_at, vI]
    · simp [s2_at, hrr, h1 r' hr']
  · by_cases hil : i = len
    · subst hil
      refine ⟨by simp [hr], by simp [s2_at], v + 1, by omega, by simp⟩
    · have h0 := h2 i (by omega)
      have h00 := hold i (by omega)
      simp only [if_neg hil, if_neg h00]
      refine ⟨h0.1, ?_, h0.2.2⟩
      simp [s2_at, hil, h0.2.1]
  · have hi : i ≠ len := by omega
    by_cases hjl : j = len
    · simp only [if_neg hi, if_pos hjl]
      exact hold i (by omega)
    · simp only [if_neg hi, if_neg hjl]
      exact h3 i j hij (by omega)
  · by_cases hjl : j = len
    · simp only [if_pos hjl, if_true, Option.some.injEq] at hx
      by_cases hil : i = len
      · simp only [if_pos hil, if_true, Option.some.injEq] at hu
        omega
      · simp only [if_neg hil, if_neg (hold i (by omega))] at hu
        have := h8 i u v (by omega) hh hv hu
        omega
    · have hil : i ≠ len := by omega
      simp only [if_neg hil, if_neg (hold i (by omega))] at hu
      simp only [if_neg hjl, if_neg (hold j (by omega))] at hx
      exact h4 i j u x hij (by omega) hu hx
  · by_cases hrr : r' = r
    · subst hrr
      simp only [if_true, Option.some.injEq] at hw'
      refine ⟨⟨len, by omega, by simp⟩, ?_⟩
      obtain ⟨n, hn'⟩ := (h5 (q head) v (h2 head hh).1 hv).2
      exact ⟨n + 1, m, q head, v, hm, hE, hn', by rw [← hw']; exact Nat.add_comm _ _⟩
    · simp only [if_neg hrr] at hw'
      obtain ⟨⟨i, hi, hq⟩, hp⟩ := h5 r' w' hr' hw'
      exact ⟨⟨i, by omega, by simp [show i ≠ len by omega, hq]⟩, hp⟩
  · by_cases hrr : r' = r
    · subst hrr
      rw [h6 r' hr' hg] at hn
      cases hn
    · simp only [if_neg hrr]
      exact h6 r' hr' hg
  · have hil : i ≠ len := by omega
    simp only [if_neg hil] at hE' ⊢
    obtain ⟨u, x, a1, a2, a3⟩ := h7 i r' m' hi hr' hm' hE'
    have hrr : r' ≠ r := fun e => by rw [e, hn] at a1; cases a1
    simp only [if_neg hrr, if_neg (hold i (by omega))]
    exact ⟨u, x, a1, a2, a3⟩
  · have hhl : head ≠ len := by omega
    simp only [if_neg hhl, if_neg (hold head hh)] at hx
    rw [hv] at hx
    cases hx
    by_cases hjl : j = len
    · simp only [if_pos hjl, if_true, Option.some.injEq] at hu
      omega
    · simp only [if_neg hjl, if_neg (hold j (by omega))] at hu
      exact h8 j u v (by omega) hh hv hu
theorem Bf_next {b S F C : Nat} {f : Nat → Nat → Int32} {d : Nat → Option Nat} {q : Nat → Nat} {len head : Nat} (hh : head < len) (h : Bf b S F C f d q len head) (hs : ∀ r m, r < wds b → m < 19 → ED b S r m = some (q head) → ∃ u, d r = some u) : Bf b S F C f d q len (head + 1) := by
  obtain ⟨h1, h2, h3, h4, h5, h6, h7, h8, h9⟩ := h
  obtain ⟨v, _, hv⟩ := (h2 head hh).2.2
  refine ⟨h1, h2, h3, h4, h5, h6, fun i r m hi hr hm hE => ?_, fun j u x hj hh' hx hu => ?_, by omega⟩
  · by_cases hih : i = head
    · subst hih
      obtain ⟨u, hu⟩ := hs r m hr hm hE
      obtain ⟨j, hj, hq⟩ := (h5 r u hr hu).1
      exact ⟨u, v, hu, hv, h8 j u v hj hh hv (by rw [hq]; exact hu)⟩
    · exact h7 i r m (by omega) hr hm hE
  · have a1 := h8 j u v hj hh hv hu
    have a2 := h4 head (head + 1) v x (by omega) hh' hv hx
    omega
theorem Bf_end {b S F C : Nat} {f : Nat → Nat → Int32} {d : Nat → Option Nat} {q : Nat → Nat} {len : Nat} (hb : b < 6) (h : Bf b S F C f d q len len) : ∀ r, r < wds b → ∀ w, d r = some w ↔ Lst (ED b S) (fun _ _ => 1) (gol b F C) r w := by
  obtain ⟨h1, h2, h3, h4, h5, h6, h7, h8, h9⟩ := h
  refine lst_of (ED_lt hb) (fun r w hr hw => (h5 r w hr hw).2) h6 (fun r m r' w' hr hm hE hd => ?_)
  obtain ⟨i, hi, hq⟩ := (h5 r' w' (ED_lt hb r m r' hr hm hE) hd).1
  obtain ⟨u, v, a1, a2, a3⟩ := h7 i r m hi hr hm (by rw [hq]; exact hE)
  rw [hq, hd] at a2
  cases a2
  exact ⟨u, a1, by omega⟩
theorem RW48 : rowW 48 3620 := by unfold rowW; decide
theorem RW56 : rowW 56 3620 := by unfold rowW; decide
theorem Bf_off {b S F C : Nat} {f g : Nat → Nat → Int32} {d : Nat → Option Nat} {q : Nat → Nat} {len head : Nat} (h : Bf b S F C f d q len head) (h1 : g 49 = f 49) (h2 : g 57 = f 57) : Bf b S F C g d q len head := by
  unfold Bf at *
  rw [h1, h2]
  exact h
section Fewest
variable {h : pH} {b : Nat}
theorem s_comeFrom_16 {S F C head : Nat} (w : WF h) (hb : b < 6) (hSl : S < 2147483648) (hG : GOK h.2.2 b) : ∀ (k j : Nat) (g : Nat → Nat → Int32) (d : Nat → Option Nat) (q : Nat → Nat) (len v : Nat), j + k = cN b (q head) (19 * wds b) → Bf b S F C g d q len head → head < len → d (q head) = some v →
    (∀ i p, i < 19 * wds b → T b i = some (q head) → p < j → h.2.2 42 (fn b * 19 + st0 b (q head) + p) = nI (fn b * 19 + i) → hld (wd b (i / 19)) S (i % 19) = false → ∃ u, d (i / 19) = some u) → Off h.2.2 g [49, 57] →
    ∃ g' d' q' len', f_S_comeFrom_16 47 (nI (fn b + q head)) (nI S) (nI len) (nI (fn b * 19 + st0 b (q head) + j)) (hS h g) = rI (nI len') (hS h g') ∧ Bf b S F C g' d' q' len' (head + 1) ∧ Off h.2.2 g' [49, 57]
  | 0, j, g, d, q, len, v, hj, hB, hh, hv, hs, ho => by
    have hle := fn_le hb
    have hx := (hB.2.1 head hh).1
    have hst := st0_lt hb (show q head + 1 ≤ wds b by omega)
    rw [st0_succ] at hst
    have g46 : g 46 (fn b + q head) = nI (fn b * 19 + st0 b (q head) + cN b (q head) (19 * wds b)) := by
      rw [ho 46 (by simp)]
      exact hG.2.2.2.1 _ hx
    refine ⟨g, d, q, len, ?_, Bf_next hh hB (fun r m hr hm hE => ?_), ho⟩
    · rw [e_S_comeFrom_16]
      simp only [oo_v, hR_S, hR_W w K47 (by omega) (show R0 47 0 = some 36 from rfl), hR_W w K36 (by omega) (show R0 36 4 = some 45 from rfl), kO_S, kO_W w RW45.1, if_true, s_get (WF_S w) RW45 (show fn b + q head < 3620 by omega), cI_v, hS_2]
      rw [show g (45 + 1) (fn b + q head) = _ from g46, if_pos (by rw [i_le (by omega) (by omega)]; omega)]
    · obtain ⟨hT, hhd⟩ := (ED_T hm).1 hE
      obtain ⟨p, hp, hp2⟩ := hG.2.2.2.2.2 (q head) (19 * r + m) hx (by omega) hT
      have h5 := hs (19 * r + m) p (by omega) hT (by omega) hp2
      rw [show (19 * r + m) / 19 = r by omega, show (19 * r + m) % 19 = m by omega] at h5
      exact h5 hhd
  | k + 1, j, g, d, q, len, v, hj, hB, hh, hv, hs, ho => by
    have hle := fn_le hb
    have hx := (hB.2.1 head hh).1
    have hlen := Bf_len hB
    have hw25 := wds_lt hb
    have hst := st0_lt hb (show q head + 1 ≤ wds b by omega)
    rw [st0_succ] at hst
    have g46 : g 46 (fn b + q head) = nI (fn b * 19 + st0 b (q head) + cN b (q head) (19 * wds b)) := by
      rw [ho 46 (by simp)]
      exact hG.2.2.2.1 _ hx
    obtain ⟨i, hi, hT, h42⟩ := hG.2.2.2.2.1 (q head) j hx (by omega)
    have g42 : g 42 (fn b * 19 + st0 b (q head) + j) = nI (fn b * 19 + i) := by
      rw [ho 42 (by simp)]
      exact h42
    have hr : i / 19 < wds b := by omega
    have hm : i % 19 < 19 := Nat.mod_lt _ (by omega)
    have g38 : g 38 (fn b + i / 19) = nI (wd b (i / 19)) := by
      rw [ho 38 (by simp)]
      exact hG.1 _ hr
    have g49 : g 49 (fn b + i / 19) = vI (d (i / 19)) := hB.1 _ hr
    have hvlt := Bf_lt hb hB hx hv
    have g49x : g 49 (fn b + q head) = nI v := by rw [hB.1 _ hx, hv]; rfl
    have hone : ∀ i' p, i' < 19 * wds b → p < j + 1 → h.2.2 42 (fn b * 19 + st0 b (q head) + p) = nI (fn b * 19 + i') → p = j → i' = i := fun i' p hi' _ he hpj => by
      rw [hpj, h42, i_inj (by omega) (by omega)] at he
      omega
    have go : ∀ {g1 d1 q1 len1}, Bf b S F C g1 d1 q1 len1 head → head < len1 → q1 head = q head → d1 (q head) = some v → (∀ r u, d r = some u → d1 r = some u) → (hld (wd b (i / 19)) S (i % 19) = false → ∃ u, d1 (i / 19) = some u) → Off h.2.2 g1 [49, 57] →
        ∃ g' d' q' len', f_S_comeFrom_16 47 (nI (fn b + q head)) (nI S) (nI len1) (nI (fn b * 19 + st0 b (q head) + (j + 1))) (hS h g1) = rI (nI len') (hS h g') ∧ Bf b S F C g' d' q' len' (head + 1) ∧ Off h.2.2 g' [49, 57] := fun {g1 d1 q1 len1} c1 c2 c3 c4 c5 c6 c7 => by
      have := s_comeFrom_16 (F := F) (C := C) (head := head) w hb hSl hG k (j + 1) g1 d1 q1 len1 v (by rw [c3]; omega) c1 c2 (by rw [c3]; exact c4) (fun i' p hi' hT' hp he hhd => ?_) c7
      · rw [c3] at this
        exact this
      · rw [c3] at hT' he
        by_cases hpj : p = j
        · have := hone i' p hi' hp he hpj
          subst this
          exact c6 hhd
        · obtain ⟨u, hu⟩ := hs i' p hi' hT' (by omega) he hhd
          exact ⟨u, c5 _ _ hu⟩
    rw [e_S_comeFrom_16]
    simp only [oo_v, hR_S, hR_W w K47 (by omega) (show R0 47 0 = some 36 from rfl), hR_W w K36 (by omega) (show R0 36 4 = some 45 from rfl), kO_S, kO_W w RW45.1, if_true, s_get (WF_S w) RW45 (show fn b + q head < 3620 by omega), cI_v, hS_2]
    rw [show g (45 + 1) (fn b + q head) = _ from g46, if_neg (by rw [i_le (by omega) (by omega)]; omega)]
    simp only [oo_v, hR_S, hR_W w K47 (by omega) (show R0 47 0 = some 36 from rfl), hR_W w K36 (by omega) (show R0 36 2 = some 41 from rfl), kO_S, kO_W w RW41.1, if_true, s_get (WF_S w) RW41 (show fn b * 19 + st0 b (q head) + j < 68780 by omega), cI_v, hS_2]
    rw [show g (41 + 1) (fn b * 19 + st0 b (q head) + j) = _ from g42, if_neg (by decide), L19, i_div (by omega) (by omega), show (fn b * 19 + i) / 19 = fn b + i / 19 by omega, i_mul, i_sub (by omega), show fn b * 19 + i - (fn b + i / 19) * 19 = i % 19 by omega]
    simp only [oo_v, hR_S, hR_W w K47 (by omega) (show R0 47 1 = some 48 from rfl), kO_S, kO_W w RW48.1, if_true, s_get (WF_S w) RW48 (show fn b + i / 19 < 3620 by omega), cI_v, hS_2]
    rw [show g (48 + 1) (fn b + i / 19) = _ from g49]
    cases hd : d (i / 19) with
    | some u =>
      have hul := Bf_lt hb hB hr hd
      rw [if_neg (by rw [vI_m1 (fun w' e => by cases e; omega)]; simp), L1, i_add]
      exact go hB hh rfl hv (fun _ _ e => e) (fun _ => ⟨u, hd⟩) ho
    | none =>
      rw [if_pos (show vI none = -1 from rfl)]
      simp only [oo_v, hR_S, hR_W w K47 (by omega) (show R0 47 0 = some 36 from rfl), if_neg (show ¬ nI 19 = 0 by decide), kO_S, kO_W w K36, if_true, s_isHeld w hb hr hm hSl g38, cI_v]
      cases hhd : hld (wd b (i / 19)) S (i % 19) with
      | true =>
        rw [if_neg (by decide), L1, i_add]
        exact go hB hh rfl hv (fun _ _ e => e) (fun e => by rw [hhd] at e; cases e) ho
      | false =>
        have hE : ED b S (i / 19) (i % 19) = some (q head) := (ED_T hm).2 ⟨by rw [show 19 * (i / 19) + i % 19 = i by omega]; exact hT, hhd⟩
        have hA := Bf_add hr hm hh hB hE hv hd
        rw [if_pos (by rfl)]
        simp only [oo_v, hR_S, hR_W w K47 (by omega) (show R0 47 1 = some 48 from rfl), hR_W w K47 (by omega) (show R0 47 8 = some 56 from rfl), kO_S, kO_W w RW48.1, kO_W w RW56.1, if_true, s_get (WF_S w) RW48 (show fn b + q head < 3620 by omega), cI_v, hS_2, s_put (WF_S w) RW48 (show fn b + i / 19 < 3620 by omega), cV_v, hS_S, s_put (WF_S w) RW56 (show len < 3620 by omega)]
        rw [show g (48 + 1) (fn b + q head) = _ from g49x, L1, i_add, i_add, i_add]
        refine go hA (by omega) ?_ ?_ (fun r u hu => ?_) (fun _ => ⟨v + 1, by simp⟩) (Off.tr ho (Off.tr (s2_off (by simp)) (s2_off (by simp))))
        · simp only [if_neg (show head ≠ len by omega)]
        · rw [if_neg (fun e => by rw [e, hd] at hv; cases hv)]; exact hv
        · show (if r = i / 19 then some (v + 1) else d r) = some u
          rw [if_neg (fun e => by rw [e, hd] at hu; cases hu)]
          exact hu
end Fewest
