/-! walks; what is reached from a word, breadth first -/
def Wk (E : Nat → Nat → Option Nat) : Nat → Nat → Nat → Prop
  | 0, r, r' => r = r'
  | n + 1, r, r' => ∃ m r1, m < 19 ∧ E r m = some r1 ∧ Wk E n r1 r'
section Walks
variable {E : Nat → Nat → Option Nat}
theorem wk_snoc : ∀ (n r r1 r' m : Nat), Wk E n r r1 → m < 19 → E r1 m = some r' → Wk E (n + 1) r r'
  | 0, r, r1, r', m, h, hm, he => by
    have h : r = r1 := h
    subst h
    exact ⟨m, r', hm, he, rfl⟩
  | n + 1, r, r1, r', m, h, hm, he => by
    obtain ⟨m', r2, h1, h2, h3⟩ := h
    exact ⟨m', r2, h1, h2, wk_snoc n r2 r1 r' m h3 hm he⟩
theorem wk_last : ∀ (n r r' : Nat), Wk E (n + 1) r r' → ∃ r1 m, Wk E n r r1 ∧ m < 19 ∧ E r1 m = some r'
  | 0, r, r', h => by
    obtain ⟨m, r1, h1, h2, h3⟩ := h
    have h3 : r1 = r' := h3
    subst h3
    exact ⟨r, m, rfl, h1, h2⟩
  | n + 1, r, r', h => by
    obtain ⟨m, r1, h1, h2, h3⟩ := h
    obtain ⟨r2, m', a1, a2, a3⟩ := wk_last n r1 r' h3
    exact ⟨r2, m', ⟨m, r1, h1, h2, a1⟩, a2, a3⟩
theorem wk_pt {goal : Nat → Bool} : ∀ (n r w : Nat), Pt E (fun _ _ => 1) goal n r w ↔ w = n ∧ ∃ r', Wk E n r r' ∧ goal r' = true
  | 0, r, w => ⟨fun h => ⟨h.2, r, rfl, h.1⟩, fun h => by
    obtain ⟨h1, r', h2, h3⟩ := h
    have h2 : r = r' := h2
    subst h2
    exact ⟨h3, h1⟩⟩
  | n + 1, r, w => by
    constructor
    · intro h
      obtain ⟨m, r1, w', h1, h2, h3, h4⟩ := h
      obtain ⟨a1, r', a2, a3⟩ := (wk_pt n r1 w').1 h3
      exact ⟨by rw [h4, a1]; exact Nat.add_comm _ _, r', ⟨m, r1, h1, h2, a2⟩, a3⟩
    · intro h
      obtain ⟨hw, r', ⟨m, r1, h1, h2, a2⟩, a3⟩ := h
      exact ⟨m, r1, n, h1, h2, (wk_pt n r1 n).2 ⟨rfl, r', a2, a3⟩, by rw [hw]; exact Nat.add_comm _ _⟩
end Walks
/-- r is reached from r0 -/
def Rch (b S r0 r : Nat) : Prop := ∃ n, Wk (ED b S) n r0 r
noncomputable def rcN (b S r0 : Nat) : Nat := cnt (fun r => @decide (Rch b S r0 r) (Classical.propDecidable _)) (wds b)
theorem Rch_lt {b S r0 : Nat} (hb : b < 6) (h0 : r0 < wds b) : ∀ (n r : Nat), Wk (ED b S) n r0 r → r < wds b
  | 0, r, h => by
    have h : r0 = r := h
    omega
  | n + 1, r, h => by
    obtain ⟨r1, m, h1, h2, h3⟩ := wk_last n r0 r h
    exact ED_lt hb r1 m r (Rch_lt hb h0 n r1 h1) h2 h3
def Bg (b S r0 : Nat) (f : Nat → Nat → Int32) (d : Nat → Option Nat) (q : Nat → Nat) (len head : Nat) : Prop :=
  (∀ r, r < wds b → f 55 (fn b + r) = vI (d r)) ∧
  (∀ i, i < len → q i < wds b ∧ f 57 i = nI (fn b + q i) ∧ ∃ w, w ≤ i ∧ d (q i) = some w) ∧
  (∀ i j u v, i ≤ j → j < len → d (q i) = some u → d (q j) = some v → u ≤ v) ∧
  (∀ r w, r < wds b → d r = some w → (∃ i, i < len ∧ q i = r) ∧ Wk (ED b S) w r0 r) ∧
  d r0 = some 0 ∧
  (∀ i r m, i < head → m < 19 → ED b S (q i) m = some r → ∃ u v, d r = some u ∧ d (q i) = some v ∧ u ≤ v + 1) ∧
  (∀ j u v, j < len → head < len → d (q head) = some v → d (q j) = some u → u ≤ v + 1) ∧ head ≤ len ∧
  len = cnt (fun r => (d r).isSome) (wds b)
theorem Bg_len {b S r0 : Nat} {f : Nat → Nat → Int32} {d : Nat → Option Nat} {q : Nat → Nat} {len head : Nat} (h : Bg b S r0 f d q len head) : len ≤ wds b := by
  rw [h.2.2.2.2.2.2.2.2]
  exact cnt_le _ _
theorem Bg_lt {b S r0 : Nat} {f : Nat → Nat → Int32} {d : Nat → Option Nat} {q : Nat → Nat} {len head r w : Nat} (hb : b < 6) (h : Bg b S r0 f d q len head) (hr : r < wds b) (hd : d r = some w) : w < 2520 := by
  have hl := Bg_len h
  have hw := wds_lt hb
  obtain ⟨_, h2, _, h5, _⟩ := h
  obtain ⟨i, hi, hq⟩ := (h5 r w hr hd).1
  obtain ⟨w', hw', hd'⟩ := (h2 i hi).2.2
  rw [hq, hd] at hd'
  cases hd'
  omega
theorem Bg_add {b S r0 : Nat} {f : Nat → Nat → Int32} {d : Nat → Option Nat} {q : Nat → Nat} {len head r m v : Nat} (hr : r < wds b) (hm : m < 19) (hh : head < len) (h : Bg b S r0 f d q len head) (hE : ED b S (q head) m = some r) (hv : d (q head) = some v) (hn : d r = none) :
    Bg b S r0 (s2 (s2 f 55 (fn b + r) (nI (v + 1))) 57 len (nI (fn b + r))) (fun r' => if r' = r then some (v + 1) else d r') (fun i => if i = len then r else q i) (len + 1) head := by
  obtain ⟨h1, h2, h4, h5, h6, h7, h8, h9, h10⟩ := h
  have hold : ∀ i, i < len → q i ≠ r := fun i hi e => by
    obtain ⟨w, _, hw⟩ := (h2 i hi).2.2
    rw [e, hn] at hw
    cases hw
  obtain ⟨wv, hwv, hdv⟩ := (h2 head hh).2.2
  have hvh : v ≤ head := by rw [hv] at hdv; cases hdv; exact hwv
  refine ⟨fun r' hr' => ?_, fun i hi => ?_, fun i j u x hij hj hu hx => ?_, fun r' w' hr' hw' => ?_, ?_, fun i r' m' hi hm' hE' => ?_, fun j u x hj _ hx hu => ?_, by omega, ?_⟩
  · by_cases hrr : r' = r
    · subst hrr
      simp [s2_at, vI]
    · simp [s2_at, hrr, h1 r' hr']
  · by_cases hil : i = len
    · subst hil
      refine ⟨by simp [hr], by simp [s2_at], v + 1, by omega, by simp⟩
    · have h0 := h2 i (by omega)
      have h00 := hold i (by omega)
      simp only [if_neg hil, if_neg h00]
      refine ⟨h0.1, ?_, h0.2.2⟩
      simp [s2_at, hil, h0.2.1]
  · by_cases hjl : j = len
    · simp only [if_pos hjl, if_true, Option.some.injEq] at hx
      by_cases hil : i = len
      · simp only [if_pos hil, if_true, Option.some.injEq] at hu
        omega
      · simp only [if_neg hil, if_neg (hold i (by omega))] at hu
        have := h8 i u v (by omega) hh hv hu
        omega
    · have hil : i ≠ len := by omega
      simp only [if_neg hil, if_neg (hold i (by omega))] at hu
      simp only [if_neg hjl, if_neg (hold j (by omega))] at hx
      exact h4 i j u x hij (by omega) hu hx
  · by_cases hrr : r' = r
    · subst hrr
      simp only [if_true, Option.some.injEq] at hw'
      refine ⟨⟨len, by omega, by simp⟩, ?_⟩
      rw [← hw']
      exact wk_snoc v r0 (q head) r' m (h5 (q head) v (h2 head hh).1 hv).2 hm hE
    · simp only [if_neg hrr] at hw'
      obtain ⟨⟨i, hi, hq⟩, hp⟩ := h5 r' w' hr' hw'
      exact ⟨⟨i, by omega, by simp [show i ≠ len by omega, hq]⟩, hp⟩
  · show (if r0 = r then some (v + 1) else d r0) = some 0
    rw [if_neg (fun e => by rw [e, hn] at h6; cases h6)]
    exact h6
  · by_cases hil : i = len
    · omega
    · simp only [if_neg hil] at hE' ⊢
      obtain ⟨u, x, a1, a2, a3⟩ := h7 i r' m' hi hm' hE'
      have hrr : r' ≠ r := fun e => by rw [e, hn] at a1; cases a1
      simp only [if_neg hrr, if_neg (hold i (by omega))]
      exact ⟨u, x, a1, a2, a3⟩
  · have hhl : head ≠ len := by omega
    simp only [if_neg hhl, if_neg (hold head hh)] at hx
    rw [hv] at hx
    cases hx
    by_cases hjl : j = len
    · simp only [if_pos hjl, if_true, Option.some.injEq] at hu
      omega
    · simp only [if_neg hjl, if_neg (hold j (by omega))] at hu
      exact h8 j u v (by omega) hh hv hu
  · have h11 := cnt_upd (fun r => (d r).isSome) true r (wds b) hr
    rw [← h10] at h11
    have h12 : cnt (fun r' => (if r' = r then some (v + 1) else d r').isSome) (wds b) = cnt (fun q => if q = r then true else (d q).isSome) (wds b) := cnt_congr _ fun q _ => by
      by_cases hq : q = r
      · rw [if_pos hq, if_pos hq]; rfl
      · rw [if_neg hq, if_neg hq]
    rw [h12]
    have h13 : ((fun r => (d r).isSome) r).toNat = 0 := by show ((d r).isSome).toNat = 0; rw [hn]; rfl
    rw [h13] at h11
    have h14 : true.toNat = 1 := rfl
    omega
theorem Bg_next {b S r0 : Nat} {f : Nat → Nat → Int32} {d : Nat → Option Nat} {q : Nat → Nat} {len head : Nat} (hb : b < 6) (hh : head < len) (h : Bg b S r0 f d q len head) (hs : ∀ m r, m < 19 → ED b S (q head) m = some r → ∃ u, d r = some u) : Bg b S r0 f d q len (head + 1) := by
  obtain ⟨h1, h2, h4, h5, h6, h7, h8, h9, h10⟩ := h
  obtain ⟨v, _, hv⟩ := (h2 head hh).2.2
  refine ⟨h1, h2, h4, h5, h6, fun i r m hi hm hE => ?_, fun j u x hj hh' hx hu => ?_, by omega, h10⟩
  · by_cases hih : i = head
    · subst hih
      obtain ⟨u, hu⟩ := hs m r hm hE
      have hr := ED_lt hb (q i) m r (h2 i hh).1 hm hE
      obtain ⟨j, hj, hq⟩ := (h5 r u hr hu).1
      exact ⟨u, v, hu, hv, h8 j u v hj hh hv (by rw [hq]; exact hu)⟩
    · exact h7 i r m (by omega) hm hE
  · have a1 := h8 j u v hj hh hv hu
    have a2 := h4 head (head + 1) v x (by omega) hh' hv hx
    omega
theorem Bg_all {b S r0 : Nat} {f : Nat → Nat → Int32} {d : Nat → Option Nat} {q : Nat → Nat} {len : Nat} (hb : b < 6) (h0 : r0 < wds b) (h : Bg b S r0 f d q len len) : ∀ (n r : Nat), Wk (ED b S) n r0 r → ∃ u, d r = some u ∧ u ≤ n
  | 0, r, hw => by
    have hw : r0 = r := hw
    subst hw
    exact ⟨0, h.2.2.2.2.1, Nat.le_refl _⟩
  | n + 1, r, hw => by
    obtain ⟨r1, m, h1, h2, h3⟩ := wk_last n r0 r hw
    obtain ⟨u, e1, e2⟩ := Bg_all hb h0 h n r1 h1
    obtain ⟨i, hi, hq⟩ := (h.2.2.2.1 r1 u (Rch_lt hb h0 n r1 h1) e1).1
    obtain ⟨u', v, a1, a2, a3⟩ := h.2.2.2.2.2.1 i r m hi h2 (by rw [hq]; exact h3)
    rw [hq, e1] at a2
    cases a2
    exact ⟨u', a1, by omega⟩
theorem Bg_rc {b S r0 : Nat} {f : Nat → Nat → Int32} {d : Nat → Option Nat} {q : Nat → Nat} {len : Nat} (hb : b < 6) (h0 : r0 < wds b) (h : Bg b S r0 f d q len len) : len = rcN b S r0 := by
  have h1 := h.2.2.2.2.2.2.2.2
  refine h1.trans (cnt_congr _ fun r hr => ?_)
  cases hd : d r with
  | none =>
    refine (@decide_eq_false _ (Classical.propDecidable _) fun q => ?_).symm
    obtain ⟨n, hn⟩ := q
    obtain ⟨u, e, _⟩ := Bg_all hb h0 h n r hn
    rw [hd] at e
    cases e
  | some w => exact (@decide_eq_true _ (Classical.propDecidable _) ⟨w, (h.2.2.2.1 r w hr hd).2⟩).symm
theorem RW54 : rowW 54 3620 := by unfold rowW; decide
section Reach
variable {h : pH} {b : Nat}
theorem s_reachOn_6 {S r0 head : Nat} (w : WF h) (hb : b < 6) (hSl : S < 64) (hG : GOK h.2.2 b) : ∀ (k m : Nat) (g : Nat → Nat → Int32) (d : Nat → Option Nat) (q : Nat → Nat) (len v : Nat), m + k = 19 → Bg b S r0 g d q len head → head < len → d (q head) = some v → (∀ m' r, m' < m → ED b S (q head) m' = some r → ∃ u, d r = some u) → Off h.2.2 g [55, 57] →
    ∃ g' d' q' len', f_S_reachOn_6 47 (nI (fn b + q head)) (nI S) (nI len) (nI m) (hS h g) = rI (nI len') (hS h g') ∧ Bg b S r0 g' d' q' len' (head + 1) ∧ Off h.2.2 g' [55, 57]
  | 0, m, g, d, q, len, v, hm, hB, hh, hv, hs, ho => by
    refine ⟨g, d, q, len, ?_, Bg_next hb hh hB (fun m' r h1 h2 => hs m' r (by omega) h2), ho⟩
    rw [e_S_reachOn_6, L19, if_pos ((i_le (by omega) (by omega)).2 (by omega))]
  | k + 1, m, g, d, q, len, v, hm, hB, hh, hv, hs, ho => by
    have hle := fn_le hb
    have hx := (hB.2.1 head hh).1
    have hlen := Bg_len hB
    have hw25 := wds_lt hb
    have hm19 : m < 19 := by omega
    have hG' := GOK_of hG ho (by simp)
    have hvlt := Bg_lt hb hB hx hv
    have g55x : g 55 (fn b + q head) = nI v := by rw [hB.1 _ hx, hv]; rfl
    have g38 := hG'.1 (q head) hx
    have go : ∀ {g1 d1 q1 len1}, Bg b S r0 g1 d1 q1 len1 head → head < len1 → q1 head = q head → d1 (q head) = some v → (∀ r u, d r = some u → d1 r = some u) → (∀ r, ED b S (q head) m = some r → ∃ u, d1 r = some u) → Off h.2.2 g1 [55, 57] →
        ∃ g' d' q' len', f_S_reachOn_6 47 (nI (fn b + q head)) (nI S) (nI len1) (nI (m + 1)) (hS h g1) = rI (nI len') (hS h g') ∧ Bg b S r0 g' d' q' len' (head + 1) ∧ Off h.2.2 g' [55, 57] := fun {g1 d1 q1 len1} c1 c2 c3 c4 c5 c6 c7 => by
      have := s_reachOn_6 (r0 := r0) (head := head) w hb hSl hG k (m + 1) g1 d1 q1 len1 v (by omega) c1 c2 (by rw [c3]; exact c4) (fun m' r hm' hE' => ?_) c7
      · rw [c3] at this
        exact this
      · rw [c3] at hE'
        by_cases hmm : m' = m
        · subst hmm
          exact c6 r hE'
        · obtain ⟨u, hu⟩ := hs m' r (by omega) hE'
          exact ⟨u, c5 _ _ hu⟩
    have hbh := s_behind w hb hG' hx hm19
    rw [e_S_reachOn_6, if_neg (by rw [L19]; exact fun q => absurd ((i_le (by omega) (by omega)).1 q) (by omega))]
    simp only [oo_v, hR_S, hR_W w K47 (by omega) (show R0 47 0 = some 36 from rfl), kO_S, kO_W w K36, if_true]
    cases hT : T b (19 * q head + m) with
    | none =>
      rw [hT] at hbh
      dsimp only at hbh
      rw [hbh, cI_v, if_pos rfl, L1, i_add]
      exact go hB hh rfl hv (fun _ _ e => e) (fun r hE => by rw [((ED_T hm19).1 hE).1] at hT; cases hT) ho
    | some r =>
      have hr := T_lt hb (show 19 * q head + m < 19 * wds b by omega) hT
      rw [hT] at hbh
      dsimp only at hbh
      rw [hbh, cI_v, if_neg (fun q => by have h1 := i_nneg (show fn b + r < 2147483648 by omega); rw [q] at h1; exact absurd (by decide) h1)]
      simp only [oo_v, hR_S, hR_W w K47 (by omega) (show R0 47 7 = some 54 from rfl), kO_S, kO_W w RW54.1, if_true, s_get (WF_S w) RW54 (show fn b + r < 3620 by omega), cI_v, hS_2]
      rw [show g (54 + 1) (fn b + r) = _ from hB.1 r hr]
      cases hd : d r with
      | some u =>
        have hul := Bg_lt hb hB hr hd
        rw [if_neg (by rw [vI_m1 (fun w' e => by cases e; omega)]; simp), L1, i_add]
        exact go hB hh rfl hv (fun _ _ e => e) (fun r' hE => by
          have h1 := ((ED_T hm19).1 hE).1
          rw [hT] at h1
          cases h1
          exact ⟨u, hd⟩) ho
      | none =>
        rw [if_pos (show vI none = -1 from rfl)]
        simp only [oo_v, hR_S, hR_W w K47 (by omega) (show R0 47 0 = some 36 from rfl), kO_S, kO_W w K36, if_true, s_isHeld w hb hx hm19 (show S < 2147483648 by omega) g38, cI_v]
        cases hhd : hld (wd b (q head)) S m with
        | true =>
          rw [if_neg (by decide), L1, i_add]
          exact go hB hh rfl hv (fun _ _ e => e) (fun r' hE => by rw [((ED_T hm19).1 hE).2] at hhd; cases hhd) ho
        | false =>
          have hE : ED b S (q head) m = some r := (ED_T hm19).2 ⟨hT, hhd⟩
          have hA := Bg_add hr hm19 hh hB hE hv hd
          rw [if_pos (by rfl)]
          simp only [oo_v, hR_S, hR_W w K47 (by omega) (show R0 47 7 = some 54 from rfl), hR_W w K47 (by omega) (show R0 47 8 = some 56 from rfl), kO_S, kO_W w RW54.1, kO_W w RW56.1, if_true, s_get (WF_S w) RW54 (show fn b + q head < 3620 by omega), cI_v, hS_2, s_put (WF_S w) RW54 (show fn b + r < 3620 by omega), cV_v, hS_S, s_put (WF_S w) RW56 (show len < 3620 by omega)]
          rw [show g (54 + 1) (fn b + q head) = _ from g55x, L1, i_add, i_add, i_add]
          refine go hA (by omega) ?_ ?_ (fun r' u hu => ?_) (fun r' hE' => ?_) (Off.tr ho (Off.tr (s2_off (by simp)) (s2_off (by simp))))
          · simp only [if_neg (show head ≠ len by omega)]
          · rw [if_neg (fun e => by rw [e, hd] at hv; cases hv)]; exact hv
          · show (if r' = r then some (v + 1) else d r') = some u
            rw [if_neg (fun e => by rw [e, hd] at hu; cases hu)]
            exact hu
          · have h1 := ((ED_T hm19).1 hE').1
            rw [hT] at h1
            cases h1
            exact ⟨v + 1, by simp⟩
theorem s_reach_75 {S r0 : Nat} (w : WF h) (hb : b < 6) (hSl : S < 64) (hG : GOK h.2.2 b) : ∀ (k head : Nat) (g : Nat → Nat → Int32) (d : Nat → Option Nat) (q : Nat → Nat) (len : Nat), head + k = wds b → Bg b S r0 g d q len head → Off h.2.2 g [55, 57] →
    ∃ g' d' q' len', f_S_reach_75 47 (nI S) (nI len) (nI head) (hS h g) = rI (nI len') (hS h g') ∧ Bg b S r0 g' d' q' len' len' ∧ Off h.2.2 g' [55, 57]
  | 0, head, g, d, q, len, hk, hB, ho => by
    have hl := Bg_len hB
    have h9 := hB.2.2.2.2.2.2.2.1
    have hw25 := wds_lt hb
    obtain rfl : len = head := by omega
    refine ⟨g, d, q, len, ?_, hB, ho⟩
    rw [e_S_reach_75, if_pos ((i_le (by omega) (by omega)).2 (Nat.le_refl _))]
  | k + 1, head, g, d, q, len, hk, hB, ho => by
    have hl := Bg_len hB
    have h9 := hB.2.2.2.2.2.2.2.1
    have hw25 := wds_lt hb
    by_cases hh : len ≤ head
    · obtain rfl : len = head := by omega
      refine ⟨g, d, q, len, ?_, hB, ho⟩
      rw [e_S_reach_75, if_pos ((i_le (by omega) (by omega)).2 (Nat.le_refl _))]
    · have hx := (hB.2.1 head (by omega)).1
      obtain ⟨v, _, hv⟩ := (hB.2.1 head (by omega)).2.2
      have g57 : g 57 head = nI (fn b + q head) := (hB.2.1 head (by omega)).2.1
      obtain ⟨g', d', q', len', e1, e2, e3⟩ := s_reachOn_6 w hb hSl hG 19 0 g d q len v (by omega) hB (by omega) hv (fun _ _ h1 => absurd h1 (Nat.not_lt_zero _)) ho
      obtain ⟨g'', d'', q'', len'', e4, e5, e6⟩ := s_reach_75 w hb hSl hG k (head + 1) g' d' q' len' (by omega) e2 e3
      refine ⟨g'', d'', q'', len'', ?_, e5, e6⟩
      rw [← e4, e_S_reach_75, if_neg (fun q => absurd ((i_le (by omega) (by omega)).1 q) (by omega)), if_neg (by rw [show (2520 : Int32) = nI 2520 from rfl]; exact fun q => absurd ((i_le (by omega) (by omega)).1 q) (by omega))]
      simp only [oo_v, hR_S, hR_W w K47 (by omega) (show R0 47 8 = some 56 from rfl), kO_S, kO_W w RW56.1, kO_W w K47, if_true, s_get (WF_S w) RW56 (show head < 3620 by omega), cI_v, hS_2]
      rw [show g (56 + 1) head = _ from g57, e_S_reachOn, L0, e1, cI_v, L1, i_add]
theorem s_reach_11 {a : AS} {S : Nat} (w : WF h) (ha : AOK a) (hc : CAt h.2.2 1 a) (hSl : S < 64) (hG : GOK h.2.2 (aB a)) : ∀ (k r : Nat) (g : Nat → Nat → Int32), r + k = wds (aB a) → (∀ r', r' < r → g 55 (fn (aB a) + r') = -1) → Off h.2.2 g [55, 57] →
    ∃ g' d' q' len', f_S_reach_11 47 1 (nI S) (nI (fn (aB a))) (nI r) (hS h g) = rI (nI len') (hS h g') ∧ Bg (aB a) S (rk (aB a) (aP a)) g' d' q' len' len' ∧ Off h.2.2 g' [55, 57]
  | 0, r, g, hr, h1, ho => by
    have hb := ha.2.1
    have hle := fn_le hb
    have hw25 := wds_lt hb
    have hc' := CAt_off hc ho (by simp) (by simp) (by simp)
    obtain rfl : r = wds (aB a) := by omega
    have hn := rk_lt hb ha.1
    rw [e_S_reach_11]
    simp only [hI_W (WF_S w) K1, oo_v, hS_2, hc'.2.1, s_wordsOf hb, cI_v]
    rw [if_pos ((i_le (by omega) (by omega)).2 (Nat.le_refl _))]
    simp only [kO_S, kO_W w K1, if_true, s_rankOfNow (WF_S w) hc' ha, cI_v, oo_v, hR_S, hR_W w K47 (by omega) (show R0 47 7 = some 54 from rfl), kO_W w RW54.1, i_add, s_put (WF_S w) RW54 (show fn (aB a) + rk (aB a) (aP a) < 3620 by omega), cV_v, hS_S, hS_2, hR_W w K47 (by omega) (show R0 47 8 = some 56 from rfl), kO_W w RW56.1]
    rw [L0, s_put (WF_S w) RW56 (show 0 < 3620 by omega), cV_v, hS_S, hS_2, L1]
    refine s_reach_75 (r0 := rk (aB a) (aP a)) w hb hSl hG (wds (aB a)) 0 _ (fun r => if r = rk (aB a) (aP a) then some 0 else none) (fun _ => rk (aB a) (aP a)) 1 (by omega) ⟨fun r' hr' => ?_, fun i hi => ?_, fun i j u v _ _ hu hv => ?_, fun r' w' hr' hw' => ?_, ?_, fun i _ _ hi => absurd hi (Nat.not_lt_zero _), fun j u v _ _ hv hu => ?_, by omega, ?_⟩ (Off.tr ho (Off.tr (s2_off (by simp)) (s2_off (by simp))))
    · by_cases hrr : r' = rk (aB a) (aP a)
      · dsimp only
        rw [if_pos hrr, hrr]
        simp [s2_at, vI]
      · dsimp only
        rw [if_neg hrr]
        simp [s2_at, hrr, h1 r' hr', vI]
    · refine ⟨hn, ?_, 0, Nat.zero_le _, by simp⟩
      rw [show i = 0 by omega]
      simp [s2_at]
    · simp only [if_true, Option.some.injEq] at hu
      omega
    · by_cases hrr : r' = rk (aB a) (aP a)
      · simp only [if_pos hrr, Option.some.injEq] at hw'
        rw [← hw']
        exact ⟨⟨0, by omega, hrr.symm⟩, hrr.symm⟩
      · simp only [if_neg hrr] at hw'
        cases hw'
    · simp
    · simp only [if_true, Option.some.injEq] at hu
      omega
    · have h11 := cnt_upd (fun _ => false) true (rk (aB a) (aP a)) (wds (aB a)) hn
      have h12 : cnt (fun r => (if r = rk (aB a) (aP a) then some 0 else none : Option Nat).isSome) (wds (aB a)) = cnt (fun q => if q = rk (aB a) (aP a) then true else false) (wds (aB a)) := cnt_congr _ fun q _ => by
        by_cases hq : q = rk (aB a) (aP a)
        · rw [if_pos hq, if_pos hq]; rfl
        · rw [if_neg hq, if_neg hq]; rfl
      have h13 : ∀ n, cnt (fun _ => false) n = 0 := fun n => by
        induction n with
        | zero => rfl
        | succ n ih => show cnt (fun _ => false) n + false.toNat = 0; rw [ih]; rfl
      rw [h12]
      rw [h13] at h11
      have h14 : true.toNat = 1 := rfl
      have h15 : false.toNat = 0 := rfl
      omega
  | k + 1, r, g, hr, h1, ho => by
    have hb := ha.2.1
    have hle := fn_le hb
    have hw25 := wds_lt hb
    have hc' := CAt_off hc ho (by simp) (by simp) (by simp)
    rw [e_S_reach_11]
    simp only [hI_W (WF_S w) K1, oo_v, hS_2, hc'.2.1, s_wordsOf hb, cI_v]
    rw [if_neg (fun q => absurd ((i_le (by omega) (by omega)).1 q) (by omega))]
    simp only [oo_v, hR_S, hR_W w K47 (by omega) (show R0 47 7 = some 54 from rfl), kO_S, kO_W w RW54.1, if_true, i_add, s_put (WF_S w) RW54 (show fn (aB a) + r < 3620 by omega), cV_v, hS_S, hS_2, L1]
    refine s_reach_11 w ha hc hSl hG k (r + 1) _ (by omega) (fun r' hr' => ?_) (Off.tr ho (s2_off (by simp)))
    by_cases hrr : r' = r
    · subst hrr
      simp [s2_at]
      rfl
    · have := h1 r' (by omega)
      simp [s2_at, hrr, this]
theorem s_reach {a : AS} {S : Nat} {f : Nat → Nat → Int32} (w : WF h) (ha : AOK a) (hc : CAt f 1 a) (hSl : S < 64) (hG : GOK f (aB a)) :
    ∃ g d q len, f_S_reach 47 1 (nI S) (hS h f) = rI (nI len) (hS h g) ∧ Bg (aB a) S (rk (aB a) (aP a)) g d q len len ∧ len = rcN (aB a) S (rk (aB a) (aP a)) ∧ Off f g [55, 57] := by
  have hb := ha.2.1
  obtain ⟨g, d, q, len, e1, e2, e3⟩ := s_reach_11 (h := hS h f) w ha hc hSl hG (wds (aB a)) 0 f (by omega) (fun _ h1 => absurd h1 (Nat.not_lt_zero _)) Off.rf
  refine ⟨g, d, q, len, ?_, e2, Bg_rc hb (rk_lt hb ha.1) e2, e3⟩
  rw [e_S_reach]
  simp only [hI_W (WF_S w) K1, oo_v, hS_2, hc.2.1, s_firstNode (show aB a < 7 by omega), cI_v]
  rw [L0]
  exact e1
theorem s_wayWith_10 {S r0 F C : Nat} {g : Nat → Nat → Int32} {d : Nat → Option Nat} {q : Nat → Nat} {len : Nat} (w : WF h) (hb : b < 6) (hF : F < 2) (hC : C < 2) (h0 : r0 < wds b) (hG : GOK g b) (g15 : g 1 5 = nI F) (g16 : g 1 6 = nI C) (hB : Bg b S r0 g d q len len) : ∀ (k i : Nat), i + k = len → (∀ j, j < i → gol b F C (q j) = false) →
    f_S_wayWith_10 47 1 (nI len) (nI i) (hS h g) = rI (vI (lv (ED b S) (fun _ _ => 1) (gol b F C) r0)) (hS h g)
  | 0, i, hi, hs => by
    have hl := Bg_len hB
    have hw25 := wds_lt hb
    rw [e_S_wayWith_10, if_pos ((i_le (by omega) (by omega)).2 (by omega))]
    have hn : lv (ED b S) (fun _ _ => 1) (gol b F C) r0 = none := by
      cases hx : lv (ED b S) (fun _ _ => 1) (gol b F C) r0 with
      | none => rfl
      | some u =>
        obtain ⟨n, hn⟩ := (lv_eq.1 hx).1
        obtain ⟨-, r', h1, h2⟩ := (wk_pt n r0 u).1 hn
        obtain ⟨u', e1, _⟩ := Bg_all hb h0 hB n r' h1
        obtain ⟨j, hj, hq⟩ := (hB.2.2.2.1 r' u' (Rch_lt hb h0 n r' h1) e1).1
        have h3 := hs j (by omega)
        rw [hq, h2] at h3
        cases h3
    rw [hn]
    rfl
  | k + 1, i, hi, hs => by
    have hle := fn_le hb
    have hl := Bg_len hB
    have hw25 := wds_lt hb
    obtain ⟨hx, g57, u, hu, hdu⟩ := hB.2.1 i (by omega)
    have g38 := hG.1 (q i) hx
    have hv := wd_VW hb hx
    rw [e_S_wayWith_10, if_neg (fun q => absurd ((i_le (by omega) (by omega)).1 q) (by omega))]
    simp only [oo_v, hR_S, hR_W w K47 (by omega) (show R0 47 8 = some 56 from rfl), hR_W w K47 (by omega) (show R0 47 0 = some 36 from rfl), hR_W w K36 (by omega) (show R0 36 0 = some 37 from rfl), kO_S, kO_W w RW56.1, kO_W w RW37.1, if_true, s_get (WF_S w) RW56 (show i < 3620 by omega), cI_v, hS_2]
    rw [show g (56 + 1) i = _ from g57]
    simp only [s_get (WF_S w) RW37 (show fn b + q i < 3620 by omega), cI_v, hS_2, hI_W (WF_S w) K1, oo_v]
    rw [show g (37 + 1) (fn b + q i) = _ from g38, g15, g16, s_isInOrder hv.1 hF hC, cI_v]
    cases hg : inOrd (wd b (q i)) F C with
    | false =>
      rw [if_pos (by rfl), L1, i_add]
      exact s_wayWith_10 w hb hF hC h0 hG g15 g16 hB k (i + 1) (by omega) (fun j hj => by
        by_cases hji : j = i
        · rw [hji]; exact hg
        · exact hs j (by omega))
    | true =>
      rw [if_neg (by decide)]
      simp only [oo_v, hR_S, hR_W w K47 (by omega) (show R0 47 7 = some 54 from rfl), kO_S, kO_W w RW54.1, if_true, s_get (WF_S w) RW54 (show fn b + q i < 3620 by omega), cI_v, hS_2]
      rw [show g (54 + 1) (fn b + q i) = _ from hB.1 _ hx, hdu]
      have hl : lv (ED b S) (fun _ _ => 1) (gol b F C) r0 = some u := by
        refine lv_eq.2 ⟨⟨u, (wk_pt u r0 u).2 ⟨rfl, q i, (hB.2.2.2.1 (q i) u hx hdu).2, hg⟩⟩, fun n w' hp => ?_⟩
        obtain ⟨hw', r', h1, h2⟩ := (wk_pt n r0 w').1 hp
        obtain ⟨u', e1, e2⟩ := Bg_all hb h0 hB n r' h1
        obtain ⟨j, hj, hq⟩ := (hB.2.2.2.1 r' u' (Rch_lt hb h0 n r' h1) e1).1
        have hij : i ≤ j := by
          rcases Nat.lt_or_ge j i with h3 | h3
          · have h4 := hs j h3
            rw [hq, h2] at h4
            cases h4
          · exact h3
        have := hB.2.2.1 i j u u' hij hj hdu (by rw [hq]; exact e1)
        omega
      rw [hl]
/-- the fewest moves from the word of now with these slots stuck -/
theorem s_wayWith {a : AS} {S : Nat} {f : Nat → Nat → Int32} (w : WF h) (ha : AOK a) (hc : CAt f 1 a) (hSl : S < 64) (hG : GOK f (aB a)) :
    ∃ g, f_S_wayWith 47 1 (nI S) (hS h f) = rI (vI (lv (ED (aB a) S) (fun _ _ => 1) (gol (aB a) (aF a) (aC a)) (rk (aB a) (aP a)))) (hS h g) ∧ Off f g [55, 57] := by
  have hb := ha.2.1
  obtain ⟨g, d, q, len, e1, e2, e3, e4⟩ := s_reach w ha hc hSl hG
  have hc' := CAt_off hc e4 (by simp) (by simp) (by simp)
  have hG' := GOK_of hG e4 (by simp)
  refine ⟨g, ?_, e4⟩
  rw [e_S_wayWith]
  simp only [kO_S, kO_W w K47, if_true, e1, cI_v]
  rw [L0]
  exact s_wayWith_10 w hb ha.2.2.2.2.1 ha.2.2.2.2.2.1 (rk_lt hb ha.1) hG' hc'.2.2.2.2.2.1 hc'.2.2.2.2.2.2.1 e2 len 0 (by omega) (fun _ h1 => absurd h1 (Nat.not_lt_zero _))
end Reach
