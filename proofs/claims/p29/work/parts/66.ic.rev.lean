/-! the same ways over other names of the books -/
section Sim
variable {E E' : Nat → Nat → Option Nat} {p p' : Nat → Nat → Nat} {g g' : Nat → Bool} {N : Nat} {φ : Nat → Nat}
theorem sim_pt (hE : ∀ r m r', r < N → m < 19 → E r m = some r' → r' < N) (h1 : ∀ r, r < N → ∀ m, m < 19 → E' (φ r) m = (E r m).map φ) (h2 : ∀ r m r', r < N → m < 19 → E r m = some r' → p' (φ r) m = p r m) (h3 : ∀ r, r < N → g' (φ r) = g r) : ∀ (n r w : Nat), r < N → (Pt E p g n r w ↔ Pt E' p' g' n (φ r) w)
  | 0, r, w, hr => by
    show g r = true ∧ w = 0 ↔ g' (φ r) = true ∧ w = 0
    rw [h3 r hr]
  | n + 1, r, w, hr => by
    constructor
    · rintro ⟨m, r', w', a1, a2, a3, a4⟩
      have hr' := hE r m r' hr a1 a2
      refine ⟨m, φ r', w', a1, ?_, (sim_pt hE h1 h2 h3 n r' w' hr').1 a3, ?_⟩
      · rw [h1 r hr m a1, a2]; rfl
      · rw [h2 r m r' hr a1 a2]; exact a4
    · rintro ⟨m, r2, w', a1, a2, a3, a4⟩
      rw [h1 r hr m a1] at a2
      cases he : E r m with
      | none => rw [he] at a2; cases a2
      | some r' =>
        rw [he] at a2
        have a2 : φ r' = r2 := Option.some.inj a2
        subst a2
        have hr' := hE r m r' hr a1 he
        refine ⟨m, r', w', a1, he, (sim_pt hE h1 h2 h3 n r' w' hr').2 a3, ?_⟩
        rw [← h2 r m r' hr a1 he]; exact a4
theorem sim_lst (hE : ∀ r m r', r < N → m < 19 → E r m = some r' → r' < N) (h1 : ∀ r, r < N → ∀ m, m < 19 → E' (φ r) m = (E r m).map φ) (h2 : ∀ r m r', r < N → m < 19 → E r m = some r' → p' (φ r) m = p r m) (h3 : ∀ r, r < N → g' (φ r) = g r) {r w : Nat} (hr : r < N) (h : Lst E p g r w) : Lst E' p' g' (φ r) w := by
  obtain ⟨⟨n, hn⟩, hl⟩ := h
  exact ⟨⟨n, (sim_pt hE h1 h2 h3 n r w hr).1 hn⟩, fun n' w' h' => hl n' w' ((sim_pt hE h1 h2 h3 n' r w' hr).2 h')⟩
end Sim
/-- a slot as it is numbered from the other end -/
def rev (b s : Nat) : Nat := if s = 0 then 0 else b + 1 - s
theorem rev_le {b s : Nat} (h : s ≤ b) : rev b s ≤ b := by
  unfold rev
  split <;> omega
theorem rev_0 {b s : Nat} (h : s ≤ b) : rev b s = 0 ↔ s = 0 := by
  unfold rev
  split <;> omega
theorem rev_rev {b s : Nat} (h : s ≤ b) : rev b (rev b s) = s := by
  unfold rev
  by_cases h0 : s = 0
  · subst h0
    rfl
  · rw [if_neg h0, if_neg (by omega)]
    omega
def rvW (b P : Nat) : Nat := rnm (rev b) P
section Rev
variable {b P m : Nat}
theorem rv_sl (hb : b < 6) (hv : VW b P) {q : Nat} (hq : q < 7) : sl (rvW b P) q = rev b (sl P q) :=
  pk7_sl (g := fun q => rev b (sl P q)) (fun i hi => by have := rev_le (hv.2.1 i hi); omega) hq
theorem rv_VW (hb : b < 6) (hv : VW b P) : VW b (rvW b P) := by
  refine ⟨pk7_lt (g := fun q => rev b (sl P q)) fun i hi => by have := rev_le (hv.2.1 i hi); omega, fun q hq => ?_, fun s s1 s2 => ?_⟩
  · rw [rv_sl hb hv hq]
    exact rev_le (hv.2.1 q hq)
  · rw [← hv.2.2 (b + 1 - s) (by omega) (by omega)]
    unfold cs
    refine cnt_congr 7 fun q hq => ?_
    rw [rv_sl hb hv hq]
    have h1 := hv.2.1 q hq
    apply Bool.eq_iff_iff.2
    rw [beq_iff_eq, beq_iff_eq]
    unfold rev
    split <;> omega
theorem gB_congr {Q p : Nat} (hp : p < 7) (h : ∀ q, q < 7 → (sl P q = 0 ↔ sl Q q = 0)) : ∀ (k d : Nat), gB P p d k = gB Q p d k
  | 0, d => rfl
  | k + 1, d => by
    unfold gB
    have ih := gB_congr hp h k (d + 1)
    have e1 : (d ≤ p ∧ sl P (p - d) = 0) ↔ (d ≤ p ∧ sl Q (p - d) = 0) := and_congr_right fun _ => h _ (by omega)
    have e2 : (p + d < 7 ∧ sl P (p + d) = 0) ↔ (p + d < 7 ∧ sl Q (p + d) = 0) := and_congr_right fun hq => h _ hq
    rw [ih]
    simp only [e1, e2]
theorem rv_0 (hb : b < 6) (hv : VW b P) {q : Nat} (hq : q < 7) : sl (rvW b P) q = 0 ↔ sl P q = 0 := by
  rw [rv_sl hb hv hq]
  exact rev_0 (hv.2.1 q hq)
theorem rv_rsn (hb : b < 6) (hv : VW b P) (hm : m < 19) : rsn (rvW b P) 0 m = rsn P 0 m := by
  unfold rsn
  by_cases h7 : m < 7
  · simp only [h7, if_true, rv_0 hb hv h7, Nat.zero_testBit]
  · have hp := plc_lt6 hm h7
    have e0 := rv_0 hb hv (q := plc m) (by omega)
    have e1 := rv_0 hb hv (q := plc m + 1) (by omega)
    have e2 : (plc m + 2 < 7 ∧ sl (rvW b P) (plc m + 2) = 0) ↔ (plc m + 2 < 7 ∧ sl P (plc m + 2) = 0) := and_congr_right fun hq => rv_0 hb hv hq
    have e3 : (1 ≤ plc m ∧ sl (rvW b P) (plc m - 1) = 0) ↔ (1 ≤ plc m ∧ sl P (plc m - 1) = 0) := and_congr_right fun _ => rv_0 hb hv (by omega)
    simp only [h7, if_false, e0, e1, e2, e3]
theorem rv_aft (hb : b < 6) (hv : VW b P) (hm : m < 19) (h0 : rsn P 0 m = 0) : aft (rvW b P) m = rvW b (aft P m) := by
  have hv' := rv_VW hb hv
  have h0' : rsn (rvW b P) 0 m = 0 := by rw [rv_rsn hb hv hm]; exact h0
  have ha := aft_VW hb hv hm h0
  have gP : m < 7 → ∃ g, g < 7 ∧ sl P g = 0 ∧ g ≠ m := fun h7 => VW_gap hb hv h7
  have ex : ∃ g, g < 7 ∧ sl P g = 0 ∧ g ≠ m := by
    by_cases h7 : m < 7
    · exact gP h7
    · obtain ⟨g, g1, g2, _⟩ := VW_gap hb hv (p := 0) (by omega)
      exact ⟨g, g1, g2, by omega⟩
  have ex' : ∃ g, g < 7 ∧ sl (rvW b P) g = 0 ∧ g ≠ m := by
    obtain ⟨g, g1, g2, g3⟩ := ex
    exact ⟨g, g1, (rv_0 hb hv g1).2 g2, g3⟩
  refine sl_ext (aft_VW hb hv' hm h0').1 (rv_VW hb ha).1 (fun q hq => ?_)
  rw [rv_sl hb ha hq, aft_sl ex' hm h0' hq, aft_sl ex hm h0 hq]
  by_cases h7 : m < 7
  · have hg : gap (rvW b P) m = gap P m := gB_congr h7 (fun q hq => rv_0 hb hv hq) 6 1
    rw [if_pos h7, if_pos h7, hg]
    by_cases c1 : q = gap P m
    · rw [if_pos c1, if_pos c1, rv_sl hb hv h7]
    · rw [if_neg c1, if_neg c1]
      by_cases c2 : q = m
      · rw [if_pos c2, if_pos c2]; rfl
      · rw [if_neg c2, if_neg c2, rv_sl hb hv hq]
  · have hp := plc_lt6 hm h7
    rw [if_neg h7, if_neg h7, rv_sl hb hv (show plc m < 7 by omega), rv_sl hb hv (show plc m + 1 < 7 by omega), rv_sl hb hv hq]
    have r0 : rev b 0 = 0 := rfl
    (repeat' split) <;> first | rfl | exact r0.symm
theorem rv_prc {O : Nat → Nat} (hb : b < 6) (hv : VW b P) (hm : m < 19) : prc (fun s => O (rev b s)) (rvW b P) m = prc O P m := by
  unfold prc
  by_cases h7 : m < 7
  · rw [if_pos h7, if_pos h7, rv_sl hb hv h7]
    show O (rev b (rev b (sl P m))) = _
    rw [rev_rev (hv.2.1 m h7)]
  · have hp := plc_lt6 hm h7
    rw [if_neg h7, if_neg h7, rv_sl hb hv (show plc m < 7 by omega), rv_sl hb hv (show plc m + 1 < 7 by omega)]
    show max (O (rev b (rev b (sl P (plc m))))) (O (rev b (rev b (sl P (plc m + 1))))) = _
    rw [rev_rev (hv.2.1 (plc m) (by omega)), rev_rev (hv.2.1 (plc m + 1) (by omega))]
theorem rv_wrg {a c : Nat} (ha : a ≤ b) (hc : c ≤ b) : wrg 0 (rev b a) (rev b c) = wrg 1 a c := by
  unfold wrg
  by_cases h1 : a = 0
  · subst h1; simp [rev]
  · by_cases h2 : c = 0
    · subst h2; simp [rev]
    · have e1 : rev b a ≠ 0 := fun e => h1 ((rev_0 ha).1 e)
      have e2 : rev b c ≠ 0 := fun e => h2 ((rev_0 hc).1 e)
      rw [decide_eq_true e1, decide_eq_true e2, decide_eq_true h1, decide_eq_true h2, if_neg (by omega), if_pos rfl]
      have e : rev b c < rev b a ↔ a < c := by
        unfold rev
        rw [if_neg h1, if_neg h2]
        omega
      by_cases hac : a < c
      · rw [decide_eq_true hac, decide_eq_true (e.2 hac)]
      · rw [decide_eq_false hac, decide_eq_false (fun q => hac (e.1 q))]
theorem rv_ord {c : Nat} (hb : b < 6) (hv : VW b P) : ∀ (k p last g : Nat), p + k = 7 → last ≤ b → ord (rvW b P) 0 c k p (rev b last) g = ord P 1 c k p last g
  | 0, _, _, _, _, _ => rfl
  | k + 1, p, last, g, hp, hl => by
    have hp7 : p < 7 := by omega
    have hs := hv.2.1 p hp7
    unfold ord
    rw [rv_sl hb hv hp7, rv_wrg hl hs, rv_ord hb hv k (p + 1) last 1 (by omega) hl, rv_ord hb hv k (p + 1) (sl P p) g (by omega) hs]
    simp only [rev_0 hs]
theorem rv_inOrd {c : Nat} (hb : b < 6) (hv : VW b P) : inOrd (rvW b P) 0 c = inOrd P 1 c := rv_ord hb hv 7 0 0 0 rfl (Nat.zero_le _)
end Rev
/-- the stuck books, numbered from the other end -/
theorem rvS_ex (b S : Nat) : ∃ T : Nat, (∀ s, 1 ≤ s → s ≤ b → T.testBit (rev b s) = S.testBit s) ∧ ∀ s, T.testBit s = true → 1 ≤ s ∧ s ≤ b := by
  obtain ⟨H, h1, h2⟩ := msk_ex (fun i => S.testBit (b - i)) b
  refine ⟨H <<< 1, fun s s1 s2 => ?_, fun s hs => ?_⟩
  · have e : rev b s = b + 1 - s := if_neg (by omega)
    rw [e, Nat.testBit_shiftLeft, decide_eq_true (show b + 1 - s ≥ 1 by omega), Bool.true_and, h2, decide_eq_true (show b + 1 - s - 1 < b by omega), Bool.true_and, show b - (b + 1 - s - 1) = s by omega]
  · rw [Nat.testBit_shiftLeft, Bool.and_eq_true, decide_eq_true_eq, h2, Bool.and_eq_true, decide_eq_true_eq] at hs
    omega
theorem rv_ED {b S T r m : Nat} (hb : b < 6) (hT : ∀ s, 1 ≤ s → s ≤ b → T.testBit (rev b s) = S.testBit s) (hr : r < wds b) (hm : m < 19) : ED b T (rk b (rvW b (wd b r))) m = (ED b S r m).map (fun r => rk b (rvW b (wd b r))) := by
  have hv := wd_VW hb hr
  have hv' := rv_VW hb hv
  have hR : rsn (rvW b (wd b r)) T m = 0 ↔ rsn (wd b r) S m = 0 := by
    rw [rsn_split (S := T), rsn_split (S := S), rv_rsn hb hv hm]
    refine and_congr_right fun h0 => ?_
    unfold hld
    by_cases h7 : m < 7
    · obtain ⟨a1, a2⟩ := (mv_slots hv hm h0).1 h7
      rw [rv_sl hb hv h7, hT _ a1 a2]
    · rw [decide_eq_false h7, Bool.false_and, Bool.false_and]
  unfold ED
  rw [wd_rk hb hv']
  by_cases h0 : rsn (wd b r) S m = 0
  · have h00 := (rsn_split.1 h0).1
    rw [if_pos h0, if_pos (hR.2 h0), rv_aft hb hv hm h00]
    show _ = some (rk b (rvW b (wd b (rk b (aft (wd b r) m)))))
    rw [wd_rk hb (aft_VW hb hv hm h00)]
  · rw [if_neg h0, if_neg (fun q => h0 (hR.1 q))]
    rfl
