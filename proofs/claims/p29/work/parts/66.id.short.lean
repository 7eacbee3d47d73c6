/-! no least way is longer than 60 moves -/
theorem short_0 {b S C n r w : Nat} {O : Nat → Nat} (hb : b < 6) (h3 : 3 ≤ b) (hC : C < 2) (hS : ∀ s, S.testBit s = true → 1 ≤ s ∧ s ≤ b) (hO : ∀ s, 1 ≤ O s ∧ O s ≤ 9) (hr : r < wds b) (hP : Pt (ED b S) (pr b O) (gol b 0 C) n r w) (hL : Lst (ED b S) (pr b O) (gol b 0 C) r w) : n ≤ 60 := by
  rcases (show b = 3 ∨ b = 4 ∨ b = 5 by omega) with rfl | rfl | rfl
  · exact cert ck3 rt3 hC hS hO (by rw [← wn3]; exact hr) hP hL
  · exact cert ck4 rt4 hC hS hO (by rw [← wn4]; exact hr) hP hL
  · exact cert ck5 rt5 hC hS hO (by rw [← wn5]; exact hr) hP hL
theorem short_1 {b S F C n r w : Nat} {O : Nat → Nat} (hb : b < 6) (h3 : 3 ≤ b) (hF : F < 2) (hC : C < 2) (hS : ∀ s, S.testBit s = true → 1 ≤ s ∧ s ≤ b) (hO : ∀ s, 1 ≤ O s ∧ O s ≤ 9) (hr : r < wds b) (hP : Pt (ED b S) (pr b O) (gol b F C) n r w) (hL : Lst (ED b S) (pr b O) (gol b F C) r w) : n ≤ 60 := by
  rcases (show F = 0 ∨ F = 1 by omega) with rfl | rfl
  · exact short_0 hb h3 hC hS hO hr hP hL
  · obtain ⟨T, t1, t2⟩ := rvS_ex b S
    have h1 : ∀ r, r < wds b → ∀ m, m < 19 → ED b T (rk b (rvW b (wd b r))) m = (ED b S r m).map (fun r => rk b (rvW b (wd b r))) := fun r hr m hm => rv_ED hb t1 hr hm
    have h2 : ∀ r m r', r < wds b → m < 19 → ED b S r m = some r' → pr b (fun s => O (rev b s)) (rk b (rvW b (wd b r))) m = pr b O r m := fun r m r' hr hm _ => by
      have hv := wd_VW hb hr
      unfold pr
      rw [wd_rk hb (rv_VW hb hv)]
      exact rv_prc hb hv hm
    have h3' : ∀ r, r < wds b → gol b 0 C (rk b (rvW b (wd b r))) = gol b 1 C r := fun r hr => by
      have hv := wd_VW hb hr
      unfold gol
      rw [wd_rk hb (rv_VW hb hv)]
      exact rv_inOrd hb hv
    exact short_0 (O := fun s => O (rev b s)) hb h3 hC t2 (fun s => hO _) (rk_lt hb (rv_VW hb (wd_VW hb hr))) ((sim_pt (ED_lt hb) h1 h2 h3' n r w hr).1 hP) (sim_lst (ED_lt hb) h1 h2 h3' hr hL)
theorem opt_short {b S F C kd : Nat} {O : Nat → Nat} (hb : b < 6) (hO : ∀ s, 1 ≤ s → s ≤ b → 1 ≤ O s ∧ O s ≤ 9) (hS : ∀ s, S.testBit s = true → 1 ≤ s ∧ s ≤ b) (hF : F < 2) (hC : C < 2) {n r w : Nat} (hr : r < wds b) (h : Pt (ED b S) (if kd = 0 then fun _ _ => 1 else pr b O) (gol b F C) n r w) (hl : Lst (ED b S) (if kd = 0 then fun _ _ => 1 else pr b O) (gol b F C) r w) : n ≤ 60 := by
  by_cases h3 : 3 ≤ b
  · have hid : ∀ r, r < wds b → ∀ m, m < 19 → ED b S (id r) m = (ED b S r m).map id := fun r _ m _ => by
      show ED b S r m = _
      rw [Option.map_id]
      rfl
    have hg : ∀ r, r < wds b → gol b F C (id r) = gol b F C r := fun _ _ => rfl
    have hp : ∀ r m r', r < wds b → m < 19 → ED b S r m = some r' → pr b (fun s => if 1 ≤ s ∧ s ≤ b then (if kd = 0 then 1 else O s) else 1) (id r) m = (if kd = 0 then fun _ _ => 1 else pr b O) r m := fun r m r' hr hm he => by
      have hv := wd_VW hb hr
      obtain ⟨s1, s2⟩ := mv_slots hv hm (ED_rsn he)
      show prc _ (wd b r) m = _
      by_cases hk : kd = 0
      · rw [if_pos hk]
        unfold prc
        by_cases h7 : m < 7
        · rw [if_pos h7]
          show (if 1 ≤ sl (wd b r) m ∧ sl (wd b r) m ≤ b then (if kd = 0 then 1 else O (sl (wd b r) m)) else 1) = _
          rw [if_pos (s1 h7), if_pos hk]
        · rw [if_neg h7]
          show max (if 1 ≤ sl (wd b r) (plc m) ∧ sl (wd b r) (plc m) ≤ b then (if kd = 0 then 1 else O (sl (wd b r) (plc m))) else 1) (if 1 ≤ sl (wd b r) (plc m + 1) ∧ sl (wd b r) (plc m + 1) ≤ b then (if kd = 0 then 1 else O (sl (wd b r) (plc m + 1))) else 1) = _
          rw [if_pos (s2 h7).1, if_pos (s2 h7).2, if_pos hk, if_pos hk]
          rfl
      · rw [if_neg hk]
        unfold pr prc
        by_cases h7 : m < 7
        · rw [if_pos h7, if_pos h7]
          show (if 1 ≤ sl (wd b r) m ∧ sl (wd b r) m ≤ b then (if kd = 0 then 1 else O (sl (wd b r) m)) else 1) = _
          rw [if_pos (s1 h7), if_neg hk]
        · rw [if_neg h7, if_neg h7]
          show max (if 1 ≤ sl (wd b r) (plc m) ∧ sl (wd b r) (plc m) ≤ b then (if kd = 0 then 1 else O (sl (wd b r) (plc m))) else 1) (if 1 ≤ sl (wd b r) (plc m + 1) ∧ sl (wd b r) (plc m + 1) ≤ b then (if kd = 0 then 1 else O (sl (wd b r) (plc m + 1))) else 1) = _
          rw [if_pos (s2 h7).1, if_pos (s2 h7).2, if_neg hk, if_neg hk]
    exact short_1 (O := fun s => if 1 ≤ s ∧ s ≤ b then (if kd = 0 then 1 else O s) else 1) hb h3 hF hC hS (fun s => by
      by_cases hs : 1 ≤ s ∧ s ≤ b
      · rw [if_pos hs]
        by_cases hk : kd = 0
        · rw [if_pos hk]; omega
        · rw [if_neg hk]; exact hO s hs.1 hs.2
      · rw [if_neg hs]; omega) hr ((sim_pt (ED_lt hb) hid hp hg n r w hr).1 h) (sim_lst (ED_lt hb) hid hp hg hr hl)
  · have hN : wds b ≤ 42 := by
      have h : ∀ b, b < 3 → wds b ≤ 42 := by decide
      exact h b (by omega)
    have := lst_short (fun r m r' q1 q2 q3 => (kd_bd (S := S) (kd := kd) hb hO r m r' q1 q2 q3).1) (ED_lt hb) hr h hl
    omega
