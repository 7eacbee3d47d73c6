noncomputable def f_Y_run (k0 : Nat) (h : pH) : pR := run pMs none 85 0 [some (.ref k0)] [] h
noncomputable def f_Y_run_20 (k0 : Nat) (x1 : Int32) (x2 : Int32) (h : pH) : pR := run pMs none 85 20 [some (.ref k0), some (.int x1), some (.int x2)] [] h
theorem e_Y_run (k0 : Nat) (h : pH) : f_Y_run k0 h =
    if kO h 8 k0 = true then (cI (f_Y_faultOfProgram k0 h) fun x_2 h_1 =>
    if x_2 = (-4 : Int32) then
    (if kO h_1 8 k0 = true then (cV (f_Y_remembers k0 h_1) fun h_3 =>
      (f_Y_run_20 k0 (0 : Int32) (0 : Int32) h_3)) else none)
    else
    (rI (-2 : Int32) h_1)) else none := (exq_run (M := M_85) rfl 11 _ _ _ _).symm.trans rfl
set_option maxRecDepth 100000 in
theorem e_Y_run_20 (k0 : Nat) (x1 : Int32) (x2 : Int32) (h : pH) : f_Y_run_20 k0 x1 x2 h =
    oo none (hI h 8 k0 6) fun x_1 =>
    if (2 : Int32) = 0 then none else
    if (x_1 / (2 : Int32)) ≤ x2 then
    (rI x1 h)
    else
    (if kO h 8 k0 = true then (cI (f_Y_moveAt k0 x2 h) fun x_3 h_2 =>
      if kO h_2 8 k0 = true then (cI (f_Y_does k0 x_3 h_2) fun x_5 h_4 =>
      if x_5 = 0 then
      ((f_Y_run_20 k0 (x1 + (1 : Int32)) (x2 + 1) h_4))
      else
      ((f_Y_run_20 k0 (x1 + (0 : Int32)) (x2 + 1) h_4))) else none) else none) := (exq_run (M := M_85) rfl 20 _ _ _ _).symm.trans rfl
noncomputable def f_Y_isWrong (k0 : Nat) (x1 : Int32) (x2 : Int32) (h : pH) : pR := run pMs none 89 0 [some (.ref k0), some (.int x1), some (.int x2)] [] h
theorem e_Y_isWrong (k0 : Nat) (x1 : Int32) (x2 : Int32) (h : pH) : f_Y_isWrong k0 x1 x2 h =
    oo none (hR h 8 k0 0) fun k_1 =>
    oo none (hA h k_1 (21 : Int32)) fun x_2 =>
    if x_2 = (1 : Int32) then
    (if x2 ≤ x1 then
      (rI (0 : Int32) h)
      else
      (rI (1 : Int32) h))
    else
    (if x1 ≤ x2 then
      (rI (0 : Int32) h)
      else
      (rI (1 : Int32) h)) := (exq_run (M := M_89) rfl 13 _ _ _ _).symm.trans rfl
noncomputable def f_Y_wrongWith (k0 : Nat) (x1 : Int32) (h : pH) : pR := run pMs none 90 0 [some (.ref k0), some (.int x1)] [] h
noncomputable def f_Y_wrongWith_4 (k0 : Nat) (x1 : Int32) (x2 : Int32) (x3 : Int32) (h : pH) : pR := run pMs none 90 4 [some (.ref k0), some (.int x1), some (.int x2), some (.int x3)] [] h
noncomputable def f_Y_wrongWith_30 (k0 : Nat) (x1 : Int32) (x2 : Int32) (x3 : Int32) (t0 : Int32) (h : pH) : pR := run pMs none 90 30 [some (.ref k0), some (.int x1), some (.int x2), some (.int x3)] [.int t0] h
noncomputable def f_Y_wrongWith_52 (k0 : Nat) (x1 : Int32) (x2 : Int32) (x3 : Int32) (x4 : Int32) (t0 : Int32) (h : pH) : pR := run pMs none 90 52 [some (.ref k0), some (.int x1), some (.int x2), some (.int x3), some (.int x4)] [.int t0] h
theorem e_Y_wrongWith (k0 : Nat) (x1 : Int32) (h : pH) : f_Y_wrongWith k0 x1 h =
    (f_Y_wrongWith_4 k0 x1 (0 : Int32) (0 : Int32) h) := (exq_run (M := M_90) rfl 5 _ _ _ _).symm.trans rfl
theorem e_Y_wrongWith_4 (k0 : Nat) (x1 : Int32) (x2 : Int32) (x3 : Int32) (h : pH) : f_Y_wrongWith_4 k0 x1 x2 x3 h =
    if (7 : Int32) ≤ x3 then
    (rI x2 h)
    else
    (if x1 ≤ x3 then
      (oo none (hR h 8 k0 11) fun k_1 =>
        oo none (hA h k_1 x1) fun x_2 =>
        (f_Y_wrongWith_30 k0 x1 x2 x3 x_2 h))
      else
      (oo none (hR h 8 k0 11) fun k_3 =>
        oo none (hA h k_3 x3) fun x_4 =>
        (f_Y_wrongWith_30 k0 x1 x2 x3 x_4 h))) := (exq_run (M := M_90) rfl 12 _ _ _ _).symm.trans rfl
theorem e_Y_wrongWith_30 (k0 : Nat) (x1 : Int32) (x2 : Int32) (x3 : Int32) (t0 : Int32) (h : pH) : f_Y_wrongWith_30 k0 x1 x2 x3 t0 h =
    if x1 ≤ x3 then
    (oo none (hR h 8 k0 11) fun k_1 =>
      oo none (hA h k_1 x3) fun x_2 =>
      (f_Y_wrongWith_52 k0 x1 x2 x3 t0 x_2 h))
    else
    (oo none (hR h 8 k0 11) fun k_3 =>
      oo none (hA h k_3 x1) fun x_4 =>
      (f_Y_wrongWith_52 k0 x1 x2 x3 t0 x_4 h)) := (exq_run (M := M_90) rfl 10 _ _ _ _).symm.trans rfl
set_option maxRecDepth 100000 in
theorem e_Y_wrongWith_52 (k0 : Nat) (x1 : Int32) (x2 : Int32) (x3 : Int32) (x4 : Int32) (t0 : Int32) (h : pH) : f_Y_wrongWith_52 k0 x1 x2 x3 x4 t0 h =
    if x3 = x1 then
    ((f_Y_wrongWith_4 k0 x1 (x2 + (0 : Int32)) (x3 + 1) h))
    else
    (oo none (hR h 8 k0 11) fun k_1 =>
      oo none (hA h k_1 x3) fun x_2 =>
      if x_2 ≤ 0 then
      ((f_Y_wrongWith_4 k0 x1 (x2 + (0 : Int32)) (x3 + 1) h))
      else
      (if kO h 8 k0 = true then (cI (f_Y_isWrong k0 x4 t0 h) fun x_4 h_3 =>
        if x_4 = 0 then
        ((f_Y_wrongWith_4 k0 x1 (x2 + (0 : Int32)) (x3 + 1) h_3))
        else
        ((f_Y_wrongWith_4 k0 x1 (x2 + (1 : Int32)) (x3 + 1) h_3))) else none)) := (exq_run (M := M_90) rfl 22 _ _ _ _).symm.trans rfl
noncomputable def f_Y_at (k0 : Nat) (x1 : Int32) (x2 : Int32) (h : pH) : pR := run pMs none 91 0 [some (.ref k0), some (.int x1), some (.int x2)] [] h
set_option maxRecDepth 100000 in
theorem e_Y_at (k0 : Nat) (x1 : Int32) (x2 : Int32) (h : pH) : f_Y_at k0 x1 x2 h =
    cI (f_Y_isPlace x1 h) fun x_2 h_1 =>
    if x_2 = 0 then
    (rI (-1 : Int32) h_1)
    else
    (cI (f_Y_in x2 (0 : Int32) (5 : Int32) h_1) fun x_4 h_3 =>
      if x_4 = 0 then
      (rI (-1 : Int32) h_3)
      else
      (if kO h_3 8 k0 = true then (cV (f_Y_looks k0 h_3) fun h_5 =>
        if x2 = (5 : Int32) then
        (if kO h_5 8 k0 = true then (cI (f_Y_nearestGap k0 x1 h_5) fun x_19 h_18 =>
          rI x_19 h_18) else none)
        else
        (oo none (hR h_5 8 k0 11) fun k_6 =>
          oo none (hA h_5 k_6 x1) fun x_7 =>
          if x_7 = 0 then
          (rI (-4 : Int32) h_5)
          else
          (if x2 = 0 then
            (oo none (hR h_5 8 k0 0) fun k_8 =>
              oo none (hA h_5 k_8 ((0 : Int32) + x1)) fun x_9 =>
              rI (x_9 - (1 : Int32)) h_5)
            else if x2 = 1 then
            (oo none (hR h_5 8 k0 0) fun k_10 =>
              oo none (hA h_5 k_10 ((7 : Int32) + x1)) fun x_11 =>
              rI x_11 h_5)
            else if x2 = 2 then
            (oo none (hR h_5 8 k0 0) fun k_12 =>
              oo none (hA h_5 k_12 ((14 : Int32) + x1)) fun x_13 =>
              rI x_13 h_5)
            else if x2 = 3 then
            (if kO h_5 8 k0 = true then (cI (f_Y_nearestGap k0 x1 h_5) fun x_15 h_14 =>
              rI x_15 h_14) else none)
            else (if kO h_5 8 k0 = true then (cI (f_Y_wrongWith k0 x1 h_5) fun x_17 h_16 =>
              rI x_17 h_16) else none)))) else none)) := (exq_run (M := M_91) rfl 30 _ _ _ _).symm.trans rfl
noncomputable def f_Y_whyNot (k0 : Nat) (x1 : Int32) (h : pH) : pR := run pMs none 93 0 [some (.ref k0), some (.int x1)] [] h
theorem e_Y_whyNot (k0 : Nat) (x1 : Int32) (h : pH) : f_Y_whyNot k0 x1 h =
    cI (f_Y_in x1 (0 : Int32) (18 : Int32) h) fun x_2 h_1 =>
    if x_2 = 0 then
    (rI (-1 : Int32) h_1)
    else
    (if kO h_1 8 k0 = true then (cV (f_Y_looks k0 h_1) fun h_3 =>
      if kO h_3 8 k0 = true then (cI (f_Y_whyNotOf k0 x1 h_3) fun x_5 h_4 =>
      rI x_5 h_4) else none) else none) := (exq_run (M := M_93) rfl 12 _ _ _ _).symm.trans rfl
noncomputable def f_Y_cost (k0 : Nat) (x1 : Int32) (h : pH) : pR := run pMs none 95 0 [some (.ref k0), some (.int x1)] [] h
theorem e_Y_cost (k0 : Nat) (x1 : Int32) (h : pH) : f_Y_cost k0 x1 h =
    if kO h 8 k0 = true then (cI (f_Y_whyNot k0 x1 h) fun x_2 h_1 =>
    if x_2 = 0 then
    (if kO h_1 8 k0 = true then (cV (f_Y_makes k0 x1 h_1) fun h_3 =>
      oo none (hI h_3 8 k0 13) fun x_4 =>
      rI x_4 h_3) else none)
    else
    (if x_2 ≤ 0 then
      (rI x_2 h_1)
      else
      (rI (-2 : Int32) h_1))) else none := (exq_run (M := M_95) rfl 13 _ _ _ _).symm.trans rfl
noncomputable def f_Y_leads (k0 : Nat) (x1 : Int32) (h : pH) : pR := run pMs none 97 0 [some (.ref k0), some (.int x1)] [] h
theorem e_Y_leads (k0 : Nat) (x1 : Int32) (h : pH) : f_Y_leads k0 x1 h =
    if kO h 8 k0 = true then (cI (f_Y_whyNot k0 x1 h) fun x_2 h_1 =>
    if x_2 = 0 then
    (if kO h_1 8 k0 = true then (cV (f_Y_makes k0 x1 h_1) fun h_3 =>
      if kO h_3 8 k0 = true then (cI (f_Y_rankOfThen k0 h_3) fun x_5 h_4 =>
      rI x_5 h_4) else none) else none)
    else
    (if x_2 ≤ 0 then
      (rI x_2 h_1)
      else
      (rI (-2 : Int32) h_1))) else none := (exq_run (M := M_97) rfl 13 _ _ _ _).symm.trans rfl
noncomputable def f_Y_words (k0 : Nat) (h : pH) : pR := run pMs none 102 0 [some (.ref k0)] [] h
theorem e_Y_words (k0 : Nat) (h : pH) : f_Y_words k0 h =
    oo none (hI h 8 k0 10) fun x_1 =>
    cI (f_Y_ways (7 : Int32) x_1 h) fun x_3 h_2 =>
    rI x_3 h_2 := (exq_run (M := M_102) rfl 6 _ _ _ _).symm.trans rfl
noncomputable def f_Y_isUsed (k0 : Nat) (x1 : Int32) (x2 : Int32) (h : pH) : pR := run pMs none 103 0 [some (.ref k0), some (.int x1), some (.int x2)] [] h
noncomputable def f_Y_isUsed_5 (k0 : Nat) (x1 : Int32) (x2 : Int32) (x3 : Int32) (x4 : Int32) (h : pH) : pR := run pMs none 103 5 [some (.ref k0), some (.int x1), some (.int x2), some (.int x3), some (.int x4)] [] h
theorem e_Y_isUsed (k0 : Nat) (x1 : Int32) (x2 : Int32) (h : pH) : f_Y_isUsed k0 x1 x2 h =
    (f_Y_isUsed_5 k0 x1 x2 (0 : Int32) (0 : Int32) h) := (exq_run (M := M_103) rfl 5 _ _ _ _).symm.trans rfl
set_option maxRecDepth 100000 in
theorem e_Y_isUsed_5 (k0 : Nat) (x1 : Int32) (x2 : Int32) (x3 : Int32) (x4 : Int32) (h : pH) : f_Y_isUsed_5 k0 x1 x2 x3 x4 h =
    if x2 ≤ x4 then
    (if x3 = 0 ∨ x3 = 1 then rI x3 h else none)
    else
    (if x3 = 0 then
      (oo none (hR h 8 k0 11) fun k_1 =>
        oo none (hA h k_1 x4) fun x_2 =>
        if x_2 = x1 then
        ((f_Y_isUsed_5 k0 x1 x2 (1 : Int32) (x4 + 1) h))
        else
        ((f_Y_isUsed_5 k0 x1 x2 (0 : Int32) (x4 + 1) h)))
      else
      ((f_Y_isUsed_5 k0 x1 x2 (1 : Int32) (x4 + 1) h))) := (exq_run (M := M_103) rfl 17 _ _ _ _).symm.trans rfl
noncomputable def f_Y_unused (k0 : Nat) (x1 : Int32) (x2 : Int32) (h : pH) : pR := run pMs none 104 0 [some (.ref k0), some (.int x1), some (.int x2)] [] h
noncomputable def f_Y_unused_5 (k0 : Nat) (x2 : Int32) (x3 : Int32) (x4 : Int32) (h : pH) : pR := run pMs none 104 5 [some (.ref k0), none, some (.int x2), some (.int x3), some (.int x4)] [] h
theorem e_Y_unused (k0 : Nat) (x1 : Int32) (x2 : Int32) (h : pH) : f_Y_unused k0 x1 x2 h =
    (f_Y_unused_5 k0 x2 x1 (1 : Int32) h) := (exq_run (M := M_104) rfl 5 _ _ _ _).symm.trans rfl
set_option maxRecDepth 100000 in
theorem e_Y_unused_5 (k0 : Nat) (x2 : Int32) (x3 : Int32) (x4 : Int32) (h : pH) : f_Y_unused_5 k0 x2 x3 x4 h =
    oo none (hI h 8 k0 10) fun x_1 =>
    if x_1 < x4 then
    (rI (0 : Int32) h)
    else
    (if kO h 8 k0 = true then (cI (f_Y_isUsed k0 x4 x2 h) fun x_3 h_2 =>
      if x_3 = 0 then
      (if x3 = 0 then
        (rI x4 h_2)
        else
        ((f_Y_unused_5 k0 x2 (x3 + (-1)) (x4 + 1) h_2)))
      else
      ((f_Y_unused_5 k0 x2 x3 (x4 + 1) h_2))) else none) := (exq_run (M := M_104) rfl 15 _ _ _ _).symm.trans rfl
noncomputable def f_Y_spells (k0 : Nat) (x1 : Int32) (h : pH) : pR := run pMs none 105 0 [some (.ref k0), some (.int x1)] [] h
noncomputable def f_Y_spells_19 (k0 : Nat) (x2 : Int32) (x3 : Int32) (x4 : Int32) (x5 : Int32) (h : pH) : pR := run pMs none 105 19 [some (.ref k0), none, some (.int x2), some (.int x3), some (.int x4), some (.int x5)] [] h
noncomputable def f_Y_spells_44 (k0 : Nat) (x2 : Int32) (x3 : Int32) (x4 : Int32) (x5 : Int32) (t0 : Int32) (h : pH) : pR := run pMs none 105 44 [some (.ref k0), none, some (.int x2), some (.int x3), some (.int x4), some (.int x5)] [.int t0] h
theorem e_Y_spells (k0 : Nat) (x1 : Int32) (h : pH) : f_Y_spells k0 x1 h =
    oo none (hI h 8 k0 10) fun x_1 =>
    oo none (hI h 8 k0 10) fun x_2 =>
    (f_Y_spells_19 k0 x1 ((7 : Int32) - x_1) x_2 (0 : Int32) h) := (exq_run (M := M_105) rfl 13 _ _ _ _).symm.trans rfl
theorem e_Y_spells_19 (k0 : Nat) (x2 : Int32) (x3 : Int32) (x4 : Int32) (x5 : Int32) (h : pH) : f_Y_spells_19 k0 x2 x3 x4 x5 h =
    if (7 : Int32) ≤ x5 then
    (rV h)
    else
    (if x3 ≤ 0 then
      ((f_Y_spells_44 k0 x2 x3 x4 x5 (0 : Int32) h))
      else
      (cI (f_Y_ways ((6 : Int32) - x5) x4 h) fun x_2 h_1 =>
        (f_Y_spells_44 k0 x2 x3 x4 x5 x_2 h_1))) := (exq_run (M := M_105) rfl 12 _ _ _ _).symm.trans rfl
set_option maxRecDepth 100000 in
theorem e_Y_spells_44 (k0 : Nat) (x2 : Int32) (x3 : Int32) (x4 : Int32) (x5 : Int32) (t0 : Int32) (h : pH) : f_Y_spells_44 k0 x2 x3 x4 x5 t0 h =
    oo none (hR h 8 k0 11) fun k_1 =>
    if bA h k_1 x5 = true then
    (if t0 ≤ x2 then
    (cI (f_Y_ways ((6 : Int32) - x5) (x4 + (-1)) (sI h k_1 (Int32.toNatClampNeg x5) (0 : Int32))) fun x_3 h_2 =>
      if x_3 = 0 then none else
      if x_3 = 0 then none else
      oo none (hR h_2 8 k0 11) fun k_4 =>
      if kO h_2 8 k0 = true then (cI (f_Y_unused k0 ((x2 - t0) / x_3) x5 h_2) fun x_6 h_5 =>
      if bA h_5 k_4 x5 = true then
      ((f_Y_spells_19 k0 ((x2 - t0) - (x2 - t0) / x_3 * x_3) x3 (x4 + (-1)) (x5 + 1) (sI h_5 k_4 (Int32.toNatClampNeg x5) x_6)))
      else none) else none)
    else
    ((f_Y_spells_19 k0 x2 (x3 + (-1)) x4 (x5 + 1) (sI h k_1 (Int32.toNatClampNeg x5) (0 : Int32)))))
    else none := (exq_run (M := M_105) rfl 39 _ _ _ _).symm.trans rfl
noncomputable def f_Y_word (k0 : Nat) (x1 : Int32) (x2 : Int32) (h : pH) : pR := run pMs none 106 0 [some (.ref k0), some (.int x1), some (.int x2)] [] h
set_option maxRecDepth 100000 in
theorem e_Y_word (k0 : Nat) (x1 : Int32) (x2 : Int32) (h : pH) : f_Y_word k0 x1 x2 h =
    if kO h 8 k0 = true then (cV (f_Y_looks k0 h) fun h_1 =>
    if kO h_1 8 k0 = true then (cI (f_Y_words k0 h_1) fun x_3 h_2 =>
    cI (f_Y_in x1 (0 : Int32) (x_3 - (1 : Int32)) h_2) fun x_5 h_4 =>
    if x_5 = 0 then
    (rI (-1 : Int32) h_4)
    else
    (cI (f_Y_isPlace x2 h_4) fun x_7 h_6 =>
      if x_7 = 0 then
      (rI (-1 : Int32) h_6)
      else
      (if kO h_6 8 k0 = true then (cV (f_Y_spells k0 x1 h_6) fun h_8 =>
        oo none (hR h_8 8 k0 11) fun k_9 =>
        oo none (hA h_8 k_9 x2) fun x_10 =>
        if x_10 = 0 then
        (rI (-4 : Int32) h_8)
        else
        (oo none (hR h_8 8 k0 7) fun k_11 =>
          oo none (hR h_8 8 k0 11) fun k_12 =>
          oo none (hA h_8 k_12 x2) fun x_13 =>
          oo none (hA h_8 k_11 (x_13 - (1 : Int32))) fun x_14 =>
          rI x_14 h_8)) else none))) else none) else none := (exq_run (M := M_106) rfl 32 _ _ _ _).symm.trans rfl
noncomputable def f_Y_sumOf (k0 : Nat) (x1 : Int32) (h : pH) : pR := run pMs none 114 0 [some (.ref k0), some (.int x1)] [] h
noncomputable def f_Y_sumOf_4 (k0 : Nat) (x1 : Int32) (x2 : Int32) (x3 : Int32) (h : pH) : pR := run pMs none 114 4 [some (.ref k0), some (.int x1), some (.int x2), some (.int x3)] [] h
theorem e_Y_sumOf (k0 : Nat) (x1 : Int32) (h : pH) : f_Y_sumOf k0 x1 h =
    (f_Y_sumOf_4 k0 x1 (0 : Int32) (0 : Int32) h) := (exq_run (M := M_114) rfl 5 _ _ _ _).symm.trans rfl
set_option maxRecDepth 100000 in
theorem e_Y_sumOf_4 (k0 : Nat) (x1 : Int32) (x2 : Int32) (x3 : Int32) (h : pH) : f_Y_sumOf_4 k0 x1 x2 x3 h =
    if (7 : Int32) ≤ x3 then
    (rI x2 h)
    else
    (oo none (hR h 8 k0 0) fun k_1 =>
      oo none (hA h k_1 ((0 : Int32) + x3)) fun x_2 =>
      if x_2 ≤ 0 then
      ((f_Y_sumOf_4 k0 x1 (x2 + (0 : Int32)) (x3 + 1) h))
      else
      (oo none (hR h 8 k0 0) fun k_3 =>
        oo none (hA h k_3 (x1 + x3)) fun x_4 =>
        (f_Y_sumOf_4 k0 x1 (x2 + x_4) (x3 + 1) h))) := (exq_run (M := M_114) rfl 23 _ _ _ _).symm.trans rfl
noncomputable def f_Y_disorderOfWord (k0 : Nat) (h : pH) : pR := run pMs none 115 0 [some (.ref k0)] [] h
noncomputable def f_Y_disorderOfWord_4 (k0 : Nat) (x1 : Int32) (x2 : Int32) (h : pH) : pR := run pMs none 115 4 [some (.ref k0), some (.int x1), some (.int x2)] [] h
noncomputable def f_Y_disorderOfWord_14 (k0 : Nat) (x1 : Int32) (x2 : Int32) (x3 : Int32) (h : pH) : pR := run pMs none 115 14 [some (.ref k0), some (.int x1), some (.int x2), some (.int x3)] [] h
theorem e_Y_disorderOfWord (k0 : Nat) (h : pH) : f_Y_disorderOfWord k0 h =
    (f_Y_disorderOfWord_4 k0 (0 : Int32) (0 : Int32) h) := (exq_run (M := M_115) rfl 5 _ _ _ _).symm.trans rfl
theorem e_Y_disorderOfWord_4 (k0 : Nat) (x1 : Int32) (x2 : Int32) (h : pH) : f_Y_disorderOfWord_4 k0 x1 x2 h =
    if (7 : Int32) ≤ x2 then
    (rI x1 h)
    else
    ((f_Y_disorderOfWord_14 k0 x1 x2 (x2 + (1 : Int32)) h)) := (exq_run (M := M_115) rfl 8 _ _ _ _).symm.trans rfl
set_option maxRecDepth 100000 in
theorem e_Y_disorderOfWord_14 (k0 : Nat) (x1 : Int32) (x2 : Int32) (x3 : Int32) (h : pH) : f_Y_disorderOfWord_14 k0 x1 x2 x3 h =
    if (7 : Int32) ≤ x3 then
    ((f_Y_disorderOfWord_4 k0 x1 (x2 + 1) h))
    else
    (oo none (hR h 8 k0 11) fun k_1 =>
      oo none (hA h k_1 x2) fun x_2 =>
      if x_2 ≤ 0 then
      ((f_Y_disorderOfWord_14 k0 (x1 + (0 : Int32)) x2 (x3 + 1) h))
      else
      (oo none (hR h 8 k0 11) fun k_3 =>
        oo none (hA h k_3 x3) fun x_4 =>
        if x_4 ≤ 0 then
        ((f_Y_disorderOfWord_14 k0 (x1 + (0 : Int32)) x2 (x3 + 1) h))
        else
        (oo none (hR h 8 k0 11) fun k_5 =>
          oo none (hA h k_5 x2) fun x_6 =>
          oo none (hR h 8 k0 11) fun k_7 =>
          oo none (hA h k_7 x3) fun x_8 =>
          if kO h 8 k0 = true then (cI (f_Y_isWrong k0 x_6 x_8 h) fun x_10 h_9 =>
          if x_10 = 0 then
          ((f_Y_disorderOfWord_14 k0 (x1 + (0 : Int32)) x2 (x3 + 1) h_9))
          else
          ((f_Y_disorderOfWord_14 k0 (x1 + (1 : Int32)) x2 (x3 + 1) h_9))) else none))) := (exq_run (M := M_115) rfl 32 _ _ _ _).symm.trans rfl
noncomputable def f_Y_isWordInOrder (k0 : Nat) (h : pH) : pR := run pMs none 116 0 [some (.ref k0)] [] h
noncomputable def f_Y_isWordInOrder_4 (k0 : Nat) (x1 : Int32) (x2 : Int32) (h : pH) : pR := run pMs none 116 4 [some (.ref k0), some (.int x1), some (.int x2)] [] h
theorem e_Y_isWordInOrder (k0 : Nat) (h : pH) : f_Y_isWordInOrder k0 h =
    (f_Y_isWordInOrder_4 k0 (1 : Int32) (1 : Int32) h) := (exq_run (M := M_116) rfl 5 _ _ _ _).symm.trans rfl
set_option maxRecDepth 100000 in
theorem e_Y_isWordInOrder_4 (k0 : Nat) (x1 : Int32) (x2 : Int32) (h : pH) : f_Y_isWordInOrder_4 k0 x1 x2 h =
    if (7 : Int32) ≤ x2 then
    (if kO h 8 k0 = true then (cI (f_Y_disorderOfWord k0 h) fun x_2 h_1 =>
      if x_2 = 0 then
      (if x1 = 0 then
        (oo none (hR h_1 8 k0 0) fun k_3 =>
          oo none (hA h_1 k_3 (22 : Int32)) fun x_4 =>
          if x_4 = 0 then
          (rI (1 : Int32) h_1)
          else
          (rI (0 : Int32) h_1))
        else
        (rI (1 : Int32) h_1))
      else
      (rI (0 : Int32) h_1)) else none)
    else
    (if x1 = 0 then
      ((f_Y_isWordInOrder_4 k0 (0 : Int32) (x2 + 1) h))
      else
      (oo none (hR h 8 k0 11) fun k_5 =>
        oo none (hA h k_5 x2) fun x_6 =>
        if x_6 = 0 then
        ((f_Y_isWordInOrder_4 k0 (1 : Int32) (x2 + 1) h))
        else
        (oo none (hR h 8 k0 11) fun k_7 =>
          oo none (hA h k_7 (x2 - (1 : Int32))) fun x_8 =>
          if x_8 ≤ 0 then
          ((f_Y_isWordInOrder_4 k0 (0 : Int32) (x2 + 1) h))
          else
          ((f_Y_isWordInOrder_4 k0 (1 : Int32) (x2 + 1) h))))) := (exq_run (M := M_116) rfl 23 _ _ _ _).symm.trans rfl
noncomputable def f_Y_rankNow (k0 : Nat) (h : pH) : pR := run pMs none 117 0 [some (.ref k0)] [] h
noncomputable def f_Y_rankNow_6 (k0 : Nat) (x1 : Int32) (h : pH) : pR := run pMs none 117 6 [some (.ref k0), some (.int x1)] [] h
theorem e_Y_rankNow (k0 : Nat) (h : pH) : f_Y_rankNow k0 h =
    if kO h 8 k0 = true then (cV (f_Y_looks k0 h) fun h_1 =>
    (f_Y_rankNow_6 k0 (0 : Int32) h_1)) else none := (exq_run (M := M_117) rfl 5 _ _ _ _).symm.trans rfl
set_option maxRecDepth 100000 in
theorem e_Y_rankNow_6 (k0 : Nat) (x1 : Int32) (h : pH) : f_Y_rankNow_6 k0 x1 h =
    if (7 : Int32) ≤ x1 then
    (if kO h 8 k0 = true then (cI (f_Y_rankOfThen k0 h) fun x_2 h_1 =>
      rI x_2 h_1) else none)
    else
    (oo none (hR h 8 k0 12) fun k_3 =>
      oo none (hR h 8 k0 11) fun k_4 =>
      oo none (hA h k_4 x1) fun x_5 =>
      if bA h k_3 x1 = true then
      ((f_Y_rankNow_6 k0 (x1 + 1) (sI h k_3 (Int32.toNatClampNeg x1) x_5)))
      else none) := (exq_run (M := M_117) rfl 14 _ _ _ _).symm.trans rfl
noncomputable def f_Y_wordsInOrder (k0 : Nat) (h : pH) : pR := run pMs none 118 0 [some (.ref k0)] [] h
noncomputable def f_Y_wordsInOrder_4 (k0 : Nat) (x1 : Int32) (x2 : Int32) (h : pH) : pR := run pMs none 118 4 [some (.ref k0), some (.int x1), some (.int x2)] [] h
theorem e_Y_wordsInOrder (k0 : Nat) (h : pH) : f_Y_wordsInOrder k0 h =
    (f_Y_wordsInOrder_4 k0 (0 : Int32) (0 : Int32) h) := (exq_run (M := M_118) rfl 5 _ _ _ _).symm.trans rfl
set_option maxRecDepth 100000 in
theorem e_Y_wordsInOrder_4 (k0 : Nat) (x1 : Int32) (x2 : Int32) (h : pH) : f_Y_wordsInOrder_4 k0 x1 x2 h =
    if kO h 8 k0 = true then (cI (f_Y_words k0 h) fun x_2 h_1 =>
    if x_2 ≤ x2 then
    (rI x1 h_1)
    else
    (if kO h_1 8 k0 = true then (cV (f_Y_spells k0 x2 h_1) fun h_3 =>
      if kO h_3 8 k0 = true then (cI (f_Y_isWordInOrder k0 h_3) fun x_5 h_4 =>
      if x_5 = 0 then
      ((f_Y_wordsInOrder_4 k0 (x1 + (0 : Int32)) (x2 + 1) h_4))
      else
      ((f_Y_wordsInOrder_4 k0 (x1 + (1 : Int32)) (x2 + 1) h_4))) else none) else none)) else none := (exq_run (M := M_118) rfl 18 _ _ _ _).symm.trans rfl
noncomputable def f_Y_movesNow (k0 : Nat) (h : pH) : pR := run pMs none 119 0 [some (.ref k0)] [] h
noncomputable def f_Y_movesNow_4 (k0 : Nat) (x1 : Int32) (x2 : Int32) (h : pH) : pR := run pMs none 119 4 [some (.ref k0), some (.int x1), some (.int x2)] [] h
theorem e_Y_movesNow (k0 : Nat) (h : pH) : f_Y_movesNow k0 h =
    (f_Y_movesNow_4 k0 (0 : Int32) (0 : Int32) h) := (exq_run (M := M_119) rfl 5 _ _ _ _).symm.trans rfl
set_option maxRecDepth 100000 in
theorem e_Y_movesNow_4 (k0 : Nat) (x1 : Int32) (x2 : Int32) (h : pH) : f_Y_movesNow_4 k0 x1 x2 h =
    if (19 : Int32) ≤ x2 then
    (rI x1 h)
    else
    (if kO h 8 k0 = true then (cI (f_Y_whyNotOf k0 x2 h) fun x_2 h_1 =>
      if x_2 = 0 then
      ((f_Y_movesNow_4 k0 (x1 + (1 : Int32)) (x2 + 1) h_1))
      else
      ((f_Y_movesNow_4 k0 (x1 + (0 : Int32)) (x2 + 1) h_1))) else none) := (exq_run (M := M_119) rfl 15 _ _ _ _).symm.trans rfl
noncomputable def f_Y_count (k0 : Nat) (x1 : Int32) (h : pH) : pR := run pMs none 120 0 [some (.ref k0), some (.int x1)] [] h
noncomputable def f_Y_count_136 (k0 : Nat) (x1 : Int32) (h : pH) : pR := run pMs none 120 136 [some (.ref k0), some (.int x1)] [] h
noncomputable def f_Y_count_154 (k0 : Nat) (x1 : Int32) (h : pH) : pR := run pMs none 120 154 [some (.ref k0), some (.int x1)] [] h
theorem e_Y_count (k0 : Nat) (x1 : Int32) (h : pH) : f_Y_count k0 x1 h =
    if kO h 8 k0 = true then (cV (f_Y_looks k0 h) fun h_1 =>
    if x1 = 0 then
    (oo none (hI h_1 8 k0 10) fun x_2 =>
      rI x_2 h_1)
    else if x1 = 1 then
    (if kO h_1 8 k0 = true then (cI (f_Y_sumOf k0 (14 : Int32) h_1) fun x_4 h_3 =>
      rI x_4 h_3) else none)
    else if x1 = 2 then
    (if kO h_1 8 k0 = true then (cI (f_Y_sumOf k0 (7 : Int32) h_1) fun x_6 h_5 =>
      rI x_6 h_5) else none)
    else if x1 = 3 then
    (if kO h_1 8 k0 = true then (cI (f_Y_isWordInOrder k0 h_1) fun x_8 h_7 =>
      if x_8 = 0 then
      (rI (0 : Int32) h_7)
      else
      (rI (1 : Int32) h_7)) else none)
    else if x1 = 4 then
    (if kO h_1 8 k0 = true then (cI (f_Y_disorderOfWord k0 h_1) fun x_10 h_9 =>
      rI x_10 h_9) else none)
    else if x1 = 5 then
    (if kO h_1 8 k0 = true then (cI (f_Y_rankNow k0 h_1) fun x_12 h_11 =>
      rI x_12 h_11) else none)
    else if x1 = 6 then
    (if kO h_1 8 k0 = true then (cI (f_Y_words k0 h_1) fun x_14 h_13 =>
      rI x_14 h_13) else none)
    else if x1 = 7 then
    (if kO h_1 8 k0 = true then (cI (f_Y_wordsInOrder k0 h_1) fun x_16 h_15 =>
      rI x_16 h_15) else none)
    else if x1 = 8 then
    ((f_Y_count_136 k0 x1 h_1))
    else if x1 = 9 then
    ((f_Y_count_136 k0 x1 h_1))
    else if x1 = 10 then
    ((f_Y_count_136 k0 x1 h_1))
    else if x1 = 11 then
    (if kO h_1 8 k0 = true then (cI (f_Y_movesNow k0 h_1) fun x_18 h_17 =>
      rI x_18 h_17) else none)
    else if x1 = 12 then
    ((f_Y_count_154 k0 x1 h_1))
    else if x1 = 13 then
    ((f_Y_count_154 k0 x1 h_1))
    else if x1 = 14 then
    (oo none (hI h_1 8 k0 6) fun x_19 =>
      rI x_19 h_1)
    else if x1 = 15 then
    (oo none (hI h_1 8 k0 2) fun x_20 =>
      rI x_20 h_1)
    else (rI (-1 : Int32) h_1)) else none := (exq_run (M := M_120) rfl 11 _ _ _ _).symm.trans rfl
theorem e_Y_count_136 (k0 : Nat) (x1 : Int32) (h : pH) : f_Y_count_136 k0 x1 h =
    oo none (hR h 8 k0 0) fun k_1 =>
    oo none (hA h k_1 (((23 : Int32) + x1) - (8 : Int32))) fun x_2 =>
    rI x_2 h := (exq_run (M := M_120) rfl 10 _ _ _ _).symm.trans rfl
theorem e_Y_count_154 (k0 : Nat) (x1 : Int32) (h : pH) : f_Y_count_154 k0 x1 h =
    oo none (hR h 8 k0 0) fun k_1 =>
    oo none (hA h k_1 (((21 : Int32) + x1) - (12 : Int32))) fun x_2 =>
    rI x_2 h := (exq_run (M := M_120) rfl 10 _ _ _ _).symm.trans rfl
noncomputable def f_Y_findsMoves (k0 : Nat) (h : pH) : pR := run pMs none 139 0 [some (.ref k0)] [] h
noncomputable def f_Y_findsMoves_2 (k0 : Nat) (x1 : Int32) (h : pH) : pR := run pMs none 139 2 [some (.ref k0), some (.int x1)] [] h
noncomputable def f_Y_findsMoves_33 (k0 : Nat) (x1 : Int32) (t0 : Nat) (t1 : Int32) (t2 : Int32) (h : pH) : pR := run pMs none 139 33 [some (.ref k0), some (.int x1)] [.int t2, .int t1, .ref t0] h
noncomputable def f_Y_findsMoves_48 (k0 : Nat) (x1 : Int32) (x2 : Int32) (h : pH) : pR := run pMs none 139 48 [some (.ref k0), some (.int x1), some (.int x2)] [] h
noncomputable def f_Y_findsMoves_67 (k0 : Nat) (x1 : Int32) (x2 : Int32) (t0 : Int32) (h : pH) : pR := run pMs none 139 67 [some (.ref k0), some (.int x1), some (.int x2)] [.int t0] h
theorem e_Y_findsMoves (k0 : Nat) (h : pH) : f_Y_findsMoves k0 h =
    (f_Y_findsMoves_2 k0 (0 : Int32) h) := (exq_run (M := M_139) rfl 3 _ _ _ _).symm.trans rfl
set_option maxRecDepth 100000 in
theorem e_Y_findsMoves_2 (k0 : Nat) (x1 : Int32) (h : pH) : f_Y_findsMoves_2 k0 x1 h =
    if kO h 8 k0 = true then (cI (f_Y_words k0 h) fun x_2 h_1 =>
    if x_2 ≤ x1 then
    (rV h_1)
    else
    (if kO h_1 8 k0 = true then (cV (f_Y_spells k0 x1 h_1) fun h_3 =>
      oo none (hR h_3 8 k0 16) fun k_4 =>
      if kO h_3 8 k0 = true then (cI (f_Y_isWordInOrder k0 h_3) fun x_6 h_5 =>
      if x_6 = 0 then
      ((f_Y_findsMoves_33 k0 x1 k_4 x1 (1000000 : Int32) h_5))
      else
      ((f_Y_findsMoves_33 k0 x1 k_4 x1 (0 : Int32) h_5))) else none) else none)) else none := (exq_run (M := M_139) rfl 16 _ _ _ _).symm.trans rfl
theorem e_Y_findsMoves_33 (k0 : Nat) (x1 : Int32) (t0 : Nat) (t1 : Int32) (t2 : Int32) (h : pH) : f_Y_findsMoves_33 k0 x1 t0 t1 t2 h =
    if bA h t0 t1 = true then
    (oo none (hR (sI h t0 (Int32.toNatClampNeg t1) t2) 8 k0 17) fun k_1 =>
    oo none (hR (sI h t0 (Int32.toNatClampNeg t1) t2) 8 k0 16) fun k_2 =>
    oo none (hA (sI h t0 (Int32.toNatClampNeg t1) t2) k_2 x1) fun x_3 =>
    if bA (sI h t0 (Int32.toNatClampNeg t1) t2) k_1 x1 = true then
    ((f_Y_findsMoves_48 k0 x1 (0 : Int32) (sI (sI h t0 (Int32.toNatClampNeg t1) t2) k_1 (Int32.toNatClampNeg x1) x_3)))
    else none)
    else none := (exq_run (M := M_139) rfl 12 _ _ _ _).symm.trans rfl
theorem e_Y_findsMoves_48 (k0 : Nat) (x1 : Int32) (x2 : Int32) (h : pH) : f_Y_findsMoves_48 k0 x1 x2 h =
    if (19 : Int32) ≤ x2 then
    ((f_Y_findsMoves_2 k0 (x1 + 1) h))
    else
    (if kO h 8 k0 = true then (cI (f_Y_whyNotOf k0 x2 h) fun x_2 h_1 =>
      if x_2 = 0 then
      ((f_Y_findsMoves_67 k0 x1 x2 (1 : Int32) h_1))
      else
      ((f_Y_findsMoves_67 k0 x1 x2 (0 : Int32) h_1))) else none) := (exq_run (M := M_139) rfl 10 _ _ _ _).symm.trans rfl
set_option maxRecDepth 100000 in
theorem e_Y_findsMoves_67 (k0 : Nat) (x1 : Int32) (x2 : Int32) (t0 : Int32) (h : pH) : f_Y_findsMoves_67 k0 x1 x2 t0 h =
    oo none (hR h 8 k0 14) fun k_1 =>
    if bA h k_1 (((19 : Int32) * x1) + x2) = true then
    (if t0 = 0 then
    ((f_Y_findsMoves_48 k0 x1 (x2 + 1) (sI h k_1 (Int32.toNatClampNeg (((19 : Int32) * x1) + x2)) (-1 : Int32))))
    else
    (if kO (sI h k_1 (Int32.toNatClampNeg (((19 : Int32) * x1) + x2)) (-1 : Int32)) 8 k0 = true then (cV (f_Y_makes k0 x2 (sI h k_1 (Int32.toNatClampNeg (((19 : Int32) * x1) + x2)) (-1 : Int32))) fun h_2 =>
      oo none (hR h_2 8 k0 14) fun k_3 =>
      if kO h_2 8 k0 = true then (cI (f_Y_rankOfThen k0 h_2) fun x_5 h_4 =>
      if bA h_4 k_3 (((19 : Int32) * x1) + x2) = true then
      (oo none (hR (sI h_4 k_3 (Int32.toNatClampNeg (((19 : Int32) * x1) + x2)) x_5) 8 k0 15) fun k_6 =>
      oo none (hI (sI h_4 k_3 (Int32.toNatClampNeg (((19 : Int32) * x1) + x2)) x_5) 8 k0 13) fun x_7 =>
      if bA (sI h_4 k_3 (Int32.toNatClampNeg (((19 : Int32) * x1) + x2)) x_5) k_6 (((19 : Int32) * x1) + x2) = true then
      ((f_Y_findsMoves_48 k0 x1 (x2 + 1) (sI (sI h_4 k_3 (Int32.toNatClampNeg (((19 : Int32) * x1) + x2)) x_5) k_6 (Int32.toNatClampNeg (((19 : Int32) * x1) + x2)) x_7)))
      else none)
      else none) else none) else none))
    else none := (exq_run (M := M_139) rfl 38 _ _ _ _).symm.trans rfl
noncomputable def f_Y_lessens (k0 : Nat) (x1 : Int32) (x2 : Int32) (h : pH) : pR := run pMs none 140 0 [some (.ref k0), some (.int x1), some (.int x2)] [] h
noncomputable def f_Y_lessens_67 (k0 : Nat) (x1 : Int32) (x2 : Int32) (x3 : Int32) (t0 : Int32) (h : pH) : pR := run pMs none 140 67 [some (.ref k0), some (.int x1), some (.int x2), some (.int x3)] [.int t0] h
noncomputable def f_Y_lessens_108 (k0 : Nat) (x1 : Int32) (x2 : Int32) (x3 : Int32) (x4 : Int32) (t0 : Nat) (t1 : Int32) (t2 : Int32) (h : pH) : pR := run pMs none 140 108 [some (.ref k0), some (.int x1), some (.int x2), some (.int x3), some (.int x4)] [.int t2, .int t1, .ref t0] h
set_option maxRecDepth 100000 in
theorem e_Y_lessens (k0 : Nat) (x1 : Int32) (x2 : Int32) (h : pH) : f_Y_lessens k0 x1 x2 h =
    oo none (hR h 8 k0 14) fun k_1 =>
    oo none (hA h k_1 (((19 : Int32) * x1) + x2)) fun x_2 =>
    if 0 ≤ x_2 then
    (oo none (hR h 8 k0 16) fun k_3 =>
      oo none (hA h k_3 x_2) fun x_4 =>
      oo none (hR h 8 k0 16) fun k_5 =>
      oo none (hA h k_5 x1) fun x_6 =>
      if (x_4 + (1 : Int32)) < x_6 then
      ((f_Y_lessens_67 k0 x1 x2 x_2 (1 : Int32) h))
      else
      (oo none (hR h 8 k0 17) fun k_7 =>
        oo none (hA h k_7 x_2) fun x_8 =>
        oo none (hR h 8 k0 15) fun k_9 =>
        oo none (hA h k_9 (((19 : Int32) * x1) + x2)) fun x_10 =>
        oo none (hR h 8 k0 17) fun k_11 =>
        oo none (hA h k_11 x1) fun x_12 =>
        if x_12 ≤ (x_8 + x_10) then
        ((f_Y_lessens_67 k0 x1 x2 x_2 (0 : Int32) h))
        else
        ((f_Y_lessens_67 k0 x1 x2 x_2 (1 : Int32) h))))
    else
    (rI (0 : Int32) h) := (exq_run (M := M_140) rfl 43 _ _ _ _).symm.trans rfl
set_option maxRecDepth 100000 in
theorem e_Y_lessens_67 (k0 : Nat) (x1 : Int32) (x2 : Int32) (x3 : Int32) (t0 : Int32) (h : pH) : f_Y_lessens_67 k0 x1 x2 x3 t0 h =
    oo none (hR h 8 k0 16) fun k_1 =>
    oo none (hR h 8 k0 16) fun k_2 =>
    oo none (hA h k_2 x3) fun x_3 =>
    oo none (hR h 8 k0 16) fun k_4 =>
    oo none (hA h k_4 x1) fun x_5 =>
    if x_5 ≤ (x_3 + (1 : Int32)) then
    (oo none (hR h 8 k0 16) fun k_6 =>
      oo none (hA h k_6 x1) fun x_7 =>
      (f_Y_lessens_108 k0 x1 x2 x3 t0 k_1 x1 x_7 h))
    else
    (oo none (hR h 8 k0 16) fun k_8 =>
      oo none (hA h k_8 x3) fun x_9 =>
      (f_Y_lessens_108 k0 x1 x2 x3 t0 k_1 x1 (x_9 + (1 : Int32)) h)) := (exq_run (M := M_140) rfl 23 _ _ _ _).symm.trans rfl
set_option maxRecDepth 100000 in
theorem e_Y_lessens_108 (k0 : Nat) (x1 : Int32) (x2 : Int32) (x3 : Int32) (x4 : Int32) (t0 : Nat) (t1 : Int32) (t2 : Int32) (h : pH) : f_Y_lessens_108 k0 x1 x2 x3 x4 t0 t1 t2 h =
    if bA h t0 t1 = true then
    (oo none (hR (sI h t0 (Int32.toNatClampNeg t1) t2) 8 k0 17) fun k_1 =>
    oo none (hA (sI h t0 (Int32.toNatClampNeg t1) t2) k_1 x3) fun x_2 =>
    oo none (hR (sI h t0 (Int32.toNatClampNeg t1) t2) 8 k0 15) fun k_3 =>
    oo none (hA (sI h t0 (Int32.toNatClampNeg t1) t2) k_3 (((19 : Int32) * x1) + x2)) fun x_4 =>
    oo none (hR (sI h t0 (Int32.toNatClampNeg t1) t2) 8 k0 17) fun k_5 =>
    oo none (hR (sI h t0 (Int32.toNatClampNeg t1) t2) 8 k0 17) fun k_6 =>
    oo none (hA (sI h t0 (Int32.toNatClampNeg t1) t2) k_6 x1) fun x_7 =>
    if x_7 ≤ (x_2 + x_4) then
    (oo none (hR (sI h t0 (Int32.toNatClampNeg t1) t2) 8 k0 17) fun k_8 =>
      oo none (hA (sI h t0 (Int32.toNatClampNeg t1) t2) k_8 x1) fun x_9 =>
      if bA (sI h t0 (Int32.toNatClampNeg t1) t2) k_5 x1 = true then
      (if x4 = 0 ∨ x4 = 1 then rI x4 (sI (sI h t0 (Int32.toNatClampNeg t1) t2) k_5 (Int32.toNatClampNeg x1) x_9) else none)
      else none)
    else
    (if bA (sI h t0 (Int32.toNatClampNeg t1) t2) k_5 x1 = true then
      (if x4 = 0 ∨ x4 = 1 then rI x4 (sI (sI h t0 (Int32.toNatClampNeg t1) t2) k_5 (Int32.toNatClampNeg x1) (x_2 + x_4)) else none)
      else none))
    else none := (exq_run (M := M_140) rfl 32 _ _ _ _).symm.trans rfl
noncomputable def f_Y_solves (k0 : Nat) (h : pH) : pR := run pMs none 141 0 [some (.ref k0)] [] h
noncomputable def f_Y_solves_6 (k0 : Nat) (x1 : Int32) (h : pH) : pR := run pMs none 141 6 [some (.ref k0), some (.int x1)] [] h
noncomputable def f_Y_solves_14 (k0 : Nat) (x1 : Int32) (x2 : Int32) (h : pH) : pR := run pMs none 141 14 [some (.ref k0), some (.int x1), some (.int x2)] [] h
theorem e_Y_solves (k0 : Nat) (h : pH) : f_Y_solves k0 h =
    if kO h 8 k0 = true then (cV (f_Y_findsMoves k0 h) fun h_1 =>
    (f_Y_solves_6 k0 (1 : Int32) h_1)) else none := (exq_run (M := M_141) rfl 5 _ _ _ _).symm.trans rfl
theorem e_Y_solves_6 (k0 : Nat) (x1 : Int32) (h : pH) : f_Y_solves_6 k0 x1 h =
    if x1 = 0 then
    (rV h)
    else
    ((f_Y_solves_14 k0 (0 : Int32) (0 : Int32) h)) := (exq_run (M := M_141) rfl 7 _ _ _ _).symm.trans rfl
set_option maxRecDepth 100000 in
theorem e_Y_solves_14 (k0 : Nat) (x1 : Int32) (x2 : Int32) (h : pH) : f_Y_solves_14 k0 x1 x2 h =
    if kO h 8 k0 = true then (cI (f_Y_words k0 h) fun x_2 h_1 =>
    if ((19 : Int32) * x_2) ≤ x2 then
    ((f_Y_solves_6 k0 x1 h_1))
    else
    (if (19 : Int32) = 0 then none else
      if (19 : Int32) = 0 then none else
      if kO h_1 8 k0 = true then (cI (f_Y_lessens k0 (x2 / (19 : Int32)) (x2 - x2 / (19 : Int32) * (19 : Int32)) h_1) fun x_4 h_3 =>
      if x_4 = 0 then
      (if x1 = 0 then
        ((f_Y_solves_14 k0 (0 : Int32) (x2 + 1) h_3))
        else
        ((f_Y_solves_14 k0 (1 : Int32) (x2 + 1) h_3)))
      else
      ((f_Y_solves_14 k0 (1 : Int32) (x2 + 1) h_3))) else none)) else none := (exq_run (M := M_141) rfl 23 _ _ _ _).symm.trans rfl
noncomputable def f_Y_least (k0 : Nat) (x1 : Int32) (x2 : Int32) (h : pH) : pR := run pMs none 142 0 [some (.ref k0), some (.int x1), some (.int x2)] [] h
noncomputable def f_Y_least_52 (t0 : Int32) (h : pH) : pR := run pMs none 142 52 [] [.int t0] h
set_option maxRecDepth 100000 in
theorem e_Y_least (k0 : Nat) (x1 : Int32) (x2 : Int32) (h : pH) : f_Y_least k0 x1 x2 h =
    if kO h 8 k0 = true then (cV (f_Y_looks k0 h) fun h_1 =>
    if kO h_1 8 k0 = true then (cI (f_Y_words k0 h_1) fun x_3 h_2 =>
    cI (f_Y_in x1 (0 : Int32) (x_3 - (1 : Int32)) h_2) fun x_5 h_4 =>
    if x_5 = 0 then
    (rI (-1 : Int32) h_4)
    else
    (cI (f_Y_in x2 (0 : Int32) (2 : Int32) h_4) fun x_7 h_6 =>
      if x_7 = 0 then
      (rI (-1 : Int32) h_6)
      else
      (if kO h_6 8 k0 = true then (cV (f_Y_solves k0 h_6) fun h_8 =>
        if x2 = 0 then
        (oo none (hR h_8 8 k0 16) fun k_11 =>
          oo none (hA h_8 k_11 x1) fun x_12 =>
          (f_Y_least_52 x_12 h_8))
        else
        (oo none (hR h_8 8 k0 17) fun k_9 =>
          oo none (hA h_8 k_9 x1) fun x_10 =>
          (f_Y_least_52 x_10 h_8))) else none))) else none) else none := (exq_run (M := M_142) rfl 25 _ _ _ _).symm.trans rfl
theorem e_Y_least_52 (t0 : Int32) (h : pH) : f_Y_least_52 t0 h =
    if (1000000 : Int32) ≤ t0 then
    (rI (-4 : Int32) h)
    else
    (rI t0 h) := (exq_run (M := M_142) rfl 8 _ _ _ _).symm.trans rfl
noncomputable def f_Y_first (k0 : Nat) (x1 : Int32) (x2 : Int32) (h : pH) : pR := run pMs none 147 0 [some (.ref k0), some (.int x1), some (.int x2)] [] h
noncomputable def f_Y_first_2 (k0 : Nat) (x1 : Int32) (x2 : Int32) (x3 : Int32) (h : pH) : pR := run pMs none 147 2 [some (.ref k0), some (.int x1), some (.int x2), some (.int x3)] [] h
theorem e_Y_first (k0 : Nat) (x1 : Int32) (x2 : Int32) (h : pH) : f_Y_first k0 x1 x2 h =
    (f_Y_first_2 k0 x1 x2 (0 : Int32) h) := (exq_run (M := M_147) rfl 3 _ _ _ _).symm.trans rfl
set_option maxRecDepth 100000 in
theorem e_Y_first_2 (k0 : Nat) (x1 : Int32) (x2 : Int32) (x3 : Int32) (h : pH) : f_Y_first_2 k0 x1 x2 x3 h =
    if (19 : Int32) ≤ x3 then
    (rI (-4 : Int32) h)
    else
    (oo none (hR h 8 k0 14) fun k_1 =>
      oo none (hA h k_1 (((19 : Int32) * x1) + x3)) fun x_2 =>
      if x_2 < 0 then
      ((f_Y_first_2 k0 x1 x2 (x3 + 1) h))
      else
      (oo none (hR h 8 k0 16) fun k_3 =>
        oo none (hA h k_3 x1) fun x_4 =>
        if (1000000 : Int32) ≤ x_4 then
        ((f_Y_first_2 k0 x1 x2 (x3 + 1) h))
        else
        (oo none (hR h 8 k0 16) fun k_5 =>
          oo none (hA h k_5 x1) fun x_6 =>
          if x_6 ≤ 0 then
          ((f_Y_first_2 k0 x1 x2 (x3 + 1) h))
          else
          (if x2 = 0 then
            (oo none (hR h 8 k0 16) fun k_7 =>
              oo none (hA h k_7 x_2) fun x_8 =>
              oo none (hR h 8 k0 16) fun k_9 =>
              oo none (hA h k_9 x1) fun x_10 =>
              if (x_8 + (1 : Int32)) = x_10 then
              (if (1 : Int32) = 0 then
                ((f_Y_first_2 k0 x1 x2 (x3 + 1) h))
                else
                (rI x3 h))
              else
              (if (0 : Int32) = 0 then
                ((f_Y_first_2 k0 x1 x2 (x3 + 1) h))
                else
                (rI x3 h)))
            else
            (oo none (hR h 8 k0 17) fun k_11 =>
              oo none (hA h k_11 x_2) fun x_12 =>
              oo none (hR h 8 k0 15) fun k_13 =>
              oo none (hA h k_13 (((19 : Int32) * x1) + x3)) fun x_14 =>
              oo none (hR h 8 k0 17) fun k_15 =>
              oo none (hA h k_15 x1) fun x_16 =>
              if (x_12 + x_14) = x_16 then
              (if (1 : Int32) = 0 then
                ((f_Y_first_2 k0 x1 x2 (x3 + 1) h))
                else
                (rI x3 h))
              else
              (if (0 : Int32) = 0 then
                ((f_Y_first_2 k0 x1 x2 (x3 + 1) h))
                else
                (rI x3 h))))))) := (exq_run (M := M_147) rfl 53 _ _ _ _).symm.trans rfl
noncomputable def f_Y_plan (k0 : Nat) (x1 : Int32) (x2 : Int32) (h : pH) : pR := run pMs none 148 0 [some (.ref k0), some (.int x1), some (.int x2)] [] h
noncomputable def f_Y_plan_26 (k0 : Nat) (x1 : Int32) (x2 : Int32) (x3 : Int32) (x4 : Int32) (x5 : Int32) (h : pH) : pR := run pMs none 148 26 [some (.ref k0), some (.int x1), some (.int x2), some (.int x3), some (.int x4), some (.int x5)] [] h
set_option maxRecDepth 100000 in
theorem e_Y_plan (k0 : Nat) (x1 : Int32) (x2 : Int32) (h : pH) : f_Y_plan k0 x1 x2 h =
    if 0 ≤ x2 then
    (if kO h 8 k0 = true then (cI (f_Y_rankNow k0 h) fun x_2 h_1 =>
      if kO h_1 8 k0 = true then (cV (f_Y_solves k0 h_1) fun h_3 =>
      if kO h_3 8 k0 = true then (cI (f_Y_first k0 x_2 x1 h_3) fun x_5 h_4 =>
      (f_Y_plan_26 k0 x1 x2 x_2 x_5 (0 : Int32) h_4)) else none) else none) else none)
    else
    (rI (-1 : Int32) h) := (exq_run (M := M_148) rfl 15 _ _ _ _).symm.trans rfl
set_option maxRecDepth 100000 in
theorem e_Y_plan_26 (k0 : Nat) (x1 : Int32) (x2 : Int32) (x3 : Int32) (x4 : Int32) (x5 : Int32) (h : pH) : f_Y_plan_26 k0 x1 x2 x3 x4 x5 h =
    if x2 ≤ x5 then
    (rI x4 h)
    else
    (if x4 = (-4 : Int32) then
      (rI x4 h)
      else
      (oo none (hR h 8 k0 14) fun k_1 =>
        oo none (hA h k_1 (((19 : Int32) * x3) + x4)) fun x_2 =>
        if kO h 8 k0 = true then (cI (f_Y_first k0 x_2 x1 h) fun x_4 h_3 =>
        (f_Y_plan_26 k0 x1 x2 x_2 x_4 (x5 + 1) h_3)) else none)) := (exq_run (M := M_148) rfl 23 _ _ _ _).symm.trans rfl
noncomputable def f_Y_reached (k0 : Nat) (x1 : Int32) (h : pH) : pR := run pMs none 155 0 [some (.ref k0), some (.int x1)] [] h
noncomputable def f_Y_reached_2 (k0 : Nat) (x1 : Int32) (x2 : Int32) (h : pH) : pR := run pMs none 155 2 [some (.ref k0), some (.int x1), some (.int x2)] [] h
noncomputable def f_Y_reached_36 (k0 : Nat) (x2 : Int32) (x3 : Int32) (h : pH) : pR := run pMs none 155 36 [some (.ref k0), none, some (.int x2), some (.int x3)] [] h
noncomputable def f_Y_reached_45 (k0 : Nat) (x2 : Int32) (x3 : Int32) (x4 : Int32) (h : pH) : pR := run pMs none 155 45 [some (.ref k0), none, some (.int x2), some (.int x3), some (.int x4)] [] h
theorem e_Y_reached (k0 : Nat) (x1 : Int32) (h : pH) : f_Y_reached k0 x1 h =
    (f_Y_reached_2 k0 x1 (0 : Int32) h) := (exq_run (M := M_155) rfl 3 _ _ _ _).symm.trans rfl
set_option maxRecDepth 100000 in
theorem e_Y_reached_2 (k0 : Nat) (x1 : Int32) (x2 : Int32) (h : pH) : f_Y_reached_2 k0 x1 x2 h =
    if kO h 8 k0 = true then (cI (f_Y_words k0 h) fun x_2 h_1 =>
    if x_2 ≤ x2 then
    ((f_Y_reached_36 k0 (1 : Int32) (1 : Int32) h_1))
    else
    (oo none (hR h_1 8 k0 18) fun k_3 =>
      if x2 = x1 then
      (if bA h_1 k_3 x2 = true then
        ((f_Y_reached_2 k0 x1 (x2 + 1) (sI h_1 k_3 (Int32.toNatClampNeg x2) (1 : Int32))))
        else none)
      else
      (if bA h_1 k_3 x2 = true then
        ((f_Y_reached_2 k0 x1 (x2 + 1) (sI h_1 k_3 (Int32.toNatClampNeg x2) (0 : Int32))))
        else none))) else none := (exq_run (M := M_155) rfl 16 _ _ _ _).symm.trans rfl
theorem e_Y_reached_36 (k0 : Nat) (x2 : Int32) (x3 : Int32) (h : pH) : f_Y_reached_36 k0 x2 x3 h =
    if x3 = 0 then
    (rI x2 h)
    else
    ((f_Y_reached_45 k0 x2 (0 : Int32) (0 : Int32) h)) := (exq_run (M := M_155) rfl 7 _ _ _ _).symm.trans rfl
set_option maxRecDepth 100000 in
theorem e_Y_reached_45 (k0 : Nat) (x2 : Int32) (x3 : Int32) (x4 : Int32) (h : pH) : f_Y_reached_45 k0 x2 x3 x4 h =
    if kO h 8 k0 = true then (cI (f_Y_words k0 h) fun x_2 h_1 =>
    if ((19 : Int32) * x_2) ≤ x4 then
    ((f_Y_reached_36 k0 x2 x3 h_1))
    else
    (oo none (hR h_1 8 k0 18) fun k_3 =>
      if (19 : Int32) = 0 then none else
      oo none (hA h_1 k_3 (x4 / (19 : Int32))) fun x_4 =>
      if x_4 = (1 : Int32) then
      (oo none (hR h_1 8 k0 14) fun k_5 =>
        oo none (hA h_1 k_5 x4) fun x_6 =>
        if x_6 < 0 then
        ((f_Y_reached_45 k0 x2 x3 (x4 + 1) h_1))
        else
        (oo none (hR h_1 8 k0 18) fun k_7 =>
          oo none (hR h_1 8 k0 14) fun k_8 =>
          oo none (hA h_1 k_8 x4) fun x_9 =>
          oo none (hA h_1 k_7 x_9) fun x_10 =>
          if x_10 = 0 then
          (oo none (hR h_1 8 k0 18) fun k_11 =>
            oo none (hR h_1 8 k0 14) fun k_12 =>
            oo none (hA h_1 k_12 x4) fun x_13 =>
            if bA h_1 k_11 x_13 = true then
            ((f_Y_reached_45 k0 (x2 + 1) (1 : Int32) (x4 + 1) (sI h_1 k_11 (Int32.toNatClampNeg x_13) (1 : Int32))))
            else none)
          else
          ((f_Y_reached_45 k0 x2 x3 (x4 + 1) h_1))))
      else
      ((f_Y_reached_45 k0 x2 x3 (x4 + 1) h_1)))) else none := (exq_run (M := M_155) rfl 41 _ _ _ _).symm.trans rfl
noncomputable def f_Y_all (k0 : Nat) (x1 : Int32) (h : pH) : pR := run pMs none 156 0 [some (.ref k0), some (.int x1)] [] h
noncomputable def f_Y_all_45 (k0 : Nat) (x1 : Int32) (x3 : Int32) (x4 : Int32) (x5 : Int32) (x6 : Int32) (x7 : Int32) (h : pH) : pR := run pMs none 156 45 [some (.ref k0), some (.int x1), none, some (.int x3), some (.int x4), some (.int x5), some (.int x6), some (.int x7)] [] h
noncomputable def f_Y_all_84 (k0 : Nat) (x1 : Int32) (x4 : Int32) (x5 : Int32) (x6 : Int32) (x7 : Int32) (x8 : Int32) (t0 : Int32) (t1 : Int32) (h : pH) : pR := run pMs none 156 84 [some (.ref k0), some (.int x1), none, none, some (.int x4), some (.int x5), some (.int x6), some (.int x7), some (.int x8)] [.int t1, .int t0] h
noncomputable def f_Y_all_110 (k0 : Nat) (x1 : Int32) (x3 : Int32) (x4 : Int32) (x5 : Int32) (x7 : Int32) (x8 : Int32) (t0 : Int32) (h : pH) : pR := run pMs none 156 110 [some (.ref k0), some (.int x1), none, some (.int x3), some (.int x4), some (.int x5), none, some (.int x7), some (.int x8)] [.int t0] h
noncomputable def f_Y_all_141 (k0 : Nat) (x1 : Int32) (x3 : Int32) (x5 : Int32) (x6 : Int32) (x7 : Int32) (x8 : Int32) (t0 : Int32) (h : pH) : pR := run pMs none 156 141 [some (.ref k0), some (.int x1), none, some (.int x3), none, some (.int x5), some (.int x6), some (.int x7), some (.int x8)] [.int t0] h
set_option maxRecDepth 100000 in
theorem e_Y_all (k0 : Nat) (x1 : Int32) (h : pH) : f_Y_all k0 x1 h =
    cI (f_Y_in x1 (0 : Int32) (4 : Int32) h) fun x_2 h_1 =>
    if x_2 = 0 then
    (rI (-1 : Int32) h_1)
    else
    (if kO h_1 8 k0 = true then (cI (f_Y_rankNow k0 h_1) fun x_4 h_3 =>
      if kO h_3 8 k0 = true then (cV (f_Y_solves k0 h_3) fun h_5 =>
      if x1 = (4 : Int32) then
      (if kO h_5 8 k0 = true then (cI (f_Y_reached k0 x_4 h_5) fun x_7 h_6 =>
        rI x_7 h_6) else none)
      else
      ((f_Y_all_45 k0 x1 (0 : Int32) (-1 : Int32) (0 : Int32) (0 : Int32) (0 : Int32) h_5))) else none) else none) := (exq_run (M := M_156) rfl 24 _ _ _ _).symm.trans rfl
set_option maxRecDepth 100000 in
theorem e_Y_all_45 (k0 : Nat) (x1 : Int32) (x3 : Int32) (x4 : Int32) (x5 : Int32) (x6 : Int32) (x7 : Int32) (h : pH) : f_Y_all_45 k0 x1 x3 x4 x5 x6 x7 h =
    if kO h 8 k0 = true then (cI (f_Y_words k0 h) fun x_2 h_1 =>
    if x_2 ≤ x7 then
    (if x1 = 0 then
      (rI x3 h_1)
      else
      (if x1 = (1 : Int32) then
        (rI x4 h_1)
        else
        (if x1 = (2 : Int32) then
          (rI x5 h_1)
          else
          (rI x6 h_1))))
    else
    (oo none (hR h_1 8 k0 16) fun k_3 =>
      oo none (hA h_1 k_3 x7) fun x_4 =>
      if (1000000 : Int32) ≤ x_4 then
      (if (0 : Int32) = 0 then
        ((f_Y_all_84 k0 x1 x4 x5 x6 x7 (0 : Int32) x3 (0 : Int32) h_1))
        else
        ((f_Y_all_84 k0 x1 x4 x5 x6 x7 (0 : Int32) x3 (1 : Int32) h_1)))
      else
      (if (1 : Int32) = 0 then
        ((f_Y_all_84 k0 x1 x4 x5 x6 x7 (1 : Int32) x3 (0 : Int32) h_1))
        else
        ((f_Y_all_84 k0 x1 x4 x5 x6 x7 (1 : Int32) x3 (1 : Int32) h_1))))) else none := (exq_run (M := M_156) rfl 19 _ _ _ _).symm.trans rfl
theorem e_Y_all_84 (k0 : Nat) (x1 : Int32) (x4 : Int32) (x5 : Int32) (x6 : Int32) (x7 : Int32) (x8 : Int32) (t0 : Int32) (t1 : Int32) (h : pH) : f_Y_all_84 k0 x1 x4 x5 x6 x7 x8 t0 t1 h =
    if x8 = 0 then
    ((f_Y_all_110 k0 x1 (t0 + t1) x4 x5 x7 x8 x6 h))
    else
    (oo none (hR h 8 k0 16) fun k_1 =>
      oo none (hA h k_1 x7) fun x_2 =>
      if x_2 ≤ x4 then
      ((f_Y_all_110 k0 x1 (t0 + t1) x4 x5 x7 x8 x6 h))
      else
      ((f_Y_all_110 k0 x1 (t0 + t1) x4 x5 x7 x8 x7 h))) := (exq_run (M := M_156) rfl 13 _ _ _ _).symm.trans rfl
set_option maxRecDepth 100000 in
theorem e_Y_all_110 (k0 : Nat) (x1 : Int32) (x3 : Int32) (x4 : Int32) (x5 : Int32) (x7 : Int32) (x8 : Int32) (t0 : Int32) (h : pH) : f_Y_all_110 k0 x1 x3 x4 x5 x7 x8 t0 h =
    if x8 = 0 then
    ((f_Y_all_141 k0 x1 x3 x5 t0 x7 x8 x4 h))
    else
    (oo none (hR h 8 k0 16) fun k_1 =>
      oo none (hA h k_1 x7) fun x_2 =>
      if x_2 ≤ x4 then
      ((f_Y_all_141 k0 x1 x3 x5 t0 x7 x8 x4 h))
      else
      (oo none (hR h 8 k0 16) fun k_3 =>
        oo none (hA h k_3 x7) fun x_4 =>
        (f_Y_all_141 k0 x1 x3 x5 t0 x7 x8 x_4 h))) := (exq_run (M := M_156) rfl 15 _ _ _ _).symm.trans rfl
set_option maxRecDepth 100000 in
theorem e_Y_all_141 (k0 : Nat) (x1 : Int32) (x3 : Int32) (x5 : Int32) (x6 : Int32) (x7 : Int32) (x8 : Int32) (t0 : Int32) (h : pH) : f_Y_all_141 k0 x1 x3 x5 x6 x7 x8 t0 h =
    if x8 = 0 then
    ((f_Y_all_45 k0 x1 x3 t0 x5 x6 (x7 + 1) h))
    else
    (oo none (hR h 8 k0 17) fun k_1 =>
      oo none (hA h k_1 x7) fun x_2 =>
      if x_2 ≤ x5 then
      ((f_Y_all_45 k0 x1 x3 t0 x5 x6 (x7 + 1) h))
      else
      (oo none (hR h 8 k0 17) fun k_3 =>
        oo none (hA h k_3 x7) fun x_4 =>
        (f_Y_all_45 k0 x1 x3 t0 x_4 x6 (x7 + 1) h))) := (exq_run (M := M_156) rfl 18 _ _ _ _).symm.trans rfl
noncomputable def f_Y_mean (k0 : Nat) (h : pH) : pR := run pMs none 159 0 [some (.ref k0)] [] h
noncomputable def f_Y_mean_14 (k0 : Nat) (x1 : Int32) (x2 : Int32) (x3 : Int32) (h : pH) : pR := run pMs none 159 14 [some (.ref k0), some (.int x1), some (.int x2), some (.int x3)] [] h
noncomputable def f_Y_mean_39 (k0 : Nat) (x2 : Int32) (x3 : Int32) (t0 : Int32) (t1 : Int32) (h : pH) : pR := run pMs none 159 39 [some (.ref k0), none, some (.int x2), some (.int x3)] [.int t1, .int t0] h
theorem e_Y_mean (k0 : Nat) (h : pH) : f_Y_mean k0 h =
    if kO h 8 k0 = true then (cV (f_Y_looks k0 h) fun h_1 =>
    if kO h_1 8 k0 = true then (cV (f_Y_solves k0 h_1) fun h_2 =>
    (f_Y_mean_14 k0 (0 : Int32) (0 : Int32) (0 : Int32) h_2)) else none) else none := (exq_run (M := M_159) rfl 11 _ _ _ _).symm.trans rfl
set_option maxRecDepth 100000 in
theorem e_Y_mean_14 (k0 : Nat) (x1 : Int32) (x2 : Int32) (x3 : Int32) (h : pH) : f_Y_mean_14 k0 x1 x2 x3 h =
    if kO h 8 k0 = true then (cI (f_Y_words k0 h) fun x_2 h_1 =>
    if x_2 ≤ x3 then
    (if (FP.dmul (FP.i2d x2) FP.dconst1) &&& 0x7fffffffffffffff ≤ 0x7ff0000000000000 then
      (if (FP.ddiv (FP.dmul (FP.i2d x2) FP.dconst1) (FP.i2d x1)) &&& 0x7fffffffffffffff ≤ 0x7ff0000000000000 then
      (rD (FP.ddiv (FP.dmul (FP.i2d x2) FP.dconst1) (FP.i2d x1)) h_1)
      else none)
      else none)
    else
    (oo none (hR h_1 8 k0 16) fun k_3 =>
      oo none (hA h_1 k_3 x3) fun x_4 =>
      if (1000000 : Int32) ≤ x_4 then
      ((f_Y_mean_39 k0 x2 x3 x1 (0 : Int32) h_1))
      else
      ((f_Y_mean_39 k0 x2 x3 x1 (1 : Int32) h_1)))) else none := (exq_run (M := M_159) rfl 14 _ _ _ _).symm.trans rfl
set_option maxRecDepth 100000 in
theorem e_Y_mean_39 (k0 : Nat) (x2 : Int32) (x3 : Int32) (t0 : Int32) (t1 : Int32) (h : pH) : f_Y_mean_39 k0 x2 x3 t0 t1 h =
    oo none (hR h 8 k0 16) fun k_1 =>
    oo none (hA h k_1 x3) fun x_2 =>
    if (1000000 : Int32) ≤ x_2 then
    ((f_Y_mean_14 k0 (t0 + t1) (x2 + (0 : Int32)) (x3 + 1) h))
    else
    (oo none (hR h 8 k0 16) fun k_3 =>
      oo none (hA h k_3 x3) fun x_4 =>
      (f_Y_mean_14 k0 (t0 + t1) (x2 + x_4) (x3 + 1) h)) := (exq_run (M := M_159) rfl 19 _ _ _ _).symm.trans rfl
noncomputable def f_Y_rounds (k0 : Nat) (h : pH) : pR := run pMs none 164 0 [some (.ref k0)] [] h
noncomputable def f_Y_rounds_4 (k0 : Nat) (x1 : Int32) (x2 : Int32) (h : pH) : pR := run pMs none 164 4 [some (.ref k0), some (.int x1), some (.int x2)] [] h
theorem e_Y_rounds (k0 : Nat) (h : pH) : f_Y_rounds k0 h =
    (f_Y_rounds_4 k0 (0 : Int32) (0 : Int32) h) := (exq_run (M := M_164) rfl 5 _ _ _ _).symm.trans rfl
set_option maxRecDepth 100000 in
theorem e_Y_rounds_4 (k0 : Nat) (x1 : Int32) (x2 : Int32) (h : pH) : f_Y_rounds_4 k0 x1 x2 h =
    oo none (hI h 8 k0 6) fun x_1 =>
    if (2 : Int32) = 0 then none else
    if (x_1 / (2 : Int32)) ≤ x2 then
    (rI x1 h)
    else
    (if kO h 8 k0 = true then (cI (f_Y_moveAt k0 x2 h) fun x_3 h_2 =>
      if kO h_2 8 k0 = true then (cI (f_Y_whyNotOf k0 x_3 h_2) fun x_5 h_4 =>
      if x_5 = 0 then
      (if kO h_4 8 k0 = true then (cI (f_Y_moveAt k0 x2 h_4) fun x_7 h_6 =>
        if kO h_6 8 k0 = true then (cV (f_Y_makes k0 x_7 h_6) fun h_8 =>
        if kO h_8 8 k0 = true then (cV (f_Y_goesOn k0 h_8) fun h_9 =>
        oo none (hI h_9 8 k0 13) fun x_10 =>
        (f_Y_rounds_4 k0 (x1 + x_10) (x2 + 1) h_9)) else none) else none) else none)
      else
      ((f_Y_rounds_4 k0 x1 (x2 + 1) h_4))) else none) else none) := (exq_run (M := M_164) rfl 27 _ _ _ _).symm.trans rfl
noncomputable def f_Y_rankOfWord (k0 : Nat) (h : pH) : pR := run pMs none 165 0 [some (.ref k0)] [] h
noncomputable def f_Y_rankOfWord_2 (k0 : Nat) (x1 : Int32) (h : pH) : pR := run pMs none 165 2 [some (.ref k0), some (.int x1)] [] h
theorem e_Y_rankOfWord (k0 : Nat) (h : pH) : f_Y_rankOfWord k0 h =
    (f_Y_rankOfWord_2 k0 (0 : Int32) h) := (exq_run (M := M_165) rfl 3 _ _ _ _).symm.trans rfl
set_option maxRecDepth 100000 in
theorem e_Y_rankOfWord_2 (k0 : Nat) (x1 : Int32) (h : pH) : f_Y_rankOfWord_2 k0 x1 h =
    if (7 : Int32) ≤ x1 then
    (if kO h 8 k0 = true then (cI (f_Y_rankOfThen k0 h) fun x_2 h_1 =>
      rI x_2 h_1) else none)
    else
    (oo none (hR h 8 k0 12) fun k_3 =>
      oo none (hR h 8 k0 11) fun k_4 =>
      oo none (hA h k_4 x1) fun x_5 =>
      if bA h k_3 x1 = true then
      ((f_Y_rankOfWord_2 k0 (x1 + 1) (sI h k_3 (Int32.toNatClampNeg x1) x_5)))
      else none) := (exq_run (M := M_165) rfl 14 _ _ _ _).symm.trans rfl
noncomputable def f_Y_round (k0 : Nat) (x1 : Int32) (h : pH) : pR := run pMs none 166 0 [some (.ref k0), some (.int x1)] [] h
noncomputable def f_Y_round_30 (k0 : Nat) (x1 : Int32) (x2 : Int32) (x3 : Int32) (h : pH) : pR := run pMs none 166 30 [some (.ref k0), some (.int x1), some (.int x2), some (.int x3)] [] h
noncomputable def f_Y_round_57 (k0 : Nat) (x1 : Int32) (x2 : Int32) (x3 : Int32) (x4 : Int32) (h : pH) : pR := run pMs none 166 57 [some (.ref k0), some (.int x1), some (.int x2), some (.int x3), some (.int x4)] [] h
noncomputable def f_Y_round_93 (k0 : Nat) (x1 : Int32) (x3 : Int32) (t0 : Int32) (h : pH) : pR := run pMs none 166 93 [some (.ref k0), some (.int x1), none, some (.int x3)] [.int t0] h
noncomputable def f_Y_round_128 (k0 : Nat) (x1 : Int32) (x2 : Int32) (x4 : Int32) (x5 : Int32) (x6 : Int32) (x7 : Int32) (h : pH) : pR := run pMs none 166 128 [some (.ref k0), some (.int x1), some (.int x2), none, some (.int x4), some (.int x5), some (.int x6), some (.int x7)] [] h
set_option maxRecDepth 100000 in
theorem e_Y_round (k0 : Nat) (x1 : Int32) (h : pH) : f_Y_round k0 x1 h =
    cI (f_Y_in x1 (0 : Int32) (3 : Int32) h) fun x_2 h_1 =>
    if x_2 = 0 then
    (rI (-1 : Int32) h_1)
    else
    (if kO h_1 8 k0 = true then (cI (f_Y_faultOfProgram k0 h_1) fun x_4 h_3 =>
      if x_4 = (-4 : Int32) then
      (if kO h_3 8 k0 = true then (cI (f_Y_rankNow k0 h_3) fun x_6 h_5 =>
        (f_Y_round_30 k0 x1 x_6 (0 : Int32) h_5)) else none)
      else
      (rI (-2 : Int32) h_3)) else none) := (exq_run (M := M_166) rfl 15 _ _ _ _).symm.trans rfl
theorem e_Y_round_30 (k0 : Nat) (x1 : Int32) (x2 : Int32) (x3 : Int32) (h : pH) : f_Y_round_30 k0 x1 x2 x3 h =
    if kO h 8 k0 = true then (cI (f_Y_words k0 h) fun x_2 h_1 =>
    if x_2 ≤ x3 then
    ((f_Y_round_57 k0 x1 x2 (0 : Int32) (1000000 : Int32) h_1))
    else
    (oo none (hR h_1 8 k0 18) fun k_3 =>
      if bA h_1 k_3 x3 = true then
      ((f_Y_round_30 k0 x1 x2 (x3 + 1) (sI h_1 k_3 (Int32.toNatClampNeg x3) (-1 : Int32))))
      else none)) else none := (exq_run (M := M_166) rfl 12 _ _ _ _).symm.trans rfl
set_option maxRecDepth 100000 in
theorem e_Y_round_57 (k0 : Nat) (x1 : Int32) (x2 : Int32) (x3 : Int32) (x4 : Int32) (h : pH) : f_Y_round_57 k0 x1 x2 x3 x4 h =
    oo none (hR h 8 k0 18) fun k_1 =>
    oo none (hA h k_1 x2) fun x_2 =>
    if 0 ≤ x_2 then
    (oo none (hR h 8 k0 18) fun k_3 =>
      oo none (hA h k_3 x2) fun x_4 =>
      (f_Y_round_128 k0 x1 x2 x4 (x3 - x_4) (0 : Int32) (0 : Int32) h))
    else
    (oo none (hR h 8 k0 18) fun k_5 =>
      if bA h k_5 x2 = true then
      (if kO (sI h k_5 (Int32.toNatClampNeg x2) x3) 8 k0 = true then (cI (f_Y_disorderOfWord k0 (sI h k_5 (Int32.toNatClampNeg x2) x3)) fun x_7 h_6 =>
      if x4 ≤ x_7 then
      ((f_Y_round_93 k0 x1 x3 x4 h_6))
      else
      ((f_Y_round_93 k0 x1 x3 x_7 h_6))) else none)
      else none) := (exq_run (M := M_166) rfl 19 _ _ _ _).symm.trans rfl
theorem e_Y_round_93 (k0 : Nat) (x1 : Int32) (x3 : Int32) (t0 : Int32) (h : pH) : f_Y_round_93 k0 x1 x3 t0 h =
    if kO h 8 k0 = true then (cI (f_Y_rounds k0 h) fun x_2 h_1 =>
    if kO h_1 8 k0 = true then (cI (f_Y_rankOfWord k0 h_1) fun x_4 h_3 =>
    (f_Y_round_57 k0 x1 x_4 (x3 + 1) t0 h_3)) else none) else none := (exq_run (M := M_166) rfl 10 _ _ _ _).symm.trans rfl
set_option maxRecDepth 100000 in
theorem e_Y_round_128 (k0 : Nat) (x1 : Int32) (x2 : Int32) (x4 : Int32) (x5 : Int32) (x6 : Int32) (x7 : Int32) (h : pH) : f_Y_round_128 k0 x1 x2 x4 x5 x6 x7 h =
    if x5 ≤ x7 then
    (if x1 = 0 then
      (oo none (hR h 8 k0 18) fun k_1 =>
        oo none (hA h k_1 x2) fun x_2 =>
        rI x_2 h)
      else
      (if x1 = (1 : Int32) then
        (rI x5 h)
        else
        (if x1 = (2 : Int32) then
          (rI x6 h)
          else
          (rI x4 h))))
    else
    (if kO h 8 k0 = true then (cI (f_Y_rounds k0 h) fun x_4 h_3 =>
      (f_Y_round_128 k0 x1 x2 x4 x5 (x6 + x_4) (x7 + 1) h_3)) else none) := (exq_run (M := M_166) rfl 15 _ _ _ _).symm.trans rfl
noncomputable def f_Y_loosen (k0 : Nat) (h : pH) : pR := run pMs none 169 0 [some (.ref k0)] [] h
noncomputable def f_Y_loosen_7 (k0 : Nat) (x1 : Int32) (x2 : Int32) (x3 : Int32) (h : pH) : pR := run pMs none 169 7 [some (.ref k0), some (.int x1), some (.int x2), some (.int x3)] [] h
noncomputable def f_Y_loosen_76 (k0 : Nat) (x1 : Int32) (x2 : Int32) (x3 : Int32) (x4 : Int32) (h : pH) : pR := run pMs none 169 76 [some (.ref k0), some (.int x1), some (.int x2), some (.int x3), some (.int x4)] [] h
noncomputable def f_Y_loosen_93 (k0 : Nat) (x2 : Int32) (x3 : Int32) (x4 : Int32) (x5 : Int32) (t0 : Int32) (h : pH) : pR := run pMs none 169 93 [some (.ref k0), none, some (.int x2), some (.int x3), some (.int x4), some (.int x5)] [.int t0] h
theorem e_Y_loosen (k0 : Nat) (h : pH) : f_Y_loosen k0 h =
    (f_Y_loosen_7 k0 (-4 : Int32) (0 : Int32) (0 : Int32) h) := (exq_run (M := M_169) rfl 7 _ _ _ _).symm.trans rfl
set_option maxRecDepth 100000 in
theorem e_Y_loosen_7 (k0 : Nat) (x1 : Int32) (x2 : Int32) (x3 : Int32) (h : pH) : f_Y_loosen_7 k0 x1 x2 x3 h =
    if (7 : Int32) ≤ x3 then
    (rI x1 h)
    else
    (if kO h 8 k0 = true then (cI (f_Y_rankNow k0 h) fun x_2 h_1 =>
      oo none (hR h_1 8 k0 11) fun k_3 =>
      oo none (hA h_1 k_3 x3) fun x_4 =>
      if x_4 ≤ 0 then
      ((f_Y_loosen_7 k0 x1 x2 (x3 + 1) h_1))
      else
      (oo none (hR h_1 8 k0 0) fun k_5 =>
        oo none (hA h_1 k_5 ((14 : Int32) + x3)) fun x_6 =>
        if x_6 = (1 : Int32) then
        (oo none (hR h_1 8 k0 9) fun k_7 =>
          oo none (hR h_1 8 k0 11) fun k_8 =>
          oo none (hA h_1 k_8 x3) fun x_9 =>
          if bA h_1 k_7 (x_9 - (1 : Int32)) = true then
          (if kO (sI h_1 k_7 (Int32.toNatClampNeg (x_9 - (1 : Int32))) (0 : Int32)) 8 k0 = true then (cV (f_Y_solves k0 (sI h_1 k_7 (Int32.toNatClampNeg (x_9 - (1 : Int32))) (0 : Int32))) fun h_10 =>
          if x1 = (-4 : Int32) then
          ((f_Y_loosen_76 k0 x1 x2 x3 x_2 h_10))
          else
          (oo none (hR h_10 8 k0 16) fun k_11 =>
            oo none (hA h_10 k_11 x_2) fun x_12 =>
            if x2 ≤ x_12 then
            (if (0 : Int32) = 0 then
              ((f_Y_loosen_93 k0 x2 x3 x_2 (0 : Int32) x1 h_10))
              else
              ((f_Y_loosen_93 k0 x2 x3 x_2 (0 : Int32) x3 h_10)))
            else
            ((f_Y_loosen_76 k0 x1 x2 x3 x_2 h_10)))) else none)
          else none)
        else
        ((f_Y_loosen_7 k0 x1 x2 (x3 + 1) h_1)))) else none) := (exq_run (M := M_169) rfl 47 _ _ _ _).symm.trans rfl
theorem e_Y_loosen_76 (k0 : Nat) (x1 : Int32) (x2 : Int32) (x3 : Int32) (x4 : Int32) (h : pH) : f_Y_loosen_76 k0 x1 x2 x3 x4 h =
    if (1 : Int32) = 0 then
    ((f_Y_loosen_93 k0 x2 x3 x4 (1 : Int32) x1 h))
    else
    ((f_Y_loosen_93 k0 x2 x3 x4 (1 : Int32) x3 h)) := (exq_run (M := M_169) rfl 8 _ _ _ _).symm.trans rfl
theorem e_Y_loosen_93 (k0 : Nat) (x2 : Int32) (x3 : Int32) (x4 : Int32) (x5 : Int32) (t0 : Int32) (h : pH) : f_Y_loosen_93 k0 x2 x3 x4 x5 t0 h =
    if x5 = 0 then
    ((f_Y_loosen_7 k0 t0 x2 (x3 + 1) h))
    else
    (oo none (hR h 8 k0 16) fun k_1 =>
      oo none (hA h k_1 x4) fun x_2 =>
      (f_Y_loosen_7 k0 t0 x_2 (x3 + 1) h)) := (exq_run (M := M_169) rfl 12 _ _ _ _).symm.trans rfl
noncomputable def f_Y_undo (k0 : Nat) (h : pH) : pR := run pMs none 172 0 [some (.ref k0)] [] h
noncomputable def f_Y_undo_22 (k0 : Nat) (x1 : Int32) (h : pH) : pR := run pMs none 172 22 [some (.ref k0), some (.int x1)] [] h
theorem e_Y_undo (k0 : Nat) (h : pH) : f_Y_undo k0 h =
    oo none (hI h 8 k0 2) fun x_1 =>
    if x_1 = 0 then
    (rI (-2 : Int32) h)
    else
    (oo none (hI h 8 k0 2) fun x_2 =>
      if kO h 8 k0 = true then
      ((f_Y_undo_22 k0 (0 : Int32) (sI h k0 2 (x_2 - (1 : Int32)))))
      else none) := (exq_run (M := M_172) rfl 12 _ _ _ _).symm.trans rfl
set_option maxRecDepth 100000 in
theorem e_Y_undo_22 (k0 : Nat) (x1 : Int32) (h : pH) : f_Y_undo_22 k0 x1 h =
    if (26 : Int32) ≤ x1 then
    (oo none (hI h 8 k0 2) fun x_1 =>
      rI x_1 h)
    else
    (oo none (hR h 8 k0 0) fun k_2 =>
      oo none (hR h 8 k0 1) fun k_3 =>
      oo none (hI h 8 k0 2) fun x_4 =>
      oo none (hA h k_3 (((26 : Int32) * x_4) + x1)) fun x_5 =>
      if bA h k_2 x1 = true then
      ((f_Y_undo_22 k0 (x1 + 1) (sI h k_2 (Int32.toNatClampNeg x1) x_5)))
      else none) := (exq_run (M := M_172) rfl 19 _ _ _ _).symm.trans rfl
noncomputable def f_Y_save (k0 : Nat) (h : pH) : pR := run pMs none 174 0 [some (.ref k0)] [] h
noncomputable def f_Y_save_2 (k0 : Nat) (x1 : Int32) (h : pH) : pR := run pMs none 174 2 [some (.ref k0), some (.int x1)] [] h
theorem e_Y_save (k0 : Nat) (h : pH) : f_Y_save k0 h =
    (f_Y_save_2 k0 (0 : Int32) h) := (exq_run (M := M_174) rfl 3 _ _ _ _).symm.trans rfl
set_option maxRecDepth 100000 in
theorem e_Y_save_2 (k0 : Nat) (x1 : Int32) (h : pH) : f_Y_save_2 k0 x1 h =
    if (26 : Int32) ≤ x1 then
    (if kO h 8 k0 = true ∧ ((1 : Int32) = 0 ∨ (1 : Int32) = 1) then
      (if kO (sI h k0 4 (1 : Int32)) 8 k0 = true then (cI (f_Y_rankNow k0 (sI h k0 4 (1 : Int32))) fun x_2 h_1 =>
      rI x_2 h_1) else none)
      else none)
    else
    (oo none (hR h 8 k0 3) fun k_3 =>
      oo none (hR h 8 k0 0) fun k_4 =>
      oo none (hA h k_4 x1) fun x_5 =>
      if bA h k_3 x1 = true then
      ((f_Y_save_2 k0 (x1 + 1) (sI h k_3 (Int32.toNatClampNeg x1) x_5)))
      else none) := (exq_run (M := M_174) rfl 14 _ _ _ _).symm.trans rfl
noncomputable def f_Y_restore (k0 : Nat) (h : pH) : pR := run pMs none 176 0 [some (.ref k0)] [] h
noncomputable def f_Y_restore_16 (k0 : Nat) (x1 : Int32) (h : pH) : pR := run pMs none 176 16 [some (.ref k0), some (.int x1)] [] h
theorem e_Y_restore (k0 : Nat) (h : pH) : f_Y_restore k0 h =
    oo none (hI h 8 k0 4) fun x_1 =>
    if x_1 = 0 then
    (rI (-2 : Int32) h)
    else
    (if kO h 8 k0 = true then (cV (f_Y_remembers k0 h) fun h_2 =>
      (f_Y_restore_16 k0 (0 : Int32) h_2)) else none) := (exq_run (M := M_176) rfl 8 _ _ _ _).symm.trans rfl
set_option maxRecDepth 100000 in
theorem e_Y_restore_16 (k0 : Nat) (x1 : Int32) (h : pH) : f_Y_restore_16 k0 x1 h =
    if (26 : Int32) ≤ x1 then
    (if kO h 8 k0 = true then (cI (f_Y_rankNow k0 h) fun x_2 h_1 =>
      rI x_2 h_1) else none)
    else
    (oo none (hR h 8 k0 0) fun k_3 =>
      oo none (hR h 8 k0 3) fun k_4 =>
      oo none (hA h k_4 x1) fun x_5 =>
      if bA h k_3 x1 = true then
      ((f_Y_restore_16 k0 (x1 + 1) (sI h k_3 (Int32.toNatClampNeg x1) x_5)))
      else none) := (exq_run (M := M_176) rfl 14 _ _ _ _).symm.trans rfl
