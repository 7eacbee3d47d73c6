noncomputable def f_B_sumOfWeights (k0 : Nat) (h : pH) : pR := run pMs none 10 0 [some (.ref k0)] [] h
noncomputable def f_B_sumOfWeights_4 (k0 : Nat) (x1 : Int32) (x2 : Int32) (h : pH) : pR := run pMs none 10 4 [some (.ref k0), some (.int x1), some (.int x2)] [] h
theorem e_B_sumOfWeights (k0 : Nat) (h : pH) : f_B_sumOfWeights k0 h =
    (f_B_sumOfWeights_4 k0 (0 : Int32) (1 : Int32) h) := (exq_run (M := M_10) rfl 5 _ _ _ _).symm.trans rfl
set_option maxRecDepth 100000 in
theorem e_B_sumOfWeights_4 (k0 : Nat) (x1 : Int32) (x2 : Int32) (h : pH) : f_B_sumOfWeights_4 k0 x1 x2 h =
    oo none (hI h 6 k0 1) fun x_1 =>
    if x_1 < x2 then
    (rI x1 h)
    else
    (oo none (hR h 6 k0 3) fun k_2 =>
      if kO h 4 k_2 = true then (cI (f_R_get k_2 x2 h) fun x_4 h_3 =>
      (f_B_sumOfWeights_4 k0 (x1 + x_4) (x2 + 1) h_3)) else none) := (exq_run (M := M_10) rfl 14 _ _ _ _).symm.trans rfl
noncomputable def f_B_rankOfNow (k0 : Nat) (h : pH) : pR := run pMs none 18 0 [some (.ref k0)] [] h
theorem e_B_rankOfNow (k0 : Nat) (h : pH) : f_B_rankOfNow k0 h =
    oo none (hI h 6 k0 0) fun x_1 =>
    oo none (hI h 6 k0 1) fun x_2 =>
    cI (f_K_rankOf x_1 x_2 h) fun x_4 h_3 =>
    rI x_4 h_3 := (exq_run (M := M_18) rfl 7 _ _ _ _).symm.trans rfl
noncomputable def f_B_possibleMoves (k0 : Nat) (h : pH) : pR := run pMs none 26 0 [some (.ref k0)] [] h
noncomputable def f_B_possibleMoves_4 (k0 : Nat) (x1 : Int32) (x2 : Int32) (h : pH) : pR := run pMs none 26 4 [some (.ref k0), some (.int x1), some (.int x2)] [] h
theorem e_B_possibleMoves (k0 : Nat) (h : pH) : f_B_possibleMoves k0 h =
    (f_B_possibleMoves_4 k0 (0 : Int32) (0 : Int32) h) := (exq_run (M := M_26) rfl 5 _ _ _ _).symm.trans rfl
set_option maxRecDepth 100000 in
theorem e_B_possibleMoves_4 (k0 : Nat) (x1 : Int32) (x2 : Int32) (h : pH) : f_B_possibleMoves_4 k0 x1 x2 h =
    if (19 : Int32) ≤ x2 then
    (rI x1 h)
    else
    (oo none (hI h 6 k0 0) fun x_1 =>
      oo none (hI h 6 k0 4) fun x_2 =>
      cI (f_N_reason x_1 x_2 x2 h) fun x_4 h_3 =>
      if x_4 = 0 then
      ((f_B_possibleMoves_4 k0 (x1 + 1) (x2 + 1) h_3))
      else
      ((f_B_possibleMoves_4 k0 x1 (x2 + 1) h_3))) := (exq_run (M := M_26) rfl 14 _ _ _ _).symm.trans rfl
noncomputable def f_G_firstNode (x0 : Int32) (h : pH) : pR := run pMs none 30 0 [some (.int x0)] [] h
noncomputable def f_G_firstNode_4 (x0 : Int32) (x1 : Int32) (x2 : Int32) (h : pH) : pR := run pMs none 30 4 [some (.int x0), some (.int x1), some (.int x2)] [] h
theorem e_G_firstNode (x0 : Int32) (h : pH) : f_G_firstNode x0 h =
    (f_G_firstNode_4 x0 (0 : Int32) (0 : Int32) h) := (exq_run (M := M_30) rfl 5 _ _ _ _).symm.trans rfl
theorem e_G_firstNode_4 (x0 : Int32) (x1 : Int32) (x2 : Int32) (h : pH) : f_G_firstNode_4 x0 x1 x2 h =
    if x0 ≤ x2 then
    (rI x1 h)
    else
    (cI (f_K_wordsOf x2 h) fun x_2 h_1 =>
      (f_G_firstNode_4 x0 (x1 + x_2) (x2 + 1) h_1)) := (exq_run (M := M_30) rfl 11 _ _ _ _).symm.trans rfl
noncomputable def f_G_drawOnward (k0 : Nat) (x1 : Int32) (x2 : Int32) (x3 : Int32) (h : pH) : pR := run pMs none 37 0 [some (.ref k0), some (.int x1), some (.int x2), some (.int x3)] [] h
noncomputable def f_G_drawOnward_3 (k0 : Nat) (x1 : Int32) (x2 : Int32) (x3 : Int32) (x4 : Int32) (h : pH) : pR := run pMs none 37 3 [some (.ref k0), some (.int x1), some (.int x2), some (.int x3), some (.int x4)] [] h
noncomputable def f_G_drawOnward_33 (k0 : Nat) (x1 : Int32) (x2 : Int32) (x3 : Int32) (x4 : Int32) (x5 : Int32) (x6 : Int32) (h : pH) : pR := run pMs none 37 33 [some (.ref k0), some (.int x1), some (.int x2), some (.int x3), some (.int x4), some (.int x5), some (.int x6)] [] h
noncomputable def f_G_drawOnward_89 (k0 : Nat) (x1 : Int32) (x2 : Int32) (x3 : Int32) (x4 : Int32) (x5 : Int32) (x6 : Int32) (x7 : Int32) (h : pH) : pR := run pMs none 37 89 [some (.ref k0), some (.int x1), some (.int x2), some (.int x3), some (.int x4), some (.int x5), some (.int x6), some (.int x7)] [] h
theorem e_G_drawOnward (k0 : Nat) (x1 : Int32) (x2 : Int32) (x3 : Int32) (h : pH) : f_G_drawOnward k0 x1 x2 x3 h =
    (f_G_drawOnward_3 k0 x1 x2 x3 x2 h) := (exq_run (M := M_37) rfl 3 _ _ _ _).symm.trans rfl
set_option maxRecDepth 100000 in
theorem e_G_drawOnward_3 (k0 : Nat) (x1 : Int32) (x2 : Int32) (x3 : Int32) (x4 : Int32) (h : pH) : f_G_drawOnward_3 k0 x1 x2 x3 x4 h =
    if x3 ≤ x4 then
    (rV h)
    else
    (cI (f_K_wordAt (x4 - x2) x1 h) fun x_2 h_1 =>
      oo none (hR h_1 0 k0 0) fun k_3 =>
      if kO h_1 4 k_3 = true then (cV (f_R_put k_3 x4 x_2 h_1) fun h_4 =>
      (f_G_drawOnward_33 k0 x1 x2 x3 x4 x_2 (0 : Int32) h_4)) else none) := (exq_run (M := M_37) rfl 17 _ _ _ _).symm.trans rfl
set_option maxRecDepth 100000 in
theorem e_G_drawOnward_33 (k0 : Nat) (x1 : Int32) (x2 : Int32) (x3 : Int32) (x4 : Int32) (x5 : Int32) (x6 : Int32) (h : pH) : f_G_drawOnward_33 k0 x1 x2 x3 x4 x5 x6 h =
    if (19 : Int32) ≤ x6 then
    ((f_G_drawOnward_3 k0 x1 x2 x3 (x4 + 1) h))
    else
    (cI (f_N_reason x5 (0 : Int32) x6 h) fun x_2 h_1 =>
      if x_2 = 0 then
      (cI (f_N_after x5 x6 h_1) fun x_4 h_3 =>
        cI (f_K_rankOf x_4 x1 h_3) fun x_6 h_5 =>
        oo none (hR h_5 0 k0 4) fun k_7 =>
        oo none (hR h_5 0 k0 4) fun k_8 =>
        if kO h_5 4 k_8 = true then (cI (f_R_get k_8 (x2 + x_6) h_5) fun x_10 h_9 =>
        if kO h_9 4 k_7 = true then (cV (f_R_put k_7 (x2 + x_6) (x_10 + (1 : Int32)) h_9) fun h_11 =>
        (f_G_drawOnward_89 k0 x1 x2 x3 x4 x5 x6 (x2 + x_6) h_11)) else none) else none)
      else
      ((f_G_drawOnward_89 k0 x1 x2 x3 x4 x5 x6 (-1 : Int32) h_1))) := (exq_run (M := M_37) rfl 29 _ _ _ _).symm.trans rfl
theorem e_G_drawOnward_89 (k0 : Nat) (x1 : Int32) (x2 : Int32) (x3 : Int32) (x4 : Int32) (x5 : Int32) (x6 : Int32) (x7 : Int32) (h : pH) : f_G_drawOnward_89 k0 x1 x2 x3 x4 x5 x6 x7 h =
    oo none (hR h 0 k0 1) fun k_1 =>
    if kO h 4 k_1 = true then (cV (f_R_put k_1 ((x4 * (19 : Int32)) + x6) x7 h) fun h_2 =>
    (f_G_drawOnward_33 k0 x1 x2 x3 x4 x5 (x6 + 1) h_2)) else none := (exq_run (M := M_37) rfl 12 _ _ _ _).symm.trans rfl
noncomputable def f_G_shareOut (k0 : Nat) (x1 : Int32) (x2 : Int32) (h : pH) : pR := run pMs none 38 0 [some (.ref k0), some (.int x1), some (.int x2)] [] h
noncomputable def f_G_shareOut_8 (k0 : Nat) (x2 : Int32) (x3 : Int32) (x4 : Int32) (h : pH) : pR := run pMs none 38 8 [some (.ref k0), none, some (.int x2), some (.int x3), some (.int x4)] [] h
theorem e_G_shareOut (k0 : Nat) (x1 : Int32) (x2 : Int32) (h : pH) : f_G_shareOut k0 x1 x2 h =
    (f_G_shareOut_8 k0 x2 (x1 * (19 : Int32)) x1 h) := (exq_run (M := M_38) rfl 7 _ _ _ _).symm.trans rfl
set_option maxRecDepth 100000 in
theorem e_G_shareOut_8 (k0 : Nat) (x2 : Int32) (x3 : Int32) (x4 : Int32) (h : pH) : f_G_shareOut_8 k0 x2 x3 x4 h =
    if x2 ≤ x4 then
    (rV h)
    else
    (oo none (hR h 0 k0 4) fun k_1 =>
      if kO h 4 k_1 = true then (cI (f_R_get k_1 x4 h) fun x_3 h_2 =>
      oo none (hR h_2 0 k0 3) fun k_4 =>
      if kO h_2 4 k_4 = true then (cV (f_R_put k_4 x4 x3 h_2) fun h_5 =>
      oo none (hR h_5 0 k0 4) fun k_6 =>
      if kO h_5 4 k_6 = true then (cV (f_R_put k_6 x4 x3 h_5) fun h_7 =>
      (f_G_shareOut_8 k0 x2 (x3 + x_3) (x4 + 1) h_7)) else none) else none) else none) := (exq_run (M := M_38) rfl 25 _ _ _ _).symm.trans rfl
noncomputable def f_G_drawInto (k0 : Nat) (x1 : Int32) (x2 : Int32) (h : pH) : pR := run pMs none 39 0 [some (.ref k0), some (.int x1), some (.int x2)] [] h
noncomputable def f_G_drawInto_5 (k0 : Nat) (x2 : Int32) (x3 : Int32) (h : pH) : pR := run pMs none 39 5 [some (.ref k0), none, some (.int x2), some (.int x3)] [] h
theorem e_G_drawInto (k0 : Nat) (x1 : Int32) (x2 : Int32) (h : pH) : f_G_drawInto k0 x1 x2 h =
    (f_G_drawInto_5 k0 x2 (x1 * (19 : Int32)) h) := (exq_run (M := M_39) rfl 5 _ _ _ _).symm.trans rfl
set_option maxRecDepth 100000 in
theorem e_G_drawInto_5 (k0 : Nat) (x2 : Int32) (x3 : Int32) (h : pH) : f_G_drawInto_5 k0 x2 x3 h =
    if (x2 * (19 : Int32)) ≤ x3 then
    (rV h)
    else
    (oo none (hR h 0 k0 1) fun k_1 =>
      if kO h 4 k_1 = true then (cI (f_R_get k_1 x3 h) fun x_3 h_2 =>
      if x_3 = (-1 : Int32) then
      ((f_G_drawInto_5 k0 x2 (x3 + 1) h_2))
      else
      (oo none (hR h_2 0 k0 2) fun k_4 =>
        oo none (hR h_2 0 k0 4) fun k_5 =>
        if kO h_2 4 k_5 = true then (cI (f_R_get k_5 x_3 h_2) fun x_7 h_6 =>
        if kO h_6 4 k_4 = true then (cV (f_R_put k_4 x_7 x3 h_6) fun h_8 =>
        oo none (hR h_8 0 k0 4) fun k_9 =>
        oo none (hR h_8 0 k0 4) fun k_10 =>
        if kO h_8 4 k_10 = true then (cI (f_R_get k_10 x_3 h_8) fun x_12 h_11 =>
        if kO h_11 4 k_9 = true then (cV (f_R_put k_9 x_3 (x_12 + (1 : Int32)) h_11) fun h_13 =>
        (f_G_drawInto_5 k0 x2 (x3 + 1) h_13)) else none) else none) else none) else none)) else none) := (exq_run (M := M_39) rfl 34 _ _ _ _).symm.trans rfl
noncomputable def f_G_draw (k0 : Nat) (x1 : Int32) (h : pH) : pR := run pMs none 40 0 [some (.ref k0), some (.int x1)] [] h
set_option maxRecDepth 100000 in
theorem e_G_draw (k0 : Nat) (x1 : Int32) (h : pH) : f_G_draw k0 x1 h =
    oo none (hI h 0 k0 5) fun x_1 =>
    cI (f_N_isIn x_1 x1 h) fun x_3 h_2 =>
    if x_3 = 0 then
    (oo none (hI h_2 0 k0 5) fun x_4 =>
      if kO h_2 0 k0 = true then
      (cI (f_G_firstNode x1 (sI h_2 k0 5 (x_4 ||| ((1 : Int32) <<< (x1 &&& 31))))) fun x_6 h_5 =>
      cI (f_K_wordsOf x1 h_5) fun x_8 h_7 =>
      if kO h_7 0 k0 = true then (cV (f_G_drawOnward k0 x1 x_6 (x_6 + x_8) h_7) fun h_9 =>
      if kO h_9 0 k0 = true then (cV (f_G_shareOut k0 x_6 (x_6 + x_8) h_9) fun h_10 =>
      if kO h_10 0 k0 = true then (cV (f_G_drawInto k0 x_6 (x_6 + x_8) h_10) fun h_11 =>
      rV h_11) else none) else none) else none)
      else none)
    else
    (rV h_2) := (exq_run (M := M_40) rfl 36 _ _ _ _).symm.trans rfl
noncomputable def f_B_keyOfMoves (k0 : Nat) (h : pH) : pR := run pMs none 42 0 [some (.ref k0)] [] h
set_option maxRecDepth 100000 in
theorem e_B_keyOfMoves (k0 : Nat) (h : pH) : f_B_keyOfMoves k0 h =
    oo none (hI h 6 k0 4) fun x_1 =>
    oo none (hI h 6 k0 5) fun x_2 =>
    oo none (hI h 6 k0 6) fun x_3 =>
    oo none (hI h 6 k0 1) fun x_4 =>
    rI ((((((x_1 <<< ((1 : Int32) &&& 31)) ||| x_2) <<< ((1 : Int32) &&& 31)) ||| x_3) <<< ((3 : Int32) &&& 31)) ||| x_4) h := (exq_run (M := M_42) rfl 19 _ _ _ _).symm.trans rfl
noncomputable def f_G_isHeld (k0 : Nat) (x1 : Int32) (x2 : Int32) (x3 : Int32) (h : pH) : pR := run pMs none 44 0 [some (.ref k0), some (.int x1), some (.int x2), some (.int x3)] [] h
set_option maxRecDepth 100000 in
theorem e_G_isHeld (k0 : Nat) (x1 : Int32) (x2 : Int32) (x3 : Int32) (h : pH) : f_G_isHeld k0 x1 x2 x3 h =
    cI (f_N_isPull x2 h) fun x_2 h_1 =>
    if x_2 = 0 then
    (rI (0 : Int32) h_1)
    else
    (oo none (hR h_1 0 k0 0) fun k_3 =>
      if kO h_1 4 k_3 = true then (cI (f_R_get k_3 x1 h_1) fun x_5 h_4 =>
      cI (f_N_slotAt x_5 x2 h_4) fun x_7 h_6 =>
      cI (f_N_isIn x3 x_7 h_6) fun x_9 h_8 =>
      if x_9 = 0 then
      (rI (0 : Int32) h_8)
      else
      (rI (1 : Int32) h_8)) else none) := (exq_run (M := M_44) rfl 16 _ _ _ _).symm.trans rfl
noncomputable def f_B_keyOfCosts (k0 : Nat) (h : pH) : pR := run pMs none 47 0 [some (.ref k0)] [] h
noncomputable def f_B_keyOfCosts_4 (k0 : Nat) (x1 : Int32) (x2 : Int32) (h : pH) : pR := run pMs none 47 4 [some (.ref k0), some (.int x1), some (.int x2)] [] h
theorem e_B_keyOfCosts (k0 : Nat) (h : pH) : f_B_keyOfCosts k0 h =
    (f_B_keyOfCosts_4 k0 (0 : Int32) (1 : Int32) h) := (exq_run (M := M_47) rfl 5 _ _ _ _).symm.trans rfl
set_option maxRecDepth 100000 in
theorem e_B_keyOfCosts_4 (k0 : Nat) (x1 : Int32) (x2 : Int32) (h : pH) : f_B_keyOfCosts_4 k0 x1 x2 h =
    oo none (hI h 6 k0 1) fun x_1 =>
    if x_1 < x2 then
    (if kO h 6 k0 = true then (cI (f_B_keyOfMoves k0 h) fun x_3 h_2 =>
      rI ((x1 <<< ((11 : Int32) &&& 31)) ||| x_3) h_2) else none)
    else
    (oo none (hR h 6 k0 3) fun k_4 =>
      if kO h 4 k_4 = true then (cI (f_R_get k_4 x2 h) fun x_6 h_5 =>
      (f_B_keyOfCosts_4 k0 ((x1 <<< ((4 : Int32) &&& 31)) ||| x_6) (x2 + 1) h_5)) else none) := (exq_run (M := M_47) rfl 16 _ _ _ _).symm.trans rfl
noncomputable def f_G_behind (k0 : Nat) (x1 : Int32) (x2 : Int32) (h : pH) : pR := run pMs none 55 0 [some (.ref k0), some (.int x1), some (.int x2)] [] h
theorem e_G_behind (k0 : Nat) (x1 : Int32) (x2 : Int32) (h : pH) : f_G_behind k0 x1 x2 h =
    oo none (hR h 0 k0 1) fun k_1 =>
    if kO h 4 k_1 = true then (cI (f_R_get k_1 ((x1 * (19 : Int32)) + x2) h) fun x_3 h_2 =>
    rI x_3 h_2) else none := (exq_run (M := M_55) rfl 10 _ _ _ _).symm.trans rfl
noncomputable def f_B_become (k0 : Nat) (k1 : Nat) (h : pH) : pR := run pMs none 64 0 [some (.ref k0), some (.ref k1)] [] h
set_option maxRecDepth 100000 in
theorem e_B_become (k0 : Nat) (k1 : Nat) (h : pH) : f_B_become k0 k1 h =
    oo none (hI h 6 k1 0) fun x_1 =>
    if kO h 6 k0 = true then
    (oo none (hI (sI h k0 0 x_1) 6 k1 1) fun x_2 =>
    if kO (sI h k0 0 x_1) 6 k0 = true then
    (oo none (hR (sI (sI h k0 0 x_1) k0 1 x_2) 6 k0 2) fun k_3 =>
    oo none (hR (sI (sI h k0 0 x_1) k0 1 x_2) 6 k1 2) fun k_4 =>
    if kO (sI (sI h k0 0 x_1) k0 1 x_2) 4 k_3 = true then (cV (f_R_become k_3 k_4 (sI (sI h k0 0 x_1) k0 1 x_2)) fun h_5 =>
    oo none (hR h_5 6 k0 3) fun k_6 =>
    oo none (hR h_5 6 k1 3) fun k_7 =>
    if kO h_5 4 k_6 = true then (cV (f_R_become k_6 k_7 h_5) fun h_8 =>
    oo none (hI h_8 6 k1 4) fun x_9 =>
    if kO h_8 6 k0 = true then
    (oo none (hI (sI h_8 k0 4 x_9) 6 k1 5) fun x_10 =>
    if kO (sI h_8 k0 4 x_9) 6 k0 = true then
    (oo none (hI (sI (sI h_8 k0 4 x_9) k0 5 x_10) 6 k1 6) fun x_11 =>
    if kO (sI (sI h_8 k0 4 x_9) k0 5 x_10) 6 k0 = true then
    (oo none (hI (sI (sI (sI h_8 k0 4 x_9) k0 5 x_10) k0 6 x_11) 6 k1 7) fun x_12 =>
    if kO (sI (sI (sI h_8 k0 4 x_9) k0 5 x_10) k0 6 x_11) 6 k0 = true then
    (oo none (hI (sI (sI (sI (sI h_8 k0 4 x_9) k0 5 x_10) k0 6 x_11) k0 7 x_12) 6 k1 8) fun x_13 =>
    if kO (sI (sI (sI (sI h_8 k0 4 x_9) k0 5 x_10) k0 6 x_11) k0 7 x_12) 6 k0 = true then
    (oo none (hI (sI (sI (sI (sI (sI h_8 k0 4 x_9) k0 5 x_10) k0 6 x_11) k0 7 x_12) k0 8 x_13) 6 k1 9) fun x_14 =>
    if kO (sI (sI (sI (sI (sI h_8 k0 4 x_9) k0 5 x_10) k0 6 x_11) k0 7 x_12) k0 8 x_13) 6 k0 = true then
    (rV (sI (sI (sI (sI (sI (sI h_8 k0 4 x_9) k0 5 x_10) k0 6 x_11) k0 7 x_12) k0 8 x_13) k0 9 x_14))
    else none)
    else none)
    else none)
    else none)
    else none)
    else none) else none) else none)
    else none)
    else none := (exq_run (M := M_64) rfl 44 _ _ _ _).symm.trans rfl
noncomputable def f_H_giveBack (k0 : Nat) (k1 : Nat) (h : pH) : pR := run pMs none 65 0 [some (.ref k0), some (.ref k1)] [] h
set_option maxRecDepth 100000 in
theorem e_H_giveBack (k0 : Nat) (k1 : Nat) (h : pH) : f_H_giveBack k0 k1 h =
    oo none (hI h 1 k0 1) fun x_1 =>
    if (x_1 - (1 : Int32)) < 0 then
    (rV h)
    else
    (oo none (hR h 1 k0 0) fun k_2 =>
      oo none (hN h k_2) fun x_3 =>
      if x_3 ≤ (x_1 - (1 : Int32)) then
      (rV h)
      else
      (oo none (hR h 1 k0 0) fun k_4 =>
        oo none (hQ h k_4 (x_1 - (1 : Int32))) fun k_5 =>
        oo none (hR h 1 k0 0) fun k_6 =>
        oo none (hQ h k_6 (x_1 - (1 : Int32))) fun k_7 =>
        if kO h 6 k1 = true then (cV (f_B_become k1 k_7 h) fun h_8 =>
        if kO h_8 1 k0 = true then
        (rV (sI h_8 k0 1 (x_1 - (1 : Int32))))
        else none) else none)) := (exq_run (M := M_65) rfl 28 _ _ _ _).symm.trans rfl
noncomputable def f_H_dropOldest (k0 : Nat) (h : pH) : pR := run pMs none 67 0 [some (.ref k0)] [] h
noncomputable def f_H_dropOldest_2 (k0 : Nat) (x1 : Int32) (h : pH) : pR := run pMs none 67 2 [some (.ref k0), some (.int x1)] [] h
theorem e_H_dropOldest (k0 : Nat) (h : pH) : f_H_dropOldest k0 h =
    (f_H_dropOldest_2 k0 (1 : Int32) h) := (exq_run (M := M_67) rfl 3 _ _ _ _).symm.trans rfl
set_option maxRecDepth 100000 in
theorem e_H_dropOldest_2 (k0 : Nat) (x1 : Int32) (h : pH) : f_H_dropOldest_2 k0 x1 h =
    oo none (hR h 1 k0 0) fun k_1 =>
    oo none (hN h k_1) fun x_2 =>
    if x_2 ≤ x1 then
    (oo none (hI h 1 k0 1) fun x_3 =>
      if kO h 1 k0 = true then
      (rV (sI h k0 1 (x_3 - (1 : Int32))))
      else none)
    else
    (oo none (hR h 1 k0 0) fun k_4 =>
      oo none (hQ h k_4 (x1 - (1 : Int32))) fun k_5 =>
      oo none (hR h 1 k0 0) fun k_6 =>
      oo none (hR h 1 k0 0) fun k_7 =>
      oo none (hQ h k_7 x1) fun k_8 =>
      if bQ h k_6 (x1 - (1 : Int32)) k_8 = true then
      (oo none (hR (sR h k_6 (Int32.toNatClampNeg (x1 - (1 : Int32))) k_8) 1 k0 0) fun k_9 =>
      if bQ (sR h k_6 (Int32.toNatClampNeg (x1 - (1 : Int32))) k_8) k_9 x1 k_5 = true then
      ((f_H_dropOldest_2 k0 (x1 + 1) (sR (sR h k_6 (Int32.toNatClampNeg (x1 - (1 : Int32))) k_8) k_9 (Int32.toNatClampNeg x1) k_5)))
      else none)
      else none) := (exq_run (M := M_67) rfl 30 _ _ _ _).symm.trans rfl
noncomputable def f_H_keep (k0 : Nat) (k1 : Nat) (h : pH) : pR := run pMs none 68 0 [some (.ref k0), some (.ref k1)] [] h
noncomputable def f_H_keep_16 (k0 : Nat) (k1 : Nat) (h : pH) : pR := run pMs none 68 16 [some (.ref k0), some (.ref k1)] [] h
theorem e_H_keep (k0 : Nat) (k1 : Nat) (h : pH) : f_H_keep k0 k1 h =
    oo none (hI h 1 k0 1) fun x_1 =>
    oo none (hR h 1 k0 0) fun k_2 =>
    oo none (hN h k_2) fun x_3 =>
    if x_1 < x_3 then
    ((f_H_keep_16 k0 k1 h))
    else
    (if kO h 1 k0 = true then (cV (f_H_dropOldest k0 h) fun h_4 =>
      (f_H_keep_16 k0 k1 h_4)) else none) := (exq_run (M := M_68) rfl 9 _ _ _ _).symm.trans rfl
set_option maxRecDepth 100000 in
theorem e_H_keep_16 (k0 : Nat) (k1 : Nat) (h : pH) : f_H_keep_16 k0 k1 h =
    oo none (hI h 1 k0 1) fun x_1 =>
    if x_1 < 0 then
    (rV h)
    else
    (oo none (hI h 1 k0 1) fun x_2 =>
      oo none (hR h 1 k0 0) fun k_3 =>
      oo none (hN h k_3) fun x_4 =>
      if x_4 ≤ x_2 then
      (rV h)
      else
      (oo none (hR h 1 k0 0) fun k_5 =>
        oo none (hI h 1 k0 1) fun x_6 =>
        oo none (hQ h k_5 x_6) fun k_7 =>
        oo none (hR h 1 k0 0) fun k_8 =>
        oo none (hI h 1 k0 1) fun x_9 =>
        oo none (hQ h k_8 x_9) fun k_10 =>
        if kO h 6 k_10 = true then (cV (f_B_become k_10 k1 h) fun h_11 =>
        oo none (hI h_11 1 k0 1) fun x_12 =>
        if kO h_11 1 k0 = true then
        (rV (sI h_11 k0 1 (x_12 + (1 : Int32))))
        else none) else none)) := (exq_run (M := M_68) rfl 30 _ _ _ _).symm.trans rfl
noncomputable def f_B_slotOf (k0 : Nat) (x1 : Int32) (h : pH) : pR := run pMs none 71 0 [some (.ref k0), some (.int x1)] [] h
noncomputable def f_B_slotOf_2 (k0 : Nat) (x1 : Int32) (x2 : Int32) (h : pH) : pR := run pMs none 71 2 [some (.ref k0), some (.int x1), some (.int x2)] [] h
theorem e_B_slotOf (k0 : Nat) (x1 : Int32) (h : pH) : f_B_slotOf k0 x1 h =
    (f_B_slotOf_2 k0 x1 (1 : Int32) h) := (exq_run (M := M_71) rfl 3 _ _ _ _).symm.trans rfl
theorem e_B_slotOf_2 (k0 : Nat) (x1 : Int32) (x2 : Int32) (h : pH) : f_B_slotOf_2 k0 x1 x2 h =
    oo none (hI h 6 k0 1) fun x_1 =>
    if x_1 < x2 then
    (rI (0 : Int32) h)
    else
    (oo none (hR h 6 k0 2) fun k_2 =>
      if kO h 4 k_2 = true then (cI (f_R_get k_2 x2 h) fun x_4 h_3 =>
      if x_4 = x1 then
      (rI x2 h_3)
      else
      ((f_B_slotOf_2 k0 x1 (x2 + 1) h_3))) else none) := (exq_run (M := M_71) rfl 13 _ _ _ _).symm.trans rfl
noncomputable def f_B_renumber (k0 : Nat) (x1 : Int32) (x2 : Int32) (h : pH) : pR := run pMs none 72 0 [some (.ref k0), some (.int x1), some (.int x2)] [] h
noncomputable def f_B_renumber_2 (k0 : Nat) (x1 : Int32) (x2 : Int32) (x3 : Int32) (h : pH) : pR := run pMs none 72 2 [some (.ref k0), some (.int x1), some (.int x2), some (.int x3)] [] h
theorem e_B_renumber (k0 : Nat) (x1 : Int32) (x2 : Int32) (h : pH) : f_B_renumber k0 x1 x2 h =
    (f_B_renumber_2 k0 x1 x2 (0 : Int32) h) := (exq_run (M := M_72) rfl 3 _ _ _ _).symm.trans rfl
set_option maxRecDepth 100000 in
theorem e_B_renumber_2 (k0 : Nat) (x1 : Int32) (x2 : Int32) (x3 : Int32) (h : pH) : f_B_renumber_2 k0 x1 x2 x3 h =
    if (7 : Int32) ≤ x3 then
    (rV h)
    else
    (oo none (hI h 6 k0 0) fun x_1 =>
      cI (f_N_slotAt x_1 x3 h) fun x_3 h_2 =>
      if x_3 < x1 then
      ((f_B_renumber_2 k0 x1 x2 (x3 + 1) h_2))
      else
      (oo none (hI h_2 6 k0 0) fun x_4 =>
        cI (f_N_withSlot x_4 x3 (x_3 + x2) h_2) fun x_6 h_5 =>
        if kO h_5 6 k0 = true then
        ((f_B_renumber_2 k0 x1 x2 (x3 + 1) (sI h_5 k0 0 x_6)))
        else none)) := (exq_run (M := M_72) rfl 23 _ _ _ _).symm.trans rfl
noncomputable def f_B_insert (k0 : Nat) (x1 : Int32) (x2 : Int32) (x3 : Int32) (h : pH) : pR := run pMs none 73 0 [some (.ref k0), some (.int x1), some (.int x2), some (.int x3)] [] h
noncomputable def f_B_insert_6 (k0 : Nat) (x1 : Int32) (x2 : Int32) (x3 : Int32) (x4 : Int32) (x5 : Int32) (h : pH) : pR := run pMs none 73 6 [some (.ref k0), some (.int x1), some (.int x2), some (.int x3), some (.int x4), some (.int x5)] [] h
noncomputable def f_B_insert_43 (k0 : Nat) (x1 : Int32) (x2 : Int32) (x3 : Int32) (x4 : Int32) (x5 : Int32) (h : pH) : pR := run pMs none 73 43 [some (.ref k0), some (.int x1), some (.int x2), some (.int x3), some (.int x4), some (.int x5)] [] h
theorem e_B_insert (k0 : Nat) (x1 : Int32) (x2 : Int32) (x3 : Int32) (h : pH) : f_B_insert k0 x1 x2 x3 h =
    (f_B_insert_6 k0 x1 x2 x3 (1 : Int32) (1 : Int32) h) := (exq_run (M := M_73) rfl 5 _ _ _ _).symm.trans rfl
set_option maxRecDepth 100000 in
theorem e_B_insert_6 (k0 : Nat) (x1 : Int32) (x2 : Int32) (x3 : Int32) (x4 : Int32) (x5 : Int32) (h : pH) : f_B_insert_6 k0 x1 x2 x3 x4 x5 h =
    oo none (hI h 6 k0 1) fun x_1 =>
    if x_1 < x5 then
    (oo none (hI h 6 k0 1) fun x_2 =>
      (f_B_insert_43 k0 x1 x2 x3 x4 x_2 h))
    else
    (oo none (hR h 6 k0 2) fun k_3 =>
      if kO h 4 k_3 = true then (cI (f_R_get k_3 x5 h) fun x_5 h_4 =>
      if x1 ≤ x_5 then
      ((f_B_insert_6 k0 x1 x2 x3 x4 (x5 + 1) h_4))
      else
      ((f_B_insert_6 k0 x1 x2 x3 (x4 + 1) (x5 + 1) h_4))) else none) := (exq_run (M := M_73) rfl 14 _ _ _ _).symm.trans rfl
set_option maxRecDepth 100000 in
theorem e_B_insert_43 (k0 : Nat) (x1 : Int32) (x2 : Int32) (x3 : Int32) (x4 : Int32) (x5 : Int32) (h : pH) : f_B_insert_43 k0 x1 x2 x3 x4 x5 h =
    if x5 < x4 then
    (oo none (hR h 6 k0 2) fun k_1 =>
      if kO h 4 k_1 = true then (cV (f_R_put k_1 x4 x1 h) fun h_2 =>
      oo none (hR h_2 6 k0 3) fun k_3 =>
      if kO h_2 4 k_3 = true then (cV (f_R_put k_3 x4 x2 h_2) fun h_4 =>
      if kO h_4 6 k0 = true then (cV (f_B_renumber k0 x4 (1 : Int32) h_4) fun h_5 =>
      oo none (hI h_5 6 k0 4) fun x_6 =>
      oo none (hI h_5 6 k0 4) fun x_7 =>
      if kO h_5 6 k0 = true then
      (oo none (hI (sI h_5 k0 4 (((x_7 - (x_6 &&& (((1 : Int32) <<< (x4 &&& 31)) - (1 : Int32)))) <<< ((1 : Int32) &&& 31)) ||| (x_6 &&& (((1 : Int32) <<< (x4 &&& 31)) - (1 : Int32))))) 6 k0 0) fun x_8 =>
      cI (f_N_withSlot x_8 x3 x4 (sI h_5 k0 4 (((x_7 - (x_6 &&& (((1 : Int32) <<< (x4 &&& 31)) - (1 : Int32)))) <<< ((1 : Int32) &&& 31)) ||| (x_6 &&& (((1 : Int32) <<< (x4 &&& 31)) - (1 : Int32)))))) fun x_10 h_9 =>
      if kO h_9 6 k0 = true then
      (oo none (hI (sI h_9 k0 0 x_10) 6 k0 1) fun x_11 =>
      if kO (sI h_9 k0 0 x_10) 6 k0 = true then
      (rV (sI (sI h_9 k0 0 x_10) k0 1 (x_11 + (1 : Int32))))
      else none)
      else none)
      else none) else none) else none) else none)
    else
    (oo none (hR h 6 k0 2) fun k_12 =>
      oo none (hR h 6 k0 2) fun k_13 =>
      if kO h 4 k_13 = true then (cI (f_R_get k_13 x5 h) fun x_15 h_14 =>
      if kO h_14 4 k_12 = true then (cV (f_R_put k_12 (x5 + (1 : Int32)) x_15 h_14) fun h_16 =>
      oo none (hR h_16 6 k0 3) fun k_17 =>
      oo none (hR h_16 6 k0 3) fun k_18 =>
      if kO h_16 4 k_18 = true then (cI (f_R_get k_18 x5 h_16) fun x_20 h_19 =>
      if kO h_19 4 k_17 = true then (cV (f_R_put k_17 (x5 + (1 : Int32)) x_20 h_19) fun h_21 =>
      (f_B_insert_43 k0 x1 x2 x3 x4 (x5 + (-1)) h_21)) else none) else none) else none) else none) := (exq_run (M := M_73) rfl 51 _ _ _ _).symm.trans rfl
noncomputable def f_B_takeOff (k0 : Nat) (x1 : Int32) (h : pH) : pR := run pMs none 76 0 [some (.ref k0), some (.int x1)] [] h
noncomputable def f_B_takeOff_34 (k0 : Nat) (x2 : Int32) (x3 : Int32) (x4 : Int32) (h : pH) : pR := run pMs none 76 34 [some (.ref k0), none, some (.int x2), some (.int x3), some (.int x4)] [] h
set_option maxRecDepth 100000 in
theorem e_B_takeOff (k0 : Nat) (x1 : Int32) (h : pH) : f_B_takeOff k0 x1 h =
    oo none (hI h 6 k0 0) fun x_1 =>
    cI (f_N_slotAt x_1 x1 h) fun x_3 h_2 =>
    oo none (hR h_2 6 k0 2) fun k_4 =>
    if kO h_2 4 k_4 = true then (cI (f_R_get k_4 x_3 h_2) fun x_6 h_5 =>
    oo none (hI h_5 6 k0 0) fun x_7 =>
    cI (f_N_withSlot x_7 x1 (0 : Int32) h_5) fun x_9 h_8 =>
    if kO h_8 6 k0 = true then
    ((f_B_takeOff_34 k0 x_3 x_6 x_3 (sI h_8 k0 0 x_9)))
    else none) else none := (exq_run (M := M_76) rfl 20 _ _ _ _).symm.trans rfl
set_option maxRecDepth 100000 in
theorem e_B_takeOff_34 (k0 : Nat) (x2 : Int32) (x3 : Int32) (x4 : Int32) (h : pH) : f_B_takeOff_34 k0 x2 x3 x4 h =
    oo none (hI h 6 k0 1) fun x_1 =>
    if x_1 ≤ x4 then
    (if kO h 6 k0 = true then (cV (f_B_renumber k0 (x2 + (1 : Int32)) (-1 : Int32) h) fun h_2 =>
      oo none (hI h_2 6 k0 4) fun x_3 =>
      oo none (hI h_2 6 k0 4) fun x_4 =>
      if kO h_2 6 k0 = true then
      (oo none (hI (sI h_2 k0 4 (((ius x_4 (x2 + (1 : Int32))) <<< (x2 &&& 31)) ||| (x_3 &&& (((1 : Int32) <<< (x2 &&& 31)) - (1 : Int32))))) 6 k0 1) fun x_5 =>
      if kO (sI h_2 k0 4 (((ius x_4 (x2 + (1 : Int32))) <<< (x2 &&& 31)) ||| (x_3 &&& (((1 : Int32) <<< (x2 &&& 31)) - (1 : Int32))))) 6 k0 = true then
      (rI x3 (sI (sI h_2 k0 4 (((ius x_4 (x2 + (1 : Int32))) <<< (x2 &&& 31)) ||| (x_3 &&& (((1 : Int32) <<< (x2 &&& 31)) - (1 : Int32))))) k0 1 (x_5 - (1 : Int32))))
      else none)
      else none) else none)
    else
    (oo none (hR h 6 k0 2) fun k_6 =>
      oo none (hR h 6 k0 2) fun k_7 =>
      if kO h 4 k_7 = true then (cI (f_R_get k_7 (x4 + (1 : Int32)) h) fun x_9 h_8 =>
      if kO h_8 4 k_6 = true then (cV (f_R_put k_6 x4 x_9 h_8) fun h_10 =>
      oo none (hR h_10 6 k0 3) fun k_11 =>
      oo none (hR h_10 6 k0 3) fun k_12 =>
      if kO h_10 4 k_12 = true then (cI (f_R_get k_12 (x4 + (1 : Int32)) h_10) fun x_14 h_13 =>
      if kO h_13 4 k_11 = true then (cV (f_R_put k_11 x4 x_14 h_13) fun h_15 =>
      (f_B_takeOff_34 k0 x2 x3 (x4 + 1) h_15)) else none) else none) else none) else none) := (exq_run (M := M_76) rfl 40 _ _ _ _).symm.trans rfl
noncomputable def f_P_write (k0 : Nat) (x1 : Int32) (h : pH) : pR := run pMs none 82 0 [some (.ref k0), some (.int x1)] [] h
set_option maxRecDepth 100000 in
theorem e_P_write (k0 : Nat) (x1 : Int32) (h : pH) : f_P_write k0 x1 h =
    oo none (hR h 2 k0 0) fun k_1 =>
    oo none (hI h 2 k0 1) fun x_2 =>
    if kO h 4 k_1 = true then (cV (f_R_put k_1 x_2 x1 h) fun h_3 =>
    oo none (hI h_3 2 k0 1) fun x_4 =>
    if kO h_3 2 k0 = true then
    (rV (sI h_3 k0 1 (x_4 + (1 : Int32))))
    else none) else none := (exq_run (M := M_82) rfl 14 _ _ _ _).symm.trans rfl
noncomputable def f_P_isKind (x0 : Int32) (h : pH) : pR := run pMs none 84 0 [some (.int x0)] [] h
theorem e_P_isKind (x0 : Int32) (h : pH) : f_P_isKind x0 h =
    if x0 = (112 : Int32) then
    (rI (1 : Int32) h)
    else
    (if x0 = (114 : Int32) then
      (rI (1 : Int32) h)
      else
      (if x0 = (108 : Int32) then
        (rI (1 : Int32) h)
        else
        (rI (0 : Int32) h))) := (exq_run (M := M_84) rfl 13 _ _ _ _).symm.trans rfl
noncomputable def f_P_isPlaceFor (x0 : Int32) (x1 : Int32) (h : pH) : pR := run pMs none 85 0 [some (.int x0), some (.int x1)] [] h
set_option maxRecDepth 100000 in
theorem e_P_isPlaceFor (x0 : Int32) (x1 : Int32) (h : pH) : f_P_isPlaceFor x0 x1 h =
    if x1 < (48 : Int32) then
    (rI (0 : Int32) h)
    else
    (if x0 = (112 : Int32) then
      (if ((48 : Int32) + (7 : Int32)) ≤ x1 then
        (rI (0 : Int32) h)
        else
        (rI (1 : Int32) h))
      else
      (if ((48 : Int32) + (6 : Int32)) ≤ x1 then
        (rI (0 : Int32) h)
        else
        (rI (1 : Int32) h))) := (exq_run (M := M_85) rfl 16 _ _ _ _).symm.trans rfl
noncomputable def f_P_programFault (k0 : Nat) (h : pH) : pR := run pMs none 86 0 [some (.ref k0)] [] h
noncomputable def f_P_programFault_2 (k0 : Nat) (x1 : Int32) (h : pH) : pR := run pMs none 86 2 [some (.ref k0), some (.int x1)] [] h
theorem e_P_programFault (k0 : Nat) (h : pH) : f_P_programFault k0 h =
    (f_P_programFault_2 k0 (0 : Int32) h) := (exq_run (M := M_86) rfl 3 _ _ _ _).symm.trans rfl
set_option maxRecDepth 100000 in
theorem e_P_programFault_2 (k0 : Nat) (x1 : Int32) (h : pH) : f_P_programFault_2 k0 x1 h =
    oo none (hI h 2 k0 1) fun x_1 =>
    if x_1 ≤ x1 then
    (oo none (hI h 2 k0 1) fun x_2 =>
      if x_2 = 0 then
      (oo none (hI h 2 k0 1) fun x_3 =>
        rI x_3 h)
      else
      (oo none (hI h 2 k0 1) fun x_4 =>
        if (x_4 &&& (1 : Int32)) = (1 : Int32) then
        (oo none (hI h 2 k0 1) fun x_5 =>
          rI x_5 h)
        else
        (rI (-4 : Int32) h)))
    else
    (oo none (hR h 2 k0 0) fun k_6 =>
      if kO h 4 k_6 = true then (cI (f_R_get k_6 x1 h) fun x_8 h_7 =>
      if (x1 &&& (1 : Int32)) = 0 then
      (cI (f_P_isKind x_8 h_7) fun x_15 h_14 =>
        if x_15 = 0 then
        (rI x1 h_14)
        else
        ((f_P_programFault_2 k0 (x1 + 1) h_14)))
      else
      (oo none (hR h_7 2 k0 0) fun k_9 =>
        if kO h_7 4 k_9 = true then (cI (f_R_get k_9 (x1 - (1 : Int32)) h_7) fun x_11 h_10 =>
        cI (f_P_isPlaceFor x_11 x_8 h_10) fun x_13 h_12 =>
        if x_13 = 0 then
        (rI x1 h_12)
        else
        ((f_P_programFault_2 k0 (x1 + 1) h_12))) else none)) else none) := (exq_run (M := M_86) rfl 27 _ _ _ _).symm.trans rfl
noncomputable def f_P_slotOfSign (k0 : Nat) (x1 : Int32) (h : pH) : pR := run pMs none 87 0 [some (.ref k0), some (.int x1)] [] h
theorem e_P_slotOfSign (k0 : Nat) (x1 : Int32) (h : pH) : f_P_slotOfSign k0 x1 h =
    if kO h 6 k0 = true then (cI (f_B_slotOf k0 (x1 - (97 : Int32)) h) fun x_2 h_1 =>
    rI x_2 h_1) else none := (exq_run (M := M_87) rfl 7 _ _ _ _).symm.trans rfl
noncomputable def f_P_wordFault (k0 : Nat) (k1 : Nat) (h : pH) : pR := run pMs none 88 0 [some (.ref k0), some (.ref k1)] [] h
noncomputable def f_P_wordFault_22 (k0 : Nat) (k1 : Nat) (x2 : Int32) (x3 : Int32) (x4 : Int32) (h : pH) : pR := run pMs none 88 22 [some (.ref k0), some (.ref k1), some (.int x2), some (.int x3), some (.int x4)] [] h
noncomputable def f_P_wordFault_76 (k0 : Nat) (k1 : Nat) (x2 : Int32) (x3 : Int32) (x4 : Int32) (x5 : Int32) (x6 : Int32) (h : pH) : pR := run pMs none 88 76 [some (.ref k0), some (.ref k1), some (.int x2), some (.int x3), some (.int x4), some (.int x5), some (.int x6)] [] h
set_option maxRecDepth 100000 in
theorem e_P_wordFault (k0 : Nat) (k1 : Nat) (h : pH) : f_P_wordFault k0 k1 h =
    oo none (hI h 6 k1 1) fun x_1 =>
    oo none (hI h 6 k1 1) fun x_2 =>
    (f_P_wordFault_22 k0 k1 ((7 : Int32) - x_1) (((1 : Int32) <<< ((x_2 + (1 : Int32)) &&& 31)) - (2 : Int32)) (0 : Int32) h) := (exq_run (M := M_88) rfl 17 _ _ _ _).symm.trans rfl
set_option maxRecDepth 100000 in
theorem e_P_wordFault_22 (k0 : Nat) (k1 : Nat) (x2 : Int32) (x3 : Int32) (x4 : Int32) (h : pH) : f_P_wordFault_22 k0 k1 x2 x3 x4 h =
    oo none (hI h 2 k0 1) fun x_1 =>
    if x_1 ≤ x4 then
    (oo none (hI h 2 k0 1) fun x_2 =>
      if (7 : Int32) ≤ x_2 then
      (rI (-4 : Int32) h)
      else
      (oo none (hI h 2 k0 1) fun x_3 =>
        rI x_3 h))
    else
    (oo none (hR h 2 k0 0) fun k_4 =>
      if kO h 4 k_4 = true then (cI (f_R_get k_4 x4 h) fun x_6 h_5 =>
      cI (f_P_slotOfSign k1 x_6 h_5) fun x_8 h_7 =>
      if x_6 = (46 : Int32) then
      (if x2 = 0 then
        (rI x4 h_7)
        else
        ((f_P_wordFault_76 k0 k1 x2 x3 x4 x_6 x_8 h_7)))
      else
      (cI (f_N_isIn x3 x_8 h_7) fun x_10 h_9 =>
        if x_10 = 0 then
        (rI x4 h_9)
        else
        ((f_P_wordFault_76 k0 k1 x2 x3 x4 x_6 x_8 h_9)))) else none) := (exq_run (M := M_88) rfl 23 _ _ _ _).symm.trans rfl
set_option maxRecDepth 100000 in
theorem e_P_wordFault_76 (k0 : Nat) (k1 : Nat) (x2 : Int32) (x3 : Int32) (x4 : Int32) (x5 : Int32) (x6 : Int32) (h : pH) : f_P_wordFault_76 k0 k1 x2 x3 x4 x5 x6 h =
    if x5 = (46 : Int32) then
    ((f_P_wordFault_22 k0 k1 (x2 + (-1)) x3 (x4 + 1) h))
    else
    ((f_P_wordFault_22 k0 k1 x2 (x3 &&& (((1 : Int32) <<< (x6 &&& 31)) ^^^ (-1 : Int32))) (x4 + 1) h)) := (exq_run (M := M_88) rfl 14 _ _ _ _).symm.trans rfl
noncomputable def f_P_readWord (k0 : Nat) (k1 : Nat) (h : pH) : pR := run pMs none 90 0 [some (.ref k0), some (.ref k1)] [] h
noncomputable def f_P_readWord_4 (k0 : Nat) (k1 : Nat) (x2 : Int32) (x3 : Int32) (h : pH) : pR := run pMs none 90 4 [some (.ref k0), some (.ref k1), some (.int x2), some (.int x3)] [] h
theorem e_P_readWord (k0 : Nat) (k1 : Nat) (h : pH) : f_P_readWord k0 k1 h =
    (f_P_readWord_4 k0 k1 (0 : Int32) (0 : Int32) h) := (exq_run (M := M_90) rfl 5 _ _ _ _).symm.trans rfl
set_option maxRecDepth 100000 in
theorem e_P_readWord_4 (k0 : Nat) (k1 : Nat) (x2 : Int32) (x3 : Int32) (h : pH) : f_P_readWord_4 k0 k1 x2 x3 h =
    if (7 : Int32) ≤ x3 then
    (rI x2 h)
    else
    (oo none (hR h 2 k0 0) fun k_1 =>
      if kO h 4 k_1 = true then (cI (f_R_get k_1 x3 h) fun x_3 h_2 =>
      cI (f_P_slotOfSign k1 x_3 h_2) fun x_5 h_4 =>
      cI (f_N_withSlot x2 x3 x_5 h_4) fun x_7 h_6 =>
      (f_P_readWord_4 k0 k1 x_7 (x3 + 1) h_6)) else none) := (exq_run (M := M_90) rfl 16 _ _ _ _).symm.trans rfl
noncomputable def f_B_tryMove (k0 : Nat) (x1 : Int32) (h : pH) : pR := run pMs none 96 0 [some (.ref k0), some (.int x1)] [] h
set_option maxRecDepth 100000 in
theorem e_B_tryMove (k0 : Nat) (x1 : Int32) (h : pH) : f_B_tryMove k0 x1 h =
    oo none (hI h 6 k0 0) fun x_1 =>
    oo none (hI h 6 k0 4) fun x_2 =>
    cI (f_N_reason x_1 x_2 x1 h) fun x_4 h_3 =>
    if x_4 = 0 then
    (oo none (hI h_3 6 k0 7) fun x_5 =>
      if kO h_3 6 k0 = true then
      (oo none (hI (sI h_3 k0 7 (x_5 + (1 : Int32))) 6 k0 8) fun x_6 =>
      oo none (hI (sI h_3 k0 7 (x_5 + (1 : Int32))) 6 k0 0) fun x_7 =>
      oo none (hR (sI h_3 k0 7 (x_5 + (1 : Int32))) 6 k0 3) fun k_8 =>
      cI (f_N_price x_7 k_8 x1 (sI h_3 k0 7 (x_5 + (1 : Int32)))) fun x_10 h_9 =>
      if kO h_9 6 k0 = true then
      (oo none (hI (sI h_9 k0 8 (x_6 + x_10)) 6 k0 0) fun x_11 =>
      cI (f_N_after x_11 x1 (sI h_9 k0 8 (x_6 + x_10))) fun x_13 h_12 =>
      if kO h_12 6 k0 = true then
      (rI (0 : Int32) (sI h_12 k0 0 x_13))
      else none)
      else none)
      else none)
    else
    (oo none (hI h_3 6 k0 9) fun x_14 =>
      if kO h_3 6 k0 = true then
      (rI x_4 (sI h_3 k0 9 (x_14 + (1 : Int32))))
      else none) := (exq_run (M := M_96) rfl 35 _ _ _ _).symm.trans rfl
noncomputable def f_D_start (k0 : Nat) (k1 : Nat) (h : pH) : pR := run pMs none 115 0 [some (.ref k0), some (.ref k1)] [] h
noncomputable def f_D_start_2 (k0 : Nat) (k1 : Nat) (x2 : Int32) (h : pH) : pR := run pMs none 115 2 [some (.ref k0), some (.ref k1), some (.int x2)] [] h
theorem e_D_start (k0 : Nat) (k1 : Nat) (h : pH) : f_D_start k0 k1 h =
    (f_D_start_2 k0 k1 (0 : Int32) h) := (exq_run (M := M_115) rfl 3 _ _ _ _).symm.trans rfl
set_option maxRecDepth 100000 in
theorem e_D_start_2 (k0 : Nat) (k1 : Nat) (x2 : Int32) (h : pH) : f_D_start_2 k0 k1 x2 h =
    oo none (hI h 6 k1 1) fun x_1 =>
    cI (f_K_wordsOf x_1 h) fun x_3 h_2 =>
    if x_3 ≤ x2 then
    (oo none (hI h_2 6 k1 0) fun x_4 =>
      if kO h_2 3 k0 = true then
      (if kO (sI h_2 k0 2 x_4) 3 k0 = true then
      (oo none (hI (sI (sI h_2 k0 2 x_4) k0 3 (0 : Int32)) 3 k0 2) fun x_5 =>
      oo none (hI (sI (sI h_2 k0 2 x_4) k0 3 (0 : Int32)) 6 k1 5) fun x_6 =>
      cI (f_N_disorder x_5 x_6 (sI (sI h_2 k0 2 x_4) k0 3 (0 : Int32))) fun x_8 h_7 =>
      if kO h_7 3 k0 = true then
      (rV (sI h_7 k0 7 x_8))
      else none)
      else none)
      else none)
    else
    (oo none (hR h_2 3 k0 0) fun k_9 =>
      if kO h_2 4 k_9 = true then (cV (f_R_put k_9 x2 (-1 : Int32) h_2) fun h_10 =>
      (f_D_start_2 k0 k1 (x2 + 1) h_10)) else none) := (exq_run (M := M_115) rfl 21 _ _ _ _).symm.trans rfl
noncomputable def f_P_steps (k0 : Nat) (h : pH) : pR := run pMs none 116 0 [some (.ref k0)] [] h
theorem e_P_steps (k0 : Nat) (h : pH) : f_P_steps k0 h =
    oo none (hI h 2 k0 1) fun x_1 =>
    rI (x_1 >>> ((1 : Int32) &&& 31)) h := (exq_run (M := M_116) rfl 6 _ _ _ _).symm.trans rfl
noncomputable def f_P_moveAt (k0 : Nat) (x1 : Int32) (h : pH) : pR := run pMs none 117 0 [some (.ref k0), some (.int x1)] [] h
set_option maxRecDepth 100000 in
theorem e_P_moveAt (k0 : Nat) (x1 : Int32) (h : pH) : f_P_moveAt k0 x1 h =
    oo none (hR h 2 k0 0) fun k_1 =>
    if kO h 4 k_1 = true then (cI (f_R_get k_1 ((2 : Int32) * x1) h) fun x_3 h_2 =>
    oo none (hR h_2 2 k0 0) fun k_4 =>
    if kO h_2 4 k_4 = true then (cI (f_R_get k_4 (((2 : Int32) * x1) + (1 : Int32)) h_2) fun x_6 h_5 =>
    if x_3 = (112 : Int32) then
    (rI (x_6 - (48 : Int32)) h_5)
    else
    (if x_3 = (114 : Int32) then
      (rI ((x_6 - (48 : Int32)) + (7 : Int32)) h_5)
      else
      (rI ((x_6 - (48 : Int32)) + (13 : Int32)) h_5))) else none) else none := (exq_run (M := M_117) rfl 30 _ _ _ _).symm.trans rfl
noncomputable def f_D_goRound (k0 : Nat) (k1 : Nat) (k2 : Nat) (h : pH) : pR := run pMs none 118 0 [some (.ref k0), some (.ref k1), some (.ref k2)] [] h
noncomputable def f_D_goRound_2 (k0 : Nat) (k1 : Nat) (k2 : Nat) (x3 : Int32) (h : pH) : pR := run pMs none 118 2 [some (.ref k0), some (.ref k1), some (.ref k2), some (.int x3)] [] h
theorem e_D_goRound (k0 : Nat) (k1 : Nat) (k2 : Nat) (h : pH) : f_D_goRound k0 k1 k2 h =
    (f_D_goRound_2 k0 k1 k2 (0 : Int32) h) := (exq_run (M := M_118) rfl 3 _ _ _ _).symm.trans rfl
set_option maxRecDepth 100000 in
theorem e_D_goRound_2 (k0 : Nat) (k1 : Nat) (k2 : Nat) (x3 : Int32) (h : pH) : f_D_goRound_2 k0 k1 k2 x3 h =
    if kO h 2 k2 = true then (cI (f_P_steps k2 h) fun x_2 h_1 =>
    if x_2 ≤ x3 then
    (rV h_1)
    else
    (if kO h_1 2 k2 = true then (cI (f_P_moveAt k2 x3 h_1) fun x_4 h_3 =>
      oo none (hI h_3 3 k0 2) fun x_5 =>
      oo none (hI h_3 6 k1 4) fun x_6 =>
      cI (f_N_reason x_5 x_6 x_4 h_3) fun x_8 h_7 =>
      if x_8 = 0 then
      (oo none (hI h_7 3 k0 3) fun x_9 =>
        oo none (hI h_7 3 k0 2) fun x_10 =>
        oo none (hR h_7 6 k1 3) fun k_11 =>
        cI (f_N_price x_10 k_11 x_4 h_7) fun x_13 h_12 =>
        if kO h_12 3 k0 = true then
        (oo none (hI (sI h_12 k0 3 (x_9 + x_13)) 3 k0 2) fun x_14 =>
        cI (f_N_after x_14 x_4 (sI h_12 k0 3 (x_9 + x_13))) fun x_16 h_15 =>
        if kO h_15 3 k0 = true then
        ((f_D_goRound_2 k0 k1 k2 (x3 + 1) (sI h_15 k0 2 x_16)))
        else none)
        else none)
      else
      ((f_D_goRound_2 k0 k1 k2 (x3 + 1) h_7))) else none)) else none := (exq_run (M := M_118) rfl 35 _ _ _ _).symm.trans rfl
noncomputable def f_D_follow (k0 : Nat) (k1 : Nat) (k2 : Nat) (h : pH) : pR := run pMs none 119 0 [some (.ref k0), some (.ref k1), some (.ref k2)] [] h
noncomputable def f_D_follow_10 (k0 : Nat) (k1 : Nat) (k2 : Nat) (x3 : Int32) (x4 : Int32) (h : pH) : pR := run pMs none 119 10 [some (.ref k0), some (.ref k1), some (.ref k2), some (.int x3), some (.int x4)] [] h
noncomputable def f_D_follow_53 (k0 : Nat) (k1 : Nat) (k2 : Nat) (x4 : Int32) (x5 : Int32) (t0 : Int32) (h : pH) : pR := run pMs none 119 53 [some (.ref k0), some (.ref k1), some (.ref k2), none, some (.int x4), some (.int x5)] [.int t0] h
theorem e_D_follow (k0 : Nat) (k1 : Nat) (k2 : Nat) (h : pH) : f_D_follow k0 k1 k2 h =
    if kO h 3 k0 = true then (cV (f_D_start k0 k1 h) fun h_1 =>
    (f_D_follow_10 k0 k1 k2 (0 : Int32) (0 : Int32) h_1)) else none := (exq_run (M := M_119) rfl 8 _ _ _ _).symm.trans rfl
set_option maxRecDepth 100000 in
theorem e_D_follow_10 (k0 : Nat) (k1 : Nat) (k2 : Nat) (x3 : Int32) (x4 : Int32) (h : pH) : f_D_follow_10 k0 k1 k2 x3 x4 h =
    if x3 = 0 then
    (if (2520 : Int32) < x4 then
      (rV h)
      else
      (oo none (hI h 3 k0 2) fun x_1 =>
        oo none (hI h 6 k1 1) fun x_2 =>
        cI (f_K_rankOf x_1 x_2 h) fun x_4 h_3 =>
        oo none (hR h_3 3 k0 0) fun k_5 =>
        if kO h_3 4 k_5 = true then (cI (f_R_get k_5 x_4 h_3) fun x_7 h_6 =>
        if x_7 = (-1 : Int32) then
        ((f_D_follow_53 k0 k1 k2 x4 x_4 (0 : Int32) h_6))
        else
        ((f_D_follow_53 k0 k1 k2 x4 x_4 (1 : Int32) h_6))) else none))
    else
    (rV h) := (exq_run (M := M_119) rfl 20 _ _ _ _).symm.trans rfl
set_option maxRecDepth 100000 in
theorem e_D_follow_53 (k0 : Nat) (k1 : Nat) (k2 : Nat) (x4 : Int32) (x5 : Int32) (t0 : Int32) (h : pH) : f_D_follow_53 k0 k1 k2 x4 x5 t0 h =
    if t0 = 0 then
    (oo none (hR h 3 k0 0) fun k_1 =>
      if kO h 4 k_1 = true then (cV (f_R_put k_1 x5 x4 h) fun h_2 =>
      oo none (hR h_2 3 k0 1) fun k_3 =>
      oo none (hI h_2 3 k0 3) fun x_4 =>
      if kO h_2 4 k_3 = true then (cV (f_R_put k_3 x5 x_4 h_2) fun h_5 =>
      oo none (hI h_5 3 k0 7) fun x_6 =>
      oo none (hI h_5 3 k0 2) fun x_7 =>
      oo none (hI h_5 6 k1 5) fun x_8 =>
      cI (f_N_disorder x_7 x_8 h_5) fun x_10 h_9 =>
      if kO h_9 3 k0 = true then
      (if kO (sI h_9 k0 7 (imin x_6 x_10)) 3 k0 = true then (cV (f_D_goRound k0 k1 k2 (sI h_9 k0 7 (imin x_6 x_10))) fun h_11 =>
      (f_D_follow_10 k0 k1 k2 t0 (x4 + 1) h_11)) else none)
      else none) else none) else none)
    else
    (oo none (hR h 3 k0 0) fun k_12 =>
      if kO h 4 k_12 = true then (cI (f_R_get k_12 x5 h) fun x_14 h_13 =>
      if kO h_13 3 k0 = true then
      (oo none (hI (sI h_13 k0 4 x_14) 3 k0 4) fun x_15 =>
      if kO (sI h_13 k0 4 x_14) 3 k0 = true then
      (oo none (hI (sI (sI h_13 k0 4 x_14) k0 5 (x4 - x_15)) 3 k0 3) fun x_16 =>
      oo none (hR (sI (sI h_13 k0 4 x_14) k0 5 (x4 - x_15)) 3 k0 1) fun k_17 =>
      if kO (sI (sI h_13 k0 4 x_14) k0 5 (x4 - x_15)) 4 k_17 = true then (cI (f_R_get k_17 x5 (sI (sI h_13 k0 4 x_14) k0 5 (x4 - x_15))) fun x_19 h_18 =>
      if kO h_18 3 k0 = true then
      ((f_D_follow_10 k0 k1 k2 t0 (x4 + 1) (sI h_18 k0 6 (x_16 - x_19))))
      else none) else none)
      else none)
      else none) else none) := (exq_run (M := M_119) rfl 31 _ _ _ _).symm.trans rfl
