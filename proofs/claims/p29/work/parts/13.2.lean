noncomputable def f_S_startAtOrder (k0 : Nat) (k1 : Nat) (k2 : Nat) (x3 : Int32) (x4 : Int32) (h : pH) : pR := run pMs none 43 0 [some (.ref k0), some (.ref k1), some (.ref k2), some (.int x3), some (.int x4)] [] h
noncomputable def f_S_startAtOrder_3 (k0 : Nat) (k1 : Nat) (k2 : Nat) (x4 : Int32) (x5 : Int32) (h : pH) : pR := run pMs none 43 3 [some (.ref k0), some (.ref k1), some (.ref k2), none, some (.int x4), some (.int x5)] [] h
theorem e_S_startAtOrder (k0 : Nat) (k1 : Nat) (k2 : Nat) (x3 : Int32) (x4 : Int32) (h : pH) : f_S_startAtOrder k0 k1 k2 x3 x4 h =
    (f_S_startAtOrder_3 k0 k1 k2 x4 x3 h) := (exq_run (M := M_43) rfl 3 _ _ _ _).symm.trans rfl
set_option maxRecDepth 100000 in
theorem e_S_startAtOrder_3 (k0 : Nat) (k1 : Nat) (k2 : Nat) (x4 : Int32) (x5 : Int32) (h : pH) : f_S_startAtOrder_3 k0 k1 k2 x4 x5 h =
    if x4 ≤ x5 then
    (rV h)
    else
    (oo none (hR h 5 k0 0) fun k_1 =>
      oo none (hR h 0 k_1 0) fun k_2 =>
      if kO h 4 k_2 = true then (cI (f_R_get k_2 x5 h) fun x_4 h_3 =>
      oo none (hI h_3 6 k1 5) fun x_5 =>
      oo none (hI h_3 6 k1 6) fun x_6 =>
      cI (f_N_isInOrder x_4 x_5 x_6 h_3) fun x_8 h_7 =>
      if x_8 = 0 then
      (if kO h_7 4 k2 = true then (cV (f_R_put k2 x5 (-1 : Int32) h_7) fun h_9 =>
        (f_S_startAtOrder_3 k0 k1 k2 x4 (x5 + 1) h_9)) else none)
      else
      (if kO h_7 4 k2 = true then (cV (f_R_put k2 x5 (0 : Int32) h_7) fun h_10 =>
        (f_S_startAtOrder_3 k0 k1 k2 x4 (x5 + 1) h_10)) else none)) else none) := (exq_run (M := M_43) rfl 24 _ _ _ _).symm.trans rfl
noncomputable def f_S_comeFrom (k0 : Nat) (x1 : Int32) (x2 : Int32) (x3 : Int32) (h : pH) : pR := run pMs none 45 0 [some (.ref k0), some (.int x1), some (.int x2), some (.int x3)] [] h
noncomputable def f_S_comeFrom_16 (k0 : Nat) (x1 : Int32) (x2 : Int32) (x4 : Int32) (x5 : Int32) (h : pH) : pR := run pMs none 45 16 [some (.ref k0), some (.int x1), some (.int x2), none, some (.int x4), some (.int x5)] [] h
theorem e_S_comeFrom (k0 : Nat) (x1 : Int32) (x2 : Int32) (x3 : Int32) (h : pH) : f_S_comeFrom k0 x1 x2 x3 h =
    oo none (hR h 5 k0 0) fun k_1 =>
    oo none (hR h 0 k_1 3) fun k_2 =>
    if kO h 4 k_2 = true then (cI (f_R_get k_2 x1 h) fun x_4 h_3 =>
    (f_S_comeFrom_16 k0 x1 x2 x3 x_4 h_3)) else none := (exq_run (M := M_45) rfl 9 _ _ _ _).symm.trans rfl
set_option maxRecDepth 100000 in
theorem e_S_comeFrom_16 (k0 : Nat) (x1 : Int32) (x2 : Int32) (x4 : Int32) (x5 : Int32) (h : pH) : f_S_comeFrom_16 k0 x1 x2 x4 x5 h =
    oo none (hR h 5 k0 0) fun k_1 =>
    oo none (hR h 0 k_1 4) fun k_2 =>
    if kO h 4 k_2 = true then (cI (f_R_get k_2 x1 h) fun x_4 h_3 =>
    if x_4 ≤ x5 then
    (rI x4 h_3)
    else
    (oo none (hR h_3 5 k0 0) fun k_5 =>
      oo none (hR h_3 0 k_5 2) fun k_6 =>
      if kO h_3 4 k_6 = true then (cI (f_R_get k_6 x5 h_3) fun x_8 h_7 =>
      if (19 : Int32) = 0 then none else
      oo none (hR h_7 5 k0 1) fun k_9 =>
      if kO h_7 4 k_9 = true then (cI (f_R_get k_9 (x_8 / (19 : Int32)) h_7) fun x_11 h_10 =>
      if x_11 = (-1 : Int32) then
      (oo none (hR h_10 5 k0 0) fun k_12 =>
        if (19 : Int32) = 0 then none else
        if kO h_10 0 k_12 = true then (cI (f_G_isHeld k_12 (x_8 / (19 : Int32)) (x_8 - x_8 / (19 : Int32) * (19 : Int32)) x2 h_10) fun x_14 h_13 =>
        if x_14 = 0 then
        (oo none (hR h_13 5 k0 1) fun k_15 =>
          oo none (hR h_13 5 k0 1) fun k_16 =>
          if kO h_13 4 k_16 = true then (cI (f_R_get k_16 x1 h_13) fun x_18 h_17 =>
          if kO h_17 4 k_15 = true then (cV (f_R_put k_15 (x_8 / (19 : Int32)) (x_18 + (1 : Int32)) h_17) fun h_19 =>
          oo none (hR h_19 5 k0 8) fun k_20 =>
          if kO h_19 4 k_20 = true then (cV (f_R_put k_20 x4 (x_8 / (19 : Int32)) h_19) fun h_21 =>
          (f_S_comeFrom_16 k0 x1 x2 (x4 + 1) (x5 + 1) h_21)) else none) else none) else none)
        else
        ((f_S_comeFrom_16 k0 x1 x2 x4 (x5 + 1) h_13))) else none)
      else
      ((f_S_comeFrom_16 k0 x1 x2 x4 (x5 + 1) h_10))) else none) else none)) else none := (exq_run (M := M_45) rfl 51 _ _ _ _).symm.trans rfl
noncomputable def f_S_findFewest (k0 : Nat) (k1 : Nat) (h : pH) : pR := run pMs none 46 0 [some (.ref k0), some (.ref k1)] [] h
noncomputable def f_S_findFewest_56 (k0 : Nat) (k1 : Nat) (x4 : Int32) (x5 : Int32) (x6 : Int32) (h : pH) : pR := run pMs none 46 56 [some (.ref k0), some (.ref k1), none, none, some (.int x4), some (.int x5), some (.int x6)] [] h
noncomputable def f_S_findFewest_98 (k0 : Nat) (k1 : Nat) (x5 : Int32) (x6 : Int32) (h : pH) : pR := run pMs none 46 98 [some (.ref k0), some (.ref k1), none, none, none, some (.int x5), some (.int x6)] [] h
set_option maxRecDepth 100000 in
theorem e_S_findFewest (k0 : Nat) (k1 : Nat) (h : pH) : f_S_findFewest k0 k1 h =
    if kO h 6 k1 = true then (cI (f_B_keyOfMoves k1 h) fun x_2 h_1 =>
    oo none (hI h_1 5 k0 4) fun x_3 =>
    if x_2 = x_3 then
    (rV h_1)
    else
    (if kO h_1 5 k0 = true then
      (oo none (hI (sI h_1 k0 4 x_2) 6 k1 1) fun x_4 =>
      cI (f_G_firstNode x_4 (sI h_1 k0 4 x_2)) fun x_6 h_5 =>
      oo none (hI h_5 6 k1 1) fun x_7 =>
      cI (f_K_wordsOf x_7 h_5) fun x_9 h_8 =>
      oo none (hR h_8 5 k0 1) fun k_10 =>
      if kO h_8 5 k0 = true then (cV (f_S_startAtOrder k0 k1 k_10 x_6 (x_6 + x_9) h_8) fun h_11 =>
      (f_S_findFewest_56 k0 k1 (x_6 + x_9) (0 : Int32) x_6 h_11)) else none)
      else none)) else none := (exq_run (M := M_46) rfl 32 _ _ _ _).symm.trans rfl
set_option maxRecDepth 100000 in
theorem e_S_findFewest_56 (k0 : Nat) (k1 : Nat) (x4 : Int32) (x5 : Int32) (x6 : Int32) (h : pH) : f_S_findFewest_56 k0 k1 x4 x5 x6 h =
    if x4 ≤ x6 then
    ((f_S_findFewest_98 k0 k1 x5 (0 : Int32) h))
    else
    (oo none (hR h 5 k0 1) fun k_1 =>
      if kO h 4 k_1 = true then (cI (f_R_get k_1 x6 h) fun x_3 h_2 =>
      if x_3 = 0 then
      (oo none (hR h_2 5 k0 8) fun k_4 =>
        if kO h_2 4 k_4 = true then (cV (f_R_put k_4 x5 x6 h_2) fun h_5 =>
        (f_S_findFewest_56 k0 k1 x4 (x5 + 1) (x6 + 1) h_5)) else none)
      else
      ((f_S_findFewest_56 k0 k1 x4 x5 (x6 + 1) h_2))) else none) := (exq_run (M := M_46) rfl 17 _ _ _ _).symm.trans rfl
set_option maxRecDepth 100000 in
theorem e_S_findFewest_98 (k0 : Nat) (k1 : Nat) (x5 : Int32) (x6 : Int32) (h : pH) : f_S_findFewest_98 k0 k1 x5 x6 h =
    if x5 ≤ x6 then
    (rV h)
    else
    (if (2520 : Int32) ≤ x6 then
      (rV h)
      else
      (oo none (hR h 5 k0 8) fun k_1 =>
        if kO h 4 k_1 = true then (cI (f_R_get k_1 x6 h) fun x_3 h_2 =>
        oo none (hI h_2 6 k1 4) fun x_4 =>
        if kO h_2 5 k0 = true then (cI (f_S_comeFrom k0 x_3 x_4 x5 h_2) fun x_6 h_5 =>
        (f_S_findFewest_98 k0 k1 x_6 (x6 + 1) h_5)) else none) else none)) := (exq_run (M := M_46) rfl 19 _ _ _ _).symm.trans rfl
noncomputable def f_S_offerBack (k0 : Nat) (k1 : Nat) (k2 : Nat) (x3 : Int32) (h : pH) : pR := run pMs none 49 0 [some (.ref k0), some (.ref k1), some (.ref k2), some (.int x3)] [] h
noncomputable def f_S_offerBack_16 (k0 : Nat) (k1 : Nat) (k2 : Nat) (x3 : Int32) (x4 : Int32) (x5 : Int32) (h : pH) : pR := run pMs none 49 16 [some (.ref k0), some (.ref k1), some (.ref k2), some (.int x3), some (.int x4), some (.int x5)] [] h
noncomputable def f_S_offerBack_110 (k0 : Nat) (k1 : Nat) (k2 : Nat) (x3 : Int32) (x4 : Int32) (x5 : Int32) (x7 : Int32) (x8 : Int32) (x9 : Int32) (h : pH) : pR := run pMs none 49 110 [some (.ref k0), some (.ref k1), some (.ref k2), some (.int x3), some (.int x4), some (.int x5), none, some (.int x7), some (.int x8), some (.int x9)] [] h
theorem e_S_offerBack (k0 : Nat) (k1 : Nat) (k2 : Nat) (x3 : Int32) (h : pH) : f_S_offerBack k0 k1 k2 x3 h =
    oo none (hR h 5 k0 0) fun k_1 =>
    oo none (hR h 0 k_1 3) fun k_2 =>
    if kO h 4 k_2 = true then (cI (f_R_get k_2 x3 h) fun x_4 h_3 =>
    (f_S_offerBack_16 k0 k1 k2 x3 (-1 : Int32) x_4 h_3)) else none := (exq_run (M := M_49) rfl 9 _ _ _ _).symm.trans rfl
set_option maxRecDepth 100000 in
theorem e_S_offerBack_16 (k0 : Nat) (k1 : Nat) (k2 : Nat) (x3 : Int32) (x4 : Int32) (x5 : Int32) (h : pH) : f_S_offerBack_16 k0 k1 k2 x3 x4 x5 h =
    oo none (hR h 5 k0 0) fun k_1 =>
    oo none (hR h 0 k_1 4) fun k_2 =>
    if kO h 4 k_2 = true then (cI (f_R_get k_2 x3 h) fun x_4 h_3 =>
    if x_4 ≤ x5 then
    (rI x4 h_3)
    else
    (oo none (hR h_3 5 k0 0) fun k_5 =>
      oo none (hR h_3 0 k_5 2) fun k_6 =>
      if kO h_3 4 k_6 = true then (cI (f_R_get k_6 x5 h_3) fun x_8 h_7 =>
      if (19 : Int32) = 0 then none else
      if (19 : Int32) = 0 then none else
      if kO h_7 4 k2 = true then (cI (f_R_get k2 x3 h_7) fun x_10 h_9 =>
      oo none (hR h_9 5 k0 0) fun k_11 =>
      oo none (hR h_9 0 k_11 0) fun k_12 =>
      if kO h_9 4 k_12 = true then (cI (f_R_get k_12 (x_8 / (19 : Int32)) h_9) fun x_14 h_13 =>
      oo none (hR h_13 6 k1 3) fun k_15 =>
      cI (f_N_price x_14 k_15 (x_8 - x_8 / (19 : Int32) * (19 : Int32)) h_13) fun x_17 h_16 =>
      if kO h_16 4 k2 = true then (cI (f_R_get k2 (x_8 / (19 : Int32)) h_16) fun x_19 h_18 =>
      if x_19 = (-1 : Int32) then
      ((f_S_offerBack_110 k0 k1 k2 x3 x4 x5 (x_8 / (19 : Int32)) (x_8 - x_8 / (19 : Int32) * (19 : Int32)) (x_10 + x_17) h_18))
      else
      (if x_19 ≤ (x_10 + x_17) then
        ((f_S_offerBack_16 k0 k1 k2 x3 x4 (x5 + 1) h_18))
        else
        ((f_S_offerBack_110 k0 k1 k2 x3 x4 x5 (x_8 / (19 : Int32)) (x_8 - x_8 / (19 : Int32) * (19 : Int32)) (x_10 + x_17) h_18)))) else none) else none) else none) else none)) else none := (exq_run (M := M_49) rfl 48 _ _ _ _).symm.trans rfl
set_option maxRecDepth 100000 in
theorem e_S_offerBack_110 (k0 : Nat) (k1 : Nat) (k2 : Nat) (x3 : Int32) (x4 : Int32) (x5 : Int32) (x7 : Int32) (x8 : Int32) (x9 : Int32) (h : pH) : f_S_offerBack_110 k0 k1 k2 x3 x4 x5 x7 x8 x9 h =
    oo none (hR h 5 k0 0) fun k_1 =>
    oo none (hI h 6 k1 4) fun x_2 =>
    if kO h 0 k_1 = true then (cI (f_G_isHeld k_1 x7 x8 x_2 h) fun x_4 h_3 =>
    if x_4 = 0 then
    (if kO h_3 4 k2 = true then (cV (f_R_put k2 x7 x9 h_3) fun h_5 =>
      (f_S_offerBack_16 k0 k1 k2 x3 (imax x4 x9) (x5 + 1) h_5)) else none)
    else
    ((f_S_offerBack_16 k0 k1 k2 x3 x4 (x5 + 1) h_3))) else none := (exq_run (M := M_49) rfl 19 _ _ _ _).symm.trans rfl
noncomputable def f_S_settleCosts (k0 : Nat) (k1 : Nat) (h : pH) : pR := run pMs none 50 0 [some (.ref k0), some (.ref k1)] [] h
noncomputable def f_S_settleCosts_56 (k0 : Nat) (k1 : Nat) (x3 : Int32) (x4 : Int32) (x5 : Int32) (x6 : Int32) (h : pH) : pR := run pMs none 50 56 [some (.ref k0), some (.ref k1), none, some (.int x3), some (.int x4), some (.int x5), some (.int x6)] [] h
noncomputable def f_S_settleCosts_74 (k0 : Nat) (k1 : Nat) (x3 : Int32) (x4 : Int32) (x5 : Int32) (x6 : Int32) (x7 : Int32) (h : pH) : pR := run pMs none 50 74 [some (.ref k0), some (.ref k1), none, some (.int x3), some (.int x4), some (.int x5), some (.int x6), some (.int x7)] [] h
set_option maxRecDepth 100000 in
theorem e_S_settleCosts (k0 : Nat) (k1 : Nat) (h : pH) : f_S_settleCosts k0 k1 h =
    if kO h 6 k1 = true then (cI (f_B_keyOfCosts k1 h) fun x_2 h_1 =>
    oo none (hI h_1 5 k0 5) fun x_3 =>
    if x_2 = x_3 then
    (rV h_1)
    else
    (if kO h_1 5 k0 = true then
      (oo none (hI (sI h_1 k0 5 x_2) 6 k1 1) fun x_4 =>
      cI (f_G_firstNode x_4 (sI h_1 k0 5 x_2)) fun x_6 h_5 =>
      oo none (hI h_5 6 k1 1) fun x_7 =>
      cI (f_K_wordsOf x_7 h_5) fun x_9 h_8 =>
      oo none (hR h_8 5 k0 2) fun k_10 =>
      if kO h_8 5 k0 = true then (cV (f_S_startAtOrder k0 k1 k_10 x_6 (x_6 + x_9) h_8) fun h_11 =>
      (f_S_settleCosts_56 k0 k1 x_6 (x_6 + x_9) (0 : Int32) (0 : Int32) h_11)) else none)
      else none)) else none := (exq_run (M := M_50) rfl 32 _ _ _ _).symm.trans rfl
theorem e_S_settleCosts_56 (k0 : Nat) (k1 : Nat) (x3 : Int32) (x4 : Int32) (x5 : Int32) (x6 : Int32) (h : pH) : f_S_settleCosts_56 k0 k1 x3 x4 x5 x6 h =
    if x5 < x6 then
    (rV h)
    else
    (if (22680 : Int32) < x6 then
      (rV h)
      else
      ((f_S_settleCosts_74 k0 k1 x3 x4 x5 x6 x3 h))) := (exq_run (M := M_50) rfl 9 _ _ _ _).symm.trans rfl
set_option maxRecDepth 100000 in
theorem e_S_settleCosts_74 (k0 : Nat) (k1 : Nat) (x3 : Int32) (x4 : Int32) (x5 : Int32) (x6 : Int32) (x7 : Int32) (h : pH) : f_S_settleCosts_74 k0 k1 x3 x4 x5 x6 x7 h =
    if x4 ≤ x7 then
    ((f_S_settleCosts_56 k0 k1 x3 x4 x5 (x6 + 1) h))
    else
    (oo none (hR h 5 k0 2) fun k_1 =>
      if kO h 4 k_1 = true then (cI (f_R_get k_1 x7 h) fun x_3 h_2 =>
      if x_3 = x6 then
      (oo none (hR h_2 5 k0 2) fun k_4 =>
        if kO h_2 5 k0 = true then (cI (f_S_offerBack k0 k1 k_4 x7 h_2) fun x_6 h_5 =>
        (f_S_settleCosts_74 k0 k1 x3 x4 (imax x5 x_6) x6 (x7 + 1) h_5)) else none)
      else
      ((f_S_settleCosts_74 k0 k1 x3 x4 x5 x6 (x7 + 1) h_2))) else none) := (exq_run (M := M_50) rfl 21 _ _ _ _).symm.trans rfl
noncomputable def f_S_lowerCosts (k0 : Nat) (k1 : Nat) (h : pH) : pR := run pMs none 51 0 [some (.ref k0), some (.ref k1)] [] h
noncomputable def f_S_lowerCosts_56 (k0 : Nat) (k1 : Nat) (x3 : Int32) (x4 : Int32) (x5 : Int32) (x6 : Int32) (h : pH) : pR := run pMs none 51 56 [some (.ref k0), some (.ref k1), none, some (.int x3), some (.int x4), some (.int x5), some (.int x6)] [] h
noncomputable def f_S_lowerCosts_75 (k0 : Nat) (k1 : Nat) (x3 : Int32) (x4 : Int32) (x5 : Int32) (x6 : Int32) (x7 : Int32) (h : pH) : pR := run pMs none 51 75 [some (.ref k0), some (.ref k1), none, some (.int x3), some (.int x4), some (.int x5), some (.int x6), some (.int x7)] [] h
set_option maxRecDepth 100000 in
theorem e_S_lowerCosts (k0 : Nat) (k1 : Nat) (h : pH) : f_S_lowerCosts k0 k1 h =
    if kO h 6 k1 = true then (cI (f_B_keyOfCosts k1 h) fun x_2 h_1 =>
    oo none (hI h_1 5 k0 6) fun x_3 =>
    if x_2 = x_3 then
    (rV h_1)
    else
    (if kO h_1 5 k0 = true then
      (oo none (hI (sI h_1 k0 6 x_2) 6 k1 1) fun x_4 =>
      cI (f_G_firstNode x_4 (sI h_1 k0 6 x_2)) fun x_6 h_5 =>
      oo none (hI h_5 6 k1 1) fun x_7 =>
      cI (f_K_wordsOf x_7 h_5) fun x_9 h_8 =>
      oo none (hR h_8 5 k0 3) fun k_10 =>
      if kO h_8 5 k0 = true then (cV (f_S_startAtOrder k0 k1 k_10 x_6 (x_6 + x_9) h_8) fun h_11 =>
      (f_S_lowerCosts_56 k0 k1 x_6 (x_6 + x_9) (1 : Int32) (0 : Int32) h_11)) else none)
      else none)) else none := (exq_run (M := M_51) rfl 32 _ _ _ _).symm.trans rfl
theorem e_S_lowerCosts_56 (k0 : Nat) (k1 : Nat) (x3 : Int32) (x4 : Int32) (x5 : Int32) (x6 : Int32) (h : pH) : f_S_lowerCosts_56 k0 k1 x3 x4 x5 x6 h =
    if x5 = 0 then
    (rV h)
    else
    (if (2520 : Int32) < x6 then
      (rV h)
      else
      ((f_S_lowerCosts_75 k0 k1 x3 x4 (0 : Int32) x6 x3 h))) := (exq_run (M := M_51) rfl 10 _ _ _ _).symm.trans rfl
set_option maxRecDepth 100000 in
theorem e_S_lowerCosts_75 (k0 : Nat) (k1 : Nat) (x3 : Int32) (x4 : Int32) (x5 : Int32) (x6 : Int32) (x7 : Int32) (h : pH) : f_S_lowerCosts_75 k0 k1 x3 x4 x5 x6 x7 h =
    if x4 ≤ x7 then
    ((f_S_lowerCosts_56 k0 k1 x3 x4 x5 (x6 + 1) h))
    else
    (oo none (hR h 5 k0 3) fun k_1 =>
      if kO h 4 k_1 = true then (cI (f_R_get k_1 x7 h) fun x_3 h_2 =>
      if x_3 = (-1 : Int32) then
      ((f_S_lowerCosts_75 k0 k1 x3 x4 x5 x6 (x7 + 1) h_2))
      else
      (oo none (hR h_2 5 k0 3) fun k_4 =>
        if kO h_2 5 k0 = true then (cI (f_S_offerBack k0 k1 k_4 x7 h_2) fun x_6 h_5 =>
        if x_6 = (-1 : Int32) then
        ((f_S_lowerCosts_75 k0 k1 x3 x4 x5 x6 (x7 + 1) h_5))
        else
        ((f_S_lowerCosts_75 k0 k1 x3 x4 (1 : Int32) x6 (x7 + 1) h_5))) else none)) else none) := (exq_run (M := M_51) rfl 22 _ _ _ _).symm.trans rfl
noncomputable def f_S_findWays (k0 : Nat) (k1 : Nat) (x2 : Int32) (h : pH) : pR := run pMs none 52 0 [some (.ref k0), some (.ref k1), some (.int x2)] [] h
theorem e_S_findWays (k0 : Nat) (k1 : Nat) (x2 : Int32) (h : pH) : f_S_findWays k0 k1 x2 h =
    if x2 = 0 then
    (if kO h 5 k0 = true then (cV (f_S_findFewest k0 k1 h) fun h_1 =>
    oo none (hR h_1 5 k0 1) fun k_2 =>
    rR k_2 h_1) else none)
    else if x2 = 1 then
    (if kO h 5 k0 = true then (cV (f_S_settleCosts k0 k1 h) fun h_3 =>
    oo none (hR h_3 5 k0 2) fun k_4 =>
    rR k_4 h_3) else none)
    else
    (if kO h 5 k0 = true then (cV (f_S_lowerCosts k0 k1 h) fun h_5 =>
    oo none (hR h_5 5 k0 3) fun k_6 =>
    rR k_6 h_5) else none) := (exq_run (M := M_52) rfl 9 _ _ _ _).symm.trans rfl
noncomputable def f_S_wayFrom (k0 : Nat) (k1 : Nat) (x2 : Int32) (x3 : Int32) (h : pH) : pR := run pMs none 53 0 [some (.ref k0), some (.ref k1), some (.int x2), some (.int x3)] [] h
theorem e_S_wayFrom (k0 : Nat) (k1 : Nat) (x2 : Int32) (x3 : Int32) (h : pH) : f_S_wayFrom k0 k1 x2 x3 h =
    if kO h 5 k0 = true then (cR (f_S_findWays k0 k1 x3 h) fun k_2 h_1 =>
    oo none (hI h_1 6 k1 1) fun x_3 =>
    cI (f_G_firstNode x_3 h_1) fun x_5 h_4 =>
    if kO h_4 4 k_2 = true then (cI (f_R_get k_2 (x_5 + x2) h_4) fun x_7 h_6 =>
    rI x_7 h_6) else none) else none := (exq_run (M := M_53) rfl 12 _ _ _ _).symm.trans rfl
noncomputable def f_S_reachOn (k0 : Nat) (x1 : Int32) (x2 : Int32) (x3 : Int32) (h : pH) : pR := run pMs none 56 0 [some (.ref k0), some (.int x1), some (.int x2), some (.int x3)] [] h
noncomputable def f_S_reachOn_6 (k0 : Nat) (x1 : Int32) (x2 : Int32) (x4 : Int32) (x5 : Int32) (h : pH) : pR := run pMs none 56 6 [some (.ref k0), some (.int x1), some (.int x2), none, some (.int x4), some (.int x5)] [] h
theorem e_S_reachOn (k0 : Nat) (x1 : Int32) (x2 : Int32) (x3 : Int32) (h : pH) : f_S_reachOn k0 x1 x2 x3 h =
    (f_S_reachOn_6 k0 x1 x2 x3 (0 : Int32) h) := (exq_run (M := M_56) rfl 5 _ _ _ _).symm.trans rfl
set_option maxRecDepth 100000 in
theorem e_S_reachOn_6 (k0 : Nat) (x1 : Int32) (x2 : Int32) (x4 : Int32) (x5 : Int32) (h : pH) : f_S_reachOn_6 k0 x1 x2 x4 x5 h =
    if (19 : Int32) ≤ x5 then
    (rI x4 h)
    else
    (oo none (hR h 5 k0 0) fun k_1 =>
      if kO h 0 k_1 = true then (cI (f_G_behind k_1 x1 x5 h) fun x_3 h_2 =>
      if x_3 = (-1 : Int32) then
      ((f_S_reachOn_6 k0 x1 x2 x4 (x5 + 1) h_2))
      else
      (oo none (hR h_2 5 k0 7) fun k_4 =>
        if kO h_2 4 k_4 = true then (cI (f_R_get k_4 x_3 h_2) fun x_6 h_5 =>
        if x_6 = (-1 : Int32) then
        (oo none (hR h_5 5 k0 0) fun k_7 =>
          if kO h_5 0 k_7 = true then (cI (f_G_isHeld k_7 x1 x5 x2 h_5) fun x_9 h_8 =>
          if x_9 = 0 then
          (oo none (hR h_8 5 k0 7) fun k_10 =>
            oo none (hR h_8 5 k0 7) fun k_11 =>
            if kO h_8 4 k_11 = true then (cI (f_R_get k_11 x1 h_8) fun x_13 h_12 =>
            if kO h_12 4 k_10 = true then (cV (f_R_put k_10 x_3 (x_13 + (1 : Int32)) h_12) fun h_14 =>
            oo none (hR h_14 5 k0 8) fun k_15 =>
            if kO h_14 4 k_15 = true then (cV (f_R_put k_15 x4 x_3 h_14) fun h_16 =>
            (f_S_reachOn_6 k0 x1 x2 (x4 + 1) (x5 + 1) h_16)) else none) else none) else none)
          else
          ((f_S_reachOn_6 k0 x1 x2 x4 (x5 + 1) h_8))) else none)
        else
        ((f_S_reachOn_6 k0 x1 x2 x4 (x5 + 1) h_5))) else none)) else none) := (exq_run (M := M_56) rfl 44 _ _ _ _).symm.trans rfl
noncomputable def f_S_reach (k0 : Nat) (k1 : Nat) (x2 : Int32) (h : pH) : pR := run pMs none 57 0 [some (.ref k0), some (.ref k1), some (.int x2)] [] h
noncomputable def f_S_reach_11 (k0 : Nat) (k1 : Nat) (x2 : Int32) (x3 : Int32) (x4 : Int32) (h : pH) : pR := run pMs none 57 11 [some (.ref k0), some (.ref k1), some (.int x2), some (.int x3), some (.int x4)] [] h
noncomputable def f_S_reach_75 (k0 : Nat) (x2 : Int32) (x5 : Int32) (x6 : Int32) (h : pH) : pR := run pMs none 57 75 [some (.ref k0), none, some (.int x2), none, none, some (.int x5), some (.int x6)] [] h
theorem e_S_reach (k0 : Nat) (k1 : Nat) (x2 : Int32) (h : pH) : f_S_reach k0 k1 x2 h =
    oo none (hI h 6 k1 1) fun x_1 =>
    cI (f_G_firstNode x_1 h) fun x_3 h_2 =>
    (f_S_reach_11 k0 k1 x2 x_3 (0 : Int32) h_2) := (exq_run (M := M_57) rfl 7 _ _ _ _).symm.trans rfl
set_option maxRecDepth 100000 in
theorem e_S_reach_11 (k0 : Nat) (k1 : Nat) (x2 : Int32) (x3 : Int32) (x4 : Int32) (h : pH) : f_S_reach_11 k0 k1 x2 x3 x4 h =
    oo none (hI h 6 k1 1) fun x_1 =>
    cI (f_K_wordsOf x_1 h) fun x_3 h_2 =>
    if x_3 ≤ x4 then
    (if kO h_2 6 k1 = true then (cI (f_B_rankOfNow k1 h_2) fun x_5 h_4 =>
      oo none (hR h_4 5 k0 7) fun k_6 =>
      if kO h_4 4 k_6 = true then (cV (f_R_put k_6 (x3 + x_5) (0 : Int32) h_4) fun h_7 =>
      oo none (hR h_7 5 k0 8) fun k_8 =>
      if kO h_7 4 k_8 = true then (cV (f_R_put k_8 (0 : Int32) (x3 + x_5) h_7) fun h_9 =>
      (f_S_reach_75 k0 x2 (1 : Int32) (0 : Int32) h_9)) else none) else none) else none)
    else
    (oo none (hR h_2 5 k0 7) fun k_10 =>
      if kO h_2 4 k_10 = true then (cV (f_R_put k_10 (x3 + x4) (-1 : Int32) h_2) fun h_11 =>
      (f_S_reach_11 k0 k1 x2 x3 (x4 + 1) h_11)) else none) := (exq_run (M := M_57) rfl 25 _ _ _ _).symm.trans rfl
set_option maxRecDepth 100000 in
theorem e_S_reach_75 (k0 : Nat) (x2 : Int32) (x5 : Int32) (x6 : Int32) (h : pH) : f_S_reach_75 k0 x2 x5 x6 h =
    if x5 ≤ x6 then
    (rI x5 h)
    else
    (if (2520 : Int32) ≤ x6 then
      (rI x5 h)
      else
      (oo none (hR h 5 k0 8) fun k_1 =>
        if kO h 4 k_1 = true then (cI (f_R_get k_1 x6 h) fun x_3 h_2 =>
        if kO h_2 5 k0 = true then (cI (f_S_reachOn k0 x_3 x2 x5 h_2) fun x_5 h_4 =>
        (f_S_reach_75 k0 x2 x_5 (x6 + 1) h_4)) else none) else none)) := (exq_run (M := M_57) rfl 18 _ _ _ _).symm.trans rfl
noncomputable def f_S_wayWith (k0 : Nat) (k1 : Nat) (x2 : Int32) (h : pH) : pR := run pMs none 58 0 [some (.ref k0), some (.ref k1), some (.int x2)] [] h
noncomputable def f_S_wayWith_10 (k0 : Nat) (k1 : Nat) (x3 : Int32) (x4 : Int32) (h : pH) : pR := run pMs none 58 10 [some (.ref k0), some (.ref k1), none, some (.int x3), some (.int x4)] [] h
theorem e_S_wayWith (k0 : Nat) (k1 : Nat) (x2 : Int32) (h : pH) : f_S_wayWith k0 k1 x2 h =
    if kO h 5 k0 = true then (cI (f_S_reach k0 k1 x2 h) fun x_2 h_1 =>
    (f_S_wayWith_10 k0 k1 x_2 (0 : Int32) h_1)) else none := (exq_run (M := M_58) rfl 8 _ _ _ _).symm.trans rfl
set_option maxRecDepth 100000 in
theorem e_S_wayWith_10 (k0 : Nat) (k1 : Nat) (x3 : Int32) (x4 : Int32) (h : pH) : f_S_wayWith_10 k0 k1 x3 x4 h =
    if x3 ≤ x4 then
    (rI (-1 : Int32) h)
    else
    (oo none (hR h 5 k0 8) fun k_1 =>
      if kO h 4 k_1 = true then (cI (f_R_get k_1 x4 h) fun x_3 h_2 =>
      oo none (hR h_2 5 k0 0) fun k_4 =>
      oo none (hR h_2 0 k_4 0) fun k_5 =>
      if kO h_2 4 k_5 = true then (cI (f_R_get k_5 x_3 h_2) fun x_7 h_6 =>
      oo none (hI h_6 6 k1 5) fun x_8 =>
      oo none (hI h_6 6 k1 6) fun x_9 =>
      cI (f_N_isInOrder x_7 x_8 x_9 h_6) fun x_11 h_10 =>
      if x_11 = 0 then
      ((f_S_wayWith_10 k0 k1 x3 (x4 + 1) h_10))
      else
      (oo none (hR h_10 5 k0 7) fun k_12 =>
        if kO h_10 4 k_12 = true then (cI (f_R_get k_12 x_3 h_10) fun x_14 h_13 =>
        rI x_14 h_13) else none)) else none) else none) := (exq_run (M := M_58) rfl 25 _ _ _ _).symm.trans rfl
noncomputable def f_S_savableWords (k0 : Nat) (k1 : Nat) (h : pH) : pR := run pMs none 60 0 [some (.ref k0), some (.ref k1)] [] h
noncomputable def f_S_savableWords_21 (k1 : Nat) (k2 : Nat) (x3 : Int32) (x4 : Int32) (x5 : Int32) (h : pH) : pR := run pMs none 60 21 [none, some (.ref k1), some (.ref k2), some (.int x3), some (.int x4), some (.int x5)] [] h
set_option maxRecDepth 100000 in
theorem e_S_savableWords (k0 : Nat) (k1 : Nat) (h : pH) : f_S_savableWords k0 k1 h =
    if kO h 5 k0 = true then (cR (f_S_findWays k0 k1 (0 : Int32) h) fun k_2 h_1 =>
    oo none (hI h_1 6 k1 1) fun x_3 =>
    cI (f_G_firstNode x_3 h_1) fun x_5 h_4 =>
    (f_S_savableWords_21 k1 k_2 x_5 (0 : Int32) (0 : Int32) h_4)) else none := (exq_run (M := M_60) rfl 14 _ _ _ _).symm.trans rfl
set_option maxRecDepth 100000 in
theorem e_S_savableWords_21 (k1 : Nat) (k2 : Nat) (x3 : Int32) (x4 : Int32) (x5 : Int32) (h : pH) : f_S_savableWords_21 k1 k2 x3 x4 x5 h =
    oo none (hI h 6 k1 1) fun x_1 =>
    cI (f_K_wordsOf x_1 h) fun x_3 h_2 =>
    if x_3 ≤ x5 then
    (rI x4 h_2)
    else
    (if kO h_2 4 k2 = true then (cI (f_R_get k2 (x3 + x5) h_2) fun x_5 h_4 =>
      if x_5 = (-1 : Int32) then
      ((f_S_savableWords_21 k1 k2 x3 x4 (x5 + 1) h_4))
      else
      ((f_S_savableWords_21 k1 k2 x3 (x4 + 1) (x5 + 1) h_4))) else none) := (exq_run (M := M_60) rfl 16 _ _ _ _).symm.trans rfl
noncomputable def f_S_sumOfWays (k0 : Nat) (k1 : Nat) (h : pH) : pR := run pMs none 61 0 [some (.ref k0), some (.ref k1)] [] h
noncomputable def f_S_sumOfWays_21 (k1 : Nat) (k2 : Nat) (x3 : Int32) (x4 : Int32) (x5 : Int32) (h : pH) : pR := run pMs none 61 21 [none, some (.ref k1), some (.ref k2), some (.int x3), some (.int x4), some (.int x5)] [] h
set_option maxRecDepth 100000 in
theorem e_S_sumOfWays (k0 : Nat) (k1 : Nat) (h : pH) : f_S_sumOfWays k0 k1 h =
    if kO h 5 k0 = true then (cR (f_S_findWays k0 k1 (0 : Int32) h) fun k_2 h_1 =>
    oo none (hI h_1 6 k1 1) fun x_3 =>
    cI (f_G_firstNode x_3 h_1) fun x_5 h_4 =>
    (f_S_sumOfWays_21 k1 k_2 x_5 (0 : Int32) (0 : Int32) h_4)) else none := (exq_run (M := M_61) rfl 14 _ _ _ _).symm.trans rfl
set_option maxRecDepth 100000 in
theorem e_S_sumOfWays_21 (k1 : Nat) (k2 : Nat) (x3 : Int32) (x4 : Int32) (x5 : Int32) (h : pH) : f_S_sumOfWays_21 k1 k2 x3 x4 x5 h =
    oo none (hI h 6 k1 1) fun x_1 =>
    cI (f_K_wordsOf x_1 h) fun x_3 h_2 =>
    if x_3 ≤ x5 then
    (rI x4 h_2)
    else
    (if kO h_2 4 k2 = true then (cI (f_R_get k2 (x3 + x5) h_2) fun x_5 h_4 =>
      (f_S_sumOfWays_21 k1 k2 x3 (x4 + (imax x_5 (0 : Int32))) (x5 + 1) h_4)) else none) := (exq_run (M := M_61) rfl 18 _ _ _ _).symm.trans rfl
noncomputable def f_S_nextMove (k0 : Nat) (k1 : Nat) (k2 : Nat) (x3 : Int32) (x4 : Int32) (h : pH) : pR := run pMs none 107 0 [some (.ref k0), some (.ref k1), some (.ref k2), some (.int x3), some (.int x4)] [] h
noncomputable def f_S_nextMove_3 (k0 : Nat) (k1 : Nat) (k2 : Nat) (x3 : Int32) (x4 : Int32) (x5 : Int32) (h : pH) : pR := run pMs none 107 3 [some (.ref k0), some (.ref k1), some (.ref k2), some (.int x3), some (.int x4), some (.int x5)] [] h
noncomputable def f_S_nextMove_86 (k0 : Nat) (k1 : Nat) (k2 : Nat) (x3 : Int32) (x4 : Int32) (x5 : Int32) (x6 : Int32) (t0 : Int32) (h : pH) : pR := run pMs none 107 86 [some (.ref k0), some (.ref k1), some (.ref k2), some (.int x3), some (.int x4), some (.int x5), some (.int x6)] [.int t0] h
theorem e_S_nextMove (k0 : Nat) (k1 : Nat) (k2 : Nat) (x3 : Int32) (x4 : Int32) (h : pH) : f_S_nextMove k0 k1 k2 x3 x4 h =
    (f_S_nextMove_3 k0 k1 k2 x3 x4 (0 : Int32) h) := (exq_run (M := M_107) rfl 3 _ _ _ _).symm.trans rfl
set_option maxRecDepth 100000 in
theorem e_S_nextMove_3 (k0 : Nat) (k1 : Nat) (k2 : Nat) (x3 : Int32) (x4 : Int32) (x5 : Int32) (h : pH) : f_S_nextMove_3 k0 k1 k2 x3 x4 x5 h =
    if (19 : Int32) ≤ x5 then
    (rI (-1 : Int32) h)
    else
    (oo none (hR h 5 k0 0) fun k_1 =>
      if kO h 0 k_1 = true then (cI (f_G_behind k_1 x4 x5 h) fun x_3 h_2 =>
      if x_3 = (-1 : Int32) then
      ((f_S_nextMove_3 k0 k1 k2 x3 x4 (x5 + 1) h_2))
      else
      (if kO h_2 4 k2 = true then (cI (f_R_get k2 x_3 h_2) fun x_5 h_4 =>
        if x_5 = (-1 : Int32) then
        ((f_S_nextMove_3 k0 k1 k2 x3 x4 (x5 + 1) h_4))
        else
        (oo none (hR h_4 5 k0 0) fun k_6 =>
          oo none (hI h_4 6 k1 4) fun x_7 =>
          if kO h_4 0 k_6 = true then (cI (f_G_isHeld k_6 x4 x5 x_7 h_4) fun x_9 h_8 =>
          if x_9 = 0 then
          (if x3 = 0 then
            ((f_S_nextMove_86 k0 k1 k2 x3 x4 x5 x_3 (1 : Int32) h_8))
            else
            (oo none (hR h_8 5 k0 0) fun k_10 =>
              oo none (hR h_8 0 k_10 0) fun k_11 =>
              if kO h_8 4 k_11 = true then (cI (f_R_get k_11 x4 h_8) fun x_13 h_12 =>
              oo none (hR h_12 6 k1 3) fun k_14 =>
              cI (f_N_price x_13 k_14 x5 h_12) fun x_16 h_15 =>
              (f_S_nextMove_86 k0 k1 k2 x3 x4 x5 x_3 x_16 h_15)) else none))
          else
          ((f_S_nextMove_3 k0 k1 k2 x3 x4 (x5 + 1) h_8))) else none)) else none)) else none) := (exq_run (M := M_107) rfl 38 _ _ _ _).symm.trans rfl
theorem e_S_nextMove_86 (k0 : Nat) (k1 : Nat) (k2 : Nat) (x3 : Int32) (x4 : Int32) (x5 : Int32) (x6 : Int32) (t0 : Int32) (h : pH) : f_S_nextMove_86 k0 k1 k2 x3 x4 x5 x6 t0 h =
    if kO h 4 k2 = true then (cI (f_R_get k2 x6 h) fun x_2 h_1 =>
    if kO h_1 4 k2 = true then (cI (f_R_get k2 x4 h_1) fun x_4 h_3 =>
    if (t0 + x_2) = x_4 then
    (rI x5 h_3)
    else
    ((f_S_nextMove_3 k0 k1 k2 x3 x4 (x5 + 1) h_3))) else none) else none := (exq_run (M := M_107) rfl 13 _ _ _ _).symm.trans rfl
noncomputable def f_S_plannedMove (k0 : Nat) (k1 : Nat) (x2 : Int32) (x3 : Int32) (h : pH) : pR := run pMs none 108 0 [some (.ref k0), some (.ref k1), some (.int x2), some (.int x3)] [] h
noncomputable def f_S_plannedMove_11 (k0 : Nat) (k1 : Nat) (x2 : Int32) (x3 : Int32) (t0 : Nat) (t1 : Nat) (t2 : Int32) (h : pH) : pR := run pMs none 108 11 [some (.ref k0), some (.ref k1), some (.int x2), some (.int x3)] [.int t2, .ref t1, .ref t0] h
noncomputable def f_S_plannedMove_36 (k0 : Nat) (k1 : Nat) (x2 : Int32) (x3 : Int32) (k4 : Nat) (x5 : Int32) (x6 : Int32) (x7 : Int32) (h : pH) : pR := run pMs none 108 36 [some (.ref k0), some (.ref k1), some (.int x2), some (.int x3), some (.ref k4), some (.int x5), some (.int x6), some (.int x7)] [] h
noncomputable def f_S_plannedMove_89 (x3 : Int32) (x6 : Int32) (h : pH) : pR := run pMs none 108 89 [none, none, none, some (.int x3), none, none, some (.int x6)] [] h
theorem e_S_plannedMove (k0 : Nat) (k1 : Nat) (x2 : Int32) (x3 : Int32) (h : pH) : f_S_plannedMove k0 k1 x2 x3 h =
    if x2 = 0 then
    ((f_S_plannedMove_11 k0 k1 x2 x3 k0 k1 (0 : Int32) h))
    else
    ((f_S_plannedMove_11 k0 k1 x2 x3 k0 k1 (1 : Int32) h)) := (exq_run (M := M_108) rfl 7 _ _ _ _).symm.trans rfl
set_option maxRecDepth 100000 in
theorem e_S_plannedMove_11 (k0 : Nat) (k1 : Nat) (x2 : Int32) (x3 : Int32) (t0 : Nat) (t1 : Nat) (t2 : Int32) (h : pH) : f_S_plannedMove_11 k0 k1 x2 x3 t0 t1 t2 h =
    if kO h 5 t0 = true then (cR (f_S_findWays t0 t1 t2 h) fun k_2 h_1 =>
    oo none (hI h_1 6 k1 1) fun x_3 =>
    cI (f_G_firstNode x_3 h_1) fun x_5 h_4 =>
    if kO h_4 6 k1 = true then (cI (f_B_rankOfNow k1 h_4) fun x_7 h_6 =>
    (f_S_plannedMove_36 k0 k1 x2 x3 k_2 (x_5 + x_7) (-1 : Int32) (0 : Int32) h_6)) else none) else none := (exq_run (M := M_108) rfl 14 _ _ _ _).symm.trans rfl
set_option maxRecDepth 100000 in
theorem e_S_plannedMove_36 (k0 : Nat) (k1 : Nat) (x2 : Int32) (x3 : Int32) (k4 : Nat) (x5 : Int32) (x6 : Int32) (x7 : Int32) (h : pH) : f_S_plannedMove_36 k0 k1 x2 x3 k4 x5 x6 x7 h =
    if x3 < x7 then
    ((f_S_plannedMove_89 x3 x6 h))
    else
    (if (2520 : Int32) ≤ x7 then
      ((f_S_plannedMove_89 x3 x6 h))
      else
      (if kO h 5 k0 = true then (cI (f_S_nextMove k0 k1 k4 x2 x5 h) fun x_2 h_1 =>
        if x_2 = (-1 : Int32) then
        (rI (-1 : Int32) h_1)
        else
        (oo none (hR h_1 5 k0 0) fun k_3 =>
          if kO h_1 0 k_3 = true then (cI (f_G_behind k_3 x5 x_2 h_1) fun x_5 h_4 =>
          (f_S_plannedMove_36 k0 k1 x2 x3 k4 x_5 x_2 (x7 + 1) h_4)) else none)) else none)) := (exq_run (M := M_108) rfl 25 _ _ _ _).symm.trans rfl
theorem e_S_plannedMove_89 (x3 : Int32) (x6 : Int32) (h : pH) : f_S_plannedMove_89 x3 x6 h =
    if (2520 : Int32) ≤ x3 then
    (rI (-1 : Int32) h)
    else
    (rI x6 h) := (exq_run (M := M_108) rfl 7 _ _ _ _).symm.trans rfl
noncomputable def f_S_greatestWay (k0 : Nat) (k1 : Nat) (x2 : Int32) (h : pH) : pR := run pMs none 112 0 [some (.ref k0), some (.ref k1), some (.int x2)] [] h
noncomputable def f_S_greatestWay_22 (k1 : Nat) (k3 : Nat) (x4 : Int32) (x5 : Int32) (x6 : Int32) (h : pH) : pR := run pMs none 112 22 [none, some (.ref k1), none, some (.ref k3), some (.int x4), some (.int x5), some (.int x6)] [] h
set_option maxRecDepth 100000 in
theorem e_S_greatestWay (k0 : Nat) (k1 : Nat) (x2 : Int32) (h : pH) : f_S_greatestWay k0 k1 x2 h =
    if kO h 5 k0 = true then (cR (f_S_findWays k0 k1 x2 h) fun k_2 h_1 =>
    oo none (hI h_1 6 k1 1) fun x_3 =>
    cI (f_G_firstNode x_3 h_1) fun x_5 h_4 =>
    (f_S_greatestWay_22 k1 k_2 x_5 (0 : Int32) (0 : Int32) h_4)) else none := (exq_run (M := M_112) rfl 14 _ _ _ _).symm.trans rfl
set_option maxRecDepth 100000 in
theorem e_S_greatestWay_22 (k1 : Nat) (k3 : Nat) (x4 : Int32) (x5 : Int32) (x6 : Int32) (h : pH) : f_S_greatestWay_22 k1 k3 x4 x5 x6 h =
    oo none (hI h 6 k1 1) fun x_1 =>
    cI (f_K_wordsOf x_1 h) fun x_3 h_2 =>
    if x_3 ≤ x6 then
    (rI x5 h_2)
    else
    (if kO h_2 4 k3 = true then (cI (f_R_get k3 (x4 + x6) h_2) fun x_5 h_4 =>
      (f_S_greatestWay_22 k1 k3 x4 (imax x5 x_5) (x6 + 1) h_4)) else none) := (exq_run (M := M_112) rfl 16 _ _ _ _).symm.trans rfl
noncomputable def f_S_worstRank (k0 : Nat) (k1 : Nat) (h : pH) : pR := run pMs none 113 0 [some (.ref k0), some (.ref k1)] [] h
noncomputable def f_S_worstRank_24 (k1 : Nat) (k2 : Nat) (x3 : Int32) (x4 : Int32) (x5 : Int32) (x6 : Int32) (h : pH) : pR := run pMs none 113 24 [none, some (.ref k1), some (.ref k2), some (.int x3), some (.int x4), some (.int x5), some (.int x6)] [] h
set_option maxRecDepth 100000 in
theorem e_S_worstRank (k0 : Nat) (k1 : Nat) (h : pH) : f_S_worstRank k0 k1 h =
    if kO h 5 k0 = true then (cR (f_S_findWays k0 k1 (0 : Int32) h) fun k_2 h_1 =>
    oo none (hI h_1 6 k1 1) fun x_3 =>
    cI (f_G_firstNode x_3 h_1) fun x_5 h_4 =>
    (f_S_worstRank_24 k1 k_2 x_5 (-1 : Int32) (0 : Int32) (0 : Int32) h_4)) else none := (exq_run (M := M_113) rfl 16 _ _ _ _).symm.trans rfl
set_option maxRecDepth 100000 in
theorem e_S_worstRank_24 (k1 : Nat) (k2 : Nat) (x3 : Int32) (x4 : Int32) (x5 : Int32) (x6 : Int32) (h : pH) : f_S_worstRank_24 k1 k2 x3 x4 x5 x6 h =
    oo none (hI h 6 k1 1) fun x_1 =>
    cI (f_K_wordsOf x_1 h) fun x_3 h_2 =>
    if x_3 ≤ x6 then
    (rI x5 h_2)
    else
    (if kO h_2 4 k2 = true then (cI (f_R_get k2 (x3 + x6) h_2) fun x_5 h_4 =>
      if x_5 ≤ x4 then
      ((f_S_worstRank_24 k1 k2 x3 x4 x5 (x6 + 1) h_4))
      else
      (if kO h_4 4 k2 = true then (cI (f_R_get k2 (x3 + x6) h_4) fun x_7 h_6 =>
        (f_S_worstRank_24 k1 k2 x3 x_7 x6 (x6 + 1) h_6)) else none)) else none) := (exq_run (M := M_113) rfl 23 _ _ _ _).symm.trans rfl
