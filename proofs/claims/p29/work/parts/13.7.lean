noncomputable def f_L_low (x0 : Int32) (x1 : Int32) (h : pH) : pR := run pMs none 70 0 [some (.int x0), some (.int x1)] [] h
theorem e_L_low (x0 : Int32) (x1 : Int32) (h : pH) : f_L_low x0 x1 h =
    if x1 = 0 then none else
    rI ((x0 &&& (2147483647 : Int32)) - (x0 &&& (2147483647 : Int32)) / x1 * x1) h := (exq_run (M := M_70) rfl 7 _ _ _ _).symm.trans rfl
noncomputable def f_L_isArranged (k0 : Nat) (x1 : Int32) (h : pH) : pR := run pMs none 92 0 [some (.ref k0), some (.int x1)] [] h
noncomputable def f_L_isArranged_29 (k0 : Nat) (x1 : Int32) (x2 : Int32) (x3 : Int32) (x4 : Int32) (x5 : Int32) (x6 : Int32) (h : pH) : pR := run pMs none 92 29 [some (.ref k0), some (.int x1), some (.int x2), some (.int x3), some (.int x4), some (.int x5), some (.int x6)] [] h
set_option maxRecDepth 100000 in
theorem e_L_isArranged (k0 : Nat) (x1 : Int32) (h : pH) : f_L_isArranged k0 x1 h =
    if kO h 7 k0 = true then (cI (f_X_count k0 (8 : Int32) h) fun x_2 h_1 =>
    if kO h_1 7 k0 = true then (cI (f_X_count k0 (2 : Int32) h_1) fun x_4 h_3 =>
    if kO h_3 7 k0 = true then (cI (f_X_count k0 (1 : Int32) h_3) fun x_6 h_5 =>
    if kO h_5 7 k0 = true then (cI (f_X_clear k0 h_5) fun x_8 h_7 =>
    (f_L_isArranged_29 k0 x1 x_2 x_4 x_6 x_8 (0 : Int32) h_7)) else none) else none) else none) else none := (exq_run (M := M_92) rfl 18 _ _ _ _).symm.trans rfl
set_option maxRecDepth 100000 in
theorem e_L_isArranged_29 (k0 : Nat) (x1 : Int32) (x2 : Int32) (x3 : Int32) (x4 : Int32) (x5 : Int32) (x6 : Int32) (h : pH) : f_L_isArranged_29 k0 x1 x2 x3 x4 x5 x6 h =
    if (7 : Int32) ≤ x6 then
    (if x5 = (7 : Int32) then
      (if kO h 7 k0 = true then (cI (f_X_fault k0 (1 : Int32) h) fun x_2 h_1 =>
        if x_2 = (-4 : Int32) then
        (if kO h_1 7 k0 = true then (cI (f_X_arrange k0 h_1) fun x_4 h_3 =>
          if x_4 = x1 then
          (if kO h_3 7 k0 = true then (cI (f_X_count k0 (5 : Int32) h_3) fun x_6 h_5 =>
            if x_6 = x1 then
            (if kO h_5 7 k0 = true then (cI (f_X_count k0 (8 : Int32) h_5) fun x_8 h_7 =>
              if x_8 = x2 then
              (if kO h_7 7 k0 = true then (cI (f_X_count k0 (2 : Int32) h_7) fun x_10 h_9 =>
                if x_10 = x3 then
                (if kO h_9 7 k0 = true then (cI (f_X_count k0 (1 : Int32) h_9) fun x_12 h_11 =>
                  if x_12 = x4 then
                  (if kO h_11 7 k0 = true then (cI (f_X_count k0 (14 : Int32) h_11) fun x_14 h_13 =>
                    if x_14 = 0 then
                    (rI (1 : Int32) h_13)
                    else
                    (rI (0 : Int32) h_13)) else none)
                  else
                  (rI (0 : Int32) h_11)) else none)
                else
                (rI (0 : Int32) h_9)) else none)
              else
              (rI (0 : Int32) h_7)) else none)
            else
            (rI (0 : Int32) h_5)) else none)
          else
          (rI (0 : Int32) h_3)) else none)
        else
        (rI (0 : Int32) h_1)) else none)
      else
      (rI (0 : Int32) h))
    else
    (if kO h 7 k0 = true then (cI (f_X_word k0 x1 x6 h) fun x_16 h_15 =>
      if x_16 = (-4 : Int32) then
      (if kO h_15 7 k0 = true then (cI (f_X_append k0 (46 : Int32) h_15) fun x_20 h_19 =>
        (f_L_isArranged_29 k0 x1 x2 x3 x4 x_20 (x6 + 1) h_19)) else none)
      else
      (if kO h_15 7 k0 = true then (cI (f_X_append k0 ((97 : Int32) + x_16) h_15) fun x_18 h_17 =>
        (f_L_isArranged_29 k0 x1 x2 x3 x4 x_18 (x6 + 1) h_17)) else none)) else none) := (exq_run (M := M_92) rfl 43 _ _ _ _).symm.trans rfl
noncomputable def f_L_moves (k0 : Nat) (x1 : Int32) (h : pH) : pR := run pMs none 99 0 [some (.ref k0), some (.int x1)] [] h
set_option maxRecDepth 100000 in
theorem e_L_moves (k0 : Nat) (x1 : Int32) (h : pH) : f_L_moves k0 x1 h =
    if (7 : Int32) ≤ x1 then
    (if (6 : Int32) = 0 then none else
      if (13 : Int32) ≤ x1 then
      (if kO h 7 k0 = true then (cI (f_X_push k0 ((x1 - (7 : Int32)) - (x1 - (7 : Int32)) / (6 : Int32) * (6 : Int32)) (0 : Int32) h) fun x_2 h_1 =>
        rI x_2 h_1) else none)
      else
      (if kO h 7 k0 = true then (cI (f_X_push k0 ((x1 - (7 : Int32)) - (x1 - (7 : Int32)) / (6 : Int32) * (6 : Int32)) (1 : Int32) h) fun x_4 h_3 =>
        rI x_4 h_3) else none))
    else
    (if kO h 7 k0 = true then (cI (f_X_pull k0 x1 h) fun x_6 h_5 =>
      rI x_6 h_5) else none) := (exq_run (M := M_99) rfl 17 _ _ _ _).symm.trans rfl
noncomputable def f_L_isMade (k0 : Nat) (x1 : Int32) (h : pH) : pR := run pMs none 100 0 [some (.ref k0), some (.int x1)] [] h
noncomputable def f_L_isMade_35 (k0 : Nat) (x1 : Int32) (x2 : Int32) (x3 : Int32) (x4 : Int32) (t0 : Int32) (h : pH) : pR := run pMs none 100 35 [some (.ref k0), some (.int x1), some (.int x2), some (.int x3), some (.int x4)] [.int t0] h
noncomputable def f_L_isMade_153 (k0 : Nat) (x3 : Int32) (x4 : Int32) (x6 : Int32) (x7 : Int32) (x8 : Int32) (t0 : Int32) (t1 : Int32) (h : pH) : pR := run pMs none 100 153 [some (.ref k0), none, none, some (.int x3), some (.int x4), none, some (.int x6), some (.int x7), some (.int x8)] [.int t1, .int t0] h
set_option maxRecDepth 100000 in
theorem e_L_isMade (k0 : Nat) (x1 : Int32) (h : pH) : f_L_isMade k0 x1 h =
    if kO h 7 k0 = true then (cI (f_X_whyNot k0 x1 h) fun x_2 h_1 =>
    if kO h_1 7 k0 = true then (cI (f_X_cost k0 x1 h_1) fun x_4 h_3 =>
    if kO h_3 7 k0 = true then (cI (f_X_leads k0 x1 h_3) fun x_6 h_5 =>
    if (7 : Int32) ≤ x1 then
    ((f_L_isMade_35 k0 x1 x_2 x_4 x_6 (0 : Int32) h_5))
    else
    (if kO h_5 7 k0 = true then (cI (f_X_at k0 x1 (3 : Int32) h_5) fun x_8 h_7 =>
      (f_L_isMade_35 k0 x1 x_2 x_4 x_6 x_8 h_7)) else none)) else none) else none) else none := (exq_run (M := M_100) rfl 21 _ _ _ _).symm.trans rfl
set_option maxRecDepth 100000 in
theorem e_L_isMade_35 (k0 : Nat) (x1 : Int32) (x2 : Int32) (x3 : Int32) (x4 : Int32) (t0 : Int32) (h : pH) : f_L_isMade_35 k0 x1 x2 x3 x4 t0 h =
    if kO h 7 k0 = true then (cI (f_X_count k0 (8 : Int32) h) fun x_2 h_1 =>
    if kO h_1 7 k0 = true then (cI (f_X_count k0 (9 : Int32) h_1) fun x_4 h_3 =>
    if kO h_3 7 k0 = true then (cI (f_X_count k0 (10 : Int32) h_3) fun x_6 h_5 =>
    if kO h_5 7 k0 = true then (cI (f_X_count k0 (5 : Int32) h_5) fun x_8 h_7 =>
    cI (f_L_moves k0 x1 h_7) fun x_10 h_9 =>
    if x2 ≤ 0 then
    (if (7 : Int32) ≤ x1 then
      ((f_L_isMade_153 k0 x3 x4 x_2 x_4 x_6 x_10 (0 : Int32) h_9))
      else
      ((f_L_isMade_153 k0 x3 x4 x_2 x_4 x_6 x_10 ((10 : Int32) + t0) h_9)))
    else
    (if x_10 = x2 then
      (if kO h_9 7 k0 = true then (cI (f_X_count k0 (8 : Int32) h_9) fun x_12 h_11 =>
        if x_12 = x_2 then
        (if kO h_11 7 k0 = true then (cI (f_X_count k0 (9 : Int32) h_11) fun x_14 h_13 =>
          if x_14 = x_4 then
          (if kO h_13 7 k0 = true then (cI (f_X_count k0 (10 : Int32) h_13) fun x_16 h_15 =>
            if x_16 = (x_6 + (1 : Int32)) then
            (if kO h_15 7 k0 = true then (cI (f_X_count k0 (5 : Int32) h_15) fun x_18 h_17 =>
              if x_18 = x_8 then
              (rI (1 : Int32) h_17)
              else
              (rI (0 : Int32) h_17)) else none)
            else
            (rI (0 : Int32) h_15)) else none)
          else
          (rI (0 : Int32) h_13)) else none)
        else
        (rI (0 : Int32) h_11)) else none)
      else
      (rI (0 : Int32) h_9))) else none) else none) else none) else none := (exq_run (M := M_100) rfl 52 _ _ _ _).symm.trans rfl
set_option maxRecDepth 100000 in
theorem e_L_isMade_153 (k0 : Nat) (x3 : Int32) (x4 : Int32) (x6 : Int32) (x7 : Int32) (x8 : Int32) (t0 : Int32) (t1 : Int32) (h : pH) : f_L_isMade_153 k0 x3 x4 x6 x7 x8 t0 t1 h =
    if t0 = t1 then
    (if kO h 7 k0 = true then (cI (f_X_count k0 (8 : Int32) h) fun x_2 h_1 =>
      if x_2 = (x6 + (1 : Int32)) then
      (if kO h_1 7 k0 = true then (cI (f_X_count k0 (9 : Int32) h_1) fun x_4 h_3 =>
        if x_4 = (x7 + x3) then
        (if kO h_3 7 k0 = true then (cI (f_X_count k0 (10 : Int32) h_3) fun x_6 h_5 =>
          if x_6 = x8 then
          (if kO h_5 7 k0 = true then (cI (f_X_count k0 (5 : Int32) h_5) fun x_8 h_7 =>
            if x_8 = x4 then
            (rI (1 : Int32) h_7)
            else
            (rI (0 : Int32) h_7)) else none)
          else
          (rI (0 : Int32) h_5)) else none)
        else
        (rI (0 : Int32) h_3)) else none)
      else
      (rI (0 : Int32) h_1)) else none)
    else
    (rI (0 : Int32) h) := (exq_run (M := M_100) rfl 29 _ _ _ _).symm.trans rfl
noncomputable def f_L_does (k0 : Nat) (x1 : Int32) (h : pH) : pR := run pMs none 101 0 [some (.ref k0), some (.int x1)] [] h
noncomputable def f_L_does_76 (k0 : Nat) (x1 : Int32) (x2 : Int32) (x3 : Int32) (x4 : Int32) (h : pH) : pR := run pMs none 101 76 [some (.ref k0), some (.int x1), some (.int x2), some (.int x3), some (.int x4)] [] h
noncomputable def f_L_does_101 (k0 : Nat) (x1 : Int32) (x2 : Int32) (x4 : Int32) (x5 : Int32) (x6 : Int32) (x7 : Int32) (h : pH) : pR := run pMs none 101 101 [some (.ref k0), some (.int x1), some (.int x2), none, some (.int x4), some (.int x5), some (.int x6), some (.int x7)] [] h
noncomputable def f_L_does_185 (k0 : Nat) (x1 : Int32) (x2 : Int32) (x7 : Int32) (t0 : Int32) (t1 : Int32) (h : pH) : pR := run pMs none 101 185 [some (.ref k0), some (.int x1), some (.int x2), none, none, none, none, some (.int x7)] [.int t1, .int t0] h
noncomputable def f_L_does_261 (k0 : Nat) (x2 : Int32) (x3 : Int32) (h : pH) : pR := run pMs none 101 261 [some (.ref k0), none, some (.int x2), some (.int x3)] [] h
noncomputable def f_L_does_353 (k0 : Nat) (x1 : Int32) (h : pH) : pR := run pMs none 101 353 [some (.ref k0), some (.int x1)] [] h
set_option maxRecDepth 100000 in
theorem e_L_does (k0 : Nat) (x1 : Int32) (h : pH) : f_L_does k0 x1 h =
    cI (f_L_low (x1 >>> ((4 : Int32) &&& 31)) (7 : Int32) h) fun x_2 h_1 =>
    if kO h_1 7 k0 = true then (cI (f_X_at k0 x_2 (0 : Int32) h_1) fun x_4 h_3 =>
    if kO h_3 7 k0 = true then (cI (f_X_count k0 (0 : Int32) h_3) fun x_6 h_5 =>
    cI (f_L_low x1 (12 : Int32) h_5) fun x_8 h_7 =>
    if x_8 = 0 then
    ((f_L_does_76 k0 x1 x_2 x_4 x_6 h_7))
    else if x_8 = 1 then
    ((f_L_does_76 k0 x1 x_2 x_4 x_6 h_7))
    else if x_8 = 2 then
    (if ((x1 >>> ((7 : Int32) &&& 31)) &&& (1 : Int32)) = 0 then
      (rI (1 : Int32) h_7)
      else
      (if kO h_7 7 k0 = true then (cI (f_X_remove k0 x_2 h_7) fun x_10 h_9 =>
        if 0 ≤ x_4 then
        (if x_10 = x_4 then
          (rI (1 : Int32) h_9)
          else
          (rI (0 : Int32) h_9))
        else
        (if x_10 = (-2 : Int32) then
          (rI (1 : Int32) h_9)
          else
          (rI (0 : Int32) h_9))) else none))
    else if x_8 = 3 then
    ((f_L_does_261 k0 x_2 x_4 h_7))
    else if x_8 = 4 then
    ((f_L_does_261 k0 x_2 x_4 h_7))
    else if x_8 = 5 then
    (if kO h_7 7 k0 = true then (cI (f_X_count k0 ((12 : Int32) + ((x1 >>> ((4 : Int32) &&& 31)) &&& (1 : Int32))) h_7) fun x_12 h_11 =>
      if kO h_11 7 k0 = true then (cI (f_X_set k0 ((x1 >>> ((4 : Int32) &&& 31)) &&& (1 : Int32)) ((x1 >>> ((5 : Int32) &&& 31)) &&& (1 : Int32)) h_11) fun x_14 h_13 =>
      if x_14 = x_12 then
      (if kO h_13 7 k0 = true then (cI (f_X_count k0 ((12 : Int32) + ((x1 >>> ((4 : Int32) &&& 31)) &&& (1 : Int32))) h_13) fun x_16 h_15 =>
        if x_16 = ((x1 >>> ((5 : Int32) &&& 31)) &&& (1 : Int32)) then
        (rI (1 : Int32) h_15)
        else
        (rI (0 : Int32) h_15)) else none)
      else
      (rI (0 : Int32) h_13)) else none) else none)
    else if x_8 = 6 then
    ((f_L_does_353 k0 x1 h_7))
    else if x_8 = 7 then
    ((f_L_does_353 k0 x1 h_7))
    else (cI (f_L_low (x1 >>> ((4 : Int32) &&& 31)) (19 : Int32) h_7) fun x_18 h_17 =>
      cI (f_L_isMade k0 x_18 h_17) fun x_20 h_19 =>
      if x_20 = 0 ∨ x_20 = 1 then rI x_20 h_19 else none)) else none) else none := (exq_run (M := M_101) rfl 56 _ _ _ _).symm.trans rfl
set_option maxRecDepth 100000 in
theorem e_L_does_76 (k0 : Nat) (x1 : Int32) (x2 : Int32) (x3 : Int32) (x4 : Int32) (h : pH) : f_L_does_76 k0 x1 x2 x3 x4 h =
    cI (f_L_low (x1 >>> ((7 : Int32) &&& 31)) (26 : Int32) h) fun x_2 h_1 =>
    if x3 < 0 then
    ((f_L_does_101 k0 x1 x2 x4 x_2 (0 : Int32) (0 : Int32) h_1))
    else
    ((f_L_does_101 k0 x1 x2 x4 x_2 (1 : Int32) (0 : Int32) h_1)) := (exq_run (M := M_101) rfl 14 _ _ _ _).symm.trans rfl
set_option maxRecDepth 100000 in
theorem e_L_does_101 (k0 : Nat) (x1 : Int32) (x2 : Int32) (x4 : Int32) (x5 : Int32) (x6 : Int32) (x7 : Int32) (h : pH) : f_L_does_101 k0 x1 x2 x4 x5 x6 x7 h =
    if (7 : Int32) ≤ x7 then
    (cI (f_L_low (x1 >>> ((12 : Int32) &&& 31)) (9 : Int32) h) fun x_2 h_1 =>
      if kO h_1 7 k0 = true then (cI (f_X_add k0 x5 ((1 : Int32) + x_2) x2 h_1) fun x_4 h_3 =>
      if x6 = 0 then
      (if x4 = (5 : Int32) then
        ((f_L_does_185 k0 x1 x2 x_4 x_4 (-3 : Int32) h_3))
        else
        ((f_L_does_185 k0 x1 x2 x_4 x_4 (x4 + (1 : Int32)) h_3)))
      else
      ((f_L_does_185 k0 x1 x2 x_4 x_4 (-2 : Int32) h_3))) else none)
    else
    (if x6 = 0 then
      (if kO h 7 k0 = true then (cI (f_X_at k0 x7 (0 : Int32) h) fun x_6 h_5 =>
        if x_6 = x5 then
        ((f_L_does_101 k0 x1 x2 x4 x5 (1 : Int32) (x7 + 1) h_5))
        else
        ((f_L_does_101 k0 x1 x2 x4 x5 (0 : Int32) (x7 + 1) h_5))) else none)
      else
      ((f_L_does_101 k0 x1 x2 x4 x5 (1 : Int32) (x7 + 1) h))) := (exq_run (M := M_101) rfl 25 _ _ _ _).symm.trans rfl
set_option maxRecDepth 100000 in
theorem e_L_does_185 (k0 : Nat) (x1 : Int32) (x2 : Int32) (x7 : Int32) (t0 : Int32) (t1 : Int32) (h : pH) : f_L_does_185 k0 x1 x2 x7 t0 t1 h =
    if t0 = t1 then
    (if x7 < 0 then
      (rI (1 : Int32) h)
      else
      (if kO h 7 k0 = true then (cI (f_X_at k0 x2 (1 : Int32) h) fun x_2 h_1 =>
        cI (f_L_low (x1 >>> ((12 : Int32) &&& 31)) (9 : Int32) h_1) fun x_4 h_3 =>
        if x_2 = ((1 : Int32) + x_4) then
        (if kO h_3 7 k0 = true then (cI (f_X_at k0 x2 (2 : Int32) h_3) fun x_6 h_5 =>
          if x_6 = 0 then
          (rI (1 : Int32) h_5)
          else
          (rI (0 : Int32) h_5)) else none)
        else
        (rI (0 : Int32) h_3)) else none))
    else
    (rI (0 : Int32) h) := (exq_run (M := M_101) rfl 24 _ _ _ _).symm.trans rfl
set_option maxRecDepth 100000 in
theorem e_L_does_261 (k0 : Nat) (x2 : Int32) (x3 : Int32) (h : pH) : f_L_does_261 k0 x2 x3 h =
    if kO h 7 k0 = true then (cI (f_X_at k0 x2 (2 : Int32) h) fun x_2 h_1 =>
    if kO h_1 7 k0 = true then (cI (f_X_stick k0 x2 h_1) fun x_4 h_3 =>
    if 0 ≤ x3 then
    (if x_4 = ((1 : Int32) - x_2) then
      (rI (1 : Int32) h_3)
      else
      (rI (0 : Int32) h_3))
    else
    (if x_4 = (-2 : Int32) then
      (rI (1 : Int32) h_3)
      else
      (rI (0 : Int32) h_3))) else none) else none := (exq_run (M := M_101) rfl 18 _ _ _ _).symm.trans rfl
theorem e_L_does_353 (k0 : Nat) (x1 : Int32) (h : pH) : f_L_does_353 k0 x1 h =
    if kO h 7 k0 = true then (cI (f_X_count k0 (6 : Int32) h) fun x_2 h_1 =>
    cI (f_L_low (x1 >>> ((4 : Int32) &&& 31)) x_2 h_1) fun x_4 h_3 =>
    cI (f_L_isArranged k0 x_4 h_3) fun x_6 h_5 =>
    if x_6 = 0 ∨ x_6 = 1 then rI x_6 h_5 else none) else none := (exq_run (M := M_101) rfl 11 _ _ _ _).symm.trans rfl
noncomputable def f_L_areBooks (k0 : Nat) (h : pH) : pR := run pMs none 102 0 [some (.ref k0)] [] h
noncomputable def f_L_areBooks_15 (k0 : Nat) (x1 : Int32) (x2 : Int32) (x3 : Int32) (x4 : Int32) (x5 : Int32) (x6 : Int32) (h : pH) : pR := run pMs none 102 15 [some (.ref k0), some (.int x1), some (.int x2), some (.int x3), some (.int x4), some (.int x5), some (.int x6)] [] h
noncomputable def f_L_areBooks_39 (k0 : Nat) (x1 : Int32) (x2 : Int32) (x3 : Int32) (x4 : Int32) (x5 : Int32) (x6 : Int32) (t0 : Int32) (h : pH) : pR := run pMs none 102 39 [some (.ref k0), some (.int x1), some (.int x2), some (.int x3), some (.int x4), some (.int x5), some (.int x6)] [.int t0] h
noncomputable def f_L_areBooks_135 (k0 : Nat) (x1 : Int32) (x2 : Int32) (x3 : Int32) (x4 : Int32) (x5 : Int32) (x6 : Int32) (x7 : Int32) (x8 : Int32) (x9 : Int32) (x10 : Int32) (h : pH) : pR := run pMs none 102 135 [some (.ref k0), some (.int x1), some (.int x2), some (.int x3), some (.int x4), some (.int x5), some (.int x6), some (.int x7), some (.int x8), some (.int x9), some (.int x10)] [] h
noncomputable def f_L_areBooks_167 (k0 : Nat) (x1 : Int32) (x2 : Int32) (x3 : Int32) (x4 : Int32) (x5 : Int32) (x6 : Int32) (x7 : Int32) (x8 : Int32) (x10 : Int32) (t0 : Int32) (h : pH) : pR := run pMs none 102 167 [some (.ref k0), some (.int x1), some (.int x2), some (.int x3), some (.int x4), some (.int x5), some (.int x6), some (.int x7), some (.int x8), none, some (.int x10)] [.int t0] h
noncomputable def f_L_areBooks_189 (k0 : Nat) (x1 : Int32) (x2 : Int32) (x3 : Int32) (x4 : Int32) (x5 : Int32) (x6 : Int32) (x7 : Int32) (x8 : Int32) (x10 : Int32) (x11 : Int32) (t0 : Int32) (h : pH) : pR := run pMs none 102 189 [some (.ref k0), some (.int x1), some (.int x2), some (.int x3), some (.int x4), some (.int x5), some (.int x6), some (.int x7), some (.int x8), none, some (.int x10), some (.int x11)] [.int t0] h
noncomputable def f_L_areBooks_237 (k0 : Nat) (x1 : Int32) (x2 : Int32) (x3 : Int32) (x4 : Int32) (x5 : Int32) (x6 : Int32) (x7 : Int32) (x9 : Int32) (h : pH) : pR := run pMs none 102 237 [some (.ref k0), some (.int x1), some (.int x2), some (.int x3), some (.int x4), some (.int x5), some (.int x6), some (.int x7), none, some (.int x9)] [] h
noncomputable def f_L_areBooks_255 (k0 : Nat) (x2 : Int32) (x3 : Int32) (x4 : Int32) (x5 : Int32) (x6 : Int32) (x7 : Int32) (t0 : Int32) (t1 : Int32) (h : pH) : pR := run pMs none 102 255 [some (.ref k0), none, some (.int x2), some (.int x3), some (.int x4), some (.int x5), some (.int x6), some (.int x7)] [.int t1, .int t0] h
noncomputable def f_L_areBooks_274 (k0 : Nat) (x1 : Int32) (x3 : Int32) (x4 : Int32) (x5 : Int32) (x6 : Int32) (x7 : Int32) (t0 : Int32) (t1 : Int32) (h : pH) : pR := run pMs none 102 274 [some (.ref k0), some (.int x1), none, some (.int x3), some (.int x4), some (.int x5), some (.int x6), some (.int x7)] [.int t1, .int t0] h
noncomputable def f_L_areBooks_293 (k0 : Nat) (x1 : Int32) (x2 : Int32) (x4 : Int32) (x5 : Int32) (x6 : Int32) (x7 : Int32) (t0 : Int32) (t1 : Int32) (h : pH) : pR := run pMs none 102 293 [some (.ref k0), some (.int x1), some (.int x2), none, some (.int x4), some (.int x5), some (.int x6), some (.int x7)] [.int t1, .int t0] h
noncomputable def f_L_areBooks_313 (k0 : Nat) (x1 : Int32) (x2 : Int32) (x3 : Int32) (x5 : Int32) (x6 : Int32) (x7 : Int32) (t0 : Int32) (t1 : Int32) (h : pH) : pR := run pMs none 102 313 [some (.ref k0), some (.int x1), some (.int x2), some (.int x3), none, some (.int x5), some (.int x6), some (.int x7)] [.int t1, .int t0] h
noncomputable def f_L_areBooks_382 (k0 : Nat) (x1 : Int32) (x2 : Int32) (x3 : Int32) (x4 : Int32) (t0 : Int32) (h : pH) : pR := run pMs none 102 382 [some (.ref k0), some (.int x1), some (.int x2), some (.int x3), some (.int x4)] [.int t0] h
theorem e_L_areBooks (k0 : Nat) (h : pH) : f_L_areBooks k0 h =
    (f_L_areBooks_15 k0 (0 : Int32) (0 : Int32) (0 : Int32) (0 : Int32) (1 : Int32) (0 : Int32) h) := (exq_run (M := M_102) rfl 13 _ _ _ _).symm.trans rfl
set_option maxRecDepth 100000 in
theorem e_L_areBooks_15 (k0 : Nat) (x1 : Int32) (x2 : Int32) (x3 : Int32) (x4 : Int32) (x5 : Int32) (x6 : Int32) (h : pH) : f_L_areBooks_15 k0 x1 x2 x3 x4 x5 x6 h =
    if (7 : Int32) ≤ x6 then
    (if x4 = 0 then
      (if x5 = 0 then
        (if kO h 7 k0 = true then (cI (f_X_count k0 (13 : Int32) h) fun x_2 h_1 =>
          if x_2 = 0 then
          ((f_L_areBooks_382 k0 x1 x2 x3 x4 (1 : Int32) h_1))
          else
          ((f_L_areBooks_382 k0 x1 x2 x3 x4 (0 : Int32) h_1))) else none)
        else
        ((f_L_areBooks_382 k0 x1 x2 x3 x4 (1 : Int32) h)))
      else
      ((f_L_areBooks_382 k0 x1 x2 x3 x4 (0 : Int32) h)))
    else
    (if kO h 7 k0 = true then (cI (f_X_at k0 x6 (0 : Int32) h) fun x_4 h_3 =>
      if x_4 = (-4 : Int32) then
      ((f_L_areBooks_39 k0 x1 x2 x3 x4 x5 x6 (1 : Int32) h_3))
      else
      ((f_L_areBooks_39 k0 x1 x2 x3 x4 x5 x6 (0 : Int32) h_3))) else none) := (exq_run (M := M_102) rfl 14 _ _ _ _).symm.trans rfl
set_option maxRecDepth 100000 in
theorem e_L_areBooks_39 (k0 : Nat) (x1 : Int32) (x2 : Int32) (x3 : Int32) (x4 : Int32) (x5 : Int32) (x6 : Int32) (t0 : Int32) (h : pH) : f_L_areBooks_39 k0 x1 x2 x3 x4 x5 x6 t0 h =
    if kO h 7 k0 = true then (cI (f_X_at k0 x6 (5 : Int32) h) fun x_2 h_1 =>
    if x_2 < 0 then
    ((f_L_areBooks_135 k0 x1 x2 x3 x4 x5 x6 t0 x_2 (0 : Int32) (0 : Int32) h_1))
    else
    (if (7 : Int32) ≤ x_2 then
      ((f_L_areBooks_135 k0 x1 x2 x3 x4 x5 x6 t0 x_2 (0 : Int32) (0 : Int32) h_1))
      else
      (if kO h_1 7 k0 = true then (cI (f_X_at k0 x_2 (0 : Int32) h_1) fun x_4 h_3 =>
        if x_4 = (-4 : Int32) then
        (if t0 = 0 then
          (if kO h_3 7 k0 = true then (cI (f_X_at k0 x6 (3 : Int32) h_3) fun x_6 h_5 =>
            if x_6 = x_2 then
            ((f_L_areBooks_135 k0 x1 x2 x3 x4 x5 x6 t0 x_2 (1 : Int32) (0 : Int32) h_5))
            else
            ((f_L_areBooks_135 k0 x1 x2 x3 x4 x5 x6 t0 x_2 (0 : Int32) (0 : Int32) h_5))) else none)
          else
          (if x_2 = x6 then
            (if kO h_3 7 k0 = true then (cI (f_X_at k0 x6 (3 : Int32) h_3) fun x_8 h_7 =>
              if x_8 = (-4 : Int32) then
              (if kO h_7 7 k0 = true then (cI (f_X_at k0 x6 (4 : Int32) h_7) fun x_10 h_9 =>
                if x_10 = (-4 : Int32) then
                ((f_L_areBooks_135 k0 x1 x2 x3 x4 x5 x6 t0 x_2 (1 : Int32) (0 : Int32) h_9))
                else
                ((f_L_areBooks_135 k0 x1 x2 x3 x4 x5 x6 t0 x_2 (0 : Int32) (0 : Int32) h_9))) else none)
              else
              ((f_L_areBooks_135 k0 x1 x2 x3 x4 x5 x6 t0 x_2 (0 : Int32) (0 : Int32) h_7))) else none)
            else
            ((f_L_areBooks_135 k0 x1 x2 x3 x4 x5 x6 t0 x_2 (0 : Int32) (0 : Int32) h_3))))
        else
        ((f_L_areBooks_135 k0 x1 x2 x3 x4 x5 x6 t0 x_2 (0 : Int32) (0 : Int32) h_3))) else none))) else none := (exq_run (M := M_102) rfl 41 _ _ _ _).symm.trans rfl
theorem e_L_areBooks_135 (k0 : Nat) (x1 : Int32) (x2 : Int32) (x3 : Int32) (x4 : Int32) (x5 : Int32) (x6 : Int32) (x7 : Int32) (x8 : Int32) (x9 : Int32) (x10 : Int32) (h : pH) : f_L_areBooks_135 k0 x1 x2 x3 x4 x5 x6 x7 x8 x9 x10 h =
    if (7 : Int32) ≤ x10 then
    ((f_L_areBooks_237 k0 x1 x2 x3 x4 x5 x6 x7 x9 h))
    else
    (if x9 = 0 then
      ((f_L_areBooks_237 k0 x1 x2 x3 x4 x5 x6 x7 x9 h))
      else
      (if x6 ≤ x10 then
        ((f_L_areBooks_167 k0 x1 x2 x3 x4 x5 x6 x7 x8 x10 (x10 - x6) h))
        else
        ((f_L_areBooks_167 k0 x1 x2 x3 x4 x5 x6 x7 x8 x10 (x6 - x10) h)))) := (exq_run (M := M_102) rfl 13 _ _ _ _).symm.trans rfl
theorem e_L_areBooks_167 (k0 : Nat) (x1 : Int32) (x2 : Int32) (x3 : Int32) (x4 : Int32) (x5 : Int32) (x6 : Int32) (x7 : Int32) (x8 : Int32) (x10 : Int32) (t0 : Int32) (h : pH) : f_L_areBooks_167 k0 x1 x2 x3 x4 x5 x6 x7 x8 x10 t0 h =
    if x6 ≤ x8 then
    ((f_L_areBooks_189 k0 x1 x2 x3 x4 x5 x6 x7 x8 x10 t0 (x8 - x6) h))
    else
    ((f_L_areBooks_189 k0 x1 x2 x3 x4 x5 x6 x7 x8 x10 t0 (x6 - x8) h)) := (exq_run (M := M_102) rfl 9 _ _ _ _).symm.trans rfl
set_option maxRecDepth 100000 in
theorem e_L_areBooks_189 (k0 : Nat) (x1 : Int32) (x2 : Int32) (x3 : Int32) (x4 : Int32) (x5 : Int32) (x6 : Int32) (x7 : Int32) (x8 : Int32) (x10 : Int32) (x11 : Int32) (t0 : Int32) (h : pH) : f_L_areBooks_189 k0 x1 x2 x3 x4 x5 x6 x7 x8 x10 x11 t0 h =
    if kO h 7 k0 = true then (cI (f_X_at k0 x10 (0 : Int32) h) fun x_2 h_1 =>
    if x_2 = (-4 : Int32) then
    (if t0 < x11 then
      ((f_L_areBooks_135 k0 x1 x2 x3 x4 x5 x6 x7 x8 (1 : Int32) (x10 + 1) h_1))
      else
      (if x11 = t0 then
        (if x10 < x8 then
          ((f_L_areBooks_135 k0 x1 x2 x3 x4 x5 x6 x7 x8 (0 : Int32) (x10 + 1) h_1))
          else
          ((f_L_areBooks_135 k0 x1 x2 x3 x4 x5 x6 x7 x8 (1 : Int32) (x10 + 1) h_1)))
        else
        ((f_L_areBooks_135 k0 x1 x2 x3 x4 x5 x6 x7 x8 (0 : Int32) (x10 + 1) h_1))))
    else
    ((f_L_areBooks_135 k0 x1 x2 x3 x4 x5 x6 x7 x8 (1 : Int32) (x10 + 1) h_1))) else none := (exq_run (M := M_102) rfl 22 _ _ _ _).symm.trans rfl
theorem e_L_areBooks_237 (k0 : Nat) (x1 : Int32) (x2 : Int32) (x3 : Int32) (x4 : Int32) (x5 : Int32) (x6 : Int32) (x7 : Int32) (x9 : Int32) (h : pH) : f_L_areBooks_237 k0 x1 x2 x3 x4 x5 x6 x7 x9 h =
    if x9 = 0 then
    (rI (0 : Int32) h)
    else
    (if x7 = 0 then
      ((f_L_areBooks_255 k0 x2 x3 x4 x5 x6 x7 x1 (1 : Int32) h))
      else
      ((f_L_areBooks_255 k0 x2 x3 x4 x5 x6 x7 x1 (0 : Int32) h))) := (exq_run (M := M_102) rfl 8 _ _ _ _).symm.trans rfl
theorem e_L_areBooks_255 (k0 : Nat) (x2 : Int32) (x3 : Int32) (x4 : Int32) (x5 : Int32) (x6 : Int32) (x7 : Int32) (t0 : Int32) (t1 : Int32) (h : pH) : f_L_areBooks_255 k0 x2 x3 x4 x5 x6 x7 t0 t1 h =
    if x7 = 0 then
    (if kO h 7 k0 = true then (cI (f_X_at k0 x6 (1 : Int32) h) fun x_2 h_1 =>
      (f_L_areBooks_274 k0 (t0 + t1) x3 x4 x5 x6 x7 x2 x_2 h_1)) else none)
    else
    ((f_L_areBooks_274 k0 (t0 + t1) x3 x4 x5 x6 x7 x2 (0 : Int32) h)) := (exq_run (M := M_102) rfl 10 _ _ _ _).symm.trans rfl
theorem e_L_areBooks_274 (k0 : Nat) (x1 : Int32) (x3 : Int32) (x4 : Int32) (x5 : Int32) (x6 : Int32) (x7 : Int32) (t0 : Int32) (t1 : Int32) (h : pH) : f_L_areBooks_274 k0 x1 x3 x4 x5 x6 x7 t0 t1 h =
    if x7 = 0 then
    (if kO h 7 k0 = true then (cI (f_X_at k0 x6 (2 : Int32) h) fun x_2 h_1 =>
      (f_L_areBooks_293 k0 x1 (t0 + t1) x4 x5 x6 x7 x3 x_2 h_1)) else none)
    else
    ((f_L_areBooks_293 k0 x1 (t0 + t1) x4 x5 x6 x7 x3 (0 : Int32) h)) := (exq_run (M := M_102) rfl 10 _ _ _ _).symm.trans rfl
theorem e_L_areBooks_293 (k0 : Nat) (x1 : Int32) (x2 : Int32) (x4 : Int32) (x5 : Int32) (x6 : Int32) (x7 : Int32) (t0 : Int32) (t1 : Int32) (h : pH) : f_L_areBooks_293 k0 x1 x2 x4 x5 x6 x7 t0 t1 h =
    if x7 = 0 then
    (if kO h 7 k0 = true then (cI (f_X_at k0 x6 (4 : Int32) h) fun x_2 h_1 =>
      (f_L_areBooks_313 k0 x1 x2 (t0 + t1) x5 x6 x7 x4 x_2 h_1)) else none)
    else
    ((f_L_areBooks_313 k0 x1 x2 (t0 + t1) x5 x6 x7 x4 (0 : Int32) h)) := (exq_run (M := M_102) rfl 10 _ _ _ _).symm.trans rfl
set_option maxRecDepth 100000 in
theorem e_L_areBooks_313 (k0 : Nat) (x1 : Int32) (x2 : Int32) (x3 : Int32) (x5 : Int32) (x6 : Int32) (x7 : Int32) (t0 : Int32) (t1 : Int32) (h : pH) : f_L_areBooks_313 k0 x1 x2 x3 x5 x6 x7 t0 t1 h =
    if x5 = 0 then
    ((f_L_areBooks_15 k0 x1 x2 x3 (t0 + t1) (0 : Int32) (x6 + 1) h))
    else
    (if x7 = 0 then
      (if x6 = 0 then
        ((f_L_areBooks_15 k0 x1 x2 x3 (t0 + t1) (1 : Int32) (x6 + 1) h))
        else
        (if kO h 7 k0 = true then (cI (f_X_at k0 (x6 - (1 : Int32)) (0 : Int32) h) fun x_2 h_1 =>
          if x_2 = (-4 : Int32) then
          ((f_L_areBooks_15 k0 x1 x2 x3 (t0 + t1) (0 : Int32) (x6 + 1) h_1))
          else
          ((f_L_areBooks_15 k0 x1 x2 x3 (t0 + t1) (1 : Int32) (x6 + 1) h_1))) else none))
      else
      ((f_L_areBooks_15 k0 x1 x2 x3 (t0 + t1) (1 : Int32) (x6 + 1) h))) := (exq_run (M := M_102) rfl 22 _ _ _ _).symm.trans rfl
set_option maxRecDepth 100000 in
theorem e_L_areBooks_382 (k0 : Nat) (x1 : Int32) (x2 : Int32) (x3 : Int32) (x4 : Int32) (t0 : Int32) (h : pH) : f_L_areBooks_382 k0 x1 x2 x3 x4 t0 h =
    if kO h 7 k0 = true then (cI (f_X_count k0 (0 : Int32) h) fun x_2 h_1 =>
    if x_2 = x1 then
    (if (6 : Int32) ≤ x1 then
      (rI (0 : Int32) h_1)
      else
      (if kO h_1 7 k0 = true then (cI (f_X_count k0 (1 : Int32) h_1) fun x_4 h_3 =>
        if x_4 = x3 then
        (if kO h_3 7 k0 = true then (cI (f_X_count k0 (2 : Int32) h_3) fun x_6 h_5 =>
          if x_6 = x2 then
          (if kO h_5 7 k0 = true then (cI (f_X_count k0 (4 : Int32) h_5) fun x_8 h_7 =>
            if ((2 : Int32) * x_8) = x4 then
            (if kO h_7 7 k0 = true then (cI (f_X_count k0 (3 : Int32) h_7) fun x_10 h_9 =>
              if t0 = 0 then
              (if x_10 = (0 : Int32) then
                (rI (1 : Int32) h_9)
                else
                (rI (0 : Int32) h_9))
              else
              (if x_10 = (1 : Int32) then
                (rI (1 : Int32) h_9)
                else
                (rI (0 : Int32) h_9))) else none)
            else
            (rI (0 : Int32) h_7)) else none)
          else
          (rI (0 : Int32) h_5)) else none)
        else
        (rI (0 : Int32) h_3)) else none))
    else
    (rI (0 : Int32) h_1)) else none := (exq_run (M := M_102) rfl 38 _ _ _ _).symm.trans rfl
noncomputable def f_L_spelt (k0 : Nat) (x1 : Int32) (h : pH) : pR := run pMs none 103 0 [some (.ref k0), some (.int x1)] [] h
noncomputable def f_L_spelt_5 (k0 : Nat) (x1 : Int32) (q2 : Int64) (x4 : Int32) (h : pH) : pR := run pMs none 103 5 [some (.ref k0), some (.int x1), some (.long q2), none, some (.int x4)] [] h
theorem e_L_spelt (k0 : Nat) (x1 : Int32) (h : pH) : f_L_spelt k0 x1 h =
    (f_L_spelt_5 k0 x1 (Int32.toInt64 (0 : Int32)) (0 : Int32) h) := (exq_run (M := M_103) rfl 5 _ _ _ _).symm.trans rfl
set_option maxRecDepth 100000 in
theorem e_L_spelt_5 (k0 : Nat) (x1 : Int32) (q2 : Int64) (x4 : Int32) (h : pH) : f_L_spelt_5 k0 x1 q2 x4 h =
    if (7 : Int32) ≤ x4 then
    (rL q2 h)
    else
    (if kO h 7 k0 = true then (cI (f_X_word k0 x1 x4 h) fun x_2 h_1 =>
      if x_2 = (-4 : Int32) then
      ((f_L_spelt_5 k0 x1 (((Int32.toInt64 (27 : Int32)) * q2) + (Int32.toInt64 (0 : Int32))) (x4 + 1) h_1))
      else
      ((f_L_spelt_5 k0 x1 (((Int32.toInt64 (27 : Int32)) * q2) + (Int32.toInt64 (x_2 + (1 : Int32)))) (x4 + 1) h_1))) else none) := (exq_run (M := M_103) rfl 23 _ _ _ _).symm.trans rfl
noncomputable def f_L_now (k0 : Nat) (h : pH) : pR := run pMs none 104 0 [some (.ref k0)] [] h
noncomputable def f_L_now_4 (k0 : Nat) (q1 : Int64) (x3 : Int32) (h : pH) : pR := run pMs none 104 4 [some (.ref k0), some (.long q1), none, some (.int x3)] [] h
theorem e_L_now (k0 : Nat) (h : pH) : f_L_now k0 h =
    (f_L_now_4 k0 (Int32.toInt64 (0 : Int32)) (0 : Int32) h) := (exq_run (M := M_104) rfl 5 _ _ _ _).symm.trans rfl
set_option maxRecDepth 100000 in
theorem e_L_now_4 (k0 : Nat) (q1 : Int64) (x3 : Int32) (h : pH) : f_L_now_4 k0 q1 x3 h =
    if (7 : Int32) ≤ x3 then
    (rL q1 h)
    else
    (if kO h 7 k0 = true then (cI (f_X_at k0 x3 (0 : Int32) h) fun x_2 h_1 =>
      if x_2 = (-4 : Int32) then
      ((f_L_now_4 k0 (((Int32.toInt64 (27 : Int32)) * q1) + (Int32.toInt64 (0 : Int32))) (x3 + 1) h_1))
      else
      ((f_L_now_4 k0 (((Int32.toInt64 (27 : Int32)) * q1) + (Int32.toInt64 (x_2 + (1 : Int32)))) (x3 + 1) h_1))) else none) := (exq_run (M := M_104) rfl 23 _ _ _ _).symm.trans rfl
noncomputable def f_L_areWords (k0 : Nat) (x1 : Int32) (h : pH) : pR := run pMs none 105 0 [some (.ref k0), some (.int x1)] [] h
noncomputable def f_L_areWords_11 (k0 : Nat) (x1 : Int32) (x2 : Int32) (x3 : Int32) (x4 : Int32) (h : pH) : pR := run pMs none 105 11 [some (.ref k0), some (.int x1), some (.int x2), some (.int x3), some (.int x4)] [] h
noncomputable def f_L_areWords_116 (k0 : Nat) (x3 : Int32) (x5 : Int32) (t0 : Int32) (h : pH) : pR := run pMs none 105 116 [some (.ref k0), none, none, some (.int x3), none, some (.int x5)] [.int t0] h
theorem e_L_areWords (k0 : Nat) (x1 : Int32) (h : pH) : f_L_areWords k0 x1 h =
    if kO h 7 k0 = true then (cI (f_X_count k0 (0 : Int32) h) fun x_2 h_1 =>
    (f_L_areWords_11 k0 x1 x_2 (1 : Int32) (0 : Int32) h_1)) else none := (exq_run (M := M_105) rfl 9 _ _ _ _).symm.trans rfl
set_option maxRecDepth 100000 in
theorem e_L_areWords_11 (k0 : Nat) (x1 : Int32) (x2 : Int32) (x3 : Int32) (x4 : Int32) (h : pH) : f_L_areWords_11 k0 x1 x2 x3 x4 h =
    if x2 ≤ x4 then
    (if kO h 7 k0 = true then (cI (f_X_count k0 (5 : Int32) h) fun x_2 h_1 =>
      cI (f_L_low x1 x3 h_1) fun x_4 h_3 =>
      if kO h_3 7 k0 = true then (cI (f_X_count k0 (6 : Int32) h_3) fun x_6 h_5 =>
      if x_6 = x3 then
      (if x_2 < 0 then
        ((f_L_areWords_116 k0 x3 x_4 (0 : Int32) h_5))
        else
        (if x3 ≤ x_2 then
          ((f_L_areWords_116 k0 x3 x_4 (0 : Int32) h_5))
          else
          (cL (f_L_spelt k0 x_2 h_5) fun q_8 h_7 =>
            cL (f_L_now k0 h_7) fun q_10 h_9 =>
            if (lg_cmp q_8 q_10) = 0 then
            (if kO h_9 7 k0 = true then (cI (f_X_word k0 x3 (0 : Int32) h_9) fun x_12 h_11 =>
              if x_12 = (-1 : Int32) then
              (if kO h_11 7 k0 = true then (cI (f_X_word k0 (0 : Int32) (7 : Int32) h_11) fun x_14 h_13 =>
                if x_14 = (-1 : Int32) then
                (if kO h_13 7 k0 = true then (cI (f_X_word k0 (-1 : Int32) (0 : Int32) h_13) fun x_16 h_15 =>
                  if x_16 = (-1 : Int32) then
                  ((f_L_areWords_116 k0 x3 x_4 (1 : Int32) h_15))
                  else
                  ((f_L_areWords_116 k0 x3 x_4 (0 : Int32) h_15))) else none)
                else
                ((f_L_areWords_116 k0 x3 x_4 (0 : Int32) h_13))) else none)
              else
              ((f_L_areWords_116 k0 x3 x_4 (0 : Int32) h_11))) else none)
            else
            ((f_L_areWords_116 k0 x3 x_4 (0 : Int32) h_9)))))
      else
      ((f_L_areWords_116 k0 x3 x_4 (0 : Int32) h_5))) else none) else none)
    else
    ((f_L_areWords_11 k0 x1 x2 (x3 * ((7 : Int32) - x4)) (x4 + 1) h)) := (exq_run (M := M_105) rfl 49 _ _ _ _).symm.trans rfl
set_option maxRecDepth 100000 in
theorem e_L_areWords_116 (k0 : Nat) (x3 : Int32) (x5 : Int32) (t0 : Int32) (h : pH) : f_L_areWords_116 k0 x3 x5 t0 h =
    if t0 = 0 then
    (rI (0 : Int32) h)
    else
    (if x5 = (x3 - (1 : Int32)) then
      (rI (1 : Int32) h)
      else
      (cL (f_L_spelt k0 x5 h) fun q_2 h_1 =>
        cL (f_L_spelt k0 (x5 + (1 : Int32)) h_1) fun q_4 h_3 =>
        if 0 ≤ (lg_cmp q_2 q_4) then
        (rI (0 : Int32) h_3)
        else
        (rI (1 : Int32) h_3))) := (exq_run (M := M_105) rfl 22 _ _ _ _).symm.trans rfl
noncomputable def f_L_areLeast (k0 : Nat) (h : pH) : pR := run pMs none 106 0 [some (.ref k0)] [] h
noncomputable def f_L_areLeast_34 (k0 : Nat) (x1 : Int32) (x2 : Int32) (x3 : Int32) (x4 : Int32) (x5 : Int32) (x6 : Int32) (x7 : Int32) (h : pH) : pR := run pMs none 106 34 [some (.ref k0), some (.int x1), some (.int x2), some (.int x3), some (.int x4), some (.int x5), some (.int x6), some (.int x7)] [] h
noncomputable def f_L_areLeast_90 (k0 : Nat) (x1 : Int32) (x2 : Int32) (x3 : Int32) (x4 : Int32) (x5 : Int32) (x6 : Int32) (x7 : Int32) (x8 : Int32) (x9 : Int32) (t0 : Int32) (t1 : Int32) (h : pH) : pR := run pMs none 106 90 [some (.ref k0), some (.int x1), some (.int x2), some (.int x3), some (.int x4), some (.int x5), some (.int x6), some (.int x7), some (.int x8), some (.int x9)] [.int t1, .int t0] h
noncomputable def f_L_areLeast_103 (k0 : Nat) (x1 : Int32) (x2 : Int32) (x3 : Int32) (x4 : Int32) (x5 : Int32) (x6 : Int32) (x7 : Int32) (x8 : Int32) (x9 : Int32) (t0 : Int32) (h : pH) : pR := run pMs none 106 103 [some (.ref k0), some (.int x1), some (.int x2), some (.int x3), some (.int x4), some (.int x5), some (.int x6), some (.int x7), some (.int x8), some (.int x9)] [.int t0] h
noncomputable def f_L_areLeast_119 (k0 : Nat) (x1 : Int32) (x2 : Int32) (x3 : Int32) (x4 : Int32) (x5 : Int32) (x6 : Int32) (x7 : Int32) (x8 : Int32) (x9 : Int32) (t0 : Int32) (t1 : Int32) (h : pH) : pR := run pMs none 106 119 [some (.ref k0), some (.int x1), some (.int x2), some (.int x3), some (.int x4), some (.int x5), some (.int x6), some (.int x7), some (.int x8), some (.int x9)] [.int t1, .int t0] h
noncomputable def f_L_areLeast_173 (k0 : Nat) (x1 : Int32) (x2 : Int32) (x3 : Int32) (x5 : Int32) (x6 : Int32) (x7 : Int32) (x11 : Int32) (t0 : Int32) (h : pH) : pR := run pMs none 106 173 [some (.ref k0), some (.int x1), some (.int x2), some (.int x3), none, some (.int x5), some (.int x6), some (.int x7), none, none, none, some (.int x11)] [.int t0] h
noncomputable def f_L_areLeast_230 (k0 : Nat) (x1 : Int32) (x2 : Int32) (x3 : Int32) (x4 : Int32) (x5 : Int32) (x6 : Int32) (t0 : Int32) (h : pH) : pR := run pMs none 106 230 [some (.ref k0), some (.int x1), some (.int x2), some (.int x3), some (.int x4), some (.int x5), some (.int x6)] [.int t0] h
noncomputable def f_L_areLeast_264 (x2 : Int32) (x3 : Int32) (x4 : Int32) (x5 : Int32) (x7 : Int32) (t0 : Int32) (h : pH) : pR := run pMs none 106 264 [none, none, some (.int x2), some (.int x3), some (.int x4), some (.int x5), none, some (.int x7)] [.int t0] h
noncomputable def f_L_areLeast_283 (x2 : Int32) (x3 : Int32) (x4 : Int32) (x5 : Int32) (x7 : Int32) (t0 : Int32) (h : pH) : pR := run pMs none 106 283 [none, none, some (.int x2), some (.int x3), some (.int x4), some (.int x5), none, some (.int x7)] [.int t0] h
noncomputable def f_L_areLeast_321 (x3 : Int32) (x5 : Int32) (t0 : Int32) (t1 : Int32) (h : pH) : pR := run pMs none 106 321 [none, none, none, some (.int x3), none, some (.int x5)] [.int t1, .int t0] h
set_option maxRecDepth 100000 in
theorem e_L_areLeast (k0 : Nat) (h : pH) : f_L_areLeast k0 h =
    if kO h 7 k0 = true then (cI (f_X_count k0 (5 : Int32) h) fun x_2 h_1 =>
    if kO h_1 7 k0 = true then (cI (f_X_least k0 x_2 (0 : Int32) h_1) fun x_4 h_3 =>
    if kO h_3 7 k0 = true then (cI (f_X_least k0 x_2 (1 : Int32) h_3) fun x_6 h_5 =>
    (f_L_areLeast_34 k0 x_2 x_4 x_6 (1000000 : Int32) (1000000 : Int32) (0 : Int32) (0 : Int32) h_5)) else none) else none) else none := (exq_run (M := M_106) rfl 23 _ _ _ _).symm.trans rfl
set_option maxRecDepth 100000 in
theorem e_L_areLeast_34 (k0 : Nat) (x1 : Int32) (x2 : Int32) (x3 : Int32) (x4 : Int32) (x5 : Int32) (x6 : Int32) (x7 : Int32) (h : pH) : f_L_areLeast_34 k0 x1 x2 x3 x4 x5 x6 x7 h =
    if (19 : Int32) ≤ x7 then
    (if kO h 7 k0 = true then (cI (f_X_count k0 (3 : Int32) h) fun x_2 h_1 =>
      if x_2 = (1 : Int32) then
      ((f_L_areLeast_230 k0 x1 x2 x3 x4 x5 x6 (1 : Int32) h_1))
      else
      ((f_L_areLeast_230 k0 x1 x2 x3 x4 x5 x6 (0 : Int32) h_1))) else none)
    else
    (if kO h 7 k0 = true then (cI (f_X_whyNot k0 x7 h) fun x_4 h_3 =>
      if kO h_3 7 k0 = true then (cI (f_X_leads k0 x7 h_3) fun x_6 h_5 =>
      if x_4 < 0 then
      (rI (0 : Int32) h_5)
      else
      (if (4 : Int32) < x_4 then
        (rI (0 : Int32) h_5)
        else
        (if x_4 ≤ 0 then
          (if x_6 = (-2 : Int32) then
            ((f_L_areLeast_90 k0 x1 x2 x3 x4 x5 x6 x7 x_4 x_6 (0 : Int32) (1 : Int32) h_5))
            else
            ((f_L_areLeast_90 k0 x1 x2 x3 x4 x5 x6 x7 x_4 x_6 (0 : Int32) (0 : Int32) h_5)))
          else
          (if x_6 = (-2 : Int32) then
            ((f_L_areLeast_90 k0 x1 x2 x3 x4 x5 x6 x7 x_4 x_6 (1 : Int32) (1 : Int32) h_5))
            else
            ((f_L_areLeast_90 k0 x1 x2 x3 x4 x5 x6 x7 x_4 x_6 (1 : Int32) (0 : Int32) h_5)))))) else none) else none) := (exq_run (M := M_106) rfl 26 _ _ _ _).symm.trans rfl
theorem e_L_areLeast_90 (k0 : Nat) (x1 : Int32) (x2 : Int32) (x3 : Int32) (x4 : Int32) (x5 : Int32) (x6 : Int32) (x7 : Int32) (x8 : Int32) (x9 : Int32) (t0 : Int32) (t1 : Int32) (h : pH) : f_L_areLeast_90 k0 x1 x2 x3 x4 x5 x6 x7 x8 x9 t0 t1 h =
    if t0 = t1 then
    (if x8 ≤ 0 then
      ((f_L_areLeast_103 k0 x1 x2 x3 x4 x5 x6 x7 x8 x9 (0 : Int32) h))
      else
      ((f_L_areLeast_103 k0 x1 x2 x3 x4 x5 x6 x7 x8 x9 (1 : Int32) h)))
    else
    (rI (0 : Int32) h) := (exq_run (M := M_106) rfl 6 _ _ _ _).symm.trans rfl
theorem e_L_areLeast_103 (k0 : Nat) (x1 : Int32) (x2 : Int32) (x3 : Int32) (x4 : Int32) (x5 : Int32) (x6 : Int32) (x7 : Int32) (x8 : Int32) (x9 : Int32) (t0 : Int32) (h : pH) : f_L_areLeast_103 k0 x1 x2 x3 x4 x5 x6 x7 x8 x9 t0 h =
    if kO h 7 k0 = true then (cI (f_X_cost k0 x7 h) fun x_2 h_1 =>
    if x_2 = (-2 : Int32) then
    ((f_L_areLeast_119 k0 x1 x2 x3 x4 x5 x6 x7 x8 x9 t0 (1 : Int32) h_1))
    else
    ((f_L_areLeast_119 k0 x1 x2 x3 x4 x5 x6 x7 x8 x9 t0 (0 : Int32) h_1))) else none := (exq_run (M := M_106) rfl 8 _ _ _ _).symm.trans rfl
set_option maxRecDepth 100000 in
theorem e_L_areLeast_119 (k0 : Nat) (x1 : Int32) (x2 : Int32) (x3 : Int32) (x4 : Int32) (x5 : Int32) (x6 : Int32) (x7 : Int32) (x8 : Int32) (x9 : Int32) (t0 : Int32) (t1 : Int32) (h : pH) : f_L_areLeast_119 k0 x1 x2 x3 x4 x5 x6 x7 x8 x9 t0 t1 h =
    if t0 = t1 then
    (if x8 = 0 then
      (if kO h 7 k0 = true then (cI (f_X_least k0 x9 (0 : Int32) h) fun x_2 h_1 =>
        if kO h_1 7 k0 = true then (cI (f_X_least k0 x9 (1 : Int32) h_1) fun x_4 h_3 =>
        if x_2 < 0 then
        ((f_L_areLeast_173 k0 x1 x2 x3 x5 (x6 + 1) x7 x_4 x4 h_3))
        else
        (if x4 ≤ (x_2 + (1 : Int32)) then
          ((f_L_areLeast_173 k0 x1 x2 x3 x5 (x6 + 1) x7 x_4 x4 h_3))
          else
          ((f_L_areLeast_173 k0 x1 x2 x3 x5 (x6 + 1) x7 x_4 (x_2 + (1 : Int32)) h_3)))) else none) else none)
      else
      ((f_L_areLeast_34 k0 x1 x2 x3 x4 x5 x6 (x7 + 1) h)))
    else
    (rI (0 : Int32) h) := (exq_run (M := M_106) rfl 26 _ _ _ _).symm.trans rfl
set_option maxRecDepth 100000 in
theorem e_L_areLeast_173 (k0 : Nat) (x1 : Int32) (x2 : Int32) (x3 : Int32) (x5 : Int32) (x6 : Int32) (x7 : Int32) (x11 : Int32) (t0 : Int32) (h : pH) : f_L_areLeast_173 k0 x1 x2 x3 x5 x6 x7 x11 t0 h =
    if x11 < 0 then
    ((f_L_areLeast_34 k0 x1 x2 x3 t0 x5 x6 (x7 + 1) h))
    else
    (if kO h 7 k0 = true then (cI (f_X_cost k0 x7 h) fun x_2 h_1 =>
      if x5 ≤ (x11 + x_2) then
      ((f_L_areLeast_34 k0 x1 x2 x3 t0 x5 x6 (x7 + 1) h_1))
      else
      (if kO h_1 7 k0 = true then (cI (f_X_cost k0 x7 h_1) fun x_4 h_3 =>
        (f_L_areLeast_34 k0 x1 x2 x3 t0 (x11 + x_4) x6 (x7 + 1) h_3)) else none)) else none) := (exq_run (M := M_106) rfl 20 _ _ _ _).symm.trans rfl
set_option maxRecDepth 100000 in
theorem e_L_areLeast_230 (k0 : Nat) (x1 : Int32) (x2 : Int32) (x3 : Int32) (x4 : Int32) (x5 : Int32) (x6 : Int32) (t0 : Int32) (h : pH) : f_L_areLeast_230 k0 x1 x2 x3 x4 x5 x6 t0 h =
    if kO h 7 k0 = true then (cI (f_X_count k0 (11 : Int32) h) fun x_2 h_1 =>
    if x_2 = x6 then
    (if kO h_1 7 k0 = true then (cI (f_X_least k0 x1 (2 : Int32) h_1) fun x_4 h_3 =>
      if x_4 = x3 then
      (if x2 = (-4 : Int32) then
        ((f_L_areLeast_264 x2 x3 x4 x5 t0 (1 : Int32) h_3))
        else
        ((f_L_areLeast_264 x2 x3 x4 x5 t0 (0 : Int32) h_3)))
      else
      ((f_L_areLeast_283 x2 x3 x4 x5 t0 (0 : Int32) h_3))) else none)
    else
    ((f_L_areLeast_283 x2 x3 x4 x5 t0 (0 : Int32) h_1))) else none := (exq_run (M := M_106) rfl 18 _ _ _ _).symm.trans rfl
theorem e_L_areLeast_264 (x2 : Int32) (x3 : Int32) (x4 : Int32) (x5 : Int32) (x7 : Int32) (t0 : Int32) (h : pH) : f_L_areLeast_264 x2 x3 x4 x5 x7 t0 h =
    if x3 = (-4 : Int32) then
    (if t0 = (1 : Int32) then
      ((f_L_areLeast_283 x2 x3 x4 x5 x7 (1 : Int32) h))
      else
      ((f_L_areLeast_283 x2 x3 x4 x5 x7 (0 : Int32) h)))
    else
    (if t0 = (0 : Int32) then
      ((f_L_areLeast_283 x2 x3 x4 x5 x7 (1 : Int32) h))
      else
      ((f_L_areLeast_283 x2 x3 x4 x5 x7 (0 : Int32) h))) := (exq_run (M := M_106) rfl 9 _ _ _ _).symm.trans rfl
set_option maxRecDepth 100000 in
theorem e_L_areLeast_283 (x2 : Int32) (x3 : Int32) (x4 : Int32) (x5 : Int32) (x7 : Int32) (t0 : Int32) (h : pH) : f_L_areLeast_283 x2 x3 x4 x5 x7 t0 h =
    if t0 = 0 then
    (rI (0 : Int32) h)
    else
    (if x7 = 0 then
      (if x4 = (1000000 : Int32) then
        ((f_L_areLeast_321 x3 x5 x2 (-4 : Int32) h))
        else
        ((f_L_areLeast_321 x3 x5 x2 x4 h)))
      else
      (if x2 = 0 then
        (if x3 = 0 then
          (rI (1 : Int32) h)
          else
          (rI (0 : Int32) h))
        else
        (rI (0 : Int32) h))) := (exq_run (M := M_106) rfl 14 _ _ _ _).symm.trans rfl
theorem e_L_areLeast_321 (x3 : Int32) (x5 : Int32) (t0 : Int32) (t1 : Int32) (h : pH) : f_L_areLeast_321 x3 x5 t0 t1 h =
    if t0 = t1 then
    (if x5 = (1000000 : Int32) then
      (if x3 = (-4 : Int32) then
        (rI (1 : Int32) h)
        else
        (rI (0 : Int32) h))
      else
      (if x3 = x5 then
        (rI (1 : Int32) h)
        else
        (rI (0 : Int32) h)))
    else
    (rI (0 : Int32) h) := (exq_run (M := M_106) rfl 12 _ _ _ _).symm.trans rfl
noncomputable def f_L_isPlan (k0 : Nat) (x1 : Int32) (h : pH) : pR := run pMs none 111 0 [some (.ref k0), some (.int x1)] [] h
noncomputable def f_L_isPlan_17 (k0 : Nat) (x1 : Int32) (x2 : Int32) (t0 : Nat) (t1 : Int32) (t2 : Int32) (h : pH) : pR := run pMs none 111 17 [some (.ref k0), some (.int x1), some (.int x2)] [.int t2, .int t1, .ref t0] h
noncomputable def f_L_isPlan_68 (k0 : Nat) (x1 : Int32) (x2 : Int32) (x3 : Int32) (x4 : Int32) (x5 : Int32) (x6 : Int32) (x7 : Int32) (h : pH) : pR := run pMs none 111 68 [some (.ref k0), some (.int x1), some (.int x2), some (.int x3), some (.int x4), some (.int x5), some (.int x6), some (.int x7)] [] h
noncomputable def f_L_isPlan_113 (k0 : Nat) (x1 : Int32) (x2 : Int32) (x3 : Int32) (x4 : Int32) (x5 : Int32) (x6 : Int32) (x7 : Int32) (x8 : Int32) (t0 : Int32) (h : pH) : pR := run pMs none 111 113 [some (.ref k0), some (.int x1), some (.int x2), some (.int x3), some (.int x4), some (.int x5), some (.int x6), some (.int x7), some (.int x8)] [.int t0] h
noncomputable def f_L_isPlan_145 (k0 : Nat) (x1 : Int32) (x2 : Int32) (x3 : Int32) (x4 : Int32) (x5 : Int32) (x6 : Int32) (x7 : Int32) (h : pH) : pR := run pMs none 111 145 [some (.ref k0), some (.int x1), some (.int x2), some (.int x3), some (.int x4), some (.int x5), some (.int x6), some (.int x7)] [] h
noncomputable def f_L_isPlan_195 (k0 : Nat) (x1 : Int32) (x2 : Int32) (x4 : Int32) (x6 : Int32) (x7 : Int32) (t0 : Int32) (h : pH) : pR := run pMs none 111 195 [some (.ref k0), some (.int x1), some (.int x2), none, some (.int x4), none, some (.int x6), some (.int x7)] [.int t0] h
theorem e_L_isPlan (k0 : Nat) (x1 : Int32) (h : pH) : f_L_isPlan k0 x1 h =
    if kO h 7 k0 = true then (cI (f_X_count k0 (5 : Int32) h) fun x_2 h_1 =>
    if x1 = 0 then
    ((f_L_isPlan_17 k0 x1 x_2 k0 x_2 (0 : Int32) h_1))
    else
    ((f_L_isPlan_17 k0 x1 x_2 k0 x_2 (1 : Int32) h_1))) else none := (exq_run (M := M_111) rfl 11 _ _ _ _).symm.trans rfl
set_option maxRecDepth 100000 in
theorem e_L_isPlan_17 (k0 : Nat) (x1 : Int32) (x2 : Int32) (t0 : Nat) (t1 : Int32) (t2 : Int32) (h : pH) : f_L_isPlan_17 k0 x1 x2 t0 t1 t2 h =
    if kO h 7 t0 = true then (cI (f_X_least t0 t1 t2 h) fun x_2 h_1 =>
    if kO h_1 7 k0 = true then (cI (f_X_count k0 (8 : Int32) h_1) fun x_4 h_3 =>
    if kO h_3 7 k0 = true then (cI (f_X_count k0 (9 : Int32) h_3) fun x_6 h_5 =>
    if (1 : Int32) ≤ x_2 then
    (if kO h_5 7 k0 = true then (cI (f_X_save k0 h_5) fun x_8 h_7 =>
      (f_L_isPlan_68 k0 x1 x2 x_2 x_4 x_6 x_8 (0 : Int32) h_7)) else none)
    else
    (if kO h_5 7 k0 = true then (cI (f_X_plan k0 x1 (0 : Int32) h_5) fun x_10 h_9 =>
      if x_10 = (-4 : Int32) then
      (rI (1 : Int32) h_9)
      else
      (rI (0 : Int32) h_9)) else none)) else none) else none) else none := (exq_run (M := M_111) rfl 23 _ _ _ _).symm.trans rfl
set_option maxRecDepth 100000 in
theorem e_L_isPlan_68 (k0 : Nat) (x1 : Int32) (x2 : Int32) (x3 : Int32) (x4 : Int32) (x5 : Int32) (x6 : Int32) (x7 : Int32) (h : pH) : f_L_isPlan_68 k0 x1 x2 x3 x4 x5 x6 x7 h =
    if (60 : Int32) ≤ x7 then
    ((f_L_isPlan_145 k0 x1 x2 x3 x4 x5 x6 x7 h))
    else
    (if kO h 7 k0 = true then (cI (f_X_count k0 (3 : Int32) h) fun x_2 h_1 =>
      if x_2 = 0 then
      (if kO h_1 7 k0 = true then (cI (f_X_plan k0 x1 (0 : Int32) h_1) fun x_4 h_3 =>
        if x_4 < 0 then
        ((f_L_isPlan_113 k0 x1 x2 x3 x4 x5 x6 x7 x_4 (-1 : Int32) h_3))
        else
        (if x_4 ≤ (18 : Int32) then
          (cI (f_L_moves k0 x_4 h_3) fun x_6 h_5 =>
            (f_L_isPlan_113 k0 x1 x2 x3 x4 x5 x6 x7 x_4 x_6 h_5))
          else
          ((f_L_isPlan_113 k0 x1 x2 x3 x4 x5 x6 x7 x_4 (-1 : Int32) h_3)))) else none)
      else
      ((f_L_isPlan_145 k0 x1 x2 x3 x4 x5 x6 x7 h_1))) else none) := (exq_run (M := M_111) rfl 21 _ _ _ _).symm.trans rfl
theorem e_L_isPlan_113 (k0 : Nat) (x1 : Int32) (x2 : Int32) (x3 : Int32) (x4 : Int32) (x5 : Int32) (x6 : Int32) (x7 : Int32) (x8 : Int32) (t0 : Int32) (h : pH) : f_L_isPlan_113 k0 x1 x2 x3 x4 x5 x6 x7 x8 t0 h =
    if (7 : Int32) ≤ x8 then
    (if t0 = 0 then
      ((f_L_isPlan_68 k0 x1 x2 x3 x4 x5 x6 (x7 + 1) h))
      else
      (rI (0 : Int32) h))
    else
    (if (10 : Int32) ≤ t0 then
      ((f_L_isPlan_68 k0 x1 x2 x3 x4 x5 x6 (x7 + 1) h))
      else
      (rI (0 : Int32) h)) := (exq_run (M := M_111) rfl 11 _ _ _ _).symm.trans rfl
set_option maxRecDepth 100000 in
theorem e_L_isPlan_145 (k0 : Nat) (x1 : Int32) (x2 : Int32) (x3 : Int32) (x4 : Int32) (x5 : Int32) (x6 : Int32) (x7 : Int32) (h : pH) : f_L_isPlan_145 k0 x1 x2 x3 x4 x5 x6 x7 h =
    if kO h 7 k0 = true then (cI (f_X_count k0 (3 : Int32) h) fun x_2 h_1 =>
    if x_2 = (1 : Int32) then
    (if kO h_1 7 k0 = true then (cI (f_X_count k0 (8 : Int32) h_1) fun x_4 h_3 =>
      if x_4 = (x4 + x7) then
      (if x1 = 0 then
        (if x7 = x3 then
          ((f_L_isPlan_195 k0 x1 x2 x4 x6 x7 (1 : Int32) h_3))
          else
          ((f_L_isPlan_195 k0 x1 x2 x4 x6 x7 (0 : Int32) h_3)))
        else
        (if kO h_3 7 k0 = true then (cI (f_X_count k0 (9 : Int32) h_3) fun x_6 h_5 =>
          if (x_6 - x5) = x3 then
          ((f_L_isPlan_195 k0 x1 x2 x4 x6 x7 (1 : Int32) h_5))
          else
          ((f_L_isPlan_195 k0 x1 x2 x4 x6 x7 (0 : Int32) h_5))) else none))
      else
      ((f_L_isPlan_195 k0 x1 x2 x4 x6 x7 (0 : Int32) h_3))) else none)
    else
    ((f_L_isPlan_195 k0 x1 x2 x4 x6 x7 (0 : Int32) h_1))) else none := (exq_run (M := M_111) rfl 25 _ _ _ _).symm.trans rfl
set_option maxRecDepth 100000 in
theorem e_L_isPlan_195 (k0 : Nat) (x1 : Int32) (x2 : Int32) (x4 : Int32) (x6 : Int32) (x7 : Int32) (t0 : Int32) (h : pH) : f_L_isPlan_195 k0 x1 x2 x4 x6 x7 t0 h =
    if t0 = 0 then
    (rI (0 : Int32) h)
    else
    (if x6 = x2 then
      (if kO h 7 k0 = true then (cI (f_X_restore k0 h) fun x_2 h_1 =>
        if x_2 = x2 then
        (if kO h_1 7 k0 = true then (cI (f_X_count k0 (8 : Int32) h_1) fun x_4 h_3 =>
          if x_4 = x4 then
          (if kO h_3 7 k0 = true then (cI (f_X_plan k0 x1 x7 h_3) fun x_6 h_5 =>
            if x_6 = (-4 : Int32) then
            (if kO h_5 7 k0 = true then (cI (f_X_plan k0 x1 (x7 - (1 : Int32)) h_5) fun x_8 h_7 =>
              if x_8 < 0 then
              (rI (0 : Int32) h_7)
              else
              (rI (1 : Int32) h_7)) else none)
            else
            (rI (0 : Int32) h_5)) else none)
          else
          (rI (0 : Int32) h_3)) else none)
        else
        (rI (0 : Int32) h_1)) else none)
      else
      (rI (0 : Int32) h)) := (exq_run (M := M_111) rfl 32 _ _ _ _).symm.trans rfl
