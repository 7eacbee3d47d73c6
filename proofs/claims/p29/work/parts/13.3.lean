noncomputable def f_X_countAccounts (k0 : Nat) (x1 : Int32) (h : pH) : pR := run pMs none 27 0 [some (.ref k0), some (.int x1)] [] h
theorem e_X_countAccounts (k0 : Nat) (x1 : Int32) (h : pH) : f_X_countAccounts k0 x1 h =
    if x1 = 8 then
    (oo none (hR h 7 k0 0) fun k_1 =>
      oo none (hI h 6 k_1 7) fun x_2 =>
      rI x_2 h)
    else if x1 = 9 then
    (oo none (hR h 7 k0 0) fun k_3 =>
      oo none (hI h 6 k_3 8) fun x_4 =>
      rI x_4 h)
    else if x1 = 10 then
    (oo none (hR h 7 k0 0) fun k_5 =>
      oo none (hI h 6 k_5 9) fun x_6 =>
      rI x_6 h)
    else if x1 = 11 then
    (oo none (hR h 7 k0 0) fun k_7 =>
      if kO h 6 k_7 = true then (cI (f_B_possibleMoves k_7 h) fun x_9 h_8 =>
      rI x_9 h_8) else none)
    else if x1 = 12 then
    (oo none (hR h 7 k0 0) fun k_10 =>
      oo none (hI h 6 k_10 5) fun x_11 =>
      rI x_11 h)
    else if x1 = 13 then
    (oo none (hR h 7 k0 0) fun k_12 =>
      oo none (hI h 6 k_12 6) fun x_13 =>
      rI x_13 h)
    else if x1 = 14 then
    (oo none (hR h 7 k0 4) fun k_14 =>
      oo none (hI h 2 k_14 1) fun x_15 =>
      rI x_15 h)
    else if x1 = 15 then
    (oo none (hR h 7 k0 3) fun k_16 =>
      oo none (hI h 1 k_16 1) fun x_17 =>
      rI x_17 h)
    else (rI (-1 : Int32) h) := (exq_run (M := M_27) rfl 7 _ _ _ _).symm.trans rfl
noncomputable def f_X_count (k0 : Nat) (x1 : Int32) (h : pH) : pR := run pMs none 28 0 [some (.ref k0), some (.int x1)] [] h
set_option maxRecDepth 100000 in
theorem e_X_count (k0 : Nat) (x1 : Int32) (h : pH) : f_X_count k0 x1 h =
    if x1 = 0 then
    (oo none (hR h 7 k0 0) fun k_1 =>
      oo none (hI h 6 k_1 1) fun x_2 =>
      rI x_2 h)
    else if x1 = 1 then
    (oo none (hR h 7 k0 0) fun k_3 =>
      oo none (hI h 6 k_3 4) fun x_4 =>
      cI (f_J_bitCount x_4 h) fun x_6 h_5 =>
      rI x_6 h_5)
    else if x1 = 2 then
    (oo none (hR h 7 k0 0) fun k_7 =>
      if kO h 6 k_7 = true then (cI (f_B_sumOfWeights k_7 h) fun x_9 h_8 =>
      rI x_9 h_8) else none)
    else if x1 = 3 then
    (oo none (hR h 7 k0 0) fun k_10 =>
      oo none (hI h 6 k_10 0) fun x_11 =>
      oo none (hR h 7 k0 0) fun k_12 =>
      oo none (hI h 6 k_12 5) fun x_13 =>
      oo none (hR h 7 k0 0) fun k_14 =>
      oo none (hI h 6 k_14 6) fun x_15 =>
      cI (f_N_isInOrder x_11 x_13 x_15 h) fun x_17 h_16 =>
      if x_17 = 0 then
      (rI (0 : Int32) h_16)
      else
      (rI (1 : Int32) h_16))
    else if x1 = 4 then
    (oo none (hR h 7 k0 0) fun k_18 =>
      oo none (hI h 6 k_18 0) fun x_19 =>
      oo none (hR h 7 k0 0) fun k_20 =>
      oo none (hI h 6 k_20 5) fun x_21 =>
      cI (f_N_disorder x_19 x_21 h) fun x_23 h_22 =>
      rI x_23 h_22)
    else if x1 = 5 then
    (oo none (hR h 7 k0 0) fun k_24 =>
      if kO h 6 k_24 = true then (cI (f_B_rankOfNow k_24 h) fun x_26 h_25 =>
      rI x_26 h_25) else none)
    else if x1 = 6 then
    (oo none (hR h 7 k0 0) fun k_27 =>
      oo none (hI h 6 k_27 1) fun x_28 =>
      cI (f_K_wordsOf x_28 h) fun x_30 h_29 =>
      rI x_30 h_29)
    else if x1 = 7 then
    (oo none (hR h 7 k0 0) fun k_31 =>
      oo none (hI h 6 k_31 6) fun x_32 =>
      if x_32 = (1 : Int32) then
      (rI (1 : Int32) h)
      else
      (oo none (hR h 7 k0 0) fun k_33 =>
        oo none (hI h 6 k_33 1) fun x_34 =>
        cI (f_K_risingWordsOf x_34 h) fun x_36 h_35 =>
        rI x_36 h_35))
    else (if kO h 7 k0 = true then (cI (f_X_countAccounts k0 x1 h) fun x_38 h_37 =>
      rI x_38 h_37) else none) := (exq_run (M := M_28) rfl 17 _ _ _ _).symm.trans rfl
noncomputable def f_X_isBelow (x0 : Int32) (x1 : Int32) (h : pH) : pR := run pMs none 29 0 [some (.int x0), some (.int x1)] [] h
theorem e_X_isBelow (x0 : Int32) (x1 : Int32) (h : pH) : f_X_isBelow x0 x1 h =
    if x0 < 0 then
    (rI (0 : Int32) h)
    else
    (if x1 ≤ x0 then
      (rI (0 : Int32) h)
      else
      (rI (1 : Int32) h)) := (exq_run (M := M_29) rfl 9 _ _ _ _).symm.trans rfl
noncomputable def f_X_drawnSearch (k0 : Nat) (h : pH) : pR := run pMs none 41 0 [some (.ref k0)] [] h
theorem e_X_drawnSearch (k0 : Nat) (h : pH) : f_X_drawnSearch k0 h =
    oo none (hR h 7 k0 5) fun k_1 =>
    oo none (hR h 7 k0 0) fun k_2 =>
    oo none (hI h 6 k_2 1) fun x_3 =>
    if kO h 0 k_1 = true then (cV (f_G_draw k_1 x_3 h) fun h_4 =>
    oo none (hR h_4 7 k0 6) fun k_5 =>
    rR k_5 h_4) else none := (exq_run (M := M_41) rfl 10 _ _ _ _).symm.trans rfl
noncomputable def f_X_least (k0 : Nat) (x1 : Int32) (x2 : Int32) (h : pH) : pR := run pMs none 54 0 [some (.ref k0), some (.int x1), some (.int x2)] [] h
set_option maxRecDepth 100000 in
theorem e_X_least (k0 : Nat) (x1 : Int32) (x2 : Int32) (h : pH) : f_X_least k0 x1 x2 h =
    oo none (hR h 7 k0 0) fun k_1 =>
    oo none (hI h 6 k_1 1) fun x_2 =>
    cI (f_K_wordsOf x_2 h) fun x_4 h_3 =>
    cI (f_X_isBelow x1 x_4 h_3) fun x_6 h_5 =>
    if x_6 = 0 then
    (rI (-1 : Int32) h_5)
    else
    (cI (f_X_isBelow x2 (3 : Int32) h_5) fun x_8 h_7 =>
      if x_8 = 0 then
      (rI (-1 : Int32) h_7)
      else
      (if kO h_7 7 k0 = true then (cR (f_X_drawnSearch k0 h_7) fun k_10 h_9 =>
        oo none (hR h_9 7 k0 0) fun k_11 =>
        if kO h_9 5 k_10 = true then (cI (f_S_wayFrom k_10 k_11 x1 x2 h_9) fun x_13 h_12 =>
        if x_13 = (-1 : Int32) then
        (rI (-4 : Int32) h_12)
        else
        (rI x_13 h_12)) else none) else none)) := (exq_run (M := M_54) rfl 26 _ _ _ _).symm.trans rfl
noncomputable def f_X_loosen (k0 : Nat) (h : pH) : pR := run pMs none 59 0 [some (.ref k0)] [] h
noncomputable def f_X_loosen_7 (k0 : Nat) (x1 : Int32) (x2 : Int32) (x3 : Int32) (h : pH) : pR := run pMs none 59 7 [some (.ref k0), some (.int x1), some (.int x2), some (.int x3)] [] h
theorem e_X_loosen (k0 : Nat) (h : pH) : f_X_loosen k0 h =
    (f_X_loosen_7 k0 (-4 : Int32) (-1 : Int32) (0 : Int32) h) := (exq_run (M := M_59) rfl 7 _ _ _ _).symm.trans rfl
set_option maxRecDepth 100000 in
theorem e_X_loosen_7 (k0 : Nat) (x1 : Int32) (x2 : Int32) (x3 : Int32) (h : pH) : f_X_loosen_7 k0 x1 x2 x3 h =
    if (7 : Int32) ≤ x3 then
    (rI x1 h)
    else
    (oo none (hR h 7 k0 0) fun k_1 =>
      oo none (hI h 6 k_1 0) fun x_2 =>
      cI (f_N_slotAt x_2 x3 h) fun x_4 h_3 =>
      oo none (hR h_3 7 k0 0) fun k_5 =>
      oo none (hI h_3 6 k_5 4) fun x_6 =>
      cI (f_N_isIn x_6 x_4 h_3) fun x_8 h_7 =>
      if x_8 = 0 then
      ((f_X_loosen_7 k0 x1 x2 (x3 + 1) h_7))
      else
      (if kO h_7 7 k0 = true then (cR (f_X_drawnSearch k0 h_7) fun k_10 h_9 =>
        oo none (hR h_9 7 k0 0) fun k_11 =>
        oo none (hR h_9 7 k0 0) fun k_12 =>
        oo none (hI h_9 6 k_12 4) fun x_13 =>
        if kO h_9 5 k_10 = true then (cI (f_S_wayWith k_10 k_11 (x_13 &&& (((1 : Int32) <<< (x_4 &&& 31)) ^^^ (-1 : Int32))) h_9) fun x_15 h_14 =>
        if x1 = (-4 : Int32) then
        ((f_X_loosen_7 k0 x3 x_15 (x3 + 1) h_14))
        else
        (if x_15 = (-1 : Int32) then
          ((f_X_loosen_7 k0 x1 x2 (x3 + 1) h_14))
          else
          (if x2 = (-1 : Int32) then
            ((f_X_loosen_7 k0 x3 x_15 (x3 + 1) h_14))
            else
            (if x2 ≤ x_15 then
              ((f_X_loosen_7 k0 x1 x2 (x3 + 1) h_14))
              else
              ((f_X_loosen_7 k0 x3 x_15 (x3 + 1) h_14)))))) else none) else none)) := (exq_run (M := M_59) rfl 49 _ _ _ _).symm.trans rfl
noncomputable def f_X_mean (k0 : Nat) (h : pH) : pR := run pMs none 62 0 [some (.ref k0)] [] h
set_option maxRecDepth 100000 in
theorem e_X_mean (k0 : Nat) (h : pH) : f_X_mean k0 h =
    if kO h 7 k0 = true then (cR (f_X_drawnSearch k0 h) fun k_2 h_1 =>
    oo none (hR h_1 7 k0 0) fun k_3 =>
    if kO h_1 5 k_2 = true then (cI (f_S_savableWords k_2 k_3 h_1) fun x_5 h_4 =>
    if x_5 ≤ 0 then
    (rD FP.dconst0 h_4)
    else
    (oo none (hR h_4 7 k0 6) fun k_6 =>
      oo none (hR h_4 7 k0 0) fun k_7 =>
      if kO h_4 5 k_6 = true then (cI (f_S_sumOfWays k_6 k_7 h_4) fun x_9 h_8 =>
      if (FP.ddiv (FP.i2d x_9) (FP.i2d x_5)) &&& 0x7fffffffffffffff ≤ 0x7ff0000000000000 then
      (rD (FP.ddiv (FP.i2d x_9) (FP.i2d x_5)) h_8)
      else none) else none)) else none) else none := (exq_run (M := M_62) rfl 20 _ _ _ _).symm.trans rfl
noncomputable def f_X_undo (k0 : Nat) (h : pH) : pR := run pMs none 66 0 [some (.ref k0)] [] h
set_option maxRecDepth 100000 in
theorem e_X_undo (k0 : Nat) (h : pH) : f_X_undo k0 h =
    oo none (hR h 7 k0 3) fun k_1 =>
    oo none (hI h 1 k_1 1) fun x_2 =>
    if x_2 = 0 then
    (rI (-2 : Int32) h)
    else
    (oo none (hR h 7 k0 3) fun k_3 =>
      oo none (hR h 7 k0 0) fun k_4 =>
      if kO h 1 k_3 = true then (cV (f_H_giveBack k_3 k_4 h) fun h_5 =>
      oo none (hR h_5 7 k0 3) fun k_6 =>
      oo none (hI h_5 1 k_6 1) fun x_7 =>
      rI x_7 h_5) else none) := (exq_run (M := M_66) rfl 14 _ _ _ _).symm.trans rfl
noncomputable def f_X_restore (k0 : Nat) (h : pH) : pR := run pMs none 69 0 [some (.ref k0)] [] h
set_option maxRecDepth 100000 in
theorem e_X_restore (k0 : Nat) (h : pH) : f_X_restore k0 h =
    oo none (hI h 7 k0 2) fun x_1 =>
    if x_1 = 0 then
    (rI (-2 : Int32) h)
    else
    (oo none (hR h 7 k0 3) fun k_2 =>
      oo none (hR h 7 k0 0) fun k_3 =>
      if kO h 1 k_2 = true then (cV (f_H_keep k_2 k_3 h) fun h_4 =>
      oo none (hR h_4 7 k0 0) fun k_5 =>
      oo none (hR h_4 7 k0 1) fun k_6 =>
      if kO h_4 6 k_5 = true then (cV (f_B_become k_5 k_6 h_4) fun h_7 =>
      oo none (hR h_7 7 k0 0) fun k_8 =>
      if kO h_7 6 k_8 = true then (cI (f_B_rankOfNow k_8 h_7) fun x_10 h_9 =>
      rI x_10 h_9) else none) else none) else none) := (exq_run (M := M_69) rfl 18 _ _ _ _).symm.trans rfl
noncomputable def f_X_add (k0 : Nat) (x1 : Int32) (x2 : Int32) (x3 : Int32) (h : pH) : pR := run pMs none 74 0 [some (.ref k0), some (.int x1), some (.int x2), some (.int x3)] [] h
set_option maxRecDepth 100000 in
theorem e_X_add (k0 : Nat) (x1 : Int32) (x2 : Int32) (x3 : Int32) (h : pH) : f_X_add k0 x1 x2 x3 h =
    cI (f_X_isBelow x1 (26 : Int32) h) fun x_2 h_1 =>
    if x_2 = 0 then
    (rI (-1 : Int32) h_1)
    else
    (if x2 < (1 : Int32) then
      (rI (-1 : Int32) h_1)
      else
      (if (9 : Int32) < x2 then
        (rI (-1 : Int32) h_1)
        else
        (cI (f_X_isBelow x3 (7 : Int32) h_1) fun x_4 h_3 =>
          if x_4 = 0 then
          (rI (-1 : Int32) h_3)
          else
          (oo none (hR h_3 7 k0 0) fun k_5 =>
            if kO h_3 6 k_5 = true then (cI (f_B_slotOf k_5 x1 h_3) fun x_7 h_6 =>
            if x_7 = 0 then
            (oo none (hR h_6 7 k0 0) fun k_8 =>
              oo none (hI h_6 6 k_8 0) fun x_9 =>
              cI (f_N_slotAt x_9 x3 h_6) fun x_11 h_10 =>
              if x_11 = 0 then
              (oo none (hR h_10 7 k0 0) fun k_12 =>
                oo none (hI h_10 6 k_12 1) fun x_13 =>
                if x_13 < (5 : Int32) then
                (oo none (hR h_10 7 k0 3) fun k_14 =>
                  oo none (hR h_10 7 k0 0) fun k_15 =>
                  if kO h_10 1 k_14 = true then (cV (f_H_keep k_14 k_15 h_10) fun h_16 =>
                  oo none (hR h_16 7 k0 0) fun k_17 =>
                  if kO h_16 6 k_17 = true then (cV (f_B_insert k_17 x1 x2 x3 h_16) fun h_18 =>
                  oo none (hR h_18 7 k0 0) fun k_19 =>
                  oo none (hI h_18 6 k_19 1) fun x_20 =>
                  rI x_20 h_18) else none) else none)
                else
                (rI (-3 : Int32) h_10))
              else
              (rI (-2 : Int32) h_10))
            else
            (rI (-2 : Int32) h_6)) else none)))) := (exq_run (M := M_74) rfl 46 _ _ _ _).symm.trans rfl
noncomputable def f_X_at (k0 : Nat) (x1 : Int32) (x2 : Int32) (h : pH) : pR := run pMs none 75 0 [some (.ref k0), some (.int x1), some (.int x2)] [] h
set_option maxRecDepth 100000 in
theorem e_X_at (k0 : Nat) (x1 : Int32) (x2 : Int32) (h : pH) : f_X_at k0 x1 x2 h =
    cI (f_X_isBelow x1 (7 : Int32) h) fun x_2 h_1 =>
    if x_2 = 0 then
    (rI (-1 : Int32) h_1)
    else
    (cI (f_X_isBelow x2 (6 : Int32) h_1) fun x_4 h_3 =>
      if x_4 = 0 then
      (rI (-1 : Int32) h_3)
      else
      (oo none (hR h_3 7 k0 0) fun k_5 =>
        oo none (hI h_3 6 k_5 0) fun x_6 =>
        cI (f_N_slotAt x_6 x1 h_3) fun x_8 h_7 =>
        if x_8 = 0 then
        (if x2 = (5 : Int32) then
          (rI x1 h_7)
          else
          (rI (-4 : Int32) h_7))
        else
        (if x2 = 0 then
          (oo none (hR h_7 7 k0 0) fun k_9 =>
            oo none (hR h_7 6 k_9 2) fun k_10 =>
            if kO h_7 4 k_10 = true then (cI (f_R_get k_10 x_8 h_7) fun x_12 h_11 =>
            rI x_12 h_11) else none)
          else if x2 = 1 then
          (oo none (hR h_7 7 k0 0) fun k_13 =>
            oo none (hR h_7 6 k_13 3) fun k_14 =>
            if kO h_7 4 k_14 = true then (cI (f_R_get k_14 x_8 h_7) fun x_16 h_15 =>
            rI x_16 h_15) else none)
          else if x2 = 2 then
          (oo none (hR h_7 7 k0 0) fun k_17 =>
            oo none (hI h_7 6 k_17 4) fun x_18 =>
            cI (f_N_isIn x_18 x_8 h_7) fun x_20 h_19 =>
            if x_20 = 0 then
            (rI (0 : Int32) h_19)
            else
            (rI (1 : Int32) h_19))
          else if x2 = 3 then
          (oo none (hR h_7 7 k0 0) fun k_21 =>
            oo none (hI h_7 6 k_21 0) fun x_22 =>
            cI (f_N_gapBeside x_22 x1 h_7) fun x_24 h_23 =>
            rI x_24 h_23)
          else if x2 = 4 then
          (oo none (hR h_7 7 k0 0) fun k_25 =>
            oo none (hI h_7 6 k_25 0) fun x_26 =>
            oo none (hR h_7 7 k0 0) fun k_27 =>
            oo none (hI h_7 6 k_27 5) fun x_28 =>
            cI (f_N_wrongBooks x_26 x1 x_28 h_7) fun x_30 h_29 =>
            rI x_30 h_29)
          else (oo none (hR h_7 7 k0 0) fun k_31 =>
            oo none (hI h_7 6 k_31 0) fun x_32 =>
            cI (f_N_gapBeside x_32 x1 h_7) fun x_34 h_33 =>
            rI x_34 h_33)))) := (exq_run (M := M_75) rfl 28 _ _ _ _).symm.trans rfl
noncomputable def f_X_remove (k0 : Nat) (x1 : Int32) (h : pH) : pR := run pMs none 77 0 [some (.ref k0), some (.int x1)] [] h
set_option maxRecDepth 100000 in
theorem e_X_remove (k0 : Nat) (x1 : Int32) (h : pH) : f_X_remove k0 x1 h =
    cI (f_X_isBelow x1 (7 : Int32) h) fun x_2 h_1 =>
    if x_2 = 0 then
    (rI (-1 : Int32) h_1)
    else
    (oo none (hR h_1 7 k0 0) fun k_3 =>
      oo none (hI h_1 6 k_3 0) fun x_4 =>
      cI (f_N_slotAt x_4 x1 h_1) fun x_6 h_5 =>
      if x_6 = 0 then
      (rI (-2 : Int32) h_5)
      else
      (oo none (hR h_5 7 k0 3) fun k_7 =>
        oo none (hR h_5 7 k0 0) fun k_8 =>
        if kO h_5 1 k_7 = true then (cV (f_H_keep k_7 k_8 h_5) fun h_9 =>
        oo none (hR h_9 7 k0 0) fun k_10 =>
        if kO h_9 6 k_10 = true then (cI (f_B_takeOff k_10 x1 h_9) fun x_12 h_11 =>
        rI x_12 h_11) else none) else none)) := (exq_run (M := M_77) rfl 21 _ _ _ _).symm.trans rfl
noncomputable def f_X_stick (k0 : Nat) (x1 : Int32) (h : pH) : pR := run pMs none 78 0 [some (.ref k0), some (.int x1)] [] h
set_option maxRecDepth 100000 in
theorem e_X_stick (k0 : Nat) (x1 : Int32) (h : pH) : f_X_stick k0 x1 h =
    cI (f_X_isBelow x1 (7 : Int32) h) fun x_2 h_1 =>
    if x_2 = 0 then
    (rI (-1 : Int32) h_1)
    else
    (oo none (hR h_1 7 k0 0) fun k_3 =>
      oo none (hI h_1 6 k_3 0) fun x_4 =>
      cI (f_N_slotAt x_4 x1 h_1) fun x_6 h_5 =>
      if x_6 = 0 then
      (rI (-2 : Int32) h_5)
      else
      (oo none (hR h_5 7 k0 3) fun k_7 =>
        oo none (hR h_5 7 k0 0) fun k_8 =>
        if kO h_5 1 k_7 = true then (cV (f_H_keep k_7 k_8 h_5) fun h_9 =>
        oo none (hR h_9 7 k0 0) fun k_10 =>
        oo none (hI h_9 6 k_10 4) fun x_11 =>
        if kO h_9 6 k_10 = true then
        (oo none (hR (sI h_9 k_10 4 (x_11 ^^^ ((1 : Int32) <<< (x_6 &&& 31)))) 7 k0 0) fun k_12 =>
        oo none (hI (sI h_9 k_10 4 (x_11 ^^^ ((1 : Int32) <<< (x_6 &&& 31)))) 6 k_12 4) fun x_13 =>
        cI (f_N_isIn x_13 x_6 (sI h_9 k_10 4 (x_11 ^^^ ((1 : Int32) <<< (x_6 &&& 31))))) fun x_15 h_14 =>
        if x_15 = 0 then
        (rI (0 : Int32) h_14)
        else
        (rI (1 : Int32) h_14))
        else none) else none)) := (exq_run (M := M_78) rfl 36 _ _ _ _).symm.trans rfl
noncomputable def f_X_set (k0 : Nat) (x1 : Int32) (x2 : Int32) (h : pH) : pR := run pMs none 79 0 [some (.ref k0), some (.int x1), some (.int x2)] [] h
set_option maxRecDepth 100000 in
theorem e_X_set (k0 : Nat) (x1 : Int32) (x2 : Int32) (h : pH) : f_X_set k0 x1 x2 h =
    cI (f_X_isBelow x1 (2 : Int32) h) fun x_2 h_1 =>
    if x_2 = 0 then
    (rI (-1 : Int32) h_1)
    else
    (cI (f_X_isBelow x2 (2 : Int32) h_1) fun x_4 h_3 =>
      if x_4 = 0 then
      (rI (-1 : Int32) h_3)
      else
      (oo none (hR h_3 7 k0 3) fun k_5 =>
        oo none (hR h_3 7 k0 0) fun k_6 =>
        if kO h_3 1 k_5 = true then (cV (f_H_keep k_5 k_6 h_3) fun h_7 =>
        if x1 = 0 then
        (oo none (hR h_7 7 k0 0) fun k_11 =>
          oo none (hI h_7 6 k_11 5) fun x_12 =>
          oo none (hR h_7 7 k0 0) fun k_13 =>
          if kO h_7 6 k_13 = true then
          (rI x_12 (sI h_7 k_13 5 x2))
          else none)
        else
        (oo none (hR h_7 7 k0 0) fun k_8 =>
          oo none (hI h_7 6 k_8 6) fun x_9 =>
          oo none (hR h_7 7 k0 0) fun k_10 =>
          if kO h_7 6 k_10 = true then
          (rI x_9 (sI h_7 k_10 6 x2))
          else none)) else none)) := (exq_run (M := M_79) rfl 27 _ _ _ _).symm.trans rfl
noncomputable def f_X_clear (k0 : Nat) (h : pH) : pR := run pMs none 80 0 [some (.ref k0)] [] h
theorem e_X_clear (k0 : Nat) (h : pH) : f_X_clear k0 h =
    oo none (hR h 7 k0 4) fun k_1 =>
    oo none (hI h 2 k_1 1) fun x_2 =>
    oo none (hR h 7 k0 4) fun k_3 =>
    if kO h 2 k_3 = true then
    (rI x_2 (sI h k_3 1 (0 : Int32)))
    else none := (exq_run (M := M_80) rfl 11 _ _ _ _).symm.trans rfl
noncomputable def f_X_word (k0 : Nat) (x1 : Int32) (x2 : Int32) (h : pH) : pR := run pMs none 81 0 [some (.ref k0), some (.int x1), some (.int x2)] [] h
set_option maxRecDepth 100000 in
theorem e_X_word (k0 : Nat) (x1 : Int32) (x2 : Int32) (h : pH) : f_X_word k0 x1 x2 h =
    oo none (hR h 7 k0 0) fun k_1 =>
    oo none (hI h 6 k_1 1) fun x_2 =>
    cI (f_K_wordsOf x_2 h) fun x_4 h_3 =>
    cI (f_X_isBelow x1 x_4 h_3) fun x_6 h_5 =>
    if x_6 = 0 then
    (rI (-1 : Int32) h_5)
    else
    (cI (f_X_isBelow x2 (7 : Int32) h_5) fun x_8 h_7 =>
      if x_8 = 0 then
      (rI (-1 : Int32) h_7)
      else
      (oo none (hR h_7 7 k0 0) fun k_9 =>
        oo none (hI h_7 6 k_9 1) fun x_10 =>
        cI (f_K_wordAt x1 x_10 h_7) fun x_12 h_11 =>
        cI (f_N_slotAt x_12 x2 h_11) fun x_14 h_13 =>
        if x_14 = 0 then
        (rI (-4 : Int32) h_13)
        else
        (oo none (hR h_13 7 k0 0) fun k_15 =>
          oo none (hR h_13 6 k_15 2) fun k_16 =>
          if kO h_13 4 k_16 = true then (cI (f_R_get k_16 x_14 h_13) fun x_18 h_17 =>
          rI x_18 h_17) else none))) := (exq_run (M := M_81) rfl 28 _ _ _ _).symm.trans rfl
noncomputable def f_X_append (k0 : Nat) (x1 : Int32) (h : pH) : pR := run pMs none 83 0 [some (.ref k0), some (.int x1)] [] h
set_option maxRecDepth 100000 in
theorem e_X_append (k0 : Nat) (x1 : Int32) (h : pH) : f_X_append k0 x1 h =
    if x1 < (33 : Int32) then
    (rI (-1 : Int32) h)
    else
    (if x1 ≤ (126 : Int32) then
      (oo none (hR h 7 k0 4) fun k_1 =>
        oo none (hI h 2 k_1 1) fun x_2 =>
        if x_2 < (60 : Int32) then
        (oo none (hR h 7 k0 4) fun k_3 =>
          if kO h 2 k_3 = true then (cV (f_P_write k_3 x1 h) fun h_4 =>
          oo none (hR h_4 7 k0 4) fun k_5 =>
          oo none (hI h_4 2 k_5 1) fun x_6 =>
          rI x_6 h_4) else none)
        else
        (rI (-3 : Int32) h))
      else
      (rI (-1 : Int32) h)) := (exq_run (M := M_83) rfl 20 _ _ _ _).symm.trans rfl
noncomputable def f_X_fault (k0 : Nat) (x1 : Int32) (h : pH) : pR := run pMs none 89 0 [some (.ref k0), some (.int x1)] [] h
theorem e_X_fault (k0 : Nat) (x1 : Int32) (h : pH) : f_X_fault k0 x1 h =
    cI (f_X_isBelow x1 (2 : Int32) h) fun x_2 h_1 =>
    if x_2 = 0 then
    (rI (-1 : Int32) h_1)
    else
    (if x1 = 0 then
      (oo none (hR h_1 7 k0 4) fun k_7 =>
        if kO h_1 2 k_7 = true then (cI (f_P_programFault k_7 h_1) fun x_9 h_8 =>
        rI x_9 h_8) else none)
      else
      (oo none (hR h_1 7 k0 4) fun k_3 =>
        oo none (hR h_1 7 k0 0) fun k_4 =>
        if kO h_1 2 k_3 = true then (cI (f_P_wordFault k_3 k_4 h_1) fun x_6 h_5 =>
        rI x_6 h_5) else none)) := (exq_run (M := M_89) rfl 13 _ _ _ _).symm.trans rfl
noncomputable def f_X_arrange (k0 : Nat) (h : pH) : pR := run pMs none 91 0 [some (.ref k0)] [] h
set_option maxRecDepth 100000 in
theorem e_X_arrange (k0 : Nat) (h : pH) : f_X_arrange k0 h =
    oo none (hR h 7 k0 4) fun k_1 =>
    oo none (hR h 7 k0 0) fun k_2 =>
    if kO h 2 k_1 = true then (cI (f_P_wordFault k_1 k_2 h) fun x_4 h_3 =>
    if x_4 = (-4 : Int32) then
    (oo none (hR h_3 7 k0 3) fun k_5 =>
      oo none (hR h_3 7 k0 0) fun k_6 =>
      if kO h_3 1 k_5 = true then (cV (f_H_keep k_5 k_6 h_3) fun h_7 =>
      oo none (hR h_7 7 k0 0) fun k_8 =>
      oo none (hR h_7 7 k0 4) fun k_9 =>
      oo none (hR h_7 7 k0 0) fun k_10 =>
      if kO h_7 2 k_9 = true then (cI (f_P_readWord k_9 k_10 h_7) fun x_12 h_11 =>
      if kO h_11 6 k_8 = true then
      (oo none (hR (sI h_11 k_8 0 x_12) 7 k0 4) fun k_13 =>
      if kO (sI h_11 k_8 0 x_12) 2 k_13 = true then
      (oo none (hR (sI (sI h_11 k_8 0 x_12) k_13 1 (0 : Int32)) 7 k0 0) fun k_14 =>
      if kO (sI (sI h_11 k_8 0 x_12) k_13 1 (0 : Int32)) 6 k_14 = true then (cI (f_B_rankOfNow k_14 (sI (sI h_11 k_8 0 x_12) k_13 1 (0 : Int32))) fun x_16 h_15 =>
      rI x_16 h_15) else none)
      else none)
      else none) else none) else none)
    else
    (rI (-2 : Int32) h_3)) else none := (exq_run (M := M_91) rfl 29 _ _ _ _).symm.trans rfl
noncomputable def f_X_whyNot (k0 : Nat) (x1 : Int32) (h : pH) : pR := run pMs none 93 0 [some (.ref k0), some (.int x1)] [] h
set_option maxRecDepth 100000 in
theorem e_X_whyNot (k0 : Nat) (x1 : Int32) (h : pH) : f_X_whyNot k0 x1 h =
    cI (f_X_isBelow x1 (19 : Int32) h) fun x_2 h_1 =>
    if x_2 = 0 then
    (rI (-1 : Int32) h_1)
    else
    (oo none (hR h_1 7 k0 0) fun k_3 =>
      oo none (hI h_1 6 k_3 0) fun x_4 =>
      oo none (hR h_1 7 k0 0) fun k_5 =>
      oo none (hI h_1 6 k_5 4) fun x_6 =>
      cI (f_N_reason x_4 x_6 x1 h_1) fun x_8 h_7 =>
      rI x_8 h_7) := (exq_run (M := M_93) rfl 14 _ _ _ _).symm.trans rfl
noncomputable def f_X_cost (k0 : Nat) (x1 : Int32) (h : pH) : pR := run pMs none 94 0 [some (.ref k0), some (.int x1)] [] h
set_option maxRecDepth 100000 in
theorem e_X_cost (k0 : Nat) (x1 : Int32) (h : pH) : f_X_cost k0 x1 h =
    cI (f_X_isBelow x1 (19 : Int32) h) fun x_2 h_1 =>
    if x_2 = 0 then
    (rI (-1 : Int32) h_1)
    else
    (oo none (hR h_1 7 k0 0) fun k_3 =>
      oo none (hI h_1 6 k_3 0) fun x_4 =>
      oo none (hR h_1 7 k0 0) fun k_5 =>
      oo none (hI h_1 6 k_5 4) fun x_6 =>
      cI (f_N_reason x_4 x_6 x1 h_1) fun x_8 h_7 =>
      if x_8 = 0 then
      (oo none (hR h_7 7 k0 0) fun k_9 =>
        oo none (hI h_7 6 k_9 0) fun x_10 =>
        oo none (hR h_7 7 k0 0) fun k_11 =>
        oo none (hR h_7 6 k_11 3) fun k_12 =>
        cI (f_N_price x_10 k_12 x1 h_7) fun x_14 h_13 =>
        rI x_14 h_13)
      else
      (rI (-2 : Int32) h_7)) := (exq_run (M := M_94) rfl 23 _ _ _ _).symm.trans rfl
noncomputable def f_X_leads (k0 : Nat) (x1 : Int32) (h : pH) : pR := run pMs none 95 0 [some (.ref k0), some (.int x1)] [] h
set_option maxRecDepth 100000 in
theorem e_X_leads (k0 : Nat) (x1 : Int32) (h : pH) : f_X_leads k0 x1 h =
    cI (f_X_isBelow x1 (19 : Int32) h) fun x_2 h_1 =>
    if x_2 = 0 then
    (rI (-1 : Int32) h_1)
    else
    (oo none (hR h_1 7 k0 0) fun k_3 =>
      oo none (hI h_1 6 k_3 0) fun x_4 =>
      oo none (hR h_1 7 k0 0) fun k_5 =>
      oo none (hI h_1 6 k_5 4) fun x_6 =>
      cI (f_N_reason x_4 x_6 x1 h_1) fun x_8 h_7 =>
      if x_8 = 0 then
      (oo none (hR h_7 7 k0 0) fun k_9 =>
        oo none (hI h_7 6 k_9 0) fun x_10 =>
        cI (f_N_after x_10 x1 h_7) fun x_12 h_11 =>
        oo none (hR h_11 7 k0 0) fun k_13 =>
        oo none (hI h_11 6 k_13 1) fun x_14 =>
        cI (f_K_rankOf x_12 x_14 h_11) fun x_16 h_15 =>
        rI x_16 h_15)
      else
      (rI (-2 : Int32) h_7)) := (exq_run (M := M_95) rfl 24 _ _ _ _).symm.trans rfl
noncomputable def f_X_pull (k0 : Nat) (x1 : Int32) (h : pH) : pR := run pMs none 97 0 [some (.ref k0), some (.int x1)] [] h
set_option maxRecDepth 100000 in
theorem e_X_pull (k0 : Nat) (x1 : Int32) (h : pH) : f_X_pull k0 x1 h =
    cI (f_X_isBelow x1 (7 : Int32) h) fun x_2 h_1 =>
    if x_2 = 0 then
    (rI (-1 : Int32) h_1)
    else
    (oo none (hR h_1 7 k0 0) fun k_3 =>
      oo none (hI h_1 6 k_3 0) fun x_4 =>
      cI (f_N_gapBeside x_4 x1 h_1) fun x_6 h_5 =>
      oo none (hR h_5 7 k0 3) fun k_7 =>
      oo none (hR h_5 7 k0 0) fun k_8 =>
      if kO h_5 1 k_7 = true then (cV (f_H_keep k_7 k_8 h_5) fun h_9 =>
      oo none (hR h_9 7 k0 0) fun k_10 =>
      if kO h_9 6 k_10 = true then (cI (f_B_tryMove k_10 x1 h_9) fun x_12 h_11 =>
      if x_12 = 0 then
      (rI ((10 : Int32) + x_6) h_11)
      else
      (rI x_12 h_11)) else none) else none) := (exq_run (M := M_97) rfl 27 _ _ _ _).symm.trans rfl
noncomputable def f_X_push (k0 : Nat) (x1 : Int32) (x2 : Int32) (h : pH) : pR := run pMs none 98 0 [some (.ref k0), some (.int x1), some (.int x2)] [] h
set_option maxRecDepth 100000 in
theorem e_X_push (k0 : Nat) (x1 : Int32) (x2 : Int32) (h : pH) : f_X_push k0 x1 x2 h =
    cI (f_X_isBelow x1 (6 : Int32) h) fun x_2 h_1 =>
    if x_2 = 0 then
    (rI (-1 : Int32) h_1)
    else
    (oo none (hR h_1 7 k0 3) fun k_3 =>
      oo none (hR h_1 7 k0 0) fun k_4 =>
      if kO h_1 1 k_3 = true then (cV (f_H_keep k_3 k_4 h_1) fun h_5 =>
      oo none (hR h_5 7 k0 0) fun k_6 =>
      if x2 = 0 then
      (if kO h_5 6 k_6 = true then (cI (f_B_tryMove k_6 ((13 : Int32) + x1) h_5) fun x_8 h_7 =>
        rI x_8 h_7) else none)
      else
      (if kO h_5 6 k_6 = true then (cI (f_B_tryMove k_6 ((7 : Int32) + x1) h_5) fun x_10 h_9 =>
        rI x_10 h_9) else none)) else none) := (exq_run (M := M_98) rfl 20 _ _ _ _).symm.trans rfl
noncomputable def f_X_plan (k0 : Nat) (x1 : Int32) (x2 : Int32) (h : pH) : pR := run pMs none 109 0 [some (.ref k0), some (.int x1), some (.int x2)] [] h
set_option maxRecDepth 100000 in
theorem e_X_plan (k0 : Nat) (x1 : Int32) (x2 : Int32) (h : pH) : f_X_plan k0 x1 x2 h =
    if 0 ≤ x2 then
    (if kO h 7 k0 = true then (cR (f_X_drawnSearch k0 h) fun k_2 h_1 =>
      oo none (hR h_1 7 k0 0) fun k_3 =>
      if kO h_1 5 k_2 = true then (cI (f_S_plannedMove k_2 k_3 x1 x2 h_1) fun x_5 h_4 =>
      if x_5 = (-1 : Int32) then
      (rI (-4 : Int32) h_4)
      else
      (rI x_5 h_4)) else none) else none)
    else
    (rI (-1 : Int32) h) := (exq_run (M := M_109) rfl 17 _ _ _ _).symm.trans rfl
noncomputable def f_X_save (k0 : Nat) (h : pH) : pR := run pMs none 110 0 [some (.ref k0)] [] h
theorem e_X_save (k0 : Nat) (h : pH) : f_X_save k0 h =
    oo none (hR h 7 k0 1) fun k_1 =>
    oo none (hR h 7 k0 0) fun k_2 =>
    if kO h 6 k_1 = true then (cV (f_B_become k_1 k_2 h) fun h_3 =>
    if kO h_3 7 k0 = true ∧ ((1 : Int32) = 0 ∨ (1 : Int32) = 1) then
    (oo none (hR (sI h_3 k0 2 (1 : Int32)) 7 k0 0) fun k_4 =>
    if kO (sI h_3 k0 2 (1 : Int32)) 6 k_4 = true then (cI (f_B_rankOfNow k_4 (sI h_3 k0 2 (1 : Int32))) fun x_6 h_5 =>
    rI x_6 h_5) else none)
    else none) else none := (exq_run (M := M_110) rfl 13 _ _ _ _).symm.trans rfl
noncomputable def f_X_all (k0 : Nat) (x1 : Int32) (h : pH) : pR := run pMs none 114 0 [some (.ref k0), some (.int x1)] [] h
theorem e_X_all (k0 : Nat) (x1 : Int32) (h : pH) : f_X_all k0 x1 h =
    if x1 = 0 then
    (if kO h 7 k0 = true then (cR (f_X_drawnSearch k0 h) fun k_2 h_1 =>
      oo none (hR h_1 7 k0 0) fun k_3 =>
      if kO h_1 5 k_2 = true then (cI (f_S_savableWords k_2 k_3 h_1) fun x_5 h_4 =>
      rI x_5 h_4) else none) else none)
    else if x1 = 1 then
    (if kO h 7 k0 = true then (cR (f_X_drawnSearch k0 h) fun k_7 h_6 =>
      oo none (hR h_6 7 k0 0) fun k_8 =>
      if kO h_6 5 k_7 = true then (cI (f_S_greatestWay k_7 k_8 (0 : Int32) h_6) fun x_10 h_9 =>
      rI x_10 h_9) else none) else none)
    else if x1 = 2 then
    (if kO h 7 k0 = true then (cR (f_X_drawnSearch k0 h) fun k_12 h_11 =>
      oo none (hR h_11 7 k0 0) fun k_13 =>
      if kO h_11 5 k_12 = true then (cI (f_S_greatestWay k_12 k_13 (1 : Int32) h_11) fun x_15 h_14 =>
      rI x_15 h_14) else none) else none)
    else if x1 = 3 then
    (if kO h 7 k0 = true then (cR (f_X_drawnSearch k0 h) fun k_17 h_16 =>
      oo none (hR h_16 7 k0 0) fun k_18 =>
      if kO h_16 5 k_17 = true then (cI (f_S_worstRank k_17 k_18 h_16) fun x_20 h_19 =>
      rI x_20 h_19) else none) else none)
    else if x1 = 4 then
    (if kO h 7 k0 = true then (cR (f_X_drawnSearch k0 h) fun k_22 h_21 =>
      oo none (hR h_21 7 k0 0) fun k_23 =>
      oo none (hR h_21 7 k0 0) fun k_24 =>
      oo none (hI h_21 6 k_24 4) fun x_25 =>
      if kO h_21 5 k_22 = true then (cI (f_S_reach k_22 k_23 x_25 h_21) fun x_27 h_26 =>
      rI x_27 h_26) else none) else none)
    else (rI (-1 : Int32) h) := (exq_run (M := M_114) rfl 12 _ _ _ _).symm.trans rfl
noncomputable def f_X_round (k0 : Nat) (x1 : Int32) (h : pH) : pR := run pMs none 120 0 [some (.ref k0), some (.int x1)] [] h
set_option maxRecDepth 100000 in
theorem e_X_round (k0 : Nat) (x1 : Int32) (h : pH) : f_X_round k0 x1 h =
    cI (f_X_isBelow x1 (4 : Int32) h) fun x_2 h_1 =>
    if x_2 = 0 then
    (rI (-1 : Int32) h_1)
    else
    (oo none (hR h_1 7 k0 4) fun k_3 =>
      if kO h_1 2 k_3 = true then (cI (f_P_programFault k_3 h_1) fun x_5 h_4 =>
      if x_5 = (-4 : Int32) then
      (oo none (hR h_4 7 k0 7) fun k_6 =>
        oo none (hR h_4 7 k0 0) fun k_7 =>
        oo none (hR h_4 7 k0 4) fun k_8 =>
        if kO h_4 3 k_6 = true then (cV (f_D_follow k_6 k_7 k_8 h_4) fun h_9 =>
        if x1 = 0 then
        (oo none (hR h_9 7 k0 7) fun k_10 =>
          oo none (hI h_9 3 k_10 4) fun x_11 =>
          rI x_11 h_9)
        else if x1 = 1 then
        (oo none (hR h_9 7 k0 7) fun k_12 =>
          oo none (hI h_9 3 k_12 5) fun x_13 =>
          rI x_13 h_9)
        else if x1 = 2 then
        (oo none (hR h_9 7 k0 7) fun k_14 =>
          oo none (hI h_9 3 k_14 6) fun x_15 =>
          rI x_15 h_9)
        else (oo none (hR h_9 7 k0 7) fun k_16 =>
          oo none (hI h_9 3 k_16 7) fun x_17 =>
          rI x_17 h_9)) else none)
      else
      (rI (-2 : Int32) h_4)) else none) := (exq_run (M := M_120) rfl 23 _ _ _ _).symm.trans rfl
