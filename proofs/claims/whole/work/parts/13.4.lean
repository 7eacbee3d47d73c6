noncomputable def f_Y_in (x0 : Int32) (x1 : Int32) (x2 : Int32) (h : pH) : pR := run pMs none 22 0 [some (.int x0), some (.int x1), some (.int x2)] [] h
theorem e_Y_in (x0 : Int32) (x1 : Int32) (x2 : Int32) (h : pH) : f_Y_in x0 x1 x2 h =
    if x0 < x1 then
    (rI (0 : Int32) h)
    else
    (if x2 < x0 then
      (rI (0 : Int32) h)
      else
      (rI (1 : Int32) h)) := (exq_run (M := M_22) rfl 10 _ _ _ _).symm.trans rfl
noncomputable def f_Y_isPlace (x0 : Int32) (h : pH) : pR := run pMs none 23 0 [some (.int x0)] [] h
theorem e_Y_isPlace (x0 : Int32) (h : pH) : f_Y_isPlace x0 h =
    cI (f_Y_in x0 (0 : Int32) (6 : Int32) h) fun x_2 h_1 =>
    if x_2 = 0 ∨ x_2 = 1 then rI x_2 h_1 else none := (exq_run (M := M_23) rfl 6 _ _ _ _).symm.trans rfl
noncomputable def f_Y_place (k0 : Nat) (x1 : Int32) (h : pH) : pR := run pMs none 24 0 [some (.ref k0), some (.int x1)] [] h
noncomputable def f_Y_place_2 (k0 : Nat) (x1 : Int32) (x2 : Int32) (h : pH) : pR := run pMs none 24 2 [some (.ref k0), some (.int x1), some (.int x2)] [] h
theorem e_Y_place (k0 : Nat) (x1 : Int32) (h : pH) : f_Y_place k0 x1 h =
    (f_Y_place_2 k0 x1 (0 : Int32) h) := (exq_run (M := M_24) rfl 3 _ _ _ _).symm.trans rfl
set_option maxRecDepth 100000 in
theorem e_Y_place_2 (k0 : Nat) (x1 : Int32) (x2 : Int32) (h : pH) : f_Y_place_2 k0 x1 x2 h =
    if (7 : Int32) ≤ x2 then
    (rI (-4 : Int32) h)
    else
    (oo none (hR h 8 k0 0) fun k_1 =>
      oo none (hA h k_1 ((0 : Int32) + x2)) fun x_2 =>
      if x_2 = (x1 + (1 : Int32)) then
      (rI x2 h)
      else
      ((f_Y_place_2 k0 x1 (x2 + 1) h))) := (exq_run (M := M_24) rfl 16 _ _ _ _).symm.trans rfl
noncomputable def f_Y_looks (k0 : Nat) (h : pH) : pR := run pMs none 25 0 [some (.ref k0)] [] h
noncomputable def f_Y_looks_7 (k0 : Nat) (x1 : Int32) (h : pH) : pR := run pMs none 25 7 [some (.ref k0), some (.int x1)] [] h
noncomputable def f_Y_looks_28 (k0 : Nat) (x1 : Int32) (h : pH) : pR := run pMs none 25 28 [some (.ref k0), some (.int x1)] [] h
noncomputable def f_Y_looks_36 (k0 : Nat) (x1 : Int32) (x2 : Int32) (h : pH) : pR := run pMs none 25 36 [some (.ref k0), some (.int x1), some (.int x2)] [] h
theorem e_Y_looks (k0 : Nat) (h : pH) : f_Y_looks k0 h =
    if kO h 8 k0 = true then
    ((f_Y_looks_7 k0 (0 : Int32) (sI h k0 10 (0 : Int32))))
    else none := (exq_run (M := M_25) rfl 6 _ _ _ _).symm.trans rfl
theorem e_Y_looks_7 (k0 : Nat) (x1 : Int32) (h : pH) : f_Y_looks_7 k0 x1 h =
    if (7 : Int32) ≤ x1 then
    ((f_Y_looks_28 k0 (1 : Int32) h))
    else
    (oo none (hR h 8 k0 11) fun k_1 =>
      if bA h k_1 x1 = true then
      ((f_Y_looks_7 k0 (x1 + 1) (sI h k_1 (Int32.toNatClampNeg x1) (0 : Int32))))
      else none) := (exq_run (M := M_25) rfl 11 _ _ _ _).symm.trans rfl
theorem e_Y_looks_28 (k0 : Nat) (x1 : Int32) (h : pH) : f_Y_looks_28 k0 x1 h =
    if (26 : Int32) < x1 then
    (rV h)
    else
    ((f_Y_looks_36 k0 x1 (0 : Int32) h)) := (exq_run (M := M_25) rfl 6 _ _ _ _).symm.trans rfl
set_option maxRecDepth 100000 in
theorem e_Y_looks_36 (k0 : Nat) (x1 : Int32) (x2 : Int32) (h : pH) : f_Y_looks_36 k0 x1 x2 h =
    if (7 : Int32) ≤ x2 then
    ((f_Y_looks_28 k0 (x1 + 1) h))
    else
    (oo none (hR h 8 k0 0) fun k_1 =>
      oo none (hA h k_1 ((0 : Int32) + x2)) fun x_2 =>
      if x_2 = x1 then
      (oo none (hR h 8 k0 7) fun k_3 =>
        oo none (hI h 8 k0 10) fun x_4 =>
        if bA h k_3 x_4 = true then
        (oo none (hR (sI h k_3 (Int32.toNatClampNeg x_4) (x1 - (1 : Int32))) 8 k0 8) fun k_5 =>
        oo none (hI (sI h k_3 (Int32.toNatClampNeg x_4) (x1 - (1 : Int32))) 8 k0 10) fun x_6 =>
        oo none (hR (sI h k_3 (Int32.toNatClampNeg x_4) (x1 - (1 : Int32))) 8 k0 0) fun k_7 =>
        oo none (hA (sI h k_3 (Int32.toNatClampNeg x_4) (x1 - (1 : Int32))) k_7 ((7 : Int32) + x2)) fun x_8 =>
        if bA (sI h k_3 (Int32.toNatClampNeg x_4) (x1 - (1 : Int32))) k_5 x_6 = true then
        (oo none (hR (sI (sI h k_3 (Int32.toNatClampNeg x_4) (x1 - (1 : Int32))) k_5 (Int32.toNatClampNeg x_6) x_8) 8 k0 9) fun k_9 =>
        oo none (hI (sI (sI h k_3 (Int32.toNatClampNeg x_4) (x1 - (1 : Int32))) k_5 (Int32.toNatClampNeg x_6) x_8) 8 k0 10) fun x_10 =>
        oo none (hR (sI (sI h k_3 (Int32.toNatClampNeg x_4) (x1 - (1 : Int32))) k_5 (Int32.toNatClampNeg x_6) x_8) 8 k0 0) fun k_11 =>
        oo none (hA (sI (sI h k_3 (Int32.toNatClampNeg x_4) (x1 - (1 : Int32))) k_5 (Int32.toNatClampNeg x_6) x_8) k_11 ((14 : Int32) + x2)) fun x_12 =>
        if bA (sI (sI h k_3 (Int32.toNatClampNeg x_4) (x1 - (1 : Int32))) k_5 (Int32.toNatClampNeg x_6) x_8) k_9 x_10 = true then
        (oo none (hI (sI (sI (sI h k_3 (Int32.toNatClampNeg x_4) (x1 - (1 : Int32))) k_5 (Int32.toNatClampNeg x_6) x_8) k_9 (Int32.toNatClampNeg x_10) x_12) 8 k0 10) fun x_13 =>
        if kO (sI (sI (sI h k_3 (Int32.toNatClampNeg x_4) (x1 - (1 : Int32))) k_5 (Int32.toNatClampNeg x_6) x_8) k_9 (Int32.toNatClampNeg x_10) x_12) 8 k0 = true then
        (oo none (hR (sI (sI (sI (sI h k_3 (Int32.toNatClampNeg x_4) (x1 - (1 : Int32))) k_5 (Int32.toNatClampNeg x_6) x_8) k_9 (Int32.toNatClampNeg x_10) x_12) k0 10 (x_13 + (1 : Int32))) 8 k0 11) fun k_14 =>
        oo none (hI (sI (sI (sI (sI h k_3 (Int32.toNatClampNeg x_4) (x1 - (1 : Int32))) k_5 (Int32.toNatClampNeg x_6) x_8) k_9 (Int32.toNatClampNeg x_10) x_12) k0 10 (x_13 + (1 : Int32))) 8 k0 10) fun x_15 =>
        if bA (sI (sI (sI (sI h k_3 (Int32.toNatClampNeg x_4) (x1 - (1 : Int32))) k_5 (Int32.toNatClampNeg x_6) x_8) k_9 (Int32.toNatClampNeg x_10) x_12) k0 10 (x_13 + (1 : Int32))) k_14 x2 = true then
        ((f_Y_looks_36 k0 x1 (x2 + 1) (sI (sI (sI (sI (sI h k_3 (Int32.toNatClampNeg x_4) (x1 - (1 : Int32))) k_5 (Int32.toNatClampNeg x_6) x_8) k_9 (Int32.toNatClampNeg x_10) x_12) k0 10 (x_13 + (1 : Int32))) k_14 (Int32.toNatClampNeg x2) x_15)))
        else none)
        else none)
        else none)
        else none)
        else none)
      else
      ((f_Y_looks_36 k0 x1 (x2 + 1) h))) := (exq_run (M := M_25) rfl 56 _ _ _ _).symm.trans rfl
noncomputable def f_Y_booksNow (k0 : Nat) (h : pH) : pR := run pMs none 26 0 [some (.ref k0)] [] h
theorem e_Y_booksNow (k0 : Nat) (h : pH) : f_Y_booksNow k0 h =
    if kO h 8 k0 = true then (cV (f_Y_looks k0 h) fun h_1 =>
    oo none (hI h_1 8 k0 10) fun x_2 =>
    rI x_2 h_1) else none := (exq_run (M := M_26) rfl 6 _ _ _ _).symm.trans rfl
noncomputable def f_Y_remembers (k0 : Nat) (h : pH) : pR := run pMs none 27 0 [some (.ref k0)] [] h
noncomputable def f_Y_remembers_10 (k0 : Nat) (x1 : Int32) (h : pH) : pR := run pMs none 27 10 [some (.ref k0), some (.int x1)] [] h
noncomputable def f_Y_remembers_49 (k0 : Nat) (x1 : Int32) (h : pH) : pR := run pMs none 27 49 [some (.ref k0), some (.int x1)] [] h
theorem e_Y_remembers (k0 : Nat) (h : pH) : f_Y_remembers k0 h =
    oo none (hI h 8 k0 2) fun x_1 =>
    if x_1 = (4 : Int32) then
    ((f_Y_remembers_10 k0 (0 : Int32) h))
    else
    ((f_Y_remembers_49 k0 (0 : Int32) h)) := (exq_run (M := M_27) rfl 7 _ _ _ _).symm.trans rfl
set_option maxRecDepth 100000 in
theorem e_Y_remembers_10 (k0 : Nat) (x1 : Int32) (h : pH) : f_Y_remembers_10 k0 x1 h =
    if (78 : Int32) ≤ x1 then
    (oo none (hI h 8 k0 2) fun x_1 =>
      if kO h 8 k0 = true then
      ((f_Y_remembers_49 k0 (0 : Int32) (sI h k0 2 (x_1 - (1 : Int32)))))
      else none)
    else
    (oo none (hR h 8 k0 1) fun k_2 =>
      oo none (hR h 8 k0 1) fun k_3 =>
      oo none (hA h k_3 ((26 : Int32) + x1)) fun x_4 =>
      if bA h k_2 x1 = true then
      ((f_Y_remembers_10 k0 (x1 + 1) (sI h k_2 (Int32.toNatClampNeg x1) x_4)))
      else none) := (exq_run (M := M_27) rfl 16 _ _ _ _).symm.trans rfl
set_option maxRecDepth 100000 in
theorem e_Y_remembers_49 (k0 : Nat) (x1 : Int32) (h : pH) : f_Y_remembers_49 k0 x1 h =
    if (26 : Int32) ≤ x1 then
    (oo none (hI h 8 k0 2) fun x_1 =>
      if kO h 8 k0 = true then
      (rV (sI h k0 2 (x_1 + (1 : Int32))))
      else none)
    else
    (oo none (hR h 8 k0 1) fun k_2 =>
      oo none (hI h 8 k0 2) fun x_3 =>
      oo none (hR h 8 k0 0) fun k_4 =>
      oo none (hA h k_4 x1) fun x_5 =>
      if bA h k_2 (((26 : Int32) * x_3) + x1) = true then
      ((f_Y_remembers_49 k0 (x1 + 1) (sI h k_2 (Int32.toNatClampNeg (((26 : Int32) * x_3) + x1)) x_5)))
      else none) := (exq_run (M := M_27) rfl 19 _ _ _ _).symm.trans rfl
noncomputable def f_Y_add (k0 : Nat) (x1 : Int32) (x2 : Int32) (x3 : Int32) (h : pH) : pR := run pMs none 28 0 [some (.ref k0), some (.int x1), some (.int x2), some (.int x3)] [] h
set_option maxRecDepth 100000 in
theorem e_Y_add (k0 : Nat) (x1 : Int32) (x2 : Int32) (x3 : Int32) (h : pH) : f_Y_add k0 x1 x2 x3 h =
    cI (f_Y_in x1 (0 : Int32) (25 : Int32) h) fun x_2 h_1 =>
    if x_2 = 0 then
    (rI (-1 : Int32) h_1)
    else
    (cI (f_Y_in x2 (1 : Int32) (9 : Int32) h_1) fun x_4 h_3 =>
      if x_4 = 0 then
      (rI (-1 : Int32) h_3)
      else
      (cI (f_Y_isPlace x3 h_3) fun x_6 h_5 =>
        if x_6 = 0 then
        (rI (-1 : Int32) h_5)
        else
        (if kO h_5 8 k0 = true then (cI (f_Y_place k0 x1 h_5) fun x_8 h_7 =>
          if 0 ≤ x_8 then
          (rI (-2 : Int32) h_7)
          else
          (oo none (hR h_7 8 k0 0) fun k_9 =>
            oo none (hA h_7 k_9 ((0 : Int32) + x3)) fun x_10 =>
            if x_10 ≤ 0 then
            (if kO h_7 8 k0 = true then (cI (f_Y_booksNow k0 h_7) fun x_12 h_11 =>
              if x_12 = (5 : Int32) then
              (rI (-3 : Int32) h_11)
              else
              (if kO h_11 8 k0 = true then (cV (f_Y_remembers k0 h_11) fun h_13 =>
                oo none (hR h_13 8 k0 0) fun k_14 =>
                if bA h_13 k_14 ((0 : Int32) + x3) = true then
                (oo none (hR (sI h_13 k_14 (Int32.toNatClampNeg ((0 : Int32) + x3)) (x1 + (1 : Int32))) 8 k0 0) fun k_15 =>
                if bA (sI h_13 k_14 (Int32.toNatClampNeg ((0 : Int32) + x3)) (x1 + (1 : Int32))) k_15 ((7 : Int32) + x3) = true then
                (oo none (hR (sI (sI h_13 k_14 (Int32.toNatClampNeg ((0 : Int32) + x3)) (x1 + (1 : Int32))) k_15 (Int32.toNatClampNeg ((7 : Int32) + x3)) x2) 8 k0 0) fun k_16 =>
                if bA (sI (sI h_13 k_14 (Int32.toNatClampNeg ((0 : Int32) + x3)) (x1 + (1 : Int32))) k_15 (Int32.toNatClampNeg ((7 : Int32) + x3)) x2) k_16 ((14 : Int32) + x3) = true then
                (if kO (sI (sI (sI h_13 k_14 (Int32.toNatClampNeg ((0 : Int32) + x3)) (x1 + (1 : Int32))) k_15 (Int32.toNatClampNeg ((7 : Int32) + x3)) x2) k_16 (Int32.toNatClampNeg ((14 : Int32) + x3)) (0 : Int32)) 8 k0 = true then (cI (f_Y_booksNow k0 (sI (sI (sI h_13 k_14 (Int32.toNatClampNeg ((0 : Int32) + x3)) (x1 + (1 : Int32))) k_15 (Int32.toNatClampNeg ((7 : Int32) + x3)) x2) k_16 (Int32.toNatClampNeg ((14 : Int32) + x3)) (0 : Int32))) fun x_18 h_17 =>
                rI x_18 h_17) else none)
                else none)
                else none)
                else none) else none)) else none)
            else
            (rI (-2 : Int32) h_7))) else none))) := (exq_run (M := M_28) rfl 57 _ _ _ _).symm.trans rfl
noncomputable def f_Y_remove (k0 : Nat) (x1 : Int32) (h : pH) : pR := run pMs none 31 0 [some (.ref k0), some (.int x1)] [] h
set_option maxRecDepth 100000 in
theorem e_Y_remove (k0 : Nat) (x1 : Int32) (h : pH) : f_Y_remove k0 x1 h =
    cI (f_Y_isPlace x1 h) fun x_2 h_1 =>
    if x_2 = 0 then
    (rI (-1 : Int32) h_1)
    else
    (oo none (hR h_1 8 k0 0) fun k_3 =>
      oo none (hA h_1 k_3 ((0 : Int32) + x1)) fun x_4 =>
      if x_4 = 0 then
      (rI (-2 : Int32) h_1)
      else
      (if kO h_1 8 k0 = true then (cV (f_Y_remembers k0 h_1) fun h_5 =>
        oo none (hR h_5 8 k0 0) fun k_6 =>
        oo none (hA h_5 k_6 ((0 : Int32) + x1)) fun x_7 =>
        oo none (hR h_5 8 k0 0) fun k_8 =>
        if bA h_5 k_8 ((0 : Int32) + x1) = true then
        (rI (x_7 - (1 : Int32)) (sI h_5 k_8 (Int32.toNatClampNeg ((0 : Int32) + x1)) (0 : Int32)))
        else none) else none)) := (exq_run (M := M_31) rfl 31 _ _ _ _).symm.trans rfl
noncomputable def f_Y_stick (k0 : Nat) (x1 : Int32) (h : pH) : pR := run pMs none 34 0 [some (.ref k0), some (.int x1)] [] h
set_option maxRecDepth 100000 in
theorem e_Y_stick (k0 : Nat) (x1 : Int32) (h : pH) : f_Y_stick k0 x1 h =
    cI (f_Y_isPlace x1 h) fun x_2 h_1 =>
    if x_2 = 0 then
    (rI (-1 : Int32) h_1)
    else
    (oo none (hR h_1 8 k0 0) fun k_3 =>
      oo none (hA h_1 k_3 ((0 : Int32) + x1)) fun x_4 =>
      if x_4 = 0 then
      (rI (-2 : Int32) h_1)
      else
      (if kO h_1 8 k0 = true then (cV (f_Y_remembers k0 h_1) fun h_5 =>
        oo none (hR h_5 8 k0 0) fun k_6 =>
        oo none (hR h_5 8 k0 0) fun k_7 =>
        oo none (hA h_5 k_7 ((14 : Int32) + x1)) fun x_8 =>
        if bA h_5 k_6 ((14 : Int32) + x1) = true then
        (oo none (hR (sI h_5 k_6 (Int32.toNatClampNeg ((14 : Int32) + x1)) ((1 : Int32) - x_8)) 8 k0 0) fun k_9 =>
        oo none (hA (sI h_5 k_6 (Int32.toNatClampNeg ((14 : Int32) + x1)) ((1 : Int32) - x_8)) k_9 ((14 : Int32) + x1)) fun x_10 =>
        rI x_10 (sI h_5 k_6 (Int32.toNatClampNeg ((14 : Int32) + x1)) ((1 : Int32) - x_8)))
        else none) else none)) := (exq_run (M := M_34) rfl 34 _ _ _ _).symm.trans rfl
noncomputable def f_Y_nearestGap (k0 : Nat) (x1 : Int32) (h : pH) : pR := run pMs none 44 0 [some (.ref k0), some (.int x1)] [] h
noncomputable def f_Y_nearestGap_2 (k0 : Nat) (x1 : Int32) (x2 : Int32) (h : pH) : pR := run pMs none 44 2 [some (.ref k0), some (.int x1), some (.int x2)] [] h
noncomputable def f_Y_nearestGap_29 (k0 : Nat) (x1 : Int32) (x2 : Int32) (h : pH) : pR := run pMs none 44 29 [some (.ref k0), some (.int x1), some (.int x2)] [] h
theorem e_Y_nearestGap (k0 : Nat) (x1 : Int32) (h : pH) : f_Y_nearestGap k0 x1 h =
    (f_Y_nearestGap_2 k0 x1 (0 : Int32) h) := (exq_run (M := M_44) rfl 3 _ _ _ _).symm.trans rfl
set_option maxRecDepth 100000 in
theorem e_Y_nearestGap_2 (k0 : Nat) (x1 : Int32) (x2 : Int32) (h : pH) : f_Y_nearestGap_2 k0 x1 x2 h =
    if (7 : Int32) ≤ x2 then
    (rI (-4 : Int32) h)
    else
    (if (x1 - x2) < 0 then
      ((f_Y_nearestGap_29 k0 x1 x2 h))
      else
      (oo none (hR h 8 k0 11) fun k_1 =>
        oo none (hA h k_1 (x1 - x2)) fun x_2 =>
        if x_2 = 0 then
        (rI (x1 - x2) h)
        else
        ((f_Y_nearestGap_29 k0 x1 x2 h)))) := (exq_run (M := M_44) rfl 19 _ _ _ _).symm.trans rfl
set_option maxRecDepth 100000 in
theorem e_Y_nearestGap_29 (k0 : Nat) (x1 : Int32) (x2 : Int32) (h : pH) : f_Y_nearestGap_29 k0 x1 x2 h =
    if (7 : Int32) ≤ (x1 + x2) then
    ((f_Y_nearestGap_2 k0 x1 (x2 + 1) h))
    else
    (oo none (hR h 8 k0 11) fun k_1 =>
      oo none (hA h k_1 (x1 + x2)) fun x_2 =>
      if x_2 = 0 then
      (rI (x1 + x2) h)
      else
      ((f_Y_nearestGap_2 k0 x1 (x2 + 1) h))) := (exq_run (M := M_44) rfl 17 _ _ _ _).symm.trans rfl
noncomputable def f_Y_whyNotOf (k0 : Nat) (x1 : Int32) (h : pH) : pR := run pMs none 45 0 [some (.ref k0), some (.int x1)] [] h
noncomputable def f_Y_whyNotOf_65 (k0 : Nat) (x2 : Int32) (t0 : Int32) (h : pH) : pR := run pMs none 45 65 [some (.ref k0), none, some (.int x2)] [.int t0] h
set_option maxRecDepth 100000 in
theorem e_Y_whyNotOf (k0 : Nat) (x1 : Int32) (h : pH) : f_Y_whyNotOf k0 x1 h =
    if (7 : Int32) ≤ x1 then
    (if (6 : Int32) = 0 then none else
      if (13 : Int32) ≤ x1 then
      ((f_Y_whyNotOf_65 k0 ((x1 - (7 : Int32)) - (x1 - (7 : Int32)) / (6 : Int32) * (6 : Int32)) (((x1 - (7 : Int32)) - (x1 - (7 : Int32)) / (6 : Int32) * (6 : Int32)) - (1 : Int32)) h))
      else
      ((f_Y_whyNotOf_65 k0 ((x1 - (7 : Int32)) - (x1 - (7 : Int32)) / (6 : Int32) * (6 : Int32)) (((x1 - (7 : Int32)) - (x1 - (7 : Int32)) / (6 : Int32) * (6 : Int32)) + (2 : Int32)) h)))
    else
    (oo none (hR h 8 k0 11) fun k_1 =>
      oo none (hA h k_1 x1) fun x_2 =>
      if x_2 = 0 then
      (rI (1 : Int32) h)
      else
      (oo none (hR h 8 k0 9) fun k_3 =>
        oo none (hR h 8 k0 11) fun k_4 =>
        oo none (hA h k_4 x1) fun x_5 =>
        oo none (hA h k_3 (x_5 - (1 : Int32))) fun x_6 =>
        if x_6 = (1 : Int32) then
        (rI (2 : Int32) h)
        else
        (rI (0 : Int32) h))) := (exq_run (M := M_45) rfl 23 _ _ _ _).symm.trans rfl
set_option maxRecDepth 100000 in
theorem e_Y_whyNotOf_65 (k0 : Nat) (x2 : Int32) (t0 : Int32) (h : pH) : f_Y_whyNotOf_65 k0 x2 t0 h =
    oo none (hR h 8 k0 11) fun k_1 =>
    oo none (hA h k_1 x2) fun x_2 =>
    if x_2 = 0 then
    (rI (3 : Int32) h)
    else
    (oo none (hR h 8 k0 11) fun k_3 =>
      oo none (hA h k_3 (x2 + (1 : Int32))) fun x_4 =>
      if x_4 = 0 then
      (rI (3 : Int32) h)
      else
      (cI (f_Y_isPlace t0 h) fun x_6 h_5 =>
        if x_6 = 0 then
        (rI (4 : Int32) h_5)
        else
        (oo none (hR h_5 8 k0 11) fun k_7 =>
          oo none (hA h_5 k_7 t0) fun x_8 =>
          if x_8 = 0 then
          (rI (0 : Int32) h_5)
          else
          (rI (4 : Int32) h_5)))) := (exq_run (M := M_45) rfl 25 _ _ _ _).symm.trans rfl
noncomputable def f_Y_makes (k0 : Nat) (x1 : Int32) (h : pH) : pR := run pMs none 46 0 [some (.ref k0), some (.int x1)] [] h
noncomputable def f_Y_makes_2 (k0 : Nat) (x1 : Int32) (x2 : Int32) (h : pH) : pR := run pMs none 46 2 [some (.ref k0), some (.int x1), some (.int x2)] [] h
noncomputable def f_Y_makes_127 (k0 : Nat) (x1 : Int32) (x2 : Int32) (x3 : Int32) (x4 : Int32) (t0 : Int32) (h : pH) : pR := run pMs none 46 127 [some (.ref k0), some (.int x1), some (.int x2), some (.int x3), some (.int x4)] [.int t0] h
noncomputable def f_Y_makes_142 (k0 : Nat) (x1 : Int32) (x2 : Int32) (x5 : Int32) (t0 : Nat) (t1 : Int32) (h : pH) : pR := run pMs none 46 142 [some (.ref k0), some (.int x1), some (.int x2), none, none, some (.int x5)] [.int t1, .ref t0] h
noncomputable def f_Y_makes_162 (k0 : Nat) (x2 : Int32) (x5 : Int32) (t0 : Nat) (t1 : Int32) (h : pH) : pR := run pMs none 46 162 [some (.ref k0), none, some (.int x2), none, none, some (.int x5)] [.int t1, .ref t0] h
theorem e_Y_makes (k0 : Nat) (x1 : Int32) (h : pH) : f_Y_makes k0 x1 h =
    (f_Y_makes_2 k0 x1 (0 : Int32) h) := (exq_run (M := M_46) rfl 3 _ _ _ _).symm.trans rfl
set_option maxRecDepth 100000 in
theorem e_Y_makes_2 (k0 : Nat) (x1 : Int32) (x2 : Int32) (h : pH) : f_Y_makes_2 k0 x1 x2 h =
    if (7 : Int32) ≤ x2 then
    (if (7 : Int32) ≤ x1 then
      (if (6 : Int32) = 0 then none else
        oo none (hR h 8 k0 8) fun k_1 =>
        oo none (hR h 8 k0 11) fun k_2 =>
        oo none (hA h k_2 ((x1 - (7 : Int32)) - (x1 - (7 : Int32)) / (6 : Int32) * (6 : Int32))) fun x_3 =>
        oo none (hA h k_1 (x_3 - (1 : Int32))) fun x_4 =>
        oo none (hR h 8 k0 8) fun k_5 =>
        oo none (hR h 8 k0 11) fun k_6 =>
        oo none (hA h k_6 (((x1 - (7 : Int32)) - (x1 - (7 : Int32)) / (6 : Int32) * (6 : Int32)) + (1 : Int32))) fun x_7 =>
        oo none (hA h k_5 (x_7 - (1 : Int32))) fun x_8 =>
        if (13 : Int32) ≤ x1 then
        ((f_Y_makes_127 k0 x1 ((x1 - (7 : Int32)) - (x1 - (7 : Int32)) / (6 : Int32) * (6 : Int32)) x_4 x_8 (((x1 - (7 : Int32)) - (x1 - (7 : Int32)) / (6 : Int32) * (6 : Int32)) - (1 : Int32)) h))
        else
        ((f_Y_makes_127 k0 x1 ((x1 - (7 : Int32)) - (x1 - (7 : Int32)) / (6 : Int32) * (6 : Int32)) x_4 x_8 (((x1 - (7 : Int32)) - (x1 - (7 : Int32)) / (6 : Int32) * (6 : Int32)) + (1 : Int32)) h)))
      else
      (oo none (hR h 8 k0 8) fun k_9 =>
        oo none (hR h 8 k0 11) fun k_10 =>
        oo none (hA h k_10 x1) fun x_11 =>
        oo none (hA h k_9 (x_11 - (1 : Int32))) fun x_12 =>
        if kO h 8 k0 = true then
        (oo none (hR (sI h k0 13 x_12) 8 k0 12) fun k_13 =>
        if kO (sI h k0 13 x_12) 8 k0 = true then (cI (f_Y_nearestGap k0 x1 (sI h k0 13 x_12)) fun x_15 h_14 =>
        oo none (hR h_14 8 k0 11) fun k_16 =>
        oo none (hA h_14 k_16 x1) fun x_17 =>
        if bA h_14 k_13 x_15 = true then
        (oo none (hR (sI h_14 k_13 (Int32.toNatClampNeg x_15) x_17) 8 k0 12) fun k_18 =>
        if bA (sI h_14 k_13 (Int32.toNatClampNeg x_15) x_17) k_18 x1 = true then
        (rV (sI (sI h_14 k_13 (Int32.toNatClampNeg x_15) x_17) k_18 (Int32.toNatClampNeg x1) (0 : Int32)))
        else none)
        else none) else none)
        else none))
    else
    (oo none (hR h 8 k0 12) fun k_19 =>
      oo none (hR h 8 k0 11) fun k_20 =>
      oo none (hA h k_20 x2) fun x_21 =>
      if bA h k_19 x2 = true then
      ((f_Y_makes_2 k0 x1 (x2 + 1) (sI h k_19 (Int32.toNatClampNeg x2) x_21)))
      else none) := (exq_run (M := M_46) rfl 42 _ _ _ _).symm.trans rfl
theorem e_Y_makes_127 (k0 : Nat) (x1 : Int32) (x2 : Int32) (x3 : Int32) (x4 : Int32) (t0 : Int32) (h : pH) : f_Y_makes_127 k0 x1 x2 x3 x4 t0 h =
    if x3 ≤ x4 then
    ((f_Y_makes_142 k0 x1 x2 t0 k0 x4 h))
    else
    ((f_Y_makes_142 k0 x1 x2 t0 k0 x3 h)) := (exq_run (M := M_46) rfl 8 _ _ _ _).symm.trans rfl
theorem e_Y_makes_142 (k0 : Nat) (x1 : Int32) (x2 : Int32) (x5 : Int32) (t0 : Nat) (t1 : Int32) (h : pH) : f_Y_makes_142 k0 x1 x2 x5 t0 t1 h =
    if kO h 8 t0 = true then
    (oo none (hR (sI h t0 13 t1) 8 k0 12) fun k_1 =>
    if (13 : Int32) ≤ x1 then
    ((f_Y_makes_162 k0 x2 x5 k_1 (x2 + (1 : Int32)) (sI h t0 13 t1)))
    else
    ((f_Y_makes_162 k0 x2 x5 k_1 x2 (sI h t0 13 t1))))
    else none := (exq_run (M := M_46) rfl 10 _ _ _ _).symm.trans rfl
set_option maxRecDepth 100000 in
theorem e_Y_makes_162 (k0 : Nat) (x2 : Int32) (x5 : Int32) (t0 : Nat) (t1 : Int32) (h : pH) : f_Y_makes_162 k0 x2 x5 t0 t1 h =
    if bA h t0 t1 = true then
    (oo none (hR (sI h t0 (Int32.toNatClampNeg t1) (0 : Int32)) 8 k0 12) fun k_1 =>
    oo none (hR (sI h t0 (Int32.toNatClampNeg t1) (0 : Int32)) 8 k0 11) fun k_2 =>
    oo none (hA (sI h t0 (Int32.toNatClampNeg t1) (0 : Int32)) k_2 x2) fun x_3 =>
    if bA (sI h t0 (Int32.toNatClampNeg t1) (0 : Int32)) k_1 x5 = true then
    (oo none (hR (sI (sI h t0 (Int32.toNatClampNeg t1) (0 : Int32)) k_1 (Int32.toNatClampNeg x5) x_3) 8 k0 12) fun k_4 =>
    oo none (hR (sI (sI h t0 (Int32.toNatClampNeg t1) (0 : Int32)) k_1 (Int32.toNatClampNeg x5) x_3) 8 k0 11) fun k_5 =>
    oo none (hA (sI (sI h t0 (Int32.toNatClampNeg t1) (0 : Int32)) k_1 (Int32.toNatClampNeg x5) x_3) k_5 (x2 + (1 : Int32))) fun x_6 =>
    if bA (sI (sI h t0 (Int32.toNatClampNeg t1) (0 : Int32)) k_1 (Int32.toNatClampNeg x5) x_3) k_4 (x5 + (1 : Int32)) = true then
    (rV (sI (sI (sI h t0 (Int32.toNatClampNeg t1) (0 : Int32)) k_1 (Int32.toNatClampNeg x5) x_3) k_4 (Int32.toNatClampNeg (x5 + (1 : Int32))) x_6))
    else none)
    else none)
    else none := (exq_run (M := M_46) rfl 24 _ _ _ _).symm.trans rfl
noncomputable def f_Y_goesOn (k0 : Nat) (h : pH) : pR := run pMs none 47 0 [some (.ref k0)] [] h
noncomputable def f_Y_goesOn_2 (k0 : Nat) (x1 : Int32) (h : pH) : pR := run pMs none 47 2 [some (.ref k0), some (.int x1)] [] h
theorem e_Y_goesOn (k0 : Nat) (h : pH) : f_Y_goesOn k0 h =
    (f_Y_goesOn_2 k0 (0 : Int32) h) := (exq_run (M := M_47) rfl 3 _ _ _ _).symm.trans rfl
set_option maxRecDepth 100000 in
theorem e_Y_goesOn_2 (k0 : Nat) (x1 : Int32) (h : pH) : f_Y_goesOn_2 k0 x1 h =
    if (7 : Int32) ≤ x1 then
    (rV h)
    else
    (oo none (hR h 8 k0 11) fun k_1 =>
      oo none (hR h 8 k0 12) fun k_2 =>
      oo none (hA h k_2 x1) fun x_3 =>
      if bA h k_1 x1 = true then
      ((f_Y_goesOn_2 k0 (x1 + 1) (sI h k_1 (Int32.toNatClampNeg x1) x_3)))
      else none) := (exq_run (M := M_47) rfl 14 _ _ _ _).symm.trans rfl
noncomputable def f_Y_stands (k0 : Nat) (h : pH) : pR := run pMs none 48 0 [some (.ref k0)] [] h
noncomputable def f_Y_stands_2 (k0 : Nat) (x1 : Int32) (h : pH) : pR := run pMs none 48 2 [some (.ref k0), some (.int x1)] [] h
noncomputable def f_Y_stands_40 (k0 : Nat) (x1 : Int32) (x2 : Int32) (t0 : Nat) (t1 : Int32) (t2 : Int32) (h : pH) : pR := run pMs none 48 40 [some (.ref k0), some (.int x1), some (.int x2)] [.int t2, .int t1, .ref t0] h
noncomputable def f_Y_stands_63 (k0 : Nat) (x1 : Int32) (x2 : Int32) (t0 : Nat) (t1 : Int32) (t2 : Int32) (h : pH) : pR := run pMs none 48 63 [some (.ref k0), some (.int x1), some (.int x2)] [.int t2, .int t1, .ref t0] h
theorem e_Y_stands (k0 : Nat) (h : pH) : f_Y_stands k0 h =
    (f_Y_stands_2 k0 (0 : Int32) h) := (exq_run (M := M_48) rfl 3 _ _ _ _).symm.trans rfl
set_option maxRecDepth 100000 in
theorem e_Y_stands_2 (k0 : Nat) (x1 : Int32) (h : pH) : f_Y_stands_2 k0 x1 h =
    if (7 : Int32) ≤ x1 then
    (rV h)
    else
    (oo none (hR h 8 k0 11) fun k_1 =>
      oo none (hA h k_1 x1) fun x_2 =>
      oo none (hR h 8 k0 0) fun k_3 =>
      if 0 ≤ (x_2 - (1 : Int32)) then
      (oo none (hR h 8 k0 7) fun k_4 =>
        oo none (hA h k_4 (x_2 - (1 : Int32))) fun x_5 =>
        (f_Y_stands_40 k0 x1 (x_2 - (1 : Int32)) k_3 ((0 : Int32) + x1) (x_5 + (1 : Int32)) h))
      else
      ((f_Y_stands_40 k0 x1 (x_2 - (1 : Int32)) k_3 ((0 : Int32) + x1) (0 : Int32) h))) := (exq_run (M := M_48) rfl 24 _ _ _ _).symm.trans rfl
theorem e_Y_stands_40 (k0 : Nat) (x1 : Int32) (x2 : Int32) (t0 : Nat) (t1 : Int32) (t2 : Int32) (h : pH) : f_Y_stands_40 k0 x1 x2 t0 t1 t2 h =
    if bA h t0 t1 = true then
    (oo none (hR (sI h t0 (Int32.toNatClampNeg t1) t2) 8 k0 0) fun k_1 =>
    if 0 ≤ x2 then
    (oo none (hR (sI h t0 (Int32.toNatClampNeg t1) t2) 8 k0 8) fun k_2 =>
      oo none (hA (sI h t0 (Int32.toNatClampNeg t1) t2) k_2 x2) fun x_3 =>
      (f_Y_stands_63 k0 x1 x2 k_1 ((7 : Int32) + x1) x_3 (sI h t0 (Int32.toNatClampNeg t1) t2)))
    else
    ((f_Y_stands_63 k0 x1 x2 k_1 ((7 : Int32) + x1) (0 : Int32) (sI h t0 (Int32.toNatClampNeg t1) t2))))
    else none := (exq_run (M := M_48) rfl 13 _ _ _ _).symm.trans rfl
set_option maxRecDepth 100000 in
theorem e_Y_stands_63 (k0 : Nat) (x1 : Int32) (x2 : Int32) (t0 : Nat) (t1 : Int32) (t2 : Int32) (h : pH) : f_Y_stands_63 k0 x1 x2 t0 t1 t2 h =
    if bA h t0 t1 = true then
    (oo none (hR (sI h t0 (Int32.toNatClampNeg t1) t2) 8 k0 0) fun k_1 =>
    if 0 ≤ x2 then
    (oo none (hR (sI h t0 (Int32.toNatClampNeg t1) t2) 8 k0 9) fun k_2 =>
      oo none (hA (sI h t0 (Int32.toNatClampNeg t1) t2) k_2 x2) fun x_3 =>
      if bA (sI h t0 (Int32.toNatClampNeg t1) t2) k_1 ((14 : Int32) + x1) = true then
      ((f_Y_stands_2 k0 (x1 + 1) (sI (sI h t0 (Int32.toNatClampNeg t1) t2) k_1 (Int32.toNatClampNeg ((14 : Int32) + x1)) x_3)))
      else none)
    else
    (if bA (sI h t0 (Int32.toNatClampNeg t1) t2) k_1 ((14 : Int32) + x1) = true then
      ((f_Y_stands_2 k0 (x1 + 1) (sI (sI h t0 (Int32.toNatClampNeg t1) t2) k_1 (Int32.toNatClampNeg ((14 : Int32) + x1)) (0 : Int32))))
      else none))
    else none := (exq_run (M := M_48) rfl 16 _ _ _ _).symm.trans rfl
noncomputable def f_Y_does (k0 : Nat) (x1 : Int32) (h : pH) : pR := run pMs none 49 0 [some (.ref k0), some (.int x1)] [] h
set_option maxRecDepth 100000 in
theorem e_Y_does (k0 : Nat) (x1 : Int32) (h : pH) : f_Y_does k0 x1 h =
    if kO h 8 k0 = true then (cV (f_Y_looks k0 h) fun h_1 =>
    if kO h_1 8 k0 = true then (cI (f_Y_whyNotOf k0 x1 h_1) fun x_3 h_2 =>
    if x_3 ≤ 0 then
    (if kO h_2 8 k0 = true then (cV (f_Y_makes k0 x1 h_2) fun h_4 =>
      if kO h_4 8 k0 = true then (cV (f_Y_goesOn k0 h_4) fun h_5 =>
      if kO h_5 8 k0 = true then (cV (f_Y_stands k0 h_5) fun h_6 =>
      oo none (hR h_6 8 k0 0) fun k_7 =>
      oo none (hA h_6 k_7 (23 : Int32)) fun x_8 =>
      if bA h_6 k_7 (23 : Int32) = true then
      (oo none (hR (sI h_6 k_7 (Int32.toNatClampNeg (23 : Int32)) (x_8 + (1 : Int32))) 8 k0 0) fun k_9 =>
      oo none (hA (sI h_6 k_7 (Int32.toNatClampNeg (23 : Int32)) (x_8 + (1 : Int32))) k_9 (24 : Int32)) fun x_10 =>
      oo none (hI (sI h_6 k_7 (Int32.toNatClampNeg (23 : Int32)) (x_8 + (1 : Int32))) 8 k0 13) fun x_11 =>
      if bA (sI h_6 k_7 (Int32.toNatClampNeg (23 : Int32)) (x_8 + (1 : Int32))) k_9 (24 : Int32) = true then
      (rI (0 : Int32) (sI (sI h_6 k_7 (Int32.toNatClampNeg (23 : Int32)) (x_8 + (1 : Int32))) k_9 (Int32.toNatClampNeg (24 : Int32)) (x_10 + x_11)))
      else none)
      else none) else none) else none) else none)
    else
    (oo none (hR h_2 8 k0 0) fun k_12 =>
      oo none (hA h_2 k_12 (25 : Int32)) fun x_13 =>
      if bA h_2 k_12 (25 : Int32) = true then
      (rI x_3 (sI h_2 k_12 (Int32.toNatClampNeg (25 : Int32)) (x_13 + (1 : Int32))))
      else none)) else none) else none := (exq_run (M := M_49) rfl 35 _ _ _ _).symm.trans rfl
noncomputable def f_Y_pull (k0 : Nat) (x1 : Int32) (h : pH) : pR := run pMs none 50 0 [some (.ref k0), some (.int x1)] [] h
set_option maxRecDepth 100000 in
theorem e_Y_pull (k0 : Nat) (x1 : Int32) (h : pH) : f_Y_pull k0 x1 h =
    cI (f_Y_isPlace x1 h) fun x_2 h_1 =>
    if x_2 = 0 then
    (rI (-1 : Int32) h_1)
    else
    (if kO h_1 8 k0 = true then (cV (f_Y_remembers k0 h_1) fun h_3 =>
      if kO h_3 8 k0 = true then (cV (f_Y_looks k0 h_3) fun h_4 =>
      if kO h_4 8 k0 = true then (cI (f_Y_nearestGap k0 x1 h_4) fun x_6 h_5 =>
      if kO h_5 8 k0 = true then (cI (f_Y_does k0 x1 h_5) fun x_8 h_7 =>
      if x_8 ≤ 0 then
      (rI ((10 : Int32) + x_6) h_7)
      else
      (rI x_8 h_7)) else none) else none) else none) else none) := (exq_run (M := M_50) rfl 22 _ _ _ _).symm.trans rfl
noncomputable def f_Y_push (k0 : Nat) (x1 : Int32) (x2 : Int32) (h : pH) : pR := run pMs none 52 0 [some (.ref k0), some (.int x1), some (.int x2)] [] h
set_option maxRecDepth 100000 in
theorem e_Y_push (k0 : Nat) (x1 : Int32) (x2 : Int32) (h : pH) : f_Y_push k0 x1 x2 h =
    cI (f_Y_in x1 (0 : Int32) (5 : Int32) h) fun x_2 h_1 =>
    if x_2 = 0 then
    (rI (-1 : Int32) h_1)
    else
    (if kO h_1 8 k0 = true then (cV (f_Y_remembers k0 h_1) fun h_3 =>
      if x2 = 0 then
      (if kO h_3 8 k0 = true then (cI (f_Y_does k0 ((13 : Int32) + x1) h_3) fun x_5 h_4 =>
        rI x_5 h_4) else none)
      else
      (if kO h_3 8 k0 = true then (cI (f_Y_does k0 ((7 : Int32) + x1) h_3) fun x_7 h_6 =>
        rI x_7 h_6) else none)) else none) := (exq_run (M := M_52) rfl 17 _ _ _ _).symm.trans rfl
noncomputable def f_Y_set (k0 : Nat) (x1 : Int32) (x2 : Int32) (h : pH) : pR := run pMs none 54 0 [some (.ref k0), some (.int x1), some (.int x2)] [] h
set_option maxRecDepth 100000 in
theorem e_Y_set (k0 : Nat) (x1 : Int32) (x2 : Int32) (h : pH) : f_Y_set k0 x1 x2 h =
    cI (f_Y_in x1 (0 : Int32) (1 : Int32) h) fun x_2 h_1 =>
    if x_2 = 0 then
    (rI (-1 : Int32) h_1)
    else
    (cI (f_Y_in x2 (0 : Int32) (1 : Int32) h_1) fun x_4 h_3 =>
      if x_4 = 0 then
      (rI (-1 : Int32) h_3)
      else
      (if kO h_3 8 k0 = true then (cV (f_Y_remembers k0 h_3) fun h_5 =>
        oo none (hR h_5 8 k0 0) fun k_6 =>
        oo none (hA h_5 k_6 ((21 : Int32) + x1)) fun x_7 =>
        oo none (hR h_5 8 k0 0) fun k_8 =>
        if bA h_5 k_8 ((21 : Int32) + x1) = true then
        (rI x_7 (sI h_5 k_8 (Int32.toNatClampNeg ((21 : Int32) + x1)) x2))
        else none) else none)) := (exq_run (M := M_54) rfl 29 _ _ _ _).symm.trans rfl
noncomputable def f_Y_append (k0 : Nat) (x1 : Int32) (h : pH) : pR := run pMs none 57 0 [some (.ref k0), some (.int x1)] [] h
set_option maxRecDepth 100000 in
theorem e_Y_append (k0 : Nat) (x1 : Int32) (h : pH) : f_Y_append k0 x1 h =
    cI (f_Y_in x1 (33 : Int32) (126 : Int32) h) fun x_2 h_1 =>
    if x_2 = 0 then
    (rI (-1 : Int32) h_1)
    else
    (oo none (hI h_1 8 k0 6) fun x_3 =>
      if x_3 = (60 : Int32) then
      (rI (-3 : Int32) h_1)
      else
      (oo none (hR h_1 8 k0 5) fun k_4 =>
        oo none (hI h_1 8 k0 6) fun x_5 =>
        if bA h_1 k_4 x_5 = true then
        (oo none (hI (sI h_1 k_4 (Int32.toNatClampNeg x_5) x1) 8 k0 6) fun x_6 =>
        if kO (sI h_1 k_4 (Int32.toNatClampNeg x_5) x1) 8 k0 = true then
        (oo none (hI (sI (sI h_1 k_4 (Int32.toNatClampNeg x_5) x1) k0 6 (x_6 + (1 : Int32))) 8 k0 6) fun x_7 =>
        rI x_7 (sI (sI h_1 k_4 (Int32.toNatClampNeg x_5) x1) k0 6 (x_6 + (1 : Int32))))
        else none)
        else none)) := (exq_run (M := M_57) rfl 25 _ _ _ _).symm.trans rfl
noncomputable def f_Y_clear (k0 : Nat) (h : pH) : pR := run pMs none 59 0 [some (.ref k0)] [] h
theorem e_Y_clear (k0 : Nat) (h : pH) : f_Y_clear k0 h =
    oo none (hI h 8 k0 6) fun x_1 =>
    if kO h 8 k0 = true then
    (rI x_1 (sI h k0 6 (0 : Int32)))
    else none := (exq_run (M := M_59) rfl 9 _ _ _ _).symm.trans rfl
noncomputable def f_Y_mostOf (x0 : Int32) (h : pH) : pR := run pMs none 66 0 [some (.int x0)] [] h
theorem e_Y_mostOf (x0 : Int32) (h : pH) : f_Y_mostOf x0 h =
    if x0 = (112 : Int32) then
    (rI (6 : Int32) h)
    else
    (if x0 = (114 : Int32) then
      (rI (5 : Int32) h)
      else
      (if x0 = (108 : Int32) then
        (rI (5 : Int32) h)
        else
        (rI (-1 : Int32) h))) := (exq_run (M := M_66) rfl 13 _ _ _ _).symm.trans rfl
noncomputable def f_Y_faultOfProgram (k0 : Nat) (h : pH) : pR := run pMs none 67 0 [some (.ref k0)] [] h
noncomputable def f_Y_faultOfProgram_2 (k0 : Nat) (x1 : Int32) (h : pH) : pR := run pMs none 67 2 [some (.ref k0), some (.int x1)] [] h
theorem e_Y_faultOfProgram (k0 : Nat) (h : pH) : f_Y_faultOfProgram k0 h =
    (f_Y_faultOfProgram_2 k0 (0 : Int32) h) := (exq_run (M := M_67) rfl 3 _ _ _ _).symm.trans rfl
set_option maxRecDepth 100000 in
theorem e_Y_faultOfProgram_2 (k0 : Nat) (x1 : Int32) (h : pH) : f_Y_faultOfProgram_2 k0 x1 h =
    oo none (hI h 8 k0 6) fun x_1 =>
    if x_1 ≤ x1 then
    (oo none (hI h 8 k0 6) fun x_2 =>
      if x_2 = 0 then
      (oo none (hI h 8 k0 6) fun x_3 =>
        rI x_3 h)
      else
      (oo none (hI h 8 k0 6) fun x_4 =>
        if (2 : Int32) = 0 then none else
        if (x_4 - x_4 / (2 : Int32) * (2 : Int32)) = (1 : Int32) then
        (oo none (hI h 8 k0 6) fun x_5 =>
          rI x_5 h)
        else
        (rI (-4 : Int32) h)))
    else
    (if (2 : Int32) = 0 then none else
      if (x1 - x1 / (2 : Int32) * (2 : Int32)) = 0 then
      (oo none (hR h 8 k0 5) fun k_14 =>
        oo none (hA h k_14 x1) fun x_15 =>
        cI (f_Y_mostOf x_15 h) fun x_17 h_16 =>
        if x_17 ≤ 0 then
        (if (0 : Int32) = 0 then
          (rI x1 h_16)
          else
          ((f_Y_faultOfProgram_2 k0 (x1 + 1) h_16)))
        else
        (if (1 : Int32) = 0 then
          (rI x1 h_16)
          else
          ((f_Y_faultOfProgram_2 k0 (x1 + 1) h_16))))
      else
      (oo none (hR h 8 k0 5) fun k_6 =>
        oo none (hA h k_6 x1) fun x_7 =>
        oo none (hR h 8 k0 5) fun k_8 =>
        oo none (hA h k_8 (x1 - (1 : Int32))) fun x_9 =>
        cI (f_Y_mostOf x_9 h) fun x_11 h_10 =>
        cI (f_Y_in (x_7 - (48 : Int32)) (0 : Int32) x_11 h_10) fun x_13 h_12 =>
        if x_13 = 0 then
        (rI x1 h_12)
        else
        ((f_Y_faultOfProgram_2 k0 (x1 + 1) h_12)))) := (exq_run (M := M_67) rfl 29 _ _ _ _).symm.trans rfl
noncomputable def f_Y_signed (k0 : Nat) (x1 : Int32) (h : pH) : pR := run pMs none 68 0 [some (.ref k0), some (.int x1)] [] h
noncomputable def f_Y_signed_19 (k0 : Nat) (x1 : Int32) (x2 : Int32) (x3 : Int32) (h : pH) : pR := run pMs none 68 19 [some (.ref k0), some (.int x1), some (.int x2), some (.int x3)] [] h
theorem e_Y_signed (k0 : Nat) (x1 : Int32) (h : pH) : f_Y_signed k0 x1 h =
    oo none (hR h 8 k0 5) fun k_1 =>
    oo none (hA h k_1 x1) fun x_2 =>
    if x_2 = (46 : Int32) then
    ((f_Y_signed_19 k0 x1 (0 : Int32) (0 : Int32) h))
    else
    ((f_Y_signed_19 k0 x1 (-1 : Int32) (0 : Int32) h)) := (exq_run (M := M_68) rfl 12 _ _ _ _).symm.trans rfl
set_option maxRecDepth 100000 in
theorem e_Y_signed_19 (k0 : Nat) (x1 : Int32) (x2 : Int32) (x3 : Int32) (h : pH) : f_Y_signed_19 k0 x1 x2 x3 h =
    oo none (hI h 8 k0 10) fun x_1 =>
    if x_1 ≤ x3 then
    (rI x2 h)
    else
    (oo none (hR h 8 k0 5) fun k_2 =>
      oo none (hA h k_2 x1) fun x_3 =>
      oo none (hR h 8 k0 7) fun k_4 =>
      oo none (hA h k_4 x3) fun x_5 =>
      if x_3 = ((97 : Int32) + x_5) then
      ((f_Y_signed_19 k0 x1 (x3 + (1 : Int32)) (x3 + 1) h))
      else
      ((f_Y_signed_19 k0 x1 x2 (x3 + 1) h))) := (exq_run (M := M_68) rfl 23 _ _ _ _).symm.trans rfl
noncomputable def f_Y_faultOfWord (k0 : Nat) (h : pH) : pR := run pMs none 69 0 [some (.ref k0)] [] h
noncomputable def f_Y_faultOfWord_6 (k0 : Nat) (x1 : Int32) (h : pH) : pR := run pMs none 69 6 [some (.ref k0), some (.int x1)] [] h
noncomputable def f_Y_faultOfWord_35 (k0 : Nat) (x1 : Int32) (x2 : Int32) (x3 : Int32) (x4 : Int32) (h : pH) : pR := run pMs none 69 35 [some (.ref k0), some (.int x1), some (.int x2), some (.int x3), some (.int x4)] [] h
noncomputable def f_Y_faultOfWord_69 (k0 : Nat) (x1 : Int32) (x2 : Int32) (x3 : Int32) (h : pH) : pR := run pMs none 69 69 [some (.ref k0), some (.int x1), some (.int x2), some (.int x3)] [] h
noncomputable def f_Y_faultOfWord_84 (k0 : Nat) (x1 : Int32) (x2 : Int32) (x3 : Int32) (t0 : Int32) (h : pH) : pR := run pMs none 69 84 [some (.ref k0), some (.int x1), some (.int x2), some (.int x3)] [.int t0] h
theorem e_Y_faultOfWord (k0 : Nat) (h : pH) : f_Y_faultOfWord k0 h =
    if kO h 8 k0 = true then (cV (f_Y_looks k0 h) fun h_1 =>
    (f_Y_faultOfWord_6 k0 (0 : Int32) h_1)) else none := (exq_run (M := M_69) rfl 5 _ _ _ _).symm.trans rfl
set_option maxRecDepth 100000 in
theorem e_Y_faultOfWord_6 (k0 : Nat) (x1 : Int32) (h : pH) : f_Y_faultOfWord_6 k0 x1 h =
    oo none (hI h 8 k0 6) fun x_1 =>
    if x_1 ≤ x1 then
    (oo none (hI h 8 k0 6) fun x_2 =>
      if (7 : Int32) ≤ x_2 then
      (rI (-4 : Int32) h)
      else
      (oo none (hI h 8 k0 6) fun x_3 =>
        rI x_3 h))
    else
    (if (7 : Int32) ≤ x1 then
      ((f_Y_faultOfWord_35 k0 x1 (-1 : Int32) (0 : Int32) (0 : Int32) h))
      else
      (if kO h 8 k0 = true then (cI (f_Y_signed k0 x1 h) fun x_5 h_4 =>
        (f_Y_faultOfWord_35 k0 x1 x_5 (0 : Int32) (0 : Int32) h_4)) else none)) := (exq_run (M := M_69) rfl 17 _ _ _ _).symm.trans rfl
set_option maxRecDepth 100000 in
theorem e_Y_faultOfWord_35 (k0 : Nat) (x1 : Int32) (x2 : Int32) (x3 : Int32) (x4 : Int32) (h : pH) : f_Y_faultOfWord_35 k0 x1 x2 x3 x4 h =
    if x1 ≤ x4 then
    ((f_Y_faultOfWord_69 k0 x1 x2 x3 h))
    else
    (if x2 < 0 then
      ((f_Y_faultOfWord_69 k0 x1 x2 x3 h))
      else
      (if kO h 8 k0 = true then (cI (f_Y_signed k0 x4 h) fun x_2 h_1 =>
        if x_2 = x2 then
        ((f_Y_faultOfWord_35 k0 x1 x2 (x3 + (1 : Int32)) (x4 + 1) h_1))
        else
        ((f_Y_faultOfWord_35 k0 x1 x2 (x3 + (0 : Int32)) (x4 + 1) h_1))) else none)) := (exq_run (M := M_69) rfl 18 _ _ _ _).symm.trans rfl
theorem e_Y_faultOfWord_69 (k0 : Nat) (x1 : Int32) (x2 : Int32) (x3 : Int32) (h : pH) : f_Y_faultOfWord_69 k0 x1 x2 x3 h =
    if x2 = 0 then
    (oo none (hI h 8 k0 10) fun x_1 =>
      (f_Y_faultOfWord_84 k0 x1 x2 x3 ((7 : Int32) - x_1) h))
    else
    ((f_Y_faultOfWord_84 k0 x1 x2 x3 (1 : Int32) h)) := (exq_run (M := M_69) rfl 8 _ _ _ _).symm.trans rfl
theorem e_Y_faultOfWord_84 (k0 : Nat) (x1 : Int32) (x2 : Int32) (x3 : Int32) (t0 : Int32) (h : pH) : f_Y_faultOfWord_84 k0 x1 x2 x3 t0 h =
    if x2 < 0 then
    (rI x1 h)
    else
    (if x3 = t0 then
      (rI x1 h)
      else
      ((f_Y_faultOfWord_6 k0 (x1 + 1) h))) := (exq_run (M := M_69) rfl 9 _ _ _ _).symm.trans rfl
noncomputable def f_Y_fault (k0 : Nat) (x1 : Int32) (h : pH) : pR := run pMs none 70 0 [some (.ref k0), some (.int x1)] [] h
theorem e_Y_fault (k0 : Nat) (x1 : Int32) (h : pH) : f_Y_fault k0 x1 h =
    if x1 = 0 then
    (if kO h 8 k0 = true then (cI (f_Y_faultOfProgram k0 h) fun x_4 h_3 =>
      rI x_4 h_3) else none)
    else
    (if x1 = (1 : Int32) then
      (if kO h 8 k0 = true then (cI (f_Y_faultOfWord k0 h) fun x_2 h_1 =>
        rI x_2 h_1) else none)
      else
      (rI (-1 : Int32) h)) := (exq_run (M := M_70) rfl 10 _ _ _ _).symm.trans rfl
noncomputable def f_Y_ways (x0 : Int32) (x1 : Int32) (h : pH) : pR := run pMs none 77 0 [some (.int x0), some (.int x1)] [] h
noncomputable def f_Y_ways_13 (x0 : Int32) (x1 : Int32) (x2 : Int32) (x3 : Int32) (h : pH) : pR := run pMs none 77 13 [some (.int x0), some (.int x1), some (.int x2), some (.int x3)] [] h
theorem e_Y_ways (x0 : Int32) (x1 : Int32) (h : pH) : f_Y_ways x0 x1 h =
    if x1 ≤ x0 then
    ((f_Y_ways_13 x0 x1 (1 : Int32) (0 : Int32) h))
    else
    ((f_Y_ways_13 x0 x1 (0 : Int32) (0 : Int32) h)) := (exq_run (M := M_77) rfl 9 _ _ _ _).symm.trans rfl
set_option maxRecDepth 100000 in
theorem e_Y_ways_13 (x0 : Int32) (x1 : Int32) (x2 : Int32) (x3 : Int32) (h : pH) : f_Y_ways_13 x0 x1 x2 x3 h =
    if x1 ≤ x3 then
    (rI x2 h)
    else
    (if x2 ≤ 0 then
      (rI x2 h)
      else
      ((f_Y_ways_13 x0 x1 (x2 * (x0 - x3)) (x3 + 1) h))) := (exq_run (M := M_77) rfl 14 _ _ _ _).symm.trans rfl
noncomputable def f_Y_before (k0 : Nat) (x1 : Int32) (h : pH) : pR := run pMs none 78 0 [some (.ref k0), some (.int x1)] [] h
noncomputable def f_Y_before_26 (k0 : Nat) (x1 : Int32) (x2 : Int32) (x3 : Int32) (x4 : Int32) (x5 : Int32) (h : pH) : pR := run pMs none 78 26 [some (.ref k0), some (.int x1), some (.int x2), some (.int x3), some (.int x4), some (.int x5)] [] h
noncomputable def f_Y_before_48 (k0 : Nat) (x1 : Int32) (x3 : Int32) (x4 : Int32) (x5 : Int32) (t0 : Int32) (t1 : Int32) (h : pH) : pR := run pMs none 78 48 [some (.ref k0), some (.int x1), none, some (.int x3), some (.int x4), some (.int x5)] [.int t1, .int t0] h
noncomputable def f_Y_before_67 (k0 : Nat) (x1 : Int32) (x2 : Int32) (x3 : Int32) (x5 : Int32) (t0 : Int32) (t1 : Int32) (h : pH) : pR := run pMs none 78 67 [some (.ref k0), some (.int x1), some (.int x2), some (.int x3), none, some (.int x5)] [.int t1, .int t0] h
set_option maxRecDepth 100000 in
theorem e_Y_before (k0 : Nat) (x1 : Int32) (h : pH) : f_Y_before k0 x1 h =
    oo none (hI h 8 k0 10) fun x_1 =>
    oo none (hR h 8 k0 12) fun k_2 =>
    oo none (hA h k_2 x1) fun x_3 =>
    oo none (hI h 8 k0 10) fun x_4 =>
    (f_Y_before_26 k0 x1 ((7 : Int32) - x_1) (x_3 - (1 : Int32)) x_4 (0 : Int32) h) := (exq_run (M := M_78) rfl 18 _ _ _ _).symm.trans rfl
set_option maxRecDepth 100000 in
theorem e_Y_before_26 (k0 : Nat) (x1 : Int32) (x2 : Int32) (x3 : Int32) (x4 : Int32) (x5 : Int32) (h : pH) : f_Y_before_26 k0 x1 x2 x3 x4 x5 h =
    if x1 ≤ x5 then
    (oo none (hR h 8 k0 12) fun k_1 =>
      oo none (hA h k_1 x1) fun x_2 =>
      if x_2 = 0 then
      (rI (0 : Int32) h)
      else
      (cI (f_Y_ways ((6 : Int32) - x1) (x4 - (1 : Int32)) h) fun x_4 h_3 =>
        if x2 ≤ 0 then
        (rI (x3 * x_4) h_3)
        else
        (cI (f_Y_ways ((6 : Int32) - x1) x4 h_3) fun x_6 h_5 =>
          rI ((x3 * x_4) + x_6) h_5)))
    else
    (oo none (hR h 8 k0 12) fun k_7 =>
      oo none (hA h k_7 x5) fun x_8 =>
      if x_8 = 0 then
      ((f_Y_before_48 k0 x1 x3 x4 x5 x2 (1 : Int32) h))
      else
      ((f_Y_before_48 k0 x1 x3 x4 x5 x2 (0 : Int32) h))) := (exq_run (M := M_78) rfl 30 _ _ _ _).symm.trans rfl
theorem e_Y_before_48 (k0 : Nat) (x1 : Int32) (x3 : Int32) (x4 : Int32) (x5 : Int32) (t0 : Int32) (t1 : Int32) (h : pH) : f_Y_before_48 k0 x1 x3 x4 x5 t0 t1 h =
    oo none (hR h 8 k0 12) fun k_1 =>
    oo none (hA h k_1 x5) fun x_2 =>
    if x_2 = 0 then
    ((f_Y_before_67 k0 x1 (t0 - t1) x3 x5 x4 (0 : Int32) h))
    else
    ((f_Y_before_67 k0 x1 (t0 - t1) x3 x5 x4 (1 : Int32) h)) := (exq_run (M := M_78) rfl 11 _ _ _ _).symm.trans rfl
set_option maxRecDepth 100000 in
theorem e_Y_before_67 (k0 : Nat) (x1 : Int32) (x2 : Int32) (x3 : Int32) (x5 : Int32) (t0 : Int32) (t1 : Int32) (h : pH) : f_Y_before_67 k0 x1 x2 x3 x5 t0 t1 h =
    oo none (hR h 8 k0 12) fun k_1 =>
    oo none (hA h k_1 x5) fun x_2 =>
    if x_2 ≤ 0 then
    ((f_Y_before_26 k0 x1 x2 (x3 - (0 : Int32)) (t0 - t1) (x5 + 1) h))
    else
    (oo none (hR h 8 k0 12) fun k_3 =>
      oo none (hA h k_3 x5) fun x_4 =>
      oo none (hR h 8 k0 12) fun k_5 =>
      oo none (hA h k_5 x1) fun x_6 =>
      if x_6 ≤ x_4 then
      ((f_Y_before_26 k0 x1 x2 (x3 - (0 : Int32)) (t0 - t1) (x5 + 1) h))
      else
      ((f_Y_before_26 k0 x1 x2 (x3 - (1 : Int32)) (t0 - t1) (x5 + 1) h))) := (exq_run (M := M_78) rfl 24 _ _ _ _).symm.trans rfl
noncomputable def f_Y_rankOfThen (k0 : Nat) (h : pH) : pR := run pMs none 79 0 [some (.ref k0)] [] h
noncomputable def f_Y_rankOfThen_4 (k0 : Nat) (x1 : Int32) (x2 : Int32) (h : pH) : pR := run pMs none 79 4 [some (.ref k0), some (.int x1), some (.int x2)] [] h
theorem e_Y_rankOfThen (k0 : Nat) (h : pH) : f_Y_rankOfThen k0 h =
    (f_Y_rankOfThen_4 k0 (0 : Int32) (0 : Int32) h) := (exq_run (M := M_79) rfl 5 _ _ _ _).symm.trans rfl
theorem e_Y_rankOfThen_4 (k0 : Nat) (x1 : Int32) (x2 : Int32) (h : pH) : f_Y_rankOfThen_4 k0 x1 x2 h =
    if (7 : Int32) ≤ x2 then
    (rI x1 h)
    else
    (if kO h 8 k0 = true then (cI (f_Y_before k0 x2 h) fun x_2 h_1 =>
      (f_Y_rankOfThen_4 k0 (x1 + x_2) (x2 + 1) h_1)) else none) := (exq_run (M := M_79) rfl 12 _ _ _ _).symm.trans rfl
noncomputable def f_Y_arrange (k0 : Nat) (h : pH) : pR := run pMs none 80 0 [some (.ref k0)] [] h
noncomputable def f_Y_arrange_18 (k0 : Nat) (x1 : Int32) (h : pH) : pR := run pMs none 80 18 [some (.ref k0), some (.int x1)] [] h
theorem e_Y_arrange (k0 : Nat) (h : pH) : f_Y_arrange k0 h =
    if kO h 8 k0 = true then (cI (f_Y_faultOfWord k0 h) fun x_2 h_1 =>
    if x_2 = (-4 : Int32) then
    (if kO h_1 8 k0 = true then (cV (f_Y_remembers k0 h_1) fun h_3 =>
      (f_Y_arrange_18 k0 (0 : Int32) h_3)) else none)
    else
    (rI (-2 : Int32) h_1)) else none := (exq_run (M := M_80) rfl 9 _ _ _ _).symm.trans rfl
set_option maxRecDepth 100000 in
theorem e_Y_arrange_18 (k0 : Nat) (x1 : Int32) (h : pH) : f_Y_arrange_18 k0 x1 h =
    if (7 : Int32) ≤ x1 then
    (if kO h 8 k0 = true then (cV (f_Y_goesOn k0 h) fun h_1 =>
      if kO h_1 8 k0 = true then (cV (f_Y_stands k0 h_1) fun h_2 =>
      if kO h_2 8 k0 = true then
      (if kO (sI h_2 k0 6 (0 : Int32)) 8 k0 = true then (cI (f_Y_rankOfThen k0 (sI h_2 k0 6 (0 : Int32))) fun x_4 h_3 =>
      rI x_4 h_3) else none)
      else none) else none) else none)
    else
    (oo none (hR h 8 k0 12) fun k_5 =>
      if kO h 8 k0 = true then (cI (f_Y_signed k0 x1 h) fun x_7 h_6 =>
      if bA h_6 k_5 x1 = true then
      ((f_Y_arrange_18 k0 (x1 + 1) (sI h_6 k_5 (Int32.toNatClampNeg x1) x_7)))
      else none) else none) := (exq_run (M := M_80) rfl 14 _ _ _ _).symm.trans rfl
noncomputable def f_Y_moveAt (k0 : Nat) (x1 : Int32) (h : pH) : pR := run pMs none 84 0 [some (.ref k0), some (.int x1)] [] h
set_option maxRecDepth 100000 in
theorem e_Y_moveAt (k0 : Nat) (x1 : Int32) (h : pH) : f_Y_moveAt k0 x1 h =
    oo none (hR h 8 k0 5) fun k_1 =>
    oo none (hA h k_1 (((2 : Int32) * x1) + (1 : Int32))) fun x_2 =>
    oo none (hR h 8 k0 5) fun k_3 =>
    oo none (hA h k_3 ((2 : Int32) * x1)) fun x_4 =>
    if x_4 = (112 : Int32) then
    (rI ((x_2 - (48 : Int32)) + (0 : Int32)) h)
    else
    (oo none (hR h 8 k0 5) fun k_5 =>
      oo none (hA h k_5 ((2 : Int32) * x1)) fun x_6 =>
      if x_6 = (114 : Int32) then
      (rI ((x_2 - (48 : Int32)) + (7 : Int32)) h)
      else
      (rI ((x_2 - (48 : Int32)) + (13 : Int32)) h)) := (exq_run (M := M_84) rfl 33 _ _ _ _).symm.trans rfl
