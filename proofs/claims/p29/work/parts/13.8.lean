noncomputable def f_L_law (L : Nat) (xs : Nat → Int32) (h : pH) : pR := run pMs (some (L, xs)) 121 0 [some (.null)] [] h
noncomputable def f_L_law_76 (L : Nat) (xs : Nat → Int32) (k1 : Nat) (x2 : Int32) (h : pH) : pR := run pMs (some (L, xs)) 121 76 [some (.null), some (.ref k1), some (.int x2)] [] h
noncomputable def f_L_law_146 (L : Nat) (xs : Nat → Int32) (k1 : Nat) (x2 : Int32) (h : pH) : pR := run pMs (some (L, xs)) 121 146 [some (.null), some (.ref k1), some (.int x2)] [] h
noncomputable def f_L_law_188 (L : Nat) (xs : Nat → Int32) (k1 : Nat) (x2 : Int32) (x3 : Int32) (t0 : Int32) (h : pH) : pR := run pMs (some (L, xs)) 121 188 [some (.null), some (.ref k1), some (.int x2), some (.int x3)] [.int t0] h
noncomputable def f_L_law_210 (L : Nat) (xs : Nat → Int32) (k1 : Nat) (x2 : Int32) (x3 : Int32) (h : pH) : pR := run pMs (some (L, xs)) 121 210 [some (.null), some (.ref k1), some (.int x2), some (.int x3)] [] h
set_option maxRecDepth 100000 in
theorem e_L_law (L : Nat) (xs : Nat → Int32) (h : pH) : f_L_law L xs h =
    cV (f_X_init (List.length (Prod.fst h)) (nK h (.inl 7))) fun h_1 =>
    if kO h_1 7 (List.length (Prod.fst h)) = true then (cI (f_X_count (List.length (Prod.fst h)) (6 : Int32) h_1) fun x_3 h_2 =>
    if x_3 = (1 : Int32) then
    (if kO h_2 7 (List.length (Prod.fst h)) = true then (cI (f_X_count (List.length (Prod.fst h)) (3 : Int32) h_2) fun x_5 h_4 =>
      if x_5 = (1 : Int32) then
      (if kO h_4 7 (List.length (Prod.fst h)) = true then (cI (f_X_least (List.length (Prod.fst h)) (0 : Int32) (1 : Int32) h_4) fun x_7 h_6 =>
        if x_7 = 0 then
        (if kO h_6 7 (List.length (Prod.fst h)) = true then (cI (f_X_loosen (List.length (Prod.fst h)) h_6) fun x_9 h_8 =>
          if x_9 = (-4 : Int32) then
          (if kO h_8 7 (List.length (Prod.fst h)) = true then (cD (f_X_mean (List.length (Prod.fst h)) h_8) fun d_11 h_10 =>
            if (Op.cmpValue (FP.dcmp d_11 FP.dconst0) .l) = 0 then
            (if kO h_10 7 (List.length (Prod.fst h)) = true then (cI (f_X_undo (List.length (Prod.fst h)) h_10) fun x_13 h_12 =>
              if x_13 = (-2 : Int32) then
              (if kO h_12 7 (List.length (Prod.fst h)) = true then (cI (f_X_restore (List.length (Prod.fst h)) h_12) fun x_15 h_14 =>
                if x_15 = (-2 : Int32) then
                ((f_L_law_76 L xs (List.length (Prod.fst h)) (0 : Int32) h_14))
                else
                (rI (0 : Int32) h_14)) else none)
              else
              (rI (0 : Int32) h_12)) else none)
            else
            (rI (0 : Int32) h_10)) else none)
          else
          (rI (0 : Int32) h_8)) else none)
        else
        (rI (0 : Int32) h_6)) else none)
      else
      (rI (0 : Int32) h_4)) else none)
    else
    (rI (0 : Int32) h_2)) else none := (exq_run (M := M_121) rfl 39 _ _ _ _).symm.trans rfl
set_option maxRecDepth 100000 in
theorem e_L_law_76 (L : Nat) (xs : Nat → Int32) (k1 : Nat) (x2 : Int32) (h : pH) : f_L_law_76 L xs k1 x2 h =
    if (3 : Int32) ≤ x2 then
    ((f_L_law_146 L xs k1 (3 : Int32) h))
    else
    (if Nat.ble 1 8 = true ∧ ¬ x2 < 0 ∧ L < 2147483648 then
      (cI (f_L_low (csv (L, xs) x2) (8 : Int32) h) fun x_2 h_1 =>
      if Nat.ble 3 8 = true ∧ ¬ x2 < 0 ∧ L < 2147483648 then
      (cI (f_L_low ((csv (L, xs) x2) >>> ((3 : Int32) &&& 31)) (9 : Int32) h_1) fun x_4 h_3 =>
      if Nat.ble 4 8 = true ∧ ¬ x2 < 0 ∧ L < 2147483648 then
      (if kO h_3 7 k1 = true then (cI (f_X_add k1 (x_2 + ((8 : Int32) * x2)) ((1 : Int32) + x_4) (((2 : Int32) * x2) + (((csv (L, xs) x2) >>> ((7 : Int32) &&& 31)) &&& (1 : Int32))) h_3) fun x_6 h_5 =>
      if x_6 = (x2 + (1 : Int32)) then
      ((f_L_law_76 L xs k1 (x2 + 1) h_5))
      else
      (rI (0 : Int32) h_5)) else none)
      else none)
      else none)
      else none) := (exq_run (M := M_121) rfl 43 _ _ _ _).symm.trans rfl
set_option maxRecDepth 100000 in
theorem e_L_law_146 (L : Nat) (xs : Nat → Int32) (k1 : Nat) (x2 : Int32) (h : pH) : f_L_law_146 L xs k1 x2 h =
    if (40 : Int32) ≤ x2 then
    (if kO h 7 k1 = true then (cI (f_X_add k1 (26 : Int32) (1 : Int32) (0 : Int32) h) fun x_2 h_1 =>
      if x_2 = (-1 : Int32) then
      (if kO h_1 7 k1 = true then (cI (f_X_pull k1 (7 : Int32) h_1) fun x_4 h_3 =>
        if x_4 = (-1 : Int32) then
        (if kO h_3 7 k1 = true then (cI (f_X_push k1 (6 : Int32) (1 : Int32) h_3) fun x_6 h_5 =>
          if x_6 = (-1 : Int32) then
          (if kO h_5 7 k1 = true then (cI (f_X_whyNot k1 (19 : Int32) h_5) fun x_8 h_7 =>
            if x_8 = (-1 : Int32) then
            (if kO h_7 7 k1 = true then (cI (f_X_plan k1 (1 : Int32) (-1 : Int32) h_7) fun x_10 h_9 =>
              if x_10 = (-1 : Int32) then
              (if kO h_9 7 k1 = true then (cI (f_X_all k1 (5 : Int32) h_9) fun x_12 h_11 =>
                if x_12 = (-1 : Int32) then
                (if kO h_11 7 k1 = true then (cI (f_X_round k1 (4 : Int32) h_11) fun x_14 h_13 =>
                  if x_14 = (-1 : Int32) then
                  (rI (1 : Int32) h_13)
                  else
                  (rI (0 : Int32) h_13)) else none)
                else
                (rI (0 : Int32) h_11)) else none)
              else
              (rI (0 : Int32) h_9)) else none)
            else
            (rI (0 : Int32) h_7)) else none)
          else
          (rI (0 : Int32) h_5)) else none)
        else
        (rI (0 : Int32) h_3)) else none)
      else
      (rI (0 : Int32) h_1)) else none)
    else
    (if Nat.ble 0 8 = true ∧ ¬ x2 < 0 ∧ L < 2147483648 then
      (cI (f_L_does k1 (csv (L, xs) x2) h) fun x_16 h_15 =>
      if x_16 = 0 then
      ((f_L_law_188 L xs k1 x2 (csv (L, xs) x2) (0 : Int32) h_15))
      else
      (cI (f_L_areBooks k1 h_15) fun x_18 h_17 =>
        if x_18 = 0 then
        ((f_L_law_188 L xs k1 x2 (csv (L, xs) x2) (0 : Int32) h_17))
        else
        (cI (f_L_areWords k1 ((csv (L, xs) x2) >>> ((3 : Int32) &&& 31)) h_17) fun x_20 h_19 =>
          if x_20 = 0 then
          ((f_L_law_188 L xs k1 x2 (csv (L, xs) x2) (0 : Int32) h_19))
          else
          ((f_L_law_188 L xs k1 x2 (csv (L, xs) x2) (1 : Int32) h_19)))))
      else none) := (exq_run (M := M_121) rfl 46 _ _ _ _).symm.trans rfl
set_option maxRecDepth 100000 in
theorem e_L_law_188 (L : Nat) (xs : Nat → Int32) (k1 : Nat) (x2 : Int32) (x3 : Int32) (t0 : Int32) (h : pH) : f_L_law_188 L xs k1 x2 x3 t0 h =
    if t0 = 0 then
    (rI (0 : Int32) h)
    else
    (if (12 : Int32) = 0 then none else
      if (x2 - x2 / (12 : Int32) * (12 : Int32)) = (5 : Int32) then
      (cI (f_L_areLeast k1 h) fun x_2 h_1 =>
        if x_2 = 0 then
        (rI (0 : Int32) h_1)
        else
        ((f_L_law_210 L xs k1 x2 x3 h_1)))
      else
      ((f_L_law_210 L xs k1 x2 x3 h))) := (exq_run (M := M_121) rfl 14 _ _ _ _).symm.trans rfl
set_option maxRecDepth 100000 in
theorem e_L_law_210 (L : Nat) (xs : Nat → Int32) (k1 : Nat) (x2 : Int32) (x3 : Int32) (h : pH) : f_L_law_210 L xs k1 x2 x3 h =
    if (12 : Int32) = 0 then none else
    if (x2 - x2 / (12 : Int32) * (12 : Int32)) = (9 : Int32) then
    (if ((x3 >>> ((4 : Int32) &&& 31)) &&& (1 : Int32)) = (1 : Int32) then
      (cI (f_L_isPlan k1 (1 : Int32) h) fun x_4 h_3 =>
        if x_4 = 0 then
        (rI (0 : Int32) h_3)
        else
        ((f_L_law_146 L xs k1 (x2 + 1) h_3)))
      else
      (cI (f_L_isPlan k1 (0 : Int32) h) fun x_2 h_1 =>
        if x_2 = 0 then
        (rI (0 : Int32) h_1)
        else
        ((f_L_law_146 L xs k1 (x2 + 1) h_1))))
    else
    ((f_L_law_146 L xs k1 (x2 + 1) h)) := (exq_run (M := M_121) rfl 20 _ _ _ _).symm.trans rfl
