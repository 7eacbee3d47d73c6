def rI (x : Int32) (h : pH) : pR := some (some (.int x), h)
def rV (h : pH) : pR := some (none, h)
def rR (k : Nat) (h : pH) : pR := some (some (.ref k), h)
def rD (d : UInt64) (h : pH) : pR := some (some (.double d), h)
def rL (d : Int64) (h : pH) : pR := some (some (.long d), h)
noncomputable def f_J_bitCount (x0 : Int32) (h : pH) : pR := run pMs none 8 0 [some (.int x0)] [] h
set_option maxRecDepth 100000 in
theorem e_J_bitCount (x0 : Int32) (h : pH) : f_J_bitCount x0 h =
    rI ((((((((x0 - ((ius x0 (1 : Int32)) &&& (1431655765 : Int32))) &&& (858993459 : Int32)) + ((ius (x0 - ((ius x0 (1 : Int32)) &&& (1431655765 : Int32))) (2 : Int32)) &&& (858993459 : Int32))) + (ius (((x0 - ((ius x0 (1 : Int32)) &&& (1431655765 : Int32))) &&& (858993459 : Int32)) + ((ius (x0 - ((ius x0 (1 : Int32)) &&& (1431655765 : Int32))) (2 : Int32)) &&& (858993459 : Int32))) (4 : Int32))) &&& (252645135 : Int32)) + (ius (((((x0 - ((ius x0 (1 : Int32)) &&& (1431655765 : Int32))) &&& (858993459 : Int32)) + ((ius (x0 - ((ius x0 (1 : Int32)) &&& (1431655765 : Int32))) (2 : Int32)) &&& (858993459 : Int32))) + (ius (((x0 - ((ius x0 (1 : Int32)) &&& (1431655765 : Int32))) &&& (858993459 : Int32)) + ((ius (x0 - ((ius x0 (1 : Int32)) &&& (1431655765 : Int32))) (2 : Int32)) &&& (858993459 : Int32))) (4 : Int32))) &&& (252645135 : Int32)) (8 : Int32))) + (ius ((((((x0 - ((ius x0 (1 : Int32)) &&& (1431655765 : Int32))) &&& (858993459 : Int32)) + ((ius (x0 - ((ius x0 (1 : Int32)) &&& (1431655765 : Int32))) (2 : Int32)) &&& (858993459 : Int32))) + (ius (((x0 - ((ius x0 (1 : Int32)) &&& (1431655765 : Int32))) &&& (858993459 : Int32)) + ((ius (x0 - ((ius x0 (1 : Int32)) &&& (1431655765 : Int32))) (2 : Int32)) &&& (858993459 : Int32))) (4 : Int32))) &&& (252645135 : Int32)) + (ius (((((x0 - ((ius x0 (1 : Int32)) &&& (1431655765 : Int32))) &&& (858993459 : Int32)) + ((ius (x0 - ((ius x0 (1 : Int32)) &&& (1431655765 : Int32))) (2 : Int32)) &&& (858993459 : Int32))) + (ius (((x0 - ((ius x0 (1 : Int32)) &&& (1431655765 : Int32))) &&& (858993459 : Int32)) + ((ius (x0 - ((ius x0 (1 : Int32)) &&& (1431655765 : Int32))) (2 : Int32)) &&& (858993459 : Int32))) (4 : Int32))) &&& (252645135 : Int32)) (8 : Int32))) (16 : Int32))) &&& (63 : Int32)) h := (exq_run (M := M_8) rfl 43 _ _ _ _).symm.trans rfl
noncomputable def f_R_get (k0 : Nat) (x1 : Int32) (h : pH) : pR := run pMs none 9 0 [some (.ref k0), some (.int x1)] [] h
set_option maxRecDepth 100000 in
theorem e_R_get (k0 : Nat) (x1 : Int32) (h : pH) : f_R_get k0 x1 h =
    if x1 < 0 then
    (rI (0 : Int32) h)
    else
    (oo none (hR h 4 k0 0) fun k_1 =>
      oo none (hN h k_1) fun x_2 =>
      if x_2 ≤ x1 then
      (rI (0 : Int32) h)
      else
      (oo none (hR h 4 k0 0) fun k_3 =>
        oo none (hA h k_3 x1) fun x_4 =>
        rI x_4 h)) := (exq_run (M := M_9) rfl 14 _ _ _ _).symm.trans rfl
noncomputable def f_N_slotAt (x0 : Int32) (x1 : Int32) (h : pH) : pR := run pMs none 11 0 [some (.int x0), some (.int x1)] [] h
theorem e_N_slotAt (x0 : Int32) (x1 : Int32) (h : pH) : f_N_slotAt x0 x1 h =
    rI ((ius x0 ((3 : Int32) * x1)) &&& (7 : Int32)) h := (exq_run (M := M_11) rfl 9 _ _ _ _).symm.trans rfl
noncomputable def f_N_isWrong (x0 : Int32) (x1 : Int32) (x2 : Int32) (h : pH) : pR := run pMs none 12 0 [some (.int x0), some (.int x1), some (.int x2)] [] h
set_option maxRecDepth 100000 in
theorem e_N_isWrong (x0 : Int32) (x1 : Int32) (x2 : Int32) (h : pH) : f_N_isWrong x0 x1 x2 h =
    if x0 = 0 then
    (rI (0 : Int32) h)
    else
    (if x1 = 0 then
      (rI (0 : Int32) h)
      else
      (if x2 = (1 : Int32) then
        (if x1 ≤ x0 then
          (rI (0 : Int32) h)
          else
          (rI (1 : Int32) h))
        else
        (if x0 ≤ x1 then
          (rI (0 : Int32) h)
          else
          (rI (1 : Int32) h)))) := (exq_run (M := M_12) rfl 15 _ _ _ _).symm.trans rfl
noncomputable def f_N_isInOrder (x0 : Int32) (x1 : Int32) (x2 : Int32) (h : pH) : pR := run pMs none 13 0 [some (.int x0), some (.int x1), some (.int x2)] [] h
noncomputable def f_N_isInOrder_8 (x0 : Int32) (x1 : Int32) (x2 : Int32) (x3 : Int32) (x4 : Int32) (x5 : Int32) (h : pH) : pR := run pMs none 13 8 [some (.int x0), some (.int x1), some (.int x2), some (.int x3), some (.int x4), some (.int x5)] [] h
noncomputable def f_N_isInOrder_44 (x0 : Int32) (x1 : Int32) (x2 : Int32) (x3 : Int32) (x4 : Int32) (x5 : Int32) (x6 : Int32) (h : pH) : pR := run pMs none 13 44 [some (.int x0), some (.int x1), some (.int x2), some (.int x3), some (.int x4), some (.int x5), some (.int x6)] [] h
theorem e_N_isInOrder (x0 : Int32) (x1 : Int32) (x2 : Int32) (h : pH) : f_N_isInOrder x0 x1 x2 h =
    (f_N_isInOrder_8 x0 x1 x2 (0 : Int32) (0 : Int32) (0 : Int32) h) := (exq_run (M := M_13) rfl 7 _ _ _ _).symm.trans rfl
set_option maxRecDepth 100000 in
theorem e_N_isInOrder_8 (x0 : Int32) (x1 : Int32) (x2 : Int32) (x3 : Int32) (x4 : Int32) (x5 : Int32) (h : pH) : f_N_isInOrder_8 x0 x1 x2 x3 x4 x5 h =
    if (7 : Int32) ≤ x5 then
    (rI (1 : Int32) h)
    else
    (cI (f_N_slotAt x0 x5 h) fun x_2 h_1 =>
      if x_2 = 0 then
      ((f_N_isInOrder_8 x0 x1 x2 x3 (1 : Int32) (x5 + 1) h_1))
      else
      (if x4 = 0 then
        ((f_N_isInOrder_44 x0 x1 x2 x3 x4 x5 x_2 h_1))
        else
        (if x2 = (1 : Int32) then
          (rI (0 : Int32) h_1)
          else
          ((f_N_isInOrder_44 x0 x1 x2 x3 x4 x5 x_2 h_1))))) := (exq_run (M := M_13) rfl 17 _ _ _ _).symm.trans rfl
theorem e_N_isInOrder_44 (x0 : Int32) (x1 : Int32) (x2 : Int32) (x3 : Int32) (x4 : Int32) (x5 : Int32) (x6 : Int32) (h : pH) : f_N_isInOrder_44 x0 x1 x2 x3 x4 x5 x6 h =
    cI (f_N_isWrong x3 x6 x1 h) fun x_2 h_1 =>
    if x_2 = 0 then
    ((f_N_isInOrder_8 x0 x1 x2 x6 x4 (x5 + 1) h_1))
    else
    (rI (0 : Int32) h_1) := (exq_run (M := M_13) rfl 10 _ _ _ _).symm.trans rfl
noncomputable def f_N_wrongBooks (x0 : Int32) (x1 : Int32) (x2 : Int32) (h : pH) : pR := run pMs none 14 0 [some (.int x0), some (.int x1), some (.int x2)] [] h
noncomputable def f_N_wrongBooks_12 (x0 : Int32) (x1 : Int32) (x2 : Int32) (x3 : Int32) (x4 : Int32) (x5 : Int32) (h : pH) : pR := run pMs none 14 12 [some (.int x0), some (.int x1), some (.int x2), some (.int x3), some (.int x4), some (.int x5)] [] h
noncomputable def f_N_wrongBooks_35 (x0 : Int32) (x1 : Int32) (x2 : Int32) (x3 : Int32) (x4 : Int32) (x5 : Int32) (t0 : Int32) (h : pH) : pR := run pMs none 14 35 [some (.int x0), some (.int x1), some (.int x2), some (.int x3), some (.int x4), some (.int x5)] [.int t0] h
noncomputable def f_N_wrongBooks_53 (x0 : Int32) (x1 : Int32) (x2 : Int32) (x3 : Int32) (x4 : Int32) (x5 : Int32) (x6 : Int32) (t0 : Int32) (h : pH) : pR := run pMs none 14 53 [some (.int x0), some (.int x1), some (.int x2), some (.int x3), some (.int x4), some (.int x5), some (.int x6)] [.int t0] h
theorem e_N_wrongBooks (x0 : Int32) (x1 : Int32) (x2 : Int32) (h : pH) : f_N_wrongBooks x0 x1 x2 h =
    cI (f_N_slotAt x0 x1 h) fun x_2 h_1 =>
    (f_N_wrongBooks_12 x0 x1 x2 x_2 (0 : Int32) (0 : Int32) h_1) := (exq_run (M := M_14) rfl 9 _ _ _ _).symm.trans rfl
theorem e_N_wrongBooks_12 (x0 : Int32) (x1 : Int32) (x2 : Int32) (x3 : Int32) (x4 : Int32) (x5 : Int32) (h : pH) : f_N_wrongBooks_12 x0 x1 x2 x3 x4 x5 h =
    if (7 : Int32) ≤ x5 then
    (rI x4 h)
    else
    (if x1 ≤ x5 then
      ((f_N_wrongBooks_35 x0 x1 x2 x3 x4 x5 x3 h))
      else
      (cI (f_N_slotAt x0 x5 h) fun x_2 h_1 =>
        (f_N_wrongBooks_35 x0 x1 x2 x3 x4 x5 x_2 h_1))) := (exq_run (M := M_14) rfl 11 _ _ _ _).symm.trans rfl
theorem e_N_wrongBooks_35 (x0 : Int32) (x1 : Int32) (x2 : Int32) (x3 : Int32) (x4 : Int32) (x5 : Int32) (t0 : Int32) (h : pH) : f_N_wrongBooks_35 x0 x1 x2 x3 x4 x5 t0 h =
    if x1 ≤ x5 then
    (cI (f_N_slotAt x0 x5 h) fun x_2 h_1 =>
      (f_N_wrongBooks_53 x0 x1 x2 x3 x4 x5 t0 x_2 h_1))
    else
    ((f_N_wrongBooks_53 x0 x1 x2 x3 x4 x5 t0 x3 h)) := (exq_run (M := M_14) rfl 8 _ _ _ _).symm.trans rfl
theorem e_N_wrongBooks_53 (x0 : Int32) (x1 : Int32) (x2 : Int32) (x3 : Int32) (x4 : Int32) (x5 : Int32) (x6 : Int32) (t0 : Int32) (h : pH) : f_N_wrongBooks_53 x0 x1 x2 x3 x4 x5 x6 t0 h =
    cI (f_N_isWrong x6 t0 x2 h) fun x_2 h_1 =>
    if x_2 = 0 then
    ((f_N_wrongBooks_12 x0 x1 x2 x3 x4 (x5 + 1) h_1))
    else
    ((f_N_wrongBooks_12 x0 x1 x2 x3 (x4 + 1) (x5 + 1) h_1)) := (exq_run (M := M_14) rfl 10 _ _ _ _).symm.trans rfl
noncomputable def f_N_disorder (x0 : Int32) (x1 : Int32) (h : pH) : pR := run pMs none 15 0 [some (.int x0), some (.int x1)] [] h
noncomputable def f_N_disorder_4 (x0 : Int32) (x1 : Int32) (x2 : Int32) (x3 : Int32) (h : pH) : pR := run pMs none 15 4 [some (.int x0), some (.int x1), some (.int x2), some (.int x3)] [] h
theorem e_N_disorder (x0 : Int32) (x1 : Int32) (h : pH) : f_N_disorder x0 x1 h =
    (f_N_disorder_4 x0 x1 (0 : Int32) (0 : Int32) h) := (exq_run (M := M_15) rfl 5 _ _ _ _).symm.trans rfl
theorem e_N_disorder_4 (x0 : Int32) (x1 : Int32) (x2 : Int32) (x3 : Int32) (h : pH) : f_N_disorder_4 x0 x1 x2 x3 h =
    if (7 : Int32) ≤ x3 then
    (rI (x2 >>> ((1 : Int32) &&& 31)) h)
    else
    (cI (f_N_wrongBooks x0 x3 x1 h) fun x_2 h_1 =>
      (f_N_disorder_4 x0 x1 (x2 + x_2) (x3 + 1) h_1)) := (exq_run (M := M_15) rfl 13 _ _ _ _).symm.trans rfl
noncomputable def f_K_ways (x0 : Int32) (x1 : Int32) (h : pH) : pR := run pMs none 16 0 [some (.int x0), some (.int x1)] [] h
noncomputable def f_K_ways_6 (x0 : Int32) (x1 : Int32) (x2 : Int32) (x3 : Int32) (h : pH) : pR := run pMs none 16 6 [some (.int x0), some (.int x1), some (.int x2), some (.int x3)] [] h
theorem e_K_ways (x0 : Int32) (x1 : Int32) (h : pH) : f_K_ways x0 x1 h =
    (f_K_ways_6 x0 x1 (1 : Int32) (x0 + (1 : Int32)) h) := (exq_run (M := M_16) rfl 7 _ _ _ _).symm.trans rfl
theorem e_K_ways_6 (x0 : Int32) (x1 : Int32) (x2 : Int32) (x3 : Int32) (h : pH) : f_K_ways_6 x0 x1 x2 x3 h =
    if (x0 + x1) < x3 then
    (rI x2 h)
    else
    ((f_K_ways_6 x0 x1 (x2 * x3) (x3 + 1) h)) := (exq_run (M := M_16) rfl 12 _ _ _ _).symm.trans rfl
noncomputable def f_K_rankOf (x0 : Int32) (x1 : Int32) (h : pH) : pR := run pMs none 17 0 [some (.int x0), some (.int x1)] [] h
noncomputable def f_K_rankOf_22 (x0 : Int32) (x2 : Int32) (x3 : Int32) (x4 : Int32) (x5 : Int32) (x6 : Int32) (h : pH) : pR := run pMs none 17 22 [some (.int x0), none, some (.int x2), some (.int x3), some (.int x4), some (.int x5), some (.int x6)] [] h
noncomputable def f_K_rankOf_64 (x0 : Int32) (x2 : Int32) (x3 : Int32) (x4 : Int32) (x5 : Int32) (x6 : Int32) (x7 : Int32) (h : pH) : pR := run pMs none 17 64 [some (.int x0), none, some (.int x2), some (.int x3), some (.int x4), some (.int x5), some (.int x6), some (.int x7)] [] h
set_option maxRecDepth 100000 in
theorem e_K_rankOf (x0 : Int32) (x1 : Int32) (h : pH) : f_K_rankOf x0 x1 h =
    (f_K_rankOf_22 x0 ((7 : Int32) - x1) x1 (((1 : Int32) <<< ((x1 + (1 : Int32)) &&& 31)) - (2 : Int32)) (0 : Int32) (0 : Int32) h) := (exq_run (M := M_17) rfl 19 _ _ _ _).symm.trans rfl
set_option maxRecDepth 100000 in
theorem e_K_rankOf_22 (x0 : Int32) (x2 : Int32) (x3 : Int32) (x4 : Int32) (x5 : Int32) (x6 : Int32) (h : pH) : f_K_rankOf_22 x0 x2 x3 x4 x5 x6 h =
    if (7 : Int32) ≤ x6 then
    (rI x5 h)
    else
    (cI (f_N_slotAt x0 x6 h) fun x_2 h_1 =>
      if x_2 = 0 then
      ((f_K_rankOf_22 x0 (x2 + (-1)) x3 x4 x5 (x6 + 1) h_1))
      else
      (if x2 ≤ 0 then
        ((f_K_rankOf_64 x0 x2 x3 x4 x5 x6 x_2 h_1))
        else
        (cI (f_K_ways (x2 - (1 : Int32)) x3 h_1) fun x_4 h_3 =>
          (f_K_rankOf_64 x0 x2 x3 x4 (x5 + x_4) x6 x_2 h_3)))) := (exq_run (M := M_17) rfl 20 _ _ _ _).symm.trans rfl
set_option maxRecDepth 100000 in
theorem e_K_rankOf_64 (x0 : Int32) (x2 : Int32) (x3 : Int32) (x4 : Int32) (x5 : Int32) (x6 : Int32) (x7 : Int32) (h : pH) : f_K_rankOf_64 x0 x2 x3 x4 x5 x6 x7 h =
    cI (f_J_bitCount (x4 &&& (((1 : Int32) <<< (x7 &&& 31)) - (1 : Int32))) h) fun x_2 h_1 =>
    cI (f_K_ways x2 (x3 + (-1)) h_1) fun x_4 h_3 =>
    (f_K_rankOf_22 x0 x2 (x3 + (-1)) (x4 &&& (((1 : Int32) <<< (x7 &&& 31)) ^^^ (-1 : Int32))) (x5 + (x_2 * x_4)) (x6 + 1) h_3) := (exq_run (M := M_17) rfl 27 _ _ _ _).symm.trans rfl
noncomputable def f_K_wordsOf (x0 : Int32) (h : pH) : pR := run pMs none 19 0 [some (.int x0)] [] h
theorem e_K_wordsOf (x0 : Int32) (h : pH) : f_K_wordsOf x0 h =
    cI (f_K_ways ((7 : Int32) - x0) x0 h) fun x_2 h_1 =>
    rI x_2 h_1 := (exq_run (M := M_19) rfl 7 _ _ _ _).symm.trans rfl
noncomputable def f_K_risingWordsOf (x0 : Int32) (h : pH) : pR := run pMs none 20 0 [some (.int x0)] [] h
theorem e_K_risingWordsOf (x0 : Int32) (h : pH) : f_K_risingWordsOf x0 h =
    cI (f_K_ways (0 : Int32) x0 h) fun x_2 h_1 =>
    if x_2 ≤ 0 then
    (rI (0 : Int32) h_1)
    else
    (cI (f_K_wordsOf x0 h_1) fun x_4 h_3 =>
      if x_2 = 0 then none else
      rI (x_4 / x_2) h_3) := (exq_run (M := M_20) rfl 13 _ _ _ _).symm.trans rfl
noncomputable def f_N_placeOf (x0 : Int32) (h : pH) : pR := run pMs none 21 0 [some (.int x0)] [] h
theorem e_N_placeOf (x0 : Int32) (h : pH) : f_N_placeOf x0 h =
    if (7 : Int32) ≤ x0 then
    (if (13 : Int32) ≤ x0 then
      (rI (x0 - (13 : Int32)) h)
      else
      (rI (x0 - (7 : Int32)) h))
    else
    (rI x0 h) := (exq_run (M := M_21) rfl 12 _ _ _ _).symm.trans rfl
noncomputable def f_N_isPull (x0 : Int32) (h : pH) : pR := run pMs none 22 0 [some (.int x0)] [] h
theorem e_N_isPull (x0 : Int32) (h : pH) : f_N_isPull x0 h =
    if (7 : Int32) ≤ x0 then
    (rI (0 : Int32) h)
    else
    (rI (1 : Int32) h) := (exq_run (M := M_22) rfl 7 _ _ _ _).symm.trans rfl
noncomputable def f_N_isIn (x0 : Int32) (x1 : Int32) (h : pH) : pR := run pMs none 23 0 [some (.int x0), some (.int x1)] [] h
theorem e_N_isIn (x0 : Int32) (x1 : Int32) (h : pH) : f_N_isIn x0 x1 h =
    if ((ius x0 x1) &&& (1 : Int32)) = (1 : Int32) then
    (rI (1 : Int32) h)
    else
    (rI (0 : Int32) h) := (exq_run (M := M_23) rfl 11 _ _ _ _).symm.trans rfl
noncomputable def f_N_isGap (x0 : Int32) (x1 : Int32) (h : pH) : pR := run pMs none 24 0 [some (.int x0), some (.int x1)] [] h
set_option maxRecDepth 100000 in
theorem e_N_isGap (x0 : Int32) (x1 : Int32) (h : pH) : f_N_isGap x0 x1 h =
    if x1 < 0 then
    (rI (0 : Int32) h)
    else
    (if (7 : Int32) ≤ x1 then
      (rI (0 : Int32) h)
      else
      (if ((ius x0 ((3 : Int32) * x1)) &&& (7 : Int32)) = 0 then
        (rI (1 : Int32) h)
        else
        (rI (0 : Int32) h))) := (exq_run (M := M_24) rfl 17 _ _ _ _).symm.trans rfl
noncomputable def f_N_reason (x0 : Int32) (x1 : Int32) (x2 : Int32) (h : pH) : pR := run pMs none 25 0 [some (.int x0), some (.int x1), some (.int x2)] [] h
set_option maxRecDepth 100000 in
theorem e_N_reason (x0 : Int32) (x1 : Int32) (x2 : Int32) (h : pH) : f_N_reason x0 x1 x2 h =
    cI (f_N_placeOf x2 h) fun x_2 h_1 =>
    cI (f_N_slotAt x0 x_2 h_1) fun x_4 h_3 =>
    cI (f_N_isPull x2 h_3) fun x_6 h_5 =>
    if x_6 = 0 then
    (if x_4 = 0 then
      (rI (3 : Int32) h_5)
      else
      (cI (f_N_slotAt x0 (x_2 + (1 : Int32)) h_5) fun x_8 h_7 =>
        if x_8 = 0 then
        (rI (3 : Int32) h_7)
        else
        (if (13 : Int32) ≤ x2 then
          (cI (f_N_isGap x0 (x_2 - (1 : Int32)) h_7) fun x_10 h_9 =>
            if x_10 = 0 then
            (rI (4 : Int32) h_9)
            else
            (rI (0 : Int32) h_9))
          else
          (cI (f_N_isGap x0 (x_2 + (2 : Int32)) h_7) fun x_12 h_11 =>
            if x_12 = 0 then
            (rI (4 : Int32) h_11)
            else
            (rI (0 : Int32) h_11)))))
    else
    (if x_4 = 0 then
      (rI (1 : Int32) h_5)
      else
      (cI (f_N_isIn x1 x_4 h_5) fun x_14 h_13 =>
        if x_14 = 0 then
        (rI (0 : Int32) h_13)
        else
        (rI (2 : Int32) h_13))) := (exq_run (M := M_25) rfl 32 _ _ _ _).symm.trans rfl
noncomputable def f_K_slotBehind (x0 : Int32) (x1 : Int32) (h : pH) : pR := run pMs none 31 0 [some (.int x0), some (.int x1)] [] h
noncomputable def f_K_slotBehind_4 (x0 : Int32) (x1 : Int32) (x2 : Int32) (x3 : Int32) (h : pH) : pR := run pMs none 31 4 [some (.int x0), some (.int x1), some (.int x2), some (.int x3)] [] h
theorem e_K_slotBehind (x0 : Int32) (x1 : Int32) (h : pH) : f_K_slotBehind x0 x1 h =
    (f_K_slotBehind_4 x0 x1 (0 : Int32) (1 : Int32) h) := (exq_run (M := M_31) rfl 5 _ _ _ _).symm.trans rfl
set_option maxRecDepth 100000 in
theorem e_K_slotBehind_4 (x0 : Int32) (x1 : Int32) (x2 : Int32) (x3 : Int32) (h : pH) : f_K_slotBehind_4 x0 x1 x2 x3 h =
    if (5 : Int32) < x3 then
    (rI (0 : Int32) h)
    else
    (cI (f_N_isIn x0 x3 h) fun x_2 h_1 =>
      if x_2 = 0 then
      ((f_K_slotBehind_4 x0 x1 x2 (x3 + 1) h_1))
      else
      (if x2 = x1 then
        (rI x3 h_1)
        else
        ((f_K_slotBehind_4 x0 x1 (x2 + 1) (x3 + 1) h_1)))) := (exq_run (M := M_31) rfl 14 _ _ _ _).symm.trans rfl
noncomputable def f_N_withSlot (x0 : Int32) (x1 : Int32) (x2 : Int32) (h : pH) : pR := run pMs none 32 0 [some (.int x0), some (.int x1), some (.int x2)] [] h
set_option maxRecDepth 100000 in
theorem e_N_withSlot (x0 : Int32) (x1 : Int32) (x2 : Int32) (h : pH) : f_N_withSlot x0 x1 x2 h =
    rI ((x0 &&& (((7 : Int32) <<< (((3 : Int32) * x1) &&& 31)) ^^^ (-1 : Int32))) ||| (x2 <<< (((3 : Int32) * x1) &&& 31))) h := (exq_run (M := M_32) rfl 17 _ _ _ _).symm.trans rfl
noncomputable def f_K_wordAt (x0 : Int32) (x1 : Int32) (h : pH) : pR := run pMs none 33 0 [some (.int x0), some (.int x1)] [] h
noncomputable def f_K_wordAt_25 (x2 : Int32) (x3 : Int32) (x4 : Int32) (x5 : Int32) (x6 : Int32) (x7 : Int32) (h : pH) : pR := run pMs none 33 25 [none, none, some (.int x2), some (.int x3), some (.int x4), some (.int x5), some (.int x6), some (.int x7)] [] h
noncomputable def f_K_wordAt_47 (x2 : Int32) (x3 : Int32) (x4 : Int32) (x5 : Int32) (x6 : Int32) (x7 : Int32) (t0 : Int32) (h : pH) : pR := run pMs none 33 47 [none, none, some (.int x2), some (.int x3), some (.int x4), some (.int x5), some (.int x6), some (.int x7)] [.int t0] h
noncomputable def f_K_wordAt_93 (x2 : Int32) (x3 : Int32) (x4 : Int32) (x5 : Int32) (x6 : Int32) (x7 : Int32) (x9 : Int32) (t0 : Int32) (h : pH) : pR := run pMs none 33 93 [none, none, some (.int x2), some (.int x3), some (.int x4), some (.int x5), some (.int x6), some (.int x7), none, some (.int x9)] [.int t0] h
set_option maxRecDepth 100000 in
theorem e_K_wordAt (x0 : Int32) (x1 : Int32) (h : pH) : f_K_wordAt x0 x1 h =
    (f_K_wordAt_25 ((7 : Int32) - x1) x1 (((1 : Int32) <<< ((x1 + (1 : Int32)) &&& 31)) - (2 : Int32)) x0 (0 : Int32) (0 : Int32) h) := (exq_run (M := M_33) rfl 21 _ _ _ _).symm.trans rfl
theorem e_K_wordAt_25 (x2 : Int32) (x3 : Int32) (x4 : Int32) (x5 : Int32) (x6 : Int32) (x7 : Int32) (h : pH) : f_K_wordAt_25 x2 x3 x4 x5 x6 x7 h =
    if (7 : Int32) ≤ x7 then
    (rI x6 h)
    else
    (if x2 ≤ 0 then
      ((f_K_wordAt_47 x2 x3 x4 x5 x6 x7 (0 : Int32) h))
      else
      (cI (f_K_ways (x2 - (1 : Int32)) x3 h) fun x_2 h_1 =>
        (f_K_wordAt_47 x2 x3 x4 x5 x6 x7 x_2 h_1))) := (exq_run (M := M_33) rfl 12 _ _ _ _).symm.trans rfl
set_option maxRecDepth 100000 in
theorem e_K_wordAt_47 (x2 : Int32) (x3 : Int32) (x4 : Int32) (x5 : Int32) (x6 : Int32) (x7 : Int32) (t0 : Int32) (h : pH) : f_K_wordAt_47 x2 x3 x4 x5 x6 x7 t0 h =
    if t0 ≤ x5 then
    (cI (f_K_ways x2 (x3 + (-1)) h) fun x_2 h_1 =>
      if x_2 ≤ 0 then
      ((f_K_wordAt_93 x2 (x3 + (-1)) x4 (x5 - t0) x6 x7 x_2 (0 : Int32) h_1))
      else
      (if x_2 = 0 then none else
        (f_K_wordAt_93 x2 (x3 + (-1)) x4 (x5 - t0) x6 x7 x_2 ((x5 - t0) / x_2) h_1)))
    else
    ((f_K_wordAt_25 (x2 + (-1)) x3 x4 x5 x6 (x7 + 1) h)) := (exq_run (M := M_33) rfl 20 _ _ _ _).symm.trans rfl
set_option maxRecDepth 100000 in
theorem e_K_wordAt_93 (x2 : Int32) (x3 : Int32) (x4 : Int32) (x5 : Int32) (x6 : Int32) (x7 : Int32) (x9 : Int32) (t0 : Int32) (h : pH) : f_K_wordAt_93 x2 x3 x4 x5 x6 x7 x9 t0 h =
    cI (f_K_slotBehind x4 t0 h) fun x_2 h_1 =>
    cI (f_N_withSlot x6 x7 x_2 h_1) fun x_4 h_3 =>
    (f_K_wordAt_25 x2 x3 (x4 &&& (((1 : Int32) <<< (x_2 &&& 31)) ^^^ (-1 : Int32))) (x5 - (t0 * x9)) x_4 (x7 + 1) h_3) := (exq_run (M := M_33) rfl 27 _ _ _ _).symm.trans rfl
noncomputable def f_R_put (k0 : Nat) (x1 : Int32) (x2 : Int32) (h : pH) : pR := run pMs none 34 0 [some (.ref k0), some (.int x1), some (.int x2)] [] h
set_option maxRecDepth 100000 in
theorem e_R_put (k0 : Nat) (x1 : Int32) (x2 : Int32) (h : pH) : f_R_put k0 x1 x2 h =
    if x1 < 0 then
    (rV h)
    else
    (oo none (hR h 4 k0 0) fun k_1 =>
      oo none (hN h k_1) fun x_2 =>
      if x_2 ≤ x1 then
      (rV h)
      else
      (oo none (hR h 4 k0 0) fun k_3 =>
        if bA h k_3 x1 = true then
        (rV (sI h k_3 (Int32.toNatClampNeg x1) x2))
        else none)) := (exq_run (M := M_34) rfl 14 _ _ _ _).symm.trans rfl
noncomputable def f_N_gapBeside (x0 : Int32) (x1 : Int32) (h : pH) : pR := run pMs none 35 0 [some (.int x0), some (.int x1)] [] h
noncomputable def f_N_gapBeside_2 (x0 : Int32) (x1 : Int32) (x2 : Int32) (h : pH) : pR := run pMs none 35 2 [some (.int x0), some (.int x1), some (.int x2)] [] h
theorem e_N_gapBeside (x0 : Int32) (x1 : Int32) (h : pH) : f_N_gapBeside x0 x1 h =
    (f_N_gapBeside_2 x0 x1 (1 : Int32) h) := (exq_run (M := M_35) rfl 3 _ _ _ _).symm.trans rfl
set_option maxRecDepth 100000 in
theorem e_N_gapBeside_2 (x0 : Int32) (x1 : Int32) (x2 : Int32) (h : pH) : f_N_gapBeside_2 x0 x1 x2 h =
    if (7 : Int32) ≤ x2 then
    (rI x1 h)
    else
    (cI (f_N_isGap x0 (x1 - x2) h) fun x_2 h_1 =>
      if x_2 = 0 then
      (cI (f_N_isGap x0 (x1 + x2) h_1) fun x_4 h_3 =>
        if x_4 = 0 then
        ((f_N_gapBeside_2 x0 x1 (x2 + 1) h_3))
        else
        (rI (x1 + x2) h_3))
      else
      (rI (x1 - x2) h_1)) := (exq_run (M := M_35) rfl 20 _ _ _ _).symm.trans rfl
noncomputable def f_N_after (x0 : Int32) (x1 : Int32) (h : pH) : pR := run pMs none 36 0 [some (.int x0), some (.int x1)] [] h
set_option maxRecDepth 100000 in
theorem e_N_after (x0 : Int32) (x1 : Int32) (h : pH) : f_N_after x0 x1 h =
    cI (f_N_placeOf x1 h) fun x_2 h_1 =>
    cI (f_N_slotAt x0 x_2 h_1) fun x_4 h_3 =>
    cI (f_N_isPull x1 h_3) fun x_6 h_5 =>
    if x_6 = 0 then
    (cI (f_N_slotAt x0 (x_2 + (1 : Int32)) h_5) fun x_8 h_7 =>
      if (13 : Int32) ≤ x1 then
      (cI (f_N_withSlot x0 (x_2 + (1 : Int32)) (0 : Int32) h_7) fun x_10 h_9 =>
        cI (f_N_withSlot x_10 (x_2 - (1 : Int32)) x_4 h_9) fun x_12 h_11 =>
        cI (f_N_withSlot x_12 x_2 x_8 h_11) fun x_14 h_13 =>
        rI x_14 h_13)
      else
      (cI (f_N_withSlot x0 x_2 (0 : Int32) h_7) fun x_16 h_15 =>
        cI (f_N_withSlot x_16 (x_2 + (1 : Int32)) x_4 h_15) fun x_18 h_17 =>
        cI (f_N_withSlot x_18 (x_2 + (2 : Int32)) x_8 h_17) fun x_20 h_19 =>
        rI x_20 h_19))
    else
    (cI (f_N_withSlot x0 x_2 (0 : Int32) h_5) fun x_22 h_21 =>
      cI (f_N_gapBeside x0 x_2 h_21) fun x_24 h_23 =>
      cI (f_N_withSlot x_22 x_24 x_4 h_23) fun x_26 h_25 =>
      rI x_26 h_25) := (exq_run (M := M_36) rfl 35 _ _ _ _).symm.trans rfl
noncomputable def f_N_price (x0 : Int32) (k1 : Nat) (x2 : Int32) (h : pH) : pR := run pMs none 48 0 [some (.int x0), some (.ref k1), some (.int x2)] [] h
set_option maxRecDepth 100000 in
theorem e_N_price (x0 : Int32) (k1 : Nat) (x2 : Int32) (h : pH) : f_N_price x0 k1 x2 h =
    cI (f_N_placeOf x2 h) fun x_2 h_1 =>
    cI (f_N_slotAt x0 x_2 h_1) fun x_4 h_3 =>
    if kO h_3 4 k1 = true then (cI (f_R_get k1 x_4 h_3) fun x_6 h_5 =>
    cI (f_N_isPull x2 h_5) fun x_8 h_7 =>
    if x_8 = 0 then
    (cI (f_N_slotAt x0 (x_2 + (1 : Int32)) h_7) fun x_10 h_9 =>
      if kO h_9 4 k1 = true then (cI (f_R_get k1 x_10 h_9) fun x_12 h_11 =>
      rI (imax x_6 x_12) h_11) else none)
    else
    (rI x_6 h_7)) else none := (exq_run (M := M_48) rfl 23 _ _ _ _).symm.trans rfl
noncomputable def f_R_become (k0 : Nat) (k1 : Nat) (h : pH) : pR := run pMs none 63 0 [some (.ref k0), some (.ref k1)] [] h
noncomputable def f_R_become_2 (k0 : Nat) (k1 : Nat) (x2 : Int32) (h : pH) : pR := run pMs none 63 2 [some (.ref k0), some (.ref k1), some (.int x2)] [] h
theorem e_R_become (k0 : Nat) (k1 : Nat) (h : pH) : f_R_become k0 k1 h =
    (f_R_become_2 k0 k1 (0 : Int32) h) := (exq_run (M := M_63) rfl 3 _ _ _ _).symm.trans rfl
set_option maxRecDepth 100000 in
theorem e_R_become_2 (k0 : Nat) (k1 : Nat) (x2 : Int32) (h : pH) : f_R_become_2 k0 k1 x2 h =
    oo none (hR h 4 k0 0) fun k_1 =>
    oo none (hN h k_1) fun x_2 =>
    if x_2 ≤ x2 then
    (rV h)
    else
    (oo none (hR h 4 k0 0) fun k_3 =>
      if kO h 4 k1 = true then (cI (f_R_get k1 x2 h) fun x_5 h_4 =>
      if bA h_4 k_3 x2 = true then
      ((f_R_become_2 k0 k1 (x2 + 1) (sI h_4 k_3 (Int32.toNatClampNeg x2) x_5)))
      else none) else none) := (exq_run (M := M_63) rfl 15 _ _ _ _).symm.trans rfl
