noncomputable def f_L_law (L : Nat) (xs : Nat → Int32) (h : pH) : pR := run pMs (some (L, xs)) 177 0 [some (.null)] [] h
noncomputable def f_L_law_18 (L : Nat) (xs : Nat → Int32) (k1 : Nat) (k2 : Nat) (x3 : Int32) (h : pH) : pR := run pMs (some (L, xs)) 177 18 [some (.null), some (.ref k1), some (.ref k2), some (.int x3)] [] h
noncomputable def f_L_law_283 (L : Nat) (xs : Nat → Int32) (k1 : Nat) (k2 : Nat) (x3 : Int32) (t0 : Nat) (t1 : Int32) (t2 : Int32) (h : pH) : pR := run pMs (some (L, xs)) 177 283 [some (.null), some (.ref k1), some (.ref k2), some (.int x3)] [.int t2, .int t1, .ref t0] h
noncomputable def f_L_law_636 (L : Nat) (xs : Nat → Int32) (k1 : Nat) (k2 : Nat) (x3 : Int32) (t0 : Nat) (t1 : Int32) (h : pH) : pR := run pMs (some (L, xs)) 177 636 [some (.null), some (.ref k1), some (.ref k2), some (.int x3)] [.int t1, .ref t0] h
noncomputable def f_L_law_658 (L : Nat) (xs : Nat → Int32) (k1 : Nat) (k2 : Nat) (x3 : Int32) (t0 : Int32) (t1 : Nat) (t2 : Int32) (h : pH) : pR := run pMs (some (L, xs)) 177 658 [some (.null), some (.ref k1), some (.ref k2), some (.int x3)] [.int t2, .ref t1, .int t0] h
set_option maxRecDepth 100000 in
theorem e_L_law (L : Nat) (xs : Nat → Int32) (h : pH) : f_L_law L xs h =
    cV (f_X_init (List.length (Prod.fst h)) (nK h (.inl 7))) fun h_1 =>
    cV (f_Y_init (List.length (Prod.fst h_1)) (nK h_1 (.inl 8))) fun h_2 =>
    (f_L_law_18 L xs (List.length (Prod.fst h)) (List.length (Prod.fst h_1)) (0 : Int32) h_2) := (exq_run (M := M_177) rfl 11 _ _ _ _).symm.trans rfl
set_option maxRecDepth 100000 in
theorem e_L_law_18 (L : Nat) (xs : Nat → Int32) (k1 : Nat) (k2 : Nat) (x3 : Int32) (h : pH) : f_L_law_18 L xs k1 k2 x3 h =
    if ((Int32.ofNat L) - (4 : Int32)) < x3 then
    (rI (1 : Int32) h)
    else
    (if inb x3 L = true then
      if ((xs (Int32.toNatClampNeg x3)) &&& (31 : Int32)) = 0 then
      (if inb (x3 + (1 : Int32)) L = true then
        if inb (x3 + (2 : Int32)) L = true then
        if inb (x3 + (3 : Int32)) L = true then
        if kO h 7 k1 = true then (cI (f_X_add k1 (xs (Int32.toNatClampNeg (x3 + (1 : Int32)))) (xs (Int32.toNatClampNeg (x3 + (2 : Int32)))) (xs (Int32.toNatClampNeg (x3 + (3 : Int32)))) h) fun x_2 h_1 =>
        if inb (x3 + (1 : Int32)) L = true then
        if inb (x3 + (2 : Int32)) L = true then
        if inb (x3 + (3 : Int32)) L = true then
        if kO h_1 8 k2 = true then (cI (f_Y_add k2 (xs (Int32.toNatClampNeg (x3 + (1 : Int32)))) (xs (Int32.toNatClampNeg (x3 + (2 : Int32)))) (xs (Int32.toNatClampNeg (x3 + (3 : Int32)))) h_1) fun x_4 h_3 =>
        if x_2 = x_4 then
        ((f_L_law_18 L xs k1 k2 (x3 + 4) h_3))
        else
        (rI (0 : Int32) h_3)) else none
        else none
        else none
        else none) else none
        else none
        else none
        else none)
      else if ((xs (Int32.toNatClampNeg x3)) &&& (31 : Int32)) = 1 then
      (if inb (x3 + (1 : Int32)) L = true then
        if kO h 7 k1 = true then (cI (f_X_remove k1 (xs (Int32.toNatClampNeg (x3 + (1 : Int32)))) h) fun x_6 h_5 =>
        if inb (x3 + (1 : Int32)) L = true then
        if kO h_5 8 k2 = true then (cI (f_Y_remove k2 (xs (Int32.toNatClampNeg (x3 + (1 : Int32)))) h_5) fun x_8 h_7 =>
        if x_6 = x_8 then
        ((f_L_law_18 L xs k1 k2 (x3 + 4) h_7))
        else
        (rI (0 : Int32) h_7)) else none
        else none) else none
        else none)
      else if ((xs (Int32.toNatClampNeg x3)) &&& (31 : Int32)) = 2 then
      (if inb (x3 + (1 : Int32)) L = true then
        if kO h 7 k1 = true then (cI (f_X_stick k1 (xs (Int32.toNatClampNeg (x3 + (1 : Int32)))) h) fun x_10 h_9 =>
        if inb (x3 + (1 : Int32)) L = true then
        if kO h_9 8 k2 = true then (cI (f_Y_stick k2 (xs (Int32.toNatClampNeg (x3 + (1 : Int32)))) h_9) fun x_12 h_11 =>
        if x_10 = x_12 then
        ((f_L_law_18 L xs k1 k2 (x3 + 4) h_11))
        else
        (rI (0 : Int32) h_11)) else none
        else none) else none
        else none)
      else if ((xs (Int32.toNatClampNeg x3)) &&& (31 : Int32)) = 3 then
      (if inb (x3 + (1 : Int32)) L = true then
        if kO h 7 k1 = true then (cI (f_X_pull k1 (xs (Int32.toNatClampNeg (x3 + (1 : Int32)))) h) fun x_14 h_13 =>
        if inb (x3 + (1 : Int32)) L = true then
        if kO h_13 8 k2 = true then (cI (f_Y_pull k2 (xs (Int32.toNatClampNeg (x3 + (1 : Int32)))) h_13) fun x_16 h_15 =>
        if x_14 = x_16 then
        ((f_L_law_18 L xs k1 k2 (x3 + 4) h_15))
        else
        (rI (0 : Int32) h_15)) else none
        else none) else none
        else none)
      else if ((xs (Int32.toNatClampNeg x3)) &&& (31 : Int32)) = 4 then
      (if inb (x3 + (1 : Int32)) L = true then
        if inb (x3 + (2 : Int32)) L = true then
        if (xs (Int32.toNatClampNeg (x3 + (2 : Int32)))) = 0 then
        ((f_L_law_283 L xs k1 k2 x3 k1 (xs (Int32.toNatClampNeg (x3 + (1 : Int32)))) (0 : Int32) h))
        else
        ((f_L_law_283 L xs k1 k2 x3 k1 (xs (Int32.toNatClampNeg (x3 + (1 : Int32)))) (1 : Int32) h))
        else none
        else none)
      else if ((xs (Int32.toNatClampNeg x3)) &&& (31 : Int32)) = 5 then
      (if inb (x3 + (1 : Int32)) L = true then
        if inb (x3 + (2 : Int32)) L = true then
        if kO h 7 k1 = true then (cI (f_X_set k1 (xs (Int32.toNatClampNeg (x3 + (1 : Int32)))) (xs (Int32.toNatClampNeg (x3 + (2 : Int32)))) h) fun x_18 h_17 =>
        if inb (x3 + (1 : Int32)) L = true then
        if inb (x3 + (2 : Int32)) L = true then
        if kO h_17 8 k2 = true then (cI (f_Y_set k2 (xs (Int32.toNatClampNeg (x3 + (1 : Int32)))) (xs (Int32.toNatClampNeg (x3 + (2 : Int32)))) h_17) fun x_20 h_19 =>
        if x_18 = x_20 then
        ((f_L_law_18 L xs k1 k2 (x3 + 4) h_19))
        else
        (rI (0 : Int32) h_19)) else none
        else none
        else none) else none
        else none
        else none)
      else if ((xs (Int32.toNatClampNeg x3)) &&& (31 : Int32)) = 6 then
      (if inb (x3 + (1 : Int32)) L = true then
        if kO h 7 k1 = true then (cI (f_X_append k1 (xs (Int32.toNatClampNeg (x3 + (1 : Int32)))) h) fun x_22 h_21 =>
        if inb (x3 + (1 : Int32)) L = true then
        if kO h_21 8 k2 = true then (cI (f_Y_append k2 (xs (Int32.toNatClampNeg (x3 + (1 : Int32)))) h_21) fun x_24 h_23 =>
        if x_22 = x_24 then
        ((f_L_law_18 L xs k1 k2 (x3 + 4) h_23))
        else
        (rI (0 : Int32) h_23)) else none
        else none) else none
        else none)
      else if ((xs (Int32.toNatClampNeg x3)) &&& (31 : Int32)) = 7 then
      (if kO h 7 k1 = true then (cI (f_X_clear k1 h) fun x_26 h_25 =>
        if kO h_25 8 k2 = true then (cI (f_Y_clear k2 h_25) fun x_28 h_27 =>
        if x_26 = x_28 then
        ((f_L_law_18 L xs k1 k2 (x3 + 4) h_27))
        else
        (rI (0 : Int32) h_27)) else none) else none)
      else if ((xs (Int32.toNatClampNeg x3)) &&& (31 : Int32)) = 8 then
      (if inb (x3 + (1 : Int32)) L = true then
        if kO h 7 k1 = true then (cI (f_X_fault k1 (xs (Int32.toNatClampNeg (x3 + (1 : Int32)))) h) fun x_30 h_29 =>
        if inb (x3 + (1 : Int32)) L = true then
        if kO h_29 8 k2 = true then (cI (f_Y_fault k2 (xs (Int32.toNatClampNeg (x3 + (1 : Int32)))) h_29) fun x_32 h_31 =>
        if x_30 = x_32 then
        ((f_L_law_18 L xs k1 k2 (x3 + 4) h_31))
        else
        (rI (0 : Int32) h_31)) else none
        else none) else none
        else none)
      else if ((xs (Int32.toNatClampNeg x3)) &&& (31 : Int32)) = 9 then
      (if kO h 7 k1 = true then (cI (f_X_arrange k1 h) fun x_34 h_33 =>
        if kO h_33 8 k2 = true then (cI (f_Y_arrange k2 h_33) fun x_36 h_35 =>
        if x_34 = x_36 then
        ((f_L_law_18 L xs k1 k2 (x3 + 4) h_35))
        else
        (rI (0 : Int32) h_35)) else none) else none)
      else if ((xs (Int32.toNatClampNeg x3)) &&& (31 : Int32)) = 10 then
      (if kO h 7 k1 = true then (cI (f_X_run k1 h) fun x_38 h_37 =>
        if kO h_37 8 k2 = true then (cI (f_Y_run k2 h_37) fun x_40 h_39 =>
        if x_38 = x_40 then
        ((f_L_law_18 L xs k1 k2 (x3 + 4) h_39))
        else
        (rI (0 : Int32) h_39)) else none) else none)
      else if ((xs (Int32.toNatClampNeg x3)) &&& (31 : Int32)) = 11 then
      (if inb (x3 + (1 : Int32)) L = true then
        if inb (x3 + (2 : Int32)) L = true then
        if kO h 7 k1 = true then (cI (f_X_at k1 (xs (Int32.toNatClampNeg (x3 + (1 : Int32)))) (xs (Int32.toNatClampNeg (x3 + (2 : Int32)))) h) fun x_42 h_41 =>
        if inb (x3 + (1 : Int32)) L = true then
        if inb (x3 + (2 : Int32)) L = true then
        if kO h_41 8 k2 = true then (cI (f_Y_at k2 (xs (Int32.toNatClampNeg (x3 + (1 : Int32)))) (xs (Int32.toNatClampNeg (x3 + (2 : Int32)))) h_41) fun x_44 h_43 =>
        if x_42 = x_44 then
        ((f_L_law_18 L xs k1 k2 (x3 + 4) h_43))
        else
        (rI (0 : Int32) h_43)) else none
        else none
        else none) else none
        else none
        else none)
      else if ((xs (Int32.toNatClampNeg x3)) &&& (31 : Int32)) = 12 then
      (if inb (x3 + (1 : Int32)) L = true then
        if kO h 7 k1 = true then (cI (f_X_whyNot k1 (xs (Int32.toNatClampNeg (x3 + (1 : Int32)))) h) fun x_46 h_45 =>
        if inb (x3 + (1 : Int32)) L = true then
        if kO h_45 8 k2 = true then (cI (f_Y_whyNot k2 (xs (Int32.toNatClampNeg (x3 + (1 : Int32)))) h_45) fun x_48 h_47 =>
        if x_46 = x_48 then
        ((f_L_law_18 L xs k1 k2 (x3 + 4) h_47))
        else
        (rI (0 : Int32) h_47)) else none
        else none) else none
        else none)
      else if ((xs (Int32.toNatClampNeg x3)) &&& (31 : Int32)) = 13 then
      (if inb (x3 + (1 : Int32)) L = true then
        if kO h 7 k1 = true then (cI (f_X_cost k1 (xs (Int32.toNatClampNeg (x3 + (1 : Int32)))) h) fun x_50 h_49 =>
        if inb (x3 + (1 : Int32)) L = true then
        if kO h_49 8 k2 = true then (cI (f_Y_cost k2 (xs (Int32.toNatClampNeg (x3 + (1 : Int32)))) h_49) fun x_52 h_51 =>
        if x_50 = x_52 then
        ((f_L_law_18 L xs k1 k2 (x3 + 4) h_51))
        else
        (rI (0 : Int32) h_51)) else none
        else none) else none
        else none)
      else if ((xs (Int32.toNatClampNeg x3)) &&& (31 : Int32)) = 14 then
      (if inb (x3 + (1 : Int32)) L = true then
        if kO h 7 k1 = true then (cI (f_X_leads k1 (xs (Int32.toNatClampNeg (x3 + (1 : Int32)))) h) fun x_54 h_53 =>
        if inb (x3 + (1 : Int32)) L = true then
        if kO h_53 8 k2 = true then (cI (f_Y_leads k2 (xs (Int32.toNatClampNeg (x3 + (1 : Int32)))) h_53) fun x_56 h_55 =>
        if x_54 = x_56 then
        ((f_L_law_18 L xs k1 k2 (x3 + 4) h_55))
        else
        (rI (0 : Int32) h_55)) else none
        else none) else none
        else none)
      else if ((xs (Int32.toNatClampNeg x3)) &&& (31 : Int32)) = 15 then
      (if inb (x3 + (1 : Int32)) L = true then
        if inb (x3 + (2 : Int32)) L = true then
        if kO h 7 k1 = true then (cI (f_X_word k1 (xs (Int32.toNatClampNeg (x3 + (1 : Int32)))) (xs (Int32.toNatClampNeg (x3 + (2 : Int32)))) h) fun x_58 h_57 =>
        if inb (x3 + (1 : Int32)) L = true then
        if inb (x3 + (2 : Int32)) L = true then
        if kO h_57 8 k2 = true then (cI (f_Y_word k2 (xs (Int32.toNatClampNeg (x3 + (1 : Int32)))) (xs (Int32.toNatClampNeg (x3 + (2 : Int32)))) h_57) fun x_60 h_59 =>
        if x_58 = x_60 then
        ((f_L_law_18 L xs k1 k2 (x3 + 4) h_59))
        else
        (rI (0 : Int32) h_59)) else none
        else none
        else none) else none
        else none
        else none)
      else if ((xs (Int32.toNatClampNeg x3)) &&& (31 : Int32)) = 16 then
      (if inb (x3 + (1 : Int32)) L = true then
        if kO h 7 k1 = true then (cI (f_X_count k1 (xs (Int32.toNatClampNeg (x3 + (1 : Int32)))) h) fun x_62 h_61 =>
        if inb (x3 + (1 : Int32)) L = true then
        if kO h_61 8 k2 = true then (cI (f_Y_count k2 (xs (Int32.toNatClampNeg (x3 + (1 : Int32)))) h_61) fun x_64 h_63 =>
        if x_62 = x_64 then
        ((f_L_law_18 L xs k1 k2 (x3 + 4) h_63))
        else
        (rI (0 : Int32) h_63)) else none
        else none) else none
        else none)
      else if ((xs (Int32.toNatClampNeg x3)) &&& (31 : Int32)) = 17 then
      (if inb (x3 + (1 : Int32)) L = true then
        if inb (x3 + (2 : Int32)) L = true then
        if kO h 7 k1 = true then (cI (f_X_least k1 (xs (Int32.toNatClampNeg (x3 + (1 : Int32)))) (xs (Int32.toNatClampNeg (x3 + (2 : Int32)))) h) fun x_66 h_65 =>
        if inb (x3 + (1 : Int32)) L = true then
        if inb (x3 + (2 : Int32)) L = true then
        if kO h_65 8 k2 = true then (cI (f_Y_least k2 (xs (Int32.toNatClampNeg (x3 + (1 : Int32)))) (xs (Int32.toNatClampNeg (x3 + (2 : Int32)))) h_65) fun x_68 h_67 =>
        if x_66 = x_68 then
        ((f_L_law_18 L xs k1 k2 (x3 + 4) h_67))
        else
        (rI (0 : Int32) h_67)) else none
        else none
        else none) else none
        else none
        else none)
      else if ((xs (Int32.toNatClampNeg x3)) &&& (31 : Int32)) = 18 then
      (if inb (x3 + (1 : Int32)) L = true then
        if (xs (Int32.toNatClampNeg (x3 + (1 : Int32)))) = 0 then
        ((f_L_law_636 L xs k1 k2 x3 k1 (0 : Int32) h))
        else
        ((f_L_law_636 L xs k1 k2 x3 k1 (1 : Int32) h))
        else none)
      else if ((xs (Int32.toNatClampNeg x3)) &&& (31 : Int32)) = 19 then
      (if inb (x3 + (1 : Int32)) L = true then
        if kO h 7 k1 = true then (cI (f_X_all k1 (xs (Int32.toNatClampNeg (x3 + (1 : Int32)))) h) fun x_70 h_69 =>
        if inb (x3 + (1 : Int32)) L = true then
        if kO h_69 8 k2 = true then (cI (f_Y_all k2 (xs (Int32.toNatClampNeg (x3 + (1 : Int32)))) h_69) fun x_72 h_71 =>
        if x_70 = x_72 then
        ((f_L_law_18 L xs k1 k2 (x3 + 4) h_71))
        else
        (rI (0 : Int32) h_71)) else none
        else none) else none
        else none)
      else if ((xs (Int32.toNatClampNeg x3)) &&& (31 : Int32)) = 20 then
      (if kO h 7 k1 = true then (cD (f_X_mean k1 h) fun d_74 h_73 =>
        if kO h_73 8 k2 = true then (cD (f_Y_mean k2 h_73) fun d_76 h_75 =>
        if (Op.cmpValue (FP.dcmp d_74 d_76) .l) = 0 then
        ((f_L_law_18 L xs k1 k2 (x3 + 4) h_75))
        else
        (if (Op.cmpValue (FP.dcmp d_74 d_74) .l) = 0 then
          (rI (0 : Int32) h_75)
          else
          (if (Op.cmpValue (FP.dcmp d_76 d_76) .l) = 0 then
            (rI (0 : Int32) h_75)
            else
            ((f_L_law_18 L xs k1 k2 (x3 + 4) h_75))))) else none) else none)
      else if ((xs (Int32.toNatClampNeg x3)) &&& (31 : Int32)) = 21 then
      (if inb (x3 + (1 : Int32)) L = true then
        if kO h 7 k1 = true then (cI (f_X_round k1 (xs (Int32.toNatClampNeg (x3 + (1 : Int32)))) h) fun x_78 h_77 =>
        if inb (x3 + (1 : Int32)) L = true then
        if kO h_77 8 k2 = true then (cI (f_Y_round k2 (xs (Int32.toNatClampNeg (x3 + (1 : Int32)))) h_77) fun x_80 h_79 =>
        if x_78 = x_80 then
        ((f_L_law_18 L xs k1 k2 (x3 + 4) h_79))
        else
        (rI (0 : Int32) h_79)) else none
        else none) else none
        else none)
      else if ((xs (Int32.toNatClampNeg x3)) &&& (31 : Int32)) = 22 then
      (if kO h 7 k1 = true then (cI (f_X_loosen k1 h) fun x_82 h_81 =>
        if kO h_81 8 k2 = true then (cI (f_Y_loosen k2 h_81) fun x_84 h_83 =>
        if x_82 = x_84 then
        ((f_L_law_18 L xs k1 k2 (x3 + 4) h_83))
        else
        (rI (0 : Int32) h_83)) else none) else none)
      else if ((xs (Int32.toNatClampNeg x3)) &&& (31 : Int32)) = 23 then
      (if kO h 7 k1 = true then (cI (f_X_undo k1 h) fun x_86 h_85 =>
        if kO h_85 8 k2 = true then (cI (f_Y_undo k2 h_85) fun x_88 h_87 =>
        if x_86 = x_88 then
        ((f_L_law_18 L xs k1 k2 (x3 + 4) h_87))
        else
        (rI (0 : Int32) h_87)) else none) else none)
      else if ((xs (Int32.toNatClampNeg x3)) &&& (31 : Int32)) = 24 then
      (if kO h 7 k1 = true then (cI (f_X_save k1 h) fun x_90 h_89 =>
        if kO h_89 8 k2 = true then (cI (f_Y_save k2 h_89) fun x_92 h_91 =>
        if x_90 = x_92 then
        ((f_L_law_18 L xs k1 k2 (x3 + 4) h_91))
        else
        (rI (0 : Int32) h_91)) else none) else none)
      else if ((xs (Int32.toNatClampNeg x3)) &&& (31 : Int32)) = 25 then
      (if kO h 7 k1 = true then (cI (f_X_restore k1 h) fun x_94 h_93 =>
        if kO h_93 8 k2 = true then (cI (f_Y_restore k2 h_93) fun x_96 h_95 =>
        if x_94 = x_96 then
        ((f_L_law_18 L xs k1 k2 (x3 + 4) h_95))
        else
        (rI (0 : Int32) h_95)) else none) else none)
      else ((f_L_law_18 L xs k1 k2 (x3 + 4) h))
      else none) := (exq_run (M := M_177) rfl 50 _ _ _ _).symm.trans rfl
set_option maxRecDepth 100000 in
theorem e_L_law_283 (L : Nat) (xs : Nat → Int32) (k1 : Nat) (k2 : Nat) (x3 : Int32) (t0 : Nat) (t1 : Int32) (t2 : Int32) (h : pH) : f_L_law_283 L xs k1 k2 x3 t0 t1 t2 h =
    if kO h 7 t0 = true then (cI (f_X_push t0 t1 t2 h) fun x_2 h_1 =>
    if inb (x3 + (1 : Int32)) L = true then
    if inb (x3 + (2 : Int32)) L = true then
    if (xs (Int32.toNatClampNeg (x3 + (2 : Int32)))) = 0 then
    (if kO h_1 8 k2 = true then (cI (f_Y_push k2 (xs (Int32.toNatClampNeg (x3 + (1 : Int32)))) (0 : Int32) h_1) fun x_4 h_3 =>
      if x_2 = x_4 then
      ((f_L_law_18 L xs k1 k2 (x3 + 4) h_3))
      else
      (rI (0 : Int32) h_3)) else none)
    else
    (if kO h_1 8 k2 = true then (cI (f_Y_push k2 (xs (Int32.toNatClampNeg (x3 + (1 : Int32)))) (1 : Int32) h_1) fun x_6 h_5 =>
      if x_2 = x_6 then
      ((f_L_law_18 L xs k1 k2 (x3 + 4) h_5))
      else
      (rI (0 : Int32) h_5)) else none)
    else none
    else none) else none := (exq_run (M := M_177) rfl 20 _ _ _ _).symm.trans rfl
set_option maxRecDepth 100000 in
theorem e_L_law_636 (L : Nat) (xs : Nat → Int32) (k1 : Nat) (k2 : Nat) (x3 : Int32) (t0 : Nat) (t1 : Int32) (h : pH) : f_L_law_636 L xs k1 k2 x3 t0 t1 h =
    if inb (x3 + (2 : Int32)) L = true then
    if kO h 7 t0 = true then (cI (f_X_plan t0 t1 (xs (Int32.toNatClampNeg (x3 + (2 : Int32)))) h) fun x_2 h_1 =>
    if inb (x3 + (1 : Int32)) L = true then
    if (xs (Int32.toNatClampNeg (x3 + (1 : Int32)))) = 0 then
    ((f_L_law_658 L xs k1 k2 x3 x_2 k2 (0 : Int32) h_1))
    else
    ((f_L_law_658 L xs k1 k2 x3 x_2 k2 (1 : Int32) h_1))
    else none) else none
    else none := (exq_run (M := M_177) rfl 16 _ _ _ _).symm.trans rfl
set_option maxRecDepth 100000 in
theorem e_L_law_658 (L : Nat) (xs : Nat → Int32) (k1 : Nat) (k2 : Nat) (x3 : Int32) (t0 : Int32) (t1 : Nat) (t2 : Int32) (h : pH) : f_L_law_658 L xs k1 k2 x3 t0 t1 t2 h =
    if inb (x3 + (2 : Int32)) L = true then
    if kO h 8 t1 = true then (cI (f_Y_plan t1 t2 (xs (Int32.toNatClampNeg (x3 + (2 : Int32)))) h) fun x_2 h_1 =>
    if t0 = x_2 then
    ((f_L_law_18 L xs k1 k2 (x3 + 4) h_1))
    else
    (rI (0 : Int32) h_1)) else none
    else none := (exq_run (M := M_177) rfl 10 _ _ _ _).symm.trans rfl
