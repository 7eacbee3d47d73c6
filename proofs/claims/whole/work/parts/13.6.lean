noncomputable def f_X_init (k0 : Nat) (h : pH) : pR := run pMs none 7 0 [some (.ref k0)] [] h
noncomputable def f_Y_init (k0 : Nat) (h : pH) : pR := run pMs none 8 0 [some (.ref k0)] [] h
