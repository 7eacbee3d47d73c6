noncomputable def f_X_init (k0 : Nat) (h : pH) : pR := run pMs none 7 0 [some (.ref k0)] [] h
