theorem cg_last : True := trivial
