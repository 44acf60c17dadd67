theorem zn_a : True := trivial
