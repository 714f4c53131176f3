theorem z_dummy : True := trivial
