theorem rf_dummy : True := trivial
