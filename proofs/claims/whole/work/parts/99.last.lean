theorem last_dummy : True := trivial
