theorem last_0 : True := trivial
