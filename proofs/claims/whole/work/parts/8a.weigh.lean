theorem later_8a : True := trivial
