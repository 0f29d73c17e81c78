theorem later_8b : True := trivial
