theorem later_8d : True := trivial
