theorem later_8e : True := trivial
