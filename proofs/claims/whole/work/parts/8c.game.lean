theorem later_8c : True := trivial
