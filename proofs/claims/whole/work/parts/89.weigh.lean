theorem later_89 : True := trivial
