theorem later_87 : True := trivial
