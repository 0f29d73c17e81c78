theorem later_85 : True := trivial
