theorem later_88 : True := trivial
