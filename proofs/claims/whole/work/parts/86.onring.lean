theorem later_86 : True := trivial
