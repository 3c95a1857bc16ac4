theorem x_63 : True := trivial
