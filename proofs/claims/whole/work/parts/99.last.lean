theorem ky_dummy : True := trivial
