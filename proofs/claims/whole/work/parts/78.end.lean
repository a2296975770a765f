theorem end_ok : True := trivial
