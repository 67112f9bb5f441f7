theorem jm_end : True := trivial
