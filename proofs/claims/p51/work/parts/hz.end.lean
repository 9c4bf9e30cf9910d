theorem hz_end : True := trivial
