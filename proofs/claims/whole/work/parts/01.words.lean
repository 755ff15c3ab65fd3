theorem zz_begin : True := trivial
