theorem zz_t1 : True := trivial
