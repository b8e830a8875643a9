theorem decl_done : True := trivial
