theorem dummy_13 : True := trivial
