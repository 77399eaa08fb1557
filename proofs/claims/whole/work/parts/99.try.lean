theorem xx_try : True := trivial
