theorem q_nothing : True := trivial
