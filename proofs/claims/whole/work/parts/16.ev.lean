/-! STEPS OF METHODS -/
theorem tm_ev_dummy : True := trivial
