/-! scratch -/
theorem tm_zz : True := trivial
