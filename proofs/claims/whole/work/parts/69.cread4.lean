/-! nothing -/
theorem zz_69 : True := trivial
