-- names a row of the whole library at once, so that a first light round on a new machine doesn't begin narrow
theorem aa_wide : True := by
  have _ := @Stand.multianewarray2F
  trivial
