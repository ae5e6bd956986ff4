/-- the whole library is read from the first part on: rows of 'new T[n][m]' stand over this row of it -/
theorem wide_used : True := by
  have h := @Jvm.Stand.multianewarray2F
  exact True.intro
