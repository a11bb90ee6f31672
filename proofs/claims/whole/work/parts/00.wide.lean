section
/-! a name of the whole library, met in the first part -/
theorem lw_wide : True := by
  have _ := @Stand.thenCaughtThrough
  exact True.intro
end
