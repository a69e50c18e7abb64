/-- what the catching of a throw rests on lies in the whole library -/
theorem vx_wide : True := by
  have := @Jvm.Stand.thenCaughtThrough
  trivial
