/-! the whole library is wanted: the catching of a throw (named in full here, so that a round on a new machine sees it at once) -/
theorem lb_w : True := by
  have _h := @Jvm.Stand.thenCaughtThrough
  trivial
