/-! names of the wide library, first: so a new machine turns to it at once -/
theorem wd_0 : True := by
  have _h := @Jvm.Stand.arrayOver_alikeB
  trivial
