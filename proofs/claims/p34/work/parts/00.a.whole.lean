theorem wd_whole : True := by
  have _h := @Jvm.Stand.multianewarray2F
  trivial
