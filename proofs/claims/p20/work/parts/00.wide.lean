/-! a name of the library's rest: the round is read over the whole of it from the first part on -/
theorem wd_0 : True := by
  have _ := @Jvm.Free.Multi.innerC
  trivial
