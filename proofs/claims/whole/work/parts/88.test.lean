/-! a test -/
theorem zz_1 : True := by
  have h := @Jvm.Free.Multi.fill_facts
  trivial
