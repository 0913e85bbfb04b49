/-! a name of the library's far part, so that the first round reads it at once -/
def wd_0 : True := have _ := @Jvm.Free.Multi.fill_facts; trivial
