/-! the library's laws of multianewarray stand outside its short part: named here first, so that a round on a new machine turns to the whole of it at once -/
theorem wd_use (s : State) (c comp : ClassId) (N M : Nat) (dv : Value) : (Jvm.Free.Multi.fill s c comp N M dv 0).vm = s.vm := (Jvm.Free.Multi.fill_facts s c comp N M dv 0).2.2.1
