/-! two laws of the library's rest that part 02 names as fields: said here by their names, so that a round reads the whole library -/
theorem wd_1 : True := (fun _ => trivial) @_root_.Jvm.Stand.outThrough
theorem wd_2 : True := (fun _ => trivial) @_root_.Jvm.Stand.thenCaughtThrough
