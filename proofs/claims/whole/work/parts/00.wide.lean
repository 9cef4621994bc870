/-! the printed rows on exceptions (part 14) stand on two rows of the library's rest: named here first, so that a round asks for the whole library at once -/
theorem wide_need : True := (fun _ => trivial) (@Stand.thenCaughtThrough)
theorem wide_need2 : True := (fun _ => trivial) (@Stand.outThrough)
