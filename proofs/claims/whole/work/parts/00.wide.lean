/-! part 21 rests on a law of the rest of the library: this row names it first, so that the round is read over the whole library from its first part on -/
theorem wd_0 : True := by
  have _h := @Jvm.Stand.multianewarray2F
  exact trivial
