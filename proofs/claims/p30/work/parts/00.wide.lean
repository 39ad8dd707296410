/-! laws of floats are wanted: the whole library is read -/
theorem wd_0 : True := by
  have h := @Jvm.FP.Core.mag_le
  trivial
