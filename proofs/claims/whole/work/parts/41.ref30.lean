theorem c_more (d n : Nat) (x : Int64) (y : Int32) (h : Nat → MC) : Fn M_X10_more d 0 0 [.long x, .int y] h n (some (.long (31 * x + y.toInt64))) h := by
  refine Fn.of fun post hp => ?_
  refine mw_ldc2 rfl c_X10_233 ?_
  refine mw_lload_n (i := 0) rfl rfl rfl ?_
  refine mw_lmul rfl ?_
  refine mw_iload_n (i := 2) rfl rfl rfl ?_
  refine mw_i2l rfl ?_
  refine mw_ladd rfl ?_
  exact mw_lreturn rfl rfl rfl (Nat.le_refl _) (hp)
