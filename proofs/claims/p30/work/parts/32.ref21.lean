def mdlX (v : Nat → Nat) (y : Int32) : Nat → Int32 := (mdlV v (strF v).1 y).1
