theorem vf_updN (l : Nat → UInt32) (k : Nat) (x : UInt32) : vf_upd l k x = updN l k x := rfl
