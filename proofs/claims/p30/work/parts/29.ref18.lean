def okA (v : Nat → Nat) (y : Int32) : Int32 := if (strF v).2.2 = true then y else -6
theorem okA_1 {v : Nat → Nat} {y : Int32} (h : (strF v).2.2 = true) : okA v y = y := if_pos h
theorem okA_0 {v : Nat → Nat} {y : Int32} (h : (strF v).2.2 = false) : okA v y = -6 := if_neg (by rw [h]; decide)
