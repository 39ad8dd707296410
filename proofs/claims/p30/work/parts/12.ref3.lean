def addFactV (v : Nat → Nat) (f c s : Nat) : Nat → Nat := fun j => if j = 1 then v 1 + 1 else if j = 9 + 3 * v 1 then f else if j = 9 + 3 * v 1 + 1 then c else if j = 9 + 3 * v 1 + 2 then s else v j
/-- one is taken out: those behind it move up by k places -/
def shV (v : Nat → Nat) (k lo hi : Nat) : Nat → Nat := fun j => if lo ≤ j ∧ j < hi then v (j + k) else v j
