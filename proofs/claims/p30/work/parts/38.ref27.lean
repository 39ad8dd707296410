def lsB (x : Int32) : Int32 := if x ≤ nI 5 then nI 0 else nI 1 <<< ((x - nI 6) &&& 31)
def lsT (td : Nat → Int32) (r j : Nat) (p : Int32 × Int32) : Int32 × Int32 := (p.1 ||| lsB (td (4 * r + (j + 1))), p.2 ||| (if r ≠ 0 ∧ td (4 * r + 3) = 0 then lsB (td (4 * r + (j + 1))) else nI 0))
def lsW (td : Nat → Int32) (r : Nat) (p : Int32 × Int32) : Int32 × Int32 := itN (lsT td r) p 2
def looseV (td : Nat → Int32) (k : Nat) : Int32 := (itN (lsW td) (nI 0, nI 0) (k + 1)).1 &&& ((itN (lsW td) (nI 0, nI 0) (k + 1)).2 ^^^ -1)
