def litB (f : Nat → Bool) (x : Int32) : Bool := if x < 0 then true else f x.toNatClampNeg
/-- all literals of an instance are so -/
def allL (S : HoS) (f : Nat → Bool) (i : Nat) : Bool := andN (fun a => litB f (S.2.2.2.1 (3 * i + a))) 3
def litM (c : Nat → Nat) (x : Int32) : Nat := if x < 0 then 0 else c x.toNatClampNeg
def szS (S : HoS) (z : Nat → Nat) (i a : Nat) : Nat := itN (fun a s => s + litN z (S.2.2.2.1 (3 * i + a))) 1 a
def usS (S : HoS) (u : Nat → Nat) (i a : Nat) : Nat := itN (fun a s => s ||| litN u (S.2.2.2.1 (3 * i + a))) 0 a
def leN (lr : Nat → Int32) (z u : Nat → Nat) (f : Nat) (what : Nat) : Int32 := if lr f < 0 then -5 else if what = 0 then lr f else if what = 1 then nI (z f) else nI (u f)
