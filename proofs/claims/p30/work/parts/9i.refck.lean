/-! THE REFERENCE'S CHECKSUM -/
def rkF (ro : Nat → Int32) (ins c : Nat → Nat) (l : Nat → UInt32) (lr : Nat → Int32) (z u : Nat → Nat) (f : Nat) (s : Int64) : Int64 :=
  ckM (ckM (ckM (ckM (ckM (ckM (ckM s (ro f)) (nI (ins f))) (nI (c f))) (l f).toInt32) (leN lr z u f 0)) (leN lr z u f 1)) (leN lr z u f 2)
def rkG (ro : Nat → Int32) (ins c : Nat → Nat) (l : Nat → UInt32) (lr : Nat → Int32) (z u : Nat → Nat) (f : Nat) (s : Int64) : Int64 := if ro f < 0 then s else rkF ro ins c l lr z u f s
def rkV (v : Nat → Nat) (x : RD) : Int64 := itN (rkG (mdl0 v).1 (fun f => insN (hoV v) f (hoV v).1) x.c x.l x.lr x.z x.u) (itN (ckS v) (ckM (ckH v) (nI (mdl0 v).2)) 6) 216
