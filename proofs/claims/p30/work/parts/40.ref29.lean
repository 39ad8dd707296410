def toN (x : Int32) : Nat := x.toBitVec.toNat
theorem nI_toN (x : Int32) : nI (toN x) = x := by
  apply Int32.toBitVec_inj.mp
  show BitVec.ofNat 32 x.toBitVec.toNat = x.toBitVec
  exact BitVec.ofNat_toNat 32 x.toBitVec ▸ by simp
def adU (r : Nat) (td : Nat → Int32) (i : Nat) (V : Nat → Nat) : Nat → Nat := updN V (45 + 18 * r + 2 + 4 * 0 + i) (toN (td i))
/-- the state behind a rule that was added -/
def addRuleV (v : Nat → Nat) (p k : Nat) (td : Nat → Int32) : Nat → Nat := updN (itN (adU (v 2) td) (updN (updN v (45 + 18 * v 2) p) (45 + 18 * v 2 + 1) k) 16) 2 (v 2 + 1)
abbrev tz (w : Nat → Int32) (k : Nat) (s : PS) (V : Nat → Nat) : MLs := [(183, .inl (.int, 16, .inl s.2)), (178, RO (updN (updN w 2 (nI k)) 1 (nI s.1))), (179, .inl (.int, 189, .inl (vI V)))]
def adA (v : Nat → Nat) (F : Bool × Nat × PS) : Int32 := if F.1 = true then (if v 2 = 8 then -4 else nI (v 2)) else -3
def adL (w : Nat → Int32) (v : Nat → Nat) (p : Nat) (F : Bool × Nat × PS) : MLs := if F.1 = true ∧ v 2 ≠ 8 then [(183, .inl (.int, 16, .inl F.2.2.2)), (178, RO (updN (updN (updN w 2 (nI F.2.1)) 1 (nI F.2.2.1)) 3 0)), (179, .inl (.int, 189, .inl (vI (addRuleV v p F.2.1 F.2.2.2))))] else ty w F.2.1 F.2.2
