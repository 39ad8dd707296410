theorem FndM.sok {v : Nat → Nat} {w : Nat → Int32} {x : RD} {S : HoS} (hok : OkN v) (h : FndM v w x S) : HoOk v S := by
  obtain ⟨-, -, ⟨ru0, hd0, b0, li0, e⟩, -⟩ := h
  rw [e]
  exact hoF_ok hok _ _ _ _
theorem FndM.sat {v : Nat → Nat} {w : Nat → Int32} {x : RD} {S : HoS} (hS : FndM v w x S) (w' : Nat → Int32) (x' : RD) (h : Nat → MC) (e1 : x'.ru = x.ru) (e2 : x'.hd = x.hd) (e3 : x'.li = x.li) : HoAt (mov (rcL w' x') h) S := by
  obtain ⟨-, -, -, -, h1, h2, h3, -⟩ := hS
  refine ⟨?_, ?_, ?_⟩
  · show (.inl (.int, 1728, .inl (vI x'.ru)) : MC) = _
    rw [e1, h1]
  · show (.inl (.int, 1728, .inl (vI x'.hd)) : MC) = _
    rw [e2, h2]
  · show (.inl (.int, 5184, .inl x'.li) : MC) = _
    rw [e3, h3]
theorem FndM.n {v : Nat → Nat} {w : Nat → Int32} {x : RD} {S : HoS} (h : FndM v w x S) : w 6 = nI S.1 := h.2.2.2.1
def inA (v : Nat → Nat) (p a b : Int32) (w' : Nat → Int32) (x' : RD) (r : Option Value) : Prop := (isF v p a b = true → Fnd v w' x') ∧ (wrV v p a b = -5 → r = some (.int 0)) ∧ (wrV v p a b < 0 → wrV v p a b ≠ -5 → r = some (.int (wrV v p a b))) ∧ (0 ≤ wrV v p a b → ∃ S, FndM v w' x' S ∧ r = some (.int (nI (insN S (fctN p a b) S.1))))
def lqA (v : Nat → Nat) (x : RD) (p a b what : Int32) : Int32 := if wrV v p a b = -1 then -1 else if inI what 3 = false then -2 else wA v p a b (leN x.lr x.z x.u (fctN p a b) what.toNatClampNeg)
