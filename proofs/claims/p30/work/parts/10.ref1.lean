theorem heap1N {h : Nat → MC} {k N : Nat} {ty : FieldType} {a b : Nat → Nat} (e : ∀ i, a i = b i) : mov [(k, .inl (ty, N, .inl (vI a)))] h = mov [(k, .inl (ty, N, .inl (vI b)))] h := by rw [show a = b from funext e]
theorem heap1 {h : Nat → MC} {k N : Nat} {ty : FieldType} {a b : Nat → Int32} (e : ∀ i, a i = b i) : mov [(k, .inl (ty, N, .inl a))] h = mov [(k, .inl (ty, N, .inl b))] h := by rw [show a = b from funext e]
/-- the reference's own cell; its numbers: 0 length, 1 place, 2 literals, 3 isFound, 4 isModel, 5 roundMany, 6 holding, 7 rounds -/
def RO (w : Nat → Int32) : MC := .inr (10, [.ref 179, .ref 180, .ref 181, .ref 182, .int (w 0), .int (w 1), .ref 183, .int (w 2), .int (w 3), .int (w 4), .ref 184, .ref 185, .ref 186, .ref 187, .ref 188, .int (w 5), .ref 189, .ref 190, .ref 191, .int (w 6), .int (w 7), .ref 192, .ref 193, .ref 194, .ref 195, .ref 196, .ref 197, .ref 198])
def isF (v : Nat → Nat) (p a b : Int32) : Bool := inI p 6 && (inI a (v 0) && (inI b (v 0) && (v (3 + p.toNatClampNeg) == 2 || decide (b = 0))))
def anewV (v : Nat → Nat) (c : Nat) : Nat → Nat := fun j => if 3 ≤ j ∧ j < 9 then 2 else if j = 0 then c else if j < 189 then 0 else v j
