/-- truths as a row -/
def bIf (b : Nat → Bool) : Nat → Int32 := fun j => bI (b j)
theorem bIf_upd (b : Nat → Bool) (k : Nat) (x : Bool) : upd (bIf b) k (bI x) = bIf (updN b k x) := by
  funext j
  by_cases h : j = k <;> simp [upd, bIf, updN, h]
theorem bI_t : (nI 1 : Int32) = bI true := rfl
theorem bI_f : (nI 0 : Int32) = bI false := rfl
def keepV (v kp : Nat → Nat) (o i : Nat) : Nat → Nat := fun j => if o ≤ j ∧ j < o + i then v (j - o) else kp j
