theorem bIf_updt (b : Nat → Bool) (k : Nat) : upd (bIf b) k (nI 1) = bIf (updN b k true) := bIf_upd b k true
theorem bIf_updf (b : Nat → Bool) (k : Nat) : upd (bIf b) k (nI 0) = bIf (updN b k false) := bIf_upd b k false
/-- a round of a stratum: what goes through all instances: (new facts, binding) -/
def goC (v : Nat → Nat) (m : Nat → Int32) (r code : Nat) (p : (Nat → Bool) × (Nat → Nat)) : (Nat → Bool) × (Nat → Nat) :=
  (if bOk v r code && holdsR v (bndU p.2 code) m r then updN p.1 (fA v (bndU p.2 code) r 0) (decide (m (fA v (bndU p.2 code) r 0) < 0)) else p.1, bndU p.2 code)
def goR (v st : Nat → Nat) (m : Nat → Int32) (s r : Nat) (p : (Nat → Bool) × (Nat → Nat)) : (Nat → Bool) × (Nat → Nat) :=
  if st (v (45 + 18 * r + 2 + 4 * 0)) = s then itN (goC v m r) p 216 else p
def clrB (nb : Nat → Bool) (i : Nat) : Nat → Bool := fun j => if j < i then false else nb j
def goA (v st : Nat → Nat) (m : Nat → Int32) (s : Nat) (nb : Nat → Bool) (b : Nat → Nat) : (Nat → Bool) × (Nat → Nat) := itN (goR v st m s) (clrB nb 216, b) (v 2)
def cntB (f : Nat → Bool) : Nat → Nat
  | 0 => 0
  | k + 1 => cntB f k + (if f k then 1 else 0)
theorem cntB_le (f : Nat → Bool) : ∀ k, cntB f k ≤ k
  | 0 => Nat.le_refl _
  | k + 1 => by
    have := cntB_le f k
    simp only [cntB]
    split <;> omega
def goM (nw : Nat → Bool) (m : Nat → Int32) (k i : Nat) : Nat → Int32 := fun f => if f < i then (if nw f then nI k else m f) else m f
def HGA (h : Nat → MC) (p : (Nat → Bool) × (Nat → Nat)) (m : Nat → Int32) : Nat → MC := mov [(185, .inl (.int, 3, .inl (vI p.2))), (186, .inl (.int, 216, .inl m)), (188, .inl (.boolean, 216, .inl (bIf p.1)))] h
def HGB (h : Nat → MC) (p : (Nat → Bool) × (Nat → Nat)) (m : Nat → Int32) : Nat → MC := mov [(185, .inl (.int, 3, .inl (vI p.2))), (187, .inl (.int, 216, .inl m)), (188, .inl (.boolean, 216, .inl (bIf p.1)))] h
