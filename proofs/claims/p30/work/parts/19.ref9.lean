/-- the rows of the instances that hold: (how many, rule, head, literals, binding) -/
abbrev HoS : Type := Nat × (Nat → Nat) × (Nat → Nat) × (Nat → Int32) × (Nat → Nat)
def plA (v : Nat → Nat) (r a : Nat) : Bool := decide (a ≤ v (45 + 18 * r + 1)) && decide (v (45 + 18 * r + 2 + 4 * a + 3) = 0)
def liA (v b : Nat → Nat) (r a : Nat) : Int32 := if plA v r a then nI (fA v b r a) else -1
def liU (v b : Nat → Nat) (r c a : Nat) (li : Nat → Int32) : Nat → Int32 := upd li (3 * c + a) (liA v b r (a + 1))
def hoC (v : Nat → Nat) (m : Nat → Int32) (r code : Nat) (S : HoS) : HoS :=
  if bOk v r code && holdsR v (bndU S.2.2.2.2 code) m r then
    (S.1 + 1, updN S.2.1 S.1 r, updN S.2.2.1 S.1 (fA v (bndU S.2.2.2.2 code) r 0), itN (liU v (bndU S.2.2.2.2 code) r S.1) S.2.2.2.1 3, bndU S.2.2.2.2 code)
  else (S.1, S.2.1, S.2.2.1, S.2.2.2.1, bndU S.2.2.2.2 code)
def hoR (v : Nat → Nat) (m : Nat → Int32) (r : Nat) (S : HoS) : HoS := itN (hoC v m r) S 216
def hoF (v : Nat → Nat) (m : Nat → Int32) (S : HoS) : HoS := itN (hoR v m) S (v 2)
theorem hoC_cnt {v : Nat → Nat} {m : Nat → Int32} {r code : Nat} {S : HoS} : (hoC v m r code S).1 ≤ S.1 + 1 := by
  unfold hoC
  split
  · exact Nat.le_refl _
  · exact Nat.le_succ _
theorem hoCs_cnt {v : Nat → Nat} {m : Nat → Int32} {r : Nat} {S : HoS} : ∀ k, (itN (hoC v m r) S k).1 ≤ S.1 + k
  | 0 => Nat.le_refl _
  | k + 1 => Nat.le_trans hoC_cnt (by have := hoCs_cnt (v := v) (m := m) (r := r) (S := S) k; omega)
theorem hoR_cnt {v : Nat → Nat} {m : Nat → Int32} {S : HoS} : ∀ r, (itN (hoR v m) S r).1 ≤ S.1 + 216 * r
  | 0 => Nat.le_refl _
  | r + 1 => Nat.le_trans (hoCs_cnt 216) (by have := hoR_cnt (v := v) (m := m) (S := S) r; omega)
def HH (h : Nat → MC) (w : Nat → Int32) (S : HoS) : Nat → MC := mov [(178, RO (updN w 6 (nI S.1))), (185, .inl (.int, 3, .inl (vI S.2.2.2.2))), (189, .inl (.int, 1728, .inl (vI S.2.1))), (190, .inl (.int, 1728, .inl (vI S.2.2.1))), (191, .inl (.int, 5184, .inl S.2.2.2.1))] h
