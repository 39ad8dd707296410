def wA (v : Nat → Nat) (p a b : Int32) (y : Int32) : Int32 := if wrV v p a b < 0 then wrV v p a b else y
theorem wrV_cases (v : Nat → Nat) (p a b : Int32) : wrV v p a b < 0 ∨ (wrV v p a b = 0 ∧ isF v p a b = true ∧ (strF v).2.2 = true ∧ ¬ (mdl0 v).1 (fctN p a b) < 0) := by
  unfold wrV
  cases h1 : isF v p a b
  · rw [if_pos rfl]; exact Or.inl (by decide)
  · rw [if_neg (by decide)]
    cases h2 : (strF v).2.2
    · rw [if_pos rfl]; exact Or.inl (by decide)
    · rw [if_neg (by decide)]
      by_cases h3 : (mdl0 v).1 (fctN p a b) < 0
      · rw [if_pos h3]; exact Or.inl (by decide)
      · rw [if_neg h3]; exact Or.inr ⟨rfl, rfl, rfl, h3⟩
theorem wA_lt {v : Nat → Nat} {p a b y : Int32} (h : wrV v p a b < 0) : wA v p a b y = wrV v p a b := if_pos h
theorem wA_ge {v : Nat → Nat} {p a b y : Int32} (h : 0 ≤ wrV v p a b) : wA v p a b y = y := if_neg (Int32.not_lt.mpr h)
theorem wrV_ok {v : Nat → Nat} {p a b : Int32} (h : 0 ≤ wrV v p a b) : wrV v p a b = 0 ∧ isF v p a b = true ∧ (strF v).2.2 = true ∧ ¬ (mdl0 v).1 (fctN p a b) < 0 := (wrV_cases v p a b).resolve_left (Int32.not_lt.mpr h)
