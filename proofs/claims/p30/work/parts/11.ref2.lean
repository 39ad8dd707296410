def anyN (f : Nat → Bool) : Nat → Bool
  | 0 => false
  | k + 1 => anyN f k || f k
theorem anyN_iff (f : Nat → Bool) : ∀ n, anyN f n = true ↔ ∃ k, k < n ∧ f k = true
  | 0 => by simp [anyN]
  | n + 1 => by
    simp only [anyN, Bool.or_eq_true, anyN_iff f n]
    constructor
    · rintro (⟨k, h1, h2⟩ | h)
      · exact ⟨k, by omega, h2⟩
      · exact ⟨n, by omega, h⟩
    · rintro ⟨k, h1, h2⟩
      by_cases e : k = n
      · subst e; exact Or.inr h2
      · exact Or.inl ⟨k, by omega, h2⟩
/-- what the kept numbers are: sizes, places, base facts, rules -/
def OkN (v : Nat → Nat) : Prop := 1 ≤ v 0 ∧ v 0 ≤ 6 ∧ v 1 ≤ 12 ∧ v 2 ≤ 8 ∧ (∀ p, p < 6 → v (3 + p) = 1 ∨ v (3 + p) = 2) ∧
  (∀ k, k < v 1 → v (9 + 3 * k) < 216 ∧ v (9 + 3 * k + 1) ≤ 99 ∧ 1 ≤ v (9 + 3 * k + 2) ∧ v (9 + 3 * k + 2) ≤ 16) ∧
  (∀ r, r < v 2 → 1 ≤ v (45 + 18 * r) ∧ v (45 + 18 * r) ≤ 9 ∧ 1 ≤ v (45 + 18 * r + 1) ∧ v (45 + 18 * r + 1) ≤ 3 ∧
    ∀ a, a ≤ v (45 + 18 * r + 1) → v (45 + 18 * r + 2 + 4 * a) < 6 ∧ v (45 + 18 * r + 2 + 4 * a + 1) < 9 ∧ v (45 + 18 * r + 2 + 4 * a + 2) < 9 ∧ v (45 + 18 * r + 2 + 4 * a + 3) ≤ 1)
def usedF (v : Nat → Nat) (p : Nat) (k : Nat) : Bool := decide (v (9 + 3 * k) / 36 = p)
def usedA (v : Nat → Nat) (p r a : Nat) : Bool := decide (v (45 + 18 * r + 2 + 4 * a) = p)
def usedR (v : Nat → Nat) (p r : Nat) : Bool := anyN (usedA v p r) (v (45 + 18 * r + 1) + 1)
def isUsedV (v : Nat → Nat) (p : Nat) : Bool := anyN (usedF v p) (v 1) || anyN (usedR v p) (v 2)
def orN (b : Bool) (f : Nat → Bool) : Nat → Bool
  | 0 => b
  | k + 1 => orN b f k || f k
theorem orN_eq (b : Bool) (f : Nat → Bool) : ∀ n, orN b f n = (b || anyN f n)
  | 0 => by simp [orN, anyN]
  | n + 1 => by simp [orN, anyN, orN_eq b f n, Bool.or_assoc]
