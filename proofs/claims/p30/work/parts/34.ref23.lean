/-- the first that is there among P 0 .. P (n - 1) -/
def upTo {α : Type} (P : Nat → Option α) : Nat → Option α
  | 0 => none
  | k + 1 => (upTo P k).or (P k)
theorem upTo_miss {α : Type} {P : Nat → Option α} {k : Nat} (h0 : upTo P k = none) (h1 : P k = none) : upTo P (k + 1) = none := by
  show (upTo P k).or (P k) = none
  rw [h0, h1]
  rfl
theorem upTo_hit {α : Type} {P : Nat → Option α} {k : Nat} {c : α} (h0 : upTo P k = none) (h1 : P k = some c) : ∀ {N : Nat}, k < N → upTo P N = some c
  | 0, h => absurd h (Nat.not_lt_zero _)
  | N + 1, h => by
    show (upTo P N).or (P N) = some c
    by_cases e : k = N
    · subst e
      rw [h0, h1]
      rfl
    · rw [upTo_hit h0 h1 (show k < N by omega)]
      rfl
theorem upTo_none {α : Type} {P : Nat → Option α} : ∀ {N : Nat}, (∀ k, k < N → P k = none) → upTo P N = none
  | 0, _ => rfl
  | N + 1, h => upTo_miss (upTo_none (fun k hk => h k (by omega))) (h N (by omega))
def cutA (E : Int32 → Nat → Bool) (g i : Nat) : Option Int32 := if E (bitI i) g = true then none else some (bitI i)
def cutB (E : Int32 → Nat → Bool) (g i j : Nat) : Option Int32 := if i < j ∧ E (bitI i ||| bitI j) g = false then some (bitI i ||| bitI j) else none
def cutC (E : Int32 → Nat → Bool) (g n t : Nat) : Option Int32 := if t / n / n < t / n % n ∧ t / n % n < t % n ∧ E (bitI (t / n / n) ||| bitI (t / n % n) ||| bitI (t % n)) g = false then some (bitI (t / n / n) ||| bitI (t / n % n) ||| bitI (t % n)) else none
def cutV (E : Int32 → Nat → Bool) (g n : Nat) : Int32 := ((upTo (cutA E g) n).or ((upTo (fun i => upTo (cutB E g i) n) n).or (upTo (cutC E g n) (n * n * n)))).getD (-5)
theorem cutV_a {E : Int32 → Nat → Bool} {g n : Nat} {c : Int32} (h : upTo (cutA E g) n = some c) : cutV E g n = c := by
  unfold cutV
  rw [h]
  rfl
theorem cutV_b {E : Int32 → Nat → Bool} {g n : Nat} {c : Int32} (h0 : upTo (cutA E g) n = none) (h : upTo (fun i => upTo (cutB E g i) n) n = some c) : cutV E g n = c := by
  unfold cutV
  rw [h0, h]
  rfl
theorem cutV_c {E : Int32 → Nat → Bool} {g n : Nat} {c : Int32} (h0 : upTo (cutA E g) n = none) (h1 : upTo (fun i => upTo (cutB E g i) n) n = none) (h : upTo (cutC E g n) (n * n * n) = some c) : cutV E g n = c := by
  unfold cutV
  rw [h0, h1, h]
  rfl
theorem cutV_d {E : Int32 → Nat → Bool} {g n : Nat} (h0 : upTo (cutA E g) n = none) (h1 : upTo (fun i => upTo (cutB E g i) n) n = none) (h : upTo (cutC E g n) (n * n * n) = none) : cutV E g n = -5 := by
  unfold cutV
  rw [h0, h1, h]
  rfl
