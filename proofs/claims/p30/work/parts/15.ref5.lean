theorem sh_amt : ∀ x, x < 31 → ((nI x &&& 31).toBitVec.smod 32).toNat = x := by decide +kernel
theorem shlN {a k : Nat} (hk : k < 31) (h : a * 2 ^ k < 2 ^ 32) : nI a <<< (nI k &&& 31) = nI (a * 2 ^ k) := pk_shlN _ k (sh_amt k hk) h
theorem bitN {U x : Nat} (hU : U < 2147483648) (hx : x < 31) : (nI U >>> (nI x &&& 31)) &&& nI 1 = nI (U / 2 ^ x % 2) := by
  rw [pk_shrN (by omega) _ x (sh_amt x hx)]
  have h1 : U / 2 ^ x ≤ U := Nat.div_le_self _ _
  exact pk_andN (by omega) 1 rfl
def orM (f : Nat → Nat) : Nat → Nat
  | 0 => 0
  | k + 1 => orM f k ||| f k
def tb (t : Nat) : Nat := if 5 < t then 2 ^ (t - 6) else 0
def rowB (v : Nat → Nat) (r a : Nat) : Nat := tb (v (45 + 18 * r + 2 + 4 * a + 1)) ||| tb (v (45 + 18 * r + 2 + 4 * a + 2))
theorem tb_lt {t : Nat} (h : t < 9) : tb t < 8 := by
  unfold tb
  split
  · rcases (show t = 6 ∨ t = 7 ∨ t = 8 by omega) with rfl | rfl | rfl <;> decide
  · decide
theorem orM_lt {f : Nat → Nat} : ∀ n, (∀ k, k < n → f k < 8) → orM f n < 8
  | 0, _ => by show 0 < 8; omega
  | n + 1, h => Nat.or_lt_two_pow (n := 3) (orM_lt n (fun k hk => h k (by omega))) (h n (by omega))
/-- which variables a rule has, as bits -/
def varB (v : Nat → Nat) (r : Nat) : Nat := orM (rowB v r) (v (45 + 18 * r + 1) + 1)
def bndU (b : Nat → Nat) (code : Nat) : Nat → Nat := updN (updN (updN b 0 (code / 36)) 1 (code / 6 % 6)) 2 (code % 6)
def bLim (v : Nat → Nat) (r x : Nat) : Nat := if varB v r / 2 ^ x % 2 = 1 then v 0 else 1
def bOk (v : Nat → Nat) (r code : Nat) : Bool := andN (fun x => decide (bndU (fun _ => 0) code x < bLim v r x)) 3
theorem bndU_at (b : Nat → Nat) (code : Nat) {x : Nat} (hx : x < 3) : bndU b code x = bndU (fun _ => 0) code x := by
  rcases (show x = 0 ∨ x = 1 ∨ x = 2 by omega) with rfl | rfl | rfl <;> rfl
theorem bndU_lt (b : Nat → Nat) {code : Nat} (hc : code < 216) {x : Nat} (hx : x < 3) : bndU b code x < 6 := by
  rcases (show x = 0 ∨ x = 1 ∨ x = 2 by omega) with rfl | rfl | rfl
  · show code / 36 < 6; omega
  · show code / 6 % 6 < 6; omega
  · show code % 6 < 6; omega
/-- how many of the facts lo .. lo + k - 1 are in a model -/
def cntM (m : Nat → Int32) (lo : Nat) : Nat → Nat
  | 0 => 0
  | k + 1 => cntM m lo k + (if m (lo + k) < 0 then 0 else 1)
