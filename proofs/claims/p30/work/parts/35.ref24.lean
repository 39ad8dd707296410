/-- the character at the reader's place; t text, tl its length -/
def hereV (t : Nat → Nat) (tl pl : Nat) : Int32 := if pl < tl then nI (t pl) else -1
def tkB (t : Nat → Nat) (tl pl c : Nat) : Bool := decide (hereV t tl pl = nI c)
def oneB (b : Bool) : Nat := if b = true then 1 else 0
theorem tkB_lt {t : Nat → Nat} {tl pl c : Nat} (hc : c < 2147483648) (h : tkB t tl pl c = true) : pl < tl := by
  have h := of_decide_eq_true h
  unfold hereV at h
  split at h
  · assumption
  · have := nI_pos' hc
    rw [← h] at this
    exact absurd this (by decide)
def tmV (x : Int32) : Int32 := if x < nI 88 then x - nI 48 else x - nI 88 + nI 6
def tmB (v : Nat → Nat) (x : Int32) : Bool := inI (x - nI 48) (v 0) || decide (nI 88 ≤ x ∧ x ≤ nI 90)
