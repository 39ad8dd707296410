/-- where the reader stands: (place, told) -/
abbrev PS : Type := Nat × (Nat → Int32)
def rdTake (t : Nat → Nat) (tl c : Nat) (s : PS) : Bool × PS := (tkB t tl s.1 c, s.1 + oneB (tkB t tl s.1 c), s.2)
def rdTerm (v t : Nat → Nat) (tl k : Nat) (s : PS) : Bool × PS := (tmB v (hereV t tl s.1), s.1 + oneB (tmB v (hereV t tl s.1)), upd s.2 k (tmV (hereV t tl s.1)))
def andP (a b : PS → Bool × PS) : PS → Bool × PS := fun s => if (a s).1 = true then b (a s).2 else (false, (a s).2)
def rdAtom (v t : Nat → Nat) (tl i : Nat) (s : PS) : Bool × PS :=
  if inI (hereV t tl s.1 - nI 112) 6 = true then
    andP (rdTake t tl 40) (andP (rdTerm v t tl (4 * i + 1)) (if v (3 + (hereV t tl s.1 - nI 112).toNatClampNeg) = 2 then andP (rdTake t tl 44) (andP (rdTerm v t tl (4 * i + 2)) (rdTake t tl 41)) else rdTake t tl 41)) (s.1 + 1, upd (upd s.2 (4 * i) (hereV t tl s.1 - nI 112)) (4 * i + 2) (nI 0))
  else (false, s)
abbrev tx (w : Nat → Int32) (s : PS) : MLs := [(183, .inl (.int, 16, .inl s.2)), (178, RO (updN w 1 (nI s.1)))]
theorem updN_2 {α : Type} (w : Nat → α) (k : Nat) (a b : α) : updN (updN w k a) k b = updN w k b := by
  funext j
  unfold updN
  split <;> rfl
theorem andP_1 {a b : PS → Bool × PS} {s : PS} (h : (a s).1 = true) : andP a b s = b (a s).2 := if_pos h
theorem andP_0 {a b : PS → Bool × PS} {s : PS} (h : (a s).1 = false) : andP a b s = (false, (a s).2) := if_neg (by rw [h]; decide)
theorem rdTake_le {t : Nat → Nat} {tl c : Nat} (hc : c < 2147483648) {s : PS} (h : s.1 ≤ tl) : (rdTake t tl c s).2.1 ≤ tl := by
  show s.1 + oneB (tkB t tl s.1 c) ≤ tl
  cases q : tkB t tl s.1 c
  · exact h
  · have := tkB_lt hc q
    exact this
theorem hereV_lt {t : Nat → Nat} {tl pl : Nat} (h : hereV t tl pl ≠ -1) : pl < tl := by
  unfold hereV at h
  split at h
  · assumption
  · exact absurd rfl h
theorem rdTerm_le {v t : Nat → Nat} {tl k : Nat} (h6 : v 0 ≤ 6) {s : PS} (h : s.1 ≤ tl) : (rdTerm v t tl k s).2.1 ≤ tl := by
  show s.1 + oneB (tmB v (hereV t tl s.1)) ≤ tl
  cases q : tmB v (hereV t tl s.1)
  · exact h
  · have : s.1 < tl := hereV_lt (fun e => by
      rw [e] at q
      unfold tmB inI at q
      rw [Bool.or_eq_true] at q
      rcases q with q | q
      · exact absurd (of_decide_eq_true q).1 (by decide)
      · exact absurd (of_decide_eq_true q).1 (by decide))
    exact this
