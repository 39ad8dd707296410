/-! LIKELIHOODS of the model's facts are known -/
theorem lkI_flag {S : HoS} {l : Nat → UInt32} : ∀ n, (itN (lkI S) (l, false) n).2 = false → itN (lkI S) (l, false) n = (l, false) ∧ ∀ i, i < n → ¬ lkE (l (S.2.2.1 i)) < lkE (lkB S l i)
  | 0, _ => ⟨rfl, fun i hi => absurd hi (Nat.not_lt_zero i)⟩
  | n + 1, h => by
    have e1 : itN (lkI S) (l, false) (n + 1) = lkI S n (itN (lkI S) (l, false) n) := rfl
    rw [e1] at h ⊢
    have h0 : (itN (lkI S) (l, false) n).2 = false := by
      unfold lkI at h
      split at h
      · cases h
      · exact h
    obtain ⟨i1, i2⟩ := lkI_flag n h0
    rw [i1] at h ⊢
    unfold lkI at h ⊢
    by_cases q : lkE (l (S.2.2.1 n)) < lkE (lkB S l n)
    · rw [if_pos q] at h
      cases h
    · rw [if_neg q]
      refine ⟨rfl, fun i hi => ?_⟩
      by_cases e : i = n
      · rw [e]; exact q
      · exact i2 i (by omega)
theorem lkI_up {S : HoS} {i : Nat} {p : (Nat → UInt32) × Bool} (f : Nat) : lkE (p.1 f) ≤ lkE ((lkI S i p).1 f) := by
  unfold lkI
  split
  · rename_i q
    show lkE (p.1 f) ≤ lkE (updN p.1 (S.2.2.1 i) (lkB S p.1 i) f)
    by_cases e : f = S.2.2.1 i
    · rw [e, updN_same]
      exact Nat.le_of_lt q
    · rw [updN_ne _ _ e]
      exact Nat.le_refl _
  · exact Nat.le_refl _
theorem lkP_up {S : HoS} {l : Nat → UInt32} (f : Nat) : ∀ n, lkE (l f) ≤ lkE ((itN (lkI S) (l, false) n).1 f)
  | 0 => Nat.le_refl _
  | n + 1 => Nat.le_trans (lkP_up f n) (lkI_up f)
theorem lkL_up {S : HoS} {l F : Nat → UInt32} (h : IsLim (fun l => (lkP S l).1) l F) (f : Nat) : lkE (l f) ≤ lkE (F f) := by
  obtain ⟨k, rfl, -⟩ := h
  have up : ∀ k, lkE (l f) ≤ lkE (itN (fun _ => fun l => (lkP S l).1) l k f) := by
    intro k
    induction k with
    | zero => exact Nat.le_refl _
    | succ k ih => exact Nat.le_trans ih (lkP_up f S.1)
  exact up k
