/-! NEEDS: the class's single sets are the reference's bits -/
set_option maxRecDepth 100000 in
theorem sm_one : ∀ i, i < 12 → smC.2 i = 2 ^ i := by decide +kernel
theorem kne_eq {v : Nat → Nat} {rw' : Nat → Int64} {E : Int32 → Nat → Bool} (h : KsOk v (hoV v) smC.2 rw') (hE : DerE v (hoV v) E) {f : Nat} (hf : f < 216) : ∀ n, n ≤ 12 → kneV smC.2 rw' f n = ndA E f n
  | 0, _ => rfl
  | n + 1, hn => by
    have e1 : kneV smC.2 rw' f (n + 1) = (if Dv rw' n f = true then kneV smC.2 rw' f n else kneV smC.2 rw' f n ||| nI (smC.2 n)) := rfl
    have e2 : ndA E f (n + 1) = ndA E f n ||| (if E (bitI n) f then nI 0 else bitI n) := rfl
    rw [e1, e2, KsOk_E h hE n (by omega) f hf, sm_one n (by omega), ← bit_nI n (by omega), kne_eq h hE hf n (by omega)]
    by_cases q : E (bitI n) f = true
    · rw [if_pos q, if_pos q]
      exact (Int32.or_zero).symm
    · rw [if_neg q, if_neg q]
