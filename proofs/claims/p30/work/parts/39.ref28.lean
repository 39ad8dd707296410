def lsAt (L x : Int32) : Bool := decide (nI 88 ≤ x ∧ x ≤ nI 90) && decide ((L >>> ((x - nI 88) &&& 31)) &&& nI 1 = nI 1)
/-- the first place from pl on (at most m further) at which a loose variable stands -/
def scP (t : Nat → Nat) (L : Int32) : Nat → Nat → Nat
  | 0, pl => pl
  | m + 1, pl => if lsAt L (nI (t pl)) = true then pl else scP t L m (pl + 1)
def txL (F : Bool × Nat × PS) : Int32 := looseV F.2.2.2 F.2.1
def rdText (v t : Nat → Nat) (tl : Nat) (td : Nat → Int32) : Bool × Nat × PS :=
  if (rdForm v t tl td).1 = true then (decide (scP t (txL (rdForm v t tl td)) tl 0 = tl), (rdForm v t tl td).2.1, (scP t (txL (rdForm v t tl td)) tl 0, (rdForm v t tl td).2.2.2)) else (false, (rdForm v t tl td).2)
theorem rdLits_k {v t : Nat → Nat} {tl : Nat} : ∀ m k (s : PS), k + m ≤ 3 → (rdLits v t tl m k s).2.1 ≤ 3
  | 0, k, s, h => h
  | m + 1, k, s, h => by
    unfold rdLits
    split
    · split
      · split
        · exact rdLits_k m (k + 1) _ (by omega)
        · show k + 1 ≤ 3
          omega
      · show k + 1 ≤ 3
        omega
    · show k ≤ 3
      omega
theorem rdForm_k {v t : Nat → Nat} {tl : Nat} {td : Nat → Int32} : (rdForm v t tl td).2.1 ≤ 3 := by
  unfold rdForm
  split
  · split
    · exact rdLits_k 3 0 _ (by omega)
    · exact Nat.zero_le _
  · exact Nat.zero_le _
theorem scP_le {t : Nat → Nat} {L : Int32} : ∀ m pl, scP t L m pl ≤ pl + m
  | 0, pl => Nat.le_refl _
  | m + 1, pl => by
    unfold scP
    split
    · omega
    · have := scP_le (t := t) (L := L) m (pl + 1)
      omega
