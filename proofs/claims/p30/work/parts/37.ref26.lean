def rdLit (v t : Nat → Nat) (tl a : Nat) (s : PS) : Bool × PS := rdAtom v t tl a ((rdTake t tl 33 s).2.1, upd (rdTake t tl 33 s).2.2 (4 * a + 3) (bI (rdTake t tl 33 s).1))
/-- literals from the (k + 1)st on, at most m: (well formed, how many there are, where the reader stands) -/
def rdLits (v t : Nat → Nat) (tl : Nat) : Nat → Nat → PS → Bool × Nat × PS
  | 0, k, s => (true, k, s)
  | m + 1, k, s => if (rdLit v t tl (k + 1) s).1 = true then (if k + 1 < 3 then (if (rdTake t tl 44 (rdLit v t tl (k + 1) s).2).1 = true then rdLits v t tl m (k + 1) (rdTake t tl 44 (rdLit v t tl (k + 1) s).2).2 else (true, k + 1, (rdTake t tl 44 (rdLit v t tl (k + 1) s).2).2)) else (true, k + 1, (rdLit v t tl (k + 1) s).2)) else (false, k, (rdLit v t tl (k + 1) s).2)
def rdForm (v t : Nat → Nat) (tl : Nat) (td : Nat → Int32) : Bool × Nat × PS :=
  if (rdAtom v t tl 0 (0, upd td 3 (nI 0))).1 = true then
    (if (rdTake t tl 60 (rdAtom v t tl 0 (0, upd td 3 (nI 0))).2).1 = true then
      ((rdLits v t tl 3 0 (rdTake t tl 60 (rdAtom v t tl 0 (0, upd td 3 (nI 0))).2).2).1 && decide ((rdLits v t tl 3 0 (rdTake t tl 60 (rdAtom v t tl 0 (0, upd td 3 (nI 0))).2).2).2.2.1 = tl), (rdLits v t tl 3 0 (rdTake t tl 60 (rdAtom v t tl 0 (0, upd td 3 (nI 0))).2).2).2)
    else (false, 0, (rdTake t tl 60 (rdAtom v t tl 0 (0, upd td 3 (nI 0))).2).2))
  else (false, 0, (rdAtom v t tl 0 (0, upd td 3 (nI 0))).2)
theorem andP_le {a b : PS → Bool × PS} {tl : Nat} (ha : ∀ s, s.1 ≤ tl → (a s).2.1 ≤ tl) (hb : ∀ s, s.1 ≤ tl → (b s).2.1 ≤ tl) : ∀ s, s.1 ≤ tl → (andP a b s).2.1 ≤ tl := by
  intro s hs
  unfold andP
  split
  · exact hb _ (ha s hs)
  · exact ha s hs
theorem rdAtom_le {v t : Nat → Nat} {tl i : Nat} (h6 : v 0 ≤ 6) {s : PS} (h : s.1 ≤ tl) : (rdAtom v t tl i s).2.1 ≤ tl := by
  unfold rdAtom
  split
  · rename_i hin
    have hlt : s.1 < tl := hereV_lt (fun e2 => by rw [e2] at hin; exact absurd hin (by decide))
    refine andP_le (fun s hs => rdTake_le (by omega) hs) (andP_le (fun s hs => rdTerm_le h6 hs) ?_) _ hlt
    split
    · exact andP_le (fun s hs => rdTake_le (by omega) hs) (andP_le (fun s hs => rdTerm_le h6 hs) (fun s hs => rdTake_le (by omega) hs))
    · exact fun s hs => rdTake_le (by omega) hs
  · exact h
theorem updN_3 {α : Type} (w : Nat → α) (a b c : α) : updN (updN (updN w 2 a) 1 b) 2 c = updN (updN w 2 c) 1 b := by
  funext j
  unfold updN
  by_cases h2 : j = 2
  · subst h2; rfl
  · simp only [if_neg h2]
theorem updN_sw {α : Type} (w : Nat → α) (a b : α) : updN (updN w 1 a) 2 b = updN (updN w 2 b) 1 a := by
  funext j
  unfold updN
  by_cases h2 : j = 2
  · subst h2; rfl
  · simp only [if_neg h2]
abbrev ty (w : Nat → Int32) (k : Nat) (s : PS) : MLs := tx (updN w 2 (nI k)) s
