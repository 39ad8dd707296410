theorem mov_idem (l : MLs) (h : Nat → MC) : mov l (mov l h) = mov l h := by
  funext j
  simp only [mov]
  cases mlk l j <;> rfl
theorem RAt.of (w : Nat → Int32) (x : RD) (h : Nat → MC) : RAt (mov (rcL w x) h) w x := mov_idem _ _
theorem rc_over (w w' : Nat → Int32) (x x' : RD) (h : Nat → MC) : mov (rcL w' x') (mov (rcL w x) h) = mov (rcL w' x') h := (mov_puts (rcL w x) h (rcL w' x')).symm
def fctN (p a b : Int32) : Nat := 36 * p.toNatClampNeg + 6 * a.toNatClampNeg + b.toNatClampNeg
def mdl0 (v : Nat → Nat) : (Nat → Int32) × Nat := mdlV v (strF v).1 (nI 0)
def wrV (v : Nat → Nat) (p a b : Int32) : Int32 := if isF v p a b = false then -1 else if (strF v).2.2 = false then -6 else if (mdl0 v).1 (fctN p a b) < 0 then -5 else 0
theorem isF_nat {v : Nat → Nat} (hok : OkN v) {p a b : Int32} (h : isF v p a b = true) : ∃ i j k, i < 6 ∧ j < v 0 ∧ k < v 0 ∧ p = nI i ∧ a = nI j ∧ b = nI k ∧ fctN p a b = 36 * i + 6 * j + k ∧ 36 * i + 6 * j + k < 216 := by
  obtain ⟨h1, h6, -⟩ := hok
  unfold isF at h
  rw [Bool.and_eq_true, Bool.and_eq_true, Bool.and_eq_true] at h
  obtain ⟨i, hi, rfl⟩ := inI_of h.1 (by omega)
  obtain ⟨j, hj, rfl⟩ := inI_of h.2.1 (by omega)
  obtain ⟨k, hk, rfl⟩ := inI_of h.2.2.1 (by omega)
  refine ⟨i, j, k, hi, hj, hk, rfl, rfl, rfl, ?_, by omega⟩
  unfold fctN
  rw [nI_clamp (by omega), nI_clamp (by omega), nI_clamp (by omega)]
/-- behind a question: the rows again, and what was answered -/
def QR (v : Nat → Nat) (w : Nat → Int32) (h : Nat → MC) (A : (Nat → Int32) → RD → Option Value → Prop) : Option Value → (Nat → MC) → Prop := fun r h1 => ∃ (w' : Nat → Int32) (x' : RD), h1 = mov (rcL w' x') h ∧ SameT w w' ∧ FndI v w' x' ∧ A w' x' r
theorem Fnd.m {v : Nat → Nat} {w : Nat → Int32} {x : RD} (h : Fnd v w x) (ho : (strF v).2.2 = true) : x.m = (mdl0 v).1 ∧ w 7 = nI (mdl0 v).2 := by
  obtain ⟨S, h1, h2, -⟩ := h.2.2.2 ho
  rw [h.2.2.1] at h1 h2
  exact ⟨h1, h2⟩
theorem SameT.refl (w : Nat → Int32) : SameT w w := ⟨rfl, rfl, rfl⟩
theorem QR.mk {v : Nat → Nat} {w : Nat → Int32} {h : Nat → MC} {A : (Nat → Int32) → RD → Option Value → Prop} {post : Option Value → (Nat → MC) → Prop} (hpost : QR v w h A = post) {r : Option Value} (w' : Nat → Int32) (x' : RD) (h1 : SameT w w') (h2 : FndI v w' x') (h3 : A w' x' r) : post r (mov (rcL w' x') h) := by
  rw [← hpost]
  exact ⟨w', x', rfl, h1, h2, h3⟩
