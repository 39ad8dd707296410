/-- what can be derived: one pass -/
def dvI (S : HoS) (i : Nat) (p : (Nat → Bool) × Bool) : (Nat → Bool) × Bool :=
  if p.1 (S.2.2.1 i) = false ∧ allL S p.1 i = true then (updN p.1 (S.2.2.1 i) true, true) else p
def dvP (S : HoS) (D : Nat → Bool) : (Nat → Bool) × Bool := itN (dvI S) (D, false) S.1
def dvK (v : Nat → Nat) (x : Int32) (k : Nat) (D : Nat → Bool) : Nat → Bool := updN D (v (9 + 3 * k)) (D (v (9 + 3 * k)) || delB x k)
def dvBase (v : Nat → Nat) (x : Int32) : Nat → Bool := itN (dvK v x) (fun _ => false) (v 1)
/-- how many are not derived -/
def ndv (D : Nat → Bool) : Nat → Nat
  | 0 => 0
  | k + 1 => ndv D k + (if D k then 0 else 1)
theorem ndv_upd {D : Nat → Bool} {f : Nat} (hz : D f = false) : ∀ n, ndv (updN D f true) n + (if f < n then 1 else 0) = ndv D n
  | 0 => by simp [ndv]
  | n + 1 => by
    have ih := ndv_upd hz n
    simp only [ndv]
    by_cases e : n = f
    · subst e
      have e1 : (if updN D n true n then 0 else 1) = 0 := by rw [updN_same]; rfl
      have e2 : (if D n then 0 else 1) = 1 := by rw [hz]; rfl
      rw [e1, e2, if_pos (Nat.lt_succ_self _)]
      rw [if_neg (Nat.lt_irrefl _)] at ih
      omega
    · rw [updN_ne _ _ e]
      by_cases q : f < n
      · rw [if_pos q] at ih
        rw [if_pos (show f < n + 1 by omega)]
        omega
      · rw [if_neg q] at ih
        rw [if_neg (show ¬ f < n + 1 by omega)]
        omega
theorem dvI_n {S : HoS} {i s0 N : Nat} (hf : S.2.2.1 i < N) {p : (Nat → Bool) × Bool} (h : ndv p.1 N ≤ s0 ∧ (p.2 = true → ndv p.1 N < s0)) : ndv (dvI S i p).1 N ≤ s0 ∧ ((dvI S i p).2 = true → ndv (dvI S i p).1 N < s0) := by
  unfold dvI
  split
  · rename_i hc
    have h1 := ndv_upd hc.1 N
    rw [if_pos hf] at h1
    have h2 : ndv (updN p.1 (S.2.2.1 i) true) N < s0 := by omega
    exact ⟨Nat.le_of_lt h2, fun _ => h2⟩
  · exact h
theorem dvI_same {S : HoS} {i : Nat} {D : Nat → Bool} {p : (Nat → Bool) × Bool} (h : p.2 = true ∨ p.1 = D) : (dvI S i p).2 = true ∨ (dvI S i p).1 = D := by
  unfold dvI
  split
  · exact Or.inl rfl
  · exact h
theorem dvN_flag {v : Nat → Nat} {S : HoS} (hS : HoOk v S) (D : Nat → Bool) (N : Nat) (hN : N = 216) : ((dvP S D).2 = true → ndv (dvP S D).1 N < ndv D N) ∧ ((dvP S D).2 = false → (dvP S D).1 = D) := by
  have h1 := itN_inv (P := fun p : (Nat → Bool) × Bool => ndv p.1 N ≤ ndv D N ∧ (p.2 = true → ndv p.1 N < ndv D N)) (s := dvI S) (N := S.1) (fun i hi p hp => dvI_n (by have := (hS.2 i hi).2.1; omega) hp) S.1 (Nat.le_refl _) (a := (D, false)) ⟨Nat.le_refl _, fun q => absurd (show false = true from q) (by decide)⟩
  have h2 := itN_inv (P := fun p : (Nat → Bool) × Bool => p.2 = true ∨ p.1 = D) (s := dvI S) (N := S.1) (fun i _ p hp => dvI_same hp) S.1 (Nat.le_refl _) (a := (D, false)) (Or.inr rfl)
  exact ⟨h1.2, fun q => h2.resolve_left (by show ¬ (dvP S D).2 = true; rw [q]; decide)⟩
theorem dvLim {v : Nat → Nat} {S : HoS} (hS : HoOk v S) (D0 : Nat → Bool) : ∃ D, IsLim (fun D => (dvP S D).1) D0 D :=
  lim_ex (fun _ => True) (fun D => ndv D 216) (fun _ _ => trivial) (fun D _ => by
    have h := dvN_flag hS D 216 rfl
    cases q : (dvP S D).2
    · exact Or.inl (h.2 q)
    · exact Or.inr (h.1 q)) (ndv D0 216) D0 (Nat.le_refl _) trivial
theorem dvP_ne {v : Nat → Nat} {S : HoS} (hS : HoOk v S) {D : Nat → Bool} (h : (dvP S D).2 = true) : (dvP S D).1 ≠ D := by
  intro e
  have h1 := (dvN_flag hS D 216 rfl).1 h
  rw [e] at h1
  omega
theorem litB_mono {D E : Nat → Bool} (h : ∀ f, D f = true → E f = true) {x : Int32} (q : litB D x = true) : litB E x = true := by
  unfold litB at q ⊢
  split
  · rfl
  · rename_i e
    rw [if_neg e] at q
    exact h _ q
theorem allL_mono {S : HoS} {D E : Nat → Bool} (h : ∀ f, D f = true → E f = true) {i : Nat} (q : allL S D i = true) : allL S E i = true := by
  unfold allL at q ⊢
  rw [andN_iff] at q ⊢
  exact fun a ha => litB_mono h (q a ha)
/-- closed under the instances -/
def DvC (S : HoS) (D : Nat → Bool) : Prop := ∀ i, i < S.1 → allL S D i = true → D (S.2.2.1 i) = true
theorem dvI_flag {S : HoS} {D : Nat → Bool} : ∀ n, (itN (dvI S) (D, false) n).2 = false → itN (dvI S) (D, false) n = (D, false) ∧ ∀ i, i < n → allL S D i = true → D (S.2.2.1 i) = true
  | 0, _ => ⟨rfl, fun i hi => absurd hi (Nat.not_lt_zero i)⟩
  | n + 1, h => by
    have e : itN (dvI S) (D, false) (n + 1) = dvI S n (itN (dvI S) (D, false) n) := rfl
    rw [e] at h ⊢
    have h0 : (itN (dvI S) (D, false) n).2 = false := by
      unfold dvI at h
      split at h
      · cases h
      · exact h
    obtain ⟨h1, h2⟩ := dvI_flag n h0
    rw [h1] at h ⊢
    have hc : ¬ (D (S.2.2.1 n) = false ∧ allL S D n = true) := by
      intro hc
      unfold dvI at h
      rw [if_pos hc] at h
      cases h
    refine ⟨by unfold dvI; rw [if_neg hc], fun i hi ha => ?_⟩
    by_cases q : i = n
    · subst q
      cases q2 : D (S.2.2.1 i)
      · exact absurd ⟨q2, ha⟩ hc
      · rfl
    · exact h2 i (by omega) ha
theorem dvLim_closed {v : Nat → Nat} {S : HoS} (hS : HoOk v S) {D : Nat → Bool} (e : (dvP S D).1 = D) : DvC S D := by
  have h : (dvP S D).2 = false := by
    cases q : (dvP S D).2
    · rfl
    · exact absurd e (dvP_ne hS q)
  exact (dvI_flag S.1 h).2
theorem dvI_sub {S : HoS} {E : Nat → Bool} (hE : DvC S E) {i : Nat} (hi : i < S.1) {p : (Nat → Bool) × Bool} (h : ∀ f, p.1 f = true → E f = true) : ∀ f, (dvI S i p).1 f = true → E f = true := by
  unfold dvI
  split
  · rename_i hc
    intro f hf
    have hf : updN p.1 (S.2.2.1 i) true f = true := hf
    by_cases q : f = S.2.2.1 i
    · subst q
      exact hE i hi (allL_mono h hc.2)
    · rw [updN_ne _ _ q] at hf
      exact h f hf
  · exact h
theorem dvP_sub {S : HoS} {E D : Nat → Bool} (hE : DvC S E) (h : ∀ f, D f = true → E f = true) : ∀ f, (dvP S D).1 f = true → E f = true :=
  itN_inv (P := fun p : (Nat → Bool) × Bool => ∀ f, p.1 f = true → E f = true) (s := dvI S) (N := S.1) (fun i hi p hp => dvI_sub hE hi hp) S.1 (Nat.le_refl _) (a := (D, false)) h
theorem dvI_sup {S : HoS} {i : Nat} {p : (Nat → Bool) × Bool} : ∀ f, p.1 f = true → (dvI S i p).1 f = true := by
  intro f hf
  unfold dvI
  split
  · show updN p.1 (S.2.2.1 i) true f = true
    unfold updN
    split
    · rfl
    · exact hf
  · exact hf
theorem dvIt_sub {S : HoS} {D0 : Nat → Bool} : ∀ k, ∀ f, D0 f = true → itN (fun _ D => (dvP S D).1) D0 k f = true
  | 0, _, h => h
  | k + 1, f, h => by
    have h1 := dvIt_sub (S := S) k f h
    have h2 : ∀ n, (itN (dvI S) (itN (fun _ D => (dvP S D).1) D0 k, false) n).1 f = true := by
      intro n
      induction n with
      | zero => exact h1
      | succ n ih => exact dvI_sup f ih
    exact h2 S.1
