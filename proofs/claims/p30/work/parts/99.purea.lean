/-! THE LIMIT OF THE LEAST TREES does not depend on garbage -/
def LsQ (S : HoS) (L : LeS) : Prop := ∀ f, f < 216 → ¬ L.1 f < 0 → L.2.2.2 f < S.1 ∨ L.2.1 f ≠ 0
theorem lsG_s {S S' : HoS} (H : SEq S S') {f : Nat} (hf : f < 216) {p : LeS × Bool} (hQ : LsQ S p.1) : lsG S' f p = lsG S f p ∧ LsQ S (lsG S f p).1 := by
  unfold lsG
  by_cases c1 : p.1.2.1 f = 0 ∧ ¬ p.1.1 f < 0
  · have hl : p.1.2.2.2 f < S.1 := (hQ f hf c1.2).resolve_right (fun w => w c1.1)
    rw [allL_s H hl, szS_s H hl, usS_s H hl]
    refine ⟨rfl, ?_⟩
    split
    · intro g hg hn
      by_cases e : g = f
      · rw [e]; exact Or.inl hl
      · rcases hQ g hg hn with w | w
        · exact Or.inl w
        · refine Or.inr ?_
          show updN p.1.2.1 f (szS S p.1.2.1 (p.1.2.2.2 f) 3) g ≠ 0
          rw [updN_ne _ _ e]
          exact w
    · exact hQ
  · rw [if_neg (fun w => c1 ⟨w.1, w.2.1⟩), if_neg (fun w => c1 ⟨w.1, w.2.1⟩)]
    exact ⟨rfl, hQ⟩
theorem lsP_s {S S' : HoS} (H : SEq S S') {L : LeS} (hQ : LsQ S L) {N : Nat} (hN : N = 216) (n : Nat) (hn : n ≤ N) : lsP S' n L = lsP S n L ∧ LsQ S (lsP S n L).1 := by
  induction n with
  | zero =>
    have e0 : ∀ T : HoS, lsP T 0 L = (L, false) := fun T => rfl
    rw [e0, e0]
    exact ⟨rfl, hQ⟩
  | succ n ih =>
    obtain ⟨i1, i2⟩ := ih (by omega)
    have hf : n < 216 := by omega
    have e1 : ∀ T : HoS, lsP T (n + 1) L = lsG T n (lsP T n L) := fun T => rfl
    rw [e1, e1, i1]
    exact lsG_s H hf i2
theorem lsR_s {S S' : HoS} (H : SEq S S') {L : LeS} (hQ : LsQ S L) {N : Nat} (hN : N = 216) (k : Nat) : itN (fun _ => fun L => (lsP S' N L).1) L k = itN (fun _ => fun L => (lsP S N L).1) L k ∧ LsQ S (itN (fun _ => fun L => (lsP S N L).1) L k) := by
  induction k with
  | zero =>
    have e0 : ∀ T : HoS, itN (fun _ => fun L => (lsP T N L).1) L 0 = L := fun T => rfl
    rw [e0, e0]
    exact ⟨rfl, hQ⟩
  | succ k ih =>
    obtain ⟨i1, i2⟩ := ih
    have e1 : ∀ T : HoS, itN (fun _ => fun L => (lsP T N L).1) L (k + 1) = (lsP T N (itN (fun _ => fun L => (lsP T N L).1) L k)).1 := fun T => rfl
    obtain ⟨g1, g2⟩ := lsP_s H i2 hN N (Nat.le_refl N)
    rw [e1, e1, i1, g1]
    exact ⟨rfl, g2⟩
theorem lsLim_s {S S' : HoS} (H : SEq S S') {L F : LeS} (hQ : LsQ S L) {N : Nat} (hN : N = 216) (h : IsLim (fun L => (lsP S' N L).1) L F) : IsLim (fun L => (lsP S N L).1) L F := by
  obtain ⟨k, e, hF⟩ := h
  obtain ⟨i1, i2⟩ := lsR_s H hQ hN k
  rw [i1] at e
  rw [← e] at i2
  refine ⟨k, e, ?_⟩
  have hF : (lsP S' N F).1 = F := hF
  show (lsP S N F).1 = F
  rw [← (lsP_s H i2 hN N (Nat.le_refl N)).1]
  exact hF
