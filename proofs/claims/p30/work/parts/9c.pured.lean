/-! LIKELIHOODS of the model's facts are known -/
theorem lkI_flag {S : HoS} {l : Nat → UInt32} : ∀ n, (itN (lkI S) (l, false) n).2 = false → itN (lkI S) (l, false) n = (l, false) ∧ ∀ i, i < n → ¬ lkE (l (S.2.2.1 i)) < lkE (lkB S l i)
  | 0, _ => ⟨rfl, fun i hi => absurd hi (Nat.not_lt_zero i)⟩
  | n + 1, h => by
    have e1 : itN (lkI S) (l, false) (n + 1) = lkI S n (itN (lkI S) (l, false) n) := rfl
    rw [e1] at h ⊢
    have h0 : (itN (lkI S) (l, false) n).2 = false := by
      unfold lkI at h
      split at h
      · cases h
      · exact h
    obtain ⟨i1, i2⟩ := lkI_flag n h0
    rw [i1] at h ⊢
    unfold lkI at h ⊢
    by_cases q : lkE (l (S.2.2.1 n)) < lkE (lkB S l n)
    · rw [if_pos q] at h
      cases h
    · rw [if_neg q]
      refine ⟨rfl, fun i hi => ?_⟩
      by_cases e : i = n
      · rw [e]; exact q
      · exact i2 i (by omega)
theorem lkI_up {S : HoS} {i : Nat} {p : (Nat → UInt32) × Bool} (f : Nat) : lkE (p.1 f) ≤ lkE ((lkI S i p).1 f) := by
  unfold lkI
  split
  · rename_i q
    show lkE (p.1 f) ≤ lkE (updN p.1 (S.2.2.1 i) (lkB S p.1 i) f)
    by_cases e : f = S.2.2.1 i
    · rw [e, updN_same]
      exact Nat.le_of_lt q
    · rw [updN_ne _ _ e]
      exact Nat.le_refl _
  · exact Nat.le_refl _
theorem lkP_up {S : HoS} {l : Nat → UInt32} (f : Nat) : ∀ n, lkE (l f) ≤ lkE ((itN (lkI S) (l, false) n).1 f)
  | 0 => Nat.le_refl _
  | n + 1 => Nat.le_trans (lkP_up f n) (lkI_up f)
theorem lkL_up {S : HoS} {l F : Nat → UInt32} (h : IsLim (fun l => (lkP S l).1) l F) (f : Nat) : lkE (l f) ≤ lkE (F f) := by
  obtain ⟨k, rfl, -⟩ := h
  have up : ∀ k, lkE (l f) ≤ lkE (itN (fun _ => fun l => (lkP S l).1) l k f) := by
    intro k
    induction k with
    | zero => exact Nat.le_refl _
    | succ k ih => exact Nat.le_trans ih (lkP_up f S.1)
  exact up k
theorem lkE_pos {x : UInt32} : 0 < lkE x ↔ x ≠ fM1 := by
  unfold lkE
  by_cases q : x = fM1
  · rw [if_pos q]
    exact ⟨fun w => absurd w (Nat.lt_irrefl 0), fun w => absurd q w⟩
  · rw [if_neg q]
    exact ⟨fun _ => q, fun _ => Nat.succ_pos _⟩
theorem lkKs_up {v : Nat → Nat} (hok : OkN v) : ∀ n, n ≤ v 1 → ∀ k, k < n → 0 < lkE (itN (lkK v) (fun _ => fM1) n (v (9 + 3 * k)))
  | 0, _, k, hk => absurd hk (Nat.not_lt_zero k)
  | n + 1, hn, k, hk => by
    obtain ⟨-, -, s1, s2⟩ := hok.2.2.2.2.2.1 n (by omega)
    have hu : 0 < lkE (sixF (v (9 + 3 * n + 2))) := lkE_pos.mpr (uf_ne (sixF_uf s1 s2))
    have hs : ∀ L : Nat → UInt32, (∀ j, lkE (L j) ≤ lkE (lkK v n L j)) ∧ 0 < lkE (lkK v n L (v (9 + 3 * n))) := by
      intro L
      unfold lkK
      refine ⟨fun j => ?_, ?_⟩
      · by_cases e : j = v (9 + 3 * n)
        · rw [e, updN_same]
          split
          · rename_i q
            exact Nat.le_of_lt q
          · exact Nat.le_refl _
        · rw [updN_ne _ _ e]
          exact Nat.le_refl _
      · rw [updN_same]
        split
        · exact hu
        · omega
    obtain ⟨g1, g2⟩ := hs (itN (lkK v) (fun _ => fM1) n)
    show 0 < lkE (lkK v n (itN (lkK v) (fun _ => fM1) n) (v (9 + 3 * k)))
    by_cases e : k = n
    · rw [e]; exact g2
    · exact Nat.lt_of_lt_of_le (lkKs_up hok n (by omega) k (by omega)) (g1 _)
theorem lk_known {v : Nat → Nat} {F : Nat → UInt32} (hok : OkN v) (hst : StC v (strF v).1) (hF : IsLim (fun l => (lkP (hoV v) l).1) (lkBase v) F) : ∀ f, f < 216 → ¬ (mdl0 v).1 f < 0 → F f ≠ fM1 := by
  have hS := hoV_ok hok
  have hA : LkA F := by
    obtain ⟨k, e, -⟩ := hF
    have hk : ∀ k, LkA (itN (fun _ => fun l => (lkP (hoV v) l).1) (lkBase v) k) := by
      intro k
      induction k with
      | zero => exact lkKs_A hok _ (Nat.le_refl _)
      | succ k ih => exact lkP_A hS ih
    rw [e]
    exact hk k
  have hfix : (lkP (hoV v) F).1 = F := by
    obtain ⟨k, -, e⟩ := hF
    exact e
  have hfl : (itN (lkI (hoV v)) (F, false) (hoV v).1).2 = false := by
    cases q : (itN (lkI (hoV v)) (F, false) (hoV v).1).2
    · rfl
    · exact absurd hfix (lkP_ne hS hA q)
  have hcl := (lkI_flag (hoV v).1 hfl).2
  have hb : ∀ k, k < v 1 → (fun f => decide (F f ≠ fM1)) (v (9 + 3 * k)) = true := fun k hk => decide_eq_true (lkE_pos.mp (Nat.lt_of_lt_of_le (lkKs_up hok (v 1) (Nat.le_refl _) k hk) (lkL_up hF _)))
  have hc : DvC (hoV v) (fun f => decide (F f ≠ fM1)) := by
    intro i hi hall
    have hN : lkN (hoV v) F i 3 = false := by
      cases q : lkN (hoV v) F i 3
      · rfl
      · obtain ⟨a, ha, w⟩ := (anyN_iff _ _).mp q
        have w2 := (andN_iff _ _).mp hall a ha
        unfold litU at w
        unfold litB at w2
        split at w
        · cases w
        · rename_i q2
          rw [if_neg q2] at w2
          exact absurd (of_decide_eq_true w) (of_decide_eq_true w2)
    have hu : UF (lkS (hoV v) F i 3) := lkS_uf hS hA hi 3 (Nat.le_refl 3) hN
    have hn := hcl i hi
    unfold lkB at hn
    rw [hN, if_neg (show ¬ false = true by decide)] at hn
    have hp : 0 < lkE (lkS (hoV v) F i 3) := lkE_pos.mpr (uf_ne hu)
    exact decide_eq_true (lkE_pos.mp (by omega))
  exact fun f hf hm => of_decide_eq_true (mdl_der hok hst hb hc f hf hm)
