theorem ok_anew (v : Nat → Nat) {c : Nat} (h1 : 1 ≤ c) (h6 : c ≤ 6) : OkN (anewV v c) := by
  have e0 : anewV v c 0 = c := rfl
  have e1 : anewV v c 1 = 0 := rfl
  have e2 : anewV v c 2 = 0 := rfl
  refine ⟨by rw [e0]; exact h1, by rw [e0]; exact h6, by rw [e1]; omega, by rw [e2]; omega, fun p hp => Or.inr ?_, fun k hk => ?_, fun r hr => ?_⟩
  · unfold anewV
    rw [if_pos (by omega)]
  · rw [e1] at hk
    omega
  · rw [e2] at hr
    omega
theorem ok_places {v : Nat → Nat} (h : OkN v) {p q : Nat} (hp : p < 6) (hq : 1 ≤ q ∧ q ≤ 2) : OkN (updN v (3 + p) q) := by
  obtain ⟨h1, h2, h3, h4, h5, h6, h7⟩ := h
  have e : ∀ j, j ≠ 3 + p → updN v (3 + p) q j = v j := fun j hj => updN_ne _ _ hj
  refine ⟨by rw [e 0 (by omega)]; exact h1, by rw [e 0 (by omega)]; exact h2, by rw [e 1 (by omega)]; exact h3, by rw [e 2 (by omega)]; exact h4, fun k hk => ?_, fun k hk => ?_, fun r hr => ?_⟩
  · by_cases q2 : k = p
    · subst q2
      rw [updN_same]
      omega
    · rw [e _ (by omega)]
      exact h5 k hk
  · rw [e 1 (by omega)] at hk
    rw [e _ (by omega), e _ (by omega), e _ (by omega)]
    exact h6 k hk
  · rw [e 2 (by omega)] at hr
    rw [e _ (by omega), e _ (by omega)]
    obtain ⟨g1, g2, g3, g4, g5⟩ := h7 r hr
    refine ⟨g1, g2, g3, g4, fun a ha => ?_⟩
    rw [e _ (by omega), e _ (by omega), e _ (by omega), e _ (by omega)]
    exact g5 a ha
theorem ok_addFact {v : Nat → Nat} (h : OkN v) {f c s : Nat} (hf : f < 216) (hc : c ≤ 99) (hs1 : 1 ≤ s) (hs : s ≤ 16) (hn : v 1 ≠ 12) : OkN (addFactV v f c s) := by
  obtain ⟨h1, h2, h3, h4, h5, h6, h7⟩ := h
  have e : ∀ j, j ≠ 1 → (j < 9 + 3 * v 1 ∨ 9 + 3 * v 1 + 2 < j) → addFactV v f c s j = v j := fun j q1 q2 => by
    unfold addFactV
    rw [if_neg q1, if_neg (by omega), if_neg (by omega), if_neg (by omega)]
  have e1 : addFactV v f c s 1 = v 1 + 1 := rfl
  refine ⟨by rw [e 0 (by omega) (by omega)]; exact h1, by rw [e 0 (by omega) (by omega)]; exact h2, by rw [e1]; omega, by rw [e 2 (by omega) (by omega)]; exact h4, fun k hk => ?_, fun k hk => ?_, fun r hr => ?_⟩
  · rw [e _ (by omega) (by omega)]
    exact h5 k hk
  · rw [e1] at hk
    by_cases q : k = v 1
    · subst q
      have a0 : addFactV v f c s (9 + 3 * v 1) = f := by
        unfold addFactV
        rw [if_neg (by omega), if_pos rfl]
      have a1 : addFactV v f c s (9 + 3 * v 1 + 1) = c := by
        unfold addFactV
        rw [if_neg (by omega), if_neg (by omega), if_pos rfl]
      have a2 : addFactV v f c s (9 + 3 * v 1 + 2) = s := by
        unfold addFactV
        rw [if_neg (by omega), if_neg (by omega), if_neg (by omega), if_pos rfl]
      rw [a0, a1, a2]
      exact ⟨hf, hc, hs1, hs⟩
    · rw [e _ (by omega) (by omega), e _ (by omega) (by omega), e _ (by omega) (by omega)]
      exact h6 k (by omega)
  · rw [e 2 (by omega) (by omega)] at hr
    rw [e _ (by omega) (by omega), e _ (by omega) (by omega)]
    obtain ⟨g1, g2, g3, g4, g5⟩ := h7 r hr
    refine ⟨g1, g2, g3, g4, fun a ha => ?_⟩
    rw [e _ (by omega) (by omega), e _ (by omega) (by omega), e _ (by omega) (by omega), e _ (by omega) (by omega)]
    exact g5 a ha
theorem shV_out {v : Nat → Nat} {k lo hi j : Nat} (h : j < lo ∨ hi ≤ j) : shV v k lo hi j = v j := by
  unfold shV
  rw [if_neg (by omega)]
theorem shV_in {v : Nat → Nat} {k lo hi j : Nat} (h1 : lo ≤ j) (h2 : j < hi) : shV v k lo hi j = v (j + k) := by
  unfold shV
  rw [if_pos ⟨h1, h2⟩]
theorem ok_removeFact {v : Nat → Nat} (h : OkN v) {f : Nat} (hf : f < v 1) : OkN (shV (updN v 1 (v 1 - 1)) 3 (9 + 3 * f) (9 + 3 * (v 1 - 1))) := by
  obtain ⟨h1, h2, h3, h4, h5, h6, h7⟩ := h
  have eo : ∀ j, j ≠ 1 → (j < 9 + 3 * f ∨ 9 + 3 * (v 1 - 1) ≤ j) → shV (updN v 1 (v 1 - 1)) 3 (9 + 3 * f) (9 + 3 * (v 1 - 1)) j = v j := fun j q1 q2 => by
    rw [shV_out q2, updN_ne _ _ q1]
  have ei : ∀ j, 9 + 3 * f ≤ j → j < 9 + 3 * (v 1 - 1) → shV (updN v 1 (v 1 - 1)) 3 (9 + 3 * f) (9 + 3 * (v 1 - 1)) j = v (j + 3) := fun j q1 q2 => by
    rw [shV_in q1 q2, updN_ne _ _ (by omega)]
  have e1 : shV (updN v 1 (v 1 - 1)) 3 (9 + 3 * f) (9 + 3 * (v 1 - 1)) 1 = v 1 - 1 := by
    rw [shV_out (by omega), updN_same]
  refine ⟨by rw [eo 0 (by omega) (by omega)]; exact h1, by rw [eo 0 (by omega) (by omega)]; exact h2, by rw [e1]; omega, by rw [eo 2 (by omega) (by omega)]; exact h4, fun k hk => ?_, fun k hk => ?_, fun r hr => ?_⟩
  · rw [eo _ (by omega) (by omega)]
    exact h5 k hk
  · rw [e1] at hk
    by_cases q : k < f
    · rw [eo _ (by omega) (by omega), eo _ (by omega) (by omega), eo _ (by omega) (by omega)]
      exact h6 k (by omega)
    · have g := h6 (k + 1) (by omega)
      rw [ei _ (by omega) (by omega), ei _ (by omega) (by omega), ei _ (by omega) (by omega)]
      rw [show 9 + 3 * k + 3 = 9 + 3 * (k + 1) by omega, show 9 + 3 * k + 1 + 3 = 9 + 3 * (k + 1) + 1 by omega, show 9 + 3 * k + 2 + 3 = 9 + 3 * (k + 1) + 2 by omega]
      exact g
  · rw [eo 2 (by omega) (by omega)] at hr
    rw [eo _ (by omega) (by omega), eo _ (by omega) (by omega)]
    obtain ⟨g1, g2, g3, g4, g5⟩ := h7 r hr
    refine ⟨g1, g2, g3, g4, fun a ha => ?_⟩
    rw [eo _ (by omega) (by omega), eo _ (by omega) (by omega), eo _ (by omega) (by omega), eo _ (by omega) (by omega)]
    exact g5 a ha
theorem ok_removeRule {v : Nat → Nat} (h : OkN v) {f : Nat} (hf : f < v 2) : OkN (shV (updN v 2 (v 2 - 1)) 18 (45 + 18 * f) (45 + 18 * (v 2 - 1))) := by
  obtain ⟨h1, h2, h3, h4, h5, h6, h7⟩ := h
  have eo : ∀ j, j ≠ 2 → (j < 45 + 18 * f ∨ 45 + 18 * (v 2 - 1) ≤ j) → shV (updN v 2 (v 2 - 1)) 18 (45 + 18 * f) (45 + 18 * (v 2 - 1)) j = v j := fun j q1 q2 => by
    rw [shV_out q2, updN_ne _ _ q1]
  have ei : ∀ j, 45 + 18 * f ≤ j → j < 45 + 18 * (v 2 - 1) → shV (updN v 2 (v 2 - 1)) 18 (45 + 18 * f) (45 + 18 * (v 2 - 1)) j = v (j + 18) := fun j q1 q2 => by
    rw [shV_in q1 q2, updN_ne _ _ (by omega)]
  have e2 : shV (updN v 2 (v 2 - 1)) 18 (45 + 18 * f) (45 + 18 * (v 2 - 1)) 2 = v 2 - 1 := by
    rw [shV_out (by omega), updN_same]
  refine ⟨by rw [eo 0 (by omega) (by omega)]; exact h1, by rw [eo 0 (by omega) (by omega)]; exact h2, by rw [eo 1 (by omega) (by omega)]; exact h3, by rw [e2]; omega, fun k hk => ?_, fun k hk => ?_, fun r hr => ?_⟩
  · rw [eo _ (by omega) (by omega)]
    exact h5 k hk
  · rw [eo 1 (by omega) (by omega)] at hk
    rw [eo _ (by omega) (by omega), eo _ (by omega) (by omega), eo _ (by omega) (by omega)]
    exact h6 k hk
  · rw [e2] at hr
    by_cases q : r < f
    · obtain ⟨g1, g2, g3, g4, g5⟩ := h7 r (by omega)
      rw [eo _ (by omega) (by omega), eo _ (by omega) (by omega)]
      refine ⟨g1, g2, g3, g4, fun a ha => ?_⟩
      rw [eo _ (by omega) (by omega), eo _ (by omega) (by omega), eo _ (by omega) (by omega), eo _ (by omega) (by omega)]
      exact g5 a ha
    · obtain ⟨g1, g2, g3, g4, g5⟩ := h7 (r + 1) (by omega)
      rw [ei _ (by omega) (by omega), ei _ (by omega) (by omega)]
      rw [show 45 + 18 * r + 18 = 45 + 18 * (r + 1) by omega, show 45 + 18 * r + 1 + 18 = 45 + 18 * (r + 1) + 1 by omega]
      refine ⟨g1, g2, g3, g4, fun a ha => ?_⟩
      rw [ei _ (by omega) (by omega), ei _ (by omega) (by omega), ei _ (by omega) (by omega), ei _ (by omega) (by omega)]
      rw [show 45 + 18 * r + 2 + 4 * a + 18 = 45 + 18 * (r + 1) + 2 + 4 * a by omega, show 45 + 18 * r + 2 + 4 * a + 1 + 18 = 45 + 18 * (r + 1) + 2 + 4 * a + 1 by omega, show 45 + 18 * r + 2 + 4 * a + 2 + 18 = 45 + 18 * (r + 1) + 2 + 4 * a + 2 by omega, show 45 + 18 * r + 2 + 4 * a + 3 + 18 = 45 + 18 * (r + 1) + 2 + 4 * a + 3 by omega]
      exact g5 a ha
theorem ok_cg {v v' : Nat → Nat} (h : OkN v) (e : ∀ j, j < 189 → v' j = v j) : OkN v' := by
  obtain ⟨h1, h2, h3, h4, h5, h6, h7⟩ := h
  refine ⟨by rw [e 0 (by omega)]; exact h1, by rw [e 0 (by omega)]; exact h2, by rw [e 1 (by omega)]; exact h3, by rw [e 2 (by omega)]; exact h4, fun k hk => ?_, fun k hk => ?_, fun r hr => ?_⟩
  · rw [e _ (by omega)]
    exact h5 k hk
  · rw [e 1 (by omega)] at hk
    rw [e _ (by omega), e _ (by omega), e _ (by omega)]
    exact h6 k hk
  · rw [e 2 (by omega)] at hr
    obtain ⟨g1, g2, g3, g4, g5⟩ := h7 r hr
    rw [e _ (by omega), e _ (by omega)]
    refine ⟨g1, g2, g3, g4, fun a ha => ?_⟩
    rw [e _ (by omega), e _ (by omega), e _ (by omega), e _ (by omega)]
    exact g5 a ha
theorem ok_restore {v kp : Nat → Nat} {s : Nat} (h : OkN (fun j => kp (189 * s + j))) : OkN (fun j => if j < 189 then kp (189 * s + j) else v j) :=
  ok_cg h fun j hj => if_pos hj
