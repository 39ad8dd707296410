/-! WHAT IS FOUND does not depend on the rows' old garbage -/
def SEq (S S' : HoS) : Prop := S'.1 = S.1 ∧ ∀ i, i < S.1 → S'.2.1 i = S.2.1 i ∧ S'.2.2.1 i = S.2.2.1 i ∧ ∀ a, a < 3 → S'.2.2.2.1 (3 * i + a) = S.2.2.2.1 (3 * i + a)
theorem hoC_s {v : Nat → Nat} (hok : OkN v) {m : Nat → Int32} {r c : Nat} (hr : r < v 2) {S S' : HoS} (H : SEq S S') : SEq (hoC v m r c S) (hoC v m r c S') := by
  have q1 : ∀ x, x < 3 → bndU S.2.2.2.2 c x = bnd c x := fun x hx => bndU_at _ c hx
  have q2 : ∀ x, x < 3 → bndU S'.2.2.2.2 c x = bnd c x := fun x hx => bndU_at _ c hx
  obtain ⟨e1, e2⟩ := H
  unfold hoC
  rw [holdsR_b hok q1 hr, holdsR_b hok q2 hr]
  obtain ⟨l1, l2⟩ := liU_at v (bndU S.2.2.2.2 c) r S.1 S.2.2.2.1
  obtain ⟨k1, k2⟩ := liU_at v (bndU S'.2.2.2.2 c) r S'.1 S'.2.2.2.1
  cases hb : (bOk v r c && holdsR v (bnd c) m r)
  · rw [if_neg (show ¬ false = true by decide), if_neg (show ¬ false = true by decide)]
    exact ⟨e1, e2⟩
  · rw [if_pos rfl, if_pos rfl]
    refine ⟨congrArg (· + 1) e1, fun i hi => ?_⟩
    have hi : i < S.1 + 1 := hi
    by_cases e : i = S.1
    · refine ⟨?_, ?_, fun a ha => ?_⟩
      · show updN S'.2.1 S'.1 r i = updN S.2.1 S.1 r i
        rw [e, updN_same, e1, updN_same]
      · show updN S'.2.2.1 S'.1 (fA v (bndU S'.2.2.2.2 c) r 0) i = updN S.2.2.1 S.1 (fA v (bndU S.2.2.2.2 c) r 0) i
        rw [e, updN_same, e1, updN_same]
        exact (fA_b hok q2 hr (Nat.zero_le _)).trans (fA_b hok q1 hr (Nat.zero_le _)).symm
      · show itN (liU v (bndU S'.2.2.2.2 c) r S'.1) S'.2.2.2.1 3 (3 * i + a) = itN (liU v (bndU S.2.2.2.2 c) r S.1) S.2.2.2.1 3 (3 * i + a)
        have w1 := (l1 a ha).trans (liA_b hok q1 hr)
        have w2 := (k1 a ha).trans (liA_b hok q2 hr)
        rw [show 3 * S'.1 + a = 3 * i + a by omega] at w2
        rw [show 3 * S.1 + a = 3 * i + a by omega] at w1
        exact w2.trans w1.symm
    · obtain ⟨g1, g2, g3⟩ := e2 i (by omega)
      have e' : i ≠ S'.1 := by omega
      refine ⟨?_, ?_, fun a ha => ?_⟩
      · show updN S'.2.1 S'.1 r i = updN S.2.1 S.1 r i
        rw [updN_ne _ _ e, updN_ne _ _ e']
        exact g1
      · show updN S'.2.2.1 S'.1 (fA v (bndU S'.2.2.2.2 c) r 0) i = updN S.2.2.1 S.1 (fA v (bndU S.2.2.2.2 c) r 0) i
        rw [updN_ne _ _ e, updN_ne _ _ e']
        exact g2
      · exact (k2 (3 * i + a) (by omega)).trans ((g3 a ha).trans (l2 (3 * i + a) (by omega)).symm)
theorem hoR_s {v : Nat → Nat} (hok : OkN v) {m : Nat → Int32} {r : Nat} (hr : r < v 2) {S S' : HoS} (H : SEq S S') : ∀ n, SEq (itN (hoC v m r) S n) (itN (hoC v m r) S' n)
  | 0 => H
  | n + 1 => hoC_s hok hr (hoR_s hok hr H n)
theorem hoRs_s {v : Nat → Nat} (hok : OkN v) {m : Nat → Int32} {S S' : HoS} (H : SEq S S') : ∀ n, n ≤ v 2 → SEq (itN (hoR v m) S n) (itN (hoR v m) S' n)
  | 0, _ => H
  | n + 1, hn => hoR_s hok (by omega) (hoRs_s hok H n (by omega)) 216
/-- the holding instances are the same, whatever stood in the rows -/
theorem hoV_s {v : Nat → Nat} (hok : OkN v) (ru0 hd0 b0 : Nat → Nat) (li0 : Nat → Int32) : SEq (hoV v) (hoF v (mdl0 v).1 (0, ru0, hd0, li0, b0)) :=
  hoRs_s hok (m := (mdl0 v).1) (S := hoS0) (S' := (0, ru0, hd0, li0, b0)) ⟨rfl, fun i hi => absurd (show i < 0 from hi) (Nat.not_lt_zero i)⟩ (v 2) (Nat.le_refl _)
theorem insN_s {S S' : HoS} (H : SEq S S') (f : Nat) : ∀ n, n ≤ S.1 → insN S' f n = insN S f n
  | 0, _ => rfl
  | n + 1, hn => by
    show insN S' f n + (if S'.2.2.1 n = f then 1 else 0) = insN S f n + (if S.2.2.1 n = f then 1 else 0)
    rw [insN_s H f n (by omega), (H.2 n (by omega)).2.1]
