/-! WHAT IS DERIVED without a set does not depend on garbage -/
theorem dvP_s {S S' : HoS} (H : SEq S S') : dvP S' = dvP S := by
  funext D
  unfold dvP
  rw [H.1]
  refine itN_same _ fun i hi => ?_
  funext p
  unfold dvI
  rw [allL_s H hi, (H.2 i hi).2.1]
theorem DerE_s {v : Nat → Nat} {S S' : HoS} {E : Int32 → Nat → Bool} (H : SEq S S') (h : DerE v S' E) : DerE v S E := by
  unfold DerE at h ⊢
  rw [dvP_s H] at h
  exact h
theorem KsOk_E {v sm : Nat → Nat} {rw' : Nat → Int64} {E : Int32 → Nat → Bool} (h : KsOk v (hoV v) sm rw') (hE : DerE v (hoV v) E) : ∀ s, s < 298 → ∀ f, f < 216 → Dv rw' s f = E (nI (sm s)) f := fun s hs f hf => h s hs (E (nI (sm s))) (hE _) f hf
