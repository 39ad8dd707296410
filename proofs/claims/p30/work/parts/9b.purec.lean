/-! COSTS AND LEAST TREES are the same on both sides -/
theorem Kc_v {v c kr z u : Nat → Nat} {x : RD} (H : KcOk v (hoV v) c kr z u) (h1 : IsLim (fun c => (coP v (hoV v) c).1) (coBase v) x.c) (h2 : ∃ (N : Nat) (lb : Nat → Nat), N = 216 ∧ IsLim (fun L => (lsP (hoV v) N L).1) (ls2 v (hoV v) x.c lb) (x.lr, x.z, x.u, x.lb)) : c = x.c ∧ (∀ f, f < 216 → z f = x.z f ∧ u f = x.u f) ∧ LKr x.c kr (x.lr, x.z, x.u, x.lb) := by
  have e : c = x.c := H.1.uniq h1
  obtain ⟨N, lb, hN, hF⟩ := h2
  rw [← e] at hF
  obtain ⟨g1, g2⟩ := H.2 lb _ N hN hF
  exact ⟨e, g1, by rw [← e]; exact g2⟩
