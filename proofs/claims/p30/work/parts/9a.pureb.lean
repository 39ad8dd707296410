/-! LEAST TREES: the start is sound -/
theorem LsQ_of {v : Nat → Nat} {S : HoS} {c : Nat → Nat} {L : LeS} (h : LeI v S c L) : LsQ S L := fun f hf hn => by
  by_cases z : L.2.1 f = 0
  · exact Or.inl ((h f hf).2 hn z).1
  · exact Or.inr z
/-- what the reference finds, said of the one list of holding instances -/
theorem FndM_v {v : Nat → Nat} {w : Nat → Int32} {x : RD} {S : HoS} (hok : OkN v) (hst : x.st = (strF v).1) (H : FndM v w x S) : x.m = (mdl0 v).1 ∧ w 7 = nI (mdl0 v).2 ∧ SEq (hoV v) S ∧ IsLim (fun c => (coP v (hoV v) c).1) (coBase v) x.c ∧ IsLim (fun l => (lkP (hoV v) l).1) (lkBase v) x.l ∧ ∃ (N : Nat) (lb : Nat → Nat), N = 216 ∧ IsLim (fun L => (lsP (hoV v) N L).1) (ls2 v (hoV v) x.c lb) (x.lr, x.z, x.u, x.lb) := by
  obtain ⟨h1, h2, ⟨ru0, hd0, b0, li0, hS⟩, h4, h5, h6, h7, h8, h9, N, lb, hN, h10⟩ := H
  have e : x.m = (mdl0 v).1 := by
    rw [h1, hst]
    rfl
  have hs : SEq (hoV v) S := by
    rw [hS, e]
    exact hoV_s hok ru0 hd0 b0 li0
  refine ⟨e, ?_, hs, ?_, ?_, N, lb, hN, ?_⟩
  · rw [h2, hst]
    rfl
  · rw [coP_s hs] at h8
    exact h8
  · rw [lkP_s hs] at h9
    exact h9
  · rw [ls2_s hs] at h10
    exact lsLim_s hs (LsQ_of (ls2_I v (hoV v) x.c lb)) hN h10
