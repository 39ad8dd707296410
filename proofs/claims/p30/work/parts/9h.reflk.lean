/-! THE REFERENCE'S LIKELIHOOD -/
theorem stC_of {v : Nat → Nat} (hok : OkN v) (hs : (strF v).2.2 = true) : StC v (strF v).1 := by
  obtain ⟨h1, h2, -⟩ := (st_eq hok).2 hs
  rw [h1]
  exact h2
theorem lkLim_A {v : Nat → Nat} {F : Nat → UInt32} (hok : OkN v) (hF : IsLim (fun l => (lkP (hoV v) l).1) (lkBase v) F) : LkA F := by
  obtain ⟨k, e, -⟩ := hF
  have hk : ∀ k, LkA (itN (fun _ => fun l => (lkP (hoV v) l).1) (lkBase v) k) := by
    intro k
    induction k with
    | zero => exact lkKs_A hok _ (Nat.le_refl _)
    | succ k ih => exact lkP_A (hoV_ok hok) ih
  rw [e]
  exact hk k
theorem lk_UF {v : Nat → Nat} {F : Nat → UInt32} (hok : OkN v) (hs : (strF v).2.2 = true) (hF : IsLim (fun l => (lkP (hoV v) l).1) (lkBase v) F) {f : Nat} (hf : f < 216) (hm : ¬ (mdl0 v).1 f < 0) : UF (F f) :=
  (lkLim_A hok hF f).resolve_left (lk_known hok (stC_of hok hs) hF f hf hm)
theorem Fnd.v {v : Nat → Nat} {w : Nat → Int32} {x : RD} (hok : OkN v) (h : Fnd v w x) (ho : (strF v).2.2 = true) : ∃ S, FndM v w x S ∧ x.m = (mdl0 v).1 ∧ w 7 = nI (mdl0 v).2 ∧ SEq (hoV v) S ∧ IsLim (fun c => (coP v (hoV v) c).1) (coBase v) x.c ∧ IsLim (fun l => (lkP (hoV v) l).1) (lkBase v) x.l ∧ ∃ (N : Nat) (lb : Nat → Nat), N = 216 ∧ IsLim (fun L => (lsP (hoV v) N L).1) (ls2 v (hoV v) x.c lb) (x.lr, x.z, x.u, x.lb) := by
  obtain ⟨S, hS⟩ := h.2.2.2 ho
  exact ⟨S, hS, FndM_v hok h.2.2.1 hS⟩
