/-! THE MODEL IS CLOSED: heads of instances that hold are in it -/
theorem stepM_chg {v st : Nat → Nat} (hok : OkN v) {s : Nat} {X : (Nat → Int32) × Nat} {f : Nat} (hf : f < 216) (h : st (f / 36) ≠ s) : (stepM v st s X).1 f = X.1 f := by
  show (if f < 216 then (if newF v st X.1 s f then nI _ else X.1 f) else X.1 f) = X.1 f
  rw [if_pos hf]
  cases q : newF v st X.1 s f
  · rw [if_neg (by decide)]
  · exfalso
    obtain ⟨r, code, hr, hc, -, hs, -, e, -⟩ := newF_J hok f q
    refine h ?_
    rw [← e, fA_pred hok (fun x hx => bndU_lt _ hc hx) hr (Nat.zero_le _)]
    exact hs
theorem runS_chg {v st : Nat → Nat} (hok : OkN v) {s : Nat} {X : (Nat → Int32) × Nat} {f : Nat} (hf : f < 216) (h : st (f / 36) ≠ s) : (runS v st s X).1 f = X.1 f := by
  have hk : ∀ k, (itN (fun _ => stepM v st s) X k).1 f = X.1 f := by
    intro k
    induction k with
    | zero => rfl
    | succ k ih => exact (stepM_chg hok hf h).trans ih
  exact hk 217
theorem runs_chg {v st : Nat → Nat} (hok : OkN v) {s : Nat} {X : (Nat → Int32) × Nat} {f : Nat} (hf : f < 216) (h : st (f / 36) < s) : ∀ k, (itN (runS v st) X (s + k)).1 f = (itN (runS v st) X s).1 f
  | 0 => rfl
  | k + 1 => (runS_chg (s := s + k) hok hf (Nat.ne_of_lt (Nat.lt_of_lt_of_le h (Nat.le_add_right s k)))).trans (runs_chg hok hf h k)
theorem runS_set {v st : Nat → Nat} {s : Nat} {X : (Nat → Int32) × Nat} (hX : InvX X) : cntS v st s (runS v st s X) = 0 := by
  obtain ⟨i, hi, h⟩ := cnt_zero (v := v) (st := st) (s := s) 216 X (absC_le _ _) hX
  rw [runS_done (by omega) h]
  exact h
theorem newF_in {v st : Nat → Nat} (hok : OkN v) {m : Nat → Int32} {s r code f : Nat} (hr : r < v 2) (hc : code < 216) (h1 : bOk v r code = true) (h2 : holdsR v (bnd code) m r = true) (hs : st (v (45 + 18 * r + 2 + 4 * 0)) = s) (hf : fA v (bnd code) r 0 = f) : newF v st m s f = decide (m f < 0) := by
  have keepC : ∀ (r' c' : Nat) (p : (Nat → Bool) × (Nat → Nat)), p.1 f = decide (m f < 0) → (goC v m r' c' p).1 f = decide (m f < 0) := by
    intro r' c' p hp
    show (if (bOk v r' c' && holdsR v (bndU p.2 c') m r') = true then updN p.1 (fA v (bndU p.2 c') r' 0) (decide (m (fA v (bndU p.2 c') r' 0) < 0)) else p.1) f = _
    split
    · by_cases e : f = fA v (bndU p.2 c') r' 0
      · rw [← e, updN_same]
      · rw [updN_ne _ _ e]
        exact hp
    · exact hp
  have keepCs : ∀ (r' : Nat) (p : (Nat → Bool) × (Nat → Nat)), p.1 f = decide (m f < 0) → ∀ n, (itN (goC v m r') p n).1 f = decide (m f < 0) := by
    intro r' p hp n
    induction n with
    | zero => exact hp
    | succ n ih => exact keepC r' n _ ih
  have setC : ∀ p : (Nat → Bool) × (Nat → Nat), (goC v m r code p).1 f = decide (m f < 0) := by
    intro p
    have heq : ∀ x, x < 3 → bndU p.2 code x = bnd code x := fun x hx => bndU_at p.2 code hx
    show (if (bOk v r code && holdsR v (bndU p.2 code) m r) = true then updN p.1 (fA v (bndU p.2 code) r 0) (decide (m (fA v (bndU p.2 code) r 0) < 0)) else p.1) f = _
    rw [holdsR_b hok heq hr, fA_b hok heq hr (Nat.zero_le _), h1, h2, if_pos (show (true && true) = true from rfl), hf, updN_same]
  have inC : ∀ (p : (Nat → Bool) × (Nat → Nat)) n, code < n → (itN (goC v m r) p n).1 f = decide (m f < 0) := by
    intro p n
    induction n with
    | zero => intro h; exact absurd h (Nat.not_lt_zero _)
    | succ n ih =>
      intro h
      by_cases e : code = n
      · rw [← e]
        exact setC _
      · exact keepC r n _ (ih (by omega))
  have inR : ∀ (p : (Nat → Bool) × (Nat → Nat)) n, r < n → (itN (goR v st m s) p n).1 f = decide (m f < 0) := by
    intro p n
    induction n with
    | zero => intro h; exact absurd h (Nat.not_lt_zero _)
    | succ n ih =>
      intro h
      show (goR v st m s n (itN (goR v st m s) p n)).1 f = _
      unfold goR
      by_cases e : r = n
      · rw [← e, if_pos hs]
        exact inC _ 216 hc
      · split
        · exact keepCs n _ (ih (by omega)) 216
        · exact ih (by omega)
  exact inR _ (v 2) hr
theorem mdl_closed {v st : Nat → Nat} (hok : OkN v) (hst : StC v st) (h6 : ∀ p, p < 6 → st p < 6) {x : Int32} {r code : Nat} (hr : r < v 2) (hc : code < 216) (h1 : bOk v r code = true) (h2 : holdsR v (bnd code) (mdlV v st x).1 r = true) : ¬ (mdlV v st x).1 (fA v (bnd code) r 0) < 0 := by
  have hb : ∀ y, y < 3 → bnd code y < 6 := fun y hy => bndU_lt _ hc hy
  have hrule := hok.2.2.2.2.2.2 r hr
  obtain ⟨s, hs⟩ : ∃ s, s = st (v (45 + 18 * r + 2 + 4 * 0)) := ⟨_, rfl⟩
  have hs6 : s < 6 := by
    rw [hs]
    exact h6 _ (hrule.2.2.2.2 0 (Nat.zero_le _)).1
  have hM : ∀ f, f < 216 → st (f / 36) < s + 1 → (mdlV v st x).1 f = (itN (runS v st) (baseM v x, 0) (s + 1)).1 f := fun f hf hlt => by
    have e := runs_chg hok (X := (baseM v x, 0)) hf hlt (6 - (s + 1))
    rw [show s + 1 + (6 - (s + 1)) = 6 by omega] at e
    exact e
  have hF : fA v (bnd code) r 0 < 216 := fA_lt hok hb hr (Nat.zero_le _)
  have hFp : fA v (bnd code) r 0 / 36 = v (45 + 18 * r + 2 + 4 * 0) := fA_pred hok hb hr (Nat.zero_le _)
  have hholds : holdsR v (bnd code) (itN (runS v st) (baseM v x, 0) (s + 1)).1 r = true := by
    rw [← h2]
    unfold holdsR
    refine andN_cg fun a ha => ?_
    have hlt : fA v (bnd code) r (a + 1) < 216 := fA_lt hok hb hr (by omega)
    have hp : fA v (bnd code) r (a + 1) / 36 = v (45 + 18 * r + 2 + 4 * (a + 1)) := fA_pred hok hb hr (by omega)
    have hle := hst r hr a ha
    unfold hLit
    rw [hM _ hlt (by rw [hp]; omega)]
  obtain ⟨hX, -⟩ := mdlV_st (v := v) (st := st) x s
  have hz : cntS v st s (itN (runS v st) (baseM v x, 0) (s + 1)) = 0 := runS_set hX
  have hn := newF_in hok (st := st) (s := s) hr hc h1 hholds hs.symm rfl
  rw [cntB_0 hz _ hF] at hn
  rw [hM _ hF (by rw [hFp, ← hs]; omega)]
  exact of_decide_eq_false hn.symm
/-- each row of the holding instances comes from a binding that holds -/
def HoE (v : Nat → Nat) (m : Nat → Int32) (S : HoS) : Prop := ∀ i, i < S.1 → ∃ r code, r < v 2 ∧ code < 216 ∧ bOk v r code = true ∧ holdsR v (bnd code) m r = true ∧ S.2.2.1 i = fA v (bnd code) r 0
theorem hoC_E {v : Nat → Nat} (hok : OkN v) {m : Nat → Int32} {r code : Nat} (hr : r < v 2) (hc : code < 216) {S : HoS} (h : HoE v m S) : HoE v m (hoC v m r code S) := by
  have heq : ∀ x, x < 3 → bndU S.2.2.2.2 code x = bnd code x := fun x hx => bndU_at _ code hx
  unfold hoC
  rw [holdsR_b hok heq hr]
  by_cases q : (bOk v r code && holdsR v (bnd code) m r) = true
  · rw [if_pos q]
    rw [Bool.and_eq_true] at q
    intro i hi
    have hi : i < S.1 + 1 := hi
    by_cases e : i = S.1
    · refine ⟨r, code, hr, hc, q.1, q.2, ?_⟩
      show updN _ _ _ i = _
      rw [e, updN_same]
      exact fA_b hok heq hr (Nat.zero_le _)
    · obtain ⟨r', c', g1, g2, g3, g4, g5⟩ := h i (by omega)
      refine ⟨r', c', g1, g2, g3, g4, ?_⟩
      show updN _ _ _ i = _
      rw [updN_ne _ _ e]
      exact g5
  · rw [if_neg q]
    exact h
theorem hoV_E {v : Nat → Nat} (hok : OkN v) : HoE v (mdl0 v).1 (hoV v) := by
  unfold hoV hoF
  refine itN_inv (P := fun S => HoE v (mdl0 v).1 S) (N := v 2) (fun r hr S hS => ?_) (v 2) (Nat.le_refl _) (fun i hi => absurd hi (Nat.not_lt_zero i))
  unfold hoR
  exact itN_inv (P := fun S => HoE v (mdl0 v).1 S) (N := 216) (fun c hc S hS => hoC_E hok hr hc hS) 216 (Nat.le_refl _) hS
theorem hoV_in {v : Nat → Nat} (hok : OkN v) (hs : (strF v).2.2 = true) {i : Nat} (hi : i < (hoV v).1) : ¬ (mdl0 v).1 ((hoV v).2.2.1 i) < 0 := by
  obtain ⟨e, hC, h6⟩ := (st_eq hok).2 hs
  obtain ⟨r, code, g1, g2, g3, g4, g5⟩ := hoV_E hok i hi
  rw [g5]
  exact mdl_closed hok (stC_of hok hs) (fun p hp => by rw [e]; exact h6 p hp) g1 g2 g3 g4
theorem ins_none {v : Nat → Nat} (hok : OkN v) (hs : (strF v).2.2 = true) {f : Nat} (hm : (mdl0 v).1 f < 0) : ∀ n, n ≤ (hoV v).1 → insN (hoV v) f n = 0
  | 0, _ => rfl
  | n + 1, hn => by
    show insN (hoV v) f n + (if (hoV v).2.2.1 n = f then 1 else 0) = 0
    rw [ins_none hok hs hm n (by omega), if_neg (fun e => hoV_in hok hs (i := n) (by omega) (by rw [e]; exact hm))]
