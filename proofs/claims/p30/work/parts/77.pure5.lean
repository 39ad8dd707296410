/-! EACH FACT OF THE MODEL HAS A DERIVATION -/
def NwJ (v st : Nat → Nat) (m : Nat → Int32) (s f : Nat) : Prop := ∃ r code, r < v 2 ∧ code < 216 ∧ bOk v r code = true ∧ st (v (45 + 18 * r + 2 + 4 * 0)) = s ∧ holdsR v (bnd code) m r = true ∧ fA v (bnd code) r 0 = f ∧ m f < 0
set_option maxRecDepth 100000 in
theorem newF_J {v st : Nat → Nat} (hok : OkN v) {m : Nat → Int32} {s : Nat} : ∀ f, newF v st m s f = true → NwJ v st m s f := by
  unfold newF goA
  refine itN_inv (P := fun p : (Nat → Bool) × (Nat → Nat) => ∀ f, p.1 f = true → NwJ v st m s f) (N := v 2) (fun r hr p hp => ?_) (v 2) (Nat.le_refl _) (fun f h => ?_)
  · show ∀ f, (goR v st m s r p).1 f = true → NwJ v st m s f
    unfold goR
    split
    · rename_i hs
      refine itN_inv (P := fun p : (Nat → Bool) × (Nat → Nat) => ∀ f, p.1 f = true → NwJ v st m s f) (N := 216) (fun code hc p hp => ?_) 216 (Nat.le_refl _) hp
      have heq : ∀ x, x < 3 → bndU p.2 code x = bnd code x := fun x hx => bndU_at p.2 code hx
      show ∀ f, (goC v m r code p).1 f = true → NwJ v st m s f
      unfold goC
      rw [holdsR_b hok heq hr, fA_b hok heq hr (Nat.zero_le _)]
      intro f hf
      have hf : (if (bOk v r code && holdsR v (bnd code) m r) = true then updN p.1 (fA v (bnd code) r 0) (decide (m (fA v (bnd code) r 0) < 0)) else p.1) f = true := hf
      split at hf
      · rename_i q
        rw [Bool.and_eq_true] at q
        unfold updN at hf
        split at hf
        · rename_i e
          rw [e]
          exact ⟨r, code, hr, hc, q.1, hs, q.2, rfl, of_decide_eq_true hf⟩
        · exact hp f hf
      · exact hp f hf
    · exact hp
  · have e : clrB (fun _ => false) 216 f = false := by unfold clrB; split <;> rfl
    have h : clrB (fun _ => false) 216 f = true := h
    rw [e] at h
    cases h
/-- where a fact of round k comes from -/
def FrJ (v st : Nat → Nat) (m : Nat → Int32) (s f k : Nat) : Prop := ∃ r code, r < v 2 ∧ code < 216 ∧ bOk v r code = true ∧ st (v (45 + 18 * r + 2 + 4 * 0)) ≤ s ∧ fA v (bnd code) r 0 = f ∧ ∀ a, a < v (45 + 18 * r + 1) → (v (45 + 18 * r + 2 + 4 * (a + 1) + 3) = 0 → ∃ j, j < k ∧ m (fA v (bnd code) r (a + 1)) = nI j) ∧ (v (45 + 18 * r + 2 + 4 * (a + 1) + 3) ≠ 0 → m (fA v (bnd code) r (a + 1)) = -1)
def MdJ (v st : Nat → Nat) (s : Nat) (X : (Nat → Int32) × Nat) : Prop := ∀ f, f < 216 → ∀ k, k ≤ X.2 → X.1 f = nI k → (k = 0 → ∃ j, j < v 1 ∧ v (9 + 3 * j) = f) ∧ (0 < k → FrJ v st X.1 s f k)
theorem MdJ_step {v st : Nat → Nat} (hok : OkN v) (hst : StC v st) {s : Nat} {X : (Nat → Int32) × Nat} (hX : InvX X) (hm : MR X.1 X.2) (h : MdJ v st s X) : MdJ v st s (stepM v st s X) := by
  have hX2 : X.2 ≤ 216 := by unfold InvX at hX; omega
  by_cases h0 : cntS v st s X = 0
  · rw [stepM_0 h0]
    exact h
  have hpos : 0 < cntS v st s X := Nat.pos_of_ne_zero h0
  have e1 : ∀ f, f < 216 → (stepM v st s X).1 f = if newF v st X.1 s f = true then nI (X.2 + 1) else X.1 f := fun f hf => by
    show goM (newF v st X.1 s) X.1 (if 0 < cntS v st s X then X.2 + 1 else X.2) 216 f = _
    unfold goM
    rw [if_pos hf, if_pos hpos]
  have e2 : (stepM v st s X).2 = X.2 + 1 := if_pos hpos
  have hJ := newF_J (st := st) (m := X.1) (s := s) hok
  -- a literal that isn't there stays away, one that is there stays
  have keepN : ∀ r code a, r < v 2 → code < 216 → a < v (45 + 18 * r + 1) → v (45 + 18 * r + 2 + 4 * (a + 1) + 3) ≠ 0 → st (v (45 + 18 * r + 2 + 4 * 0)) ≤ s → X.1 (fA v (bnd code) r (a + 1)) = -1 → (stepM v st s X).1 (fA v (bnd code) r (a + 1)) = -1 := by
    intro r code a hr hc ha hn hs h1
    have hb : ∀ x, x < 3 → bnd code x < 6 := fun x hx => bndU_lt (fun _ => 0) hc hx
    have hf := fA_lt hok hb hr (show a + 1 ≤ v (45 + 18 * r + 1) by omega)
    have hp := fA_pred hok hb hr (show a + 1 ≤ v (45 + 18 * r + 1) by omega)
    have hC := hst r hr a ha
    rw [e1 _ hf]
    by_cases q : newF v st X.1 s (fA v (bnd code) r (a + 1)) = true
    · obtain ⟨r', c', g1, g2, g3, g4, g5, g6, g7⟩ := hJ _ q
      have hb' : ∀ x, x < 3 → bnd c' x < 6 := fun x hx => bndU_lt (fun _ => 0) g2 hx
      have hp' := fA_pred hok hb' g1 (Nat.zero_le (v (45 + 18 * r' + 1)))
      rw [g6, hp] at hp'
      rw [← hp'] at g4
      omega
    · rw [if_neg q]
      exact h1
  have keepP : ∀ f k, f < 216 → k < 2147483648 → X.1 f = nI k → (stepM v st s X).1 f = nI k := by
    intro f k hf hk h1
    rw [e1 f hf]
    by_cases q : newF v st X.1 s f = true
    · obtain ⟨r', c', g1, g2, g3, g4, g5, g6, g7⟩ := hJ _ q
      rw [h1] at g7
      exact absurd g7 (nI_pos (by omega))
    · rw [if_neg q]
      exact h1
  intro f hf k hk hfk
  rw [e2] at hk
  rw [e1 f hf] at hfk
  by_cases q : newF v st X.1 s f = true
  · rw [if_pos q] at hfk
    have hkk := (nI_eq (by omega) (by omega)).mp hfk
    refine ⟨fun hk0 => by omega, fun _ => ?_⟩
    obtain ⟨r, code, g1, g2, g3, g4, g5, g6, g7⟩ := hJ _ q
    have hb : ∀ x, x < 3 → bnd code x < 6 := fun x hx => bndU_lt (fun _ => 0) g2 hx
    refine ⟨r, code, g1, g2, g3, by omega, g6, fun a ha => ⟨fun hn => ?_, fun hn => ?_⟩⟩
    · have hl := (andN_iff _ _).mp g5 a ha
      unfold hLit at hl
      rw [decide_eq_true hn] at hl
      have hf' := fA_lt hok hb g1 (show a + 1 ≤ v (45 + 18 * r + 1) by omega)
      have hge : 0 ≤ X.1 (fA v (bnd code) r (a + 1)) := by
        refine Classical.byContradiction fun hno => ?_
        rw [decide_eq_false hno] at hl
        cases hl
      rcases hm (fA v (bnd code) r (a + 1)) with w | ⟨j, hj, w⟩
      · rw [w] at hge
        exact absurd hge (by decide)
      · exact ⟨j, by omega, keepP _ j hf' (by omega) w⟩
    · have hl := (andN_iff _ _).mp g5 a ha
      unfold hLit at hl
      rw [decide_eq_false hn] at hl
      have hneg : X.1 (fA v (bnd code) r (a + 1)) < 0 := by
        refine Classical.byContradiction fun hno => ?_
        rw [decide_eq_true (Int32.not_lt.mp hno)] at hl
        cases hl
      exact keepN r code a g1 g2 ha hn (by omega) ((hm.neg (by omega) _).mp hneg)
  · rw [if_neg q] at hfk
    by_cases hk2 : k ≤ X.2
    · obtain ⟨h1, h2⟩ := h f hf k hk2 hfk
      refine ⟨h1, fun hk0 => ?_⟩
      obtain ⟨r, code, g1, g2, g3, g4, g5, g6⟩ := h2 hk0
      have hb : ∀ x, x < 3 → bnd code x < 6 := fun x hx => bndU_lt (fun _ => 0) g2 hx
      refine ⟨r, code, g1, g2, g3, g4, g5, fun a ha => ⟨fun hn => ?_, fun hn => keepN r code a g1 g2 ha hn g4 ((g6 a ha).2 hn)⟩⟩
      obtain ⟨j, hj, w⟩ := (g6 a ha).1 hn
      have hf' := fA_lt hok hb g1 (show a + 1 ≤ v (45 + 18 * r + 1) by omega)
      exact ⟨j, hj, keepP _ j hf' (by omega) w⟩
    · rcases hm f with w | ⟨j, hj, w⟩
      · rw [w] at hfk
        exact absurd hfk.symm (nI_nm1 (by omega))
      · rw [w] at hfk
        have := (nI_eq (by omega) (by omega)).mp hfk
        omega
theorem MdJ_run {v st : Nat → Nat} (hok : OkN v) (hst : StC v st) {s : Nat} {X : (Nat → Int32) × Nat} (hX : InvX X) (hm : MR X.1 X.2) (h : MdJ v st s X) : ∀ k, MdJ v st s (itN (fun _ => stepM v st s) X k)
  | 0 => h
  | k + 1 => by
    obtain ⟨h1, h2⟩ := stepM_st (v := v) (st := st) (s := s) hX hm k
    exact MdJ_step hok hst h1 h2 (MdJ_run hok hst hX hm h k)
theorem MdJ_up {v st : Nat → Nat} {s : Nat} {X : (Nat → Int32) × Nat} (h : MdJ v st s X) : MdJ v st (s + 1) X := fun f hf k hk hfk => by
  obtain ⟨h1, h2⟩ := h f hf k hk hfk
  refine ⟨h1, fun hk0 => ?_⟩
  obtain ⟨r, code, g1, g2, g3, g4, g⟩ := h2 hk0
  exact ⟨r, code, g1, g2, g3, by omega, g⟩
theorem baseM_J {v : Nat → Nat} {x : Int32} : ∀ n, n ≤ v 1 → ∀ f, itN (fun k m => if delB x k then upd m (v (9 + 3 * k)) (nI 0) else m) (fun _ => (-1 : Int32)) n f = -1 ∨ (itN (fun k m => if delB x k then upd m (v (9 + 3 * k)) (nI 0) else m) (fun _ => (-1 : Int32)) n f = nI 0 ∧ ∃ j, j < v 1 ∧ v (9 + 3 * j) = f)
  | 0, _, f => Or.inl rfl
  | n + 1, hn, f => by
    have ih := baseM_J (v := v) (x := x) n (by omega) f
    have eS : itN (fun k m => if delB x k then upd m (v (9 + 3 * k)) (nI 0) else m) (fun _ => (-1 : Int32)) (n + 1) = if delB x n then upd (itN (fun k m => if delB x k then upd m (v (9 + 3 * k)) (nI 0) else m) (fun _ => (-1 : Int32)) n) (v (9 + 3 * n)) (nI 0) else itN (fun k m => if delB x k then upd m (v (9 + 3 * k)) (nI 0) else m) (fun _ => (-1 : Int32)) n := rfl
    rw [eS]
    generalize itN (fun k m => if delB x k then upd m (v (9 + 3 * k)) (nI 0) else m) (fun _ => (-1 : Int32)) n = T at ih ⊢
    split
    · by_cases e : f = v (9 + 3 * n)
      · exact Or.inr ⟨by simp [upd, e], n, by omega, e.symm⟩
      · have e' : upd T (v (9 + 3 * n)) (nI 0) f = T f := by simp [upd, e]
        rw [e']
        exact ih
    · exact ih
theorem mdl_J {v st : Nat → Nat} (hok : OkN v) (hst : StC v st) (x : Int32) : ∀ s, s ≤ 6 → MdJ v st s (itN (runS v st) (baseM v x, 0) s)
  | 0, _ => fun f hf k hk hfk => by
    have hk0 : k = 0 := Nat.le_zero.mp hk
    subst hk0
    rcases baseM_J (v := v) (x := x) (v 1) (Nat.le_refl _) f with w | ⟨-, w⟩
    · have hfk : itN (fun k m => if delB x k then upd m (v (9 + 3 * k)) (nI 0) else m) (fun _ => (-1 : Int32)) (v 1) f = nI 0 := hfk
      rw [w] at hfk
      exact absurd hfk (by decide)
    · exact ⟨fun _ => w, fun q => absurd q (by omega)⟩
  | s + 1, hs => by
    obtain ⟨h1, h2⟩ := mdlV_st (v := v) (st := st) x s
    exact MdJ_up (MdJ_run hok hst h1 h2 (mdl_J hok hst x s (by omega)) 217)
/-- each binding that holds is among the rows -/
def EnJ (v : Nat → Nat) (S : HoS) (r c j : Nat) : Prop := j < S.1 ∧ S.2.1 j = r ∧ S.2.2.1 j = fA v (bnd c) r 0 ∧ ∀ a, a < 3 → S.2.2.2.1 (3 * j + a) = liA v (bnd c) r (a + 1)
theorem hoC_J {v : Nat → Nat} (hok : OkN v) {m : Nat → Int32} {r c : Nat} (hr : r < v 2) {S : HoS} : (∀ r' c' j, EnJ v S r' c' j → EnJ v (hoC v m r c S) r' c' j) ∧ (bOk v r c = true → holdsR v (bnd c) m r = true → EnJ v (hoC v m r c S) r c S.1) := by
  have heq : ∀ x, x < 3 → bndU S.2.2.2.2 c x = bnd c x := fun x hx => bndU_at _ c hx
  unfold hoC
  rw [holdsR_b hok heq hr]
  obtain ⟨l1, l2⟩ := liU_at v (bndU S.2.2.2.2 c) r S.1 S.2.2.2.1
  refine ⟨fun r' c' j hj => ?_, fun h1 h2 => ?_⟩
  · split
    · obtain ⟨g1, g2, g3, g4⟩ := hj
      refine ⟨by show j < S.1 + 1; omega, ?_, ?_, fun a ha => ?_⟩
      · show updN _ _ _ _ = _
        rw [updN_ne _ _ (by omega)]; exact g2
      · show updN _ _ _ _ = _
        rw [updN_ne _ _ (by omega)]; exact g3
      · exact (l2 (3 * j + a) (by omega)).trans (g4 a ha)
    · exact hj
  · rw [h1, h2, Bool.and_true, if_pos rfl]
    refine ⟨Nat.lt_succ_self _, updN_same _ _ _, ?_, fun a ha => ?_⟩
    · show updN _ _ _ _ = _
      rw [updN_same]
      exact fA_b hok heq hr (Nat.zero_le _)
    · exact (l1 a ha).trans (liA_b hok heq hr)
set_option maxRecDepth 100000 in
theorem hoF_J {v : Nat → Nat} (hok : OkN v) {m : Nat → Int32} (S0 : HoS) {r c : Nat} (hr : r < v 2) (hc : c < 216) (h1 : bOk v r c = true) (h2 : holdsR v (bnd c) m r = true) : ∃ j, EnJ v (hoF v m S0) r c j := by
  have keepC : ∀ r', r' < v 2 → ∀ (S : HoS) (r1 c1 j : Nat), EnJ v S r1 c1 j → ∀ n, EnJ v (itN (hoC v m r') S n) r1 c1 j := by
    intro r' hr' S r1 c1 j hj n
    induction n with
    | zero => exact hj
    | succ n ih => exact (hoC_J hok hr').1 _ _ _ ih
  have inC : ∀ (S : HoS) n, c < n → ∃ j, EnJ v (itN (hoC v m r) S n) r c j := by
    intro S n
    induction n with
    | zero => intro h; exact absurd h (Nat.not_lt_zero c)
    | succ n ih =>
      intro h
      by_cases e : c = n
      · subst e
        exact ⟨_, (hoC_J hok hr).2 h1 h2⟩
      · obtain ⟨j, hj⟩ := ih (by omega)
        exact ⟨j, (hoC_J hok hr).1 _ _ _ hj⟩
  have inR : ∀ n, n ≤ v 2 → r < n → ∃ j, EnJ v (itN (hoR v m) S0 n) r c j := by
    intro n
    induction n with
    | zero => intro _ h; exact absurd h (Nat.not_lt_zero r)
    | succ n ih =>
      intro hn h
      by_cases e : r = n
      · subst e
        exact inC _ 216 hc
      · obtain ⟨j, hj⟩ := ih (by omega) (by omega)
        exact ⟨j, keepC n (by omega) _ r c j hj 216⟩
  exact inR (v 2) (Nat.le_refl _) hr
/-- what is closed and has the base facts has the model -/
theorem mdl_der {v st : Nat → Nat} (hok : OkN v) (hst : StC v st) {S0 : HoS} {D : Nat → Bool} (hb : ∀ k, k < v 1 → D (v (9 + 3 * k)) = true) (hc : DvC (hoF v (mdlV v st (nI 0)).1 S0) D) : ∀ f, f < 216 → ¬ (mdlV v st (nI 0)).1 f < 0 → D f = true := by
  have hJ : MdJ v st 6 (mdlV v st (nI 0)) := mdl_J hok hst (nI 0) 6 (Nat.le_refl _)
  obtain ⟨hX, hm⟩ : InvX (mdlV v st (nI 0)) ∧ MR (mdlV v st (nI 0)).1 (mdlV v st (nI 0)).2 := mdlV_st (v := v) (st := st) (nI 0) 6
  have hX2 : (mdlV v st (nI 0)).2 ≤ 216 := by unfold InvX at hX; omega
  have hin := fun r c (hr : r < v 2) (hcc : c < 216) => hoF_J hok (m := (mdlV v st (nI 0)).1) S0 hr hcc
  generalize hoF v (mdlV v st (nI 0)).1 S0 = S at hc hin
  generalize mdlV v st (nI 0) = X at hJ hX hm hX2 hin
  have main : ∀ k, k ≤ X.2 → ∀ f, f < 216 → X.1 f = nI k → D f = true := by
    intro k
    induction k using Nat.strongRecOn with
    | _ k ih =>
      intro hk f hf hfk
      obtain ⟨j1, j2⟩ := hJ f hf k hk hfk
      rcases Nat.eq_zero_or_pos k with q | q
      · obtain ⟨j, hj, e⟩ := j1 q
        rw [← e]
        exact hb j hj
      · obtain ⟨r, code, g1, g2, g3, g4, g5, g6⟩ := j2 q
        have hbd : ∀ x, x < 3 → bnd code x < 6 := fun x hx => bndU_lt (fun _ => 0) g2 hx
        have hholds : holdsR v (bnd code) X.1 r = true := (andN_iff _ _).mpr fun a ha => by
          unfold hLit
          by_cases hn : v (45 + 18 * r + 2 + 4 * (a + 1) + 3) = 0
          · obtain ⟨j, hj, w⟩ := (g6 a ha).1 hn
            rw [w, decide_eq_true hn, decide_eq_true (nI_pos' (by omega))]
            rfl
          · have w := (g6 a ha).2 hn
            rw [w, decide_eq_false hn]
            decide
        obtain ⟨j, w1, w2, w3, w4⟩ := hin r code g1 g2 g3 hholds
        have hall : allL S D j = true := (andN_iff _ _).mpr fun a ha => by
          rw [w4 a ha]
          unfold litB liA
          by_cases hpl : plA v r (a + 1) = true
          · rw [if_pos hpl]
            unfold plA at hpl
            rw [Bool.and_eq_true] at hpl
            have ha1 := of_decide_eq_true hpl.1
            have hf' := fA_lt hok hbd g1 ha1
            obtain ⟨i, hi, w⟩ := (g6 a (by omega)).1 (of_decide_eq_true hpl.2)
            rw [if_neg (nI_pos (by omega)), nI_clamp (by omega)]
            exact ih i hi (by omega) _ hf' w
          · rw [if_neg hpl]
            exact if_pos (by decide)
        have := hc j w1 hall
        rw [w3, g5] at this
        exact this
  intro f hf hn
  rcases hm f with w | ⟨k, hk, w⟩
  · rw [w] at hn
    exact absurd (by decide) hn
  · exact main k hk f hf w
