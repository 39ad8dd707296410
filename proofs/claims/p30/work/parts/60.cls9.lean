/-! THE CLASS'S MODEL: a round is the reference's round -/
theorem enC_keep {v : Nat → Nat} {r : Nat} {S : EnS} {i : Nat} (hi : i < S.1) : ∀ k, S.1 ≤ (itN (enC v r) S k).1 ∧ (itN (enC v r) S k).2.1 i = S.2.1 i ∧ (itN (enC v r) S k).2.2 i = S.2.2 i
  | 0 => ⟨Nat.le_refl _, rfl, rfl⟩
  | k + 1 => by
    obtain ⟨h1, h2, h3⟩ := enC_keep (v := v) (r := r) hi k
    show S.1 ≤ (enC v r k (itN (enC v r) S k)).1 ∧ (enC v r k (itN (enC v r) S k)).2.1 i = S.2.1 i ∧ (enC v r k (itN (enC v r) S k)).2.2 i = S.2.2 i
    generalize itN (enC v r) S k = T at h1 h2 h3 ⊢
    unfold enC
    split
    · refine ⟨Nat.le_trans h1 (Nat.le_succ _), ?_, ?_⟩
      · show updN _ _ _ _ = _
        rw [updN_ne _ _ (by omega)]; exact h2
      · show updN _ _ _ _ = _
        rw [updN_ne _ _ (by omega)]; exact h3
    · exact ⟨h1, h2, h3⟩
theorem enC_le {v : Nat → Nat} {r : Nat} {S : EnS} : ∀ k, S.1 ≤ (itN (enC v r) S k).1
  | 0 => Nat.le_refl _
  | k + 1 => by
    have := enC_le (v := v) (r := r) (S := S) k
    show S.1 ≤ (enC v r k (itN (enC v r) S k)).1
    generalize itN (enC v r) S k = T at this ⊢
    unfold enC
    split
    · exact Nat.le_trans this (Nat.le_succ _)
    · exact this
theorem enF_keep {v : Nat → Nat} {k i : Nat} (hi : i < (enF v k).1) : ∀ m, (enF v k).1 ≤ (enF v (k + m)).1 ∧ (enF v (k + m)).2.1 i = (enF v k).2.1 i ∧ (enF v (k + m)).2.2 i = (enF v k).2.2 i
  | 0 => ⟨Nat.le_refl _, rfl, rfl⟩
  | m + 1 => by
    obtain ⟨h1, h2, h3⟩ := enF_keep hi m
    obtain ⟨g1, g2, g3⟩ := enC_keep (v := v) (r := k + m) (S := enF v (k + m)) (i := i) (by omega) 216
    exact ⟨Nat.le_trans h1 g1, g2.trans h2, g3.trans h3⟩
theorem enF_mono {v : Nat → Nat} {k : Nat} : ∀ m, (enF v k).1 ≤ (enF v (k + m)).1
  | 0 => Nat.le_refl _
  | m + 1 => Nat.le_trans (enF_mono m) (enC_le (v := v) (r := k + m) (S := enF v (k + m)) 216)
/-- the instance of a binding -/
theorem en_at {v : Nat → Nat} {N r c : Nat} (hr : r < N) (hc : c < 216) (hb : bOk v r c = true) : (itN (enC v r) (enF v r) c).1 < (enF v (r + 1)).1 ∧ (enF v N).2.1 (itN (enC v r) (enF v r) c).1 = r ∧ (enF v N).2.2 (itN (enC v r) (enF v r) c).1 = c := by
  have e1 : itN (enC v r) (enF v r) (c + 1) = ((itN (enC v r) (enF v r) c).1 + 1, updN (itN (enC v r) (enF v r) c).2.1 (itN (enC v r) (enF v r) c).1 r, updN (itN (enC v r) (enF v r) c).2.2 (itN (enC v r) (enF v r) c).1 c) := if_pos hb
  have hlt : (itN (enC v r) (enF v r) c).1 < (itN (enC v r) (enF v r) (c + 1)).1 := by rw [e1]; exact Nat.lt_succ_self _
  have keep : ∀ m, (itN (enC v r) (enF v r) c).1 < (itN (enC v r) (enF v r) (c + 1 + m)).1 ∧ (itN (enC v r) (enF v r) (c + 1 + m)).2.1 (itN (enC v r) (enF v r) c).1 = r ∧ (itN (enC v r) (enF v r) (c + 1 + m)).2.2 (itN (enC v r) (enF v r) c).1 = c := by
    intro m
    induction m with
    | zero =>
      refine ⟨hlt, ?_, ?_⟩
      · rw [Nat.add_zero, e1]; exact updN_same _ _ _
      · rw [Nat.add_zero, e1]; exact updN_same _ _ _
    | succ m ih =>
      obtain ⟨h1, h2, h3⟩ := ih
      show _ < (enC v r (c + 1 + m) (itN (enC v r) (enF v r) (c + 1 + m))).1 ∧ (enC v r (c + 1 + m) (itN (enC v r) (enF v r) (c + 1 + m))).2.1 _ = r ∧ (enC v r (c + 1 + m) (itN (enC v r) (enF v r) (c + 1 + m))).2.2 _ = c
      generalize itN (enC v r) (enF v r) (c + 1 + m) = T at h1 h2 h3 ⊢
      generalize (itN (enC v r) (enF v r) c).1 = i at h1 h2 h3 ⊢
      unfold enC
      split
      · refine ⟨Nat.lt_succ_of_lt h1, ?_, ?_⟩
        · show updN _ _ _ _ = _
          rw [updN_ne _ _ (Nat.ne_of_lt h1)]; exact h2
        · show updN _ _ _ _ = _
          rw [updN_ne _ _ (Nat.ne_of_lt h1)]; exact h3
      · exact ⟨h1, h2, h3⟩
  have h := keep (216 - (c + 1))
  rw [show c + 1 + (216 - (c + 1)) = 216 by omega] at h
  have hF : enF v (r + 1) = itN (enC v r) (enF v r) 216 := rfl
  rw [← hF] at h
  obtain ⟨h1, h2, h3⟩ := h
  obtain ⟨-, k2, k3⟩ := enF_keep h1 (N - (r + 1))
  rw [show r + 1 + (N - (r + 1)) = N by omega] at k2 k3
  exact ⟨h1, k2.trans h2, k3.trans h3⟩
/-- steps over the instances of a rule are steps over its bindings -/
theorem en_fold {α : Type} {v : Nat → Nat} (N : Nat) (F : Nat → Nat → α → α) {r : Nat} (hr : r < N) (a : α) : ∀ k, k ≤ 216 → itN (fun j => F ((enF v N).2.1 ((enF v r).1 + j)) ((enF v N).2.2 ((enF v r).1 + j))) a ((itN (enC v r) (enF v r) k).1 - (enF v r).1) = itN (fun c a => if bOk v r c = true then F r c a else a) a k
  | 0, _ => by
    show itN _ a ((enF v r).1 - (enF v r).1) = a
    rw [Nat.sub_self]
    rfl
  | k + 1, hk => by
    have ih := en_fold (v := v) N F hr a k (by omega)
    have hle := enC_le (v := v) (r := r) (S := enF v r) k
    show _ = if bOk v r k = true then F r k (itN (fun c a => if bOk v r c = true then F r c a else a) a k) else itN (fun c a => if bOk v r c = true then F r c a else a) a k
    by_cases hb : bOk v r k = true
    · obtain ⟨h1, h2, h3⟩ := en_at (N := N) hr (by omega) hb
      have e1 : (itN (enC v r) (enF v r) (k + 1)).1 = (itN (enC v r) (enF v r) k).1 + 1 := by
        show (enC v r k (itN (enC v r) (enF v r) k)).1 = _
        unfold enC
        rw [if_pos hb]
      rw [if_pos hb, e1, ← ih, show (itN (enC v r) (enF v r) k).1 + 1 - (enF v r).1 = ((itN (enC v r) (enF v r) k).1 - (enF v r).1) + 1 by omega]
      show F ((enF v N).2.1 ((enF v r).1 + ((itN (enC v r) (enF v r) k).1 - (enF v r).1))) ((enF v N).2.2 ((enF v r).1 + ((itN (enC v r) (enF v r) k).1 - (enF v r).1))) _ = _
      rw [show (enF v r).1 + ((itN (enC v r) (enF v r) k).1 - (enF v r).1) = (itN (enC v r) (enF v r) k).1 by omega, h2, h3]
    · have e1 : itN (enC v r) (enF v r) (k + 1) = itN (enC v r) (enF v r) k := by
        show enC v r k (itN (enC v r) (enF v r) k) = _
        unfold enC
        rw [if_neg hb]
      rw [if_neg hb, e1, ih]
theorem itN_split {α : Type} (f : Nat → α → α) (a : α) (m : Nat) : ∀ n, itN f a (m + n) = itN (fun j => f (m + j)) (itN f a m) n
  | 0 => rfl
  | n + 1 => by
    show f (m + n) (itN f a (m + n)) = f (m + n) _
    rw [itN_split f a m n]
/-- steps over all instances -/
theorem en_folds {α : Type} {v : Nat → Nat} (N : Nat) (F : Nat → Nat → α → α) (a : α) : ∀ k, k ≤ N → itN (fun i => F ((enF v N).2.1 i) ((enF v N).2.2 i)) a (enF v k).1 = itN (fun r a => itN (fun c a => if bOk v r c = true then F r c a else a) a 216) a k
  | 0, _ => rfl
  | k + 1, hk => by
    have h1 := en_fold (v := v) N F (r := k) (by omega) (itN (fun i => F ((enF v N).2.1 i) ((enF v N).2.2 i)) a (enF v k).1) 216 (Nat.le_refl _)
    have hle := enC_le (v := v) (r := k) (S := enF v k) 216
    have hF : itN (enC v k) (enF v k) 216 = enF v (k + 1) := rfl
    rw [hF] at h1 hle
    have h2 := itN_split (fun i => F ((enF v N).2.1 i) ((enF v N).2.2 i)) a (enF v k).1 ((enF v (k + 1)).1 - (enF v k).1)
    rw [show (enF v k).1 + ((enF v (k + 1)).1 - (enF v k).1) = (enF v (k + 1)).1 by omega] at h2
    rw [h2, h1, en_folds N F a k (by omega)]
    rfl
/-- an instance's turn in a round -/
def tkC (v : Nat → Nat) (rd r c : Nat) (S : (Nat → Int32) × Bool) : (Nat → Int32) × Bool :=
  if S.1 (fA v (bnd c) r 0) = -1 ∧ andN (hbL v (bnd c) S.1 (nI rd) r) (v (45 + 18 * r + 1)) = true then (upd S.1 (fA v (bnd c) r 0) (nI rd), true) else S
def tkB2 (v : Nat → Nat) (rd r c : Nat) (S : (Nat → Int32) × Bool) : (Nat → Int32) × Bool := if bOk v r c = true then tkC v rd r c S else S
def rnR (v st : Nat → Nat) (s rd r : Nat) (S : (Nat → Int32) × Bool) : (Nat → Int32) × Bool := if st (v (45 + 18 * r + 2 + 4 * 0)) = s then itN (tkB2 v rd r) S 216 else S
def rnd (v st : Nat → Nat) (s rd : Nat) (m : Nat → Int32) : (Nat → Int32) × Bool := itN (rnR v st s rd) (m, false) (v 2)
/-- the strata keep the rules -/
def StC (v st : Nat → Nat) : Prop := ∀ r, r < v 2 → ∀ a, a < v (45 + 18 * r + 1) → st (v (45 + 18 * r + 2 + 4 * (a + 1))) + v (45 + 18 * r + 2 + 4 * (a + 1) + 3) ≤ st (v (45 + 18 * r + 2 + 4 * 0))
/-- the rounds of a model: none, or up to R -/
def MR (m : Nat → Int32) (R : Nat) : Prop := ∀ f, m f = -1 ∨ ∃ k, k ≤ R ∧ m f = nI k
theorem MR.mono {m : Nat → Int32} {R R' : Nat} (h : MR m R) (hR : R ≤ R') : MR m R' := fun f => (h f).imp id (fun ⟨k, h1, h2⟩ => ⟨k, by omega, h2⟩)
theorem MR.neg {m : Nat → Int32} {R : Nat} (h : MR m R) (hR : R < 2147483648) (f : Nat) : m f < 0 ↔ m f = -1 := by
  rcases h f with e | ⟨k, h1, e⟩
  · rw [e]; decide
  · rw [e]
    constructor
    · intro q; exact absurd q (nI_pos (by omega))
    · intro q
      have := nI_pos' (n := k) (by omega)
      rw [q] at this
      exact absurd this (by decide)
theorem fA_pred {v b : Nat → Nat} (hok : OkN v) (hb : ∀ x, x < 3 → b x < 6) {r a : Nat} (hr : r < v 2) (ha : a ≤ v (45 + 18 * r + 1)) : fA v b r a / 36 = v (45 + 18 * r + 2 + 4 * a) := by
  obtain ⟨-, w1, w2, -⟩ := (hok.2.2.2.2.2.2 r hr).2.2.2.2 a ha
  have h1 := tOf_lt hb w1
  have h2 := tOf_lt hb w2
  unfold fA
  omega
/-- a round under way, on both sides -/
def RJ (st : Nat → Nat) (m : Nat → Int32) (s rd : Nat) (S : (Nat → Int32) × Bool) (p : (Nat → Bool) × (Nat → Nat)) : Prop :=
  (∀ f, f < 216 → S.1 f = if p.1 f = true then nI rd else m f) ∧ (∀ f, 216 ≤ f → S.1 f = m f) ∧ (S.2 = true ↔ ∃ f, f < 216 ∧ p.1 f = true) ∧ (∀ f, f < 216 → p.1 f = true → m f < 0 ∧ st (f / 36) = s)
theorem hbL_holds {v st : Nat → Nat} (hok : OkN v) (hst : StC v st) {m : Nat → Int32} {s rd : Nat} (hrd : rd < 1000000) (hm : MR m (rd - 1)) (hrd1 : 1 ≤ rd) {S : (Nat → Int32) × Bool} {p : (Nat → Bool) × (Nat → Nat)} (hJ : RJ st m s rd S p) {r : Nat} {b : Nat → Nat} (hr : r < v 2) (hs : st (v (45 + 18 * r + 2 + 4 * 0)) = s) (hb : ∀ x, x < 3 → b x < 6) : andN (hbL v b S.1 (nI rd) r) (v (45 + 18 * r + 1)) = holdsR v b m r := by
  obtain ⟨j1, j2, j3, j4⟩ := hJ
  unfold holdsR
  refine andN_cg fun a ha => ?_
  have hf := fA_lt hok hb hr (show a + 1 ≤ v (45 + 18 * r + 1) by omega)
  have hpd := fA_pred hok hb hr (show a + 1 ≤ v (45 + 18 * r + 1) by omega)
  have hc := hst r hr a ha
  rw [hs] at hc
  unfold hbL hLit
  generalize fA v b r (a + 1) = f at hf hpd ⊢
  rw [j1 f hf]
  by_cases q : v (45 + 18 * r + 2 + 4 * (a + 1) + 3) = 0
  · rw [if_pos q, decide_eq_true q]
    by_cases hp : p.1 f = true
    · rw [if_pos hp]
      have := (j4 f hf hp).1
      rw [decide_eq_false (Int32.not_le.mpr this), decide_eq_false (show ¬ nI rd < nI rd from Int32.lt_irrefl)]
      simp
    · rw [if_neg hp]
      rcases hm f with e | ⟨k, h1, e⟩
      · rw [e, decide_eq_true (show (-1 : Int32) = -1 from rfl), decide_eq_false (show ¬ (0 : Int32) ≤ -1 by decide)]; rfl
      · rw [e, decide_eq_true (nI_pos' (by omega)), decide_eq_true ((nI_ltI (by omega) (by omega)).mpr (show k < rd by omega)), decide_eq_false (show ¬ nI k = -1 from fun q => by
          have := nI_pos' (n := k) (by omega)
          rw [q] at this
          exact absurd this (by decide))]
        rfl
  · rw [if_neg q, decide_eq_false q]
    have hp : ¬ p.1 f = true := fun hp => by
      have := (j4 f hf hp).2
      rw [hpd] at this
      omega
    rw [if_neg hp]
    rcases hm f with e | ⟨k, h1, e⟩
    · rw [e]; decide
    · rw [e, decide_eq_true (nI_pos' (by omega)), decide_eq_false (show ¬ nI k = -1 from fun q => by
        have := nI_pos' (n := k) (by omega)
        rw [q] at this
        exact absurd this (by decide))]
      rfl
theorem nI_nm1 {k : Nat} (hk : k < 2147483648) : ¬ nI k = -1 := fun q => by
  have := nI_pos' (n := k) (by omega)
  rw [q] at this
  exact absurd this (by decide)
theorem RJ_step {v st : Nat → Nat} (hok : OkN v) (hst : StC v st) {m : Nat → Int32} {s rd : Nat} (hrd : rd < 1000000) (hm : MR m (rd - 1)) (hrd1 : 1 ≤ rd) {S : (Nat → Int32) × Bool} {p : (Nat → Bool) × (Nat → Nat)} (hJ : RJ st m s rd S p) {r c : Nat} (hr : r < v 2) (hc : c < 216) (hs : st (v (45 + 18 * r + 2 + 4 * 0)) = s) : RJ st m s rd (tkB2 v rd r c S) (goC v m r c p) := by
  have hb : ∀ x, x < 3 → bnd c x < 6 := fun x hx => bndU_lt _ hc hx
  have heq : ∀ x, x < 3 → bndU p.2 c x = bnd c x := fun x hx => bndU_at p.2 c hx
  unfold tkB2 goC tkC
  rw [hbL_holds hok hst hrd hm hrd1 hJ hr hs hb, holdsR_b hok heq hr, fA_b hok heq hr (Nat.zero_le _)]
  have hf := fA_lt hok hb hr (Nat.zero_le _)
  have hpd := fA_pred hok hb hr (Nat.zero_le _)
  rw [← hpd] at hs
  generalize fA v (bnd c) r 0 = f at hf hs ⊢
  obtain ⟨j1, j2, j3, j4⟩ := hJ
  cases hbk : bOk v r c
  · rw [if_neg (by decide), Bool.false_and, if_neg (by decide)]
    exact ⟨j1, j2, j3, j4⟩
  · rw [if_pos rfl, Bool.true_and]
    cases hh : holdsR v (bnd c) m r
    · rw [if_neg (fun q => absurd q.2 (by decide)), if_neg (by decide)]
      exact ⟨j1, j2, j3, j4⟩
    · rw [if_pos rfl]
      by_cases hp : p.1 f = true
      · obtain ⟨hn, -⟩ := j4 f hf hp
        have e1 : S.1 f = nI rd := by rw [j1 f hf, if_pos hp]
        have e2 : updN p.1 f (decide (m f < 0)) = p.1 := by
          funext j
          unfold updN
          split
          · rename_i q
            rw [q, hp, decide_eq_true hn]
          · rfl
        rw [if_neg (fun q => nI_nm1 (by omega) (e1.symm.trans q.1)), e2]
        exact ⟨j1, j2, j3, j4⟩
      · have e1 : S.1 f = m f := by rw [j1 f hf, if_neg hp]
        rw [e1]
        by_cases hn : m f = -1
        · rw [if_pos ⟨hn, rfl⟩]
          have hn2 : m f < 0 := by rw [hn]; decide
          rw [decide_eq_true hn2]
          refine ⟨fun j hj => ?_, fun j hj => ?_, ⟨fun _ => ⟨f, hf, updN_same _ _ _⟩, fun _ => rfl⟩, fun j hj hq => ?_⟩
          · show upd S.1 f (nI rd) j = if updN p.1 f true j = true then nI rd else m j
            by_cases e : j = f
            · subst e
              rw [updN_same, if_pos rfl]
              simp [upd]
            · rw [updN_ne _ _ e, ← j1 j hj]
              simp [upd, e]
          · show upd S.1 f (nI rd) j = m j
            have e : ¬ j = f := by omega
            rw [← j2 j hj]
            simp [upd, e]
          · have hq : updN p.1 f true j = true := hq
            by_cases e : j = f
            · subst e; exact ⟨hn2, hs⟩
            · rw [updN_ne _ _ e] at hq
              exact j4 j hj hq
        · rw [if_neg (fun q => hn q.1)]
          have hn2 : ¬ m f < 0 := fun q => hn ((hm.neg (by omega) f).mp q)
          have e2 : updN p.1 f (decide (m f < 0)) = p.1 := by
            funext j
            unfold updN
            split
            · rename_i q
              rw [q, decide_eq_false hn2]
              cases hq : p.1 f
              · rfl
              · exact absurd hq hp
            · rfl
          rw [e2]
          exact ⟨j1, j2, j3, j4⟩
theorem cntB_pos {f : Nat → Bool} : ∀ {n : Nat}, 0 < cntB f n ↔ ∃ k, k < n ∧ f k = true
  | 0 => ⟨fun h => absurd h (Nat.not_lt_zero _), fun ⟨k, h, _⟩ => absurd h (Nat.not_lt_zero _)⟩
  | n + 1 => by
    constructor
    · intro h
      refine Classical.byContradiction fun q => ?_
      have h0 : cntB f (n + 1) = 0 := by
        have e : ∀ k, k < n + 1 → f k = (fun _ => false) k := fun k hk => by
          cases hk2 : f k
          · rfl
          · exact absurd ⟨k, hk, hk2⟩ q
        rw [cntB_cg e]
        clear h q e
        induction n with
        | zero => rfl
        | succ n ih => simp only [cntB] at ih ⊢; omega
      omega
    · rintro ⟨k, hk, hf⟩
      rcases Nat.eq_zero_or_pos (cntB f (n + 1)) with h | h
      · have := cntB_0 h k hk
        rw [hf] at this
        cases this
      · exact h
set_option maxRecDepth 100000 in
theorem rnd_eq {v st : Nat → Nat} (hok : OkN v) (hst : StC v st) {s : Nat} {X : (Nat → Int32) × Nat} (hX : X.2 < 999999) (hm : MR X.1 X.2) : (rnd v st s (X.2 + 1) X.1).1 = (stepM v st s X).1 ∧ (rnd v st s (X.2 + 1) X.1).2 = decide (0 < cntS v st s X) := by
  have hJ : RJ st X.1 s (X.2 + 1) (rnd v st s (X.2 + 1) X.1) (goA v st X.1 s (fun _ => false) (fun _ => 0)) := by
    unfold rnd goA
    have hrel : ∀ n, n ≤ v 2 → RJ st X.1 s (X.2 + 1) (itN (rnR v st s (X.2 + 1)) (X.1, false) n) (itN (goR v st X.1 s) (clrB (fun _ => false) 216, fun _ => 0) n) := by
      intro n
      induction n with
      | zero =>
        intro _
        have e : ∀ f, clrB (fun _ => false) 216 f = false := fun f => by unfold clrB; split <;> rfl
        refine ⟨fun f hf => ?_, fun f hf => rfl, ⟨fun q => (by cases q), fun ⟨f, hf, q⟩ => ?_⟩, fun f hf q => ?_⟩
        · show X.1 f = if clrB (fun _ => false) 216 f = true then _ else _
          rw [e f, if_neg (by decide)]
        · have q : clrB (fun _ => false) 216 f = true := q
          rw [e f] at q
          cases q
        · have q : clrB (fun _ => false) 216 f = true := q
          rw [e f] at q
          cases q
      | succ n ih =>
        intro hn
        have h0 := ih (by omega)
        show RJ st X.1 s (X.2 + 1) (rnR v st s (X.2 + 1) n (itN (rnR v st s (X.2 + 1)) (X.1, false) n)) (goR v st X.1 s n (itN (goR v st X.1 s) (clrB (fun _ => false) 216, fun _ => 0) n))
        generalize itN (rnR v st s (X.2 + 1)) (X.1, false) n = S at h0 ⊢
        generalize itN (goR v st X.1 s) (clrB (fun _ => false) 216, fun _ => 0) n = p at h0 ⊢
        unfold rnR goR
        by_cases hs : st (v (45 + 18 * n + 2 + 4 * 0)) = s
        · rw [if_pos hs, if_pos hs]
          have hin : ∀ k, k ≤ 216 → RJ st X.1 s (X.2 + 1) (itN (tkB2 v (X.2 + 1) n) S k) (itN (goC v X.1 n) p k) := by
            intro k
            induction k with
            | zero => exact fun _ => h0
            | succ k ihk => exact fun hk => RJ_step hok hst (by omega) (by rw [Nat.add_sub_cancel]; exact hm) (by omega) (ihk (by omega)) (by omega) (by omega) hs
          exact hin 216 (Nat.le_refl _)
        · rw [if_neg hs, if_neg hs]
          exact h0
    exact hrel (v 2) (Nat.le_refl _)
  have hn : (goA v st X.1 s (fun _ => false) (fun _ => 0)).1 = newF v st X.1 s := rfl
  obtain ⟨j1, j2, j3, j4⟩ := hJ
  rw [hn] at j1 j3 j4
  have hc : (∃ f, f < 216 ∧ newF v st X.1 s f = true) ↔ 0 < cntS v st s X := cntB_pos.symm
  refine ⟨?_, ?_⟩
  · funext f
    show _ = goM (newF v st X.1 s) X.1 (if 0 < cntS v st s X then X.2 + 1 else X.2) 216 f
    unfold goM
    by_cases hf : f < 216
    · rw [if_pos hf, j1 f hf]
      by_cases q : newF v st X.1 s f = true
      · rw [if_pos q, if_pos q, if_pos (hc.mp ⟨f, hf, q⟩)]
      · rw [if_neg q, if_neg q]
    · rw [if_neg hf]
      exact j2 f (by omega)
  · rw [Bool.eq_iff_iff, j3, hc, decide_eq_true_iff]
theorem stepM_MR {v st : Nat → Nat} {s : Nat} {X : (Nat → Int32) × Nat} (hm : MR X.1 X.2) : MR (stepM v st s X).1 (stepM v st s X).2 := by
  intro f
  have key : ∀ k2 : Nat, X.2 ≤ k2 → ∀ y : Int32, y = goM (newF v st X.1 s) X.1 k2 216 f → y = -1 ∨ ∃ k, k ≤ k2 ∧ y = nI k := by
    intro k2 hle y hy
    rw [hy]
    unfold goM
    split
    · split
      · exact Or.inr ⟨k2, Nat.le_refl _, rfl⟩
      · exact hm.mono hle f
    · exact hm.mono hle f
  exact key (if 0 < cntS v st s X then X.2 + 1 else X.2) (by split <;> omega) _ rfl
