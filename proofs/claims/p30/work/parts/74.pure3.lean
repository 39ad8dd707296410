/-! STRATA: both sides find the same -/
theorem dueV_ge {v st : Nat → Nat} {r : Nat} : ∀ n, ∀ a, a < n → st (v (45 + 18 * r + 2 + 4 * (a + 1))) + v (45 + 18 * r + 2 + 4 * (a + 1) + 3) ≤ dueV v st r n
  | 0, a, h => absurd h (Nat.not_lt_zero a)
  | n + 1, a, h => by
    have ih := dueV_ge (v := v) (st := st) (r := r) n
    have eS : dueV v st r (n + 1) = if dueV v st r n < st (v (45 + 18 * r + 2 + 4 * (n + 1))) + v (45 + 18 * r + 2 + 4 * (n + 1) + 3) then st (v (45 + 18 * r + 2 + 4 * (n + 1))) + v (45 + 18 * r + 2 + 4 * (n + 1) + 3) else dueV v st r n := rfl
    rw [eS]
    by_cases e : a = n
    · subst e
      split <;> omega
    · have := ih a (by omega)
      split <;> omega
theorem dueV_at {v st : Nat → Nat} {r : Nat} : ∀ n, dueV v st r n = 0 ∨ ∃ a, a < n ∧ dueV v st r n = st (v (45 + 18 * r + 2 + 4 * (a + 1))) + v (45 + 18 * r + 2 + 4 * (a + 1) + 3)
  | 0 => Or.inl rfl
  | n + 1 => by
    have ih := dueV_at (v := v) (st := st) (r := r) n
    have eS : dueV v st r (n + 1) = if dueV v st r n < st (v (45 + 18 * r + 2 + 4 * (n + 1))) + v (45 + 18 * r + 2 + 4 * (n + 1) + 3) then st (v (45 + 18 * r + 2 + 4 * (n + 1))) + v (45 + 18 * r + 2 + 4 * (n + 1) + 3) else dueV v st r n := rfl
    rw [eS]
    split
    · exact Or.inr ⟨n, Nat.lt_succ_self n, rfl⟩
    · rcases ih with h | ⟨a, h1, h2⟩
      · exact Or.inl h
      · exact Or.inr ⟨a, by omega, h2⟩
theorem dueV_sol {v st σ : Nat → Nat} {r : Nat} (hok : OkN v) (hσ : StC v σ) (hr : r < v 2) (h : ∀ p, p < 6 → st p ≤ σ p) : dueV v st r (v (45 + 18 * r + 1)) ≤ σ (v (45 + 18 * r + 2 + 4 * 0)) := by
  rcases dueV_at (v := v) (st := st) (r := r) (v (45 + 18 * r + 1)) with e | ⟨a, h1, e⟩
  · omega
  · rw [e]
    have h2 := ((hok.2.2.2.2.2.2 r hr).2.2.2.2 (a + 1) (by omega)).1
    have h3 := h _ h2
    have h4 := hσ r hr a h1
    omega
theorem raV_sol {v st σ : Nat → Nat} {r : Nat} (hok : OkN v) (hσ : StC v σ) (hr : r < v 2) (h : ∀ p, p < 6 → st p ≤ σ p) : ∀ p, p < 6 → (raV v r st).1 p ≤ σ p := by
  intro p hp
  unfold raV
  split
  · exact h p hp
  · show updN st _ _ p ≤ σ p
    unfold updN
    split
    · rename_i e
      rw [e]
      exact dueV_sol hok hσ hr h
    · exact h p hp
theorem raV_up {v st : Nat → Nat} {r : Nat} (p : Nat) : st p ≤ (raV v r st).1 p := by
  unfold raV
  split
  · exact Nat.le_refl _
  · rename_i q
    show st p ≤ updN st _ _ p
    unfold updN
    split
    · rename_i e; rw [e]; omega
    · exact Nat.le_refl _
/-- the class's states, a rule a step -/
def gsT (v : Nat → Nat) (t : Nat) : Nat → Nat := itN (fun t st => (raV v (t % v 2) st).1) (fun _ => 0) t
theorem gsR_1 {v : Nat → Nat} {st : Nat → Nat} {b : Bool} : ∀ n, (itN (gsR v) (st, b) n).1 = itN (fun r st => (raV v r st).1) st n
  | 0 => rfl
  | n + 1 => by
    show (raV v n (itN (gsR v) (st, b) n).1).1 = _
    rw [gsR_1 n]
    rfl
theorem gsR_flag {v : Nat → Nat} {st : Nat → Nat} : ∀ n, (itN (gsR v) (st, false) n).2 = false → (itN (gsR v) (st, false) n).1 = st ∧ ∀ r, r < n → (raV v r st).2 = false
  | 0, _ => ⟨rfl, fun r hr => absurd hr (Nat.not_lt_zero r)⟩
  | n + 1, h => by
    have eS : itN (gsR v) (st, false) (n + 1) = gsR v n (itN (gsR v) (st, false) n) := rfl
    rw [eS] at h ⊢
    have h : ((itN (gsR v) (st, false) n).2 || (raV v n (itN (gsR v) (st, false) n).1).2) = false := h
    show (raV v n (itN (gsR v) (st, false) n).1).1 = st ∧ _
    rw [Bool.or_eq_false_iff] at h
    obtain ⟨h1, h2⟩ := gsR_flag n h.1
    rw [h1] at h ⊢
    refine ⟨raV_same h.2, fun r hr => ?_⟩
    by_cases e : r = n
    · subst e; exact h.2
    · exact h2 r (by omega)
theorem raV_C {v st : Nat → Nat} {r : Nat} (h : (raV v r st).2 = false) : dueV v st r (v (45 + 18 * r + 1)) ≤ st (v (45 + 18 * r + 2 + 4 * 0)) := by
  unfold raV at h
  split at h
  · assumption
  · cases h
theorem gsP_C {v st : Nat → Nat} (h : (gsP v st).2 = false) : (gsP v st).1 = st ∧ StC v st := by
  obtain ⟨h1, h2⟩ := gsR_flag (v := v) (st := st) (v 2) h
  refine ⟨h1, fun r hr a ha => ?_⟩
  exact Nat.le_trans (dueV_ge _ a ha) (raV_C (h2 r hr))
theorem gsT_mono {v : Nat → Nat} {t t' : Nat} (h : t ≤ t') (p : Nat) : gsT v t p ≤ gsT v t' p := by
  have : ∀ m, gsT v t p ≤ gsT v (t + m) p := by
    intro m
    induction m with
    | zero => exact Nat.le_refl _
    | succ m ih => exact Nat.le_trans ih (raV_up p)
  have := this (t' - t)
  rw [show t + (t' - t) = t' by omega] at this
  exact this
theorem gsT_in {v : Nat → Nat} (k : Nat) : ∀ j, j ≤ v 2 → gsT v (k * v 2 + j) = itN (fun r st => (raV v r st).1) (gsT v (k * v 2)) j := by
  intro j hj
  unfold gsT
  rw [itN_split]
  exact itN_cg fun i hi x => by
    show (raV v ((k * v 2 + i) % v 2) x).1 = _
    rw [show (k * v 2 + i) % v 2 = i from by rw [Nat.mul_comm, Nat.mul_add_mod]; exact Nat.mod_eq_of_lt (by omega)]
theorem gsT_k {v : Nat → Nat} : ∀ k, gsT v (k * v 2) = itN (fun _ st => (gsP v st).1) (fun _ => 0) k
  | 0 => by rw [Nat.zero_mul]; rfl
  | k + 1 => by
    rw [Nat.succ_mul, gsT_in k (v 2) (Nat.le_refl _), gsT_k k]
    exact (gsR_1 (v := v) (st := itN (fun _ st => (gsP v st).1) (fun _ => 0) k) (b := false) (v 2)).symm
theorem gsT_sol {v σ : Nat → Nat} (hok : OkN v) (hσ : StC v σ) (h2 : 0 < v 2) : ∀ t, ∀ p, p < 6 → gsT v t p ≤ σ p
  | 0 => fun p _ => Nat.zero_le _
  | t + 1 => raV_sol hok hσ (Nat.mod_lt t h2) (gsT_sol hok hσ h2 t)
/-- if there is a solution, six passes find the least one -/
theorem gs_settle {v σ : Nat → Nat} (hok : OkN v) (hσ : StC v σ) : (gsP v (itN (fun _ st => (gsP v st).1) (fun _ => 0) 6)).2 = false := by
  by_cases h20 : v 2 = 0
  · unfold gsP
    rw [h20]
    rfl
  have h2 : 0 < v 2 := Nat.pos_of_ne_zero h20
  have hb := gsT_sol hok hσ h2
  obtain ⟨M, hM⟩ : ∃ M, ∀ p, p < 6 → σ p ≤ M := ⟨σ 0 + σ 1 + σ 2 + σ 3 + σ 4 + σ 5, fun p hp => by
    match p, hp with
    | 0, _ => omega
    | 1, _ => omega
    | 2, _ => omega
    | 3, _ => omega
    | 4, _ => omega
    | 5, _ => omega⟩
  -- a pass without change comes
  have hsum : ∀ t, sumN (gsT v t) 6 ≤ 6 * M := fun t => sumN_lt 6 (fun p hp => Nat.le_trans (hb t p hp) (hM p hp))
  have grow : ∀ st : Nat → Nat, (gsP v st).2 = true → sumN st 6 + 1 ≤ sumN (gsP v st).1 6 := by
    intro st h
    have hh : ∀ n, n ≤ v 2 → sumN st 6 ≤ sumN (itN (gsR v) (st, false) n).1 6 ∧ ((itN (gsR v) (st, false) n).2 = true → sumN st 6 + 1 ≤ sumN (itN (gsR v) (st, false) n).1 6) := by
      intro n
      induction n with
      | zero => exact fun _ => ⟨Nat.le_refl _, fun q => by cases q⟩
      | succ n ih =>
        intro hn
        obtain ⟨i1, i2⟩ := ih (by omega)
        have eS : itN (gsR v) (st, false) (n + 1) = gsR v n (itN (gsR v) (st, false) n) := rfl
        rw [eS]
        generalize itN (gsR v) (st, false) n = T at i1 i2 ⊢
        have hp6 := ((hok.2.2.2.2.2.2 n (by omega)).2.2.2.2 0 (Nat.zero_le _)).1
        have h3 : sumN T.1 6 ≤ sumN (raV v n T.1).1 6 ∧ ((raV v n T.1).2 = true → sumN T.1 6 + 1 ≤ sumN (raV v n T.1).1 6) := by
          unfold raV
          split
          · exact ⟨Nat.le_refl _, fun q => by cases q⟩
          · rename_i q
            have := sumN_upd T.1 (v (45 + 18 * n + 2 + 4 * 0)) (dueV v T.1 n (v (45 + 18 * n + 1))) 6 hp6
            show sumN T.1 6 ≤ sumN (updN T.1 _ _) 6 ∧ (_ → sumN T.1 6 + 1 ≤ sumN (updN T.1 _ _) 6)
            exact ⟨by omega, fun _ => by omega⟩
        unfold gsR
        refine ⟨Nat.le_trans i1 h3.1, fun q => ?_⟩
        rw [Bool.or_eq_true] at q
        rcases q with q | q
        · have := i2 q
          have := h3.1
          show sumN st 6 + 1 ≤ sumN (raV v n T.1).1 6
          omega
        · have := h3.2 q
          show sumN st 6 + 1 ≤ sumN (raV v n T.1).1 6
          omega
    exact (hh (v 2) (Nat.le_refl _)).2 h
  have hK : ∃ K, (gsP v (itN (fun _ st => (gsP v st).1) (fun _ => 0) K)).2 = false := by
    refine Classical.byContradiction fun hno => ?_
    have : ∀ k, k ≤ sumN (itN (fun _ st => (gsP v st).1) (fun _ => 0) k) 6 := by
      intro k
      induction k with
      | zero => exact Nat.zero_le _
      | succ k ih =>
        have h3 : (gsP v (itN (fun _ st => (gsP v st).1) (fun _ => 0) k)).2 = true := by
          cases q : (gsP v (itN (fun _ st => (gsP v st).1) (fun _ => 0) k)).2
          · exact absurd ⟨k, q⟩ hno
          · rfl
        have h4 := grow _ h3
        show k + 1 ≤ sumN (gsP v (itN (fun _ st => (gsP v st).1) (fun _ => 0) k)).1 6
        omega
    have h5 := this (6 * M + 1)
    have h6 := hsum ((6 * M + 1) * v 2)
    rw [gsT_k] at h6
    omega
  obtain ⟨K, hK⟩ := hK
  obtain ⟨cs, hcs⟩ : ∃ cs, cs = itN (fun _ st => (gsP v st).1) (fun _ => 0) K := ⟨_, rfl⟩
  rw [← hcs] at hK
  obtain ⟨hfix, hC⟩ := gsP_C hK
  have hTK : gsT v (K * v 2) = cs := by rw [gsT_k, hcs]
  have hle := gsT_sol hok hC h2
  have hτ : ∀ p, ∃ m, m ≤ K * v 2 ∧ gsT v m p = cs p ∧ ∀ k, k < m → ¬ gsT v k p = cs p := fun p => ex_min (P := fun t => gsT v t p = cs p) (K * v 2) (by rw [hTK])
  obtain ⟨τ, hτ⟩ := Classical.axiomOfChoice hτ
  have claim : ∀ k, (∃ p, p < 6 ∧ gsT v (k * v 2) p ≠ cs p) → ∃ p, p < 6 ∧ gsT v (k * v 2) p ≠ cs p ∧ gsT v ((k + 1) * v 2) p = cs p := by
    intro k hex
    obtain ⟨p, hp6, hpN, hmax⟩ := ex_max (P := fun p => gsT v (k * v 2) p ≠ cs p) (fun p => K * v 2 - τ p) 6 hex
    refine ⟨p, hp6, hpN, ?_⟩
    obtain ⟨t1, t2, t3⟩ := hτ p
    have hpos : k * v 2 < τ p := by
      rcases Nat.lt_or_ge (k * v 2) (τ p) with w | w
      · exact w
      · have h3 := gsT_mono (v := v) w p
        have h4 := hle (k * v 2) p hp6
        omega
    obtain ⟨t, ht⟩ : ∃ t, τ p = t + 1 := ⟨τ p - 1, by omega⟩
    have hi := Nat.mod_lt t h2
    have ht3 := t3 t (by omega)
    have hst : gsT v (t + 1) = (raV v (t % v 2) (gsT v t)).1 := rfl
    rw [ht, hst] at t2
    generalize hii : t % v 2 = i at hi t2
    have hup : p = v (45 + 18 * i + 2 + 4 * 0) ∧ dueV v (gsT v t) i (v (45 + 18 * i + 1)) = cs p ∧ ¬ dueV v (gsT v t) i (v (45 + 18 * i + 1)) ≤ gsT v t p := by
      unfold raV at t2
      split at t2
      · exact absurd t2 ht3
      · rename_i q
        have t2 : updN (gsT v t) (v (45 + 18 * i + 2 + 4 * 0)) (dueV v (gsT v t) i (v (45 + 18 * i + 1))) p = cs p := t2
        unfold updN at t2
        split at t2
        · rename_i w
          exact ⟨w, t2, by rw [w]; exact q⟩
        · exact absurd t2 ht3
    obtain ⟨u1, u2, u3⟩ := hup
    rcases dueV_at (v := v) (st := gsT v t) (r := i) (v (45 + 18 * i + 1)) with e | ⟨a, ha, e⟩
    · omega
    · have hq6 := ((hok.2.2.2.2.2.2 i hi).2.2.2.2 (a + 1) (by omega)).1
      have hCa := hC i hi a ha
      have hlq := hle t _ hq6
      rw [← u1] at hCa
      generalize hq : v (45 + 18 * i + 2 + 4 * (a + 1)) = q at hq6 hCa hlq e
      have hfin : gsT v (k * v 2) q = cs q := by
        refine Classical.byContradiction fun hne => ?_
        have h3 := hmax q hq6 hne
        obtain ⟨s1, s2, s3⟩ := hτ q
        have h4 : gsT v t q = cs q := by omega
        have h5 : τ q ≤ t := by
          rcases Nat.lt_or_ge t (τ q) with w | w
          · exact absurd h4 (s3 t w)
          · exact w
        omega
      have hmid := gsT_in (v := v) k (i + 1) (by omega)
      have hmid0 := gsT_in (v := v) k i (by omega)
      have h6 := gsT_mono (v := v) (show k * v 2 ≤ k * v 2 + i by omega) q
      have h7 : cs p ≤ gsT v (k * v 2 + (i + 1)) p := by
        rw [hmid]
        show cs p ≤ (raV v i (itN (fun r st => (raV v r st).1) (gsT v (k * v 2)) i)).1 p
        rw [← hmid0]
        have hd := dueV_ge (v := v) (st := gsT v (k * v 2 + i)) (r := i) (v (45 + 18 * i + 1)) a ha
        rw [hq] at hd
        have hup2 := raV_up (v := v) (st := gsT v (k * v 2 + i)) (r := i) p
        unfold raV at hup2 ⊢
        split at hup2
        · rename_i w
          rw [if_pos w]
          show cs p ≤ gsT v (k * v 2 + i) p
          rw [← u1] at w
          omega
        · rename_i w
          rw [if_neg w]
          show cs p ≤ updN (gsT v (k * v 2 + i)) (v (45 + 18 * i + 2 + 4 * 0)) (dueV v (gsT v (k * v 2 + i)) i (v (45 + 18 * i + 1))) p
          unfold updN
          rw [if_pos u1]
          omega
      have h8 := gsT_mono (v := v) (show k * v 2 + (i + 1) ≤ (k + 1) * v 2 by rw [Nat.succ_mul]; omega) p
      have h9 := hle ((k + 1) * v 2) p hp6
      omega
  have cnt : ∀ k, (∃ p, p < 6 ∧ gsT v (k * v 2) p ≠ cs p) → cntB (fun p => decide (gsT v (k * v 2) p ≠ cs p)) 6 + k ≤ 6 := by
    intro k
    induction k with
    | zero => exact fun _ => cntB_le _ _
    | succ k ih =>
      intro hex
      have stay : ∀ p, p < 6 → gsT v (k * v 2) p = cs p → gsT v ((k + 1) * v 2) p = cs p := fun p hp h => by
        have h3 := gsT_mono (v := v) (show k * v 2 ≤ (k + 1) * v 2 by rw [Nat.succ_mul]; omega) p
        have h4 := hle ((k + 1) * v 2) p hp
        omega
      obtain ⟨p, p1, p2⟩ := hex
      have hex' : ∃ p, p < 6 ∧ gsT v (k * v 2) p ≠ cs p := ⟨p, p1, fun e => p2 (stay p p1 e)⟩
      have h3 := ih hex'
      obtain ⟨g, g1, g2, g3⟩ := claim k hex'
      have h4 : ∀ n, n ≤ 6 → cntB (fun p => decide (gsT v ((k + 1) * v 2) p ≠ cs p)) n + (if g < n then 1 else 0) ≤ cntB (fun p => decide (gsT v (k * v 2) p ≠ cs p)) n := by
        intro n
        induction n with
        | zero => exact fun _ => Nat.le_refl _
        | succ n ihn =>
          intro hn
          have h5 := ihn (by omega)
          have h6 := stay n (by omega)
          simp only [cntB, decide_eq_true_eq]
          by_cases en : g = n
          · subst en
            rw [if_neg (fun w => w g3), if_pos g2, if_pos (Nat.lt_succ_self _)]
            rw [if_neg (Nat.lt_irrefl _)] at h5
            omega
          · have hle2 : (if gsT v ((k + 1) * v 2) n ≠ cs n then 1 else 0) ≤ (if gsT v (k * v 2) n ≠ cs n then 1 else 0) := by
              by_cases w : gsT v (k * v 2) n = cs n
              · rw [if_neg (fun y => y (h6 w))]; exact Nat.zero_le _
              · rw [if_pos w]; split <;> omega
            by_cases q : g < n
            · rw [if_pos q] at h5
              rw [if_pos (show g < n + 1 by omega)]
              omega
            · rw [if_neg q] at h5
              rw [if_neg (show ¬ g < n + 1 by omega)]
              omega
      have := h4 6 (Nat.le_refl _)
      rw [if_pos g1] at this
      omega
  have hall : ∀ p, p < 6 → gsT v (6 * v 2) p = cs p := fun p hp => by
    refine Classical.byContradiction fun hne => ?_
    have h1 := cnt 6 ⟨p, hp, hne⟩
    have h2 : 0 < cntB (fun p => decide (gsT v (6 * v 2) p ≠ cs p)) 6 := cntB_pos.mpr ⟨p, hp, decide_eq_true hne⟩
    omega
  rw [← gsT_k]
  cases hfl : (gsP v (gsT v (6 * v 2))).2
  · rfl
  · have h3 := grow _ hfl
    have h4 : (gsP v (gsT v (6 * v 2))).1 = gsT v (7 * v 2) := by
      rw [gsT_k 7, gsT_k 6]
      rfl
    rw [h4] at h3
    have h5 : sumN (gsT v (7 * v 2)) 6 ≤ sumN (gsT v (6 * v 2)) 6 := by
      have : ∀ n, n ≤ 6 → sumN (gsT v (7 * v 2)) n ≤ sumN (gsT v (6 * v 2)) n := by
        intro n
        induction n with
        | zero => exact fun _ => Nat.le_refl _
        | succ n ih =>
          intro hn
          have i1 := ih (by omega)
          have i2 := hle (7 * v 2) n (by omega)
          have i3 := hall n (by omega)
          simp only [sumN]
          omega
      exact this 6 (Nat.le_refl _)
    omega
