/-! STRATA: the reference's -/
theorem strA_fl {v : Nat → Nat} {r a : Nat} {S : StS} (h : (strA v r a S).2.1 = false) : strA v r a S = S ∧ S.1 (v (45 + 18 * r + 2 + 4 * (a + 1))) + v (45 + 18 * r + 2 + 4 * (a + 1) + 3) ≤ S.1 (v (45 + 18 * r + 2 + 4 * 0)) := by
  unfold strA at h ⊢
  split at h
  · cases h
  · rename_i q
    rw [if_neg q]
    exact ⟨rfl, by omega⟩
theorem strR_fl {v : Nat → Nat} {r : Nat} {S : StS} : ∀ n, (itN (strA v r) S n).2.1 = false → itN (strA v r) S n = S ∧ ∀ a, a < n → S.1 (v (45 + 18 * r + 2 + 4 * (a + 1))) + v (45 + 18 * r + 2 + 4 * (a + 1) + 3) ≤ S.1 (v (45 + 18 * r + 2 + 4 * 0))
  | 0, _ => ⟨rfl, fun a ha => absurd ha (Nat.not_lt_zero a)⟩
  | n + 1, h => by
    have eS : itN (strA v r) S (n + 1) = strA v r n (itN (strA v r) S n) := rfl
    rw [eS] at h ⊢
    obtain ⟨h1, h2⟩ := strA_fl h
    rw [h1] at h ⊢
    obtain ⟨h3, h4⟩ := strR_fl n h
    rw [h3] at h2
    refine ⟨h3, fun a ha => ?_⟩
    by_cases e : a = n
    · subst e; exact h2
    · exact h4 a (by omega)
theorem strP_fl {v : Nat → Nat} {S : StS} (h : (strP v S).2.1 = false) : (strP v S).1 = S.1 ∧ StC v S.1 := by
  have hh : ∀ n, (itN (strR v) (S.1, false, S.2.2) n).2.1 = false → itN (strR v) (S.1, false, S.2.2) n = (S.1, false, S.2.2) ∧ ∀ r, r < n → ∀ a, a < v (45 + 18 * r + 1) → S.1 (v (45 + 18 * r + 2 + 4 * (a + 1))) + v (45 + 18 * r + 2 + 4 * (a + 1) + 3) ≤ S.1 (v (45 + 18 * r + 2 + 4 * 0)) := by
    intro n
    induction n with
    | zero => exact fun _ => ⟨rfl, fun r hr => absurd hr (Nat.not_lt_zero r)⟩
    | succ n ih =>
      intro h
      have eS : itN (strR v) (S.1, false, S.2.2) (n + 1) = itN (strA v n) (itN (strR v) (S.1, false, S.2.2) n) (v (45 + 18 * n + 1)) := rfl
      rw [eS] at h ⊢
      obtain ⟨h1, h2⟩ := strR_fl _ h
      rw [h1] at h ⊢
      obtain ⟨h3, h4⟩ := ih h
      rw [h3] at h2
      refine ⟨h3, fun r hr => ?_⟩
      by_cases e : r = n
      · subst e; exact h2
      · exact h4 r (by omega)
  obtain ⟨h1, h2⟩ := hh (v 2) h
  exact ⟨by show (itN (strR v) (S.1, false, S.2.2) (v 2)).1 = S.1; rw [h1], fun r hr a ha => h2 r hr a ha⟩
/-- below a solution, and 0 where there is no predicate -/
def StL (σ : Nat → Nat) (S : StS) : Prop := (∀ p, p < 6 → S.1 p ≤ σ p) ∧ ∀ p, 6 ≤ p → S.1 p = 0
theorem strA_L {v σ : Nat → Nat} (hok : OkN v) (hσ : StC v σ) {r a : Nat} (hr : r < v 2) (ha : a < v (45 + 18 * r + 1)) {S : StS} (h : StL σ S) : StL σ (strA v r a S) := by
  obtain ⟨h1, -, -, h4⟩ := (hok.2.2.2.2.2.2 r hr).2.2.2.2 (a + 1) (by omega)
  obtain ⟨h0, -⟩ := (hok.2.2.2.2.2.2 r hr).2.2.2.2 0 (Nat.zero_le _)
  unfold strA
  split
  · refine ⟨fun p hp => ?_, fun p hp => ?_⟩
    · show updN S.1 _ _ p ≤ σ p
      unfold updN
      split
      · rename_i e
        rw [e]
        have := h.1 _ h1
        have := hσ r hr a ha
        omega
      · exact h.1 p hp
    · show updN S.1 _ _ p = 0
      rw [updN_ne _ _ (by omega)]
      exact h.2 p hp
  · exact h
theorem strP_L {v σ : Nat → Nat} (hok : OkN v) (hσ : StC v σ) {S : StS} (h : StL σ S) : StL σ (strP v S) :=
  itN_inv (P := StL σ) (s := strR v) (N := v 2) (fun r hr S hS => itN_inv (P := StL σ) (s := strA v r) (N := v (45 + 18 * r + 1)) (fun a ha S hS => strA_L hok hσ hr ha hS) (v (45 + 18 * r + 1)) (Nat.le_refl _) hS) (v 2) (Nat.le_refl _) (a := (S.1, false, S.2.2)) h
theorem strA_s {v σ : Nat → Nat} (hok : OkN v) (hσ : StC v σ) (h6 : ∀ p, p < 6 → σ p < 6) {r a : Nat} (hr : r < v 2) (ha : a < v (45 + 18 * r + 1)) {S : StS} (h : StL σ S ∧ S.2.2 = true) : StL σ (strA v r a S) ∧ (strA v r a S).2.2 = true := by
  refine ⟨strA_L hok hσ hr ha h.1, ?_⟩
  obtain ⟨h1, -, -, h4⟩ := (hok.2.2.2.2.2.2 r hr).2.2.2.2 (a + 1) (by omega)
  obtain ⟨h0, -⟩ := (hok.2.2.2.2.2.2 r hr).2.2.2.2 0 (Nat.zero_le _)
  unfold strA
  split
  · have := h.1.1 _ h1
    have := hσ r hr a ha
    have := h6 _ h0
    show (S.2.2 && decide _) = true
    rw [h.2, decide_eq_true (by omega)]
    rfl
  · exact h.2
theorem strP_s {v σ : Nat → Nat} (hok : OkN v) (hσ : StC v σ) (h6 : ∀ p, p < 6 → σ p < 6) {S : StS} (h : StL σ S ∧ S.2.2 = true) : StL σ (strP v S) ∧ (strP v S).2.2 = true :=
  itN_inv (P := fun S => StL σ S ∧ S.2.2 = true) (s := strR v) (N := v 2) (fun r hr S hS => itN_inv (P := fun S => StL σ S ∧ S.2.2 = true) (s := strA v r) (N := v (45 + 18 * r + 1)) (fun a ha S hS => strA_s hok hσ h6 hr ha hS) (v (45 + 18 * r + 1)) (Nat.le_refl _) hS) (v 2) (Nat.le_refl _) (a := (S.1, false, S.2.2)) h
/-! the class's strata at the end -/
theorem gsW_C {v : Nat → Nat} : ∀ k, (itN (fun _ => gsW v) (fun _ => 0, true) k).2 = false → StC v (itN (fun _ => gsW v) (fun _ => 0, true) k).1
  | 0, h => by cases h
  | k + 1, h => by
    have eS : itN (fun _ => gsW v) (fun _ => 0, true) (k + 1) = gsW v (itN (fun _ => gsW v) (fun _ => 0, true) k) := rfl
    have ih := gsW_C (v := v) k
    rw [eS] at h ⊢
    generalize itN (fun _ => gsW v) (fun _ => 0, true) k = S at h ih ⊢
    by_cases q : S.2 = true
    · have e : gsW v S = gsP v S.1 := if_pos q
      rw [e] at h ⊢
      obtain ⟨h1, h2⟩ := gsP_C h
      rw [h1]
      exact h2
    · have e : gsW v S = S := if_neg q
      rw [e] at h ⊢
      exact ih h
theorem gsW_t {v : Nat → Nat} : ∀ k, (itN (fun _ => gsW v) (fun _ => 0, true) k).2 = true → (itN (fun _ => gsW v) (fun _ => 0, true) k).1 = itN (fun _ st => (gsP v st).1) (fun _ => 0) k
  | 0, _ => rfl
  | k + 1, h => by
    have eS : itN (fun _ => gsW v) (fun _ => 0, true) (k + 1) = gsW v (itN (fun _ => gsW v) (fun _ => 0, true) k) := rfl
    have ih := gsW_t (v := v) k
    rw [eS] at h ⊢
    show _ = (gsP v (itN (fun _ st => (gsP v st).1) (fun _ => 0) k)).1
    generalize itN (fun _ => gsW v) (fun _ => 0, true) k = S at h ih ⊢
    by_cases q : S.2 = true
    · have e : gsW v S = gsP v S.1 := if_pos q
      rw [e, ih q]
    · have e : gsW v S = S := if_neg q
      rw [e] at h
      exact absurd h q
theorem grF_sol {v σ : Nat → Nat} (hok : OkN v) (hσ : StC v σ) : (grF v).2 = false := by
  cases h : (grF v).2
  · rfl
  · have h7 : (gsW v (itN (fun _ => gsW v) (fun _ => 0, true) 6)).2 = true := h
    have h6 : (itN (fun _ => gsW v) (fun _ => 0, true) 6).2 = true := by
      cases q : (itN (fun _ => gsW v) (fun _ => 0, true) 6).2
      · unfold gsW at h7
        rw [if_neg (by rw [show (fun _ => fun S => if S.2 = true then gsP v S.1 else S) = (fun _ : Nat => gsW v) from rfl, q]; decide)] at h7
        exact absurd (q.symm.trans h7) (by decide)
      · rfl
    have h8 : gsW v (itN (fun _ => gsW v) (fun _ => 0, true) 6) = gsP v (itN (fun _ => gsW v) (fun _ => 0, true) 6).1 := if_pos h6
    rw [h8, gsW_t 6 h6, gs_settle hok hσ] at h7
    cases h7
theorem gsP_L {v σ : Nat → Nat} (hok : OkN v) (hσ : StC v σ) {st : Nat → Nat} (h : (∀ p, p < 6 → st p ≤ σ p) ∧ ∀ p, 6 ≤ p → st p = 0) : (∀ p, p < 6 → (gsP v st).1 p ≤ σ p) ∧ ∀ p, 6 ≤ p → (gsP v st).1 p = 0 := by
  have hh : ∀ n, n ≤ v 2 → (∀ p, p < 6 → (itN (gsR v) (st, false) n).1 p ≤ σ p) ∧ ∀ p, 6 ≤ p → (itN (gsR v) (st, false) n).1 p = 0 := by
    intro n
    induction n with
    | zero => exact fun _ => h
    | succ n ih =>
      intro hn
      obtain ⟨h1, h2⟩ := ih (by omega)
      refine ⟨raV_sol hok hσ (by omega) h1, fun p hp => ?_⟩
      show (raV v n (itN (gsR v) (st, false) n).1).1 p = 0
      generalize itN (gsR v) (st, false) n = T at h2
      obtain ⟨h0, -⟩ := (hok.2.2.2.2.2.2 n (by omega)).2.2.2.2 0 (Nat.zero_le _)
      unfold raV
      split
      · exact h2 p hp
      · show updN _ _ _ p = 0
        rw [updN_ne _ _ (by omega)]
        exact h2 p hp
  exact hh (v 2) (Nat.le_refl _)
theorem grF_L {v σ : Nat → Nat} (hok : OkN v) (hσ : StC v σ) : (∀ p, p < 6 → (grF v).1 p ≤ σ p) ∧ ∀ p, 6 ≤ p → (grF v).1 p = 0 := by
  have hh : ∀ n, (∀ p, p < 6 → (itN (fun _ => gsW v) (fun _ => 0, true) n).1 p ≤ σ p) ∧ ∀ p, 6 ≤ p → (itN (fun _ => gsW v) (fun _ => 0, true) n).1 p = 0 := by
    intro n
    induction n with
    | zero => exact ⟨fun p _ => Nat.zero_le _, fun p _ => rfl⟩
    | succ n ih =>
      have eS : itN (fun _ => gsW v) (fun _ => 0, true) (n + 1) = gsW v (itN (fun _ => gsW v) (fun _ => 0, true) n) := rfl
      rw [eS]
      generalize itN (fun _ => gsW v) (fun _ => 0, true) n = S at ih ⊢
      unfold gsW
      split
      · exact gsP_L hok hσ ih
      · exact ih
  exact hh 7
/-- the least solution has no gap: it stays below 6 -/
theorem least_6 {v : Nat → Nat} (hok : OkN v) {σ : Nat → Nat} (hσ : StC v σ) : ∀ p, p < 6 → (grF v).1 p < 6 := by
  have hfl := grF_sol hok hσ
  have hC : StC v (grF v).1 := gsW_C 7 hfl
  by_cases h20 : v 2 = 0
  · intro p hp
    have h1 := (grF_L hok (σ := fun _ => 0) (fun r hr => by omega)).1 p hp
    omega
  have h2 : 0 < v 2 := Nat.pos_of_ne_zero h20
  have hle := gsT_sol hok hC h2
  have hset := gs_settle hok hσ
  obtain ⟨hfix, hC6⟩ := gsP_C hset
  have hL6 := (grF_L hok hC6).1
  have h6eq : ∀ p, p < 6 → gsT v (6 * v 2) p = (grF v).1 p := fun p hp => by
    have h1 := hle (6 * v 2) p hp
    have h3 := hL6 p hp
    rw [← gsT_k] at h3
    omega
  generalize (grF v).1 = cs at hC hle h6eq
  have hτ : ∀ p, ∃ m, p < 6 → gsT v m p = cs p ∧ ∀ k, k < m → ¬ gsT v k p = cs p := fun p => by
    by_cases hp : p < 6
    · obtain ⟨m, -, h3, h4⟩ := ex_min (P := fun t => gsT v t p = cs p) (6 * v 2) (h6eq p hp)
      exact ⟨m, fun _ => ⟨h3, h4⟩⟩
    · exact ⟨0, fun h => absurd h hp⟩
  obtain ⟨τ, hτ⟩ := Classical.axiomOfChoice hτ
  have gap : ∀ t, (∃ p, p < 6 ∧ cs p = t + 1) → ∃ q, q < 6 ∧ cs q = t := by
    intro t hex
    obtain ⟨B, hB⟩ : ∃ B, ∀ p, p < 6 → τ p ≤ B := ⟨τ 0 + τ 1 + τ 2 + τ 3 + τ 4 + τ 5, fun p hp => by
      match p, hp with
      | 0, _ => omega
      | 1, _ => omega
      | 2, _ => omega
      | 3, _ => omega
      | 4, _ => omega
      | 5, _ => omega⟩
    obtain ⟨p, hp6, hpt, hmax⟩ := ex_max (P := fun p => cs p = t + 1) (fun p => B - τ p) 6 hex
    obtain ⟨t2, t3⟩ := hτ p hp6
    have hpos : 0 < τ p := by
      rcases Nat.eq_zero_or_pos (τ p) with w | w
      · rw [w] at t2
        have t2 : 0 = cs p := t2
        omega
      · exact w
    obtain ⟨s, hs⟩ : ∃ s, τ p = s + 1 := ⟨τ p - 1, by omega⟩
    have hi := Nat.mod_lt s h2
    have ht3 := t3 s (by omega)
    have hst : gsT v (s + 1) = (raV v (s % v 2) (gsT v s)).1 := rfl
    rw [hs, hst] at t2
    generalize s % v 2 = i at hi t2
    have hup : p = v (45 + 18 * i + 2 + 4 * 0) ∧ dueV v (gsT v s) i (v (45 + 18 * i + 1)) = cs p := by
      unfold raV at t2
      split at t2
      · exact absurd t2 ht3
      · have t2 : updN (gsT v s) (v (45 + 18 * i + 2 + 4 * 0)) (dueV v (gsT v s) i (v (45 + 18 * i + 1))) p = cs p := t2
        unfold updN at t2
        split at t2
        · rename_i w
          exact ⟨w, t2⟩
        · exact absurd t2 ht3
    obtain ⟨u1, u2⟩ := hup
    rcases dueV_at (v := v) (st := gsT v s) (r := i) (v (45 + 18 * i + 1)) with e | ⟨a, ha, e⟩
    · omega
    · obtain ⟨hq6, -, -, hn⟩ := (hok.2.2.2.2.2.2 i hi).2.2.2.2 (a + 1) (by omega)
      have hCa := hC i hi a ha
      have hlq := hle s _ hq6
      rw [← u1] at hCa
      generalize v (45 + 18 * i + 2 + 4 * (a + 1)) = q at hq6 hCa hlq e
      generalize v (45 + 18 * i + 2 + 4 * (a + 1) + 3) = ng at hn hCa e
      have hq : gsT v s q = cs q := by omega
      by_cases w : cs q = t
      · exact ⟨q, hq6, w⟩
      · have h3 := hmax q hq6 (show cs q = t + 1 by omega)
        obtain ⟨s2, s3⟩ := hτ q hq6
        have h4 : τ q ≤ s := by
          rcases Nat.lt_or_ge s (τ q) with w | w
          · exact absurd hq (s3 s w)
          · exact w
        have h5 := hB p hp6
        omega
  intro p hp
  have hcnt : ∀ j, j ≤ cs p → j + 1 ≤ cntB (fun q => decide (cs p - j ≤ cs q)) 6 := by
    intro j
    induction j with
    | zero =>
      intro _
      have : 0 < cntB (fun q => decide (cs p - 0 ≤ cs q)) 6 := cntB_pos.mpr ⟨p, hp, decide_eq_true (by omega)⟩
      omega
    | succ j ih =>
      intro hj
      have ih := ih (by omega)
      have hattain : ∀ i, i ≤ j + 1 → ∃ q, q < 6 ∧ cs q = cs p - i := by
        intro i
        induction i with
        | zero => exact fun _ => ⟨p, hp, by omega⟩
        | succ i ihi =>
          intro hi
          obtain ⟨q, q1, q2⟩ := ihi (by omega)
          exact gap (cs p - (i + 1)) ⟨q, q1, by omega⟩
      obtain ⟨g, g1, g2⟩ := hattain (j + 1) (Nat.le_refl _)
      have h4 : ∀ n, cntB (fun q => decide (cs p - j ≤ cs q)) n + (if g < n then 1 else 0) ≤ cntB (fun q => decide (cs p - (j + 1) ≤ cs q)) n := by
        intro n
        induction n with
        | zero => exact Nat.le_refl _
        | succ n ihn =>
          simp only [cntB, decide_eq_true_eq]
          by_cases en : g = n
          · subst en
            rw [if_neg (show ¬ cs p - j ≤ cs g by omega), if_pos (show cs p - (j + 1) ≤ cs g by omega), if_pos (Nat.lt_succ_self _)]
            rw [if_neg (Nat.lt_irrefl _)] at ihn
            omega
          · have hle2 : (if cs p - j ≤ cs n then 1 else 0) ≤ (if cs p - (j + 1) ≤ cs n then 1 else 0) := by
              by_cases w : cs p - j ≤ cs n
              · rw [if_pos w, if_pos (by omega)]; exact Nat.le_refl _
              · rw [if_neg w]; exact Nat.zero_le _
            by_cases q : g < n
            · rw [if_pos q] at ihn
              rw [if_pos (show g < n + 1 by omega)]
              omega
            · rw [if_neg q] at ihn
              rw [if_neg (show ¬ g < n + 1 by omega)]
              omega
      have := h4 6
      rw [if_pos g1] at this
      omega
  have h1 := hcnt (cs p) (Nat.le_refl _)
  have h2 := cntB_le (fun q => decide (cs p - cs p ≤ cs q)) 6
  omega
/-- both sides' strata -/
theorem st_eq {v : Nat → Nat} (hok : OkN v) : (strF v).2.2 = (!(grF v).2) ∧ ((strF v).2.2 = true → (strF v).1 = (grF v).1 ∧ StC v (grF v).1 ∧ ∀ p, p < 6 → (grF v).1 p < 6) := by
  have hend := strF_end hok (k := 40) (by omega)
  have eF : itN (fun _ => strW v) (fun _ => 0, true, true) 40 = strF v := rfl
  rw [eF] at hend
  have hC : ∀ k, (itN (fun _ => strW v) (fun _ => 0, true, true) k).2.1 = false → StC v (itN (fun _ => strW v) (fun _ => 0, true, true) k).1 := by
    intro k
    induction k with
    | zero => intro h; cases h
    | succ k ih =>
      intro h
      have eS : itN (fun _ => strW v) (fun _ => 0, true, true) (k + 1) = strW v (itN (fun _ => strW v) (fun _ => 0, true, true) k) := rfl
      rw [eS] at h ⊢
      generalize itN (fun _ => strW v) (fun _ => 0, true, true) k = S at h ih ⊢
      unfold strW at h ⊢
      by_cases q : (S.2.1 && S.2.2) = true
      · rw [if_pos q] at h ⊢
        obtain ⟨h1, h2⟩ := strP_fl h
        rw [h1]
        exact h2
      · rw [if_neg q] at h ⊢
        exact ih h
  have hC := hC 40
  rw [eF] at hC
  have sol : ∀ σ, StC v σ → (strF v).2.2 = true ∧ StL (grF v).1 (strF v) ∧ (strF v).2.1 = false := by
    intro σ hσ
    have hfl := grF_sol hok hσ
    have hG : StC v (grF v).1 := gsW_C 7 hfl
    have h6 := least_6 hok hσ
    have hh : ∀ k, StL (grF v).1 (itN (fun _ => strW v) (fun _ => 0, true, true) k) ∧ (itN (fun _ => strW v) (fun _ => 0, true, true) k).2.2 = true := by
      intro k
      induction k with
      | zero => exact ⟨⟨fun p _ => Nat.zero_le _, fun p _ => rfl⟩, rfl⟩
      | succ k ih =>
        have eS : itN (fun _ => strW v) (fun _ => 0, true, true) (k + 1) = strW v (itN (fun _ => strW v) (fun _ => 0, true, true) k) := rfl
        rw [eS]
        generalize itN (fun _ => strW v) (fun _ => 0, true, true) k = S at ih ⊢
        unfold strW
        split
        · exact strP_s hok hG h6 ih
        · exact ih
    obtain ⟨h1, h2⟩ := hh 40
    rw [eF] at h1 h2
    refine ⟨h2, h1, ?_⟩
    rw [h2, Bool.and_true] at hend
    exact hend
  cases hg : (grF v).2
  · have hG : StC v (grF v).1 := gsW_C 7 hg
    obtain ⟨s1, s2, s3⟩ := sol _ hG
    refine ⟨s1, fun _ => ⟨?_, hG, least_6 hok hG⟩⟩
    have hS := hC s3
    obtain ⟨l1, l2⟩ := grF_L hok hS
    funext p
    by_cases hp : p < 6
    · have := s2.1 p hp
      have := l1 p hp
      omega
    · rw [s2.2 p (by omega), l2 p (by omega)]
  · have hno : (strF v).2.2 = false := by
      cases q : (strF v).2.2
      · rfl
      · rw [q, Bool.and_true] at hend
        have := grF_sol hok (hC hend)
        rw [hg] at this
        cases this
    exact ⟨hno, fun w => by rw [hno] at w; cases w⟩
