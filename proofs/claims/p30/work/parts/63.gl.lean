/-! HOW MANY PASSES AN ITERATION TAKES: each pass that isn't the last settles a place -/
theorem itN_cg {α : Type} {f g : Nat → α → α} {a : α} : ∀ {n : Nat}, (∀ k, k < n → ∀ x, f k x = g k x) → itN f a n = itN g a n
  | 0, _ => rfl
  | n + 1, h => by
    show f n (itN f a n) = g n (itN g a n)
    rw [itN_cg (fun k hk => h k (by omega)), h n (by omega)]
theorem ex_min {P : Nat → Prop} : ∀ n, P n → ∃ m, m ≤ n ∧ P m ∧ ∀ k, k < m → ¬ P k := by
  intro n
  induction n using Nat.strongRecOn with
  | _ n ih =>
    intro h
    by_cases q : ∃ k, k < n ∧ P k
    · obtain ⟨k, h1, h2⟩ := q
      obtain ⟨m, h3, h4, h5⟩ := ih k h1 h2
      exact ⟨m, by omega, h4, h5⟩
    · exact ⟨n, Nat.le_refl _, h, fun k hk hP => q ⟨k, hk, hP⟩⟩
theorem ex_max {P : Nat → Prop} (W : Nat → Nat) : ∀ n, (∃ f, f < n ∧ P f) → ∃ f, f < n ∧ P f ∧ ∀ g, g < n → P g → W g ≤ W f
  | 0, ⟨f, h, _⟩ => absurd h (Nat.not_lt_zero f)
  | n + 1, ⟨f, h1, h2⟩ => by
    by_cases q : ∃ f, f < n ∧ P f
    · obtain ⟨f, h3, h4, h5⟩ := ex_max W n q
      by_cases hn : P n ∧ W f < W n
      · exact ⟨n, Nat.lt_succ_self n, hn.1, fun g hg hP => by
          by_cases e : g = n
          · subst e; exact Nat.le_refl _
          · have := h5 g (by omega) hP
            omega⟩
      · exact ⟨f, by omega, h4, fun g hg hP => by
          by_cases e : g = n
          · subst e
            rcases Nat.lt_or_ge (W f) (W g) with w | w
            · exact absurd ⟨hP, w⟩ hn
            · exact w
          · exact h5 g (by omega) hP⟩
    · have : f = n := by
        rcases Nat.lt_or_ge f n with w | w
        · exact absurd ⟨f, w, h2⟩ q
        · omega
      subst this
      exact ⟨f, Nat.lt_succ_self f, h2, fun g hg hP => by
        by_cases e : g = f
        · subst e; exact Nat.le_refl _
        · exact absurd ⟨g, by omega, hP⟩ q⟩
section GL
variable {α : Type} (e : α → Nat) (hd : Nat → Nat) (F : Nat → (Nat → α) → α)
def glS (i : Nat) (c : Nat → α) : Nat → α := if e (c (hd i)) < e (F i c) then updN c (hd i) (F i c) else c
def glP (N : Nat) (c : Nat → α) : Nat → α := itN (glS e hd F) c N
def glT (N : Nat) (c0 : Nat → α) (t : Nat) : Nat → α := itN (fun t => glS e hd F (t % N)) c0 t
theorem glS_up (i : Nat) (c : Nat → α) (f : Nat) : e (c f) ≤ e (glS e hd F i c f) := by
  unfold glS
  split
  · rename_i q
    unfold updN
    split
    · rename_i w
      rw [w]
      exact Nat.le_of_lt q
    · exact Nat.le_refl _
  · exact Nat.le_refl _
theorem glT_up (N : Nat) (c0 : Nat → α) (f t : Nat) : ∀ m, e (glT e hd F N c0 t f) ≤ e (glT e hd F N c0 (t + m) f)
  | 0 => Nat.le_refl _
  | m + 1 => Nat.le_trans (glT_up N c0 f t m) (glS_up e hd F _ _ f)
theorem glT_mono {N : Nat} {c0 : Nat → α} {f t t' : Nat} (h : t ≤ t') : e (glT e hd F N c0 t f) ≤ e (glT e hd F N c0 t' f) := by
  have := glT_up e hd F N c0 f t (t' - t)
  rw [show t + (t' - t) = t' by omega] at this
  exact this
theorem glT_in (N : Nat) (c0 : Nat → α) (k : Nat) : ∀ j, j ≤ N → glT e hd F N c0 (k * N + j) = itN (glS e hd F) (glT e hd F N c0 (k * N)) j := by
  intro j hj
  unfold glT
  rw [itN_split]
  exact itN_cg fun i hi x => by
    show glS e hd F ((k * N + i) % N) x = _
    rw [show (k * N + i) % N = i from by rw [Nat.mul_comm, Nat.mul_add_mod]; exact Nat.mod_eq_of_lt (by omega)]
theorem glT_k (N : Nat) (c0 : Nat → α) : ∀ k, glT e hd F N c0 (k * N) = itN (fun _ => glP e hd F N) c0 k
  | 0 => by rw [Nat.zero_mul]; rfl
  | k + 1 => by
    rw [Nat.succ_mul, glT_in e hd F N c0 k N (Nat.le_refl _), glT_k N c0 k]
    rfl
theorem gl_settles {N M : Nat} {I : (Nat → α) → Prop} {G : Nat → Nat → Prop} {c0 : Nat → α}
    (hI0 : I c0) (hI : ∀ i, i < N → ∀ c, I c → I (glS e hd F i c)) (hM : ∀ i, i < N → hd i < M) (hG : ∀ i, i < N → ∀ f, G i f → f < M)
    (mono : ∀ i, i < N → ∀ c c', I c → I c' → (∀ f, G i f → e (c f) ≤ e (c' f)) → e (F i c) ≤ e (F i c'))
    (infl : ∀ i, i < N → ∀ c, I c → ∀ f, G i f → e (F i c) ≤ e (c f))
    (hlim : ∃ K, glP e hd F N (itN (fun _ => glP e hd F N) c0 K) = itN (fun _ => glP e hd F N) c0 K) :
    ∃ K, K ≤ M ∧ glP e hd F N (itN (fun _ => glP e hd F N) c0 K) = itN (fun _ => glP e hd F N) c0 K := by
  by_cases hN0 : N = 0
  · subst hN0
    exact ⟨0, Nat.zero_le _, rfl⟩
  have hN : 0 < N := Nat.pos_of_ne_zero hN0
  obtain ⟨K, hK⟩ := hlim
  obtain ⟨cs, hcs⟩ : ∃ cs, cs = itN (fun _ => glP e hd F N) c0 K := ⟨_, rfl⟩
  rw [← hcs] at hK
  have hIt : ∀ t, I (glT e hd F N c0 t) := fun t => by
    induction t with
    | zero => exact hI0
    | succ t ih => exact hI _ (Nat.mod_lt _ hN) _ ih
  have hstay : ∀ m, itN (fun _ => glP e hd F N) c0 (K + m) = cs := fun m => by
    rw [itN_add, ← hcs]
    exact itN_fix hK m
  have hle : ∀ t f, e (glT e hd F N c0 t f) ≤ e (cs f) := fun t f => by
    have h1 : t ≤ (K + t) * N := by
      have : t * 1 ≤ t * N := Nat.mul_le_mul_left t hN
      rw [Nat.add_mul]
      omega
    have h2 := glT_mono e hd F (N := N) (c0 := c0) (f := f) h1
    rw [glT_k, hstay] at h2
    exact h2
  have hTK : glT e hd F N c0 (K * N) = cs := by rw [glT_k, hcs]
  have hτ : ∀ f, ∃ m, m ≤ K * N ∧ e (glT e hd F N c0 m f) = e (cs f) ∧ ∀ k, k < m → ¬ e (glT e hd F N c0 k f) = e (cs f) := fun f =>
    ex_min (P := fun t => e (glT e hd F N c0 t f) = e (cs f)) (K * N) (by rw [hTK])
  obtain ⟨τ, hτ⟩ := Classical.axiomOfChoice hτ
  have claim : ∀ k, (∃ f, f < M ∧ e (glT e hd F N c0 (k * N) f) < e (cs f)) → ∃ f, f < M ∧ e (glT e hd F N c0 (k * N) f) < e (cs f) ∧ ¬ e (glT e hd F N c0 ((k + 1) * N) f) < e (cs f) := by
    intro k hex
    obtain ⟨f, hfM, hfN, hmax⟩ := ex_max (fun f => e (cs f) * (K * N + 1) + (K * N - τ f)) M hex
    refine ⟨f, hfM, hfN, ?_⟩
    obtain ⟨t1, t2, t3⟩ := hτ f
    have hpos : k * N < τ f := by
      rcases Nat.lt_or_ge (k * N) (τ f) with w | w
      · exact w
      · have := glT_mono e hd F (N := N) (c0 := c0) (f := f) w
        omega
    obtain ⟨t, ht⟩ : ∃ t, τ f = t + 1 := ⟨τ f - 1, by omega⟩
    have hi := Nat.mod_lt t hN
    have ht3 := t3 t (by omega)
    have hst : glT e hd F N c0 (t + 1) = glS e hd F (t % N) (glT e hd F N c0 t) := rfl
    rw [ht, hst] at t2
    have hIT := hIt t
    have hlet := fun g => hle t g
    generalize hs0 : glT e hd F N c0 t = s at t2 ht3 hIT hlet
    generalize hii : t % N = i at hi t2
    have hup : f = hd i ∧ e (F i s) = e (cs f) := by
      unfold glS at t2
      split at t2
      · unfold updN at t2
        split at t2
        · rename_i w
          exact ⟨w, t2⟩
        · exact absurd t2 ht3
      · exact absurd t2 ht3
    have hfin : ∀ g, G i g → e (glT e hd F N c0 (k * N) g) = e (cs g) := fun g hg => by
      have h1 := infl i hi s hIT g hg
      have h2 := hlet g
      have h3 := hle (k * N) g
      rcases Nat.lt_or_ge (e (glT e hd F N c0 (k * N) g)) (e (cs g)) with w | w
      · have hgM := hG i hi g hg
        have h4 := hmax g hgM w
        obtain ⟨u1, u2, u3⟩ := hτ g
        have h5 : e (cs g) ≤ e (cs f) := by
          rcases Nat.lt_or_ge (e (cs f)) (e (cs g)) with w2 | w2
          · have h6 := Nat.mul_le_mul_right (K * N + 1) (show e (cs f) + 1 ≤ e (cs g) from w2)
            rw [Nat.succ_mul] at h6
            have h4 : e (cs g) * (K * N + 1) + (K * N - τ g) ≤ e (cs f) * (K * N + 1) + (K * N - τ f) := h4
            omega
          · exact w2
        have h6 : e (cs g) = e (cs f) := by omega
        have h4 : e (cs g) * (K * N + 1) + (K * N - τ g) ≤ e (cs f) * (K * N + 1) + (K * N - τ f) := h4
        rw [h6] at h4
        have h7 : e (s g) = e (cs g) := by omega
        have h8 : τ g ≤ t := by
          rcases Nat.lt_or_ge t (τ g) with w3 | w3
          · exact absurd (by rw [hs0]; exact h7) (u3 t w3)
          · exact w3
        omega
      · omega
    have hmid := glT_in e hd F N c0 k (i + 1) (by omega)
    have hmid0 := glT_in e hd F N c0 k i (by omega)
    have hIm := hIt (k * N + i)
    have hge : ∀ g, G i g → e (s g) ≤ e (glT e hd F N c0 (k * N + i) g) := fun g hg => by
      have h1 := glT_mono e hd F (N := N) (c0 := c0) (f := g) (show k * N ≤ k * N + i by omega)
      have h2 := hfin g hg
      have h3 := hlet g
      omega
    have hF := mono i hi s (glT e hd F N c0 (k * N + i)) hIT hIm hge
    have hlast : e (cs f) ≤ e (glT e hd F N c0 (k * N + (i + 1)) f) := by
      rw [hmid]
      show e (cs f) ≤ e (glS e hd F i (itN (glS e hd F) (glT e hd F N c0 (k * N)) i) f)
      rw [← hmid0]
      generalize glT e hd F N c0 (k * N + i) = s' at hF
      unfold glS
      rw [← hup.1]
      split
      · rw [updN_same]
        omega
      · omega
    have h9 := glT_mono e hd F (N := N) (c0 := c0) (f := f) (show k * N + (i + 1) ≤ (k + 1) * N by rw [Nat.succ_mul]; omega)
    omega
  have cnt : ∀ k, k ≤ M → (∃ f, f < M ∧ e (glT e hd F N c0 (k * N) f) < e (cs f)) → cntB (fun f => decide (e (glT e hd F N c0 (k * N) f) < e (cs f))) M + k ≤ M := by
    intro k
    induction k with
    | zero => exact fun _ _ => cntB_le _ _
    | succ k ih =>
      intro hk hex
      obtain ⟨f, h1, h2⟩ := hex
      have hmon : ∀ g, e (glT e hd F N c0 (k * N) g) ≤ e (glT e hd F N c0 ((k + 1) * N) g) := fun g => glT_mono e hd F (by rw [Nat.succ_mul]; omega)
      have hex' : ∃ f, f < M ∧ e (glT e hd F N c0 (k * N) f) < e (cs f) := ⟨f, h1, by have := hmon f; omega⟩
      have h3 := ih (by omega) hex'
      obtain ⟨g, g1, g2, g3⟩ := claim k hex'
      have h4 : ∀ n, n ≤ M → cntB (fun f => decide (e (glT e hd F N c0 ((k + 1) * N) f) < e (cs f))) n + (if g < n then 1 else 0) ≤ cntB (fun f => decide (e (glT e hd F N c0 (k * N) f) < e (cs f))) n := by
        intro n
        induction n with
        | zero => exact fun _ => Nat.le_refl _
        | succ n ihn =>
          intro hn
          have := ihn (by omega)
          have hmn := hmon n
          simp only [cntB, decide_eq_true_eq]
          by_cases en : g = n
          · subst en
            rw [if_neg g3, if_pos g2, if_pos (Nat.lt_succ_self _)]
            rw [if_neg (Nat.lt_irrefl _)] at this
            omega
          · by_cases q : g < n
            · rw [if_pos q] at this
              rw [if_pos (show g < n + 1 by omega)]
              split
              · rw [if_pos (by omega)]; omega
              · split <;> omega
            · rw [if_neg q] at this
              rw [if_neg (show ¬ g < n + 1 by omega)]
              split
              · rw [if_pos (by omega)]; omega
              · split <;> omega
      have := h4 M (Nat.le_refl _)
      rw [if_pos g1] at this
      omega
  refine ⟨M, Nat.le_refl _, ?_⟩
  have hall : ∀ f, f < M → e (cs f) ≤ e (glT e hd F N c0 (M * N) f) := fun f hf => by
    rcases Nat.lt_or_ge (e (glT e hd F N c0 (M * N) f)) (e (cs f)) with w | w
    · have h1 := cnt M (Nat.le_refl _) ⟨f, hf, w⟩
      have h2 : 0 < cntB (fun f => decide (e (glT e hd F N c0 (M * N) f) < e (cs f))) M := cntB_pos.mpr ⟨f, hf, decide_eq_true w⟩
      omega
    · exact w
  rw [← glT_k]
  have hno : ∀ j, j ≤ N → itN (glS e hd F) (glT e hd F N c0 (M * N)) j = glT e hd F N c0 (M * N) := by
    intro j
    induction j with
    | zero => exact fun _ => rfl
    | succ j ihj =>
      intro hj
      show glS e hd F j (itN (glS e hd F) (glT e hd F N c0 (M * N)) j) = _
      have h1 := glT_in e hd F N c0 M (j + 1) hj
      have h1' : glT e hd F N c0 (M * N + (j + 1)) = glS e hd F j (itN (glS e hd F) (glT e hd F N c0 (M * N)) j) := h1
      rw [ihj (by omega)] at h1' ⊢
      unfold glS
      split
      · rename_i q
        have h2 := hle (M * N + (j + 1)) (hd j)
        rw [h1'] at h2
        unfold glS at h2
        rw [if_pos q, updN_same] at h2
        have h3 := hall (hd j) (hM j (by omega))
        omega
      · rfl
  exact hno N (Nat.le_refl _)
end GL
