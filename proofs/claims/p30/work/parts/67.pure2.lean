/-! what costs at rest are -/
theorem coI_flag {v : Nat → Nat} {S : HoS} {c : Nat → Nat} : ∀ n, (itN (coI v S) (c, false) n).2 = false → itN (coI v S) (c, false) n = (c, false) ∧ ∀ i, i < n → ¬ coB v S c i < c (S.2.2.1 i)
  | 0, _ => ⟨rfl, fun i hi => absurd hi (Nat.not_lt_zero i)⟩
  | n + 1, h => by
    have e : itN (coI v S) (c, false) (n + 1) = coI v S n (itN (coI v S) (c, false) n) := rfl
    rw [e] at h ⊢
    have h0 : (itN (coI v S) (c, false) n).2 = false := by
      cases q : (itN (coI v S) (c, false) n).2
      · rfl
      · generalize itN (coI v S) (c, false) n = T at h q
        unfold coI at h
        split at h
        · cases h
        · rw [q] at h; cases h
    obtain ⟨h1, h2⟩ := coI_flag n h0
    rw [h1] at h ⊢
    unfold coI at h ⊢
    by_cases q : coB v S (c, false).1 n < (c, false).1 (S.2.2.1 n)
    · rw [if_pos q] at h; cases h
    · rw [if_neg q]
      refine ⟨rfl, fun i hi => ?_⟩
      by_cases ei : i = n
      · subst ei; exact q
      · exact h2 i (by omega)
theorem co_rest {v : Nat → Nat} {S : HoS} (hS : HoOk v S) {c : Nat → Nat} (h : (coP v S c).1 = c) : ∀ i, i < S.1 → c (S.2.2.1 i) ≤ coB v S c i := fun i hi => by
  obtain ⟨h1, h2⟩ := coP_flag hS c
  have hf : (coP v S c).2 = false := by
    cases q : (coP v S c).2
    · rfl
    · have := h1 q
      rw [h] at this
      omega
  have := (coI_flag (v := v) (S := S) (c := c) S.1 hf).2 i hi
  omega
theorem coI_dec {v : Nat → Nat} {S : HoS} {i : Nat} {p : (Nat → Nat) × Bool} (f : Nat) : (coI v S i p).1 f ≤ p.1 f := by
  unfold coI
  split
  · rename_i q
    show updN _ _ _ f ≤ _
    unfold updN
    split
    · rename_i w; rw [w]; exact Nat.le_of_lt q
    · exact Nat.le_refl _
  · exact Nat.le_refl _
theorem coP_dec {v : Nat → Nat} {S : HoS} {c : Nat → Nat} (f : Nat) : (coP v S c).1 f ≤ c f := by
  have : ∀ n, (itN (coI v S) (c, false) n).1 f ≤ c f := by
    intro n
    induction n with
    | zero => exact Nat.le_refl _
    | succ n ih => exact Nat.le_trans (coI_dec f) ih
  exact this S.1
theorem coU_fact {v : Nat → Nat} : ∀ n, ∀ k, k < n → itN (coU v) (fun _ => 1000001) n (v (9 + 3 * k)) ≤ v (9 + 3 * k + 1)
  | 0, k, hk => absurd hk (Nat.not_lt_zero k)
  | n + 1, k, hk => by
    show coU v n (itN (coU v) (fun _ => 1000001) n) (v (9 + 3 * k)) ≤ _
    have ih := coU_fact (v := v) n
    generalize itN (coU v) (fun _ => 1000001) n = c at ih ⊢
    unfold coU updN
    by_cases e : k = n
    · subst e
      rw [if_pos rfl]
      split <;> omega
    · have := ih k (by omega)
      split
      · rename_i w
        rw [← w]
        split <;> omega
      · exact this
theorem coLim_base {v : Nat → Nat} {S : HoS} {c : Nat → Nat} (h : IsLim (fun c => (coP v S c).1) (coBase v) c) : ∀ k, k < v 1 → c (v (9 + 3 * k)) ≤ v (9 + 3 * k + 1) := by
  obtain ⟨n, rfl, -⟩ := h
  intro k hk
  have : ∀ n, itN (fun _ c => (coP v S c).1) (coBase v) n (v (9 + 3 * k)) ≤ coBase v (v (9 + 3 * k)) := by
    intro n
    induction n with
    | zero => exact Nat.le_refl _
    | succ n ih => exact Nat.le_trans (coP_dec _) ih
  exact Nat.le_trans (this n) (coU_fact (v := v) (v 1) k hk)
/-- each cost comes from somewhere -/
def Ach (v : Nat → Nat) (S : HoS) (c : Nat → Nat) : Prop := ∀ f, c f = 1000001 ∨ (∃ k, k < v 1 ∧ isBase v c f k) ∨ ∃ i, i < S.1 ∧ S.2.2.1 i = f ∧ coB v S c i ≤ c f
theorem Ach_base {v : Nat → Nat} {S : HoS} : Ach v S (coBase v) := by
  have : ∀ n, n ≤ v 1 → ∀ f, itN (coU v) (fun _ => 1000001) n f = 1000001 ∨ ∃ k, k < v 1 ∧ v (9 + 3 * k) = f ∧ v (9 + 3 * k + 1) = itN (coU v) (fun _ => 1000001) n f := by
    intro n
    induction n with
    | zero => exact fun _ f => Or.inl rfl
    | succ n ih =>
      intro hn f
      have h0 := ih (by omega) f
      show coU v n (itN (coU v) (fun _ => 1000001) n) f = 1000001 ∨ ∃ k, k < v 1 ∧ v (9 + 3 * k) = f ∧ v (9 + 3 * k + 1) = coU v n (itN (coU v) (fun _ => 1000001) n) f
      generalize itN (coU v) (fun _ => 1000001) n = c at h0 ⊢
      unfold coU updN
      split
      · rename_i w
        split
        · exact Or.inr ⟨n, by omega, w.symm, rfl⟩
        · rw [← w]; exact h0
      · exact h0
  intro f
  rcases this (v 1) (Nat.le_refl _) f with h | ⟨k, h1, h2, h3⟩
  · exact Or.inl h
  · exact Or.inr (Or.inl ⟨k, h1, h2, h3⟩)
theorem Ach_step {v : Nat → Nat} {S : HoS} {i : Nat} (hi : i < S.1) {p : (Nat → Nat) × Bool} (h : Ach v S p.1) : Ach v S (coI v S i p).1 := by
  intro f
  have hd := fun g => coI_dec (v := v) (S := S) (i := i) (p := p) g
  have hm := fun j => coB_mono (v := v) (S := S) (c := (coI v S i p).1) (c' := p.1) (i := j) (fun g _ => hd g)
  by_cases q : coB v S p.1 i < p.1 (S.2.2.1 i) ∧ f = S.2.2.1 i
  · obtain ⟨q1, q2⟩ := q
    refine Or.inr (Or.inr ⟨i, hi, q2.symm, ?_⟩)
    have e : (coI v S i p).1 f = coB v S p.1 i := by
      unfold coI
      rw [if_pos q1, q2]
      exact updN_same _ _ _
    rw [e]
    exact hm i
  · have e : (coI v S i p).1 f = p.1 f := by
      unfold coI
      split
      · rename_i w
        exact updN_ne _ _ (fun e => q ⟨w, e⟩)
      · rfl
    unfold isBase
    rw [e]
    rcases h f with h1 | h1 | ⟨j, h1, h2, h3⟩
    · exact Or.inl h1
    · exact Or.inr (Or.inl h1)
    · exact Or.inr (Or.inr ⟨j, h1, h2, Nat.le_trans (hm j) h3⟩)
set_option maxRecDepth 20000 in
theorem coLim_ach {v : Nat → Nat} {S : HoS} (hS : HoOk v S) {c : Nat → Nat} (h : IsLim (fun c => (coP v S c).1) (coBase v) c) : ∀ f, c f = 1000001 ∨ (∃ k, k < v 1 ∧ isBase v c f k) ∨ ∃ i, i < S.1 ∧ S.2.2.1 i = f ∧ coB v S c i = c f := by
  obtain ⟨n, hn, hfix⟩ := h
  have hA : ∀ n, Ach v S (itN (fun _ c => (coP v S c).1) (coBase v) n) := by
    intro n
    induction n with
    | zero => exact Ach_base
    | succ n ih =>
      have : ∀ k, k ≤ S.1 → Ach v S (itN (coI v S) (itN (fun _ c => (coP v S c).1) (coBase v) n, false) k).1 := by
        intro k
        induction k with
        | zero => exact fun _ => ih
        | succ k ihk => exact fun hk => Ach_step (by omega) (ihk (by omega))
      exact this S.1 (Nat.le_refl _)
  intro f
  have hAc : Ach v S c := by rw [hn]; exact hA n
  rcases hAc f with h1 | h1 | ⟨i, h1, h2, h3⟩
  · exact Or.inl h1
  · exact Or.inr (Or.inl h1)
  · refine Or.inr (Or.inr ⟨i, h1, h2, ?_⟩)
    have := co_rest hS hfix i h1
    rw [h2] at this
    omega
/-- the class's rows of least derivations against the reference's -/
def LKz (L : LeS) (z u : Nat → Nat) : Prop := ∀ f, f < 216 → z f = L.2.1 f ∧ u f = L.2.2.1 f
def LKc (S : HoS) (c hs : Nat → Nat) (ch : Nat → Int32) (kr : Nat → Nat) (L : LeS) : Prop := ∀ f, f < 216 → L.2.1 f = 0 → ((ch f ≠ -1 ∧ c f < 1000001) ↔ ¬ L.1 f < 0) ∧ (¬ L.1 f < 0 → ch f = nI (hs (L.2.2.2 f)) ∧ L.2.2.2 f < S.1 ∧ kr f = S.2.1 (L.2.2.2 f))
def LKr (c kr : Nat → Nat) (L : LeS) : Prop := ∀ f, f < 216 → (c f < 1000001 → L.1 f = nI (kr f)) ∧ (1000001 ≤ c f → L.1 f < 0)
theorem LK_start {v : Nat → Nat} (hok : OkN v) {g : GD} (hG : GrOk v g) {S : HoS} (hS : HoOk v S) {tot : Nat} {hs oh : Nat → Nat} (hH : HdOk v S tot hs oh) {c : Nat → Nat} (hc : IsLim (fun c => (coP v S c).1) (coBase v) c) (lb : Nat → Nat) :
    LKz (ls2 v S c lb) (zcV v c (kbF v).2) (ucV v c (kbF v).2) ∧ LKc S c hs (chF v S c hs) (krV v c (kbF v).2 (chF v S c hs) g.ru) (ls2 v S c lb) ∧ LKr c (krV v c (kbF v).2 (chF v S c hs) g.ru) (ls2 v S c lb) := by
  have hF := coLim_F hc
  have hbase := coLim_base hc
  have hach := coLim_ach hS hc
  have h8 := hok.2.2.2.1
  have h12 := hok.2.2.1
  have hs31 : ∀ j, j < S.1 → hs j < 2147483648 := fun j hj => by
    have := (hH.at hok hG hj).1
    omega
  have key : ∀ f, (zcV v c (kbF v).2 f = (ls2 v S c lb).2.1 f ∧ ucV v c (kbF v).2 f = (ls2 v S c lb).2.2.1 f) ∧ ((ls2 v S c lb).2.1 f = 0 → (((chF v S c hs) f ≠ -1 ∧ c f < 1000001) ↔ ¬ (ls2 v S c lb).1 f < 0) ∧ (¬ (ls2 v S c lb).1 f < 0 → chF v S c hs f = nI (hs ((ls2 v S c lb).2.2.2 f)) ∧ (ls2 v S c lb).2.2.2 f < S.1 ∧ krV v c (kbF v).2 (chF v S c hs) g.ru f = S.2.1 ((ls2 v S c lb).2.2.2 f))) ∧ ((c f < 1000001 → (ls2 v S c lb).1 f = nI (krV v c (kbF v).2 (chF v S c hs) g.ru f)) ∧ (1000001 ≤ c f → (ls2 v S c lb).1 f < 0)) := by
    intro f
    have hC := ls2_C hok hS c lb f
    obtain ⟨b1, b2⟩ := isBv_iff hok hbase f
    have hch := ch_min (v := v) (S := S) (c := c) (f := f) hs31 S.1 (Nat.le_refl _)
    have ech : itN (chJ v S c hs) (fun _ => (-1 : Int32)) S.1 = chF v S c hs := rfl
    rw [ech] at hch
    generalize ls2 v S c lb = L at hC
    unfold zcV ucV krV
    rcases hC with ⟨k, hk, a1, a2, a3⟩ | ⟨hk, a2, a3, a4⟩
    · have hbv : isBv v c (kbF v).2 f = true := by
        cases q : isBv v c (kbF v).2 f
        · exact absurd hk.2.1 (b2 q k hk.1)
        · rfl
      obtain ⟨k', hk', e⟩ := b1 hbv
      have := hk.uniq hk'
      subst this
      have hk12 := hk.1
      have hkc : v (9 + 3 * k + 1) = c f := hk.2.1.2
      have hk99 := (hok.2.2.2.2.2.1 k hk12).2.1
      rw [hbv, if_pos rfl, if_pos rfl, if_neg (fun w => by cases w.1), e, nI_clamp (by omega)]
      exact ⟨⟨a2.symm, a3.symm⟩, fun w => absurd (a2.symm.trans w) (by decide), fun _ => a1, fun w => absurd w (by omega)⟩
    · have hbv : isBv v c (kbF v).2 f = false := by
        cases q : isBv v c (kbF v).2 f
        · rfl
        · obtain ⟨k', hk', -⟩ := b1 q
          exact absurd hk'.2.1 (hk k' hk'.1)
      rw [hbv, if_neg (by decide), if_neg (by decide)]
      refine ⟨⟨a2.symm, a3.symm⟩, ?_⟩
      rcases a4 with ⟨i, hi, d1, d2⟩ | ⟨hi, d1⟩
      · obtain ⟨i1, ⟨i2, i3, i4⟩, i5⟩ := hi
        have hmin : isMin (fun i => S.2.2.1 i = f ∧ coB v S c i = c f) S.1 i := ⟨i1, ⟨i2, i4⟩, fun j hj hq => i5 j hj ⟨hq.1, i3, hq.2⟩⟩
        have ech2 : chF v S c hs f = nI (hs i) := by
          rcases hch with ⟨-, q⟩ | ⟨j, hj, q⟩
          · exact absurd ⟨i2, i4⟩ (q i i1)
          · rw [q, hj.uniq hmin]
        obtain ⟨w1, w2, w3, -⟩ := hH.at hok hG i1
        have hne : chF v S c hs f ≠ -1 := by rw [ech2]; exact nI_nm1 (by omega)
        have hrn : ¬ L.1 f < 0 := by rw [d1]; exact nI_pos (by omega)
        rw [if_pos ⟨rfl, hne⟩, ech2, nI_clamp (by omega), d2, w3]
        refine ⟨fun _ => ⟨⟨fun _ => hrn, fun _ => ⟨by rw [← ech2]; exact hne, i3⟩⟩, fun _ => ⟨rfl, i1, rfl⟩⟩, fun _ => d1, fun w => by omega⟩
      · have hrn : L.1 f < 0 := by rw [d1]; decide
        have hno : ¬ (chF v S c hs f ≠ -1 ∧ c f < 1000001) := by
          rintro ⟨q1, q2⟩
          rcases hch with ⟨q, -⟩ | ⟨j, hj, -⟩
          · exact q1 q
          · exact hi j hj.1 ⟨hj.2.1.1, q2, hj.2.1.2⟩
        refine ⟨fun _ => ⟨⟨fun w => absurd w hno, fun w => absurd hrn w⟩, fun w => absurd hrn w⟩, fun w => ?_, fun _ => hrn⟩
        rcases hach f with q | ⟨k, q1, q2⟩ | ⟨i, q1, q2, q3⟩
        · omega
        · exact absurd q2 (hk k q1)
        · exact absurd ⟨q2, w, q3⟩ (hi i q1)
  exact ⟨fun f _ => (key f).1, fun f _ => (key f).2.1, fun f _ => (key f).2.2⟩
