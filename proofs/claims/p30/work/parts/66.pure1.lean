/-! LEAST DERIVATIONS: what both sides choose -/
def isBase (v c : Nat → Nat) (f k : Nat) : Prop := v (9 + 3 * k) = f ∧ v (9 + 3 * k + 1) = c f
def isInst (v : Nat → Nat) (S : HoS) (c : Nat → Nat) (f i : Nat) : Prop := S.2.2.1 i = f ∧ c f < 1000001 ∧ coB v S c i = c f
/-- the least k below n with P -/
def isMin (P : Nat → Prop) (n k : Nat) : Prop := k < n ∧ P k ∧ ∀ j, j < k → ¬ P j
theorem min_or (P : Nat → Prop) : ∀ n, (∃ k, isMin P n k) ∨ ∀ k, k < n → ¬ P k
  | 0 => Or.inr fun k hk => absurd hk (Nat.not_lt_zero k)
  | n + 1 => by
    rcases min_or P n with ⟨k, h1, h2, h3⟩ | h
    · exact Or.inl ⟨k, by omega, h2, h3⟩
    · by_cases q : P n
      · exact Or.inl ⟨n, Nat.lt_succ_self n, q, h⟩
      · refine Or.inr fun k hk => ?_
        by_cases e : k = n
        · subst e; exact q
        · exact h k (by omega)
theorem isMin.uniq {P : Nat → Prop} {n k k' : Nat} (h : isMin P n k) (h' : isMin P n k') : k = k' := by
  rcases Nat.lt_trichotomy k k' with w | w | w
  · exact absurd h.2.1 (h'.2.2 k w)
  · exact w
  · exact absurd h'.2.1 (h.2.2 k' w)
theorem lsK_at {v c : Nat → Nat} {k f : Nat} {L : LeS} : (isBase v c f k → (lsK v c k L).1 f = nI 8 ∧ (lsK v c k L).2.1 f = 1 ∧ (lsK v c k L).2.2.1 f = 2 ^ k) ∧ (¬ isBase v c f k → (lsK v c k L).1 f = L.1 f ∧ (lsK v c k L).2.1 f = L.2.1 f ∧ (lsK v c k L).2.2.1 f = L.2.2.1 f) ∧ (lsK v c k L).2.2.2 = L.2.2.2 := by
  unfold lsK isBase
  refine ⟨fun ⟨h1, h2⟩ => ?_, fun h => ?_, ?_⟩
  · subst h1
    rw [if_pos h2]
    exact ⟨by simp [upd], updN_same _ _ _, updN_same _ _ _⟩
  · split
    · rename_i q
      have e : ¬ f = v (9 + 3 * k) := fun e => h ⟨e.symm, by rw [e]; exact q⟩
      exact ⟨by simp [upd, e], updN_ne _ _ e, updN_ne _ _ e⟩
    · exact ⟨rfl, rfl, rfl⟩
  · split <;> rfl
theorem lsKs_at {v c : Nat → Nat} {f : Nat} : ∀ n (L : LeS), (∀ k, isMin (isBase v c f) n k → (itD (lsK v c) L n).1 f = nI 8 ∧ (itD (lsK v c) L n).2.1 f = 1 ∧ (itD (lsK v c) L n).2.2.1 f = 2 ^ k) ∧ ((∀ k, k < n → ¬ isBase v c f k) → (itD (lsK v c) L n).1 f = L.1 f ∧ (itD (lsK v c) L n).2.1 f = L.2.1 f ∧ (itD (lsK v c) L n).2.2.1 f = L.2.2.1 f) ∧ (itD (lsK v c) L n).2.2.2 = L.2.2.2
  | 0, L => ⟨fun k h => absurd h.1 (Nat.not_lt_zero k), fun _ => ⟨rfl, rfl, rfl⟩, rfl⟩
  | n + 1, L => by
    obtain ⟨h1, h2, h3⟩ := lsKs_at (v := v) (c := c) (f := f) n (lsK v c n L)
    obtain ⟨g1, g2, g3⟩ := lsK_at (v := v) (c := c) (k := n) (f := f) (L := L)
    refine ⟨fun k hk => ?_, fun hk => ?_, h3.trans g3⟩
    · by_cases e : k = n
      · subst e
        obtain ⟨a1, a2, a3⟩ := h2 hk.2.2
        obtain ⟨b1, b2, b3⟩ := g1 hk.2.1
        exact ⟨a1.trans b1, a2.trans b2, a3.trans b3⟩
      · exact h1 k ⟨by have := hk.1; omega, hk.2⟩
    · obtain ⟨a1, a2, a3⟩ := h2 (fun k h => hk k (by omega))
      obtain ⟨b1, b2, b3⟩ := g2 (hk n (Nat.lt_succ_self n))
      exact ⟨a1.trans b1, a2.trans b2, a3.trans b3⟩
theorem lsI_at {v : Nat → Nat} {S : HoS} {c : Nat → Nat} {i f : Nat} {L : LeS} : (isInst v S c f i → L.1 f ≠ nI 8 → (lsI v S c i L).1 f = nI (S.2.1 i) ∧ (lsI v S c i L).2.2.2 f = i) ∧ ((¬ isInst v S c f i ∨ L.1 f = nI 8) → (lsI v S c i L).1 f = L.1 f ∧ (lsI v S c i L).2.2.2 f = L.2.2.2 f) ∧ (lsI v S c i L).2.1 = L.2.1 ∧ (lsI v S c i L).2.2.1 = L.2.2.1 := by
  unfold lsI isInst
  refine ⟨fun ⟨h1, h2, h3⟩ h4 => ?_, fun h => ?_, ?_⟩
  · subst h1
    rw [if_pos ⟨h4, h2, h3⟩]
    exact ⟨by simp [upd], updN_same _ _ _⟩
  · split
    · rename_i q
      have e : ¬ f = S.2.2.1 i := fun e => by
        subst e
        rcases h with h | h
        · exact h ⟨rfl, q.2⟩
        · exact q.1 h
      exact ⟨by simp [upd, e], updN_ne _ _ e⟩
    · exact ⟨rfl, rfl⟩
  · split <;> exact ⟨rfl, rfl⟩
theorem lsIs_at {v : Nat → Nat} (hok : OkN v) {S : HoS} (hS : HoOk v S) {c : Nat → Nat} {f : Nat} : ∀ n, n ≤ S.1 → ∀ L : LeS, (∀ i, isMin (isInst v S c f) n i → L.1 f ≠ nI 8 → (itD (lsI v S c) L n).1 f = nI (S.2.1 i) ∧ (itD (lsI v S c) L n).2.2.2 f = i) ∧ (((∀ i, i < n → ¬ isInst v S c f i) ∨ L.1 f = nI 8) → (itD (lsI v S c) L n).1 f = L.1 f ∧ (itD (lsI v S c) L n).2.2.2 f = L.2.2.2 f) ∧ (itD (lsI v S c) L n).2.1 = L.2.1 ∧ (itD (lsI v S c) L n).2.2.1 = L.2.2.1
  | 0, _, L => ⟨fun k h => absurd h.1 (Nat.not_lt_zero k), fun _ => ⟨rfl, rfl⟩, rfl, rfl⟩
  | n + 1, hn, L => by
    obtain ⟨h1, h2, h3, h4⟩ := lsIs_at hok hS (c := c) (f := f) n (by omega) (lsI v S c n L)
    obtain ⟨g1, g2, g3, g4⟩ := lsI_at (v := v) (S := S) (c := c) (i := n) (f := f) (L := L)
    have hr := (hS.2 n (by omega)).1
    have h8 := hok.2.2.2.1
    have hne : nI (S.2.1 n) ≠ nI 8 := fun q => by have := (nI_eq (by omega) (by omega)).mp q; omega
    refine ⟨fun i hi hL => ?_, fun hi => ?_, h3.trans g3, h4.trans g4⟩
    · by_cases e : i = n
      · subst e
        obtain ⟨b1, b2⟩ := g1 hi.2.1 hL
        obtain ⟨a1, a2⟩ := h2 (Or.inl hi.2.2)
        exact ⟨a1.trans b1, a2.trans b2⟩
      · refine h1 i ⟨by have := hi.1; omega, hi.2⟩ ?_
        by_cases q : isInst v S c f n
        · rw [(g1 q hL).1]; exact hne
        · rw [(g2 (Or.inl q)).1]; exact hL
    · rcases hi with hi | hi
      · obtain ⟨b1, b2⟩ := g2 (Or.inl (hi n (Nat.lt_succ_self n)))
        obtain ⟨a1, a2⟩ := h2 (Or.inl (fun i h => hi i (by omega)))
        exact ⟨a1.trans b1, a2.trans b2⟩
      · obtain ⟨b1, b2⟩ := g2 (Or.inr hi)
        obtain ⟨a1, a2⟩ := h2 (Or.inr (b1.trans hi))
        exact ⟨a1.trans b1, a2.trans b2⟩
/-- what the reference chooses -/
def LsC (v : Nat → Nat) (S : HoS) (c : Nat → Nat) (L : LeS) (f : Nat) : Prop :=
  (∃ k, isMin (isBase v c f) (v 1) k ∧ L.1 f = nI 8 ∧ L.2.1 f = 1 ∧ L.2.2.1 f = 2 ^ k) ∨
  ((∀ k, k < v 1 → ¬ isBase v c f k) ∧ L.2.1 f = 0 ∧ L.2.2.1 f = 0 ∧ ((∃ i, isMin (isInst v S c f) S.1 i ∧ L.1 f = nI (S.2.1 i) ∧ L.2.2.2 f = i) ∨ ((∀ i, i < S.1 → ¬ isInst v S c f i) ∧ L.1 f = -1)))
theorem ls2_C {v : Nat → Nat} (hok : OkN v) {S : HoS} (hS : HoOk v S) (c lb : Nat → Nat) (f : Nat) : LsC v S c (ls2 v S c lb) f := by
  obtain ⟨k1, k2, k3⟩ := lsKs_at (v := v) (c := c) (f := f) (v 1) (ls0 lb)
  obtain ⟨i1, i2, i3, i4⟩ := lsIs_at hok hS (c := c) (f := f) S.1 (Nat.le_refl _) (itD (lsK v c) (ls0 lb) (v 1))
  unfold LsC
  unfold ls2
  rw [i3, i4]
  rcases min_or (isBase v c f) (v 1) with ⟨k, hk⟩ | hk
  · obtain ⟨a1, a2, a3⟩ := k1 k hk
    exact Or.inl ⟨k, hk, (i2 (Or.inr a1)).1.trans a1, a2, a3⟩
  · obtain ⟨a1, a2, a3⟩ := k2 hk
    have a1 : (itD (lsK v c) (ls0 lb) (v 1)).1 f = -1 := a1
    refine Or.inr ⟨hk, a2, a3, ?_⟩
    rcases min_or (isInst v S c f) S.1 with ⟨i, hi⟩ | hi
    · obtain ⟨b1, b2⟩ := i1 i hi (by rw [a1]; decide)
      exact Or.inl ⟨i, hi, b1, b2⟩
    · exact Or.inr ⟨hi, (i2 (Or.inl hi)).1.trans a1⟩
/-- two runs that differ only in what isn't set -/
def LsE (L L' : LeS) : Prop := ∀ f, L.1 f = L'.1 f ∧ L.2.1 f = L'.2.1 f ∧ L.2.2.1 f = L'.2.2.1 f ∧ (¬ L.1 f < 0 → L.2.1 f = 0 → L.2.2.2 f = L'.2.2.2 f)
theorem ls2_E {v : Nat → Nat} (hok : OkN v) {S : HoS} (hS : HoOk v S) (c lb lb' : Nat → Nat) : LsE (ls2 v S c lb) (ls2 v S c lb') := by
  intro f
  have h := ls2_C hok hS c lb f
  have h' := ls2_C hok hS c lb' f
  generalize ls2 v S c lb = L at h
  generalize ls2 v S c lb' = L' at h'
  rcases h with ⟨k, hk, a1, a2, a3⟩ | ⟨hk, a2, a3, a4⟩
  · rcases h' with ⟨k', hk', b1, b2, b3⟩ | ⟨hk', -⟩
    · rw [hk.uniq hk'] at a3
      exact ⟨a1.trans b1.symm, a2.trans b2.symm, a3.trans b3.symm, fun _ q => by rw [a2] at q; cases q⟩
    · exact absurd hk.2.1 (hk' k hk.1)
  · rcases h' with ⟨k', hk', -⟩ | ⟨hk', b2, b3, b4⟩
    · exact absurd hk'.2.1 (hk k' hk'.1)
    · refine ⟨?_, a2.trans b2.symm, a3.trans b3.symm, fun q _ => ?_⟩
      · rcases a4 with ⟨i, hi, c1, c2⟩ | ⟨hi, c1⟩
        · rcases b4 with ⟨i', hi', d1, d2⟩ | ⟨hi', -⟩
          · rw [hi.uniq hi'] at c1
            exact c1.trans d1.symm
          · exact absurd hi.2.1 (hi' i hi.1)
        · rcases b4 with ⟨i', hi', -⟩ | ⟨-, d1⟩
          · exact absurd hi'.2.1 (hi i' hi'.1)
          · exact c1.trans d1.symm
      · rcases a4 with ⟨i, hi, c1, c2⟩ | ⟨hi, c1⟩
        · rcases b4 with ⟨i', hi', d1, d2⟩ | ⟨hi', -⟩
          · rw [hi.uniq hi'] at c2
            exact c2.trans d2.symm
          · exact absurd hi.2.1 (hi' i hi.1)
        · rw [c1] at q
          exact absurd (by decide) q
theorem allL_cg {S : HoS} {D E : Nat → Bool} {i : Nat} (h : ∀ f, D f = E f) : allL S D i = allL S E i := by
  rw [show D = E from funext h]
theorem lsG_E {S : HoS} {f : Nat} {p p' : LeS × Bool} (h : LsE p.1 p'.1 ∧ p.2 = p'.2) : LsE (lsG S f p).1 (lsG S f p').1 ∧ (lsG S f p).2 = (lsG S f p').2 := by
  obtain ⟨h1, h2⟩ := h
  have ez : p.1.2.1 = p'.1.2.1 := funext fun g => (h1 g).2.1
  have eu : p.1.2.2.1 = p'.1.2.2.1 := funext fun g => (h1 g).2.2.1
  obtain ⟨f1, f2, f3, f4⟩ := h1 f
  unfold lsG
  by_cases q : p.1.2.1 f = 0 ∧ ¬ p.1.1 f < 0
  · have e := f4 q.2 q.1
    rw [← e, ← ez, ← f1]
    by_cases w : allL S (fun g => decide (0 < p.1.2.1 g)) (p.1.2.2.2 f) = true
    · rw [if_pos ⟨q.1, q.2, w⟩, if_pos ⟨q.1, q.2, w⟩]
      refine ⟨fun g => ?_, rfl⟩
      obtain ⟨g1, g2, g3, g4⟩ := h1 g
      refine ⟨g1, rfl, by rw [eu], fun w1 w2 => ?_⟩
      have w2 : updN p.1.2.1 f (szS S p.1.2.1 (p.1.2.2.2 f) 3) g = 0 := w2
      by_cases eg : g = f
      · subst eg
        rw [updN_same] at w2
        have := szS_pos S p.1.2.1 (p.1.2.2.2 g) 3
        omega
      · rw [updN_ne _ _ eg] at w2
        exact g4 w1 w2
    · rw [if_neg (fun y => w y.2.2), if_neg (fun y => w y.2.2)]
      exact ⟨h1, h2⟩
  · rw [if_neg (fun y => q ⟨y.1, y.2.1⟩), if_neg (fun y => q ⟨by rw [f2]; exact y.1, by rw [f1]; exact y.2.1⟩)]
    exact ⟨h1, h2⟩
theorem lsP_E {S : HoS} {N : Nat} {L L' : LeS} (h : LsE L L') : LsE (lsP S N L).1 (lsP S N L').1 := by
  have : ∀ n, LsE (itN (lsG S) (L, false) n).1 (itN (lsG S) (L', false) n).1 ∧ (itN (lsG S) (L, false) n).2 = (itN (lsG S) (L', false) n).2 := by
    intro n
    induction n with
    | zero => exact ⟨h, rfl⟩
    | succ n ih => exact lsG_E ih
  exact (this N).1
/-- the sizes don't depend on what isn't set -/
theorem lim_E {S : HoS} {N : Nat} {L0 L0' F F' : LeS} (h : LsE L0 L0') (hF : IsLim (fun L => (lsP S N L).1) L0 F) (hF' : IsLim (fun L => (lsP S N L).1) L0' F') : LsE F F' := by
  obtain ⟨k, rfl, e⟩ := hF
  obtain ⟨k', rfl, e'⟩ := hF'
  have hk : ∀ n, LsE (itN (fun _ L => (lsP S N L).1) L0 n) (itN (fun _ L => (lsP S N L).1) L0' n) := by
    intro n
    induction n with
    | zero => exact h
    | succ n ih => exact lsP_E ih
  have h1 := hk (k + k')
  have e1 : itN (fun _ L => (lsP S N L).1) L0 (k + k') = itN (fun _ L => (lsP S N L).1) L0 k := itN_stay (f := fun L => (lsP S N L).1) (Nat.le_add_right _ _) e ▸ rfl
  have e2 : itN (fun _ L => (lsP S N L).1) L0' (k + k') = itN (fun _ L => (lsP S N L).1) L0' k' := itN_stay (f := fun L => (lsP S N L).1) (Nat.le_add_left _ _) e' ▸ rfl
  rw [e1, e2] at h1
  exact h1
/-! what the class chooses -/
theorem kb_min {v : Nat → Nat} (hok : OkN v) {f : Nat} : ∀ n, n ≤ v 1 → (∀ k, k < n → v (9 + 3 * k) = f → (itN (kbU v) (fun _ => 1000001, fun _ => (-1 : Int32)) n).1 f ≤ v (9 + 3 * k + 1)) ∧ ((itN (kbU v) (fun _ => 1000001, fun _ => (-1 : Int32)) n).2 f = -1 ∧ (∀ k, k < n → v (9 + 3 * k) ≠ f) ∧ (itN (kbU v) (fun _ => 1000001, fun _ => (-1 : Int32)) n).1 f = 1000001 ∨ ∃ k, k < n ∧ (itN (kbU v) (fun _ => 1000001, fun _ => (-1 : Int32)) n).2 f = nI k ∧ v (9 + 3 * k) = f ∧ v (9 + 3 * k + 1) = (itN (kbU v) (fun _ => 1000001, fun _ => (-1 : Int32)) n).1 f ∧ ∀ j, j < k → v (9 + 3 * j) = f → (itN (kbU v) (fun _ => 1000001, fun _ => (-1 : Int32)) n).1 f < v (9 + 3 * j + 1))
  | 0, _ => ⟨fun k hk => absurd hk (Nat.not_lt_zero k), Or.inl ⟨rfl, fun k hk => absurd hk (Nat.not_lt_zero k), rfl⟩⟩
  | n + 1, hn => by
    obtain ⟨h1, h2⟩ := kb_min hok (f := f) n (by omega)
    obtain ⟨w1, w2, -⟩ := hok.2.2.2.2.2.1 n (by omega)
    have eS : itN (kbU v) (fun _ => 1000001, fun _ => (-1 : Int32)) (n + 1) = kbU v n (itN (kbU v) (fun _ => 1000001, fun _ => (-1 : Int32)) n) := rfl
    rw [eS]
    generalize itN (kbU v) (fun _ => 1000001, fun _ => (-1 : Int32)) n = T at h1 h2 ⊢
    unfold kbU
    by_cases q : v (9 + 3 * n + 1) < T.1 (v (9 + 3 * n))
    · rw [if_pos q]
      by_cases e : f = v (9 + 3 * n)
      · subst e
        refine ⟨fun k hk hf => ?_, Or.inr ⟨n, Nat.lt_succ_self n, by simp [upd], rfl, (updN_same _ _ _).symm, fun j hj hf => ?_⟩⟩
        · show updN T.1 _ _ _ ≤ _
          rw [updN_same]
          by_cases ek : k = n
          · subst ek; exact Nat.le_refl _
          · have := h1 k (by omega) hf; omega
        · show updN T.1 _ _ _ < _
          rw [updN_same]
          have := h1 j hj hf
          omega
      · have e1 : updN T.1 (v (9 + 3 * n)) (v (9 + 3 * n + 1)) f = T.1 f := updN_ne _ _ e
        have e2 : upd T.2 (v (9 + 3 * n)) (nI n) f = T.2 f := by simp [upd, e]
        show (∀ k, k < n + 1 → v (9 + 3 * k) = f → updN T.1 (v (9 + 3 * n)) (v (9 + 3 * n + 1)) f ≤ v (9 + 3 * k + 1)) ∧ (upd T.2 (v (9 + 3 * n)) (nI n) f = -1 ∧ (∀ k, k < n + 1 → v (9 + 3 * k) ≠ f) ∧ updN T.1 (v (9 + 3 * n)) (v (9 + 3 * n + 1)) f = 1000001 ∨ ∃ k, k < n + 1 ∧ upd T.2 (v (9 + 3 * n)) (nI n) f = nI k ∧ v (9 + 3 * k) = f ∧ v (9 + 3 * k + 1) = updN T.1 (v (9 + 3 * n)) (v (9 + 3 * n + 1)) f ∧ ∀ j, j < k → v (9 + 3 * j) = f → updN T.1 (v (9 + 3 * n)) (v (9 + 3 * n + 1)) f < v (9 + 3 * j + 1))
        rw [e1, e2]
        refine ⟨fun k hk hf => ?_, ?_⟩
        · by_cases ek : k = n
          · subst ek; exact absurd hf.symm e
          · exact h1 k (by omega) hf
        · rcases h2 with ⟨a1, a2, a3⟩ | ⟨k, hk, a⟩
          · refine Or.inl ⟨a1, fun k hk hf => ?_, a3⟩
            by_cases ek : k = n
            · subst ek; exact e hf.symm
            · exact a2 k (by omega) hf
          · exact Or.inr ⟨k, by omega, a⟩
    · rw [if_neg q]
      refine ⟨fun k hk hf => ?_, ?_⟩
      · by_cases ek : k = n
        · subst ek; rw [← hf]; omega
        · exact h1 k (by omega) hf
      · rcases h2 with ⟨a1, a2, a3⟩ | ⟨k, hk, a⟩
        · refine Or.inl ⟨a1, fun k hk hf => ?_, a3⟩
          by_cases ek : k = n
          · subst ek
            rw [hf, a3] at q
            omega
          · exact a2 k (by omega) hf
        · exact Or.inr ⟨k, by omega, a⟩
/-- the class's base fact of an atom is the reference's -/
theorem isBv_iff {v : Nat → Nat} (hok : OkN v) {c : Nat → Nat} (hc : ∀ k, k < v 1 → c (v (9 + 3 * k)) ≤ v (9 + 3 * k + 1)) (f : Nat) : (isBv v c (kbF v).2 f = true → ∃ k, isMin (isBase v c f) (v 1) k ∧ (kbF v).2 f = nI k) ∧ (isBv v c (kbF v).2 f = false → ∀ k, k < v 1 → ¬ isBase v c f k) := by
  obtain ⟨h1, h2⟩ := kb_min hok (f := f) (v 1) (Nat.le_refl _)
  have e : itN (kbU v) (fun _ => 1000001, fun _ => (-1 : Int32)) (v 1) = kbF v := rfl
  rw [e] at h1 h2
  have h12 := hok.2.2.1
  unfold isBv
  rcases h2 with ⟨a1, a2, a3⟩ | ⟨k, hk, a1, a2, a3, a4⟩
  · rw [a1]
    refine ⟨fun q => by simp at q, fun _ k hk hb => a2 k hk hb.1⟩
  · rw [a1, decide_eq_false (nI_nm1 (by omega)), nI_clamp (by omega)]
    have hck := hc k hk
    rw [a2] at hck
    refine ⟨fun q => ⟨k, ⟨hk, ⟨a2, by simpa using q⟩, fun j hj hb => ?_⟩, rfl⟩, fun q j hj hb => ?_⟩
    · have q : v (9 + 3 * k + 1) = c f := by simpa using q
      have := a4 j hj hb.1
      have := hb.2
      omega
    · have q : ¬ v (9 + 3 * k + 1) = c f := by simpa using q
      have := h1 j hj hb.1
      have := hb.2
      omega
theorem ch_min {v : Nat → Nat} {S : HoS} {c hs : Nat → Nat} {f : Nat} (hs31 : ∀ j, j < S.1 → hs j < 2147483648) : ∀ n, n ≤ S.1 → (itN (chJ v S c hs) (fun _ => (-1 : Int32)) n f = -1 ∧ ∀ i, i < n → ¬ (S.2.2.1 i = f ∧ coB v S c i = c f)) ∨ ∃ i, isMin (fun i => S.2.2.1 i = f ∧ coB v S c i = c f) n i ∧ itN (chJ v S c hs) (fun _ => (-1 : Int32)) n f = nI (hs i)
  | 0, _ => Or.inl ⟨rfl, fun i hi => absurd hi (Nat.not_lt_zero i)⟩
  | n + 1, hn => by
    have ih := ch_min (v := v) (c := c) (f := f) hs31 n (by omega)
    have eS : itN (chJ v S c hs) (fun _ => (-1 : Int32)) (n + 1) = chJ v S c hs n (itN (chJ v S c hs) (fun _ => (-1 : Int32)) n) := rfl
    rw [eS]
    generalize itN (chJ v S c hs) (fun _ => (-1 : Int32)) n = T at ih ⊢
    unfold chJ
    rcases ih with ⟨h1, h2⟩ | ⟨i, h1, h2⟩
    · by_cases q : S.2.2.1 n = f ∧ coB v S c n = c f
      · have q0 := q
        obtain ⟨q1, q2⟩ := q
        subst q1
        rw [if_pos ⟨h1, q2⟩]
        exact Or.inr ⟨n, ⟨Nat.lt_succ_self n, q0, h2⟩, by simp [upd]⟩
      · refine Or.inl ⟨?_, fun i hi => ?_⟩
        · split
          · rename_i w
            have e : ¬ f = S.2.2.1 n := fun e => q ⟨e.symm, by rw [e]; exact w.2⟩
            simpa [upd, e] using h1
          · exact h1
        · by_cases e : i = n
          · subst e; exact q
          · exact h2 i (by omega)
    · refine Or.inr ⟨i, ⟨by have := h1.1; omega, h1.2⟩, ?_⟩
      split
      · rename_i w
        have e : ¬ f = S.2.2.1 n := fun e => by
          rw [← e, h2] at w
          exact nI_nm1 (hs31 i (by have := h1.1; omega)) w.1
        simpa [upd, e] using h2
      · exact h2
