theorem while_lim {α : Type} {P : α → α × Bool} {H : Bool → α → Prop} {I : α → Prop} {c0 cf : α} (hlim : IsLim (fun c => (P c).1) c0 cf) (hI0 : I c0) (hI : ∀ c, I c → I (P c).1) (hf : ∀ c, I c → (P c).2 = false → (P c).1 = c) (ht : ∀ c, I c → (P c).2 = true → (P c).1 ≠ c) (hexit : H false cf) (hpass : ∀ c, I c → H (P c).2 (P c).1 → H true c) : H true c0 := by
  obtain ⟨k, rfl, e⟩ := hlim
  have hIk : ∀ j, I (itN (fun _ c => (P c).1) c0 j) := by
    intro j
    induction j with
    | zero => exact hI0
    | succ j ih => exact hI _ ih
  have loop : ∀ j, j ≤ k → H true (itN (fun _ c => (P c).1) c0 j) := by
    refine loop_up k ?_ ?_
    · refine hpass _ (hIk k) ?_
      cases q : (P (itN (fun _ c => (P c).1) c0 k)).2
      · rw [hf _ (hIk k) q]; exact hexit
      · exact absurd e (ht _ (hIk k) q)
    · intro j hj ih
      refine hpass _ (hIk j) ?_
      cases q : (P (itN (fun _ c => (P c).1) c0 j)).2
      · have e2 := hf _ (hIk j) q
        rw [e2, ← itN_stay (Nat.le_of_lt hj) e2]
        exact hexit
      · exact ih
  exact loop 0 (Nat.zero_le _)
/-- indices n - 1 .. 0 -/
def itD {α : Type} (step : Nat → α → α) : α → Nat → α
  | a, 0 => a
  | a, n + 1 => itD step (step n a) n
def dn (k : Nat) : Int32 := if k = 0 then -1 else nI (k - 1)
theorem dn_0 : dn 0 = -1 := rfl
theorem dn_s (k : Nat) : dn (k + 1) = nI k := by unfold dn; rw [if_neg (by omega)]; rfl
theorem dn_dec {k : Nat} (hk : k < 2147483648) : nI k + Int32.ofInt (-1) = dn k := by
  cases k with
  | zero => rfl
  | succ k =>
    rw [dn_s, show Int32.ofInt (-1) = -1 by decide]
    exact pk_m1 k
/-- least derivations: (rule, size, base facts, instance) -/
abbrev LeS : Type := (Nat → Int32) × (Nat → Nat) × (Nat → Nat) × (Nat → Nat)
def lsK (v c : Nat → Nat) (k : Nat) (L : LeS) : LeS :=
  if v (9 + 3 * k + 1) = c (v (9 + 3 * k)) then (upd L.1 (v (9 + 3 * k)) (nI 8), updN L.2.1 (v (9 + 3 * k)) 1, updN L.2.2.1 (v (9 + 3 * k)) (2 ^ k), L.2.2.2) else L
def lsI (v : Nat → Nat) (S : HoS) (c : Nat → Nat) (i : Nat) (L : LeS) : LeS :=
  if L.1 (S.2.2.1 i) ≠ nI 8 ∧ c (S.2.2.1 i) < 1000001 ∧ coB v S c i = c (S.2.2.1 i) then (upd L.1 (S.2.2.1 i) (nI (S.2.1 i)), L.2.1, L.2.2.1, updN L.2.2.2 (S.2.2.1 i) i) else L
def lsG (S : HoS) (f : Nat) (p : LeS × Bool) : LeS × Bool :=
  if p.1.2.1 f = 0 ∧ ¬ p.1.1 f < 0 ∧ allL S (fun g => decide (0 < p.1.2.1 g)) (p.1.2.2.2 f) = true then ((p.1.1, updN p.1.2.1 f (szS S p.1.2.1 (p.1.2.2.2 f) 3), updN p.1.2.2.1 f (usS S p.1.2.2.1 (p.1.2.2.2 f) 3), p.1.2.2.2), true) else p
def lsP (S : HoS) (N : Nat) (L : LeS) : LeS × Bool := itN (lsG S) (L, false) N
def ls0 (lb : Nat → Nat) : LeS := (fun _ => -1, fun _ => 0, fun _ => 0, lb)
def ls2 (v : Nat → Nat) (S : HoS) (c lb : Nat → Nat) : LeS := itD (lsI v S c) (itD (lsK v c) (ls0 lb) (v 1)) S.1
/-- what the state of findLeast keeps -/
def LeI (v : Nat → Nat) (S : HoS) (c : Nat → Nat) (L : LeS) : Prop := ∀ f, f < 216 → L.2.1 f ≤ 3 * c f + 1 ∧ (¬ L.1 f < 0 → L.2.1 f = 0 → L.2.2.2 f < S.1 ∧ coB v S c (L.2.2.2 f) = c f ∧ c f < 1000001)
theorem ls0_I (v : Nat → Nat) (S : HoS) (c lb : Nat → Nat) : LeI v S c (ls0 lb) := fun f _ => ⟨Nat.zero_le _, fun q => absurd (show (-1 : Int32) < 0 by decide) q⟩
theorem lsK_I {v : Nat → Nat} {S : HoS} {c : Nat → Nat} {k : Nat} {L : LeS} (h : LeI v S c L) : LeI v S c (lsK v c k L) := by
  unfold lsK
  split
  · intro f hf
    obtain ⟨h1, h2⟩ := h f hf
    by_cases e : f = v (9 + 3 * k)
    · subst e
      refine ⟨?_, fun _ q => ?_⟩
      · show updN _ _ _ _ ≤ _
        rw [updN_same]
        omega
      · have q : updN _ _ _ _ = 0 := q
        rw [updN_same] at q
        omega
    · refine ⟨?_, fun q1 q2 => ?_⟩
      · show updN _ _ _ _ ≤ _
        rw [updN_ne _ _ e]
        exact h1
      · have q2 : updN _ _ _ _ = 0 := q2
        rw [updN_ne _ _ e] at q2
        have q1 : ¬ upd L.1 (v (9 + 3 * k)) (nI 8) f < 0 := q1
        rw [pk_un e] at q1
        exact h2 q1 q2
  · exact h
theorem lsI_I {v : Nat → Nat} {S : HoS} {c : Nat → Nat} {i : Nat} (hi : i < S.1) {L : LeS} (h : LeI v S c L) : LeI v S c (lsI v S c i L) := by
  unfold lsI
  split
  · rename_i hc
    intro f hf
    obtain ⟨h1, h2⟩ := h f hf
    refine ⟨h1, fun q1 q2 => ?_⟩
    show updN _ _ _ f < _ ∧ coB v S c (updN _ _ _ f) = _ ∧ _
    by_cases e : f = S.2.2.1 i
    · rw [e, updN_same]
      exact ⟨hi, hc.2.2, hc.2.1⟩
    · rw [updN_ne _ _ e]
      have q1 : ¬ upd L.1 (S.2.2.1 i) (nI (S.2.1 i)) f < 0 := q1
      rw [pk_un e] at q1
      exact h2 q1 q2
  · exact h
theorem itD_inv {α : Type} {P : α → Prop} {s : Nat → α → α} : ∀ n {a : α}, (∀ k, k < n → ∀ a, P a → P (s k a)) → P a → P (itD s a n)
  | 0, _, _, h => h
  | n + 1, _, hs, h => itD_inv n (fun k hk => hs k (by omega)) (hs n (by omega) _ h)
theorem ls2_I (v : Nat → Nat) (S : HoS) (c lb : Nat → Nat) : LeI v S c (ls2 v S c lb) :=
  itD_inv S.1 (fun i hi L hL => lsI_I hi hL) (itD_inv (v 1) (fun k _ L hL => lsK_I hL) (ls0_I v S c lb))
theorem szS_le {v : Nat → Nat} {S : HoS} {c z : Nat → Nat} (hS : HoOk v S) {i : Nat} (hi : i < S.1) (hz : ∀ f, f < 216 → z f ≤ 3 * c f + 1) : ∀ a, a ≤ 3 → szS S z i a + 3 * v (45 + 18 * S.2.1 i) ≤ 1 + a + 3 * itN (fun a s => s + litN c (S.2.2.2.1 (3 * i + a))) (v (45 + 18 * S.2.1 i)) a
  | 0, _ => by show 1 + _ ≤ 1 + 0 + 3 * v (45 + 18 * S.2.1 i); omega
  | a + 1, ha => by
    have ih := szS_le (c := c) hS hi hz a (by omega)
    have hl := (hS.2 i hi).2.2 a (by omega)
    show szS S z i a + litN z (S.2.2.2.1 (3 * i + a)) + _ ≤ 1 + (a + 1) + 3 * (itN (fun a s => s + litN c (S.2.2.2.1 (3 * i + a))) (v (45 + 18 * S.2.1 i)) a + litN c (S.2.2.2.1 (3 * i + a)))
    have h1 : litN z (S.2.2.2.1 (3 * i + a)) ≤ 3 * litN c (S.2.2.2.1 (3 * i + a)) + 1 := by
      unfold litN
      split
      · omega
      · rename_i q
        obtain ⟨f, hf, e⟩ := hl.resolve_left q
        rw [e, nI_clamp (by omega)]
        exact hz f hf
    omega
theorem szS_pos (S : HoS) (z : Nat → Nat) (i : Nat) : ∀ a, 1 ≤ szS S z i a
  | 0 => Nat.le_refl _
  | a + 1 => Nat.le_trans (szS_pos S z i a) (Nat.le_add_right _ _)
theorem lsG_I {v : Nat → Nat} (hok : OkN v) {S : HoS} (hS : HoOk v S) {c : Nat → Nat} {f : Nat} (hf : f < 216) {p : LeS × Bool} (h : LeI v S c p.1) : LeI v S c (lsG S f p).1 := by
  unfold lsG
  split
  · rename_i hc
    obtain ⟨hl1, hl2, hl3⟩ := (h f hf).2 hc.2.1 hc.1
    have hpr := (hok.2.2.2.2.2.2 _ (hS.2 _ hl1).1).1
    intro g hg
    obtain ⟨h1, h2⟩ := h g hg
    by_cases e : g = f
    · subst e
      refine ⟨?_, fun _ q => ?_⟩
      · show updN _ _ _ _ ≤ _
        rw [updN_same]
        have h3 := szS_le (c := c) hS hl1 (fun f hf => (h f hf).1) 3 (Nat.le_refl _)
        have h4 : coS v S c (p.1.2.2.2 g) ≤ c g := by
          unfold coB at hl2
          split at hl2
          · omega
          · omega
        unfold coS at h4
        omega
      · have q : updN _ _ _ _ = 0 := q
        rw [updN_same] at q
        have := szS_pos S p.1.2.1 (p.1.2.2.2 g) 3
        omega
    · refine ⟨?_, fun q1 q2 => ?_⟩
      · show updN _ _ _ _ ≤ _
        rw [updN_ne _ _ e]
        exact h1
      · have q2 : updN _ _ _ _ = 0 := q2
        rw [updN_ne _ _ e] at q2
        exact h2 q1 q2
  · exact h
/-- how many are 0 -/
def zer (z : Nat → Nat) : Nat → Nat
  | 0 => 0
  | k + 1 => zer z k + (if z k = 0 then 1 else 0)
theorem zer_upd {z : Nat → Nat} {f x : Nat} (hz : z f = 0) (hx : 0 < x) : ∀ n, zer (updN z f x) n + (if f < n then 1 else 0) = zer z n
  | 0 => by simp [zer]
  | n + 1 => by
    have ih := zer_upd hz hx n
    simp only [zer]
    by_cases e : n = f
    · subst e
      rw [updN_same, if_neg (show ¬ x = 0 by omega), if_pos hz, if_pos (Nat.lt_succ_self _)]
      rw [if_neg (Nat.lt_irrefl _)] at ih
      omega
    · rw [updN_ne _ _ e]
      by_cases q : f < n
      · rw [if_pos q] at ih
        rw [if_pos (show f < n + 1 by omega)]
        omega
      · rw [if_neg q] at ih
        rw [if_neg (show ¬ f < n + 1 by omega)]
        omega
theorem lsG_z {S : HoS} {f s0 N : Nat} (hf : f < N) {p : LeS × Bool} (h : zer p.1.2.1 N ≤ s0 ∧ (p.2 = true → zer p.1.2.1 N < s0)) : zer (lsG S f p).1.2.1 N ≤ s0 ∧ ((lsG S f p).2 = true → zer (lsG S f p).1.2.1 N < s0) := by
  unfold lsG
  split
  · rename_i hc
    have h1 := zer_upd (x := szS S p.1.2.1 (p.1.2.2.2 f) 3) hc.1 (szS_pos _ _ _ 3) N
    rw [if_pos hf] at h1
    have h2 : zer (updN p.1.2.1 f (szS S p.1.2.1 (p.1.2.2.2 f) 3)) N < s0 := by omega
    exact ⟨Nat.le_of_lt h2, fun _ => h2⟩
  · exact h
theorem lsG_same {S : HoS} {f : Nat} {L : LeS} {p : LeS × Bool} (h : p.2 = true ∨ p.1 = L) : (lsG S f p).2 = true ∨ (lsG S f p).1 = L := by
  unfold lsG
  split
  · exact Or.inl rfl
  · exact h
theorem lsN_flag (S : HoS) (L : LeS) (N : Nat) : ((itN (lsG S) (L, false) N).2 = true → zer (itN (lsG S) (L, false) N).1.2.1 N < zer L.2.1 N) ∧ ((itN (lsG S) (L, false) N).2 = false → (itN (lsG S) (L, false) N).1 = L) := by
  have h1 := itN_inv (P := fun p : LeS × Bool => zer p.1.2.1 N ≤ zer L.2.1 N ∧ (p.2 = true → zer p.1.2.1 N < zer L.2.1 N)) (s := lsG S) (N := N) (fun f hf p hp => lsG_z hf hp) N (Nat.le_refl _) (a := (L, false)) ⟨Nat.le_refl _, fun q => absurd (show false = true from q) (by decide)⟩
  have h2 := itN_inv (P := fun p : LeS × Bool => p.2 = true ∨ p.1 = L) (s := lsG S) (N := N) (fun f _ p hp => lsG_same hp) N (Nat.le_refl _) (a := (L, false)) (Or.inr rfl)
  exact ⟨h1.2, fun q => h2.resolve_left (by rw [q]; decide)⟩
theorem lsN_I {v : Nat → Nat} (hok : OkN v) {S : HoS} (hS : HoOk v S) {c : Nat → Nat} {L : LeS} (h : LeI v S c L) (n : Nat) (hn : n ≤ 216) : LeI v S c (itN (lsG S) (L, false) n).1 :=
  itN_inv (P := fun p : LeS × Bool => LeI v S c p.1) (s := lsG S) (N := 216) (fun f hf p hp => lsG_I hok hS hf hp) n hn (a := (L, false)) h
theorem lsLimN (S : HoS) (N : Nat) (L0 : LeS) : ∃ L, IsLim (fun L => (itN (lsG S) (L, false) N).1) L0 L :=
  lim_ex (fun _ => True) (fun L => zer L.2.1 N) (fun _ _ => trivial) (fun L _ => by
    have h := lsN_flag S L N
    cases q : (itN (lsG S) (L, false) N).2
    · exact Or.inl (h.2 q)
    · exact Or.inr (h.1 q)) (zer L0.2.1 N) L0 (Nat.le_refl _) trivial
theorem lsP_flag (S : HoS) (N : Nat) (L : LeS) : ((lsP S N L).2 = true → zer (lsP S N L).1.2.1 N < zer L.2.1 N) ∧ ((lsP S N L).2 = false → (lsP S N L).1 = L) := lsN_flag S L N
theorem lsLim (S : HoS) (N : Nat) (L0 : LeS) : ∃ L, IsLim (fun L => (lsP S N L).1) L0 L := lsLimN S N L0
theorem lsP_I {v : Nat → Nat} (hok : OkN v) {S : HoS} (hS : HoOk v S) {c : Nat → Nat} {N : Nat} (hN : N = 216) {L : LeS} (h : LeI v S c L) : LeI v S c (lsP S N L).1 := lsN_I hok hS h N (Nat.le_of_eq hN)
theorem lsP_ne {S : HoS} {N : Nat} {L : LeS} (h : (lsP S N L).2 = true) : (lsP S N L).1 ≠ L := by
  intro e
  have h1 := (lsP_flag S N L).1 h
  rw [e] at h1
  omega
def HL (h : Nat → MC) (L : LeS) : Nat → MC := mov [(194, .inl (.int, 216, .inl L.1)), (196, .inl (.int, 216, .inl (vI L.2.1))), (197, .inl (.int, 216, .inl (vI L.2.2.1))), (195, .inl (.int, 216, .inl (vI L.2.2.2)))] h
