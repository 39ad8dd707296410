/-- what the rows of the holding instances are -/
def HoOk (v : Nat → Nat) (S : HoS) : Prop := S.1 ≤ 1728 ∧ ∀ i, i < S.1 → S.2.1 i < v 2 ∧ S.2.2.1 i < 216 ∧ ∀ a, a < 3 → S.2.2.2.1 (3 * i + a) < 0 ∨ ∃ f, f < 216 ∧ S.2.2.2.1 (3 * i + a) = nI f
/-- the facts that speak of the reference's rows of holding instances -/
def HoAt (h : Nat → MC) (S : HoS) : Prop := h 189 = .inl (.int, 1728, .inl (vI S.2.1)) ∧ h 190 = .inl (.int, 1728, .inl (vI S.2.2.1)) ∧ h 191 = .inl (.int, 5184, .inl S.2.2.2.1)
def insN (S : HoS) (f : Nat) : Nat → Nat
  | 0 => 0
  | k + 1 => insN S f k + (if S.2.2.1 k = f then 1 else 0)
def FARN : Nat := 1000001
def litN (c : Nat → Nat) (x : Int32) : Nat := if x < 0 then 0 else c x.toNatClampNeg
def coS (v : Nat → Nat) (S : HoS) (c : Nat → Nat) (i : Nat) : Nat := itN (fun a s => s + litN c (S.2.2.2.1 (3 * i + a))) (v (45 + 18 * S.2.1 i)) 3
def coB (v : Nat → Nat) (S : HoS) (c : Nat → Nat) (i : Nat) : Nat := if 1000001 < coS v S c i then 1000001 else coS v S c i
theorem litN_le {c : Nat → Nat} {x : Int32} {b : Nat} (hc : ∀ f, f < 216 → c f ≤ b) (hx : x < 0 ∨ ∃ f, f < 216 ∧ x = nI f) : litN c x ≤ b := by
  unfold litN
  split
  · exact Nat.zero_le _
  · rename_i q
    rcases hx with hx | ⟨f, hf, rfl⟩
    · exact absurd hx q
    · rw [nI_clamp (by omega)]
      exact hc f hf
def coI (v : Nat → Nat) (S : HoS) (i : Nat) (p : (Nat → Nat) × Bool) : (Nat → Nat) × Bool :=
  if coB v S p.1 i < p.1 (S.2.2.1 i) then (updN p.1 (S.2.2.1 i) (coB v S p.1 i), true) else p
def coP (v : Nat → Nat) (S : HoS) (c : Nat → Nat) : (Nat → Nat) × Bool := itN (coI v S) (c, false) S.1
def coU (v : Nat → Nat) (k : Nat) (c : Nat → Nat) : Nat → Nat := updN c (v (9 + 3 * k)) (if v (9 + 3 * k + 1) < c (v (9 + 3 * k)) then v (9 + 3 * k + 1) else c (v (9 + 3 * k)))
def coBase (v : Nat → Nat) : Nat → Nat := itN (coU v) (fun _ => 1000001) (v 1)
/-- c is where the passes from c0 come to rest -/
def IsLim {α : Type} (P : α → α) (c0 c : α) : Prop := ∃ k, c = itN (fun _ => P) c0 k ∧ P c = c
theorem IsLim.uniq {α : Type} {P : α → α} {c0 c c' : α} (h : IsLim P c0 c) (h' : IsLim P c0 c') : c = c' := by
  obtain ⟨k, rfl, e⟩ := h
  obtain ⟨k', rfl, e'⟩ := h'
  rcases Nat.le_total k k' with q | q
  · exact (itN_stay q e).symm
  · exact itN_stay q e'
theorem lim_ex {α : Type} {P : α → α} (I : α → Prop) (μ : α → Nat) (hI : ∀ a, I a → I (P a)) (h : ∀ a, I a → P a = a ∨ μ (P a) < μ a) : ∀ (m : Nat) (c0 : α), μ c0 ≤ m → I c0 → ∃ c, IsLim P c0 c := by
  intro m
  induction m with
  | zero =>
    intro c0 hm h0
    rcases h c0 h0 with q | q
    · exact ⟨c0, 0, rfl, q⟩
    · omega
  | succ m ih =>
    intro c0 hm h0
    rcases h c0 h0 with q | q
    · exact ⟨c0, 0, rfl, q⟩
    · obtain ⟨c, k, rfl, e⟩ := ih (P c0) (by omega) (hI c0 h0)
      exact ⟨_, k + 1, itN_first _ _ _, e⟩
theorem coI_sum {v : Nat → Nat} {S : HoS} (hS : HoOk v S) {i s0 : Nat} (hi : i < S.1) {p : (Nat → Nat) × Bool} (h : sumN p.1 216 ≤ s0 ∧ (p.2 = true → sumN p.1 216 < s0)) : sumN (coI v S i p).1 216 ≤ s0 ∧ ((coI v S i p).2 = true → sumN (coI v S i p).1 216 < s0) := by
  unfold coI
  split
  · rename_i hlt
    have h1 := sumN_upd p.1 (S.2.2.1 i) (coB v S p.1 i) 216 (hS.2 i hi).2.1
    have h2 : sumN (updN p.1 (S.2.2.1 i) (coB v S p.1 i)) 216 < s0 := by omega
    exact ⟨Nat.le_of_lt h2, fun _ => h2⟩
  · exact h
theorem coI_same {v : Nat → Nat} {S : HoS} {c : Nat → Nat} {i : Nat} {p : (Nat → Nat) × Bool} (h : p.2 = true ∨ p.1 = c) : (coI v S i p).2 = true ∨ (coI v S i p).1 = c := by
  unfold coI
  split
  · exact Or.inl rfl
  · exact h
set_option maxRecDepth 100000 in
theorem coP_flag {v : Nat → Nat} {S : HoS} (hS : HoOk v S) (c : Nat → Nat) : ((coP v S c).2 = true → sumN (coP v S c).1 216 < sumN c 216) ∧ ((coP v S c).2 = false → (coP v S c).1 = c) := by
  have h1 := itN_inv (P := fun p : (Nat → Nat) × Bool => sumN p.1 216 ≤ sumN c 216 ∧ (p.2 = true → sumN p.1 216 < sumN c 216)) (s := coI v S) (N := S.1) (fun i hi p hp => coI_sum hS hi hp) S.1 (Nat.le_refl _) (a := (c, false)) ⟨Nat.le_refl _, fun q => absurd (show false = true from q) (by decide)⟩
  have h2 := itN_inv (P := fun p : (Nat → Nat) × Bool => p.2 = true ∨ p.1 = c) (s := coI v S) (N := S.1) (fun i _ p hp => coI_same hp) S.1 (Nat.le_refl _) (a := (c, false)) (Or.inr rfl)
  exact ⟨h1.2, fun q => h2.resolve_left (by show ¬ (coP v S c).2 = true; rw [q]; decide)⟩
theorem coLim {v : Nat → Nat} {S : HoS} (hS : HoOk v S) (c0 : Nat → Nat) : ∃ c, IsLim (fun c => (coP v S c).1) c0 c :=
  lim_ex (fun _ => True) (fun c => sumN c 216) (fun _ _ => trivial) (fun c _ => by
    have h := coP_flag hS c
    cases q : (coP v S c).2
    · exact Or.inl (h.2 q)
    · exact Or.inr (h.1 q)) (sumN c0 216) c0 (Nat.le_refl _) trivial
theorem coB_le (v : Nat → Nat) (S : HoS) (c : Nat → Nat) (i : Nat) : coB v S c i ≤ 1000001 := by
  unfold coB
  split <;> omega
def CoF (c : Nat → Nat) : Prop := ∀ f, c f ≤ 1000001
theorem coI_F {v : Nat → Nat} {S : HoS} {i : Nat} {p : (Nat → Nat) × Bool} (h : CoF p.1) : CoF (coI v S i p).1 := by
  unfold coI
  split
  · intro f
    show updN _ _ _ f ≤ _
    unfold updN
    split
    · exact coB_le _ _ _ _
    · exact h f
  · exact h
theorem coIs_F {v : Nat → Nat} {S : HoS} {p : (Nat → Nat) × Bool} (h : CoF p.1) : ∀ k, CoF (itN (coI v S) p k).1
  | 0 => h
  | k + 1 => coI_F (coIs_F h k)
theorem coBase_F {v : Nat → Nat} : CoF (coBase v) := by
  have h : ∀ k, CoF (itN (coU v) (fun _ => 1000001) k) := by
    intro k
    induction k with
    | zero => intro f; exact Nat.le_refl _
    | succ k ih =>
      intro f
      show updN _ _ _ f ≤ _
      unfold updN
      split
      · split
        · rename_i q
          have := ih (v (9 + 3 * k))
          omega
        · exact ih _
      · exact ih f
  exact h _
theorem coIt_F {v : Nat → Nat} {S : HoS} : ∀ k, CoF (itN (fun _ c => (coP v S c).1) (coBase v) k)
  | 0 => coBase_F
  | k + 1 => coIs_F (coIt_F k) S.1
