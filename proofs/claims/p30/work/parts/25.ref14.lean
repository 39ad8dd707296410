def litF (l : Nat → UInt32) (x : Int32) (p : UInt32) : UInt32 := if x < 0 then p else FP.fmul p (l x.toNatClampNeg)
def litU (l : Nat → UInt32) (x : Int32) : Bool := if x < 0 then false else decide (l x.toNatClampNeg = fM1)
/-- likelihood by an instance -/
def lkS (S : HoS) (l : Nat → UInt32) (i a : Nat) : UInt32 := itN (fun a p => litF l (S.2.2.2.1 (3 * i + a)) p) FP.fconst1 a
def lkN (S : HoS) (l : Nat → UInt32) (i a : Nat) : Bool := anyN (fun a => litU l (S.2.2.2.1 (3 * i + a))) a
def lkB (S : HoS) (l : Nat → UInt32) (i : Nat) : UInt32 := if lkN S l i 3 then fM1 else lkS S l i 3
theorem anyN_le {f : Nat → Bool} {m : Nat} : ∀ {n : Nat}, m ≤ n → anyN f m = true → anyN f n = true := fun h q => by
  rw [anyN_iff] at q ⊢
  obtain ⟨k, h1, h2⟩ := q
  exact ⟨k, by omega, h2⟩
theorem lkS_uf {v : Nat → Nat} {S : HoS} {l : Nat → UInt32} (hS : HoOk v S) (hl : ∀ f, LkF (l f)) {i : Nat} (hi : i < S.1) : ∀ a, a ≤ 3 → lkN S l i a = false → UF (lkS S l i a)
  | 0, _, _ => uf_1
  | a + 1, ha, h => by
    have h0 : (lkN S l i a || litU l (S.2.2.2.1 (3 * i + a))) = false := h
    rw [Bool.or_eq_false_iff] at h0
    have ih := lkS_uf hS hl hi a (by omega) h0.1
    show UF (litF l (S.2.2.2.1 (3 * i + a)) (lkS S l i a))
    unfold litF
    split
    · exact ih
    · rename_i q
      have h1 := h0.2
      unfold litU at h1
      rw [if_neg q] at h1
      exact uf_m ih ((hl _).resolve_left (of_decide_eq_false h1))
theorem lkB_F {v : Nat → Nat} {S : HoS} {l : Nat → UInt32} (hS : HoOk v S) (hl : ∀ f, LkF (l f)) {i : Nat} (hi : i < S.1) : LkF (lkB S l i) := by
  unfold lkB
  split
  · exact Or.inl rfl
  · rename_i q
    exact Or.inr (lkS_uf hS hl hi 3 (Nat.le_refl _) (by simpa using q))
def lkI (S : HoS) (i : Nat) (p : (Nat → UInt32) × Bool) : (Nat → UInt32) × Bool :=
  if lkE (p.1 (S.2.2.1 i)) < lkE (lkB S p.1 i) then (updN p.1 (S.2.2.1 i) (lkB S p.1 i), true) else p
def lkP (S : HoS) (l : Nat → UInt32) : (Nat → UInt32) × Bool := itN (lkI S) (l, false) S.1
def lkK (v : Nat → Nat) (k : Nat) (l : Nat → UInt32) : Nat → UInt32 := updN l (v (9 + 3 * k)) (if lkE (l (v (9 + 3 * k))) < lkE (sixF (v (9 + 3 * k + 2))) then sixF (v (9 + 3 * k + 2)) else l (v (9 + 3 * k)))
def lkBase (v : Nat → Nat) : Nat → UInt32 := itN (lkK v) (fun _ => fM1) (v 1)
theorem lkE_le {x : UInt32} (h : LkF x) : lkE x ≤ 1065353217 := by
  unfold lkE
  split
  · omega
  · rename_i q
    have : x.toNat ≤ 1065353216 := h.resolve_left q
    omega
def LkA (l : Nat → UInt32) : Prop := ∀ f, LkF (l f)
theorem lkI_A {v : Nat → Nat} {S : HoS} (hS : HoOk v S) {i : Nat} (hi : i < S.1) {p : (Nat → UInt32) × Bool} (h : LkA p.1) : LkA (lkI S i p).1 := by
  unfold lkI
  split
  · intro f
    show LkF (updN _ _ _ f)
    unfold updN
    split
    · exact lkB_F hS h hi
    · exact h f
  · exact h
theorem lkIs_A {v : Nat → Nat} {S : HoS} (hS : HoOk v S) {l : Nat → UInt32} {b : Bool} (h : LkA l) (k : Nat) (hk : k ≤ S.1) : LkA (itN (lkI S) (l, b) k).1 :=
  itN_inv (P := fun p : (Nat → UInt32) × Bool => LkA p.1) (s := lkI S) (N := S.1) (fun i hi p hp => lkI_A hS hi hp) k hk (a := (l, b)) h
theorem lkK_A {v : Nat → Nat} (hok : OkN v) {k : Nat} (hk : k < v 1) {l : Nat → UInt32} (h : LkA l) : LkA (lkK v k l) := by
  obtain ⟨-, -, h1, h2⟩ := hok.2.2.2.2.2.1 k hk
  intro f
  unfold lkK updN
  split
  · split
    · exact Or.inr (sixF_uf h1 h2)
    · exact h _
  · exact h f
theorem lkKs_A {v : Nat → Nat} (hok : OkN v) (k : Nat) (hk : k ≤ v 1) : LkA (itN (lkK v) (fun _ => fM1) k) :=
  itN_inv (P := LkA) (s := lkK v) (N := v 1) (fun i hi p hp => lkK_A hok hi hp) k hk (fun _ => Or.inl rfl)
/-- how far the likelihoods are from 1, all together -/
def lkM (l : Nat → UInt32) (N : Nat) : Nat := sumN (fun f => 1065353217 - lkE (l f)) N
theorem lkI_m {v : Nat → Nat} {S : HoS} (hS : HoOk v S) {i s0 N : Nat} (hN : N = 216) (hi : i < S.1) {p : (Nat → UInt32) × Bool} (hA : LkA p.1) (h : lkM p.1 N ≤ s0 ∧ (p.2 = true → lkM p.1 N < s0)) : lkM (lkI S i p).1 N ≤ s0 ∧ ((lkI S i p).2 = true → lkM (lkI S i p).1 N < s0) := by
  unfold lkI
  split
  · rename_i hlt
    have h1 := sumN_upd (fun f => 1065353217 - lkE (p.1 f)) (S.2.2.1 i) (1065353217 - lkE (lkB S p.1 i)) N (by have := (hS.2 i hi).2.1; omega)
    have e : (fun f => 1065353217 - lkE (updN p.1 (S.2.2.1 i) (lkB S p.1 i) f)) = updN (fun f => 1065353217 - lkE (p.1 f)) (S.2.2.1 i) (1065353217 - lkE (lkB S p.1 i)) := by
      funext f
      by_cases q : f = S.2.2.1 i
      · rw [q, updN_same, updN_same]
      · rw [updN_ne _ _ q, updN_ne _ _ q]
    have h3 := lkE_le (lkB_F hS hA hi)
    have h2 : lkM (updN p.1 (S.2.2.1 i) (lkB S p.1 i)) N < s0 := by
      unfold lkM at h ⊢
      rw [e]
      omega
    exact ⟨Nat.le_of_lt h2, fun _ => h2⟩
  · exact h
theorem lkI_same {S : HoS} {i : Nat} {l : Nat → UInt32} {p : (Nat → UInt32) × Bool} (h : p.2 = true ∨ p.1 = l) : (lkI S i p).2 = true ∨ (lkI S i p).1 = l := by
  unfold lkI
  split
  · exact Or.inl rfl
  · exact h
theorem lkP_flag {v : Nat → Nat} {S : HoS} (hS : HoOk v S) {N : Nat} (hN : N = 216) {l : Nat → UInt32} (hA : LkA l) : ((lkP S l).2 = true → lkM (lkP S l).1 N < lkM l N) ∧ ((lkP S l).2 = false → (lkP S l).1 = l) := by
  have h1 := itN_inv (P := fun p : (Nat → UInt32) × Bool => LkA p.1 ∧ lkM p.1 N ≤ lkM l N ∧ (p.2 = true → lkM p.1 N < lkM l N)) (s := lkI S) (N := S.1) (fun i hi p hp => ⟨lkI_A hS hi hp.1, lkI_m hS hN hi hp.1 hp.2⟩) S.1 (Nat.le_refl _) (a := (l, false)) ⟨hA, Nat.le_refl _, fun q => absurd (show false = true from q) (by decide)⟩
  have h2 := itN_inv (P := fun p : (Nat → UInt32) × Bool => p.2 = true ∨ p.1 = l) (s := lkI S) (N := S.1) (fun i _ p hp => lkI_same hp) S.1 (Nat.le_refl _) (a := (l, false)) (Or.inr rfl)
  exact ⟨h1.2.2, fun q => h2.resolve_left (by show ¬ (lkP S l).2 = true; rw [q]; decide)⟩
theorem lkP_A {v : Nat → Nat} {S : HoS} (hS : HoOk v S) {l : Nat → UInt32} (hA : LkA l) : LkA (lkP S l).1 := lkIs_A hS hA S.1 (Nat.le_refl _)
theorem lkLim {v : Nat → Nat} (hok : OkN v) {S : HoS} (hS : HoOk v S) : ∃ l, IsLim (fun l => (lkP S l).1) (lkBase v) l := by
  obtain ⟨N, hN⟩ : ∃ N : Nat, N = 216 := ⟨_, rfl⟩
  exact lim_ex LkA (fun l => lkM l N) (fun l hl => lkP_A hS hl) (fun l hl => by
    have h := lkP_flag hS hN hl
    cases q : (lkP S l).2
    · exact Or.inl (h.2 q)
    · exact Or.inr (h.1 q)) (lkM (lkBase v) N) (lkBase v) (Nat.le_refl _) (lkKs_A hok _ (Nat.le_refl _))
theorem lkP_ne {v : Nat → Nat} {S : HoS} (hS : HoOk v S) {l : Nat → UInt32} (hA : LkA l) (h : (lkP S l).2 = true) : (lkP S l).1 ≠ l := by
  intro e
  obtain ⟨N, hN⟩ : ∃ N : Nat, N = 216 := ⟨_, rfl⟩
  have h1 := (lkP_flag hS hN hA).1 h
  rw [e] at h1
  omega
