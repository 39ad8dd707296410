/-! P30, PURE: needs, cuts; all answers of one model -/
/-- costs, least derivations, what can be derived -/
abbrev QD : Type := (Nat → Nat) × LeS × (Int32 → Nat → Bool)
def QOk (v : Nat → Nat) (q : QD) : Prop := IsLim (fun c => (coP v (hoV v) c).1) (coBase v) q.1 ∧ (∃ (N : Nat) (lb : Nat → Nat), N = 216 ∧ IsLim (fun L => (lsP (hoV v) N L).1) (ls2 v (hoV v) q.1 lb) q.2.1) ∧ DerE v (hoV v) q.2.2
theorem QOk.ex {v : Nat → Nat} (hok : OkN v) : ∃ q, QOk v q := by
  have hS := hoV_ok hok
  obtain ⟨c, hc⟩ := coLim hS (coBase v)
  obtain ⟨F, hF⟩ := lsLim (hoV v) 216 (ls2 v (hoV v) c (fun _ => 0))
  obtain ⟨E, hE⟩ := derE_ex hS
  exact ⟨(c, F, E), hc, ⟨216, _, rfl, hF⟩, hE⟩
def rdQ (q : QD) : RD := mkR (fun _ => 0) (fun _ => 0) (fun _ => false) (fun _ => 0) (fun _ => 0) (fun _ => 0) (fun _ => 0) (fun _ => 0) q.1 (fun _ => 0) q.2.1.1 q.2.1.2.2.2 q.2.1.2.1 q.2.1.2.2.1 (fun _ => false)
theorem QOk.co {v : Nat → Nat} {q : QD} (hq : QOk v q) {c kr z u : Nat → Nat} (hK : KcOk v (hoV v) c kr z u) : c = q.1 := hK.1.uniq hq.1
theorem QOk.le {v : Nat → Nat} (hok : OkN v) {q : QD} (hq : QOk v q) {c kr z u : Nat → Nat} (hK : KcOk v (hoV v) c kr z u) {f : Nat} (hf : f < 216) (what : Nat) : lsN c kr z u f what = leN q.2.1.1 q.2.1.2.1 q.2.1.2.2.1 f what := lsN_eq (x := rdQ q) hok hK hq.1 hq.2.1 hf what
/-- what is needed, as bits -/
def neN (E : Int32 → Nat → Bool) (f : Nat) : Nat := orM (fun i => if E (nI (2 ^ i)) f = true then 0 else 2 ^ i) 12
theorem ne_bit (E : Int32 → Nat → Bool) (f b : Nat) : (neN E f).testBit b = true ↔ b < 12 ∧ E (nI (2 ^ b)) f = false := by
  refine (orM_bit _ b 12).trans ⟨fun ⟨i, hi, h⟩ => ?_, fun ⟨h1, h2⟩ => ⟨b, h1, ?_⟩⟩
  · split at h
    · simp at h
    · rename_i q
      rw [Nat.testBit_two_pow] at h
      have e := of_decide_eq_true h
      subst e
      exact ⟨hi, Bool.eq_false_iff.mpr q⟩
  · rw [if_neg (by rw [h2]; decide), Nat.testBit_two_pow]
    exact decide_eq_true rfl
theorem ne_lt (E : Int32 → Nat → Bool) (f : Nat) : neN E f < 4096 := by
  have h : ∀ n, n ≤ 12 → orM (fun i => if E (nI (2 ^ i)) f = true then 0 else 2 ^ i) n < 2 ^ 12 := by
    intro n
    induction n with
    | zero => exact fun _ => Nat.le_of_ble_eq_true rfl
    | succ n ih =>
      intro hn
      refine Nat.or_lt_two_pow (ih (by omega)) ?_
      show (if E (nI (2 ^ n)) f = true then 0 else 2 ^ n) < 2 ^ 12
      split
      · exact Nat.le_of_ble_eq_true rfl
      · exact Nat.pow_lt_pow_right (by omega) (by omega)
  exact h 12 (Nat.le_refl _)
theorem kne_N {v : Nat → Nat} {rw' : Nat → Int64} {E : Int32 → Nat → Bool} (h : KsOk v (hoV v) smC.2 rw') (hE : DerE v (hoV v) E) {f : Nat} (hf : f < 216) : kneV smC.2 rw' f 12 = nI (neN E f) := by
  have hD := KsOk_E h hE
  have all : ∀ n, n ≤ 12 → kneV smC.2 rw' f n = nI (orM (fun i => if E (nI (2 ^ i)) f = true then 0 else 2 ^ i) n) := by
    intro n
    induction n with
    | zero => exact fun _ => rfl
    | succ n ih =>
      intro hn
      have e := ih (by omega)
      show (if Dv rw' n f = true then kneV smC.2 rw' f n else kneV smC.2 rw' f n ||| nI (smC.2 n)) = nI (orM (fun i => if E (nI (2 ^ i)) f = true then 0 else 2 ^ i) n ||| (if E (nI (2 ^ n)) f = true then 0 else 2 ^ n))
      rw [hD n (by omega) f hf, sm_one n (by omega), e]
      split
      · rw [Nat.or_zero]
      · exact nI_or _ _
  exact all 12 (Nat.le_refl _)
theorem nI_and12 {a b : Nat} : nI a &&& nI b = nI (a &&& b) := by
  apply Int32.toBitVec_inj.mp
  simp only [Int32.toBitVec_and]
  show (BitVec.ofNat 32 a) &&& (BitVec.ofNat 32 b) = BitVec.ofNat 32 (a &&& b)
  apply BitVec.eq_of_toNat_eq
  simp [Nat.and_mod_two_pow]
theorem ne_use {v : Nat → Nat} {E : Int32 → Nat → Bool} (hok : OkN v) {f u : Nat} (hu : OkU v E f u) : neN E f &&& u = neN E f := by
  have h12 := hok.2.2.1
  apply Nat.eq_of_testBit_eq
  intro b
  rw [Nat.testBit_and]
  cases hb : (neN E f).testBit b
  · rfl
  · obtain ⟨b1, b2⟩ := (ne_bit E f b).mp hb
    cases hub : u.testBit b
    · exfalso
      have := hu.2 (nI (2 ^ b)) fun k hk hk2 => del_bit b b1 k (by omega) (fun e => by rw [e, hub] at hk2; cases hk2)
      rw [b2] at this
      cases this
    · rfl
theorem upTo_cg {α : Type} {P Q : Nat → Option α} : ∀ {n : Nat}, (∀ k, k < n → P k = Q k) → upTo P n = upTo Q n
  | 0, _ => rfl
  | n + 1, h => by
    show (upTo P n).or (P n) = (upTo Q n).or (Q n)
    rw [upTo_cg (fun k hk => h k (Nat.lt_succ_of_lt hk)), h n (Nat.lt_succ_self n)]
def ctF (E : Int32 → Nat → Bool) (f i : Nat) : Option Int32 := if E (nI (smC.2 i)) f = true then none else some (nI (smC.2 i))
def ctN (E : Int32 → Nat → Bool) (f : Nat) : Int32 := (upTo (ctF E f) 298).getD (-5)
theorem cut_N {v : Nat → Nat} {rw' : Nat → Int64} {E : Int32 → Nat → Bool} (h : KsOk v (hoV v) smC.2 rw') (hE : DerE v (hoV v) E) {f : Nat} (hf : f < 216) : (upTo (cutF smC.2 rw' f) 298).getD (-5) = ctN E f := by
  unfold ctN
  rw [upTo_cg (P := cutF smC.2 rw' f) (Q := ctF E f) fun k hk => ?_]
  show (if Dv rw' k f = true then none else some (nI (smC.2 k))) = if E (nI (smC.2 k)) f = true then none else some (nI (smC.2 k))
  rw [KsOk_E h hE k hk f hf]
theorem upTo_some {α : Type} {P : Nat → Option α} {c : α} : ∀ {n : Nat}, upTo P n = some c → ∃ k, k < n ∧ P k = some c
  | 0, h => by cases h
  | n + 1, h => by
    have h : (upTo P n).or (P n) = some c := h
    cases e : upTo P n with
    | none =>
      rw [e] at h
      exact ⟨n, Nat.lt_succ_self n, h⟩
    | some d =>
      rw [e] at h
      cases h
      obtain ⟨k, hk, q⟩ := upTo_some e
      exact ⟨k, Nat.lt_succ_of_lt hk, q⟩
set_option maxRecDepth 100000 in
theorem sm_pos : ∀ i, i < 298 → ¬ nI (smC.2 i) = 0 := by decide +kernel
theorem ct_pos (E : Int32 → Nat → Bool) (f : Nat) : ¬ ctN E f = 0 := by
  unfold ctN
  cases e : upTo (ctF E f) 298 with
  | none => decide
  | some c =>
    obtain ⟨k, hk, q⟩ := upTo_some e
    unfold ctF at q
    split at q
    · cases q
    · cases q
      exact sm_pos k hk
theorem low_bit : ∀ hi, hi < 64 → ∀ lo, lo < 64 → ∀ b, b < 12 → (64 * hi + lo) % 2 ^ (b + 1) = 2 ^ b → nI (64 * hi + lo) &&& -(nI (64 * hi + lo)) = nI (2 ^ b) := by decide +kernel
/-- if something is needed, the first cut is the first of it -/
theorem ct_low (E : Int32 → Nat → Bool) (f : Nat) (h0 : ¬ neN E f = 0) : ctN E f = nI (neN E f) &&& -(nI (neN E f)) := by
  have hlt := ne_lt E f
  have hex : ∃ b, b < 12 ∧ E (nI (2 ^ b)) f = false := by
    refine Classical.byContradiction fun q => h0 (Nat.eq_of_testBit_eq fun b => ?_)
    rw [Nat.zero_testBit]
    refine Bool.eq_false_iff.mpr fun w => q ?_
    exact ⟨b, (ne_bit E f b).mp w⟩
  obtain ⟨b0, hb0⟩ := hex
  obtain ⟨b, -, ⟨b1, b2⟩, hmin⟩ := ex_min (P := fun b => b < 12 ∧ E (nI (2 ^ b)) f = false) b0 hb0
  have hT : ∀ j, j < b → E (nI (2 ^ j)) f = true := fun j hj => by
    cases e : E (nI (2 ^ j)) f
    · exact absurd ⟨by omega, e⟩ (hmin j hj)
    · rfl
  have hmod : neN E f % 2 ^ (b + 1) = 2 ^ b := by
    apply Nat.eq_of_testBit_eq
    intro j
    rw [Nat.testBit_mod_two_pow, Nat.testBit_two_pow]
    by_cases e : b = j
    · subst e
      rw [decide_eq_true (show b < b + 1 by omega), (ne_bit E f b).mpr ⟨b1, b2⟩, decide_eq_true rfl]
      rfl
    · rw [decide_eq_false e]
      by_cases hj : j < b
      · have : (neN E f).testBit j = false := Bool.eq_false_iff.mpr fun w => by
          have := ((ne_bit E f j).mp w).2
          rw [hT j hj] at this
          cases this
        rw [this, Bool.and_false]
      · rw [decide_eq_false (show ¬ j < b + 1 by omega), Bool.false_and]
  have hsp : 64 * (neN E f / 64) + neN E f % 64 = neN E f := Nat.div_add_mod _ _
  have hl := low_bit (neN E f / 64) (by omega) (neN E f % 64) (Nat.mod_lt _ (by omega)) b b1 (by rw [hsp]; exact hmod)
  rw [hsp] at hl
  rw [hl]
  have hn : upTo (ctF E f) b = none := upTo_none fun k hk => by
    unfold ctF
    rw [sm_one k (by omega), if_pos (hT k hk)]
  have hb : ctF E f b = some (nI (2 ^ b)) := by
    unfold ctF
    rw [sm_one b b1, if_neg (by rw [b2]; decide)]
  unfold ctN
  rw [upTo_hit hn hb (show b < 298 by omega)]
  rfl
/-- the three kinds of facts of a model -/
def LeC (v : Nat → Nat) (q : QD) (f : Nat) : Prop :=
  (q.1 f = 1000001 ∧ leN q.2.1.1 q.2.1.2.1 q.2.1.2.2.1 f 0 = -5 ∧ leN q.2.1.1 q.2.1.2.1 q.2.1.2.2.1 f 2 = -5) ∨
  (q.1 f ≤ 1000000 ∧ ∃ y z u, leN q.2.1.1 q.2.1.2.1 q.2.1.2.2.1 f 0 = nI y ∧ leN q.2.1.1 q.2.1.2.1 q.2.1.2.2.1 f 1 = nI z ∧ leN q.2.1.1 q.2.1.2.1 q.2.1.2.2.1 f 2 = nI u ∧ u < 4096 ∧ neN q.2.2 f &&& u = neN q.2.2 f ∧ ((y = 8 ∧ z = 1 ∧ ∃ k, k < 12 ∧ u = 2 ^ k) ∨ (y < v 2 ∧ 0 < z ∧ z < 4000000 ∧ 0 < q.1 f)))
theorem le_cases {v : Nat → Nat} (hok : OkN v) {q : QD} (hq : QOk v q) {f : Nat} (hf : f < 216) : LeC v q f := by
  obtain ⟨c, F, E⟩ := q
  obtain ⟨hc, ⟨N, lb, hN, hF⟩, hE⟩ := hq
  have hc : IsLim (fun c => (coP v (hoV v) c).1) (coBase v) c := hc
  have hF : IsLim (fun L => (lsP (hoV v) N L).1) (ls2 v (hoV v) c lb) F := hF
  have hE : DerE v (hoV v) E := hE
  have hS := hoV_ok hok
  have h8 := hok.2.2.2.1
  have h12 := hok.2.2.1
  have hI := LvI.lim hok hS hE hN hF
  have hL := (LeI_lim hok hS hN hF f hf).1
  have hcF := coLim_F hc f
  show (c f = 1000001 ∧ leN F.1 F.2.1 F.2.2.1 f 0 = -5 ∧ leN F.1 F.2.1 F.2.2.1 f 2 = -5) ∨ (c f ≤ 1000000 ∧ ∃ y z u, leN F.1 F.2.1 F.2.2.1 f 0 = nI y ∧ leN F.1 F.2.1 F.2.2.1 f 1 = nI z ∧ leN F.1 F.2.1 F.2.2.1 f 2 = nI u ∧ u < 4096 ∧ neN E f &&& u = neN E f ∧ ((y = 8 ∧ z = 1 ∧ ∃ k, k < 12 ∧ u = 2 ^ k) ∨ (y < v 2 ∧ 0 < z ∧ z < 4000000 ∧ 0 < c f)))
  by_cases hlt : c f < 1000001
  · right
    have hz := size_pos hok hE hN hc hF (c f) f hf (Nat.le_refl _) hlt
    have hU := (hI.2.2 f hf).2.1 hz
    have hneg : ¬ F.1 f < 0 := by
      rw [hI.1]
      exact lr_pos hok lb hc hlt
    refine ⟨by omega, ?_⟩
    have e1 : leN F.1 F.2.1 F.2.2.1 f 1 = nI (F.2.1 f) := by unfold leN; rw [if_neg hneg]; rfl
    have e2 : leN F.1 F.2.1 F.2.2.1 f 2 = nI (F.2.2.1 f) := by unfold leN; rw [if_neg hneg]; rfl
    have e0 : leN F.1 F.2.1 F.2.2.1 f 0 = F.1 f := by unfold leN; rw [if_neg hneg]; rfl
    rcases ls2_C hok hS c lb f with ⟨k, ⟨k1, -⟩, a1, a2, a3⟩ | ⟨-, -, -, a4⟩
    · have g := (hI.2.2 f hf).1 (by rw [a2]; omega)
      refine ⟨8, F.2.1 f, F.2.2.1 f, ?_, e1, e2, hU.1, ne_use hok hU, Or.inl ⟨rfl, g.1.trans a2, k, by omega, g.2.trans a3⟩⟩
      rw [e0, hI.1]
      exact a1
    · rcases a4 with ⟨i, ⟨i1, i2, -⟩, d1, -⟩ | ⟨-, d1⟩
      · have hr := hS.2 i i1
        have hp := (hok.2.2.2.2.2.2 _ hr.1).1
        refine ⟨(hoV v).2.1 i, F.2.1 f, F.2.2.1 f, ?_, e1, e2, hU.1, ne_use hok hU, Or.inr ⟨hr.1, hz, by omega, ?_⟩⟩
        · rw [e0, hI.1]
          exact d1
        · have e := i2.2.2
          unfold coB at e
          have g : v (45 + 18 * (hoV v).2.1 i) ≤ coS v (hoV v) c i := by
            rw [show coS v (hoV v) c i = ((v (45 + 18 * (hoV v).2.1 i) + litN c ((hoV v).2.2.2.1 (3 * i + 0))) + litN c ((hoV v).2.2.2.1 (3 * i + 1))) + litN c ((hoV v).2.2.2.1 (3 * i + 2)) from rfl]
            omega
          split at e <;> omega
      · exact absurd (show (ls2 v (hoV v) c lb).1 f < 0 by rw [d1]; decide) (lr_pos hok lb hc hlt)
  · left
    have hneg : F.1 f < 0 := by
      rw [hI.1]
      rcases ls2_C hok hS c lb f with ⟨k, ⟨k1, k2, -⟩, -⟩ | ⟨-, -, -, a4⟩
      · have := (hok.2.2.2.2.2.1 k k1).2.1
        have := k2.2
        omega
      · rcases a4 with ⟨i, ⟨i1, i2, -⟩, -⟩ | ⟨-, d1⟩
        · exact absurd i2.2.1 hlt
        · rw [d1]
          decide
    refine ⟨by omega, ?_, ?_⟩
    · unfold leN
      rw [if_pos hneg]
    · unfold leN
      rw [if_pos hneg]
