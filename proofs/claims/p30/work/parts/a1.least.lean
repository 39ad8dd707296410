/-! P30, PURE: least derivations -/
theorem coS_gt {v c : Nat → Nat} {S : HoS} {i f : Nat} (h : isLit S i f) : c f + v (45 + 18 * S.2.1 i) ≤ coS v S c i := by
  obtain ⟨a, ha, h1, h2⟩ := h
  have e : coS v S c i = ((v (45 + 18 * S.2.1 i) + litN c (S.2.2.2.1 (3 * i + 0))) + litN c (S.2.2.2.1 (3 * i + 1))) + litN c (S.2.2.2.1 (3 * i + 2)) := rfl
  have hl : litN c (S.2.2.2.1 (3 * i + a)) = c f := by
    unfold litN
    rw [if_neg h1, h2]
  rw [e]
  rcases (show a = 0 ∨ a = 1 ∨ a = 2 by omega) with rfl | rfl | rfl <;> omega
theorem lit_lt {v : Nat → Nat} {S : HoS} (hS : HoOk v S) {i f : Nat} (hi : i < S.1) (h : isLit S i f) : f < 216 := by
  obtain ⟨a, ha, h1, h2⟩ := h
  rcases (hS.2 i hi).2.2 a ha with q | ⟨g, hg, e⟩
  · exact absurd q h1
  · rw [e, nI_clamp (show g < 2 ^ 31 by omega)] at h2
    omega
theorem usS_e (S : HoS) (u : Nat → Nat) (i : Nat) : usS S u i 3 = ((0 ||| litN u (S.2.2.2.1 (3 * i + 0))) ||| litN u (S.2.2.2.1 (3 * i + 1))) ||| litN u (S.2.2.2.1 (3 * i + 2)) := rfl
theorem usS_bit {S : HoS} {u : Nat → Nat} {i f b : Nat} (h : isLit S i f) (hb : (u f).testBit b = true) : (usS S u i 3).testBit b = true := by
  obtain ⟨a, ha, h1, h2⟩ := h
  have hl : litN u (S.2.2.2.1 (3 * i + a)) = u f := by
    unfold litN
    rw [if_neg h1, h2]
  rw [usS_e]
  simp only [Nat.testBit_or, Bool.or_eq_true]
  rcases (show a = 0 ∨ a = 1 ∨ a = 2 by omega) with rfl | rfl | rfl
  · exact Or.inl (Or.inl (Or.inr (by rw [hl]; exact hb)))
  · exact Or.inl (Or.inr (by rw [hl]; exact hb))
  · exact Or.inr (by rw [hl]; exact hb)
theorem usS_lt {v : Nat → Nat} {S : HoS} (hS : HoOk v S) {u : Nat → Nat} {i : Nat} (hi : i < S.1) (h : ∀ f, isLit S i f → u f < 4096) : usS S u i 3 < 4096 := by
  have hl : ∀ a, a < 3 → litN u (S.2.2.2.1 (3 * i + a)) < 2 ^ 12 := fun a ha => by
    unfold litN
    split
    · exact Nat.le_of_ble_eq_true rfl
    · exact h _ ⟨a, ha, by assumption, rfl⟩
  rw [usS_e]
  exact Nat.or_lt_two_pow (n := 12) (Nat.or_lt_two_pow (n := 12) (Nat.or_lt_two_pow (n := 12) (Nat.le_of_ble_eq_true rfl) (hl 0 (by omega))) (hl 1 (by omega))) (hl 2 (by omega))
theorem dvB_in {v : Nat → Nat} {y : Int32} {k : Nat} (hk : delB y k = true) : ∀ n, k < n → itN (dvK v y) (fun _ => false) n (v (9 + 3 * k)) = true
  | 0, h => absurd h (Nat.not_lt_zero k)
  | n + 1, h => by
    show updN (itN (dvK v y) (fun _ => false) n) (v (9 + 3 * n)) (itN (dvK v y) (fun _ => false) n (v (9 + 3 * n)) || delB y n) (v (9 + 3 * k)) = true
    rcases Nat.lt_succ_iff_lt_or_eq.mp h with q | rfl
    · have ih := dvB_in (v := v) hk n q
      by_cases e : v (9 + 3 * k) = v (9 + 3 * n)
      · rw [e, updN_same, ← e, ih]
        rfl
      · rw [updN_ne _ _ e]
        exact ih
    · rw [updN_same, hk, Bool.or_true]
/-- with the base facts of u the fact f can be derived -/
def OkU (v : Nat → Nat) (E : Int32 → Nat → Bool) (f u : Nat) : Prop := u < 4096 ∧ ∀ y, (∀ k, k < v 1 → u.testBit k = true → delB y k = true) → E y f = true
/-- what the least derivations keep, from L0 on -/
def LvI (v : Nat → Nat) (E : Int32 → Nat → Bool) (L0 L : LeS) : Prop := L.1 = L0.1 ∧ L.2.2.2 = L0.2.2.2 ∧ ∀ f, f < 216 → (0 < L0.2.1 f → L.2.1 f = L0.2.1 f ∧ L.2.2.1 f = L0.2.2.1 f) ∧ (0 < L.2.1 f → OkU v E f (L.2.2.1 f)) ∧ (L.2.1 f = 0 → L.2.2.1 f = 0)
theorem DerE.in {v : Nat → Nat} {S : HoS} {E : Int32 → Nat → Bool} (hE : DerE v S E) {y : Int32} {k : Nat} (hk : k < v 1) (hd : delB y k = true) : E y (v (9 + 3 * k)) = true := by
  obtain ⟨n, e, -⟩ := hE y
  rw [e]
  exact dvIt_sub n _ (dvB_in hd _ hk)
theorem DerE.cl {v : Nat → Nat} {S : HoS} (hS : HoOk v S) {E : Int32 → Nat → Bool} (hE : DerE v S E) (y : Int32) : DvC S (E y) := by
  obtain ⟨n, -, e⟩ := hE y
  exact dvLim_closed hS e
theorem LvI.base {v c : Nat → Nat} (hok : OkN v) {S : HoS} (hS : HoOk v S) {E : Int32 → Nat → Bool} (hE : DerE v S E) (lb : Nat → Nat) : LvI v E (ls2 v S c lb) (ls2 v S c lb) := by
  refine ⟨rfl, rfl, fun f hf => ⟨fun _ => ⟨rfl, rfl⟩, fun hp => ?_, fun h0 => ?_⟩⟩
  · rcases ls2_C hok hS c lb f with ⟨k, ⟨k1, k2, -⟩, -, -, a3⟩ | ⟨-, a2, -⟩
    · have h12 := hok.2.2.1
      rw [a3]
      refine ⟨(Nat.pow_lt_pow_right (by omega) (show k < 12 by omega) : 2 ^ k < 2 ^ 12), fun y hy => ?_⟩
      rw [← k2.1]
      exact hE.in k1 (hy k k1 (Nat.testBit_two_pow_self))
    · rw [a2] at hp
      exact absurd hp (Nat.lt_irrefl 0)
  · rcases ls2_C hok hS c lb f with ⟨k, -, -, a2, -⟩ | ⟨-, -, a3, -⟩
    · rw [a2] at h0
      cases h0
    · exact a3
theorem LvI.step {v c : Nat → Nat} (hok : OkN v) {S : HoS} (hS : HoOk v S) {E : Int32 → Nat → Bool} (hE : DerE v S E) {lb : Nat → Nat} {f : Nat} (hf : f < 216) {p : LeS × Bool} (h : LvI v E (ls2 v S c lb) p.1) : LvI v E (ls2 v S c lb) (lsG S f p).1 := by
  obtain ⟨h1, h2, h3⟩ := h
  unfold lsG
  split
  · rename_i q
    obtain ⟨q1, q2, q3⟩ := q
    refine ⟨h1, h2, fun g hg => ?_⟩
    show (0 < (ls2 v S c lb).2.1 g → updN p.1.2.1 f (szS S p.1.2.1 (p.1.2.2.2 f) 3) g = (ls2 v S c lb).2.1 g ∧ updN p.1.2.2.1 f (usS S p.1.2.2.1 (p.1.2.2.2 f) 3) g = (ls2 v S c lb).2.2.1 g) ∧ (0 < updN p.1.2.1 f (szS S p.1.2.1 (p.1.2.2.2 f) 3) g → OkU v E g (updN p.1.2.2.1 f (usS S p.1.2.2.1 (p.1.2.2.2 f) 3) g)) ∧ (updN p.1.2.1 f (szS S p.1.2.1 (p.1.2.2.2 f) 3) g = 0 → updN p.1.2.2.1 f (usS S p.1.2.2.1 (p.1.2.2.2 f) 3) g = 0)
    by_cases e : g = f
    · subst e
      rw [updN_same, updN_same]
      have hz0 : (ls2 v S c lb).2.1 g = 0 := Nat.eq_zero_of_not_pos fun w => by
        have := ((h3 g hg).1 w).1
        omega
      have hpos := szS_pos S p.1.2.1 (p.1.2.2.2 g) 3
      refine ⟨fun w => by omega, fun _ => ?_, fun w => by omega⟩
      rw [h1] at q2
      rcases ls2_C hok hS c lb g with ⟨k, -, -, a2, -⟩ | ⟨-, -, -, a4⟩
      · omega
      · rcases a4 with ⟨i, ⟨i1, i2, -⟩, -, d2⟩ | ⟨-, d1⟩
        · rw [h2, d2] at q3 ⊢
          have hl := allL_iff.mp q3
          have hlit : ∀ x, isLit S i x → OkU v E x (p.1.2.2.1 x) := fun x hx => (h3 x (lit_lt hS i1 hx)).2.1 (of_decide_eq_true (hl x hx))
          refine ⟨usS_lt hS i1 fun x hx => (hlit x hx).1, fun y hy => ?_⟩
          rw [← i2.1]
          exact hE.cl hS y i i1 (allL_iff.mpr fun x hx => (hlit x hx).2 y fun k hk hb => hy k hk (usS_bit hx hb))
        · rw [d1] at q2
          exact absurd (by decide) q2
    · rw [updN_ne _ _ e, updN_ne _ _ e]
      exact h3 g hg
  · exact ⟨h1, h2, h3⟩
theorem LvI.lim {v c : Nat → Nat} (hok : OkN v) {S : HoS} (hS : HoOk v S) {E : Int32 → Nat → Bool} (hE : DerE v S E) {lb : Nat → Nat} {N : Nat} (hN : N = 216) {F : LeS} (hF : IsLim (fun L => (lsP S N L).1) (ls2 v S c lb) F) : LvI v E (ls2 v S c lb) F := by
  obtain ⟨k, rfl, -⟩ := hF
  have step : ∀ L, LvI v E (ls2 v S c lb) L → LvI v E (ls2 v S c lb) (lsP S N L).1 := fun L h => itN_inv (P := fun p : LeS × Bool => LvI v E (ls2 v S c lb) p.1) (s := lsG S) (N := N) (fun f hf p hp => hp.step hok hS hE (by omega)) N (Nat.le_refl _) (a := (L, false)) h
  have all : ∀ k, LvI v E (ls2 v S c lb) (itN (fun _ => fun L => (lsP S N L).1) (ls2 v S c lb) k) := by
    intro k
    induction k with
    | zero => exact LvI.base hok hS hE lb
    | succ k ih => exact step _ ih
  exact all k
theorem LeI_lim {v c : Nat → Nat} (hok : OkN v) {S : HoS} (hS : HoOk v S) {lb : Nat → Nat} {N : Nat} (hN : N = 216) {F : LeS} (hF : IsLim (fun L => (lsP S N L).1) (ls2 v S c lb) F) : LeI v S c F := by
  obtain ⟨k, rfl, -⟩ := hF
  have all : ∀ k, LeI v S c (itN (fun _ => fun L => (lsP S N L).1) (ls2 v S c lb) k) := by
    intro k
    induction k with
    | zero => exact ls2_I v S c lb
    | succ k ih => exact lsP_I hok hS hN ih
  exact all k
def lsCd (S : HoS) (L : LeS) (f : Nat) : Prop := L.2.1 f = 0 ∧ ¬ L.1 f < 0 ∧ allL S (fun g => decide (0 < L.2.1 g)) (L.2.2.2 f) = true
theorem lsG_t {S : HoS} {f : Nat} {p : LeS × Bool} (h : p.2 = true ∨ lsCd S p.1 f) : (lsG S f p).2 = true := by
  unfold lsG
  split
  · rfl
  · rename_i q
    rcases h with h | h
    · exact h
    · exact absurd h q
theorem lsG_n {S : HoS} {f : Nat} {p : LeS × Bool} (h : ¬ lsCd S p.1 f) : lsG S f p = p := by
  unfold lsG
  split
  · rename_i q
    exact absurd q h
  · rfl
theorem lsG_rest {S : HoS} {L : LeS} : ∀ n, (itN (lsG S) (L, false) n).2 = false → itN (lsG S) (L, false) n = (L, false) ∧ ∀ f, f < n → ¬ lsCd S L f
  | 0, _ => ⟨rfl, fun f hf => absurd hf (Nat.not_lt_zero f)⟩
  | n + 1, h => by
    have h : (lsG S n (itN (lsG S) (L, false) n)).2 = false := h
    have hfl : (itN (lsG S) (L, false) n).2 = false := by
      cases e : (itN (lsG S) (L, false) n).2 with
      | false => rfl
      | true =>
        rw [lsG_t (Or.inl e)] at h
        cases h
    obtain ⟨e1, e2⟩ := lsG_rest n hfl
    rw [e1] at h
    have hc : ¬ lsCd S L n := fun q => by
      rw [lsG_t (p := (L, false)) (Or.inr q)] at h
      cases h
    refine ⟨?_, fun f hf => ?_⟩
    · show lsG S n (itN (lsG S) (L, false) n) = (L, false)
      rw [e1]
      exact lsG_n (p := (L, false)) hc
    · rcases Nat.lt_succ_iff_lt_or_eq.mp hf with q | rfl
      · exact e2 f q
      · exact hc
theorem ls_rest {S : HoS} {N : Nat} {L0 F : LeS} (hF : IsLim (fun L => (lsP S N L).1) L0 F) : ∀ f, f < N → ¬ lsCd S F f := by
  obtain ⟨k, -, e⟩ := hF
  have hfl : (lsP S N F).2 = false := by
    cases w : (lsP S N F).2 with
    | false => rfl
    | true =>
      have := (lsP_flag S N F).1 w
      rw [show (lsP S N F).1 = F from e] at this
      exact absurd this (Nat.lt_irrefl _)
  exact (lsG_rest N hfl).2
/-- each fact with a cost has a least derivation of some size -/
theorem size_pos {v c : Nat → Nat} (hok : OkN v) {E : Int32 → Nat → Bool} (hE : DerE v (hoV v) E) {lb : Nat → Nat} {N : Nat} (hN : N = 216) (hc : IsLim (fun c => (coP v (hoV v) c).1) (coBase v) c) {F : LeS} (hF : IsLim (fun L => (lsP (hoV v) N L).1) (ls2 v (hoV v) c lb) F) : ∀ m f, f < 216 → c f ≤ m → c f < 1000001 → 0 < F.2.1 f := by
  have hS := hoV_ok hok
  have hI := LvI.lim hok hS hE hN hF
  intro m
  induction m with
  | zero =>
    intro f hf hm hlt
    refine Nat.pos_of_ne_zero fun h0 => ?_
    have hz0 : (ls2 v (hoV v) c lb).2.1 f = 0 := Nat.eq_zero_of_not_pos fun w => by
      have := ((hI.2.2 f hf).1 w).1
      omega
    rcases ls2_C hok hS c lb f with ⟨k, -, -, a2, -⟩ | ⟨-, -, -, a4⟩
    · omega
    · rcases a4 with ⟨i, ⟨i1, i2, -⟩, -, d2⟩ | ⟨-, d1⟩
      · have hr := (hok.2.2.2.2.2.2 _ (hS.2 i i1).1).1
        have e := i2.2.2
        unfold coB at e
        split at e
        · omega
        · have g : v (45 + 18 * (hoV v).2.1 i) ≤ coS v (hoV v) c i := by
            rw [show coS v (hoV v) c i = ((v (45 + 18 * (hoV v).2.1 i) + litN c ((hoV v).2.2.2.1 (3 * i + 0))) + litN c ((hoV v).2.2.2.1 (3 * i + 1))) + litN c ((hoV v).2.2.2.1 (3 * i + 2)) from rfl]
            omega
          omega
      · exact lr_pos hok lb hc hlt (by rw [d1]; decide)
  | succ m ih =>
    intro f hf hm hlt
    refine Nat.pos_of_ne_zero fun h0 => ?_
    have hz0 : (ls2 v (hoV v) c lb).2.1 f = 0 := Nat.eq_zero_of_not_pos fun w => by
      have := ((hI.2.2 f hf).1 w).1
      omega
    rcases ls2_C hok hS c lb f with ⟨k, -, -, a2, -⟩ | ⟨-, -, -, a4⟩
    · omega
    · rcases a4 with ⟨i, ⟨i1, i2, -⟩, -, d2⟩ | ⟨-, d1⟩
      · have hr := (hok.2.2.2.2.2.2 _ (hS.2 i i1).1).1
        have e := i2.2.2
        unfold coB at e
        split at e
        · omega
        · refine ls_rest hF f (by omega) ⟨h0, ?_, ?_⟩
          · rw [hI.1]
            exact lr_pos hok lb hc hlt
          · rw [hI.2.1, d2]
            refine allL_iff.mpr fun x hx => decide_eq_true ?_
            have g := coS_gt (v := v) (c := c) hx
            exact ih x (lit_lt hS i1 hx) (by omega) (by omega)
      · exact lr_pos hok lb hc hlt (by rw [d1]; decide)
