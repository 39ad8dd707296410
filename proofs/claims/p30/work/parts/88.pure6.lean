/-! A RULE THAT IS ADDED OR COPIED, on both sides -/
theorem orM_cg {f g : Nat → Nat} : ∀ n, (∀ a, a < n → f a = g a) → orM f n = orM g n
  | 0, _ => rfl
  | n + 1, h => by
    show orM f n ||| f n = orM g n ||| g n
    rw [orM_cg n (fun a ha => h a (by omega)), h n (by omega)]
/-- the numbers of rule r' in v' are those of rule r in v -/
def RowE (v v' : Nat → Nat) (r r' : Nat) : Prop := ∀ i j k, k < 18 → i = 45 + 18 * r' + k → j = 45 + 18 * r + k → v' i = v j
theorem varB_row {v v' : Nat → Nat} {r r' : Nat} (h : RowE v v' r r') (hl : v (45 + 18 * r + 1) ≤ 3) : varB v' r' = varB v r := by
  have e1 : v' (45 + 18 * r' + 1) = v (45 + 18 * r + 1) := h _ _ 1 (by omega) rfl rfl
  unfold varB
  rw [e1]
  refine orM_cg _ fun a ha => ?_
  unfold rowB
  rw [h (45 + 18 * r' + 2 + 4 * a + 1) (45 + 18 * r + 2 + 4 * a + 1) (2 + 4 * a + 1) (by omega) (by omega) (by omega), h (45 + 18 * r' + 2 + 4 * a + 2) (45 + 18 * r + 2 + 4 * a + 2) (2 + 4 * a + 2) (by omega) (by omega) (by omega)]
theorem SafR_row {v v' : Nat → Nat} {r r' : Nat} {R : RuS} (h : RowE v v' r r') (hl : v (45 + 18 * r + 1) ≤ 3) (H : SafR v R r) : SafR v' R r' := fun x hx => by
  rw [varB_row h hl]
  exact H x hx
theorem RuV_row {v v' : Nat → Nat} {r r' : Nat} {R : RuS} (h : RowE v v' r r') (hl : v (45 + 18 * r + 1) ≤ 3) (H : RuV R v r) : RuV R v' r' := by
  obtain ⟨g1, g2, g3⟩ := H
  have e0 : v' (45 + 18 * r') = v (45 + 18 * r) := h _ _ 0 (by omega) rfl rfl
  have e1 : v' (45 + 18 * r' + 1) = v (45 + 18 * r + 1) := h _ _ 1 (by omega) rfl rfl
  unfold RuV
  rw [e0, e1]
  refine ⟨g1, g2, fun a ha => ?_⟩
  rw [h (45 + 18 * r' + 2 + 4 * a) (45 + 18 * r + 2 + 4 * a) (2 + 4 * a) (by omega) (by omega) (by omega), h (45 + 18 * r' + 2 + 4 * a + 1) (45 + 18 * r + 2 + 4 * a + 1) (2 + 4 * a + 1) (by omega) (by omega) (by omega), h (45 + 18 * r' + 2 + 4 * a + 2) (45 + 18 * r + 2 + 4 * a + 2) (2 + 4 * a + 2) (by omega) (by omega) (by omega), h (45 + 18 * r' + 2 + 4 * a + 3) (45 + 18 * r + 2 + 4 * a + 3) (2 + 4 * a + 3) (by omega) (by omega) (by omega)]
  exact g3 a ha
theorem PgV_removeRule {v : Nat → Nat} {P : PgS} (hok : OkN v) (H : PgV P v) (hS : SafV v P) {f : Nat} (hf : f < v 2) : PgV (P.c, P.pl, P.fc, P.fa, P.fo, P.fs, P.rc - 1, shR P.ru f (P.rc - 1)) (shV (updN v 2 (v 2 - 1)) 18 (45 + 18 * f) (45 + 18 * (v 2 - 1))) ∧ SafV (shV (updN v 2 (v 2 - 1)) 18 (45 + 18 * f) (45 + 18 * (v 2 - 1))) (P.c, P.pl, P.fc, P.fa, P.fo, P.fs, P.rc - 1, shR P.ru f (P.rc - 1)) := by
  obtain ⟨h1, h2, h3, h4, h5, h6⟩ := H
  have h8 := hok.2.2.2.1
  have hli := hok.2.2.2.2.2.2
  have eo : ∀ j, j ≠ 2 → (j < 45 + 18 * f ∨ 45 + 18 * (v 2 - 1) ≤ j) → shV (updN v 2 (v 2 - 1)) 18 (45 + 18 * f) (45 + 18 * (v 2 - 1)) j = v j := fun j q1 q2 => by
    rw [shV_out q2, updN_ne _ _ q1]
  have e2 : shV (updN v 2 (v 2 - 1)) 18 (45 + 18 * f) (45 + 18 * (v 2 - 1)) 2 = v 2 - 1 := by
    rw [shV_out (by omega), updN_same]
  have hrow : ∀ r, r < v 2 - 1 → ∃ r0, r0 < v 2 ∧ shR P.ru f (P.rc - 1) r = P.ru r0 ∧ RowE v (shV (updN v 2 (v 2 - 1)) 18 (45 + 18 * f) (45 + 18 * (v 2 - 1))) r0 r := by
    intro r hr
    unfold shR
    rw [show P.rc = v 2 from h5]
    by_cases q : r < f
    · refine ⟨r, by omega, if_neg (by omega), fun i j k hk e1 e2 => ?_⟩
      rw [eo i (by omega) (by omega), e1, e2]
    · refine ⟨r + 1, by omega, if_pos (by omega), fun i j k hk e1 e2 => ?_⟩
      rw [shV_in (by omega) (by omega), updN_ne _ _ (by omega), show i + 18 = j by omega]
  refine ⟨⟨by rw [eo 0 (by omega) (by omega)]; exact h1, fun p hp => ?_, by rw [eo 1 (by omega) (by omega)]; exact h3, fun k hk => ?_, by rw [e2]; exact congrArg (· - 1) h5, fun r hr => ?_⟩, fun r hr => ?_⟩
  · rw [eo _ (by omega) (by omega)]
    exact h2 p hp
  · rw [eo 1 (by omega) (by omega)] at hk
    have := hok.2.2.1
    rw [eo _ (by omega) (by omega), eo _ (by omega) (by omega), eo _ (by omega) (by omega)]
    exact h4 k hk
  · rw [e2] at hr
    obtain ⟨r0, hr0, e, hE⟩ := hrow r hr
    show RuV (shR P.ru f (P.rc - 1) r) _ r
    rw [e]
    exact RuV_row hE (hli r0 hr0).2.2.2.1 (h6 r0 hr0)
  · rw [e2] at hr
    obtain ⟨r0, hr0, e, hE⟩ := hrow r hr
    show SafR _ (shR P.ru f (P.rc - 1) r) r
    rw [e]
    exact SafR_row hE (hli r0 hr0).2.2.2.1 (hS r0 hr0)
/-- the program and its safety read the first 189 numbers alone -/
theorem PgV_cg {v v' : Nat → Nat} {P : PgS} (hok : OkN v) (H : PgV P v) (hS : SafV v P) (e : ∀ j, j < 189 → v' j = v j) : PgV P v' ∧ SafV v' P := by
  obtain ⟨h1, h2, h3, h4, h5, h6⟩ := H
  have h12 := hok.2.2.1
  have h8 := hok.2.2.2.1
  have hli := hok.2.2.2.2.2.2
  have hrow : ∀ r, r < v 2 → RowE v v' r r := fun r hr i j k hk e1 e2 => by
    rw [e i (by omega), show i = j by omega]
  refine ⟨⟨by rw [e 0 (by omega)]; exact h1, fun p hp => ?_, by rw [e 1 (by omega)]; exact h3, fun k hk => ?_, by rw [e 2 (by omega)]; exact h5, fun r hr => ?_⟩, fun r hr => ?_⟩
  · rw [e _ (by omega)]
    exact h2 p hp
  · rw [e 1 (by omega)] at hk
    rw [e _ (by omega), e _ (by omega), e _ (by omega)]
    exact h4 k hk
  · rw [e 2 (by omega)] at hr
    exact RuV_row (hrow r hr) (hli r hr).2.2.2.1 (h6 r hr)
  · rw [e 2 (by omega)] at hr
    exact SafR_row (hrow r hr) (hli r hr).2.2.2.1 (hS r hr)
theorem adU_out (r : Nat) (td : Nat → Int32) (V : Nat → Nat) (j : Nat) : ∀ n, (j < 45 + 18 * r + 2 ∨ 45 + 18 * r + 2 + n ≤ j) → itN (adU r td) V n j = V j
  | 0, _ => rfl
  | n + 1, h => by
    show updN (itN (adU r td) V n) (45 + 18 * r + 2 + 4 * 0 + n) (toN (td n)) j = V j
    rw [updN_ne _ _ (by omega)]
    exact adU_out r td V j n (by omega)
theorem adU_in (r : Nat) (td : Nat → Int32) (V : Nat → Nat) (i : Nat) : ∀ n, i < n → itN (adU r td) V n (45 + 18 * r + 2 + i) = toN (td i)
  | 0, h => absurd h (Nat.not_lt_zero i)
  | n + 1, h => by
    show updN (itN (adU r td) V n) (45 + 18 * r + 2 + 4 * 0 + n) (toN (td n)) (45 + 18 * r + 2 + i) = toN (td i)
    by_cases e : i = n
    · rw [e, show 45 + 18 * r + 2 + 4 * 0 + n = 45 + 18 * r + 2 + n by omega, updN_same]
    · rw [updN_ne _ _ (by omega)]
      exact adU_in r td V i n (by omega)
theorem adV_2 (v : Nat → Nat) (p k : Nat) (td : Nat → Int32) : addRuleV v p k td 2 = v 2 + 1 := updN_same _ _ _
theorem adV_o (v : Nat → Nat) (p k : Nat) (td : Nat → Int32) {j : Nat} (h2 : j ≠ 2) (h : j < 45 + 18 * v 2 ∨ 45 + 18 * v 2 + 18 ≤ j) : addRuleV v p k td j = v j := by
  unfold addRuleV
  rw [updN_ne _ _ h2, adU_out _ _ _ _ _ (by omega), updN_ne _ _ (by omega), updN_ne _ _ (by omega)]
theorem adV_p (v : Nat → Nat) (p k : Nat) (td : Nat → Int32) : addRuleV v p k td (45 + 18 * v 2) = p := by
  unfold addRuleV
  rw [updN_ne _ _ (by omega), adU_out _ _ _ _ _ (by omega), updN_ne _ _ (by omega), updN_same]
theorem adV_k (v : Nat → Nat) (p k : Nat) (td : Nat → Int32) : addRuleV v p k td (45 + 18 * v 2 + 1) = k := by
  unfold addRuleV
  rw [updN_ne _ _ (by omega), adU_out _ _ _ _ _ (by omega), updN_same]
theorem adV_t (v : Nat → Nat) (p k : Nat) (td : Nat → Int32) (i j : Nat) (hi : i < 16) (e : j = 45 + 18 * v 2 + 2 + i) : addRuleV v p k td j = toN (td i) := by
  unfold addRuleV
  rw [e, updN_ne _ _ (by omega), adU_in _ _ _ _ _ hi]
theorem toN_bI (b : Bool) : toN (bI b) ≤ 1 ∧ b = decide (toN (bI b) ≠ 0) := by
  cases b <;> decide
/-- a text that is read adds the same rule on both sides -/
theorem add_ok {v t : Nat → Nat} {tl p : Nat} {td : Nat → Int32} {R : RuS} {P : PgS} (hok : OkN v) (H : PgV P v) (hS : SafV v P) (h8 : v 2 < 8) (hp1 : 1 ≤ p) (hp9 : p ≤ 9) (ht7 : ∀ i, i < tl → t i < 128) (hl : tl ≤ 60) (hF : (rdText v t tl td).1 = true) : OkN (addRuleV v p (rdText v t tl td).2.1 (rdText v t tl td).2.2.2) ∧ PgV (P.c, P.pl, P.fc, P.fa, P.fo, P.fs, P.rc + 1, updN P.ru P.rc ((kdRule v t tl R).2.2.pr, (kdRule v t tl R).2.2.fi, (kdRule v t tl R).2.2.se, (kdRule v t tl R).2.2.ng, (kdRule v t tl R).2.2.li, p)) (addRuleV v p (rdText v t tl td).2.1 (rdText v t tl td).2.2.2) ∧ SafV (addRuleV v p (rdText v t tl td).2.1 (rdText v t tl td).2.2.2) (P.c, P.pl, P.fc, P.fa, P.fo, P.fs, P.rc + 1, updN P.ru P.rc ((kdRule v t tl R).2.2.pr, (kdRule v t tl R).2.2.fi, (kdRule v t tl R).2.2.se, (kdRule v t tl R).2.2.ng, (kdRule v t tl R).2.2.li, p)) := by
  obtain ⟨-, -, g⟩ := text_eq hok.2.1 ht7 hl td R
  obtain ⟨g1, g2, g3, g4⟩ := g hF
  obtain ⟨b1, b2, b3⟩ := kdRule_B hok.2.1 g1
  rw [g2]
  generalize (rdText v t tl td).2.2.2 = T at g3 ⊢
  generalize (kdRule v t tl R).2 = K at g3 g4 b1 b2 b3 ⊢
  obtain ⟨l1, l2, l3, l4, l5, l6⟩ := g3
  have l1 : tl = K.1 := l1
  have l4 : T 3 = nI 0 := l4
  obtain ⟨h1, h2, h3, h4, h5, h6⟩ := H
  have h12 := hok.2.2.1
  have W : ∀ a, a ≤ K.2.li → addRuleV v p K.2.li T (45 + 18 * v 2 + 2 + 4 * a) = K.2.pr a ∧ addRuleV v p K.2.li T (45 + 18 * v 2 + 2 + 4 * a + 1) = K.2.fi a ∧ addRuleV v p K.2.li T (45 + 18 * v 2 + 2 + 4 * a + 2) = K.2.se a ∧ addRuleV v p K.2.li T (45 + 18 * v 2 + 2 + 4 * a + 3) ≤ 1 ∧ (1 ≤ a → K.2.ng a = decide (addRuleV v p K.2.li T (45 + 18 * v 2 + 2 + 4 * a + 3) ≠ 0)) := by
    intro a ha
    obtain ⟨t1, t2, t3⟩ := l2 a ha
    have t1 : T (4 * a) = nI (K.2.pr a) := t1
    have t2 : T (4 * a + 1) = nI (K.2.fi a) := t2
    have t3 : T (4 * a + 2) = nI (K.2.se a) := t3
    obtain ⟨c1, c2, c3⟩ := b3 a ha
    rw [adV_t v p K.2.li T (4 * a) (45 + 18 * v 2 + 2 + 4 * a) (by omega) (by omega), adV_t v p K.2.li T (4 * a + 1) (45 + 18 * v 2 + 2 + 4 * a + 1) (by omega) (by omega), adV_t v p K.2.li T (4 * a + 2) (45 + 18 * v 2 + 2 + 4 * a + 2) (by omega) (by omega), adV_t v p K.2.li T (4 * a + 3) (45 + 18 * v 2 + 2 + 4 * a + 3) (by omega) (by omega), t1, t2, t3, toN_nI (by omega), toN_nI (by omega), toN_nI (by omega)]
    refine ⟨rfl, rfl, rfl, ?_⟩
    by_cases q : 1 ≤ a
    · have t4 : T (4 * a + 3) = bI (K.2.ng a) := l3 a q ha
      rw [t4]
      exact ⟨(toN_bI _).1, fun _ => (toN_bI _).2⟩
    · rw [show 4 * a + 3 = 3 by omega, l4, toN_nI (by omega)]
      exact ⟨Nat.zero_le 1, fun w => absurd w q⟩
  have hrow : ∀ r, r < v 2 → RowE v (addRuleV v p K.2.li T) r r := fun r hr i j k hk e1 e2 => by
    rw [adV_o v p K.2.li T (by omega) (by omega), show i = j by omega]
  have hli := hok.2.2.2.2.2.2
  refine ⟨⟨by rw [adV_o v p K.2.li T (by omega) (by omega)]; exact hok.1, by rw [adV_o v p K.2.li T (by omega) (by omega)]; exact hok.2.1, by rw [adV_o v p K.2.li T (by omega) (by omega)]; exact h12, by rw [adV_2]; omega, fun q hq => ?_, fun k hk => ?_, fun r hr => ?_⟩, ⟨by rw [adV_o v p K.2.li T (by omega) (by omega)]; exact h1, fun q hq => ?_, by rw [adV_o v p K.2.li T (by omega) (by omega)]; exact h3, fun k hk => ?_, by rw [adV_2]; exact congrArg (· + 1) h5, fun r hr => ?_⟩, fun r hr => ?_⟩
  · rw [adV_o v p K.2.li T (by omega) (by omega)]
    exact hok.2.2.2.2.1 q hq
  · rw [adV_o v p K.2.li T (by omega) (by omega)] at hk
    rw [adV_o v p K.2.li T (by omega) (by omega), adV_o v p K.2.li T (by omega) (by omega), adV_o v p K.2.li T (by omega) (by omega)]
    exact hok.2.2.2.2.2.1 k hk
  · rw [adV_2] at hr
    by_cases q : r = v 2
    · rw [q, adV_p, adV_k]
      refine ⟨hp1, hp9, b2, b1, fun a ha => ?_⟩
      obtain ⟨w1, w2, w3, w4, -⟩ := W a ha
      obtain ⟨c1, c2, c3⟩ := b3 a ha
      rw [w1, w2, w3]
      exact ⟨c1, c2, c3, w4⟩
    · obtain ⟨k1, k2, k3, k4, k5⟩ := hli r (by omega)
      rw [adV_o v p K.2.li T (j := 45 + 18 * r) (by omega) (by omega), adV_o v p K.2.li T (j := 45 + 18 * r + 1) (by omega) (by omega)]
      refine ⟨k1, k2, k3, k4, fun a ha => ?_⟩
      rw [adV_o v p K.2.li T (j := 45 + 18 * r + 2 + 4 * a) (by omega) (by omega), adV_o v p K.2.li T (j := 45 + 18 * r + 2 + 4 * a + 1) (by omega) (by omega), adV_o v p K.2.li T (j := 45 + 18 * r + 2 + 4 * a + 2) (by omega) (by omega), adV_o v p K.2.li T (j := 45 + 18 * r + 2 + 4 * a + 3) (by omega) (by omega)]
      exact k5 a ha
  · rw [adV_o v p K.2.li T (by omega) (by omega)]
    exact h2 q hq
  · rw [adV_o v p K.2.li T (by omega) (by omega)] at hk
    rw [adV_o v p K.2.li T (by omega) (by omega), adV_o v p K.2.li T (by omega) (by omega), adV_o v p K.2.li T (by omega) (by omega)]
    exact h4 k hk
  · rw [adV_2] at hr
    show RuV (updN P.ru P.rc (K.2.pr, K.2.fi, K.2.se, K.2.ng, K.2.li, p) r) _ r
    rw [show P.rc = v 2 from h5]
    by_cases q : r = v 2
    · rw [q, updN_same]
      unfold RuV
      rw [adV_p, adV_k]
      refine ⟨rfl, rfl, fun a ha => ?_⟩
      obtain ⟨w1, w2, w3, -, w5⟩ := W a ha
      exact ⟨w1.symm, w2.symm, w3.symm, w5⟩
    · rw [updN_ne _ _ q]
      exact RuV_row (hrow r (by omega)) (hli r (by omega)).2.2.2.1 (h6 r (by omega))
  · rw [adV_2] at hr
    show SafR _ (updN P.ru P.rc (K.2.pr, K.2.fi, K.2.se, K.2.ng, K.2.li, p) r) r
    rw [show P.rc = v 2 from h5]
    by_cases q : r = v 2
    · rw [q, updN_same]
      have e : varB (addRuleV v p K.2.li T) (v 2) = sN K.2 (K.2.li + 1) := by
        unfold varB sN
        rw [adV_k]
        refine orM_cg _ fun a ha => ?_
        obtain ⟨-, w2, w3, -⟩ := W a (by omega)
        unfold rowB
        rw [w2, w3]
      intro x hx
      rw [e, ← Nat.testBit_eq_decide_div_mod_eq, Bool.eq_iff_iff, sN_bit b3 hx]
      show hasV K.2 x = true ↔ _
      constructor
      · intro w
        unfold hasV at w
        rw [anyN_iff] at w
        obtain ⟨i, hi, w⟩ := w
        rw [Bool.and_eq_true, Bool.or_eq_true, decide_eq_true_iff, decide_eq_true_iff] at w
        exact ⟨i + 1, by omega, w.2⟩
      · rintro ⟨a, ha, w⟩
        obtain ⟨j, hj, e8⟩ := l6 x hx a ha w
        have := g4 j (by omega) (by rw [e8]; exact (isVr_nI (by omega)).mpr ⟨by omega, by omega⟩)
        rw [e8, show 88 + x - 88 = x by omega] at this
        exact this
    · rw [updN_ne _ _ q]
      exact SafR_row (hrow r (by omega)) (hli r (by omega)).2.2.2.1 (hS r (by omega))
