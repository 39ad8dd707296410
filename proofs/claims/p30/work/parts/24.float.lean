/-- a float from 0 to 1, by its bits -/
def UF (x : UInt32) : Prop := x.toNat ≤ 1065353216
def fM1 : UInt32 := 3212836864
theorem uf_n32 {x : UInt32} (h : UF x) : vf_n32 x := by
  unfold vf_n32
  unfold UF at h
  rw [UInt32.le_iff_toNat_le, UInt32.toNat_and]
  have h1 : x.toNat &&& (2147483647 : UInt32).toNat ≤ x.toNat := Nat.and_le_left
  have h2 : (2139095040 : UInt32).toNat = 2139095040 := by decide
  exact Nat.le_trans h1 (by rw [h2]; omega)
theorem uf_lt {x : UInt32} (h : UF x) : x.toNat < 2139095040 := by unfold UF at h; omega
theorem pf_val {x : UInt32} (h : x.toNat < 2139095040) : FP.Core.val32 x ≠ .nan := (FP.Core.ne_nan32 x).mpr (by omega)
theorem fkey_pf {x : UInt32} (h : x.toNat < 2139095040) : FP.Core.fkey x = (x.toNat : Int) := by
  unfold FP.Core.fkey
  rw [if_neg (by omega)]
theorem cmp_cast (a b : Nat) : compare (a : Int) (b : Int) = compare a b := by
  rcases Nat.lt_trichotomy a b with h | h | h
  · rw [Nat.compare_eq_lt.mpr h, (FP.Core.compare_lt_iff _ _).mpr (by omega)]
  · rw [Nat.compare_eq_eq.mpr h, (FP.Core.compare_eq_iff _ _).mpr (by omega)]
  · rw [Nat.compare_eq_gt.mpr h, (FP.Core.compare_gt_iff _ _).mpr (by omega)]
theorem pf_cmp {x y : UInt32} (hx : x.toNat < 2139095040) (hy : y.toNat < 2139095040) : FP.fcmp x y = some (compare x.toNat y.toNat) := by
  have e : FP.fcmp x y = some (compare (FP.Core.fkey x) (FP.Core.fkey y)) := FP.Core.fcmp_key (pf_val hx) (pf_val hy)
  rw [e, fkey_pf hx, fkey_pf hy, cmp_cast]
theorem uf_cmp {x y : UInt32} (hx : UF x) (hy : UF y) : FP.fcmp x y = some (compare x.toNat y.toNat) := pf_cmp (uf_lt hx) (uf_lt hy)
theorem m1_cmp {y : UInt32} (hy : UF y) : FP.fcmp fM1 y = some .lt ∧ FP.fcmp y fM1 = some .gt := by
  have n1 : FP.Core.val32 fM1 ≠ .nan := (FP.Core.ne_nan32 _).mpr (by decide +kernel)
  have k1 : FP.Core.fkey fM1 = -1065353216 := by decide +kernel
  have k2 := fkey_pf (uf_lt hy)
  have e1 : FP.fcmp fM1 y = some (compare (FP.Core.fkey fM1) (FP.Core.fkey y)) := FP.Core.fcmp_key n1 (pf_val (uf_lt hy))
  have e2 : FP.fcmp y fM1 = some (compare (FP.Core.fkey y) (FP.Core.fkey fM1)) := FP.Core.fcmp_key (pf_val (uf_lt hy)) n1
  rw [e1, e2, k1, k2]
  exact ⟨congrArg some ((FP.Core.compare_lt_iff _ _).mpr (by omega)), congrArg some ((FP.Core.compare_gt_iff _ _).mpr (by omega))⟩
/-- the units of a float: of 2 to the power of -149 -/
abbrev fU (x : UInt32) : Nat := FP.Core.unitsOf FP.Core.b32 x.toNat
theorem pf_mag {x : UInt32} (h : x.toNat < 2139095040) : FP.Core.mag FP.Core.b32 x.toNat = x.toNat := by
  rw [FP.Core.mag_toNat32]
  omega
theorem pf_fin {x : UInt32} (h : x.toNat < 2139095040) : ∃ c q, FP.Core.val32 x = .fin false c q ∧ FP.Core.fits FP.Core.b32 (.fin false c q) ∧ FP.Core.inUnits c q FP.Core.b32.qmin = fU x := by
  obtain ⟨s, c, q, x1, x2, x3⟩ := FP.Core.fin_of_mag FP.Core.good_b32 (n := x.toNat) (by rw [pf_mag h, FP.Core.infBits_b32]; exact h)
  have sx := FP.Core.sgn_bits32 (pf_val h)
  rw [show FP.Core.val32 x = _ from x1] at sx
  have s0 : s = false := (show s = _ from sx).trans (decide_eq_false (by omega))
  subst s0
  rw [pf_mag h] at x3
  exact ⟨c, q, x1, x2, x3⟩
theorem qm2 : (FP.Core.b32.qmin - 2 * FP.Core.b32.qmin).toNat = 149 := by decide +kernel
theorem fU_1 : FP.Core.unitsOf FP.Core.b32 1065353216 = 2 ^ 149 := by decide +kernel
theorem uf_U {x : UInt32} (h : UF x) : fU x ≤ 2 ^ 149 := by
  rw [← fU_1]
  exact FP.Core.unitsOf_le_iff.mpr h
theorem pf_round {x y : UInt32} (hx : x.toNat < 2139095040) (hy : y.toNat < 2139095040) : ∃ A e, FP.Core.decode FP.Core.b32 (FP.fmul x y).toNat = FP.Core.roundRatio FP.Core.b32 false A 1 e ∧ 2 * FP.Core.b32.qmin ≤ e ∧ FP.Core.inUnits A e (2 * FP.Core.b32.qmin) = fU x * fU y := by
  obtain ⟨c, q, x1, x2, x3⟩ := pf_fin hx
  obtain ⟨d, r, y1, y2, y3⟩ := pf_fin hy
  obtain ⟨p1, p2, p3⟩ := FP.Core.product_units x2 y2
  refine ⟨c * d, q + r, ?_, p2, ?_⟩
  · have h := FP.Core.val32_fmul x y
    rw [x1, y1, p1] at h
    exact h
  · rw [p3, ← x3, ← y3]
    rfl
theorem pf_mul_sg {x y : UInt32} (hx : x.toNat < 2139095040) (hy : y.toNat < 2139095040) : FP.Core.mag FP.Core.b32 (FP.fmul x y).toNat = (FP.fmul x y).toNat := by
  obtain ⟨A, e, h1, h2, h3⟩ := pf_round hx hy
  have hn : FP.Core.val32 (FP.fmul x y) ≠ .nan := by
    show FP.Core.decode FP.Core.b32 (FP.fmul x y).toNat ≠ .nan
    rw [h1]
    exact FP.Core.roundRatio_ne_nan _ _ _ _ _
  have hs := FP.Core.sgn_bits32 hn
  rw [show FP.Core.val32 (FP.fmul x y) = _ from h1, FP.Core.sgn_roundRatio] at hs
  have := of_decide_eq_false hs.symm
  rw [FP.Core.mag_toNat32]
  omega
theorem pf_mul_le {x y : UInt32} (hx : x.toNat < 2139095040) (hy : y.toNat < 2139095040) (m : Nat) (h : fU x * fU y ≤ FP.Core.unitsOf FP.Core.b32 m * 2 ^ 149) : (FP.fmul x y).toNat ≤ m := by
  obtain ⟨A, e, h1, h2, h3⟩ := pf_round hx hy
  have := FP.Core.mag_le FP.Core.good_b32 (m := m) h1 (by decide) (e0 := 2 * FP.Core.b32.qmin) (by decide +kernel) h2 (by rw [h3, qm2, Nat.mul_one]; exact h)
  rw [pf_mul_sg hx hy] at this
  exact this
theorem pf_mul_ge {x y : UInt32} (hx : x.toNat < 2139095040) (hy : y.toNat < 2139095040) (m : Nat) (hm : m ≤ 2139095040) (h : FP.Core.unitsOf FP.Core.b32 m * 2 ^ 149 ≤ fU x * fU y) : m ≤ (FP.fmul x y).toNat := by
  obtain ⟨A, e, h1, h2, h3⟩ := pf_round hx hy
  have := FP.Core.mag_ge FP.Core.good_b32 (m := m) h1 (by decide) (e0 := 2 * FP.Core.b32.qmin) (by decide +kernel) h2 (by rw [FP.Core.infBits_b32]; exact hm) (by rw [h3, qm2, Nat.mul_one]; exact h)
  rw [pf_mul_sg hx hy] at this
  exact this
theorem uf_mul {x y : UInt32} (hx : UF x) (hy : UF y) : (FP.fmul x y).toNat ≤ x.toNat ∧ (FP.fmul x y).toNat ≤ y.toNat :=
  ⟨pf_mul_le (uf_lt hx) (uf_lt hy) _ (Nat.mul_le_mul_left _ (uf_U hy)), pf_mul_le (uf_lt hx) (uf_lt hy) _ (by rw [Nat.mul_comm]; exact Nat.mul_le_mul_left _ (uf_U hx))⟩
theorem near_mono {P Q u w : Nat} (h1 : ((P : Int) - (u : Int) * ((1 : Nat) : Int)).natAbs ≤ ((P : Int) - (w : Int) * ((1 : Nat) : Int)).natAbs) (h2 : ((Q : Int) - (w : Int) * ((1 : Nat) : Int)).natAbs ≤ ((Q : Int) - (u : Int) * ((1 : Nat) : Int)).natAbs) (hPQ : P ≤ Q) (hw : w < u) : P = Q := by omega
theorem uf_mul_mono {x y x' y' : UInt32} (hx' : UF x') (hy' : UF y') (h1 : x.toNat ≤ x'.toNat) (h2 : y.toNat ≤ y'.toNat) : (FP.fmul x y).toNat ≤ (FP.fmul x' y').toNat := by
  have hx : UF x := Nat.le_trans h1 hx'
  have hy : UF y := Nat.le_trans h2 hy'
  obtain ⟨A, e, a1, a2, a3⟩ := pf_round (uf_lt hx) (uf_lt hy)
  obtain ⟨B, g, b1, b2, b3⟩ := pf_round (uf_lt hx') (uf_lt hy')
  have ua : UF (FP.fmul x y) := Nat.le_trans (uf_mul hx hy).1 hx
  have ub : UF (FP.fmul x' y') := Nat.le_trans (uf_mul hx' hy').1 hx'
  obtain ⟨c, q, c1, c2, c3⟩ := pf_fin (uf_lt ua)
  obtain ⟨d, r, d1, d2, d3⟩ := pf_fin (uf_lt ub)
  refine Nat.le_of_not_lt fun hlt => ?_
  have hU : fU (FP.fmul x' y') < fU (FP.fmul x y) := FP.Core.unitsOf_lt hlt
  have hA := a1.symm.trans c1
  have hB := b1.symm.trans d1
  have n1 := FP.Core.roundRatio_nearest FP.Core.good_b32 (by decide) hA d2.1 d2.2.1 (e0 := 2 * FP.Core.b32.qmin) (by decide +kernel) a2
  have n2 := FP.Core.roundRatio_nearest FP.Core.good_b32 (by decide) hB c2.1 c2.2.1 (e0 := 2 * FP.Core.b32.qmin) (by decide +kernel) b2
  unfold FP.Core.distance at n1 n2
  have z1 := FP.Core.units_fin c2 (e0 := 2 * FP.Core.b32.qmin) (by decide +kernel)
  have z2 := FP.Core.units_fin d2 (e0 := 2 * FP.Core.b32.qmin) (by decide +kernel)
  rw [show FP.Core.zmag FP.Core.b32 (.fin false c q) = fU (FP.fmul x y) from c3, qm2] at z1
  rw [show FP.Core.zmag FP.Core.b32 (.fin false d r) = fU (FP.fmul x' y') from d3, qm2] at z2
  rw [z1, z2, a3] at n1
  rw [z1, z2, b3] at n2
  have hPQ : fU x * fU y ≤ fU x' * fU y' := Nat.mul_le_mul (FP.Core.unitsOf_le_iff.mpr h1) (FP.Core.unitsOf_le_iff.mpr h2)
  have hw : fU (FP.fmul x' y') * 2 ^ 149 < fU (FP.fmul x y) * 2 ^ 149 := Nat.mul_lt_mul_of_pos_right hU (Nat.two_pow_pos 149)
  have hE := near_mono n1 n2 hPQ hw
  have r1 := FP.Core.round_inUnits (f := FP.Core.b32) false A a2
  have r2 := FP.Core.round_inUnits (f := FP.Core.b32) false B b2
  rw [a3, hE, ← b3] at r1
  have r3 : FP.Core.roundRatio FP.Core.b32 false B 1 g = FP.Core.roundRatio FP.Core.b32 false A 1 e := r2.symm.trans r1
  rw [r3, hA] at hB
  rw [← c3, ← d3] at hU
  cases hB
  exact Nat.lt_irrefl _ hU
theorem m1_m1 : FP.fcmp fM1 fM1 = some .eq := by decide +kernel
theorem uf_m {x y : UInt32} (hx : UF x) (hy : UF y) : UF (FP.fmul x y) := Nat.le_trans (uf_mul hx hy).1 hx
theorem uf_1 : UF FP.fconst1 := by unfold UF; decide
theorem uf_0 : UF FP.fconst0 := by unfold UF; decide
/-- the likelihood of a base fact of s sixteenths -/
def sixF (s : Nat) : UInt32 := FP.fdiv (FP.i2f (nI s)) 1098907648
theorem sixF_ok : ∀ s, s < 17 → 1 ≤ s → (sixF s).toNat ≤ 1065353216 ∧ 0 < (sixF s).toNat := by decide +kernel
theorem sixF_uf {s : Nat} (h1 : 1 ≤ s) (h2 : s ≤ 16) : UF (sixF s) := (sixF_ok s (by omega) h1).1
/-- known or not -/
def LkF (x : UInt32) : Prop := x = fM1 ∨ UF x
/-- the place of a likelihood in the order, 0 for unknown -/
def lkE (x : UInt32) : Nat := if x = fM1 then 0 else x.toNat + 1
theorem uf_ne {x : UInt32} (h : UF x) : x ≠ fM1 := fun e => by rw [e] at h; exact absurd h (by unfold UF; decide)
theorem lk_cmp {x y : UInt32} (hx : LkF x) (hy : LkF y) : FP.fcmp x y = some (compare (lkE x) (lkE y)) := by
  rcases hx with rfl | hx
  · rcases hy with rfl | hy
    · rw [m1_m1]; rfl
    · rw [(m1_cmp hy).1]
      have : lkE y = y.toNat + 1 := by unfold lkE; rw [if_neg (uf_ne hy)]
      rw [this, show lkE fM1 = 0 from rfl]
      rfl
  · have h1 : lkE x = x.toNat + 1 := by unfold lkE; rw [if_neg (uf_ne hx)]
    rcases hy with rfl | hy
    · rw [(m1_cmp hx).2, h1, show lkE fM1 = 0 from rfl]
      rfl
    · have h2 : lkE y = y.toNat + 1 := by unfold lkE; rw [if_neg (uf_ne hy)]
      rw [uf_cmp hx hy, h1, h2]
      congr 1
      rcases Nat.lt_trichotomy x.toNat y.toNat with h | h | h
      · rw [Nat.compare_eq_lt.mpr h, Nat.compare_eq_lt.mpr (show x.toNat + 1 < y.toNat + 1 by omega)]
      · rw [Nat.compare_eq_eq.mpr h, Nat.compare_eq_eq.mpr (show x.toNat + 1 = y.toNat + 1 by omega)]
      · rw [Nat.compare_eq_gt.mpr h, Nat.compare_eq_gt.mpr (show y.toNat + 1 < x.toNat + 1 by omega)]
theorem lk_gt {x y : UInt32} (hx : LkF x) (hy : LkF y) : (0 < Op.cmpValue (FP.fcmp x y) .l) ↔ lkE y < lkE x := by
  rw [lk_cmp hx hy]
  rcases Nat.lt_trichotomy (lkE x) (lkE y) with h | h | h
  · rw [Nat.compare_eq_lt.mpr h]
    exact ⟨fun q => absurd q (by decide), fun q => by omega⟩
  · rw [Nat.compare_eq_eq.mpr h]
    exact ⟨fun q => absurd q (by decide), fun q => by omega⟩
  · rw [Nat.compare_eq_gt.mpr h]
    exact ⟨fun _ => h, fun _ => by decide⟩
theorem lk_lt0 {x : UInt32} (hx : LkF x) : (Op.cmpValue (FP.fcmp x FP.fconst0) .g < 0) ↔ x = fM1 := by
  rcases hx with rfl | hx
  · exact ⟨fun _ => rfl, fun _ => by decide +kernel⟩
  · rw [uf_cmp hx uf_0]
    constructor
    · intro q
      have h0 : FP.fconst0.toNat = 0 := by decide
      rw [h0] at q
      rcases Nat.eq_zero_or_pos x.toNat with h | h
      · rw [h] at q
        exact absurd q (by decide)
      · rw [Nat.compare_eq_gt.mpr h] at q
        exact absurd q (by decide)
    · intro q
      exact absurd q (uf_ne hx)
