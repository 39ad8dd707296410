/-- a float from 0 to 1, by its bits -/
def UF (x : UInt32) : Prop := x.toNat ≤ 1065353216
def fM1 : UInt32 := 3212836864
theorem uf_n32 {x : UInt32} (h : UF x) : vf_n32 x := by
  unfold vf_n32
  unfold UF at h
  rw [UInt32.le_iff_toNat_le, UInt32.toNat_and]
  have h1 : x.toNat &&& (2147483647 : UInt32).toNat ≤ x.toNat := Nat.and_le_left
  have h2 : (2139095040 : UInt32).toNat = 2139095040 := by decide
  exact Nat.le_trans h1 (by rw [h2]; omega)
-- laws of the float core (proofs want JvmDerived.FloatLaws2: last)
theorem uf_mul {x y : UInt32} (hx : UF x) (hy : UF y) : (FP.fmul x y).toNat ≤ x.toNat ∧ (FP.fmul x y).toNat ≤ y.toNat := by sorry
theorem uf_cmp {x y : UInt32} (hx : UF x) (hy : UF y) : FP.fcmp x y = some (compare x.toNat y.toNat) := by sorry
theorem m1_cmp {y : UInt32} (hy : UF y) : FP.fcmp fM1 y = some .lt ∧ FP.fcmp y fM1 = some .gt := by sorry
theorem uf_mul_mono {x y x' y' : UInt32} (hx' : UF x') (hy' : UF y') (h1 : x.toNat ≤ x'.toNat) (h2 : y.toNat ≤ y'.toNat) : (FP.fmul x y).toNat ≤ (FP.fmul x' y').toNat := by sorry
theorem m1_m1 : FP.fcmp fM1 fM1 = some .eq := by decide +kernel
theorem uf_m {x y : UInt32} (hx : UF x) (hy : UF y) : UF (FP.fmul x y) := Nat.le_trans (uf_mul hx hy).1 hx
theorem uf_1 : UF FP.fconst1 := by unfold UF; decide
theorem uf_0 : UF FP.fconst0 := by unfold UF; decide
/-- the likelihood of a base fact of s sixteenths -/
def sixF (s : Nat) : UInt32 := FP.fdiv (FP.i2f (nI s)) 1098907648
theorem sixF_ok : ∀ s, s < 17 → 1 ≤ s → (sixF s).toNat ≤ 1065353216 ∧ 0 < (sixF s).toNat := by decide +kernel
theorem sixF_uf {s : Nat} (h1 : 1 ≤ s) (h2 : s ≤ 16) : UF (sixF s) := (sixF_ok s (by omega) h1).1
/-- known or not -/
def LkF (x : UInt32) : Prop := x = fM1 ∨ UF x
/-- the place of a likelihood in the order, 0 for unknown -/
def lkE (x : UInt32) : Nat := if x = fM1 then 0 else x.toNat + 1
theorem uf_ne {x : UInt32} (h : UF x) : x ≠ fM1 := fun e => by rw [e] at h; exact absurd h (by unfold UF; decide)
theorem lk_cmp {x y : UInt32} (hx : LkF x) (hy : LkF y) : FP.fcmp x y = some (compare (lkE x) (lkE y)) := by
  rcases hx with rfl | hx
  · rcases hy with rfl | hy
    · rw [m1_m1]; rfl
    · rw [(m1_cmp hy).1]
      have : lkE y = y.toNat + 1 := by unfold lkE; rw [if_neg (uf_ne hy)]
      rw [this, show lkE fM1 = 0 from rfl]
      rfl
  · have h1 : lkE x = x.toNat + 1 := by unfold lkE; rw [if_neg (uf_ne hx)]
    rcases hy with rfl | hy
    · rw [(m1_cmp hx).2, h1, show lkE fM1 = 0 from rfl]
      rfl
    · have h2 : lkE y = y.toNat + 1 := by unfold lkE; rw [if_neg (uf_ne hy)]
      rw [uf_cmp hx hy, h1, h2]
      congr 1
      rcases Nat.lt_trichotomy x.toNat y.toNat with h | h | h
      · rw [Nat.compare_eq_lt.mpr h, Nat.compare_eq_lt.mpr (show x.toNat + 1 < y.toNat + 1 by omega)]
      · rw [Nat.compare_eq_eq.mpr h, Nat.compare_eq_eq.mpr (show x.toNat + 1 = y.toNat + 1 by omega)]
      · rw [Nat.compare_eq_gt.mpr h, Nat.compare_eq_gt.mpr (show y.toNat + 1 < x.toNat + 1 by omega)]
theorem lk_gt {x y : UInt32} (hx : LkF x) (hy : LkF y) : (0 < Op.cmpValue (FP.fcmp x y) .l) ↔ lkE y < lkE x := by
  rw [lk_cmp hx hy]
  rcases Nat.lt_trichotomy (lkE x) (lkE y) with h | h | h
  · rw [Nat.compare_eq_lt.mpr h]
    exact ⟨fun q => absurd q (by decide), fun q => by omega⟩
  · rw [Nat.compare_eq_eq.mpr h]
    exact ⟨fun q => absurd q (by decide), fun q => by omega⟩
  · rw [Nat.compare_eq_gt.mpr h]
    exact ⟨fun _ => h, fun _ => by decide⟩
theorem lk_lt0 {x : UInt32} (hx : LkF x) : (Op.cmpValue (FP.fcmp x FP.fconst0) .g < 0) ↔ x = fM1 := by
  rcases hx with rfl | hx
  · exact ⟨fun _ => rfl, fun _ => by decide +kernel⟩
  · rw [uf_cmp hx uf_0]
    constructor
    · intro q
      have h0 : FP.fconst0.toNat = 0 := by decide
      rw [h0] at q
      rcases Nat.eq_zero_or_pos x.toNat with h | h
      · rw [h] at q
        exact absurd q (by decide)
      · rw [Nat.compare_eq_gt.mpr h] at q
        exact absurd q (by decide)
    · intro q
      exact absurd q (uf_ne hx)
