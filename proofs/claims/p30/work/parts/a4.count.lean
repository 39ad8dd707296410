/-! P30, PURE: which facts there can be; counting them -/
/-- a fact that can be called -/
def VF (v : Nat → Nat) (f : Nat) : Prop := ∃ p a b, p < 6 ∧ a < v 0 ∧ b < v 0 ∧ (v (3 + p) = 1 → b = 0) ∧ f = 36 * p + 6 * a + b
/-- base facts can be called, and heads of rules -/
def VB (v : Nat → Nat) : Prop := ∀ k, k < v 1 → VF v (v (9 + 3 * k))
def VH (v : Nat → Nat) : Prop := ∀ r, r < v 2 → (v (45 + 18 * r + 2 + 4 * 0 + 1) < 6 → v (45 + 18 * r + 2 + 4 * 0 + 1) < v 0) ∧ (v (45 + 18 * r + 2 + 4 * 0 + 2) < 6 → v (45 + 18 * r + 2 + 4 * 0 + 2) < v 0) ∧ (v (3 + v (45 + 18 * r + 2 + 4 * 0)) = 1 → v (45 + 18 * r + 2 + 4 * 0 + 2) = 0)
theorem tOf_n {v : Nat → Nat} (hok : OkN v) {r code : Nat} (hb : bOk v r code = true) {t : Nat} (ht : t < 9) (h : t < 6 → t < v 0) : tOf (bnd code) t < v 0 := by
  unfold tOf
  split
  · exact h (by assumption)
  · have h1 := of_decide_eq_true ((andN_iff _ 3).mp hb (t - 6) (by omega))
    have h2 : bLim v r (t - 6) ≤ v 0 := by
      unfold bLim
      split
      · exact Nat.le_refl _
      · exact hok.1
    exact Nat.lt_of_lt_of_le h1 h2
theorem mdl_VF {v : Nat → Nat} (hok : OkN v) (hs : (strF v).2.2 = true) (hB : VB v) (hH : VH v) {f : Nat} (hf : f < 216) (hm : ¬ (mdl0 v).1 f < 0) : VF v f := by
  rcases (mdl_MR v).1 f with q | ⟨k, hk, q⟩
  · rw [q] at hm
    exact absurd (by decide) hm
  · obtain ⟨j1, j2⟩ := mdl_MJ hok hs f hf k hk q
    rcases Nat.eq_zero_or_pos k with hk0 | hk0
    · obtain ⟨j, hj, rfl⟩ := j1 hk0
      exact hB j hj
    · obtain ⟨r, code, hr, hc, hb, -, rfl, -⟩ := j2 hk0
      obtain ⟨v1, v2, v3⟩ := hH r hr
      obtain ⟨o1, o2, o3, -⟩ := (hok.2.2.2.2.2.2 r hr).2.2.2.2 0 (Nat.zero_le _)
      refine ⟨v (45 + 18 * r + 2 + 4 * 0), _, _, o1, tOf_n hok hb o2 v1, tOf_n hok hb o3 v2, fun e => ?_, rfl⟩
      rw [v3 e]
      rfl
/-- a count of places -/
def htN (T : Nat → Nat) (n pl : Nat) (i : Nat) : Nat := itN (fun i s => s + (if 0 < i % n ∧ pl = 1 then 0 else T (6 * (i / n) + i % n))) 0 i
theorem cnt_sum (m : Nat → Int32) (lo : Nat) : ∀ n, cntM m lo n = sumN (fun k => if m (lo + k) < 0 then 0 else 1) n
  | 0 => rfl
  | n + 1 => by
    show cntM m lo n + (if m (lo + n) < 0 then 0 else 1) = sumN (fun k => if m (lo + k) < 0 then 0 else 1) n + (if m (lo + n) < 0 then 0 else 1)
    rw [cnt_sum m lo n]
theorem sum36 (T : Nat → Nat) : sumN T 36 = 0 + T 0 + T 1 + T 2 + T 3 + T 4 + T 5 + T 6 + T 7 + T 8 + T 9 + T 10 + T 11 + T 12 + T 13 + T 14 + T 15 + T 16 + T 17 + T 18 + T 19 + T 20 + T 21 + T 22 + T 23 + T 24 + T 25 + T 26 + T 27 + T 28 + T 29 + T 30 + T 31 + T 32 + T 33 + T 34 + T 35 := rfl
theorem ht11 (T : Nat → Nat) : htN T 1 1 1 = 0 + T 0 := rfl
theorem hs11 {T : Nat → Nat} (h : ∀ k, k < 36 → (∀ a b, a < 1 → b < 1 → (1 = 1 → b = 0) → k ≠ 6 * a + b) → T k = 0) : htN T 1 1 1 = sumN T 36 := by
  have e1 : T 1 = 0 := h 1 (by omega) (fun a b ha hb hc => by omega)
  have e2 : T 2 = 0 := h 2 (by omega) (fun a b ha hb hc => by omega)
  have e3 : T 3 = 0 := h 3 (by omega) (fun a b ha hb hc => by omega)
  have e4 : T 4 = 0 := h 4 (by omega) (fun a b ha hb hc => by omega)
  have e5 : T 5 = 0 := h 5 (by omega) (fun a b ha hb hc => by omega)
  have e6 : T 6 = 0 := h 6 (by omega) (fun a b ha hb hc => by omega)
  have e7 : T 7 = 0 := h 7 (by omega) (fun a b ha hb hc => by omega)
  have e8 : T 8 = 0 := h 8 (by omega) (fun a b ha hb hc => by omega)
  have e9 : T 9 = 0 := h 9 (by omega) (fun a b ha hb hc => by omega)
  have e10 : T 10 = 0 := h 10 (by omega) (fun a b ha hb hc => by omega)
  have e11 : T 11 = 0 := h 11 (by omega) (fun a b ha hb hc => by omega)
  have e12 : T 12 = 0 := h 12 (by omega) (fun a b ha hb hc => by omega)
  have e13 : T 13 = 0 := h 13 (by omega) (fun a b ha hb hc => by omega)
  have e14 : T 14 = 0 := h 14 (by omega) (fun a b ha hb hc => by omega)
  have e15 : T 15 = 0 := h 15 (by omega) (fun a b ha hb hc => by omega)
  have e16 : T 16 = 0 := h 16 (by omega) (fun a b ha hb hc => by omega)
  have e17 : T 17 = 0 := h 17 (by omega) (fun a b ha hb hc => by omega)
  have e18 : T 18 = 0 := h 18 (by omega) (fun a b ha hb hc => by omega)
  have e19 : T 19 = 0 := h 19 (by omega) (fun a b ha hb hc => by omega)
  have e20 : T 20 = 0 := h 20 (by omega) (fun a b ha hb hc => by omega)
  have e21 : T 21 = 0 := h 21 (by omega) (fun a b ha hb hc => by omega)
  have e22 : T 22 = 0 := h 22 (by omega) (fun a b ha hb hc => by omega)
  have e23 : T 23 = 0 := h 23 (by omega) (fun a b ha hb hc => by omega)
  have e24 : T 24 = 0 := h 24 (by omega) (fun a b ha hb hc => by omega)
  have e25 : T 25 = 0 := h 25 (by omega) (fun a b ha hb hc => by omega)
  have e26 : T 26 = 0 := h 26 (by omega) (fun a b ha hb hc => by omega)
  have e27 : T 27 = 0 := h 27 (by omega) (fun a b ha hb hc => by omega)
  have e28 : T 28 = 0 := h 28 (by omega) (fun a b ha hb hc => by omega)
  have e29 : T 29 = 0 := h 29 (by omega) (fun a b ha hb hc => by omega)
  have e30 : T 30 = 0 := h 30 (by omega) (fun a b ha hb hc => by omega)
  have e31 : T 31 = 0 := h 31 (by omega) (fun a b ha hb hc => by omega)
  have e32 : T 32 = 0 := h 32 (by omega) (fun a b ha hb hc => by omega)
  have e33 : T 33 = 0 := h 33 (by omega) (fun a b ha hb hc => by omega)
  have e34 : T 34 = 0 := h 34 (by omega) (fun a b ha hb hc => by omega)
  have e35 : T 35 = 0 := h 35 (by omega) (fun a b ha hb hc => by omega)
  rw [ht11, sum36, e1, e2, e3, e4, e5, e6, e7, e8, e9, e10, e11, e12, e13, e14, e15, e16, e17, e18, e19, e20, e21, e22, e23, e24, e25, e26, e27, e28, e29, e30, e31, e32, e33, e34, e35]
  all_goals omega
theorem ht12 (T : Nat → Nat) : htN T 1 2 1 = 0 + T 0 := rfl
theorem hs12 {T : Nat → Nat} (h : ∀ k, k < 36 → (∀ a b, a < 1 → b < 1 → (2 = 1 → b = 0) → k ≠ 6 * a + b) → T k = 0) : htN T 1 2 1 = sumN T 36 := by
  have e1 : T 1 = 0 := h 1 (by omega) (fun a b ha hb hc => by omega)
  have e2 : T 2 = 0 := h 2 (by omega) (fun a b ha hb hc => by omega)
  have e3 : T 3 = 0 := h 3 (by omega) (fun a b ha hb hc => by omega)
  have e4 : T 4 = 0 := h 4 (by omega) (fun a b ha hb hc => by omega)
  have e5 : T 5 = 0 := h 5 (by omega) (fun a b ha hb hc => by omega)
  have e6 : T 6 = 0 := h 6 (by omega) (fun a b ha hb hc => by omega)
  have e7 : T 7 = 0 := h 7 (by omega) (fun a b ha hb hc => by omega)
  have e8 : T 8 = 0 := h 8 (by omega) (fun a b ha hb hc => by omega)
  have e9 : T 9 = 0 := h 9 (by omega) (fun a b ha hb hc => by omega)
  have e10 : T 10 = 0 := h 10 (by omega) (fun a b ha hb hc => by omega)
  have e11 : T 11 = 0 := h 11 (by omega) (fun a b ha hb hc => by omega)
  have e12 : T 12 = 0 := h 12 (by omega) (fun a b ha hb hc => by omega)
  have e13 : T 13 = 0 := h 13 (by omega) (fun a b ha hb hc => by omega)
  have e14 : T 14 = 0 := h 14 (by omega) (fun a b ha hb hc => by omega)
  have e15 : T 15 = 0 := h 15 (by omega) (fun a b ha hb hc => by omega)
  have e16 : T 16 = 0 := h 16 (by omega) (fun a b ha hb hc => by omega)
  have e17 : T 17 = 0 := h 17 (by omega) (fun a b ha hb hc => by omega)
  have e18 : T 18 = 0 := h 18 (by omega) (fun a b ha hb hc => by omega)
  have e19 : T 19 = 0 := h 19 (by omega) (fun a b ha hb hc => by omega)
  have e20 : T 20 = 0 := h 20 (by omega) (fun a b ha hb hc => by omega)
  have e21 : T 21 = 0 := h 21 (by omega) (fun a b ha hb hc => by omega)
  have e22 : T 22 = 0 := h 22 (by omega) (fun a b ha hb hc => by omega)
  have e23 : T 23 = 0 := h 23 (by omega) (fun a b ha hb hc => by omega)
  have e24 : T 24 = 0 := h 24 (by omega) (fun a b ha hb hc => by omega)
  have e25 : T 25 = 0 := h 25 (by omega) (fun a b ha hb hc => by omega)
  have e26 : T 26 = 0 := h 26 (by omega) (fun a b ha hb hc => by omega)
  have e27 : T 27 = 0 := h 27 (by omega) (fun a b ha hb hc => by omega)
  have e28 : T 28 = 0 := h 28 (by omega) (fun a b ha hb hc => by omega)
  have e29 : T 29 = 0 := h 29 (by omega) (fun a b ha hb hc => by omega)
  have e30 : T 30 = 0 := h 30 (by omega) (fun a b ha hb hc => by omega)
  have e31 : T 31 = 0 := h 31 (by omega) (fun a b ha hb hc => by omega)
  have e32 : T 32 = 0 := h 32 (by omega) (fun a b ha hb hc => by omega)
  have e33 : T 33 = 0 := h 33 (by omega) (fun a b ha hb hc => by omega)
  have e34 : T 34 = 0 := h 34 (by omega) (fun a b ha hb hc => by omega)
  have e35 : T 35 = 0 := h 35 (by omega) (fun a b ha hb hc => by omega)
  rw [ht12, sum36, e1, e2, e3, e4, e5, e6, e7, e8, e9, e10, e11, e12, e13, e14, e15, e16, e17, e18, e19, e20, e21, e22, e23, e24, e25, e26, e27, e28, e29, e30, e31, e32, e33, e34, e35]
  all_goals omega
theorem ht21 (T : Nat → Nat) : htN T 2 1 4 = 0 + T 0 + 0 + T 6 + 0 := rfl
theorem hs21 {T : Nat → Nat} (h : ∀ k, k < 36 → (∀ a b, a < 2 → b < 2 → (1 = 1 → b = 0) → k ≠ 6 * a + b) → T k = 0) : htN T 2 1 4 = sumN T 36 := by
  have e1 : T 1 = 0 := h 1 (by omega) (fun a b ha hb hc => by omega)
  have e2 : T 2 = 0 := h 2 (by omega) (fun a b ha hb hc => by omega)
  have e3 : T 3 = 0 := h 3 (by omega) (fun a b ha hb hc => by omega)
  have e4 : T 4 = 0 := h 4 (by omega) (fun a b ha hb hc => by omega)
  have e5 : T 5 = 0 := h 5 (by omega) (fun a b ha hb hc => by omega)
  have e7 : T 7 = 0 := h 7 (by omega) (fun a b ha hb hc => by omega)
  have e8 : T 8 = 0 := h 8 (by omega) (fun a b ha hb hc => by omega)
  have e9 : T 9 = 0 := h 9 (by omega) (fun a b ha hb hc => by omega)
  have e10 : T 10 = 0 := h 10 (by omega) (fun a b ha hb hc => by omega)
  have e11 : T 11 = 0 := h 11 (by omega) (fun a b ha hb hc => by omega)
  have e12 : T 12 = 0 := h 12 (by omega) (fun a b ha hb hc => by omega)
  have e13 : T 13 = 0 := h 13 (by omega) (fun a b ha hb hc => by omega)
  have e14 : T 14 = 0 := h 14 (by omega) (fun a b ha hb hc => by omega)
  have e15 : T 15 = 0 := h 15 (by omega) (fun a b ha hb hc => by omega)
  have e16 : T 16 = 0 := h 16 (by omega) (fun a b ha hb hc => by omega)
  have e17 : T 17 = 0 := h 17 (by omega) (fun a b ha hb hc => by omega)
  have e18 : T 18 = 0 := h 18 (by omega) (fun a b ha hb hc => by omega)
  have e19 : T 19 = 0 := h 19 (by omega) (fun a b ha hb hc => by omega)
  have e20 : T 20 = 0 := h 20 (by omega) (fun a b ha hb hc => by omega)
  have e21 : T 21 = 0 := h 21 (by omega) (fun a b ha hb hc => by omega)
  have e22 : T 22 = 0 := h 22 (by omega) (fun a b ha hb hc => by omega)
  have e23 : T 23 = 0 := h 23 (by omega) (fun a b ha hb hc => by omega)
  have e24 : T 24 = 0 := h 24 (by omega) (fun a b ha hb hc => by omega)
  have e25 : T 25 = 0 := h 25 (by omega) (fun a b ha hb hc => by omega)
  have e26 : T 26 = 0 := h 26 (by omega) (fun a b ha hb hc => by omega)
  have e27 : T 27 = 0 := h 27 (by omega) (fun a b ha hb hc => by omega)
  have e28 : T 28 = 0 := h 28 (by omega) (fun a b ha hb hc => by omega)
  have e29 : T 29 = 0 := h 29 (by omega) (fun a b ha hb hc => by omega)
  have e30 : T 30 = 0 := h 30 (by omega) (fun a b ha hb hc => by omega)
  have e31 : T 31 = 0 := h 31 (by omega) (fun a b ha hb hc => by omega)
  have e32 : T 32 = 0 := h 32 (by omega) (fun a b ha hb hc => by omega)
  have e33 : T 33 = 0 := h 33 (by omega) (fun a b ha hb hc => by omega)
  have e34 : T 34 = 0 := h 34 (by omega) (fun a b ha hb hc => by omega)
  have e35 : T 35 = 0 := h 35 (by omega) (fun a b ha hb hc => by omega)
  rw [ht21, sum36, e1, e2, e3, e4, e5, e7, e8, e9, e10, e11, e12, e13, e14, e15, e16, e17, e18, e19, e20, e21, e22, e23, e24, e25, e26, e27, e28, e29, e30, e31, e32, e33, e34, e35]
  all_goals omega
theorem ht22 (T : Nat → Nat) : htN T 2 2 4 = 0 + T 0 + T 1 + T 6 + T 7 := rfl
theorem hs22 {T : Nat → Nat} (h : ∀ k, k < 36 → (∀ a b, a < 2 → b < 2 → (2 = 1 → b = 0) → k ≠ 6 * a + b) → T k = 0) : htN T 2 2 4 = sumN T 36 := by
  have e2 : T 2 = 0 := h 2 (by omega) (fun a b ha hb hc => by omega)
  have e3 : T 3 = 0 := h 3 (by omega) (fun a b ha hb hc => by omega)
  have e4 : T 4 = 0 := h 4 (by omega) (fun a b ha hb hc => by omega)
  have e5 : T 5 = 0 := h 5 (by omega) (fun a b ha hb hc => by omega)
  have e8 : T 8 = 0 := h 8 (by omega) (fun a b ha hb hc => by omega)
  have e9 : T 9 = 0 := h 9 (by omega) (fun a b ha hb hc => by omega)
  have e10 : T 10 = 0 := h 10 (by omega) (fun a b ha hb hc => by omega)
  have e11 : T 11 = 0 := h 11 (by omega) (fun a b ha hb hc => by omega)
  have e12 : T 12 = 0 := h 12 (by omega) (fun a b ha hb hc => by omega)
  have e13 : T 13 = 0 := h 13 (by omega) (fun a b ha hb hc => by omega)
  have e14 : T 14 = 0 := h 14 (by omega) (fun a b ha hb hc => by omega)
  have e15 : T 15 = 0 := h 15 (by omega) (fun a b ha hb hc => by omega)
  have e16 : T 16 = 0 := h 16 (by omega) (fun a b ha hb hc => by omega)
  have e17 : T 17 = 0 := h 17 (by omega) (fun a b ha hb hc => by omega)
  have e18 : T 18 = 0 := h 18 (by omega) (fun a b ha hb hc => by omega)
  have e19 : T 19 = 0 := h 19 (by omega) (fun a b ha hb hc => by omega)
  have e20 : T 20 = 0 := h 20 (by omega) (fun a b ha hb hc => by omega)
  have e21 : T 21 = 0 := h 21 (by omega) (fun a b ha hb hc => by omega)
  have e22 : T 22 = 0 := h 22 (by omega) (fun a b ha hb hc => by omega)
  have e23 : T 23 = 0 := h 23 (by omega) (fun a b ha hb hc => by omega)
  have e24 : T 24 = 0 := h 24 (by omega) (fun a b ha hb hc => by omega)
  have e25 : T 25 = 0 := h 25 (by omega) (fun a b ha hb hc => by omega)
  have e26 : T 26 = 0 := h 26 (by omega) (fun a b ha hb hc => by omega)
  have e27 : T 27 = 0 := h 27 (by omega) (fun a b ha hb hc => by omega)
  have e28 : T 28 = 0 := h 28 (by omega) (fun a b ha hb hc => by omega)
  have e29 : T 29 = 0 := h 29 (by omega) (fun a b ha hb hc => by omega)
  have e30 : T 30 = 0 := h 30 (by omega) (fun a b ha hb hc => by omega)
  have e31 : T 31 = 0 := h 31 (by omega) (fun a b ha hb hc => by omega)
  have e32 : T 32 = 0 := h 32 (by omega) (fun a b ha hb hc => by omega)
  have e33 : T 33 = 0 := h 33 (by omega) (fun a b ha hb hc => by omega)
  have e34 : T 34 = 0 := h 34 (by omega) (fun a b ha hb hc => by omega)
  have e35 : T 35 = 0 := h 35 (by omega) (fun a b ha hb hc => by omega)
  rw [ht22, sum36, e2, e3, e4, e5, e8, e9, e10, e11, e12, e13, e14, e15, e16, e17, e18, e19, e20, e21, e22, e23, e24, e25, e26, e27, e28, e29, e30, e31, e32, e33, e34, e35]
  all_goals omega
theorem ht31 (T : Nat → Nat) : htN T 3 1 9 = 0 + T 0 + 0 + 0 + T 6 + 0 + 0 + T 12 + 0 + 0 := rfl
theorem hs31 {T : Nat → Nat} (h : ∀ k, k < 36 → (∀ a b, a < 3 → b < 3 → (1 = 1 → b = 0) → k ≠ 6 * a + b) → T k = 0) : htN T 3 1 9 = sumN T 36 := by
  have e1 : T 1 = 0 := h 1 (by omega) (fun a b ha hb hc => by omega)
  have e2 : T 2 = 0 := h 2 (by omega) (fun a b ha hb hc => by omega)
  have e3 : T 3 = 0 := h 3 (by omega) (fun a b ha hb hc => by omega)
  have e4 : T 4 = 0 := h 4 (by omega) (fun a b ha hb hc => by omega)
  have e5 : T 5 = 0 := h 5 (by omega) (fun a b ha hb hc => by omega)
  have e7 : T 7 = 0 := h 7 (by omega) (fun a b ha hb hc => by omega)
  have e8 : T 8 = 0 := h 8 (by omega) (fun a b ha hb hc => by omega)
  have e9 : T 9 = 0 := h 9 (by omega) (fun a b ha hb hc => by omega)
  have e10 : T 10 = 0 := h 10 (by omega) (fun a b ha hb hc => by omega)
  have e11 : T 11 = 0 := h 11 (by omega) (fun a b ha hb hc => by omega)
  have e13 : T 13 = 0 := h 13 (by omega) (fun a b ha hb hc => by omega)
  have e14 : T 14 = 0 := h 14 (by omega) (fun a b ha hb hc => by omega)
  have e15 : T 15 = 0 := h 15 (by omega) (fun a b ha hb hc => by omega)
  have e16 : T 16 = 0 := h 16 (by omega) (fun a b ha hb hc => by omega)
  have e17 : T 17 = 0 := h 17 (by omega) (fun a b ha hb hc => by omega)
  have e18 : T 18 = 0 := h 18 (by omega) (fun a b ha hb hc => by omega)
  have e19 : T 19 = 0 := h 19 (by omega) (fun a b ha hb hc => by omega)
  have e20 : T 20 = 0 := h 20 (by omega) (fun a b ha hb hc => by omega)
  have e21 : T 21 = 0 := h 21 (by omega) (fun a b ha hb hc => by omega)
  have e22 : T 22 = 0 := h 22 (by omega) (fun a b ha hb hc => by omega)
  have e23 : T 23 = 0 := h 23 (by omega) (fun a b ha hb hc => by omega)
  have e24 : T 24 = 0 := h 24 (by omega) (fun a b ha hb hc => by omega)
  have e25 : T 25 = 0 := h 25 (by omega) (fun a b ha hb hc => by omega)
  have e26 : T 26 = 0 := h 26 (by omega) (fun a b ha hb hc => by omega)
  have e27 : T 27 = 0 := h 27 (by omega) (fun a b ha hb hc => by omega)
  have e28 : T 28 = 0 := h 28 (by omega) (fun a b ha hb hc => by omega)
  have e29 : T 29 = 0 := h 29 (by omega) (fun a b ha hb hc => by omega)
  have e30 : T 30 = 0 := h 30 (by omega) (fun a b ha hb hc => by omega)
  have e31 : T 31 = 0 := h 31 (by omega) (fun a b ha hb hc => by omega)
  have e32 : T 32 = 0 := h 32 (by omega) (fun a b ha hb hc => by omega)
  have e33 : T 33 = 0 := h 33 (by omega) (fun a b ha hb hc => by omega)
  have e34 : T 34 = 0 := h 34 (by omega) (fun a b ha hb hc => by omega)
  have e35 : T 35 = 0 := h 35 (by omega) (fun a b ha hb hc => by omega)
  rw [ht31, sum36, e1, e2, e3, e4, e5, e7, e8, e9, e10, e11, e13, e14, e15, e16, e17, e18, e19, e20, e21, e22, e23, e24, e25, e26, e27, e28, e29, e30, e31, e32, e33, e34, e35]
  all_goals omega
theorem ht32 (T : Nat → Nat) : htN T 3 2 9 = 0 + T 0 + T 1 + T 2 + T 6 + T 7 + T 8 + T 12 + T 13 + T 14 := rfl
theorem hs32 {T : Nat → Nat} (h : ∀ k, k < 36 → (∀ a b, a < 3 → b < 3 → (2 = 1 → b = 0) → k ≠ 6 * a + b) → T k = 0) : htN T 3 2 9 = sumN T 36 := by
  have e3 : T 3 = 0 := h 3 (by omega) (fun a b ha hb hc => by omega)
  have e4 : T 4 = 0 := h 4 (by omega) (fun a b ha hb hc => by omega)
  have e5 : T 5 = 0 := h 5 (by omega) (fun a b ha hb hc => by omega)
  have e9 : T 9 = 0 := h 9 (by omega) (fun a b ha hb hc => by omega)
  have e10 : T 10 = 0 := h 10 (by omega) (fun a b ha hb hc => by omega)
  have e11 : T 11 = 0 := h 11 (by omega) (fun a b ha hb hc => by omega)
  have e15 : T 15 = 0 := h 15 (by omega) (fun a b ha hb hc => by omega)
  have e16 : T 16 = 0 := h 16 (by omega) (fun a b ha hb hc => by omega)
  have e17 : T 17 = 0 := h 17 (by omega) (fun a b ha hb hc => by omega)
  have e18 : T 18 = 0 := h 18 (by omega) (fun a b ha hb hc => by omega)
  have e19 : T 19 = 0 := h 19 (by omega) (fun a b ha hb hc => by omega)
  have e20 : T 20 = 0 := h 20 (by omega) (fun a b ha hb hc => by omega)
  have e21 : T 21 = 0 := h 21 (by omega) (fun a b ha hb hc => by omega)
  have e22 : T 22 = 0 := h 22 (by omega) (fun a b ha hb hc => by omega)
  have e23 : T 23 = 0 := h 23 (by omega) (fun a b ha hb hc => by omega)
  have e24 : T 24 = 0 := h 24 (by omega) (fun a b ha hb hc => by omega)
  have e25 : T 25 = 0 := h 25 (by omega) (fun a b ha hb hc => by omega)
  have e26 : T 26 = 0 := h 26 (by omega) (fun a b ha hb hc => by omega)
  have e27 : T 27 = 0 := h 27 (by omega) (fun a b ha hb hc => by omega)
  have e28 : T 28 = 0 := h 28 (by omega) (fun a b ha hb hc => by omega)
  have e29 : T 29 = 0 := h 29 (by omega) (fun a b ha hb hc => by omega)
  have e30 : T 30 = 0 := h 30 (by omega) (fun a b ha hb hc => by omega)
  have e31 : T 31 = 0 := h 31 (by omega) (fun a b ha hb hc => by omega)
  have e32 : T 32 = 0 := h 32 (by omega) (fun a b ha hb hc => by omega)
  have e33 : T 33 = 0 := h 33 (by omega) (fun a b ha hb hc => by omega)
  have e34 : T 34 = 0 := h 34 (by omega) (fun a b ha hb hc => by omega)
  have e35 : T 35 = 0 := h 35 (by omega) (fun a b ha hb hc => by omega)
  rw [ht32, sum36, e3, e4, e5, e9, e10, e11, e15, e16, e17, e18, e19, e20, e21, e22, e23, e24, e25, e26, e27, e28, e29, e30, e31, e32, e33, e34, e35]
  all_goals omega
theorem ht_all {v : Nat → Nat} (hok : OkN v) (h3 : v 0 ≤ 3) {m : Nat → Int32} (hm : ∀ f, f < 216 → ¬ m f < 0 → VF v f) {q : Nat} (hq : q < 6) : htN (fun k => if m (36 * q + k) < 0 then 0 else 1) (v 0) (v (3 + q)) (v 0 * v 0) = cntM m (36 * q) 36 := by
  rw [cnt_sum]
  have hT : ∀ k, k < 36 → (∀ a b, a < v 0 → b < v 0 → (v (3 + q) = 1 → b = 0) → k ≠ 6 * a + b) → (if m (36 * q + k) < 0 then 0 else 1) = 0 := by
    intro k hk hne
    by_cases hneg : m (36 * q + k) < 0
    · exact if_pos hneg
    · obtain ⟨p, a, b, p1, a1, b1, c1, e⟩ := hm _ (by omega) hneg
      have hpq : p = q := by omega
      subst hpq
      exact absurd (show k = 6 * a + b by omega) (hne a b a1 b1 c1)
  have h1 := hok.1
  have hp := hok.2.2.2.2.1 q hq
  generalize v 0 = n at *
  generalize v (3 + q) = pl at *
  rcases (show n = 1 ∨ n = 2 ∨ n = 3 by omega) with rfl | rfl | rfl
  · rcases hp with rfl | rfl
    · exact hs11 hT
    · exact hs12 hT
  · rcases hp with rfl | rfl
    · exact hs21 hT
    · exact hs22 hT
  · rcases hp with rfl | rfl
    · exact hs31 hT
    · exact hs32 hT
theorem cnt_six (m : Nat → Int32) : cntM m 0 216 = sumN (fun q => cntM m (36 * q) 36) 6 := by
  have e1 : cntM m 0 216 = cntM m 0 180 + cntM m 180 36 := cntM_add m 0 180 36
  have e2 : cntM m 0 180 = cntM m 0 144 + cntM m 144 36 := cntM_add m 0 144 36
  have e3 : cntM m 0 144 = cntM m 0 108 + cntM m 108 36 := cntM_add m 0 108 36
  have e4 : cntM m 0 108 = cntM m 0 72 + cntM m 72 36 := cntM_add m 0 72 36
  have e5 : cntM m 0 72 = cntM m 0 36 + cntM m 36 36 := cntM_add m 0 36 36
  have e0 : sumN (fun q => cntM m (36 * q) 36) 6 = 0 + cntM m 0 36 + cntM m 36 36 + cntM m 72 36 + cntM m 108 36 + cntM m 144 36 + cntM m 180 36 := rfl
  rw [e0]
  omega
