/-! NEEDS: a set of no base facts takes nothing away -/
theorem dvB_all {v : Nat → Nat} {y : Int32} (hk : ∀ k, k < v 1 → delB y k = true) : ∀ n, n ≤ v 1 → ∀ k, k < n → itN (dvK v y) (fun _ => false) n (v (9 + 3 * k)) = true
  | 0, _, k, h => absurd h (Nat.not_lt_zero k)
  | n + 1, hn, k, h => by
    show dvK v y n (itN (dvK v y) (fun _ => false) n) (v (9 + 3 * k)) = true
    unfold dvK
    by_cases e : v (9 + 3 * k) = v (9 + 3 * n)
    · rw [e, updN_same, hk n (by omega), Bool.or_true]
    · rw [updN_ne _ _ e]
      have hkn : k ≠ n := fun q => e (by rw [q])
      exact dvB_all hk n (by omega) k (by omega)
theorem E_all {v : Nat → Nat} {E : Int32 → Nat → Bool} (hok : OkN v) (hst : StC v (strF v).1) (hE : DerE v (hoV v) E) {y : Int32} (hk : ∀ k, k < v 1 → delB y k = true) : ∀ f, f < 216 → ¬ (mdl0 v).1 f < 0 → E y f = true := by
  obtain ⟨m, e, hfix⟩ := hE y
  have hb : ∀ k, k < v 1 → E y (v (9 + 3 * k)) = true := fun k h => by
    rw [e]
    exact dvIt_sub m _ (dvB_all hk (v 1) (Nat.le_refl _) k h)
  exact mdl_der (S0 := hoS0) hok hst hb (dvLim_closed (hoV_ok hok) hfix)
theorem del_bit : ∀ i, i < 12 → ∀ k, k < 12 → k ≠ i → delB (nI (2 ^ i)) k = true := by decide +kernel
theorem nd_tail {v : Nat → Nat} {E : Int32 → Nat → Bool} (hok : OkN v) (hst : StC v (strF v).1) (hE : DerE v (hoV v) E) {f : Nat} (hf : f < 216) (hm : ¬ (mdl0 v).1 f < 0) : ∀ n, v 1 + n ≤ 12 → ndA E f (v 1 + n) = ndA E f (v 1)
  | 0, _ => rfl
  | n + 1, hn => by
    have e2 : ndA E f (v 1 + (n + 1)) = ndA E f (v 1 + n) ||| (if E (bitI (v 1 + n)) f then nI 0 else bitI (v 1 + n)) := rfl
    have e3 : E (bitI (v 1 + n)) f = true := E_all hok hst hE (fun k hk => by
      show delB (nI 1 <<< (nI (v 1 + n) &&& 31)) k = true
      rw [bit_nI (v 1 + n) (by omega)]
      exact del_bit _ (by omega) k (by omega) (by omega)) f hf hm
    rw [e2, if_pos e3, nd_tail hok hst hE hf hm n (by omega)]
    exact Int32.or_zero
theorem needs_eq {v : Nat → Nat} {rw' : Nat → Int64} {E : Int32 → Nat → Bool} (hok : OkN v) (hst : StC v (strF v).1) (h : KsOk v (hoV v) smC.2 rw') (hE : DerE v (hoV v) E) {f : Nat} (hf : f < 216) (hm : ¬ (mdl0 v).1 f < 0) : kneV smC.2 rw' f 12 = ndA E f (v 1) := by
  have h12 := hok.2.2.1
  have e := nd_tail hok hst hE hf hm (12 - v 1) (by omega)
  rw [show v 1 + (12 - v 1) = 12 by omega] at e
  rw [← e]
  exact kne_eq h hE hf 12 (Nat.le_refl 12)
