/-- strata: (strata, has a pass changed anything, is all below 6) -/
abbrev StS : Type := (Nat → Nat) × Bool × Bool
def strA (v : Nat → Nat) (r a : Nat) (S : StS) : StS :=
  if S.1 (v (45 + 18 * r + 2 + 4 * 0)) < S.1 (v (45 + 18 * r + 2 + 4 * (a + 1))) + v (45 + 18 * r + 2 + 4 * (a + 1) + 3) then
    (updN S.1 (v (45 + 18 * r + 2 + 4 * 0)) (S.1 (v (45 + 18 * r + 2 + 4 * (a + 1))) + v (45 + 18 * r + 2 + 4 * (a + 1) + 3)), true, S.2.2 && decide (S.1 (v (45 + 18 * r + 2 + 4 * (a + 1))) + v (45 + 18 * r + 2 + 4 * (a + 1) + 3) < 6))
  else S
def strR (v : Nat → Nat) (r : Nat) (S : StS) : StS := itN (strA v r) S (v (45 + 18 * r + 1))
def strP (v : Nat → Nat) (S : StS) : StS := itN (strR v) (S.1, false, S.2.2) (v 2)
def strW (v : Nat → Nat) (S : StS) : StS := if S.2.1 && S.2.2 then strP v S else S
def strF (v : Nat → Nat) : StS := itN (fun _ => strW v) (fun _ => 0, true, true) 40
def sumN (f : Nat → Nat) : Nat → Nat
  | 0 => 0
  | k + 1 => sumN f k + f k
theorem sumN_upd (f : Nat → Nat) (k x : Nat) : ∀ n, k < n → sumN (updN f k x) n + f k = sumN f n + x
  | 0, h => absurd h (Nat.not_lt_zero _)
  | n + 1, h => by
    simp only [sumN]
    by_cases e : k = n
    · subst e
      have h1 : sumN (updN f k x) k = sumN f k := by
        have : ∀ m, m ≤ k → sumN (updN f k x) m = sumN f m := by
          intro m
          induction m with
          | zero => intro _; rfl
          | succ m ih =>
            intro hm
            simp only [sumN]
            rw [ih (by omega), updN_ne _ _ (by omega)]
        exact this k (Nat.le_refl _)
      rw [h1, updN_same]
      omega
    · have := sumN_upd f k x n (by omega)
      rw [updN_ne _ _ (show n ≠ k by omega)]
      omega
theorem sumN_lt {f : Nat → Nat} {c : Nat} : ∀ n, (∀ k, k < n → f k ≤ c) → sumN f n ≤ n * c
  | 0, _ => Nat.zero_le _
  | n + 1, h => by
    have h1 := sumN_lt n (fun k hk => h k (by omega))
    have h2 := h n (by omega)
    simp only [sumN]
    rw [Nat.succ_mul]
    omega
/-- behind a part of a pass that began with s0 in all and values up to c -/
def StI (s0 : Nat) (b : Bool) (S : StS) : Prop := s0 ≤ sumN S.1 6 ∧ (S.2.1 = true → s0 + 1 ≤ sumN S.1 6) ∧ (S.2.2 = true → ∀ p, p < 6 → S.1 p < 6) ∧ (S.2.2 = true → b = true)
theorem strA_I {v : Nat → Nat} (hok : OkN v) {r a s0 : Nat} {b : Bool} (hr : r < v 2) (ha : a < v (45 + 18 * r + 1)) {S : StS} (h : StI s0 b S) : StI s0 b (strA v r a S) := by
  obtain ⟨-, -, -, -, hat⟩ := hok.2.2.2.2.2.2 r hr
  have h0 := (hat 0 (by omega)).1
  unfold strA
  split
  · rename_i hlt
    obtain ⟨h1, h2, h3, h4⟩ := h
    have h5 := sumN_upd S.1 (v (45 + 18 * r + 2 + 4 * 0)) (S.1 (v (45 + 18 * r + 2 + 4 * (a + 1))) + v (45 + 18 * r + 2 + 4 * (a + 1) + 3)) 6 h0
    refine ⟨by show s0 ≤ sumN (updN _ _ _) 6; omega, fun _ => by show s0 + 1 ≤ sumN (updN _ _ _) 6; omega, fun hb p hp => ?_, fun hb => ?_⟩
    · have hb : (S.2.2 && decide (S.1 (v (45 + 18 * r + 2 + 4 * (a + 1))) + v (45 + 18 * r + 2 + 4 * (a + 1) + 3) < 6)) = true := hb
      rw [Bool.and_eq_true] at hb
      show updN _ _ _ p < 6
      unfold updN
      split
      · exact of_decide_eq_true hb.2
      · exact h3 hb.1 p hp
    · have hb : (S.2.2 && decide (S.1 (v (45 + 18 * r + 2 + 4 * (a + 1))) + v (45 + 18 * r + 2 + 4 * (a + 1) + 3) < 6)) = true := hb
      rw [Bool.and_eq_true] at hb
      exact h4 hb.1
  · exact h
theorem strR_I {v : Nat → Nat} (hok : OkN v) {r s0 : Nat} {b : Bool} (hr : r < v 2) {S : StS} (h : StI s0 b S) : StI s0 b (strR v r S) :=
  itN_inv (P := StI s0 b) (N := v (45 + 18 * r + 1)) (fun a ha S hS => strA_I hok hr ha hS) _ (Nat.le_refl _) h
theorem strP_I {v : Nat → Nat} (hok : OkN v) {S : StS} (h : ∀ p, p < 6 → S.1 p < 6) (hi : S.2.2 = true) : StI (sumN S.1 6) true (strP v S) :=
  itN_inv (P := StI (sumN S.1 6) true) (N := v 2) (fun r hr S hS => strR_I hok hr hS) _ (Nat.le_refl _) ⟨Nat.le_refl _, fun q => absurd (show false = true from q) (by decide), fun _ => h, fun _ => rfl⟩
/-- what holds at the while's head -/
def StJ (k : Nat) (S : StS) : Prop := (S.2.2 = true → ∀ p, p < 6 → S.1 p < 6) ∧ ((S.2.1 && S.2.2) = true → k ≤ sumN S.1 6)
theorem strW_J {v : Nat → Nat} (hok : OkN v) {k : Nat} {S : StS} (h : StJ k S) : StJ (k + 1) (strW v S) := by
  unfold strW
  split
  · rename_i hc
    have hc2 := hc
    rw [Bool.and_eq_true] at hc
    have h1 := strP_I hok (h.1 hc.2) hc.2
    have h2 := h.2 hc2
    refine ⟨h1.2.2.1, fun hd => ?_⟩
    rw [Bool.and_eq_true] at hd
    have := h1.2.1 hd.1
    omega
  · rename_i hc
    exact ⟨h.1, fun hd => absurd hd hc⟩
theorem strI_J {v : Nat → Nat} (hok : OkN v) : ∀ k, StJ k (itN (fun _ => strW v) (fun _ => 0, true, true) k)
  | 0 => ⟨fun _ p _ => by show 0 < 6; omega, fun _ => Nat.zero_le _⟩
  | k + 1 => strW_J hok (strI_J hok k)
theorem strF_end {v : Nat → Nat} (hok : OkN v) {k : Nat} (hk : 31 ≤ k) : ((itN (fun _ => strW v) (fun _ => 0, true, true) k).2.1 && (itN (fun _ => strW v) (fun _ => 0, true, true) k).2.2) = false := by
  have h := strI_J hok k
  cases hc : ((itN (fun _ => strW v) (fun _ => 0, true, true) k).2.1 && (itN (fun _ => strW v) (fun _ => 0, true, true) k).2.2)
  · rfl
  · have h1 := h.2 hc
    rw [Bool.and_eq_true] at hc
    have h2 := sumN_lt (c := 5) 6 (fun p hp => Nat.le_of_lt_succ (h.1 hc.2 p hp))
    omega
theorem strF_stay {v : Nat → Nat} {k : Nat} (hk : k ≤ 40) (h : ((itN (fun _ => strW v) (fun _ => 0, true, true) k).2.1 && (itN (fun _ => strW v) (fun _ => 0, true, true) k).2.2) = false) : strF v = itN (fun _ => strW v) (fun _ => 0, true, true) k :=
  itN_stay hk (by
    generalize hS : itN (fun _ => strW v) (fun _ => 0, true, true) k = S at h ⊢
    show strW v S = S
    unfold strW
    rw [h]
    rfl)
/-- no value passes 6 + steps done -/
def StB (c : Nat) (S : StS) : Prop := ∀ p, p < 6 → S.1 p ≤ c
theorem strA_B {v : Nat → Nat} (hok : OkN v) {r a c : Nat} (hr : r < v 2) (ha : a < v (45 + 18 * r + 1)) {S : StS} (h : StB c S) : StB (c + 1) (strA v r a S) := by
  obtain ⟨-, -, -, -, hat⟩ := hok.2.2.2.2.2.2 r hr
  obtain ⟨h1, -, -, h4⟩ := hat (a + 1) (by omega)
  unfold strA
  split
  · intro p hp
    show updN _ _ _ p ≤ c + 1
    unfold updN
    split
    · have := h _ h1
      omega
    · have := h p hp
      omega
  · intro p hp
    have := h p hp
    omega
theorem c_findStrata (d n : Nat) (w : Nat → Int32) (v st0 : Nat → Nat) (h : Nat → MC) (hO : h 178 = RO w) (hv : h 179 = .inl (.int, 189, .inl (vI v))) (hs0 : h 184 = .inl (.int, 6, .inl (vI st0))) (hok : OkN v) : Fn M_X10_findStrata (d + 1) 0 0 [.ref 178] h n (some (.int (bI (strF v).2.2))) (mov [(184, .inl (.int, 6, .inl (vI (strF v).1)))] h) := by
  refine Fn.of fun post hp => ?_
  have hr8 := hok.2.2.2.1
  have loopA : ∀ r, r < v 2 → ∀ (S0 : StS) (c0 : Nat), StB c0 S0 → c0 < 1000 → MW M_X10_findStrata (d + 1) 0 0 n post 37 [(0, .ref 178), (1, .int (bI (strR v r S0).2.1)), (2, .int (bI (strR v r S0).2.2)), (3, .int (nI (r + 1)))] [] (mov [(184, .inl (.int, 6, .inl (vI (strR v r S0).1)))] h) n 0 → ∀ a, a ≤ v (45 + 18 * r + 1) → StB (c0 + a) (itN (strA v r) S0 a) → MW M_X10_findStrata (d + 1) 0 0 n post 62 [(0, .ref 178), (1, .int (bI (itN (strA v r) S0 a).2.1)), (2, .int (bI (itN (strA v r) S0 a).2.2)), (3, .int (nI r)), (4, .int (nI (v (45 + 18 * r + 2 + 4 * 0)))), (5, .int (nI (a + 1)))] [] (mov [(184, .inl (.int, 6, .inl (vI (itN (strA v r) S0 a).1)))] h) n 0 := by
    intro r hr S0 c0 hB0 hc0 k
    obtain ⟨-, -, hl1, hl3, hat⟩ := hok.2.2.2.2.2.2 r hr
    have h0 := (hat 0 (by omega)).1
    refine loop_up (P := fun a => StB (c0 + a) (itN (strA v r) S0 a) → MW M_X10_findStrata (d + 1) 0 0 n post 62 [(0, .ref 178), (1, .int (bI (itN (strA v r) S0 a).2.1)), (2, .int (bI (itN (strA v r) S0 a).2.2)), (3, .int (nI r)), (4, .int (nI (v (45 + 18 * r + 2 + 4 * 0)))), (5, .int (nI (a + 1)))] [] (mov [(184, .inl (.int, 6, .inl (vI (itN (strA v r) S0 a).1)))] h) n 0) (v (45 + 18 * r + 1)) ?_ ?_
    · intro _
      refine mw_iload rfl rfl ?_
      refine mw_aload_n (i := 0) rfl rfl rfl ?_
      refine mw_getfield rfl f_X10_7 (by first | rfl | exact hO | exact hv) rfl ?_
      refine mw_bipush (v := nI 45) rfl (by decide) ?_
      refine mw_bipush (v := nI 18) rfl (by decide) ?_
      refine mw_iload_n (i := 3) rfl rfl rfl ?_
      first | refine mw_nmul rfl ?_ | refine mw_imul rfl ?_
      first | refine mw_nadd rfl ?_ | refine mw_iadd rfl ?_
      refine mw_iconst (v := nI 1) rfl (by decide) ?_
      first | refine mw_nadd rfl ?_ | refine mw_iadd rfl ?_
      refine mw_iald rfl (by first | rfl | exact hO | exact hv) (by omega) (by omega) ?_
      refine mw_n_gt rfl (by omega) (by omega) (fun hc => ?_) (fun hc => ?_)
      · first | refine mw_ninc rfl rfl (Nat.le_of_ble_eq_true rfl) ?_ | refine mw_iinc rfl rfl rfl (Nat.le_of_ble_eq_true rfl) ?_
        refine mw_goto rfl ?_
        exact mw_locals rfl k
      · omega
    · intro a ha ih hB
      obtain ⟨h1, -, -, h4⟩ := hat (a + 1) (by omega)
      have hB2 := strA_B hok hr ha hB
      generalize hS : itN (strA v r) S0 a = S at hB hB2 ⊢
      have eS : itN (strA v r) S0 (a + 1) = strA v r a S := by rw [← hS]; rfl
      rw [eS] at ih
      have ih := ih (by rw [← Nat.add_assoc]; exact hB2)
      have b1 := hB _ h1
      have b0 := hB _ h0
      refine mw_iload rfl rfl ?_
      refine mw_aload_n (i := 0) rfl rfl rfl ?_
      refine mw_getfield rfl f_X10_7 (by first | rfl | exact hO | exact hv) rfl ?_
      refine mw_bipush (v := nI 45) rfl (by decide) ?_
      refine mw_bipush (v := nI 18) rfl (by decide) ?_
      refine mw_iload_n (i := 3) rfl rfl rfl ?_
      first | refine mw_nmul rfl ?_ | refine mw_imul rfl ?_
      first | refine mw_nadd rfl ?_ | refine mw_iadd rfl ?_
      refine mw_iconst (v := nI 1) rfl (by decide) ?_
      first | refine mw_nadd rfl ?_ | refine mw_iadd rfl ?_
      refine mw_iald rfl (by first | rfl | exact hO | exact hv) (by omega) (by omega) ?_
      refine mw_n_gt rfl (by omega) (by omega) (fun hc => ?_) (fun hc => ?_)
      · omega
      · refine mw_aload_n (i := 0) rfl rfl rfl ?_
        refine mw_getfield rfl f_X10_26 (by first | rfl | exact hO | exact hv) rfl ?_
        refine mw_aload_n (i := 0) rfl rfl rfl ?_
        refine mw_getfield rfl f_X10_7 (by first | rfl | exact hO | exact hv) rfl ?_
        refine mw_iload_n (i := 3) rfl rfl rfl ?_
        refine mw_iload rfl rfl ?_
        refine mw_callS_f (c_atomAt d n r (a + 1) _) rfl ok_X10_atomAt v_X10_88 rfl (Nat.le_of_ble_eq_true rfl) rfl (Nat.le_of_ble_eq_true rfl) (by omega) (by omega) (by omega) ?_
        refine mw_iald rfl (by first | rfl | exact hO | exact hv) (by omega) (by omega) ?_
        refine mw_iald rfl (by first | rfl | exact hO | exact hv) (by omega) (by omega) ?_
        refine mw_aload_n (i := 0) rfl rfl rfl ?_
        refine mw_getfield rfl f_X10_7 (by first | rfl | exact hO | exact hv) rfl ?_
        refine mw_iload_n (i := 3) rfl rfl rfl ?_
        refine mw_iload rfl rfl ?_
        refine mw_callS_f (c_atomAt d n r (a + 1) _) rfl ok_X10_atomAt v_X10_88 rfl (Nat.le_of_ble_eq_true rfl) rfl (Nat.le_of_ble_eq_true rfl) (by omega) (by omega) (by omega) ?_
        refine mw_iconst (v := nI 3) rfl (by decide) ?_
        first | refine mw_nadd rfl ?_ | refine mw_iadd rfl ?_
        refine mw_iald rfl (by first | rfl | exact hO | exact hv) (by omega) (by omega) ?_
        first | refine mw_nadd rfl ?_ | refine mw_iadd rfl ?_
        refine mw_istore rfl (Nat.le_of_ble_eq_true rfl) ?_
        refine mw_aload_n (i := 0) rfl rfl rfl ?_
        refine mw_getfield rfl f_X10_26 (by first | rfl | exact hO | exact hv) rfl ?_
        refine mw_iload rfl rfl ?_
        refine mw_iald rfl (by first | rfl | exact hO | exact hv) (by omega) (by omega) ?_
        refine mw_iload rfl rfl ?_
        refine mw_n_ge rfl (by omega) (by omega) (fun hlt => ?_) (fun hlt => ?_)
        · rw [show strA v r a S = S by unfold strA; rw [if_neg (by omega)]] at ih
          first | refine mw_ninc rfl rfl (Nat.le_of_ble_eq_true rfl) ?_ | refine mw_iinc rfl rfl rfl (Nat.le_of_ble_eq_true rfl) ?_
          refine mw_goto rfl ?_
          exact mw_locals rfl ih
        · rw [show strA v r a S = (updN S.1 (v (45 + 18 * r + 2 + 4 * 0)) (S.1 (v (45 + 18 * r + 2 + 4 * (a + 1))) + v (45 + 18 * r + 2 + 4 * (a + 1) + 3)), true, S.2.2 && decide (S.1 (v (45 + 18 * r + 2 + 4 * (a + 1))) + v (45 + 18 * r + 2 + 4 * (a + 1) + 3) < 6)) by unfold strA; rw [if_pos (by omega)]] at ih
          refine mw_aload_n (i := 0) rfl rfl rfl ?_
          refine mw_getfield rfl f_X10_26 (by first | rfl | exact hO | exact hv) rfl ?_
          refine mw_iload rfl rfl ?_
          refine mw_iload rfl rfl ?_
          refine mw_iast_m rfl (by first | rfl | exact hO | exact hv) (by omega) (by omega) ?_
          first | rw [vI_upd] | rw [vI_updv] | skip
          refine mw_iconst (v := nI 1) rfl (by decide) ?_
          refine mw_istore_n (i := 1) rfl rfl (Nat.le_of_ble_eq_true rfl) ?_
          refine mw_iload_n (i := 2) rfl rfl rfl ?_
          refine mw_b_eq rfl (fun his => ?_) (fun his => ?_)
          · rw [his, Bool.false_and] at ih
            refine mw_iconst (v := nI 0) rfl (by decide) ?_
            refine mw_istore_n (i := 2) rfl rfl (Nat.le_of_ble_eq_true rfl) ?_
            first | refine mw_ninc rfl rfl (Nat.le_of_ble_eq_true rfl) ?_ | refine mw_iinc rfl rfl rfl (Nat.le_of_ble_eq_true rfl) ?_
            refine mw_goto rfl ?_
            exact mw_locals rfl ih
          · rw [his, Bool.true_and] at ih
            refine mw_iload rfl rfl ?_
            refine mw_bipush (v := nI 6) rfl (by decide) ?_
            refine mw_n_ge rfl (by omega) (by omega) (fun h6 => ?_) (fun h6 => ?_)
            · rw [decide_eq_false (by omega)] at ih
              refine mw_iconst (v := nI 0) rfl (by decide) ?_
              refine mw_istore_n (i := 2) rfl rfl (Nat.le_of_ble_eq_true rfl) ?_
              first | refine mw_ninc rfl rfl (Nat.le_of_ble_eq_true rfl) ?_ | refine mw_iinc rfl rfl rfl (Nat.le_of_ble_eq_true rfl) ?_
              refine mw_goto rfl ?_
              exact mw_locals rfl ih
            · rw [decide_eq_true h6] at ih
              refine mw_iconst (v := nI 1) rfl (by decide) ?_
              refine mw_goto rfl ?_
              refine mw_istore_n (i := 2) rfl rfl (Nat.le_of_ble_eq_true rfl) ?_
              first | refine mw_ninc rfl rfl (Nat.le_of_ble_eq_true rfl) ?_ | refine mw_iinc rfl rfl rfl (Nat.le_of_ble_eq_true rfl) ?_
              refine mw_goto rfl ?_
              exact mw_locals rfl ih
  have loopR : ∀ (S : StS), StB 5 S → MW M_X10_findStrata (d + 1) 0 0 n post 25 [(0, .ref 178), (1, .int (bI (strP v S).2.1)), (2, .int (bI (strP v S).2.2))] [] (mov [(184, .inl (.int, 6, .inl (vI (strP v S).1)))] h) n 0 → ∀ r, r ≤ v 2 → StB (5 + 3 * r) (itN (strR v) (S.1, false, S.2.2) r) → MW M_X10_findStrata (d + 1) 0 0 n post 37 [(0, .ref 178), (1, .int (bI (itN (strR v) (S.1, false, S.2.2) r).2.1)), (2, .int (bI (itN (strR v) (S.1, false, S.2.2) r).2.2)), (3, .int (nI r))] [] (mov [(184, .inl (.int, 6, .inl (vI (itN (strR v) (S.1, false, S.2.2) r).1)))] h) n 0 := by
    intro S hS k
    refine loop_up (P := fun r => StB (5 + 3 * r) (itN (strR v) (S.1, false, S.2.2) r) → MW M_X10_findStrata (d + 1) 0 0 n post 37 [(0, .ref 178), (1, .int (bI (itN (strR v) (S.1, false, S.2.2) r).2.1)), (2, .int (bI (itN (strR v) (S.1, false, S.2.2) r).2.2)), (3, .int (nI r))] [] (mov [(184, .inl (.int, 6, .inl (vI (itN (strR v) (S.1, false, S.2.2) r).1)))] h) n 0) (v 2) ?_ ?_
    · intro _
      refine mw_iload_n (i := 3) rfl rfl rfl ?_
      refine mw_aload_n (i := 0) rfl rfl rfl ?_
      refine mw_getfield rfl f_X10_7 (by first | rfl | exact hO | exact hv) rfl ?_
      refine mw_iconst (v := nI 2) rfl (by decide) ?_
      refine mw_iald rfl (by first | rfl | exact hO | exact hv) (by omega) (by omega) ?_
      refine mw_n_ge rfl (by omega) (by omega) (fun hc => ?_) (fun hc => ?_)
      · refine mw_goto rfl ?_
        exact mw_locals rfl k
      · omega
    · intro r hr ih hB
      obtain ⟨-, -, hl1, hl3, hat⟩ := hok.2.2.2.2.2.2 r hr
      have h0 := (hat 0 (by omega)).1
      generalize hT : itN (strR v) (S.1, false, S.2.2) r = T at hB ⊢
      have eT : itN (strR v) (S.1, false, S.2.2) (r + 1) = strR v r T := by rw [← hT]; rfl
      rw [eT] at ih
      have hBa : ∀ a, a ≤ v (45 + 18 * r + 1) → StB (5 + 3 * r + a) (itN (strA v r) T a) := by
        intro a
        induction a with
        | zero => intro _; exact hB
        | succ a iha => intro ha; exact strA_B hok hr (by omega) (iha (by omega))
      have hBe : StB (5 + 3 * (r + 1)) (strR v r T) := fun p hp => by
        have := hBa _ (Nat.le_refl _) p hp
        show (itN (strA v r) T (v (45 + 18 * r + 1))).1 p ≤ _
        omega
      refine mw_iload_n (i := 3) rfl rfl rfl ?_
      refine mw_aload_n (i := 0) rfl rfl rfl ?_
      refine mw_getfield rfl f_X10_7 (by first | rfl | exact hO | exact hv) rfl ?_
      refine mw_iconst (v := nI 2) rfl (by decide) ?_
      refine mw_iald rfl (by first | rfl | exact hO | exact hv) (by omega) (by omega) ?_
      refine mw_n_ge rfl (by omega) (by omega) (fun hc => ?_) (fun hc => ?_)
      · omega
      · refine mw_aload_n (i := 0) rfl rfl rfl ?_
        refine mw_getfield rfl f_X10_7 (by first | rfl | exact hO | exact hv) rfl ?_
        refine mw_iload_n (i := 3) rfl rfl rfl ?_
        refine mw_iconst (v := nI 0) rfl (by decide) ?_
        refine mw_callS_f (c_atomAt d n r 0 _) rfl ok_X10_atomAt v_X10_88 rfl (Nat.le_of_ble_eq_true rfl) rfl (Nat.le_of_ble_eq_true rfl) (by omega) (by omega) (by omega) ?_
        refine mw_iald rfl (by first | rfl | exact hO | exact hv) (by omega) (by omega) ?_
        refine mw_istore rfl (Nat.le_of_ble_eq_true rfl) ?_
        refine mw_iconst (v := nI 1) rfl (by decide) ?_
        refine mw_istore rfl (Nat.le_of_ble_eq_true rfl) ?_
        refine mw_locals rfl (loopA r hr T (5 + 3 * r) hB (by omega) (ih hBe) 0 (by omega) hB)
  have loopW : ∀ k, k ≤ 40 → MW M_X10_findStrata (d + 1) 0 0 n post 25 [(0, .ref 178), (1, .int (bI (itN (fun _ => strW v) (fun _ => 0, true, true) k).2.1)), (2, .int (bI (itN (fun _ => strW v) (fun _ => 0, true, true) k).2.2))] [] (mov [(184, .inl (.int, 6, .inl (vI (itN (fun _ => strW v) (fun _ => 0, true, true) k).1)))] h) n 0 := by
    have hend : ∀ k, k ≤ 40 → ((itN (fun _ => strW v) (fun _ => 0, true, true) k).2.1 && (itN (fun _ => strW v) (fun _ => 0, true, true) k).2.2) = false → MW M_X10_findStrata (d + 1) 0 0 n post 25 [(0, .ref 178), (1, .int (bI (itN (fun _ => strW v) (fun _ => 0, true, true) k).2.1)), (2, .int (bI (itN (fun _ => strW v) (fun _ => 0, true, true) k).2.2))] [] (mov [(184, .inl (.int, 6, .inl (vI (itN (fun _ => strW v) (fun _ => 0, true, true) k).1)))] h) n 0 := by
      intro k hk h1
      rw [strF_stay hk h1] at hp
      generalize itN (fun _ => strW v) (fun _ => 0, true, true) k = S at h1 hp ⊢
      refine mw_iload_n (i := 1) rfl rfl rfl ?_
      refine mw_b_eq rfl (fun hc1 => ?_) (fun hc1 => ?_)
      · refine mw_iload_n (i := 2) rfl rfl rfl ?_
        first | exact mw_ireturn rfl rfl (bI_nar _) rfl (Nat.le_refl _) (hp) | exact mw_ireturn rfl rfl rfl rfl (Nat.le_refl _) (hp)
      · refine mw_iload_n (i := 2) rfl rfl rfl ?_
        refine mw_b_eq rfl (fun hc2 => ?_) (fun hc2 => ?_)
        · refine mw_iload_n (i := 2) rfl rfl rfl ?_
          first | exact mw_ireturn rfl rfl (bI_nar _) rfl (Nat.le_refl _) (hp) | exact mw_ireturn rfl rfl rfl rfl (Nat.le_refl _) (hp)
        · rw [hc1, hc2] at h1
          cases h1
    refine loop_up 40 (hend 40 (Nat.le_refl _) (strF_end hok (by omega))) ?_
    intro k hk ih
    have hJ := strI_J hok k
    by_cases h1 : ((itN (fun _ => strW v) (fun _ => 0, true, true) k).2.1 && (itN (fun _ => strW v) (fun _ => 0, true, true) k).2.2) = true
    · generalize hS : itN (fun _ => strW v) (fun _ => 0, true, true) k = S at h1 hJ ⊢
      have eS : itN (fun _ => strW v) (fun _ => 0, true, true) (k + 1) = strP v S := by
        show strW v (itN (fun _ => strW v) (fun _ => 0, true, true) k) = _
        rw [hS]
        unfold strW
        rw [if_pos h1]
      rw [eS] at ih
      rw [Bool.and_eq_true] at h1
      have hB : StB 5 S := fun p hp => Nat.le_of_lt_succ (hJ.1 h1.2 p hp)
      refine mw_iload_n (i := 1) rfl rfl rfl ?_
      refine mw_b_eq rfl (fun hc1 => ?_) (fun hc1 => ?_)
      · rw [hc1] at h1; cases h1.1
      · refine mw_iload_n (i := 2) rfl rfl rfl ?_
        refine mw_b_eq rfl (fun hc2 => ?_) (fun hc2 => ?_)
        · rw [hc2] at h1; cases h1.2
        · refine mw_iconst (v := nI 0) rfl (by decide) ?_
          refine mw_istore_n (i := 1) rfl rfl (Nat.le_of_ble_eq_true rfl) ?_
          refine mw_iconst (v := nI 0) rfl (by decide) ?_
          refine mw_istore_n (i := 3) rfl rfl (Nat.le_of_ble_eq_true rfl) ?_
          exact mw_locals rfl (loopR S hB ih 0 (by omega) hB)
    · exact hend k (by omega) (by simpa using h1)
  have loop0 : ∀ j, j ≤ 6 → MW M_X10_findStrata (d + 1) 0 0 n post 2 [(0, .ref 178), (1, .int (nI j))] [] (mov [(184, .inl (.int, 6, .inl (vI (fun i => if i < j ∨ 6 ≤ i then 0 else st0 i))))] h) n 0 := by
    refine loop_up 6 ?_ ?_
    · refine mw_iload_n (i := 1) rfl rfl rfl ?_
      refine mw_bipush (v := nI 6) rfl (by decide) ?_
      refine mw_n_ge rfl (by omega) (by omega) (fun hc => ?_) (fun hc => ?_)
      · rw [show (fun i => if i < 6 ∨ 6 ≤ i then 0 else st0 i) = (fun _ => 0) by funext i; rw [if_pos (by omega)]]
        refine mw_iconst (v := nI 1) rfl (by decide) ?_
        refine mw_istore_n (i := 1) rfl rfl (Nat.le_of_ble_eq_true rfl) ?_
        refine mw_iconst (v := nI 1) rfl (by decide) ?_
        refine mw_istore_n (i := 2) rfl rfl (Nat.le_of_ble_eq_true rfl) ?_
        exact mw_locals rfl (loopW 0 (by omega))
      · omega
    · intro j hj ih
      refine mw_iload_n (i := 1) rfl rfl rfl ?_
      refine mw_bipush (v := nI 6) rfl (by decide) ?_
      refine mw_n_ge rfl (by omega) (by omega) (fun hc => ?_) (fun hc => ?_)
      · omega
      · refine mw_aload_n (i := 0) rfl rfl rfl ?_
        refine mw_getfield rfl f_X10_26 (by first | rfl | exact hO | exact hv) rfl ?_
        refine mw_iload_n (i := 1) rfl rfl rfl ?_
        refine mw_iconst (v := nI 0) rfl (by decide) ?_
        refine mw_iast_m rfl (by first | rfl | exact hO | exact hv) (by omega) (by omega) ?_
        first | rw [vI_upd] | rw [vI_updv] | skip
        first | refine mw_ninc rfl rfl (Nat.le_of_ble_eq_true rfl) ?_ | refine mw_iinc rfl rfl rfl (Nat.le_of_ble_eq_true rfl) ?_
        refine mw_goto rfl ?_
        refine mw_locals rfl (mw_heap (heap1N fun i => ?_) ih)
        simp only [updN]
        by_cases q : i = j
        · rw [if_pos q, if_pos (by omega)]
        · rw [if_neg q]
          have q3 : (i < j + 1 ∨ 6 ≤ i) ↔ (i < j ∨ 6 ≤ i) := by omega
          simp only [q3]
  refine mw_tail (K := 184) (vI (fun i => if i < 0 ∨ 6 ≤ i then 0 else st0 i)) hs0 (fun j hj => by simp only [vI]; rw [if_neg (by omega)]) ?_
  rw [hset_1]
  refine mw_iconst (v := nI 0) rfl (by decide) ?_
  refine mw_istore_n (i := 1) rfl rfl (Nat.le_of_ble_eq_true rfl) ?_
  exact mw_locals rfl (loop0 0 (by omega))
