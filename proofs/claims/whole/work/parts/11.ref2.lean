def anyN (f : Nat → Bool) : Nat → Bool
  | 0 => false
  | k + 1 => anyN f k || f k
theorem anyN_iff (f : Nat → Bool) : ∀ n, anyN f n = true ↔ ∃ k, k < n ∧ f k = true
  | 0 => by simp [anyN]
  | n + 1 => by
    simp only [anyN, Bool.or_eq_true, anyN_iff f n]
    constructor
    · rintro (⟨k, h1, h2⟩ | h)
      · exact ⟨k, by omega, h2⟩
      · exact ⟨n, by omega, h⟩
    · rintro ⟨k, h1, h2⟩
      by_cases e : k = n
      · subst e; exact Or.inr h2
      · exact Or.inl ⟨k, by omega, h2⟩
/-- what the kept numbers are: sizes, places, base facts, rules -/
def OkN (v : Nat → Nat) : Prop := 1 ≤ v 0 ∧ v 0 ≤ 6 ∧ v 1 ≤ 12 ∧ v 2 ≤ 8 ∧ (∀ p, p < 6 → v (3 + p) = 1 ∨ v (3 + p) = 2) ∧
  (∀ k, k < v 1 → v (9 + 3 * k) < 216 ∧ v (9 + 3 * k + 1) ≤ 99 ∧ 1 ≤ v (9 + 3 * k + 2) ∧ v (9 + 3 * k + 2) ≤ 16) ∧
  (∀ r, r < v 2 → 1 ≤ v (45 + 18 * r) ∧ v (45 + 18 * r) ≤ 9 ∧ 1 ≤ v (45 + 18 * r + 1) ∧ v (45 + 18 * r + 1) ≤ 3 ∧
    ∀ a, a ≤ v (45 + 18 * r + 1) → v (45 + 18 * r + 2 + 4 * a) < 6 ∧ v (45 + 18 * r + 2 + 4 * a + 1) < 9 ∧ v (45 + 18 * r + 2 + 4 * a + 2) < 9 ∧ v (45 + 18 * r + 2 + 4 * a + 3) ≤ 1)
def usedF (v : Nat → Nat) (p : Nat) (k : Nat) : Bool := decide (v (9 + 3 * k) / 36 = p)
def usedA (v : Nat → Nat) (p r a : Nat) : Bool := decide (v (45 + 18 * r + 2 + 4 * a) = p)
def usedR (v : Nat → Nat) (p r : Nat) : Bool := anyN (usedA v p r) (v (45 + 18 * r + 1) + 1)
def isUsedV (v : Nat → Nat) (p : Nat) : Bool := anyN (usedF v p) (v 1) || anyN (usedR v p) (v 2)
def orN (b : Bool) (f : Nat → Bool) : Nat → Bool
  | 0 => b
  | k + 1 => orN b f k || f k
theorem orN_eq (b : Bool) (f : Nat → Bool) : ∀ n, orN b f n = (b || anyN f n)
  | 0 => by simp [orN, anyN]
  | n + 1 => by simp [orN, anyN, orN_eq b f n, Bool.or_assoc]
theorem c_isUsed (d n : Nat) (p : Nat) (w : Nat → Int32) (v : Nat → Nat) (h : Nat → MC) (hO : h 178 = RO w) (hv : h 179 = .inl (.int, 189, .inl (vI v))) (hok : OkN v) (hp6 : p < 6) : Fn M_X10_isUsed (d + 1) 0 0 [.ref 178, .int (nI p)] h n (some (.int (bI (isUsedV v p)))) h := by
  obtain ⟨hn1, hn6, hf12, hr8, hpl, hfa, hru⟩ := hok
  refine Fn.of fun post hp => ?_
  have hp : post (some (.int (bI (orN (anyN (usedF v p) (v 1)) (usedR v p) (v 2))))) h := by rw [orN_eq]; exact hp
  generalize hB : anyN (usedF v p) (v 1) = B at hp
  refine mw_iconst (v := nI 0) rfl (by decide) ?_
  refine mw_istore_n (i := 2) rfl rfl (Nat.le_of_ble_eq_true rfl) ?_
  refine mw_iconst (v := nI 0) rfl (by decide) ?_
  refine mw_istore_n (i := 3) rfl rfl (Nat.le_of_ble_eq_true rfl) ?_
  have loop2 : ∀ r, r ≤ v 2 → MW M_X10_isUsed (d + 1) 0 0 n post 50 [(0, .ref 178), (1, .int (nI p)), (2, .int (bI (orN B (usedR v p) r))), (3, .int (nI r))] [] h n 0 := by
    refine loop_up (v 2) ?_ ?_
    · refine mw_iload_n (i := 3) rfl rfl rfl ?_
      refine mw_aload_n (i := 0) rfl rfl rfl ?_
      refine mw_getfield rfl f_X10_7 (by first | rfl | exact hO | exact hv) rfl ?_
      refine mw_iconst (v := nI 2) rfl (by decide) ?_
      refine mw_iald rfl (by first | rfl | exact hO | exact hv) (by omega) (by omega) ?_
      refine mw_n_ge rfl (by omega) (by omega) (fun hc => ?_) (fun hc => ?_)
      · refine mw_iload_n (i := 2) rfl rfl rfl ?_
        first | exact mw_ireturn rfl rfl (bI_nar _) rfl (Nat.le_refl _) (hp) | exact mw_ireturn rfl rfl rfl rfl (Nat.le_refl _) (hp)
      · omega
    · intro r hr ih
      obtain ⟨-, -, hl1, hl3, hat⟩ := hru r hr
      refine mw_iload_n (i := 3) rfl rfl rfl ?_
      refine mw_aload_n (i := 0) rfl rfl rfl ?_
      refine mw_getfield rfl f_X10_7 (by first | rfl | exact hO | exact hv) rfl ?_
      refine mw_iconst (v := nI 2) rfl (by decide) ?_
      refine mw_iald rfl (by first | rfl | exact hO | exact hv) (by omega) (by omega) ?_
      refine mw_n_ge rfl (by omega) (by omega) (fun hc => ?_) (fun hc => ?_)
      · omega
      · refine mw_iconst (v := nI 0) rfl (by decide) ?_
        refine mw_istore rfl (Nat.le_of_ble_eq_true rfl) ?_
        have loop3 : ∀ a, a ≤ v (45 + 18 * r + 1) + 1 → MW M_X10_isUsed (d + 1) 0 0 n post 63 [(0, .ref 178), (1, .int (nI p)), (2, .int (bI (orN (orN B (usedR v p) r) (usedA v p r) a))), (3, .int (nI r)), (4, .int (nI a))] [] h n 0 := by
          refine loop_up (v (45 + 18 * r + 1) + 1) ?_ ?_
          · refine mw_iload rfl rfl ?_
            refine mw_aload_n (i := 0) rfl rfl rfl ?_
            refine mw_getfield rfl f_X10_7 (by first | rfl | exact hO | exact hv) rfl ?_
            refine mw_bipush (v := nI 45) rfl (by decide) ?_
            refine mw_bipush (v := nI 18) rfl (by decide) ?_
            refine mw_iload_n (i := 3) rfl rfl rfl ?_
            first | refine mw_nmul rfl ?_ | refine mw_imul rfl ?_
            first | refine mw_nadd rfl ?_ | refine mw_iadd rfl ?_
            refine mw_iconst (v := nI 1) rfl (by decide) ?_
            first | refine mw_nadd rfl ?_ | refine mw_iadd rfl ?_
            refine mw_iald rfl (by first | rfl | exact hO | exact hv) (by omega) (by omega) ?_
            refine mw_n_gt rfl (by omega) (by omega) (fun hc => ?_) (fun hc => ?_)
            · first | refine mw_ninc rfl rfl (Nat.le_of_ble_eq_true rfl) ?_ | refine mw_iinc rfl rfl rfl (Nat.le_of_ble_eq_true rfl) ?_
              refine mw_goto rfl ?_
              refine mw_locals ?_ ih
              rw [show orN B (usedR v p) (r + 1) = orN (orN B (usedR v p) r) (usedA v p r) (v (45 + 18 * r + 1) + 1) by rw [orN_eq (orN B (usedR v p) r)]; rfl]
              rfl
            · omega
          · intro a ha ih3
            refine mw_iload rfl rfl ?_
            refine mw_aload_n (i := 0) rfl rfl rfl ?_
            refine mw_getfield rfl f_X10_7 (by first | rfl | exact hO | exact hv) rfl ?_
            refine mw_bipush (v := nI 45) rfl (by decide) ?_
            refine mw_bipush (v := nI 18) rfl (by decide) ?_
            refine mw_iload_n (i := 3) rfl rfl rfl ?_
            first | refine mw_nmul rfl ?_ | refine mw_imul rfl ?_
            first | refine mw_nadd rfl ?_ | refine mw_iadd rfl ?_
            refine mw_iconst (v := nI 1) rfl (by decide) ?_
            first | refine mw_nadd rfl ?_ | refine mw_iadd rfl ?_
            refine mw_iald rfl (by first | rfl | exact hO | exact hv) (by omega) (by omega) ?_
            refine mw_n_gt rfl (by omega) (by omega) (fun hc => ?_) (fun hc => ?_)
            · omega
            · refine mw_iload_n (i := 2) rfl rfl rfl ?_
              refine mw_b_ne rfl (fun hb => ?_) (fun hb => ?_)
              · refine mw_iconst (v := nI 1) rfl (by decide) ?_
                refine mw_goto rfl ?_
                refine mw_istore_n (i := 2) rfl rfl (Nat.le_of_ble_eq_true rfl) ?_
                first | refine mw_ninc rfl rfl (Nat.le_of_ble_eq_true rfl) ?_ | refine mw_iinc rfl rfl rfl (Nat.le_of_ble_eq_true rfl) ?_
                refine mw_goto rfl ?_
                refine mw_locals ?_ ih3
                rw [show orN (orN B (usedR v p) r) (usedA v p r) (a + 1) = true by simp [orN, hb]]
                rfl
              · refine mw_aload_n (i := 0) rfl rfl rfl ?_
                refine mw_getfield rfl f_X10_7 (by first | rfl | exact hO | exact hv) rfl ?_
                refine mw_iload_n (i := 3) rfl rfl rfl ?_
                refine mw_iload rfl rfl ?_
                refine mw_callS_f (c_atomAt d n r a h) rfl ok_X10_atomAt v_X10_88 rfl (Nat.le_of_ble_eq_true rfl) rfl (Nat.le_of_ble_eq_true rfl) (by omega) (by omega) (by omega) ?_
                have := (hat a (by omega)).1
                refine mw_iald rfl (by first | rfl | exact hO | exact hv) (by omega) (by omega) ?_
                refine mw_iload_n (i := 1) rfl rfl rfl ?_
                refine mw_n_ne rfl (by omega) (by omega) (fun he => ?_) (fun he => ?_)
                · refine mw_iconst (v := nI 0) rfl (by decide) ?_
                  refine mw_istore_n (i := 2) rfl rfl (Nat.le_of_ble_eq_true rfl) ?_
                  first | refine mw_ninc rfl rfl (Nat.le_of_ble_eq_true rfl) ?_ | refine mw_iinc rfl rfl rfl (Nat.le_of_ble_eq_true rfl) ?_
                  refine mw_goto rfl ?_
                  refine mw_locals ?_ ih3
                  rw [show orN (orN B (usedR v p) r) (usedA v p r) (a + 1) = false by simp [orN, hb, usedA, he]]
                  rfl
                · refine mw_iconst (v := nI 1) rfl (by decide) ?_
                  refine mw_goto rfl ?_
                  refine mw_istore_n (i := 2) rfl rfl (Nat.le_of_ble_eq_true rfl) ?_
                  first | refine mw_ninc rfl rfl (Nat.le_of_ble_eq_true rfl) ?_ | refine mw_iinc rfl rfl rfl (Nat.le_of_ble_eq_true rfl) ?_
                  refine mw_goto rfl ?_
                  refine mw_locals ?_ ih3
                  rw [show orN (orN B (usedR v p) r) (usedA v p r) (a + 1) = true by simp [orN, usedA, he]]
                  rfl
        exact mw_locals rfl (loop3 0 (Nat.zero_le _))
  have loop : ∀ j, j ≤ v 1 → MW M_X10_isUsed (d + 1) 0 0 n post 4 [(0, .ref 178), (1, .int (nI p)), (2, .int (bI (anyN (usedF v p) j))), (3, .int (nI j))] [] h n 0 := by
    refine loop_up (v 1) ?_ ?_
    · refine mw_iload_n (i := 3) rfl rfl rfl ?_
      refine mw_aload_n (i := 0) rfl rfl rfl ?_
      refine mw_getfield rfl f_X10_7 (by first | rfl | exact hO | exact hv) rfl ?_
      refine mw_iconst (v := nI 1) rfl (by decide) ?_
      refine mw_iald rfl (by first | rfl | exact hO | exact hv) (by omega) (by omega) ?_
      refine mw_n_ge rfl (by omega) (by omega) (fun hc => ?_) (fun hc => ?_)
      · rw [hB]
        refine mw_iconst (v := nI 0) rfl (by decide) ?_
        refine mw_istore_n (i := 3) rfl rfl (Nat.le_of_ble_eq_true rfl) ?_
        exact mw_locals rfl (loop2 0 (Nat.zero_le _))
      · omega
    · intro j hj ih
      have hj2 := (hfa j hj).1
      refine mw_iload_n (i := 3) rfl rfl rfl ?_
      refine mw_aload_n (i := 0) rfl rfl rfl ?_
      refine mw_getfield rfl f_X10_7 (by first | rfl | exact hO | exact hv) rfl ?_
      refine mw_iconst (v := nI 1) rfl (by decide) ?_
      refine mw_iald rfl (by first | rfl | exact hO | exact hv) (by omega) (by omega) ?_
      refine mw_n_ge rfl (by omega) (by omega) (fun hc => ?_) (fun hc => ?_)
      · omega
      · refine mw_iload_n (i := 2) rfl rfl rfl ?_
        refine mw_b_ne rfl (fun hb => ?_) (fun hb => ?_)
        · refine mw_iconst (v := nI 1) rfl (by decide) ?_
          refine mw_goto rfl ?_
          refine mw_istore_n (i := 2) rfl rfl (Nat.le_of_ble_eq_true rfl) ?_
          first | refine mw_ninc rfl rfl (Nat.le_of_ble_eq_true rfl) ?_ | refine mw_iinc rfl rfl rfl (Nat.le_of_ble_eq_true rfl) ?_
          refine mw_goto rfl ?_
          refine mw_locals ?_ ih
          rw [show anyN (usedF v p) (j + 1) = true by simp [anyN, hb]]
          rfl
        · refine mw_aload_n (i := 0) rfl rfl rfl ?_
          refine mw_getfield rfl f_X10_7 (by first | rfl | exact hO | exact hv) rfl ?_
          refine mw_bipush (v := nI 9) rfl (by decide) ?_
          refine mw_iconst (v := nI 3) rfl (by decide) ?_
          refine mw_iload_n (i := 3) rfl rfl rfl ?_
          first | refine mw_nmul rfl ?_ | refine mw_imul rfl ?_
          first | refine mw_nadd rfl ?_ | refine mw_iadd rfl ?_
          refine mw_iald rfl (by first | rfl | exact hO | exact hv) (by omega) (by omega) ?_
          refine mw_bipush (v := nI 36) rfl (by decide) ?_
          refine mw_ndiv rfl (by omega) (by omega) (by omega) ?_
          refine mw_iload_n (i := 1) rfl rfl rfl ?_
          refine mw_n_ne rfl (by omega) (by omega) (fun he => ?_) (fun he => ?_)
          · refine mw_iconst (v := nI 0) rfl (by decide) ?_
            refine mw_istore_n (i := 2) rfl rfl (Nat.le_of_ble_eq_true rfl) ?_
            first | refine mw_ninc rfl rfl (Nat.le_of_ble_eq_true rfl) ?_ | refine mw_iinc rfl rfl rfl (Nat.le_of_ble_eq_true rfl) ?_
            refine mw_goto rfl ?_
            refine mw_locals ?_ ih
            rw [show anyN (usedF v p) (j + 1) = false by simp [anyN, hb, usedF, he]]
            rfl
          · refine mw_iconst (v := nI 1) rfl (by decide) ?_
            refine mw_goto rfl ?_
            refine mw_istore_n (i := 2) rfl rfl (Nat.le_of_ble_eq_true rfl) ?_
            first | refine mw_ninc rfl rfl (Nat.le_of_ble_eq_true rfl) ?_ | refine mw_iinc rfl rfl rfl (Nat.le_of_ble_eq_true rfl) ?_
            refine mw_goto rfl ?_
            refine mw_locals ?_ ih
            rw [show anyN (usedF v p) (j + 1) = true by simp [anyN, usedF, he]]
            rfl
  exact mw_locals rfl (loop 0 (Nat.zero_le _))
theorem c_setPlaces_e1 (d n : Nat) (x y : Int32) (h : Nat → MC) (hx : inI x 6 = false) : Fn M_X10_setPlaces (d + 2) 0 0 [.ref 178, .int x, .int y] h n (some (.int (-1))) h := by
  refine Fn.of fun post hp => ?_
  refine mw_iload_n (i := 1) rfl rfl rfl ?_
  refine mw_iconst (v := nI 0) rfl (by decide) ?_
  refine mw_iconst (v := nI 5) rfl (by decide) ?_
  refine mw_callS_f (c_in0 (d + 1) n x 5 (by omega) h) rfl ok_X10_in v_X10_80 rfl (Nat.le_of_ble_eq_true rfl) rfl (Nat.le_of_ble_eq_true rfl) (by omega) (by omega) (by omega) ?_
  rw [hx]
  refine mw_b_ne rfl (fun hd => ?_) (fun hd => ?_)
  · cases hd
  · refine mw_iconst (v := (-1)) rfl (by decide) ?_
    exact mw_ireturn rfl rfl rfl rfl (Nat.le_refl _) (hp)
theorem c_setPlaces_e2 (d n : Nat) (p : Nat) (y : Int32) (h : Nat → MC) (hx : p < 6) (hy : ¬ (nI 1 ≤ y ∧ y ≤ nI 2)) : Fn M_X10_setPlaces (d + 2) 0 0 [.ref 178, .int (nI p), .int y] h n (some (.int (-2))) h := by
  refine Fn.of fun post hp => ?_
  refine mw_iload_n (i := 1) rfl rfl rfl ?_
  refine mw_iconst (v := nI 0) rfl (by decide) ?_
  refine mw_iconst (v := nI 5) rfl (by decide) ?_
  refine mw_callS_f (c_in0 (d + 1) n (nI p) 5 (by omega) h) rfl ok_X10_in v_X10_80 rfl (Nat.le_of_ble_eq_true rfl) rfl (Nat.le_of_ble_eq_true rfl) (by omega) (by omega) (by omega) ?_
  rw [inI_nI hx (by omega)]
  refine mw_b_ne rfl (fun hd => ?_) (fun hd => ?_)
  · refine mw_iload_n (i := 2) rfl rfl rfl ?_
    refine mw_iconst (v := nI 1) rfl (by decide) ?_
    refine mw_iconst (v := nI 2) rfl (by decide) ?_
    refine mw_callS_f (c_in (d + 1) n y (nI 1) (nI 2) h) rfl ok_X10_in v_X10_80 rfl (Nat.le_of_ble_eq_true rfl) rfl (Nat.le_of_ble_eq_true rfl) (by omega) (by omega) (by omega) ?_
    rw [decide_eq_false hy]
    refine mw_b_ne rfl (fun he => ?_) (fun he => ?_)
    · cases he
    · refine mw_bipush (v := (-2)) rfl (by decide) ?_
      exact mw_ireturn rfl rfl rfl rfl (Nat.le_refl _) (hp)
  · cases hd
theorem c_setPlaces_e3 (d n : Nat) (p q : Nat) (w : Nat → Int32) (v : Nat → Nat) (h : Nat → MC) (hO : h 178 = RO w) (hv : h 179 = .inl (.int, 189, .inl (vI v))) (hok : OkN v) (hx : p < 6) (hy : 1 ≤ q ∧ q ≤ 2) (hu : isUsedV v p = true) : Fn M_X10_setPlaces (d + 2) 0 0 [.ref 178, .int (nI p), .int (nI q)] h n (some (.int (-3))) h := by
  refine Fn.of fun post hp => ?_
  refine mw_iload_n (i := 1) rfl rfl rfl ?_
  refine mw_iconst (v := nI 0) rfl (by decide) ?_
  refine mw_iconst (v := nI 5) rfl (by decide) ?_
  refine mw_callS_f (c_in0 (d + 1) n (nI p) 5 (by omega) h) rfl ok_X10_in v_X10_80 rfl (Nat.le_of_ble_eq_true rfl) rfl (Nat.le_of_ble_eq_true rfl) (by omega) (by omega) (by omega) ?_
  rw [inI_nI hx (by omega)]
  refine mw_b_ne rfl (fun hd => ?_) (fun hd => ?_)
  · refine mw_iload_n (i := 2) rfl rfl rfl ?_
    refine mw_iconst (v := nI 1) rfl (by decide) ?_
    refine mw_iconst (v := nI 2) rfl (by decide) ?_
    refine mw_callS_f (c_in (d + 1) n (nI q) (nI 1) (nI 2) h) rfl ok_X10_in v_X10_80 rfl (Nat.le_of_ble_eq_true rfl) rfl (Nat.le_of_ble_eq_true rfl) (by omega) (by omega) (by omega) ?_
    rw [decide_eq_true (show nI 1 ≤ nI q ∧ nI q ≤ nI 2 from ⟨(nI_leI (by omega) (by omega)).mpr hy.1, (nI_leI (by omega) (by omega)).mpr hy.2⟩)]
    refine mw_b_ne rfl (fun he => ?_) (fun he => ?_)
    · refine mw_aload_n (i := 0) rfl rfl rfl ?_
      refine mw_iload_n (i := 1) rfl rfl rfl ?_
      refine mw_callV_f (c_isUsed d n p w v h hO hv hok hx) rfl ok_X10_isUsed v_X10_92 rfl (by first | rfl | exact hO | exact hv) (by intro e; cases e) rfl (Nat.le_of_ble_eq_true rfl) rfl (Nat.le_of_ble_eq_true rfl) (by omega) (by omega) (by omega) ?_
      rw [hu]
      refine mw_b_eq rfl (fun hg => ?_) (fun hg => ?_)
      · cases hg
      · refine mw_bipush (v := (-3)) rfl (by decide) ?_
        exact mw_ireturn rfl rfl rfl rfl (Nat.le_refl _) (hp)
    · cases he
  · cases hd
theorem c_setPlaces (d n : Nat) (p q : Nat) (w : Nat → Int32) (v : Nat → Nat) (h : Nat → MC) (hO : h 178 = RO w) (hv : h 179 = .inl (.int, 189, .inl (vI v))) (hok : OkN v) (hx : p < 6) (hy : 1 ≤ q ∧ q ≤ 2) (hu : isUsedV v p = false) : Fn M_X10_setPlaces (d + 2) 0 0 [.ref 178, .int (nI p), .int (nI q)] h n (some (.int (nI (v (3 + p))))) (hset h 179 (.inl (.int, 189, .inl (vI (updN v (3 + p) q))))) := by
  refine Fn.of fun post hp => ?_
  refine mw_iload_n (i := 1) rfl rfl rfl ?_
  refine mw_iconst (v := nI 0) rfl (by decide) ?_
  refine mw_iconst (v := nI 5) rfl (by decide) ?_
  refine mw_callS_f (c_in0 (d + 1) n (nI p) 5 (by omega) h) rfl ok_X10_in v_X10_80 rfl (Nat.le_of_ble_eq_true rfl) rfl (Nat.le_of_ble_eq_true rfl) (by omega) (by omega) (by omega) ?_
  rw [inI_nI hx (by omega)]
  refine mw_b_ne rfl (fun hd => ?_) (fun hd => ?_)
  · refine mw_iload_n (i := 2) rfl rfl rfl ?_
    refine mw_iconst (v := nI 1) rfl (by decide) ?_
    refine mw_iconst (v := nI 2) rfl (by decide) ?_
    refine mw_callS_f (c_in (d + 1) n (nI q) (nI 1) (nI 2) h) rfl ok_X10_in v_X10_80 rfl (Nat.le_of_ble_eq_true rfl) rfl (Nat.le_of_ble_eq_true rfl) (by omega) (by omega) (by omega) ?_
    rw [decide_eq_true (show nI 1 ≤ nI q ∧ nI q ≤ nI 2 from ⟨(nI_leI (by omega) (by omega)).mpr hy.1, (nI_leI (by omega) (by omega)).mpr hy.2⟩)]
    refine mw_b_ne rfl (fun he => ?_) (fun he => ?_)
    · refine mw_aload_n (i := 0) rfl rfl rfl ?_
      refine mw_iload_n (i := 1) rfl rfl rfl ?_
      refine mw_callV_f (c_isUsed d n p w v h hO hv hok hx) rfl ok_X10_isUsed v_X10_92 rfl (by first | rfl | exact hO | exact hv) (by intro e; cases e) rfl (Nat.le_of_ble_eq_true rfl) rfl (Nat.le_of_ble_eq_true rfl) (by omega) (by omega) (by omega) ?_
      rw [hu]
      refine mw_b_eq rfl (fun hg => ?_) (fun hg => ?_)
      · refine mw_aload_n (i := 0) rfl rfl rfl ?_
        refine mw_getfield rfl f_X10_7 (by first | rfl | exact hO | exact hv) rfl ?_
        refine mw_iconst (v := nI 3) rfl (by decide) ?_
        refine mw_iload_n (i := 1) rfl rfl rfl ?_
        first | refine mw_nadd rfl ?_ | refine mw_iadd rfl ?_
        refine mw_iald rfl (by first | rfl | exact hO | exact hv) (by omega) (by omega) ?_
        refine mw_istore_n (i := 3) rfl rfl (Nat.le_of_ble_eq_true rfl) ?_
        refine mw_aload_n (i := 0) rfl rfl rfl ?_
        refine mw_getfield rfl f_X10_7 (by first | rfl | exact hO | exact hv) rfl ?_
        refine mw_iconst (v := nI 3) rfl (by decide) ?_
        refine mw_iload_n (i := 1) rfl rfl rfl ?_
        first | refine mw_nadd rfl ?_ | refine mw_iadd rfl ?_
        refine mw_iload_n (i := 2) rfl rfl rfl ?_
        refine mw_iast rfl (by first | rfl | exact hO | exact hv) (by omega) (by omega) ?_
        first | rw [vI_upd] | rw [vI_updv] | skip
        refine mw_iload_n (i := 3) rfl rfl rfl ?_
        exact mw_ireturn rfl rfl rfl rfl (Nat.le_refl _) (hp)
      · cases hg
    · cases he
  · cases hd
theorem c_facts (d n : Nat) (w : Nat → Int32) (v : Nat → Nat) (h : Nat → MC) (hO : h 178 = RO w) (hv : h 179 = .inl (.int, 189, .inl (vI v))) : Fn M_X10_facts d 0 0 [.ref 178] h n (some (.int (nI (v 1)))) h := by
  refine Fn.of fun post hp => ?_
  refine mw_aload_n (i := 0) rfl rfl rfl ?_
  refine mw_getfield rfl f_X10_7 (by first | rfl | exact hO | exact hv) rfl ?_
  refine mw_iconst (v := nI 1) rfl (by decide) ?_
  refine mw_iald rfl (by first | rfl | exact hO | exact hv) (by omega) (by omega) ?_
  exact mw_ireturn rfl rfl rfl rfl (Nat.le_refl _) (hp)
theorem c_rules (d n : Nat) (w : Nat → Int32) (v : Nat → Nat) (h : Nat → MC) (hO : h 178 = RO w) (hv : h 179 = .inl (.int, 189, .inl (vI v))) : Fn M_X10_rules d 0 0 [.ref 178] h n (some (.int (nI (v 2)))) h := by
  refine Fn.of fun post hp => ?_
  refine mw_aload_n (i := 0) rfl rfl rfl ?_
  refine mw_getfield rfl f_X10_7 (by first | rfl | exact hO | exact hv) rfl ?_
  refine mw_iconst (v := nI 2) rfl (by decide) ?_
  refine mw_iald rfl (by first | rfl | exact hO | exact hv) (by omega) (by omega) ?_
  exact mw_ireturn rfl rfl rfl rfl (Nat.le_refl _) (hp)
