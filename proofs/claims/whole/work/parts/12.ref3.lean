def addFactV (v : Nat → Nat) (f c s : Nat) : Nat → Nat := fun j => if j = 1 then v 1 + 1 else if j = 9 + 3 * v 1 then f else if j = 9 + 3 * v 1 + 1 then c else if j = 9 + 3 * v 1 + 2 then s else v j
theorem c_addFact_e1 (d n : Nat) (p a b c s : Int32) (w : Nat → Int32) (v : Nat → Nat) (h : Nat → MC) (hO : h 178 = RO w) (hv : h 179 = .inl (.int, 189, .inl (vI v))) (hok : OkN v) (hx : isF v p a b = false) : Fn M_X10_addFact (d + 3) 0 0 [.ref 178, .int p, .int a, .int b, .int c, .int s] h n (some (.int (-1))) h := by
  refine Fn.of fun post hp => ?_
  refine mw_aload_n (i := 0) rfl rfl rfl ?_
  refine mw_iload_n (i := 1) rfl rfl rfl ?_
  refine mw_iload_n (i := 2) rfl rfl rfl ?_
  refine mw_iload_n (i := 3) rfl rfl rfl ?_
  refine mw_callV_f (c_isFact d n p a b w v h hO hv hok.1 hok.2.1 hok.2.2.2.2.1) rfl ok_X10_isFact v_X10_95 rfl (by first | rfl | exact hO | exact hv) (by intro e; cases e) rfl (Nat.le_of_ble_eq_true rfl) rfl (Nat.le_of_ble_eq_true rfl) (by omega) (by omega) (by omega) ?_
  rw [hx]
  refine mw_b_ne rfl (fun hd => ?_) (fun hd => ?_)
  · cases hd
  · refine mw_iconst (v := (-1)) rfl (by decide) ?_
    exact mw_ireturn rfl rfl rfl rfl (Nat.le_refl _) (hp)
theorem c_addFact_e2 (d n : Nat) (p a b c s : Int32) (w : Nat → Int32) (v : Nat → Nat) (h : Nat → MC) (hO : h 178 = RO w) (hv : h 179 = .inl (.int, 189, .inl (vI v))) (hok : OkN v) (hx : isF v p a b = true) (hy : (inI c 100 && decide (nI 1 ≤ s ∧ s ≤ nI 16)) = false) : Fn M_X10_addFact (d + 3) 0 0 [.ref 178, .int p, .int a, .int b, .int c, .int s] h n (some (.int (-2))) h := by
  refine Fn.of fun post hp => ?_
  refine mw_aload_n (i := 0) rfl rfl rfl ?_
  refine mw_iload_n (i := 1) rfl rfl rfl ?_
  refine mw_iload_n (i := 2) rfl rfl rfl ?_
  refine mw_iload_n (i := 3) rfl rfl rfl ?_
  refine mw_callV_f (c_isFact d n p a b w v h hO hv hok.1 hok.2.1 hok.2.2.2.2.1) rfl ok_X10_isFact v_X10_95 rfl (by first | rfl | exact hO | exact hv) (by intro e; cases e) rfl (Nat.le_of_ble_eq_true rfl) rfl (Nat.le_of_ble_eq_true rfl) (by omega) (by omega) (by omega) ?_
  rw [hx]
  refine mw_b_ne rfl (fun hd => ?_) (fun hd => ?_)
  · refine mw_iload rfl rfl ?_
    refine mw_iconst (v := nI 0) rfl (by decide) ?_
    refine mw_bipush (v := nI 99) rfl (by decide) ?_
    refine mw_callS_f (c_in0 (d + 2) n c 99 (by omega) h) rfl ok_X10_in v_X10_80 rfl (Nat.le_of_ble_eq_true rfl) rfl (Nat.le_of_ble_eq_true rfl) (by omega) (by omega) (by omega) ?_
    refine mw_b_eq rfl (fun he => ?_) (fun he => ?_)
    · refine mw_bipush (v := (-2)) rfl (by decide) ?_
      exact mw_ireturn rfl rfl rfl rfl (Nat.le_refl _) (hp)
    · rw [he, Bool.true_and] at hy
      refine mw_iload rfl rfl ?_
      refine mw_iconst (v := nI 1) rfl (by decide) ?_
      refine mw_bipush (v := nI 16) rfl (by decide) ?_
      refine mw_callS_f (c_in (d + 2) n s (nI 1) (nI 16) h) rfl ok_X10_in v_X10_80 rfl (Nat.le_of_ble_eq_true rfl) rfl (Nat.le_of_ble_eq_true rfl) (by omega) (by omega) (by omega) ?_
      rw [hy]
      refine mw_b_ne rfl (fun hg => ?_) (fun hg => ?_)
      · cases hg
      · refine mw_bipush (v := (-2)) rfl (by decide) ?_
        exact mw_ireturn rfl rfl rfl rfl (Nat.le_refl _) (hp)
  · cases hd
theorem c_addFact_e3 (d n : Nat) (p a b c s : Int32) (w : Nat → Int32) (v : Nat → Nat) (h : Nat → MC) (hO : h 178 = RO w) (hv : h 179 = .inl (.int, 189, .inl (vI v))) (hok : OkN v) (hx : isF v p a b = true) (hy : (inI c 100 && decide (nI 1 ≤ s ∧ s ≤ nI 16)) = true) (hz : v 1 = 12) : Fn M_X10_addFact (d + 3) 0 0 [.ref 178, .int p, .int a, .int b, .int c, .int s] h n (some (.int (-4))) h := by
  refine Fn.of fun post hp => ?_
  rw [Bool.and_eq_true] at hy
  refine mw_aload_n (i := 0) rfl rfl rfl ?_
  refine mw_iload_n (i := 1) rfl rfl rfl ?_
  refine mw_iload_n (i := 2) rfl rfl rfl ?_
  refine mw_iload_n (i := 3) rfl rfl rfl ?_
  refine mw_callV_f (c_isFact d n p a b w v h hO hv hok.1 hok.2.1 hok.2.2.2.2.1) rfl ok_X10_isFact v_X10_95 rfl (by first | rfl | exact hO | exact hv) (by intro e; cases e) rfl (Nat.le_of_ble_eq_true rfl) rfl (Nat.le_of_ble_eq_true rfl) (by omega) (by omega) (by omega) ?_
  rw [hx]
  refine mw_b_ne rfl (fun hd => ?_) (fun hd => ?_)
  · refine mw_iload rfl rfl ?_
    refine mw_iconst (v := nI 0) rfl (by decide) ?_
    refine mw_bipush (v := nI 99) rfl (by decide) ?_
    refine mw_callS_f (c_in0 (d + 2) n c 99 (by omega) h) rfl ok_X10_in v_X10_80 rfl (Nat.le_of_ble_eq_true rfl) rfl (Nat.le_of_ble_eq_true rfl) (by omega) (by omega) (by omega) ?_
    rw [hy.1]
    refine mw_b_eq rfl (fun he => ?_) (fun he => ?_)
    · cases he
    · refine mw_iload rfl rfl ?_
      refine mw_iconst (v := nI 1) rfl (by decide) ?_
      refine mw_bipush (v := nI 16) rfl (by decide) ?_
      refine mw_callS_f (c_in (d + 2) n s (nI 1) (nI 16) h) rfl ok_X10_in v_X10_80 rfl (Nat.le_of_ble_eq_true rfl) rfl (Nat.le_of_ble_eq_true rfl) (by omega) (by omega) (by omega) ?_
      rw [hy.2]
      refine mw_b_ne rfl (fun hg => ?_) (fun hg => ?_)
      · refine mw_aload_n (i := 0) rfl rfl rfl ?_
        refine mw_getfield rfl f_X10_7 (by first | rfl | exact hO | exact hv) rfl ?_
        refine mw_iconst (v := nI 1) rfl (by decide) ?_
        refine mw_iald rfl (by first | rfl | exact hO | exact hv) (by omega) (by omega) ?_
        refine mw_bipush (v := nI 12) rfl (by decide) ?_
        refine mw_n_ne rfl (by omega) (by omega) (fun hc => ?_) (fun hc => ?_)
        · omega
        · refine mw_bipush (v := (-4)) rfl (by decide) ?_
          exact mw_ireturn rfl rfl rfl rfl (Nat.le_refl _) (hp)
      · cases hg
  · cases hd
theorem c_addFact (d n : Nat) (p a b c s : Nat) (w : Nat → Int32) (v : Nat → Nat) (h : Nat → MC) (hO : h 178 = RO w) (hv : h 179 = .inl (.int, 189, .inl (vI v))) (hok : OkN v) (hx : isF v (nI p) (nI a) (nI b) = true) (hy : (inI (nI c) 100 && decide (nI 1 ≤ nI s ∧ nI s ≤ nI 16)) = true) (hz : v 1 ≠ 12) : Fn M_X10_addFact (d + 3) 0 0 [.ref 178, .int (nI p), .int (nI a), .int (nI b), .int (nI c), .int (nI s)] h n (some (.int (nI (v 1)))) (mov [(179, .inl (.int, 189, .inl (vI (addFactV v (36 * p + 6 * a + b) c s)))), (178, RO (updN w 3 0))] h) := by
  refine Fn.of fun post hp => ?_
  have h12 := hok.2.2.1
  rw [Bool.and_eq_true] at hy
  refine mw_aload_n (i := 0) rfl rfl rfl ?_
  refine mw_iload_n (i := 1) rfl rfl rfl ?_
  refine mw_iload_n (i := 2) rfl rfl rfl ?_
  refine mw_iload_n (i := 3) rfl rfl rfl ?_
  refine mw_callV_f (c_isFact d n (nI p) (nI a) (nI b) w v h hO hv hok.1 hok.2.1 hok.2.2.2.2.1) rfl ok_X10_isFact v_X10_95 rfl (by first | rfl | exact hO | exact hv) (by intro e; cases e) rfl (Nat.le_of_ble_eq_true rfl) rfl (Nat.le_of_ble_eq_true rfl) (by omega) (by omega) (by omega) ?_
  rw [hx]
  refine mw_b_ne rfl (fun hd => ?_) (fun hd => ?_)
  · refine mw_iload rfl rfl ?_
    refine mw_iconst (v := nI 0) rfl (by decide) ?_
    refine mw_bipush (v := nI 99) rfl (by decide) ?_
    refine mw_callS_f (c_in0 (d + 2) n (nI c) 99 (by omega) h) rfl ok_X10_in v_X10_80 rfl (Nat.le_of_ble_eq_true rfl) rfl (Nat.le_of_ble_eq_true rfl) (by omega) (by omega) (by omega) ?_
    rw [hy.1]
    refine mw_b_eq rfl (fun he => ?_) (fun he => ?_)
    · cases he
    · refine mw_iload rfl rfl ?_
      refine mw_iconst (v := nI 1) rfl (by decide) ?_
      refine mw_bipush (v := nI 16) rfl (by decide) ?_
      refine mw_callS_f (c_in (d + 2) n (nI s) (nI 1) (nI 16) h) rfl ok_X10_in v_X10_80 rfl (Nat.le_of_ble_eq_true rfl) rfl (Nat.le_of_ble_eq_true rfl) (by omega) (by omega) (by omega) ?_
      rw [hy.2]
      refine mw_b_ne rfl (fun hg => ?_) (fun hg => ?_)
      · refine mw_aload_n (i := 0) rfl rfl rfl ?_
        refine mw_getfield rfl f_X10_7 (by first | rfl | exact hO | exact hv) rfl ?_
        refine mw_iconst (v := nI 1) rfl (by decide) ?_
        refine mw_iald rfl (by first | rfl | exact hO | exact hv) (by omega) (by omega) ?_
        refine mw_bipush (v := nI 12) rfl (by decide) ?_
        refine mw_n_ne rfl (by omega) (by omega) (fun hc => ?_) (fun hc => ?_)
        · refine mw_bipush (v := nI 9) rfl (by decide) ?_
          refine mw_iconst (v := nI 3) rfl (by decide) ?_
          refine mw_aload_n (i := 0) rfl rfl rfl ?_
          refine mw_getfield rfl f_X10_7 (by first | rfl | exact hO | exact hv) rfl ?_
          refine mw_iconst (v := nI 1) rfl (by decide) ?_
          refine mw_iald rfl (by first | rfl | exact hO | exact hv) (by omega) (by omega) ?_
          first | refine mw_nmul rfl ?_ | refine mw_imul rfl ?_
          first | refine mw_nadd rfl ?_ | refine mw_iadd rfl ?_
          refine mw_istore rfl (Nat.le_of_ble_eq_true rfl) ?_
          refine mw_aload_n (i := 0) rfl rfl rfl ?_
          refine mw_getfield rfl f_X10_7 (by first | rfl | exact hO | exact hv) rfl ?_
          refine mw_iload rfl rfl ?_
          refine mw_iload_n (i := 1) rfl rfl rfl ?_
          refine mw_iload_n (i := 2) rfl rfl rfl ?_
          refine mw_iload_n (i := 3) rfl rfl rfl ?_
          refine mw_callS_f (c_factOf (d + 2) n p a b h) rfl ok_X10_factOf v_X10_98 rfl (Nat.le_of_ble_eq_true rfl) rfl (Nat.le_of_ble_eq_true rfl) (by omega) (by omega) (by omega) ?_
          refine mw_over [(179, .inl (.int, 189, .inl (vI v)))] (mov_self (by simp [hv])) ?_
          refine mw_iast_m rfl (by first | rfl | exact hO | exact hv) (by omega) (by omega) ?_
          first | rw [vI_upd] | rw [vI_updv] | skip
          refine mw_aload_n (i := 0) rfl rfl rfl ?_
          refine mw_getfield rfl f_X10_7 (by first | rfl | exact hO | exact hv) rfl ?_
          refine mw_iload rfl rfl ?_
          refine mw_iconst (v := nI 1) rfl (by decide) ?_
          first | refine mw_nadd rfl ?_ | refine mw_iadd rfl ?_
          refine mw_iload rfl rfl ?_
          refine mw_iast_m rfl (by first | rfl | exact hO | exact hv) (by omega) (by omega) ?_
          first | rw [vI_upd] | rw [vI_updv] | skip
          refine mw_aload_n (i := 0) rfl rfl rfl ?_
          refine mw_getfield rfl f_X10_7 (by first | rfl | exact hO | exact hv) rfl ?_
          refine mw_iload rfl rfl ?_
          refine mw_iconst (v := nI 2) rfl (by decide) ?_
          first | refine mw_nadd rfl ?_ | refine mw_iadd rfl ?_
          refine mw_iload rfl rfl ?_
          refine mw_iast_m rfl (by first | rfl | exact hO | exact hv) (by omega) (by omega) ?_
          first | rw [vI_upd] | rw [vI_updv] | skip
          refine mw_aload_n (i := 0) rfl rfl rfl ?_
          refine mw_getfield rfl f_X10_7 (by first | rfl | exact hO | exact hv) rfl ?_
          refine mw_iconst (v := nI 1) rfl (by decide) ?_
          refine mw_dup2 rfl rfl rfl ?_
          refine mw_iald rfl (by first | rfl | exact hO | exact hv) (by omega) (by omega) ?_
          refine mw_iconst (v := nI 1) rfl (by decide) ?_
          first | refine mw_nadd rfl ?_ | refine mw_iadd rfl ?_
          refine mw_iast_m rfl (by first | rfl | exact hO | exact hv) (by omega) (by omega) ?_
          first | rw [vI_upd] | rw [vI_updv] | skip
          have e : updN (updN (updN (updN v (9 + 3 * v 1) (36 * p + 6 * a + b)) (9 + 3 * v 1 + 1) c) (9 + 3 * v 1 + 2) s) 1 (updN (updN (updN v (9 + 3 * v 1) (36 * p + 6 * a + b)) (9 + 3 * v 1 + 1) c) (9 + 3 * v 1 + 2) s 1 + 1) = addFactV v (36 * p + 6 * a + b) c s := by
            funext j
            simp only [updN, addFactV]
            repeat' split
            all_goals first | rfl | omega | (exfalso; omega)
          rw [e]
          refine mw_aload_n (i := 0) rfl rfl rfl ?_
          refine mw_iconst (v := nI 0) rfl (by decide) ?_
          first | refine mw_putfield_m rfl f_X10_76 (by first | rfl | exact hO | exact hv) (Nat.le_of_ble_eq_true rfl) (fun _ => bI_nar _) (fun _ => bI_fit _) ?_ | refine mw_putfield_m rfl f_X10_76 (by first | rfl | exact hO | exact hv) (Nat.le_of_ble_eq_true rfl) (fun _ => rfl) (fun _ => rfl) ?_
          refine mw_aload_n (i := 0) rfl rfl rfl ?_
          refine mw_getfield rfl f_X10_7 (by first | rfl | exact hO | exact hv) rfl ?_
          refine mw_iconst (v := nI 1) rfl (by decide) ?_
          refine mw_iald rfl (by first | rfl | exact hO | exact hv) (by omega) (by omega) ?_
          refine mw_iconst (v := nI 1) rfl (by decide) ?_
          refine mw_nsub (b := 1) rfl (show 1 ≤ addFactV v (36 * p + 6 * a + b) c s 1 by simp [addFactV]) ?_
          have e2 : addFactV v (36 * p + 6 * a + b) c s 1 - 1 = v 1 := by simp [addFactV]
          rw [e2]
          exact mw_ireturn rfl rfl rfl rfl (Nat.le_refl _) (hp)
        · omega
      · cases hg
  · cases hd
/-- one is taken out: those behind it move up by k places -/
def shV (v : Nat → Nat) (k lo hi : Nat) : Nat → Nat := fun j => if lo ≤ j ∧ j < hi then v (j + k) else v j
theorem c_removeFact_e (d n : Nat) (x : Int32) (w : Nat → Int32) (v : Nat → Nat) (h : Nat → MC) (hO : h 178 = RO w) (hv : h 179 = .inl (.int, 189, .inl (vI v))) (hx : decide (nI 0 ≤ x ∧ x ≤ nI (v 1) - nI 1) = false) : Fn M_X10_removeFact (d + 1) 0 0 [.ref 178, .int x] h n (some (.int (-1))) h := by
  refine Fn.of fun post hp => ?_
  refine mw_iload_n (i := 1) rfl rfl rfl ?_
  refine mw_iconst (v := nI 0) rfl (by decide) ?_
  refine mw_aload_n (i := 0) rfl rfl rfl ?_
  refine mw_getfield rfl f_X10_7 (by first | rfl | exact hO | exact hv) rfl ?_
  refine mw_iconst (v := nI 1) rfl (by decide) ?_
  refine mw_iald rfl (by first | rfl | exact hO | exact hv) (by omega) (by omega) ?_
  refine mw_iconst (v := nI 1) rfl (by decide) ?_
  refine mw_isub rfl ?_
  refine mw_callS_f (c_in d n x (nI 0) (nI (v 1) - nI 1) h) rfl ok_X10_in v_X10_80 rfl (Nat.le_of_ble_eq_true rfl) rfl (Nat.le_of_ble_eq_true rfl) (by omega) (by omega) (by omega) ?_
  rw [hx]
  refine mw_b_ne rfl (fun hd => ?_) (fun hd => ?_)
  · cases hd
  · refine mw_iconst (v := (-1)) rfl (by decide) ?_
    exact mw_ireturn rfl rfl rfl rfl (Nat.le_refl _) (hp)
theorem c_removeFact (d n : Nat) (f : Nat) (w : Nat → Int32) (v : Nat → Nat) (h : Nat → MC) (hO : h 178 = RO w) (hv : h 179 = .inl (.int, 189, .inl (vI v))) (hok : OkN v) (hx : f < v 1) : Fn M_X10_removeFact (d + 1) 0 0 [.ref 178, .int (nI f)] h n (some (.int (nI (v 1 - 1)))) (mov [(179, .inl (.int, 189, .inl (vI (shV (updN v 1 (v 1 - 1)) 3 (9 + 3 * f) (9 + 3 * (v 1 - 1)))))), (178, RO (updN w 3 0))] h) := by
  refine Fn.of fun post hp => ?_
  have h12 := hok.2.2.1
  refine mw_iload_n (i := 1) rfl rfl rfl ?_
  refine mw_iconst (v := nI 0) rfl (by decide) ?_
  refine mw_aload_n (i := 0) rfl rfl rfl ?_
  refine mw_getfield rfl f_X10_7 (by first | rfl | exact hO | exact hv) rfl ?_
  refine mw_iconst (v := nI 1) rfl (by decide) ?_
  refine mw_iald rfl (by first | rfl | exact hO | exact hv) (by omega) (by omega) ?_
  refine mw_iconst (v := nI 1) rfl (by decide) ?_
  refine mw_nsub (b := 1) rfl (by omega) ?_
  refine mw_callS_f (c_in0 d n (nI f) (v 1 - 1) (by omega) h) rfl ok_X10_in v_X10_80 rfl (Nat.le_of_ble_eq_true rfl) rfl (Nat.le_of_ble_eq_true rfl) (by omega) (by omega) (by omega) ?_
  rw [inI_nI (show f < v 1 - 1 + 1 by omega) (by omega)]
  refine mw_b_ne rfl (fun hd => ?_) (fun hd => ?_)
  · refine mw_over [(179, .inl (.int, 189, .inl (vI v)))] (mov_self (by simp [hv])) ?_
    refine mw_aload_n (i := 0) rfl rfl rfl ?_
    refine mw_getfield rfl f_X10_7 (by first | rfl | exact hO | exact hv) rfl ?_
    refine mw_iconst (v := nI 1) rfl (by decide) ?_
    refine mw_dup2 rfl rfl rfl ?_
    refine mw_iald rfl (by first | rfl | exact hO | exact hv) (by omega) (by omega) ?_
    refine mw_iconst (v := nI 1) rfl (by decide) ?_
    refine mw_nsub (b := 1) rfl (by omega) ?_
    refine mw_iast_m rfl (by first | rfl | exact hO | exact hv) (by omega) (by omega) ?_
    first | rw [vI_upd] | rw [vI_updv] | skip
    refine mw_bipush (v := nI 9) rfl (by decide) ?_
    refine mw_iconst (v := nI 3) rfl (by decide) ?_
    refine mw_iload_n (i := 1) rfl rfl rfl ?_
    first | refine mw_nmul rfl ?_ | refine mw_imul rfl ?_
    first | refine mw_nadd rfl ?_ | refine mw_iadd rfl ?_
    refine mw_istore_n (i := 2) rfl rfl (Nat.le_of_ble_eq_true rfl) ?_
    have e1 : ∀ j, shV (updN v 1 (v 1 - 1)) 3 (9 + 3 * f) j 1 = v 1 - 1 := by
      intro j
      simp only [shV, updN]
      rw [if_neg (by omega)]
      rfl
    have loop : ∀ j, j ≤ 9 + 3 * (v 1 - 1) → 9 + 3 * f ≤ j → MW M_X10_removeFact (d + 1) 0 0 n post 35 [(0, .ref 178), (1, .int (nI f)), (2, .int (nI j))] [] (mov [(179, .inl (.int, 189, .inl (vI (shV (updN v 1 (v 1 - 1)) 3 (9 + 3 * f) j))))] h) n 0 := by
      refine loop_up (P := fun j => 9 + 3 * f ≤ j → MW M_X10_removeFact (d + 1) 0 0 n post 35 [(0, .ref 178), (1, .int (nI f)), (2, .int (nI j))] [] (mov [(179, .inl (.int, 189, .inl (vI (shV (updN v 1 (v 1 - 1)) 3 (9 + 3 * f) j))))] h) n 0) (9 + 3 * (v 1 - 1)) ?_ ?_
      · intro _
        refine mw_iload_n (i := 2) rfl rfl rfl ?_
        refine mw_bipush (v := nI 9) rfl (by decide) ?_
        refine mw_iconst (v := nI 3) rfl (by decide) ?_
        refine mw_aload_n (i := 0) rfl rfl rfl ?_
        refine mw_getfield rfl f_X10_7 (by first | rfl | exact hO | exact hv) rfl ?_
        refine mw_iconst (v := nI 1) rfl (by decide) ?_
        refine mw_iald_v (v := nI (v 1 - 1)) rfl rfl (by omega) (by omega) (congrArg nI (e1 _)) ?_
        first | refine mw_nmul rfl ?_ | refine mw_imul rfl ?_
        first | refine mw_nadd rfl ?_ | refine mw_iadd rfl ?_
        refine mw_n_ge rfl (by omega) (by omega) (fun hc => ?_) (fun hc => ?_)
        · refine mw_aload_n (i := 0) rfl rfl rfl ?_
          refine mw_iconst (v := nI 0) rfl (by decide) ?_
          first | refine mw_putfield_m rfl f_X10_76 (by first | rfl | exact hO | exact hv) (Nat.le_of_ble_eq_true rfl) (fun _ => bI_nar _) (fun _ => bI_fit _) ?_ | refine mw_putfield_m rfl f_X10_76 (by first | rfl | exact hO | exact hv) (Nat.le_of_ble_eq_true rfl) (fun _ => rfl) (fun _ => rfl) ?_
          refine mw_aload_n (i := 0) rfl rfl rfl ?_
          refine mw_getfield rfl f_X10_7 (by first | rfl | exact hO | exact hv) rfl ?_
          refine mw_iconst (v := nI 1) rfl (by decide) ?_
          refine mw_iald_v (v := nI (v 1 - 1)) rfl rfl (by omega) (by omega) (congrArg nI (e1 _)) ?_
          exact mw_ireturn rfl rfl rfl rfl (Nat.le_refl _) (hp)
        · omega
      · intro j hj ih hj2
        refine mw_iload_n (i := 2) rfl rfl rfl ?_
        refine mw_bipush (v := nI 9) rfl (by decide) ?_
        refine mw_iconst (v := nI 3) rfl (by decide) ?_
        refine mw_aload_n (i := 0) rfl rfl rfl ?_
        refine mw_getfield rfl f_X10_7 (by first | rfl | exact hO | exact hv) rfl ?_
        refine mw_iconst (v := nI 1) rfl (by decide) ?_
        refine mw_iald_v (v := nI (v 1 - 1)) rfl rfl (by omega) (by omega) (congrArg nI (e1 _)) ?_
        first | refine mw_nmul rfl ?_ | refine mw_imul rfl ?_
        first | refine mw_nadd rfl ?_ | refine mw_iadd rfl ?_
        refine mw_n_ge rfl (by omega) (by omega) (fun hc => ?_) (fun hc => ?_)
        · omega
        · refine mw_aload_n (i := 0) rfl rfl rfl ?_
          refine mw_getfield rfl f_X10_7 (by first | rfl | exact hO | exact hv) rfl ?_
          refine mw_iload_n (i := 2) rfl rfl rfl ?_
          refine mw_aload_n (i := 0) rfl rfl rfl ?_
          refine mw_getfield rfl f_X10_7 (by first | rfl | exact hO | exact hv) rfl ?_
          refine mw_iload_n (i := 2) rfl rfl rfl ?_
          refine mw_iconst (v := nI 3) rfl (by decide) ?_
          first | refine mw_nadd rfl ?_ | refine mw_iadd rfl ?_
          refine mw_iald rfl (by first | rfl | exact hO | exact hv) (by omega) (by omega) ?_
          refine mw_iast_m rfl (by first | rfl | exact hO | exact hv) (by omega) (by omega) ?_
          first | rw [vI_upd] | rw [vI_updv] | skip
          first | refine mw_ninc rfl rfl (Nat.le_of_ble_eq_true rfl) ?_ | refine mw_iinc rfl rfl rfl (Nat.le_of_ble_eq_true rfl) ?_
          refine mw_goto rfl ?_
          refine mw_locals rfl (mw_heap (heap1N fun i => ?_) (ih (by omega)))
          simp only [updN, shV]
          by_cases q1 : i = j
          · subst q1
            rw [if_pos (by omega), if_pos rfl, if_neg (by omega), if_neg (by omega)]
          · rw [if_neg q1]
            by_cases q2 : 9 + 3 * f ≤ i ∧ i < j
            · rw [if_pos q2, if_pos (by omega)]
            · rw [if_neg q2, if_neg (by omega)]
    refine mw_locals (L2 := [(0, .ref 178), (1, .int (nI f)), (2, .int (nI (9 + 3 * f)))]) rfl (mw_heap (heap1N fun i => ?_) (loop (9 + 3 * f) (by omega) (Nat.le_refl _)))
    simp only [shV]
    rw [if_neg (by omega)]
  · cases hd
theorem c_removeRule_e (d n : Nat) (x : Int32) (w : Nat → Int32) (v : Nat → Nat) (h : Nat → MC) (hO : h 178 = RO w) (hv : h 179 = .inl (.int, 189, .inl (vI v))) (hx : decide (nI 0 ≤ x ∧ x ≤ nI (v 2) - nI 1) = false) : Fn M_X10_removeRule (d + 1) 0 0 [.ref 178, .int x] h n (some (.int (-1))) h := by
  refine Fn.of fun post hp => ?_
  refine mw_iload_n (i := 1) rfl rfl rfl ?_
  refine mw_iconst (v := nI 0) rfl (by decide) ?_
  refine mw_aload_n (i := 0) rfl rfl rfl ?_
  refine mw_getfield rfl f_X10_7 (by first | rfl | exact hO | exact hv) rfl ?_
  refine mw_iconst (v := nI 2) rfl (by decide) ?_
  refine mw_iald rfl (by first | rfl | exact hO | exact hv) (by omega) (by omega) ?_
  refine mw_iconst (v := nI 1) rfl (by decide) ?_
  refine mw_isub rfl ?_
  refine mw_callS_f (c_in d n x (nI 0) (nI (v 2) - nI 1) h) rfl ok_X10_in v_X10_80 rfl (Nat.le_of_ble_eq_true rfl) rfl (Nat.le_of_ble_eq_true rfl) (by omega) (by omega) (by omega) ?_
  rw [hx]
  refine mw_b_ne rfl (fun hd => ?_) (fun hd => ?_)
  · cases hd
  · refine mw_iconst (v := (-1)) rfl (by decide) ?_
    exact mw_ireturn rfl rfl rfl rfl (Nat.le_refl _) (hp)
theorem c_removeRule (d n : Nat) (f : Nat) (w : Nat → Int32) (v : Nat → Nat) (h : Nat → MC) (hO : h 178 = RO w) (hv : h 179 = .inl (.int, 189, .inl (vI v))) (hok : OkN v) (hx : f < v 2) : Fn M_X10_removeRule (d + 1) 0 0 [.ref 178, .int (nI f)] h n (some (.int (nI (v 2 - 1)))) (mov [(179, .inl (.int, 189, .inl (vI (shV (updN v 2 (v 2 - 1)) 18 (45 + 18 * f) (45 + 18 * (v 2 - 1)))))), (178, RO (updN w 3 0))] h) := by
  refine Fn.of fun post hp => ?_
  have h12 := hok.2.2.2.1
  refine mw_iload_n (i := 1) rfl rfl rfl ?_
  refine mw_iconst (v := nI 0) rfl (by decide) ?_
  refine mw_aload_n (i := 0) rfl rfl rfl ?_
  refine mw_getfield rfl f_X10_7 (by first | rfl | exact hO | exact hv) rfl ?_
  refine mw_iconst (v := nI 2) rfl (by decide) ?_
  refine mw_iald rfl (by first | rfl | exact hO | exact hv) (by omega) (by omega) ?_
  refine mw_iconst (v := nI 1) rfl (by decide) ?_
  refine mw_nsub (b := 1) rfl (by omega) ?_
  refine mw_callS_f (c_in0 d n (nI f) (v 2 - 1) (by omega) h) rfl ok_X10_in v_X10_80 rfl (Nat.le_of_ble_eq_true rfl) rfl (Nat.le_of_ble_eq_true rfl) (by omega) (by omega) (by omega) ?_
  rw [inI_nI (show f < v 2 - 1 + 1 by omega) (by omega)]
  refine mw_b_ne rfl (fun hd => ?_) (fun hd => ?_)
  · refine mw_over [(179, .inl (.int, 189, .inl (vI v)))] (mov_self (by simp [hv])) ?_
    refine mw_aload_n (i := 0) rfl rfl rfl ?_
    refine mw_getfield rfl f_X10_7 (by first | rfl | exact hO | exact hv) rfl ?_
    refine mw_iconst (v := nI 2) rfl (by decide) ?_
    refine mw_dup2 rfl rfl rfl ?_
    refine mw_iald rfl (by first | rfl | exact hO | exact hv) (by omega) (by omega) ?_
    refine mw_iconst (v := nI 1) rfl (by decide) ?_
    refine mw_nsub (b := 1) rfl (by omega) ?_
    refine mw_iast_m rfl (by first | rfl | exact hO | exact hv) (by omega) (by omega) ?_
    first | rw [vI_upd] | rw [vI_updv] | skip
    refine mw_bipush (v := nI 45) rfl (by decide) ?_
    refine mw_bipush (v := nI 18) rfl (by decide) ?_
    refine mw_iload_n (i := 1) rfl rfl rfl ?_
    first | refine mw_nmul rfl ?_ | refine mw_imul rfl ?_
    first | refine mw_nadd rfl ?_ | refine mw_iadd rfl ?_
    refine mw_istore_n (i := 2) rfl rfl (Nat.le_of_ble_eq_true rfl) ?_
    have e1 : ∀ j, shV (updN v 2 (v 2 - 1)) 18 (45 + 18 * f) j 2 = v 2 - 1 := by
      intro j
      simp only [shV, updN]
      rw [if_neg (by omega)]
      rfl
    have loop : ∀ j, j ≤ 45 + 18 * (v 2 - 1) → 45 + 18 * f ≤ j → MW M_X10_removeRule (d + 1) 0 0 n post 36 [(0, .ref 178), (1, .int (nI f)), (2, .int (nI j))] [] (mov [(179, .inl (.int, 189, .inl (vI (shV (updN v 2 (v 2 - 1)) 18 (45 + 18 * f) j))))] h) n 0 := by
      refine loop_up (P := fun j => 45 + 18 * f ≤ j → MW M_X10_removeRule (d + 1) 0 0 n post 36 [(0, .ref 178), (1, .int (nI f)), (2, .int (nI j))] [] (mov [(179, .inl (.int, 189, .inl (vI (shV (updN v 2 (v 2 - 1)) 18 (45 + 18 * f) j))))] h) n 0) (45 + 18 * (v 2 - 1)) ?_ ?_
      · intro _
        refine mw_iload_n (i := 2) rfl rfl rfl ?_
        refine mw_bipush (v := nI 45) rfl (by decide) ?_
        refine mw_bipush (v := nI 18) rfl (by decide) ?_
        refine mw_aload_n (i := 0) rfl rfl rfl ?_
        refine mw_getfield rfl f_X10_7 (by first | rfl | exact hO | exact hv) rfl ?_
        refine mw_iconst (v := nI 2) rfl (by decide) ?_
        refine mw_iald_v (v := nI (v 2 - 1)) rfl rfl (by omega) (by omega) (congrArg nI (e1 _)) ?_
        first | refine mw_nmul rfl ?_ | refine mw_imul rfl ?_
        first | refine mw_nadd rfl ?_ | refine mw_iadd rfl ?_
        refine mw_n_ge rfl (by omega) (by omega) (fun hc => ?_) (fun hc => ?_)
        · refine mw_aload_n (i := 0) rfl rfl rfl ?_
          refine mw_iconst (v := nI 0) rfl (by decide) ?_
          first | refine mw_putfield_m rfl f_X10_76 (by first | rfl | exact hO | exact hv) (Nat.le_of_ble_eq_true rfl) (fun _ => bI_nar _) (fun _ => bI_fit _) ?_ | refine mw_putfield_m rfl f_X10_76 (by first | rfl | exact hO | exact hv) (Nat.le_of_ble_eq_true rfl) (fun _ => rfl) (fun _ => rfl) ?_
          refine mw_aload_n (i := 0) rfl rfl rfl ?_
          refine mw_getfield rfl f_X10_7 (by first | rfl | exact hO | exact hv) rfl ?_
          refine mw_iconst (v := nI 2) rfl (by decide) ?_
          refine mw_iald_v (v := nI (v 2 - 1)) rfl rfl (by omega) (by omega) (congrArg nI (e1 _)) ?_
          exact mw_ireturn rfl rfl rfl rfl (Nat.le_refl _) (hp)
        · omega
      · intro j hj ih hj2
        refine mw_iload_n (i := 2) rfl rfl rfl ?_
        refine mw_bipush (v := nI 45) rfl (by decide) ?_
        refine mw_bipush (v := nI 18) rfl (by decide) ?_
        refine mw_aload_n (i := 0) rfl rfl rfl ?_
        refine mw_getfield rfl f_X10_7 (by first | rfl | exact hO | exact hv) rfl ?_
        refine mw_iconst (v := nI 2) rfl (by decide) ?_
        refine mw_iald_v (v := nI (v 2 - 1)) rfl rfl (by omega) (by omega) (congrArg nI (e1 _)) ?_
        first | refine mw_nmul rfl ?_ | refine mw_imul rfl ?_
        first | refine mw_nadd rfl ?_ | refine mw_iadd rfl ?_
        refine mw_n_ge rfl (by omega) (by omega) (fun hc => ?_) (fun hc => ?_)
        · omega
        · refine mw_aload_n (i := 0) rfl rfl rfl ?_
          refine mw_getfield rfl f_X10_7 (by first | rfl | exact hO | exact hv) rfl ?_
          refine mw_iload_n (i := 2) rfl rfl rfl ?_
          refine mw_aload_n (i := 0) rfl rfl rfl ?_
          refine mw_getfield rfl f_X10_7 (by first | rfl | exact hO | exact hv) rfl ?_
          refine mw_iload_n (i := 2) rfl rfl rfl ?_
          refine mw_bipush (v := nI 18) rfl (by decide) ?_
          first | refine mw_nadd rfl ?_ | refine mw_iadd rfl ?_
          refine mw_iald rfl (by first | rfl | exact hO | exact hv) (by omega) (by omega) ?_
          refine mw_iast_m rfl (by first | rfl | exact hO | exact hv) (by omega) (by omega) ?_
          first | rw [vI_upd] | rw [vI_updv] | skip
          first | refine mw_ninc rfl rfl (Nat.le_of_ble_eq_true rfl) ?_ | refine mw_iinc rfl rfl rfl (Nat.le_of_ble_eq_true rfl) ?_
          refine mw_goto rfl ?_
          refine mw_locals rfl (mw_heap (heap1N fun i => ?_) (ih (by omega)))
          simp only [updN, shV]
          by_cases q1 : i = j
          · subst q1
            rw [if_pos (by omega), if_pos rfl, if_neg (by omega), if_neg (by omega)]
          · rw [if_neg q1]
            by_cases q2 : 45 + 18 * f ≤ i ∧ i < j
            · rw [if_pos q2, if_pos (by omega)]
            · rw [if_neg q2, if_neg (by omega)]
    refine mw_locals (L2 := [(0, .ref 178), (1, .int (nI f)), (2, .int (nI (45 + 18 * f)))]) rfl (mw_heap (heap1N fun i => ?_) (loop (45 + 18 * f) (by omega) (Nat.le_refl _)))
    simp only [shV]
    rw [if_neg (by omega)]
  · cases hd
theorem c_append_e1 (d n : Nat) (x : Int32) (h : Nat → MC) (hx : inI x 128 = false) : Fn M_X10_append (d + 1) 0 0 [.ref 178, .int x] h n (some (.int (-2))) h := by
  refine Fn.of fun post hp => ?_
  refine mw_iload_n (i := 1) rfl rfl rfl ?_
  refine mw_iconst (v := nI 0) rfl (by decide) ?_
  refine mw_bipush (v := nI 127) rfl (by decide) ?_
  refine mw_callS_f (c_in0 d n x 127 (by omega) h) rfl ok_X10_in v_X10_80 rfl (Nat.le_of_ble_eq_true rfl) rfl (Nat.le_of_ble_eq_true rfl) (by omega) (by omega) (by omega) ?_
  rw [hx]
  refine mw_b_ne rfl (fun hd => ?_) (fun hd => ?_)
  · cases hd
  · refine mw_bipush (v := (-2)) rfl (by decide) ?_
    exact mw_ireturn rfl rfl rfl rfl (Nat.le_refl _) (hp)
theorem c_append_e2 (d n : Nat) (x : Int32) (w : Nat → Int32) (h : Nat → MC) (hO : h 178 = RO w) (hx : inI x 128 = true) (hl : w 0 = nI 60) : Fn M_X10_append (d + 1) 0 0 [.ref 178, .int x] h n (some (.int (-4))) h := by
  refine Fn.of fun post hp => ?_
  refine mw_iload_n (i := 1) rfl rfl rfl ?_
  refine mw_iconst (v := nI 0) rfl (by decide) ?_
  refine mw_bipush (v := nI 127) rfl (by decide) ?_
  refine mw_callS_f (c_in0 d n x 127 (by omega) h) rfl ok_X10_in v_X10_80 rfl (Nat.le_of_ble_eq_true rfl) rfl (Nat.le_of_ble_eq_true rfl) (by omega) (by omega) (by omega) ?_
  rw [hx]
  refine mw_b_ne rfl (fun hd => ?_) (fun hd => ?_)
  · refine mw_aload_n (i := 0) rfl rfl rfl ?_
    refine mw_getfield rfl f_X10_102 (by first | rfl | exact hO) rfl ?_
    rw [hl]
    refine mw_bipush (v := nI 60) rfl (by decide) ?_
    refine mw_n_ne rfl (by omega) (by omega) (fun hc => ?_) (fun hc => ?_)
    · omega
    · refine mw_bipush (v := (-4)) rfl (by decide) ?_
      exact mw_ireturn rfl rfl rfl rfl (Nat.le_refl _) (hp)
  · cases hd
theorem c_append (d n : Nat) (x tl : Nat) (w : Nat → Int32) (t : Nat → Nat) (h : Nat → MC) (hO : h 178 = RO w) (ht : h 182 = .inl (.int, 60, .inl (vI t))) (hx : x < 128) (hl : w 0 = nI tl) (hl60 : tl < 60) : Fn M_X10_append (d + 1) 0 0 [.ref 178, .int (nI x)] h n (some (.int (nI (tl + 1)))) (mov [(182, .inl (.int, 60, .inl (vI (updN t tl x)))), (178, RO (updN w 0 (nI (tl + 1))))] h) := by
  refine Fn.of fun post hp => ?_
  refine mw_iload_n (i := 1) rfl rfl rfl ?_
  refine mw_iconst (v := nI 0) rfl (by decide) ?_
  refine mw_bipush (v := nI 127) rfl (by decide) ?_
  refine mw_callS_f (c_in0 d n (nI x) 127 (by omega) h) rfl ok_X10_in v_X10_80 rfl (Nat.le_of_ble_eq_true rfl) rfl (Nat.le_of_ble_eq_true rfl) (by omega) (by omega) (by omega) ?_
  rw [inI_nI (show x < 127 + 1 by omega) (by omega)]
  refine mw_b_ne rfl (fun hd => ?_) (fun hd => ?_)
  · refine mw_aload_n (i := 0) rfl rfl rfl ?_
    refine mw_getfield rfl f_X10_102 (by first | rfl | exact hO | exact ht) rfl ?_
    rw [hl]
    refine mw_bipush (v := nI 60) rfl (by decide) ?_
    refine mw_n_ne rfl (by omega) (by omega) (fun hc => ?_) (fun hc => ?_)
    · refine mw_over [(182, .inl (.int, 60, .inl (vI t)))] (mov_self (by simp [ht])) ?_
      refine mw_aload_n (i := 0) rfl rfl rfl ?_
      refine mw_getfield rfl f_X10_20 (by first | rfl | exact hO | exact ht) rfl ?_
      refine mw_aload_n (i := 0) rfl rfl rfl ?_
      refine mw_getfield rfl f_X10_102 (by first | rfl | exact hO | exact ht) rfl ?_
      rw [hl]
      refine mw_iload_n (i := 1) rfl rfl rfl ?_
      refine mw_iast_m rfl (by first | rfl | exact hO | exact ht) (by omega) (by omega) ?_
      first | rw [vI_upd] | rw [vI_updv] | skip
      refine mw_aload_n (i := 0) rfl rfl rfl ?_
      refine mw_dup rfl rfl ?_
      refine mw_getfield rfl f_X10_102 (by first | rfl | exact hO | exact ht) rfl ?_
      rw [hl]
      refine mw_iconst (v := nI 1) rfl (by decide) ?_
      first | refine mw_nadd rfl ?_ | refine mw_iadd rfl ?_
      refine mw_putfield_m rfl f_X10_102 (by first | rfl | exact hO | exact ht) (Nat.le_of_ble_eq_true rfl) (fun _ => rfl) (fun _ => rfl) ?_
      refine mw_aload_n (i := 0) rfl rfl rfl ?_
      refine mw_getfield rfl f_X10_102 (by first | rfl | exact hO | exact ht) rfl ?_
      exact mw_ireturn rfl rfl rfl rfl (Nat.le_refl _) (hp)
    · omega
  · cases hd
theorem c_clearText (d n : Nat) (w : Nat → Int32) (h : Nat → MC) (hO : h 178 = RO w) : Fn M_X10_clearText d 0 0 [.ref 178] h n (some (.int (w 0))) (hset h 178 (RO (updN w 0 0))) := by
  refine Fn.of fun post hp => ?_
  refine mw_aload_n (i := 0) rfl rfl rfl ?_
  refine mw_getfield rfl f_X10_102 (by first | rfl | exact hO) rfl ?_
  refine mw_istore_n (i := 1) rfl rfl (Nat.le_of_ble_eq_true rfl) ?_
  refine mw_aload_n (i := 0) rfl rfl rfl ?_
  refine mw_iconst (v := nI 0) rfl (by decide) ?_
  refine mw_putfield rfl f_X10_102 (by first | rfl | exact hO) (Nat.le_of_ble_eq_true rfl) (fun _ => rfl) (fun _ => rfl) ?_
  refine mw_iload_n (i := 1) rfl rfl rfl ?_
  exact mw_ireturn rfl rfl rfl rfl (Nat.le_refl _) (hp)
