theorem heap1N {h : Nat → MC} {k N : Nat} {ty : FieldType} {a b : Nat → Nat} (e : ∀ i, a i = b i) : mov [(k, .inl (ty, N, .inl (vI a)))] h = mov [(k, .inl (ty, N, .inl (vI b)))] h := by rw [show a = b from funext e]
theorem heap1 {h : Nat → MC} {k N : Nat} {ty : FieldType} {a b : Nat → Int32} (e : ∀ i, a i = b i) : mov [(k, .inl (ty, N, .inl a))] h = mov [(k, .inl (ty, N, .inl b))] h := by rw [show a = b from funext e]
/-- the reference's own cell; its numbers: 0 length, 1 place, 2 literals, 3 isFound, 4 isModel, 5 roundMany, 6 holding, 7 rounds -/
def RO (w : Nat → Int32) : MC := .inr (10, [.ref 179, .ref 180, .ref 181, .ref 182, .int (w 0), .int (w 1), .ref 183, .int (w 2), .int (w 3), .int (w 4), .ref 184, .ref 185, .ref 186, .ref 187, .ref 188, .int (w 5), .ref 189, .ref 190, .ref 191, .int (w 6), .int (w 7), .ref 192, .ref 193, .ref 194, .ref 195, .ref 196, .ref 197, .ref 198])
theorem c_in (d n : Nat) (x lo hi : Int32) (h : Nat → MC) : Fn M_X10_in d 0 0 [.int x, .int lo, .int hi] h n (some (.int (bI (decide (lo ≤ x ∧ x ≤ hi))))) h := by
  refine Fn.of fun post hp => ?_
  refine mw_iload_n (i := 0) rfl rfl rfl ?_
  refine mw_iload_n (i := 1) rfl rfl rfl ?_
  refine mw_icmp_lt rfl (fun hc => ?_) (fun hc => ?_)
  · have e : decide (lo ≤ x ∧ x ≤ hi) = false := by simp; intro h1; exact absurd hc (Int32.not_lt.mpr h1)
    rw [e] at hp
    refine mw_iconst (v := nI 0) rfl (by decide) ?_
    first | exact mw_ireturn rfl rfl (bI_nar _) rfl (Nat.le_refl _) (hp) | exact mw_ireturn rfl rfl rfl rfl (Nat.le_refl _) (hp)
  · refine mw_iload_n (i := 0) rfl rfl rfl ?_
    refine mw_iload_n (i := 2) rfl rfl rfl ?_
    refine mw_icmp_gt rfl (fun hc => ?_) (fun hc => ?_)
    · have e : decide (lo ≤ x ∧ x ≤ hi) = false := by simp; intro _; exact hc
      rw [e] at hp
      refine mw_iconst (v := nI 0) rfl (by decide) ?_
      first | exact mw_ireturn rfl rfl (bI_nar _) rfl (Nat.le_refl _) (hp) | exact mw_ireturn rfl rfl rfl rfl (Nat.le_refl _) (hp)
    · have e : decide (lo ≤ x ∧ x ≤ hi) = true := by simp; exact ⟨Int32.not_lt.mp (by assumption), Int32.not_lt.mp hc⟩
      rw [e] at hp
      refine mw_iconst (v := nI 1) rfl (by decide) ?_
      refine mw_goto rfl ?_
      first | exact mw_ireturn rfl rfl (bI_nar _) rfl (Nat.le_refl _) (hp) | exact mw_ireturn rfl rfl rfl rfl (Nat.le_refl _) (hp)
theorem c_in0 (d n : Nat) (x : Int32) (m : Nat) (hm : m + 1 < 2147483648) (h : Nat → MC) : Fn M_X10_in d 0 0 [.int x, .int (nI 0), .int (nI m)] h n (some (.int (bI (inI x (m + 1))))) h := by
  have := c_in d n x (nI 0) (nI m) h
  rw [show (nI 0 : Int32) = 0 from rfl, inI_in hm] at this
  exact this
theorem c_factOf (d n : Nat) (p a b : Nat) (h : Nat → MC) : Fn M_X10_factOf d 0 0 [.int (nI p), .int (nI a), .int (nI b)] h n (some (.int (nI (36 * p + 6 * a + b)))) h := by
  refine Fn.of fun post hp => ?_
  refine mw_bipush (v := nI 36) rfl (by decide) ?_
  refine mw_iload_n (i := 0) rfl rfl rfl ?_
  first | refine mw_nmul rfl ?_ | refine mw_imul rfl ?_
  refine mw_bipush (v := nI 6) rfl (by decide) ?_
  refine mw_iload_n (i := 1) rfl rfl rfl ?_
  first | refine mw_nmul rfl ?_ | refine mw_imul rfl ?_
  first | refine mw_nadd rfl ?_ | refine mw_iadd rfl ?_
  refine mw_iload_n (i := 2) rfl rfl rfl ?_
  first | refine mw_nadd rfl ?_ | refine mw_iadd rfl ?_
  exact mw_ireturn rfl rfl rfl rfl (Nat.le_refl _) (hp)
theorem c_atomAt (d n : Nat) (r a : Nat) (h : Nat → MC) : Fn M_X10_atomAt d 0 0 [.int (nI r), .int (nI a)] h n (some (.int (nI (45 + 18 * r + 2 + 4 * a)))) h := by
  refine Fn.of fun post hp => ?_
  refine mw_bipush (v := nI 45) rfl (by decide) ?_
  refine mw_bipush (v := nI 18) rfl (by decide) ?_
  refine mw_iload_n (i := 0) rfl rfl rfl ?_
  first | refine mw_nmul rfl ?_ | refine mw_imul rfl ?_
  first | refine mw_nadd rfl ?_ | refine mw_iadd rfl ?_
  refine mw_iconst (v := nI 2) rfl (by decide) ?_
  first | refine mw_nadd rfl ?_ | refine mw_iadd rfl ?_
  refine mw_iconst (v := nI 4) rfl (by decide) ?_
  refine mw_iload_n (i := 1) rfl rfl rfl ?_
  first | refine mw_nmul rfl ?_ | refine mw_imul rfl ?_
  first | refine mw_nadd rfl ?_ | refine mw_iadd rfl ?_
  exact mw_ireturn rfl rfl rfl rfl (Nat.le_refl _) (hp)
theorem c_isConstant (d n : Nat) (c : Int32) (w : Nat → Int32) (v : Nat → Nat) (h : Nat → MC) (hO : h 178 = RO w) (hv : h 179 = .inl (.int, 189, .inl (vI v))) (h1 : 1 ≤ v 0) (h6 : v 0 ≤ 6) : Fn M_X10_isConstant (d + 1) 0 0 [.ref 178, .int c] h n (some (.int (bI (inI c (v 0))))) h := by
  refine Fn.of fun post hp => ?_
  refine mw_iload_n (i := 1) rfl rfl rfl ?_
  refine mw_iconst (v := nI 0) rfl (by decide) ?_
  refine mw_aload_n (i := 0) rfl rfl rfl ?_
  refine mw_getfield rfl f_X10_7 (by first | rfl | exact hO | exact hv) rfl ?_
  refine mw_iconst (v := nI 0) rfl (by decide) ?_
  refine mw_iald rfl (by first | rfl | exact hO | exact hv) (by omega) (by omega) ?_
  refine mw_iconst (v := nI 1) rfl (by decide) ?_
  refine mw_nsub (b := 1) rfl h1 ?_
  refine mw_callS_f (c_in0 d n c (v 0 - 1) (by omega) h) rfl ok_X10_in v_X10_80 rfl (Nat.le_of_ble_eq_true rfl) rfl (Nat.le_of_ble_eq_true rfl) (by omega) (by omega) (by omega) ?_
  rw [Nat.sub_add_cancel h1]
  first | exact mw_ireturn rfl rfl (bI_nar _) rfl (Nat.le_refl _) (hp) | exact mw_ireturn rfl rfl rfl rfl (Nat.le_refl _) (hp)
def isF (v : Nat → Nat) (p a b : Int32) : Bool := inI p 6 && (inI a (v 0) && (inI b (v 0) && (v (3 + p.toNatClampNeg) == 2 || decide (b = 0))))
theorem c_isFact (d n : Nat) (p a b : Int32) (w : Nat → Int32) (v : Nat → Nat) (h : Nat → MC) (hO : h 178 = RO w) (hv : h 179 = .inl (.int, 189, .inl (vI v))) (h1 : 1 ≤ v 0) (h6 : v 0 ≤ 6) (hpl : ∀ p, p < 6 → v (3 + p) = 1 ∨ v (3 + p) = 2) : Fn M_X10_isFact (d + 2) 0 0 [.ref 178, .int p, .int a, .int b] h n (some (.int (bI (isF v p a b)))) h := by
  refine Fn.of fun post hp => ?_
  refine mw_iload_n (i := 1) rfl rfl rfl ?_
  refine mw_iconst (v := nI 0) rfl (by decide) ?_
  refine mw_iconst (v := nI 5) rfl (by decide) ?_
  refine mw_callS_f (c_in0 (d + 1) n p 5 (by omega) h) rfl ok_X10_in v_X10_80 rfl (Nat.le_of_ble_eq_true rfl) rfl (Nat.le_of_ble_eq_true rfl) (by omega) (by omega) (by omega) ?_
  refine mw_b_eq rfl (fun hc => ?_) (fun hc => ?_)
  · have e : isF v p a b = false := by simp [isF, hc]
    rw [e] at hp
    refine mw_iconst (v := nI 0) rfl (by decide) ?_
    first | exact mw_ireturn rfl rfl (bI_nar _) rfl (Nat.le_refl _) (hp) | exact mw_ireturn rfl rfl rfl rfl (Nat.le_refl _) (hp)
  · have hc1 := hc
    obtain ⟨q, hq, rfl⟩ := inI_of hc (by omega)
    refine mw_aload_n (i := 0) rfl rfl rfl ?_
    refine mw_iload_n (i := 2) rfl rfl rfl ?_
    refine mw_callV_f (c_isConstant d n a w v h hO hv h1 h6) rfl ok_X10_isConstant v_X10_84 rfl (by first | rfl | exact hO | exact hv) (by intro e; cases e) rfl (Nat.le_of_ble_eq_true rfl) rfl (Nat.le_of_ble_eq_true rfl) (by omega) (by omega) (by omega) ?_
    refine mw_b_eq rfl (fun hc => ?_) (fun hc => ?_)
    · have e : isF v (nI q) a b = false := by simp [isF, hc]
      rw [e] at hp
      refine mw_iconst (v := nI 0) rfl (by decide) ?_
      first | exact mw_ireturn rfl rfl (bI_nar _) rfl (Nat.le_refl _) (hp) | exact mw_ireturn rfl rfl rfl rfl (Nat.le_refl _) (hp)
    · have hc2 := hc
      refine mw_aload_n (i := 0) rfl rfl rfl ?_
      refine mw_iload_n (i := 3) rfl rfl rfl ?_
      refine mw_callV_f (c_isConstant d n b w v h hO hv h1 h6) rfl ok_X10_isConstant v_X10_84 rfl (by first | rfl | exact hO | exact hv) (by intro e; cases e) rfl (Nat.le_of_ble_eq_true rfl) rfl (Nat.le_of_ble_eq_true rfl) (by omega) (by omega) (by omega) ?_
      refine mw_b_eq rfl (fun hc => ?_) (fun hc => ?_)
      · have e : isF v (nI q) a b = false := by simp [isF, hc]
        rw [e] at hp
        refine mw_iconst (v := nI 0) rfl (by decide) ?_
        first | exact mw_ireturn rfl rfl (bI_nar _) rfl (Nat.le_refl _) (hp) | exact mw_ireturn rfl rfl rfl rfl (Nat.le_refl _) (hp)
      · have hc3 := hc
        have hq2 := hpl q hq
        refine mw_aload_n (i := 0) rfl rfl rfl ?_
        refine mw_getfield rfl f_X10_7 (by first | rfl | exact hO | exact hv) rfl ?_
        refine mw_iconst (v := nI 3) rfl (by decide) ?_
        refine mw_iload_n (i := 1) rfl rfl rfl ?_
        first | refine mw_nadd rfl ?_ | refine mw_iadd rfl ?_
        refine mw_iald rfl (by first | rfl | exact hO | exact hv) (by omega) (by omega) ?_
        refine mw_iconst (v := nI 2) rfl (by decide) ?_
        refine mw_n_eq rfl (by omega) (by omega) (fun hc => ?_) (fun hc => ?_)
        · have e : isF v (nI q) a b = true := by simp [isF, hc1, hc2, hc3, nI_clamp (show q < 2 ^ 31 by omega), hc]
          rw [e] at hp
          refine mw_iconst (v := nI 1) rfl (by decide) ?_
          refine mw_goto rfl ?_
          first | exact mw_ireturn rfl rfl (bI_nar _) rfl (Nat.le_refl _) (hp) | exact mw_ireturn rfl rfl rfl rfl (Nat.le_refl _) (hp)
        · refine mw_iload_n (i := 3) rfl rfl rfl ?_
          refine mw_if_ne rfl (fun hd => ?_) (fun hd => ?_)
          · have e : isF v (nI q) a b = false := by simp [isF, hc1, hc2, hc3, nI_clamp (show q < 2 ^ 31 by omega), hc, hd]
            rw [e] at hp
            refine mw_iconst (v := nI 0) rfl (by decide) ?_
            first | exact mw_ireturn rfl rfl (bI_nar _) rfl (Nat.le_refl _) (hp) | exact mw_ireturn rfl rfl rfl rfl (Nat.le_refl _) (hp)
          · have e : isF v (nI q) a b = true := by subst hd; simp [isF, hc1, hc2, hc3]
            rw [e] at hp
            refine mw_iconst (v := nI 1) rfl (by decide) ?_
            refine mw_goto rfl ?_
            first | exact mw_ireturn rfl rfl (bI_nar _) rfl (Nat.le_refl _) (hp) | exact mw_ireturn rfl rfl rfl rfl (Nat.le_refl _) (hp)
def anewV (v : Nat → Nat) (c : Nat) : Nat → Nat := fun j => if 3 ≤ j ∧ j < 9 then 2 else if j = 0 then c else if j < 189 then 0 else v j
theorem c_anew (d n : Nat) (c : Nat) (w : Nat → Int32) (v : Nat → Nat) (h : Nat → MC) (hO : h 178 = RO w) (hv : h 179 = .inl (.int, 189, .inl (vI v))) : Fn M_X10_anew d 0 0 [.ref 178, .int (nI c)] h n none (mov [(179, .inl (.int, 189, .inl (vI (anewV v c)))), (178, RO (updN w 3 0))] h) := by
  refine Fn.of fun post hp => ?_
  refine mw_over [(179, .inl (.int, 189, .inl (vI v)))] (mov_self (by simp [hv])) ?_
  refine mw_iconst (v := nI 0) rfl (by decide) ?_
  refine mw_istore_n (i := 2) rfl rfl (Nat.le_of_ble_eq_true rfl) ?_
  have loop2 : ∀ j, j ≤ 6 → MW M_X10_anew d 0 0 n post 31 [(0, .ref 178), (1, .int (nI c)), (2, .int (nI j))] [] (mov [(179, .inl (.int, 189, .inl (vI (fun i => if 3 ≤ i ∧ i < 3 + j then 2 else if i = 0 then c else if i < 189 then 0 else v i))))] h) n 0 := by
    refine loop_up 6 ?_ ?_
    · refine mw_iload_n (i := 2) rfl rfl rfl ?_
      refine mw_bipush (v := nI 6) rfl (by decide) ?_
      refine mw_n_ge rfl (by omega) (by omega) (fun hc => ?_) (fun hc => ?_)
      · refine mw_aload_n (i := 0) rfl rfl rfl ?_
        refine mw_iconst (v := nI 0) rfl (by decide) ?_
        first | refine mw_putfield_m rfl f_X10_76 (by first | rfl | exact hO | exact hv) (Nat.le_of_ble_eq_true rfl) (fun _ => bI_nar _) (fun _ => bI_fit _) ?_ | refine mw_putfield_m rfl f_X10_76 (by first | rfl | exact hO | exact hv) (Nat.le_of_ble_eq_true rfl) (fun _ => rfl) (fun _ => rfl) ?_
        exact mw_return rfl rfl rfl (Nat.le_refl _) (hp)
      · omega
    · intro j hj ih
      refine mw_iload_n (i := 2) rfl rfl rfl ?_
      refine mw_bipush (v := nI 6) rfl (by decide) ?_
      refine mw_n_ge rfl (by omega) (by omega) (fun hc => ?_) (fun hc => ?_)
      · omega
      · refine mw_aload_n (i := 0) rfl rfl rfl ?_
        refine mw_getfield rfl f_X10_7 (by first | rfl | exact hO | exact hv) rfl ?_
        refine mw_iconst (v := nI 3) rfl (by decide) ?_
        refine mw_iload_n (i := 2) rfl rfl rfl ?_
        first | refine mw_nadd rfl ?_ | refine mw_iadd rfl ?_
        refine mw_iconst (v := nI 2) rfl (by decide) ?_
        refine mw_iast_m rfl (by first | rfl | exact hO | exact hv) (by omega) (by omega) ?_
        first | rw [vI_upd] | rw [vI_updv] | skip
        first | refine mw_ninc rfl rfl (Nat.le_of_ble_eq_true rfl) ?_ | refine mw_iinc rfl rfl rfl (Nat.le_of_ble_eq_true rfl) ?_
        refine mw_goto rfl ?_
        refine mw_locals rfl (mw_heap (heap1N fun i => ?_) ih)
        simp only [updN]
        repeat' split
        all_goals omega
  have loop : ∀ j, j ≤ 189 → MW M_X10_anew d 0 0 n post 2 [(0, .ref 178), (1, .int (nI c)), (2, .int (nI j))] [] (mov [(179, .inl (.int, 189, .inl (vI (fun i => if i < j then 0 else v i))))] h) n 0 := by
    refine loop_up 189 ?_ ?_
    · refine mw_iload_n (i := 2) rfl rfl rfl ?_
      refine mw_sipush (v := nI 189) rfl (by decide) ?_
      refine mw_n_ge rfl (by omega) (by omega) (fun hc => ?_) (fun hc => ?_)
      · refine mw_aload_n (i := 0) rfl rfl rfl ?_
        refine mw_getfield rfl f_X10_7 (by first | rfl | exact hO | exact hv) rfl ?_
        refine mw_iconst (v := nI 0) rfl (by decide) ?_
        refine mw_iload_n (i := 1) rfl rfl rfl ?_
        refine mw_iast_m rfl (by first | rfl | exact hO | exact hv) (by omega) (by omega) ?_
        first | rw [vI_upd] | rw [vI_updv] | skip
        refine mw_iconst (v := nI 0) rfl (by decide) ?_
        refine mw_istore_n (i := 2) rfl rfl (Nat.le_of_ble_eq_true rfl) ?_
        refine mw_locals (L2 := [(0, .ref 178), (1, .int (nI c)), (2, .int (nI 0))]) rfl (mw_heap (heap1N fun i => ?_) (loop2 0 (by omega)))
        simp only [updN]
        repeat' split
        all_goals omega
      · omega
    · intro j hj ih
      refine mw_iload_n (i := 2) rfl rfl rfl ?_
      refine mw_sipush (v := nI 189) rfl (by decide) ?_
      refine mw_n_ge rfl (by omega) (by omega) (fun hc => ?_) (fun hc => ?_)
      · omega
      · refine mw_aload_n (i := 0) rfl rfl rfl ?_
        refine mw_getfield rfl f_X10_7 (by first | rfl | exact hO | exact hv) rfl ?_
        refine mw_iload_n (i := 2) rfl rfl rfl ?_
        refine mw_iconst (v := nI 0) rfl (by decide) ?_
        refine mw_iast_m rfl (by first | rfl | exact hO | exact hv) (by omega) (by omega) ?_
        first | rw [vI_upd] | rw [vI_updv] | skip
        first | refine mw_ninc rfl rfl (Nat.le_of_ble_eq_true rfl) ?_ | refine mw_iinc rfl rfl rfl (Nat.le_of_ble_eq_true rfl) ?_
        refine mw_goto rfl ?_
        refine mw_locals rfl (mw_heap (heap1N fun i => ?_) ih)
        simp only [updN]
        repeat' split
        all_goals omega
  refine mw_locals (L2 := [(0, .ref 178), (1, .int (nI c)), (2, .int (nI 0))]) rfl (mw_heap ?_ (loop 0 (by omega)))
  simp
theorem c_begin_e (d n : Nat) (c : Int32) (h : Nat → MC) (hc : ¬ (1 ≤ c ∧ c ≤ 6)) : Fn M_X10_begin (d + 1) 0 0 [.ref 178, .int c] h n (some (.int (-2))) h := by
  refine Fn.of fun post hp => ?_
  refine mw_iload_n (i := 1) rfl rfl rfl ?_
  refine mw_iconst (v := nI 1) rfl (by decide) ?_
  refine mw_bipush (v := nI 6) rfl (by decide) ?_
  refine mw_callS_f (c_in d n c (nI 1) (nI 6) h) rfl ok_X10_in v_X10_80 rfl (Nat.le_of_ble_eq_true rfl) rfl (Nat.le_of_ble_eq_true rfl) (by omega) (by omega) (by omega) ?_
  refine mw_b_ne rfl (fun hd => ?_) (fun hd => ?_)
  · exact absurd (of_decide_eq_true hd) hc
  · refine mw_bipush (v := (-2)) rfl (by decide) ?_
    exact mw_ireturn rfl rfl rfl rfl (Nat.le_refl _) (hp)
theorem c_begin (d n : Nat) (c : Nat) (w : Nat → Int32) (v : Nat → Nat) (h : Nat → MC) (hO : h 178 = RO w) (hv : h 179 = .inl (.int, 189, .inl (vI v))) (hc1 : 1 ≤ c) (hc6 : c ≤ 6) : Fn M_X10_begin (d + 1) 0 0 [.ref 178, .int (nI c)] h n (some (.int (nI (v 0)))) (mov [(179, .inl (.int, 189, .inl (vI (anewV v c)))), (178, RO (updN w 3 0))] h) := by
  refine Fn.of fun post hp => ?_
  refine mw_iload_n (i := 1) rfl rfl rfl ?_
  refine mw_iconst (v := nI 1) rfl (by decide) ?_
  refine mw_bipush (v := nI 6) rfl (by decide) ?_
  refine mw_callS_f (c_in d n (nI c) (nI 1) (nI 6) h) rfl ok_X10_in v_X10_80 rfl (Nat.le_of_ble_eq_true rfl) rfl (Nat.le_of_ble_eq_true rfl) (by omega) (by omega) (by omega) ?_
  refine mw_b_ne rfl (fun hd => ?_) (fun hd => ?_)
  · refine mw_aload_n (i := 0) rfl rfl rfl ?_
    refine mw_getfield rfl f_X10_7 (by first | rfl | exact hO | exact hv) rfl ?_
    refine mw_iconst (v := nI 0) rfl (by decide) ?_
    refine mw_iald rfl (by first | rfl | exact hO | exact hv) (by omega) (by omega) ?_
    refine mw_istore_n (i := 2) rfl rfl (Nat.le_of_ble_eq_true rfl) ?_
    refine mw_aload_n (i := 0) rfl rfl rfl ?_
    refine mw_iload_n (i := 1) rfl rfl rfl ?_
    refine mw_callV_f (c_anew d n c w v h hO hv) rfl ok_X10_anew v_X10_72 rfl (by first | rfl | exact hO | exact hv) (by intro e; cases e) rfl (Nat.le_of_ble_eq_true rfl) rfl (Nat.le_of_ble_eq_true rfl) (by omega) (by omega) (by omega) ?_
    refine mw_iload_n (i := 2) rfl rfl rfl ?_
    exact mw_ireturn rfl rfl rfl rfl (Nat.le_refl _) (hp)
  · exact absurd ⟨(nI_leI (by omega) (by omega)).mpr hc1, (nI_leI (by omega) (by omega)).mpr hc6⟩ (of_decide_eq_false hd)
