/-! THE CLASS'S CONSTRUCTORS -/
def ruS0 : RuS := (fun _ => 0, fun _ => 0, fun _ => 0, fun _ => false, 0, 0)
theorem c_X6_init (d a : Nat) (h : Nat → MC) (hO : h a = .inr (6, [.null, .null, .null, .null, .int 0, .int 0])) : Fn M_X6_init (d + 1) 4 16 [.ref a] h (a + 1) none (ruH a ruS0 h) := by
  refine Fn.of fun post hp => ?_
  refine mw_aload_n (i := 0) rfl rfl rfl ?_
  refine mw_objInit rfl v_X6_3 (by omega) (Nat.le_of_ble_eq_true rfl) ?_
  refine mw_aload_n (i := 0) rfl rfl rfl ?_
  refine mw_iconst (v := nI 4) rfl (by decide) ?_
  refine mw_newarray (ti := 0) (x := .inl (fun _ => 0)) rfl rfl rfl ac_int (fun _ => rfl) (fun _ => rfl) (by omega) (by omega) (by omega) ?_
  refine mw_putfieldF rfl f_X6_9 rfl rfl (by first | rfl | exact (hset_ne _ _ (by omega)).trans hO | exact (hset_ne _ _ (by omega)).trans (hset_same _ _ _) | exact hO) (Nat.le_of_ble_eq_true rfl) (fun _ => rfl) (fun _ => rfl) ?_
  refine mw_aload_n (i := 0) rfl rfl rfl ?_
  refine mw_iconst (v := nI 4) rfl (by decide) ?_
  refine mw_newarray (ti := 0) (x := .inl (fun _ => 0)) rfl rfl rfl ac_int (fun _ => rfl) (fun _ => rfl) (by omega) (by omega) (by omega) ?_
  refine mw_putfieldF rfl f_X6_15 rfl rfl (by first | rfl | exact (hset_ne _ _ (by omega)).trans hO | exact (hset_ne _ _ (by omega)).trans (hset_same _ _ _) | exact hO) (Nat.le_of_ble_eq_true rfl) (fun _ => rfl) (fun _ => rfl) ?_
  refine mw_aload_n (i := 0) rfl rfl rfl ?_
  refine mw_iconst (v := nI 4) rfl (by decide) ?_
  refine mw_newarray (ti := 0) (x := .inl (fun _ => 0)) rfl rfl rfl ac_int (fun _ => rfl) (fun _ => rfl) (by omega) (by omega) (by omega) ?_
  refine mw_putfieldF rfl f_X6_18 rfl rfl (by first | rfl | exact (hset_ne _ _ (by omega)).trans hO | exact (hset_ne _ _ (by omega)).trans (hset_same _ _ _) | exact hO) (Nat.le_of_ble_eq_true rfl) (fun _ => rfl) (fun _ => rfl) ?_
  refine mw_aload_n (i := 0) rfl rfl rfl ?_
  refine mw_iconst (v := nI 4) rfl (by decide) ?_
  refine mw_newarray (ti := 1) (x := .inl (fun _ => 0)) rfl rfl rfl ac_boolean (fun _ => rfl) (fun _ => rfl) (by omega) (by omega) (by omega) ?_
  refine mw_putfieldF rfl f_X6_21 rfl rfl (by first | rfl | exact (hset_ne _ _ (by omega)).trans hO | exact (hset_ne _ _ (by omega)).trans (hset_same _ _ _) | exact hO) (Nat.le_of_ble_eq_true rfl) (fun _ => rfl) (fun _ => rfl) ?_
  refine mw_return rfl rfl rfl (Nat.le_refl _) ?_
  refine Eq.subst (motive := fun w => post none w) ?_ hp
  funext j
  unfold ruH
  by_cases q0 : j = a
  · rw [if_pos (by omega), q0, Nat.sub_self, hset_same]
    rfl
  · rw [hset_ne _ _ q0]
    by_cases q4 : j = a + 4
    · rw [if_pos (by omega), q4, show a + 4 - a = 4 by omega]
      exact (hset_same _ _ _).symm
    · rw [hset_ne _ _ q4, hset_ne _ _ q0]
      by_cases q3 : j = a + 3
      · rw [if_pos (by omega), q3, show a + 3 - a = 3 by omega]
        exact (hset_same _ _ _).symm
      · rw [hset_ne _ _ q3, hset_ne _ _ q0]
        by_cases q2 : j = a + 2
        · rw [if_pos (by omega), q2, show a + 2 - a = 2 by omega]
          exact (hset_same _ _ _).symm
        · rw [hset_ne _ _ q2, hset_ne _ _ q0]
          by_cases q1 : j = a + 1
          · rw [if_pos (by omega), q1, show a + 1 - a = 1 by omega]
            exact (hset_same _ _ _).symm
          · rw [hset_ne _ _ q1, if_neg (by omega)]
def grD0 : GD := mkG (fun _ => 0) false 0 (fun _ => 0) (fun _ => 0) (fun _ => 0) (fun _ => 0) (fun _ => 0) (fun _ => 0) (fun _ => 0) (fun _ => 0) (fun _ => 0)
theorem c_X1_init (d : Nat) (h : Nat → MC) (hO : h 56 = .inr (1, [.null, .int 0, .int 0, .null, .null, .null, .null, .null, .null, .null, .null, .null])) : Fn M_X1_init (d + 1) 10 8696 [.ref 56] h 57 none (mov (grL grD0) h) := by
  refine Fn.of fun post hp => ?_
  refine mw_over [(56, .inr (1, [.null, .int 0, .int 0, .null, .null, .null, .null, .null, .null, .null, .null, .null]))] (mov_self (by simp [hO])) ?_
  refine mw_aload_n (i := 0) rfl rfl rfl ?_
  refine mw_objInit rfl v_X1_3 (by omega) (Nat.le_of_ble_eq_true rfl) ?_
  refine mw_aload_n (i := 0) rfl rfl rfl ?_
  refine mw_bipush (v := nI 6) rfl (by decide) ?_
  refine mw_newarray (ti := 0) (x := .inl (fun _ => 0)) rfl rfl rfl ac_int (fun _ => rfl) (fun _ => rfl) (by omega) (by omega) (by omega) ?_
  first | rw [hset_mov] | skip
  refine mw_putfieldF rfl f_X1_9 rfl rfl (by first | rfl | exact rfl) (Nat.le_of_ble_eq_true rfl) (fun _ => rfl) (fun _ => rfl) ?_
  first | rw [hset_mov] | skip
  refine mw_aload_n (i := 0) rfl rfl rfl ?_
  refine mw_bipush (v := nI 8) rfl (by decide) ?_
  refine mw_newarray (ti := 0) (x := .inl (fun _ => 0)) rfl rfl rfl ac_int (fun _ => rfl) (fun _ => rfl) (by omega) (by omega) (by omega) ?_
  first | rw [hset_mov] | skip
  refine mw_putfieldF rfl f_X1_15 rfl rfl (by first | rfl | exact rfl) (Nat.le_of_ble_eq_true rfl) (fun _ => rfl) (fun _ => rfl) ?_
  first | rw [hset_mov] | skip
  refine mw_aload_n (i := 0) rfl rfl rfl ?_
  refine mw_bipush (v := nI 8) rfl (by decide) ?_
  refine mw_newarray (ti := 0) (x := .inl (fun _ => 0)) rfl rfl rfl ac_int (fun _ => rfl) (fun _ => rfl) (by omega) (by omega) (by omega) ?_
  first | rw [hset_mov] | skip
  refine mw_putfieldF rfl f_X1_18 rfl rfl (by first | rfl | exact rfl) (Nat.le_of_ble_eq_true rfl) (fun _ => rfl) (fun _ => rfl) ?_
  first | rw [hset_mov] | skip
  refine mw_aload_n (i := 0) rfl rfl rfl ?_
  refine mw_bipush (v := nI 8) rfl (by decide) ?_
  refine mw_newarray (ti := 0) (x := .inl (fun _ => 0)) rfl rfl rfl ac_int (fun _ => rfl) (fun _ => rfl) (by omega) (by omega) (by omega) ?_
  first | rw [hset_mov] | skip
  refine mw_putfieldF rfl f_X1_21 rfl rfl (by first | rfl | exact rfl) (Nat.le_of_ble_eq_true rfl) (fun _ => rfl) (fun _ => rfl) ?_
  first | rw [hset_mov] | skip
  refine mw_aload_n (i := 0) rfl rfl rfl ?_
  refine mw_bipush (v := nI 8) rfl (by decide) ?_
  refine mw_newarray (ti := 0) (x := .inl (fun _ => 0)) rfl rfl rfl ac_int (fun _ => rfl) (fun _ => rfl) (by omega) (by omega) (by omega) ?_
  first | rw [hset_mov] | skip
  refine mw_putfieldF rfl f_X1_24 rfl rfl (by first | rfl | exact rfl) (Nat.le_of_ble_eq_true rfl) (fun _ => rfl) (fun _ => rfl) ?_
  first | rw [hset_mov] | skip
  refine mw_aload_n (i := 0) rfl rfl rfl ?_
  refine mw_bipush (v := nI 9) rfl (by decide) ?_
  refine mw_newarray (ti := 0) (x := .inl (fun _ => 0)) rfl rfl rfl ac_int (fun _ => rfl) (fun _ => rfl) (by omega) (by omega) (by omega) ?_
  first | rw [hset_mov] | skip
  refine mw_putfieldF rfl f_X1_27 rfl rfl (by first | rfl | exact rfl) (Nat.le_of_ble_eq_true rfl) (fun _ => rfl) (fun _ => rfl) ?_
  first | rw [hset_mov] | skip
  refine mw_aload_n (i := 0) rfl rfl rfl ?_
  refine mw_sipush (v := nI 1728) rfl (by decide) ?_
  refine mw_newarray (ti := 0) (x := .inl (fun _ => 0)) rfl rfl rfl ac_int (fun _ => rfl) (fun _ => rfl) (by omega) (by omega) (by omega) ?_
  first | rw [hset_mov] | skip
  refine mw_putfieldF rfl f_X1_30 rfl rfl (by first | rfl | exact rfl) (Nat.le_of_ble_eq_true rfl) (fun _ => rfl) (fun _ => rfl) ?_
  first | rw [hset_mov] | skip
  refine mw_aload_n (i := 0) rfl rfl rfl ?_
  refine mw_sipush (v := nI 1728) rfl (by decide) ?_
  refine mw_newarray (ti := 0) (x := .inl (fun _ => 0)) rfl rfl rfl ac_int (fun _ => rfl) (fun _ => rfl) (by omega) (by omega) (by omega) ?_
  first | rw [hset_mov] | skip
  refine mw_putfieldF rfl f_X1_33 rfl rfl (by first | rfl | exact rfl) (Nat.le_of_ble_eq_true rfl) (fun _ => rfl) (fun _ => rfl) ?_
  first | rw [hset_mov] | skip
  refine mw_aload_n (i := 0) rfl rfl rfl ?_
  refine mw_sipush (v := nI 5184) rfl (by decide) ?_
  refine mw_newarray (ti := 0) (x := .inl (fun _ => 0)) rfl rfl rfl ac_int (fun _ => rfl) (fun _ => rfl) (by omega) (by omega) (by omega) ?_
  first | rw [hset_mov] | skip
  refine mw_putfieldF rfl f_X1_36 rfl rfl (by first | rfl | exact rfl) (Nat.le_of_ble_eq_true rfl) (fun _ => rfl) (fun _ => rfl) ?_
  first | rw [hset_mov] | skip
  refine mw_aload_n (i := 0) rfl rfl rfl ?_
  refine mw_bipush (v := nI 9) rfl (by decide) ?_
  refine mw_newarray (ti := 0) (x := .inl (fun _ => 0)) rfl rfl rfl ac_int (fun _ => rfl) (fun _ => rfl) (by omega) (by omega) (by omega) ?_
  first | rw [hset_mov] | skip
  refine mw_putfieldF rfl f_X1_39 rfl rfl (by first | rfl | exact rfl) (Nat.le_of_ble_eq_true rfl) (fun _ => rfl) (fun _ => rfl) ?_
  first | rw [hset_mov] | skip
  exact mw_return rfl rfl rfl (Nat.le_refl _) (hp)
theorem c_X4_initA (d : Nat) (h : Nat → MC) (hO : h 67 = .inr (4, [.null, .int 0, .int 0])) : Fn M_X4_init (d + 1) 1 216 [.ref 67] h 68 none (mov [(67, .inr (4, [.ref 68, .int 0, .int 0])), (68, .inl (.int, 216, .inl (fun _ => 0)))] h) := by
  refine Fn.of fun post hp => ?_
  refine mw_over [(67, .inr (4, [.null, .int 0, .int 0]))] (mov_self (by simp [hO])) ?_
  refine mw_aload_n (i := 0) rfl rfl rfl ?_
  refine mw_objInit rfl v_X4_3 (by omega) (Nat.le_of_ble_eq_true rfl) ?_
  refine mw_aload_n (i := 0) rfl rfl rfl ?_
  refine mw_sipush (v := nI 216) rfl (by decide) ?_
  refine mw_newarray (ti := 0) (x := .inl (fun _ => 0)) rfl rfl rfl ac_int (fun _ => rfl) (fun _ => rfl) (by omega) (by omega) (by omega) ?_
  first | rw [hset_mov] | skip
  refine mw_putfieldF rfl f_X4_9 rfl rfl (by first | rfl | exact rfl) (Nat.le_of_ble_eq_true rfl) (fun _ => rfl) (fun _ => rfl) ?_
  first | rw [hset_mov] | skip
  exact mw_return rfl rfl rfl (Nat.le_refl _) (hp)
theorem c_X4_initB (d : Nat) (h : Nat → MC) (hO : h 84 = .inr (4, [.null, .int 0, .int 0])) : Fn M_X4_init (d + 1) 1 216 [.ref 84] h 85 none (mov [(84, .inr (4, [.ref 85, .int 0, .int 0])), (85, .inl (.int, 216, .inl (fun _ => 0)))] h) := by
  refine Fn.of fun post hp => ?_
  refine mw_over [(84, .inr (4, [.null, .int 0, .int 0]))] (mov_self (by simp [hO])) ?_
  refine mw_aload_n (i := 0) rfl rfl rfl ?_
  refine mw_objInit rfl v_X4_3 (by omega) (Nat.le_of_ble_eq_true rfl) ?_
  refine mw_aload_n (i := 0) rfl rfl rfl ?_
  refine mw_sipush (v := nI 216) rfl (by decide) ?_
  refine mw_newarray (ti := 0) (x := .inl (fun _ => 0)) rfl rfl rfl ac_int (fun _ => rfl) (fun _ => rfl) (by omega) (by omega) (by omega) ?_
  first | rw [hset_mov] | skip
  refine mw_putfieldF rfl f_X4_9 rfl rfl (by first | rfl | exact rfl) (Nat.le_of_ble_eq_true rfl) (fun _ => rfl) (fun _ => rfl) ?_
  first | rw [hset_mov] | skip
  exact mw_return rfl rfl rfl (Nat.le_refl _) (hp)
theorem c_X2_init (d : Nat) (h : Nat → MC) (hO : h 69 = .inr (2, [.null, .int 0, .null])) : Fn M_X2_init (d + 1) 2 1944 [.ref 69] h 70 none (mov (hdL (0, 0, (fun _ => 0), (fun _ => 0))) h) := by
  refine Fn.of fun post hp => ?_
  refine mw_over [(69, .inr (2, [.null, .int 0, .null]))] (mov_self (by simp [hO])) ?_
  refine mw_aload_n (i := 0) rfl rfl rfl ?_
  refine mw_objInit rfl v_X2_3 (by omega) (Nat.le_of_ble_eq_true rfl) ?_
  refine mw_aload_n (i := 0) rfl rfl rfl ?_
  refine mw_sipush (v := nI 1728) rfl (by decide) ?_
  refine mw_newarray (ti := 0) (x := .inl (fun _ => 0)) rfl rfl rfl ac_int (fun _ => rfl) (fun _ => rfl) (by omega) (by omega) (by omega) ?_
  first | rw [hset_mov] | skip
  refine mw_putfieldF rfl f_X2_9 rfl rfl (by first | rfl | exact rfl) (Nat.le_of_ble_eq_true rfl) (fun _ => rfl) (fun _ => rfl) ?_
  first | rw [hset_mov] | skip
  refine mw_aload_n (i := 0) rfl rfl rfl ?_
  refine mw_sipush (v := nI 216) rfl (by decide) ?_
  refine mw_newarray (ti := 0) (x := .inl (fun _ => 0)) rfl rfl rfl ac_int (fun _ => rfl) (fun _ => rfl) (by omega) (by omega) (by omega) ?_
  first | rw [hset_mov] | skip
  refine mw_putfieldF rfl f_X2_15 rfl rfl (by first | rfl | exact rfl) (Nat.le_of_ble_eq_true rfl) (fun _ => rfl) (fun _ => rfl) ?_
  first | rw [hset_mov] | skip
  exact mw_return rfl rfl rfl (Nat.le_refl _) (hp)
theorem c_X0_init (d : Nat) (h : Nat → MC) (hO : h 72 = .inr (0, [.null, .null, .null, .null, .null, .null])) : Fn M_X0_init (d + 1) 6 1296 [.ref 72] h 73 none (mov ((72, KO) :: kcL (fun _ => 0) (fun _ => 0) (fun _ => 0) (fun _ => 0) (fun _ => 0) (fun _ => 0)) h) := by
  refine Fn.of fun post hp => ?_
  refine mw_over [(72, .inr (0, [.null, .null, .null, .null, .null, .null]))] (mov_self (by simp [hO])) ?_
  refine mw_aload_n (i := 0) rfl rfl rfl ?_
  refine mw_objInit rfl v_X0_3 (by omega) (Nat.le_of_ble_eq_true rfl) ?_
  refine mw_aload_n (i := 0) rfl rfl rfl ?_
  refine mw_sipush (v := nI 216) rfl (by decide) ?_
  refine mw_newarray (ti := 0) (x := .inl (fun _ => 0)) rfl rfl rfl ac_int (fun _ => rfl) (fun _ => rfl) (by omega) (by omega) (by omega) ?_
  first | rw [hset_mov] | skip
  refine mw_putfieldF rfl f_X0_9 rfl rfl (by first | rfl | exact rfl) (Nat.le_of_ble_eq_true rfl) (fun _ => rfl) (fun _ => rfl) ?_
  first | rw [hset_mov] | skip
  refine mw_aload_n (i := 0) rfl rfl rfl ?_
  refine mw_sipush (v := nI 216) rfl (by decide) ?_
  refine mw_newarray (ti := 0) (x := .inl (fun _ => 0)) rfl rfl rfl ac_int (fun _ => rfl) (fun _ => rfl) (by omega) (by omega) (by omega) ?_
  first | rw [hset_mov] | skip
  refine mw_putfieldF rfl f_X0_15 rfl rfl (by first | rfl | exact rfl) (Nat.le_of_ble_eq_true rfl) (fun _ => rfl) (fun _ => rfl) ?_
  first | rw [hset_mov] | skip
  refine mw_aload_n (i := 0) rfl rfl rfl ?_
  refine mw_sipush (v := nI 216) rfl (by decide) ?_
  refine mw_newarray (ti := 0) (x := .inl (fun _ => 0)) rfl rfl rfl ac_int (fun _ => rfl) (fun _ => rfl) (by omega) (by omega) (by omega) ?_
  first | rw [hset_mov] | skip
  refine mw_putfieldF rfl f_X0_18 rfl rfl (by first | rfl | exact rfl) (Nat.le_of_ble_eq_true rfl) (fun _ => rfl) (fun _ => rfl) ?_
  first | rw [hset_mov] | skip
  refine mw_aload_n (i := 0) rfl rfl rfl ?_
  refine mw_sipush (v := nI 216) rfl (by decide) ?_
  refine mw_newarray (ti := 0) (x := .inl (fun _ => 0)) rfl rfl rfl ac_int (fun _ => rfl) (fun _ => rfl) (by omega) (by omega) (by omega) ?_
  first | rw [hset_mov] | skip
  refine mw_putfieldF rfl f_X0_21 rfl rfl (by first | rfl | exact rfl) (Nat.le_of_ble_eq_true rfl) (fun _ => rfl) (fun _ => rfl) ?_
  first | rw [hset_mov] | skip
  refine mw_aload_n (i := 0) rfl rfl rfl ?_
  refine mw_sipush (v := nI 216) rfl (by decide) ?_
  refine mw_newarray (ti := 0) (x := .inl (fun _ => 0)) rfl rfl rfl ac_int (fun _ => rfl) (fun _ => rfl) (by omega) (by omega) (by omega) ?_
  first | rw [hset_mov] | skip
  refine mw_putfieldF rfl f_X0_24 rfl rfl (by first | rfl | exact rfl) (Nat.le_of_ble_eq_true rfl) (fun _ => rfl) (fun _ => rfl) ?_
  first | rw [hset_mov] | skip
  refine mw_aload_n (i := 0) rfl rfl rfl ?_
  refine mw_sipush (v := nI 216) rfl (by decide) ?_
  refine mw_newarray (ti := 0) (x := .inl (fun _ => 0)) rfl rfl rfl ac_int (fun _ => rfl) (fun _ => rfl) (by omega) (by omega) (by omega) ?_
  first | rw [hset_mov] | skip
  refine mw_putfieldF rfl f_X0_27 rfl rfl (by first | rfl | exact rfl) (Nat.le_of_ble_eq_true rfl) (fun _ => rfl) (fun _ => rfl) ?_
  first | rw [hset_mov] | skip
  exact mw_return rfl rfl rfl (Nat.le_refl _) (hp)
theorem c_X3_init (d : Nat) (h : Nat → MC) (hO : h 79 = .inr (3, [.null])) : Fn M_X3_init (d + 1) 1 216 [.ref 79] h 80 none (mov ((79, LO) :: lkC (fun _ => 0)) h) := by
  refine Fn.of fun post hp => ?_
  refine mw_over [(79, .inr (3, [.null]))] (mov_self (by simp [hO])) ?_
  refine mw_aload_n (i := 0) rfl rfl rfl ?_
  refine mw_objInit rfl v_X3_3 (by omega) (Nat.le_of_ble_eq_true rfl) ?_
  refine mw_aload_n (i := 0) rfl rfl rfl ?_
  refine mw_sipush (v := nI 216) rfl (by decide) ?_
  refine mw_newarray (ti := 3) (x := .inr (.inr (.inl (fun _ => 0)))) rfl rfl rfl ac_float (fun _ => rfl) (fun _ => rfl) (by omega) (by omega) (by omega) ?_
  first | rw [hset_mov] | skip
  refine mw_putfieldF rfl f_X3_9 rfl rfl (by first | rfl | exact rfl) (Nat.le_of_ble_eq_true rfl) (fun _ => rfl) (fun _ => rfl) ?_
  first | rw [hset_mov] | skip
  exact mw_return rfl rfl rfl (Nat.le_refl _) (hp)
