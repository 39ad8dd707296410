/-! THE CLASS'S CONSTRUCTORS: text -/
abbrev ruL (R : RuS) : MLs := [(51, .inr (6, [.ref 52, .ref 53, .ref 54, .ref 55, .int (nI R.li), .int (nI R.pc)])), (52, .inl (.int, 4, .inl (vI R.pr))), (53, .inl (.int, 4, .inl (vI R.fi))), (54, .inl (.int, 4, .inl (vI R.se))), (55, .inl (.boolean, 4, .inl (bIf R.ng)))]
theorem ru51 (R : RuS) (h : Nat → MC) : ruH 51 R h = mov (ruL R) h := by
  funext j
  by_cases q : 51 ≤ j ∧ j < 56
  · obtain (e | e | e | e | e) : j = 51 ∨ j = 52 ∨ j = 53 ∨ j = 54 ∨ j = 55 := by omega
    · rw [e]; exact ruH_0
    · rw [e]; exact ruH_1
    · rw [e]; exact ruH_2
    · rw [e]; exact ruH_at 51 R h (i := 3) (by omega)
    · rw [e]; exact ruH_at 51 R h (i := 4) (by omega)
  · have e : mlk (ruL R) j = none := mlk_none.mpr (by
      show ¬ j ∈ [51, 52, 53, 54, 55]
      simp only [List.mem_cons, List.not_mem_nil, or_false]
      omega)
    rw [ruH_o (by omega)]
    simp only [mov, e]
abbrev txN : MLs := [(49, .inr (7, [.ref 50, .int (nI 0), .ref 51, .int (nI 0)])), (50, .inl (.int, 60, .inl (vI (fun _ => 0)))), (51, .inr (6, [.ref 52, .ref 53, .ref 54, .ref 55, .int (nI 0), .int (nI 0)])), (55, .inl (.boolean, 4, .inl (bIf (fun _ => false)))), (54, .inl (.int, 4, .inl (vI (fun _ => 0)))), (53, .inl (.int, 4, .inl (vI (fun _ => 0)))), (52, .inl (.int, 4, .inl (vI (fun _ => 0))))]
theorem c_X7_init (d : Nat) (h : Nat → MC) (hO : h 49 = .inr (7, [.null, .int 0, .null, .int 0])) : Fn M_X7_init (d + 2) 6 82 [.ref 49] h 50 none (mov txN h) := by
  refine Fn.of fun post hp => ?_
  refine mw_over [(49, .inr (7, [.null, .int 0, .null, .int 0]))] (mov_self (by simp [hO])) ?_
  refine mw_aload_n (i := 0) rfl rfl rfl ?_
  refine mw_objInit rfl v_X7_3 (by omega) (Nat.le_of_ble_eq_true rfl) ?_
  refine mw_aload_n (i := 0) rfl rfl rfl ?_
  refine mw_bipush (v := nI 60) rfl (by decide) ?_
  refine mw_newarray (ti := 0) (x := .inl (fun _ => 0)) rfl rfl rfl ac_int (fun _ => rfl) (fun _ => rfl) (by omega) (by omega) (by omega) ?_
  first | rw [hset_mov] | skip
  refine mw_putfieldF rfl f_X7_9 rfl rfl (by first | rfl | exact rfl) (Nat.le_of_ble_eq_true rfl) (fun _ => rfl) (fun _ => rfl) ?_
  first | rw [hset_mov] | skip
  refine mw_aload_n (i := 0) rfl rfl rfl ?_
  refine mw_new rfl n_X7_15 (by omega) (by omega) ?_
  first | rw [hset_mov] | skip
  refine mw_dup rfl rfl ?_
  refine mw_callN_f (c_X6_init d 51 _ rfl) rfl ok_X6_init rfl v_X7_17 rfl (Nat.le_of_ble_eq_true rfl) rfl (Nat.le_of_ble_eq_true rfl) (by omega) (by omega) (by omega) ?_
  rw [ru51, ← mov_puts]
  refine mw_putfieldF rfl f_X7_18 rfl rfl (by first | rfl | exact rfl) (Nat.le_of_ble_eq_true rfl) (fun _ => rfl) (fun _ => rfl) ?_
  first | rw [hset_mov] | skip
  exact mw_return rfl rfl rfl (Nat.le_refl _) (hp)
