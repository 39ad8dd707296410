/-! P30: term, atom -/
theorem c_term (n x : Nat) {D0 : LD} {ls : List Nat} {h0 h : Nat → MC} (hT : TJ D0 ls h0 h) (hx : x < 9) (hl : ls.length < 60) : Sp M_L_term 7 0 0 [.ref 0, .int (nI x)] h n (fun r h1 => r = none ∧ TJ D0 (ls ++ [ltT x]) h0 h1) := by
  refine Sp.of2 fun post hp => ?_
  have hlt := ltT_lt hx
  refine mw_aload_n (i := 0) rfl rfl rfl ?_
  refine mw_iload_n (i := 1) rfl rfl rfl ?_
  refine mw_iconst (v := nI 5) rfl (by decide) ?_
  refine mw_n_le rfl (by omega) (by omega) (fun hc => ?_) (fun hc => ?_)
  · refine mw_bipush (v := nI 48) rfl (by decide) ?_
    refine mw_iload_n (i := 1) rfl rfl rfl ?_
    first | refine mw_nadd rfl ?_ | refine mw_iadd rfl ?_
    have e : 48 + x = ltT x := by
      unfold ltT
      rw [if_pos (by omega)]
    rw [e]
    refine mw_app hT hlt hl rfl v_L_9 (Nat.le_of_ble_eq_true rfl) (by omega) (by omega) (by omega) (fun h hT => ?_)
    refine mw_pop rfl rfl ?_
    exact mw_return rfl rfl rfl (Nat.le_refl _) (hp _ _ ⟨rfl, hT⟩)
  · refine mw_bipush (v := nI 88) rfl (by decide) ?_
    refine mw_iload_n (i := 1) rfl rfl rfl ?_
    first | refine mw_nadd rfl ?_ | refine mw_iadd rfl ?_
    refine mw_bipush (v := nI 6) rfl (by decide) ?_
    first | refine mw_nsub rfl (by omega) ?_ | refine mw_isub rfl ?_
    refine mw_goto rfl ?_
    have e : 88 + x - 6 = ltT x := by
      unfold ltT
      rw [if_neg (by omega)]
      omega
    rw [e]
    refine mw_app hT hlt hl rfl v_L_9 (Nat.le_of_ble_eq_true rfl) (by omega) (by omega) (by omega) (fun h hT => ?_)
    refine mw_pop rfl rfl ?_
    exact mw_return rfl rfl rfl (Nat.le_refl _) (hp _ _ ⟨rfl, hT⟩)
theorem c_atom (n k : Nat) (rv pl : Nat → Nat) {D0 : LD} {ls : List Nat} {h0 h : Nat → MC} (hT : TJ D0 ls h0 h) (hR : h0 178 = .inl (.int, 64, .inl (vI rv))) (hP : h0 180 = .inl (.int, 6, .inl (vI pl))) (hk : k + 2 < 64) (hq : rv k < 6) (ha : rv (k + 1) < 9) (hb : rv (k + 2) < 9) (hpl : pl (rv k) < 3) (hl : ls.length + 6 ≤ 60) : Sp M_L_atom 8 0 0 [.ref 0, .ref 178, .int (nI k), .ref 180] h n (fun r h1 => r = none ∧ TJ D0 (ls ++ atL (pl (rv k)) (rv k) (rv (k + 1)) (rv (k + 2))) h0 h1) := by
  refine Sp.of2 fun post hp => ?_
  refine mw_aload_n (i := 0) rfl rfl rfl ?_
  refine mw_bipush (v := nI 112) rfl (by decide) ?_
  refine mw_aload_n (i := 1) rfl rfl rfl ?_
  refine mw_iload_n (i := 2) rfl rfl rfl ?_
  refine mw_iald_v rfl (by first | rfl | exact (hT.c (Nat.le_of_ble_eq_true rfl)).trans hR | exact (hT.c (Nat.le_of_ble_eq_true rfl)).trans hP) (by omega) (by omega) (show vI rv k = nI (rv k) from rfl) ?_
  first | refine mw_nadd rfl ?_ | refine mw_iadd rfl ?_
  refine mw_app hT (by omega) (by omega) rfl v_L_9 (Nat.le_of_ble_eq_true rfl) (by omega) (by omega) (by omega) (fun h hT => ?_)
  refine mw_pop rfl rfl ?_
  refine mw_aload_n (i := 0) rfl rfl rfl ?_
  refine mw_bipush (v := nI 40) rfl (by decide) ?_
  refine mw_app hT (by omega) (by simp only [List.length_append, List.length_cons, List.length_nil]; omega) rfl v_L_9 (Nat.le_of_ble_eq_true rfl) (by omega) (by omega) (by omega) (fun h hT => ?_)
  refine mw_pop rfl rfl ?_
  refine mw_aload_n (i := 0) rfl rfl rfl ?_
  refine mw_aload_n (i := 1) rfl rfl rfl ?_
  refine mw_iload_n (i := 2) rfl rfl rfl ?_
  refine mw_iconst (v := nI 1) rfl (by decide) ?_
  first | refine mw_nadd rfl ?_ | refine mw_iadd rfl ?_
  refine mw_iald_v rfl (by first | rfl | exact (hT.c (Nat.le_of_ble_eq_true rfl)).trans hR | exact (hT.c (Nat.le_of_ble_eq_true rfl)).trans hP) (by omega) (by omega) (show vI rv (k + 1) = nI (rv (k + 1)) from rfl) ?_
  refine mw_callS (c_term n (rv (k + 1)) hT ha (by simp only [List.length_append, List.length_cons, List.length_nil]; omega)) rfl ok_L_term v_L_15 rfl (Nat.le_of_ble_eq_true rfl) rfl (Nat.le_of_ble_eq_true rfl) (by omega) (by omega) (by omega) ?_
  rintro r h ⟨rfl, hT⟩
  show MW M_L_atom 8 0 0 n post 27 _ [] h n 0
  refine mw_aload_n (i := 3) rfl rfl rfl ?_
  refine mw_aload_n (i := 1) rfl rfl rfl ?_
  refine mw_iload_n (i := 2) rfl rfl rfl ?_
  refine mw_iald_v rfl (by first | rfl | exact (hT.c (Nat.le_of_ble_eq_true rfl)).trans hR | exact (hT.c (Nat.le_of_ble_eq_true rfl)).trans hP) (by omega) (by omega) (show vI rv k = nI (rv k) from rfl) ?_
  refine mw_iald_v rfl (by first | rfl | exact (hT.c (Nat.le_of_ble_eq_true rfl)).trans hR | exact (hT.c (Nat.le_of_ble_eq_true rfl)).trans hP) (by omega) (by omega) (show vI pl (rv k) = nI (pl (rv k)) from rfl) ?_
  refine mw_iconst (v := nI 2) rfl (by decide) ?_
  refine mw_n_ne rfl (by omega) (by omega) (fun hc => ?_) (fun hc => ?_)
  · refine mw_aload_n (i := 0) rfl rfl rfl ?_
    refine mw_bipush (v := nI 41) rfl (by decide) ?_
    refine mw_app hT (by omega) (by simp only [List.length_append, List.length_cons, List.length_nil]; omega) rfl v_L_9 (Nat.le_of_ble_eq_true rfl) (by omega) (by omega) (by omega) (fun h hT => ?_)
    refine mw_pop rfl rfl ?_
    have e : ls ++ [112 + rv k] ++ [40] ++ [ltT (rv (k + 1))] ++ [41] = ls ++ atL (pl (rv k)) (rv k) (rv (k + 1)) (rv (k + 2)) := by
      unfold atL
      rw [if_neg hc]
      simp
    rw [e] at hT
    exact mw_return rfl rfl rfl (Nat.le_refl _) (hp _ _ ⟨rfl, hT⟩)
  · refine mw_aload_n (i := 0) rfl rfl rfl ?_
    refine mw_bipush (v := nI 44) rfl (by decide) ?_
    refine mw_app hT (by omega) (by simp only [List.length_append, List.length_cons, List.length_nil]; omega) rfl v_L_9 (Nat.le_of_ble_eq_true rfl) (by omega) (by omega) (by omega) (fun h hT => ?_)
    refine mw_pop rfl rfl ?_
    refine mw_aload_n (i := 0) rfl rfl rfl ?_
    refine mw_aload_n (i := 1) rfl rfl rfl ?_
    refine mw_iload_n (i := 2) rfl rfl rfl ?_
    refine mw_iconst (v := nI 2) rfl (by decide) ?_
    first | refine mw_nadd rfl ?_ | refine mw_iadd rfl ?_
    refine mw_iald_v rfl (by first | rfl | exact (hT.c (Nat.le_of_ble_eq_true rfl)).trans hR | exact (hT.c (Nat.le_of_ble_eq_true rfl)).trans hP) (by omega) (by omega) (show vI rv (k + 2) = nI (rv (k + 2)) from rfl) ?_
    refine mw_callS (c_term n (rv (k + 2)) hT hb (by simp only [List.length_append, List.length_cons, List.length_nil]; omega)) rfl ok_L_term v_L_15 rfl (Nat.le_of_ble_eq_true rfl) rfl (Nat.le_of_ble_eq_true rfl) (by omega) (by omega) (by omega) ?_
    rintro r h ⟨rfl, hT⟩
    show MW M_L_atom 8 0 0 n post 52 _ [] h n 0
    refine mw_aload_n (i := 0) rfl rfl rfl ?_
    refine mw_bipush (v := nI 41) rfl (by decide) ?_
    refine mw_app hT (by omega) (by simp only [List.length_append, List.length_cons, List.length_nil]; omega) rfl v_L_9 (Nat.le_of_ble_eq_true rfl) (by omega) (by omega) (by omega) (fun h hT => ?_)
    refine mw_pop rfl rfl ?_
    have e : ls ++ [112 + rv k] ++ [40] ++ [ltT (rv (k + 1))] ++ [44] ++ [ltT (rv (k + 2))] ++ [41] = ls ++ atL (pl (rv k)) (rv k) (rv (k + 1)) (rv (k + 2)) := by
      unfold atL
      rw [if_pos hc]
      simp
    rw [e] at hT
    exact mw_return rfl rfl rfl (Nat.le_refl _) (hp _ _ ⟨rfl, hT⟩)
