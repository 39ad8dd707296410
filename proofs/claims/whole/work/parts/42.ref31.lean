/-- the cell of a reference just made -/
def RO0 : MC := .inr (10, [.null, .null, .null, .null, .int 0, .int 0, .null, .int 0, .int 0, .int 0, .null, .null, .null, .null, .null, .int 0, .null, .null, .null, .int 0, .int 0, .null, .null, .null, .null, .null, .null, .null])
def lk0 : Nat → UInt32 := fun j => if j < 216 then 0 else fM1
def rd0 : RD := mkR (fun _ => 0) (fun _ => 0) (fun _ => false) (fun _ => 0) (fun _ => 0) (fun _ => 0) (fun _ => 0) (fun _ => 0) (fun _ => 0) lk0 (fun _ => 0) (fun _ => 0) (fun _ => 0) (fun _ => 0) (fun _ => false)
/-- the world with a new reference -/
def RefNew (h h1 : Nat → MC) : Prop := (∀ j, j < 178 → h1 j = h j) ∧ RAt h1 (updN (fun _ => 0) 3 0) rd0 ∧ h1 179 = .inl (.int, 189, .inl (vI (anewV (fun _ => 0) 4))) ∧ h1 180 = .inl (.int, 378, .inl (vI (fun _ => 0))) ∧ h1 181 = .inl (.boolean, 2, .inl (bIf (fun _ => false))) ∧ h1 182 = .inl (.int, 60, .inl (vI (fun _ => 0))) ∧ h1 183 = .inl (.int, 16, .inl (fun _ => 0))
set_option maxRecDepth 20000 in
theorem c_init (d : Nat) (h : Nat → MC) (hO : h 178 = RO0) : Sp M_X10_init (d + 1) 20 11454 [.ref 178] h 179 (fun r h1 => r = none ∧ RefNew h h1) := by
  show MW _ _ _ _ _ _ _ _ _ _ _ _
  generalize hpost : (fun (r : Option Value) (h1 : Nat → MC) => r = none ∧ RefNew h h1) = post
  have hp : ∀ h1, RefNew h h1 → post none h1 := by
    intro h1 q
    rw [← hpost]
    exact ⟨rfl, q⟩
  clear hpost
  refine mw_aload_n (i := 0) rfl rfl rfl ?_
  refine mw_objInit rfl v_X10_1 (by omega) (Nat.le_of_ble_eq_true rfl) ?_
  refine mw_aload_n (i := 0) rfl rfl rfl ?_
  refine mw_sipush (v := nI 189) rfl (by decide) ?_
  refine mw_newarray (ti := 0) (x := .inl (fun _ => 0)) rfl rfl rfl ac_int (fun _ => rfl) (fun _ => rfl) (by omega) (by omega) (by omega) ?_
  refine mw_putfieldF rfl f_X10_7 rfl rfl (by first | rfl | exact rfl | exact hO) (Nat.le_of_ble_eq_true rfl) (fun _ => rfl) (fun _ => rfl) ?_
  refine mw_aload_n (i := 0) rfl rfl rfl ?_
  refine mw_sipush (v := nI 378) rfl (by decide) ?_
  refine mw_newarray (ti := 0) (x := .inl (fun _ => 0)) rfl rfl rfl ac_int (fun _ => rfl) (fun _ => rfl) (by omega) (by omega) (by omega) ?_
  refine mw_putfieldF rfl f_X10_13 rfl rfl (by first | rfl | exact rfl | exact hO) (Nat.le_of_ble_eq_true rfl) (fun _ => rfl) (fun _ => rfl) ?_
  refine mw_aload_n (i := 0) rfl rfl rfl ?_
  refine mw_iconst (v := nI 2) rfl (by decide) ?_
  refine mw_newarray (ti := 1) (x := .inl (fun _ => 0)) rfl rfl rfl ac_boolean (fun _ => rfl) (fun _ => rfl) (by omega) (by omega) (by omega) ?_
  refine mw_putfieldF rfl f_X10_16 rfl rfl (by first | rfl | exact rfl | exact hO) (Nat.le_of_ble_eq_true rfl) (fun _ => rfl) (fun _ => rfl) ?_
  refine mw_aload_n (i := 0) rfl rfl rfl ?_
  refine mw_bipush (v := nI 60) rfl (by decide) ?_
  refine mw_newarray (ti := 0) (x := .inl (fun _ => 0)) rfl rfl rfl ac_int (fun _ => rfl) (fun _ => rfl) (by omega) (by omega) (by omega) ?_
  refine mw_putfieldF rfl f_X10_20 rfl rfl (by first | rfl | exact rfl | exact hO) (Nat.le_of_ble_eq_true rfl) (fun _ => rfl) (fun _ => rfl) ?_
  refine mw_aload_n (i := 0) rfl rfl rfl ?_
  refine mw_bipush (v := nI 16) rfl (by decide) ?_
  refine mw_newarray (ti := 0) (x := .inl (fun _ => 0)) rfl rfl rfl ac_int (fun _ => rfl) (fun _ => rfl) (by omega) (by omega) (by omega) ?_
  refine mw_putfieldF rfl f_X10_23 rfl rfl (by first | rfl | exact rfl | exact hO) (Nat.le_of_ble_eq_true rfl) (fun _ => rfl) (fun _ => rfl) ?_
  refine mw_aload_n (i := 0) rfl rfl rfl ?_
  refine mw_bipush (v := nI 6) rfl (by decide) ?_
  refine mw_newarray (ti := 0) (x := .inl (fun _ => 0)) rfl rfl rfl ac_int (fun _ => rfl) (fun _ => rfl) (by omega) (by omega) (by omega) ?_
  refine mw_putfieldF rfl f_X10_26 rfl rfl (by first | rfl | exact rfl | exact hO) (Nat.le_of_ble_eq_true rfl) (fun _ => rfl) (fun _ => rfl) ?_
  refine mw_aload_n (i := 0) rfl rfl rfl ?_
  refine mw_iconst (v := nI 3) rfl (by decide) ?_
  refine mw_newarray (ti := 0) (x := .inl (fun _ => 0)) rfl rfl rfl ac_int (fun _ => rfl) (fun _ => rfl) (by omega) (by omega) (by omega) ?_
  refine mw_putfieldF rfl f_X10_29 rfl rfl (by first | rfl | exact rfl | exact hO) (Nat.le_of_ble_eq_true rfl) (fun _ => rfl) (fun _ => rfl) ?_
  refine mw_aload_n (i := 0) rfl rfl rfl ?_
  refine mw_sipush (v := nI 216) rfl (by decide) ?_
  refine mw_newarray (ti := 0) (x := .inl (fun _ => 0)) rfl rfl rfl ac_int (fun _ => rfl) (fun _ => rfl) (by omega) (by omega) (by omega) ?_
  refine mw_putfieldF rfl f_X10_32 rfl rfl (by first | rfl | exact rfl | exact hO) (Nat.le_of_ble_eq_true rfl) (fun _ => rfl) (fun _ => rfl) ?_
  refine mw_aload_n (i := 0) rfl rfl rfl ?_
  refine mw_sipush (v := nI 216) rfl (by decide) ?_
  refine mw_newarray (ti := 0) (x := .inl (fun _ => 0)) rfl rfl rfl ac_int (fun _ => rfl) (fun _ => rfl) (by omega) (by omega) (by omega) ?_
  refine mw_putfieldF rfl f_X10_35 rfl rfl (by first | rfl | exact rfl | exact hO) (Nat.le_of_ble_eq_true rfl) (fun _ => rfl) (fun _ => rfl) ?_
  refine mw_aload_n (i := 0) rfl rfl rfl ?_
  refine mw_sipush (v := nI 216) rfl (by decide) ?_
  refine mw_newarray (ti := 1) (x := .inl (fun _ => 0)) rfl rfl rfl ac_boolean (fun _ => rfl) (fun _ => rfl) (by omega) (by omega) (by omega) ?_
  refine mw_putfieldF rfl f_X10_38 rfl rfl (by first | rfl | exact rfl | exact hO) (Nat.le_of_ble_eq_true rfl) (fun _ => rfl) (fun _ => rfl) ?_
  refine mw_aload_n (i := 0) rfl rfl rfl ?_
  refine mw_sipush (v := nI 1728) rfl (by decide) ?_
  refine mw_newarray (ti := 0) (x := .inl (fun _ => 0)) rfl rfl rfl ac_int (fun _ => rfl) (fun _ => rfl) (by omega) (by omega) (by omega) ?_
  refine mw_putfieldF rfl f_X10_41 rfl rfl (by first | rfl | exact rfl | exact hO) (Nat.le_of_ble_eq_true rfl) (fun _ => rfl) (fun _ => rfl) ?_
  refine mw_aload_n (i := 0) rfl rfl rfl ?_
  refine mw_sipush (v := nI 1728) rfl (by decide) ?_
  refine mw_newarray (ti := 0) (x := .inl (fun _ => 0)) rfl rfl rfl ac_int (fun _ => rfl) (fun _ => rfl) (by omega) (by omega) (by omega) ?_
  refine mw_putfieldF rfl f_X10_44 rfl rfl (by first | rfl | exact rfl | exact hO) (Nat.le_of_ble_eq_true rfl) (fun _ => rfl) (fun _ => rfl) ?_
  refine mw_aload_n (i := 0) rfl rfl rfl ?_
  refine mw_sipush (v := nI 5184) rfl (by decide) ?_
  refine mw_newarray (ti := 0) (x := .inl (fun _ => 0)) rfl rfl rfl ac_int (fun _ => rfl) (fun _ => rfl) (by omega) (by omega) (by omega) ?_
  refine mw_putfieldF rfl f_X10_47 rfl rfl (by first | rfl | exact rfl | exact hO) (Nat.le_of_ble_eq_true rfl) (fun _ => rfl) (fun _ => rfl) ?_
  refine mw_aload_n (i := 0) rfl rfl rfl ?_
  refine mw_sipush (v := nI 216) rfl (by decide) ?_
  refine mw_newarray (ti := 0) (x := .inl (fun _ => 0)) rfl rfl rfl ac_int (fun _ => rfl) (fun _ => rfl) (by omega) (by omega) (by omega) ?_
  refine mw_putfieldF rfl f_X10_50 rfl rfl (by first | rfl | exact rfl | exact hO) (Nat.le_of_ble_eq_true rfl) (fun _ => rfl) (fun _ => rfl) ?_
  refine mw_aload_n (i := 0) rfl rfl rfl ?_
  refine mw_sipush (v := nI 216) rfl (by decide) ?_
  refine mw_newarray (ti := 3) (x := .inr (.inr (.inl lk0))) rfl rfl rfl ac_float (fun cA => arrV_cg (cA := cA) (n := 216) (f := fun j => .float (lk0 j)) (g := fun _ => defaultValue .float) (fun j hj => by unfold lk0; rw [if_pos hj]; rfl)) (fun _ => rfl) (by omega) (by omega) (by omega) ?_
  refine mw_putfieldF rfl f_X10_53 rfl rfl (by first | rfl | exact rfl | exact hO) (Nat.le_of_ble_eq_true rfl) (fun _ => rfl) (fun _ => rfl) ?_
  refine mw_aload_n (i := 0) rfl rfl rfl ?_
  refine mw_sipush (v := nI 216) rfl (by decide) ?_
  refine mw_newarray (ti := 0) (x := .inl (fun _ => 0)) rfl rfl rfl ac_int (fun _ => rfl) (fun _ => rfl) (by omega) (by omega) (by omega) ?_
  refine mw_putfieldF rfl f_X10_57 rfl rfl (by first | rfl | exact rfl | exact hO) (Nat.le_of_ble_eq_true rfl) (fun _ => rfl) (fun _ => rfl) ?_
  refine mw_aload_n (i := 0) rfl rfl rfl ?_
  refine mw_sipush (v := nI 216) rfl (by decide) ?_
  refine mw_newarray (ti := 0) (x := .inl (fun _ => 0)) rfl rfl rfl ac_int (fun _ => rfl) (fun _ => rfl) (by omega) (by omega) (by omega) ?_
  refine mw_putfieldF rfl f_X10_60 rfl rfl (by first | rfl | exact rfl | exact hO) (Nat.le_of_ble_eq_true rfl) (fun _ => rfl) (fun _ => rfl) ?_
  refine mw_aload_n (i := 0) rfl rfl rfl ?_
  refine mw_sipush (v := nI 216) rfl (by decide) ?_
  refine mw_newarray (ti := 0) (x := .inl (fun _ => 0)) rfl rfl rfl ac_int (fun _ => rfl) (fun _ => rfl) (by omega) (by omega) (by omega) ?_
  refine mw_putfieldF rfl f_X10_63 rfl rfl (by first | rfl | exact rfl | exact hO) (Nat.le_of_ble_eq_true rfl) (fun _ => rfl) (fun _ => rfl) ?_
  refine mw_aload_n (i := 0) rfl rfl rfl ?_
  refine mw_sipush (v := nI 216) rfl (by decide) ?_
  refine mw_newarray (ti := 0) (x := .inl (fun _ => 0)) rfl rfl rfl ac_int (fun _ => rfl) (fun _ => rfl) (by omega) (by omega) (by omega) ?_
  refine mw_putfieldF rfl f_X10_66 rfl rfl (by first | rfl | exact rfl | exact hO) (Nat.le_of_ble_eq_true rfl) (fun _ => rfl) (fun _ => rfl) ?_
  refine mw_aload_n (i := 0) rfl rfl rfl ?_
  refine mw_sipush (v := nI 216) rfl (by decide) ?_
  refine mw_newarray (ti := 1) (x := .inl (fun _ => 0)) rfl rfl rfl ac_boolean (fun _ => rfl) (fun _ => rfl) (by omega) (by omega) (by omega) ?_
  refine mw_putfieldF rfl f_X10_69 rfl rfl (by first | rfl | exact rfl | exact hO) (Nat.le_of_ble_eq_true rfl) (fun _ => rfl) (fun _ => rfl) ?_
  refine mw_aload_n (i := 0) rfl rfl rfl ?_
  refine mw_iconst (v := nI 4) rfl (by decide) ?_
  refine mw_callV_f (c_anew d _ 4 (fun _ => 0) (fun _ => 0) _ rfl rfl) rfl ok_X10_anew v_X10_72 rfl (by first | rfl | exact rfl | exact hO) (by intro e; cases e) rfl (Nat.le_of_ble_eq_true rfl) rfl (Nat.le_of_ble_eq_true rfl) (by omega) (by omega) (by omega) ?_
  refine mw_return rfl rfl rfl (Nat.le_refl _) (hp _ ⟨?_, ?_, rfl, rfl, rfl, rfl, rfl⟩)
  · intro j hj
    have hne : ∀ k, 178 ≤ k → ¬ j = k := fun k hk => by omega
    have e2 : ∀ k, 178 ≤ k → Nat.beq k j = false := fun k hk => nbf (by omega)
    simp only [mov, mlk, hset, Nat.reduceAdd, if_false, cond_false, e2 178 (by omega), e2 179 (by omega), e2 180 (by omega), e2 181 (by omega), e2 182 (by omega), e2 183 (by omega), e2 184 (by omega), e2 185 (by omega), e2 186 (by omega), e2 187 (by omega), e2 188 (by omega), e2 189 (by omega), e2 190 (by omega), e2 191 (by omega), e2 192 (by omega), e2 193 (by omega), e2 194 (by omega), e2 195 (by omega), e2 196 (by omega), e2 197 (by omega), e2 198 (by omega), hne 178 (by omega), hne 179 (by omega), hne 180 (by omega), hne 181 (by omega), hne 182 (by omega), hne 183 (by omega), hne 184 (by omega), hne 185 (by omega), hne 186 (by omega), hne 187 (by omega), hne 188 (by omega), hne 189 (by omega), hne 190 (by omega), hne 191 (by omega), hne 192 (by omega), hne 193 (by omega), hne 194 (by omega), hne 195 (by omega), hne 196 (by omega), hne 197 (by omega), hne 198 (by omega)]
  · unfold RAt
    refine mov_self ?_
    intro q hq
    simp only [List.mem_cons, List.not_mem_nil, or_false] at hq
    rcases hq with rfl | rfl | rfl | rfl | rfl | rfl | rfl | rfl | rfl | rfl | rfl | rfl | rfl | rfl | rfl | rfl
    all_goals rfl
