/-! THE CLASS'S CONSTRUCTOR -/
abbrev KO0 : MC := .inr (9, [.null, .null, .null, .null, .null, .null, .null, .null, .null, .null, .null, .int 0, .int 0, .int 0, .int 0, .int 0, .int 0])
def KV0 : Nat → Nat := anewV (fun _ => 0) 4
def kd0 : KD := ((false, false, false, false, false, -1), grD0, (fun _ => 0, 0, 0), (0, 0, (fun _ => 0), (fun _ => 0)), (fun _ => 0, fun _ => 0, fun _ => 0, fun _ => 0, fun _ => 0, fun _ => 0), fun _ => 0, fun _ => 0, (fun _ => 0, 0, 0))
/-- a new object of the class -/
def KNew (h1 : Nat → MC) : Prop := (∃ (P : PgS) (x : KD), KW KV0 smC.2 P h1 x) ∧ TxA h1 0 (fun _ => 0) (0, ruS0) ∧ h1 47 = SlO ∧ h1 48 = .inl (.boolean, 2, .inl (bIf (fun _ => false))) ∧ (∃ P' : PgS, PgAt h1 86 P') ∧ ∃ P' : PgS, PgAt h1 132 P'
set_option maxRecDepth 20000 in
theorem c_X9_init (d : Nat) (h : Nat → MC) (hO : h 0 = KO0) : Sp M_X9_init (d + 3) 177 14784 [.ref 0] h 1 (fun r h1 => r = none ∧ KNew h1) := by
  show MW _ _ _ _ _ _ _ _ _ _ _ _
  generalize hpost : (fun (r : Option Value) (h1 : Nat → MC) => r = none ∧ KNew h1) = post
  have hp : ∀ h1, KNew h1 → post none h1 := by
    intro h1 q
    rw [← hpost]
    exact ⟨rfl, q⟩
  clear hpost
  refine mw_aload_n (i := 0) rfl rfl rfl ?_
  refine mw_objInit rfl v_X9_3 (by omega) (Nat.le_of_ble_eq_true rfl) ?_
  refine mw_aload_n (i := 0) rfl rfl rfl ?_
  refine mw_new rfl n_X9_9 (by omega) (by omega) ?_
  refine mw_dup rfl rfl ?_
  refine mw_callI_f (c_X5_init d 1 _ (hset_same _ _ _)) rfl ok_X5_init rfl v_X9_11 rfl (Nat.le_of_ble_eq_true rfl) rfl (Nat.le_of_ble_eq_true rfl) (by omega) (by omega) (by omega) ?_
  have e0 : ∀ o : MC, pgH 1 (pgP0 (fun _ => 2)) (hset h 1 o) 0 = KO0 := fun o => (pgH_o (by omega)).trans ((hset_ne _ _ (by omega)).trans hO)
  have eP : ∀ o : MC, PgAt (pgH 1 (pgP0 (fun _ => 2)) (hset h 1 o)) 1 (pgP0 (fun _ => 2)) := fun o => PgAt.of 1 _ _
  obtain ⟨hb, hhb⟩ : ∃ hb, hb = pgH 1 (pgP0 (fun _ => 2)) (hset h 1 (.inr (5, [.int 0, .null, .int 0, .null, .null, .null, .int 0, .null]))) := ⟨_, rfl⟩
  refine mw_heap (h2 := hb) hhb ?_
  have e0 : hb 0 = KO0 := by rw [hhb]; exact e0 _
  have eP : PgAt hb 1 (pgP0 (fun _ => 2)) := by rw [hhb]; exact eP _
  clear hhb
  refine mw_over [(0, KO0)] (mov_self (by simp [e0])) ?_
  refine mw_putfieldF rfl f_X9_12 rfl rfl (by first | rfl | exact rfl) (Nat.le_of_ble_eq_true rfl) (fun _ => rfl) (fun _ => rfl) ?_
  first | rw [hset_mov] | skip
  refine mw_aload_n (i := 0) rfl rfl rfl ?_
  refine mw_iconst (v := nI 2) rfl (by decide) ?_
  refine mw_anewarray (ti := 4) rfl (Or.inl rfl) rfl k_X9_9 (by omega) (by omega) (by omega) ?_
  first | rw [hset_mov] | skip
  refine mw_putfieldF rfl f_X9_16 rfl rfl (by first | rfl | exact rfl) (Nat.le_of_ble_eq_true rfl) (fun _ => rfl) (fun _ => rfl) ?_
  first | rw [hset_mov] | skip
  refine mw_aload_n (i := 0) rfl rfl rfl ?_
  refine mw_iconst (v := nI 2) rfl (by decide) ?_
  refine mw_newarray (ti := 1) (x := .inl (fun _ => 0)) rfl rfl rfl ac_boolean (fun _ => rfl) (fun _ => rfl) (by omega) (by omega) (by omega) ?_
  first | rw [hset_mov] | skip
  refine mw_putfieldF rfl f_X9_20 rfl rfl (by first | rfl | exact rfl) (Nat.le_of_ble_eq_true rfl) (fun _ => rfl) (fun _ => rfl) ?_
  first | rw [hset_mov] | skip
  refine mw_aload_n (i := 0) rfl rfl rfl ?_
  refine mw_new rfl n_X9_24 (by omega) (by omega) ?_
  first | rw [hset_mov] | skip
  refine mw_dup rfl rfl ?_
  refine mw_callN_f (c_X7_init d _ rfl) rfl ok_X7_init rfl v_X9_26 rfl (Nat.le_of_ble_eq_true rfl) rfl (Nat.le_of_ble_eq_true rfl) (by omega) (by omega) (by omega) ?_
  rw [← mov_puts]
  refine mw_putfieldF rfl f_X9_27 rfl rfl (by first | rfl | exact rfl) (Nat.le_of_ble_eq_true rfl) (fun _ => rfl) (fun _ => rfl) ?_
  first | rw [hset_mov] | skip
  refine mw_aload_n (i := 0) rfl rfl rfl ?_
  refine mw_new rfl n_X9_31 (by omega) (by omega) ?_
  first | rw [hset_mov] | skip
  refine mw_dup rfl rfl ?_
  refine mw_callN_f (c_X1_init (d + 1) _ rfl) rfl ok_X1_init rfl v_X9_33 rfl (Nat.le_of_ble_eq_true rfl) rfl (Nat.le_of_ble_eq_true rfl) (by omega) (by omega) (by omega) ?_
  rw [← mov_puts]
  refine mw_putfieldF rfl f_X9_34 rfl rfl (by first | rfl | exact rfl) (Nat.le_of_ble_eq_true rfl) (fun _ => rfl) (fun _ => rfl) ?_
  first | rw [hset_mov] | skip
  refine mw_aload_n (i := 0) rfl rfl rfl ?_
  refine mw_new rfl n_X9_38 (by omega) (by omega) ?_
  first | rw [hset_mov] | skip
  refine mw_dup rfl rfl ?_
  refine mw_callN_f (c_X4_initA (d + 1) _ rfl) rfl ok_X4_init rfl v_X9_40 rfl (Nat.le_of_ble_eq_true rfl) rfl (Nat.le_of_ble_eq_true rfl) (by omega) (by omega) (by omega) ?_
  rw [← mov_puts]
  refine mw_putfieldF rfl f_X9_41 rfl rfl (by first | rfl | exact rfl) (Nat.le_of_ble_eq_true rfl) (fun _ => rfl) (fun _ => rfl) ?_
  first | rw [hset_mov] | skip
  refine mw_aload_n (i := 0) rfl rfl rfl ?_
  refine mw_new rfl n_X9_45 (by omega) (by omega) ?_
  first | rw [hset_mov] | skip
  refine mw_dup rfl rfl ?_
  refine mw_callN_f (c_X2_init (d + 1) _ rfl) rfl ok_X2_init rfl v_X9_47 rfl (Nat.le_of_ble_eq_true rfl) rfl (Nat.le_of_ble_eq_true rfl) (by omega) (by omega) (by omega) ?_
  rw [← mov_puts]
  refine mw_putfieldF rfl f_X9_48 rfl rfl (by first | rfl | exact rfl) (Nat.le_of_ble_eq_true rfl) (fun _ => rfl) (fun _ => rfl) ?_
  first | rw [hset_mov] | skip
  refine mw_aload_n (i := 0) rfl rfl rfl ?_
  refine mw_new rfl n_X9_52 (by omega) (by omega) ?_
  first | rw [hset_mov] | skip
  refine mw_dup rfl rfl ?_
  refine mw_callN_f (c_X0_init (d + 1) _ rfl) rfl ok_X0_init rfl v_X9_54 rfl (Nat.le_of_ble_eq_true rfl) rfl (Nat.le_of_ble_eq_true rfl) (by omega) (by omega) (by omega) ?_
  rw [← mov_puts]
  refine mw_putfieldF rfl f_X9_55 rfl rfl (by first | rfl | exact rfl) (Nat.le_of_ble_eq_true rfl) (fun _ => rfl) (fun _ => rfl) ?_
  first | rw [hset_mov] | skip
  refine mw_aload_n (i := 0) rfl rfl rfl ?_
  refine mw_new rfl n_X9_59 (by omega) (by omega) ?_
  first | rw [hset_mov] | skip
  refine mw_dup rfl rfl ?_
  refine mw_callN_f (c_X3_init (d + 1) _ rfl) rfl ok_X3_init rfl v_X9_61 rfl (Nat.le_of_ble_eq_true rfl) rfl (Nat.le_of_ble_eq_true rfl) (by omega) (by omega) (by omega) ?_
  rw [← mov_puts]
  refine mw_putfieldF rfl f_X9_62 rfl rfl (by first | rfl | exact rfl) (Nat.le_of_ble_eq_true rfl) (fun _ => rfl) (fun _ => rfl) ?_
  first | rw [hset_mov] | skip
  refine mw_aload_n (i := 0) rfl rfl rfl ?_
  refine mw_new rfl n_X9_66 (by omega) (by omega) ?_
  first | rw [hset_mov] | skip
  refine mw_dup rfl rfl ?_
  refine mw_callI_f (c_X8_init (d + 1) _ rfl) rfl ok_X8_init rfl v_X9_68 rfl (Nat.le_of_ble_eq_true rfl) rfl (Nat.le_of_ble_eq_true rfl) (by omega) (by omega) (by omega) ?_
  rw [← mov_puts]
  refine mw_putfieldF rfl f_X9_69 rfl rfl (by first | rfl | exact rfl) (Nat.le_of_ble_eq_true rfl) (fun _ => rfl) (fun _ => rfl) ?_
  first | rw [hset_mov] | skip
  refine mw_aload_n (i := 0) rfl rfl rfl ?_
  refine mw_new rfl n_X9_38 (by omega) (by omega) ?_
  first | rw [hset_mov] | skip
  refine mw_dup rfl rfl ?_
  refine mw_callN_f (c_X4_initB (d + 1) _ rfl) rfl ok_X4_init rfl v_X9_40 rfl (Nat.le_of_ble_eq_true rfl) rfl (Nat.le_of_ble_eq_true rfl) (by omega) (by omega) (by omega) ?_
  rw [← mov_puts]
  refine mw_putfieldF rfl f_X9_73 rfl rfl (by first | rfl | exact rfl) (Nat.le_of_ble_eq_true rfl) (fun _ => rfl) (fun _ => rfl) ?_
  first | rw [hset_mov] | skip
  refine mw_aload_n (i := 0) rfl rfl rfl ?_
  refine mw_iconst (v := (-1)) rfl (by decide) ?_
  refine mw_putfield_m rfl f_X9_76 (by first | rfl | exact rfl) (Nat.le_of_ble_eq_true rfl) (fun _ => rfl) (fun _ => rfl) ?_
  refine mw_iconst (v := nI 0) rfl (by decide) ?_
  refine mw_istore_n (i := 1) rfl rfl (Nat.le_of_ble_eq_true rfl) ?_
  refine mw_iload_n (i := 1) rfl rfl rfl ?_
  refine mw_iconst (v := nI 2) rfl (by decide) ?_
  sorry
