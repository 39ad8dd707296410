/-! THE CLASS'S CONSTRUCTOR -/
abbrev KO0 : MC := .inr (9, [.null, .null, .null, .null, .null, .null, .null, .null, .null, .null, .null, .int 0, .int 0, .int 0, .int 0, .int 0, .int 0])
def KV0 : Nat → Nat := anewV (fun _ => 0) 4
def kd0 : KD := ((false, false, false, false, false, -1), grD0, (fun _ => 0, 0, 0), (0, 0, (fun _ => 0), (fun _ => 0)), (fun _ => 0, fun _ => 0, fun _ => 0, fun _ => 0, fun _ => 0, fun _ => 0), fun _ => 0, fun _ => 0, (fun _ => 0, 0, 0))
/-- a new object of the class -/
def KNew (h1 : Nat → MC) : Prop := (∃ (P : PgS) (x : KD), KW KV0 smC.2 P h1 x) ∧ TxA h1 0 (fun _ => 0) (0, ruS0) ∧ h1 47 = SlO ∧ h1 48 = .inl (.boolean, 2, .inl (bIf (fun _ => false))) ∧ (∃ P' : PgS, PgAt h1 86 P') ∧ ∃ P' : PgS, PgAt h1 132 P'
theorem mw_q {M : MI} {d mc ms n0 : Nat} {post : Option Value → (Nat → MC) → Prop} {pc : Nat} {L : List (Nat × Value)} {S : List Value} {h : Nat → MC} {n sl : Nat} (Q : (Nat → MC) → Prop) (hq : Q h) (k : ∀ X, Q X → MW M d mc ms n0 post pc L S X n sl) : MW M d mc ms n0 post pc L S h n sl := k h hq
theorem all_c {p : Nat × MC → Prop} {a : Nat × MC} {l : MLs} (h1 : p a) (h2 : ∀ q, q ∈ l → p q) : ∀ q, q ∈ a :: l → p q := fun q hq => by
  rcases List.mem_cons.mp hq with e | e
  · rw [e]; exact h1
  · exact h2 q e
theorem TxA.keep {h h1 : Nat → MC} {tl : Nat} {t : Nat → Nat} {s : KS} (H : TxA h tl t s) (e : ∀ j, 49 ≤ j → j < 56 → h1 j = h j) : TxA h1 tl t s := by
  refine ⟨?_, (e 50 (by omega) (by omega)).trans H.2⟩
  funext j
  by_cases q : 49 ≤ j ∧ j < 56
  · have h2 := congrFun H.1 j
    cases e2 : mlk (txC tl s) j with
    | none => simp only [mov, e2]
    | some c =>
      simp only [mov, e2] at h2 ⊢
      rw [h2, e j q.1 q.2]
  · exact tx_o tl s h1 (by omega)
theorem slF_up : va_up (va_up (fun _ => none) 0 (some 86)) 1 (some 132) = slF := by
  funext i
  match i with
  | 0 => simp [va_up, slF]
  | 1 => simp [va_up, slF]
  | i + 2 => simp [va_up, slF]
theorem PgV_kv0 : PgV (pgP0 (fun _ => 2)) KV0 := PgV_anew (v := fun _ => 0) (P := pgP0 (fun _ => 2)) 4
theorem KI_0 : KI KV0 smC.2 kd0 := ⟨fun f hf => rfl, fun q => (by cases q), fun q => (by cases q), fun q => (by cases q), fun q => (by cases q), fun q => (by cases q), Or.inl rfl⟩
set_option maxRecDepth 20000 in
theorem c_X9_init (d : Nat) (h : Nat → MC) (hO : h 0 = KO0) : Sp M_X9_init (d + 3) 177 14784 [.ref 0] h 1 (fun r h1 => r = none ∧ KNew h1) := by
  show MW _ _ _ _ _ _ _ _ _ _ _ _
  generalize hpost : (fun (r : Option Value) (h1 : Nat → MC) => r = none ∧ KNew h1) = post
  have hp : ∀ h1, KNew h1 → post none h1 := by
    intro h1 q
    rw [← hpost]
    exact ⟨rfl, q⟩
  clear hpost
  refine mw_aload_n (i := 0) rfl rfl rfl ?_
  refine mw_objInit rfl v_X9_3 (by omega) (Nat.le_of_ble_eq_true rfl) ?_
  refine mw_aload_n (i := 0) rfl rfl rfl ?_
  refine mw_new rfl n_X9_9 (by omega) (by omega) ?_
  refine mw_dup rfl rfl ?_
  refine mw_callI_f (c_X5_init d 1 _ (hset_same _ _ _)) rfl ok_X5_init rfl v_X9_11 rfl (Nat.le_of_ble_eq_true rfl) rfl (Nat.le_of_ble_eq_true rfl) (by omega) (by omega) (by omega) ?_
  have e0 : ∀ o : MC, pgH 1 (pgP0 (fun _ => 2)) (hset h 1 o) 0 = KO0 := fun o => (pgH_o (by omega)).trans ((hset_ne _ _ (by omega)).trans hO)
  have eP : ∀ o : MC, PgAt (pgH 1 (pgP0 (fun _ => 2)) (hset h 1 o)) 1 (pgP0 (fun _ => 2)) := fun o => PgAt.of 1 _ _
  obtain ⟨hb, hhb⟩ : ∃ hb, hb = pgH 1 (pgP0 (fun _ => 2)) (hset h 1 (.inr (5, [.int 0, .null, .int 0, .null, .null, .null, .int 0, .null]))) := ⟨_, rfl⟩
  refine mw_heap (h2 := hb) hhb ?_
  have e0 : hb 0 = KO0 := by rw [hhb]; exact e0 _
  have eP : PgAt hb 1 (pgP0 (fun _ => 2)) := by rw [hhb]; exact eP _
  clear hhb
  refine mw_over [(0, KO0)] (mov_self (by simp [e0])) ?_
  refine mw_putfieldF rfl f_X9_12 rfl rfl (by first | rfl | exact rfl) (Nat.le_of_ble_eq_true rfl) (fun _ => rfl) (fun _ => rfl) ?_
  first | rw [hset_mov] | skip
  refine mw_aload_n (i := 0) rfl rfl rfl ?_
  refine mw_iconst (v := nI 2) rfl (by decide) ?_
  refine mw_anewarray (ti := 4) rfl (Or.inl rfl) rfl k_X9_9 (by omega) (by omega) (by omega) ?_
  first | rw [hset_mov] | skip
  refine mw_putfieldF rfl f_X9_16 rfl rfl (by first | rfl | exact rfl) (Nat.le_of_ble_eq_true rfl) (fun _ => rfl) (fun _ => rfl) ?_
  first | rw [hset_mov] | skip
  refine mw_aload_n (i := 0) rfl rfl rfl ?_
  refine mw_iconst (v := nI 2) rfl (by decide) ?_
  refine mw_newarray (ti := 1) (x := .inl (fun _ => 0)) rfl rfl rfl ac_boolean (fun _ => rfl) (fun _ => rfl) (by omega) (by omega) (by omega) ?_
  first | rw [hset_mov] | skip
  refine mw_putfieldF rfl f_X9_20 rfl rfl (by first | rfl | exact rfl) (Nat.le_of_ble_eq_true rfl) (fun _ => rfl) (fun _ => rfl) ?_
  first | rw [hset_mov] | skip
  refine mw_aload_n (i := 0) rfl rfl rfl ?_
  refine mw_new rfl n_X9_24 (by omega) (by omega) ?_
  first | rw [hset_mov] | skip
  refine mw_dup rfl rfl ?_
  refine mw_callN_f (c_X7_init d _ rfl) rfl ok_X7_init rfl v_X9_26 rfl (Nat.le_of_ble_eq_true rfl) rfl (Nat.le_of_ble_eq_true rfl) (by omega) (by omega) (by omega) ?_
  rw [← mov_puts]
  refine mw_putfieldF rfl f_X9_27 rfl rfl (by first | rfl | exact rfl) (Nat.le_of_ble_eq_true rfl) (fun _ => rfl) (fun _ => rfl) ?_
  first | rw [hset_mov] | skip
  refine mw_aload_n (i := 0) rfl rfl rfl ?_
  refine mw_new rfl n_X9_31 (by omega) (by omega) ?_
  first | rw [hset_mov] | skip
  refine mw_dup rfl rfl ?_
  refine mw_callN_f (c_X1_init (d + 1) _ rfl) rfl ok_X1_init rfl v_X9_33 rfl (Nat.le_of_ble_eq_true rfl) rfl (Nat.le_of_ble_eq_true rfl) (by omega) (by omega) (by omega) ?_
  rw [← mov_puts]
  refine mw_putfieldF rfl f_X9_34 rfl rfl (by first | rfl | exact rfl) (Nat.le_of_ble_eq_true rfl) (fun _ => rfl) (fun _ => rfl) ?_
  first | rw [hset_mov] | skip
  refine mw_aload_n (i := 0) rfl rfl rfl ?_
  refine mw_new rfl n_X9_38 (by omega) (by omega) ?_
  first | rw [hset_mov] | skip
  refine mw_dup rfl rfl ?_
  refine mw_callN_f (c_X4_initA (d + 1) _ rfl) rfl ok_X4_init rfl v_X9_40 rfl (Nat.le_of_ble_eq_true rfl) rfl (Nat.le_of_ble_eq_true rfl) (by omega) (by omega) (by omega) ?_
  rw [← mov_puts]
  refine mw_putfieldF rfl f_X9_41 rfl rfl (by first | rfl | exact rfl) (Nat.le_of_ble_eq_true rfl) (fun _ => rfl) (fun _ => rfl) ?_
  first | rw [hset_mov] | skip
  refine mw_aload_n (i := 0) rfl rfl rfl ?_
  refine mw_new rfl n_X9_45 (by omega) (by omega) ?_
  first | rw [hset_mov] | skip
  refine mw_dup rfl rfl ?_
  refine mw_callN_f (c_X2_init (d + 1) _ rfl) rfl ok_X2_init rfl v_X9_47 rfl (Nat.le_of_ble_eq_true rfl) rfl (Nat.le_of_ble_eq_true rfl) (by omega) (by omega) (by omega) ?_
  rw [← mov_puts]
  refine mw_putfieldF rfl f_X9_48 rfl rfl (by first | rfl | exact rfl) (Nat.le_of_ble_eq_true rfl) (fun _ => rfl) (fun _ => rfl) ?_
  first | rw [hset_mov] | skip
  refine mw_aload_n (i := 0) rfl rfl rfl ?_
  refine mw_new rfl n_X9_52 (by omega) (by omega) ?_
  first | rw [hset_mov] | skip
  refine mw_dup rfl rfl ?_
  refine mw_callN_f (c_X0_init (d + 1) _ rfl) rfl ok_X0_init rfl v_X9_54 rfl (Nat.le_of_ble_eq_true rfl) rfl (Nat.le_of_ble_eq_true rfl) (by omega) (by omega) (by omega) ?_
  rw [← mov_puts]
  refine mw_putfieldF rfl f_X9_55 rfl rfl (by first | rfl | exact rfl) (Nat.le_of_ble_eq_true rfl) (fun _ => rfl) (fun _ => rfl) ?_
  first | rw [hset_mov] | skip
  refine mw_aload_n (i := 0) rfl rfl rfl ?_
  refine mw_new rfl n_X9_59 (by omega) (by omega) ?_
  first | rw [hset_mov] | skip
  refine mw_dup rfl rfl ?_
  refine mw_callN_f (c_X3_init (d + 1) _ rfl) rfl ok_X3_init rfl v_X9_61 rfl (Nat.le_of_ble_eq_true rfl) rfl (Nat.le_of_ble_eq_true rfl) (by omega) (by omega) (by omega) ?_
  rw [← mov_puts]
  refine mw_putfieldF rfl f_X9_62 rfl rfl (by first | rfl | exact rfl) (Nat.le_of_ble_eq_true rfl) (fun _ => rfl) (fun _ => rfl) ?_
  first | rw [hset_mov] | skip
  refine mw_aload_n (i := 0) rfl rfl rfl ?_
  refine mw_new rfl n_X9_66 (by omega) (by omega) ?_
  first | rw [hset_mov] | skip
  refine mw_dup rfl rfl ?_
  refine mw_callI_f (c_X8_init (d + 1) _ rfl) rfl ok_X8_init rfl v_X9_68 rfl (Nat.le_of_ble_eq_true rfl) rfl (Nat.le_of_ble_eq_true rfl) (by omega) (by omega) (by omega) ?_
  rw [← mov_puts]
  refine mw_putfieldF rfl f_X9_69 rfl rfl (by first | rfl | exact rfl) (Nat.le_of_ble_eq_true rfl) (fun _ => rfl) (fun _ => rfl) ?_
  first | rw [hset_mov] | skip
  refine mw_aload_n (i := 0) rfl rfl rfl ?_
  refine mw_new rfl n_X9_38 (by omega) (by omega) ?_
  first | rw [hset_mov] | skip
  refine mw_dup rfl rfl ?_
  refine mw_callN_f (c_X4_initB (d + 1) _ rfl) rfl ok_X4_init rfl v_X9_40 rfl (Nat.le_of_ble_eq_true rfl) rfl (Nat.le_of_ble_eq_true rfl) (by omega) (by omega) (by omega) ?_
  rw [← mov_puts]
  refine mw_putfieldF rfl f_X9_73 rfl rfl (by first | rfl | exact rfl) (Nat.le_of_ble_eq_true rfl) (fun _ => rfl) (fun _ => rfl) ?_
  first | rw [hset_mov] | skip
  refine mw_aload_n (i := 0) rfl rfl rfl ?_
  refine mw_iconst (v := (-1)) rfl (by decide) ?_
  refine mw_putfield_m rfl f_X9_76 (by first | rfl | exact rfl) (Nat.le_of_ble_eq_true rfl) (fun _ => rfl) (fun _ => rfl) ?_
  refine mw_iconst (v := nI 0) rfl (by decide) ?_
  refine mw_istore_n (i := 1) rfl rfl (Nat.le_of_ble_eq_true rfl) ?_
  refine mw_q (fun X => (KAt X kd0 ∧ PgAt X 1 (pgP0 (fun _ => 2)) ∧ KK X smC.2) ∧ TxA X 0 (fun _ => 0) (0, ruS0) ∧ X 47 = .inl (.object RX5, 2, .inr (.inr (.inr (.inr (fun _ => none))))) ∧ X 48 = .inl (.boolean, 2, .inl (bIf (fun _ => false)))) ⟨⟨mov_self ?_, eP.mv rfl, rfl, rfl, rfl, rfl⟩, ⟨mov_self ?_, rfl⟩, rfl, rfl⟩ ?_
  · repeat (refine all_c ?_ ?_; · exact rfl)
    exact fun q hq => (by cases hq)
  · repeat (refine all_c ?_ ?_; · exact rfl)
    exact fun q hq => (by cases hq)
  intro X hX
  obtain ⟨⟨a1, a2, a3⟩, a4, a5, a6⟩ := hX
  have hKW : KW KV0 smC.2 (pgP0 (fun _ => 2)) X kd0 := ⟨a1, a2, PgV_kv0, fun r hr => absurd (show r < 0 from hr) (Nat.not_lt_zero r), ok_anew _ (by omega) (by omega), a3, KI_0⟩
  have hX0 : X 0 = FO kd0.1 := a1.c0
  show MW _ _ _ _ _ _ _ _ _ X 86 14316
  have hY0 : ∀ (o A : MC), hset (pgH 86 (pgP0 (fun _ => 2)) (hset X 86 o)) 47 A 0 = FO kd0.1 := fun o A => (hset_ne _ _ (by omega)).trans ((pgH_o (by omega)).trans ((hset_ne _ _ (by omega)).trans hX0))
  refine mw_iload_n (i := 1) rfl rfl rfl ?_
  refine mw_iconst (v := nI 2) rfl (by decide) ?_
  refine mw_n_ge rfl (by omega) (by omega) (fun q0 => ?_) (fun q0 => ?_)
  · omega
  · refine mw_aload_n (i := 0) rfl rfl rfl ?_
    refine mw_getfield rfl f_X9_16 (by first | rfl | exact hX0 | exact hY0 _ _) rfl ?_
    refine mw_iload_n (i := 1) rfl rfl rfl ?_
    refine mw_new rfl n_X9_9 (by omega) (by omega) ?_
    refine mw_dup rfl rfl ?_
    refine mw_callI_f (c_X5_init d 86 _ (hset_same _ _ _)) rfl ok_X5_init rfl v_X9_11 rfl (Nat.le_of_ble_eq_true rfl) rfl (Nat.le_of_ble_eq_true rfl) (by omega) (by omega) (by omega) ?_
    refine mw_aast (ti := 4) (f := fun _ => none) rfl ((pgH_o (by omega)).trans ((hset_ne _ _ (by omega)).trans a5)) rfl pgH_0 (fun e => by cases e) rfl rfl (by omega) (by omega) ?_
    first | refine mw_ninc rfl rfl (Nat.le_of_ble_eq_true rfl) ?_ | refine mw_iinc rfl rfl rfl (Nat.le_of_ble_eq_true rfl) ?_
    refine mw_goto rfl ?_
    refine mw_iload_n (i := 1) rfl rfl rfl ?_
    refine mw_iconst (v := nI 2) rfl (by decide) ?_
    refine mw_n_ge rfl (by omega) (by omega) (fun q1 => ?_) (fun q1 => ?_)
    · omega
    · refine mw_aload_n (i := 0) rfl rfl rfl ?_
      refine mw_getfield rfl f_X9_16 (by first | rfl | exact hX0 | exact hY0 _ _) rfl ?_
      refine mw_iload_n (i := 1) rfl rfl rfl ?_
      refine mw_new rfl n_X9_9 (by omega) (by omega) ?_
      refine mw_dup rfl rfl ?_
      refine mw_callI_f (c_X5_init d 132 _ (hset_same _ _ _)) rfl ok_X5_init rfl v_X9_11 rfl (Nat.le_of_ble_eq_true rfl) rfl (Nat.le_of_ble_eq_true rfl) (by omega) (by omega) (by omega) ?_
      refine mw_aast (ti := 4) (f := va_up (fun _ => none) 0 (some 86)) rfl ((pgH_o (by omega)).trans ((hset_ne _ _ (by omega)).trans (hset_same _ _ _))) rfl pgH_0 (fun e => by cases e) rfl rfl (by omega) (by omega) ?_
      first | refine mw_ninc rfl rfl (Nat.le_of_ble_eq_true rfl) ?_ | refine mw_iinc rfl rfl rfl (Nat.le_of_ble_eq_true rfl) ?_
      refine mw_goto rfl ?_
      refine mw_iload_n (i := 1) rfl rfl rfl ?_
      refine mw_iconst (v := nI 2) rfl (by decide) ?_
      refine mw_n_ge rfl (by omega) (by omega) (fun q2 => ?_) (fun q2 => ?_)
      · refine mw_return rfl rfl rfl (Nat.le_refl _) (hp _ ⟨⟨_, _, hKW.keep fun j hj => ?_⟩, a4.keep fun j h1 h2 => ?_, ?_, ?_, ⟨_, (PgAt.of 86 (pgP0 (fun _ => 2)) (hset X 86 (.inr (5, [.int 0, .null, .int 0, .null, .null, .null, .int 0, .null])))).keep fun j h1 h2 => ?_⟩, ⟨_, (PgAt.of 132 (pgP0 (fun _ => 2)) _).keep fun j h1 h2 => hset_ne _ _ (by omega)⟩⟩)
        · rw [hset_ne _ _ (by omega), pgH_o (by omega), hset_ne _ _ (by omega), hset_ne _ _ (by omega), pgH_o (by omega), hset_ne _ _ (by omega)]
        · rw [hset_ne _ _ (by omega), pgH_o (by omega), hset_ne _ _ (by omega), hset_ne _ _ (by omega), pgH_o (by omega), hset_ne _ _ (by omega)]
        · rw [hset_same, slF_up]
        · rw [hset_ne _ _ (by omega), pgH_o (by omega), hset_ne _ _ (by omega), hset_ne _ _ (by omega), pgH_o (by omega), hset_ne _ _ (by omega)]
          exact a6
        · rw [hset_ne _ _ (by omega), pgH_o (by omega), hset_ne _ _ (by omega), hset_ne _ _ (by omega)]
      · omega
