/-! THE CLASS'S CONSTRUCTORS: program, text -/
abbrev pgP0 (pl : Nat → Nat) : PgS := (4, pl, 0, fun _ => 0, fun _ => 0, fun _ => 0, 0, fun _ => ruS0)
def plK (b k : Nat) : Nat → Option Nat := fun i => if i < k then some (b + 6 + 5 * i) else none
/-- a program in the making at b: k rules are made -/
def pgI (b : Nat) (pl : Nat → Nat) (k : Nat) (h : Nat → MC) : Nat → MC := fun j => if b ≤ j ∧ j < b + 6 + 5 * k then (if j = b + 5 then .inl (.object RX6, 8, .inr (.inr (.inr (.inr (plK b k))))) else pgC b (pgP0 pl) (j - b)) else h j
theorem pgI_0 {b k : Nat} {pl : Nat → Nat} {h : Nat → MC} : pgI b pl k h b = .inr (5, [.int (nI 4), .ref (b + 1), .int (nI 0), .ref (b + 2), .ref (b + 3), .ref (b + 4), .int (nI 0), .ref (b + 5)]) := by
  unfold pgI
  rw [if_pos (by omega), if_neg (by omega), Nat.sub_self]
  rfl
theorem pgI_1 {b k : Nat} {pl : Nat → Nat} {h : Nat → MC} : pgI b pl k h (b + 1) = .inl (.int, 6, .inl (vI pl)) := by
  unfold pgI
  rw [if_pos (by omega), if_neg (by omega), show b + 1 - b = 1 by omega]
  rfl
theorem pgI_5 {b k : Nat} {pl : Nat → Nat} {h : Nat → MC} : pgI b pl k h (b + 5) = .inl (.object RX6, 8, .inr (.inr (.inr (.inr (plK b k))))) := by
  unfold pgI
  rw [if_pos (by omega), if_pos rfl]
theorem pgI_p1 {b k : Nat} {pl pl' : Nat → Nat} {h : Nat → MC} : hset (pgI b pl k h) (b + 1) (.inl (.int, 6, .inl (vI pl'))) = pgI b pl' k h := by
  funext j
  by_cases q1 : j = b + 1
  · rw [q1, hset_same, pgI_1]
  · rw [hset_ne _ _ q1]
    unfold pgI
    by_cases q : b ≤ j ∧ j < b + 6 + 5 * k
    · rw [if_pos q, if_pos q]
      by_cases q5 : j = b + 5
      · rw [if_pos q5, if_pos q5]
      · rw [if_neg q5, if_neg q5]
        obtain ⟨i, hi⟩ : ∃ i, j - b = i := ⟨_, rfl⟩
        rw [hi]
        match i, hi with
        | 0, _ => rfl
        | 1, hi => exact absurd hi (by omega)
        | 2, _ => rfl
        | 3, _ => rfl
        | 4, _ => rfl
        | 5, _ => rfl
        | i + 6, _ => rfl
    · rw [if_neg q, if_neg q]
theorem plK_s (b k : Nat) : va_up (plK b k) k (some (b + 6 + 5 * k)) = plK b (k + 1) := by
  funext i
  by_cases e : i = k
  · simp [va_up, plK, e]
  · by_cases e2 : i < k
    · simp [va_up, plK, e, e2, Nat.lt_succ_of_lt e2]
    · have e3 : ¬ i < k + 1 := by omega
      simp [va_up, plK, e, e2, e3]
theorem pgI_s {b k : Nat} {pl : Nat → Nat} {h : Nat → MC} {o : MC} : hset (ruH (b + 6 + 5 * k) ruS0 (hset (pgI b pl k h) (b + 6 + 5 * k) o)) (b + 5) (.inl (.object RX6, 8, .inr (.inr (.inr (.inr (va_up (plK b k) k (some (b + 6 + 5 * k)))))))) = pgI b pl (k + 1) h := by
  rw [plK_s]
  funext j
  by_cases q5 : j = b + 5
  · rw [q5, hset_same, pgI_5]
  · rw [hset_ne _ _ q5]
    unfold pgI ruH
    by_cases q : b + 6 + 5 * k ≤ j ∧ j < b + 6 + 5 * k + 5
    · obtain ⟨i, hi, e⟩ : ∃ i, i < 5 ∧ j - b = 5 * k + i + 6 := ⟨j - (b + 6 + 5 * k), by omega, by omega⟩
      rw [if_pos q, if_pos (by omega), if_neg q5, e, pgC_ru b _ hi, show j - (b + 6 + 5 * k) = i by omega]
    · rw [if_neg q, hset_ne _ _ (by omega)]
      by_cases q2 : b ≤ j ∧ j < b + 6 + 5 * k
      · rw [if_pos q2, if_neg q5, if_pos (by omega), if_neg q5]
      · rw [if_neg q2, if_neg (by omega)]
theorem pgI_8 {b : Nat} {pl : Nat → Nat} {h : Nat → MC} : pgI b pl 8 h = pgH b (pgP0 pl) h := by
  funext j
  unfold pgI pgH
  by_cases q : b ≤ j ∧ j < b + 46
  · rw [if_pos (by omega), if_pos q]
    by_cases q5 : j = b + 5
    · rw [if_pos q5, q5, show b + 5 - b = 5 by omega]
      rfl
    · rw [if_neg q5]
  · rw [if_neg (by omega), if_neg q]
theorem c_X5_init (d b : Nat) (h : Nat → MC) (hO : h b = .inr (5, [.int 0, .null, .int 0, .null, .null, .null, .int 0, .null])) : Fn M_X5_init (d + 2) 45 226 [.ref b] h (b + 1) none (pgH b (pgP0 (fun _ => 2)) h) := by
  refine Fn.of fun post hp => ?_
  refine mw_aload_n (i := 0) rfl rfl rfl ?_
  refine mw_objInit rfl v_X5_3 (by omega) (Nat.le_of_ble_eq_true rfl) ?_
  refine mw_aload_n (i := 0) rfl rfl rfl ?_
  refine mw_iconst (v := nI 4) rfl (by decide) ?_
  refine mw_putfield rfl f_X5_9 (by first | rfl | exact hO | exact (hset_ne _ _ (by omega)).trans hO | exact (hset_ne _ _ (by omega)).trans (hset_same _ _ _) | exact hset_same _ _ _ | exact pgI_0) (Nat.le_of_ble_eq_true rfl) (fun _ => rfl) (fun _ => rfl) ?_
  refine mw_aload_n (i := 0) rfl rfl rfl ?_
  refine mw_bipush (v := nI 6) rfl (by decide) ?_
  refine mw_newarray (ti := 0) (x := .inl (fun _ => 0)) rfl rfl rfl ac_int (fun _ => rfl) (fun _ => rfl) (by omega) (by omega) (by omega) ?_
  refine mw_putfieldF rfl f_X5_15 rfl rfl (by first | rfl | exact hO | exact (hset_ne _ _ (by omega)).trans hO | exact (hset_ne _ _ (by omega)).trans (hset_same _ _ _) | exact hset_same _ _ _ | exact pgI_0) (Nat.le_of_ble_eq_true rfl) (fun _ => rfl) (fun _ => rfl) ?_
  refine mw_aload_n (i := 0) rfl rfl rfl ?_
  refine mw_bipush (v := nI 12) rfl (by decide) ?_
  refine mw_newarray (ti := 0) (x := .inl (fun _ => 0)) rfl rfl rfl ac_int (fun _ => rfl) (fun _ => rfl) (by omega) (by omega) (by omega) ?_
  refine mw_putfieldF rfl f_X5_19 rfl rfl (by first | rfl | exact hO | exact (hset_ne _ _ (by omega)).trans hO | exact (hset_ne _ _ (by omega)).trans (hset_same _ _ _) | exact hset_same _ _ _ | exact pgI_0) (Nat.le_of_ble_eq_true rfl) (fun _ => rfl) (fun _ => rfl) ?_
  refine mw_aload_n (i := 0) rfl rfl rfl ?_
  refine mw_bipush (v := nI 12) rfl (by decide) ?_
  refine mw_newarray (ti := 0) (x := .inl (fun _ => 0)) rfl rfl rfl ac_int (fun _ => rfl) (fun _ => rfl) (by omega) (by omega) (by omega) ?_
  refine mw_putfieldF rfl f_X5_22 rfl rfl (by first | rfl | exact hO | exact (hset_ne _ _ (by omega)).trans hO | exact (hset_ne _ _ (by omega)).trans (hset_same _ _ _) | exact hset_same _ _ _ | exact pgI_0) (Nat.le_of_ble_eq_true rfl) (fun _ => rfl) (fun _ => rfl) ?_
  refine mw_aload_n (i := 0) rfl rfl rfl ?_
  refine mw_bipush (v := nI 12) rfl (by decide) ?_
  refine mw_newarray (ti := 0) (x := .inl (fun _ => 0)) rfl rfl rfl ac_int (fun _ => rfl) (fun _ => rfl) (by omega) (by omega) (by omega) ?_
  refine mw_putfieldF rfl f_X5_25 rfl rfl (by first | rfl | exact hO | exact (hset_ne _ _ (by omega)).trans hO | exact (hset_ne _ _ (by omega)).trans (hset_same _ _ _) | exact hset_same _ _ _ | exact pgI_0) (Nat.le_of_ble_eq_true rfl) (fun _ => rfl) (fun _ => rfl) ?_
  refine mw_aload_n (i := 0) rfl rfl rfl ?_
  refine mw_bipush (v := nI 8) rfl (by decide) ?_
  refine mw_anewarray (ti := 5) rfl (Or.inr rfl) rfl k_X5_28 (by omega) (by omega) (by omega) ?_
  refine mw_putfieldF rfl f_X5_30 rfl rfl (by first | rfl | exact hO | exact (hset_ne _ _ (by omega)).trans hO | exact (hset_ne _ _ (by omega)).trans (hset_same _ _ _) | exact hset_same _ _ _ | exact pgI_0) (Nat.le_of_ble_eq_true rfl) (fun _ => rfl) (fun _ => rfl) ?_
  refine mw_heap (h2 := pgI b (fun _ => 0) 0 h) ?_ ?_
  · funext j
    unfold pgI
    have eN : plK b 0 = fun _ => none := funext fun i => if_neg (Nat.not_lt_zero i)
    by_cases q0 : j = b
    · rw [if_pos (by omega), if_neg (by omega), q0, Nat.sub_self, hset_same]
      rfl
    · rw [hset_ne _ _ q0]
      by_cases q5 : j = b + 5
      · rw [if_pos (by omega), if_pos q5, q5, eN]
        exact (hset_same _ _ _).symm
      · rw [if_neg q5, hset_ne _ _ q5, hset_ne _ _ q0]
        by_cases q4 : j = b + 4
        · rw [if_pos (by omega), q4, show b + 4 - b = 4 by omega]
          exact (hset_same _ _ _).symm
        · rw [hset_ne _ _ q4, hset_ne _ _ q0]
          by_cases q3 : j = b + 3
          · rw [if_pos (by omega), q3, show b + 3 - b = 3 by omega]
            exact (hset_same _ _ _).symm
          · rw [hset_ne _ _ q3, hset_ne _ _ q0]
            by_cases q2 : j = b + 2
            · rw [if_pos (by omega), q2, show b + 2 - b = 2 by omega]
              exact (hset_same _ _ _).symm
            · rw [hset_ne _ _ q2, hset_ne _ _ q0]
              by_cases q1 : j = b + 1
              · rw [if_pos (by omega), q1, show b + 1 - b = 1 by omega]
                exact (hset_same _ _ _).symm
              · rw [hset_ne _ _ q1, hset_ne _ _ q0, if_neg (by omega)]
  refine mw_aload_n (i := 0) rfl rfl rfl ?_
  refine mw_getfield rfl f_X5_15 (by first | rfl | exact hO | exact (hset_ne _ _ (by omega)).trans hO | exact (hset_ne _ _ (by omega)).trans (hset_same _ _ _) | exact hset_same _ _ _ | exact pgI_0) rfl ?_
  refine mw_iconst (v := nI 2) rfl (by decide) ?_
  refine mw_callS_f (c_fill d _ (b + 1) 6 (vI (fun _ => 0)) (nI 2) _ pgI_1 (by omega)) rfl ok_J7_fill_53178 v_X5_34 rfl (Nat.le_of_ble_eq_true rfl) rfl (Nat.le_of_ble_eq_true rfl) (by omega) (by omega) (by omega) ?_
  refine mw_tail (vI (fun _ => 2)) (hset_same _ _ _) (fun j hj => by unfold flr; rw [if_pos hj]; rfl) ?_
  rw [hset_hset, pgI_p1]
  refine mw_iconst (v := nI 0) rfl (by decide) ?_
  refine mw_istore_n (i := 1) rfl rfl (Nat.le_of_ble_eq_true rfl) ?_
  have loop : ∀ k, k ≤ 8 → MW M_X5_init (d + 2) 45 226 (b + 1) post 60 [(0, .ref b), (1, .int (nI k))] [] (pgI b (fun _ => 2) k h) (b + 6 + 5 * k) (50 + 22 * k) := by
    refine loop_up 8 ?_ ?_
    · rw [pgI_8]
      refine mw_iload_n (i := 1) rfl rfl rfl ?_
      refine mw_bipush (v := nI 8) rfl (by decide) ?_
      refine mw_n_ge rfl (by omega) (by omega) (fun q1 => ?_) (fun q1 => ?_)
      · exact mw_return rfl rfl rfl (Nat.le_refl _) (hp)
      · omega
    · intro k hk ih
      refine mw_iload_n (i := 1) rfl rfl rfl ?_
      refine mw_bipush (v := nI 8) rfl (by decide) ?_
      refine mw_n_ge rfl (by omega) (by omega) (fun q1 => ?_) (fun q1 => ?_)
      · omega
      · refine mw_aload_n (i := 0) rfl rfl rfl ?_
        refine mw_getfield rfl f_X5_30 (by first | rfl | exact hO | exact (hset_ne _ _ (by omega)).trans hO | exact (hset_ne _ _ (by omega)).trans (hset_same _ _ _) | exact hset_same _ _ _ | exact pgI_0) rfl ?_
        refine mw_iload_n (i := 1) rfl rfl rfl ?_
        refine mw_new rfl n_X5_28 (by omega) (by omega) ?_
        refine mw_dup rfl rfl ?_
        refine mw_callN_f (c_X6_init d (b + 6 + 5 * k) _ (hset_same _ _ _)) rfl ok_X6_init rfl v_X5_40 rfl (Nat.le_of_ble_eq_true rfl) rfl (Nat.le_of_ble_eq_true rfl) (by omega) (by omega) (by omega) ?_
        refine mw_aast (ti := 5) (f := plK b k) rfl ((ruH_o (by omega)).trans ((hset_ne _ _ (by omega)).trans pgI_5)) rfl ruH_0 (fun e => by cases e) rfl rfl (by omega) (by omega) ?_
        rw [pgI_s]
        first | refine mw_ninc rfl rfl (Nat.le_of_ble_eq_true rfl) ?_ | refine mw_iinc rfl rfl rfl (Nat.le_of_ble_eq_true rfl) ?_
        refine mw_goto rfl ?_
        have e1 : b + 6 + 5 * k + 1 + 4 = b + 6 + 5 * (k + 1) := by omega
        have e2 : 50 + 22 * k + 6 + 16 = 50 + 22 * (k + 1) := by omega
        rw [e1, e2]
        exact mw_locals rfl ih
  exact mw_locals rfl (loop 0 (by omega))
