/-- truths as a row -/
def bIf (b : Nat → Bool) : Nat → Int32 := fun j => bI (b j)
theorem bIf_upd (b : Nat → Bool) (k : Nat) (x : Bool) : upd (bIf b) k (bI x) = bIf (updN b k x) := by
  funext j
  by_cases h : j = k <;> simp [upd, bIf, updN, h]
theorem bI_t : (nI 1 : Int32) = bI true := rfl
theorem bI_f : (nI 0 : Int32) = bI false := rfl
def keepV (v kp : Nat → Nat) (o i : Nat) : Nat → Nat := fun j => if o ≤ j ∧ j < o + i then v (j - o) else kp j
theorem c_save_e (d n : Nat) (x : Int32) (h : Nat → MC) (hx : inI x 2 = false) : Fn M_X10_save (d + 1) 0 0 [.ref 178, .int x] h n (some (.int (-1))) h := by
  refine Fn.of fun post hp => ?_
  refine mw_iload_n (i := 1) rfl rfl rfl ?_
  refine mw_iconst (v := nI 0) rfl (by decide) ?_
  refine mw_iconst (v := nI 1) rfl (by decide) ?_
  refine mw_callS_f (c_in0 d n x 1 (by omega) h) rfl ok_X10_in v_X10_80 rfl (Nat.le_of_ble_eq_true rfl) rfl (Nat.le_of_ble_eq_true rfl) (by omega) (by omega) (by omega) ?_
  rw [hx]
  refine mw_b_ne rfl (fun hd => ?_) (fun hd => ?_)
  · cases hd
  · refine mw_iconst (v := (-1)) rfl (by decide) ?_
    exact mw_ireturn rfl rfl rfl rfl (Nat.le_refl _) (hp)
theorem c_save (d n : Nat) (s : Nat) (w : Nat → Int32) (v kp : Nat → Nat) (ik : Nat → Bool) (h : Nat → MC) (hO : h 178 = RO w) (hv : h 179 = .inl (.int, 189, .inl (vI v))) (hk : h 180 = .inl (.int, 378, .inl (vI kp))) (hi : h 181 = .inl (.boolean, 2, .inl (bIf ik))) (hs : s < 2) : Fn M_X10_save (d + 1) 0 0 [.ref 178, .int (nI s)] h n (some (.int (nI (v 2)))) (mov [(180, .inl (.int, 378, .inl (vI (keepV v kp (189 * s) 189)))), (181, .inl (.boolean, 2, .inl (bIf (updN ik s true))))] h) := by
  refine Fn.of fun post hp => ?_
  refine mw_iload_n (i := 1) rfl rfl rfl ?_
  refine mw_iconst (v := nI 0) rfl (by decide) ?_
  refine mw_iconst (v := nI 1) rfl (by decide) ?_
  refine mw_callS_f (c_in0 d n (nI s) 1 (by omega) h) rfl ok_X10_in v_X10_80 rfl (Nat.le_of_ble_eq_true rfl) rfl (Nat.le_of_ble_eq_true rfl) (by omega) (by omega) (by omega) ?_
  rw [inI_nI (show s < 1 + 1 by omega) (by omega)]
  refine mw_b_ne rfl (fun hd => ?_) (fun hd => ?_)
  · refine mw_iconst (v := nI 0) rfl (by decide) ?_
    refine mw_istore_n (i := 2) rfl rfl (Nat.le_of_ble_eq_true rfl) ?_
    have loop : ∀ j, j ≤ 189 → MW M_X10_save (d + 1) 0 0 n post 13 [(0, .ref 178), (1, .int (nI s)), (2, .int (nI j))] [] (mov [(180, .inl (.int, 378, .inl (vI (keepV v kp (189 * s) j))))] h) n 0 := by
      refine loop_up 189 ?_ ?_
      · refine mw_iload_n (i := 2) rfl rfl rfl ?_
        refine mw_sipush (v := nI 189) rfl (by decide) ?_
        refine mw_n_ge rfl (by omega) (by omega) (fun hc => ?_) (fun hc => ?_)
        · refine mw_aload_n (i := 0) rfl rfl rfl ?_
          refine mw_getfield rfl f_X10_16 (by first | rfl | exact hO | exact hv | exact hk | exact hi) rfl ?_
          refine mw_iload_n (i := 1) rfl rfl rfl ?_
          refine mw_iconst (v := bI true) rfl (by decide) ?_
          refine mw_zast_m rfl (by first | rfl | exact hi) (by omega) (by omega) (bI_z _) ?_
          rw [bIf_upd]
          refine mw_aload_n (i := 0) rfl rfl rfl ?_
          refine mw_getfield rfl f_X10_7 (by first | rfl | exact hO | exact hv | exact hk | exact hi) rfl ?_
          refine mw_iconst (v := nI 2) rfl (by decide) ?_
          refine mw_iald rfl (by first | rfl | exact hO | exact hv | exact hk | exact hi) (by omega) (by omega) ?_
          exact mw_ireturn rfl rfl rfl rfl (Nat.le_refl _) (hp)
        · omega
      · intro j hj ih
        refine mw_iload_n (i := 2) rfl rfl rfl ?_
        refine mw_sipush (v := nI 189) rfl (by decide) ?_
        refine mw_n_ge rfl (by omega) (by omega) (fun hc => ?_) (fun hc => ?_)
        · omega
        · refine mw_aload_n (i := 0) rfl rfl rfl ?_
          refine mw_getfield rfl f_X10_13 (by first | rfl | exact hO | exact hv | exact hk | exact hi) rfl ?_
          refine mw_sipush (v := nI 189) rfl (by decide) ?_
          refine mw_iload_n (i := 1) rfl rfl rfl ?_
          first | refine mw_nmul rfl ?_ | refine mw_imul rfl ?_
          refine mw_iload_n (i := 2) rfl rfl rfl ?_
          first | refine mw_nadd rfl ?_ | refine mw_iadd rfl ?_
          refine mw_aload_n (i := 0) rfl rfl rfl ?_
          refine mw_getfield rfl f_X10_7 (by first | rfl | exact hO | exact hv | exact hk | exact hi) rfl ?_
          refine mw_iload_n (i := 2) rfl rfl rfl ?_
          refine mw_iald rfl (by first | rfl | exact hO | exact hv | exact hk | exact hi) (by omega) (by omega) ?_
          refine mw_iast_m rfl (by first | rfl | exact hO | exact hv | exact hk | exact hi) (by omega) (by omega) ?_
          first | rw [vI_upd] | rw [vI_updv] | skip
          first | refine mw_ninc rfl rfl (Nat.le_of_ble_eq_true rfl) ?_ | refine mw_iinc rfl rfl rfl (Nat.le_of_ble_eq_true rfl) ?_
          refine mw_goto rfl ?_
          refine mw_locals rfl (mw_heap (heap1N fun i => ?_) ih)
          simp only [updN, keepV]
          by_cases q1 : i = 189 * s + j
          · subst q1
            rw [if_pos (by omega), if_pos rfl]
            congr 1
            omega
          · rw [if_neg q1]
            by_cases q2 : 189 * s ≤ i ∧ i < 189 * s + j
            · rw [if_pos q2, if_pos (by omega)]
            · rw [if_neg q2, if_neg (by omega)]
    refine mw_locals (L2 := [(0, .ref 178), (1, .int (nI s)), (2, .int (nI 0))]) rfl (mw_heap ?_ (loop 0 (by omega)))
    rw [show keepV v kp (189 * s) 0 = kp by funext j; simp only [keepV]; rw [if_neg (by omega)]]
    exact mov_self (by simp [hk])
  · cases hd
theorem c_restore_e1 (d n : Nat) (x : Int32) (h : Nat → MC) (hx : inI x 2 = false) : Fn M_X10_restore (d + 1) 0 0 [.ref 178, .int x] h n (some (.int (-1))) h := by
  refine Fn.of fun post hp => ?_
  refine mw_iload_n (i := 1) rfl rfl rfl ?_
  refine mw_iconst (v := nI 0) rfl (by decide) ?_
  refine mw_iconst (v := nI 1) rfl (by decide) ?_
  refine mw_callS_f (c_in0 d n x 1 (by omega) h) rfl ok_X10_in v_X10_80 rfl (Nat.le_of_ble_eq_true rfl) rfl (Nat.le_of_ble_eq_true rfl) (by omega) (by omega) (by omega) ?_
  rw [hx]
  refine mw_b_ne rfl (fun hd => ?_) (fun hd => ?_)
  · cases hd
  · refine mw_iconst (v := (-1)) rfl (by decide) ?_
    exact mw_ireturn rfl rfl rfl rfl (Nat.le_refl _) (hp)
theorem c_restore_e2 (d n : Nat) (s : Nat) (w : Nat → Int32) (ik : Nat → Bool) (h : Nat → MC) (hO : h 178 = RO w) (hi : h 181 = .inl (.boolean, 2, .inl (bIf ik))) (hs : s < 2) (hk : ik s = false) : Fn M_X10_restore (d + 1) 0 0 [.ref 178, .int (nI s)] h n (some (.int (-3))) h := by
  refine Fn.of fun post hp => ?_
  refine mw_iload_n (i := 1) rfl rfl rfl ?_
  refine mw_iconst (v := nI 0) rfl (by decide) ?_
  refine mw_iconst (v := nI 1) rfl (by decide) ?_
  refine mw_callS_f (c_in0 d n (nI s) 1 (by omega) h) rfl ok_X10_in v_X10_80 rfl (Nat.le_of_ble_eq_true rfl) rfl (Nat.le_of_ble_eq_true rfl) (by omega) (by omega) (by omega) ?_
  rw [inI_nI (show s < 1 + 1 by omega) (by omega)]
  refine mw_b_ne rfl (fun hd => ?_) (fun hd => ?_)
  · refine mw_aload_n (i := 0) rfl rfl rfl ?_
    refine mw_getfield rfl f_X10_16 (by first | rfl | exact hO | exact hi) rfl ?_
    refine mw_iload_n (i := 1) rfl rfl rfl ?_
    refine mw_zald_v rfl hi (by omega) (by omega) (show bIf ik s = bI false by rw [bIf, hk]) ?_
    refine mw_b_ne rfl (fun he => ?_) (fun he => ?_)
    · cases he
    · refine mw_bipush (v := (-3)) rfl (by decide) ?_
      exact mw_ireturn rfl rfl rfl rfl (Nat.le_refl _) (hp)
  · cases hd
theorem c_restore (d n : Nat) (s : Nat) (w : Nat → Int32) (v kp : Nat → Nat) (ik : Nat → Bool) (h : Nat → MC) (hO : h 178 = RO w) (hv : h 179 = .inl (.int, 189, .inl (vI v))) (hk : h 180 = .inl (.int, 378, .inl (vI kp))) (hi : h 181 = .inl (.boolean, 2, .inl (bIf ik))) (hs : s < 2) (hik : ik s = true) : Fn M_X10_restore (d + 1) 0 0 [.ref 178, .int (nI s)] h n (some (.int (nI (kp (189 * s + 2))))) (mov [(179, .inl (.int, 189, .inl (vI (fun j => if j < 189 then kp (189 * s + j) else v j)))), (178, RO (updN w 3 0))] h) := by
  refine Fn.of fun post hp => ?_
  refine mw_iload_n (i := 1) rfl rfl rfl ?_
  refine mw_iconst (v := nI 0) rfl (by decide) ?_
  refine mw_iconst (v := nI 1) rfl (by decide) ?_
  refine mw_callS_f (c_in0 d n (nI s) 1 (by omega) h) rfl ok_X10_in v_X10_80 rfl (Nat.le_of_ble_eq_true rfl) rfl (Nat.le_of_ble_eq_true rfl) (by omega) (by omega) (by omega) ?_
  rw [inI_nI (show s < 1 + 1 by omega) (by omega)]
  refine mw_b_ne rfl (fun hd => ?_) (fun hd => ?_)
  · refine mw_aload_n (i := 0) rfl rfl rfl ?_
    refine mw_getfield rfl f_X10_16 (by first | rfl | exact hO | exact hv | exact hk | exact hi) rfl ?_
    refine mw_iload_n (i := 1) rfl rfl rfl ?_
    refine mw_zald_v rfl hi (by omega) (by omega) (show bIf ik s = bI true by rw [bIf, hik]) ?_
    refine mw_b_ne rfl (fun he => ?_) (fun he => ?_)
    · refine mw_iconst (v := nI 0) rfl (by decide) ?_
      refine mw_istore_n (i := 2) rfl rfl (Nat.le_of_ble_eq_true rfl) ?_
      have loop : ∀ j, j ≤ 189 → MW M_X10_restore (d + 1) 0 0 n post 25 [(0, .ref 178), (1, .int (nI s)), (2, .int (nI j))] [] (mov [(179, .inl (.int, 189, .inl (vI (fun i => if i < j then kp (189 * s + i) else v i))))] h) n 0 := by
        refine loop_up 189 ?_ ?_
        · refine mw_iload_n (i := 2) rfl rfl rfl ?_
          refine mw_sipush (v := nI 189) rfl (by decide) ?_
          refine mw_n_ge rfl (by omega) (by omega) (fun hc => ?_) (fun hc => ?_)
          · refine mw_aload_n (i := 0) rfl rfl rfl ?_
            refine mw_iconst (v := nI 0) rfl (by decide) ?_
            first | refine mw_putfield_m rfl f_X10_76 (by first | rfl | exact hO | exact hv | exact hk | exact hi) (Nat.le_of_ble_eq_true rfl) (fun _ => bI_nar _) (fun _ => bI_fit _) ?_ | refine mw_putfield_m rfl f_X10_76 (by first | rfl | exact hO | exact hv | exact hk | exact hi) (Nat.le_of_ble_eq_true rfl) (fun _ => rfl) (fun _ => rfl) ?_
            refine mw_aload_n (i := 0) rfl rfl rfl ?_
            refine mw_getfield rfl f_X10_7 (by first | rfl | exact hO | exact hv | exact hk | exact hi) rfl ?_
            refine mw_iconst (v := nI 2) rfl (by decide) ?_
            refine mw_iald rfl (by first | rfl | exact hO | exact hv | exact hk | exact hi) (by omega) (by omega) ?_
            exact mw_ireturn rfl rfl rfl rfl (Nat.le_refl _) (hp)
          · omega
        · intro j hj ih
          refine mw_iload_n (i := 2) rfl rfl rfl ?_
          refine mw_sipush (v := nI 189) rfl (by decide) ?_
          refine mw_n_ge rfl (by omega) (by omega) (fun hc => ?_) (fun hc => ?_)
          · omega
          · refine mw_aload_n (i := 0) rfl rfl rfl ?_
            refine mw_getfield rfl f_X10_7 (by first | rfl | exact hO | exact hv | exact hk | exact hi) rfl ?_
            refine mw_iload_n (i := 2) rfl rfl rfl ?_
            refine mw_aload_n (i := 0) rfl rfl rfl ?_
            refine mw_getfield rfl f_X10_13 (by first | rfl | exact hO | exact hv | exact hk | exact hi) rfl ?_
            refine mw_sipush (v := nI 189) rfl (by decide) ?_
            refine mw_iload_n (i := 1) rfl rfl rfl ?_
            first | refine mw_nmul rfl ?_ | refine mw_imul rfl ?_
            refine mw_iload_n (i := 2) rfl rfl rfl ?_
            first | refine mw_nadd rfl ?_ | refine mw_iadd rfl ?_
            refine mw_iald rfl (by first | rfl | exact hO | exact hv | exact hk | exact hi) (by omega) (by omega) ?_
            refine mw_iast_m rfl (by first | rfl | exact hO | exact hv | exact hk | exact hi) (by omega) (by omega) ?_
            first | rw [vI_upd] | rw [vI_updv] | skip
            first | refine mw_ninc rfl rfl (Nat.le_of_ble_eq_true rfl) ?_ | refine mw_iinc rfl rfl rfl (Nat.le_of_ble_eq_true rfl) ?_
            refine mw_goto rfl ?_
            refine mw_locals rfl (mw_heap (heap1N fun i => ?_) ih)
            simp only [updN]
            by_cases q1 : i = j
            · subst q1
              rw [if_pos (by omega), if_pos rfl]
            · rw [if_neg q1]
              by_cases q2 : i < j
              · rw [if_pos q2, if_pos (by omega)]
              · rw [if_neg q2, if_neg (by omega)]
      refine mw_locals (L2 := [(0, .ref 178), (1, .int (nI s)), (2, .int (nI 0))]) rfl (mw_heap ?_ (loop 0 (by omega)))
      exact mov_self (by simp [hv])
    · cases he
  · cases hd
