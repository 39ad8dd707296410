theorem vf_updN (l : Nat → UInt32) (k : Nat) (x : UInt32) : vf_upd l k x = updN l k x := rfl
theorem c_findLikelihoods (d n : Nat) (w : Nat → Int32) (v : Nat → Nat) (l0 F : Nat → UInt32) (S : HoS) (h : Nat → MC) (hO : h 178 = RO w) (hw : w 6 = nI S.1) (hv : h 179 = .inl (.int, 189, .inl (vI v))) (hlk : h 193 = .inl (.float, 216, .inr (.inr (.inl l0)))) (hl0 : ∀ f, 216 ≤ f → l0 f = fM1) (hok : OkN v) (hS : HoOk v S) (hA : HoAt h S) (hl : IsLim (fun l => (lkP S l).1) (lkBase v) F) : Fn M_X10_findLikelihoods (d + 1) 0 0 [.ref 178] h n none (mov [(193, .inl (.float, 216, .inr (.inr (.inl F))))] h) := by
  obtain ⟨hru, hhd, hli⟩ := hA
  have hf12 := hok.2.2.1
  have h1728 := hS.1
  refine Fn.of fun post hp => ?_
  have loopI : ∀ l : Nat → UInt32, LkA l → MW M_X10_findLikelihoods (d + 1) 0 0 n post 100 [(0, .ref 178), (1, .int (bI (lkP S l).2))] [] (mov [(193, .inl (.float, 216, .inr (.inr (.inl (lkP S l).1))))] h) n 0 → ∀ i, i ≤ S.1 → MW M_X10_findLikelihoods (d + 1) 0 0 n post 108 [(0, .ref 178), (1, .int (bI (itN (lkI S) (l, false) i).2)), (2, .int (nI i))] [] (mov [(193, .inl (.float, 216, .inr (.inr (.inl (itN (lkI S) (l, false) i).1))))] h) n 0 := by
    intro l hl k
    refine loop_up S.1 ?_ ?_
    · refine mw_iload_n (i := 2) rfl rfl rfl ?_
      refine mw_aload_n (i := 0) rfl rfl rfl ?_
      refine mw_getfield rfl f_X10_157 (by first | rfl | exact hO | exact hv | exact hhd) rfl ?_
      rw [hw]
      refine mw_n_ge rfl (by omega) (by omega) (fun q => ?_) (fun q => ?_)
      · refine mw_goto rfl ?_
        exact mw_locals rfl k
      · omega
    · intro i hi ih
      have hQi := lkIs_A hS (b := false) hl i (by omega)
      have hhi := (hS.2 i hi).2.1
      generalize hQ : itN (lkI S) (l, false) i = Q at hQi ⊢
      have eQ : itN (lkI S) (l, false) (i + 1) = lkI S i Q := by rw [← hQ]; rfl
      rw [eQ] at ih
      have hB := lkB_F hS hQi hi
      refine mw_iload_n (i := 2) rfl rfl rfl ?_
      refine mw_aload_n (i := 0) rfl rfl rfl ?_
      refine mw_getfield rfl f_X10_157 (by first | rfl | exact hO | exact hv | exact hhd) rfl ?_
      rw [hw]
      refine mw_n_ge rfl (by omega) (by omega) (fun q => ?_) (fun q => ?_)
      · omega
      · refine mw_aload_n (i := 0) rfl rfl rfl ?_
        refine mw_iload_n (i := 2) rfl rfl rfl ?_
        refine mw_callV_f (c_likelyBy d n i w v Q.1 S _ hO rfl hS ⟨hru, hhd, hli⟩ hi hQi) rfl ok_X10_likelyBy v_X10_204 rfl (by first | rfl | exact hO | exact hv | exact hhd) (by intro e; cases e) rfl (Nat.le_of_ble_eq_true rfl) rfl (Nat.le_of_ble_eq_true rfl) (by omega) (by omega) (by omega) ?_
        refine mw_fstore_n (i := 3) rfl rfl (Nat.le_of_ble_eq_true rfl) ?_
        refine mw_fload_n (i := 3) rfl rfl rfl ?_
        refine mw_aload_n (i := 0) rfl rfl rfl ?_
        refine mw_getfield rfl f_X10_53 (by first | rfl | exact hO | exact hv | exact hhd) rfl ?_
        refine mw_aload_n (i := 0) rfl rfl rfl ?_
        refine mw_getfield rfl f_X10_44 (by first | rfl | exact hO | exact hv | exact hhd) rfl ?_
        refine mw_iload_n (i := 2) rfl rfl rfl ?_
        refine mw_iald rfl (by first | rfl | exact hO | exact hv | exact hhd) (by omega) (by omega) ?_
        refine mw_fald rfl (by first | rfl | exact hO | exact hv | exact hhd) (by omega) (by omega) ?_
        refine mw_fcmp rfl ?_
        refine mw_if_le rfl (fun hle => ?_) (fun hle => ?_)
        · rw [show lkI S i Q = Q by unfold lkI; rw [if_neg (fun e => Int32.not_lt.mpr hle ((lk_gt hB (hQi _)).mpr e))]] at ih
          first | refine mw_ninc rfl rfl (Nat.le_of_ble_eq_true rfl) ?_ | refine mw_iinc rfl rfl rfl (Nat.le_of_ble_eq_true rfl) ?_
          refine mw_goto rfl ?_
          exact mw_locals rfl ih
        · rw [show lkI S i Q = (updN Q.1 (S.2.2.1 i) (lkB S Q.1 i), true) by unfold lkI; rw [if_pos ((lk_gt hB (hQi _)).mp (Int32.not_le.mp hle))]] at ih
          refine mw_aload_n (i := 0) rfl rfl rfl ?_
          refine mw_getfield rfl f_X10_53 (by first | rfl | exact hO | exact hv | exact hhd) rfl ?_
          refine mw_aload_n (i := 0) rfl rfl rfl ?_
          refine mw_getfield rfl f_X10_44 (by first | rfl | exact hO | exact hv | exact hhd) rfl ?_
          refine mw_iload_n (i := 2) rfl rfl rfl ?_
          refine mw_iald rfl (by first | rfl | exact hO | exact hv | exact hhd) (by omega) (by omega) ?_
          refine mw_fload_n (i := 3) rfl rfl rfl ?_
          refine mw_fast_m rfl (by first | rfl | exact hO | exact hv | exact hhd) (by omega) (by omega) ?_
          refine mw_iconst (v := nI 1) rfl (by decide) ?_
          refine mw_istore_n (i := 1) rfl rfl (Nat.le_of_ble_eq_true rfl) ?_
          first | refine mw_ninc rfl rfl (Nat.le_of_ble_eq_true rfl) ?_ | refine mw_iinc rfl rfl rfl (Nat.le_of_ble_eq_true rfl) ?_
          refine mw_goto rfl ?_
          exact mw_locals rfl ih
  have hW : MW M_X10_findLikelihoods (d + 1) 0 0 n post 100 [(0, .ref 178), (1, .int (bI true))] [] (mov [(193, .inl (.float, 216, .inr (.inr (.inl (lkBase v)))))] h) n 0 := by
    obtain ⟨N, hN⟩ : ∃ N : Nat, N = 216 := ⟨_, rfl⟩
    refine while_lim (P := lkP S) (H := fun fl l => MW M_X10_findLikelihoods (d + 1) 0 0 n post 100 [(0, .ref 178), (1, .int (bI fl))] [] (mov [(193, .inl (.float, 216, .inr (.inr (.inl l))))] h) n 0) (I := LkA) hl (lkKs_A hok _ (Nat.le_refl _)) (fun l hl => lkP_A hS hl) (fun l hl => (lkP_flag hS hN hl).2) (fun l hl => lkP_ne hS hl) ?_ ?_
    · show MW M_X10_findLikelihoods (d + 1) 0 0 n post 100 [(0, .ref 178), (1, .int (bI false))] [] (mov [(193, .inl (.float, 216, .inr (.inr (.inl F))))] h) n 0
      refine mw_iload_n (i := 1) rfl rfl rfl ?_
      refine mw_b_eq rfl (fun q => ?_) (fun q => ?_)
      · exact mw_return rfl rfl rfl (Nat.le_refl _) (hp)
      · cases q
    · intro l hl k
      show MW M_X10_findLikelihoods (d + 1) 0 0 n post 100 [(0, .ref 178), (1, .int (bI true))] [] (mov [(193, .inl (.float, 216, .inr (.inr (.inl l))))] h) n 0
      refine mw_iload_n (i := 1) rfl rfl rfl ?_
      refine mw_b_eq rfl (fun q => ?_) (fun q => ?_)
      · cases q
      · refine mw_iconst (v := nI 0) rfl (by decide) ?_
        refine mw_istore_n (i := 1) rfl rfl (Nat.le_of_ble_eq_true rfl) ?_
        refine mw_iconst (v := nI 0) rfl (by decide) ?_
        refine mw_istore_n (i := 2) rfl rfl (Nat.le_of_ble_eq_true rfl) ?_
        exact mw_locals rfl (loopI l hl k 0 (Nat.zero_le _))
  have loopK : ∀ k, k ≤ v 1 → MW M_X10_findLikelihoods (d + 1) 0 0 n post 25 [(0, .ref 178), (1, .int (nI k))] [] (mov [(193, .inl (.float, 216, .inr (.inr (.inl (itN (lkK v) (fun _ => fM1) k)))))] h) n 0 := by
    refine loop_up (v 1) ?_ ?_
    · refine mw_iload_n (i := 1) rfl rfl rfl ?_
      refine mw_aload_n (i := 0) rfl rfl rfl ?_
      refine mw_getfield rfl f_X10_7 (by first | rfl | exact hO | exact hv | exact hhd) rfl ?_
      refine mw_iconst (v := nI 1) rfl (by decide) ?_
      refine mw_iald rfl (by first | rfl | exact hO | exact hv | exact hhd) (by omega) (by omega) ?_
      refine mw_n_ge rfl (by omega) (by omega) (fun q => ?_) (fun q => ?_)
      · refine mw_iconst (v := nI 1) rfl (by decide) ?_
        refine mw_istore_n (i := 1) rfl rfl (Nat.le_of_ble_eq_true rfl) ?_
        exact mw_locals rfl hW
      · omega
    · intro k hk ih
      obtain ⟨hf1, -, hs1, hs2⟩ := hok.2.2.2.2.2.1 k hk
      have hQi := lkKs_A hok k (by omega)
      have hsf := sixF_uf hs1 hs2
      generalize hQ : itN (lkK v) (fun _ => fM1) k = Q at hQi ⊢
      have eQ : itN (lkK v) (fun _ => fM1) (k + 1) = lkK v k Q := by rw [← hQ]; rfl
      rw [eQ] at ih
      refine mw_iload_n (i := 1) rfl rfl rfl ?_
      refine mw_aload_n (i := 0) rfl rfl rfl ?_
      refine mw_getfield rfl f_X10_7 (by first | rfl | exact hO | exact hv | exact hhd) rfl ?_
      refine mw_iconst (v := nI 1) rfl (by decide) ?_
      refine mw_iald rfl (by first | rfl | exact hO | exact hv | exact hhd) (by omega) (by omega) ?_
      refine mw_n_ge rfl (by omega) (by omega) (fun q => ?_) (fun q => ?_)
      · omega
      · refine mw_aload_n (i := 0) rfl rfl rfl ?_
        refine mw_getfield rfl f_X10_7 (by first | rfl | exact hO | exact hv | exact hhd) rfl ?_
        refine mw_bipush (v := nI 9) rfl (by decide) ?_
        refine mw_iconst (v := nI 3) rfl (by decide) ?_
        refine mw_iload_n (i := 1) rfl rfl rfl ?_
        first | refine mw_nmul rfl ?_ | refine mw_imul rfl ?_
        first | refine mw_nadd rfl ?_ | refine mw_iadd rfl ?_
        refine mw_iald rfl (by first | rfl | exact hO | exact hv | exact hhd) (by omega) (by omega) ?_
        refine mw_istore_n (i := 2) rfl rfl (Nat.le_of_ble_eq_true rfl) ?_
        refine mw_aload_n (i := 0) rfl rfl rfl ?_
        refine mw_getfield rfl f_X10_7 (by first | rfl | exact hO | exact hv | exact hhd) rfl ?_
        refine mw_bipush (v := nI 9) rfl (by decide) ?_
        refine mw_iconst (v := nI 3) rfl (by decide) ?_
        refine mw_iload_n (i := 1) rfl rfl rfl ?_
        first | refine mw_nmul rfl ?_ | refine mw_imul rfl ?_
        first | refine mw_nadd rfl ?_ | refine mw_iadd rfl ?_
        refine mw_iconst (v := nI 2) rfl (by decide) ?_
        first | refine mw_nadd rfl ?_ | refine mw_iadd rfl ?_
        refine mw_iald rfl (by first | rfl | exact hO | exact hv | exact hhd) (by omega) (by omega) ?_
        refine mw_i2f rfl ?_
        refine mw_ldcf rfl c_X10_203 ?_
        refine mw_fdiv rfl (uf_n32 hsf) ?_
        refine mw_fstore_n (i := 3) rfl rfl (Nat.le_of_ble_eq_true rfl) ?_
        refine mw_aload_n (i := 0) rfl rfl rfl ?_
        refine mw_getfield rfl f_X10_53 (by first | rfl | exact hO | exact hv | exact hhd) rfl ?_
        refine mw_iload_n (i := 2) rfl rfl rfl ?_
        refine mw_fload_n (i := 3) rfl rfl rfl ?_
        refine mw_aload_n (i := 0) rfl rfl rfl ?_
        refine mw_getfield rfl f_X10_53 (by first | rfl | exact hO | exact hv | exact hhd) rfl ?_
        refine mw_iload_n (i := 2) rfl rfl rfl ?_
        refine mw_fald rfl (by first | rfl | exact hO | exact hv | exact hhd) (by omega) (by omega) ?_
        refine mw_fcmp rfl ?_
        refine mw_if_le rfl (fun hle => ?_) (fun hle => ?_)
        · rw [show lkK v k Q = updN Q (v (9 + 3 * k)) (Q (v (9 + 3 * k))) by unfold lkK; rw [if_neg (fun e => Int32.not_lt.mpr hle ((lk_gt (Or.inr hsf) (hQi _)).mpr e))]] at ih
          refine mw_aload_n (i := 0) rfl rfl rfl ?_
          refine mw_getfield rfl f_X10_53 (by first | rfl | exact hO | exact hv | exact hhd) rfl ?_
          refine mw_iload_n (i := 2) rfl rfl rfl ?_
          refine mw_fald rfl (by first | rfl | exact hO | exact hv | exact hhd) (by omega) (by omega) ?_
          refine mw_fast_m rfl (by first | rfl | exact hO | exact hv | exact hhd) (by omega) (by omega) ?_
          first | refine mw_ninc rfl rfl (Nat.le_of_ble_eq_true rfl) ?_ | refine mw_iinc rfl rfl rfl (Nat.le_of_ble_eq_true rfl) ?_
          refine mw_goto rfl ?_
          exact mw_locals rfl ih
        · rw [show lkK v k Q = updN Q (v (9 + 3 * k)) (sixF (v (9 + 3 * k + 2))) by unfold lkK; rw [if_pos ((lk_gt (Or.inr hsf) (hQi _)).mp (Int32.not_le.mp hle))]] at ih
          refine mw_fload_n (i := 3) rfl rfl rfl ?_
          refine mw_goto rfl ?_
          refine mw_fast_m rfl (by first | rfl | exact hO | exact hv | exact hhd) (by omega) (by omega) ?_
          first | refine mw_ninc rfl rfl (Nat.le_of_ble_eq_true rfl) ?_ | refine mw_iinc rfl rfl rfl (Nat.le_of_ble_eq_true rfl) ?_
          refine mw_goto rfl ?_
          exact mw_locals rfl ih
  have loopA : ∀ k, k ≤ 216 → MW M_X10_findLikelihoods (d + 1) 0 0 n post 2 [(0, .ref 178), (1, .int (nI k))] [] (mov [(193, .inl (.float, 216, .inr (.inr (.inl (fun j => if j < k ∨ 216 ≤ j then fM1 else l0 j)))))] h) n 0 := by
    refine loop_up 216 ?_ ?_
    · refine mw_iload_n (i := 1) rfl rfl rfl ?_
      refine mw_sipush (v := nI 216) rfl (by decide) ?_
      refine mw_n_ge rfl (by omega) (by omega) (fun q => ?_) (fun q => ?_)
      · rw [show (fun j => if j < 216 ∨ 216 ≤ j then fM1 else l0 j) = (fun _ => fM1) by funext j; rw [if_pos (by omega)]]
        refine mw_iconst (v := nI 0) rfl (by decide) ?_
        refine mw_istore_n (i := 1) rfl rfl (Nat.le_of_ble_eq_true rfl) ?_
        exact mw_locals rfl (loopK 0 (Nat.zero_le _))
      · omega
    · intro k hk ih
      have e : updN (fun j => if j < k ∨ 216 ≤ j then fM1 else l0 j) k fM1 = (fun j => if j < k + 1 ∨ 216 ≤ j then fM1 else l0 j) := by
        funext j
        simp only [updN]
        by_cases q : j = k
        · rw [if_pos q, if_pos (by omega)]
        · rw [if_neg q]
          have q3 : (j < k + 1 ∨ 216 ≤ j) ↔ (j < k ∨ 216 ≤ j) := by omega
          simp only [q3]
      rw [← e] at ih
      refine mw_iload_n (i := 1) rfl rfl rfl ?_
      refine mw_sipush (v := nI 216) rfl (by decide) ?_
      refine mw_n_ge rfl (by omega) (by omega) (fun q => ?_) (fun q => ?_)
      · omega
      · refine mw_aload_n (i := 0) rfl rfl rfl ?_
        refine mw_getfield rfl f_X10_53 (by first | rfl | exact hO | exact hv | exact hhd) rfl ?_
        refine mw_iload_n (i := 1) rfl rfl rfl ?_
        refine mw_ldcf rfl c_X10_202 ?_
        refine mw_fast_m rfl (by first | rfl | exact hO | exact hv | exact hhd) (by omega) (by omega) ?_
        first | refine mw_ninc rfl rfl (Nat.le_of_ble_eq_true rfl) ?_ | refine mw_iinc rfl rfl rfl (Nat.le_of_ble_eq_true rfl) ?_
        refine mw_goto rfl ?_
        exact mw_locals rfl ih
  refine mw_over [(193, .inl (.float, 216, .inr (.inr (.inl (fun j => if j < 0 ∨ 216 ≤ j then fM1 else l0 j)))))] (mov_self ?_) ?_
  · rw [show (fun j => if j < 0 ∨ 216 ≤ j then fM1 else l0 j) = l0 by
      funext j
      split
      · rename_i q
        exact (hl0 j (by omega)).symm
      · rfl]
    simp [hlk]
  · refine mw_iconst (v := nI 0) rfl (by decide) ?_
    refine mw_istore_n (i := 1) rfl rfl (Nat.le_of_ble_eq_true rfl) ?_
    exact mw_locals rfl (loopA 0 (by omega))
