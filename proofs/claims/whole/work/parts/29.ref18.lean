def okA (v : Nat → Nat) (y : Int32) : Int32 := if (strF v).2.2 = true then y else -6
theorem okA_1 {v : Nat → Nat} {y : Int32} (h : (strF v).2.2 = true) : okA v y = y := if_pos h
theorem okA_0 {v : Nat → Nat} {y : Int32} (h : (strF v).2.2 = false) : okA v y = -6 := if_neg (by rw [h]; decide)
theorem c_stratum_e (d n : Nat) (p : Int32) (h : Nat → MC) (hx : inI p 6 = false) : Fn M_X10_stratum (d + 6) 0 0 [.ref 178, .int p] h n (some (.int (-1))) h := by
  refine Fn.of fun post hp => ?_
  refine mw_iload_n (i := 1) rfl rfl rfl ?_
  refine mw_iconst (v := nI 0) rfl (by decide) ?_
  refine mw_iconst (v := nI 5) rfl (by decide) ?_
  refine mw_callS_f (c_in0 (d + 5) n p 5 (by omega) _) rfl ok_X10_in v_X10_80 rfl (Nat.le_of_ble_eq_true rfl) rfl (Nat.le_of_ble_eq_true rfl) (by omega) (by omega) (by omega) ?_
  refine mw_b_ne rfl (fun hf => ?_) (fun hf => ?_)
  · rw [hx] at hf; cases hf
  · refine mw_iconst (v := (-1)) rfl (by decide) ?_
    exact mw_ireturn rfl rfl rfl rfl (Nat.le_refl _) (hp)
theorem c_stratum (d n : Nat) (p : Nat) (w : Nat → Int32) (v : Nat → Nat) (x : RD) (h : Nat → MC) (hx : RAt h w x) (hv : h 179 = .inl (.int, 189, .inl (vI v))) (hok : OkN v) (hF : FndI v w x) (hp6 : p < 6) : Sp M_X10_stratum (d + 6) 0 0 [.ref 178, .int (nI p)] h n (QR v w h (fun w' x' r => r = some (.int (okA v (nI ((strF v).1 p)))))) := by
  show MW _ _ _ _ _ _ _ _ _ _ _ _
  generalize hpost : (QR v w h (fun w' x' r => r = some (.int (okA v (nI ((strF v).1 p)))))) = post
  refine mw_over (rcL w x) hx ?_
  refine mw_iload_n (i := 1) rfl rfl rfl ?_
  refine mw_iconst (v := nI 0) rfl (by decide) ?_
  refine mw_iconst (v := nI 5) rfl (by decide) ?_
  refine mw_callS_f (c_in0 (d + 5) n (nI p) 5 (by omega) _) rfl ok_X10_in v_X10_80 rfl (Nat.le_of_ble_eq_true rfl) rfl (Nat.le_of_ble_eq_true rfl) (by omega) (by omega) (by omega) ?_
  refine mw_b_ne rfl (fun hf => ?_) (fun hf => ?_)
  · refine mw_aload_n (i := 0) rfl rfl rfl ?_
    refine mw_callV (c_finds d n w v x _ (RAt.of w x h) hv hok hF) rfl ok_X10_finds v_X10_185 rfl (by first | rfl | exact rfl | exact hv) (by intro e; cases e) rfl (Nat.le_of_ble_eq_true rfl) rfl (Nat.le_of_ble_eq_true rfl) (by omega) (by omega) (by omega) ?_
    intro r2 h2 hq2
    obtain ⟨rfl, w', x', rfl, hT, hFd, hI⟩ := hq2
    rw [rc_over]
    refine mw_b_eq rfl (fun ho => ?_) (fun ho => ?_)
    · refine mw_bipush (v := (-6)) rfl (by decide) ?_
      exact mw_ireturn rfl rfl rfl rfl (Nat.le_refl _) ((QR.mk hpost w' x' hT hI (by rw [okA_0 ho])))
    · refine mw_aload_n (i := 0) rfl rfl rfl ?_
      refine mw_getfield rfl f_X10_26 (by first | rfl | exact rfl | exact hv) rfl ?_
      refine mw_iload_n (i := 1) rfl rfl rfl ?_
      refine mw_iald rfl (by first | rfl | exact rfl | exact hv) (by omega) (by omega) ?_
      refine mw_goto rfl ?_
      exact mw_ireturn rfl rfl rfl rfl (Nat.le_refl _) ((QR.mk hpost w' x' hT hI (by rw [okA_1 ho, hFd.2.2.1]; rfl)))
  · rw [inI_nI hp6 (by omega)] at hf; cases hf
theorem c_size (d n : Nat) (w : Nat → Int32) (v : Nat → Nat) (x : RD) (h : Nat → MC) (hx : RAt h w x) (hv : h 179 = .inl (.int, 189, .inl (vI v))) (hok : OkN v) (hF : FndI v w x) : Sp M_X10_size (d + 6) 0 0 [.ref 178] h n (QR v w h (fun w' x' r => r = some (.int (okA v (nI (cntM (mdl0 v).1 0 216)))))) := by
  show MW _ _ _ _ _ _ _ _ _ _ _ _
  generalize hpost : (QR v w h (fun w' x' r => r = some (.int (okA v (nI (cntM (mdl0 v).1 0 216)))))) = post
  refine mw_over (rcL w x) hx ?_
  refine mw_aload_n (i := 0) rfl rfl rfl ?_
  refine mw_callV (c_finds d n w v x _ (RAt.of w x h) hv hok hF) rfl ok_X10_finds v_X10_185 rfl rfl (by intro e; cases e) rfl (Nat.le_of_ble_eq_true rfl) rfl (Nat.le_of_ble_eq_true rfl) (by omega) (by omega) (by omega) ?_
  intro r2 h2 hq2
  obtain ⟨rfl, w', x', rfl, hT, hFd, hI⟩ := hq2
  rw [rc_over]
  refine mw_b_eq rfl (fun ho => ?_) (fun ho => ?_)
  · refine mw_bipush (v := (-6)) rfl (by decide) ?_
    exact mw_ireturn rfl rfl rfl rfl (Nat.le_refl _) ((QR.mk hpost w' x' hT hI (by rw [okA_0 ho])))
  · refine mw_aload_n (i := 0) rfl rfl rfl ?_
    refine mw_getfield rfl f_X10_32 rfl rfl ?_
    refine mw_iconst (v := nI 0) rfl (by decide) ?_
    refine mw_sipush (v := nI 216) rfl (by decide) ?_
    refine mw_callS_f (c_tally (d + 5) n 186 0 216 x'.m _ rfl (by omega)) rfl ok_X10_tally v_X10_188 rfl (Nat.le_of_ble_eq_true rfl) rfl (Nat.le_of_ble_eq_true rfl) (by omega) (by omega) (by omega) ?_
    refine mw_goto rfl ?_
    exact mw_ireturn rfl rfl rfl rfl (Nat.le_refl _) ((QR.mk hpost w' x' hT hI (by rw [okA_1 ho, (hFd.m ho).1])))
theorem c_count_e (d n : Nat) (p : Int32) (h : Nat → MC) (hx : inI p 6 = false) : Fn M_X10_count (d + 6) 0 0 [.ref 178, .int p] h n (some (.int (-1))) h := by
  refine Fn.of fun post hp => ?_
  refine mw_iload_n (i := 1) rfl rfl rfl ?_
  refine mw_iconst (v := nI 0) rfl (by decide) ?_
  refine mw_iconst (v := nI 5) rfl (by decide) ?_
  refine mw_callS_f (c_in0 (d + 5) n p 5 (by omega) _) rfl ok_X10_in v_X10_80 rfl (Nat.le_of_ble_eq_true rfl) rfl (Nat.le_of_ble_eq_true rfl) (by omega) (by omega) (by omega) ?_
  refine mw_b_ne rfl (fun hf => ?_) (fun hf => ?_)
  · rw [hx] at hf; cases hf
  · refine mw_iconst (v := (-1)) rfl (by decide) ?_
    exact mw_ireturn rfl rfl rfl rfl (Nat.le_refl _) (hp)
theorem c_count (d n : Nat) (p : Nat) (w : Nat → Int32) (v : Nat → Nat) (x : RD) (h : Nat → MC) (hx : RAt h w x) (hv : h 179 = .inl (.int, 189, .inl (vI v))) (hok : OkN v) (hF : FndI v w x) (hp6 : p < 6) : Sp M_X10_count (d + 6) 0 0 [.ref 178, .int (nI p)] h n (QR v w h (fun w' x' r => r = some (.int (okA v (nI (cntM (mdl0 v).1 (36 * p) 36)))))) := by
  show MW _ _ _ _ _ _ _ _ _ _ _ _
  generalize hpost : (QR v w h (fun w' x' r => r = some (.int (okA v (nI (cntM (mdl0 v).1 (36 * p) 36)))))) = post
  refine mw_over (rcL w x) hx ?_
  refine mw_iload_n (i := 1) rfl rfl rfl ?_
  refine mw_iconst (v := nI 0) rfl (by decide) ?_
  refine mw_iconst (v := nI 5) rfl (by decide) ?_
  refine mw_callS_f (c_in0 (d + 5) n (nI p) 5 (by omega) _) rfl ok_X10_in v_X10_80 rfl (Nat.le_of_ble_eq_true rfl) rfl (Nat.le_of_ble_eq_true rfl) (by omega) (by omega) (by omega) ?_
  refine mw_b_ne rfl (fun hf => ?_) (fun hf => ?_)
  · refine mw_aload_n (i := 0) rfl rfl rfl ?_
    refine mw_callV (c_finds d n w v x _ (RAt.of w x h) hv hok hF) rfl ok_X10_finds v_X10_185 rfl rfl (by intro e; cases e) rfl (Nat.le_of_ble_eq_true rfl) rfl (Nat.le_of_ble_eq_true rfl) (by omega) (by omega) (by omega) ?_
    intro r2 h2 hq2
    obtain ⟨rfl, w', x', rfl, hT, hFd, hI⟩ := hq2
    rw [rc_over]
    refine mw_b_eq rfl (fun ho => ?_) (fun ho => ?_)
    · refine mw_bipush (v := (-6)) rfl (by decide) ?_
      exact mw_ireturn rfl rfl rfl rfl (Nat.le_refl _) ((QR.mk hpost w' x' hT hI (by rw [okA_0 ho])))
    · refine mw_aload_n (i := 0) rfl rfl rfl ?_
      refine mw_getfield rfl f_X10_32 rfl rfl ?_
      refine mw_bipush (v := nI 36) rfl (by decide) ?_
      refine mw_iload_n (i := 1) rfl rfl rfl ?_
      first | refine mw_nmul rfl ?_ | refine mw_imul rfl ?_
      refine mw_bipush (v := nI 36) rfl (by decide) ?_
      refine mw_iload_n (i := 1) rfl rfl rfl ?_
      first | refine mw_nmul rfl ?_ | refine mw_imul rfl ?_
      refine mw_bipush (v := nI 36) rfl (by decide) ?_
      first | refine mw_nadd rfl ?_ | refine mw_iadd rfl ?_
      refine mw_callS_f (c_tally (d + 5) n 186 (36 * p) 36 x'.m _ rfl (by omega)) rfl ok_X10_tally v_X10_188 rfl (Nat.le_of_ble_eq_true rfl) rfl (Nat.le_of_ble_eq_true rfl) (by omega) (by omega) (by omega) ?_
      refine mw_goto rfl ?_
      exact mw_ireturn rfl rfl rfl rfl (Nat.le_refl _) ((QR.mk hpost w' x' hT hI (by rw [okA_1 ho, (hFd.m ho).1])))
  · rw [inI_nI hp6 (by omega)] at hf; cases hf
theorem c_rounds (d n : Nat) (w : Nat → Int32) (v : Nat → Nat) (x : RD) (h : Nat → MC) (hx : RAt h w x) (hv : h 179 = .inl (.int, 189, .inl (vI v))) (hok : OkN v) (hF : FndI v w x) : Sp M_X10_rounds (d + 6) 0 0 [.ref 178] h n (QR v w h (fun w' x' r => r = some (.int (okA v (nI (mdl0 v).2))))) := by
  show MW _ _ _ _ _ _ _ _ _ _ _ _
  generalize hpost : (QR v w h (fun w' x' r => r = some (.int (okA v (nI (mdl0 v).2))))) = post
  refine mw_over (rcL w x) hx ?_
  refine mw_aload_n (i := 0) rfl rfl rfl ?_
  refine mw_callV (c_finds d n w v x _ (RAt.of w x h) hv hok hF) rfl ok_X10_finds v_X10_185 rfl rfl (by intro e; cases e) rfl (Nat.le_of_ble_eq_true rfl) rfl (Nat.le_of_ble_eq_true rfl) (by omega) (by omega) (by omega) ?_
  intro r2 h2 hq2
  obtain ⟨rfl, w', x', rfl, hT, hFd, hI⟩ := hq2
  rw [rc_over]
  refine mw_b_eq rfl (fun ho => ?_) (fun ho => ?_)
  · refine mw_bipush (v := (-6)) rfl (by decide) ?_
    exact mw_ireturn rfl rfl rfl rfl (Nat.le_refl _) ((QR.mk hpost w' x' hT hI (by rw [okA_0 ho])))
  · refine mw_aload_n (i := 0) rfl rfl rfl ?_
    refine mw_getfield rfl f_X10_170 rfl rfl ?_
    refine mw_goto rfl ?_
    exact mw_ireturn rfl rfl rfl rfl (Nat.le_refl _) ((QR.mk hpost w' x' hT hI (by rw [okA_1 ho, (hFd.m ho).2])))
