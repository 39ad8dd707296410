/-! THE REFERENCE'S CHECKSUM -/
def rkF (ro : Nat → Int32) (ins c : Nat → Nat) (l : Nat → UInt32) (lr : Nat → Int32) (z u : Nat → Nat) (f : Nat) (s : Int64) : Int64 :=
  ckM (ckM (ckM (ckM (ckM (ckM (ckM s (ro f)) (nI (ins f))) (nI (c f))) (l f).toInt32) (leN lr z u f 0)) (leN lr z u f 1)) (leN lr z u f 2)
def rkG (ro : Nat → Int32) (ins c : Nat → Nat) (l : Nat → UInt32) (lr : Nat → Int32) (z u : Nat → Nat) (f : Nat) (s : Int64) : Int64 := if ro f < 0 then s else rkF ro ins c l lr z u f s
def rkV (v : Nat → Nat) (x : RD) : Int64 := itN (rkG (mdl0 v).1 (fun f => insN (hoV v) f (hoV v).1) x.c x.l x.lr x.z x.u) (itN (ckS v) (ckM (ckH v) (nI (mdl0 v).2)) 6) 216
theorem c_checksum (d n : Nat) (w : Nat → Int32) (v : Nat → Nat) (x : RD) (h : Nat → MC) (hx : RAt h w x) (hv : h 179 = .inl (.int, 189, .inl (vI v))) (hok : OkN v) (hF : FndI v w x) : Sp M_X10_checksum (d + 7) 0 0 [.ref 178] h n (QR v w h (fun w' x' r => Fnd v w' x' ∧ ((strF v).2.2 = false → r = some (.long (ckH v))) ∧ ((strF v).2.2 = true → r = some (.long (rkV v x'))))) := by
  show MW _ _ _ _ _ _ _ _ _ _ _ _
  generalize hpost : (QR v w h (fun w' x' r => Fnd v w' x' ∧ ((strF v).2.2 = false → r = some (.long (ckH v))) ∧ ((strF v).2.2 = true → r = some (.long (rkV v x'))))) = post
  refine mw_over (rcL w x) hx ?_
  refine mw_aload_n (i := 0) rfl rfl rfl ?_
  refine mw_callV (c_finds d n w v x _ (RAt.of w x h) hv hok hF) rfl ok_X10_finds v_X10_185 rfl (by first | rfl | exact rfl | exact hv) (by intro e; cases e) rfl (Nat.le_of_ble_eq_true rfl) rfl (Nat.le_of_ble_eq_true rfl) (by omega) (by omega) (by omega) ?_
  intro r2 h2 hq2
  obtain ⟨rfl, w', x', rfl, hT, hFd, hI⟩ := hq2
  rw [rc_over]
  refine mw_istore_n (i := 1) rfl rfl (Nat.le_of_ble_eq_true rfl) ?_
  refine mw_ldc2 rfl c_X10_235 ?_
  refine mw_aload_n (i := 0) rfl rfl rfl ?_
  refine mw_getfield rfl f_X10_7 (by first | rfl | exact rfl | exact hv) rfl ?_
  refine mw_iconst (v := nI 0) rfl (by decide) ?_
  refine mw_iald rfl (by first | rfl | exact rfl | exact hv) (by omega) (by omega) ?_
  refine mw_callS_f (c_more (d + 6) n 89 (nI (v 0)) _) rfl ok_X10_more v_X10_237 rfl (Nat.le_of_ble_eq_true rfl) rfl (Nat.le_of_ble_eq_true rfl) (by omega) (by omega) (by omega) ?_
  refine mw_aload_n (i := 0) rfl rfl rfl ?_
  refine mw_getfield rfl f_X10_7 (by first | rfl | exact rfl | exact hv) rfl ?_
  refine mw_iconst (v := nI 1) rfl (by decide) ?_
  refine mw_iald rfl (by first | rfl | exact rfl | exact hv) (by omega) (by omega) ?_
  refine mw_callS_f (c_more (d + 6) n (ckM 89 (nI (v 0))) (nI (v 1)) _) rfl ok_X10_more v_X10_237 rfl (Nat.le_of_ble_eq_true rfl) rfl (Nat.le_of_ble_eq_true rfl) (by omega) (by omega) (by omega) ?_
  refine mw_aload_n (i := 0) rfl rfl rfl ?_
  refine mw_getfield rfl f_X10_7 (by first | rfl | exact rfl | exact hv) rfl ?_
  refine mw_iconst (v := nI 2) rfl (by decide) ?_
  refine mw_iald rfl (by first | rfl | exact rfl | exact hv) (by omega) (by omega) ?_
  refine mw_callS_f (c_more (d + 6) n (ckM (ckM 89 (nI (v 0))) (nI (v 1))) (nI (v 2)) _) rfl ok_X10_more v_X10_237 rfl (Nat.le_of_ble_eq_true rfl) rfl (Nat.le_of_ble_eq_true rfl) (by omega) (by omega) (by omega) ?_
  refine mw_lstore_n (i := 2) rfl rfl (Nat.le_of_ble_eq_true rfl) ?_
  refine mw_lload_n (i := 2) rfl rfl rfl ?_
  refine mw_iload_n (i := 1) rfl rfl rfl ?_
  refine mw_b_eq rfl (fun ho => ?_) (fun ho => ?_)
  · refine mw_bipush (v := (-6)) rfl (by decide) ?_
    refine mw_callS_f (c_more (d + 6) n (ckM (ckM (ckM 89 (nI (v 0))) (nI (v 1))) (nI (v 2))) (-6) _) rfl ok_X10_more v_X10_237 rfl (Nat.le_of_ble_eq_true rfl) rfl (Nat.le_of_ble_eq_true rfl) (by omega) (by omega) (by omega) ?_
    refine mw_lstore_n (i := 2) rfl rfl (Nat.le_of_ble_eq_true rfl) ?_
    refine mw_iload_n (i := 1) rfl rfl rfl ?_
    refine mw_b_ne rfl (fun ho2 => ?_) (fun ho2 => ?_)
    · rw [ho] at ho2
      cases ho2
    · refine mw_lload_n (i := 2) rfl rfl rfl ?_
      exact mw_lreturn rfl rfl rfl (Nat.le_refl _) ((QR.mk hpost w' x' hT hI ⟨hFd, fun _ => (by unfold ckH; rw [okA_0 ho]; rfl), fun q => (by rw [ho] at q; cases q)⟩))
  · have eH : ckM (ckM (ckM (ckM 89 (nI (v 0))) (nI (v 1))) (nI (v 2))) (nI (cntM (mdl0 v).1 0 216)) = ckH v := by
      unfold ckH
      rw [okA_1 ho]
    obtain ⟨S, hS, f1, f2, hSE, f3, f4, -⟩ := hFd.v hok ho
    refine mw_aload_n (i := 0) rfl rfl rfl ?_
    refine mw_getfield rfl f_X10_32 (by first | rfl | exact rfl | exact hv) rfl ?_
    refine mw_iconst (v := nI 0) rfl (by decide) ?_
    refine mw_sipush (v := nI 216) rfl (by decide) ?_
    refine mw_callS_f (c_tally (d + 6) n 186 0 216 x'.m _ rfl (by omega)) rfl ok_X10_tally v_X10_188 rfl (Nat.le_of_ble_eq_true rfl) rfl (Nat.le_of_ble_eq_true rfl) (by omega) (by omega) (by omega) ?_
    rw [f1]
    refine mw_goto rfl ?_
    refine mw_callS_f (c_more (d + 6) n (ckM (ckM (ckM 89 (nI (v 0))) (nI (v 1))) (nI (v 2))) (nI (cntM (mdl0 v).1 0 216)) _) rfl ok_X10_more v_X10_237 rfl (Nat.le_of_ble_eq_true rfl) rfl (Nat.le_of_ble_eq_true rfl) (by omega) (by omega) (by omega) ?_
    show MW _ _ _ _ _ _ _ _ (.long (ckM (ckM (ckM (ckM 89 (nI (v 0))) (nI (v 1))) (nI (v 2))) (nI (cntM (mdl0 v).1 0 216))) :: []) _ _ _
    rw [eH]
    refine mw_lstore_n (i := 2) rfl rfl (Nat.le_of_ble_eq_true rfl) ?_
    refine mw_iload_n (i := 1) rfl rfl rfl ?_
    refine mw_b_ne rfl (fun ho2 => ?_) (fun ho2 => ?_)
    · refine mw_lload_n (i := 2) rfl rfl rfl ?_
      refine mw_aload_n (i := 0) rfl rfl rfl ?_
      refine mw_getfield rfl f_X10_170 (by first | rfl | exact rfl | exact hv) rfl ?_
      show MW _ _ _ _ _ _ _ _ (.int (w' 7) :: .long (ckH v) :: []) _ _ _
      rw [f2]
      refine mw_callS_f (c_more (d + 6) n (ckH v) (nI (mdl0 v).2) _) rfl ok_X10_more v_X10_237 rfl (Nat.le_of_ble_eq_true rfl) rfl (Nat.le_of_ble_eq_true rfl) (by omega) (by omega) (by omega) ?_
      refine mw_lstore_n (i := 2) rfl rfl (Nat.le_of_ble_eq_true rfl) ?_
      refine mw_iconst (v := nI 0) rfl (by decide) ?_
      refine mw_istore rfl (Nat.le_of_ble_eq_true rfl) ?_
      have loop : ∀ i, i ≤ 6 → MW M_X10_checksum (d + 7) 0 0 n post 79 [(0, .ref 178), (2, .long (itN (ckS v) (ckM (ckH v) (nI (mdl0 v).2)) i)), (4, .int (nI i))] [] (mov (rcL w' x') h) n 0 := by
        refine loop_up 6 ?_ ?_
        · refine mw_iload rfl rfl ?_
          refine mw_bipush (v := nI 6) rfl (by decide) ?_
          refine mw_n_ge rfl (by omega) (by omega) (fun q1 => ?_) (fun q1 => ?_)
          · generalize hS6 : itN (ckS v) (ckM (ckH v) (nI (mdl0 v).2)) 6 = S6
            refine mw_iconst (v := nI 0) rfl (by decide) ?_
            refine mw_istore rfl (Nat.le_of_ble_eq_true rfl) ?_
            have loop2 : ∀ i, i ≤ 216 → MW M_X10_checksum (d + 7) 0 0 n post 107 [(0, .ref 178), (2, .long (itN (rkG (mdl0 v).1 (fun f => insN (hoV v) f (hoV v).1) x'.c x'.l x'.lr x'.z x'.u) S6 i)), (4, .int (nI i))] [] (mov (rcL w' x') h) n 0 := by
              refine loop_up 216 ?_ ?_
              · refine mw_iload rfl rfl ?_
                refine mw_sipush (v := nI 216) rfl (by decide) ?_
                refine mw_n_ge rfl (by omega) (by omega) (fun q2 => ?_) (fun q2 => ?_)
                · refine mw_lload_n (i := 2) rfl rfl rfl ?_
                  exact mw_lreturn rfl rfl rfl (Nat.le_refl _) ((QR.mk hpost w' x' hT hI ⟨hFd, fun q => (by rw [ho] at q; cases q), fun _ => (by unfold rkV; rw [hS6])⟩))
                · omega
              · intro i hi ih
                have eA : itN (rkG (mdl0 v).1 (fun f => insN (hoV v) f (hoV v).1) x'.c x'.l x'.lr x'.z x'.u) S6 (i + 1) = rkG (mdl0 v).1 (fun f => insN (hoV v) f (hoV v).1) x'.c x'.l x'.lr x'.z x'.u i (itN (rkG (mdl0 v).1 (fun f => insN (hoV v) f (hoV v).1) x'.c x'.l x'.lr x'.z x'.u) S6 i) := rfl
                rw [eA] at ih
                generalize itN (rkG (mdl0 v).1 (fun f => insN (hoV v) f (hoV v).1) x'.c x'.l x'.lr x'.z x'.u) S6 i = s at ih ⊢
                unfold rkG at ih
                have e1 : x'.m i = (mdl0 v).1 i := congrFun f1 i
                have e2 : insN S i S.1 = insN (hoV v) i (hoV v).1 := by
                  rw [hSE.1]
                  exact insN_s hSE i _ (Nat.le_refl _)
                refine mw_iload rfl rfl ?_
                refine mw_sipush (v := nI 216) rfl (by decide) ?_
                refine mw_n_ge rfl (by omega) (by omega) (fun q2 => ?_) (fun q2 => ?_)
                · omega
                · refine mw_aload_n (i := 0) rfl rfl rfl ?_
                  refine mw_getfield rfl f_X10_32 (by first | rfl | exact rfl | exact hv) rfl ?_
                  refine mw_iload rfl rfl ?_
                  refine mw_iald_v rfl (by first | rfl | exact rfl | exact hv) (by omega) (by omega) e1 ?_
                  refine mw_if_lt rfl (fun q3 => ?_) (fun q3 => ?_)
                  · rw [if_pos q3] at ih
                    first | refine mw_ninc rfl rfl (Nat.le_of_ble_eq_true rfl) ?_ | refine mw_iinc rfl rfl rfl (Nat.le_of_ble_eq_true rfl) ?_
                    refine mw_goto rfl ?_
                    exact mw_locals rfl ih
                  · rw [if_neg q3] at ih
                    have hu : UF (x'.l i) := lk_UF hok ho f4 hi q3
                    refine mw_lload_n (i := 2) rfl rfl rfl ?_
                    refine mw_aload_n (i := 0) rfl rfl rfl ?_
                    refine mw_getfield rfl f_X10_32 (by first | rfl | exact rfl | exact hv) rfl ?_
                    refine mw_iload rfl rfl ?_
                    refine mw_iald_v rfl (by first | rfl | exact rfl | exact hv) (by omega) (by omega) e1 ?_
                    refine mw_callS_f (c_more (d + 6) n s ((mdl0 v).1 i) _) rfl ok_X10_more v_X10_237 rfl (Nat.le_of_ble_eq_true rfl) rfl (Nat.le_of_ble_eq_true rfl) (by omega) (by omega) (by omega) ?_
                    refine mw_aload_n (i := 0) rfl rfl rfl ?_
                    refine mw_iload rfl rfl ?_
                    refine mw_callV_f (c_instancesOf (d + 6) n i w' v S _ rfl hS.n (hS.sok hok) (hS.sat w' x' h rfl rfl rfl) hi) rfl ok_X10_instancesOf v_X10_195 rfl (by first | rfl | exact rfl | exact hv) (by intro e; cases e) rfl (Nat.le_of_ble_eq_true rfl) rfl (Nat.le_of_ble_eq_true rfl) (by omega) (by omega) (by omega) ?_
                    rw [e2]
                    refine mw_callS_f (c_more (d + 6) n (ckM s ((mdl0 v).1 i)) (nI (insN (hoV v) i (hoV v).1)) _) rfl ok_X10_more v_X10_237 rfl (Nat.le_of_ble_eq_true rfl) rfl (Nat.le_of_ble_eq_true rfl) (by omega) (by omega) (by omega) ?_
                    refine mw_lstore_n (i := 2) rfl rfl (Nat.le_of_ble_eq_true rfl) ?_
                    refine mw_lload_n (i := 2) rfl rfl rfl ?_
                    refine mw_aload_n (i := 0) rfl rfl rfl ?_
                    refine mw_getfield rfl f_X10_50 (by first | rfl | exact rfl | exact hv) rfl ?_
                    refine mw_iload rfl rfl ?_
                    refine mw_iald rfl (by first | rfl | exact rfl | exact hv) (by omega) (by omega) ?_
                    refine mw_callS_f (c_more (d + 6) n (ckM (ckM s ((mdl0 v).1 i)) (nI (insN (hoV v) i (hoV v).1))) (nI (x'.c i)) _) rfl ok_X10_more v_X10_237 rfl (Nat.le_of_ble_eq_true rfl) rfl (Nat.le_of_ble_eq_true rfl) (by omega) (by omega) (by omega) ?_
                    refine mw_aload_n (i := 0) rfl rfl rfl ?_
                    refine mw_getfield rfl f_X10_53 (by first | rfl | exact rfl | exact hv) rfl ?_
                    refine mw_iload rfl rfl ?_
                    refine mw_fald rfl (by first | rfl | exact rfl | exact hv) (by omega) (by omega) ?_
                    refine mw_callF hu rfl rfl (Nat.le_of_ble_eq_true rfl) (by omega) (by omega) (Nat.le_refl _) ?_
                    refine mw_callS_f (c_more (d + 6) n (ckM (ckM (ckM s ((mdl0 v).1 i)) (nI (insN (hoV v) i (hoV v).1))) (nI (x'.c i))) (x'.l i).toInt32 _) rfl ok_X10_more v_X10_237 rfl (Nat.le_of_ble_eq_true rfl) rfl (Nat.le_of_ble_eq_true rfl) (by omega) (by omega) (by omega) ?_
                    refine mw_lstore_n (i := 2) rfl rfl (Nat.le_of_ble_eq_true rfl) ?_
                    refine mw_lload_n (i := 2) rfl rfl rfl ?_
                    refine mw_aload_n (i := 0) rfl rfl rfl ?_
                    refine mw_iload rfl rfl ?_
                    refine mw_iconst (v := nI 0) rfl (by decide) ?_
                    refine mw_callV_f (c_leastNow (d + 6) n i 0 w' x'.z x'.u x'.lr _ rfl rfl rfl rfl hi (by omega)) rfl ok_X10_leastNow v_X10_221 rfl (by first | rfl | exact rfl | exact hv) (by intro e; cases e) rfl (Nat.le_of_ble_eq_true rfl) rfl (Nat.le_of_ble_eq_true rfl) (by omega) (by omega) (by omega) ?_
                    refine mw_callS_f (c_more (d + 6) n (ckM (ckM (ckM (ckM s ((mdl0 v).1 i)) (nI (insN (hoV v) i (hoV v).1))) (nI (x'.c i))) (x'.l i).toInt32) (leN x'.lr x'.z x'.u i 0) _) rfl ok_X10_more v_X10_237 rfl (Nat.le_of_ble_eq_true rfl) rfl (Nat.le_of_ble_eq_true rfl) (by omega) (by omega) (by omega) ?_
                    refine mw_aload_n (i := 0) rfl rfl rfl ?_
                    refine mw_iload rfl rfl ?_
                    refine mw_iconst (v := nI 1) rfl (by decide) ?_
                    refine mw_callV_f (c_leastNow (d + 6) n i 1 w' x'.z x'.u x'.lr _ rfl rfl rfl rfl hi (by omega)) rfl ok_X10_leastNow v_X10_221 rfl (by first | rfl | exact rfl | exact hv) (by intro e; cases e) rfl (Nat.le_of_ble_eq_true rfl) rfl (Nat.le_of_ble_eq_true rfl) (by omega) (by omega) (by omega) ?_
                    refine mw_callS_f (c_more (d + 6) n (ckM (ckM (ckM (ckM (ckM s ((mdl0 v).1 i)) (nI (insN (hoV v) i (hoV v).1))) (nI (x'.c i))) (x'.l i).toInt32) (leN x'.lr x'.z x'.u i 0)) (leN x'.lr x'.z x'.u i 1) _) rfl ok_X10_more v_X10_237 rfl (Nat.le_of_ble_eq_true rfl) rfl (Nat.le_of_ble_eq_true rfl) (by omega) (by omega) (by omega) ?_
                    refine mw_aload_n (i := 0) rfl rfl rfl ?_
                    refine mw_iload rfl rfl ?_
                    refine mw_iconst (v := nI 2) rfl (by decide) ?_
                    refine mw_callV_f (c_leastNow (d + 6) n i 2 w' x'.z x'.u x'.lr _ rfl rfl rfl rfl hi (by omega)) rfl ok_X10_leastNow v_X10_221 rfl (by first | rfl | exact rfl | exact hv) (by intro e; cases e) rfl (Nat.le_of_ble_eq_true rfl) rfl (Nat.le_of_ble_eq_true rfl) (by omega) (by omega) (by omega) ?_
                    refine mw_callS_f (c_more (d + 6) n (ckM (ckM (ckM (ckM (ckM (ckM s ((mdl0 v).1 i)) (nI (insN (hoV v) i (hoV v).1))) (nI (x'.c i))) (x'.l i).toInt32) (leN x'.lr x'.z x'.u i 0)) (leN x'.lr x'.z x'.u i 1)) (leN x'.lr x'.z x'.u i 2) _) rfl ok_X10_more v_X10_237 rfl (Nat.le_of_ble_eq_true rfl) rfl (Nat.le_of_ble_eq_true rfl) (by omega) (by omega) (by omega) ?_
                    refine mw_lstore_n (i := 2) rfl rfl (Nat.le_of_ble_eq_true rfl) ?_
                    first | refine mw_ninc rfl rfl (Nat.le_of_ble_eq_true rfl) ?_ | refine mw_iinc rfl rfl rfl (Nat.le_of_ble_eq_true rfl) ?_
                    refine mw_goto rfl ?_
                    exact mw_locals rfl ih
            exact mw_locals rfl (loop2 0 (by omega))
          · omega
        · intro i hi ih
          have eA : itN (ckS v) (ckM (ckH v) (nI (mdl0 v).2)) (i + 1) = ckM (itN (ckS v) (ckM (ckH v) (nI (mdl0 v).2)) i) (nI ((strF v).1 i)) := rfl
          rw [eA] at ih
          generalize itN (ckS v) (ckM (ckH v) (nI (mdl0 v).2)) i = s at ih ⊢
          refine mw_iload rfl rfl ?_
          refine mw_bipush (v := nI 6) rfl (by decide) ?_
          refine mw_n_ge rfl (by omega) (by omega) (fun q1 => ?_) (fun q1 => ?_)
          · omega
          · refine mw_lload_n (i := 2) rfl rfl rfl ?_
            refine mw_aload_n (i := 0) rfl rfl rfl ?_
            refine mw_getfield rfl f_X10_26 (by first | rfl | exact rfl | exact hv) rfl ?_
            refine mw_iload rfl rfl ?_
            refine mw_iald_v rfl (by first | rfl | exact rfl | exact hv) (by omega) (by omega) (show vI x'.st i = nI ((strF v).1 i) from congrArg nI (congrFun hFd.2.2.1 i)) ?_
            refine mw_callS_f (c_more (d + 6) n s (nI ((strF v).1 i)) _) rfl ok_X10_more v_X10_237 rfl (Nat.le_of_ble_eq_true rfl) rfl (Nat.le_of_ble_eq_true rfl) (by omega) (by omega) (by omega) ?_
            refine mw_lstore_n (i := 2) rfl rfl (Nat.le_of_ble_eq_true rfl) ?_
            first | refine mw_ninc rfl rfl (Nat.le_of_ble_eq_true rfl) ?_ | refine mw_iinc rfl rfl rfl (Nat.le_of_ble_eq_true rfl) ?_
            refine mw_goto rfl ?_
            exact mw_locals rfl ih
      exact mw_locals rfl (loop 0 (by omega))
    · rw [ho] at ho2
      cases ho2
