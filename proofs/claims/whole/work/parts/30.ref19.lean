def wA (v : Nat → Nat) (p a b : Int32) (y : Int32) : Int32 := if wrV v p a b < 0 then wrV v p a b else y
theorem wrV_cases (v : Nat → Nat) (p a b : Int32) : wrV v p a b < 0 ∨ (wrV v p a b = 0 ∧ isF v p a b = true ∧ (strF v).2.2 = true ∧ ¬ (mdl0 v).1 (fctN p a b) < 0) := by
  unfold wrV
  cases h1 : isF v p a b
  · rw [if_pos rfl]; exact Or.inl (by decide)
  · rw [if_neg (by decide)]
    cases h2 : (strF v).2.2
    · rw [if_pos rfl]; exact Or.inl (by decide)
    · rw [if_neg (by decide)]
      by_cases h3 : (mdl0 v).1 (fctN p a b) < 0
      · rw [if_pos h3]; exact Or.inl (by decide)
      · rw [if_neg h3]; exact Or.inr ⟨rfl, rfl, rfl, h3⟩
theorem wA_lt {v : Nat → Nat} {p a b y : Int32} (h : wrV v p a b < 0) : wA v p a b y = wrV v p a b := if_pos h
theorem wA_ge {v : Nat → Nat} {p a b y : Int32} (h : 0 ≤ wrV v p a b) : wA v p a b y = y := if_neg (Int32.not_lt.mpr h)
theorem wrV_ok {v : Nat → Nat} {p a b : Int32} (h : 0 ≤ wrV v p a b) : wrV v p a b = 0 ∧ isF v p a b = true ∧ (strF v).2.2 = true ∧ ¬ (mdl0 v).1 (fctN p a b) < 0 := (wrV_cases v p a b).resolve_left (Int32.not_lt.mpr h)
theorem c_round (d n : Nat) (p a b : Int32) (w : Nat → Int32) (v : Nat → Nat) (x : RD) (h : Nat → MC) (hx : RAt h w x) (hv : h 179 = .inl (.int, 189, .inl (vI v))) (hok : OkN v) (hF : FndI v w x) : Sp M_X10_round (d + 7) 0 0 [.ref 178, .int p, .int a, .int b] h n (QR v w h (fun w' x' r => r = some (.int (wA v p a b ((mdl0 v).1 (fctN p a b)))) ∧ (isF v p a b = true → Fnd v w' x'))) := by
  show MW _ _ _ _ _ _ _ _ _ _ _ _
  generalize hpost : (QR v w h (fun w' x' r => r = some (.int (wA v p a b ((mdl0 v).1 (fctN p a b)))) ∧ (isF v p a b = true → Fnd v w' x'))) = post
  refine mw_over (rcL w x) hx ?_
  refine mw_aload_n (i := 0) rfl rfl rfl ?_
  refine mw_iload_n (i := 1) rfl rfl rfl ?_
  refine mw_iload_n (i := 2) rfl rfl rfl ?_
  refine mw_iload_n (i := 3) rfl rfl rfl ?_
  refine mw_callV (c_wrong d n p a b w v x _ (RAt.of w x h) hv hok hF) rfl ok_X10_wrong v_X10_192 rfl (by first | rfl | exact rfl | exact hv) (by intro e; cases e) rfl (Nat.le_of_ble_eq_true rfl) rfl (Nat.le_of_ble_eq_true rfl) (by omega) (by omega) (by omega) ?_
  intro r2 h2 hq2
  obtain ⟨w', x', rfl, hT, hI, rfl, hFd⟩ := hq2
  rw [rc_over]
  refine mw_istore rfl (Nat.le_of_ble_eq_true rfl) ?_
  refine mw_iload rfl rfl ?_
  refine mw_if_ge rfl (fun hge => ?_) (fun hge => ?_)
  · obtain ⟨-, hf, ho, -⟩ := wrV_ok hge
    have hFd2 := hFd hf
    have hans := fun y => wA_ge (y := y) hge
    clear hge
    obtain ⟨i, j, k, hi, hj, hk, rfl, rfl, rfl, e, h216⟩ := isF_nat hok hf
    rw [e] at hpost
    refine mw_aload_n (i := 0) rfl rfl rfl ?_
    refine mw_getfield rfl f_X10_32 (by first | rfl | exact rfl | exact hv) rfl ?_
    refine mw_iload_n (i := 1) rfl rfl rfl ?_
    refine mw_iload_n (i := 2) rfl rfl rfl ?_
    refine mw_iload_n (i := 3) rfl rfl rfl ?_
    refine mw_callS_f (c_factOf (d + 6) n i j k _) rfl ok_X10_factOf v_X10_98 rfl (Nat.le_of_ble_eq_true rfl) rfl (Nat.le_of_ble_eq_true rfl) (by omega) (by omega) (by omega) ?_
    refine mw_iald_v (v := (mdl0 v).1 (36 * i + 6 * j + k)) rfl rfl (by omega) (by omega) (show x'.m (36 * i + 6 * j + k) = _ by rw [(hFd2.m ho).1]) ?_
    exact mw_ireturn rfl rfl rfl rfl (Nat.le_refl _) ((QR.mk hpost w' x' hT hI ⟨by rw [hans], hFd⟩))
  · refine mw_iload rfl rfl ?_
    refine mw_goto rfl ?_
    exact mw_ireturn rfl rfl rfl rfl (Nat.le_refl _) ((QR.mk hpost w' x' hT hI ⟨by rw [wA_lt (Int32.not_le.mp hge)], hFd⟩))
theorem c_cost (d n : Nat) (p a b : Int32) (w : Nat → Int32) (v : Nat → Nat) (x : RD) (h : Nat → MC) (hx : RAt h w x) (hv : h 179 = .inl (.int, 189, .inl (vI v))) (hok : OkN v) (hF : FndI v w x) : Sp M_X10_cost (d + 7) 0 0 [.ref 178, .int p, .int a, .int b] h n (QR v w h (fun w' x' r => r = some (.int (wA v p a b (nI (x'.c (fctN p a b))))) ∧ (isF v p a b = true → Fnd v w' x'))) := by
  show MW _ _ _ _ _ _ _ _ _ _ _ _
  generalize hpost : (QR v w h (fun w' x' r => r = some (.int (wA v p a b (nI (x'.c (fctN p a b))))) ∧ (isF v p a b = true → Fnd v w' x'))) = post
  refine mw_over (rcL w x) hx ?_
  refine mw_aload_n (i := 0) rfl rfl rfl ?_
  refine mw_iload_n (i := 1) rfl rfl rfl ?_
  refine mw_iload_n (i := 2) rfl rfl rfl ?_
  refine mw_iload_n (i := 3) rfl rfl rfl ?_
  refine mw_callV (c_wrong d n p a b w v x _ (RAt.of w x h) hv hok hF) rfl ok_X10_wrong v_X10_192 rfl (by first | rfl | exact rfl | exact hv) (by intro e; cases e) rfl (Nat.le_of_ble_eq_true rfl) rfl (Nat.le_of_ble_eq_true rfl) (by omega) (by omega) (by omega) ?_
  intro r2 h2 hq2
  obtain ⟨w', x', rfl, hT, hI, rfl, hFd⟩ := hq2
  rw [rc_over]
  refine mw_istore rfl (Nat.le_of_ble_eq_true rfl) ?_
  refine mw_iload rfl rfl ?_
  refine mw_if_ge rfl (fun hge => ?_) (fun hge => ?_)
  · obtain ⟨-, hf, ho, -⟩ := wrV_ok hge
    have hFd2 := hFd hf
    have hans := fun y => wA_ge (y := y) hge
    clear hge
    obtain ⟨i, j, k, hi, hj, hk, rfl, rfl, rfl, e, h216⟩ := isF_nat hok hf
    rw [e] at hpost
    refine mw_aload_n (i := 0) rfl rfl rfl ?_
    refine mw_getfield rfl f_X10_50 (by first | rfl | exact rfl | exact hv) rfl ?_
    refine mw_iload_n (i := 1) rfl rfl rfl ?_
    refine mw_iload_n (i := 2) rfl rfl rfl ?_
    refine mw_iload_n (i := 3) rfl rfl rfl ?_
    refine mw_callS_f (c_factOf (d + 6) n i j k _) rfl ok_X10_factOf v_X10_98 rfl (Nat.le_of_ble_eq_true rfl) rfl (Nat.le_of_ble_eq_true rfl) (by omega) (by omega) (by omega) ?_
    refine mw_iald rfl (by first | rfl | exact rfl | exact hv) (by omega) (by omega) ?_
    exact mw_ireturn rfl rfl rfl rfl (Nat.le_refl _) ((QR.mk hpost w' x' hT hI ⟨by rw [hans]; rfl, hFd⟩))
  · refine mw_iload rfl rfl ?_
    refine mw_goto rfl ?_
    exact mw_ireturn rfl rfl rfl rfl (Nat.le_refl _) ((QR.mk hpost w' x' hT hI ⟨by rw [wA_lt (Int32.not_le.mp hge)], hFd⟩))
