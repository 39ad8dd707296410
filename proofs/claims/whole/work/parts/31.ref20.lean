theorem FndM.sok {v : Nat → Nat} {w : Nat → Int32} {x : RD} {S : HoS} (hok : OkN v) (h : FndM v w x S) : HoOk v S := by
  obtain ⟨-, -, ⟨ru0, hd0, b0, li0, e⟩, -⟩ := h
  rw [e]
  exact hoF_ok hok _ _ _ _
theorem FndM.sat {v : Nat → Nat} {w : Nat → Int32} {x : RD} {S : HoS} (hS : FndM v w x S) (w' : Nat → Int32) (x' : RD) (h : Nat → MC) (e1 : x'.ru = x.ru) (e2 : x'.hd = x.hd) (e3 : x'.li = x.li) : HoAt (mov (rcL w' x') h) S := by
  obtain ⟨-, -, -, -, h1, h2, h3, -⟩ := hS
  refine ⟨?_, ?_, ?_⟩
  · show (.inl (.int, 1728, .inl (vI x'.ru)) : MC) = _
    rw [e1, h1]
  · show (.inl (.int, 1728, .inl (vI x'.hd)) : MC) = _
    rw [e2, h2]
  · show (.inl (.int, 5184, .inl x'.li) : MC) = _
    rw [e3, h3]
theorem FndM.n {v : Nat → Nat} {w : Nat → Int32} {x : RD} {S : HoS} (h : FndM v w x S) : w 6 = nI S.1 := h.2.2.2.1
def inA (v : Nat → Nat) (p a b : Int32) (w' : Nat → Int32) (x' : RD) (r : Option Value) : Prop := (isF v p a b = true → Fnd v w' x') ∧ (wrV v p a b = -5 → r = some (.int 0)) ∧ (wrV v p a b < 0 → wrV v p a b ≠ -5 → r = some (.int (wrV v p a b))) ∧ (0 ≤ wrV v p a b → ∃ S, FndM v w' x' S ∧ r = some (.int (nI (insN S (fctN p a b) S.1))))
theorem c_instances (d n : Nat) (p a b : Int32) (w : Nat → Int32) (v : Nat → Nat) (x : RD) (h : Nat → MC) (hx : RAt h w x) (hv : h 179 = .inl (.int, 189, .inl (vI v))) (hok : OkN v) (hF : FndI v w x) : Sp M_X10_instances (d + 7) 0 0 [.ref 178, .int p, .int a, .int b] h n (QR v w h (inA v p a b)) := by
  show MW _ _ _ _ _ _ _ _ _ _ _ _
  generalize hpost : (QR v w h (inA v p a b)) = post
  refine mw_over (rcL w x) hx ?_
  refine mw_aload_n (i := 0) rfl rfl rfl ?_
  refine mw_iload_n (i := 1) rfl rfl rfl ?_
  refine mw_iload_n (i := 2) rfl rfl rfl ?_
  refine mw_iload_n (i := 3) rfl rfl rfl ?_
  refine mw_callV (c_wrong d n p a b w v x _ (RAt.of w x h) hv hok hF) rfl ok_X10_wrong v_X10_192 rfl (by first | rfl | exact rfl | exact hv) (by intro e; cases e) rfl (Nat.le_of_ble_eq_true rfl) rfl (Nat.le_of_ble_eq_true rfl) (by omega) (by omega) (by omega) ?_
  intro r2 h2 hq2
  obtain ⟨w', x', rfl, hT, hI, rfl, hFd⟩ := hq2
  rw [rc_over]
  refine mw_istore rfl (Nat.le_of_ble_eq_true rfl) ?_
  refine mw_iload rfl rfl ?_
  refine mw_bipush (v := (-5)) rfl (by decide) ?_
  refine mw_icmp_ne rfl (fun h5 => ?_) (fun h5 => ?_)
  · refine mw_iload rfl rfl ?_
    refine mw_if_ge rfl (fun hge => ?_) (fun hge => ?_)
    · obtain ⟨-, hf, ho, -⟩ := wrV_ok hge
      have hFd2 := hFd hf
      have hnl := Int32.not_lt.mpr hge
      obtain ⟨i, j, k, hi, hj, hk, rfl, rfl, rfl, e, h216⟩ := isF_nat hok hf
      obtain ⟨S, hS⟩ := hFd2.2.2.2 ho
      refine mw_aload_n (i := 0) rfl rfl rfl ?_
      refine mw_iload_n (i := 1) rfl rfl rfl ?_
      refine mw_iload_n (i := 2) rfl rfl rfl ?_
      refine mw_iload_n (i := 3) rfl rfl rfl ?_
      refine mw_callS_f (c_factOf (d + 6) n i j k _) rfl ok_X10_factOf v_X10_98 rfl (Nat.le_of_ble_eq_true rfl) rfl (Nat.le_of_ble_eq_true rfl) (by omega) (by omega) (by omega) ?_
      refine mw_callV_f (c_instancesOf (d + 6) n (36 * i + 6 * j + k) w' v S _ rfl hS.n (hS.sok hok) (hS.sat w' x' h rfl rfl rfl) h216) rfl ok_X10_instancesOf v_X10_195 rfl (by first | rfl | exact rfl | exact hv) (by intro e; cases e) rfl (Nat.le_of_ble_eq_true rfl) rfl (Nat.le_of_ble_eq_true rfl) (by omega) (by omega) (by omega) ?_
      exact mw_ireturn rfl rfl rfl rfl (Nat.le_refl _) ((QR.mk hpost w' x' hT hI ⟨hFd, fun q => absurd q h5, fun q => absurd q hnl, fun _ => ⟨S, hS, by rw [e]⟩⟩))
    · refine mw_iload rfl rfl ?_
      refine mw_goto rfl ?_
      exact mw_ireturn rfl rfl rfl rfl (Nat.le_refl _) ((QR.mk hpost w' x' hT hI ⟨hFd, fun q => absurd q h5, fun _ _ => rfl, fun q => absurd q hge⟩))
  · refine mw_iconst (v := nI 0) rfl (by decide) ?_
    refine mw_goto rfl ?_
    exact mw_ireturn rfl rfl rfl rfl (Nat.le_refl _) ((QR.mk hpost w' x' hT hI ⟨hFd, fun _ => rfl, fun _ q => absurd h5 q, fun q => absurd q (by rw [h5]; decide)⟩))
def lqA (v : Nat → Nat) (x : RD) (p a b what : Int32) : Int32 := if wrV v p a b = -1 then -1 else if inI what 3 = false then -2 else wA v p a b (leN x.lr x.z x.u (fctN p a b) what.toNatClampNeg)
theorem c_least (d n : Nat) (p a b what : Int32) (w : Nat → Int32) (v : Nat → Nat) (x : RD) (h : Nat → MC) (hx : RAt h w x) (hv : h 179 = .inl (.int, 189, .inl (vI v))) (hok : OkN v) (hF : FndI v w x) : Sp M_X10_least (d + 7) 0 0 [.ref 178, .int p, .int a, .int b, .int what] h n (QR v w h (fun w' x' r => r = some (.int (lqA v x' p a b what)) ∧ (isF v p a b = true → Fnd v w' x'))) := by
  show MW _ _ _ _ _ _ _ _ _ _ _ _
  generalize hpost : (QR v w h (fun w' x' r => r = some (.int (lqA v x' p a b what)) ∧ (isF v p a b = true → Fnd v w' x'))) = post
  refine mw_over (rcL w x) hx ?_
  refine mw_aload_n (i := 0) rfl rfl rfl ?_
  refine mw_iload_n (i := 1) rfl rfl rfl ?_
  refine mw_iload_n (i := 2) rfl rfl rfl ?_
  refine mw_iload_n (i := 3) rfl rfl rfl ?_
  refine mw_callV (c_wrong d n p a b w v x _ (RAt.of w x h) hv hok hF) rfl ok_X10_wrong v_X10_192 rfl rfl (by intro e; cases e) rfl (Nat.le_of_ble_eq_true rfl) rfl (Nat.le_of_ble_eq_true rfl) (by omega) (by omega) (by omega) ?_
  intro r2 h2 hq2
  obtain ⟨w', x', rfl, hT, hI, rfl, hFd⟩ := hq2
  rw [rc_over]
  refine mw_istore rfl (Nat.le_of_ble_eq_true rfl) ?_
  refine mw_iload rfl rfl ?_
  refine mw_iconst (v := (-1)) rfl (by decide) ?_
  refine mw_icmp_ne rfl (fun h1 => ?_) (fun h1 => ?_)
  · refine mw_iload rfl rfl ?_
    refine mw_iconst (v := nI 0) rfl (by decide) ?_
    refine mw_iconst (v := nI 2) rfl (by decide) ?_
    refine mw_callS_f (c_in0 (d + 6) n what 2 (by omega) _) rfl ok_X10_in v_X10_80 rfl (Nat.le_of_ble_eq_true rfl) rfl (Nat.le_of_ble_eq_true rfl) (by omega) (by omega) (by omega) ?_
    refine mw_b_ne rfl (fun hwh => ?_) (fun hwh => ?_)
    · obtain ⟨q, hq, rfl⟩ := inI_of hwh (by omega)
      have hans : lqA v x' p a b (nI q) = wA v p a b (leN x'.lr x'.z x'.u (fctN p a b) q) := by
        unfold lqA
        rw [if_neg h1, hwh, if_neg (by decide), nI_clamp (by omega)]
      refine mw_iload rfl rfl ?_
      refine mw_if_ge rfl (fun hge => ?_) (fun hge => ?_)
      · rw [wA_ge hge] at hans
        obtain ⟨-, hf, ho, -⟩ := wrV_ok hge
        obtain ⟨i, j, k, hi, hj, hk, rfl, rfl, rfl, e, h216⟩ := isF_nat hok hf
        rw [e] at hans
        refine mw_aload_n (i := 0) rfl rfl rfl ?_
        refine mw_iload_n (i := 1) rfl rfl rfl ?_
        refine mw_iload_n (i := 2) rfl rfl rfl ?_
        refine mw_iload_n (i := 3) rfl rfl rfl ?_
        refine mw_callS_f (c_factOf (d + 6) n i j k _) rfl ok_X10_factOf v_X10_98 rfl (Nat.le_of_ble_eq_true rfl) rfl (Nat.le_of_ble_eq_true rfl) (by omega) (by omega) (by omega) ?_
        refine mw_iload rfl rfl ?_
        refine mw_callV_f (c_leastNow (d + 6) n (36 * i + 6 * j + k) q w' x'.z x'.u x'.lr _ rfl rfl rfl rfl h216 hq) rfl ok_X10_leastNow v_X10_221 rfl rfl (by intro e; cases e) rfl (Nat.le_of_ble_eq_true rfl) rfl (Nat.le_of_ble_eq_true rfl) (by omega) (by omega) (by omega) ?_
        exact mw_ireturn rfl rfl rfl rfl (Nat.le_refl _) ((QR.mk hpost w' x' hT hI ⟨by rw [hans], hFd⟩))
      · rw [wA_lt (Int32.not_le.mp hge)] at hans
        refine mw_iload rfl rfl ?_
        refine mw_goto rfl ?_
        exact mw_ireturn rfl rfl rfl rfl (Nat.le_refl _) ((QR.mk hpost w' x' hT hI ⟨by rw [hans], hFd⟩))
    · refine mw_bipush (v := (-2)) rfl (by decide) ?_
      exact mw_ireturn rfl rfl rfl rfl (Nat.le_refl _) ((QR.mk hpost w' x' hT hI ⟨by unfold lqA; rw [if_neg h1, if_pos hwh], hFd⟩))
  · refine mw_iconst (v := (-1)) rfl (by decide) ?_
    exact mw_ireturn rfl rfl rfl rfl (Nat.le_refl _) ((QR.mk hpost w' x' hT hI ⟨by unfold lqA; rw [if_pos h1], hFd⟩))
