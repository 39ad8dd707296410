/-! THE REFERENCE'S LIKELIHOOD -/
theorem stC_of {v : Nat → Nat} (hok : OkN v) (hs : (strF v).2.2 = true) : StC v (strF v).1 := by
  obtain ⟨h1, h2, -⟩ := (st_eq hok).2 hs
  rw [h1]
  exact h2
theorem lkLim_A {v : Nat → Nat} {F : Nat → UInt32} (hok : OkN v) (hF : IsLim (fun l => (lkP (hoV v) l).1) (lkBase v) F) : LkA F := by
  obtain ⟨k, e, -⟩ := hF
  have hk : ∀ k, LkA (itN (fun _ => fun l => (lkP (hoV v) l).1) (lkBase v) k) := by
    intro k
    induction k with
    | zero => exact lkKs_A hok _ (Nat.le_refl _)
    | succ k ih => exact lkP_A (hoV_ok hok) ih
  rw [e]
  exact hk k
theorem lk_UF {v : Nat → Nat} {F : Nat → UInt32} (hok : OkN v) (hs : (strF v).2.2 = true) (hF : IsLim (fun l => (lkP (hoV v) l).1) (lkBase v) F) {f : Nat} (hf : f < 216) (hm : ¬ (mdl0 v).1 f < 0) : UF (F f) :=
  (lkLim_A hok hF f).resolve_left (lk_known hok (stC_of hok hs) hF f hf hm)
theorem Fnd.v {v : Nat → Nat} {w : Nat → Int32} {x : RD} (hok : OkN v) (h : Fnd v w x) (ho : (strF v).2.2 = true) : ∃ S, FndM v w x S ∧ x.m = (mdl0 v).1 ∧ w 7 = nI (mdl0 v).2 ∧ SEq (hoV v) S ∧ IsLim (fun c => (coP v (hoV v) c).1) (coBase v) x.c ∧ IsLim (fun l => (lkP (hoV v) l).1) (lkBase v) x.l ∧ ∃ (N : Nat) (lb : Nat → Nat), N = 216 ∧ IsLim (fun L => (lsP (hoV v) N L).1) (ls2 v (hoV v) x.c lb) (x.lr, x.z, x.u, x.lb) := by
  obtain ⟨S, hS⟩ := h.2.2.2 ho
  exact ⟨S, hS, FndM_v hok h.2.2.1 hS⟩
theorem c_likelihood (d n : Nat) (p a b : Int32) (w : Nat → Int32) (v : Nat → Nat) (x : RD) (h : Nat → MC) (hx : RAt h w x) (hv : h 179 = .inl (.int, 189, .inl (vI v))) (hok : OkN v) (hF : FndI v w x) : Sp M_X10_likelihood (d + 7) 0 0 [.ref 178, .int p, .int a, .int b] h n (QR v w h (fun w' x' r => r = some (.int (wA v p a b (x'.l (fctN p a b)).toInt32)) ∧ (isF v p a b = true → Fnd v w' x'))) := by
  show MW _ _ _ _ _ _ _ _ _ _ _ _
  generalize hpost : (QR v w h (fun w' x' r => r = some (.int (wA v p a b (x'.l (fctN p a b)).toInt32)) ∧ (isF v p a b = true → Fnd v w' x'))) = post
  refine mw_over (rcL w x) hx ?_
  refine mw_aload_n (i := 0) rfl rfl rfl ?_
  refine mw_iload_n (i := 1) rfl rfl rfl ?_
  refine mw_iload_n (i := 2) rfl rfl rfl ?_
  refine mw_iload_n (i := 3) rfl rfl rfl ?_
  refine mw_callV (c_wrong d n p a b w v x _ (RAt.of w x h) hv hok hF) rfl ok_X10_wrong v_X10_192 rfl (by first | rfl | exact rfl | exact hv) (by intro e; cases e) rfl (Nat.le_of_ble_eq_true rfl) rfl (Nat.le_of_ble_eq_true rfl) (by omega) (by omega) (by omega) ?_
  intro r2 h2 hq2
  obtain ⟨w', x', rfl, hT, hI, rfl, hFd⟩ := hq2
  rw [rc_over]
  refine mw_istore rfl (Nat.le_of_ble_eq_true rfl) ?_
  refine mw_iload rfl rfl ?_
  refine mw_if_ge rfl (fun hge => ?_) (fun hge => ?_)
  · obtain ⟨-, hf, ho, hm⟩ := wrV_ok hge
    have hFd2 := hFd hf
    have hans := fun y => wA_ge (y := y) hge
    clear hge
    obtain ⟨S, -, -, -, -, -, hlk, -⟩ := hFd2.v hok ho
    obtain ⟨i, j, k, hi, hj, hk, rfl, rfl, rfl, e, h216⟩ := isF_nat hok hf
    rw [e] at hpost hm
    have hu : UF (x'.l (36 * i + 6 * j + k)) := lk_UF hok ho hlk h216 hm
    refine mw_aload_n (i := 0) rfl rfl rfl ?_
    refine mw_getfield rfl f_X10_53 (by first | rfl | exact rfl | exact hv) rfl ?_
    refine mw_iload_n (i := 1) rfl rfl rfl ?_
    refine mw_iload_n (i := 2) rfl rfl rfl ?_
    refine mw_iload_n (i := 3) rfl rfl rfl ?_
    refine mw_callS_f (c_factOf (d + 6) n i j k _) rfl ok_X10_factOf v_X10_98 rfl (Nat.le_of_ble_eq_true rfl) rfl (Nat.le_of_ble_eq_true rfl) (by omega) (by omega) (by omega) ?_
    refine mw_fald rfl (by first | rfl | exact rfl | exact hv) (by omega) (by omega) ?_
    refine mw_callF hu rfl rfl (by decide) (by omega) (by omega) (Nat.le_refl _) ?_
    exact mw_ireturn rfl rfl rfl rfl (Nat.le_refl _) ((QR.mk hpost w' x' hT hI ⟨by rw [hans], hFd⟩))
  · refine mw_iload rfl rfl ?_
    refine mw_goto rfl ?_
    exact mw_ireturn rfl rfl rfl rfl (Nat.le_refl _) ((QR.mk hpost w' x' hT hI ⟨by rw [wA_lt (Int32.not_le.mp hge)], hFd⟩))
