theorem mov_idem (l : MLs) (h : Nat → MC) : mov l (mov l h) = mov l h := by
  funext j
  simp only [mov]
  cases mlk l j <;> rfl
theorem RAt.of (w : Nat → Int32) (x : RD) (h : Nat → MC) : RAt (mov (rcL w x) h) w x := mov_idem _ _
theorem rc_over (w w' : Nat → Int32) (x x' : RD) (h : Nat → MC) : mov (rcL w' x') (mov (rcL w x) h) = mov (rcL w' x') h := (mov_puts (rcL w x) h (rcL w' x')).symm
def fctN (p a b : Int32) : Nat := 36 * p.toNatClampNeg + 6 * a.toNatClampNeg + b.toNatClampNeg
def mdl0 (v : Nat → Nat) : (Nat → Int32) × Nat := mdlV v (strF v).1 (nI 0)
def wrV (v : Nat → Nat) (p a b : Int32) : Int32 := if isF v p a b = false then -1 else if (strF v).2.2 = false then -6 else if (mdl0 v).1 (fctN p a b) < 0 then -5 else 0
theorem isF_nat {v : Nat → Nat} (hok : OkN v) {p a b : Int32} (h : isF v p a b = true) : ∃ i j k, i < 6 ∧ j < v 0 ∧ k < v 0 ∧ p = nI i ∧ a = nI j ∧ b = nI k ∧ fctN p a b = 36 * i + 6 * j + k ∧ 36 * i + 6 * j + k < 216 := by
  obtain ⟨h1, h6, -⟩ := hok
  unfold isF at h
  rw [Bool.and_eq_true, Bool.and_eq_true, Bool.and_eq_true] at h
  obtain ⟨i, hi, rfl⟩ := inI_of h.1 (by omega)
  obtain ⟨j, hj, rfl⟩ := inI_of h.2.1 (by omega)
  obtain ⟨k, hk, rfl⟩ := inI_of h.2.2.1 (by omega)
  refine ⟨i, j, k, hi, hj, hk, rfl, rfl, rfl, ?_, by omega⟩
  unfold fctN
  rw [nI_clamp (by omega), nI_clamp (by omega), nI_clamp (by omega)]
/-- behind a question: the rows again, and what was answered -/
def QR (v : Nat → Nat) (w : Nat → Int32) (h : Nat → MC) (A : (Nat → Int32) → RD → Option Value → Prop) : Option Value → (Nat → MC) → Prop := fun r h1 => ∃ (w' : Nat → Int32) (x' : RD), h1 = mov (rcL w' x') h ∧ SameT w w' ∧ FndI v w' x' ∧ A w' x' r
theorem Fnd.m {v : Nat → Nat} {w : Nat → Int32} {x : RD} (h : Fnd v w x) (ho : (strF v).2.2 = true) : x.m = (mdl0 v).1 ∧ w 7 = nI (mdl0 v).2 := by
  obtain ⟨S, h1, h2, -⟩ := h.2.2.2 ho
  rw [h.2.2.1] at h1 h2
  exact ⟨h1, h2⟩
theorem SameT.refl (w : Nat → Int32) : SameT w w := ⟨rfl, rfl, rfl⟩
theorem QR.mk {v : Nat → Nat} {w : Nat → Int32} {h : Nat → MC} {A : (Nat → Int32) → RD → Option Value → Prop} {post : Option Value → (Nat → MC) → Prop} (hpost : QR v w h A = post) {r : Option Value} (w' : Nat → Int32) (x' : RD) (h1 : SameT w w') (h2 : FndI v w' x') (h3 : A w' x' r) : post r (mov (rcL w' x') h) := by
  rw [← hpost]
  exact ⟨w', x', rfl, h1, h2, h3⟩
theorem c_wrong (d n : Nat) (p a b : Int32) (w : Nat → Int32) (v : Nat → Nat) (x : RD) (h : Nat → MC) (hx : RAt h w x) (hv : h 179 = .inl (.int, 189, .inl (vI v))) (hok : OkN v) (hF : FndI v w x) : Sp M_X10_wrong (d + 6) 0 0 [.ref 178, .int p, .int a, .int b] h n (QR v w h (fun w' x' r => r = some (.int (wrV v p a b)) ∧ (isF v p a b = true → Fnd v w' x'))) := by
  show MW _ _ _ _ _ _ _ _ _ _ _ _
  generalize hpost : (QR v w h (fun w' x' r => r = some (.int (wrV v p a b)) ∧ (isF v p a b = true → Fnd v w' x'))) = post
  refine mw_over (rcL w x) hx ?_
  refine mw_aload_n (i := 0) rfl rfl rfl ?_
  refine mw_iload_n (i := 1) rfl rfl rfl ?_
  refine mw_iload_n (i := 2) rfl rfl rfl ?_
  refine mw_iload_n (i := 3) rfl rfl rfl ?_
  refine mw_callV_f (c_isFact (d + 3) n p a b w v _ rfl hv hok.1 hok.2.1 hok.2.2.2.2.1) rfl ok_X10_isFact v_X10_95 rfl (by first | rfl | exact rfl | exact hv) (by intro e; cases e) rfl (Nat.le_of_ble_eq_true rfl) rfl (Nat.le_of_ble_eq_true rfl) (by omega) (by omega) (by omega) ?_
  refine mw_b_ne rfl (fun hf => ?_) (fun hf => ?_)
  · refine mw_aload_n (i := 0) rfl rfl rfl ?_
    refine mw_callV (c_finds d n w v x _ (RAt.of w x h) hv hok hF) rfl ok_X10_finds v_X10_185 rfl (by first | rfl | exact rfl | exact hv) (by intro e; cases e) rfl (Nat.le_of_ble_eq_true rfl) rfl (Nat.le_of_ble_eq_true rfl) (by omega) (by omega) (by omega) ?_
    intro r2 h2 hq2
    obtain ⟨rfl, w', x', rfl, hT, hFd, hI⟩ := hq2
    rw [rc_over]
    refine mw_b_ne rfl (fun ho => ?_) (fun ho => ?_)
    · obtain ⟨i, j, k, hi, hj, hk, rfl, rfl, rfl, e, h216⟩ := isF_nat hok hf
      have hm := (hFd.m ho).1
      have hans : wrV v (nI i) (nI j) (nI k) = if (mdl0 v).1 (36 * i + 6 * j + k) < 0 then -5 else 0 := by
        unfold wrV
        rw [hf, ho, e]
        rfl
      refine mw_aload_n (i := 0) rfl rfl rfl ?_
      refine mw_getfield rfl f_X10_32 (by first | rfl | exact rfl | exact hv) rfl ?_
      refine mw_iload_n (i := 1) rfl rfl rfl ?_
      refine mw_iload_n (i := 2) rfl rfl rfl ?_
      refine mw_iload_n (i := 3) rfl rfl rfl ?_
      refine mw_callS_f (c_factOf (d + 5) n i j k _) rfl ok_X10_factOf v_X10_98 rfl (Nat.le_of_ble_eq_true rfl) rfl (Nat.le_of_ble_eq_true rfl) (by omega) (by omega) (by omega) ?_
      generalize hy : (mdl0 v).1 (36 * i + 6 * j + k) = y at hans
      refine mw_iald_v (v := y) rfl rfl (by omega) (by omega) (show x'.m (36 * i + 6 * j + k) = y by rw [hm]; exact hy) ?_
      refine mw_if_ge rfl (fun hge => ?_) (fun hge => ?_)
      · rw [if_neg (Int32.not_lt.mpr hge)] at hans
        refine mw_iconst (v := nI 0) rfl (by decide) ?_
        exact mw_ireturn rfl rfl rfl rfl (Nat.le_refl _) ((QR.mk hpost w' x' hT hI ⟨by rw [hans]; rfl, fun _ => hFd⟩))
      · rw [if_pos (Int32.not_le.mp hge)] at hans
        refine mw_bipush (v := (-5)) rfl (by decide) ?_
        refine mw_goto rfl ?_
        exact mw_ireturn rfl rfl rfl rfl (Nat.le_refl _) ((QR.mk hpost w' x' hT hI ⟨by rw [hans], fun _ => hFd⟩))
    · refine mw_bipush (v := (-6)) rfl (by decide) ?_
      exact mw_ireturn rfl rfl rfl rfl (Nat.le_refl _) ((QR.mk hpost w' x' hT hI ⟨by unfold wrV; rw [hf, ho]; rfl, fun _ => hFd⟩))
  · refine mw_iconst (v := (-1)) rfl (by decide) ?_
    exact mw_ireturn rfl rfl rfl rfl (Nat.le_refl _) ((QR.mk hpost w x (SameT.refl w) hF ⟨by unfold wrV; rw [if_pos hf], fun q => by rw [hf] at q; cases q⟩))
