/-! THE CLASS'S QUESTIONS: costs, likelihoods, survivals are computed when asked for -/
/-- the bits of a likelihood, found by arithmetic (proof: with the other laws of floats, last) -/
theorem c_floatBits (d n : Nat) (y : UInt32) (h : Nat → MC) (hy : UF y) : Fn M_X9_floatBits d 0 0 [.float y] h n (some (.int y.toInt32)) h := by sorry
theorem KI.flag {v sm : Nat → Nat} {x : KD} (hI : KI v sm x) (hm : x.mF = true) : x.gF = true ∧ (strF v).2.2 = true ∧ x.m.1 = (mdl0 v).1 ∧ HdOk v (hoV v) x.T.2.1 x.T.2.2.1 x.T.2.2.2 ∧ GrOk v x.g := by
  obtain ⟨h1, h2, h3, -, -, h6⟩ := hI.2.2.1 hm
  exact ⟨h1, h2, h3, h6, hI.2.1 h1⟩
set_option maxRecDepth 20000 in
theorem c_compC (d n : Nat) (v sm : Nat → Nat) (P : PgS) (x : KD) (h : Nat → MC) (H : KW v sm P h x) (hm : x.mF = true) : Sp M_X9_computeCosts (d + 4) 0 0 [.ref 0] h n (KQ v sm h (fun x' r => r = none ∧ x'.mF = true ∧ x'.cF = true ∧ (x.lF = true → x'.lF = true))) := by
  show MW _ _ _ _ _ _ _ _ _ _ _ _
  generalize hpost : KQ v sm h (fun x' r => r = none ∧ x'.mF = true ∧ x'.cF = true ∧ (x.lF = true → x'.lF = true)) = post
  have hp := fun (x' : KD) (h2 : KI v sm x') (h3 : x'.mF = true) (h4 : x'.cF = true) (h5 : x.lF = true → x'.lF = true) => KQ.mk hpost (r := none) x' h2 ⟨rfl, h3, h4, h5⟩
  clear hpost
  obtain ⟨hAt, hPg, hV, hSf, hok, hKK, hI⟩ := H
  obtain ⟨f1, f2, f3, f4, f5⟩ := hI.flag hm
  refine mw_over (kqL x) hAt ?_
  refine mw_aload_n (i := 0) rfl rfl rfl ?_
  refine mw_getfield rfl f_X9_237 (by first | rfl | exact rfl | exact hKK.1) rfl ?_
  show MW _ _ _ _ _ _ _ _ (.int (bI x.cF) :: []) _ _ _
  refine mw_b_ne rfl (fun hc => ?_) (fun hc => ?_)
  · exact mw_return rfl rfl rfl (Nat.le_refl _) ((hp x hI hm hc (fun q => q)))
  · refine mw_aload_n (i := 0) rfl rfl rfl ?_
    refine mw_getfield rfl f_X9_55 (by first | rfl | exact rfl | exact hKK.1) rfl ?_
    refine mw_aload_n (i := 0) rfl rfl rfl ?_
    refine mw_getfield rfl f_X9_12 (by first | rfl | exact rfl | exact hKK.1) rfl ?_
    refine mw_aload_n (i := 0) rfl rfl rfl ?_
    refine mw_getfield rfl f_X9_34 (by first | rfl | exact rfl | exact hKK.1) rfl ?_
    refine mw_aload_n (i := 0) rfl rfl rfl ?_
    refine mw_getfield rfl f_X9_48 (by first | rfl | exact rfl | exact hKK.1) rfl ?_
    refine mw_heap (h2 := mov (kcL x.C.1 x.C.2.1 x.C.2.2.1 x.C.2.2.2.1 x.C.2.2.2.2.1 x.C.2.2.2.2.2) (mov (kqL x) h)) (mov_sub h (by intro q hq; simp only [List.mem_cons, List.not_mem_nil, or_false] at hq; rcases hq with rfl | rfl | rfl | rfl | rfl | rfl <;> rfl)) ?_
    refine mw_callV (c_kcompute d n P v x.C.1 x.C.2.1 x.C.2.2.1 x.C.2.2.2.1 x.C.2.2.2.2.1 x.C.2.2.2.2.2 (hoV v) x.T.2.1 x.T.2.2.1 x.T.2.2.2 x.g (mov (kqL x) h) (hPg.mv rfl) hV ⟨rfl, rfl, rfl, rfl, rfl, rfl, rfl, rfl, rfl, rfl, rfl⟩ f5 hok (hoV_ok hok) f4 hKK.1 rfl rfl) rfl ok_X0_compute v_X9_260 rfl (by first | rfl | exact rfl | exact hKK.1) (by intro e; cases e) rfl (Nat.le_of_ble_eq_true rfl) rfl (Nat.le_of_ble_eq_true rfl) (by omega) (by omega) (by omega) ?_
    intro r2 h2 hq2
    obtain ⟨rfl, c, kr, z, u, ba, ch, rfl, hC⟩ := hq2
    rw [← mov_puts]
    obtain ⟨x1, hx1⟩ : ∃ x1 : KD, x1 = ((x.gF, x.mF, true, x.lF, x.sF, x.lw), x.g, x.m, x.T, (c, kr, z, u, ba, ch), x.l, x.r, x.o) := ⟨_, rfl⟩
    obtain ⟨i1, i2, i3, i4, i5, i6, i7⟩ := hI
    have hI1 : KI v sm x1 := by
      rw [hx1]
      exact ⟨i1, i2, i3, fun _ => ⟨hm, hC⟩, i5, i6, i7⟩
    refine mw_aload_n (i := 0) rfl rfl rfl ?_
    refine mw_iconst (v := nI 1) rfl (by decide) ?_
    first | refine mw_putfield_m rfl f_X9_237 (by first | rfl | exact rfl | exact hKK.1) (Nat.le_of_ble_eq_true rfl) (fun _ => bI_nar _) (fun _ => bI_fit _) ?_ | refine mw_putfield_m rfl f_X9_237 (by first | rfl | exact rfl | exact hKK.1) (Nat.le_of_ble_eq_true rfl) (fun _ => rfl) (fun _ => rfl) ?_
    refine mw_heap (h2 := mov (kqL x1) h) (by rw [hx1]; rfl) ?_
    exact mw_return rfl rfl rfl (Nat.le_refl _) ((hp x1 hI1 (by rw [hx1]; exact hm) (by rw [hx1]) (by rw [hx1]; exact fun q => q)))
set_option maxRecDepth 20000 in
theorem c_compL (d n : Nat) (v sm : Nat → Nat) (P : PgS) (x : KD) (h : Nat → MC) (H : KW v sm P h x) (hm : x.mF = true) : Sp M_X9_computeLikelihoods (d + 4) 0 0 [.ref 0] h n (KQ v sm h (fun x' r => r = none ∧ x'.mF = true ∧ x'.lF = true ∧ (x.cF = true → x'.cF = true))) := by
  show MW _ _ _ _ _ _ _ _ _ _ _ _
  generalize hpost : KQ v sm h (fun x' r => r = none ∧ x'.mF = true ∧ x'.lF = true ∧ (x.cF = true → x'.cF = true)) = post
  have hp := fun (x' : KD) (h2 : KI v sm x') (h3 : x'.mF = true) (h4 : x'.lF = true) (h5 : x.cF = true → x'.cF = true) => KQ.mk hpost (r := none) x' h2 ⟨rfl, h3, h4, h5⟩
  clear hpost
  obtain ⟨hAt, hPg, hV, hSf, hok, hKK, hI⟩ := H
  obtain ⟨f1, f2, f3, f4, f5⟩ := hI.flag hm
  refine mw_over (kqL x) hAt ?_
  refine mw_aload_n (i := 0) rfl rfl rfl ?_
  refine mw_getfield rfl f_X9_240 (by first | rfl | exact rfl | exact hKK.2.1) rfl ?_
  show MW _ _ _ _ _ _ _ _ (.int (bI x.lF) :: []) _ _ _
  refine mw_b_ne rfl (fun hc => ?_) (fun hc => ?_)
  · exact mw_return rfl rfl rfl (Nat.le_refl _) ((hp x hI hm hc (fun q => q)))
  · refine mw_aload_n (i := 0) rfl rfl rfl ?_
    refine mw_getfield rfl f_X9_62 (by first | rfl | exact rfl | exact hKK.2.1) rfl ?_
    refine mw_aload_n (i := 0) rfl rfl rfl ?_
    refine mw_getfield rfl f_X9_12 (by first | rfl | exact rfl | exact hKK.2.1) rfl ?_
    refine mw_aload_n (i := 0) rfl rfl rfl ?_
    refine mw_getfield rfl f_X9_34 (by first | rfl | exact rfl | exact hKK.2.1) rfl ?_
    refine mw_aload_n (i := 0) rfl rfl rfl ?_
    refine mw_getfield rfl f_X9_48 (by first | rfl | exact rfl | exact hKK.2.1) rfl ?_
    refine mw_heap (h2 := mov (lkC x.l) (mov (kqL x) h)) (mov_sub h (by intro q hq; simp only [List.mem_cons, List.not_mem_nil, or_false] at hq; rcases hq with rfl; rfl)) ?_
    refine mw_callV (c_klcompute (d + 2) n P v x.l (hoV v) x.T.2.1 x.T.2.2.1 x.T.2.2.2 x.g (mov (kqL x) h) (hPg.mv rfl) hV ⟨rfl, rfl, rfl, rfl, rfl, rfl, rfl, rfl, rfl, rfl, rfl⟩ f5 hok (hoV_ok hok) f4 hKK.2.1 rfl rfl hI.1) rfl ok_X3_compute v_X9_264 rfl (by first | rfl | exact rfl | exact hKK.2.1) (by intro e; cases e) rfl (Nat.le_of_ble_eq_true rfl) rfl (Nat.le_of_ble_eq_true rfl) (by omega) (by omega) (by omega) ?_
    intro r2 h2 hq2
    obtain ⟨rfl, l, rfl, hL⟩ := hq2
    rw [← mov_puts]
    obtain ⟨x1, hx1⟩ : ∃ x1 : KD, x1 = ((x.gF, x.mF, x.cF, true, x.sF, x.lw), x.g, x.m, x.T, x.C, l, x.r, x.o) := ⟨_, rfl⟩
    obtain ⟨i1, i2, i3, i4, i5, i6, i7⟩ := hI
    have hl0 : ∀ f, 216 ≤ f → l f = FP.fconst0 := fun f hf => by
      obtain ⟨F, hF⟩ := lkLim hok (hoV_ok hok)
      rw [hL.2 F hF f, lkLim_tail hok (hoV_ok hok) hF f hf]
      exact if_pos rfl
    have hI1 : KI v sm x1 := by
      rw [hx1]
      exact ⟨hl0, i2, i3, i4, fun _ => ⟨hm, hL⟩, i6, i7⟩
    refine mw_aload_n (i := 0) rfl rfl rfl ?_
    refine mw_iconst (v := nI 1) rfl (by decide) ?_
    first | refine mw_putfield_m rfl f_X9_240 (by first | rfl | exact rfl | exact hKK.2.1) (Nat.le_of_ble_eq_true rfl) (fun _ => bI_nar _) (fun _ => bI_fit _) ?_ | refine mw_putfield_m rfl f_X9_240 (by first | rfl | exact rfl | exact hKK.2.1) (Nat.le_of_ble_eq_true rfl) (fun _ => rfl) (fun _ => rfl) ?_
    refine mw_heap (h2 := mov (kqL x1) h) (by rw [hx1]; rfl) ?_
    exact mw_return rfl rfl rfl (Nat.le_refl _) ((hp x1 hI1 (by rw [hx1]; exact hm) (by rw [hx1]) (by rw [hx1]; exact fun q => q)))
set_option maxRecDepth 20000 in
theorem c_compS (d n : Nat) (v sm : Nat → Nat) (P : PgS) (x : KD) (h : Nat → MC) (H : KW v sm P h x) (hm : x.mF = true) : Sp M_X9_computeSurvivals (d + 4) 0 0 [.ref 0] h n (KQ v sm h (fun x' r => r = none ∧ x'.mF = true ∧ x'.sF = true)) := by
  show MW _ _ _ _ _ _ _ _ _ _ _ _
  generalize hpost : KQ v sm h (fun x' r => r = none ∧ x'.mF = true ∧ x'.sF = true) = post
  have hp := fun (x' : KD) (h2 : KI v sm x') (h3 : x'.mF = true) (h4 : x'.sF = true) => KQ.mk hpost (r := none) x' h2 ⟨rfl, h3, h4⟩
  clear hpost
  obtain ⟨hAt, hPg, hV, hSf, hok, hKK, hI⟩ := H
  obtain ⟨f1, f2, f3, f4, f5⟩ := hI.flag hm
  refine mw_over (kqL x) hAt ?_
  refine mw_aload_n (i := 0) rfl rfl rfl ?_
  refine mw_getfield rfl f_X9_243 (by first | rfl | exact rfl | exact hKK.2.2.1) rfl ?_
  show MW _ _ _ _ _ _ _ _ (.int (bI x.sF) :: []) _ _ _
  refine mw_b_ne rfl (fun hc => ?_) (fun hc => ?_)
  · exact mw_return rfl rfl rfl (Nat.le_refl _) ((hp x hI hm hc))
  · refine mw_aload_n (i := 0) rfl rfl rfl ?_
    refine mw_getfield rfl f_X9_69 (by first | rfl | exact rfl | exact hKK.2.2.1) rfl ?_
    refine mw_aload_n (i := 0) rfl rfl rfl ?_
    refine mw_getfield rfl f_X9_12 (by first | rfl | exact rfl | exact hKK.2.2.1) rfl ?_
    refine mw_aload_n (i := 0) rfl rfl rfl ?_
    refine mw_getfield rfl f_X9_34 (by first | rfl | exact rfl | exact hKK.2.2.1) rfl ?_
    refine mw_aload_n (i := 0) rfl rfl rfl ?_
    refine mw_getfield rfl f_X9_48 (by first | rfl | exact rfl | exact hKK.2.2.1) rfl ?_
    refine mw_heap (h2 := mov (rwL x.r) (mov (kqL x) h)) (mov_sub h (by intro q hq; simp only [List.mem_cons, List.not_mem_nil, or_false] at hq; rcases hq with rfl; rfl)) ?_
    refine mw_callV (c_kscompute (d + 2) n P v sm x.r (hoV v) x.T.2.1 x.T.2.2.1 x.T.2.2.2 x.g (mov (kqL x) h) (hPg.mv rfl) hV ⟨rfl, rfl, rfl, rfl, rfl, rfl, rfl, rfl, rfl, rfl, rfl⟩ f5 hok (hoV_ok hok) f4 hKK.2.2.1 hKK.2.2.2 rfl rfl) rfl ok_X8_compute v_X9_265 rfl (by first | rfl | exact rfl | exact hKK.2.2.1) (by intro e; cases e) rfl (Nat.le_of_ble_eq_true rfl) rfl (Nat.le_of_ble_eq_true rfl) (by omega) (by omega) (by omega) ?_
    intro r2 h2 hq2
    obtain ⟨rfl, rr, rfl, hS⟩ := hq2
    rw [← mov_puts]
    obtain ⟨x1, hx1⟩ : ∃ x1 : KD, x1 = ((x.gF, x.mF, x.cF, x.lF, true, x.lw), x.g, x.m, x.T, x.C, x.l, rr, x.o) := ⟨_, rfl⟩
    obtain ⟨i1, i2, i3, i4, i5, i6, i7⟩ := hI
    have hI1 : KI v sm x1 := by
      rw [hx1]
      exact ⟨i1, i2, i3, i4, i5, fun _ => ⟨hm, hS⟩, i7⟩
    refine mw_aload_n (i := 0) rfl rfl rfl ?_
    refine mw_iconst (v := nI 1) rfl (by decide) ?_
    first | refine mw_putfield_m rfl f_X9_243 (by first | rfl | exact rfl | exact hKK.2.2.1) (Nat.le_of_ble_eq_true rfl) (fun _ => bI_nar _) (fun _ => bI_fit _) ?_ | refine mw_putfield_m rfl f_X9_243 (by first | rfl | exact rfl | exact hKK.2.2.1) (Nat.le_of_ble_eq_true rfl) (fun _ => rfl) (fun _ => rfl) ?_
    refine mw_heap (h2 := mov (kqL x1) h) (by rw [hx1]; rfl) ?_
    exact mw_return rfl rfl rfl (Nat.le_refl _) ((hp x1 hI1 (by rw [hx1]; exact hm) (by rw [hx1])))
theorem c_leastOf (d n f : Nat) (what : Nat) (x : KD) (h : Nat → MC) (hKC : h 72 = KO) (hf : f < 216) (hc : x.C.1 f ≤ 1000001) (hw : what < 3) : Fn M_X9_leastOf d 0 0 [.ref 0, .int (nI f), .int (nI what)] (mov (kqL x) h) n (some (.int (if x.C.1 f < 1000001 then (if what = 0 then nI (x.C.2.1 f) else if what = 1 then nI (x.C.2.2.1 f) else nI (x.C.2.2.2.1 f)) else -5))) (mov (kqL x) h) := by
  refine Fn.of fun post hp => ?_
  refine mw_aload_n (i := 0) rfl rfl rfl ?_
  refine mw_getfield rfl f_X9_55 (by first | rfl | exact rfl | exact hKC) rfl ?_
  refine mw_getfield rfl f_X9_174 (by first | rfl | exact rfl | exact hKC) rfl ?_
  refine mw_iload_n (i := 1) rfl rfl rfl ?_
  refine mw_iald rfl (by first | rfl | exact rfl | exact hKC) (by omega) (by omega) ?_
  refine mw_ldc (v := nI 1000001) rfl c_X9_220 ?_
  show MW _ _ _ _ _ _ _ _ (.int (nI 1000001) :: .int (nI (x.C.1 f)) :: []) _ _ _
  refine mw_n_lt rfl (by omega) (by omega) (fun hq => ?_) (fun hq => ?_)
  · rw [if_pos hq] at hp
    refine mw_iload_n (i := 2) rfl rfl rfl ?_
    refine mw_z_ne rfl (by omega) (fun h0 => ?_) (fun h0 => ?_)
    · rw [if_neg h0] at hp
      refine mw_iload_n (i := 2) rfl rfl rfl ?_
      refine mw_iconst (v := nI 1) rfl (by decide) ?_
      refine mw_n_ne rfl (by omega) (by omega) (fun h1 => ?_) (fun h1 => ?_)
      · rw [if_neg h1] at hp
        refine mw_aload_n (i := 0) rfl rfl rfl ?_
        refine mw_getfield rfl f_X9_55 (by first | rfl | exact rfl | exact hKC) rfl ?_
        refine mw_getfield rfl f_X9_227 (by first | rfl | exact rfl | exact hKC) rfl ?_
        refine mw_iload_n (i := 1) rfl rfl rfl ?_
        refine mw_iald rfl (by first | rfl | exact rfl | exact hKC) (by omega) (by omega) ?_
        exact mw_ireturn rfl rfl rfl rfl (Nat.le_refl _) (hp)
      · rw [if_pos h1] at hp
        refine mw_aload_n (i := 0) rfl rfl rfl ?_
        refine mw_getfield rfl f_X9_55 (by first | rfl | exact rfl | exact hKC) rfl ?_
        refine mw_getfield rfl f_X9_224 (by first | rfl | exact rfl | exact hKC) rfl ?_
        refine mw_iload_n (i := 1) rfl rfl rfl ?_
        refine mw_iald rfl (by first | rfl | exact rfl | exact hKC) (by omega) (by omega) ?_
        refine mw_goto rfl ?_
        exact mw_ireturn rfl rfl rfl rfl (Nat.le_refl _) (hp)
    · rw [if_pos h0] at hp
      refine mw_aload_n (i := 0) rfl rfl rfl ?_
      refine mw_getfield rfl f_X9_55 (by first | rfl | exact rfl | exact hKC) rfl ?_
      refine mw_getfield rfl f_X9_221 (by first | rfl | exact rfl | exact hKC) rfl ?_
      refine mw_iload_n (i := 1) rfl rfl rfl ?_
      refine mw_iald rfl (by first | rfl | exact rfl | exact hKC) (by omega) (by omega) ?_
      exact mw_ireturn rfl rfl rfl rfl (Nat.le_refl _) (hp)
  · rw [if_neg (by omega)] at hp
    refine mw_bipush (v := (-5)) rfl (by decide) ?_
    exact mw_ireturn rfl rfl rfl rfl (Nat.le_refl _) (hp)
