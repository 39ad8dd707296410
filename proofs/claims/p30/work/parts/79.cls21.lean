/-! THE CLASS'S QUESTIONS: strata, model -/
theorem c_kstratum_e (d n : Nat) (p : Int32) (h : Nat → MC) (hx : inI p 6 = false) : Fn M_X9_stratum (d + 5) 0 0 [.ref 0, .int p] h n (some (.int (-1))) h := by
  refine Fn.of fun post hp => ?_
  refine mw_iload_n (i := 1) rfl rfl rfl ?_
  refine mw_callS_f (c_isPredicate (d + 4) n p h) rfl ok_X9_isPredicate v_X9_90 rfl (Nat.le_of_ble_eq_true rfl) rfl (Nat.le_of_ble_eq_true rfl) (by omega) (by omega) (by omega) ?_
  rw [hx]
  refine mw_b_ne rfl (fun hq => ?_) (fun hq => ?_)
  · cases hq
  · refine mw_iconst (v := (-1)) rfl (by decide) ?_
    exact mw_ireturn rfl rfl rfl rfl (Nat.le_refl _) (hp)
theorem c_kstratum (d n p : Nat) (v sm : Nat → Nat) (P : PgS) (x : KD) (h : Nat → MC) (H : KW v sm P h x) (hp6 : p < 6) : Sp M_X9_stratum (d + 5) 0 0 [.ref 0, .int (nI p)] h n (KQ v sm h (fun x' r => r = some (.int (okA v (nI ((strF v).1 p)))))) := by
  show MW _ _ _ _ _ _ _ _ _ _ _ _
  generalize hpost : KQ v sm h (fun x' r => r = some (.int (okA v (nI ((strF v).1 p))))) = post
  have hp := fun (x' : KD) (h2 : KI v sm x') => KQ.mk hpost (r := some (.int (okA v (nI ((strF v).1 p))))) x' h2 rfl
  clear hpost
  refine mw_over (kqL x) H.1 ?_
  refine mw_iload_n (i := 1) rfl rfl rfl ?_
  refine mw_callS_f (c_isPredicate (d + 4) n (nI p) _) rfl ok_X9_isPredicate v_X9_90 rfl (Nat.le_of_ble_eq_true rfl) rfl (Nat.le_of_ble_eq_true rfl) (by omega) (by omega) (by omega) ?_
  rw [inI_nI hp6 (by omega)]
  refine mw_b_ne rfl (fun hq => ?_) (fun hq => ?_)
  · refine mw_aload_n (i := 0) rfl rfl rfl ?_
    refine mw_callV (c_hasModel d n v sm P x _ (H.mv H.2.2.2.2.2.2)) rfl ok_X9_hasModel v_X9_145 rfl (by first | rfl | exact rfl) (by intro e; cases e) rfl (Nat.le_of_ble_eq_true rfl) rfl (Nat.le_of_ble_eq_true rfl) (by omega) (by omega) (by omega) ?_
    intro r2 h2 hq2
    obtain ⟨x', rfl, hI', rfl, g1, g2⟩ := hq2
    rw [kq_over]
    refine mw_b_ne rfl (fun hs => ?_) (fun hs => ?_)
    · have e1 := (stOk H.2.2.2.2.1 (hI'.2.1 g1)).2 hs
      have hpx := hp x' hI'
      rw [okA_1 hs] at hpx
      refine mw_aload_n (i := 0) rfl rfl rfl ?_
      refine mw_getfield rfl f_X9_34 (by first | rfl | exact rfl) rfl ?_
      refine mw_getfield rfl f_X9_149 (by first | rfl | exact rfl) rfl ?_
      refine mw_iload_n (i := 1) rfl rfl rfl ?_
      refine mw_iald_v rfl (by first | rfl | exact rfl) (by omega) (by omega) (show vI x'.g.st p = nI ((strF v).1 p) by rw [e1.1]; rfl) ?_
      exact mw_ireturn rfl rfl rfl rfl (Nat.le_refl _) (hpx)
    · have hpx := hp x' hI'
      rw [okA_0 hs] at hpx
      refine mw_bipush (v := (-6)) rfl (by decide) ?_
      exact mw_ireturn rfl rfl rfl rfl (Nat.le_refl _) (hpx)
  · cases hq
theorem c_ksize (d n : Nat) (v sm : Nat → Nat) (P : PgS) (x : KD) (h : Nat → MC) (H : KW v sm P h x) : Sp M_X9_size (d + 5) 0 0 [.ref 0] h n (KQ v sm h (fun x' r => r = some (.int (okA v (nI (cntM (mdl0 v).1 0 216)))))) := by
  show MW _ _ _ _ _ _ _ _ _ _ _ _
  generalize hpost : KQ v sm h (fun x' r => r = some (.int (okA v (nI (cntM (mdl0 v).1 0 216))))) = post
  have hp := fun (x' : KD) (h2 : KI v sm x') => KQ.mk hpost (r := some (.int (okA v (nI (cntM (mdl0 v).1 0 216))))) x' h2 rfl
  clear hpost
  refine mw_over (kqL x) H.1 ?_
  refine mw_aload_n (i := 0) rfl rfl rfl ?_
  refine mw_callV (c_hasModel d n v sm P x _ (H.mv H.2.2.2.2.2.2)) rfl ok_X9_hasModel v_X9_145 rfl (by first | rfl | exact rfl) (by intro e; cases e) rfl (Nat.le_of_ble_eq_true rfl) rfl (Nat.le_of_ble_eq_true rfl) (by omega) (by omega) (by omega) ?_
  intro r2 h2 hq2
  obtain ⟨x', rfl, hI', rfl, g1, g2⟩ := hq2
  rw [kq_over]
  refine mw_b_ne rfl (fun hs => ?_) (fun hs => ?_)
  · obtain ⟨-, -, e1, e2, e3, -⟩ := hI'.2.2.1 (g2 hs)
    have hpx := hp x' hI'
    rw [okA_1 hs, ← e3] at hpx
    refine mw_aload_n (i := 0) rfl rfl rfl ?_
    refine mw_getfield rfl f_X9_41 (by first | rfl | exact rfl) rfl ?_
    refine mw_getfield rfl f_X9_152 (by first | rfl | exact rfl) rfl ?_
    exact mw_ireturn rfl rfl rfl rfl (Nat.le_refl _) (hpx)
  · have hpx := hp x' hI'
    rw [okA_0 hs] at hpx
    refine mw_bipush (v := (-6)) rfl (by decide) ?_
    exact mw_ireturn rfl rfl rfl rfl (Nat.le_refl _) (hpx)
theorem c_krounds (d n : Nat) (v sm : Nat → Nat) (P : PgS) (x : KD) (h : Nat → MC) (H : KW v sm P h x) : Sp M_X9_rounds (d + 5) 0 0 [.ref 0] h n (KQ v sm h (fun x' r => r = some (.int (okA v (nI (mdl0 v).2))))) := by
  show MW _ _ _ _ _ _ _ _ _ _ _ _
  generalize hpost : KQ v sm h (fun x' r => r = some (.int (okA v (nI (mdl0 v).2)))) = post
  have hp := fun (x' : KD) (h2 : KI v sm x') => KQ.mk hpost (r := some (.int (okA v (nI (mdl0 v).2)))) x' h2 rfl
  clear hpost
  refine mw_over (kqL x) H.1 ?_
  refine mw_aload_n (i := 0) rfl rfl rfl ?_
  refine mw_callV (c_hasModel d n v sm P x _ (H.mv H.2.2.2.2.2.2)) rfl ok_X9_hasModel v_X9_145 rfl (by first | rfl | exact rfl) (by intro e; cases e) rfl (Nat.le_of_ble_eq_true rfl) rfl (Nat.le_of_ble_eq_true rfl) (by omega) (by omega) (by omega) ?_
  intro r2 h2 hq2
  obtain ⟨x', rfl, hI', rfl, g1, g2⟩ := hq2
  rw [kq_over]
  refine mw_b_ne rfl (fun hs => ?_) (fun hs => ?_)
  · obtain ⟨-, -, e1, e2, e3, -⟩ := hI'.2.2.1 (g2 hs)
    have hpx := hp x' hI'
    rw [okA_1 hs, ← e2] at hpx
    refine mw_aload_n (i := 0) rfl rfl rfl ?_
    refine mw_getfield rfl f_X9_41 (by first | rfl | exact rfl) rfl ?_
    refine mw_getfield rfl f_X9_159 (by first | rfl | exact rfl) rfl ?_
    exact mw_ireturn rfl rfl rfl rfl (Nat.le_refl _) (hpx)
  · have hpx := hp x' hI'
    rw [okA_0 hs] at hpx
    refine mw_bipush (v := (-6)) rfl (by decide) ?_
    exact mw_ireturn rfl rfl rfl rfl (Nat.le_refl _) (hpx)
theorem c_kcount_e (d n : Nat) (p : Int32) (h : Nat → MC) (hx : inI p 6 = false) : Fn M_X9_count (d + 5) 0 0 [.ref 0, .int p] h n (some (.int (-1))) h := by
  refine Fn.of fun post hp => ?_
  refine mw_iload_n (i := 1) rfl rfl rfl ?_
  refine mw_callS_f (c_isPredicate (d + 4) n p h) rfl ok_X9_isPredicate v_X9_90 rfl (Nat.le_of_ble_eq_true rfl) rfl (Nat.le_of_ble_eq_true rfl) (by omega) (by omega) (by omega) ?_
  rw [hx]
  refine mw_b_ne rfl (fun hq => ?_) (fun hq => ?_)
  · cases hq
  · refine mw_iconst (v := (-1)) rfl (by decide) ?_
    exact mw_ireturn rfl rfl rfl rfl (Nat.le_refl _) (hp)
theorem c_kcount (d n p : Nat) (v sm : Nat → Nat) (P : PgS) (x : KD) (h : Nat → MC) (H : KW v sm P h x) (hp6 : p < 6) : Sp M_X9_count (d + 5) 0 0 [.ref 0, .int (nI p)] h n (KQ v sm h (fun x' r => r = some (.int (okA v (nI (cntM (mdl0 v).1 (36 * p) 36)))))) := by
  show MW _ _ _ _ _ _ _ _ _ _ _ _
  generalize hpost : KQ v sm h (fun x' r => r = some (.int (okA v (nI (cntM (mdl0 v).1 (36 * p) 36))))) = post
  have hp := fun (x' : KD) (h2 : KI v sm x') => KQ.mk hpost (r := some (.int (okA v (nI (cntM (mdl0 v).1 (36 * p) 36))))) x' h2 rfl
  clear hpost
  refine mw_over (kqL x) H.1 ?_
  refine mw_iload_n (i := 1) rfl rfl rfl ?_
  refine mw_callS_f (c_isPredicate (d + 4) n (nI p) _) rfl ok_X9_isPredicate v_X9_90 rfl (Nat.le_of_ble_eq_true rfl) rfl (Nat.le_of_ble_eq_true rfl) (by omega) (by omega) (by omega) ?_
  rw [inI_nI hp6 (by omega)]
  refine mw_b_ne rfl (fun hq => ?_) (fun hq => ?_)
  · refine mw_aload_n (i := 0) rfl rfl rfl ?_
    refine mw_callV (c_hasModel d n v sm P x _ (H.mv H.2.2.2.2.2.2)) rfl ok_X9_hasModel v_X9_145 rfl (by first | rfl | exact rfl) (by intro e; cases e) rfl (Nat.le_of_ble_eq_true rfl) rfl (Nat.le_of_ble_eq_true rfl) (by omega) (by omega) (by omega) ?_
    intro r2 h2 hq2
    obtain ⟨x', rfl, hI', rfl, g1, g2⟩ := hq2
    rw [kq_over]
    refine mw_b_ne rfl (fun hs => ?_) (fun hs => ?_)
    · obtain ⟨-, -, e1, e2, e3, -⟩ := hI'.2.2.1 (g2 hs)
      obtain ⟨hX, hMR⟩ : InvX (mdl0 v) ∧ MR (mdl0 v).1 (mdl0 v).2 := mdlV_st (v := v) (st := (strF v).1) (nI 0) 6
      have hX2 : (mdl0 v).2 ≤ 216 := by unfold InvX at hX; omega
      have hpx := hp x' hI'
      rw [okA_1 hs] at hpx
      refine mw_aload_n (i := 0) rfl rfl rfl ?_
      refine mw_getfield rfl f_X9_41 (by first | rfl | exact rfl) rfl ?_
      refine mw_iload_n (i := 1) rfl rfl rfl ?_
      refine mw_callV_f (c_atomsOfA (d + 4) n p x'.m.2.1 x'.m.2.2 (mdl0 v).2 (mdl0 v).1 _ rfl (by rw [← e1]; rfl) hMR hX2 hp6) rfl ok_X4_atomsOf v_X9_155 rfl (by first | rfl | exact rfl) (by intro e; cases e) rfl (Nat.le_of_ble_eq_true rfl) rfl (Nat.le_of_ble_eq_true rfl) (by omega) (by omega) (by omega) ?_
      exact mw_ireturn rfl rfl rfl rfl (Nat.le_refl _) (hpx)
    · have hpx := hp x' hI'
      rw [okA_0 hs] at hpx
      refine mw_bipush (v := (-6)) rfl (by decide) ?_
      exact mw_ireturn rfl rfl rfl rfl (Nat.le_refl _) (hpx)
  · cases hq
theorem wrV_1 {v : Nat → Nat} {p a b : Int32} (h : isF v p a b = false) : wrV v p a b = -1 := if_pos h
theorem wrV_6 {v : Nat → Nat} {p a b : Int32} (h : isF v p a b = true) (hs : (strF v).2.2 = false) : wrV v p a b = -6 := (if_neg (by rw [h]; decide)).trans (if_pos hs)
theorem wrV_5 {v : Nat → Nat} {p a b : Int32} (h : isF v p a b = true) (hs : (strF v).2.2 = true) (hm : (mdl0 v).1 (fctN p a b) < 0) : wrV v p a b = -5 := (if_neg (by rw [h]; decide)).trans ((if_neg (by rw [hs]; decide)).trans (if_pos hm))
theorem wrV_0 {v : Nat → Nat} {p a b : Int32} (h : isF v p a b = true) (hs : (strF v).2.2 = true) (hm : ¬ (mdl0 v).1 (fctN p a b) < 0) : wrV v p a b = 0 := (if_neg (by rw [h]; decide)).trans ((if_neg (by rw [hs]; decide)).trans (if_neg hm))
theorem c_katom (d n : Nat) (p a b : Int32) (v sm : Nat → Nat) (P : PgS) (x : KD) (h : Nat → MC) (H : KW v sm P h x) : Sp M_X9_atomOfModel (d + 5) 0 0 [.ref 0, .int p, .int a, .int b] h n (KQ v sm h (fun x' r => r = some (.int (wA v p a b (nI (fctN p a b)))) ∧ (isF v p a b = true → x'.gF = true ∧ ((strF v).2.2 = true → x'.mF = true)))) := by
  show MW _ _ _ _ _ _ _ _ _ _ _ _
  generalize hpost : KQ v sm h (fun x' r => r = some (.int (wA v p a b (nI (fctN p a b)))) ∧ (isF v p a b = true → x'.gF = true ∧ ((strF v).2.2 = true → x'.mF = true))) = post
  have hp := fun (x' : KD) (h2 : KI v sm x') (h3 : isF v p a b = true → x'.gF = true ∧ ((strF v).2.2 = true → x'.mF = true)) => KQ.mk hpost (r := some (.int (wA v p a b (nI (fctN p a b))))) x' h2 ⟨rfl, h3⟩
  clear hpost
  have hok := H.2.2.2.2.1
  have hP0 : h 1 = _ := H.2.1.cell (i := 0) (by omega)
  refine mw_over (kqL x) H.1 ?_
  refine mw_aload_n (i := 0) rfl rfl rfl ?_
  refine mw_getfield rfl f_X9_12 (by first | rfl | exact rfl | exact hP0) rfl ?_
  refine mw_iload_n (i := 1) rfl rfl rfl ?_
  refine mw_iload_n (i := 2) rfl rfl rfl ?_
  refine mw_iload_n (i := 3) rfl rfl rfl ?_
  refine mw_callV_f (c_hasAtom (d + 3) n p a b P v _ (H.2.1.mv rfl) H.2.2.1 hok) rfl ok_X5_hasAtom v_X9_101 rfl (by first | rfl | exact rfl | exact hP0) (by intro e; cases e) rfl (Nat.le_of_ble_eq_true rfl) rfl (Nat.le_of_ble_eq_true rfl) (by omega) (by omega) (by omega) ?_
  refine mw_b_ne rfl (fun hF => ?_) (fun hF => ?_)
  · refine mw_aload_n (i := 0) rfl rfl rfl ?_
    refine mw_callV (c_hasModel d n v sm P x _ (H.mv H.2.2.2.2.2.2)) rfl ok_X9_hasModel v_X9_145 rfl (by first | rfl | exact rfl | exact hP0) (by intro e; cases e) rfl (Nat.le_of_ble_eq_true rfl) rfl (Nat.le_of_ble_eq_true rfl) (by omega) (by omega) (by omega) ?_
    intro r2 h2 hq2
    obtain ⟨x', rfl, hI', rfl, g1, g2⟩ := hq2
    rw [kq_over]
    refine mw_b_ne rfl (fun hs => ?_) (fun hs => ?_)
    · obtain ⟨-, -, e1, e2, e3, -⟩ := hI'.2.2.1 (g2 hs)
      obtain ⟨hX, hMR⟩ : InvX (mdl0 v) ∧ MR (mdl0 v).1 (mdl0 v).2 := mdlV_st (v := v) (st := (strF v).1) (nI 0) 6
      have hX2 : (mdl0 v).2 ≤ 216 := by unfold InvX at hX; omega
      have hpx := hp x' hI' (fun _ => ⟨g1, g2⟩)
      obtain ⟨i, j, k, hi, hj, hk, rfl, rfl, rfl, hf, hf2⟩ := isF_nat hok hF
      have hneg := hMR.neg (by omega) (fctN (nI i) (nI j) (nI k))
      refine mw_iload_n (i := 1) rfl rfl rfl ?_
      refine mw_iload_n (i := 2) rfl rfl rfl ?_
      refine mw_iload_n (i := 3) rfl rfl rfl ?_
      refine mw_callS_f (c_atomNumber (d + 4) n i j k _) rfl ok_X9_atomNumber v_X9_108 rfl (Nat.le_of_ble_eq_true rfl) rfl (Nat.le_of_ble_eq_true rfl) (by omega) (by omega) (by omega) ?_
      rw [show i * 36 + j * 6 + k = fctN (nI i) (nI j) (nI k) by rw [hf]; omega]
      rw [← hf] at hf2
      refine mw_istore rfl (Nat.le_of_ble_eq_true rfl) ?_
      refine mw_aload_n (i := 0) rfl rfl rfl ?_
      refine mw_getfield rfl f_X9_41 (by first | rfl | exact rfl | exact hP0) rfl ?_
      refine mw_getfield rfl f_X9_165 (by first | rfl | exact rfl | exact hP0) rfl ?_
      refine mw_iload rfl rfl ?_
      refine mw_iald_v rfl (by first | rfl | exact rfl | exact hP0) (by omega) (by omega) (show x'.m.1 (fctN (nI i) (nI j) (nI k)) = (mdl0 v).1 (fctN (nI i) (nI j) (nI k)) by rw [e1]) ?_
      refine mw_iconst (v := (-1)) rfl (by decide) ?_
      refine mw_icmp_ne rfl (fun hc => ?_) (fun hc => ?_)
      · rw [wA_ge (by rw [wrV_0 hF hs (fun q => hc (hneg.mp q))]; decide)] at hpx
        refine mw_iload rfl rfl ?_
        exact mw_ireturn rfl rfl rfl rfl (Nat.le_refl _) (hpx)
      · rw [wA_lt (by rw [wrV_5 hF hs (hneg.mpr hc)]; decide), wrV_5 hF hs (hneg.mpr hc)] at hpx
        refine mw_bipush (v := (-5)) rfl (by decide) ?_
        refine mw_goto rfl ?_
        exact mw_ireturn rfl rfl rfl rfl (Nat.le_refl _) (hpx)
    · have hpx := hp x' hI' (fun _ => ⟨g1, g2⟩)
      rw [wA_lt (by rw [wrV_6 hF hs]; decide), wrV_6 hF hs] at hpx
      refine mw_bipush (v := (-6)) rfl (by decide) ?_
      exact mw_ireturn rfl rfl rfl rfl (Nat.le_refl _) (hpx)
  · have hpx := hp x H.2.2.2.2.2.2 (fun q => by rw [hF] at q; cases q)
    rw [wA_lt (by rw [wrV_1 hF]; decide), wrV_1 hF] at hpx
    refine mw_iconst (v := (-1)) rfl (by decide) ?_
    exact mw_ireturn rfl rfl rfl rfl (Nat.le_refl _) (hpx)
theorem c_kround (d n : Nat) (p a b : Int32) (v sm : Nat → Nat) (P : PgS) (x : KD) (h : Nat → MC) (H : KW v sm P h x) : Sp M_X9_round (d + 6) 0 0 [.ref 0, .int p, .int a, .int b] h n (KQ v sm h (fun x' r => r = some (.int (wA v p a b ((mdl0 v).1 (fctN p a b)))))) := by
  show MW _ _ _ _ _ _ _ _ _ _ _ _
  generalize hpost : KQ v sm h (fun x' r => r = some (.int (wA v p a b ((mdl0 v).1 (fctN p a b))))) = post
  have hp := fun (x' : KD) (h2 : KI v sm x') => KQ.mk hpost (r := some (.int (wA v p a b ((mdl0 v).1 (fctN p a b))))) x' h2 rfl
  clear hpost
  have hok := H.2.2.2.2.1
  refine mw_over (kqL x) H.1 ?_
  refine mw_aload_n (i := 0) rfl rfl rfl ?_
  refine mw_iload_n (i := 1) rfl rfl rfl ?_
  refine mw_iload_n (i := 2) rfl rfl rfl ?_
  refine mw_iload_n (i := 3) rfl rfl rfl ?_
  refine mw_callV (c_katom d n p a b v sm P x _ (H.mv H.2.2.2.2.2.2)) rfl ok_X9_atomOfModel v_X9_162 rfl (by first | rfl | exact rfl) (by intro e; cases e) rfl (Nat.le_of_ble_eq_true rfl) rfl (Nat.le_of_ble_eq_true rfl) (by omega) (by omega) (by omega) ?_
  intro r2 h2 hq2
  obtain ⟨x', rfl, hI', rfl, g1⟩ := hq2
  rw [kq_over]
  have hpx := hp x' hI'
  rcases wrV_cases v p a b with hw | ⟨hw, hF, hs, hm⟩
  · rw [wA_lt hw] at hpx ⊢
    refine mw_istore rfl (Nat.le_of_ble_eq_true rfl) ?_
    refine mw_iload rfl rfl ?_
    refine mw_if_ge rfl (fun hc => ?_) (fun hc => ?_)
    · exact absurd hw (Int32.not_lt.mpr hc)
    · refine mw_iload rfl rfl ?_
      refine mw_goto rfl ?_
      exact mw_ireturn rfl rfl rfl rfl (Nat.le_refl _) (hpx)
  · have hge : 0 ≤ wrV v p a b := by rw [hw]; decide
    rw [wA_ge hge] at hpx ⊢
    obtain ⟨i, j, k, hi, hj, hk, rfl, rfl, rfl, hf, hf2⟩ := isF_nat hok hF
    rw [← hf] at hf2
    obtain ⟨-, -, e1, e2, e3, -⟩ := hI'.2.2.1 ((g1 hF).2 hs)
    refine mw_istore rfl (Nat.le_of_ble_eq_true rfl) ?_
    refine mw_iload rfl rfl ?_
    refine mw_if_ge rfl (fun hc => ?_) (fun hc => ?_)
    · refine mw_aload_n (i := 0) rfl rfl rfl ?_
      refine mw_getfield rfl f_X9_41 (by first | rfl | exact rfl) rfl ?_
      refine mw_getfield rfl f_X9_165 (by first | rfl | exact rfl) rfl ?_
      refine mw_iload rfl rfl ?_
      refine mw_iald_v rfl (by first | rfl | exact rfl) (by omega) (by omega) (show x'.m.1 (fctN (nI i) (nI j) (nI k)) = (mdl0 v).1 (fctN (nI i) (nI j) (nI k)) by rw [e1]) ?_
      exact mw_ireturn rfl rfl rfl rfl (Nat.le_refl _) (hpx)
    · exact absurd (nI_pos' (by omega)) hc
