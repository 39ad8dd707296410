/-! THE CLASS'S CHANGES: base facts, rules taken out -/
theorem PgV_addFact {v : Nat → Nat} {P : PgS} (H : PgV P v) {f c s : Nat} (h12 : v 1 < 12) : PgV (P.c, P.pl, P.fc + 1, updN P.fa P.fc f, updN P.fo P.fc c, updN P.fs P.fc s, P.rc, P.ru) (addFactV v f c s) := by
  obtain ⟨h1, h2, h3, h4, h5, h6⟩ := H
  have hE := EqG_addFact v (f := f) (c := c) (s := s) h12
  have e1 : addFactV v f c s 1 = v 1 + 1 := rfl
  have a0 : addFactV v f c s (9 + 3 * v 1) = f := by
    show (if 9 + 3 * v 1 = 1 then _ else if 9 + 3 * v 1 = 9 + 3 * v 1 then f else _) = f
    rw [if_neg (by omega), if_pos rfl]
  have a1 : addFactV v f c s (9 + 3 * v 1 + 1) = c := by
    show (if 9 + 3 * v 1 + 1 = 1 then _ else if 9 + 3 * v 1 + 1 = 9 + 3 * v 1 then f else if 9 + 3 * v 1 + 1 = 9 + 3 * v 1 + 1 then c else _) = c
    rw [if_neg (by omega), if_neg (by omega), if_pos rfl]
  have a2 : addFactV v f c s (9 + 3 * v 1 + 2) = s := by
    show (if 9 + 3 * v 1 + 2 = 1 then _ else if 9 + 3 * v 1 + 2 = 9 + 3 * v 1 then f else if 9 + 3 * v 1 + 2 = 9 + 3 * v 1 + 1 then c else if 9 + 3 * v 1 + 2 = 9 + 3 * v 1 + 2 then s else _) = s
    rw [if_neg (by omega), if_neg (by omega), if_neg (by omega), if_pos rfl]
  refine ⟨h1.trans hE.1.symm, fun p hp => ?_, by rw [e1]; exact congrArg (· + 1) h3, fun k hk => ?_, h5.trans hE.2.1.symm, fun r hr => ?_⟩
  · rw [addFactV_o (by omega) (by omega) (by omega) (by omega)]
    exact h2 p hp
  · rw [e1] at hk
    show updN P.fa P.fc f k = _ ∧ updN P.fo P.fc c k = _ ∧ updN P.fs P.fc s k = _
    rw [show P.fc = v 1 from h3]
    by_cases e : k = v 1
    · subst e
      rw [updN_same, updN_same, updN_same, a0, a1, a2]
      exact ⟨rfl, rfl, rfl⟩
    · rw [updN_ne _ _ e, updN_ne _ _ e, updN_ne _ _ e, addFactV_o (by omega) (by omega) (by omega) (by omega), addFactV_o (by omega) (by omega) (by omega) (by omega), addFactV_o (by omega) (by omega) (by omega) (by omega)]
      exact h4 k (by omega)
  · rw [hE.2.1] at hr
    obtain ⟨g1, g2, g3⟩ := h6 r hr
    unfold RuV
    rw [hE.2.2 (45 + 18 * r) (by omega), hE.2.2 (45 + 18 * r + 1) (by omega)]
    refine ⟨g1, g2, fun a ha => ?_⟩
    rw [hE.2.2 (45 + 18 * r + 2 + 4 * a) (by omega), hE.2.2 (45 + 18 * r + 2 + 4 * a + 1) (by omega), hE.2.2 (45 + 18 * r + 2 + 4 * a + 2) (by omega), hE.2.2 (45 + 18 * r + 2 + 4 * a + 3) (by omega)]
    exact g3 a ha
theorem c_kaddFact (d n : Nat) (p a b c s : Int32) (v sm : Nat → Nat) (P : PgS) (x : KD) (h : Nat → MC) (H : KW v sm P h x) : Sp M_X9_addFact (d + 2) 0 0 [.ref 0, .int p, .int a, .int b, .int c, .int s] h n (fun r h1 => (isF v p a b = false → r = some (.int (-1)) ∧ h1 = h) ∧ (isF v p a b = true → (inI c 100 && decide (nI 1 ≤ s ∧ s ≤ nI 16)) = false → r = some (.int (-2)) ∧ h1 = h) ∧ (isF v p a b = true → (inI c 100 && decide (nI 1 ≤ s ∧ s ≤ nI 16)) = true → (v 1 = 12 → r = some (.int (-4)) ∧ h1 = h) ∧ (v 1 ≠ 12 → KZ (addFactV v (fctN p a b) c.toNatClampNeg s.toNatClampNeg) sm h (nI (v 1)) r h1))) := by
  show MW _ _ _ _ _ _ _ _ _ _ _ _
  generalize hpost : (fun (r : Option Value) (h1 : Nat → MC) => (isF v p a b = false → r = some (.int (-1)) ∧ h1 = h) ∧ (isF v p a b = true → (inI c 100 && decide (nI 1 ≤ s ∧ s ≤ nI 16)) = false → r = some (.int (-2)) ∧ h1 = h) ∧ (isF v p a b = true → (inI c 100 && decide (nI 1 ≤ s ∧ s ≤ nI 16)) = true → (v 1 = 12 → r = some (.int (-4)) ∧ h1 = h) ∧ (v 1 ≠ 12 → KZ (addFactV v (fctN p a b) c.toNatClampNeg s.toNatClampNeg) sm h (nI (v 1)) r h1))) = post
  have hO : h 0 = FO x.1 := H.1.c0
  have hQ0 : h 1 = .inr (5, [.int (nI P.c), .ref 2, .int (nI P.fc), .ref 3, .ref 4, .ref 5, .int (nI P.rc), .ref 6]) := H.2.1.cell (i := 0) (by omega)
  have hok := H.2.2.2.2.1
  have hf12 := hok.2.2.1
  refine mw_aload_n (i := 0) rfl rfl rfl ?_
  refine mw_getfield rfl f_X9_12 (by first | rfl | exact hO | exact hQ0) rfl ?_
  refine mw_iload_n (i := 1) rfl rfl rfl ?_
  refine mw_iload_n (i := 2) rfl rfl rfl ?_
  refine mw_iload_n (i := 3) rfl rfl rfl ?_
  refine mw_callV_f (c_hasAtom d n p a b P v h H.2.1 H.2.2.1 hok) rfl ok_X5_hasAtom v_X9_101 rfl (by first | rfl | exact hO | exact hQ0) (by intro e; cases e) rfl (Nat.le_of_ble_eq_true rfl) rfl (Nat.le_of_ble_eq_true rfl) (by omega) (by omega) (by omega) ?_
  refine mw_b_ne rfl (fun hF => ?_) (fun hF => ?_)
  · have bad : (inI c 100 && decide (nI 1 ≤ s ∧ s ≤ nI 16)) = false → MW M_X9_addFact (d + 2) 0 0 n post 40 [(0, .ref 0)] [] h n 0 := by
      intro hb
      refine mw_bipush (v := (-2)) rfl (by decide) ?_
      exact mw_ireturn rfl rfl rfl rfl (Nat.le_refl _) ((by rw [← hpost]; exact ⟨fun q => (by rw [hF] at q; cases q), fun _ _ => ⟨rfl, rfl⟩, fun _ q => (by rw [hb] at q; cases q)⟩))
    refine mw_iload rfl rfl ?_
    refine mw_if_lt rfl (fun h1 => ?_) (fun h1 => ?_)
    · exact mw_locals rfl (bad (by rw [show inI c 100 = false from decide_eq_false (fun q => absurd q.1 (Int32.not_le.mpr h1))]; rfl))
    · refine mw_iload rfl rfl ?_
      refine mw_bipush (v := nI 99) rfl (by decide) ?_
      refine mw_icmp_gt rfl (fun h2 => ?_) (fun h2 => ?_)
      · exact mw_locals rfl (bad (by rw [← inI_in (n := 99) (by omega), decide_eq_false (fun q => absurd q.2 (Int32.not_le.mpr h2))]; rfl))
      · have hc : inI c 100 = true := by
          rw [← inI_in (n := 99) (by omega)]
          exact decide_eq_true ⟨Int32.not_lt.mp h1, Int32.not_lt.mp h2⟩
        refine mw_iload rfl rfl ?_
        refine mw_iconst (v := nI 1) rfl (by decide) ?_
        refine mw_icmp_lt rfl (fun h3 => ?_) (fun h3 => ?_)
        · exact mw_locals rfl (bad (by rw [decide_eq_false (fun q => absurd q.1 (Int32.not_le.mpr h3)), Bool.and_false]))
        · refine mw_iload rfl rfl ?_
          refine mw_bipush (v := nI 16) rfl (by decide) ?_
          refine mw_icmp_le rfl (fun h4 => ?_) (fun h4 => ?_)
          · have hs : nI 1 ≤ s ∧ s ≤ nI 16 := ⟨Int32.not_lt.mp h3, h4⟩
            have hgood : (inI c 100 && decide (nI 1 ≤ s ∧ s ≤ nI 16)) = true := by rw [hc, decide_eq_true hs]; rfl
            refine mw_aload_n (i := 0) rfl rfl rfl ?_
            refine mw_getfield rfl f_X9_12 (by first | rfl | exact hO | exact hQ0) rfl ?_
            refine mw_getfield rfl f_X9_105 (by first | rfl | exact hO | exact hQ0) rfl ?_
            refine mw_bipush (v := nI 12) rfl (by decide) ?_
            rw [show P.fc = v 1 from H.2.2.1.2.2.1]
            refine mw_n_lt rfl (by omega) (by omega) (fun h5 => ?_) (fun h5 => ?_)
            · obtain ⟨i, j, k, hi, hj, hk, rfl, rfl, rfl, hf, hf2⟩ := isF_nat hok hF
              obtain ⟨c', hc', rfl⟩ := inI_of hc (by omega)
              have h0s : (0 : Int32) ≤ s := Int32.le_trans (by decide) hs.1
              obtain ⟨s', hs', rfl⟩ := nI_of (Int32.not_lt.mpr h0s)
              have hs1 := (nI_leI (by omega) (by omega)).mp hs.1
              have hs2 := (nI_leI (by omega) (by omega)).mp hs.2
              have hE := EqG_addFact v (f := fctN (nI i) (nI j) (nI k)) (c := c') (s := s') h5
              have hfin := H.change (gf := x.gF) (PgV_addFact (f := fctN (nI i) (nI j) (nI k)) (c := c') (s := s') H.2.2.1 h5) (SafV_g hE rfl H.2.2.2.1) (ok_addFact hok (by omega) (by omega) hs1 hs2 (by omega)) (fun q => GrOk_g hE (H.2.2.2.2.2.2.2.1 q))
              refine mw_aload_n (i := 0) rfl rfl rfl ?_
              refine mw_getfield rfl f_X9_12 (by first | rfl | exact hO | exact hQ0) rfl ?_
              refine mw_iload_n (i := 1) rfl rfl rfl ?_
              refine mw_iload_n (i := 2) rfl rfl rfl ?_
              refine mw_iload_n (i := 3) rfl rfl rfl ?_
              refine mw_callS_f (c_atomNumber (d + 1) n i j k h) rfl ok_X9_atomNumber v_X9_108 rfl (Nat.le_of_ble_eq_true rfl) rfl (Nat.le_of_ble_eq_true rfl) (by omega) (by omega) (by omega) ?_
              rw [show i * 36 + j * 6 + k = fctN (nI i) (nI j) (nI k) by rw [hf]; omega]
              refine mw_iload rfl rfl ?_
              refine mw_iload rfl rfl ?_
              refine mw_heap (h2 := pgH 1 P h) H.2.1 ?_
              have hQ0 : pgH 1 P h 1 = .inr (5, [.int (nI P.c), .ref 2, .int (nI P.fc), .ref 3, .ref 4, .ref 5, .int (nI P.rc), .ref 6]) := pgH_0
              refine mw_callV_f (c_enterFact (d + 1) n 1 (fctN (nI i) (nI j) (nI k)) c' s' P h (by rw [show P.fc = v 1 from H.2.2.1.2.2.1]; exact h5)) rfl ok_X5_enterFact v_X9_112 rfl (by first | rfl | exact hO | exact hQ0) (by intro e; cases e) rfl (Nat.le_of_ble_eq_true rfl) rfl (Nat.le_of_ble_eq_true rfl) (by omega) (by omega) (by omega) ?_
              have hO : pgH 1 (P.c, P.pl, P.fc + 1, updN P.fa P.fc (fctN (nI i) (nI j) (nI k)), updN P.fo P.fc c', updN P.fs P.fc s', P.rc, P.ru) h 0 = FO x.1 := (pgH_o (by omega)).trans H.1.c0
              refine mw_istore rfl (Nat.le_of_ble_eq_true rfl) ?_
              refine mw_aload_n (i := 0) rfl rfl rfl ?_
              refine mw_callV_f (c_factsCh (d + 1) n x.1 _ hO) rfl ok_X9_factsChanged v_X9_115 rfl (by first | rfl | exact hO | exact hQ0) (by intro e; cases e) rfl (Nat.le_of_ble_eq_true rfl) rfl (Nat.le_of_ble_eq_true rfl) (by omega) (by omega) (by omega) ?_
              refine mw_iload rfl rfl ?_
              rw [show P.fc = v 1 from H.2.2.1.2.2.1] at hfin ⊢
              exact mw_ireturn rfl rfl rfl rfl (Nat.le_refl _) ((by rw [← hpost]; exact ⟨fun q => (by rw [hF] at q; cases q), fun _ q => (by rw [hgood] at q; cases q), fun _ _ => ⟨fun q => (by omega), fun _ => ⟨rfl, fun j hj => hj.ch, _, _, by rw [nI_clamp (by omega), nI_clamp (by omega)]; exact hfin⟩⟩⟩))
            · refine mw_bipush (v := (-4)) rfl (by decide) ?_
              exact mw_ireturn rfl rfl rfl rfl (Nat.le_refl _) ((by rw [← hpost]; exact ⟨fun q => (by rw [hF] at q; cases q), fun _ q => (by rw [hgood] at q; cases q), fun _ _ => ⟨fun _ => ⟨rfl, rfl⟩, fun q => absurd (show v 1 = 12 by omega) q⟩⟩))
          · exact mw_locals rfl (bad (by rw [decide_eq_false (fun q => h4 q.2), Bool.and_false]))
  · refine mw_iconst (v := (-1)) rfl (by decide) ?_
    exact mw_ireturn rfl rfl rfl rfl (Nat.le_refl _) ((by rw [← hpost]; exact ⟨fun _ => ⟨rfl, rfl⟩, fun q => (by rw [hF] at q; cases q), fun q => (by rw [hF] at q; cases q)⟩))
theorem PgV_removeFact {v : Nat → Nat} {P : PgS} (H : PgV P v) {f : Nat} (h12 : v 1 ≤ 12) (hf : f < v 1) : PgV (P.c, P.pl, P.fc - 1, shR P.fa f (P.fc - 1), shR P.fo f (P.fc - 1), shR P.fs f (P.fc - 1), P.rc, P.ru) (shV (updN v 1 (v 1 - 1)) 3 (9 + 3 * f) (9 + 3 * (v 1 - 1))) := by
  obtain ⟨h1, h2, h3, h4, h5, h6⟩ := H
  have hE := EqG_removeFact v h12 hf
  have e1 : shV (updN v 1 (v 1 - 1)) 3 (9 + 3 * f) (9 + 3 * (v 1 - 1)) 1 = v 1 - 1 := by rw [shV_out (by omega), updN_same]
  refine ⟨h1.trans hE.1.symm, fun p hp => ?_, by rw [e1]; exact congrArg (· - 1) h3, fun k hk => ?_, h5.trans hE.2.1.symm, fun r hr => ?_⟩
  · rw [shV_out (by omega), updN_ne _ _ (by omega)]
    exact h2 p hp
  · rw [e1] at hk
    show shR P.fa f (P.fc - 1) k = _ ∧ shR P.fo f (P.fc - 1) k = _ ∧ shR P.fs f (P.fc - 1) k = _
    rw [show P.fc = v 1 from h3]
    unfold shR
    by_cases q : f ≤ k ∧ k < v 1 - 1
    · obtain ⟨g1, g2, g3⟩ := h4 (k + 1) (by omega)
      rw [if_pos q, if_pos q, if_pos q, shV_in (by omega) (by omega), shV_in (by omega) (by omega), shV_in (by omega) (by omega), updN_ne _ _ (by omega), updN_ne _ _ (by omega), updN_ne _ _ (by omega), show 9 + 3 * k + 3 = 9 + 3 * (k + 1) by omega, show 9 + 3 * k + 1 + 3 = 9 + 3 * (k + 1) + 1 by omega, show 9 + 3 * k + 2 + 3 = 9 + 3 * (k + 1) + 2 by omega]
      exact ⟨g1, g2, g3⟩
    · rw [if_neg q, if_neg q, if_neg q, shV_out (by omega), shV_out (by omega), shV_out (by omega), updN_ne _ _ (by omega), updN_ne _ _ (by omega), updN_ne _ _ (by omega)]
      exact h4 k (by omega)
  · rw [hE.2.1] at hr
    obtain ⟨g1, g2, g3⟩ := h6 r hr
    unfold RuV
    rw [hE.2.2 (45 + 18 * r) (by omega), hE.2.2 (45 + 18 * r + 1) (by omega)]
    refine ⟨g1, g2, fun a ha => ?_⟩
    rw [hE.2.2 (45 + 18 * r + 2 + 4 * a) (by omega), hE.2.2 (45 + 18 * r + 2 + 4 * a + 1) (by omega), hE.2.2 (45 + 18 * r + 2 + 4 * a + 2) (by omega), hE.2.2 (45 + 18 * r + 2 + 4 * a + 3) (by omega)]
    exact g3 a ha
theorem c_kremoveFact (d n : Nat) (y : Int32) (v sm : Nat → Nat) (P : PgS) (x : KD) (h : Nat → MC) (H : KW v sm P h x) : Sp M_X9_removeFact (d + 2) 0 0 [.ref 0, .int y] h n (fun r h1 => (inI y (v 1) = false → r = some (.int (-1)) ∧ h1 = h) ∧ (∀ f, y = nI f → f < v 1 → KZ (shV (updN v 1 (v 1 - 1)) 3 (9 + 3 * f) (9 + 3 * (v 1 - 1))) sm h (nI (v 1 - 1)) r h1)) := by
  show MW _ _ _ _ _ _ _ _ _ _ _ _
  generalize hpost : (fun (r : Option Value) (h1 : Nat → MC) => (inI y (v 1) = false → r = some (.int (-1)) ∧ h1 = h) ∧ (∀ f, y = nI f → f < v 1 → KZ (shV (updN v 1 (v 1 - 1)) 3 (9 + 3 * f) (9 + 3 * (v 1 - 1))) sm h (nI (v 1 - 1)) r h1)) = post
  have hO : ∀ {X : PgS}, pgH 1 X h 0 = FO x.1 := fun {X} => (pgH_o (by omega)).trans H.1.c0
  have hok := H.2.2.2.2.1
  have hf12 := hok.2.2.1
  have hfc : P.fc = v 1 := H.2.2.1.2.2.1
  have hpg : pgH 1 P h = h := H.2.1
  refine mw_heap (h2 := pgH 1 P h) H.2.1 ?_
  have bad : inI y (v 1) = false → MW M_X9_removeFact (d + 2) 0 0 n post 15 [(0, .ref 0)] [] (pgH 1 P h) n 0 := by
    intro hb
    refine mw_iconst (v := (-1)) rfl (by decide) ?_
    exact mw_ireturn rfl rfl rfl rfl (Nat.le_refl _) ((by rw [← hpost]; exact ⟨fun _ => ⟨rfl, hpg⟩, fun f e hf => absurd (inI_nI hf (by omega)) (by rw [← e, hb]; decide)⟩))
  refine mw_iload_n (i := 1) rfl rfl rfl ?_
  refine mw_if_lt rfl (fun h1 => ?_) (fun h1 => ?_)
  · exact mw_locals rfl (bad (decide_eq_false (fun q => absurd q.1 (Int32.not_le.mpr h1))))
  · refine mw_iload_n (i := 1) rfl rfl rfl ?_
    refine mw_aload_n (i := 0) rfl rfl rfl ?_
    refine mw_getfield rfl f_X9_12 (by first | rfl | exact hO | exact hQ0 | exact pgH_0) rfl ?_
    refine mw_getfield rfl f_X9_105 (by first | rfl | exact hO | exact hQ0 | exact pgH_0) rfl ?_
    rw [hfc]
    refine mw_icmp_lt rfl (fun h2 => ?_) (fun h2 => ?_)
    · have hin : inI y (v 1) = true := decide_eq_true ⟨Int32.not_lt.mp h1, h2⟩
      obtain ⟨f, hf, rfl⟩ := inI_of hin (by omega)
      have hE := EqG_removeFact v hf12 hf
      have hfin := H.change (gf := x.gF) (PgV_removeFact H.2.2.1 hf12 hf) (SafV_g hE rfl H.2.2.2.1) (ok_removeFact hok hf) (fun q => GrOk_g hE (H.2.2.2.2.2.2.2.1 q))
      refine mw_aload_n (i := 0) rfl rfl rfl ?_
      refine mw_getfield rfl f_X9_12 (by first | rfl | exact hO | exact hQ0 | exact pgH_0) rfl ?_
      refine mw_iload_n (i := 1) rfl rfl rfl ?_
      refine mw_callV_f (c_dropFact (d + 1) n 1 f P h (by omega) (by omega)) rfl ok_X5_dropFact v_X9_118 rfl (by first | rfl | exact hO | exact hQ0 | exact pgH_0) (by intro e; cases e) rfl (Nat.le_of_ble_eq_true rfl) rfl (Nat.le_of_ble_eq_true rfl) (by omega) (by omega) (by omega) ?_
      refine mw_aload_n (i := 0) rfl rfl rfl ?_
      refine mw_callV_f (c_factsCh (d + 1) n x.1 _ hO) rfl ok_X9_factsChanged v_X9_115 rfl (by first | rfl | exact hO | exact hQ0 | exact pgH_0) (by intro e; cases e) rfl (Nat.le_of_ble_eq_true rfl) rfl (Nat.le_of_ble_eq_true rfl) (by omega) (by omega) (by omega) ?_
      have hQ0 : hset (pgH 1 (P.c, P.pl, P.fc - 1, shR P.fa f (P.fc - 1), shR P.fo f (P.fc - 1), shR P.fs f (P.fc - 1), P.rc, P.ru) h) 0 (FO (x.1.1, false, false, false, false, -1)) 1 = .inr (5, [.int (nI P.c), .ref 2, .int (nI (P.fc - 1)), .ref 3, .ref 4, .ref 5, .int (nI P.rc), .ref 6]) := (hset_ne _ _ (by omega)).trans pgH_0
      have hO : hset (pgH 1 (P.c, P.pl, P.fc - 1, shR P.fa f (P.fc - 1), shR P.fo f (P.fc - 1), shR P.fs f (P.fc - 1), P.rc, P.ru) h) 0 (FO (x.1.1, false, false, false, false, -1)) 0 = FO (x.1.1, false, false, false, false, -1) := hset_same _ _ _
      refine mw_aload_n (i := 0) rfl rfl rfl ?_
      refine mw_getfield rfl f_X9_12 (by first | rfl | exact hO | exact hQ0 | exact pgH_0) rfl ?_
      refine mw_getfield rfl f_X9_105 (by first | rfl | exact hO | exact hQ0 | exact pgH_0) rfl ?_
      exact mw_ireturn rfl rfl rfl rfl (Nat.le_refl _) ((by rw [← hpost]; exact ⟨fun q => (by rw [hin] at q; cases q), fun f' e hf' => (by obtain rfl := (nI_eq (by omega) (by omega)).mp e; exact ⟨by rw [hfc], fun j hj => hj.ch, _, _, hfin⟩)⟩))
    · exact mw_locals rfl (bad (decide_eq_false (fun q => h2 q.2)))
theorem c_kfacts (d n : Nat) (v sm : Nat → Nat) (P : PgS) (x : KD) (h : Nat → MC) (H : KW v sm P h x) : Fn M_X9_facts d 0 0 [.ref 0] h n (some (.int (nI (v 1)))) h := by
  refine Fn.of fun post hp => ?_
  have hO : h 0 = FO x.1 := H.1.c0
  have hQ0 : h 1 = .inr (5, [.int (nI P.c), .ref 2, .int (nI P.fc), .ref 3, .ref 4, .ref 5, .int (nI P.rc), .ref 6]) := H.2.1.cell (i := 0) (by omega)
  refine mw_aload_n (i := 0) rfl rfl rfl ?_
  refine mw_getfield rfl f_X9_12 (by first | rfl | exact hO | exact hQ0) rfl ?_
  refine mw_getfield rfl f_X9_105 (by first | rfl | exact hO | exact hQ0) rfl ?_
  rw [show P.fc = v 1 from H.2.2.1.2.2.1]
  exact mw_ireturn rfl rfl rfl rfl (Nat.le_refl _) (hp)
theorem c_krules (d n : Nat) (v sm : Nat → Nat) (P : PgS) (x : KD) (h : Nat → MC) (H : KW v sm P h x) : Fn M_X9_rules d 0 0 [.ref 0] h n (some (.int (nI (v 2)))) h := by
  refine Fn.of fun post hp => ?_
  have hO : h 0 = FO x.1 := H.1.c0
  have hQ0 : h 1 = .inr (5, [.int (nI P.c), .ref 2, .int (nI P.fc), .ref 3, .ref 4, .ref 5, .int (nI P.rc), .ref 6]) := H.2.1.cell (i := 0) (by omega)
  refine mw_aload_n (i := 0) rfl rfl rfl ?_
  refine mw_getfield rfl f_X9_12 (by first | rfl | exact hO | exact hQ0) rfl ?_
  refine mw_getfield rfl f_X9_121 (by first | rfl | exact hO | exact hQ0) rfl ?_
  rw [show P.rc = v 2 from H.2.2.1.2.2.2.2.1]
  exact mw_ireturn rfl rfl rfl rfl (Nat.le_refl _) (hp)
