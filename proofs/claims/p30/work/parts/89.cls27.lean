/-! THE CLASS'S TEXT, RULES AND SLOTS -/
/-- the text's cells: tl letters t, the reader's state s -/
def TxA (h : Nat → MC) (tl : Nat) (t : Nat → Nat) (s : KS) : Prop := mov (txC tl s) h = h ∧ h 50 = .inl (.int, 60, .inl (vI t))
theorem TxA.c49 {h : Nat → MC} {tl : Nat} {t : Nat → Nat} {s : KS} (H : TxA h tl t s) : h 49 = .inr (7, [.ref 50, .int (nI tl), .ref 51, .int (nI s.1)]) := (congrFun H.1 49).symm
theorem tx_o (tl : Nat) (s : KS) (h : Nat → MC) {j : Nat} (hj : j < 49 ∨ j = 50 ∨ 56 ≤ j) : mov (txC tl s) h j = h j := by
  have e : mlk (txC tl s) j = none := mlk_none.mpr (by
    show ¬ j ∈ [49, 51, 52, 53, 54, 55]
    simp only [List.mem_cons, List.not_mem_nil, or_false]
    omega)
  simp only [mov, e]
theorem KW.keep {v sm : Nat → Nat} {P : PgS} {h h1 : Nat → MC} {x : KD} (H : KW v sm P h x) (e : ∀ j, (j < 47 ∨ (56 ≤ j ∧ j ≤ 85)) → h1 j = h j) : KW v sm P h1 x := by
  obtain ⟨a1, a2, a3, a4, a5, a6, a7⟩ := H
  refine ⟨a1.flags x.1 ((e 0 (by omega)).trans a1.c0) (fun j q1 q2 => e j (by omega)), a2.keep (fun j q1 q2 => e j (by omega)), a3, a4, a5, ⟨?_, ?_, ?_, ?_⟩, a7⟩
  · rw [e 72 (by omega)]; exact a6.1
  · rw [e 79 (by omega)]; exact a6.2.1
  · rw [e 81 (by omega)]; exact a6.2.2.1
  · rw [e 82 (by omega)]; exact a6.2.2.2
theorem c_kremoveRule (d n : Nat) (y : Int32) (v sm : Nat → Nat) (P : PgS) (x : KD) (h : Nat → MC) (H : KW v sm P h x) : Sp M_X9_removeRule (d + 2) 0 0 [.ref 0, .int y] h n (fun r h1 => (inI y (v 2) = false → r = some (.int (-1)) ∧ h1 = h) ∧ (∀ f, y = nI f → f < v 2 → KZ (shV (updN v 2 (v 2 - 1)) 18 (45 + 18 * f) (45 + 18 * (v 2 - 1))) sm h (nI (v 2 - 1)) r h1)) := by
  show MW _ _ _ _ _ _ _ _ _ _ _ _
  generalize hpost : (fun (r : Option Value) (h1 : Nat → MC) => (inI y (v 2) = false → r = some (.int (-1)) ∧ h1 = h) ∧ (∀ f, y = nI f → f < v 2 → KZ (shV (updN v 2 (v 2 - 1)) 18 (45 + 18 * f) (45 + 18 * (v 2 - 1))) sm h (nI (v 2 - 1)) r h1)) = post
  have hO : ∀ {X : PgS}, pgH 1 X h 0 = FO x.1 := fun {X} => (pgH_o (by omega)).trans H.1.c0
  have hok := H.2.2.2.2.1
  have hr8 := hok.2.2.2.1
  have hrc : P.rc = v 2 := H.2.2.1.2.2.2.2.1
  have hpg : pgH 1 P h = h := H.2.1
  refine mw_heap (h2 := pgH 1 P h) H.2.1 ?_
  have bad : inI y (v 2) = false → MW M_X9_removeRule (d + 2) 0 0 n post 15 [(0, .ref 0)] [] (pgH 1 P h) n 0 := by
    intro hb
    refine mw_iconst (v := (-1)) rfl (by decide) ?_
    exact mw_ireturn rfl rfl rfl rfl (Nat.le_refl _) ((by rw [← hpost]; exact ⟨fun _ => ⟨rfl, hpg⟩, fun f e hf => absurd (inI_nI hf (by omega)) (by rw [← e, hb]; decide)⟩))
  refine mw_iload_n (i := 1) rfl rfl rfl ?_
  refine mw_if_lt rfl (fun h1 => ?_) (fun h1 => ?_)
  · exact mw_locals rfl (bad (decide_eq_false (fun q => absurd q.1 (Int32.not_le.mpr h1))))
  · refine mw_iload_n (i := 1) rfl rfl rfl ?_
    refine mw_aload_n (i := 0) rfl rfl rfl ?_
    refine mw_getfield rfl f_X9_12 (by first | rfl | exact hO | exact hQ0 | exact pgH_0) rfl ?_
    refine mw_getfield rfl f_X9_121 (by first | rfl | exact hO | exact hQ0 | exact pgH_0) rfl ?_
    rw [hrc]
    refine mw_icmp_lt rfl (fun h2 => ?_) (fun h2 => ?_)
    · have hin : inI y (v 2) = true := decide_eq_true ⟨Int32.not_lt.mp h1, h2⟩
      obtain ⟨f, hf, rfl⟩ := inI_of hin (by omega)
      have hPV := PgV_removeRule hok H.2.2.1 H.2.2.2.1 hf
      have hfin := H.change (gf := false) hPV.1 hPV.2 (ok_removeRule hok hf) (fun q => by cases q)
      refine mw_aload_n (i := 0) rfl rfl rfl ?_
      refine mw_getfield rfl f_X9_12 (by first | rfl | exact hO | exact hQ0 | exact pgH_0) rfl ?_
      refine mw_iload_n (i := 1) rfl rfl rfl ?_
      refine mw_callV_f (c_dropRule d n 1 f P h (by omega) (by omega)) rfl ok_X5_dropRule v_X9_124 rfl (by first | rfl | exact hO | exact hQ0 | exact pgH_0) (by intro e; cases e) rfl (Nat.le_of_ble_eq_true rfl) rfl (Nat.le_of_ble_eq_true rfl) (by omega) (by omega) (by omega) ?_
      refine mw_aload_n (i := 0) rfl rfl rfl ?_
      refine mw_callV_f (c_rulesCh d n x.1 _ hO) rfl ok_X9_rulesChanged v_X9_87 rfl (by first | rfl | exact hO | exact hQ0 | exact pgH_0) (by intro e; cases e) rfl (Nat.le_of_ble_eq_true rfl) rfl (Nat.le_of_ble_eq_true rfl) (by omega) (by omega) (by omega) ?_
      have hQ0 : hset (pgH 1 (P.c, P.pl, P.fc, P.fa, P.fo, P.fs, P.rc - 1, shR P.ru f (P.rc - 1)) h) 0 (FO (false, false, false, false, false, -1)) 1 = .inr (5, [.int (nI P.c), .ref 2, .int (nI P.fc), .ref 3, .ref 4, .ref 5, .int (nI (P.rc - 1)), .ref 6]) := (hset_ne _ _ (by omega)).trans pgH_0
      have hO : hset (pgH 1 (P.c, P.pl, P.fc, P.fa, P.fo, P.fs, P.rc - 1, shR P.ru f (P.rc - 1)) h) 0 (FO (false, false, false, false, false, -1)) 0 = FO (false, false, false, false, false, -1) := hset_same _ _ _
      refine mw_aload_n (i := 0) rfl rfl rfl ?_
      refine mw_getfield rfl f_X9_12 (by first | rfl | exact hO | exact hQ0 | exact pgH_0) rfl ?_
      refine mw_getfield rfl f_X9_121 (by first | rfl | exact hO | exact hQ0 | exact pgH_0) rfl ?_
      exact mw_ireturn rfl rfl rfl rfl (Nat.le_refl _) ((by rw [← hpost]; exact ⟨fun q => (by rw [hin] at q; cases q), fun f' e hf' => (by obtain rfl := (nI_eq (by omega) (by omega)).mp e; exact ⟨by rw [hrc], fun j hj => hj.ch, _, _, hfin⟩)⟩))
    · exact mw_locals rfl (bad (decide_eq_false (fun q => h2 q.2)))
theorem c_kappend_e (d n : Nat) (y : Int32) (h : Nat → MC) (hx : inI y 128 = false) : Fn M_X9_append d 0 0 [.ref 0, .int y] h n (some (.int (-2))) h := by
  refine Fn.of fun post hp => ?_
  refine mw_iload_n (i := 1) rfl rfl rfl ?_
  refine mw_if_lt rfl (fun h1 => ?_) (fun h1 => ?_)
  · refine mw_bipush (v := (-2)) rfl (by decide) ?_
    exact mw_ireturn rfl rfl rfl rfl (Nat.le_refl _) (hp)
  · refine mw_iload_n (i := 1) rfl rfl rfl ?_
    refine mw_bipush (v := nI 127) rfl (by decide) ?_
    refine mw_icmp_le rfl (fun h2 => ?_) (fun h2 => ?_)
    · have : inI y 128 = true := by
        rw [← inI_in (n := 127) (by omega)]
        exact decide_eq_true ⟨Int32.not_lt.mp h1, h2⟩
      rw [hx] at this
      cases this
    · refine mw_bipush (v := (-2)) rfl (by decide) ?_
      exact mw_ireturn rfl rfl rfl rfl (Nat.le_refl _) (hp)
theorem c_kappend_f (d n y tl : Nat) (s : KS) (f : KFl) (h : Nat → MC) (hO : h 0 = FO f) (hT : h 49 = .inr (7, [.ref 50, .int (nI tl), .ref 51, .int (nI s.1)])) (hx : y < 128) (hl : tl = 60) : Fn M_X9_append d 0 0 [.ref 0, .int (nI y)] h n (some (.int (-4))) h := by
  refine Fn.of fun post hp => ?_
  refine mw_iload_n (i := 1) rfl rfl rfl ?_
  refine mw_if_lt rfl (fun h1 => ?_) (fun h1 => ?_)
  · exact absurd ((nI_leI (a := 0) (by omega) (by omega)).mpr (Nat.zero_le y)) (Int32.not_le.mpr h1)
  · refine mw_iload_n (i := 1) rfl rfl rfl ?_
    refine mw_bipush (v := nI 127) rfl (by decide) ?_
    refine mw_icmp_le rfl (fun h2 => ?_) (fun h2 => ?_)
    · refine mw_aload_n (i := 0) rfl rfl rfl ?_
      refine mw_getfield rfl f_X9_27 (by first | rfl | exact hO | exact hT) rfl ?_
      refine mw_getfield rfl f_X9_127 (by first | rfl | exact hO | exact hT) rfl ?_
      refine mw_bipush (v := nI 60) rfl (by decide) ?_
      refine mw_n_lt rfl (by omega) (by omega) (fun h3 => ?_) (fun h3 => ?_)
      · omega
      · refine mw_bipush (v := (-4)) rfl (by decide) ?_
        exact mw_ireturn rfl rfl rfl rfl (Nat.le_refl _) (hp)
    · exact absurd ((nI_leI (b := 127) (by omega) (by omega)).mpr (show y ≤ 127 by omega)) h2
theorem c_kappend (d n y tl : Nat) (t : Nat → Nat) (s : KS) (f : KFl) (h : Nat → MC) (hO : h 0 = FO f) (hT : h 49 = .inr (7, [.ref 50, .int (nI tl), .ref 51, .int (nI s.1)])) (ht : h 50 = .inl (.int, 60, .inl (vI t))) (hx : y < 128) (hl : tl < 60) : Fn M_X9_append (d + 1) 0 0 [.ref 0, .int (nI y)] h n (some (.int (nI (tl + 1)))) (mov [(50, .inl (.int, 60, .inl (vI (updN t tl y)))), (49, .inr (7, [.ref 50, .int (nI (tl + 1)), .ref 51, .int (nI s.1)]))] h) := by
  refine Fn.of fun post hp => ?_
  refine mw_iload_n (i := 1) rfl rfl rfl ?_
  refine mw_if_lt rfl (fun h1 => ?_) (fun h1 => ?_)
  · exact absurd ((nI_leI (a := 0) (by omega) (by omega)).mpr (Nat.zero_le y)) (Int32.not_le.mpr h1)
  · refine mw_iload_n (i := 1) rfl rfl rfl ?_
    refine mw_bipush (v := nI 127) rfl (by decide) ?_
    refine mw_icmp_le rfl (fun h2 => ?_) (fun h2 => ?_)
    · refine mw_aload_n (i := 0) rfl rfl rfl ?_
      refine mw_getfield rfl f_X9_27 (by first | rfl | exact hO | exact hT) rfl ?_
      refine mw_getfield rfl f_X9_127 (by first | rfl | exact hO | exact hT) rfl ?_
      refine mw_bipush (v := nI 60) rfl (by decide) ?_
      refine mw_n_lt rfl (by omega) (by omega) (fun h3 => ?_) (fun h3 => ?_)
      · refine mw_aload_n (i := 0) rfl rfl rfl ?_
        refine mw_getfield rfl f_X9_27 (by first | rfl | exact hO | exact hT) rfl ?_
        refine mw_iload_n (i := 1) rfl rfl rfl ?_
        refine mw_callV_f (c_put d n tl s.1 y t h hT ht hl) rfl ok_X7_put v_X9_130 rfl (by first | rfl | exact hO | exact hT) (by intro e; cases e) rfl (Nat.le_of_ble_eq_true rfl) rfl (Nat.le_of_ble_eq_true rfl) (by omega) (by omega) (by omega) ?_
        refine mw_aload_n (i := 0) rfl rfl rfl ?_
        refine mw_getfield rfl f_X9_27 (by first | rfl | exact hO | exact hT) rfl ?_
        refine mw_getfield rfl f_X9_127 (by first | rfl | exact hO | exact hT) rfl ?_
        exact mw_ireturn rfl rfl rfl rfl (Nat.le_refl _) (hp)
      · omega
    · exact absurd ((nI_leI (b := 127) (by omega) (by omega)).mpr (show y ≤ 127 by omega)) h2
theorem c_kclearText (d n tl : Nat) (t : Nat → Nat) (s : KS) (f : KFl) (h : Nat → MC) (hO : h 0 = FO f) (hT : TxA h tl t s) : Fn M_X9_clearText d 0 0 [.ref 0] h n (some (.int (nI tl))) (mov (txC 0 s) h) := by
  refine Fn.of fun post hp => ?_
  refine mw_heap (h2 := mov (txC tl s) h) hT.1 ?_
  refine mw_aload_n (i := 0) rfl rfl rfl ?_
  refine mw_getfield rfl f_X9_27 (by first | rfl | exact rfl | exact hO) rfl ?_
  refine mw_getfield rfl f_X9_127 (by first | rfl | exact rfl | exact hO) rfl ?_
  refine mw_istore_n (i := 1) rfl rfl (Nat.le_of_ble_eq_true rfl) ?_
  refine mw_aload_n (i := 0) rfl rfl rfl ?_
  refine mw_getfield rfl f_X9_27 (by first | rfl | exact rfl | exact hO) rfl ?_
  refine mw_iconst (v := nI 0) rfl (by decide) ?_
  refine mw_putfield_m rfl f_X9_127 (by first | rfl | exact rfl | exact hO) (Nat.le_of_ble_eq_true rfl) (fun _ => rfl) (fun _ => rfl) ?_
  refine mw_iload_n (i := 1) rfl rfl rfl ?_
  exact mw_ireturn rfl rfl rfl rfl (Nat.le_refl _) (hp)
theorem c_kfault (d n tl : Nat) (v t : Nat → Nat) (P : PgS) (s : KS) (f : KFl) (h : Nat → MC) (hO : h 0 = FO f) (hT : TxA h tl t s) (ht7 : ∀ i, i < tl → t i < 128) (hl : tl ≤ 60) (hP : PgAt h 1 P) (hV : PgV P v) (hok : OkN v) : Fn M_X9_faultPosition (d + 5) 0 0 [.ref 0] h n (some (.int (ffV v t tl s.2))) (mov (txC tl (kdRule v t tl s.2).2) h) := by
  refine Fn.of fun post hp => ?_
  refine mw_heap (h2 := mov (txC tl s) h) hT.1 ?_
  refine mw_aload_n (i := 0) rfl rfl rfl ?_
  refine mw_getfield rfl f_X9_27 (by first | rfl | exact rfl | exact hO) rfl ?_
  refine mw_aload_n (i := 0) rfl rfl rfl ?_
  refine mw_getfield rfl f_X9_12 (by first | rfl | exact rfl | exact hO) rfl ?_
  refine mw_callV_f (c_findFault d n tl v t P s h hT.2 ht7 hl hP hV hok) rfl ok_X7_findFault v_X9_133 rfl (by first | rfl | exact rfl | exact hO) (by intro e; cases e) rfl (Nat.le_of_ble_eq_true rfl) rfl (Nat.le_of_ble_eq_true rfl) (by omega) (by omega) (by omega) ?_
  exact mw_ireturn rfl rfl rfl rfl (Nat.le_refl _) (hp)
theorem c_kaddRule (d n tl : Nat) (pI : Int32) (v sm t : Nat → Nat) (P : PgS) (x : KD) (s : KS) (h : Nat → MC) (H : KW v sm P h x) (hT : TxA h tl t s) (ht7 : ∀ i, i < tl → t i < 128) (hl : tl ≤ 60) : Sp M_X9_addRule (d + 5) 0 0 [.ref 0, .int pI] h n (fun r h1 => (¬ (nI 1 ≤ pI ∧ pI ≤ nI 9) → r = some (.int (-2)) ∧ h1 = h) ∧ (∀ p, pI = nI p → 1 ≤ p ∧ p ≤ 9 → (ffV v t tl s.2 ≠ -5 → r = some (.int (-3)) ∧ h1 = mov (txC tl (kdRule v t tl s.2).2) h) ∧ (ffV v t tl s.2 = -5 → (v 2 = 8 → r = some (.int (-4)) ∧ h1 = mov (txC tl (kdRule v t tl s.2).2) h) ∧ (v 2 ≠ 8 → ∀ td, KZ (addRuleV v p (rdText v t tl td).2.1 (rdText v t tl td).2.2.2) sm (mov (txC tl (kdRule v t tl s.2).2) h) (nI (v 2)) r h1)))) := by
  show MW _ _ _ _ _ _ _ _ _ _ _ _
  generalize hpost : (fun (r : Option Value) (h1 : Nat → MC) => (¬ (nI 1 ≤ pI ∧ pI ≤ nI 9) → r = some (.int (-2)) ∧ h1 = h) ∧ (∀ p, pI = nI p → 1 ≤ p ∧ p ≤ 9 → (ffV v t tl s.2 ≠ -5 → r = some (.int (-3)) ∧ h1 = mov (txC tl (kdRule v t tl s.2).2) h) ∧ (ffV v t tl s.2 = -5 → (v 2 = 8 → r = some (.int (-4)) ∧ h1 = mov (txC tl (kdRule v t tl s.2).2) h) ∧ (v 2 ≠ 8 → ∀ td, KZ (addRuleV v p (rdText v t tl td).2.1 (rdText v t tl td).2.2.2) sm (mov (txC tl (kdRule v t tl s.2).2) h) (nI (v 2)) r h1)))) = post
  have hok := H.2.2.2.2.1
  have hr8 := hok.2.2.2.1
  have hrc : P.rc = v 2 := H.2.2.1.2.2.2.2.1
  have hO : h 0 = FO x.1 := H.1.c0
  have bad : ¬ (nI 1 ≤ pI ∧ pI ≤ nI 9) → MW M_X9_addRule (d + 5) 0 0 n post 11 [(0, .ref 0), (1, .int pI)] [] h n 0 := by
    intro hb
    refine mw_bipush (v := (-2)) rfl (by decide) ?_
    exact mw_ireturn rfl rfl rfl rfl (Nat.le_refl _) ((by rw [← hpost]; exact ⟨fun _ => ⟨rfl, rfl⟩, fun p e hp => absurd ⟨(by rw [e]; exact (nI_leI (by omega) (by omega)).mpr hp.1), (by rw [e]; exact (nI_leI (by omega) (by omega)).mpr hp.2)⟩ hb⟩))
  refine mw_iload_n (i := 1) rfl rfl rfl ?_
  refine mw_iconst (v := nI 1) rfl (by decide) ?_
  refine mw_icmp_lt rfl (fun h1 => ?_) (fun h1 => ?_)
  · exact bad (fun q => absurd q.1 (Int32.not_le.mpr h1))
  · refine mw_iload_n (i := 1) rfl rfl rfl ?_
    refine mw_bipush (v := nI 9) rfl (by decide) ?_
    refine mw_icmp_le rfl (fun h2 => ?_) (fun h2 => ?_)
    · have hpp : nI 1 ≤ pI ∧ pI ≤ nI 9 := ⟨Int32.not_lt.mp h1, h2⟩
      have h0p : (0 : Int32) ≤ pI := Int32.le_trans (by decide) hpp.1
      obtain ⟨p, hp, rfl⟩ := nI_of (Int32.not_lt.mpr h0p)
      have hp1 := (nI_leI (by omega) (by omega)).mp hpp.1
      have hp9 := (nI_leI (by omega) (by omega)).mp hpp.2
      have uniq : ∀ q, nI p = nI q → 1 ≤ q ∧ q ≤ 9 → q = p := fun q e hq => ((nI_eq (by omega) (by omega)).mp e).symm
      refine mw_heap (h2 := mov (txC tl s) h) hT.1 ?_
      refine mw_aload_n (i := 0) rfl rfl rfl ?_
      refine mw_getfield rfl f_X9_27 (by first | rfl | exact hO | exact hQ0 | exact hT0) rfl ?_
      refine mw_aload_n (i := 0) rfl rfl rfl ?_
      refine mw_getfield rfl f_X9_12 (by first | rfl | exact hO | exact hQ0 | exact hT0) rfl ?_
      refine mw_callV_f (c_findFault d n tl v t P s h hT.2 ht7 hl H.2.1 H.2.2.1 hok) rfl ok_X7_findFault v_X9_133 rfl (by first | rfl | exact hO | exact hQ0 | exact hT0) (by intro e; cases e) rfl (Nat.le_of_ble_eq_true rfl) rfl (Nat.le_of_ble_eq_true rfl) (by omega) (by omega) (by omega) ?_
      have H2 : KW v sm P (mov (txC tl (kdRule v t tl s.2).2) h) x := H.keep (fun j hj => tx_o _ _ _ (by omega))
      have hadd : ffV v t tl s.2 = -5 → v 2 < 8 → ∀ td, KW (addRuleV v p (rdText v t tl td).2.1 (rdText v t tl td).2.2.2) sm _ _ _ := fun hff h8 td => by
        obtain ⟨a1, a2, a3⟩ := add_ok (R := s.2) (p := p) (td := td) hok H.2.2.1 H.2.2.2.1 h8 hp1 hp9 ht7 hl ((text_eq hok.2.1 ht7 hl td s.2).2.1.mpr hff)
        exact H2.change (gf := false) a2 a3 a1 (fun q => by cases q)
      have hO2 : mov (txC tl (kdRule v t tl s.2).2) h 0 = FO x.1 := hO
      have hT2 : mov (txC tl (kdRule v t tl s.2).2) h 49 = .inr (7, [.ref 50, .int (nI tl), .ref 51, .int (nI (kdRule v t tl s.2).2.1)]) := rfl
      have hR2 : RuAt (mov (txC tl (kdRule v t tl s.2).2) h) 51 (kdRule v t tl s.2).2.2 := ⟨rfl, rfl, rfl, rfl, rfl⟩
      generalize hx2 : mov (txC tl (kdRule v t tl s.2).2) h = h2 at H2 hO2 hT2 hR2 hadd hpost ⊢
      have hO : h2 0 = FO x.1 := hO2
      have hT0 : h2 49 = .inr (7, [.ref 50, .int (nI tl), .ref 51, .int (nI (kdRule v t tl s.2).2.1)]) := hT2
      have hQ0 : h2 1 = .inr (5, [.int (nI P.c), .ref 2, .int (nI P.fc), .ref 3, .ref 4, .ref 5, .int (nI P.rc), .ref 6]) := H2.2.1.cell (i := 0) (by omega)
      refine mw_bipush (v := (-5)) rfl (by decide) ?_
      refine mw_icmp_eq rfl (fun h3 => ?_) (fun h3 => ?_)
      · refine mw_aload_n (i := 0) rfl rfl rfl ?_
        refine mw_getfield rfl f_X9_12 (by first | rfl | exact hO | exact hQ0 | exact hT0) rfl ?_
        refine mw_getfield rfl f_X9_121 (by first | rfl | exact hO | exact hQ0 | exact hT0) rfl ?_
        refine mw_bipush (v := nI 8) rfl (by decide) ?_
        rw [hrc]
        refine mw_n_lt rfl (by omega) (by omega) (fun h4 => ?_) (fun h4 => ?_)
        · have hf := hadd h3 h4
          refine mw_heap (h2 := pgH 1 P h2) H2.2.1 ?_
          have hO : ∀ {X : PgS}, pgH 1 X h2 0 = FO x.1 := fun {X} => (pgH_o (by omega)).trans hO2
          have hT0 : ∀ {X : PgS}, pgH 1 X h2 49 = .inr (7, [.ref 50, .int (nI tl), .ref 51, .int (nI (kdRule v t tl s.2).2.1)]) := fun {X} => (pgH_o (by omega)).trans hT2
          refine mw_aload_n (i := 0) rfl rfl rfl ?_
          refine mw_getfield rfl f_X9_12 (by first | rfl | exact hO | exact hQ0 | exact hT0) rfl ?_
          refine mw_aload_n (i := 0) rfl rfl rfl ?_
          refine mw_getfield rfl f_X9_27 (by first | rfl | exact hO | exact hQ0 | exact hT0) rfl ?_
          refine mw_getfield rfl f_X9_137 (by first | rfl | exact hO | exact hQ0 | exact hT0) rfl ?_
          refine mw_iload_n (i := 1) rfl rfl rfl ?_
          refine mw_callV_f (c_enterRule (d + 3) n 1 51 p P (kdRule v t tl s.2).2.2 h2 hR2 (Or.inr (by omega)) (by omega)) rfl ok_X5_enterRule v_X9_141 rfl (by first | rfl | exact hO | exact hQ0 | exact hT0) (by intro e; cases e) rfl (Nat.le_of_ble_eq_true rfl) rfl (Nat.le_of_ble_eq_true rfl) (by omega) (by omega) (by omega) ?_
          refine mw_istore_n (i := 2) rfl rfl (Nat.le_of_ble_eq_true rfl) ?_
          refine mw_aload_n (i := 0) rfl rfl rfl ?_
          refine mw_callV_f (c_rulesCh (d + 3) n x.1 _ hO) rfl ok_X9_rulesChanged v_X9_87 rfl (by first | rfl | exact hO | exact hQ0 | exact hT0) (by intro e; cases e) rfl (Nat.le_of_ble_eq_true rfl) rfl (Nat.le_of_ble_eq_true rfl) (by omega) (by omega) (by omega) ?_
          rw [hrc] at hf ⊢
          refine mw_iload_n (i := 2) rfl rfl rfl ?_
          exact mw_ireturn rfl rfl rfl rfl (Nat.le_refl _) ((by rw [← hpost]; exact ⟨fun q => absurd hpp q, fun q e hq => (by obtain rfl := uniq q e hq; exact ⟨fun w => absurd h3 w, fun _ => ⟨fun w => absurd w (by omega), fun _ td => ⟨rfl, fun j hj => hj.ch, _, _, hf td⟩⟩⟩)⟩))
        · refine mw_bipush (v := (-4)) rfl (by decide) ?_
          exact mw_ireturn rfl rfl rfl rfl (Nat.le_refl _) ((by rw [← hpost]; exact ⟨fun q => absurd hpp q, fun q e hq => ⟨fun w => absurd h3 w, fun _ => ⟨fun _ => ⟨rfl, rfl⟩, fun w => absurd (show v 2 = 8 by omega) w⟩⟩⟩))
      · refine mw_bipush (v := (-3)) rfl (by decide) ?_
        exact mw_ireturn rfl rfl rfl rfl (Nat.le_refl _) ((by rw [← hpost]; exact ⟨fun q => absurd hpp q, fun q e hq => ⟨fun _ => ⟨rfl, rfl⟩, fun w => absurd w h3⟩⟩))
    · exact bad (fun q => h2 q.2)
def slF : Nat → Option Nat := fun j => if j < 2 then some (86 + 46 * j) else none
abbrev SlO : MC := .inl (.object RX5, 2, .inr (.inr (.inr (.inr slF))))
theorem c_ksave_e (d n : Nat) (y : Int32) (h : Nat → MC) (hx : inI y 2 = false) : Fn M_X9_save d 0 0 [.ref 0, .int y] h n (some (.int (-1))) h := by
  refine Fn.of fun post hp => ?_
  refine mw_iload_n (i := 1) rfl rfl rfl ?_
  refine mw_if_lt rfl (fun h1 => ?_) (fun h1 => ?_)
  · refine mw_iconst (v := (-1)) rfl (by decide) ?_
    exact mw_ireturn rfl rfl rfl rfl (Nat.le_refl _) (hp)
  · refine mw_iload_n (i := 1) rfl rfl rfl ?_
    refine mw_iconst (v := nI 2) rfl (by decide) ?_
    refine mw_icmp_lt rfl (fun h2 => ?_) (fun h2 => ?_)
    · have : inI y 2 = true := decide_eq_true ⟨Int32.not_lt.mp h1, h2⟩
      rw [hx] at this
      cases this
    · refine mw_iconst (v := (-1)) rfl (by decide) ?_
      exact mw_ireturn rfl rfl rfl rfl (Nat.le_refl _) (hp)
theorem c_ksave (d n s : Nat) (P P' : PgS) (f : KFl) (ik : Nat → Bool) (h : Nat → MC) (hO : h 0 = FO f) (hQ : PgAt h 1 P) (hsl : h 47 = SlO) (hsf : h 48 = .inl (.boolean, 2, .inl (bIf ik))) (hP' : PgAt h (86 + 46 * s) P') (hs : s < 2) : Fn M_X9_save (d + 3) 0 0 [.ref 0, .int (nI s)] h n (some (.int (nI P.rc))) (hset (pgH (86 + 46 * s) P h) 48 (.inl (.boolean, 2, .inl (bIf (updN ik s true))))) := by
  refine Fn.of fun post hp => ?_
  have hO2 : ∀ {X : PgS}, pgH (86 + 46 * s) X h 0 = FO f := fun {X} => (pgH_o (by omega)).trans hO
  have hsl2 : ∀ {X : PgS}, pgH (86 + 46 * s) X h 47 = SlO := fun {X} => (pgH_o (by omega)).trans hsl
  have hsf2 : ∀ {X : PgS}, pgH (86 + 46 * s) X h 48 = .inl (.boolean, 2, .inl (bIf ik)) := fun {X} => (pgH_o (by omega)).trans hsf
  have hO3 : ∀ {c : MC}, hset (pgH (86 + 46 * s) P h) 48 c 0 = FO f := fun {c} => (hset_ne _ _ (by omega)).trans hO2
  have hQ3 : ∀ {c : MC}, hset (pgH (86 + 46 * s) P h) 48 c 1 = .inr (5, [.int (nI P.c), .ref 2, .int (nI P.fc), .ref 3, .ref 4, .ref 5, .int (nI P.rc), .ref 6]) := fun {c} => (hset_ne _ _ (by omega)).trans ((pgH_o (by omega)).trans (hQ.cell (i := 0) (by omega)))
  refine mw_heap (h2 := pgH (86 + 46 * s) P' h) hP' ?_
  refine mw_iload_n (i := 1) rfl rfl rfl ?_
  refine mw_if_lt rfl (fun h1 => ?_) (fun h1 => ?_)
  · exact absurd ((nI_leI (a := 0) (by omega) (by omega)).mpr (Nat.zero_le s)) (Int32.not_le.mpr h1)
  · refine mw_iload_n (i := 1) rfl rfl rfl ?_
    refine mw_iconst (v := nI 2) rfl (by decide) ?_
    refine mw_n_lt rfl (by omega) (by omega) (fun h2 => ?_) (fun h2 => ?_)
    · refine mw_aload_n (i := 0) rfl rfl rfl ?_
      refine mw_getfield rfl f_X9_16 (by first | rfl | exact hO2 | exact hsl2 | exact hsf2 | exact hO3 | exact hQ3 | exact pgH_0) rfl ?_
      refine mw_iload_n (i := 1) rfl rfl rfl ?_
      refine mw_aald (ti := 4) rfl hsl2 rfl (by omega) (by omega) (if_pos hs) ?_
      refine mw_aload_n (i := 0) rfl rfl rfl ?_
      refine mw_getfield rfl f_X9_12 (by first | rfl | exact hO2 | exact hsl2 | exact hsf2 | exact hO3 | exact hQ3 | exact pgH_0) rfl ?_
      refine mw_callV_f (c_pgBecome d n (86 + 46 * s) 1 P' P h hQ (by omega)) rfl ok_X5_become v_X9_204 rfl (by first | rfl | exact hO2 | exact hsl2 | exact hsf2 | exact hO3 | exact hQ3 | exact pgH_0) (by intro e; cases e) rfl (Nat.le_of_ble_eq_true rfl) rfl (Nat.le_of_ble_eq_true rfl) (by omega) (by omega) (by omega) ?_
      refine mw_aload_n (i := 0) rfl rfl rfl ?_
      refine mw_getfield rfl f_X9_20 (by first | rfl | exact hO2 | exact hsl2 | exact hsf2 | exact hO3 | exact hQ3 | exact pgH_0) rfl ?_
      refine mw_iload_n (i := 1) rfl rfl rfl ?_
      refine mw_iconst (v := nI 1) rfl (by decide) ?_
      first | refine mw_zast rfl (by first | rfl | exact hO2 | exact hsl2 | exact hsf2 | exact hO3 | exact hQ3 | exact pgH_0) (by omega) (by omega) (bI_z _) ?_ | refine mw_zast rfl (by first | rfl | exact hO2 | exact hsl2 | exact hsf2 | exact hO3 | exact hQ3 | exact pgH_0) (by omega) (by omega) (by decide) ?_
      first | rw [bIf_updt] | rw [bIf_updf] | rw [bIf_upd] | skip
      refine mw_aload_n (i := 0) rfl rfl rfl ?_
      refine mw_getfield rfl f_X9_12 (by first | rfl | exact hO2 | exact hsl2 | exact hsf2 | exact hO3 | exact hQ3 | exact pgH_0) rfl ?_
      refine mw_getfield rfl f_X9_121 (by first | rfl | exact hO2 | exact hsl2 | exact hsf2 | exact hO3 | exact hQ3 | exact pgH_0) rfl ?_
      exact mw_ireturn rfl rfl rfl rfl (Nat.le_refl _) (hp)
    · omega
theorem c_krestore_e (d n : Nat) (y : Int32) (h : Nat → MC) (hx : inI y 2 = false) : Fn M_X9_restore d 0 0 [.ref 0, .int y] h n (some (.int (-1))) h := by
  refine Fn.of fun post hp => ?_
  refine mw_iload_n (i := 1) rfl rfl rfl ?_
  refine mw_if_lt rfl (fun h1 => ?_) (fun h1 => ?_)
  · refine mw_iconst (v := (-1)) rfl (by decide) ?_
    exact mw_ireturn rfl rfl rfl rfl (Nat.le_refl _) (hp)
  · refine mw_iload_n (i := 1) rfl rfl rfl ?_
    refine mw_iconst (v := nI 2) rfl (by decide) ?_
    refine mw_icmp_lt rfl (fun h2 => ?_) (fun h2 => ?_)
    · have : inI y 2 = true := decide_eq_true ⟨Int32.not_lt.mp h1, h2⟩
      rw [hx] at this
      cases this
    · refine mw_iconst (v := (-1)) rfl (by decide) ?_
      exact mw_ireturn rfl rfl rfl rfl (Nat.le_refl _) (hp)
theorem c_krestore_n (d n s : Nat) (f : KFl) (ik : Nat → Bool) (h : Nat → MC) (hO2 : h 0 = FO f) (hsf2 : h 48 = .inl (.boolean, 2, .inl (bIf ik))) (hs : s < 2) (hik : ik s = false) : Fn M_X9_restore d 0 0 [.ref 0, .int (nI s)] h n (some (.int (-3))) h := by
  refine Fn.of fun post hp => ?_
  refine mw_iload_n (i := 1) rfl rfl rfl ?_
  refine mw_if_lt rfl (fun h1 => ?_) (fun h1 => ?_)
  · exact absurd ((nI_leI (a := 0) (by omega) (by omega)).mpr (Nat.zero_le s)) (Int32.not_le.mpr h1)
  · refine mw_iload_n (i := 1) rfl rfl rfl ?_
    refine mw_iconst (v := nI 2) rfl (by decide) ?_
    refine mw_n_lt rfl (by omega) (by omega) (fun h2 => ?_) (fun h2 => ?_)
    · refine mw_aload_n (i := 0) rfl rfl rfl ?_
      refine mw_getfield rfl f_X9_20 (by first | rfl | exact hO2 | exact hsl2 | exact hsf2 | exact hO3 | exact hQ3) rfl ?_
      refine mw_iload_n (i := 1) rfl rfl rfl ?_
      refine mw_zald_v rfl hsf2 (by omega) (by omega) (show bIf ik s = bI false by rw [bIf, hik]) ?_
      refine mw_b_ne rfl (fun h3 => ?_) (fun h3 => ?_)
      · cases h3
      · refine mw_bipush (v := (-3)) rfl (by decide) ?_
        exact mw_ireturn rfl rfl rfl rfl (Nat.le_refl _) (hp)
    · omega
theorem c_krestore (d n s : Nat) (v v' sm : Nat → Nat) (P P' : PgS) (x : KD) (ik : Nat → Bool) (h : Nat → MC) (H : KW v sm P h x) (hsl : h 47 = SlO) (hsf : h 48 = .inl (.boolean, 2, .inl (bIf ik))) (hP' : PgAt h (86 + 46 * s) P') (hs : s < 2) (hik : ik s = true) (hV : PgV P' v') (hS : SafV v' P') (hok : OkN v') : Sp M_X9_restore (d + 3) 0 0 [.ref 0, .int (nI s)] h n (KZ v' sm h (nI (v' 2))) := by
  show MW _ _ _ _ _ _ _ _ _ _ _ _
  generalize hpost : KZ v' sm h (nI (v' 2)) = post
  have hO2 : ∀ {X : PgS}, pgH 1 X h 0 = FO x.1 := fun {X} => (pgH_o (by omega)).trans H.1.c0
  have hsl2 : ∀ {X : PgS}, pgH 1 X h 47 = SlO := fun {X} => (pgH_o (by omega)).trans hsl
  have hsf2 : ∀ {X : PgS}, pgH 1 X h 48 = .inl (.boolean, 2, .inl (bIf ik)) := fun {X} => (pgH_o (by omega)).trans hsf
  have hO3 : hset (pgH 1 P' h) 0 (FO (false, false, false, false, false, -1)) 0 = FO (false, false, false, false, false, -1) := hset_same _ _ _
  have hQ3 : hset (pgH 1 P' h) 0 (FO (false, false, false, false, false, -1)) 1 = .inr (5, [.int (nI P'.c), .ref 2, .int (nI P'.fc), .ref 3, .ref 4, .ref 5, .int (nI P'.rc), .ref 6]) := (hset_ne _ _ (by omega)).trans pgH_0
  have hfin := H.change (gf := false) hV hS hok (fun q => by cases q)
  refine mw_heap (h2 := pgH 1 P h) H.2.1 ?_
  refine mw_iload_n (i := 1) rfl rfl rfl ?_
  refine mw_if_lt rfl (fun h1 => ?_) (fun h1 => ?_)
  · exact absurd ((nI_leI (a := 0) (by omega) (by omega)).mpr (Nat.zero_le s)) (Int32.not_le.mpr h1)
  · refine mw_iload_n (i := 1) rfl rfl rfl ?_
    refine mw_iconst (v := nI 2) rfl (by decide) ?_
    refine mw_n_lt rfl (by omega) (by omega) (fun h2 => ?_) (fun h2 => ?_)
    · refine mw_aload_n (i := 0) rfl rfl rfl ?_
      refine mw_getfield rfl f_X9_20 (by first | rfl | exact hO2 | exact hsl2 | exact hsf2 | exact hO3 | exact hQ3) rfl ?_
      refine mw_iload_n (i := 1) rfl rfl rfl ?_
      refine mw_zald_v rfl hsf2 (by omega) (by omega) (show bIf ik s = bI true by rw [bIf, hik]) ?_
      refine mw_b_ne rfl (fun h3 => ?_) (fun h3 => ?_)
      · refine mw_aload_n (i := 0) rfl rfl rfl ?_
        refine mw_getfield rfl f_X9_12 (by first | rfl | exact hO2 | exact hsl2 | exact hsf2 | exact hO3 | exact hQ3) rfl ?_
        refine mw_aload_n (i := 0) rfl rfl rfl ?_
        refine mw_getfield rfl f_X9_16 (by first | rfl | exact hO2 | exact hsl2 | exact hsf2 | exact hO3 | exact hQ3) rfl ?_
        refine mw_iload_n (i := 1) rfl rfl rfl ?_
        refine mw_aald (ti := 4) rfl hsl2 rfl (by omega) (by omega) (if_pos hs) ?_
        refine mw_callV_f (c_pgBecome d n 1 (86 + 46 * s) P P' h hP' (by omega)) rfl ok_X5_become v_X9_204 rfl (by first | rfl | exact hO2 | exact hsl2 | exact hsf2 | exact hO3 | exact hQ3) (by intro e; cases e) rfl (Nat.le_of_ble_eq_true rfl) rfl (Nat.le_of_ble_eq_true rfl) (by omega) (by omega) (by omega) ?_
        refine mw_aload_n (i := 0) rfl rfl rfl ?_
        refine mw_callV_f (c_rulesCh (d + 1) n x.1 _ hO2) rfl ok_X9_rulesChanged v_X9_87 rfl (by first | rfl | exact hO2 | exact hsl2 | exact hsf2 | exact hO3 | exact hQ3) (by intro e; cases e) rfl (Nat.le_of_ble_eq_true rfl) rfl (Nat.le_of_ble_eq_true rfl) (by omega) (by omega) (by omega) ?_
        refine mw_aload_n (i := 0) rfl rfl rfl ?_
        refine mw_getfield rfl f_X9_12 (by first | rfl | exact hO2 | exact hsl2 | exact hsf2 | exact hO3 | exact hQ3) rfl ?_
        refine mw_getfield rfl f_X9_121 (by first | rfl | exact hO2 | exact hsl2 | exact hsf2 | exact hO3 | exact hQ3) rfl ?_
        rw [show P'.rc = v' 2 from hV.2.2.2.2.1]
        exact mw_ireturn rfl rfl rfl rfl (Nat.le_refl _) ((by rw [← hpost]; exact ⟨rfl, fun j hj => hj.ch, _, _, hfin⟩))
      · cases h3
    · omega
