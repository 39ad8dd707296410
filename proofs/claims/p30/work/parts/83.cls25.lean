/-! THE CLASS'S CHANGES -/
def KFar (j : Nat) : Prop := (47 ≤ j ∧ j < 56) ∨ 86 ≤ j
/-- behind a change: the class's state is that of v', the other cells are as they were -/
def KZ (v' sm : Nat → Nat) (h : Nat → MC) (r0 : Int32) : Option Value → (Nat → MC) → Prop := fun r h1 => r = some (.int r0) ∧ (∀ j, KFar j → h1 j = h j) ∧ ∃ (P' : PgS) (x' : KD), KW v' sm P' h1 x'
theorem kq_keys (x : KD) : (kqL x).tail.all (fun q => Nat.ble 56 q.1 && Nat.ble q.1 85) = true := rfl
theorem KAt.flags {h h1 : Nat → MC} {x : KD} (H : KAt h x) (f' : KFl) (h0 : h1 0 = FO f') (e : ∀ j, 56 ≤ j → j ≤ 85 → h1 j = h j) : KAt h1 (f', x.2) := by
  funext j
  by_cases hj : j = 0
  · subst hj
    exact h0.symm
  · have h2 := congrFun H j
    have e1 : Nat.beq 0 j = false := nbf (fun q => hj q.symm)
    have k1 : ∀ f : KFl, mlk (kqL (f, x.2)) j = mlk (kqL x).tail j := fun f => by
      show (bif Nat.beq 0 j then some (FO f) else mlk (kqL x).tail j) = _
      rw [e1]
      rfl
    have k2 : mlk (kqL x) j = mlk (kqL x).tail j := k1 x.1
    unfold mov at h2 ⊢
    rw [k1 f']
    rw [k2] at h2
    cases q : mlk (kqL x).tail j with
    | none => rfl
    | some c =>
      rw [q] at h2
      have h3 := List.all_eq_true.mp (kq_keys x) _ (mlk_mem q)
      rw [Bool.and_eq_true] at h3
      rw [e j (Nat.le_of_ble_eq_true h3.1) (Nat.le_of_ble_eq_true h3.2)]
      exact h2
theorem KAt.c0 {h : Nat → MC} {x : KD} (H : KAt h x) : h 0 = FO x.1 := (congrFun H 0).symm
theorem KI.stale {v v' sm : Nat → Nat} {x : KD} (hI : KI v sm x) {gf : Bool} (hg : gf = true → GrOk v' x.g) : KI v' sm ((gf, false, false, false, false, -1), x.2) :=
  ⟨hI.1, hg, fun q => (by cases q), fun q => (by cases q), fun q => (by cases q), fun q => (by cases q), Or.inl rfl⟩
theorem c_factsCh (d n : Nat) (f : KFl) (h : Nat → MC) (h0 : h 0 = FO f) : Fn M_X9_factsChanged d 0 0 [.ref 0] h n none (hset h 0 (FO (f.1, false, false, false, false, -1))) := by
  refine Fn.of fun post hp => ?_
  rw [hset_1] at hp
  refine mw_over [(0, FO f)] (mov_self (by simp [h0])) ?_
  refine mw_aload_n (i := 0) rfl rfl rfl ?_
  refine mw_iconst (v := nI 0) rfl (by decide) ?_
  first | refine mw_putfield_m rfl f_X9_234 (by first | rfl | exact rfl) (Nat.le_of_ble_eq_true rfl) (fun _ => bI_nar _) (fun _ => bI_fit _) ?_ | refine mw_putfield_m rfl f_X9_234 (by first | rfl | exact rfl) (Nat.le_of_ble_eq_true rfl) (fun _ => rfl) (fun _ => rfl) ?_
  refine mw_aload_n (i := 0) rfl rfl rfl ?_
  refine mw_iconst (v := nI 0) rfl (by decide) ?_
  first | refine mw_putfield_m rfl f_X9_237 (by first | rfl | exact rfl) (Nat.le_of_ble_eq_true rfl) (fun _ => bI_nar _) (fun _ => bI_fit _) ?_ | refine mw_putfield_m rfl f_X9_237 (by first | rfl | exact rfl) (Nat.le_of_ble_eq_true rfl) (fun _ => rfl) (fun _ => rfl) ?_
  refine mw_aload_n (i := 0) rfl rfl rfl ?_
  refine mw_iconst (v := nI 0) rfl (by decide) ?_
  first | refine mw_putfield_m rfl f_X9_240 (by first | rfl | exact rfl) (Nat.le_of_ble_eq_true rfl) (fun _ => bI_nar _) (fun _ => bI_fit _) ?_ | refine mw_putfield_m rfl f_X9_240 (by first | rfl | exact rfl) (Nat.le_of_ble_eq_true rfl) (fun _ => rfl) (fun _ => rfl) ?_
  refine mw_aload_n (i := 0) rfl rfl rfl ?_
  refine mw_iconst (v := nI 0) rfl (by decide) ?_
  first | refine mw_putfield_m rfl f_X9_243 (by first | rfl | exact rfl) (Nat.le_of_ble_eq_true rfl) (fun _ => bI_nar _) (fun _ => bI_fit _) ?_ | refine mw_putfield_m rfl f_X9_243 (by first | rfl | exact rfl) (Nat.le_of_ble_eq_true rfl) (fun _ => rfl) (fun _ => rfl) ?_
  refine mw_aload_n (i := 0) rfl rfl rfl ?_
  refine mw_iconst (v := (-1)) rfl (by decide) ?_
  refine mw_putfield_m rfl f_X9_76 (by first | rfl | exact rfl) (Nat.le_of_ble_eq_true rfl) (fun _ => rfl) (fun _ => rfl) ?_
  exact mw_return rfl rfl rfl (Nat.le_refl _) (hp)
theorem c_rulesCh (d n : Nat) (f : KFl) (h : Nat → MC) (h0 : h 0 = FO f) : Fn M_X9_rulesChanged (d + 1) 0 0 [.ref 0] h n none (hset h 0 (FO (false, false, false, false, false, -1))) := by
  refine Fn.of fun post hp => ?_
  rw [hset_1] at hp
  refine mw_over [(0, FO f)] (mov_self (by simp [h0])) ?_
  refine mw_aload_n (i := 0) rfl rfl rfl ?_
  refine mw_iconst (v := nI 0) rfl (by decide) ?_
  first | refine mw_putfield_m rfl f_X9_230 (by first | rfl | exact rfl) (Nat.le_of_ble_eq_true rfl) (fun _ => bI_nar _) (fun _ => bI_fit _) ?_ | refine mw_putfield_m rfl f_X9_230 (by first | rfl | exact rfl) (Nat.le_of_ble_eq_true rfl) (fun _ => rfl) (fun _ => rfl) ?_
  refine mw_aload_n (i := 0) rfl rfl rfl ?_
  refine mw_heap (h2 := mov [(0, FO (false, f.2))] h) rfl ?_
  refine mw_callV_f (c_factsCh d n (false, f.2) (mov [(0, FO (false, f.2))] h) rfl) rfl ok_X9_factsChanged v_X9_115 rfl (by first | rfl | exact rfl) (by intro e; cases e) rfl (Nat.le_of_ble_eq_true rfl) rfl (Nat.le_of_ble_eq_true rfl) (by omega) (by omega) (by omega) ?_
  rw [hset_mov]
  exact mw_return rfl rfl rfl (Nat.le_refl _) (hp)
/-- a change of the program and stale flags -/
theorem KW.change {v v' sm : Nat → Nat} {P P' : PgS} {h : Nat → MC} {x : KD} (H : KW v sm P h x) {gf : Bool} (hV : PgV P' v') (hS : SafV v' P') (hok : OkN v') (hg : gf = true → GrOk v' x.g) : KW v' sm P' (hset (pgH 1 P' h) 0 (FO (gf, false, false, false, false, -1))) ((gf, false, false, false, false, -1), x.2) := by
  obtain ⟨h1, h2, h3, h4, h5, h6, h7⟩ := H
  have e : ∀ j, 47 ≤ j → hset (pgH 1 P' h) 0 (FO (gf, false, false, false, false, -1)) j = h j := fun j hj => by
    rw [hset_ne _ _ (by omega), pgH_o (by omega)]
  refine ⟨h1.flags _ (hset_same _ _ _) (fun j h56 _ => e j (by omega)), (PgAt.of 1 P' h).keep (fun j hj1 hj2 => hset_ne _ _ (by omega)), hV, hS, hok, ⟨?_, ?_, ?_, ?_⟩, h7.stale hg⟩
  · rw [e 72 (by omega)]; exact h6.1
  · rw [e 79 (by omega)]; exact h6.2.1
  · rw [e 81 (by omega)]; exact h6.2.2.1
  · rw [e 82 (by omega)]; exact h6.2.2.2
theorem KFar.ch {h : Nat → MC} {P' : PgS} {c : MC} {j : Nat} (hj : KFar j) : hset (pgH 1 P' h) 0 c j = h j := by
  unfold KFar at hj
  rw [hset_ne _ _ (by omega), pgH_o (by omega)]
theorem c_kbegin_e (d n : Nat) (c : Int32) (h : Nat → MC) (hc : ¬ (1 ≤ c ∧ c ≤ 6)) : Fn M_X9_begin d 0 0 [.ref 0, .int c] h n (some (.int (-2))) h := by
  refine Fn.of fun post hp => ?_
  refine mw_iload_n (i := 1) rfl rfl rfl ?_
  refine mw_iconst (v := nI 1) rfl (by decide) ?_
  refine mw_icmp_lt rfl (fun h1 => ?_) (fun h1 => ?_)
  · refine mw_bipush (v := (-2)) rfl (by decide) ?_
    exact mw_ireturn rfl rfl rfl rfl (Nat.le_refl _) (hp)
  · refine mw_iload_n (i := 1) rfl rfl rfl ?_
    refine mw_bipush (v := nI 6) rfl (by decide) ?_
    refine mw_icmp_le rfl (fun h2 => ?_) (fun h2 => ?_)
    · exact absurd ⟨Int32.not_lt.mp h1, h2⟩ hc
    · refine mw_bipush (v := (-2)) rfl (by decide) ?_
      exact mw_ireturn rfl rfl rfl rfl (Nat.le_refl _) (hp)
theorem PgV_anew {v : Nat → Nat} {P : PgS} (c : Nat) : PgV (c, (fun _ => 2), 0, P.fa, P.fo, P.fs, 0, P.ru) (anewV v c) :=
  ⟨rfl, fun p hp => by
    show 2 = if 3 ≤ 3 + p ∧ 3 + p < 9 then 2 else _
    rw [if_pos (by omega)], rfl, fun k hk => absurd (show k < 0 from hk) (Nat.not_lt_zero k), rfl, fun r hr => absurd (show r < 0 from hr) (Nat.not_lt_zero r)⟩
theorem c_kbegin (d n c : Nat) (v sm : Nat → Nat) (P : PgS) (x : KD) (h : Nat → MC) (H : KW v sm P h x) (hc1 : 1 ≤ c) (hc6 : c ≤ 6) : Sp M_X9_begin (d + 2) 0 0 [.ref 0, .int (nI c)] h n (KZ (anewV v c) sm h (nI (v 0))) := by
  show MW _ _ _ _ _ _ _ _ _ _ _ _
  generalize hpost : KZ (anewV v c) sm h (nI (v 0)) = post
  have hO : ∀ {X : PgS}, pgH 1 X h 0 = FO x.1 := fun {X} => (pgH_o (by omega)).trans H.1.c0
  have hV : PgV (c, (fun _ => 2), 0, P.fa, P.fo, P.fs, 0, P.ru) (anewV v c) := PgV_anew c
  have hfin := H.change (gf := false) hV (fun r hr => absurd (show r < 0 from hr) (Nat.not_lt_zero r)) (ok_anew v hc1 hc6) (fun q => by cases q)
  refine mw_heap (h2 := pgH 1 P h) H.2.1 ?_
  refine mw_iload_n (i := 1) rfl rfl rfl ?_
  refine mw_iconst (v := nI 1) rfl (by decide) ?_
  refine mw_icmp_lt rfl (fun h1 => ?_) (fun h1 => ?_)
  · exact absurd ((nI_leI (a := 1) (by omega) (by omega)).mpr hc1) (Int32.not_le.mpr h1)
  · refine mw_iload_n (i := 1) rfl rfl rfl ?_
    refine mw_bipush (v := nI 6) rfl (by decide) ?_
    refine mw_icmp_le rfl (fun h2 => ?_) (fun h2 => ?_)
    · refine mw_aload_n (i := 0) rfl rfl rfl ?_
      refine mw_getfield rfl f_X9_12 (by first | rfl | exact hO | exact pgH_0) rfl ?_
      refine mw_getfield rfl f_X9_80 (by first | rfl | exact hO | exact pgH_0) rfl ?_
      refine mw_istore_n (i := 2) rfl rfl (Nat.le_of_ble_eq_true rfl) ?_
      refine mw_aload_n (i := 0) rfl rfl rfl ?_
      refine mw_getfield rfl f_X9_12 (by first | rfl | exact hO | exact pgH_0) rfl ?_
      refine mw_iload_n (i := 1) rfl rfl rfl ?_
      rw [show P.c = v 0 from H.2.2.1.1]
      refine mw_callV_f (c_clear d n 1 c P h) rfl ok_X5_clear v_X9_83 rfl (by first | rfl | exact hO | exact pgH_0) (by intro e; cases e) rfl (Nat.le_of_ble_eq_true rfl) rfl (Nat.le_of_ble_eq_true rfl) (by omega) (by omega) (by omega) ?_
      refine mw_aload_n (i := 0) rfl rfl rfl ?_
      refine mw_callV_f (c_rulesCh d n x.1 _ hO) rfl ok_X9_rulesChanged v_X9_87 rfl (by first | rfl | exact hO | exact pgH_0) (by intro e; cases e) rfl (Nat.le_of_ble_eq_true rfl) rfl (Nat.le_of_ble_eq_true rfl) (by omega) (by omega) (by omega) ?_
      refine mw_iload_n (i := 2) rfl rfl rfl ?_
      exact mw_ireturn rfl rfl rfl rfl (Nat.le_refl _) ((by rw [← hpost]; exact ⟨rfl, fun j hj => hj.ch, _, _, hfin⟩))
    · exact absurd ((nI_leI (b := 6) (by omega) (by omega)).mpr hc6) h2
theorem PgV_places {v : Nat → Nat} {P : PgS} (H : PgV P v) {p q : Nat} (hp : p < 6) : PgV (P.c, updN P.pl p q, P.fc, P.fa, P.fo, P.fs, P.rc, P.ru) (updN v (3 + p) q) := by
  obtain ⟨h1, h2, h3, h4, h5, h6⟩ := H
  have o : ∀ j, j ≠ 3 + p → updN v (3 + p) q j = v j := fun j hj => updN_ne _ _ hj
  refine ⟨?_, fun p' hp' => ?_, ?_, fun k hk => ?_, ?_, fun r hr => ?_⟩
  · rw [o 0 (by omega)]; exact h1
  · show updN P.pl p q p' = updN v (3 + p) q (3 + p')
    by_cases e : p' = p
    · subst e; rw [updN_same, updN_same]
    · rw [updN_ne _ _ e, o _ (by omega)]; exact h2 p' hp'
  · rw [o 1 (by omega)]; exact h3
  · rw [o 1 (by omega)] at hk
    rw [o (9 + 3 * k) (by omega), o (9 + 3 * k + 1) (by omega), o (9 + 3 * k + 2) (by omega)]
    exact h4 k hk
  · rw [o 2 (by omega)]; exact h5
  · rw [o 2 (by omega)] at hr
    obtain ⟨g1, g2, g3⟩ := h6 r hr
    unfold RuV
    rw [o (45 + 18 * r) (by omega), o (45 + 18 * r + 1) (by omega)]
    refine ⟨g1, g2, fun a ha => ?_⟩
    rw [o (45 + 18 * r + 2 + 4 * a) (by omega), o (45 + 18 * r + 2 + 4 * a + 1) (by omega), o (45 + 18 * r + 2 + 4 * a + 2) (by omega), o (45 + 18 * r + 2 + 4 * a + 3) (by omega)]
    exact g3 a ha
theorem KI_p {v v' sm : Nat → Nat} (h : EqP v v') {x : KD} (H : KI v sm x) : KI v' sm x := by
  have e1 : strF v' = strF v := strF_g h.1
  have e2 : mdl0 v' = mdl0 v := by unfold mdl0; rw [e1, mdlV_p h]
  have e3 : hoV v' = hoV v := by unfold hoV; rw [e2, hoF_g h.1]
  obtain ⟨i1, i2, i3, i4, i5, i6, i7⟩ := H
  unfold KI
  rw [e1, e2, e3, mdlV_p h]
  refine ⟨i1, fun q => GrOk_g h.1 (i2 q), fun q => ?_, fun q => ?_, fun q => ?_, fun q => ?_, i7⟩
  · obtain ⟨j1, j2, j3, j4, j5, j6⟩ := i3 q
    exact ⟨j1, j2, j3, j4, j5, HdOk_g h.1 j6⟩
  · exact ⟨(i4 q).1, KcOk_p h (i4 q).2⟩
  · exact ⟨(i5 q).1, KlOk_p h (i5 q).2⟩
  · exact ⟨(i6 q).1, KsOk_p h (i6 q).2⟩
theorem SafV_g {v v' : Nat → Nat} (h : EqG v v') {P P' : PgS} (hr : P'.ru = P.ru) (H : SafV v P) : SafV v' P' := fun r hr2 => by
  rw [h.2.1] at hr2
  rw [hr]
  exact SafR_g h (H r hr2)
theorem c_ksetPlaces (d n : Nat) (x1 y1 : Int32) (v sm : Nat → Nat) (P : PgS) (x : KD) (h : Nat → MC) (H : KW v sm P h x) : Sp M_X9_setPlaces (d + 3) 0 0 [.ref 0, .int x1, .int y1] h n (fun r h1 => (inI x1 6 = false → r = some (.int (-1)) ∧ h1 = h) ∧ (inI x1 6 = true → ¬ (nI 1 ≤ y1 ∧ y1 ≤ nI 2) → r = some (.int (-2)) ∧ h1 = h) ∧ (∀ p q, x1 = nI p → p < 6 → y1 = nI q → 1 ≤ q ∧ q ≤ 2 → (isUsedV v p = true → r = some (.int (-3)) ∧ h1 = h) ∧ (isUsedV v p = false → KZ (updN v (3 + p) q) sm h (nI (v (3 + p))) r h1))) := by
  show MW _ _ _ _ _ _ _ _ _ _ _ _
  generalize hpost : (fun (r : Option Value) (h1 : Nat → MC) => (inI x1 6 = false → r = some (.int (-1)) ∧ h1 = h) ∧ (inI x1 6 = true → ¬ (nI 1 ≤ y1 ∧ y1 ≤ nI 2) → r = some (.int (-2)) ∧ h1 = h) ∧ (∀ p q, x1 = nI p → p < 6 → y1 = nI q → 1 ≤ q ∧ q ≤ 2 → (isUsedV v p = true → r = some (.int (-3)) ∧ h1 = h) ∧ (isUsedV v p = false → KZ (updN v (3 + p) q) sm h (nI (v (3 + p))) r h1))) = post
  have hO : ∀ {X : PgS}, pgH 1 X h 0 = FO x.1 := fun {X} => (pgH_o (by omega)).trans H.1.c0
  have hpg : pgH 1 P h = h := H.2.1
  refine mw_heap (h2 := pgH 1 P h) H.2.1 ?_
  refine mw_iload_n (i := 1) rfl rfl rfl ?_
  refine mw_callS_f (c_isPredicate (d + 2) n x1 _) rfl ok_X9_isPredicate v_X9_90 rfl (Nat.le_of_ble_eq_true rfl) rfl (Nat.le_of_ble_eq_true rfl) (by omega) (by omega) (by omega) ?_
  refine mw_b_ne rfl (fun hin => ?_) (fun hin => ?_)
  · have bad : ¬ (nI 1 ≤ y1 ∧ y1 ≤ nI 2) → MW M_X9_setPlaces (d + 3) 0 0 n post 19 [(0, .ref 0)] [] (pgH 1 P h) n 0 := by
      intro hb
      refine mw_bipush (v := (-2)) rfl (by decide) ?_
      exact mw_ireturn rfl rfl rfl rfl (Nat.le_refl _) ((by rw [← hpost]; exact ⟨fun q => (by rw [hin] at q; cases q), fun _ _ => ⟨rfl, hpg⟩, fun p q _ _ e hq => absurd (by rw [e]; exact ⟨(nI_leI (by omega) (by omega)).mpr hq.1, (nI_leI (by omega) (by omega)).mpr hq.2⟩) hb⟩))
    refine mw_iload_n (i := 2) rfl rfl rfl ?_
    refine mw_iconst (v := nI 1) rfl (by decide) ?_
    refine mw_icmp_lt rfl (fun h1 => ?_) (fun h1 => ?_)
    · exact mw_locals rfl (bad (fun q => absurd q.1 (Int32.not_le.mpr h1)))
    · refine mw_iload_n (i := 2) rfl rfl rfl ?_
      refine mw_iconst (v := nI 2) rfl (by decide) ?_
      refine mw_icmp_le rfl (fun h2 => ?_) (fun h2 => ?_)
      · have hyy : nI 1 ≤ y1 ∧ y1 ≤ nI 2 := ⟨Int32.not_lt.mp h1, h2⟩
        obtain ⟨p, hp6, rfl⟩ := inI_of hin (by omega)
        have h0y : (0 : Int32) ≤ y1 := Int32.le_trans (by decide) hyy.1
        obtain ⟨q, hq, rfl⟩ := nI_of (Int32.not_lt.mpr h0y)
        have hq1 := (nI_leI (by omega) (by omega)).mp hyy.1
        have hq2 := (nI_leI (by omega) (by omega)).mp hyy.2
        have uniq : ∀ p' q', nI p = nI p' → p' < 6 → nI q = nI q' → 1 ≤ q' ∧ q' ≤ 2 → p' = p ∧ q' = q := fun p' q' e1 hp' e2 hq' => ⟨((nI_eq (by omega) (by omega)).mp e1).symm, ((nI_eq (by omega) (by omega)).mp e2).symm⟩
        refine mw_aload_n (i := 0) rfl rfl rfl ?_
        refine mw_getfield rfl f_X9_12 (by first | rfl | exact hO | exact pgH_0 | exact pgH_1) rfl ?_
        refine mw_iload_n (i := 1) rfl rfl rfl ?_
        refine mw_callV_f (c_uses (d + 1) n p P v (pgH 1 P h) (PgAt.of 1 P h) H.2.2.1 H.2.2.2.2.1 hp6) rfl ok_X5_uses v_X9_94 rfl (by first | rfl | exact hO | exact pgH_0 | exact pgH_1) (by intro e; cases e) rfl (Nat.le_of_ble_eq_true rfl) rfl (Nat.le_of_ble_eq_true rfl) (by omega) (by omega) (by omega) ?_
        refine mw_b_eq rfl (fun hu => ?_) (fun hu => ?_)
        · have hV := PgV_places (q := q) H.2.2.1 hp6
          have hE := EqP_places v (q := q) hp6
          refine mw_aload_n (i := 0) rfl rfl rfl ?_
          refine mw_getfield rfl f_X9_12 (by first | rfl | exact hO | exact pgH_0 | exact pgH_1) rfl ?_
          refine mw_getfield rfl f_X9_97 (by first | rfl | exact hO | exact pgH_0 | exact pgH_1) rfl ?_
          refine mw_iload_n (i := 1) rfl rfl rfl ?_
          refine mw_iald_v rfl pgH_1 (by omega) (by omega) (show vI P.pl p = nI (v (3 + p)) from congrArg nI (H.2.2.1.2.1 p hp6)) ?_
          refine mw_istore_n (i := 3) rfl rfl (Nat.le_of_ble_eq_true rfl) ?_
          refine mw_aload_n (i := 0) rfl rfl rfl ?_
          refine mw_getfield rfl f_X9_12 (by first | rfl | exact hO | exact pgH_0 | exact pgH_1) rfl ?_
          refine mw_getfield rfl f_X9_97 (by first | rfl | exact hO | exact pgH_0 | exact pgH_1) rfl ?_
          refine mw_iload_n (i := 1) rfl rfl rfl ?_
          refine mw_iload_n (i := 2) rfl rfl rfl ?_
          refine mw_iast rfl (by first | rfl | exact hO | exact pgH_0 | exact pgH_1) (by omega) (by omega) ?_
          first | rw [vI_upd] | rw [vI_updv] | skip
          rw [pgH_p1]
          have hfin : KW (updN v (3 + p) q) sm (P.c, updN P.pl p q, P.fc, P.fa, P.fo, P.fs, P.rc, P.ru) (pgH 1 (P.c, updN P.pl p q, P.fc, P.fa, P.fo, P.fs, P.rc, P.ru) h) x := by
            obtain ⟨k1, k2, k3, k4, k5, k6, k7⟩ := H
            have e : ∀ j, 47 ≤ j → pgH 1 (P.c, updN P.pl p q, P.fc, P.fa, P.fo, P.fs, P.rc, P.ru) h j = h j := fun j hj => pgH_o (by omega)
            refine ⟨k1.flags x.1 ((pgH_o (by omega)).trans k1.c0) (fun j hj _ => e j (by omega)), PgAt.of _ _ _, hV, SafV_g hE.1 rfl k4, ok_places k5 hp6 ⟨hq1, hq2⟩, ⟨?_, ?_, ?_, ?_⟩, KI_p hE k7⟩
            · rw [e 72 (by omega)]; exact k6.1
            · rw [e 79 (by omega)]; exact k6.2.1
            · rw [e 81 (by omega)]; exact k6.2.2.1
            · rw [e 82 (by omega)]; exact k6.2.2.2
          refine mw_iload_n (i := 3) rfl rfl rfl ?_
          exact mw_ireturn rfl rfl rfl rfl (Nat.le_refl _) ((by rw [← hpost]; exact ⟨fun w => (by rw [hin] at w; cases w), fun _ w => absurd hyy w, fun p' q' e1 hp' e2 hq' => (by obtain ⟨rfl, rfl⟩ := uniq p' q' e1 hp' e2 hq'; exact ⟨fun w => (by rw [hu] at w; cases w), fun _ => ⟨rfl, fun j hj => pgH_o (by unfold KFar at hj; omega), _, _, hfin⟩⟩)⟩))
        · refine mw_bipush (v := (-3)) rfl (by decide) ?_
          exact mw_ireturn rfl rfl rfl rfl (Nat.le_refl _) ((by rw [← hpost]; exact ⟨fun w => (by rw [hin] at w; cases w), fun _ w => absurd hyy w, fun p' q' e1 hp' e2 hq' => (by obtain ⟨rfl, rfl⟩ := uniq p' q' e1 hp' e2 hq'; exact ⟨fun _ => ⟨rfl, hpg⟩, fun w => (by rw [hu] at w; cases w)⟩)⟩))
      · exact mw_locals rfl (bad (fun q => h2 q.2))
  · refine mw_iconst (v := (-1)) rfl (by decide) ?_
    exact mw_ireturn rfl rfl rfl rfl (Nat.le_refl _) ((by rw [← hpost]; exact ⟨fun _ => ⟨rfl, hpg⟩, fun w => (by rw [hin] at w; cases w), fun p q e1 hp6 _ _ => absurd (inI_nI hp6 (by omega)) (by rw [← e1, hin]; decide)⟩))
