/-! THE CLASS'S GROUNDING: fill -/
def GrJ (v : Nat → Nat) (g : GD) (r : Nat) : Prop := (∀ q, q < r → g.hs q = g.st (v (45 + 18 * q + 2 + 4 * 0)) ∧ g.pr q = v (45 + 18 * q) ∧ g.pc q = plT v q ∧ g.lc q = v (45 + 18 * q + 1)) ∧ (∀ q, q ≤ r → g.sr q = (enF v q).1) ∧ GI v (enF v r) g.ru g.hd g.bd ∧ ∀ t, t < 6 → g.mg t = t
/-- the grounding is what it should be of v -/
def GrOk (v : Nat → Nat) (g : GD) : Prop := g.st = (grF v).1 ∧ g.sf = (!(grF v).2) ∧ g.rc = v 2 ∧ GrJ v g (v 2)
def SafV (v : Nat → Nat) (P : PgS) : Prop := ∀ r, r < v 2 → SafR v (P.ru r) r
set_option maxRecDepth 20000 in
theorem c_kfill (d n : Nat) (P : PgS) (v : Nat → Nat) (g : GD) (h : Nat → MC) (hP : PgAt h 1 P) (hV : PgV P v) (hS : SafV v P) (hok : OkN v) : Sp M_X1_fill (d + 3) 0 0 [.ref 56, .ref 1] (mov (grL g) h) n (fun ro h1 => ro = none ∧ ∃ g' : GD, h1 = mov (grL g') h ∧ GrOk v g') := by
  show MW _ _ _ _ _ _ _ _ _ _ _ _
  generalize hpost : (fun (ro : Option Value) (h1 : Nat → MC) => ro = none ∧ ∃ g' : GD, h1 = mov (grL g') h ∧ GrOk v g') = post
  have hp : ∀ g' : GD, GrOk v g' → post none (mov (grL g') h) := by
    intro g' h1
    rw [← hpost]
    exact ⟨rfl, g', rfl, h1⟩
  clear hpost
  have h8 := hok.2.2.2.1
  have hP0 : h 1 = _ := hP.cell (i := 0) (by omega)
  have hP5 : h 6 = .inl (.object RX6, 8, .inr (.inr (.inr (.inr (plf 1))))) := hP.cell (i := 5) (by omega)
  have hV0 := hV
  obtain ⟨vc, vpl, vfc, vfa, vrc, vru⟩ := hV
  refine mw_aload_n (i := 0) rfl rfl rfl ?_
  refine mw_aload_n (i := 1) rfl rfl rfl ?_
  refine mw_getfield rfl f_X1_42 (by first | rfl | exact rfl | exact (q0 rfl) | exact (q1 rfl) | exact (q4 rfl) | exact hP0 | exact hP5) rfl ?_
  refine mw_putfield_m rfl f_X1_48 (by first | rfl | exact rfl | exact (q0 rfl) | exact (q1 rfl) | exact (q4 rfl) | exact hP0 | exact hP5) (Nat.le_of_ble_eq_true rfl) (fun _ => rfl) (fun _ => rfl) ?_
  refine mw_aload_n (i := 0) rfl rfl rfl ?_
  refine mw_aload_n (i := 1) rfl rfl rfl ?_
  refine mw_callV_f (c_kfindStrata d n g.sf P.rc P v g.st _ rfl rfl (hP.mv rfl) hV0 hok) rfl ok_X1_findStrata v_X1_49 rfl (by first | rfl | exact rfl | exact (q0 rfl) | exact (q1 rfl) | exact (q4 rfl) | exact hP0 | exact hP5) (by intro e; cases e) rfl (Nat.le_of_ble_eq_true rfl) rfl (Nat.le_of_ble_eq_true rfl) (by omega) (by omega) (by omega) ?_
  rw [← mov_puts]
  refine mw_heap (h2 := mov (grL (mkG (grF v).1 (!(grF v).2) P.rc g.hs g.pr g.pc g.lc g.sr g.ru g.hd g.bd g.mg)) h) rfl ?_
  rw [vrc]
  generalize hst : (grF v).1 = st
  generalize hsf : (!(grF v).2) = sf
  have hst6 : ∀ p, p < 6 → st p < 2147483648 := fun p hp => by
    have := gsW_le hok 7 p hp
    rw [← hst]
    show (itN (fun _ => gsW v) (fun _ => 0, true) 7).1 p < _
    omega
  have loopR : ∀ r, r ≤ v 2 → ∀ hs pr pc lc sr ru hd bd mg : Nat → Nat, GrJ v (mkG st sf (v 2) hs pr pc lc sr ru hd bd mg) r → MW M_X1_fill (d + 3) 0 0 n post 43 [(0, .ref 56), (1, .ref 1), (2, .int (nI r))] [] (mov (grL (mkG st sf (v 2) hs pr pc lc sr ru hd bd mg)) h) n 0 := by
    refine loop_up (v 2) ?_ ?_
    · intro hs pr pc lc sr ru hd bd mg hJ
      refine mw_iload_n (i := 2) rfl rfl rfl ?_
      refine mw_aload_n (i := 0) rfl rfl rfl ?_
      refine mw_getfield rfl f_X1_48 (by first | rfl | exact rfl | exact (q0 rfl) | exact (q1 rfl) | exact (q4 rfl) | exact hP0 | exact hP5) rfl ?_
      show MW _ _ _ _ _ _ _ _ (.int (nI (v 2)) :: .int (nI (v 2)) :: []) _ _ _
      refine mw_n_ge rfl (by omega) (by omega) (fun hc => ?_) (fun hc => ?_)
      · exact mw_return rfl rfl rfl (Nat.le_refl _) ((hp _ ⟨hst.symm, hsf.symm, rfl, hJ⟩))
      · omega
    · intro r hr ih hs pr pc lc sr ru hd bd mg hJ
      obtain ⟨j1, j2, j3, j4⟩ := hJ
      obtain ⟨-, -, hl1, hl3, hat⟩ := hok.2.2.2.2.2.2 r hr
      have hRV := vru r hr
      have hR0 : RuAt h (7 + 5 * r) (P.ru r) := hP.rule (show r < 8 by omega)
      have hRS := hS r hr
      generalize P.ru r = R at hRV hR0 hRS
      have hR' : ∀ {l : MLs}, l.all (fun q => Nat.beq q.1 0 || Nat.ble 47 q.1) = true → RuAt (mov l h) (7 + 5 * r) R := fun hl => hR0.mv (by omega) hl
      have q0 : ∀ {l : MLs}, l.all (fun q => Nat.beq q.1 0 || Nat.ble 47 q.1) = true → mov l h (7 + 5 * r) = _ := fun hl => (hR' hl).1
      have q1 : ∀ {l : MLs}, l.all (fun q => Nat.beq q.1 0 || Nat.ble 47 q.1) = true → mov l h (7 + 5 * r + 1) = _ := fun hl => (hR' hl).2.1
      have q4 : ∀ {l : MLs}, l.all (fun q => Nat.beq q.1 0 || Nat.ble 47 q.1) = true → mov l h (7 + 5 * r + 4) = _ := fun hl => (hR' hl).2.2.2.2
      obtain ⟨e1, e2, ea⟩ := hRV
      have a1 : vI R.pr 0 = nI (v (45 + 18 * r + 2 + 4 * 0)) := congrArg nI (ea 0 (by omega)).1
      have a2 := (hat 0 (by omega)).1
      refine mw_iload_n (i := 2) rfl rfl rfl ?_
      refine mw_aload_n (i := 0) rfl rfl rfl ?_
      refine mw_getfield rfl f_X1_48 (by first | rfl | exact rfl | exact (q0 rfl) | exact (q1 rfl) | exact (q4 rfl) | exact hP0 | exact hP5) rfl ?_
      show MW _ _ _ _ _ _ _ _ (.int (nI (v 2)) :: .int (nI r) :: []) _ _ _
      refine mw_n_ge rfl (by omega) (by omega) (fun hc => ?_) (fun hc => ?_)
      · omega
      · refine mw_aload_n (i := 1) rfl rfl rfl ?_
        refine mw_getfield rfl f_X1_53 (by first | rfl | exact rfl | exact (q0 rfl) | exact (q1 rfl) | exact (q4 rfl) | exact hP0 | exact hP5) rfl ?_
        refine mw_iload_n (i := 2) rfl rfl rfl ?_
        refine mw_aald (ti := 5) rfl hP5 rfl (by omega) (by omega) (plf_at (b := 1) (by omega)) ?_
        refine mw_astore_n (i := 3) rfl rfl (Nat.le_of_ble_eq_true rfl) ?_
        refine mw_aload_n (i := 0) rfl rfl rfl ?_
        refine mw_getfield rfl f_X1_15 (by first | rfl | exact rfl | exact (q0 rfl) | exact (q1 rfl) | exact (q4 rfl) | exact hP0 | exact hP5) rfl ?_
        refine mw_iload_n (i := 2) rfl rfl rfl ?_
        refine mw_aload_n (i := 0) rfl rfl rfl ?_
        refine mw_getfield rfl f_X1_9 (by first | rfl | exact rfl | exact (q0 rfl) | exact (q1 rfl) | exact (q4 rfl) | exact hP0 | exact hP5) rfl ?_
        refine mw_aload_n (i := 3) rfl rfl rfl ?_
        refine mw_getfield rfl f_X1_57 (by first | rfl | exact rfl | exact (q0 rfl) | exact (q1 rfl) | exact (q4 rfl) | exact hP0 | exact hP5) rfl ?_
        refine mw_iconst (v := nI 0) rfl (by decide) ?_
        refine mw_iald_v rfl (q1 rfl) (by omega) (by omega) a1 ?_
        refine mw_iald rfl (by first | rfl | exact rfl | exact (q0 rfl) | exact (q1 rfl) | exact (q4 rfl) | exact hP0 | exact hP5) (by omega) (by omega) ?_
        refine mw_iast_m rfl (by first | rfl | exact rfl | exact (q0 rfl) | exact (q1 rfl) | exact (q4 rfl) | exact hP0 | exact hP5) (by omega) (by omega) ?_
        first | rw [vI_upd] | rw [vI_updv] | skip
        refine mw_aload_n (i := 0) rfl rfl rfl ?_
        refine mw_getfield rfl f_X1_18 (by first | rfl | exact rfl | exact (q0 rfl) | exact (q1 rfl) | exact (q4 rfl) | exact hP0 | exact hP5) rfl ?_
        refine mw_iload_n (i := 2) rfl rfl rfl ?_
        refine mw_aload_n (i := 3) rfl rfl rfl ?_
        refine mw_getfield rfl f_X1_62 (by first | rfl | exact rfl | exact (q0 rfl) | exact (q1 rfl) | exact (q4 rfl) | exact hP0 | exact hP5) rfl ?_
        refine mw_iast_m rfl (by first | rfl | exact rfl | exact (q0 rfl) | exact (q1 rfl) | exact (q4 rfl) | exact hP0 | exact hP5) (by omega) (by omega) ?_
        first | rw [vI_upd] | rw [vI_updv] | skip
        refine mw_aload_n (i := 0) rfl rfl rfl ?_
        refine mw_getfield rfl f_X1_24 (by first | rfl | exact rfl | exact (q0 rfl) | exact (q1 rfl) | exact (q4 rfl) | exact hP0 | exact hP5) rfl ?_
        refine mw_iload_n (i := 2) rfl rfl rfl ?_
        refine mw_aload_n (i := 3) rfl rfl rfl ?_
        refine mw_getfield rfl f_X1_64 (by first | rfl | exact rfl | exact (q0 rfl) | exact (q1 rfl) | exact (q4 rfl) | exact hP0 | exact hP5) rfl ?_
        refine mw_iast_m rfl (by first | rfl | exact rfl | exact (q0 rfl) | exact (q1 rfl) | exact (q4 rfl) | exact hP0 | exact hP5) (by omega) (by omega) ?_
        first | rw [vI_upd] | rw [vI_updv] | skip
        refine mw_aload_n (i := 0) rfl rfl rfl ?_
        refine mw_getfield rfl f_X1_21 (by first | rfl | exact rfl | exact (q0 rfl) | exact (q1 rfl) | exact (q4 rfl) | exact hP0 | exact hP5) rfl ?_
        refine mw_iload_n (i := 2) rfl rfl rfl ?_
        refine mw_iconst (v := nI 0) rfl (by decide) ?_
        refine mw_iast_m rfl (by first | rfl | exact rfl | exact (q0 rfl) | exact (q1 rfl) | exact (q4 rfl) | exact hP0 | exact hP5) (by omega) (by omega) ?_
        first | rw [vI_upd] | rw [vI_updv] | skip
        refine mw_iconst (v := nI 1) rfl (by decide) ?_
        refine mw_istore rfl (Nat.le_of_ble_eq_true rfl) ?_
        rw [e1, e2]
        have loopK : ∀ j, j ≤ v (45 + 18 * r + 1) → MW M_X1_fill (d + 3) 0 0 n post 105 [(0, .ref 56), (1, .ref 1), (2, .int (nI r)), (3, .ref (7 + 5 * r)), (4, .int (nI (j + 1)))] [] (mov (grL (mkG st sf (v 2) (updN hs r (st (v (45 + 18 * r + 2 + 4 * 0)))) (updN pr r (v (45 + 18 * r))) (updN pc r (plN v r j)) (updN lc r (v (45 + 18 * r + 1))) sr ru hd bd mg)) h) n 0 := by
          refine loop_up (v (45 + 18 * r + 1)) ?_ ?_
          · refine mw_iload rfl rfl ?_
            refine mw_aload_n (i := 3) rfl rfl rfl ?_
            refine mw_getfield rfl f_X1_64 (by first | rfl | exact rfl | exact (q0 rfl) | exact (q1 rfl) | exact (q4 rfl) | exact hP0 | exact hP5) rfl ?_
            rw [e2]
            refine mw_n_gt rfl (by omega) (by omega) (fun hc => ?_) (fun hc => ?_)
            · have hGJ : GI v (enF v r) ru hd bd := j3
              refine mw_aload_n (i := 0) rfl rfl rfl ?_
              refine mw_getfield rfl f_X1_27 (by first | rfl | exact rfl | exact (q0 rfl) | exact (q1 rfl) | exact (q4 rfl) | exact hP0 | exact hP5) rfl ?_
              refine mw_iload_n (i := 2) rfl rfl rfl ?_
              refine mw_iconst (v := nI 1) rfl (by decide) ?_
              first | refine mw_nadd rfl ?_ | refine mw_iadd rfl ?_
              refine mw_aload_n (i := 0) rfl rfl rfl ?_
              refine mw_aload_n (i := 3) rfl rfl rfl ?_
              refine mw_iload_n (i := 2) rfl rfl rfl ?_
              refine mw_aload_n (i := 1) rfl rfl rfl ?_
              refine mw_getfield rfl f_X1_71 (by first | rfl | exact rfl | exact (q0 rfl) | exact (q1 rfl) | exact (q4 rfl) | exact hP0 | exact hP5) rfl ?_
              rw [show P.c = v 0 from vc]
              refine mw_callV (c_fillInstances d n r R v (mkG st sf (v 2) (updN hs r (st (v (45 + 18 * r + 2 + 4 * 0)))) (updN pr r (v (45 + 18 * r))) (updN pc r (plN v r (v (45 + 18 * r + 1)))) (updN lc r (v (45 + 18 * r + 1))) sr ru hd bd mg) h hR0 ⟨e1, e2, ea⟩ hRS hok hr j4 (updN_same _ _ _) (j2 r (Nat.le_refl _)) hGJ) rfl ok_X1_fillInstances v_X1_74 rfl (by first | rfl | exact rfl | exact (q0 rfl) | exact (q1 rfl) | exact (q4 rfl) | exact hP0 | exact hP5) (by intro e; cases e) rfl (Nat.le_of_ble_eq_true rfl) rfl (Nat.le_of_ble_eq_true rfl) (by omega) (by omega) (by omega) ?_
              intro r2 h2 hq2
              obtain ⟨rfl, ru', hd', bd', mg', rfl, hG', hm'⟩ := hq2
              refine mw_iast_m rfl (by first | rfl | exact rfl | exact (q0 rfl) | exact (q1 rfl) | exact (q4 rfl) | exact hP0 | exact hP5) (by omega) (by omega) ?_
              first | rw [vI_upd] | rw [vI_updv] | skip
              first | refine mw_ninc rfl rfl (Nat.le_of_ble_eq_true rfl) ?_ | refine mw_iinc rfl rfl rfl (Nat.le_of_ble_eq_true rfl) ?_
              refine mw_goto rfl ?_
              refine mw_locals rfl (mw_heap rfl (ih (updN hs r (st (v (45 + 18 * r + 2 + 4 * 0)))) (updN pr r (v (45 + 18 * r))) (updN pc r (plN v r (v (45 + 18 * r + 1)))) (updN lc r (v (45 + 18 * r + 1))) (updN sr (r + 1) (enF v (r + 1)).1) ru' hd' bd' mg' ⟨?_, ?_, hG', hm'⟩))
              · intro q hq
                show updN hs r _ q = st (v (45 + 18 * q + 2 + 4 * 0)) ∧ updN pr r _ q = v (45 + 18 * q) ∧ updN pc r _ q = plT v q ∧ updN lc r _ q = v (45 + 18 * q + 1)
                by_cases e : q = r
                · subst e
                  rw [updN_same, updN_same, updN_same, updN_same]
                  exact ⟨rfl, rfl, rfl, rfl⟩
                · rw [updN_ne _ _ e, updN_ne _ _ e, updN_ne _ _ e, updN_ne _ _ e]
                  exact j1 q (by omega)
              · intro q hq
                show updN sr (r + 1) _ q = (enF v q).1
                by_cases e : q = r + 1
                · subst e
                  rw [updN_same]
                · rw [updN_ne _ _ e]
                  exact j2 q (by omega)
            · omega
          · intro j hj ihj
            have gk : bIf R.ng (j + 1) = bI (decide (v (45 + 18 * r + 2 + 4 * (j + 1) + 3) ≠ 0)) := congrArg bI ((ea (j + 1) (by omega)).2.2.2 (by omega))
            have more : ∀ x : Nat, plN v r (j + 1) = plN v r j + x → MW M_X1_fill (d + 3) 0 0 n post 136 [(0, .ref 56), (1, .ref 1), (2, .int (nI r)), (3, .ref (7 + 5 * r)), (4, .int (nI (j + 1)))] [.int (nI x), .int (nI (plN v r j)), .int (nI r), .ref 60] (mov (grL (mkG st sf (v 2) (updN hs r (st (v (45 + 18 * r + 2 + 4 * 0)))) (updN pr r (v (45 + 18 * r))) (updN pc r (plN v r j)) (updN lc r (v (45 + 18 * r + 1))) sr ru hd bd mg)) h) n 0 := by
              intro x hx
              first | refine mw_nadd rfl ?_ | refine mw_iadd rfl ?_
              refine mw_iast_m rfl (by first | rfl | exact rfl | exact (q0 rfl) | exact (q1 rfl) | exact (q4 rfl) | exact hP0 | exact hP5) (by omega) (by omega) ?_
              first | rw [vI_upd] | rw [vI_updv] | skip
              first | refine mw_ninc rfl rfl (Nat.le_of_ble_eq_true rfl) ?_ | refine mw_iinc rfl rfl rfl (Nat.le_of_ble_eq_true rfl) ?_
              refine mw_goto rfl ?_
              refine mw_locals rfl (mw_heap ?_ ihj)
              rw [hx]
              have e := updN_2 pc r (plN v r j) (plN v r j + x)
              rw [← e]
              rfl
            refine mw_iload rfl rfl ?_
            refine mw_aload_n (i := 3) rfl rfl rfl ?_
            refine mw_getfield rfl f_X1_64 (by first | rfl | exact rfl | exact (q0 rfl) | exact (q1 rfl) | exact (q4 rfl) | exact hP0 | exact hP5) rfl ?_
            rw [e2]
            refine mw_n_gt rfl (by omega) (by omega) (fun hc => ?_) (fun hc => ?_)
            · omega
            · refine mw_aload_n (i := 0) rfl rfl rfl ?_
              refine mw_getfield rfl f_X1_21 (by first | rfl | exact rfl | exact (q0 rfl) | exact (q1 rfl) | exact (q4 rfl) | exact hP0 | exact hP5) rfl ?_
              refine mw_iload_n (i := 2) rfl rfl rfl ?_
              refine mw_dup2 rfl rfl rfl ?_
              refine mw_iald_v rfl (by first | rfl | exact rfl | exact (q0 rfl) | exact (q1 rfl) | exact (q4 rfl) | exact hP0 | exact hP5) (by omega) (by omega) (show vI (updN pc r (plN v r j)) r = nI (plN v r j) from congrArg nI (updN_same _ _ _)) ?_
              refine mw_aload_n (i := 3) rfl rfl rfl ?_
              refine mw_getfield rfl f_X1_67 (by first | rfl | exact rfl | exact (q0 rfl) | exact (q1 rfl) | exact (q4 rfl) | exact hP0 | exact hP5) rfl ?_
              refine mw_iload rfl rfl ?_
              refine mw_zald_v rfl (q4 rfl) (by omega) (by omega) gk ?_
              refine mw_b_eq rfl (fun hb => ?_) (fun hb => ?_)
              · have hv0 : v (45 + 18 * r + 2 + 4 * (j + 1) + 3) = 0 := by simpa using hb
                refine mw_iconst (v := nI 1) rfl (by decide) ?_
                exact mw_locals rfl (more 1 (plN_1 hv0))
              · have hv0 : v (45 + 18 * r + 2 + 4 * (j + 1) + 3) ≠ 0 := of_decide_eq_true hb
                refine mw_iconst (v := nI 0) rfl (by decide) ?_
                refine mw_goto rfl ?_
                exact mw_locals rfl (more 0 (plN_0 hv0))
        exact mw_locals rfl (mw_heap rfl (loopK 0 (Nat.zero_le _)))
  refine mw_iconst (v := nI 0) rfl (by decide) ?_
  refine mw_istore_n (i := 2) rfl rfl (Nat.le_of_ble_eq_true rfl) ?_
  have loopM : ∀ t, t ≤ 6 → ∀ mg : Nat → Nat, (∀ q, q < t → mg q = q) → MW M_X1_fill (d + 3) 0 0 n post 15 [(0, .ref 56), (1, .ref 1), (2, .int (nI t))] [] (mov (grL (mkG st sf (v 2) g.hs g.pr g.pc g.lc g.sr g.ru g.hd g.bd mg)) h) n 0 := by
    refine loop_up 6 ?_ ?_
    · intro mg hm
      refine mw_iload_n (i := 2) rfl rfl rfl ?_
      refine mw_bipush (v := nI 6) rfl (by decide) ?_
      refine mw_n_ge rfl (by omega) (by omega) (fun hc => ?_) (fun hc => ?_)
      · refine mw_aload_n (i := 0) rfl rfl rfl ?_
        refine mw_getfield rfl f_X1_27 (by first | rfl | exact rfl | exact (q0 rfl) | exact (q1 rfl) | exact (q4 rfl) | exact hP0 | exact hP5) rfl ?_
        refine mw_iconst (v := nI 0) rfl (by decide) ?_
        refine mw_iconst (v := nI 0) rfl (by decide) ?_
        refine mw_iast_m rfl (by first | rfl | exact rfl | exact (q0 rfl) | exact (q1 rfl) | exact (q4 rfl) | exact hP0 | exact hP5) (by omega) (by omega) ?_
        first | rw [vI_upd] | rw [vI_updv] | skip
        refine mw_iconst (v := nI 0) rfl (by decide) ?_
        refine mw_istore_n (i := 2) rfl rfl (Nat.le_of_ble_eq_true rfl) ?_
        refine mw_locals rfl (mw_heap rfl (loopR 0 (Nat.zero_le _) g.hs g.pr g.pc g.lc (updN g.sr 0 0) g.ru g.hd g.bd mg ⟨fun q hq => absurd hq (Nat.not_lt_zero q), fun q hq => ?_, fun i hi => absurd hi (Nat.not_lt_zero i), hm⟩))
        have : q = 0 := by omega
        subst this
        exact updN_same g.sr 0 0
      · omega
    · intro t ht ih mg hm
      refine mw_iload_n (i := 2) rfl rfl rfl ?_
      refine mw_bipush (v := nI 6) rfl (by decide) ?_
      refine mw_n_ge rfl (by omega) (by omega) (fun hc => ?_) (fun hc => ?_)
      · omega
      · refine mw_aload_n (i := 0) rfl rfl rfl ?_
        refine mw_getfield rfl f_X1_39 (by first | rfl | exact rfl | exact (q0 rfl) | exact (q1 rfl) | exact (q4 rfl) | exact hP0 | exact hP5) rfl ?_
        refine mw_iload_n (i := 2) rfl rfl rfl ?_
        refine mw_iload_n (i := 2) rfl rfl rfl ?_
        refine mw_iast_m rfl (by first | rfl | exact rfl | exact (q0 rfl) | exact (q1 rfl) | exact (q4 rfl) | exact hP0 | exact hP5) (by omega) (by omega) ?_
        first | rw [vI_upd] | rw [vI_updv] | skip
        first | refine mw_ninc rfl rfl (Nat.le_of_ble_eq_true rfl) ?_ | refine mw_iinc rfl rfl rfl (Nat.le_of_ble_eq_true rfl) ?_
        refine mw_goto rfl ?_
        refine mw_locals rfl (mw_heap rfl (ih (updN mg t t) (fun q hq => ?_)))
        by_cases e : q = t
        · subst e; rw [updN_same]
        · rw [updN_ne _ _ e]; exact hm q (by omega)
  exact mw_locals rfl (loopM 0 (Nat.zero_le _) g.mg (fun q hq => absurd hq (Nat.not_lt_zero q)))
