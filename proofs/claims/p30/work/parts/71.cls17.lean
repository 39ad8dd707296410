/-! THE CLASS'S LIKELIHOODS: compute -/
theorem uf_gt {x y : UInt32} (hx : UF x) (hy : UF y) : (0 < Op.cmpValue (FP.fcmp x y) .g) ↔ y.toNat < x.toNat := by
  rw [uf_cmp hx hy]
  rcases Nat.lt_trichotomy x.toNat y.toNat with h | h | h
  · rw [Nat.compare_eq_lt.mpr h]
    exact ⟨fun q => absurd q (by decide), fun q => by omega⟩
  · rw [Nat.compare_eq_eq.mpr h]
    exact ⟨fun q => absurd q (by decide), fun q => by omega⟩
  · rw [Nat.compare_eq_gt.mpr h]
    exact ⟨fun _ => h, fun _ => by decide⟩
abbrev LO : MC := .inr (3, [.ref 80])
abbrev lkC (l : Nat → UInt32) : MLs := [(80, .inl (.float, 216, .inr (.inr (.inl l))))]
theorem c_raise (d n f : Nat) (x : UInt32) (l : Nat → UInt32) (h : Nat → MC) (h79 : h 79 = LO) (hf : f < 216) (hx : UF x) (hl : UFa l) : Fn M_X3_raise d 0 0 [.ref 79, .int (nI f), .float x] (mov (lkC l) h) n (some (.int (bI (klR l f x).2))) (mov (lkC (klR l f x).1) h) := by
  refine Fn.of fun post hp => ?_
  unfold klR at hp
  refine mw_fload_n (i := 2) rfl rfl rfl ?_
  refine mw_aload_n (i := 0) rfl rfl rfl ?_
  refine mw_getfield rfl f_X3_9 (by first | rfl | exact rfl | exact h79) rfl ?_
  refine mw_iload_n (i := 1) rfl rfl rfl ?_
  refine mw_fald rfl (by first | rfl | exact rfl | exact h79) (by omega) (by omega) ?_
  refine mw_fcmp rfl ?_
  refine mw_if_gt rfl (fun hc => ?_) (fun hc => ?_)
  · rw [if_pos ((uf_gt hx (hl f)).mp hc)] at hp
    refine mw_aload_n (i := 0) rfl rfl rfl ?_
    refine mw_getfield rfl f_X3_9 (by first | rfl | exact rfl | exact h79) rfl ?_
    refine mw_iload_n (i := 1) rfl rfl rfl ?_
    refine mw_fload_n (i := 2) rfl rfl rfl ?_
    refine mw_fast_m rfl (by first | rfl | exact rfl | exact h79) (by omega) (by omega) ?_
    refine mw_iconst (v := nI 1) rfl (by decide) ?_
    first | exact mw_ireturn rfl rfl (bI_nar _) rfl (Nat.le_refl _) (hp) | exact mw_ireturn rfl rfl rfl rfl (Nat.le_refl _) (hp)
  · rw [if_neg (fun q => hc ((uf_gt hx (hl f)).mpr q))] at hp
    refine mw_iconst (v := nI 0) rfl (by decide) ?_
    first | exact mw_ireturn rfl rfl (bI_nar _) rfl (Nat.le_refl _) (hp) | exact mw_ireturn rfl rfl rfl rfl (Nat.le_refl _) (hp)
theorem c_klikeBy (d n j : Nat) (v : Nat → Nat) (l : Nat → UInt32) (S : HoS) (tot : Nat) (hs oh : Nat → Nat) (g : GD) (h : Nat → MC) (hg : GrAt h g) (hG : GrOk v g) (hok : OkN v) (hH : HdOk v S tot hs oh) (hj : j < S.1) (h79 : h 79 = LO) (hl : UFa l) : Fn M_X3_likelihoodBy d 0 0 [.ref 79, .ref 56, .int (nI (hs j))] (mov (lkC l) h) n (some (.float (klB S l j))) (mov (lkC l) h) := by
  refine Fn.of fun post hp => ?_
  obtain ⟨a1, a2, a3, a4, a5, a6, a7, a8, a9, a10⟩ := hH.at hok hG hj
  have h8 := hok.2.2.2.1
  have eB : klB S l j = itN (fun k y => FP.fmul y (l (g.bd (hs j * 3 + k)))) FP.fconst1 (plT v (S.2.1 j)) := (a10 UInt32 (fun f y => FP.fmul y (l f)) FP.fconst1).symm
  rw [eB] at hp
  have b1 : vI g.ru (hs j) = nI (S.2.1 j) := congrArg nI a3
  have b3 : vI g.pc (S.2.1 j) = nI (plT v (S.2.1 j)) := congrArg nI a7
  generalize S.2.1 j = r at a2 a6 a9 b1 b3 hp
  generalize plT v r = pl at a6 a9 b3 hp
  have hu : ∀ k, UF (itN (fun k y => FP.fmul y (l (g.bd (hs j * 3 + k)))) FP.fconst1 k) := fun k => by
    induction k with
    | zero => exact uf_1
    | succ k ih => exact uf_m ih (hl _)
  refine mw_iload_n (i := 2) rfl rfl rfl ?_
  refine mw_iconst (v := nI 3) rfl (by decide) ?_
  first | refine mw_nmul rfl ?_ | refine mw_imul rfl ?_
  refine mw_istore_n (i := 3) rfl rfl (Nat.le_of_ble_eq_true rfl) ?_
  refine mw_aload_n (i := 1) rfl rfl rfl ?_
  refine mw_getfield rfl f_X3_50 (by first | rfl | exact rfl | exact hg.1 | exact hg.2.2.2.2.1 | exact hg.2.2.2.2.2.2.2.1 | exact hg.2.2.2.2.2.2.2.2.2.1 | exact h79) rfl ?_
  refine mw_aload_n (i := 1) rfl rfl rfl ?_
  refine mw_getfield rfl f_X3_53 (by first | rfl | exact rfl | exact hg.1 | exact hg.2.2.2.2.1 | exact hg.2.2.2.2.2.2.2.1 | exact hg.2.2.2.2.2.2.2.2.2.1 | exact h79) rfl ?_
  refine mw_iload_n (i := 2) rfl rfl rfl ?_
  refine mw_iald_v rfl (by first | rfl | exact rfl | exact hg.1 | exact hg.2.2.2.2.1 | exact hg.2.2.2.2.2.2.2.1 | exact hg.2.2.2.2.2.2.2.2.2.1 | exact h79) (by omega) (by omega) b1 ?_
  refine mw_iald_v rfl (by first | rfl | exact rfl | exact hg.1 | exact hg.2.2.2.2.1 | exact hg.2.2.2.2.2.2.2.1 | exact hg.2.2.2.2.2.2.2.2.2.1 | exact h79) (by omega) (by omega) b3 ?_
  refine mw_istore rfl (Nat.le_of_ble_eq_true rfl) ?_
  refine mw_fconst1 rfl ?_
  refine mw_fstore rfl (Nat.le_of_ble_eq_true rfl) ?_
  refine mw_iload_n (i := 3) rfl rfl rfl ?_
  refine mw_istore rfl (Nat.le_of_ble_eq_true rfl) ?_
  have loop : ∀ k, k ≤ pl → MW M_X3_likelihoodBy d 0 0 n post 23 [(0, .ref 79), (1, .ref 56), (3, .int (nI (hs j * 3))), (4, .int (nI pl)), (5, .float (itN (fun k y => FP.fmul y (l (g.bd (hs j * 3 + k)))) FP.fconst1 k)), (6, .int (nI (hs j * 3 + k)))] [] (mov (lkC l) h) n 0 := by
    refine loop_up pl ?_ ?_
    · refine mw_iload rfl rfl ?_
      refine mw_iload_n (i := 3) rfl rfl rfl ?_
      refine mw_iload rfl rfl ?_
      first | refine mw_nadd rfl ?_ | refine mw_iadd rfl ?_
      refine mw_n_ge rfl (by omega) (by omega) (fun hc => ?_) (fun hc => ?_)
      · refine mw_fload rfl rfl ?_
        exact mw_freturn rfl rfl rfl (Nat.le_refl _) (hp)
      · omega
    · intro k hk ih
      have hb := a9 k hk
      refine mw_iload rfl rfl ?_
      refine mw_iload_n (i := 3) rfl rfl rfl ?_
      refine mw_iload rfl rfl ?_
      first | refine mw_nadd rfl ?_ | refine mw_iadd rfl ?_
      refine mw_n_ge rfl (by omega) (by omega) (fun hc => ?_) (fun hc => ?_)
      · omega
      · refine mw_fload rfl rfl ?_
        refine mw_aload_n (i := 0) rfl rfl rfl ?_
        refine mw_getfield rfl f_X3_9 (by first | rfl | exact rfl | exact hg.1 | exact hg.2.2.2.2.1 | exact hg.2.2.2.2.2.2.2.1 | exact hg.2.2.2.2.2.2.2.2.2.1 | exact h79) rfl ?_
        refine mw_aload_n (i := 1) rfl rfl rfl ?_
        refine mw_getfield rfl f_X3_56 (by first | rfl | exact rfl | exact hg.1 | exact hg.2.2.2.2.1 | exact hg.2.2.2.2.2.2.2.1 | exact hg.2.2.2.2.2.2.2.2.2.1 | exact h79) rfl ?_
        refine mw_iload rfl rfl ?_
        refine mw_iald rfl (by first | rfl | exact rfl | exact hg.1 | exact hg.2.2.2.2.1 | exact hg.2.2.2.2.2.2.2.1 | exact hg.2.2.2.2.2.2.2.2.2.1 | exact h79) (by omega) (by omega) ?_
        refine mw_fald rfl (by first | rfl | exact rfl | exact hg.1 | exact hg.2.2.2.2.1 | exact hg.2.2.2.2.2.2.2.1 | exact hg.2.2.2.2.2.2.2.2.2.1 | exact h79) (by omega) (by omega) ?_
        refine mw_fmul rfl (uf_n32 (uf_m (hu k) (hl _))) ?_
        refine mw_fstore rfl (Nat.le_of_ble_eq_true rfl) ?_
        first | refine mw_ninc rfl rfl (Nat.le_of_ble_eq_true rfl) ?_ | refine mw_iinc rfl rfl rfl (Nat.le_of_ble_eq_true rfl) ?_
        refine mw_goto rfl ?_
        exact mw_locals rfl ih
  exact mw_locals rfl (loop 0 (Nat.zero_le _))
set_option maxRecDepth 20000 in
theorem c_klcompute (d n : Nat) (P : PgS) (v : Nat → Nat) (l0 : Nat → UInt32) (S : HoS) (tot : Nat) (hs oh : Nat → Nat) (g : GD) (h : Nat → MC) (hP : PgAt h 1 P) (hV : PgV P v) (hg : GrAt h g) (hG : GrOk v g) (hok : OkN v) (hS : HoOk v S) (hH : HdOk v S tot hs oh) (h79 : h 79 = LO) (h69 : h 69 = .inr (2, [.ref 70, .int (nI tot), .ref 71])) (h70 : h 70 = .inl (.int, 1728, .inl (vI hs))) (hl0 : ∀ f, 216 ≤ f → l0 f = FP.fconst0) :
    Sp M_X3_compute (d + 1) 0 0 [.ref 79, .ref 1, .ref 56, .ref 69] (mov (lkC l0) h) n (fun r h1 => r = none ∧ ∃ l : Nat → UInt32, h1 = mov (lkC l) h ∧ KlOk v S l) := by
  show MW _ _ _ _ _ _ _ _ _ _ _ _
  generalize hpost : (fun (r : Option Value) (h1 : Nat → MC) => r = none ∧ ∃ l : Nat → UInt32, h1 = mov (lkC l) h ∧ KlOk v S l) = post
  have hp : ∀ l : Nat → UInt32, KlOk v S l → post none (mov (lkC l) h) := by
    intro l h1
    rw [← hpost]
    exact ⟨rfl, l, rfl, h1⟩
  clear hpost
  have hP0 : h 1 = _ := hP.cell (i := 0) (by omega)
  have hP2 : h 3 = _ := hP.cell (i := 2) (by omega)
  have hP4 : h 5 = _ := hP.cell (i := 4) (by omega)
  have hf12 := hok.2.2.1
  have hS1 := hS.1
  have htot := hH.1
  obtain ⟨vc, vpl, vfc, vfa, vrc, vru⟩ := hV
  obtain ⟨K, hK1, hK2⟩ := kl_settle hok hS
  have loop : ∀ k, k ≤ 218 → (∀ i, i < k → (klP S (itN (fun _ l => (klP S l).1) (klBase v) i)).2 = true) → MW M_X3_compute (d + 1) 0 0 n post 72 [(0, .ref 79), (2, .ref 56), (3, .ref 69), (4, .int (bI true)), (5, .int (nI k))] [] (mov (lkC (itN (fun _ l => (klP S l).1) (klBase v) k)) h) n 0 := by
    refine loop_up 218 ?_ ?_
    · intro hj
      obtain ⟨f, hf⟩ := (klP_up (S := S) S.1).2.1 (hj K (by omega))
      have e : (itN (klI S) (itN (fun _ l => (klP S l).1) (klBase v) K, false) S.1).1 = itN (fun _ l => (klP S l).1) (klBase v) K := hK2
      rw [e] at hf
      omega
    · intro k hk ih hj
      have hU := klIt_uf hok (S := S) k
      have hKl : (klP S (itN (fun _ l => (klP S l).1) (klBase v) k)).2 = false → KlOk v S (itN (fun _ l => (klP S l).1) (klBase v) k) := fun hfl => kl_ok hok hS ((klP_up (S := S) S.1).1 hfl)
      have eS : itN (fun _ l => (klP S l).1) (klBase v) (k + 1) = (klP S (itN (fun _ l => (klP S l).1) (klBase v) k)).1 := rfl
      rw [eS] at ih
      have hj' : (klP S (itN (fun _ l => (klP S l).1) (klBase v) k)).2 = true → ∀ i, i < k + 1 → (klP S (itN (fun _ l => (klP S l).1) (klBase v) i)).2 = true := fun hfl i hi => by
        by_cases e : i = k
        · subst e; exact hfl
        · exact hj i (by omega)
      generalize itN (fun _ l => (klP S l).1) (klBase v) k = l at ih hU hKl hj' ⊢
      have hfx := (klP_up (S := S) (l := l) S.1).1
      refine mw_iload rfl rfl ?_
      refine mw_b_eq rfl (fun hz => ?_) (fun hz => ?_)
      · cases hz
      · refine mw_iload rfl rfl ?_
        refine mw_sipush (v := nI 218) rfl (by decide) ?_
        refine mw_n_ge rfl (by omega) (by omega) (fun hc => ?_) (fun hc => ?_)
        · omega
        · refine mw_iconst (v := nI 0) rfl (by decide) ?_
          refine mw_istore rfl (Nat.le_of_ble_eq_true rfl) ?_
          refine mw_iconst (v := nI 0) rfl (by decide) ?_
          refine mw_istore rfl (Nat.le_of_ble_eq_true rfl) ?_
          have inner : ∀ j, j ≤ S.1 → ∀ x : Int32, MW M_X3_compute (d + 1) 0 0 n post 91 [(0, .ref 79), (2, .ref 56), (3, .ref 69), (4, .int (bI (itN (klI S) (l, false) j).2)), (5, .int (nI k)), (6, .int (nI j))] [] (mov (lkC (itN (klI S) (l, false) j).1) h) n 0 := by
            refine loop_up S.1 ?_ ?_
            · intro x
              have eP : itN (klI S) (l, false) S.1 = klP S l := rfl
              rw [eP]
              refine mw_iload rfl rfl ?_
              refine mw_aload_n (i := 3) rfl rfl rfl ?_
              refine mw_getfield rfl f_X3_33 (by first | rfl | exact rfl | exact h79 | exact h69 | exact h70 | exact hP0 | exact hP2 | exact hP4 | exact hg.1 | exact hg.2.2.2.2.2.2.2.2.1) rfl ?_
              rw [htot]
              refine mw_n_ge rfl (by omega) (by omega) (fun hc => ?_) (fun hc => ?_)
              · cases hfl : (klP S l).2
                · have e2 : (klP S l).1 = l := hfx hfl
                  rw [e2]
                  first | refine mw_ninc rfl rfl (Nat.le_of_ble_eq_true rfl) ?_ | refine mw_iinc rfl rfl rfl (Nat.le_of_ble_eq_true rfl) ?_
                  refine mw_goto rfl ?_
                  refine mw_iload rfl rfl ?_
                  refine mw_b_eq rfl (fun hq => ?_) (fun hq => ?_)
                  · exact mw_return rfl rfl rfl (Nat.le_refl _) ((hp l (hKl hfl)))
                  · cases hq
                · first | refine mw_ninc rfl rfl (Nat.le_of_ble_eq_true rfl) ?_ | refine mw_iinc rfl rfl rfl (Nat.le_of_ble_eq_true rfl) ?_
                  refine mw_goto rfl ?_
                  exact mw_locals rfl (ih (hj' hfl))
              · omega
            · intro j hj1 ihj x
              obtain ⟨a1, a2, a3, a4, a5, -⟩ := hH.at hok hG hj1
              have e1 : vI g.hd (hs j) = nI (S.2.2.1 j) := congrArg nI a5
              have hUj := klIs_uf (S := S) (p := (l, false)) hU j
              have eI : itN (klI S) (l, false) (j + 1) = klI S j (itN (klI S) (l, false) j) := rfl
              rw [eI] at ihj
              generalize itN (klI S) (l, false) j = T at ihj hUj ⊢
              refine mw_iload rfl rfl ?_
              refine mw_aload_n (i := 3) rfl rfl rfl ?_
              refine mw_getfield rfl f_X3_33 (by first | rfl | exact rfl | exact h79 | exact h69 | exact h70 | exact hP0 | exact hP2 | exact hP4 | exact hg.1 | exact hg.2.2.2.2.2.2.2.2.1) rfl ?_
              rw [htot]
              refine mw_n_ge rfl (by omega) (by omega) (fun hc => ?_) (fun hc => ?_)
              · omega
              · refine mw_aload_n (i := 3) rfl rfl rfl ?_
                refine mw_getfield rfl f_X3_38 (by first | rfl | exact rfl | exact h79 | exact h69 | exact h70 | exact hP0 | exact hP2 | exact hP4 | exact hg.1 | exact hg.2.2.2.2.2.2.2.2.1) rfl ?_
                refine mw_iload rfl rfl ?_
                refine mw_iald_v rfl (by first | rfl | exact rfl | exact h79 | exact h69 | exact h70 | exact hP0 | exact hP2 | exact hP4 | exact hg.1 | exact hg.2.2.2.2.2.2.2.2.1) (by omega) (by omega) (show vI hs j = nI (hs j) from rfl) ?_
                refine mw_istore rfl (Nat.le_of_ble_eq_true rfl) ?_
                refine mw_aload_n (i := 0) rfl rfl rfl ?_
                refine mw_aload_n (i := 2) rfl rfl rfl ?_
                refine mw_getfield rfl f_X3_41 (by first | rfl | exact rfl | exact h79 | exact h69 | exact h70 | exact hP0 | exact hP2 | exact hP4 | exact hg.1 | exact hg.2.2.2.2.2.2.2.2.1) rfl ?_
                refine mw_iload rfl rfl ?_
                refine mw_iald_v rfl (by first | rfl | exact rfl | exact h79 | exact h69 | exact h70 | exact hP0 | exact hP2 | exact hP4 | exact hg.1 | exact hg.2.2.2.2.2.2.2.2.1) (by omega) (by omega) e1 ?_
                refine mw_aload_n (i := 0) rfl rfl rfl ?_
                refine mw_aload_n (i := 2) rfl rfl rfl ?_
                refine mw_iload rfl rfl ?_
                refine mw_callV_f (c_klikeBy d n j v T.1 S tot hs oh g h hg hG hok hH hj1 h79 hUj) rfl ok_X3_likelihoodBy v_X3_46 rfl (by first | rfl | exact rfl | exact h79 | exact h69 | exact h70 | exact hP0 | exact hP2 | exact hP4 | exact hg.1 | exact hg.2.2.2.2.2.2.2.2.1) (by intro e; cases e) rfl (Nat.le_of_ble_eq_true rfl) rfl (Nat.le_of_ble_eq_true rfl) (by omega) (by omega) (by omega) ?_
                refine mw_callV_f (c_raise d n (S.2.2.1 j) (klB S T.1 j) T.1 h h79 a4 (klB_uf hUj j 3) hUj) rfl ok_X3_raise v_X3_29 rfl (by first | rfl | exact rfl | exact h79 | exact h69 | exact h70 | exact hP0 | exact hP2 | exact hP4 | exact hg.1 | exact hg.2.2.2.2.2.2.2.2.1) (by intro e; cases e) rfl (Nat.le_of_ble_eq_true rfl) rfl (Nat.le_of_ble_eq_true rfl) (by omega) (by omega) (by omega) ?_
                refine mw_b_eq rfl (fun hfl => ?_) (fun hfl => ?_)
                · have eF : (klI S j T).2 = T.2 := by
                    show (_ || _) = _
                    rw [hfl, Bool.or_false]
                  rw [eF] at ihj
                  first | refine mw_ninc rfl rfl (Nat.le_of_ble_eq_true rfl) ?_ | refine mw_iinc rfl rfl rfl (Nat.le_of_ble_eq_true rfl) ?_
                  refine mw_goto rfl ?_
                  exact mw_locals rfl (ihj 0)
                · have eF : (klI S j T).2 = true := by
                    show (_ || _) = _
                    rw [hfl, Bool.or_true]
                  rw [eF] at ihj
                  refine mw_iconst (v := nI 1) rfl (by decide) ?_
                  refine mw_istore rfl (Nat.le_of_ble_eq_true rfl) ?_
                  first | refine mw_ninc rfl rfl (Nat.le_of_ble_eq_true rfl) ?_ | refine mw_iinc rfl rfl rfl (Nat.le_of_ble_eq_true rfl) ?_
                  refine mw_goto rfl ?_
                  exact mw_locals rfl (ihj 0)
          exact mw_locals rfl (inner 0 (Nat.zero_le _) 0)
  have loopB : ∀ k, k ≤ P.fc → MW M_X3_compute (d + 1) 0 0 n post 28 [(0, .ref 79), (1, .ref 1), (2, .ref 56), (3, .ref 69), (4, .int (nI k))] [] (mov (lkC (itN (fun k l => (klR l (v (9 + 3 * k)) (sixF (v (9 + 3 * k + 2)))).1) (fun _ => FP.fconst0) k)) h) n 0 := by
    refine loop_up P.fc ?_ ?_
    · refine mw_iload rfl rfl ?_
      refine mw_aload_n (i := 1) rfl rfl rfl ?_
      refine mw_getfield rfl f_X3_15 (by first | rfl | exact rfl | exact h79 | exact h69 | exact h70 | exact hP0 | exact hP2 | exact hP4 | exact hg.1 | exact hg.2.2.2.2.2.2.2.2.1) rfl ?_
      refine mw_n_ge rfl (by omega) (by omega) (fun hc => ?_) (fun hc => ?_)
      · refine mw_iconst (v := nI 1) rfl (by decide) ?_
        refine mw_istore rfl (Nat.le_of_ble_eq_true rfl) ?_
        refine mw_iconst (v := nI 0) rfl (by decide) ?_
        refine mw_istore rfl (Nat.le_of_ble_eq_true rfl) ?_
        rw [vfc]
        exact mw_locals rfl (loop 0 (Nat.zero_le _) (fun i hi => absurd hi (Nat.not_lt_zero i)))
      · omega
    · intro k hk ih
      have hk2 : k < v 1 := by rw [← vfc]; exact hk
      obtain ⟨g1, g2, g3⟩ := vfa k hk2
      have e1 : vI P.fa k = nI (v (9 + 3 * k)) := congrArg nI g1
      have e2 : vI P.fs k = nI (v (9 + 3 * k + 2)) := congrArg nI g3
      obtain ⟨w1, -, w3, w4⟩ := hok.2.2.2.2.2.1 k hk2
      have hu := sixF_uf w3 w4
      have hU := klBase_uf hok k (by omega)
      have eS : itN (fun k l => (klR l (v (9 + 3 * k)) (sixF (v (9 + 3 * k + 2)))).1) (fun _ => FP.fconst0) (k + 1) = (klR (itN (fun k l => (klR l (v (9 + 3 * k)) (sixF (v (9 + 3 * k + 2)))).1) (fun _ => FP.fconst0) k) (v (9 + 3 * k)) (sixF (v (9 + 3 * k + 2)))).1 := rfl
      rw [eS] at ih
      generalize itN (fun k l => (klR l (v (9 + 3 * k)) (sixF (v (9 + 3 * k + 2)))).1) (fun _ => FP.fconst0) k = T at ih hU ⊢
      refine mw_iload rfl rfl ?_
      refine mw_aload_n (i := 1) rfl rfl rfl ?_
      refine mw_getfield rfl f_X3_15 (by first | rfl | exact rfl | exact h79 | exact h69 | exact h70 | exact hP0 | exact hP2 | exact hP4 | exact hg.1 | exact hg.2.2.2.2.2.2.2.2.1) rfl ?_
      refine mw_n_ge rfl (by omega) (by omega) (fun hc => ?_) (fun hc => ?_)
      · omega
      · refine mw_aload_n (i := 0) rfl rfl rfl ?_
        refine mw_aload_n (i := 1) rfl rfl rfl ?_
        refine mw_getfield rfl f_X3_21 (by first | rfl | exact rfl | exact h79 | exact h69 | exact h70 | exact hP0 | exact hP2 | exact hP4 | exact hg.1 | exact hg.2.2.2.2.2.2.2.2.1) rfl ?_
        refine mw_iload rfl rfl ?_
        refine mw_iald_v rfl (by first | rfl | exact rfl | exact h79 | exact h69 | exact h70 | exact hP0 | exact hP2 | exact hP4 | exact hg.1 | exact hg.2.2.2.2.2.2.2.2.1) (by omega) (by omega) e1 ?_
        refine mw_aload_n (i := 1) rfl rfl rfl ?_
        refine mw_getfield rfl f_X3_25 (by first | rfl | exact rfl | exact h79 | exact h69 | exact h70 | exact hP0 | exact hP2 | exact hP4 | exact hg.1 | exact hg.2.2.2.2.2.2.2.2.1) rfl ?_
        refine mw_iload rfl rfl ?_
        refine mw_iald_v rfl (by first | rfl | exact rfl | exact h79 | exact h69 | exact h70 | exact hP0 | exact hP2 | exact hP4 | exact hg.1 | exact hg.2.2.2.2.2.2.2.2.1) (by omega) (by omega) e2 ?_
        refine mw_i2f rfl ?_
        refine mw_ldcf rfl c_X3_28 ?_
        refine mw_fdiv rfl (uf_n32 hu) ?_
        refine mw_callV_f (c_raise d n (v (9 + 3 * k)) (sixF (v (9 + 3 * k + 2))) T h h79 w1 hu hU) rfl ok_X3_raise v_X3_29 rfl (by first | rfl | exact rfl | exact h79 | exact h69 | exact h70 | exact hP0 | exact hP2 | exact hP4 | exact hg.1 | exact hg.2.2.2.2.2.2.2.2.1) (by intro e; cases e) rfl (Nat.le_of_ble_eq_true rfl) rfl (Nat.le_of_ble_eq_true rfl) (by omega) (by omega) (by omega) ?_
        refine mw_pop rfl rfl ?_
        first | refine mw_ninc rfl rfl (Nat.le_of_ble_eq_true rfl) ?_ | refine mw_iinc rfl rfl rfl (Nat.le_of_ble_eq_true rfl) ?_
        refine mw_goto rfl ?_
        exact mw_locals rfl ih
  refine mw_iconst (v := nI 0) rfl (by decide) ?_
  refine mw_istore rfl (Nat.le_of_ble_eq_true rfl) ?_
  have loopZ : ∀ k, k ≤ 216 → MW M_X3_compute (d + 1) 0 0 n post 3 [(0, .ref 79), (1, .ref 1), (2, .ref 56), (3, .ref 69), (4, .int (nI k))] [] (mov (lkC (cpU l0 (fun _ => FP.fconst0) k)) h) n 0 := by
    refine loop_up 216 ?_ ?_
    · refine mw_iload rfl rfl ?_
      refine mw_sipush (v := nI 216) rfl (by decide) ?_
      refine mw_n_ge rfl (by omega) (by omega) (fun hc => ?_) (fun hc => ?_)
      · refine mw_iconst (v := nI 0) rfl (by decide) ?_
        refine mw_istore rfl (Nat.le_of_ble_eq_true rfl) ?_
        refine mw_locals rfl (mw_heap ?_ (loopB 0 (Nat.zero_le _)))
        have e : cpU l0 (fun _ => FP.fconst0) 216 = fun _ => FP.fconst0 := funext fun f => by
          unfold cpU
          split
          · rfl
          · exact hl0 f (by omega)
        rw [e]
        rfl
      · omega
    · intro k hk ih
      have eS := cpU_s l0 (fun _ => FP.fconst0) k
      rw [← eS] at ih
      refine mw_iload rfl rfl ?_
      refine mw_sipush (v := nI 216) rfl (by decide) ?_
      refine mw_n_ge rfl (by omega) (by omega) (fun hc => ?_) (fun hc => ?_)
      · omega
      · refine mw_aload_n (i := 0) rfl rfl rfl ?_
        refine mw_getfield rfl f_X3_9 (by first | rfl | exact rfl | exact h79 | exact h69 | exact h70 | exact hP0 | exact hP2 | exact hP4 | exact hg.1 | exact hg.2.2.2.2.2.2.2.2.1) rfl ?_
        refine mw_iload rfl rfl ?_
        refine mw_fconst0 rfl ?_
        refine mw_fast_m rfl (by first | rfl | exact rfl | exact h79 | exact h69 | exact h70 | exact hP0 | exact hP2 | exact hP4 | exact hg.1 | exact hg.2.2.2.2.2.2.2.2.1) (by omega) (by omega) ?_
        first | refine mw_ninc rfl rfl (Nat.le_of_ble_eq_true rfl) ?_ | refine mw_iinc rfl rfl rfl (Nat.le_of_ble_eq_true rfl) ?_
        refine mw_goto rfl ?_
        exact mw_locals rfl (mw_heap rfl ih)
  refine mw_locals rfl (mw_heap ?_ (loopZ 0 (Nat.zero_le _)))
  rw [cpU_0]
