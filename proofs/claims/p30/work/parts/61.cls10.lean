/-! THE CLASS'S MODEL: takeHeads, buildStratum, build -/
theorem tk_flag {v : Nat → Nat} {rd r : Nat} (m : Nat → Int32) (b : Bool) : ∀ k, itN (tkB2 v rd r) (m, b) k = ((itN (tkB2 v rd r) (m, false) k).1, b || (itN (tkB2 v rd r) (m, false) k).2)
  | 0 => by show (m, b) = (m, b || false); rw [Bool.or_false]
  | k + 1 => by
    show tkB2 v rd r k (itN (tkB2 v rd r) (m, b) k) = ((tkB2 v rd r k (itN (tkB2 v rd r) (m, false) k)).1, b || (tkB2 v rd r k (itN (tkB2 v rd r) (m, false) k)).2)
    rw [tk_flag m b k]
    generalize itN (tkB2 v rd r) (m, false) k = S
    unfold tkB2 tkC
    by_cases h1 : bOk v r k = true
    · rw [if_pos h1, if_pos h1]
      by_cases h2 : S.1 (fA v (bnd k) r 0) = -1 ∧ andN (hbL v (bnd k) S.1 (nI rd) r) (v (45 + 18 * r + 1)) = true
      · rw [if_pos h2, if_pos h2, Bool.or_true]
      · rw [if_neg h2, if_neg h2]
    · rw [if_neg h1, if_neg h1]
theorem stepM_st {v st : Nat → Nat} {s : Nat} {X : (Nat → Int32) × Nat} (hX : InvX X) (hm : MR X.1 X.2) : ∀ k, InvX (itN (fun _ => stepM v st s) X k) ∧ MR (itN (fun _ => stepM v st s) X k).1 (itN (fun _ => stepM v st s) X k).2
  | 0 => ⟨hX, hm⟩
  | k + 1 => by
    obtain ⟨h1, h2⟩ := stepM_st (v := v) (st := st) (s := s) hX hm k
    exact ⟨InvX_step h1, stepM_MR h2⟩
theorem runS_st {v st : Nat → Nat} {s : Nat} {X : (Nat → Int32) × Nat} (hX : InvX X) (hm : MR X.1 X.2) : InvX (runS v st s X) ∧ MR (runS v st s X).1 (runS v st s X).2 := stepM_st hX hm 217
theorem baseM_MR (v : Nat → Nat) (x : Int32) (n : Nat) : MR (itN (fun k m => if delB x k then upd m (v (9 + 3 * k)) (nI 0) else m) (fun _ => -1) n) 0 := by
  induction n with
  | zero => exact fun f => Or.inl rfl
  | succ n ih =>
    intro f
    show (if delB x n then upd _ (v (9 + 3 * n)) (nI 0) else _) f = -1 ∨ ∃ k, k ≤ 0 ∧ (if delB x n then upd _ (v (9 + 3 * n)) (nI 0) else _) f = nI k
    split
    · by_cases e : f = v (9 + 3 * n)
      · exact Or.inr ⟨0, Nat.le_refl _, by simp [upd, e]⟩
      · have := ih f
        simpa [upd, e] using this
    · exact ih f
theorem mdlV_st {v st : Nat → Nat} (x : Int32) : ∀ s, InvX (itN (runS v st) (baseM v x, 0) s) ∧ MR (itN (runS v st) (baseM v x, 0) s).1 (itN (runS v st) (baseM v x, 0) s).2
  | 0 => ⟨by show 0 + absC _ 216 ≤ 216; rw [Nat.zero_add]; exact absC_le _ _, baseM_MR v x (v 1)⟩
  | s + 1 => by
    obtain ⟨h1, h2⟩ := mdlV_st (v := v) (st := st) x s
    exact runS_st h1 h2
theorem cntM_add (m : Nat → Int32) (lo a : Nat) : ∀ b, cntM m lo (a + b) = cntM m lo a + cntM m (lo + a) b
  | 0 => rfl
  | b + 1 => by
    show cntM m lo (a + b) + (if m (lo + (a + b)) < 0 then 0 else 1) = cntM m lo a + (cntM m (lo + a) b + (if m (lo + a + b) < 0 then 0 else 1))
    rw [cntM_add m lo a b, show lo + (a + b) = lo + a + b by omega]
    omega
theorem cntM_le (m : Nat → Int32) (lo : Nat) : ∀ k, cntM m lo k ≤ k
  | 0 => Nat.le_refl _
  | k + 1 => by
    have := cntM_le m lo k
    show cntM m lo k + (if m (lo + k) < 0 then 0 else 1) ≤ k + 1
    split <;> omega
abbrev mdLA (m : Nat → Int32) (lr ta : Nat) : MLs := [(68, .inl (.int, 216, .inl m)), (67, MO 68 lr ta)]
set_option maxRecDepth 20000 in
theorem c_takeHeadsA (d n r lr ta rd : Nat) (v : Nat → Nat) (m : Nat → Int32) (g : GD) (h : Nat → MC) (hg : GrAt h g) (hG : GrOk v g) (hok : OkN v) (hr : r < v 2) : Fn M_X4_takeHeads (d + 1) 0 0 [.ref 67, .ref 56, .int (nI r), .int (nI rd)] (mov (mdLA m lr ta) h) n (some (.int (bI (itN (tkB2 v rd r) (m, false) 216).2))) (mov (mdLA (itN (tkB2 v rd r) (m, false) 216).1 lr ta) h) := by
  refine Fn.of fun post hp => ?_
  have hG0 := hG
  obtain ⟨-, -, -, hJ, hsr, hI, -⟩ := hG
  have h8 := hok.2.2.2.1
  have hF : itN (enC v r) (enF v r) 216 = enF v (r + 1) := rfl
  have hfold := en_fold (v := v) (v 2) (tkC v rd) hr (m, false) 216 (Nat.le_refl _)
  have hle := enC_le (v := v) (r := r) (S := enF v r) 216
  have hmo := enF_mono (v := v) (k := r + 1) (v 2 - (r + 1))
  rw [show r + 1 + (v 2 - (r + 1)) = v 2 by omega] at hmo
  rw [hF] at hfold hle
  have hN := en_1728 hok (Nat.le_refl (v 2))
  have s0 : vI g.sr r = nI (enF v r).1 := congrArg nI (hsr r (by omega))
  have s1 : vI g.sr (r + 1) = nI (enF v (r + 1)).1 := congrArg nI (hsr (r + 1) (by omega))
  have e2 : itN (tkB2 v rd r) (m, false) 216 = itN (fun j => tkC v rd ((enF v (v 2)).2.1 ((enF v r).1 + j)) ((enF v (v 2)).2.2 ((enF v r).1 + j))) (m, false) ((enF v (r + 1)).1 - (enF v r).1) := hfold.symm
  rw [e2] at hp
  generalize hE : enF v (v 2) = E at hI hmo hN hp
  generalize (enF v r).1 = s at hle s0 hp
  generalize (enF v (r + 1)).1 = s' at hle hmo s1 hp
  refine mw_iconst (v := nI 0) rfl (by decide) ?_
  refine mw_istore rfl (Nat.le_of_ble_eq_true rfl) ?_
  refine mw_aload_n (i := 1) rfl rfl rfl ?_
  refine mw_getfield rfl f_X4_56 (by first | rfl | exact rfl | exact hg.1 | exact hg.2.2.2.2.2.2.1 | exact hg.2.2.2.2.2.2.2.2.1) rfl ?_
  refine mw_iload_n (i := 2) rfl rfl rfl ?_
  refine mw_iald_v rfl (by first | rfl | exact rfl | exact hg.1 | exact hg.2.2.2.2.2.2.1 | exact hg.2.2.2.2.2.2.2.2.1) (by omega) (by omega) s0 ?_
  refine mw_istore rfl (Nat.le_of_ble_eq_true rfl) ?_
  have loop : ∀ j, j ≤ s' - s → ∀ x : Int32, MW M_X4_takeHeads (d + 1) 0 0 n post 11 [(0, .ref 67), (1, .ref 56), (2, .int (nI r)), (3, .int (nI rd)), (4, .int (bI (itN (fun j => tkC v rd (E.2.1 (s + j)) (E.2.2 (s + j))) (m, false) j).2)), (5, .int (nI (s + j)))] [] (mov (mdLA (itN (fun j => tkC v rd (E.2.1 (s + j)) (E.2.2 (s + j))) (m, false) j).1 lr ta) h) n 0 := by
    refine loop_up (s' - s) ?_ ?_
    · intro x
      refine mw_iload rfl rfl ?_
      refine mw_aload_n (i := 1) rfl rfl rfl ?_
      refine mw_getfield rfl f_X4_56 (by first | rfl | exact rfl | exact hg.1 | exact hg.2.2.2.2.2.2.1 | exact hg.2.2.2.2.2.2.2.2.1) rfl ?_
      refine mw_iload_n (i := 2) rfl rfl rfl ?_
      refine mw_iconst (v := nI 1) rfl (by decide) ?_
      first | refine mw_nadd rfl ?_ | refine mw_iadd rfl ?_
      refine mw_iald_v rfl (by first | rfl | exact rfl | exact hg.1 | exact hg.2.2.2.2.2.2.1 | exact hg.2.2.2.2.2.2.2.2.1) (by omega) (by omega) s1 ?_
      refine mw_n_ge rfl (by omega) (by omega) (fun hc => ?_) (fun hc => ?_)
      · refine mw_iload rfl rfl ?_
        first | exact mw_ireturn rfl rfl (bI_nar _) rfl (Nat.le_refl _) (hp) | exact mw_ireturn rfl rfl rfl rfl (Nat.le_refl _) (hp)
      · omega
    · intro j hj ih x
      obtain ⟨hr', hc', eru, ehd, -⟩ := hI (s + j) (by omega)
      have ehdI : vI g.hd (s + j) = nI (fA v (bnd (E.2.2 (s + j))) (E.2.1 (s + j)) 0) := congrArg nI ehd
      have hf : fA v (bnd (E.2.2 (s + j))) (E.2.1 (s + j)) 0 < 216 := fA_lt hok (fun x hx => bndU_lt (fun _ => 0) hc' hx) hr' (Nat.zero_le _)
      have hi' : s + j < (enF v (v 2)).1 := by rw [hE]; omega
      have eS : itN (fun j => tkC v rd (E.2.1 (s + j)) (E.2.2 (s + j))) (m, false) (j + 1) = tkC v rd (E.2.1 (s + j)) (E.2.2 (s + j)) (itN (fun j => tkC v rd (E.2.1 (s + j)) (E.2.2 (s + j))) (m, false) j) := rfl
      rw [eS] at ih
      have eE : ∀ m' : Nat → Int32, andN (hbL v (bnd ((enF v (v 2)).2.2 (s + j))) m' (nI rd) ((enF v (v 2)).2.1 (s + j))) (v (45 + 18 * (enF v (v 2)).2.1 (s + j) + 1)) = andN (hbL v (bnd (E.2.2 (s + j))) m' (nI rd) (E.2.1 (s + j))) (v (45 + 18 * E.2.1 (s + j) + 1)) := fun m' => by rw [hE]
      generalize itN (fun j => tkC v rd (E.2.1 (s + j)) (E.2.2 (s + j))) (m, false) j = T at ih ⊢
      unfold tkC at ih
      refine mw_iload rfl rfl ?_
      refine mw_aload_n (i := 1) rfl rfl rfl ?_
      refine mw_getfield rfl f_X4_56 (by first | rfl | exact rfl | exact hg.1 | exact hg.2.2.2.2.2.2.1 | exact hg.2.2.2.2.2.2.2.2.1) rfl ?_
      refine mw_iload_n (i := 2) rfl rfl rfl ?_
      refine mw_iconst (v := nI 1) rfl (by decide) ?_
      first | refine mw_nadd rfl ?_ | refine mw_iadd rfl ?_
      refine mw_iald_v rfl (by first | rfl | exact rfl | exact hg.1 | exact hg.2.2.2.2.2.2.1 | exact hg.2.2.2.2.2.2.2.2.1) (by omega) (by omega) s1 ?_
      refine mw_n_ge rfl (by omega) (by omega) (fun hc => ?_) (fun hc => ?_)
      · omega
      · refine mw_aload_n (i := 1) rfl rfl rfl ?_
        refine mw_getfield rfl f_X4_59 (by first | rfl | exact rfl | exact hg.1 | exact hg.2.2.2.2.2.2.1 | exact hg.2.2.2.2.2.2.2.2.1) rfl ?_
        refine mw_iload rfl rfl ?_
        refine mw_iald_v rfl (by first | rfl | exact rfl | exact hg.1 | exact hg.2.2.2.2.2.2.1 | exact hg.2.2.2.2.2.2.2.2.1) (by omega) (by omega) ehdI ?_
        refine mw_istore rfl (Nat.le_of_ble_eq_true rfl) ?_
        refine mw_aload_n (i := 0) rfl rfl rfl ?_
        refine mw_getfield rfl f_X4_9 (by first | rfl | exact rfl | exact hg.1 | exact hg.2.2.2.2.2.2.1 | exact hg.2.2.2.2.2.2.2.2.1) rfl ?_
        refine mw_iload rfl rfl ?_
        refine mw_iald rfl (by first | rfl | exact rfl | exact hg.1 | exact hg.2.2.2.2.2.2.1 | exact hg.2.2.2.2.2.2.2.2.1) (by omega) (by omega) ?_
        refine mw_iconst (v := (-1)) rfl (by decide) ?_
        refine mw_icmp_ne rfl (fun hn => ?_) (fun hn => ?_)
        · rw [if_neg (fun q => hn q.1)] at ih
          first | refine mw_ninc rfl rfl (Nat.le_of_ble_eq_true rfl) ?_ | refine mw_iinc rfl rfl rfl (Nat.le_of_ble_eq_true rfl) ?_
          refine mw_goto rfl ?_
          exact mw_locals rfl (ih 0)
        · refine mw_aload_n (i := 0) rfl rfl rfl ?_
          refine mw_aload_n (i := 1) rfl rfl rfl ?_
          refine mw_iload rfl rfl ?_
          refine mw_iload_n (i := 3) rfl rfl rfl ?_
          refine mw_callV_f (c_holdsBeforeA d n (s + j) lr ta rd v T.1 g _ hg hG0 rfl rfl hok hi') rfl ok_X4_holdsBefore v_X4_62 rfl (by first | rfl | exact rfl | exact hg.1 | exact hg.2.2.2.2.2.2.1 | exact hg.2.2.2.2.2.2.2.2.1) (by intro e; cases e) rfl (Nat.le_of_ble_eq_true rfl) rfl (Nat.le_of_ble_eq_true rfl) (by omega) (by omega) (by omega) ?_
          rw [eE]
          refine mw_b_eq rfl (fun hb => ?_) (fun hb => ?_)
          · rw [if_neg (fun q => by rw [hb] at q; exact absurd q.2 (by decide))] at ih
            first | refine mw_ninc rfl rfl (Nat.le_of_ble_eq_true rfl) ?_ | refine mw_iinc rfl rfl rfl (Nat.le_of_ble_eq_true rfl) ?_
            refine mw_goto rfl ?_
            exact mw_locals rfl (ih 0)
          · rw [if_pos ⟨hn, hb⟩] at ih
            refine mw_aload_n (i := 0) rfl rfl rfl ?_
            refine mw_getfield rfl f_X4_9 (by first | rfl | exact rfl | exact hg.1 | exact hg.2.2.2.2.2.2.1 | exact hg.2.2.2.2.2.2.2.2.1) rfl ?_
            refine mw_iload rfl rfl ?_
            refine mw_iload_n (i := 3) rfl rfl rfl ?_
            refine mw_iast_m rfl (by first | rfl | exact rfl | exact hg.1 | exact hg.2.2.2.2.2.2.1 | exact hg.2.2.2.2.2.2.2.2.1) (by omega) (by omega) ?_
            first | rw [vI_upd] | rw [vI_updv] | skip
            refine mw_iconst (v := nI 1) rfl (by decide) ?_
            refine mw_istore rfl (Nat.le_of_ble_eq_true rfl) ?_
            first | refine mw_ninc rfl rfl (Nat.le_of_ble_eq_true rfl) ?_ | refine mw_iinc rfl rfl rfl (Nat.le_of_ble_eq_true rfl) ?_
            refine mw_goto rfl ?_
            exact mw_locals rfl (mw_heap rfl (ih 0))
  exact mw_locals rfl (mw_heap rfl (loop 0 (Nat.zero_le _) 0))
set_option maxRecDepth 20000 in
theorem c_buildStratumA (d n s ta : Nat) (v : Nat → Nat) (X : (Nat → Int32) × Nat) (g : GD) (h : Nat → MC) (hg : GrAt h g) (hG : GrOk v g) (hok : OkN v) (hst : StC v g.st) (hX : InvX X) (hm : MR X.1 X.2) (hs : s < 6) (hst6 : ∀ p, p < 6 → g.st p < 6) : Fn M_X4_buildStratum (d + 2) 0 0 [.ref 67, .ref 56, .int (nI s)] (mov (mdLA X.1 X.2 ta) h) n none (mov (mdLA (runS v g.st s X).1 (runS v g.st s X).2 ta) h) := by
  refine Fn.of fun post hp => ?_
  have hG0 := hG
  obtain ⟨-, -, grc, hJ, -⟩ := hG
  have h8 := hok.2.2.2.1
  have hzero := cnt_zero (v := v) (st := g.st) (s := s) 216 X (absC_le _ _) hX
  have hall := stepM_st (v := v) (st := g.st) (s := s) hX hm
  have loop : ∀ k, k ≤ 218 → (∀ j, j < k → cntS v g.st s (itN (fun _ => stepM v g.st s) X j) ≠ 0) → MW M_X4_buildStratum (d + 2) 0 0 n post 5 [(0, .ref 67), (1, .ref 56), (2, .int (nI s)), (3, .int (bI true)), (4, .int (nI k))] [] (mov (mdLA (itN (fun _ => stepM v g.st s) X k).1 (itN (fun _ => stepM v g.st s) X k).2 ta) h) n 0 := by
    refine loop_up 218 ?_ ?_
    · intro hj
      obtain ⟨i, hi, e⟩ := hzero
      exact absurd e (hj i (by omega))
    · intro k hk ih hj
      obtain ⟨hXk, hmk⟩ := hall k
      have eS : itN (fun _ => stepM v g.st s) X (k + 1) = stepM v g.st s (itN (fun _ => stepM v g.st s) X k) := rfl
      rw [eS] at ih
      have hdone := fun h0 => runS_done (v := v) (st := g.st) (s := s) (X := X) (i := k) (by omega) h0
      have hj' : cntS v g.st s (itN (fun _ => stepM v g.st s) X k) ≠ 0 → ∀ j, j < k + 1 → cntS v g.st s (itN (fun _ => stepM v g.st s) X j) ≠ 0 := fun h1 j hjk => by
        by_cases e : j = k
        · subst e; exact h1
        · exact hj j (by omega)
      generalize itN (fun _ => stepM v g.st s) X k = Y at ih hXk hmk hdone hj' ⊢
      have hY : Y.2 ≤ 216 := by unfold InvX at hXk; omega
      obtain ⟨r1, r2⟩ := rnd_eq hok hst (s := s) (X := Y) (by omega) hmk
      refine mw_iload_n (i := 3) rfl rfl rfl ?_
      refine mw_b_eq rfl (fun hz => ?_) (fun hz => ?_)
      · cases hz
      · refine mw_iload rfl rfl ?_
        refine mw_sipush (v := nI 218) rfl (by decide) ?_
        refine mw_n_ge rfl (by omega) (by omega) (fun hc => ?_) (fun hc => ?_)
        · omega
        · refine mw_iconst (v := nI 0) rfl (by decide) ?_
          refine mw_istore_n (i := 3) rfl rfl (Nat.le_of_ble_eq_true rfl) ?_
          refine mw_iconst (v := nI 0) rfl (by decide) ?_
          refine mw_istore rfl (Nat.le_of_ble_eq_true rfl) ?_
          have inner : ∀ r, r ≤ v 2 → MW M_X4_buildStratum (d + 2) 0 0 n post 22 [(0, .ref 67), (1, .ref 56), (2, .int (nI s)), (3, .int (bI (itN (rnR v g.st s (Y.2 + 1)) (Y.1, false) r).2)), (4, .int (nI k)), (5, .int (nI r))] [] (mov (mdLA (itN (rnR v g.st s (Y.2 + 1)) (Y.1, false) r).1 Y.2 ta) h) n 0 := by
            refine loop_up (v 2) ?_ ?_
            · have eR : itN (rnR v g.st s (Y.2 + 1)) (Y.1, false) (v 2) = rnd v g.st s (Y.2 + 1) Y.1 := rfl
              rw [eR, r1, r2]
              refine mw_iload rfl rfl ?_
              refine mw_aload_n (i := 1) rfl rfl rfl ?_
              refine mw_getfield rfl f_X4_44 (by first | rfl | exact rfl | exact hg.1 | exact hg.2.2.1) rfl ?_
              rw [grc]
              refine mw_n_ge rfl (by omega) (by omega) (fun hc => ?_) (fun hc => ?_)
              · refine mw_iload_n (i := 3) rfl rfl rfl ?_
                refine mw_b_eq rfl (fun hb => ?_) (fun hb => ?_)
                · have h0 : cntS v g.st s Y = 0 := by have := of_decide_eq_false hb; omega
                  have := hdone h0
                  rw [stepM_0 h0]
                  rw [this] at hp
                  first | refine mw_ninc rfl rfl (Nat.le_of_ble_eq_true rfl) ?_ | refine mw_iinc rfl rfl rfl (Nat.le_of_ble_eq_true rfl) ?_
                  refine mw_goto rfl ?_
                  rw [hb]
                  refine mw_iload_n (i := 3) rfl rfl rfl ?_
                  refine mw_b_eq rfl (fun hq => ?_) (fun hq => ?_)
                  · exact mw_return rfl rfl rfl (Nat.le_refl _) (hp)
                  · cases hq
                · have h0 : 0 < cntS v g.st s Y := of_decide_eq_true hb
                  have e2 : (stepM v g.st s Y).2 = Y.2 + 1 := if_pos h0
                  refine mw_aload_n (i := 0) rfl rfl rfl ?_
                  refine mw_dup rfl rfl ?_
                  refine mw_getfield rfl f_X4_21 (by first | rfl | exact rfl | exact hg.1 | exact hg.2.2.1) rfl ?_
                  refine mw_iconst (v := nI 1) rfl (by decide) ?_
                  first | refine mw_nadd rfl ?_ | refine mw_iadd rfl ?_
                  refine mw_putfield_m rfl f_X4_21 (by first | rfl | exact rfl | exact hg.1 | exact hg.2.2.1) (Nat.le_of_ble_eq_true rfl) (fun _ => rfl) (fun _ => rfl) ?_
                  first | refine mw_ninc rfl rfl (Nat.le_of_ble_eq_true rfl) ?_ | refine mw_iinc rfl rfl rfl (Nat.le_of_ble_eq_true rfl) ?_
                  refine mw_goto rfl ?_
                  rw [hb]
                  refine mw_locals rfl (mw_heap ?_ (ih (hj' (by omega))))
                  rw [e2]
                  rfl
              · omega
            · intro r hr ihr
              obtain ⟨ehs, -⟩ := hJ r hr
              have hp6 := ((hok.2.2.2.2.2.2 r hr).2.2.2.2 0 (Nat.zero_le _)).1
              have hs6 := hst6 _ hp6
              have ehsI : vI g.hs r = nI (g.st (v (45 + 18 * r + 2 + 4 * 0))) := congrArg nI ehs
              have eR : itN (rnR v g.st s (Y.2 + 1)) (Y.1, false) (r + 1) = rnR v g.st s (Y.2 + 1) r (itN (rnR v g.st s (Y.2 + 1)) (Y.1, false) r) := rfl
              rw [eR] at ihr
              generalize itN (rnR v g.st s (Y.2 + 1)) (Y.1, false) r = T at ihr ⊢
              unfold rnR at ihr
              refine mw_iload rfl rfl ?_
              refine mw_aload_n (i := 1) rfl rfl rfl ?_
              refine mw_getfield rfl f_X4_44 (by first | rfl | exact rfl | exact hg.1 | exact hg.2.2.1) rfl ?_
              rw [grc]
              refine mw_n_ge rfl (by omega) (by omega) (fun hc => ?_) (fun hc => ?_)
              · omega
              · refine mw_aload_n (i := 1) rfl rfl rfl ?_
                refine mw_getfield rfl f_X4_49 (by first | rfl | exact rfl | exact hg.1 | exact hg.2.2.1) rfl ?_
                refine mw_iload rfl rfl ?_
                refine mw_iald_v rfl (by first | rfl | exact rfl | exact hg.1 | exact hg.2.2.1) (by omega) (by omega) ehsI ?_
                refine mw_iload_n (i := 2) rfl rfl rfl ?_
                refine mw_n_ne rfl (by omega) (by omega) (fun he => ?_) (fun he => ?_)
                · rw [if_neg he] at ihr
                  first | refine mw_ninc rfl rfl (Nat.le_of_ble_eq_true rfl) ?_ | refine mw_iinc rfl rfl rfl (Nat.le_of_ble_eq_true rfl) ?_
                  refine mw_goto rfl ?_
                  exact mw_locals rfl ihr
                · rw [if_pos he, show T = (T.1, T.2) from rfl, tk_flag T.1 T.2 216] at ihr
                  refine mw_aload_n (i := 0) rfl rfl rfl ?_
                  refine mw_aload_n (i := 1) rfl rfl rfl ?_
                  refine mw_iload rfl rfl ?_
                  refine mw_aload_n (i := 0) rfl rfl rfl ?_
                  refine mw_getfield rfl f_X4_21 (by first | rfl | exact rfl | exact hg.1 | exact hg.2.2.1) rfl ?_
                  refine mw_iconst (v := nI 1) rfl (by decide) ?_
                  first | refine mw_nadd rfl ?_ | refine mw_iadd rfl ?_
                  refine mw_callV_f (c_takeHeadsA d n r Y.2 ta (Y.2 + 1) v T.1 g h hg hG0 hok hr) rfl ok_X4_takeHeads v_X4_52 rfl (by first | rfl | exact rfl | exact hg.1 | exact hg.2.2.1) (by intro e; cases e) rfl (Nat.le_of_ble_eq_true rfl) rfl (Nat.le_of_ble_eq_true rfl) (by omega) (by omega) (by omega) ?_
                  refine mw_b_eq rfl (fun hfl => ?_) (fun hfl => ?_)
                  · rw [hfl, Bool.or_false] at ihr
                    first | refine mw_ninc rfl rfl (Nat.le_of_ble_eq_true rfl) ?_ | refine mw_iinc rfl rfl rfl (Nat.le_of_ble_eq_true rfl) ?_
                    refine mw_goto rfl ?_
                    exact mw_locals rfl ihr
                  · rw [hfl, Bool.or_true] at ihr
                    refine mw_iconst (v := nI 1) rfl (by decide) ?_
                    refine mw_istore_n (i := 3) rfl rfl (Nat.le_of_ble_eq_true rfl) ?_
                    first | refine mw_ninc rfl rfl (Nat.le_of_ble_eq_true rfl) ?_ | refine mw_iinc rfl rfl rfl (Nat.le_of_ble_eq_true rfl) ?_
                    refine mw_goto rfl ?_
                    exact mw_locals rfl ihr
          exact mw_locals rfl (inner 0 (Nat.zero_le _))
  refine mw_iconst (v := nI 1) rfl (by decide) ?_
  refine mw_istore_n (i := 3) rfl rfl (Nat.le_of_ble_eq_true rfl) ?_
  refine mw_iconst (v := nI 0) rfl (by decide) ?_
  refine mw_istore rfl (Nat.le_of_ble_eq_true rfl) ?_
  exact mw_locals rfl (loop 0 (Nat.zero_le _) (fun j hj => absurd hj (Nat.not_lt_zero j)))
theorem c_atomsOfA (d n p lr ta R : Nat) (m : Nat → Int32) (h : Nat → MC) (hMO : h 67 = MO 68 lr ta) (hM : h 68 = .inl (.int, 216, .inl m)) (hm : MR m R) (hR : R ≤ 216) (hp6 : p < 6) : Fn M_X4_atomsOf d 0 0 [.ref 67, .int (nI p)] h n (some (.int (nI (cntM m (36 * p) 36)))) h := by
  refine Fn.of fun post hp => ?_
  refine mw_iconst (v := nI 0) rfl (by decide) ?_
  refine mw_istore_n (i := 2) rfl rfl (Nat.le_of_ble_eq_true rfl) ?_
  refine mw_iload_n (i := 1) rfl rfl rfl ?_
  refine mw_bipush (v := nI 36) rfl (by decide) ?_
  first | refine mw_nmul rfl ?_ | refine mw_imul rfl ?_
  refine mw_istore_n (i := 3) rfl rfl (Nat.le_of_ble_eq_true rfl) ?_
  refine mw_iload_n (i := 3) rfl rfl rfl ?_
  refine mw_istore rfl (Nat.le_of_ble_eq_true rfl) ?_
  have loop : ∀ j, j ≤ 36 → MW M_X4_atomsOf d 0 0 n post 10 [(0, .ref 67), (1, .int (nI p)), (2, .int (nI (cntM m (36 * p) j))), (3, .int (nI (p * 36))), (4, .int (nI (p * 36 + j)))] [] h n 0 := by
    refine loop_up 36 ?_ ?_
    · refine mw_iload rfl rfl ?_
      refine mw_iload_n (i := 3) rfl rfl rfl ?_
      refine mw_bipush (v := nI 36) rfl (by decide) ?_
      first | refine mw_nadd rfl ?_ | refine mw_iadd rfl ?_
      refine mw_n_ge rfl (by omega) (by omega) (fun hc => ?_) (fun hc => ?_)
      · refine mw_iload_n (i := 2) rfl rfl rfl ?_
        exact mw_ireturn rfl rfl rfl rfl (Nat.le_refl _) (hp)
      · omega
    · intro j hj ih
      have e : cntM m (36 * p) (j + 1) = cntM m (36 * p) j + (if m (p * 36 + j) = -1 then 0 else 1) := by
        show cntM m (36 * p) j + (if m (36 * p + j) < 0 then 0 else 1) = _
        rw [show 36 * p + j = p * 36 + j by omega]
        by_cases q : m (p * 36 + j) = -1
        · rw [if_pos q, if_pos ((hm.neg (by omega) _).mpr q)]
        · rw [if_neg q, if_neg (fun q' => q ((hm.neg (by omega) _).mp q'))]
      rw [e] at ih
      refine mw_iload rfl rfl ?_
      refine mw_iload_n (i := 3) rfl rfl rfl ?_
      refine mw_bipush (v := nI 36) rfl (by decide) ?_
      first | refine mw_nadd rfl ?_ | refine mw_iadd rfl ?_
      refine mw_n_ge rfl (by omega) (by omega) (fun hc => ?_) (fun hc => ?_)
      · omega
      · refine mw_aload_n (i := 0) rfl rfl rfl ?_
        refine mw_getfield rfl f_X4_9 (by first | rfl | exact hM | exact hMO) rfl ?_
        refine mw_iload rfl rfl ?_
        refine mw_iald rfl (by first | rfl | exact hM | exact hMO) (by omega) (by omega) ?_
        refine mw_iconst (v := (-1)) rfl (by decide) ?_
        refine mw_icmp_eq rfl (fun hc => ?_) (fun hc => ?_)
        · rw [if_pos hc, Nat.add_zero] at ih
          first | refine mw_ninc rfl rfl (Nat.le_of_ble_eq_true rfl) ?_ | refine mw_iinc rfl rfl rfl (Nat.le_of_ble_eq_true rfl) ?_
          refine mw_goto rfl ?_
          exact mw_locals rfl ih
        · rw [if_neg hc] at ih
          first | refine mw_ninc rfl rfl (Nat.le_of_ble_eq_true rfl) ?_ | refine mw_iinc rfl rfl rfl (Nat.le_of_ble_eq_true rfl) ?_
          first | refine mw_ninc rfl rfl (Nat.le_of_ble_eq_true rfl) ?_ | refine mw_iinc rfl rfl rfl (Nat.le_of_ble_eq_true rfl) ?_
          refine mw_goto rfl ?_
          exact mw_locals rfl ih
  exact mw_locals rfl (loop 0 (Nat.zero_le _))
set_option maxRecDepth 20000 in
theorem c_kbuildA (d n lr ta : Nat) (x : Int32) (P : PgS) (v : Nat → Nat) (m0 : Nat → Int32) (g : GD) (h : Nat → MC) (hP : PgAt h 1 P) (hV : PgV P v) (hg : GrAt h g) (hG : GrOk v g) (hok : OkN v) (hst : StC v g.st) (hst6 : ∀ p, p < 6 → g.st p < 6) : Fn M_X4_build (d + 3) 0 0 [.ref 67, .ref 1, .ref 56, .int x] (mov (mdLA m0 lr ta) h) n none (mov (mdLA (mdlV v g.st x).1 (mdlV v g.st x).2 (cntM (mdlV v g.st x).1 0 216)) h) := by
  refine Fn.of fun post hp => ?_
  have hP0 : h 1 = _ := hP.cell (i := 0) (by omega)
  have hP2 : h 3 = _ := hP.cell (i := 2) (by omega)
  have hf12 := hok.2.2.1
  obtain ⟨vc, vpl, vfc, vfa, vrc, vru⟩ := hV
  refine mw_aload_n (i := 0) rfl rfl rfl ?_
  refine mw_getfield rfl f_X4_9 (by first | rfl | exact rfl | exact hP0 | exact hP2) rfl ?_
  refine mw_iconst (v := (-1)) rfl (by decide) ?_
  refine mw_callS_f (c_fill (d + 2) n 68 216 m0 (-1) _ rfl (by omega)) rfl ok_J7_fill_53178 v_X4_15 rfl (Nat.le_of_ble_eq_true rfl) rfl (Nat.le_of_ble_eq_true rfl) (by omega) (by omega) (by omega) ?_
  refine mw_tail (fun _ => -1) (hset_same _ _ _) (fun j hj => by unfold flr; rw [if_pos hj]) ?_
  rw [hset_hset, hset_mov]
  refine mw_aload_n (i := 0) rfl rfl rfl ?_
  refine mw_iconst (v := nI 0) rfl (by decide) ?_
  refine mw_putfield_m rfl f_X4_21 (by first | rfl | exact rfl | exact hP0 | exact hP2) (Nat.le_of_ble_eq_true rfl) (fun _ => rfl) (fun _ => rfl) ?_
  refine mw_iconst (v := nI 0) rfl (by decide) ?_
  refine mw_istore rfl (Nat.le_of_ble_eq_true rfl) ?_
  have loopA : ∀ a, a ≤ 6 → MW M_X4_build (d + 3) 0 0 n post 84 [(0, .ref 67), (4, .int (nI a))] [] (mov (mdLA (mdlV v g.st x).1 (mdlV v g.st x).2 (cntM (mdlV v g.st x).1 0 (36 * a))) h) n 0 := by
    obtain ⟨hXk, hmk⟩ := mdlV_st (v := v) (st := g.st) x 6
    have e6 : itN (runS v g.st) (baseM v x, 0) 6 = mdlV v g.st x := rfl
    rw [e6] at hXk hmk
    generalize mdlV v g.st x = Y at hXk hmk hp ⊢
    have hY : Y.2 ≤ 216 := by unfold InvX at hXk; omega
    refine loop_up 6 ?_ ?_
    · refine mw_iload rfl rfl ?_
      refine mw_bipush (v := nI 6) rfl (by decide) ?_
      refine mw_n_ge rfl (by omega) (by omega) (fun hc => ?_) (fun hc => ?_)
      · exact mw_return rfl rfl rfl (Nat.le_refl _) (hp)
      · omega
    · intro a ha ih
      have hle := cntM_le Y.1 0 (36 * a)
      refine mw_iload rfl rfl ?_
      refine mw_bipush (v := nI 6) rfl (by decide) ?_
      refine mw_n_ge rfl (by omega) (by omega) (fun hc => ?_) (fun hc => ?_)
      · omega
      · refine mw_aload_n (i := 0) rfl rfl rfl ?_
        refine mw_dup rfl rfl ?_
        refine mw_getfield rfl f_X4_37 (by first | rfl | exact rfl | exact hP0 | exact hP2) rfl ?_
        refine mw_aload_n (i := 0) rfl rfl rfl ?_
        refine mw_iload rfl rfl ?_
        refine mw_callV_f (c_atomsOfA (d + 2) n a Y.2 (cntM Y.1 0 (36 * a)) Y.2 Y.1 _ rfl rfl hmk hY ha) rfl ok_X4_atomsOf v_X4_40 rfl (by first | rfl | exact rfl | exact hP0 | exact hP2) (by intro e; cases e) rfl (Nat.le_of_ble_eq_true rfl) rfl (Nat.le_of_ble_eq_true rfl) (by omega) (by omega) (by omega) ?_
        first | refine mw_nadd rfl ?_ | refine mw_iadd rfl ?_
        refine mw_putfield_m rfl f_X4_37 (by first | rfl | exact rfl | exact hP0 | exact hP2) (Nat.le_of_ble_eq_true rfl) (fun _ => rfl) (fun _ => rfl) ?_
        first | refine mw_ninc rfl rfl (Nat.le_of_ble_eq_true rfl) ?_ | refine mw_iinc rfl rfl rfl (Nat.le_of_ble_eq_true rfl) ?_
        refine mw_goto rfl ?_
        refine mw_locals rfl (mw_heap ?_ ih)
        rw [show 36 * (a + 1) = 36 * a + 36 by omega, cntM_add Y.1 0 (36 * a) 36, Nat.zero_add]
        rfl
  have loopS : ∀ s, s ≤ 6 → MW M_X4_build (d + 3) 0 0 n post 56 [(0, .ref 67), (2, .ref 56), (4, .int (nI s))] [] (mov (mdLA (itN (runS v g.st) (baseM v x, 0) s).1 (itN (runS v g.st) (baseM v x, 0) s).2 ta) h) n 0 := by
    refine loop_up 6 ?_ ?_
    · refine mw_iload rfl rfl ?_
      refine mw_bipush (v := nI 6) rfl (by decide) ?_
      refine mw_n_ge rfl (by omega) (by omega) (fun hc => ?_) (fun hc => ?_)
      · refine mw_aload_n (i := 0) rfl rfl rfl ?_
        refine mw_iconst (v := nI 0) rfl (by decide) ?_
        refine mw_putfield_m rfl f_X4_37 (by first | rfl | exact rfl | exact hP0 | exact hP2) (Nat.le_of_ble_eq_true rfl) (fun _ => rfl) (fun _ => rfl) ?_
        refine mw_iconst (v := nI 0) rfl (by decide) ?_
        refine mw_istore rfl (Nat.le_of_ble_eq_true rfl) ?_
        exact mw_locals rfl (mw_heap rfl (loopA 0 (Nat.zero_le _)))
      · omega
    · intro s hs ih
      obtain ⟨hXk, hmk⟩ := mdlV_st (v := v) (st := g.st) x s
      have eS : itN (runS v g.st) (baseM v x, 0) (s + 1) = runS v g.st s (itN (runS v g.st) (baseM v x, 0) s) := rfl
      rw [eS] at ih
      generalize itN (runS v g.st) (baseM v x, 0) s = Y at hXk hmk ih ⊢
      refine mw_iload rfl rfl ?_
      refine mw_bipush (v := nI 6) rfl (by decide) ?_
      refine mw_n_ge rfl (by omega) (by omega) (fun hc => ?_) (fun hc => ?_)
      · omega
      · refine mw_aload_n (i := 0) rfl rfl rfl ?_
        refine mw_aload_n (i := 2) rfl rfl rfl ?_
        refine mw_iload rfl rfl ?_
        refine mw_callV_f (c_buildStratumA d n s ta v Y g h hg hG hok hst hXk hmk hs hst6) rfl ok_X4_buildStratum v_X4_33 rfl (by first | rfl | exact rfl | exact hP0 | exact hP2) (by intro e; cases e) rfl (Nat.le_of_ble_eq_true rfl) rfl (Nat.le_of_ble_eq_true rfl) (by omega) (by omega) (by omega) ?_
        first | refine mw_ninc rfl rfl (Nat.le_of_ble_eq_true rfl) ?_ | refine mw_iinc rfl rfl rfl (Nat.le_of_ble_eq_true rfl) ?_
        refine mw_goto rfl ?_
        exact mw_locals rfl ih
  have loopF : ∀ k, k ≤ P.fc → MW M_X4_build (d + 3) 0 0 n post 16 [(0, .ref 67), (1, .ref 1), (2, .ref 56), (3, .int x), (4, .int (nI k))] [] (mov (mdLA (itN (fun k m => if delB x k then upd m (v (9 + 3 * k)) (nI 0) else m) (fun _ => -1) k) 0 ta) h) n 0 := by
    refine loop_up P.fc ?_ ?_
    · refine mw_iload rfl rfl ?_
      refine mw_aload_n (i := 1) rfl rfl rfl ?_
      refine mw_getfield rfl f_X4_25 (by first | rfl | exact rfl | exact hP0 | exact hP2) rfl ?_
      refine mw_n_ge rfl (by omega) (by omega) (fun hc => ?_) (fun hc => ?_)
      · refine mw_iconst (v := nI 0) rfl (by decide) ?_
        refine mw_istore rfl (Nat.le_of_ble_eq_true rfl) ?_
        rw [vfc]
        exact mw_locals rfl (mw_heap rfl (loopS 0 (Nat.zero_le _)))
      · omega
    · intro k hk ih
      have hk2 : k < v 1 := by rw [← vfc]; exact hk
      have e1 : vI P.fa k = nI (v (9 + 3 * k)) := congrArg nI (vfa k hk2).1
      have h216 := (hok.2.2.2.2.2.1 k hk2).1
      have eS : itN (fun k m => if delB x k then upd m (v (9 + 3 * k)) (nI 0) else m) (fun _ => (-1 : Int32)) (k + 1) = if delB x k then upd (itN (fun k m => if delB x k then upd m (v (9 + 3 * k)) (nI 0) else m) (fun _ => (-1 : Int32)) k) (v (9 + 3 * k)) (nI 0) else itN (fun k m => if delB x k then upd m (v (9 + 3 * k)) (nI 0) else m) (fun _ => (-1 : Int32)) k := rfl
      rw [eS] at ih
      generalize itN (fun k m => if delB x k then upd m (v (9 + 3 * k)) (nI 0) else m) (fun _ => (-1 : Int32)) k = T at ih ⊢
      refine mw_iload rfl rfl ?_
      refine mw_aload_n (i := 1) rfl rfl rfl ?_
      refine mw_getfield rfl f_X4_25 (by first | rfl | exact rfl | exact hP0 | exact hP2) rfl ?_
      refine mw_n_ge rfl (by omega) (by omega) (fun hc => ?_) (fun hc => ?_)
      · omega
      · refine mw_iload_n (i := 3) rfl rfl rfl ?_
        refine mw_iload rfl rfl ?_
        refine mw_ishr rfl ?_
        refine mw_iconst (v := nI 1) rfl (by decide) ?_
        refine mw_iand rfl ?_
        refine mw_if_ne rfl (fun hc => ?_) (fun hc => ?_)
        · rw [show delB x k = false from decide_eq_false hc, if_neg (by decide)] at ih
          first | refine mw_ninc rfl rfl (Nat.le_of_ble_eq_true rfl) ?_ | refine mw_iinc rfl rfl rfl (Nat.le_of_ble_eq_true rfl) ?_
          refine mw_goto rfl ?_
          exact mw_locals rfl ih
        · rw [show delB x k = true from decide_eq_true hc, if_pos rfl] at ih
          refine mw_aload_n (i := 0) rfl rfl rfl ?_
          refine mw_getfield rfl f_X4_9 (by first | rfl | exact rfl | exact hP0 | exact hP2) rfl ?_
          refine mw_aload_n (i := 1) rfl rfl rfl ?_
          refine mw_getfield rfl f_X4_30 (by first | rfl | exact rfl | exact hP0 | exact hP2) rfl ?_
          refine mw_iload rfl rfl ?_
          refine mw_iald_v rfl (by first | rfl | exact rfl | exact hP0 | exact hP2) (by omega) (by omega) e1 ?_
          refine mw_iconst (v := nI 0) rfl (by decide) ?_
          refine mw_iast_m rfl (by first | rfl | exact rfl | exact hP0 | exact hP2) (by omega) (by omega) ?_
          first | rw [vI_upd] | rw [vI_updv] | skip
          first | refine mw_ninc rfl rfl (Nat.le_of_ble_eq_true rfl) ?_ | refine mw_iinc rfl rfl rfl (Nat.le_of_ble_eq_true rfl) ?_
          refine mw_goto rfl ?_
          exact mw_locals rfl (mw_heap rfl ih)
  exact mw_locals rfl (mw_heap rfl (loopF 0 (Nat.zero_le _)))
abbrev mdLB (m : Nat → Int32) (lr ta : Nat) : MLs := [(85, .inl (.int, 216, .inl m)), (84, MO 85 lr ta)]
set_option maxRecDepth 20000 in
theorem c_takeHeadsB (d n r lr ta rd : Nat) (v : Nat → Nat) (m : Nat → Int32) (g : GD) (h : Nat → MC) (hg : GrAt h g) (hG : GrOk v g) (hok : OkN v) (hr : r < v 2) : Fn M_X4_takeHeads (d + 1) 0 0 [.ref 84, .ref 56, .int (nI r), .int (nI rd)] (mov (mdLB m lr ta) h) n (some (.int (bI (itN (tkB2 v rd r) (m, false) 216).2))) (mov (mdLB (itN (tkB2 v rd r) (m, false) 216).1 lr ta) h) := by
  refine Fn.of fun post hp => ?_
  have hG0 := hG
  obtain ⟨-, -, -, hJ, hsr, hI, -⟩ := hG
  have h8 := hok.2.2.2.1
  have hF : itN (enC v r) (enF v r) 216 = enF v (r + 1) := rfl
  have hfold := en_fold (v := v) (v 2) (tkC v rd) hr (m, false) 216 (Nat.le_refl _)
  have hle := enC_le (v := v) (r := r) (S := enF v r) 216
  have hmo := enF_mono (v := v) (k := r + 1) (v 2 - (r + 1))
  rw [show r + 1 + (v 2 - (r + 1)) = v 2 by omega] at hmo
  rw [hF] at hfold hle
  have hN := en_1728 hok (Nat.le_refl (v 2))
  have s0 : vI g.sr r = nI (enF v r).1 := congrArg nI (hsr r (by omega))
  have s1 : vI g.sr (r + 1) = nI (enF v (r + 1)).1 := congrArg nI (hsr (r + 1) (by omega))
  have e2 : itN (tkB2 v rd r) (m, false) 216 = itN (fun j => tkC v rd ((enF v (v 2)).2.1 ((enF v r).1 + j)) ((enF v (v 2)).2.2 ((enF v r).1 + j))) (m, false) ((enF v (r + 1)).1 - (enF v r).1) := hfold.symm
  rw [e2] at hp
  generalize hE : enF v (v 2) = E at hI hmo hN hp
  generalize (enF v r).1 = s at hle s0 hp
  generalize (enF v (r + 1)).1 = s' at hle hmo s1 hp
  refine mw_iconst (v := nI 0) rfl (by decide) ?_
  refine mw_istore rfl (Nat.le_of_ble_eq_true rfl) ?_
  refine mw_aload_n (i := 1) rfl rfl rfl ?_
  refine mw_getfield rfl f_X4_56 (by first | rfl | exact rfl | exact hg.1 | exact hg.2.2.2.2.2.2.1 | exact hg.2.2.2.2.2.2.2.2.1) rfl ?_
  refine mw_iload_n (i := 2) rfl rfl rfl ?_
  refine mw_iald_v rfl (by first | rfl | exact rfl | exact hg.1 | exact hg.2.2.2.2.2.2.1 | exact hg.2.2.2.2.2.2.2.2.1) (by omega) (by omega) s0 ?_
  refine mw_istore rfl (Nat.le_of_ble_eq_true rfl) ?_
  have loop : ∀ j, j ≤ s' - s → ∀ x : Int32, MW M_X4_takeHeads (d + 1) 0 0 n post 11 [(0, .ref 84), (1, .ref 56), (2, .int (nI r)), (3, .int (nI rd)), (4, .int (bI (itN (fun j => tkC v rd (E.2.1 (s + j)) (E.2.2 (s + j))) (m, false) j).2)), (5, .int (nI (s + j)))] [] (mov (mdLB (itN (fun j => tkC v rd (E.2.1 (s + j)) (E.2.2 (s + j))) (m, false) j).1 lr ta) h) n 0 := by
    refine loop_up (s' - s) ?_ ?_
    · intro x
      refine mw_iload rfl rfl ?_
      refine mw_aload_n (i := 1) rfl rfl rfl ?_
      refine mw_getfield rfl f_X4_56 (by first | rfl | exact rfl | exact hg.1 | exact hg.2.2.2.2.2.2.1 | exact hg.2.2.2.2.2.2.2.2.1) rfl ?_
      refine mw_iload_n (i := 2) rfl rfl rfl ?_
      refine mw_iconst (v := nI 1) rfl (by decide) ?_
      first | refine mw_nadd rfl ?_ | refine mw_iadd rfl ?_
      refine mw_iald_v rfl (by first | rfl | exact rfl | exact hg.1 | exact hg.2.2.2.2.2.2.1 | exact hg.2.2.2.2.2.2.2.2.1) (by omega) (by omega) s1 ?_
      refine mw_n_ge rfl (by omega) (by omega) (fun hc => ?_) (fun hc => ?_)
      · refine mw_iload rfl rfl ?_
        first | exact mw_ireturn rfl rfl (bI_nar _) rfl (Nat.le_refl _) (hp) | exact mw_ireturn rfl rfl rfl rfl (Nat.le_refl _) (hp)
      · omega
    · intro j hj ih x
      obtain ⟨hr', hc', eru, ehd, -⟩ := hI (s + j) (by omega)
      have ehdI : vI g.hd (s + j) = nI (fA v (bnd (E.2.2 (s + j))) (E.2.1 (s + j)) 0) := congrArg nI ehd
      have hf : fA v (bnd (E.2.2 (s + j))) (E.2.1 (s + j)) 0 < 216 := fA_lt hok (fun x hx => bndU_lt (fun _ => 0) hc' hx) hr' (Nat.zero_le _)
      have hi' : s + j < (enF v (v 2)).1 := by rw [hE]; omega
      have eS : itN (fun j => tkC v rd (E.2.1 (s + j)) (E.2.2 (s + j))) (m, false) (j + 1) = tkC v rd (E.2.1 (s + j)) (E.2.2 (s + j)) (itN (fun j => tkC v rd (E.2.1 (s + j)) (E.2.2 (s + j))) (m, false) j) := rfl
      rw [eS] at ih
      have eE : ∀ m' : Nat → Int32, andN (hbL v (bnd ((enF v (v 2)).2.2 (s + j))) m' (nI rd) ((enF v (v 2)).2.1 (s + j))) (v (45 + 18 * (enF v (v 2)).2.1 (s + j) + 1)) = andN (hbL v (bnd (E.2.2 (s + j))) m' (nI rd) (E.2.1 (s + j))) (v (45 + 18 * E.2.1 (s + j) + 1)) := fun m' => by rw [hE]
      generalize itN (fun j => tkC v rd (E.2.1 (s + j)) (E.2.2 (s + j))) (m, false) j = T at ih ⊢
      unfold tkC at ih
      refine mw_iload rfl rfl ?_
      refine mw_aload_n (i := 1) rfl rfl rfl ?_
      refine mw_getfield rfl f_X4_56 (by first | rfl | exact rfl | exact hg.1 | exact hg.2.2.2.2.2.2.1 | exact hg.2.2.2.2.2.2.2.2.1) rfl ?_
      refine mw_iload_n (i := 2) rfl rfl rfl ?_
      refine mw_iconst (v := nI 1) rfl (by decide) ?_
      first | refine mw_nadd rfl ?_ | refine mw_iadd rfl ?_
      refine mw_iald_v rfl (by first | rfl | exact rfl | exact hg.1 | exact hg.2.2.2.2.2.2.1 | exact hg.2.2.2.2.2.2.2.2.1) (by omega) (by omega) s1 ?_
      refine mw_n_ge rfl (by omega) (by omega) (fun hc => ?_) (fun hc => ?_)
      · omega
      · refine mw_aload_n (i := 1) rfl rfl rfl ?_
        refine mw_getfield rfl f_X4_59 (by first | rfl | exact rfl | exact hg.1 | exact hg.2.2.2.2.2.2.1 | exact hg.2.2.2.2.2.2.2.2.1) rfl ?_
        refine mw_iload rfl rfl ?_
        refine mw_iald_v rfl (by first | rfl | exact rfl | exact hg.1 | exact hg.2.2.2.2.2.2.1 | exact hg.2.2.2.2.2.2.2.2.1) (by omega) (by omega) ehdI ?_
        refine mw_istore rfl (Nat.le_of_ble_eq_true rfl) ?_
        refine mw_aload_n (i := 0) rfl rfl rfl ?_
        refine mw_getfield rfl f_X4_9 (by first | rfl | exact rfl | exact hg.1 | exact hg.2.2.2.2.2.2.1 | exact hg.2.2.2.2.2.2.2.2.1) rfl ?_
        refine mw_iload rfl rfl ?_
        refine mw_iald rfl (by first | rfl | exact rfl | exact hg.1 | exact hg.2.2.2.2.2.2.1 | exact hg.2.2.2.2.2.2.2.2.1) (by omega) (by omega) ?_
        refine mw_iconst (v := (-1)) rfl (by decide) ?_
        refine mw_icmp_ne rfl (fun hn => ?_) (fun hn => ?_)
        · rw [if_neg (fun q => hn q.1)] at ih
          first | refine mw_ninc rfl rfl (Nat.le_of_ble_eq_true rfl) ?_ | refine mw_iinc rfl rfl rfl (Nat.le_of_ble_eq_true rfl) ?_
          refine mw_goto rfl ?_
          exact mw_locals rfl (ih 0)
        · refine mw_aload_n (i := 0) rfl rfl rfl ?_
          refine mw_aload_n (i := 1) rfl rfl rfl ?_
          refine mw_iload rfl rfl ?_
          refine mw_iload_n (i := 3) rfl rfl rfl ?_
          refine mw_callV_f (c_holdsBeforeB d n (s + j) lr ta rd v T.1 g _ hg hG0 rfl rfl hok hi') rfl ok_X4_holdsBefore v_X4_62 rfl (by first | rfl | exact rfl | exact hg.1 | exact hg.2.2.2.2.2.2.1 | exact hg.2.2.2.2.2.2.2.2.1) (by intro e; cases e) rfl (Nat.le_of_ble_eq_true rfl) rfl (Nat.le_of_ble_eq_true rfl) (by omega) (by omega) (by omega) ?_
          rw [eE]
          refine mw_b_eq rfl (fun hb => ?_) (fun hb => ?_)
          · rw [if_neg (fun q => by rw [hb] at q; exact absurd q.2 (by decide))] at ih
            first | refine mw_ninc rfl rfl (Nat.le_of_ble_eq_true rfl) ?_ | refine mw_iinc rfl rfl rfl (Nat.le_of_ble_eq_true rfl) ?_
            refine mw_goto rfl ?_
            exact mw_locals rfl (ih 0)
          · rw [if_pos ⟨hn, hb⟩] at ih
            refine mw_aload_n (i := 0) rfl rfl rfl ?_
            refine mw_getfield rfl f_X4_9 (by first | rfl | exact rfl | exact hg.1 | exact hg.2.2.2.2.2.2.1 | exact hg.2.2.2.2.2.2.2.2.1) rfl ?_
            refine mw_iload rfl rfl ?_
            refine mw_iload_n (i := 3) rfl rfl rfl ?_
            refine mw_iast_m rfl (by first | rfl | exact rfl | exact hg.1 | exact hg.2.2.2.2.2.2.1 | exact hg.2.2.2.2.2.2.2.2.1) (by omega) (by omega) ?_
            first | rw [vI_upd] | rw [vI_updv] | skip
            refine mw_iconst (v := nI 1) rfl (by decide) ?_
            refine mw_istore rfl (Nat.le_of_ble_eq_true rfl) ?_
            first | refine mw_ninc rfl rfl (Nat.le_of_ble_eq_true rfl) ?_ | refine mw_iinc rfl rfl rfl (Nat.le_of_ble_eq_true rfl) ?_
            refine mw_goto rfl ?_
            exact mw_locals rfl (mw_heap rfl (ih 0))
  exact mw_locals rfl (mw_heap rfl (loop 0 (Nat.zero_le _) 0))
set_option maxRecDepth 20000 in
theorem c_buildStratumB (d n s ta : Nat) (v : Nat → Nat) (X : (Nat → Int32) × Nat) (g : GD) (h : Nat → MC) (hg : GrAt h g) (hG : GrOk v g) (hok : OkN v) (hst : StC v g.st) (hX : InvX X) (hm : MR X.1 X.2) (hs : s < 6) (hst6 : ∀ p, p < 6 → g.st p < 6) : Fn M_X4_buildStratum (d + 2) 0 0 [.ref 84, .ref 56, .int (nI s)] (mov (mdLB X.1 X.2 ta) h) n none (mov (mdLB (runS v g.st s X).1 (runS v g.st s X).2 ta) h) := by
  refine Fn.of fun post hp => ?_
  have hG0 := hG
  obtain ⟨-, -, grc, hJ, -⟩ := hG
  have h8 := hok.2.2.2.1
  have hzero := cnt_zero (v := v) (st := g.st) (s := s) 216 X (absC_le _ _) hX
  have hall := stepM_st (v := v) (st := g.st) (s := s) hX hm
  have loop : ∀ k, k ≤ 218 → (∀ j, j < k → cntS v g.st s (itN (fun _ => stepM v g.st s) X j) ≠ 0) → MW M_X4_buildStratum (d + 2) 0 0 n post 5 [(0, .ref 84), (1, .ref 56), (2, .int (nI s)), (3, .int (bI true)), (4, .int (nI k))] [] (mov (mdLB (itN (fun _ => stepM v g.st s) X k).1 (itN (fun _ => stepM v g.st s) X k).2 ta) h) n 0 := by
    refine loop_up 218 ?_ ?_
    · intro hj
      obtain ⟨i, hi, e⟩ := hzero
      exact absurd e (hj i (by omega))
    · intro k hk ih hj
      obtain ⟨hXk, hmk⟩ := hall k
      have eS : itN (fun _ => stepM v g.st s) X (k + 1) = stepM v g.st s (itN (fun _ => stepM v g.st s) X k) := rfl
      rw [eS] at ih
      have hdone := fun h0 => runS_done (v := v) (st := g.st) (s := s) (X := X) (i := k) (by omega) h0
      have hj' : cntS v g.st s (itN (fun _ => stepM v g.st s) X k) ≠ 0 → ∀ j, j < k + 1 → cntS v g.st s (itN (fun _ => stepM v g.st s) X j) ≠ 0 := fun h1 j hjk => by
        by_cases e : j = k
        · subst e; exact h1
        · exact hj j (by omega)
      generalize itN (fun _ => stepM v g.st s) X k = Y at ih hXk hmk hdone hj' ⊢
      have hY : Y.2 ≤ 216 := by unfold InvX at hXk; omega
      obtain ⟨r1, r2⟩ := rnd_eq hok hst (s := s) (X := Y) (by omega) hmk
      refine mw_iload_n (i := 3) rfl rfl rfl ?_
      refine mw_b_eq rfl (fun hz => ?_) (fun hz => ?_)
      · cases hz
      · refine mw_iload rfl rfl ?_
        refine mw_sipush (v := nI 218) rfl (by decide) ?_
        refine mw_n_ge rfl (by omega) (by omega) (fun hc => ?_) (fun hc => ?_)
        · omega
        · refine mw_iconst (v := nI 0) rfl (by decide) ?_
          refine mw_istore_n (i := 3) rfl rfl (Nat.le_of_ble_eq_true rfl) ?_
          refine mw_iconst (v := nI 0) rfl (by decide) ?_
          refine mw_istore rfl (Nat.le_of_ble_eq_true rfl) ?_
          have inner : ∀ r, r ≤ v 2 → MW M_X4_buildStratum (d + 2) 0 0 n post 22 [(0, .ref 84), (1, .ref 56), (2, .int (nI s)), (3, .int (bI (itN (rnR v g.st s (Y.2 + 1)) (Y.1, false) r).2)), (4, .int (nI k)), (5, .int (nI r))] [] (mov (mdLB (itN (rnR v g.st s (Y.2 + 1)) (Y.1, false) r).1 Y.2 ta) h) n 0 := by
            refine loop_up (v 2) ?_ ?_
            · have eR : itN (rnR v g.st s (Y.2 + 1)) (Y.1, false) (v 2) = rnd v g.st s (Y.2 + 1) Y.1 := rfl
              rw [eR, r1, r2]
              refine mw_iload rfl rfl ?_
              refine mw_aload_n (i := 1) rfl rfl rfl ?_
              refine mw_getfield rfl f_X4_44 (by first | rfl | exact rfl | exact hg.1 | exact hg.2.2.1) rfl ?_
              rw [grc]
              refine mw_n_ge rfl (by omega) (by omega) (fun hc => ?_) (fun hc => ?_)
              · refine mw_iload_n (i := 3) rfl rfl rfl ?_
                refine mw_b_eq rfl (fun hb => ?_) (fun hb => ?_)
                · have h0 : cntS v g.st s Y = 0 := by have := of_decide_eq_false hb; omega
                  have := hdone h0
                  rw [stepM_0 h0]
                  rw [this] at hp
                  first | refine mw_ninc rfl rfl (Nat.le_of_ble_eq_true rfl) ?_ | refine mw_iinc rfl rfl rfl (Nat.le_of_ble_eq_true rfl) ?_
                  refine mw_goto rfl ?_
                  rw [hb]
                  refine mw_iload_n (i := 3) rfl rfl rfl ?_
                  refine mw_b_eq rfl (fun hq => ?_) (fun hq => ?_)
                  · exact mw_return rfl rfl rfl (Nat.le_refl _) (hp)
                  · cases hq
                · have h0 : 0 < cntS v g.st s Y := of_decide_eq_true hb
                  have e2 : (stepM v g.st s Y).2 = Y.2 + 1 := if_pos h0
                  refine mw_aload_n (i := 0) rfl rfl rfl ?_
                  refine mw_dup rfl rfl ?_
                  refine mw_getfield rfl f_X4_21 (by first | rfl | exact rfl | exact hg.1 | exact hg.2.2.1) rfl ?_
                  refine mw_iconst (v := nI 1) rfl (by decide) ?_
                  first | refine mw_nadd rfl ?_ | refine mw_iadd rfl ?_
                  refine mw_putfield_m rfl f_X4_21 (by first | rfl | exact rfl | exact hg.1 | exact hg.2.2.1) (Nat.le_of_ble_eq_true rfl) (fun _ => rfl) (fun _ => rfl) ?_
                  first | refine mw_ninc rfl rfl (Nat.le_of_ble_eq_true rfl) ?_ | refine mw_iinc rfl rfl rfl (Nat.le_of_ble_eq_true rfl) ?_
                  refine mw_goto rfl ?_
                  rw [hb]
                  refine mw_locals rfl (mw_heap ?_ (ih (hj' (by omega))))
                  rw [e2]
                  rfl
              · omega
            · intro r hr ihr
              obtain ⟨ehs, -⟩ := hJ r hr
              have hp6 := ((hok.2.2.2.2.2.2 r hr).2.2.2.2 0 (Nat.zero_le _)).1
              have hs6 := hst6 _ hp6
              have ehsI : vI g.hs r = nI (g.st (v (45 + 18 * r + 2 + 4 * 0))) := congrArg nI ehs
              have eR : itN (rnR v g.st s (Y.2 + 1)) (Y.1, false) (r + 1) = rnR v g.st s (Y.2 + 1) r (itN (rnR v g.st s (Y.2 + 1)) (Y.1, false) r) := rfl
              rw [eR] at ihr
              generalize itN (rnR v g.st s (Y.2 + 1)) (Y.1, false) r = T at ihr ⊢
              unfold rnR at ihr
              refine mw_iload rfl rfl ?_
              refine mw_aload_n (i := 1) rfl rfl rfl ?_
              refine mw_getfield rfl f_X4_44 (by first | rfl | exact rfl | exact hg.1 | exact hg.2.2.1) rfl ?_
              rw [grc]
              refine mw_n_ge rfl (by omega) (by omega) (fun hc => ?_) (fun hc => ?_)
              · omega
              · refine mw_aload_n (i := 1) rfl rfl rfl ?_
                refine mw_getfield rfl f_X4_49 (by first | rfl | exact rfl | exact hg.1 | exact hg.2.2.1) rfl ?_
                refine mw_iload rfl rfl ?_
                refine mw_iald_v rfl (by first | rfl | exact rfl | exact hg.1 | exact hg.2.2.1) (by omega) (by omega) ehsI ?_
                refine mw_iload_n (i := 2) rfl rfl rfl ?_
                refine mw_n_ne rfl (by omega) (by omega) (fun he => ?_) (fun he => ?_)
                · rw [if_neg he] at ihr
                  first | refine mw_ninc rfl rfl (Nat.le_of_ble_eq_true rfl) ?_ | refine mw_iinc rfl rfl rfl (Nat.le_of_ble_eq_true rfl) ?_
                  refine mw_goto rfl ?_
                  exact mw_locals rfl ihr
                · rw [if_pos he, show T = (T.1, T.2) from rfl, tk_flag T.1 T.2 216] at ihr
                  refine mw_aload_n (i := 0) rfl rfl rfl ?_
                  refine mw_aload_n (i := 1) rfl rfl rfl ?_
                  refine mw_iload rfl rfl ?_
                  refine mw_aload_n (i := 0) rfl rfl rfl ?_
                  refine mw_getfield rfl f_X4_21 (by first | rfl | exact rfl | exact hg.1 | exact hg.2.2.1) rfl ?_
                  refine mw_iconst (v := nI 1) rfl (by decide) ?_
                  first | refine mw_nadd rfl ?_ | refine mw_iadd rfl ?_
                  refine mw_callV_f (c_takeHeadsB d n r Y.2 ta (Y.2 + 1) v T.1 g h hg hG0 hok hr) rfl ok_X4_takeHeads v_X4_52 rfl (by first | rfl | exact rfl | exact hg.1 | exact hg.2.2.1) (by intro e; cases e) rfl (Nat.le_of_ble_eq_true rfl) rfl (Nat.le_of_ble_eq_true rfl) (by omega) (by omega) (by omega) ?_
                  refine mw_b_eq rfl (fun hfl => ?_) (fun hfl => ?_)
                  · rw [hfl, Bool.or_false] at ihr
                    first | refine mw_ninc rfl rfl (Nat.le_of_ble_eq_true rfl) ?_ | refine mw_iinc rfl rfl rfl (Nat.le_of_ble_eq_true rfl) ?_
                    refine mw_goto rfl ?_
                    exact mw_locals rfl ihr
                  · rw [hfl, Bool.or_true] at ihr
                    refine mw_iconst (v := nI 1) rfl (by decide) ?_
                    refine mw_istore_n (i := 3) rfl rfl (Nat.le_of_ble_eq_true rfl) ?_
                    first | refine mw_ninc rfl rfl (Nat.le_of_ble_eq_true rfl) ?_ | refine mw_iinc rfl rfl rfl (Nat.le_of_ble_eq_true rfl) ?_
                    refine mw_goto rfl ?_
                    exact mw_locals rfl ihr
          exact mw_locals rfl (inner 0 (Nat.zero_le _))
  refine mw_iconst (v := nI 1) rfl (by decide) ?_
  refine mw_istore_n (i := 3) rfl rfl (Nat.le_of_ble_eq_true rfl) ?_
  refine mw_iconst (v := nI 0) rfl (by decide) ?_
  refine mw_istore rfl (Nat.le_of_ble_eq_true rfl) ?_
  exact mw_locals rfl (loop 0 (Nat.zero_le _) (fun j hj => absurd hj (Nat.not_lt_zero j)))
theorem c_atomsOfB (d n p lr ta R : Nat) (m : Nat → Int32) (h : Nat → MC) (hMO : h 84 = MO 85 lr ta) (hM : h 85 = .inl (.int, 216, .inl m)) (hm : MR m R) (hR : R ≤ 216) (hp6 : p < 6) : Fn M_X4_atomsOf d 0 0 [.ref 84, .int (nI p)] h n (some (.int (nI (cntM m (36 * p) 36)))) h := by
  refine Fn.of fun post hp => ?_
  refine mw_iconst (v := nI 0) rfl (by decide) ?_
  refine mw_istore_n (i := 2) rfl rfl (Nat.le_of_ble_eq_true rfl) ?_
  refine mw_iload_n (i := 1) rfl rfl rfl ?_
  refine mw_bipush (v := nI 36) rfl (by decide) ?_
  first | refine mw_nmul rfl ?_ | refine mw_imul rfl ?_
  refine mw_istore_n (i := 3) rfl rfl (Nat.le_of_ble_eq_true rfl) ?_
  refine mw_iload_n (i := 3) rfl rfl rfl ?_
  refine mw_istore rfl (Nat.le_of_ble_eq_true rfl) ?_
  have loop : ∀ j, j ≤ 36 → MW M_X4_atomsOf d 0 0 n post 10 [(0, .ref 84), (1, .int (nI p)), (2, .int (nI (cntM m (36 * p) j))), (3, .int (nI (p * 36))), (4, .int (nI (p * 36 + j)))] [] h n 0 := by
    refine loop_up 36 ?_ ?_
    · refine mw_iload rfl rfl ?_
      refine mw_iload_n (i := 3) rfl rfl rfl ?_
      refine mw_bipush (v := nI 36) rfl (by decide) ?_
      first | refine mw_nadd rfl ?_ | refine mw_iadd rfl ?_
      refine mw_n_ge rfl (by omega) (by omega) (fun hc => ?_) (fun hc => ?_)
      · refine mw_iload_n (i := 2) rfl rfl rfl ?_
        exact mw_ireturn rfl rfl rfl rfl (Nat.le_refl _) (hp)
      · omega
    · intro j hj ih
      have e : cntM m (36 * p) (j + 1) = cntM m (36 * p) j + (if m (p * 36 + j) = -1 then 0 else 1) := by
        show cntM m (36 * p) j + (if m (36 * p + j) < 0 then 0 else 1) = _
        rw [show 36 * p + j = p * 36 + j by omega]
        by_cases q : m (p * 36 + j) = -1
        · rw [if_pos q, if_pos ((hm.neg (by omega) _).mpr q)]
        · rw [if_neg q, if_neg (fun q' => q ((hm.neg (by omega) _).mp q'))]
      rw [e] at ih
      refine mw_iload rfl rfl ?_
      refine mw_iload_n (i := 3) rfl rfl rfl ?_
      refine mw_bipush (v := nI 36) rfl (by decide) ?_
      first | refine mw_nadd rfl ?_ | refine mw_iadd rfl ?_
      refine mw_n_ge rfl (by omega) (by omega) (fun hc => ?_) (fun hc => ?_)
      · omega
      · refine mw_aload_n (i := 0) rfl rfl rfl ?_
        refine mw_getfield rfl f_X4_9 (by first | rfl | exact hM | exact hMO) rfl ?_
        refine mw_iload rfl rfl ?_
        refine mw_iald rfl (by first | rfl | exact hM | exact hMO) (by omega) (by omega) ?_
        refine mw_iconst (v := (-1)) rfl (by decide) ?_
        refine mw_icmp_eq rfl (fun hc => ?_) (fun hc => ?_)
        · rw [if_pos hc, Nat.add_zero] at ih
          first | refine mw_ninc rfl rfl (Nat.le_of_ble_eq_true rfl) ?_ | refine mw_iinc rfl rfl rfl (Nat.le_of_ble_eq_true rfl) ?_
          refine mw_goto rfl ?_
          exact mw_locals rfl ih
        · rw [if_neg hc] at ih
          first | refine mw_ninc rfl rfl (Nat.le_of_ble_eq_true rfl) ?_ | refine mw_iinc rfl rfl rfl (Nat.le_of_ble_eq_true rfl) ?_
          first | refine mw_ninc rfl rfl (Nat.le_of_ble_eq_true rfl) ?_ | refine mw_iinc rfl rfl rfl (Nat.le_of_ble_eq_true rfl) ?_
          refine mw_goto rfl ?_
          exact mw_locals rfl ih
  exact mw_locals rfl (loop 0 (Nat.zero_le _))
set_option maxRecDepth 20000 in
theorem c_kbuildB (d n lr ta : Nat) (x : Int32) (P : PgS) (v : Nat → Nat) (m0 : Nat → Int32) (g : GD) (h : Nat → MC) (hP : PgAt h 1 P) (hV : PgV P v) (hg : GrAt h g) (hG : GrOk v g) (hok : OkN v) (hst : StC v g.st) (hst6 : ∀ p, p < 6 → g.st p < 6) : Fn M_X4_build (d + 3) 0 0 [.ref 84, .ref 1, .ref 56, .int x] (mov (mdLB m0 lr ta) h) n none (mov (mdLB (mdlV v g.st x).1 (mdlV v g.st x).2 (cntM (mdlV v g.st x).1 0 216)) h) := by
  refine Fn.of fun post hp => ?_
  have hP0 : h 1 = _ := hP.cell (i := 0) (by omega)
  have hP2 : h 3 = _ := hP.cell (i := 2) (by omega)
  have hf12 := hok.2.2.1
  obtain ⟨vc, vpl, vfc, vfa, vrc, vru⟩ := hV
  refine mw_aload_n (i := 0) rfl rfl rfl ?_
  refine mw_getfield rfl f_X4_9 (by first | rfl | exact rfl | exact hP0 | exact hP2) rfl ?_
  refine mw_iconst (v := (-1)) rfl (by decide) ?_
  refine mw_callS_f (c_fill (d + 2) n 85 216 m0 (-1) _ rfl (by omega)) rfl ok_J7_fill_53178 v_X4_15 rfl (Nat.le_of_ble_eq_true rfl) rfl (Nat.le_of_ble_eq_true rfl) (by omega) (by omega) (by omega) ?_
  refine mw_tail (fun _ => -1) (hset_same _ _ _) (fun j hj => by unfold flr; rw [if_pos hj]) ?_
  rw [hset_hset, hset_mov]
  refine mw_aload_n (i := 0) rfl rfl rfl ?_
  refine mw_iconst (v := nI 0) rfl (by decide) ?_
  refine mw_putfield_m rfl f_X4_21 (by first | rfl | exact rfl | exact hP0 | exact hP2) (Nat.le_of_ble_eq_true rfl) (fun _ => rfl) (fun _ => rfl) ?_
  refine mw_iconst (v := nI 0) rfl (by decide) ?_
  refine mw_istore rfl (Nat.le_of_ble_eq_true rfl) ?_
  have loopA : ∀ a, a ≤ 6 → MW M_X4_build (d + 3) 0 0 n post 84 [(0, .ref 84), (4, .int (nI a))] [] (mov (mdLB (mdlV v g.st x).1 (mdlV v g.st x).2 (cntM (mdlV v g.st x).1 0 (36 * a))) h) n 0 := by
    obtain ⟨hXk, hmk⟩ := mdlV_st (v := v) (st := g.st) x 6
    have e6 : itN (runS v g.st) (baseM v x, 0) 6 = mdlV v g.st x := rfl
    rw [e6] at hXk hmk
    generalize mdlV v g.st x = Y at hXk hmk hp ⊢
    have hY : Y.2 ≤ 216 := by unfold InvX at hXk; omega
    refine loop_up 6 ?_ ?_
    · refine mw_iload rfl rfl ?_
      refine mw_bipush (v := nI 6) rfl (by decide) ?_
      refine mw_n_ge rfl (by omega) (by omega) (fun hc => ?_) (fun hc => ?_)
      · exact mw_return rfl rfl rfl (Nat.le_refl _) (hp)
      · omega
    · intro a ha ih
      have hle := cntM_le Y.1 0 (36 * a)
      refine mw_iload rfl rfl ?_
      refine mw_bipush (v := nI 6) rfl (by decide) ?_
      refine mw_n_ge rfl (by omega) (by omega) (fun hc => ?_) (fun hc => ?_)
      · omega
      · refine mw_aload_n (i := 0) rfl rfl rfl ?_
        refine mw_dup rfl rfl ?_
        refine mw_getfield rfl f_X4_37 (by first | rfl | exact rfl | exact hP0 | exact hP2) rfl ?_
        refine mw_aload_n (i := 0) rfl rfl rfl ?_
        refine mw_iload rfl rfl ?_
        refine mw_callV_f (c_atomsOfB (d + 2) n a Y.2 (cntM Y.1 0 (36 * a)) Y.2 Y.1 _ rfl rfl hmk hY ha) rfl ok_X4_atomsOf v_X4_40 rfl (by first | rfl | exact rfl | exact hP0 | exact hP2) (by intro e; cases e) rfl (Nat.le_of_ble_eq_true rfl) rfl (Nat.le_of_ble_eq_true rfl) (by omega) (by omega) (by omega) ?_
        first | refine mw_nadd rfl ?_ | refine mw_iadd rfl ?_
        refine mw_putfield_m rfl f_X4_37 (by first | rfl | exact rfl | exact hP0 | exact hP2) (Nat.le_of_ble_eq_true rfl) (fun _ => rfl) (fun _ => rfl) ?_
        first | refine mw_ninc rfl rfl (Nat.le_of_ble_eq_true rfl) ?_ | refine mw_iinc rfl rfl rfl (Nat.le_of_ble_eq_true rfl) ?_
        refine mw_goto rfl ?_
        refine mw_locals rfl (mw_heap ?_ ih)
        rw [show 36 * (a + 1) = 36 * a + 36 by omega, cntM_add Y.1 0 (36 * a) 36, Nat.zero_add]
        rfl
  have loopS : ∀ s, s ≤ 6 → MW M_X4_build (d + 3) 0 0 n post 56 [(0, .ref 84), (2, .ref 56), (4, .int (nI s))] [] (mov (mdLB (itN (runS v g.st) (baseM v x, 0) s).1 (itN (runS v g.st) (baseM v x, 0) s).2 ta) h) n 0 := by
    refine loop_up 6 ?_ ?_
    · refine mw_iload rfl rfl ?_
      refine mw_bipush (v := nI 6) rfl (by decide) ?_
      refine mw_n_ge rfl (by omega) (by omega) (fun hc => ?_) (fun hc => ?_)
      · refine mw_aload_n (i := 0) rfl rfl rfl ?_
        refine mw_iconst (v := nI 0) rfl (by decide) ?_
        refine mw_putfield_m rfl f_X4_37 (by first | rfl | exact rfl | exact hP0 | exact hP2) (Nat.le_of_ble_eq_true rfl) (fun _ => rfl) (fun _ => rfl) ?_
        refine mw_iconst (v := nI 0) rfl (by decide) ?_
        refine mw_istore rfl (Nat.le_of_ble_eq_true rfl) ?_
        exact mw_locals rfl (mw_heap rfl (loopA 0 (Nat.zero_le _)))
      · omega
    · intro s hs ih
      obtain ⟨hXk, hmk⟩ := mdlV_st (v := v) (st := g.st) x s
      have eS : itN (runS v g.st) (baseM v x, 0) (s + 1) = runS v g.st s (itN (runS v g.st) (baseM v x, 0) s) := rfl
      rw [eS] at ih
      generalize itN (runS v g.st) (baseM v x, 0) s = Y at hXk hmk ih ⊢
      refine mw_iload rfl rfl ?_
      refine mw_bipush (v := nI 6) rfl (by decide) ?_
      refine mw_n_ge rfl (by omega) (by omega) (fun hc => ?_) (fun hc => ?_)
      · omega
      · refine mw_aload_n (i := 0) rfl rfl rfl ?_
        refine mw_aload_n (i := 2) rfl rfl rfl ?_
        refine mw_iload rfl rfl ?_
        refine mw_callV_f (c_buildStratumB d n s ta v Y g h hg hG hok hst hXk hmk hs hst6) rfl ok_X4_buildStratum v_X4_33 rfl (by first | rfl | exact rfl | exact hP0 | exact hP2) (by intro e; cases e) rfl (Nat.le_of_ble_eq_true rfl) rfl (Nat.le_of_ble_eq_true rfl) (by omega) (by omega) (by omega) ?_
        first | refine mw_ninc rfl rfl (Nat.le_of_ble_eq_true rfl) ?_ | refine mw_iinc rfl rfl rfl (Nat.le_of_ble_eq_true rfl) ?_
        refine mw_goto rfl ?_
        exact mw_locals rfl ih
  have loopF : ∀ k, k ≤ P.fc → MW M_X4_build (d + 3) 0 0 n post 16 [(0, .ref 84), (1, .ref 1), (2, .ref 56), (3, .int x), (4, .int (nI k))] [] (mov (mdLB (itN (fun k m => if delB x k then upd m (v (9 + 3 * k)) (nI 0) else m) (fun _ => -1) k) 0 ta) h) n 0 := by
    refine loop_up P.fc ?_ ?_
    · refine mw_iload rfl rfl ?_
      refine mw_aload_n (i := 1) rfl rfl rfl ?_
      refine mw_getfield rfl f_X4_25 (by first | rfl | exact rfl | exact hP0 | exact hP2) rfl ?_
      refine mw_n_ge rfl (by omega) (by omega) (fun hc => ?_) (fun hc => ?_)
      · refine mw_iconst (v := nI 0) rfl (by decide) ?_
        refine mw_istore rfl (Nat.le_of_ble_eq_true rfl) ?_
        rw [vfc]
        exact mw_locals rfl (mw_heap rfl (loopS 0 (Nat.zero_le _)))
      · omega
    · intro k hk ih
      have hk2 : k < v 1 := by rw [← vfc]; exact hk
      have e1 : vI P.fa k = nI (v (9 + 3 * k)) := congrArg nI (vfa k hk2).1
      have h216 := (hok.2.2.2.2.2.1 k hk2).1
      have eS : itN (fun k m => if delB x k then upd m (v (9 + 3 * k)) (nI 0) else m) (fun _ => (-1 : Int32)) (k + 1) = if delB x k then upd (itN (fun k m => if delB x k then upd m (v (9 + 3 * k)) (nI 0) else m) (fun _ => (-1 : Int32)) k) (v (9 + 3 * k)) (nI 0) else itN (fun k m => if delB x k then upd m (v (9 + 3 * k)) (nI 0) else m) (fun _ => (-1 : Int32)) k := rfl
      rw [eS] at ih
      generalize itN (fun k m => if delB x k then upd m (v (9 + 3 * k)) (nI 0) else m) (fun _ => (-1 : Int32)) k = T at ih ⊢
      refine mw_iload rfl rfl ?_
      refine mw_aload_n (i := 1) rfl rfl rfl ?_
      refine mw_getfield rfl f_X4_25 (by first | rfl | exact rfl | exact hP0 | exact hP2) rfl ?_
      refine mw_n_ge rfl (by omega) (by omega) (fun hc => ?_) (fun hc => ?_)
      · omega
      · refine mw_iload_n (i := 3) rfl rfl rfl ?_
        refine mw_iload rfl rfl ?_
        refine mw_ishr rfl ?_
        refine mw_iconst (v := nI 1) rfl (by decide) ?_
        refine mw_iand rfl ?_
        refine mw_if_ne rfl (fun hc => ?_) (fun hc => ?_)
        · rw [show delB x k = false from decide_eq_false hc, if_neg (by decide)] at ih
          first | refine mw_ninc rfl rfl (Nat.le_of_ble_eq_true rfl) ?_ | refine mw_iinc rfl rfl rfl (Nat.le_of_ble_eq_true rfl) ?_
          refine mw_goto rfl ?_
          exact mw_locals rfl ih
        · rw [show delB x k = true from decide_eq_true hc, if_pos rfl] at ih
          refine mw_aload_n (i := 0) rfl rfl rfl ?_
          refine mw_getfield rfl f_X4_9 (by first | rfl | exact rfl | exact hP0 | exact hP2) rfl ?_
          refine mw_aload_n (i := 1) rfl rfl rfl ?_
          refine mw_getfield rfl f_X4_30 (by first | rfl | exact rfl | exact hP0 | exact hP2) rfl ?_
          refine mw_iload rfl rfl ?_
          refine mw_iald_v rfl (by first | rfl | exact rfl | exact hP0 | exact hP2) (by omega) (by omega) e1 ?_
          refine mw_iconst (v := nI 0) rfl (by decide) ?_
          refine mw_iast_m rfl (by first | rfl | exact rfl | exact hP0 | exact hP2) (by omega) (by omega) ?_
          first | rw [vI_upd] | rw [vI_updv] | skip
          first | refine mw_ninc rfl rfl (Nat.le_of_ble_eq_true rfl) ?_ | refine mw_iinc rfl rfl rfl (Nat.le_of_ble_eq_true rfl) ?_
          refine mw_goto rfl ?_
          exact mw_locals rfl (mw_heap rfl ih)
  exact mw_locals rfl (mw_heap rfl (loopF 0 (Nat.zero_le _)))
