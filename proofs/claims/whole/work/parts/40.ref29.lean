def toN (x : Int32) : Nat := x.toBitVec.toNat
theorem nI_toN (x : Int32) : nI (toN x) = x := by
  apply Int32.toBitVec_inj.mp
  show BitVec.ofNat 32 x.toBitVec.toNat = x.toBitVec
  exact BitVec.ofNat_toNat 32 x.toBitVec ▸ by simp
def adU (r : Nat) (td : Nat → Int32) (i : Nat) (V : Nat → Nat) : Nat → Nat := updN V (45 + 18 * r + 2 + 4 * 0 + i) (toN (td i))
/-- the state behind a rule that was added -/
def addRuleV (v : Nat → Nat) (p k : Nat) (td : Nat → Int32) : Nat → Nat := updN (itN (adU (v 2) td) (updN (updN v (45 + 18 * v 2) p) (45 + 18 * v 2 + 1) k) 16) 2 (v 2 + 1)
abbrev tz (w : Nat → Int32) (k : Nat) (s : PS) (V : Nat → Nat) : MLs := [(183, .inl (.int, 16, .inl s.2)), (178, RO (updN (updN w 2 (nI k)) 1 (nI s.1))), (179, .inl (.int, 189, .inl (vI V)))]
theorem c_addRule_e1 (d n : Nat) (p : Int32) (h : Nat → MC) (hx : ¬ (nI 1 ≤ p ∧ p ≤ nI 9)) : Fn M_X10_addRule (d + 6) 0 0 [.ref 178, .int p] h n (some (.int (-2))) h := by
  refine Fn.of fun post hp => ?_
  refine mw_iload_n (i := 1) rfl rfl rfl ?_
  refine mw_iconst (v := nI 1) rfl (by decide) ?_
  refine mw_bipush (v := nI 9) rfl (by decide) ?_
  refine mw_callS_f (c_in (d + 5) n p (nI 1) (nI 9) h) rfl ok_X10_in v_X10_80 rfl (Nat.le_of_ble_eq_true rfl) rfl (Nat.le_of_ble_eq_true rfl) (by omega) (by omega) (by omega) ?_
  refine mw_b_ne rfl (fun hq => ?_) (fun hq => ?_)
  · exact absurd (of_decide_eq_true hq) hx
  · refine mw_bipush (v := (-2)) rfl (by decide) ?_
    exact mw_ireturn rfl rfl rfl rfl (Nat.le_refl _) (hp)
def adA (v : Nat → Nat) (F : Bool × Nat × PS) : Int32 := if F.1 = true then (if v 2 = 8 then -4 else nI (v 2)) else -3
def adL (w : Nat → Int32) (v : Nat → Nat) (p : Nat) (F : Bool × Nat × PS) : MLs := if F.1 = true ∧ v 2 ≠ 8 then [(183, .inl (.int, 16, .inl F.2.2.2)), (178, RO (updN (updN (updN w 2 (nI F.2.1)) 1 (nI F.2.2.1)) 3 0)), (179, .inl (.int, 189, .inl (vI (addRuleV v p F.2.1 F.2.2.2))))] else ty w F.2.1 F.2.2
set_option maxRecDepth 20000 in
theorem c_addRule (d n p tl : Nat) (w : Nat → Int32) (v t : Nat → Nat) (td : Nat → Int32) (h : Nat → MC) (hO : h 178 = RO w) (hv : h 179 = .inl (.int, 189, .inl (vI v))) (ht : h 182 = .inl (.int, 60, .inl (vI t))) (htd : h 183 = .inl (.int, 16, .inl td)) (h0 : w 0 = nI tl) (hl : tl ≤ 60) (hok : OkN v) (hp1 : 1 ≤ p) (hp9 : p ≤ 9) : Fn M_X10_addRule (d + 6) 0 0 [.ref 178, .int (nI p)] h n (some (.int (adA v (rdText v t tl td)))) (mov (adL w v p (rdText v t tl td)) h) := by
  refine Fn.of fun post hp => ?_
  have hr8 := hok.2.2.2.1
  refine mw_iload_n (i := 1) rfl rfl rfl ?_
  refine mw_iconst (v := nI 1) rfl (by decide) ?_
  refine mw_bipush (v := nI 9) rfl (by decide) ?_
  refine mw_callS_f (c_in (d + 5) n (nI p) (nI 1) (nI 9) h) rfl ok_X10_in v_X10_80 rfl (Nat.le_of_ble_eq_true rfl) rfl (Nat.le_of_ble_eq_true rfl) (by omega) (by omega) (by omega) ?_
  refine mw_b_ne rfl (fun hq => ?_) (fun hq => ?_)
  · refine mw_aload_n (i := 0) rfl rfl rfl ?_
    refine mw_callV_f (c_isText d n tl w v t td h hO hv ht htd h0 hl hok) rfl ok_X10_isText v_X10_132 rfl (by first | rfl | exact hO | exact ht) (by intro e; cases e) rfl (Nat.le_of_ble_eq_true rfl) rfl (Nat.le_of_ble_eq_true rfl) (by omega) (by omega) (by omega) ?_
    generalize rdText v t tl td = F at hp ⊢
    refine mw_b_ne rfl (fun hF => ?_) (fun hF => ?_)
    · refine mw_aload_n (i := 0) rfl rfl rfl ?_
      refine mw_getfield rfl f_X10_7 (by first | rfl | exact rfl | exact ht | exact hv) rfl ?_
      refine mw_iconst (v := nI 2) rfl (by decide) ?_
      refine mw_iald rfl (by first | rfl | exact rfl | exact ht | exact hv) (by omega) (by omega) ?_
      refine mw_bipush (v := nI 8) rfl (by decide) ?_
      refine mw_n_ne rfl (by omega) (by omega) (fun h8 => ?_) (fun h8 => ?_)
      · rw [show adA v F = nI (v 2) by unfold adA; rw [if_pos hF, if_neg h8], show adL w v p F = _ from if_pos ⟨hF, h8⟩] at hp
        refine mw_heap (h2 := mov (tz w F.2.1 F.2.2 v) h) (mov_app (l := ty w F.2.1 F.2.2) (l2 := [(179, .inl (.int, 189, .inl (vI v)))]) (by simp [hv])) ?_
        obtain ⟨r, hr⟩ : ∃ r, r = v 2 := ⟨_, rfl⟩
        have hr7 : r < 8 := by omega
        unfold addRuleV at hp
        have loop : ∀ i, i ≤ 16 → MW M_X10_addRule (d + 6) 0 0 n post 77 [(0, .ref 178), (1, .int (nI p)), (2, .int (nI (v 2))), (3, .int (nI i))] [] (mov (tz w F.2.1 F.2.2 (itN (adU (v 2) F.2.2.2) (updN (updN v (45 + 18 * v 2) p) (45 + 18 * v 2 + 1) F.2.1) i)) h) n 0 := by
          refine loop_up 16 ?_ ?_
          · have hV2 : ∀ i, itN (adU (v 2) F.2.2.2) (updN (updN v (45 + 18 * v 2) p) (45 + 18 * v 2 + 1) F.2.1) i 2 = v 2 := by
              intro i
              induction i with
              | zero =>
                show updN (updN v (45 + 18 * v 2) p) (45 + 18 * v 2 + 1) F.2.1 2 = v 2
                rw [updN_ne _ _ (by omega), updN_ne _ _ (by omega)]
              | succ i ih =>
                show updN _ _ _ 2 = v 2
                rw [updN_ne _ _ (by omega)]
                exact ih
            have hV2 := hV2 16
            generalize itN (adU (v 2) F.2.2.2) (updN (updN v (45 + 18 * v 2) p) (45 + 18 * v 2 + 1) F.2.1) 16 = V at hV2 hp ⊢
            refine mw_iload_n (i := 3) rfl rfl rfl ?_
            refine mw_bipush (v := nI 16) rfl (by decide) ?_
            refine mw_n_ge rfl (by omega) (by omega) (fun hc => ?_) (fun hc => ?_)
            · refine mw_aload_n (i := 0) rfl rfl rfl ?_
              refine mw_getfield rfl f_X10_7 (by first | rfl | exact rfl | exact ht | exact hv) rfl ?_
              refine mw_iconst (v := nI 2) rfl (by decide) ?_
              refine mw_dup2 rfl rfl rfl ?_
              refine mw_iald_v (v := nI (v 2)) rfl rfl (by omega) (by omega) (show nI (V 2) = nI (v 2) by rw [hV2]) ?_
              refine mw_iconst (v := nI 1) rfl (by decide) ?_
              first | refine mw_nadd rfl ?_ | refine mw_iadd rfl ?_
              refine mw_iast_m rfl (by first | rfl | exact rfl | exact ht | exact hv) (by omega) (by omega) ?_
              first | rw [vI_upd] | rw [vI_updv] | skip
              refine mw_aload_n (i := 0) rfl rfl rfl ?_
              refine mw_iconst (v := nI 0) rfl (by decide) ?_
              first | refine mw_putfield_m rfl f_X10_76 (by first | rfl | exact rfl | exact ht | exact hv) (Nat.le_of_ble_eq_true rfl) (fun _ => bI_nar _) (fun _ => bI_fit _) ?_ | refine mw_putfield_m rfl f_X10_76 (by first | rfl | exact rfl | exact ht | exact hv) (Nat.le_of_ble_eq_true rfl) (fun _ => rfl) (fun _ => rfl) ?_
              refine mw_iload_n (i := 2) rfl rfl rfl ?_
              exact mw_ireturn rfl rfl rfl rfl (Nat.le_refl _) (hp)
            · omega
          · intro i hi ih
            have eA : itN (adU (v 2) F.2.2.2) (updN (updN v (45 + 18 * v 2) p) (45 + 18 * v 2 + 1) F.2.1) (i + 1) = updN (itN (adU (v 2) F.2.2.2) (updN (updN v (45 + 18 * v 2) p) (45 + 18 * v 2 + 1) F.2.1) i) (45 + 18 * v 2 + 2 + 4 * 0 + i) (toN (F.2.2.2 i)) := rfl
            rw [eA] at ih
            generalize itN (adU (v 2) F.2.2.2) (updN (updN v (45 + 18 * v 2) p) (45 + 18 * v 2 + 1) F.2.1) i = V at ih ⊢
            refine mw_iload_n (i := 3) rfl rfl rfl ?_
            refine mw_bipush (v := nI 16) rfl (by decide) ?_
            refine mw_n_ge rfl (by omega) (by omega) (fun hc => ?_) (fun hc => ?_)
            · omega
            · refine mw_aload_n (i := 0) rfl rfl rfl ?_
              refine mw_getfield rfl f_X10_7 (by first | rfl | exact rfl | exact ht | exact hv) rfl ?_
              refine mw_iload_n (i := 2) rfl rfl rfl ?_
              refine mw_iconst (v := nI 0) rfl (by decide) ?_
              refine mw_callS_f (c_atomAt (d + 5) n (v 2) 0 _) rfl ok_X10_atomAt v_X10_88 rfl (Nat.le_of_ble_eq_true rfl) rfl (Nat.le_of_ble_eq_true rfl) (by omega) (by omega) (by omega) ?_
              refine mw_iload_n (i := 3) rfl rfl rfl ?_
              first | refine mw_nadd rfl ?_ | refine mw_iadd rfl ?_
              refine mw_aload_n (i := 0) rfl rfl rfl ?_
              refine mw_getfield rfl f_X10_23 (by first | rfl | exact rfl | exact ht | exact hv) rfl ?_
              refine mw_iload_n (i := 3) rfl rfl rfl ?_
              refine mw_iald_v (v := nI (toN (F.2.2.2 i))) rfl rfl (by omega) (by omega) (nI_toN _).symm ?_
              refine mw_iast_m rfl (by first | rfl | exact rfl | exact ht | exact hv) (by omega) (by omega) ?_
              first | rw [vI_upd] | rw [vI_updv] | skip
              first | refine mw_ninc rfl rfl (Nat.le_of_ble_eq_true rfl) ?_ | refine mw_iinc rfl rfl rfl (Nat.le_of_ble_eq_true rfl) ?_
              refine mw_goto rfl ?_
              exact mw_locals rfl ih
        refine mw_aload_n (i := 0) rfl rfl rfl ?_
        refine mw_getfield rfl f_X10_7 (by first | rfl | exact rfl | exact ht | exact hv) rfl ?_
        refine mw_iconst (v := nI 2) rfl (by decide) ?_
        refine mw_iald rfl (by first | rfl | exact rfl | exact ht | exact hv) (by omega) (by omega) ?_
        refine mw_istore_n (i := 2) rfl rfl (Nat.le_of_ble_eq_true rfl) ?_
        refine mw_aload_n (i := 0) rfl rfl rfl ?_
        refine mw_getfield rfl f_X10_7 (by first | rfl | exact rfl | exact ht | exact hv) rfl ?_
        refine mw_bipush (v := nI 45) rfl (by decide) ?_
        refine mw_bipush (v := nI 18) rfl (by decide) ?_
        refine mw_iload_n (i := 2) rfl rfl rfl ?_
        first | refine mw_nmul rfl ?_ | refine mw_imul rfl ?_
        first | refine mw_nadd rfl ?_ | refine mw_iadd rfl ?_
        refine mw_iload_n (i := 1) rfl rfl rfl ?_
        refine mw_iast_m rfl (by first | rfl | exact rfl | exact ht | exact hv) (by omega) (by omega) ?_
        first | rw [vI_upd] | rw [vI_updv] | skip
        refine mw_aload_n (i := 0) rfl rfl rfl ?_
        refine mw_getfield rfl f_X10_7 (by first | rfl | exact rfl | exact ht | exact hv) rfl ?_
        refine mw_bipush (v := nI 45) rfl (by decide) ?_
        refine mw_bipush (v := nI 18) rfl (by decide) ?_
        refine mw_iload_n (i := 2) rfl rfl rfl ?_
        first | refine mw_nmul rfl ?_ | refine mw_imul rfl ?_
        first | refine mw_nadd rfl ?_ | refine mw_iadd rfl ?_
        refine mw_iconst (v := nI 1) rfl (by decide) ?_
        first | refine mw_nadd rfl ?_ | refine mw_iadd rfl ?_
        refine mw_aload_n (i := 0) rfl rfl rfl ?_
        refine mw_getfield rfl f_X10_119 (by first | rfl | exact rfl | exact ht | exact hv) rfl ?_
        rw [show updN (updN w 2 (nI F.2.1)) 1 (nI F.2.2.1) 2 = nI F.2.1 from rfl]
        refine mw_iast_m rfl (by first | rfl | exact rfl | exact ht | exact hv) (by omega) (by omega) ?_
        first | rw [vI_upd] | rw [vI_updv] | skip
        refine mw_iconst (v := nI 0) rfl (by decide) ?_
        refine mw_istore_n (i := 3) rfl rfl (Nat.le_of_ble_eq_true rfl) ?_
        exact mw_locals rfl (loop 0 (Nat.zero_le _))
      · rw [show adA v F = -4 by unfold adA; rw [if_pos hF, if_pos (by omega)], show adL w v p F = _ from if_neg (by intro q; exact q.2 (by omega))] at hp
        refine mw_bipush (v := (-4)) rfl (by decide) ?_
        exact mw_ireturn rfl rfl rfl rfl (Nat.le_refl _) (hp)
    · rw [show adA v F = -3 by unfold adA; rw [if_neg (by rw [hF]; decide)], show adL w v p F = _ from if_neg (by intro q; rw [hF] at q; exact absurd q.1 (by decide))] at hp
      refine mw_bipush (v := (-3)) rfl (by decide) ?_
      exact mw_ireturn rfl rfl rfl rfl (Nat.le_refl _) (hp)
  · have := of_decide_eq_false hq
    exact absurd ⟨(nI_leI (by omega) (by omega)).mpr hp1, (nI_leI (by omega) (by omega)).mpr hp9⟩ this
