def lsAt (L x : Int32) : Bool := decide (nI 88 ≤ x ∧ x ≤ nI 90) && decide ((L >>> ((x - nI 88) &&& 31)) &&& nI 1 = nI 1)
/-- the first place from pl on (at most m further) at which a loose variable stands -/
def scP (t : Nat → Nat) (L : Int32) : Nat → Nat → Nat
  | 0, pl => pl
  | m + 1, pl => if lsAt L (nI (t pl)) = true then pl else scP t L m (pl + 1)
def txL (F : Bool × Nat × PS) : Int32 := looseV F.2.2.2 F.2.1
def rdText (v t : Nat → Nat) (tl : Nat) (td : Nat → Int32) : Bool × Nat × PS :=
  if (rdForm v t tl td).1 = true then (decide (scP t (txL (rdForm v t tl td)) tl 0 = tl), (rdForm v t tl td).2.1, (scP t (txL (rdForm v t tl td)) tl 0, (rdForm v t tl td).2.2.2)) else (false, (rdForm v t tl td).2)
theorem rdLits_k {v t : Nat → Nat} {tl : Nat} : ∀ m k (s : PS), k + m ≤ 3 → (rdLits v t tl m k s).2.1 ≤ 3
  | 0, k, s, h => h
  | m + 1, k, s, h => by
    unfold rdLits
    split
    · split
      · split
        · exact rdLits_k m (k + 1) _ (by omega)
        · show k + 1 ≤ 3
          omega
      · show k + 1 ≤ 3
        omega
    · show k ≤ 3
      omega
theorem rdForm_k {v t : Nat → Nat} {tl : Nat} {td : Nat → Int32} : (rdForm v t tl td).2.1 ≤ 3 := by
  unfold rdForm
  split
  · split
    · exact rdLits_k 3 0 _ (by omega)
    · exact Nat.zero_le _
  · exact Nat.zero_le _
theorem scP_le {t : Nat → Nat} {L : Int32} : ∀ m pl, scP t L m pl ≤ pl + m
  | 0, pl => Nat.le_refl _
  | m + 1, pl => by
    unfold scP
    split
    · omega
    · have := scP_le (t := t) (L := L) m (pl + 1)
      omega
theorem c_isText (d n tl : Nat) (w : Nat → Int32) (v t : Nat → Nat) (td : Nat → Int32) (h : Nat → MC) (hO : h 178 = RO w) (hv : h 179 = .inl (.int, 189, .inl (vI v))) (ht : h 182 = .inl (.int, 60, .inl (vI t))) (htd : h 183 = .inl (.int, 16, .inl td)) (h0 : w 0 = nI tl) (hl : tl ≤ 60) (hok : OkN v) : Fn M_X10_isText (d + 5) 0 0 [.ref 178] h n (some (.int (bI (rdText v t tl td).1))) (mov (ty w (rdText v t tl td).2.1 (rdText v t tl td).2.2) h) := by
  refine Fn.of fun post hp => ?_
  have hk3 := rdForm_k (v := v) (t := t) (tl := tl) (td := td)
  refine mw_aload_n (i := 0) rfl rfl rfl ?_
  refine mw_callV_f (c_isForm d n tl w v t td h hO hv ht htd h0 hl hok) rfl ok_X10_isForm v_X10_125 rfl (by first | rfl | exact hO | exact ht) (by intro e; cases e) rfl (Nat.le_of_ble_eq_true rfl) rfl (Nat.le_of_ble_eq_true rfl) (by omega) (by omega) (by omega) ?_
  unfold rdText at hp
  generalize rdForm v t tl td = F at hp hk3 ⊢
  refine mw_b_ne rfl (fun hF => ?_) (fun hF => ?_)
  · rw [if_pos hF] at hp
    refine mw_aload_n (i := 0) rfl rfl rfl ?_
    refine mw_callV_f (c_loose (d + 4) n F.2.1 (updN (updN w 2 (nI F.2.1)) 1 (nI F.2.2.1)) F.2.2.2 _ rfl rfl rfl hk3) rfl ok_X10_loose v_X10_129 rfl (by first | rfl | exact rfl | exact ht) (by intro e; cases e) rfl (Nat.le_of_ble_eq_true rfl) rfl (Nat.le_of_ble_eq_true rfl) (by omega) (by omega) (by omega) ?_
    have eL : looseV F.2.2.2 F.2.1 = txL F := rfl
    rw [eL]
    generalize txL F = L at hp ⊢
    have fin : ∀ pl, pl ≤ tl → scP t L tl 0 = pl → MW M_X10_isText (d + 5) 0 0 n post 82 [(0, .ref 178), (1, .int L)] [] (mov (ty w F.2.1 (pl, F.2.2.2)) h) n 0 := by
      intro pl hpl e
      rw [e] at hp
      refine mw_aload_n (i := 0) rfl rfl rfl ?_
      refine mw_getfield rfl f_X10_106 (by first | rfl | exact rfl | exact ht) rfl ?_
      refine mw_aload_n (i := 0) rfl rfl rfl ?_
      refine mw_getfield rfl f_X10_102 (by first | rfl | exact rfl | exact ht) rfl ?_
      rw [show updN (updN w 2 (nI F.2.1)) 1 (nI (pl, F.2.2.2).1) 0 = nI tl from h0]
      refine mw_n_ne rfl (by omega) (by omega) (fun hc => ?_) (fun hc => ?_)
      · rw [decide_eq_false (by omega)] at hp
        refine mw_iconst (v := nI 0) rfl (by decide) ?_
        first | exact mw_ireturn rfl rfl (bI_nar _) rfl (Nat.le_refl _) (hp) | exact mw_ireturn rfl rfl rfl rfl (Nat.le_refl _) (hp)
      · rw [decide_eq_true (by omega)] at hp
        refine mw_iconst (v := nI 1) rfl (by decide) ?_
        refine mw_goto rfl ?_
        first | exact mw_ireturn rfl rfl (bI_nar _) rfl (Nat.le_refl _) (hp) | exact mw_ireturn rfl rfl rfl rfl (Nat.le_refl _) (hp)
    have loop : ∀ m pl, pl + m = tl → scP t L tl 0 = scP t L m pl → MW M_X10_isText (d + 5) 0 0 n post 19 [(0, .ref 178), (1, .int L)] [] (mov (ty w F.2.1 (pl, F.2.2.2)) h) n 0 := by
      intro m
      induction m with
      | zero =>
        intro pl hpl e
        refine mw_aload_n (i := 0) rfl rfl rfl ?_
        refine mw_getfield rfl f_X10_106 (by first | rfl | exact rfl | exact ht) rfl ?_
        refine mw_aload_n (i := 0) rfl rfl rfl ?_
        refine mw_getfield rfl f_X10_102 (by first | rfl | exact rfl | exact ht) rfl ?_
        rw [show updN (updN w 2 (nI F.2.1)) 1 (nI (pl, F.2.2.2).1) 0 = nI tl from h0]
        refine mw_n_ge rfl (by omega) (by omega) (fun hc => ?_) (fun hc => ?_)
        · exact mw_locals rfl (fin pl (by omega) e)
        · omega
      | succ m ih =>
        intro pl hpl e
        have e2 : scP t L (m + 1) pl = if lsAt L (nI (t pl)) = true then pl else scP t L m (pl + 1) := rfl
        rw [e2] at e
        refine mw_aload_n (i := 0) rfl rfl rfl ?_
        refine mw_getfield rfl f_X10_106 (by first | rfl | exact rfl | exact ht) rfl ?_
        refine mw_aload_n (i := 0) rfl rfl rfl ?_
        refine mw_getfield rfl f_X10_102 (by first | rfl | exact rfl | exact ht) rfl ?_
        rw [show updN (updN w 2 (nI F.2.1)) 1 (nI (pl, F.2.2.2).1) 0 = nI tl from h0]
        have nxt : lsAt L (nI (t pl)) = false → MW M_X10_isText (d + 5) 0 0 n post 69 [(0, .ref 178), (1, .int L)] [] (mov (ty w F.2.1 (pl, F.2.2.2)) h) n 0 := by
          intro q
          rw [if_neg (by rw [q]; decide)] at e
          refine mw_aload_n (i := 0) rfl rfl rfl ?_
          refine mw_dup rfl rfl ?_
          refine mw_getfield rfl f_X10_106 (by first | rfl | exact rfl | exact ht) rfl ?_
          refine mw_iconst (v := nI 1) rfl (by decide) ?_
          first | refine mw_nadd rfl ?_ | refine mw_iadd rfl ?_
          refine mw_putfield_m rfl f_X10_106 (by first | rfl | exact rfl | exact ht) (Nat.le_of_ble_eq_true rfl) (fun _ => rfl) (fun _ => rfl) ?_
          refine mw_goto rfl ?_
          exact mw_locals rfl (mw_heap (congrArg (fun z => mov [(183, .inl (.int, 16, .inl F.2.2.2)), (178, RO z)] h) (updN_2 (updN w 2 (nI F.2.1)) 1 (nI pl) (nI (pl + 1))).symm) (ih (pl + 1) (by omega) e))
        refine mw_n_ge rfl (by omega) (by omega) (fun hc => ?_) (fun hc => ?_)
        · omega
        · refine mw_aload_n (i := 0) rfl rfl rfl ?_
          refine mw_getfield rfl f_X10_20 (by first | rfl | exact rfl | exact ht) rfl ?_
          refine mw_aload_n (i := 0) rfl rfl rfl ?_
          refine mw_getfield rfl f_X10_106 (by first | rfl | exact rfl | exact ht) rfl ?_
          refine mw_iald rfl (by first | rfl | exact rfl | exact ht) (by omega) (by omega) ?_
          refine mw_bipush (v := nI 88) rfl (by decide) ?_
          refine mw_bipush (v := nI 90) rfl (by decide) ?_
          refine mw_callS_f (c_in (d + 4) n (nI (t pl)) (nI 88) (nI 90) _) rfl ok_X10_in v_X10_80 rfl (Nat.le_of_ble_eq_true rfl) rfl (Nat.le_of_ble_eq_true rfl) (by omega) (by omega) (by omega) ?_
          refine mw_b_eq rfl (fun h46 => ?_) (fun h46 => ?_)
          · exact mw_locals rfl (nxt (by unfold lsAt; rw [h46]; rfl))
          · refine mw_iload_n (i := 1) rfl rfl rfl ?_
            refine mw_aload_n (i := 0) rfl rfl rfl ?_
            refine mw_getfield rfl f_X10_20 (by first | rfl | exact rfl | exact ht) rfl ?_
            refine mw_aload_n (i := 0) rfl rfl rfl ?_
            refine mw_getfield rfl f_X10_106 (by first | rfl | exact rfl | exact ht) rfl ?_
            refine mw_iald rfl (by first | rfl | exact rfl | exact ht) (by omega) (by omega) ?_
            refine mw_bipush (v := nI 88) rfl (by decide) ?_
            refine mw_isub rfl ?_
            refine mw_ishr rfl ?_
            refine mw_iconst (v := nI 1) rfl (by decide) ?_
            refine mw_iand rfl ?_
            refine mw_iconst (v := nI 1) rfl (by decide) ?_
            refine mw_icmp_eq rfl (fun hb => ?_) (fun hb => ?_)
            · have hb : (L >>> ((nI (t pl) - nI 88) &&& 31)) &&& nI 1 = nI 1 := hb
              refine mw_locals rfl (fin pl (by omega) ?_)
              rw [e, if_pos (by unfold lsAt; rw [h46, decide_eq_true hb]; rfl)]
            · have hb : ¬ (L >>> ((nI (t pl) - nI 88) &&& 31)) &&& nI 1 = nI 1 := hb
              exact mw_locals rfl (nxt (by unfold lsAt; rw [h46, decide_eq_false hb]; rfl))
    refine mw_istore_n (i := 1) rfl rfl (Nat.le_of_ble_eq_true rfl) ?_
    refine mw_aload_n (i := 0) rfl rfl rfl ?_
    refine mw_iconst (v := nI 0) rfl (by decide) ?_
    refine mw_putfield_m rfl f_X10_106 (by first | rfl | exact rfl | exact ht) (Nat.le_of_ble_eq_true rfl) (fun _ => rfl) (fun _ => rfl) ?_
    exact mw_locals rfl (mw_heap (congrArg (fun z => mov [(183, .inl (.int, 16, .inl F.2.2.2)), (178, RO z)] h) (updN_2 (updN w 2 (nI F.2.1)) 1 (nI F.2.2.1) (nI 0)).symm) (loop tl 0 (by omega) rfl))
  · rw [if_neg (by rw [hF]; decide)] at hp
    refine mw_iconst (v := nI 0) rfl (by decide) ?_
    first | exact mw_ireturn rfl rfl (bI_nar _) rfl (Nat.le_refl _) (hp) | exact mw_ireturn rfl rfl rfl rfl (Nat.le_refl _) (hp)
theorem c_faultPosition (d n tl : Nat) (w : Nat → Int32) (v t : Nat → Nat) (td : Nat → Int32) (h : Nat → MC) (hO : h 178 = RO w) (hv : h 179 = .inl (.int, 189, .inl (vI v))) (ht : h 182 = .inl (.int, 60, .inl (vI t))) (htd : h 183 = .inl (.int, 16, .inl td)) (h0 : w 0 = nI tl) (hl : tl ≤ 60) (hok : OkN v) : Fn M_X10_faultPosition (d + 6) 0 0 [.ref 178] h n (some (.int (if (rdText v t tl td).1 = true then -5 else nI (rdText v t tl td).2.2.1))) (mov (ty w (rdText v t tl td).2.1 (rdText v t tl td).2.2) h) := by
  refine Fn.of fun post hp => ?_
  refine mw_aload_n (i := 0) rfl rfl rfl ?_
  refine mw_callV_f (c_isText d n tl w v t td h hO hv ht htd h0 hl hok) rfl ok_X10_isText v_X10_132 rfl (by first | rfl | exact hO | exact ht) (by intro e; cases e) rfl (Nat.le_of_ble_eq_true rfl) rfl (Nat.le_of_ble_eq_true rfl) (by omega) (by omega) (by omega) ?_
  generalize rdText v t tl td = F at hp ⊢
  refine mw_b_eq rfl (fun hF => ?_) (fun hF => ?_)
  · rw [if_neg (by rw [hF]; decide)] at hp
    refine mw_aload_n (i := 0) rfl rfl rfl ?_
    refine mw_getfield rfl f_X10_106 (by first | rfl | exact rfl | exact ht) rfl ?_
    exact mw_ireturn rfl rfl rfl rfl (Nat.le_refl _) (hp)
  · rw [if_pos hF] at hp
    refine mw_bipush (v := (-5)) rfl (by decide) ?_
    refine mw_goto rfl ?_
    exact mw_ireturn rfl rfl rfl rfl (Nat.le_refl _) (hp)
