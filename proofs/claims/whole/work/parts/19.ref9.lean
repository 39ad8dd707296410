/-- the rows of the instances that hold: (how many, rule, head, literals, binding) -/
abbrev HoS : Type := Nat × (Nat → Nat) × (Nat → Nat) × (Nat → Int32) × (Nat → Nat)
def plA (v : Nat → Nat) (r a : Nat) : Bool := decide (a ≤ v (45 + 18 * r + 1)) && decide (v (45 + 18 * r + 2 + 4 * a + 3) = 0)
def liA (v b : Nat → Nat) (r a : Nat) : Int32 := if plA v r a then nI (fA v b r a) else -1
def liU (v b : Nat → Nat) (r c a : Nat) (li : Nat → Int32) : Nat → Int32 := upd li (3 * c + a) (liA v b r (a + 1))
def hoC (v : Nat → Nat) (m : Nat → Int32) (r code : Nat) (S : HoS) : HoS :=
  if bOk v r code && holdsR v (bndU S.2.2.2.2 code) m r then
    (S.1 + 1, updN S.2.1 S.1 r, updN S.2.2.1 S.1 (fA v (bndU S.2.2.2.2 code) r 0), itN (liU v (bndU S.2.2.2.2 code) r S.1) S.2.2.2.1 3, bndU S.2.2.2.2 code)
  else (S.1, S.2.1, S.2.2.1, S.2.2.2.1, bndU S.2.2.2.2 code)
def hoR (v : Nat → Nat) (m : Nat → Int32) (r : Nat) (S : HoS) : HoS := itN (hoC v m r) S 216
def hoF (v : Nat → Nat) (m : Nat → Int32) (S : HoS) : HoS := itN (hoR v m) S (v 2)
theorem hoC_cnt {v : Nat → Nat} {m : Nat → Int32} {r code : Nat} {S : HoS} : (hoC v m r code S).1 ≤ S.1 + 1 := by
  unfold hoC
  split
  · exact Nat.le_refl _
  · exact Nat.le_succ _
theorem hoCs_cnt {v : Nat → Nat} {m : Nat → Int32} {r : Nat} {S : HoS} : ∀ k, (itN (hoC v m r) S k).1 ≤ S.1 + k
  | 0 => Nat.le_refl _
  | k + 1 => Nat.le_trans hoC_cnt (by have := hoCs_cnt (v := v) (m := m) (r := r) (S := S) k; omega)
theorem hoR_cnt {v : Nat → Nat} {m : Nat → Int32} {S : HoS} : ∀ r, (itN (hoR v m) S r).1 ≤ S.1 + 216 * r
  | 0 => Nat.le_refl _
  | r + 1 => Nat.le_trans (hoCs_cnt 216) (by have := hoR_cnt (v := v) (m := m) (S := S) r; omega)
def HH (h : Nat → MC) (w : Nat → Int32) (S : HoS) : Nat → MC := mov [(178, RO (updN w 6 (nI S.1))), (185, .inl (.int, 3, .inl (vI S.2.2.2.2))), (189, .inl (.int, 1728, .inl (vI S.2.1))), (190, .inl (.int, 1728, .inl (vI S.2.2.1))), (191, .inl (.int, 5184, .inl S.2.2.2.1))] h
theorem c_findHolding (d n : Nat) (w : Nat → Int32) (v ru0 hd0 b0 : Nat → Nat) (m li0 : Nat → Int32) (h : Nat → MC) (hO : h 178 = RO w) (hv : h 179 = .inl (.int, 189, .inl (vI v))) (hm : h 186 = .inl (.int, 216, .inl m)) (hb : h 185 = .inl (.int, 3, .inl (vI b0))) (hru : h 189 = .inl (.int, 1728, .inl (vI ru0))) (hhd : h 190 = .inl (.int, 1728, .inl (vI hd0))) (hli : h 191 = .inl (.int, 5184, .inl li0)) (hok : OkN v) :
    Fn M_X10_findHolding (d + 3) 0 0 [.ref 178] h n none (HH h w (hoF v m (0, ru0, hd0, li0, b0))) := by
  refine Fn.of fun post hp => ?_
  have hr8 := hok.2.2.2.1
  have loopR : ∀ r, r ≤ v 2 → MW M_X10_findHolding (d + 3) 0 0 n post 7 [(0, .ref 178), (1, .int (nI r))] [] (HH h w (itN (hoR v m) (0, ru0, hd0, li0, b0) r)) n 0 := by
    refine loop_up (v 2) ?_ ?_
    · unfold HH
      refine mw_iload_n (i := 1) rfl rfl rfl ?_
      refine mw_aload_n (i := 0) rfl rfl rfl ?_
      refine mw_getfield rfl f_X10_7 (by first | rfl | exact hO | exact hv | exact hm) rfl ?_
      refine mw_iconst (v := nI 2) rfl (by decide) ?_
      refine mw_iald rfl (by first | rfl | exact hO | exact hv | exact hm) (by omega) (by omega) ?_
      refine mw_n_ge rfl (by omega) (by omega) (fun hc => ?_) (fun hc => ?_)
      · exact mw_return rfl rfl rfl (Nat.le_refl _) (hp)
      · omega
    · intro r hr ih
      obtain ⟨-, -, hl1, hl3, hat⟩ := hok.2.2.2.2.2.2 r hr
      have hcr := hoR_cnt (v := v) (m := m) (S := (0, ru0, hd0, li0, b0)) r
      generalize hP : itN (hoR v m) (0, ru0, hd0, li0, b0) r = P at ih hcr ⊢
      have eP : itN (hoR v m) (0, ru0, hd0, li0, b0) (r + 1) = hoR v m r P := by rw [← hP]; rfl
      rw [eP] at ih
      have hcr : P.1 ≤ 216 * r := by have : P.1 ≤ 0 + 216 * r := hcr; omega
      have loopC : ∀ j, j ≤ 216 → MW M_X10_findHolding (d + 3) 0 0 n post 19 [(0, .ref 178), (1, .int (nI r)), (2, .int (nI j))] [] (HH h w (itN (hoC v m r) P j)) n 0 := by
        refine loop_up 216 ?_ ?_
        · refine mw_iload_n (i := 2) rfl rfl rfl ?_
          refine mw_sipush (v := nI 216) rfl (by decide) ?_
          refine mw_n_ge rfl (by omega) (by omega) (fun hc => ?_) (fun hc => ?_)
          · first | refine mw_ninc rfl rfl (Nat.le_of_ble_eq_true rfl) ?_ | refine mw_iinc rfl rfl rfl (Nat.le_of_ble_eq_true rfl) ?_
            refine mw_goto rfl ?_
            exact mw_locals rfl ih
          · omega
        · intro j hj ihC
          have hcq := hoCs_cnt (v := v) (m := m) (r := r) (S := P) j
          generalize hQ : itN (hoC v m r) P j = Q at ihC hcq ⊢
          have eQ : itN (hoC v m r) P (j + 1) = hoC v m r j Q := by rw [← hQ]; rfl
          rw [eQ] at ihC
          have hb6 : ∀ x, x < 3 → bndU Q.2.2.2.2 j x < 6 := fun x hx => bndU_lt Q.2.2.2.2 hj hx
          have hq1 : Q.1 < 1728 := by omega
          unfold HH
          refine mw_iload_n (i := 2) rfl rfl rfl ?_
          refine mw_sipush (v := nI 216) rfl (by decide) ?_
          refine mw_n_ge rfl (by omega) (by omega) (fun hc => ?_) (fun hc => ?_)
          · omega
          · refine mw_aload_n (i := 0) rfl rfl rfl ?_
            refine mw_iload_n (i := 1) rfl rfl rfl ?_
            refine mw_iload_n (i := 2) rfl rfl rfl ?_
            refine mw_callV_f (c_isBinding (d + 1) n r j (updN w 6 (nI Q.1)) v Q.2.2.2.2 _ rfl hv rfl hok hr hj) rfl ok_X10_isBinding v_X10_142 rfl (by first | rfl | exact hO | exact hv | exact hm) (by intro e; cases e) rfl (Nat.le_of_ble_eq_true rfl) rfl (Nat.le_of_ble_eq_true rfl) (by omega) (by omega) (by omega) ?_
            rw [← mov_puts]
            refine mw_b_eq rfl (fun hbo => ?_) (fun hbo => ?_)
            · rw [show hoC v m r j Q = (Q.1, Q.2.1, Q.2.2.1, Q.2.2.2.1, bndU Q.2.2.2.2 j) by simp [hoC, hbo]] at ihC
              first | refine mw_ninc rfl rfl (Nat.le_of_ble_eq_true rfl) ?_ | refine mw_iinc rfl rfl rfl (Nat.le_of_ble_eq_true rfl) ?_
              refine mw_goto rfl ?_
              exact mw_locals rfl ihC
            · refine mw_aload_n (i := 0) rfl rfl rfl ?_
              refine mw_iload_n (i := 1) rfl rfl rfl ?_
              refine mw_aload_n (i := 0) rfl rfl rfl ?_
              refine mw_getfield rfl f_X10_32 (by first | rfl | exact hO | exact hv | exact hm) rfl ?_
              refine mw_callV_f (c_holds d n r 186 (updN w 6 (nI Q.1)) v (bndU Q.2.2.2.2 j) m _ rfl hv rfl hm hok hb6 hr) rfl ok_X10_holds v_X10_146 rfl (by first | rfl | exact hO | exact hv | exact hm) (by intro e; cases e) rfl (Nat.le_of_ble_eq_true rfl) rfl (Nat.le_of_ble_eq_true rfl) (by omega) (by omega) (by omega) ?_
              refine mw_b_eq rfl (fun hho => ?_) (fun hho => ?_)
              · rw [show hoC v m r j Q = (Q.1, Q.2.1, Q.2.2.1, Q.2.2.2.1, bndU Q.2.2.2.2 j) by simp [hoC, hbo, hho]] at ihC
                first | refine mw_ninc rfl rfl (Nat.le_of_ble_eq_true rfl) ?_ | refine mw_iinc rfl rfl rfl (Nat.le_of_ble_eq_true rfl) ?_
                refine mw_goto rfl ?_
                exact mw_locals rfl ihC
              · rw [show hoC v m r j Q = (Q.1 + 1, updN Q.2.1 Q.1 r, updN Q.2.2.1 Q.1 (fA v (bndU Q.2.2.2.2 j) r 0), itN (liU v (bndU Q.2.2.2.2 j) r Q.1) Q.2.2.2.1 3, bndU Q.2.2.2.2 j) by simp [hoC, hbo, hho]] at ihC
                have loopA : ∀ a, a ≤ 3 → MW M_X10_findHolding (d + 3) 0 0 n post 74 [(0, .ref 178), (1, .int (nI r)), (2, .int (nI j)), (3, .int (nI (a + 1)))] [] (mov [(178, RO (updN w 6 (nI Q.1))), (185, .inl (.int, 3, .inl (vI (bndU Q.2.2.2.2 j)))), (189, .inl (.int, 1728, .inl (vI (updN Q.2.1 Q.1 r)))), (190, .inl (.int, 1728, .inl (vI (updN Q.2.2.1 Q.1 (fA v (bndU Q.2.2.2.2 j) r 0))))), (191, .inl (.int, 5184, .inl (itN (liU v (bndU Q.2.2.2.2 j) r Q.1) Q.2.2.2.1 a)))] h) n 0 := by
                  refine loop_up 3 ?_ ?_
                  · refine mw_iload_n (i := 3) rfl rfl rfl ?_
                    refine mw_iconst (v := nI 4) rfl (by decide) ?_
                    refine mw_n_ge rfl (by omega) (by omega) (fun hc => ?_) (fun hc => ?_)
                    · refine mw_aload_n (i := 0) rfl rfl rfl ?_
                      refine mw_dup rfl rfl ?_
                      refine mw_getfield rfl f_X10_157 (by first | rfl | exact hO | exact hv | exact hm) rfl ?_
                      refine mw_iconst (v := nI 1) rfl (by decide) ?_
                      first | refine mw_nadd rfl ?_ | refine mw_iadd rfl ?_
                      refine mw_putfield_m rfl f_X10_157 (by first | rfl | exact hO | exact hv | exact hm) (Nat.le_of_ble_eq_true rfl) (fun _ => rfl) (fun _ => rfl) ?_
                      first | refine mw_ninc rfl rfl (Nat.le_of_ble_eq_true rfl) ?_ | refine mw_iinc rfl rfl rfl (Nat.le_of_ble_eq_true rfl) ?_
                      refine mw_goto rfl ?_
                      exact mw_locals rfl ihC
                    · omega
                  · intro a ha ihA
                    have st : ∀ fl : Bool, fl = plA v r (a + 1) → MW M_X10_findHolding (d + 3) 0 0 n post 117 [(0, .ref 178), (1, .int (nI r)), (2, .int (nI j)), (3, .int (nI (a + 1)))] [.int (bI fl)] (mov [(178, RO (updN w 6 (nI Q.1))), (185, .inl (.int, 3, .inl (vI (bndU Q.2.2.2.2 j)))), (189, .inl (.int, 1728, .inl (vI (updN Q.2.1 Q.1 r)))), (190, .inl (.int, 1728, .inl (vI (updN Q.2.2.1 Q.1 (fA v (bndU Q.2.2.2.2 j) r 0))))), (191, .inl (.int, 5184, .inl (itN (liU v (bndU Q.2.2.2.2 j) r Q.1) Q.2.2.2.1 a)))] h) n 0 := by
                      intro fl hfl
                      refine mw_istore rfl (Nat.le_of_ble_eq_true rfl) ?_
                      refine mw_aload_n (i := 0) rfl rfl rfl ?_
                      refine mw_getfield rfl f_X10_47 (by first | rfl | exact hO | exact hv | exact hm) rfl ?_
                      refine mw_iconst (v := nI 3) rfl (by decide) ?_
                      refine mw_aload_n (i := 0) rfl rfl rfl ?_
                      refine mw_getfield rfl f_X10_157 (by first | rfl | exact hO | exact hv | exact hm) rfl ?_
                      first | refine mw_nmul rfl ?_ | refine mw_imul rfl ?_
                      refine mw_iload_n (i := 3) rfl rfl rfl ?_
                      first | refine mw_nadd rfl ?_ | refine mw_iadd rfl ?_
                      refine mw_iconst (v := nI 1) rfl (by decide) ?_
                      refine mw_nsub (b := 1) rfl (by omega) ?_
                      rw [show 3 * Q.1 + (a + 1) - 1 = 3 * Q.1 + a by omega]
                      refine mw_iload rfl rfl ?_
                      refine mw_b_eq rfl (fun hb1 => ?_) (fun hb1 => ?_)
                      · have e : liA v (bndU Q.2.2.2.2 j) r (a + 1) = -1 := by unfold liA; rw [← hfl, hb1]; rfl
                        refine mw_iconst (v := (-1)) rfl (by decide) ?_
                        refine mw_iast_m (x := -1) rfl rfl (by omega) (by omega) ?_
                        first | refine mw_ninc rfl rfl (Nat.le_of_ble_eq_true rfl) ?_ | refine mw_iinc rfl rfl rfl (Nat.le_of_ble_eq_true rfl) ?_
                        refine mw_goto rfl ?_
                        refine mw_locals rfl (mw_heap ?_ ihA)
                        show mov [(178, RO (updN w 6 (nI Q.1))), (185, .inl (.int, 3, .inl (vI (bndU Q.2.2.2.2 j)))), (189, .inl (.int, 1728, .inl (vI (updN Q.2.1 Q.1 r)))), (190, .inl (.int, 1728, .inl (vI (updN Q.2.2.1 Q.1 (fA v (bndU Q.2.2.2.2 j) r 0))))), (191, .inl (.int, 5184, .inl (upd (itN (liU v (bndU Q.2.2.2.2 j) r Q.1) Q.2.2.2.1 a) (3 * Q.1 + a) (liA v (bndU Q.2.2.2.2 j) r (a + 1)))))] h = _
                        rw [e]
                        rfl
                      · have hpl : plA v r (a + 1) = true := by rw [← hfl]; exact hb1
                        have hle : a + 1 ≤ v (45 + 18 * r + 1) := by
                          simp only [plA, Bool.and_eq_true] at hpl
                          exact of_decide_eq_true hpl.1
                        have e : liA v (bndU Q.2.2.2.2 j) r (a + 1) = nI (fA v (bndU Q.2.2.2.2 j) r (a + 1)) := by unfold liA; rw [hpl]; rfl
                        refine mw_aload_n (i := 0) rfl rfl rfl ?_
                        refine mw_iload_n (i := 1) rfl rfl rfl ?_
                        refine mw_iload_n (i := 3) rfl rfl rfl ?_
                        refine mw_callV_f (c_factAt (d + 1) n r (a + 1) (updN w 6 (nI Q.1)) v (bndU Q.2.2.2.2 j) _ rfl hv rfl hok hr hle) rfl ok_X10_factAt v_X10_139 rfl (by first | rfl | exact hO | exact hv | exact hm) (by intro e; cases e) rfl (Nat.le_of_ble_eq_true rfl) rfl (Nat.le_of_ble_eq_true rfl) (by omega) (by omega) (by omega) ?_
                        refine mw_goto rfl ?_
                        refine mw_iast_m (x := nI (fA v (bndU Q.2.2.2.2 j) r (a + 1))) rfl rfl (by omega) (by omega) ?_
                        first | refine mw_ninc rfl rfl (Nat.le_of_ble_eq_true rfl) ?_ | refine mw_iinc rfl rfl rfl (Nat.le_of_ble_eq_true rfl) ?_
                        refine mw_goto rfl ?_
                        refine mw_locals rfl (mw_heap ?_ ihA)
                        show mov [(178, RO (updN w 6 (nI Q.1))), (185, .inl (.int, 3, .inl (vI (bndU Q.2.2.2.2 j)))), (189, .inl (.int, 1728, .inl (vI (updN Q.2.1 Q.1 r)))), (190, .inl (.int, 1728, .inl (vI (updN Q.2.2.1 Q.1 (fA v (bndU Q.2.2.2.2 j) r 0))))), (191, .inl (.int, 5184, .inl (upd (itN (liU v (bndU Q.2.2.2.2 j) r Q.1) Q.2.2.2.1 a) (3 * Q.1 + a) (liA v (bndU Q.2.2.2.2 j) r (a + 1)))))] h = _
                        rw [e]
                        rfl
                    refine mw_iload_n (i := 3) rfl rfl rfl ?_
                    refine mw_iconst (v := nI 4) rfl (by decide) ?_
                    refine mw_n_ge rfl (by omega) (by omega) (fun hc => ?_) (fun hc => ?_)
                    · omega
                    · refine mw_iload_n (i := 3) rfl rfl rfl ?_
                      refine mw_aload_n (i := 0) rfl rfl rfl ?_
                      refine mw_getfield rfl f_X10_7 (by first | rfl | exact hO | exact hv | exact hm) rfl ?_
                      refine mw_bipush (v := nI 45) rfl (by decide) ?_
                      refine mw_bipush (v := nI 18) rfl (by decide) ?_
                      refine mw_iload_n (i := 1) rfl rfl rfl ?_
                      first | refine mw_nmul rfl ?_ | refine mw_imul rfl ?_
                      first | refine mw_nadd rfl ?_ | refine mw_iadd rfl ?_
                      refine mw_iconst (v := nI 1) rfl (by decide) ?_
                      first | refine mw_nadd rfl ?_ | refine mw_iadd rfl ?_
                      refine mw_iald rfl (by first | rfl | exact hO | exact hv | exact hm) (by omega) (by omega) ?_
                      refine mw_n_gt rfl (by omega) (by omega) (fun hgt => ?_) (fun hgt => ?_)
                      · refine mw_iconst (v := nI 0) rfl (by decide) ?_
                        exact mw_locals rfl (st false (by simp [plA, show ¬ a + 1 ≤ v (45 + 18 * r + 1) by omega]))
                      · have h4 := (hat (a + 1) (by omega)).2.2.2
                        refine mw_aload_n (i := 0) rfl rfl rfl ?_
                        refine mw_getfield rfl f_X10_7 (by first | rfl | exact hO | exact hv | exact hm) rfl ?_
                        refine mw_iload_n (i := 1) rfl rfl rfl ?_
                        refine mw_iload_n (i := 3) rfl rfl rfl ?_
                        refine mw_callS_f (c_atomAt (d + 2) n r (a + 1) _) rfl ok_X10_atomAt v_X10_88 rfl (Nat.le_of_ble_eq_true rfl) rfl (Nat.le_of_ble_eq_true rfl) (by omega) (by omega) (by omega) ?_
                        refine mw_iconst (v := nI 3) rfl (by decide) ?_
                        first | refine mw_nadd rfl ?_ | refine mw_iadd rfl ?_
                        refine mw_iald_v (v := nI (v (45 + 18 * r + 2 + 4 * (a + 1) + 3))) rfl hv (by omega) (by omega) rfl ?_
                        refine mw_z_ne rfl (by omega) (fun hz => ?_) (fun hz => ?_)
                        · refine mw_iconst (v := nI 0) rfl (by decide) ?_
                          exact mw_locals rfl (st false (by simp [plA, hz]))
                        · refine mw_iconst (v := nI 1) rfl (by decide) ?_
                          refine mw_goto rfl ?_
                          exact mw_locals rfl (st true (by simp [plA, hz, hgt]))
                have := fA_lt hok hb6 hr (Nat.zero_le _)
                refine mw_aload_n (i := 0) rfl rfl rfl ?_
                refine mw_getfield rfl f_X10_41 (by first | rfl | exact hO | exact hv | exact hm) rfl ?_
                refine mw_aload_n (i := 0) rfl rfl rfl ?_
                refine mw_getfield rfl f_X10_157 (by first | rfl | exact hO | exact hv | exact hm) rfl ?_
                refine mw_iload_n (i := 1) rfl rfl rfl ?_
                refine mw_iast_m rfl (by first | rfl | exact hO | exact hv | exact hm) (by omega) (by omega) ?_
                first | rw [vI_upd] | rw [vI_updv] | skip
                refine mw_aload_n (i := 0) rfl rfl rfl ?_
                refine mw_getfield rfl f_X10_44 (by first | rfl | exact hO | exact hv | exact hm) rfl ?_
                refine mw_aload_n (i := 0) rfl rfl rfl ?_
                refine mw_getfield rfl f_X10_157 (by first | rfl | exact hO | exact hv | exact hm) rfl ?_
                refine mw_aload_n (i := 0) rfl rfl rfl ?_
                refine mw_iload_n (i := 1) rfl rfl rfl ?_
                refine mw_iconst (v := nI 0) rfl (by decide) ?_
                refine mw_callV_f (c_factAt (d + 1) n r 0 (updN w 6 (nI Q.1)) v (bndU Q.2.2.2.2 j) _ rfl hv rfl hok hr (by omega)) rfl ok_X10_factAt v_X10_139 rfl (by first | rfl | exact hO | exact hv | exact hm) (by intro e; cases e) rfl (Nat.le_of_ble_eq_true rfl) rfl (Nat.le_of_ble_eq_true rfl) (by omega) (by omega) (by omega) ?_
                refine mw_iast_m rfl (by first | rfl | exact hO | exact hv | exact hm) (by omega) (by omega) ?_
                first | rw [vI_upd] | rw [vI_updv] | skip
                refine mw_iconst (v := nI 1) rfl (by decide) ?_
                refine mw_istore_n (i := 3) rfl rfl (Nat.le_of_ble_eq_true rfl) ?_
                exact mw_locals rfl (loopA 0 (by omega))
      refine mw_iload_n (i := 1) rfl rfl rfl ?_
      refine mw_aload_n (i := 0) rfl rfl rfl ?_
      refine mw_getfield rfl f_X10_7 (by first | rfl | exact hO | exact hv | exact hm) rfl ?_
      refine mw_iconst (v := nI 2) rfl (by decide) ?_
      refine mw_iald rfl (by first | rfl | exact hO | exact hv | exact hm) (by omega) (by omega) ?_
      refine mw_n_ge rfl (by omega) (by omega) (fun hc => ?_) (fun hc => ?_)
      · omega
      · refine mw_iconst (v := nI 0) rfl (by decide) ?_
        refine mw_istore_n (i := 2) rfl rfl (Nat.le_of_ble_eq_true rfl) ?_
        exact mw_locals rfl (loopC 0 (by omega))
  refine mw_over [(178, RO w)] (mov_self (by simp [hO])) ?_
  refine mw_aload_n (i := 0) rfl rfl rfl ?_
  refine mw_iconst (v := nI 0) rfl (by decide) ?_
  refine mw_putfield_m rfl f_X10_157 (by first | rfl | exact hO | exact hv | exact hm) (Nat.le_of_ble_eq_true rfl) (fun _ => rfl) (fun _ => rfl) ?_
  refine mw_iconst (v := nI 0) rfl (by decide) ?_
  refine mw_istore_n (i := 1) rfl rfl (Nat.le_of_ble_eq_true rfl) ?_
  refine mw_locals (L2 := [(0, .ref 178), (1, .int (nI 0))]) rfl (mw_heap ?_ (loopR 0 (by omega)))
  exact mov_app (l := [(178, RO (updN w 6 (nI 0)))]) (l2 := [(185, .inl (.int, 3, .inl (vI b0))), (189, .inl (.int, 1728, .inl (vI ru0))), (190, .inl (.int, 1728, .inl (vI hd0))), (191, .inl (.int, 5184, .inl li0))]) (by simp [hb, hru, hhd, hli])
