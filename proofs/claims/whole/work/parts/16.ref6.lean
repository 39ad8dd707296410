theorem bIf_updt (b : Nat → Bool) (k : Nat) : upd (bIf b) k (nI 1) = bIf (updN b k true) := bIf_upd b k true
theorem bIf_updf (b : Nat → Bool) (k : Nat) : upd (bIf b) k (nI 0) = bIf (updN b k false) := bIf_upd b k false
/-- a round of a stratum: what goes through all instances: (new facts, binding) -/
def goC (v : Nat → Nat) (m : Nat → Int32) (r code : Nat) (p : (Nat → Bool) × (Nat → Nat)) : (Nat → Bool) × (Nat → Nat) :=
  (if bOk v r code && holdsR v (bndU p.2 code) m r then updN p.1 (fA v (bndU p.2 code) r 0) (decide (m (fA v (bndU p.2 code) r 0) < 0)) else p.1, bndU p.2 code)
def goR (v st : Nat → Nat) (m : Nat → Int32) (s r : Nat) (p : (Nat → Bool) × (Nat → Nat)) : (Nat → Bool) × (Nat → Nat) :=
  if st (v (45 + 18 * r + 2 + 4 * 0)) = s then itN (goC v m r) p 216 else p
def clrB (nb : Nat → Bool) (i : Nat) : Nat → Bool := fun j => if j < i then false else nb j
def goA (v st : Nat → Nat) (m : Nat → Int32) (s : Nat) (nb : Nat → Bool) (b : Nat → Nat) : (Nat → Bool) × (Nat → Nat) := itN (goR v st m s) (clrB nb 216, b) (v 2)
def cntB (f : Nat → Bool) : Nat → Nat
  | 0 => 0
  | k + 1 => cntB f k + (if f k then 1 else 0)
theorem cntB_le (f : Nat → Bool) : ∀ k, cntB f k ≤ k
  | 0 => Nat.le_refl _
  | k + 1 => by
    have := cntB_le f k
    simp only [cntB]
    split <;> omega
def goM (nw : Nat → Bool) (m : Nat → Int32) (k i : Nat) : Nat → Int32 := fun f => if f < i then (if nw f then nI k else m f) else m f
def HGA (h : Nat → MC) (p : (Nat → Bool) × (Nat → Nat)) (m : Nat → Int32) : Nat → MC := mov [(185, .inl (.int, 3, .inl (vI p.2))), (186, .inl (.int, 216, .inl m)), (188, .inl (.boolean, 216, .inl (bIf p.1)))] h
theorem c_goesA (d n : Nat) (s rm : Nat) (w : Nat → Int32) (v st b : Nat → Nat) (nb : Nat → Bool) (m : Nat → Int32) (h : Nat → MC) (hO : h 178 = RO w) (hv : h 179 = .inl (.int, 189, .inl (vI v))) (hb : h 185 = .inl (.int, 3, .inl (vI b))) (hm : h 186 = .inl (.int, 216, .inl m)) (hst : h 184 = .inl (.int, 6, .inl (vI st))) (hn : h 188 = .inl (.boolean, 216, .inl (bIf nb))) (hok : OkN v) (hst6 : ∀ p, p < 6 → st p < 6) (hs : s < 6) (hrm : w 5 = nI rm) (hrm2 : rm < 1000000) :
    Fn M_X10_goes (d + 3) 0 0 [.ref 178, .int (nI s), .ref 186] h n (some (.int (nI (cntB (goA v st m s nb b).1 216)))) (mov [(185, .inl (.int, 3, .inl (vI (goA v st m s nb b).2))), (186, .inl (.int, 216, .inl (goM (goA v st m s nb b).1 m (if 0 < cntB (goA v st m s nb b).1 216 then rm + 1 else rm) 216))), (188, .inl (.boolean, 216, .inl (bIf (goA v st m s nb b).1))), (178, RO (updN w 5 (nI (if 0 < cntB (goA v st m s nb b).1 216 then rm + 1 else rm))))] h) := by
  refine Fn.of fun post hp => ?_
  have hr8 := hok.2.2.2.1
  -- E
  have loopE : ∀ (p : (Nat → Bool) × (Nat → Nat)) (c k : Nat), k < 2000000 → post (some (.int (nI c))) (mov [(185, .inl (.int, 3, .inl (vI p.2))), (186, .inl (.int, 216, .inl (goM p.1 m k 216))), (188, .inl (.boolean, 216, .inl (bIf p.1))), (178, RO (updN w 5 (nI k)))] h) → ∀ j, j ≤ 216 → MW M_X10_goes (d + 3) 0 0 n post 189 [(0, .ref 178), (1, .int (nI s)), (2, .ref 186), (3, .int (nI c)), (4, .int (nI j))] [] (mov [(185, .inl (.int, 3, .inl (vI p.2))), (186, .inl (.int, 216, .inl (goM p.1 m k j))), (188, .inl (.boolean, 216, .inl (bIf p.1))), (178, RO (updN w 5 (nI k)))] h) n 0 := by
    intro p c k hk hp
    refine loop_up 216 ?_ ?_
    · refine mw_iload rfl rfl ?_
      refine mw_sipush (v := nI 216) rfl (by decide) ?_
      refine mw_n_ge rfl (by omega) (by omega) (fun hc => ?_) (fun hc => ?_)
      · refine mw_iload_n (i := 3) rfl rfl rfl ?_
        exact mw_ireturn rfl rfl rfl rfl (Nat.le_refl _) (hp)
      · omega
    · intro j hj ih
      refine mw_iload rfl rfl ?_
      refine mw_sipush (v := nI 216) rfl (by decide) ?_
      refine mw_n_ge rfl (by omega) (by omega) (fun hc => ?_) (fun hc => ?_)
      · omega
      · refine mw_aload_n (i := 2) rfl rfl rfl ?_
        refine mw_iload rfl rfl ?_
        refine mw_aload_n (i := 0) rfl rfl rfl ?_
        refine mw_getfield rfl f_X10_38 (by first | rfl | exact hO | exact hv | exact hb | exact hm | exact hst | exact hn) rfl ?_
        refine mw_iload rfl rfl ?_
        refine mw_zald rfl (by first | rfl | exact hO | exact hv | exact hb | exact hm | exact hst | exact hn) (by omega) (by omega) ?_
        refine mw_b_eq rfl (fun hnb => ?_) (fun hnb => ?_)
        · have e : upd (goM p.1 m k j) j (goM p.1 m k j j) = goM p.1 m k (j + 1) := by
            funext i
            simp only [upd, goM]
            by_cases q1 : i = j
            · subst q1
              simp [hnb]
            · rw [if_neg q1]
              have q3 : i < j + 1 ↔ i < j := by omega
              simp only [q3]
          refine mw_aload_n (i := 2) rfl rfl rfl ?_
          refine mw_iload rfl rfl ?_
          refine mw_iald rfl (by first | rfl | exact hO | exact hv | exact hb | exact hm | exact hst | exact hn) (by omega) (by omega) ?_
          refine mw_iast_m rfl (by first | rfl | exact hO | exact hv | exact hb | exact hm | exact hst | exact hn) (by omega) (by omega) ?_
          first | rw [vI_upd] | rw [vI_updv] | skip
          rw [e]
          first | refine mw_ninc rfl rfl (Nat.le_of_ble_eq_true rfl) ?_ | refine mw_iinc rfl rfl rfl (Nat.le_of_ble_eq_true rfl) ?_
          refine mw_goto rfl ?_
          exact mw_locals rfl ih
        · have e : upd (goM p.1 m k j) j (nI k) = goM p.1 m k (j + 1) := by
            funext i
            simp only [upd, goM]
            by_cases q1 : i = j
            · subst q1
              simp [hnb]
            · rw [if_neg q1]
              have q3 : i < j + 1 ↔ i < j := by omega
              simp only [q3]
          refine mw_aload_n (i := 0) rfl rfl rfl ?_
          refine mw_getfield rfl f_X10_150 (by first | rfl | exact hO | exact hv | exact hb | exact hm | exact hst | exact hn) rfl ?_
          refine mw_goto rfl ?_
          refine mw_iast_m (x := nI k) rfl rfl (by omega) (by omega) ?_
          rw [e]
          first | refine mw_ninc rfl rfl (Nat.le_of_ble_eq_true rfl) ?_ | refine mw_iinc rfl rfl rfl (Nat.le_of_ble_eq_true rfl) ?_
          refine mw_goto rfl ?_
          exact mw_locals rfl ih
  -- D
  have loopD : ∀ (p : (Nat → Bool) × (Nat → Nat)), post (some (.int (nI (cntB p.1 216)))) (mov [(185, .inl (.int, 3, .inl (vI p.2))), (186, .inl (.int, 216, .inl (goM p.1 m (if 0 < cntB p.1 216 then rm + 1 else rm) 216))), (188, .inl (.boolean, 216, .inl (bIf p.1))), (178, RO (updN w 5 (nI (if 0 < cntB p.1 216 then rm + 1 else rm))))] h) → ∀ j, j ≤ 216 → MW M_X10_goes (d + 3) 0 0 n post 136 [(0, .ref 178), (1, .int (nI s)), (2, .ref 186), (3, .int (nI (cntB p.1 j))), (4, .int (nI j))] [] (HGA h p m) n 0 := by
    intro p hp
    refine loop_up 216 ?_ ?_
    · refine mw_iload rfl rfl ?_
      refine mw_sipush (v := nI 216) rfl (by decide) ?_
      refine mw_n_ge rfl (by omega) (by omega) (fun hc => ?_) (fun hc => ?_)
      · have hc216 := cntB_le p.1 216
        have e0 : ∀ k, goM p.1 m k 0 = m := fun k => by funext i; simp [goM]
        refine mw_heap (h2 := mov [(185, .inl (.int, 3, .inl (vI p.2))), (186, .inl (.int, 216, .inl m)), (188, .inl (.boolean, 216, .inl (bIf p.1)))] h) rfl ?_
        refine mw_aload_n (i := 0) rfl rfl rfl ?_
        refine mw_dup rfl rfl ?_
        refine mw_getfield rfl f_X10_150 (by first | rfl | exact hO | exact hv | exact hb | exact hm | exact hst | exact hn) rfl ?_
        rw [hrm]
        refine mw_iload_n (i := 3) rfl rfl rfl ?_
        refine mw_z_le rfl (by omega) (fun hz => ?_) (fun hz => ?_)
        · rw [if_neg (by omega)] at hp
          refine mw_iconst (v := nI 0) rfl (by decide) ?_
          first | refine mw_nadd rfl ?_ | refine mw_iadd rfl ?_
          refine mw_putfield_m rfl f_X10_150 (by first | rfl | exact hO | exact hv | exact hb | exact hm | exact hst | exact hn) (Nat.le_of_ble_eq_true rfl) (fun _ => rfl) (fun _ => rfl) ?_
          refine mw_iconst (v := nI 0) rfl (by decide) ?_
          refine mw_istore rfl (Nat.le_of_ble_eq_true rfl) ?_
          refine mw_locals rfl (mw_heap ?_ (loopE p _ rm (by omega) hp 0 (by omega)))
          rw [e0]
          rfl
        · rw [if_pos hz] at hp
          refine mw_iconst (v := nI 1) rfl (by decide) ?_
          refine mw_goto rfl ?_
          first | refine mw_nadd rfl ?_ | refine mw_iadd rfl ?_
          refine mw_putfield_m rfl f_X10_150 (by first | rfl | exact hO | exact hv | exact hb | exact hm | exact hst | exact hn) (Nat.le_of_ble_eq_true rfl) (fun _ => rfl) (fun _ => rfl) ?_
          refine mw_iconst (v := nI 0) rfl (by decide) ?_
          refine mw_istore rfl (Nat.le_of_ble_eq_true rfl) ?_
          refine mw_locals rfl (mw_heap ?_ (loopE p _ (rm + 1) (by omega) hp 0 (by omega)))
          rw [e0]
          rfl
      · omega
    · intro j hj ih
      refine mw_iload rfl rfl ?_
      refine mw_sipush (v := nI 216) rfl (by decide) ?_
      refine mw_n_ge rfl (by omega) (by omega) (fun hc => ?_) (fun hc => ?_)
      · omega
      · have hcj := cntB_le p.1 j
        refine mw_iload_n (i := 3) rfl rfl rfl ?_
        refine mw_aload_n (i := 0) rfl rfl rfl ?_
        refine mw_getfield rfl f_X10_38 (by first | rfl | exact hO | exact hv | exact hb | exact hm | exact hst | exact hn) rfl ?_
        refine mw_iload rfl rfl ?_
        refine mw_zald rfl (by first | rfl | exact hO | exact hv | exact hb | exact hm | exact hst | exact hn) (by omega) (by omega) ?_
        refine mw_b_eq rfl (fun hnb => ?_) (fun hnb => ?_)
        · refine mw_iconst (v := nI 0) rfl (by decide) ?_
          first | refine mw_nadd rfl ?_ | refine mw_iadd rfl ?_
          refine mw_istore_n (i := 3) rfl rfl (Nat.le_of_ble_eq_true rfl) ?_
          first | refine mw_ninc rfl rfl (Nat.le_of_ble_eq_true rfl) ?_ | refine mw_iinc rfl rfl rfl (Nat.le_of_ble_eq_true rfl) ?_
          refine mw_goto rfl ?_
          refine mw_locals ?_ ih
          rw [show cntB p.1 (j + 1) = cntB p.1 j + 0 by simp [cntB, hnb]]
          rfl
        · refine mw_iconst (v := nI 1) rfl (by decide) ?_
          refine mw_goto rfl ?_
          first | refine mw_nadd rfl ?_ | refine mw_iadd rfl ?_
          refine mw_istore_n (i := 3) rfl rfl (Nat.le_of_ble_eq_true rfl) ?_
          first | refine mw_ninc rfl rfl (Nat.le_of_ble_eq_true rfl) ?_ | refine mw_iinc rfl rfl rfl (Nat.le_of_ble_eq_true rfl) ?_
          refine mw_goto rfl ?_
          refine mw_locals ?_ ih
          rw [show cntB p.1 (j + 1) = cntB p.1 j + 1 by simp [cntB, hnb]]
          rfl
  -- B and C
  have loopB : ∀ r, r ≤ v 2 → MW M_X10_goes (d + 3) 0 0 n post 30 [(0, .ref 178), (1, .int (nI s)), (2, .ref 186), (3, .int (nI 0)), (4, .int (nI r))] [] (HGA h (itN (goR v st m s) (clrB nb 216, b) r) m) n 0 := by
    refine loop_up (v 2) ?_ ?_
    · refine mw_iload rfl rfl ?_
      refine mw_aload_n (i := 0) rfl rfl rfl ?_
      refine mw_getfield rfl f_X10_7 (by first | rfl | exact hO | exact hv | exact hb | exact hm | exact hst | exact hn) rfl ?_
      refine mw_iconst (v := nI 2) rfl (by decide) ?_
      refine mw_iald rfl (by first | rfl | exact hO | exact hv | exact hb | exact hm | exact hst | exact hn) (by omega) (by omega) ?_
      refine mw_n_ge rfl (by omega) (by omega) (fun hc => ?_) (fun hc => ?_)
      · refine mw_iconst (v := nI 0) rfl (by decide) ?_
        refine mw_istore rfl (Nat.le_of_ble_eq_true rfl) ?_
        exact mw_locals rfl (loopD _ hp 0 (by omega))
      · omega
    · intro r hr ih
      obtain ⟨-, -, hl1, hl3, hat⟩ := hok.2.2.2.2.2.2 r hr
      have hp6 := (hat 0 (by omega)).1
      generalize hP : itN (goR v st m s) (clrB nb 216, b) r = P at ih ⊢
      have eP : itN (goR v st m s) (clrB nb 216, b) (r + 1) = goR v st m s r P := by rw [← hP]; rfl
      rw [eP] at ih
      refine mw_iload rfl rfl ?_
      refine mw_aload_n (i := 0) rfl rfl rfl ?_
      refine mw_getfield rfl f_X10_7 (by first | rfl | exact hO | exact hv | exact hb | exact hm | exact hst | exact hn) rfl ?_
      refine mw_iconst (v := nI 2) rfl (by decide) ?_
      refine mw_iald rfl (by first | rfl | exact hO | exact hv | exact hb | exact hm | exact hst | exact hn) (by omega) (by omega) ?_
      refine mw_n_ge rfl (by omega) (by omega) (fun hc => ?_) (fun hc => ?_)
      · omega
      · refine mw_iconst (v := nI 0) rfl (by decide) ?_
        refine mw_istore rfl (Nat.le_of_ble_eq_true rfl) ?_
        by_cases hss : st (v (45 + 18 * r + 2 + 4 * 0)) = s
        · rw [goR, if_pos hss] at ih
          have loopC : ∀ j, j ≤ 216 → MW M_X10_goes (d + 3) 0 0 n post 44 [(0, .ref 178), (1, .int (nI s)), (2, .ref 186), (3, .int (nI 0)), (4, .int (nI r)), (5, .int (nI j))] [] (HGA h (itN (goC v m r) P j) m) n 0 := by
            refine loop_up 216 ?_ ?_
            · refine mw_iload rfl rfl ?_
              refine mw_sipush (v := nI 216) rfl (by decide) ?_
              refine mw_n_ge rfl (by omega) (by omega) (fun hc => ?_) (fun hc => ?_)
              · first | refine mw_ninc rfl rfl (Nat.le_of_ble_eq_true rfl) ?_ | refine mw_iinc rfl rfl rfl (Nat.le_of_ble_eq_true rfl) ?_
                refine mw_goto rfl ?_
                exact mw_locals rfl ih
              · omega
            · intro j hj ihC
              generalize hQ : itN (goC v m r) P j = Q at ihC ⊢
              have eQ : itN (goC v m r) P (j + 1) = goC v m r j Q := by rw [← hQ]; rfl
              rw [eQ] at ihC
              have hb6 : ∀ x, x < 3 → bndU Q.2 j x < 6 := fun x hx => bndU_lt Q.2 hj hx
              have hlt := fA_lt hok hb6 hr (show 0 ≤ v (45 + 18 * r + 1) by omega)
              refine mw_iload rfl rfl ?_
              refine mw_sipush (v := nI 216) rfl (by decide) ?_
              refine mw_n_ge rfl (by omega) (by omega) (fun hc => ?_) (fun hc => ?_)
              · omega
              · refine mw_aload_n (i := 0) rfl rfl rfl ?_
                refine mw_getfield rfl f_X10_26 (by first | rfl | exact hO | exact hv | exact hb | exact hm | exact hst | exact hn) rfl ?_
                refine mw_aload_n (i := 0) rfl rfl rfl ?_
                refine mw_getfield rfl f_X10_7 (by first | rfl | exact hO | exact hv | exact hb | exact hm | exact hst | exact hn) rfl ?_
                refine mw_iload rfl rfl ?_
                refine mw_iconst (v := nI 0) rfl (by decide) ?_
                refine mw_callS_f (c_atomAt (d + 2) n r 0 _) rfl ok_X10_atomAt v_X10_88 rfl (Nat.le_of_ble_eq_true rfl) rfl (Nat.le_of_ble_eq_true rfl) (by omega) (by omega) (by omega) ?_
                refine mw_iald rfl (by first | rfl | exact hO | exact hv | exact hb | exact hm | exact hst | exact hn) (by omega) (by omega) ?_
                refine mw_iald_v (v := nI s) rfl hst (by omega) (by omega) (congrArg nI hss) ?_
                refine mw_iload_n (i := 1) rfl rfl rfl ?_
                refine mw_n_ne rfl (by omega) (by omega) (fun hne => ?_) (fun hne => ?_)
                · exact absurd rfl hne
                · refine mw_aload_n (i := 0) rfl rfl rfl ?_
                  refine mw_iload rfl rfl ?_
                  refine mw_iload rfl rfl ?_
                  refine mw_callV_f (c_isBinding (d + 1) n r j w v Q.2 _ hO hv rfl hok hr hj) rfl ok_X10_isBinding v_X10_142 rfl (by first | rfl | exact hO | exact hv | exact hb | exact hm | exact hst | exact hn) (by intro e; cases e) rfl (Nat.le_of_ble_eq_true rfl) rfl (Nat.le_of_ble_eq_true rfl) (by omega) (by omega) (by omega) ?_
                  unfold HGA
                  rw [← mov_puts]
                  refine mw_b_eq rfl (fun hbo => ?_) (fun hbo => ?_)
                  · rw [show goC v m r j Q = (Q.1, bndU Q.2 j) by simp [goC, hbo]] at ihC
                    first | refine mw_ninc rfl rfl (Nat.le_of_ble_eq_true rfl) ?_ | refine mw_iinc rfl rfl rfl (Nat.le_of_ble_eq_true rfl) ?_
                    refine mw_goto rfl ?_
                    exact mw_locals rfl ihC
                  · refine mw_aload_n (i := 0) rfl rfl rfl ?_
                    refine mw_iload rfl rfl ?_
                    refine mw_aload_n (i := 2) rfl rfl rfl ?_
                    refine mw_callV_f (c_holds d n r 186 w v (bndU Q.2 j) m _ hO hv rfl rfl hok hb6 hr) rfl ok_X10_holds v_X10_146 rfl (by first | rfl | exact hO | exact hv | exact hb | exact hm | exact hst | exact hn) (by intro e; cases e) rfl (Nat.le_of_ble_eq_true rfl) rfl (Nat.le_of_ble_eq_true rfl) (by omega) (by omega) (by omega) ?_
                    refine mw_b_eq rfl (fun hho => ?_) (fun hho => ?_)
                    · rw [show goC v m r j Q = (Q.1, bndU Q.2 j) by simp [goC, hbo, hho]] at ihC
                      first | refine mw_ninc rfl rfl (Nat.le_of_ble_eq_true rfl) ?_ | refine mw_iinc rfl rfl rfl (Nat.le_of_ble_eq_true rfl) ?_
                      refine mw_goto rfl ?_
                      exact mw_locals rfl ihC
                    · refine mw_aload_n (i := 0) rfl rfl rfl ?_
                      refine mw_iload rfl rfl ?_
                      refine mw_iconst (v := nI 0) rfl (by decide) ?_
                      refine mw_callV_f (c_factAt (d + 1) n r 0 w v (bndU Q.2 j) _ hO hv rfl hok hr (by omega)) rfl ok_X10_factAt v_X10_139 rfl (by first | rfl | exact hO | exact hv | exact hb | exact hm | exact hst | exact hn) (by intro e; cases e) rfl (Nat.le_of_ble_eq_true rfl) rfl (Nat.le_of_ble_eq_true rfl) (by omega) (by omega) (by omega) ?_
                      refine mw_istore rfl (Nat.le_of_ble_eq_true rfl) ?_
                      refine mw_aload_n (i := 0) rfl rfl rfl ?_
                      refine mw_getfield rfl f_X10_38 (by first | rfl | exact hO | exact hv | exact hb | exact hm | exact hst | exact hn) rfl ?_
                      refine mw_iload rfl rfl ?_
                      refine mw_aload_n (i := 2) rfl rfl rfl ?_
                      refine mw_iload rfl rfl ?_
                      refine mw_iald rfl (by first | rfl | exact hO | exact hv | exact hb | exact hm | exact hst | exact hn) (by omega) (by omega) ?_
                      refine mw_if_ge rfl (fun ht => ?_) (fun ht => ?_)
                      · rw [show goC v m r j Q = (updN Q.1 (fA v (bndU Q.2 j) r 0) false, bndU Q.2 j) by simp [goC, hbo, hho, Int32.not_lt.mpr ht]] at ihC
                        refine mw_iconst (v := nI 0) rfl (by decide) ?_
                        first | refine mw_zast_m rfl (by first | rfl | exact hO | exact hv | exact hb | exact hm | exact hst | exact hn) (by omega) (by omega) (bI_z _) ?_ | refine mw_zast_m rfl (by first | rfl | exact hO | exact hv | exact hb | exact hm | exact hst | exact hn) (by omega) (by omega) (by decide) ?_
                        first | rw [bIf_updt] | rw [bIf_updf] | rw [bIf_upd] | skip
                        first | refine mw_ninc rfl rfl (Nat.le_of_ble_eq_true rfl) ?_ | refine mw_iinc rfl rfl rfl (Nat.le_of_ble_eq_true rfl) ?_
                        refine mw_goto rfl ?_
                        exact mw_locals rfl ihC
                      · rw [show goC v m r j Q = (updN Q.1 (fA v (bndU Q.2 j) r 0) true, bndU Q.2 j) by simp [goC, hbo, hho, Int32.not_le.mp ht]] at ihC
                        refine mw_iconst (v := nI 1) rfl (by decide) ?_
                        refine mw_goto rfl ?_
                        first | refine mw_zast_m rfl (by first | rfl | exact hO | exact hv | exact hb | exact hm | exact hst | exact hn) (by omega) (by omega) (bI_z _) ?_ | refine mw_zast_m rfl (by first | rfl | exact hO | exact hv | exact hb | exact hm | exact hst | exact hn) (by omega) (by omega) (by decide) ?_
                        first | rw [bIf_updt] | rw [bIf_updf] | rw [bIf_upd] | skip
                        first | refine mw_ninc rfl rfl (Nat.le_of_ble_eq_true rfl) ?_ | refine mw_iinc rfl rfl rfl (Nat.le_of_ble_eq_true rfl) ?_
                        refine mw_goto rfl ?_
                        exact mw_locals rfl ihC
          exact mw_locals rfl (loopC 0 (by omega))
        · rw [goR, if_neg hss] at ih
          refine mw_iload rfl rfl ?_
          refine mw_sipush (v := nI 216) rfl (by decide) ?_
          refine mw_n_ge rfl (by omega) (by omega) (fun hc => ?_) (fun hc => ?_)
          · omega
          · refine mw_aload_n (i := 0) rfl rfl rfl ?_
            refine mw_getfield rfl f_X10_26 (by first | rfl | exact hO | exact hv | exact hb | exact hm | exact hst | exact hn) rfl ?_
            refine mw_aload_n (i := 0) rfl rfl rfl ?_
            refine mw_getfield rfl f_X10_7 (by first | rfl | exact hO | exact hv | exact hb | exact hm | exact hst | exact hn) rfl ?_
            refine mw_iload rfl rfl ?_
            refine mw_iconst (v := nI 0) rfl (by decide) ?_
            refine mw_callS_f (c_atomAt (d + 2) n r 0 _) rfl ok_X10_atomAt v_X10_88 rfl (Nat.le_of_ble_eq_true rfl) rfl (Nat.le_of_ble_eq_true rfl) (by omega) (by omega) (by omega) ?_
            refine mw_iald rfl (by first | rfl | exact hO | exact hv | exact hb | exact hm | exact hst | exact hn) (by omega) (by omega) ?_
            refine mw_iald rfl (by first | rfl | exact hO | exact hv | exact hb | exact hm | exact hst | exact hn) (by omega) (by omega) ?_
            have h6 := hst6 _ hp6
            refine mw_iload_n (i := 1) rfl rfl rfl ?_
            refine mw_n_ne rfl (by omega) (by omega) (fun hne => ?_) (fun hne => ?_)
            · first | refine mw_ninc rfl rfl (Nat.le_of_ble_eq_true rfl) ?_ | refine mw_iinc rfl rfl rfl (Nat.le_of_ble_eq_true rfl) ?_
              refine mw_goto rfl ?_
              exact mw_locals rfl ih
            · exact absurd hne hss
  have loopA : ∀ j, j ≤ 216 → MW M_X10_goes (d + 3) 0 0 n post 5 [(0, .ref 178), (1, .int (nI s)), (2, .ref 186), (3, .int (nI 0)), (4, .int (nI j))] [] (HGA h (clrB nb j, b) m) n 0 := by
    refine loop_up 216 ?_ ?_
    · refine mw_iload rfl rfl ?_
      refine mw_sipush (v := nI 216) rfl (by decide) ?_
      refine mw_n_ge rfl (by omega) (by omega) (fun hc => ?_) (fun hc => ?_)
      · refine mw_iconst (v := nI 0) rfl (by decide) ?_
        refine mw_istore rfl (Nat.le_of_ble_eq_true rfl) ?_
        exact mw_locals rfl (loopB 0 (by omega))
      · omega
    · intro j hj ih
      have e : updN (clrB nb j) j false = clrB nb (j + 1) := by
        funext i
        simp only [updN, clrB]
        by_cases q1 : i = j
        · subst q1
          simp
        · rw [if_neg q1]
          by_cases q2 : i < j
          · rw [if_pos q2, if_pos (by omega)]
          · rw [if_neg q2, if_neg (by omega)]
      unfold HGA
      refine mw_iload rfl rfl ?_
      refine mw_sipush (v := nI 216) rfl (by decide) ?_
      refine mw_n_ge rfl (by omega) (by omega) (fun hc => ?_) (fun hc => ?_)
      · omega
      · refine mw_aload_n (i := 0) rfl rfl rfl ?_
        refine mw_getfield rfl f_X10_38 (by first | rfl | exact hO | exact hv | exact hb | exact hm | exact hst | exact hn) rfl ?_
        refine mw_iload rfl rfl ?_
        refine mw_iconst (v := nI 0) rfl (by decide) ?_
        first | refine mw_zast_m rfl (by first | rfl | exact hO | exact hv | exact hb | exact hm | exact hst | exact hn) (by omega) (by omega) (bI_z _) ?_ | refine mw_zast_m rfl (by first | rfl | exact hO | exact hv | exact hb | exact hm | exact hst | exact hn) (by omega) (by omega) (by decide) ?_
        first | rw [bIf_updt] | rw [bIf_updf] | rw [bIf_upd] | skip
        rw [e]
        first | refine mw_ninc rfl rfl (Nat.le_of_ble_eq_true rfl) ?_ | refine mw_iinc rfl rfl rfl (Nat.le_of_ble_eq_true rfl) ?_
        refine mw_goto rfl ?_
        exact mw_locals rfl ih
  refine mw_iconst (v := nI 0) rfl (by decide) ?_
  refine mw_istore_n (i := 3) rfl rfl (Nat.le_of_ble_eq_true rfl) ?_
  refine mw_iconst (v := nI 0) rfl (by decide) ?_
  refine mw_istore rfl (Nat.le_of_ble_eq_true rfl) ?_
  refine mw_locals rfl (mw_heap ?_ (loopA 0 (by omega)))
  rw [show clrB nb 0 = nb by funext i; simp [clrB]]
  exact mov_self (by simp [hb, hm, hn])
def HGB (h : Nat → MC) (p : (Nat → Bool) × (Nat → Nat)) (m : Nat → Int32) : Nat → MC := mov [(185, .inl (.int, 3, .inl (vI p.2))), (187, .inl (.int, 216, .inl m)), (188, .inl (.boolean, 216, .inl (bIf p.1)))] h
theorem c_goesB (d n : Nat) (s rm : Nat) (w : Nat → Int32) (v st b : Nat → Nat) (nb : Nat → Bool) (m : Nat → Int32) (h : Nat → MC) (hO : h 178 = RO w) (hv : h 179 = .inl (.int, 189, .inl (vI v))) (hb : h 185 = .inl (.int, 3, .inl (vI b))) (hm : h 187 = .inl (.int, 216, .inl m)) (hst : h 184 = .inl (.int, 6, .inl (vI st))) (hn : h 188 = .inl (.boolean, 216, .inl (bIf nb))) (hok : OkN v) (hst6 : ∀ p, p < 6 → st p < 6) (hs : s < 6) (hrm : w 5 = nI rm) (hrm2 : rm < 1000000) :
    Fn M_X10_goes (d + 3) 0 0 [.ref 178, .int (nI s), .ref 187] h n (some (.int (nI (cntB (goA v st m s nb b).1 216)))) (mov [(185, .inl (.int, 3, .inl (vI (goA v st m s nb b).2))), (187, .inl (.int, 216, .inl (goM (goA v st m s nb b).1 m (if 0 < cntB (goA v st m s nb b).1 216 then rm + 1 else rm) 216))), (188, .inl (.boolean, 216, .inl (bIf (goA v st m s nb b).1))), (178, RO (updN w 5 (nI (if 0 < cntB (goA v st m s nb b).1 216 then rm + 1 else rm))))] h) := by
  refine Fn.of fun post hp => ?_
  have hr8 := hok.2.2.2.1
  -- E
  have loopE : ∀ (p : (Nat → Bool) × (Nat → Nat)) (c k : Nat), k < 2000000 → post (some (.int (nI c))) (mov [(185, .inl (.int, 3, .inl (vI p.2))), (187, .inl (.int, 216, .inl (goM p.1 m k 216))), (188, .inl (.boolean, 216, .inl (bIf p.1))), (178, RO (updN w 5 (nI k)))] h) → ∀ j, j ≤ 216 → MW M_X10_goes (d + 3) 0 0 n post 189 [(0, .ref 178), (1, .int (nI s)), (2, .ref 187), (3, .int (nI c)), (4, .int (nI j))] [] (mov [(185, .inl (.int, 3, .inl (vI p.2))), (187, .inl (.int, 216, .inl (goM p.1 m k j))), (188, .inl (.boolean, 216, .inl (bIf p.1))), (178, RO (updN w 5 (nI k)))] h) n 0 := by
    intro p c k hk hp
    refine loop_up 216 ?_ ?_
    · refine mw_iload rfl rfl ?_
      refine mw_sipush (v := nI 216) rfl (by decide) ?_
      refine mw_n_ge rfl (by omega) (by omega) (fun hc => ?_) (fun hc => ?_)
      · refine mw_iload_n (i := 3) rfl rfl rfl ?_
        exact mw_ireturn rfl rfl rfl rfl (Nat.le_refl _) (hp)
      · omega
    · intro j hj ih
      refine mw_iload rfl rfl ?_
      refine mw_sipush (v := nI 216) rfl (by decide) ?_
      refine mw_n_ge rfl (by omega) (by omega) (fun hc => ?_) (fun hc => ?_)
      · omega
      · refine mw_aload_n (i := 2) rfl rfl rfl ?_
        refine mw_iload rfl rfl ?_
        refine mw_aload_n (i := 0) rfl rfl rfl ?_
        refine mw_getfield rfl f_X10_38 (by first | rfl | exact hO | exact hv | exact hb | exact hm | exact hst | exact hn) rfl ?_
        refine mw_iload rfl rfl ?_
        refine mw_zald rfl (by first | rfl | exact hO | exact hv | exact hb | exact hm | exact hst | exact hn) (by omega) (by omega) ?_
        refine mw_b_eq rfl (fun hnb => ?_) (fun hnb => ?_)
        · have e : upd (goM p.1 m k j) j (goM p.1 m k j j) = goM p.1 m k (j + 1) := by
            funext i
            simp only [upd, goM]
            by_cases q1 : i = j
            · subst q1
              simp [hnb]
            · rw [if_neg q1]
              have q3 : i < j + 1 ↔ i < j := by omega
              simp only [q3]
          refine mw_aload_n (i := 2) rfl rfl rfl ?_
          refine mw_iload rfl rfl ?_
          refine mw_iald rfl (by first | rfl | exact hO | exact hv | exact hb | exact hm | exact hst | exact hn) (by omega) (by omega) ?_
          refine mw_iast_m rfl (by first | rfl | exact hO | exact hv | exact hb | exact hm | exact hst | exact hn) (by omega) (by omega) ?_
          first | rw [vI_upd] | rw [vI_updv] | skip
          rw [e]
          first | refine mw_ninc rfl rfl (Nat.le_of_ble_eq_true rfl) ?_ | refine mw_iinc rfl rfl rfl (Nat.le_of_ble_eq_true rfl) ?_
          refine mw_goto rfl ?_
          exact mw_locals rfl ih
        · have e : upd (goM p.1 m k j) j (nI k) = goM p.1 m k (j + 1) := by
            funext i
            simp only [upd, goM]
            by_cases q1 : i = j
            · subst q1
              simp [hnb]
            · rw [if_neg q1]
              have q3 : i < j + 1 ↔ i < j := by omega
              simp only [q3]
          refine mw_aload_n (i := 0) rfl rfl rfl ?_
          refine mw_getfield rfl f_X10_150 (by first | rfl | exact hO | exact hv | exact hb | exact hm | exact hst | exact hn) rfl ?_
          refine mw_goto rfl ?_
          refine mw_iast_m (x := nI k) rfl rfl (by omega) (by omega) ?_
          rw [e]
          first | refine mw_ninc rfl rfl (Nat.le_of_ble_eq_true rfl) ?_ | refine mw_iinc rfl rfl rfl (Nat.le_of_ble_eq_true rfl) ?_
          refine mw_goto rfl ?_
          exact mw_locals rfl ih
  -- D
  have loopD : ∀ (p : (Nat → Bool) × (Nat → Nat)), post (some (.int (nI (cntB p.1 216)))) (mov [(185, .inl (.int, 3, .inl (vI p.2))), (187, .inl (.int, 216, .inl (goM p.1 m (if 0 < cntB p.1 216 then rm + 1 else rm) 216))), (188, .inl (.boolean, 216, .inl (bIf p.1))), (178, RO (updN w 5 (nI (if 0 < cntB p.1 216 then rm + 1 else rm))))] h) → ∀ j, j ≤ 216 → MW M_X10_goes (d + 3) 0 0 n post 136 [(0, .ref 178), (1, .int (nI s)), (2, .ref 187), (3, .int (nI (cntB p.1 j))), (4, .int (nI j))] [] (HGB h p m) n 0 := by
    intro p hp
    refine loop_up 216 ?_ ?_
    · refine mw_iload rfl rfl ?_
      refine mw_sipush (v := nI 216) rfl (by decide) ?_
      refine mw_n_ge rfl (by omega) (by omega) (fun hc => ?_) (fun hc => ?_)
      · have hc216 := cntB_le p.1 216
        have e0 : ∀ k, goM p.1 m k 0 = m := fun k => by funext i; simp [goM]
        refine mw_heap (h2 := mov [(185, .inl (.int, 3, .inl (vI p.2))), (187, .inl (.int, 216, .inl m)), (188, .inl (.boolean, 216, .inl (bIf p.1)))] h) rfl ?_
        refine mw_aload_n (i := 0) rfl rfl rfl ?_
        refine mw_dup rfl rfl ?_
        refine mw_getfield rfl f_X10_150 (by first | rfl | exact hO | exact hv | exact hb | exact hm | exact hst | exact hn) rfl ?_
        rw [hrm]
        refine mw_iload_n (i := 3) rfl rfl rfl ?_
        refine mw_z_le rfl (by omega) (fun hz => ?_) (fun hz => ?_)
        · rw [if_neg (by omega)] at hp
          refine mw_iconst (v := nI 0) rfl (by decide) ?_
          first | refine mw_nadd rfl ?_ | refine mw_iadd rfl ?_
          refine mw_putfield_m rfl f_X10_150 (by first | rfl | exact hO | exact hv | exact hb | exact hm | exact hst | exact hn) (Nat.le_of_ble_eq_true rfl) (fun _ => rfl) (fun _ => rfl) ?_
          refine mw_iconst (v := nI 0) rfl (by decide) ?_
          refine mw_istore rfl (Nat.le_of_ble_eq_true rfl) ?_
          refine mw_locals rfl (mw_heap ?_ (loopE p _ rm (by omega) hp 0 (by omega)))
          rw [e0]
          rfl
        · rw [if_pos hz] at hp
          refine mw_iconst (v := nI 1) rfl (by decide) ?_
          refine mw_goto rfl ?_
          first | refine mw_nadd rfl ?_ | refine mw_iadd rfl ?_
          refine mw_putfield_m rfl f_X10_150 (by first | rfl | exact hO | exact hv | exact hb | exact hm | exact hst | exact hn) (Nat.le_of_ble_eq_true rfl) (fun _ => rfl) (fun _ => rfl) ?_
          refine mw_iconst (v := nI 0) rfl (by decide) ?_
          refine mw_istore rfl (Nat.le_of_ble_eq_true rfl) ?_
          refine mw_locals rfl (mw_heap ?_ (loopE p _ (rm + 1) (by omega) hp 0 (by omega)))
          rw [e0]
          rfl
      · omega
    · intro j hj ih
      refine mw_iload rfl rfl ?_
      refine mw_sipush (v := nI 216) rfl (by decide) ?_
      refine mw_n_ge rfl (by omega) (by omega) (fun hc => ?_) (fun hc => ?_)
      · omega
      · have hcj := cntB_le p.1 j
        refine mw_iload_n (i := 3) rfl rfl rfl ?_
        refine mw_aload_n (i := 0) rfl rfl rfl ?_
        refine mw_getfield rfl f_X10_38 (by first | rfl | exact hO | exact hv | exact hb | exact hm | exact hst | exact hn) rfl ?_
        refine mw_iload rfl rfl ?_
        refine mw_zald rfl (by first | rfl | exact hO | exact hv | exact hb | exact hm | exact hst | exact hn) (by omega) (by omega) ?_
        refine mw_b_eq rfl (fun hnb => ?_) (fun hnb => ?_)
        · refine mw_iconst (v := nI 0) rfl (by decide) ?_
          first | refine mw_nadd rfl ?_ | refine mw_iadd rfl ?_
          refine mw_istore_n (i := 3) rfl rfl (Nat.le_of_ble_eq_true rfl) ?_
          first | refine mw_ninc rfl rfl (Nat.le_of_ble_eq_true rfl) ?_ | refine mw_iinc rfl rfl rfl (Nat.le_of_ble_eq_true rfl) ?_
          refine mw_goto rfl ?_
          refine mw_locals ?_ ih
          rw [show cntB p.1 (j + 1) = cntB p.1 j + 0 by simp [cntB, hnb]]
          rfl
        · refine mw_iconst (v := nI 1) rfl (by decide) ?_
          refine mw_goto rfl ?_
          first | refine mw_nadd rfl ?_ | refine mw_iadd rfl ?_
          refine mw_istore_n (i := 3) rfl rfl (Nat.le_of_ble_eq_true rfl) ?_
          first | refine mw_ninc rfl rfl (Nat.le_of_ble_eq_true rfl) ?_ | refine mw_iinc rfl rfl rfl (Nat.le_of_ble_eq_true rfl) ?_
          refine mw_goto rfl ?_
          refine mw_locals ?_ ih
          rw [show cntB p.1 (j + 1) = cntB p.1 j + 1 by simp [cntB, hnb]]
          rfl
  -- B and C
  have loopB : ∀ r, r ≤ v 2 → MW M_X10_goes (d + 3) 0 0 n post 30 [(0, .ref 178), (1, .int (nI s)), (2, .ref 187), (3, .int (nI 0)), (4, .int (nI r))] [] (HGB h (itN (goR v st m s) (clrB nb 216, b) r) m) n 0 := by
    refine loop_up (v 2) ?_ ?_
    · refine mw_iload rfl rfl ?_
      refine mw_aload_n (i := 0) rfl rfl rfl ?_
      refine mw_getfield rfl f_X10_7 (by first | rfl | exact hO | exact hv | exact hb | exact hm | exact hst | exact hn) rfl ?_
      refine mw_iconst (v := nI 2) rfl (by decide) ?_
      refine mw_iald rfl (by first | rfl | exact hO | exact hv | exact hb | exact hm | exact hst | exact hn) (by omega) (by omega) ?_
      refine mw_n_ge rfl (by omega) (by omega) (fun hc => ?_) (fun hc => ?_)
      · refine mw_iconst (v := nI 0) rfl (by decide) ?_
        refine mw_istore rfl (Nat.le_of_ble_eq_true rfl) ?_
        exact mw_locals rfl (loopD _ hp 0 (by omega))
      · omega
    · intro r hr ih
      obtain ⟨-, -, hl1, hl3, hat⟩ := hok.2.2.2.2.2.2 r hr
      have hp6 := (hat 0 (by omega)).1
      generalize hP : itN (goR v st m s) (clrB nb 216, b) r = P at ih ⊢
      have eP : itN (goR v st m s) (clrB nb 216, b) (r + 1) = goR v st m s r P := by rw [← hP]; rfl
      rw [eP] at ih
      refine mw_iload rfl rfl ?_
      refine mw_aload_n (i := 0) rfl rfl rfl ?_
      refine mw_getfield rfl f_X10_7 (by first | rfl | exact hO | exact hv | exact hb | exact hm | exact hst | exact hn) rfl ?_
      refine mw_iconst (v := nI 2) rfl (by decide) ?_
      refine mw_iald rfl (by first | rfl | exact hO | exact hv | exact hb | exact hm | exact hst | exact hn) (by omega) (by omega) ?_
      refine mw_n_ge rfl (by omega) (by omega) (fun hc => ?_) (fun hc => ?_)
      · omega
      · refine mw_iconst (v := nI 0) rfl (by decide) ?_
        refine mw_istore rfl (Nat.le_of_ble_eq_true rfl) ?_
        by_cases hss : st (v (45 + 18 * r + 2 + 4 * 0)) = s
        · rw [goR, if_pos hss] at ih
          have loopC : ∀ j, j ≤ 216 → MW M_X10_goes (d + 3) 0 0 n post 44 [(0, .ref 178), (1, .int (nI s)), (2, .ref 187), (3, .int (nI 0)), (4, .int (nI r)), (5, .int (nI j))] [] (HGB h (itN (goC v m r) P j) m) n 0 := by
            refine loop_up 216 ?_ ?_
            · refine mw_iload rfl rfl ?_
              refine mw_sipush (v := nI 216) rfl (by decide) ?_
              refine mw_n_ge rfl (by omega) (by omega) (fun hc => ?_) (fun hc => ?_)
              · first | refine mw_ninc rfl rfl (Nat.le_of_ble_eq_true rfl) ?_ | refine mw_iinc rfl rfl rfl (Nat.le_of_ble_eq_true rfl) ?_
                refine mw_goto rfl ?_
                exact mw_locals rfl ih
              · omega
            · intro j hj ihC
              generalize hQ : itN (goC v m r) P j = Q at ihC ⊢
              have eQ : itN (goC v m r) P (j + 1) = goC v m r j Q := by rw [← hQ]; rfl
              rw [eQ] at ihC
              have hb6 : ∀ x, x < 3 → bndU Q.2 j x < 6 := fun x hx => bndU_lt Q.2 hj hx
              have hlt := fA_lt hok hb6 hr (show 0 ≤ v (45 + 18 * r + 1) by omega)
              refine mw_iload rfl rfl ?_
              refine mw_sipush (v := nI 216) rfl (by decide) ?_
              refine mw_n_ge rfl (by omega) (by omega) (fun hc => ?_) (fun hc => ?_)
              · omega
              · refine mw_aload_n (i := 0) rfl rfl rfl ?_
                refine mw_getfield rfl f_X10_26 (by first | rfl | exact hO | exact hv | exact hb | exact hm | exact hst | exact hn) rfl ?_
                refine mw_aload_n (i := 0) rfl rfl rfl ?_
                refine mw_getfield rfl f_X10_7 (by first | rfl | exact hO | exact hv | exact hb | exact hm | exact hst | exact hn) rfl ?_
                refine mw_iload rfl rfl ?_
                refine mw_iconst (v := nI 0) rfl (by decide) ?_
                refine mw_callS_f (c_atomAt (d + 2) n r 0 _) rfl ok_X10_atomAt v_X10_88 rfl (Nat.le_of_ble_eq_true rfl) rfl (Nat.le_of_ble_eq_true rfl) (by omega) (by omega) (by omega) ?_
                refine mw_iald rfl (by first | rfl | exact hO | exact hv | exact hb | exact hm | exact hst | exact hn) (by omega) (by omega) ?_
                refine mw_iald_v (v := nI s) rfl hst (by omega) (by omega) (congrArg nI hss) ?_
                refine mw_iload_n (i := 1) rfl rfl rfl ?_
                refine mw_n_ne rfl (by omega) (by omega) (fun hne => ?_) (fun hne => ?_)
                · exact absurd rfl hne
                · refine mw_aload_n (i := 0) rfl rfl rfl ?_
                  refine mw_iload rfl rfl ?_
                  refine mw_iload rfl rfl ?_
                  refine mw_callV_f (c_isBinding (d + 1) n r j w v Q.2 _ hO hv rfl hok hr hj) rfl ok_X10_isBinding v_X10_142 rfl (by first | rfl | exact hO | exact hv | exact hb | exact hm | exact hst | exact hn) (by intro e; cases e) rfl (Nat.le_of_ble_eq_true rfl) rfl (Nat.le_of_ble_eq_true rfl) (by omega) (by omega) (by omega) ?_
                  unfold HGB
                  rw [← mov_puts]
                  refine mw_b_eq rfl (fun hbo => ?_) (fun hbo => ?_)
                  · rw [show goC v m r j Q = (Q.1, bndU Q.2 j) by simp [goC, hbo]] at ihC
                    first | refine mw_ninc rfl rfl (Nat.le_of_ble_eq_true rfl) ?_ | refine mw_iinc rfl rfl rfl (Nat.le_of_ble_eq_true rfl) ?_
                    refine mw_goto rfl ?_
                    exact mw_locals rfl ihC
                  · refine mw_aload_n (i := 0) rfl rfl rfl ?_
                    refine mw_iload rfl rfl ?_
                    refine mw_aload_n (i := 2) rfl rfl rfl ?_
                    refine mw_callV_f (c_holds d n r 187 w v (bndU Q.2 j) m _ hO hv rfl rfl hok hb6 hr) rfl ok_X10_holds v_X10_146 rfl (by first | rfl | exact hO | exact hv | exact hb | exact hm | exact hst | exact hn) (by intro e; cases e) rfl (Nat.le_of_ble_eq_true rfl) rfl (Nat.le_of_ble_eq_true rfl) (by omega) (by omega) (by omega) ?_
                    refine mw_b_eq rfl (fun hho => ?_) (fun hho => ?_)
                    · rw [show goC v m r j Q = (Q.1, bndU Q.2 j) by simp [goC, hbo, hho]] at ihC
                      first | refine mw_ninc rfl rfl (Nat.le_of_ble_eq_true rfl) ?_ | refine mw_iinc rfl rfl rfl (Nat.le_of_ble_eq_true rfl) ?_
                      refine mw_goto rfl ?_
                      exact mw_locals rfl ihC
                    · refine mw_aload_n (i := 0) rfl rfl rfl ?_
                      refine mw_iload rfl rfl ?_
                      refine mw_iconst (v := nI 0) rfl (by decide) ?_
                      refine mw_callV_f (c_factAt (d + 1) n r 0 w v (bndU Q.2 j) _ hO hv rfl hok hr (by omega)) rfl ok_X10_factAt v_X10_139 rfl (by first | rfl | exact hO | exact hv | exact hb | exact hm | exact hst | exact hn) (by intro e; cases e) rfl (Nat.le_of_ble_eq_true rfl) rfl (Nat.le_of_ble_eq_true rfl) (by omega) (by omega) (by omega) ?_
                      refine mw_istore rfl (Nat.le_of_ble_eq_true rfl) ?_
                      refine mw_aload_n (i := 0) rfl rfl rfl ?_
                      refine mw_getfield rfl f_X10_38 (by first | rfl | exact hO | exact hv | exact hb | exact hm | exact hst | exact hn) rfl ?_
                      refine mw_iload rfl rfl ?_
                      refine mw_aload_n (i := 2) rfl rfl rfl ?_
                      refine mw_iload rfl rfl ?_
                      refine mw_iald rfl (by first | rfl | exact hO | exact hv | exact hb | exact hm | exact hst | exact hn) (by omega) (by omega) ?_
                      refine mw_if_ge rfl (fun ht => ?_) (fun ht => ?_)
                      · rw [show goC v m r j Q = (updN Q.1 (fA v (bndU Q.2 j) r 0) false, bndU Q.2 j) by simp [goC, hbo, hho, Int32.not_lt.mpr ht]] at ihC
                        refine mw_iconst (v := nI 0) rfl (by decide) ?_
                        first | refine mw_zast_m rfl (by first | rfl | exact hO | exact hv | exact hb | exact hm | exact hst | exact hn) (by omega) (by omega) (bI_z _) ?_ | refine mw_zast_m rfl (by first | rfl | exact hO | exact hv | exact hb | exact hm | exact hst | exact hn) (by omega) (by omega) (by decide) ?_
                        first | rw [bIf_updt] | rw [bIf_updf] | rw [bIf_upd] | skip
                        first | refine mw_ninc rfl rfl (Nat.le_of_ble_eq_true rfl) ?_ | refine mw_iinc rfl rfl rfl (Nat.le_of_ble_eq_true rfl) ?_
                        refine mw_goto rfl ?_
                        exact mw_locals rfl ihC
                      · rw [show goC v m r j Q = (updN Q.1 (fA v (bndU Q.2 j) r 0) true, bndU Q.2 j) by simp [goC, hbo, hho, Int32.not_le.mp ht]] at ihC
                        refine mw_iconst (v := nI 1) rfl (by decide) ?_
                        refine mw_goto rfl ?_
                        first | refine mw_zast_m rfl (by first | rfl | exact hO | exact hv | exact hb | exact hm | exact hst | exact hn) (by omega) (by omega) (bI_z _) ?_ | refine mw_zast_m rfl (by first | rfl | exact hO | exact hv | exact hb | exact hm | exact hst | exact hn) (by omega) (by omega) (by decide) ?_
                        first | rw [bIf_updt] | rw [bIf_updf] | rw [bIf_upd] | skip
                        first | refine mw_ninc rfl rfl (Nat.le_of_ble_eq_true rfl) ?_ | refine mw_iinc rfl rfl rfl (Nat.le_of_ble_eq_true rfl) ?_
                        refine mw_goto rfl ?_
                        exact mw_locals rfl ihC
          exact mw_locals rfl (loopC 0 (by omega))
        · rw [goR, if_neg hss] at ih
          refine mw_iload rfl rfl ?_
          refine mw_sipush (v := nI 216) rfl (by decide) ?_
          refine mw_n_ge rfl (by omega) (by omega) (fun hc => ?_) (fun hc => ?_)
          · omega
          · refine mw_aload_n (i := 0) rfl rfl rfl ?_
            refine mw_getfield rfl f_X10_26 (by first | rfl | exact hO | exact hv | exact hb | exact hm | exact hst | exact hn) rfl ?_
            refine mw_aload_n (i := 0) rfl rfl rfl ?_
            refine mw_getfield rfl f_X10_7 (by first | rfl | exact hO | exact hv | exact hb | exact hm | exact hst | exact hn) rfl ?_
            refine mw_iload rfl rfl ?_
            refine mw_iconst (v := nI 0) rfl (by decide) ?_
            refine mw_callS_f (c_atomAt (d + 2) n r 0 _) rfl ok_X10_atomAt v_X10_88 rfl (Nat.le_of_ble_eq_true rfl) rfl (Nat.le_of_ble_eq_true rfl) (by omega) (by omega) (by omega) ?_
            refine mw_iald rfl (by first | rfl | exact hO | exact hv | exact hb | exact hm | exact hst | exact hn) (by omega) (by omega) ?_
            refine mw_iald rfl (by first | rfl | exact hO | exact hv | exact hb | exact hm | exact hst | exact hn) (by omega) (by omega) ?_
            have h6 := hst6 _ hp6
            refine mw_iload_n (i := 1) rfl rfl rfl ?_
            refine mw_n_ne rfl (by omega) (by omega) (fun hne => ?_) (fun hne => ?_)
            · first | refine mw_ninc rfl rfl (Nat.le_of_ble_eq_true rfl) ?_ | refine mw_iinc rfl rfl rfl (Nat.le_of_ble_eq_true rfl) ?_
              refine mw_goto rfl ?_
              exact mw_locals rfl ih
            · exact absurd hne hss
  have loopA : ∀ j, j ≤ 216 → MW M_X10_goes (d + 3) 0 0 n post 5 [(0, .ref 178), (1, .int (nI s)), (2, .ref 187), (3, .int (nI 0)), (4, .int (nI j))] [] (HGB h (clrB nb j, b) m) n 0 := by
    refine loop_up 216 ?_ ?_
    · refine mw_iload rfl rfl ?_
      refine mw_sipush (v := nI 216) rfl (by decide) ?_
      refine mw_n_ge rfl (by omega) (by omega) (fun hc => ?_) (fun hc => ?_)
      · refine mw_iconst (v := nI 0) rfl (by decide) ?_
        refine mw_istore rfl (Nat.le_of_ble_eq_true rfl) ?_
        exact mw_locals rfl (loopB 0 (by omega))
      · omega
    · intro j hj ih
      have e : updN (clrB nb j) j false = clrB nb (j + 1) := by
        funext i
        simp only [updN, clrB]
        by_cases q1 : i = j
        · subst q1
          simp
        · rw [if_neg q1]
          by_cases q2 : i < j
          · rw [if_pos q2, if_pos (by omega)]
          · rw [if_neg q2, if_neg (by omega)]
      unfold HGB
      refine mw_iload rfl rfl ?_
      refine mw_sipush (v := nI 216) rfl (by decide) ?_
      refine mw_n_ge rfl (by omega) (by omega) (fun hc => ?_) (fun hc => ?_)
      · omega
      · refine mw_aload_n (i := 0) rfl rfl rfl ?_
        refine mw_getfield rfl f_X10_38 (by first | rfl | exact hO | exact hv | exact hb | exact hm | exact hst | exact hn) rfl ?_
        refine mw_iload rfl rfl ?_
        refine mw_iconst (v := nI 0) rfl (by decide) ?_
        first | refine mw_zast_m rfl (by first | rfl | exact hO | exact hv | exact hb | exact hm | exact hst | exact hn) (by omega) (by omega) (bI_z _) ?_ | refine mw_zast_m rfl (by first | rfl | exact hO | exact hv | exact hb | exact hm | exact hst | exact hn) (by omega) (by omega) (by decide) ?_
        first | rw [bIf_updt] | rw [bIf_updf] | rw [bIf_upd] | skip
        rw [e]
        first | refine mw_ninc rfl rfl (Nat.le_of_ble_eq_true rfl) ?_ | refine mw_iinc rfl rfl rfl (Nat.le_of_ble_eq_true rfl) ?_
        refine mw_goto rfl ?_
        exact mw_locals rfl ih
  refine mw_iconst (v := nI 0) rfl (by decide) ?_
  refine mw_istore_n (i := 3) rfl rfl (Nat.le_of_ble_eq_true rfl) ?_
  refine mw_iconst (v := nI 0) rfl (by decide) ?_
  refine mw_istore rfl (Nat.le_of_ble_eq_true rfl) ?_
  refine mw_locals rfl (mw_heap ?_ (loopA 0 (by omega)))
  rw [show clrB nb 0 = nb by funext i; simp [clrB]]
  exact mov_self (by simp [hb, hm, hn])
