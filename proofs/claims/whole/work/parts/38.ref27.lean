def lsB (x : Int32) : Int32 := if x ≤ nI 5 then nI 0 else nI 1 <<< ((x - nI 6) &&& 31)
def lsT (td : Nat → Int32) (r j : Nat) (p : Int32 × Int32) : Int32 × Int32 := (p.1 ||| lsB (td (4 * r + (j + 1))), p.2 ||| (if r ≠ 0 ∧ td (4 * r + 3) = 0 then lsB (td (4 * r + (j + 1))) else nI 0))
def lsW (td : Nat → Int32) (r : Nat) (p : Int32 × Int32) : Int32 × Int32 := itN (lsT td r) p 2
def looseV (td : Nat → Int32) (k : Nat) : Int32 := (itN (lsW td) (nI 0, nI 0) (k + 1)).1 &&& ((itN (lsW td) (nI 0, nI 0) (k + 1)).2 ^^^ -1)
theorem c_loose (d n k : Nat) (w : Nat → Int32) (td : Nat → Int32) (h : Nat → MC) (hO : h 178 = RO w) (htd : h 183 = .inl (.int, 16, .inl td)) (h2 : w 2 = nI k) (hk : k ≤ 3) : Fn M_X10_loose d 0 0 [.ref 178] h n (some (.int (looseV td k))) h := by
  refine Fn.of fun post hp => ?_
  have loopR : ∀ r, r ≤ k + 1 → MW M_X10_loose d 0 0 n post 6 [(0, .ref 178), (1, .int (itN (lsW td) (nI 0, nI 0) r).1), (2, .int (itN (lsW td) (nI 0, nI 0) r).2), (3, .int (nI r))] [] h n 0 := by
    refine loop_up (k + 1) ?_ ?_
    · unfold looseV at hp
      generalize itN (lsW td) (nI 0, nI 0) (k + 1) = P at hp ⊢
      refine mw_iload_n (i := 3) rfl rfl rfl ?_
      refine mw_aload_n (i := 0) rfl rfl rfl ?_
      refine mw_getfield rfl f_X10_119 (by first | rfl | exact hO | exact htd) rfl ?_
      rw [h2]
      refine mw_n_gt rfl (by omega) (by omega) (fun hc => ?_) (fun hc => ?_)
      · refine mw_iload_n (i := 1) rfl rfl rfl ?_
        refine mw_iload_n (i := 2) rfl rfl rfl ?_
        refine mw_iconst (v := (-1)) rfl (by decide) ?_
        refine mw_ixor rfl ?_
        refine mw_iand rfl ?_
        exact mw_ireturn rfl rfl rfl rfl (Nat.le_refl _) (hp)
      · omega
    · intro r hr ih
      have eP : itN (lsW td) (nI 0, nI 0) (r + 1) = lsW td r (itN (lsW td) (nI 0, nI 0) r) := rfl
      rw [eP] at ih
      generalize itN (lsW td) (nI 0, nI 0) r = P at ih ⊢
      have loopA : ∀ j, j ≤ 2 → MW M_X10_loose d 0 0 n post 17 [(0, .ref 178), (1, .int (itN (lsT td r) P j).1), (2, .int (itN (lsT td r) P j).2), (3, .int (nI r)), (4, .int (nI (j + 1)))] [] h n 0 := by
        refine loop_up 2 ?_ ?_
        · have e2 : itN (lsT td r) P 2 = lsW td r P := rfl
          rw [e2]
          refine mw_iload rfl rfl ?_
          refine mw_iconst (v := nI 3) rfl (by decide) ?_
          refine mw_n_ge rfl (by omega) (by omega) (fun hc => ?_) (fun hc => ?_)
          · first | refine mw_ninc rfl rfl (Nat.le_of_ble_eq_true rfl) ?_ | refine mw_iinc rfl rfl rfl (Nat.le_of_ble_eq_true rfl) ?_
            refine mw_goto rfl ?_
            exact mw_locals rfl ih
          · omega
        · intro j hj ihj
          have eQ : itN (lsT td r) P (j + 1) = lsT td r j (itN (lsT td r) P j) := rfl
          rw [eQ] at ihj
          generalize itN (lsT td r) P j = Q at ihj ⊢
          unfold lsT at ihj
          generalize hX : td (4 * r + (j + 1)) = x at ihj
          have c84 : ∀ c, c = (if r ≠ 0 ∧ td (4 * r + 3) = 0 then lsB x else nI 0) → MW M_X10_loose d 0 0 n post 84 [(0, .ref 178), (1, .int (Q.1 ||| lsB x)), (2, .int Q.2), (3, .int (nI r)), (4, .int (nI (j + 1)))] [.int c, .int Q.2] h n 0 := by
            intro c hc
            rw [← hc] at ihj
            refine mw_ior rfl ?_
            refine mw_istore_n (i := 2) rfl rfl (Nat.le_of_ble_eq_true rfl) ?_
            first | refine mw_ninc rfl rfl (Nat.le_of_ble_eq_true rfl) ?_ | refine mw_iinc rfl rfl rfl (Nat.le_of_ble_eq_true rfl) ?_
            refine mw_goto rfl ?_
            exact mw_locals rfl ihj
          have c53 : ∀ b, b = lsB x → MW M_X10_loose d 0 0 n post 53 [(0, .ref 178), (1, .int Q.1), (2, .int Q.2), (3, .int (nI r)), (4, .int (nI (j + 1)))] [.int b] h n 0 := by
            intro b hb
            rw [← hb] at c84
            clear hb ihj ih
            refine mw_istore rfl (Nat.le_of_ble_eq_true rfl) ?_
            refine mw_iload_n (i := 1) rfl rfl rfl ?_
            refine mw_iload rfl rfl ?_
            refine mw_ior rfl ?_
            refine mw_istore_n (i := 1) rfl rfl (Nat.le_of_ble_eq_true rfl) ?_
            refine mw_iload_n (i := 2) rfl rfl rfl ?_
            refine mw_iload_n (i := 3) rfl rfl rfl ?_
            refine mw_z_le rfl (by omega) (fun hz => ?_) (fun hz => ?_)
            · refine mw_iconst (v := nI 0) rfl (by decide) ?_
              exact mw_locals rfl (c84 _ (by rw [if_neg (by intro q; exact q.1 hz)]))
            · refine mw_aload_n (i := 0) rfl rfl rfl ?_
              refine mw_getfield rfl f_X10_23 (by first | rfl | exact hO | exact htd) rfl ?_
              refine mw_iconst (v := nI 4) rfl (by decide) ?_
              refine mw_iload_n (i := 3) rfl rfl rfl ?_
              first | refine mw_nmul rfl ?_ | refine mw_imul rfl ?_
              refine mw_iconst (v := nI 3) rfl (by decide) ?_
              first | refine mw_nadd rfl ?_ | refine mw_iadd rfl ?_
              generalize hY : td (4 * r + 3) = y at c84
              refine mw_iald_v (v := y) rfl htd (by omega) (by omega) hY ?_
              refine mw_if_ne rfl (fun hy => ?_) (fun hy => ?_)
              · refine mw_iconst (v := nI 0) rfl (by decide) ?_
                exact mw_locals rfl (c84 _ (by rw [if_neg (by intro q; exact hy q.2)]))
              · refine mw_iload rfl rfl ?_
                refine mw_goto rfl ?_
                exact mw_locals rfl (c84 _ (by rw [if_pos ⟨by omega, hy⟩]))
          refine mw_iload rfl rfl ?_
          refine mw_iconst (v := nI 3) rfl (by decide) ?_
          refine mw_n_ge rfl (by omega) (by omega) (fun hc => ?_) (fun hc => ?_)
          · omega
          · refine mw_aload_n (i := 0) rfl rfl rfl ?_
            refine mw_getfield rfl f_X10_23 (by first | rfl | exact hO | exact htd) rfl ?_
            refine mw_iconst (v := nI 4) rfl (by decide) ?_
            refine mw_iload_n (i := 3) rfl rfl rfl ?_
            first | refine mw_nmul rfl ?_ | refine mw_imul rfl ?_
            refine mw_iload rfl rfl ?_
            first | refine mw_nadd rfl ?_ | refine mw_iadd rfl ?_
            refine mw_iald_v (v := x) rfl htd (by omega) (by omega) hX ?_
            refine mw_istore rfl (Nat.le_of_ble_eq_true rfl) ?_
            refine mw_iload rfl rfl ?_
            refine mw_iconst (v := nI 5) rfl (by decide) ?_
            refine mw_icmp_le rfl (fun hle => ?_) (fun hle => ?_)
            · refine mw_iconst (v := nI 0) rfl (by decide) ?_
              exact mw_locals rfl (c53 _ (by unfold lsB; rw [if_pos hle]))
            · refine mw_iconst (v := nI 1) rfl (by decide) ?_
              refine mw_iload rfl rfl ?_
              refine mw_bipush (v := nI 6) rfl (by decide) ?_
              first | refine mw_nsub rfl (by omega) ?_ | refine mw_isub rfl ?_
              refine mw_ishl rfl ?_
              refine mw_goto rfl ?_
              exact mw_locals rfl (c53 _ (by unfold lsB; rw [if_neg hle]))
      refine mw_iload_n (i := 3) rfl rfl rfl ?_
      refine mw_aload_n (i := 0) rfl rfl rfl ?_
      refine mw_getfield rfl f_X10_119 (by first | rfl | exact hO | exact htd) rfl ?_
      rw [h2]
      refine mw_n_gt rfl (by omega) (by omega) (fun hc => ?_) (fun hc => ?_)
      · omega
      · refine mw_iconst (v := nI 1) rfl (by decide) ?_
        refine mw_istore rfl (Nat.le_of_ble_eq_true rfl) ?_
        exact mw_locals rfl (loopA 0 (by omega))
  refine mw_iconst (v := nI 0) rfl (by decide) ?_
  refine mw_istore_n (i := 1) rfl rfl (Nat.le_of_ble_eq_true rfl) ?_
  refine mw_iconst (v := nI 0) rfl (by decide) ?_
  refine mw_istore_n (i := 2) rfl rfl (Nat.le_of_ble_eq_true rfl) ?_
  refine mw_iconst (v := nI 0) rfl (by decide) ?_
  refine mw_istore_n (i := 3) rfl rfl (Nat.le_of_ble_eq_true rfl) ?_
  exact mw_locals rfl (loopR 0 (Nat.zero_le _))
