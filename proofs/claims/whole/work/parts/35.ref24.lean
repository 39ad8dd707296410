/-- the character at the reader's place; t text, tl its length -/
def hereV (t : Nat → Nat) (tl pl : Nat) : Int32 := if pl < tl then nI (t pl) else -1
def tkB (t : Nat → Nat) (tl pl c : Nat) : Bool := decide (hereV t tl pl = nI c)
def oneB (b : Bool) : Nat := if b = true then 1 else 0
theorem tkB_lt {t : Nat → Nat} {tl pl c : Nat} (hc : c < 2147483648) (h : tkB t tl pl c = true) : pl < tl := by
  have h := of_decide_eq_true h
  unfold hereV at h
  split at h
  · assumption
  · have := nI_pos' hc
    rw [← h] at this
    exact absurd this (by decide)
theorem c_here (d n pl tl : Nat) (w : Nat → Int32) (t : Nat → Nat) (h : Nat → MC) (hO : h 178 = RO w) (ht : h 182 = .inl (.int, 60, .inl (vI t))) (h0 : w 0 = nI tl) (h1 : w 1 = nI pl) (hl : tl ≤ 60) (hpl : pl ≤ tl) : Fn M_X10_here d 0 0 [.ref 178] h n (some (.int (hereV t tl pl))) h := by
  refine Fn.of fun post hp => ?_
  refine mw_aload_n (i := 0) rfl rfl rfl ?_
  refine mw_getfield rfl f_X10_106 (by first | rfl | exact hO | exact ht) rfl ?_
  refine mw_aload_n (i := 0) rfl rfl rfl ?_
  refine mw_getfield rfl f_X10_102 (by first | rfl | exact hO | exact ht) rfl ?_
  rw [h0, h1]
  refine mw_n_ge rfl (by omega) (by omega) (fun hc => ?_) (fun hc => ?_)
  · rw [show hereV t tl pl = -1 from if_neg (by omega)] at hp
    refine mw_iconst (v := (-1)) rfl (by decide) ?_
    exact mw_ireturn rfl rfl rfl rfl (Nat.le_refl _) (hp)
  · rw [show hereV t tl pl = nI (t pl) from if_pos (by omega)] at hp
    refine mw_aload_n (i := 0) rfl rfl rfl ?_
    refine mw_getfield rfl f_X10_20 (by first | rfl | exact hO | exact ht) rfl ?_
    refine mw_aload_n (i := 0) rfl rfl rfl ?_
    refine mw_getfield rfl f_X10_106 (by first | rfl | exact hO | exact ht) rfl ?_
    rw [h1]
    refine mw_iald rfl (by first | rfl | exact hO | exact ht) (by omega) (by omega) ?_
    refine mw_goto rfl ?_
    exact mw_ireturn rfl rfl rfl rfl (Nat.le_refl _) (hp)
theorem c_takes (d n c pl tl : Nat) (w : Nat → Int32) (t : Nat → Nat) (h : Nat → MC) (hO : h 178 = RO w) (ht : h 182 = .inl (.int, 60, .inl (vI t))) (h0 : w 0 = nI tl) (h1 : w 1 = nI pl) (hl : tl ≤ 60) (hpl : pl ≤ tl) : Fn M_X10_takes (d + 1) 0 0 [.ref 178, .int (nI c)] h n (some (.int (bI (tkB t tl pl c)))) (hset h 178 (RO (updN w 1 (nI (pl + oneB (tkB t tl pl c)))))) := by
  refine Fn.of fun post hp => ?_
  refine mw_aload_n (i := 0) rfl rfl rfl ?_
  refine mw_callV_f (c_here d n pl tl w t h hO ht h0 h1 hl hpl) rfl ok_X10_here v_X10_109 rfl (by first | rfl | exact hO | exact ht) (by intro e; cases e) rfl (Nat.le_of_ble_eq_true rfl) rfl (Nat.le_of_ble_eq_true rfl) (by omega) (by omega) (by omega) ?_
  refine mw_iload_n (i := 1) rfl rfl rfl ?_
  refine mw_icmp_ne rfl (fun hc => ?_) (fun hc => ?_)
  · rw [show tkB t tl pl c = false from decide_eq_false hc] at hp
    refine mw_iconst (v := nI 0) rfl (by decide) ?_
    refine mw_istore_n (i := 2) rfl rfl (Nat.le_of_ble_eq_true rfl) ?_
    refine mw_aload_n (i := 0) rfl rfl rfl ?_
    refine mw_dup rfl rfl ?_
    refine mw_getfield rfl f_X10_106 (by first | rfl | exact hO | exact ht) rfl ?_
    rw [h1]
    refine mw_iload_n (i := 2) rfl rfl rfl ?_
    refine mw_z_eq rfl (by omega) (fun hz => ?_) (fun hz => ?_)
    · refine mw_iconst (v := nI 0) rfl (by decide) ?_
      first | refine mw_nadd rfl ?_ | refine mw_iadd rfl ?_
      refine mw_putfield rfl f_X10_106 (by first | rfl | exact hO | exact ht) (Nat.le_of_ble_eq_true rfl) (fun _ => rfl) (fun _ => rfl) ?_
      refine mw_iload_n (i := 2) rfl rfl rfl ?_
      first | exact mw_ireturn rfl rfl (bI_nar _) rfl (Nat.le_refl _) (hp) | exact mw_ireturn rfl rfl rfl rfl (Nat.le_refl _) (hp)
    · exact absurd rfl hz
  · rw [show tkB t tl pl c = true from decide_eq_true hc] at hp
    refine mw_iconst (v := nI 1) rfl (by decide) ?_
    refine mw_goto rfl ?_
    refine mw_istore_n (i := 2) rfl rfl (Nat.le_of_ble_eq_true rfl) ?_
    refine mw_aload_n (i := 0) rfl rfl rfl ?_
    refine mw_dup rfl rfl ?_
    refine mw_getfield rfl f_X10_106 (by first | rfl | exact hO | exact ht) rfl ?_
    rw [h1]
    refine mw_iload_n (i := 2) rfl rfl rfl ?_
    refine mw_z_eq rfl (by omega) (fun hz => ?_) (fun hz => ?_)
    · exact absurd hz (by decide)
    · refine mw_iconst (v := nI 1) rfl (by decide) ?_
      refine mw_goto rfl ?_
      first | refine mw_nadd rfl ?_ | refine mw_iadd rfl ?_
      refine mw_putfield rfl f_X10_106 (by first | rfl | exact hO | exact ht) (Nat.le_of_ble_eq_true rfl) (fun _ => rfl) (fun _ => rfl) ?_
      refine mw_iload_n (i := 2) rfl rfl rfl ?_
      first | exact mw_ireturn rfl rfl (bI_nar _) rfl (Nat.le_refl _) (hp) | exact mw_ireturn rfl rfl rfl rfl (Nat.le_refl _) (hp)
def tmV (x : Int32) : Int32 := if x < nI 88 then x - nI 48 else x - nI 88 + nI 6
def tmB (v : Nat → Nat) (x : Int32) : Bool := inI (x - nI 48) (v 0) || decide (nI 88 ≤ x ∧ x ≤ nI 90)
theorem c_isTerm (d n k pl tl : Nat) (w : Nat → Int32) (v t : Nat → Nat) (td : Nat → Int32) (h : Nat → MC) (hO : h 178 = RO w) (hv : h 179 = .inl (.int, 189, .inl (vI v))) (ht : h 182 = .inl (.int, 60, .inl (vI t))) (htd : h 183 = .inl (.int, 16, .inl td)) (h0 : w 0 = nI tl) (h1 : w 1 = nI pl) (hl : tl ≤ 60) (hp : pl ≤ tl) (hc1 : 1 ≤ v 0) (hc6 : v 0 ≤ 6) (hk : k < 16) : Fn M_X10_isTerm (d + 2) 0 0 [.ref 178, .int (nI k)] h n (some (.int (bI (tmB v (hereV t tl pl))))) (mov [(183, .inl (.int, 16, .inl (upd td k (tmV (hereV t tl pl))))), (178, RO (updN w 1 (nI (pl + oneB (tmB v (hereV t tl pl))))))] h) := by
  refine Fn.of fun post hpp => ?_
  refine mw_aload_n (i := 0) rfl rfl rfl ?_
  refine mw_callV_f (c_here (d + 1) n pl tl w t h hO ht h0 h1 hl hp) rfl ok_X10_here v_X10_109 rfl (by first | rfl | exact hO | exact hv | exact ht | exact htd) (by intro e; cases e) rfl (Nat.le_of_ble_eq_true rfl) rfl (Nat.le_of_ble_eq_true rfl) (by omega) (by omega) (by omega) ?_
  generalize hereV t tl pl = x at hpp ⊢
  have tail : ∀ b : Bool, b = tmB v x → ∀ y, y = tmV x → MW M_X10_isTerm (d + 2) 0 0 n post 58 [(0, .ref 178), (1, .int (nI k)), (2, .int x), (3, .int (bI b))] [.int y, .int (nI k), .ref 183] h n 0 := by
    intro b hb y hy
    rw [← hb, ← hy] at hpp
    clear hb hy
    refine mw_over [(183, .inl (.int, 16, .inl td)), (178, RO w)] (mov_self (by simp [htd, hO])) ?_
    refine mw_iast_m rfl (by first | rfl | exact hO | exact hv | exact ht | exact htd) (by omega) (by omega) ?_
    first | rw [vI_upd] | rw [vI_updv] | skip
    refine mw_aload_n (i := 0) rfl rfl rfl ?_
    refine mw_dup rfl rfl ?_
    refine mw_getfield rfl f_X10_106 (by first | rfl | exact hO | exact hv | exact ht | exact htd) rfl ?_
    rw [h1]
    refine mw_iload_n (i := 3) rfl rfl rfl ?_
    refine mw_b_eq rfl (fun hz => ?_) (fun hz => ?_)
    · subst hz
      refine mw_iconst (v := nI 0) rfl (by decide) ?_
      first | refine mw_nadd rfl ?_ | refine mw_iadd rfl ?_
      refine mw_putfield_m rfl f_X10_106 (by first | rfl | exact hO | exact hv | exact ht | exact htd) (Nat.le_of_ble_eq_true rfl) (fun _ => rfl) (fun _ => rfl) ?_
      refine mw_iload_n (i := 3) rfl rfl rfl ?_
      first | exact mw_ireturn rfl rfl (bI_nar _) rfl (Nat.le_refl _) (hpp) | exact mw_ireturn rfl rfl rfl rfl (Nat.le_refl _) (hpp)
    · subst hz
      refine mw_iconst (v := nI 1) rfl (by decide) ?_
      refine mw_goto rfl ?_
      first | refine mw_nadd rfl ?_ | refine mw_iadd rfl ?_
      refine mw_putfield_m rfl f_X10_106 (by first | rfl | exact hO | exact hv | exact ht | exact htd) (Nat.le_of_ble_eq_true rfl) (fun _ => rfl) (fun _ => rfl) ?_
      refine mw_iload_n (i := 3) rfl rfl rfl ?_
      first | exact mw_ireturn rfl rfl (bI_nar _) rfl (Nat.le_refl _) (hpp) | exact mw_ireturn rfl rfl rfl rfl (Nat.le_refl _) (hpp)
  have mid : ∀ b : Bool, b = tmB v x → MW M_X10_isTerm (d + 2) 0 0 n post 32 [(0, .ref 178), (1, .int (nI k)), (2, .int x)] [.int (bI b)] h n 0 := by
    intro b hb
    refine mw_istore_n (i := 3) rfl rfl (Nat.le_of_ble_eq_true rfl) ?_
    refine mw_aload_n (i := 0) rfl rfl rfl ?_
    refine mw_getfield rfl f_X10_23 (by first | rfl | exact hO | exact hv | exact ht | exact htd) rfl ?_
    refine mw_iload_n (i := 1) rfl rfl rfl ?_
    refine mw_iload_n (i := 2) rfl rfl rfl ?_
    refine mw_bipush (v := nI 88) rfl (by decide) ?_
    refine mw_icmp_lt rfl (fun hlt => ?_) (fun hlt => ?_)
    · refine mw_iload_n (i := 2) rfl rfl rfl ?_
      refine mw_bipush (v := nI 48) rfl (by decide) ?_
      first | refine mw_nsub rfl (by omega) ?_ | refine mw_isub rfl ?_
      exact mw_locals rfl (tail b hb _ (by unfold tmV; rw [if_pos hlt]))
    · refine mw_iload_n (i := 2) rfl rfl rfl ?_
      refine mw_bipush (v := nI 88) rfl (by decide) ?_
      first | refine mw_nsub rfl (by omega) ?_ | refine mw_isub rfl ?_
      refine mw_bipush (v := nI 6) rfl (by decide) ?_
      refine mw_iadd rfl ?_
      refine mw_goto rfl ?_
      exact mw_locals rfl (tail b hb _ (by unfold tmV; rw [if_neg hlt]))
  refine mw_istore_n (i := 2) rfl rfl (Nat.le_of_ble_eq_true rfl) ?_
  refine mw_aload_n (i := 0) rfl rfl rfl ?_
  refine mw_iload_n (i := 2) rfl rfl rfl ?_
  refine mw_bipush (v := nI 48) rfl (by decide) ?_
  first | refine mw_nsub rfl (by omega) ?_ | refine mw_isub rfl ?_
  refine mw_callV_f (c_isConstant d n (x - nI 48) w v h hO hv hc1 hc6) rfl ok_X10_isConstant v_X10_84 rfl (by first | rfl | exact hO | exact hv | exact ht | exact htd) (by intro e; cases e) rfl (Nat.le_of_ble_eq_true rfl) rfl (Nat.le_of_ble_eq_true rfl) (by omega) (by omega) (by omega) ?_
  refine mw_b_ne rfl (fun hc => ?_) (fun hc => ?_)
  · refine mw_iconst (v := nI 1) rfl (by decide) ?_
    refine mw_goto rfl ?_
    exact mw_locals rfl (mid true (by unfold tmB; rw [hc]; rfl))
  · refine mw_iload_n (i := 2) rfl rfl rfl ?_
    refine mw_bipush (v := nI 88) rfl (by decide) ?_
    refine mw_bipush (v := nI 90) rfl (by decide) ?_
    refine mw_callS_f (c_in (d + 1) n x (nI 88) (nI 90) h) rfl ok_X10_in v_X10_80 rfl (Nat.le_of_ble_eq_true rfl) rfl (Nat.le_of_ble_eq_true rfl) (by omega) (by omega) (by omega) ?_
    refine mw_b_eq rfl (fun hd => ?_) (fun hd => ?_)
    · refine mw_iconst (v := nI 0) rfl (by decide) ?_
      exact mw_locals rfl (mid false (by unfold tmB; rw [hc, hd]; rfl))
    · refine mw_iconst (v := nI 1) rfl (by decide) ?_
      refine mw_goto rfl ?_
      exact mw_locals rfl (mid true (by unfold tmB; rw [hc, hd]; rfl))
