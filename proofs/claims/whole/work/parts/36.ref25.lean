/-- where the reader stands: (place, told) -/
abbrev PS : Type := Nat × (Nat → Int32)
def rdTake (t : Nat → Nat) (tl c : Nat) (s : PS) : Bool × PS := (tkB t tl s.1 c, s.1 + oneB (tkB t tl s.1 c), s.2)
def rdTerm (v t : Nat → Nat) (tl k : Nat) (s : PS) : Bool × PS := (tmB v (hereV t tl s.1), s.1 + oneB (tmB v (hereV t tl s.1)), upd s.2 k (tmV (hereV t tl s.1)))
def andP (a b : PS → Bool × PS) : PS → Bool × PS := fun s => if (a s).1 = true then b (a s).2 else (false, (a s).2)
def rdAtom (v t : Nat → Nat) (tl i : Nat) (s : PS) : Bool × PS :=
  if inI (hereV t tl s.1 - nI 112) 6 = true then
    andP (rdTake t tl 40) (andP (rdTerm v t tl (4 * i + 1)) (if v (3 + (hereV t tl s.1 - nI 112).toNatClampNeg) = 2 then andP (rdTake t tl 44) (andP (rdTerm v t tl (4 * i + 2)) (rdTake t tl 41)) else rdTake t tl 41)) (s.1 + 1, upd (upd s.2 (4 * i) (hereV t tl s.1 - nI 112)) (4 * i + 2) (nI 0))
  else (false, s)
abbrev tx (w : Nat → Int32) (s : PS) : MLs := [(183, .inl (.int, 16, .inl s.2)), (178, RO (updN w 1 (nI s.1)))]
theorem updN_2 {α : Type} (w : Nat → α) (k : Nat) (a b : α) : updN (updN w k a) k b = updN w k b := by
  funext j
  unfold updN
  split <;> rfl
theorem andP_1 {a b : PS → Bool × PS} {s : PS} (h : (a s).1 = true) : andP a b s = b (a s).2 := if_pos h
theorem andP_0 {a b : PS → Bool × PS} {s : PS} (h : (a s).1 = false) : andP a b s = (false, (a s).2) := if_neg (by rw [h]; decide)
theorem rdTake_le {t : Nat → Nat} {tl c : Nat} (hc : c < 2147483648) {s : PS} (h : s.1 ≤ tl) : (rdTake t tl c s).2.1 ≤ tl := by
  show s.1 + oneB (tkB t tl s.1 c) ≤ tl
  cases q : tkB t tl s.1 c
  · exact h
  · have := tkB_lt hc q
    exact this
theorem hereV_lt {t : Nat → Nat} {tl pl : Nat} (h : hereV t tl pl ≠ -1) : pl < tl := by
  unfold hereV at h
  split at h
  · assumption
  · exact absurd rfl h
theorem rdTerm_le {v t : Nat → Nat} {tl k : Nat} (h6 : v 0 ≤ 6) {s : PS} (h : s.1 ≤ tl) : (rdTerm v t tl k s).2.1 ≤ tl := by
  show s.1 + oneB (tmB v (hereV t tl s.1)) ≤ tl
  cases q : tmB v (hereV t tl s.1)
  · exact h
  · have : s.1 < tl := hereV_lt (fun e => by
      rw [e] at q
      unfold tmB inI at q
      rw [Bool.or_eq_true] at q
      rcases q with q | q
      · exact absurd (of_decide_eq_true q).1 (by decide)
      · exact absurd (of_decide_eq_true q).1 (by decide))
    exact this
theorem c_takesS (d n c tl : Nat) (w : Nat → Int32) (t : Nat → Nat) (s : PS) (h : Nat → MC) (ht : h 182 = .inl (.int, 60, .inl (vI t))) (h0 : w 0 = nI tl) (hl : tl ≤ 60) (hp : s.1 ≤ tl) : Fn M_X10_takes (d + 1) 0 0 [.ref 178, .int (nI c)] (mov (tx w s) h) n (some (.int (bI (rdTake t tl c s).1))) (mov (tx w (rdTake t tl c s).2) h) := by
  have h1 := c_takes d n c s.1 tl (updN w 1 (nI s.1)) t (mov (tx w s) h) rfl ht h0 rfl hl hp
  rw [updN_2, hset_mov] at h1
  exact h1
theorem c_termS (d n k tl : Nat) (w : Nat → Int32) (v t : Nat → Nat) (s : PS) (h : Nat → MC) (hv : h 179 = .inl (.int, 189, .inl (vI v))) (ht : h 182 = .inl (.int, 60, .inl (vI t))) (h0 : w 0 = nI tl) (hl : tl ≤ 60) (hp : s.1 ≤ tl) (hc1 : 1 ≤ v 0) (hc6 : v 0 ≤ 6) (hk : k < 16) : Fn M_X10_isTerm (d + 2) 0 0 [.ref 178, .int (nI k)] (mov (tx w s) h) n (some (.int (bI (rdTerm v t tl k s).1))) (mov (tx w (rdTerm v t tl k s).2) h) := by
  have h1 := c_isTerm d n k s.1 tl (updN w 1 (nI s.1)) v t s.2 (mov (tx w s) h) rfl hv ht rfl h0 rfl hl hp hc1 hc6 hk
  rw [updN_2, ← mov_puts] at h1
  exact h1
theorem c_isAtom (d n i tl : Nat) (w : Nat → Int32) (v t : Nat → Nat) (s : PS) (h : Nat → MC) (hv : h 179 = .inl (.int, 189, .inl (vI v))) (ht : h 182 = .inl (.int, 60, .inl (vI t))) (h0 : w 0 = nI tl) (hl : tl ≤ 60) (hp : s.1 ≤ tl) (hok : OkN v) (hi : i < 4) : Fn M_X10_isAtom (d + 3) 0 0 [.ref 178, .int (nI i)] (mov (tx w s) h) n (some (.int (bI (rdAtom v t tl i s).1))) (mov (tx w (rdAtom v t tl i s).2) h) := by
  refine Fn.of fun post hpp => ?_
  obtain ⟨hc1, hc6, -, -, hpl, -⟩ := hok
  refine mw_aload_n (i := 0) rfl rfl rfl ?_
  refine mw_callV_f (c_here (d + 2) n s.1 tl (updN w 1 (nI s.1)) t _ rfl ht h0 rfl hl hp) rfl ok_X10_here v_X10_109 rfl (by first | rfl | exact rfl | exact hv | exact ht) (by intro e; cases e) rfl (Nat.le_of_ble_eq_true rfl) rfl (Nat.le_of_ble_eq_true rfl) (by omega) (by omega) (by omega) ?_
  unfold rdAtom at hpp
  generalize hX : hereV t tl s.1 = x at hpp ⊢
  refine mw_bipush (v := nI 112) rfl (by decide) ?_
  first | refine mw_nsub rfl (by omega) ?_ | refine mw_isub rfl ?_
  refine mw_istore_n (i := 2) rfl rfl (Nat.le_of_ble_eq_true rfl) ?_
  refine mw_iload_n (i := 2) rfl rfl rfl ?_
  refine mw_iconst (v := nI 0) rfl (by decide) ?_
  refine mw_iconst (v := nI 5) rfl (by decide) ?_
  refine mw_callS_f (c_in0 (d + 2) n (x - nI 112) 5 (by omega) _) rfl ok_X10_in v_X10_80 rfl (Nat.le_of_ble_eq_true rfl) rfl (Nat.le_of_ble_eq_true rfl) (by omega) (by omega) (by omega) ?_
  refine mw_b_ne rfl (fun hin => ?_) (fun hin => ?_)
  · rw [if_pos hin] at hpp
    obtain ⟨q, hq, e⟩ := inI_of hin (by omega)
    rw [e, nI_clamp (by omega)] at hpp
    have hlt : s.1 < tl := hereV_lt (fun e2 => by rw [hX] at e2; rw [e2] at hin; exact absurd hin (by decide))
    rw [e]
    refine mw_aload_n (i := 0) rfl rfl rfl ?_
    refine mw_dup rfl rfl ?_
    refine mw_getfield rfl f_X10_106 (by first | rfl | exact rfl | exact hv | exact ht) rfl ?_
    refine mw_iconst (v := nI 1) rfl (by decide) ?_
    first | refine mw_nadd rfl ?_ | refine mw_iadd rfl ?_
    refine mw_putfield_m rfl f_X10_106 (by first | rfl | exact rfl | exact hv | exact ht) (Nat.le_of_ble_eq_true rfl) (fun _ => rfl) (fun _ => rfl) ?_
    refine mw_aload_n (i := 0) rfl rfl rfl ?_
    refine mw_getfield rfl f_X10_23 (by first | rfl | exact rfl | exact hv | exact ht) rfl ?_
    refine mw_iconst (v := nI 4) rfl (by decide) ?_
    refine mw_iload_n (i := 1) rfl rfl rfl ?_
    first | refine mw_nmul rfl ?_ | refine mw_imul rfl ?_
    refine mw_iload_n (i := 2) rfl rfl rfl ?_
    refine mw_iast_m rfl (by first | rfl | exact rfl | exact hv | exact ht) (by omega) (by omega) ?_
    first | rw [vI_upd] | rw [vI_updv] | skip
    refine mw_aload_n (i := 0) rfl rfl rfl ?_
    refine mw_getfield rfl f_X10_23 (by first | rfl | exact rfl | exact hv | exact ht) rfl ?_
    refine mw_iconst (v := nI 4) rfl (by decide) ?_
    refine mw_iload_n (i := 1) rfl rfl rfl ?_
    first | refine mw_nmul rfl ?_ | refine mw_imul rfl ?_
    refine mw_iconst (v := nI 2) rfl (by decide) ?_
    first | refine mw_nadd rfl ?_ | refine mw_iadd rfl ?_
    refine mw_iconst (v := nI 0) rfl (by decide) ?_
    refine mw_iast_m rfl (by first | rfl | exact rfl | exact hv | exact ht) (by omega) (by omega) ?_
    first | rw [vI_upd] | rw [vI_updv] | skip
    refine mw_aload_n (i := 0) rfl rfl rfl ?_
    refine mw_bipush (v := nI 40) rfl (by decide) ?_
    generalize hs1 : ((s.1 + 1, upd (upd s.2 (4 * i) (nI q)) (4 * i + 2) (nI 0)) : PS) = s1 at hpp
    have hp1 : s1.1 ≤ tl := by rw [← hs1]; exact hlt
    refine mw_heap (h2 := mov (tx w s1) h) (by rw [← hs1]; exact congrArg (fun z => mov [(183, .inl (.int, 16, .inl (upd (upd s.2 (4 * i) (nI q)) (4 * i + 2) (nI 0)))), (178, RO z)] h) (updN_2 w 1 (nI s.1) (nI (s.1 + 1))).symm) ?_
    clear hs1
    refine mw_callV_f (c_takesS (d + 1) n 40 tl w t s1 h ht h0 hl hp1) rfl ok_X10_takes v_X10_113 rfl (by first | rfl | exact rfl | exact hv | exact ht) (by intro e; cases e) rfl (Nat.le_of_ble_eq_true rfl) rfl (Nat.le_of_ble_eq_true rfl) (by omega) (by omega) (by omega) ?_
    refine mw_b_eq rfl (fun h40 => ?_) (fun h40 => ?_)
    · rw [andP_0 h40] at hpp
      refine mw_iconst (v := nI 0) rfl (by decide) ?_
      first | exact mw_ireturn rfl rfl (bI_nar _) rfl (Nat.le_refl _) (hpp) | exact mw_ireturn rfl rfl rfl rfl (Nat.le_refl _) (hpp)
    · rw [andP_1 h40] at hpp
      have hp2 := rdTake_le (t := t) (c := 40) (by omega) hp1
      generalize (rdTake t tl 40 s1).2 = s2 at hpp hp2 ⊢
      refine mw_aload_n (i := 0) rfl rfl rfl ?_
      refine mw_iconst (v := nI 4) rfl (by decide) ?_
      refine mw_iload_n (i := 1) rfl rfl rfl ?_
      first | refine mw_nmul rfl ?_ | refine mw_imul rfl ?_
      refine mw_iconst (v := nI 1) rfl (by decide) ?_
      first | refine mw_nadd rfl ?_ | refine mw_iadd rfl ?_
      refine mw_callV_f (c_termS d n (4 * i + 1) tl w v t s2 h hv ht h0 hl hp2 hc1 hc6 (by omega)) rfl ok_X10_isTerm v_X10_116 rfl (by first | rfl | exact rfl | exact hv | exact ht) (by intro e; cases e) rfl (Nat.le_of_ble_eq_true rfl) rfl (Nat.le_of_ble_eq_true rfl) (by omega) (by omega) (by omega) ?_
      refine mw_b_ne rfl (fun h1 => ?_) (fun h1 => ?_)
      · rw [andP_1 h1] at hpp
        have hp3 := rdTerm_le (v := v) (t := t) (k := 4 * i + 1) hc6 hp2
        generalize (rdTerm v t tl (4 * i + 1) s2).2 = s3 at hpp hp3 ⊢
        have := hpl q hq
        refine mw_aload_n (i := 0) rfl rfl rfl ?_
        refine mw_getfield rfl f_X10_7 (by first | rfl | exact rfl | exact hv | exact ht) rfl ?_
        refine mw_iconst (v := nI 3) rfl (by decide) ?_
        refine mw_iload_n (i := 2) rfl rfl rfl ?_
        first | refine mw_nadd rfl ?_ | refine mw_iadd rfl ?_
        refine mw_iald rfl (by first | rfl | exact rfl | exact hv | exact ht) (by omega) (by omega) ?_
        refine mw_iconst (v := nI 2) rfl (by decide) ?_
        refine mw_n_ne rfl (by omega) (by omega) (fun h2 => ?_) (fun h2 => ?_)
        · rw [if_neg h2] at hpp
          refine mw_aload_n (i := 0) rfl rfl rfl ?_
          refine mw_bipush (v := nI 41) rfl (by decide) ?_
          refine mw_callV_f (c_takesS (d + 1) n 41 tl w t s3 h ht h0 hl hp3) rfl ok_X10_takes v_X10_113 rfl (by first | rfl | exact rfl | exact hv | exact ht) (by intro e; cases e) rfl (Nat.le_of_ble_eq_true rfl) rfl (Nat.le_of_ble_eq_true rfl) (by omega) (by omega) (by omega) ?_
          first | exact mw_ireturn rfl rfl (bI_nar _) rfl (Nat.le_refl _) (hpp) | exact mw_ireturn rfl rfl rfl rfl (Nat.le_refl _) (hpp)
        · rw [if_pos h2] at hpp
          refine mw_aload_n (i := 0) rfl rfl rfl ?_
          refine mw_bipush (v := nI 44) rfl (by decide) ?_
          refine mw_callV_f (c_takesS (d + 1) n 44 tl w t s3 h ht h0 hl hp3) rfl ok_X10_takes v_X10_113 rfl (by first | rfl | exact rfl | exact hv | exact ht) (by intro e; cases e) rfl (Nat.le_of_ble_eq_true rfl) rfl (Nat.le_of_ble_eq_true rfl) (by omega) (by omega) (by omega) ?_
          refine mw_b_eq rfl (fun h44 => ?_) (fun h44 => ?_)
          · rw [andP_0 h44] at hpp
            refine mw_iconst (v := nI 0) rfl (by decide) ?_
            first | exact mw_ireturn rfl rfl (bI_nar _) rfl (Nat.le_refl _) (hpp) | exact mw_ireturn rfl rfl rfl rfl (Nat.le_refl _) (hpp)
          · rw [andP_1 h44] at hpp
            have hp4 := rdTake_le (t := t) (c := 44) (by omega) hp3
            generalize (rdTake t tl 44 s3).2 = s4 at hpp hp4 ⊢
            refine mw_aload_n (i := 0) rfl rfl rfl ?_
            refine mw_iconst (v := nI 4) rfl (by decide) ?_
            refine mw_iload_n (i := 1) rfl rfl rfl ?_
            first | refine mw_nmul rfl ?_ | refine mw_imul rfl ?_
            refine mw_iconst (v := nI 2) rfl (by decide) ?_
            first | refine mw_nadd rfl ?_ | refine mw_iadd rfl ?_
            refine mw_callV_f (c_termS d n (4 * i + 2) tl w v t s4 h hv ht h0 hl hp4 hc1 hc6 (by omega)) rfl ok_X10_isTerm v_X10_116 rfl (by first | rfl | exact rfl | exact hv | exact ht) (by intro e; cases e) rfl (Nat.le_of_ble_eq_true rfl) rfl (Nat.le_of_ble_eq_true rfl) (by omega) (by omega) (by omega) ?_
            refine mw_b_ne rfl (fun h3 => ?_) (fun h3 => ?_)
            · rw [andP_1 h3] at hpp
              have hp5 := rdTerm_le (v := v) (t := t) (k := 4 * i + 2) hc6 hp4
              generalize (rdTerm v t tl (4 * i + 2) s4).2 = s5 at hpp hp5 ⊢
              refine mw_aload_n (i := 0) rfl rfl rfl ?_
              refine mw_bipush (v := nI 41) rfl (by decide) ?_
              refine mw_callV_f (c_takesS (d + 1) n 41 tl w t s5 h ht h0 hl hp5) rfl ok_X10_takes v_X10_113 rfl (by first | rfl | exact rfl | exact hv | exact ht) (by intro e; cases e) rfl (Nat.le_of_ble_eq_true rfl) rfl (Nat.le_of_ble_eq_true rfl) (by omega) (by omega) (by omega) ?_
              first | exact mw_ireturn rfl rfl (bI_nar _) rfl (Nat.le_refl _) (hpp) | exact mw_ireturn rfl rfl rfl rfl (Nat.le_refl _) (hpp)
            · rw [andP_0 h3] at hpp
              refine mw_iconst (v := nI 0) rfl (by decide) ?_
              first | exact mw_ireturn rfl rfl (bI_nar _) rfl (Nat.le_refl _) (hpp) | exact mw_ireturn rfl rfl rfl rfl (Nat.le_refl _) (hpp)
      · rw [andP_0 h1] at hpp
        refine mw_iconst (v := nI 0) rfl (by decide) ?_
        first | exact mw_ireturn rfl rfl (bI_nar _) rfl (Nat.le_refl _) (hpp) | exact mw_ireturn rfl rfl rfl rfl (Nat.le_refl _) (hpp)
  · rw [if_neg (by rw [hin]; decide)] at hpp
    refine mw_iconst (v := nI 0) rfl (by decide) ?_
    first | exact mw_ireturn rfl rfl (bI_nar _) rfl (Nat.le_refl _) (hpp) | exact mw_ireturn rfl rfl rfl rfl (Nat.le_refl _) (hpp)
