def litB (f : Nat → Bool) (x : Int32) : Bool := if x < 0 then true else f x.toNatClampNeg
/-- all literals of an instance are so -/
def allL (S : HoS) (f : Nat → Bool) (i : Nat) : Bool := andN (fun a => litB f (S.2.2.2.1 (3 * i + a))) 3
theorem c_areDerived (d n : Nat) (i : Nat) (w : Nat → Int32) (v : Nat → Nat) (D : Nat → Bool) (S : HoS) (h : Nat → MC) (hO : h 178 = RO w) (hdv : h 198 = .inl (.boolean, 216, .inl (bIf D))) (hS : HoOk v S) (hA : HoAt h S) (hi : i < S.1) : Fn M_X10_areDerived d 0 0 [.ref 178, .int (nI i)] h n (some (.int (bI (allL S D i)))) h := by
  obtain ⟨hru, hhd, hli⟩ := hA
  obtain ⟨h1728, hS⟩ := hS
  obtain ⟨hr, hh, hl⟩ := hS i hi
  refine Fn.of fun post hp => ?_
  refine mw_iconst (v := nI 1) rfl (by decide) ?_
  refine mw_istore_n (i := 2) rfl rfl (Nat.le_of_ble_eq_true rfl) ?_
  refine mw_iconst (v := nI 0) rfl (by decide) ?_
  refine mw_istore_n (i := 3) rfl rfl (Nat.le_of_ble_eq_true rfl) ?_
  have loop : ∀ a, a ≤ 3 → MW M_X10_areDerived d 0 0 n post 4 [(0, .ref 178), (1, .int (nI i)), (2, .int (bI (andN (fun a => litB D (S.2.2.2.1 (3 * i + a))) a))), (3, .int (nI a))] [] h n 0 := by
    refine loop_up 3 ?_ ?_
    · refine mw_iload_n (i := 3) rfl rfl rfl ?_
      refine mw_iconst (v := nI 3) rfl (by decide) ?_
      refine mw_n_ge rfl (by omega) (by omega) (fun hc => ?_) (fun hc => ?_)
      · refine mw_iload_n (i := 2) rfl rfl rfl ?_
        first | exact mw_ireturn rfl rfl (bI_nar _) rfl (Nat.le_refl _) (hp) | exact mw_ireturn rfl rfl rfl rfl (Nat.le_refl _) (hp)
      · omega
    · intro a ha ih
      have hla := hl a ha
      have e1 : andN (fun a => litB D (S.2.2.2.1 (3 * i + a))) (a + 1) = (andN (fun a => litB D (S.2.2.2.1 (3 * i + a))) a && litB D (S.2.2.2.1 (3 * i + a))) := rfl
      rw [e1] at ih
      generalize hX : S.2.2.2.1 (3 * i + a) = x at hla ih
      refine mw_iload_n (i := 3) rfl rfl rfl ?_
      refine mw_iconst (v := nI 3) rfl (by decide) ?_
      refine mw_n_ge rfl (by omega) (by omega) (fun hc => ?_) (fun hc => ?_)
      · omega
      · refine mw_aload_n (i := 0) rfl rfl rfl ?_
        refine mw_getfield rfl f_X10_47 (by first | rfl | exact hO | exact hli | exact hdv) rfl ?_
        refine mw_iconst (v := nI 3) rfl (by decide) ?_
        refine mw_iload_n (i := 1) rfl rfl rfl ?_
        first | refine mw_nmul rfl ?_ | refine mw_imul rfl ?_
        refine mw_iload_n (i := 3) rfl rfl rfl ?_
        first | refine mw_nadd rfl ?_ | refine mw_iadd rfl ?_
        refine mw_iald_v (v := x) rfl hli (by omega) (by omega) hX ?_
        refine mw_istore rfl (Nat.le_of_ble_eq_true rfl) ?_
        refine mw_iload_n (i := 2) rfl rfl rfl ?_
        refine mw_b_eq rfl (fun h1 => ?_) (fun h1 => ?_)
        · rw [h1, Bool.false_and] at ih
          refine mw_iconst (v := nI 0) rfl (by decide) ?_
          refine mw_istore_n (i := 2) rfl rfl (Nat.le_of_ble_eq_true rfl) ?_
          first | refine mw_ninc rfl rfl (Nat.le_of_ble_eq_true rfl) ?_ | refine mw_iinc rfl rfl rfl (Nat.le_of_ble_eq_true rfl) ?_
          refine mw_goto rfl ?_
          exact mw_locals rfl ih
        · rw [h1, Bool.true_and] at ih
          refine mw_iload rfl rfl ?_
          refine mw_if_lt rfl (fun h2 => ?_) (fun h2 => ?_)
          · rw [show litB D x = true by unfold litB; rw [if_pos h2]] at ih
            refine mw_iconst (v := nI 1) rfl (by decide) ?_
            refine mw_goto rfl ?_
            refine mw_istore_n (i := 2) rfl rfl (Nat.le_of_ble_eq_true rfl) ?_
            first | refine mw_ninc rfl rfl (Nat.le_of_ble_eq_true rfl) ?_ | refine mw_iinc rfl rfl rfl (Nat.le_of_ble_eq_true rfl) ?_
            refine mw_goto rfl ?_
            exact mw_locals rfl ih
          · obtain ⟨f, hf, rfl⟩ := hla.resolve_left h2
            rw [show litB D (nI f) = D f by unfold litB; rw [if_neg (nI_pos (by omega)), nI_clamp (by omega)]] at ih
            refine mw_aload_n (i := 0) rfl rfl rfl ?_
            refine mw_getfield rfl f_X10_69 (by first | rfl | exact hO | exact hli | exact hdv) rfl ?_
            refine mw_iload rfl rfl ?_
            refine mw_zald rfl (by first | rfl | exact hO | exact hli | exact hdv) (by omega) (by omega) ?_
            refine mw_b_eq rfl (fun h3 => ?_) (fun h3 => ?_)
            · rw [h3] at ih
              refine mw_iconst (v := nI 0) rfl (by decide) ?_
              refine mw_istore_n (i := 2) rfl rfl (Nat.le_of_ble_eq_true rfl) ?_
              first | refine mw_ninc rfl rfl (Nat.le_of_ble_eq_true rfl) ?_ | refine mw_iinc rfl rfl rfl (Nat.le_of_ble_eq_true rfl) ?_
              refine mw_goto rfl ?_
              exact mw_locals rfl ih
            · rw [h3] at ih
              refine mw_iconst (v := nI 1) rfl (by decide) ?_
              refine mw_goto rfl ?_
              refine mw_istore_n (i := 2) rfl rfl (Nat.le_of_ble_eq_true rfl) ?_
              first | refine mw_ninc rfl rfl (Nat.le_of_ble_eq_true rfl) ?_ | refine mw_iinc rfl rfl rfl (Nat.le_of_ble_eq_true rfl) ?_
              refine mw_goto rfl ?_
              exact mw_locals rfl ih
  exact mw_locals rfl (loop 0 (Nat.zero_le _))
theorem c_areSized (d n : Nat) (i : Nat) (w : Nat → Int32) (v z : Nat → Nat) (S : HoS) (h : Nat → MC) (hO : h 178 = RO w) (hsz : h 196 = .inl (.int, 216, .inl (vI z))) (hS : HoOk v S) (hA : HoAt h S) (hi : i < S.1) (hz : ∀ f, f < 216 → z f < 2147483648) : Fn M_X10_areSized d 0 0 [.ref 178, .int (nI i)] h n (some (.int (bI (allL S (fun f => decide (0 < z f)) i)))) h := by
  obtain ⟨hru, hhd, hli⟩ := hA
  obtain ⟨h1728, hS⟩ := hS
  obtain ⟨hr, hh, hl⟩ := hS i hi
  refine Fn.of fun post hp => ?_
  refine mw_iconst (v := nI 1) rfl (by decide) ?_
  refine mw_istore_n (i := 2) rfl rfl (Nat.le_of_ble_eq_true rfl) ?_
  refine mw_iconst (v := nI 0) rfl (by decide) ?_
  refine mw_istore_n (i := 3) rfl rfl (Nat.le_of_ble_eq_true rfl) ?_
  have loop : ∀ a, a ≤ 3 → MW M_X10_areSized d 0 0 n post 4 [(0, .ref 178), (1, .int (nI i)), (2, .int (bI (andN (fun a => litB (fun f => decide (0 < z f)) (S.2.2.2.1 (3 * i + a))) a))), (3, .int (nI a))] [] h n 0 := by
    refine loop_up 3 ?_ ?_
    · refine mw_iload_n (i := 3) rfl rfl rfl ?_
      refine mw_iconst (v := nI 3) rfl (by decide) ?_
      refine mw_n_ge rfl (by omega) (by omega) (fun hc => ?_) (fun hc => ?_)
      · refine mw_iload_n (i := 2) rfl rfl rfl ?_
        first | exact mw_ireturn rfl rfl (bI_nar _) rfl (Nat.le_refl _) (hp) | exact mw_ireturn rfl rfl rfl rfl (Nat.le_refl _) (hp)
      · omega
    · intro a ha ih
      have hla := hl a ha
      have e1 : andN (fun a => litB (fun f => decide (0 < z f)) (S.2.2.2.1 (3 * i + a))) (a + 1) = (andN (fun a => litB (fun f => decide (0 < z f)) (S.2.2.2.1 (3 * i + a))) a && litB (fun f => decide (0 < z f)) (S.2.2.2.1 (3 * i + a))) := rfl
      rw [e1] at ih
      generalize hX : S.2.2.2.1 (3 * i + a) = x at hla ih
      refine mw_iload_n (i := 3) rfl rfl rfl ?_
      refine mw_iconst (v := nI 3) rfl (by decide) ?_
      refine mw_n_ge rfl (by omega) (by omega) (fun hc => ?_) (fun hc => ?_)
      · omega
      · refine mw_aload_n (i := 0) rfl rfl rfl ?_
        refine mw_getfield rfl f_X10_47 (by first | rfl | exact hO | exact hli | exact hsz) rfl ?_
        refine mw_iconst (v := nI 3) rfl (by decide) ?_
        refine mw_iload_n (i := 1) rfl rfl rfl ?_
        first | refine mw_nmul rfl ?_ | refine mw_imul rfl ?_
        refine mw_iload_n (i := 3) rfl rfl rfl ?_
        first | refine mw_nadd rfl ?_ | refine mw_iadd rfl ?_
        refine mw_iald_v (v := x) rfl hli (by omega) (by omega) hX ?_
        refine mw_istore rfl (Nat.le_of_ble_eq_true rfl) ?_
        refine mw_iload_n (i := 2) rfl rfl rfl ?_
        refine mw_b_eq rfl (fun h1 => ?_) (fun h1 => ?_)
        · rw [h1, Bool.false_and] at ih
          refine mw_iconst (v := nI 0) rfl (by decide) ?_
          refine mw_istore_n (i := 2) rfl rfl (Nat.le_of_ble_eq_true rfl) ?_
          first | refine mw_ninc rfl rfl (Nat.le_of_ble_eq_true rfl) ?_ | refine mw_iinc rfl rfl rfl (Nat.le_of_ble_eq_true rfl) ?_
          refine mw_goto rfl ?_
          exact mw_locals rfl ih
        · rw [h1, Bool.true_and] at ih
          refine mw_iload rfl rfl ?_
          refine mw_if_lt rfl (fun h2 => ?_) (fun h2 => ?_)
          · rw [show litB (fun f => decide (0 < z f)) x = true by unfold litB; rw [if_pos h2]] at ih
            refine mw_iconst (v := nI 1) rfl (by decide) ?_
            refine mw_goto rfl ?_
            refine mw_istore_n (i := 2) rfl rfl (Nat.le_of_ble_eq_true rfl) ?_
            first | refine mw_ninc rfl rfl (Nat.le_of_ble_eq_true rfl) ?_ | refine mw_iinc rfl rfl rfl (Nat.le_of_ble_eq_true rfl) ?_
            refine mw_goto rfl ?_
            exact mw_locals rfl ih
          · obtain ⟨f, hf, rfl⟩ := hla.resolve_left h2
            have hzf := hz f hf
            rw [show litB (fun f => decide (0 < z f)) (nI f) = decide (0 < z f) by unfold litB; rw [if_neg (nI_pos (by omega)), nI_clamp (by omega)]] at ih
            refine mw_aload_n (i := 0) rfl rfl rfl ?_
            refine mw_getfield rfl f_X10_63 (by first | rfl | exact hO | exact hli | exact hsz) rfl ?_
            refine mw_iload rfl rfl ?_
            refine mw_iald rfl (by first | rfl | exact hO | exact hli | exact hsz) (by omega) (by omega) ?_
            refine mw_z_le rfl (by omega) (fun h3 => ?_) (fun h3 => ?_)
            · rw [decide_eq_false (by omega)] at ih
              refine mw_iconst (v := nI 0) rfl (by decide) ?_
              refine mw_istore_n (i := 2) rfl rfl (Nat.le_of_ble_eq_true rfl) ?_
              first | refine mw_ninc rfl rfl (Nat.le_of_ble_eq_true rfl) ?_ | refine mw_iinc rfl rfl rfl (Nat.le_of_ble_eq_true rfl) ?_
              refine mw_goto rfl ?_
              exact mw_locals rfl ih
            · rw [decide_eq_true h3] at ih
              refine mw_iconst (v := nI 1) rfl (by decide) ?_
              refine mw_goto rfl ?_
              refine mw_istore_n (i := 2) rfl rfl (Nat.le_of_ble_eq_true rfl) ?_
              first | refine mw_ninc rfl rfl (Nat.le_of_ble_eq_true rfl) ?_ | refine mw_iinc rfl rfl rfl (Nat.le_of_ble_eq_true rfl) ?_
              refine mw_goto rfl ?_
              exact mw_locals rfl ih
  exact mw_locals rfl (loop 0 (Nat.zero_le _))
def litM (c : Nat → Nat) (x : Int32) : Nat := if x < 0 then 0 else c x.toNatClampNeg
def szS (S : HoS) (z : Nat → Nat) (i a : Nat) : Nat := itN (fun a s => s + litN z (S.2.2.2.1 (3 * i + a))) 1 a
def usS (S : HoS) (u : Nat → Nat) (i a : Nat) : Nat := itN (fun a s => s ||| litN u (S.2.2.2.1 (3 * i + a))) 0 a
theorem c_sizes (d n : Nat) (f i : Nat) (w : Nat → Int32) (v z u : Nat → Nat) (S : HoS) (h : Nat → MC) (hO : h 178 = RO w) (hsz : h 196 = .inl (.int, 216, .inl (vI z))) (hus : h 197 = .inl (.int, 216, .inl (vI u))) (hS : HoOk v S) (hA : HoAt h S) (hi : i < S.1) (hf : f < 216) : Fn M_X10_sizes d 0 0 [.ref 178, .int (nI f), .int (nI i)] h n none (mov [(196, .inl (.int, 216, .inl (vI (updN z f (szS S z i 3))))), (197, .inl (.int, 216, .inl (vI (updN u f (usS S u i 3)))))] h) := by
  obtain ⟨hru, hhd, hli⟩ := hA
  obtain ⟨h1728, hS⟩ := hS
  obtain ⟨hr, hh, hl⟩ := hS i hi
  refine Fn.of fun post hp => ?_
  refine mw_iconst (v := nI 1) rfl (by decide) ?_
  refine mw_istore_n (i := 3) rfl rfl (Nat.le_of_ble_eq_true rfl) ?_
  refine mw_iconst (v := nI 0) rfl (by decide) ?_
  refine mw_istore rfl (Nat.le_of_ble_eq_true rfl) ?_
  refine mw_iconst (v := nI 0) rfl (by decide) ?_
  refine mw_istore rfl (Nat.le_of_ble_eq_true rfl) ?_
  have loop : ∀ a, a ≤ 3 → MW M_X10_sizes d 0 0 n post 8 [(0, .ref 178), (1, .int (nI f)), (2, .int (nI i)), (3, .int (nI (szS S z i a))), (4, .int (nI (usS S u i a))), (5, .int (nI a))] [] h n 0 := by
    refine loop_up 3 ?_ ?_
    · refine mw_iload rfl rfl ?_
      refine mw_iconst (v := nI 3) rfl (by decide) ?_
      refine mw_n_ge rfl (by omega) (by omega) (fun hc => ?_) (fun hc => ?_)
      · refine mw_over [(196, .inl (.int, 216, .inl (vI z)))] (mov_self (by simp [hsz])) ?_
        refine mw_aload_n (i := 0) rfl rfl rfl ?_
        refine mw_getfield rfl f_X10_63 (by first | rfl | exact hO | exact hli | exact hsz | exact hus) rfl ?_
        refine mw_iload_n (i := 1) rfl rfl rfl ?_
        refine mw_iload_n (i := 3) rfl rfl rfl ?_
        refine mw_iast_m rfl (by first | rfl | exact hO | exact hli | exact hsz | exact hus) (by omega) (by omega) ?_
        first | rw [vI_upd] | rw [vI_updv] | skip
        refine mw_aload_n (i := 0) rfl rfl rfl ?_
        refine mw_getfield rfl f_X10_66 (by first | rfl | exact hO | exact hli | exact hsz | exact hus) rfl ?_
        refine mw_iload_n (i := 1) rfl rfl rfl ?_
        refine mw_iload rfl rfl ?_
        refine mw_iast_m rfl (by first | rfl | exact hO | exact hli | exact hsz | exact hus) (by omega) (by omega) ?_
        first | rw [vI_upd] | rw [vI_updv] | skip
        exact mw_return rfl rfl rfl (Nat.le_refl _) (hp)
      · omega
    · intro a ha ih
      have hla := hl a ha
      rw [show szS S z i (a + 1) = szS S z i a + litN z (S.2.2.2.1 (3 * i + a)) from rfl, show usS S u i (a + 1) = usS S u i a ||| litN u (S.2.2.2.1 (3 * i + a)) from rfl] at ih
      generalize hX : S.2.2.2.1 (3 * i + a) = x at hla ih
      refine mw_iload rfl rfl ?_
      refine mw_iconst (v := nI 3) rfl (by decide) ?_
      refine mw_n_ge rfl (by omega) (by omega) (fun hc => ?_) (fun hc => ?_)
      · omega
      · refine mw_aload_n (i := 0) rfl rfl rfl ?_
        refine mw_getfield rfl f_X10_47 (by first | rfl | exact hO | exact hli | exact hsz | exact hus) rfl ?_
        refine mw_iconst (v := nI 3) rfl (by decide) ?_
        refine mw_iload_n (i := 2) rfl rfl rfl ?_
        first | refine mw_nmul rfl ?_ | refine mw_imul rfl ?_
        refine mw_iload rfl rfl ?_
        first | refine mw_nadd rfl ?_ | refine mw_iadd rfl ?_
        refine mw_iald_v (v := x) rfl hli (by omega) (by omega) hX ?_
        refine mw_istore rfl (Nat.le_of_ble_eq_true rfl) ?_
        refine mw_iload_n (i := 3) rfl rfl rfl ?_
        refine mw_iload rfl rfl ?_
        refine mw_if_ge rfl (fun h1 => ?_) (fun h1 => ?_)
        · obtain ⟨g, hg, rfl⟩ := hla.resolve_left (Int32.not_lt.mpr h1)
          rw [show litN z (nI g) = z g by unfold litN; rw [if_neg (nI_pos (by omega)), nI_clamp (by omega)], show litN u (nI g) = u g by unfold litN; rw [if_neg (nI_pos (by omega)), nI_clamp (by omega)]] at ih
          refine mw_aload_n (i := 0) rfl rfl rfl ?_
          refine mw_getfield rfl f_X10_63 (by first | rfl | exact hO | exact hli | exact hsz | exact hus) rfl ?_
          refine mw_iload rfl rfl ?_
          refine mw_iald rfl (by first | rfl | exact hO | exact hli | exact hsz | exact hus) (by omega) (by omega) ?_
          first | refine mw_nadd rfl ?_ | refine mw_iadd rfl ?_
          refine mw_istore_n (i := 3) rfl rfl (Nat.le_of_ble_eq_true rfl) ?_
          refine mw_iload rfl rfl ?_
          refine mw_iload rfl rfl ?_
          refine mw_if_ge rfl (fun h2 => ?_) (fun h2 => ?_)
          · refine mw_aload_n (i := 0) rfl rfl rfl ?_
            refine mw_getfield rfl f_X10_66 (by first | rfl | exact hO | exact hli | exact hsz | exact hus) rfl ?_
            refine mw_iload rfl rfl ?_
            refine mw_iald rfl (by first | rfl | exact hO | exact hli | exact hsz | exact hus) (by omega) (by omega) ?_
            first | refine mw_nior rfl ?_ | refine mw_ior rfl ?_
            refine mw_istore rfl (Nat.le_of_ble_eq_true rfl) ?_
            first | refine mw_ninc rfl rfl (Nat.le_of_ble_eq_true rfl) ?_ | refine mw_iinc rfl rfl rfl (Nat.le_of_ble_eq_true rfl) ?_
            refine mw_goto rfl ?_
            exact mw_locals rfl ih
          · exact absurd h1 h2
        · rw [show litN z x = 0 by unfold litN; rw [if_pos (Int32.not_le.mp h1)], show litN u x = 0 by unfold litN; rw [if_pos (Int32.not_le.mp h1)]] at ih
          refine mw_iconst (v := nI 0) rfl (by decide) ?_
          refine mw_goto rfl ?_
          first | refine mw_nadd rfl ?_ | refine mw_iadd rfl ?_
          refine mw_istore_n (i := 3) rfl rfl (Nat.le_of_ble_eq_true rfl) ?_
          refine mw_iload rfl rfl ?_
          refine mw_iload rfl rfl ?_
          refine mw_if_ge rfl (fun h2 => ?_) (fun h2 => ?_)
          · exact absurd h2 h1
          · refine mw_iconst (v := nI 0) rfl (by decide) ?_
            refine mw_goto rfl ?_
            first | refine mw_nior rfl ?_ | refine mw_ior rfl ?_
            refine mw_istore rfl (Nat.le_of_ble_eq_true rfl) ?_
            first | refine mw_ninc rfl rfl (Nat.le_of_ble_eq_true rfl) ?_ | refine mw_iinc rfl rfl rfl (Nat.le_of_ble_eq_true rfl) ?_
            refine mw_goto rfl ?_
            exact mw_locals rfl ih
  exact mw_locals rfl (loop 0 (Nat.zero_le _))
def leN (lr : Nat → Int32) (z u : Nat → Nat) (f : Nat) (what : Nat) : Int32 := if lr f < 0 then -5 else if what = 0 then lr f else if what = 1 then nI (z f) else nI (u f)
theorem c_leastNow (d n : Nat) (f what : Nat) (w : Nat → Int32) (z u : Nat → Nat) (lr : Nat → Int32) (h : Nat → MC) (hO : h 178 = RO w) (hlr : h 194 = .inl (.int, 216, .inl lr)) (hsz : h 196 = .inl (.int, 216, .inl (vI z))) (hus : h 197 = .inl (.int, 216, .inl (vI u))) (hf : f < 216) (hw : what < 3) : Fn M_X10_leastNow d 0 0 [.ref 178, .int (nI f), .int (nI what)] h n (some (.int (leN lr z u f what))) h := by
  refine Fn.of fun post hp => ?_
  refine mw_aload_n (i := 0) rfl rfl rfl ?_
  refine mw_getfield rfl f_X10_57 (by first | rfl | exact hO | exact hlr | exact hsz | exact hus) rfl ?_
  refine mw_iload_n (i := 1) rfl rfl rfl ?_
  refine mw_iald rfl (by first | rfl | exact hO | exact hlr | exact hsz | exact hus) (by omega) (by omega) ?_
  refine mw_if_ge rfl (fun h1 => ?_) (fun h1 => ?_)
  · have h1 : ¬ lr f < 0 := Int32.not_lt.mpr h1
    refine mw_iload_n (i := 2) rfl rfl rfl ?_
    refine mw_z_ne rfl (by omega) (fun h2 => ?_) (fun h2 => ?_)
    · refine mw_iload_n (i := 2) rfl rfl rfl ?_
      refine mw_iconst (v := nI 1) rfl (by decide) ?_
      refine mw_n_ne rfl (by omega) (by omega) (fun h3 => ?_) (fun h3 => ?_)
      · rw [show leN lr z u f what = nI (u f) by unfold leN; rw [if_neg h1, if_neg h2, if_neg h3]] at hp
        refine mw_aload_n (i := 0) rfl rfl rfl ?_
        refine mw_getfield rfl f_X10_66 (by first | rfl | exact hO | exact hlr | exact hsz | exact hus) rfl ?_
        refine mw_iload_n (i := 1) rfl rfl rfl ?_
        refine mw_iald rfl (by first | rfl | exact hO | exact hlr | exact hsz | exact hus) (by omega) (by omega) ?_
        exact mw_ireturn rfl rfl rfl rfl (Nat.le_refl _) (hp)
      · rw [show leN lr z u f what = nI (z f) by unfold leN; rw [if_neg h1, if_neg h2, if_pos h3]] at hp
        refine mw_aload_n (i := 0) rfl rfl rfl ?_
        refine mw_getfield rfl f_X10_63 (by first | rfl | exact hO | exact hlr | exact hsz | exact hus) rfl ?_
        refine mw_iload_n (i := 1) rfl rfl rfl ?_
        refine mw_iald rfl (by first | rfl | exact hO | exact hlr | exact hsz | exact hus) (by omega) (by omega) ?_
        refine mw_goto rfl ?_
        exact mw_ireturn rfl rfl rfl rfl (Nat.le_refl _) (hp)
    · rw [show leN lr z u f what = lr f by unfold leN; rw [if_neg h1, if_pos h2]] at hp
      refine mw_aload_n (i := 0) rfl rfl rfl ?_
      refine mw_getfield rfl f_X10_57 (by first | rfl | exact hO | exact hlr | exact hsz | exact hus) rfl ?_
      refine mw_iload_n (i := 1) rfl rfl rfl ?_
      refine mw_iald rfl (by first | rfl | exact hO | exact hlr | exact hsz | exact hus) (by omega) (by omega) ?_
      refine mw_goto rfl ?_
      exact mw_ireturn rfl rfl rfl rfl (Nat.le_refl _) (hp)
  · rw [show leN lr z u f what = -5 by unfold leN; rw [if_pos (Int32.not_le.mp h1)]] at hp
    refine mw_bipush (v := (-5)) rfl (by decide) ?_
    refine mw_goto rfl ?_
    exact mw_ireturn rfl rfl rfl rfl (Nat.le_refl _) (hp)
