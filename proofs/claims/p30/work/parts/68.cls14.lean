/-! THE CLASS'S COSTS: least derivations are put together -/
theorem andN_it (f : Nat → Bool) : ∀ n, andN f n = itN (fun k x => x && f k) true n
  | 0 => rfl
  | n + 1 => by
    show (andN f n && f n) = (itN (fun k x => x && f k) true n && f n)
    rw [andN_it f n]
theorem allL_it (S : HoS) (f : Nat → Bool) (j : Nat) : allL S f j = itN (fun a y => litG (fun g y => y && f g) (S.2.2.2.1 (3 * j + a)) y) true 3 := by
  unfold allL
  rw [andN_it]
  exact itN_cg fun a _ y => by
    unfold litB litG
    split
    · exact Bool.and_true y
    · rfl
theorem szS_it (S : HoS) (z : Nat → Nat) (j : Nat) : szS S z j 3 = itN (fun a y => litG (fun f y => y + z f) (S.2.2.2.1 (3 * j + a)) y) 1 3 := itN_cg fun a _ y => by
  unfold litN litG
  split
  · rfl
  · rfl
theorem usS_it (S : HoS) (u : Nat → Nat) (j : Nat) : usS S u j 3 = itN (fun a y => litG (fun f y => y ||| u f) (S.2.2.2.1 (3 * j + a)) y) 0 3 := itN_cg fun a _ y => by
  unfold litN litG
  split
  · exact Nat.or_zero y
  · rfl
theorem c_parts (d n j : Nat) (v z : Nat → Nat) (S : HoS) (tot : Nat) (hs oh : Nat → Nat) (g : GD) (h : Nat → MC) (hg : GrAt h g) (hG : GrOk v g) (hok : OkN v) (hH : HdOk v S tot hs oh) (hj : j < S.1) (h72 : h 72 = KO) (h75 : h 75 = .inl (.int, 216, .inl (vI z))) (hz : ∀ f, f < 216 → z f < 2147483648) : Fn M_X0_partsAreKnown d 0 0 [.ref 72, .ref 56, .int (nI (hs j))] h n (some (.int (bI (allL S (fun f => decide (0 < z f)) j)))) h := by
  refine Fn.of fun post hp => ?_
  obtain ⟨a1, a2, a3, a4, a5, a6, a7, a8, a9, a10⟩ := hH.at hok hG hj
  have h8 := hok.2.2.2.1
  rw [allL_it, ← a10 Bool (fun g y => y && decide (0 < z g)), ← andN_it (fun k => decide (0 < z (g.bd (hs j * 3 + k))))] at hp
  have b1 : vI g.ru (hs j) = nI (S.2.1 j) := congrArg nI a3
  have b3 : vI g.pc (S.2.1 j) = nI (plT v (S.2.1 j)) := congrArg nI a7
  generalize S.2.1 j = r at a2 a6 a9 b1 b3 hp
  generalize plT v r = pl at a6 a9 b3 hp
  refine mw_iload_n (i := 2) rfl rfl rfl ?_
  refine mw_iconst (v := nI 3) rfl (by decide) ?_
  first | refine mw_nmul rfl ?_ | refine mw_imul rfl ?_
  refine mw_istore_n (i := 3) rfl rfl (Nat.le_of_ble_eq_true rfl) ?_
  refine mw_aload_n (i := 1) rfl rfl rfl ?_
  refine mw_getfield rfl f_X0_86 (by first | rfl | exact hg.1 | exact hg.2.2.2.2.1 | exact hg.2.2.2.2.2.2.2.1 | exact hg.2.2.2.2.2.2.2.2.2.1 | exact h72 | exact h75) rfl ?_
  refine mw_aload_n (i := 1) rfl rfl rfl ?_
  refine mw_getfield rfl f_X0_82 (by first | rfl | exact hg.1 | exact hg.2.2.2.2.1 | exact hg.2.2.2.2.2.2.2.1 | exact hg.2.2.2.2.2.2.2.2.2.1 | exact h72 | exact h75) rfl ?_
  refine mw_iload_n (i := 2) rfl rfl rfl ?_
  refine mw_iald_v rfl (by first | rfl | exact hg.1 | exact hg.2.2.2.2.1 | exact hg.2.2.2.2.2.2.2.1 | exact hg.2.2.2.2.2.2.2.2.2.1 | exact h72 | exact h75) (by omega) (by omega) b1 ?_
  refine mw_iald_v rfl (by first | rfl | exact hg.1 | exact hg.2.2.2.2.1 | exact hg.2.2.2.2.2.2.2.1 | exact hg.2.2.2.2.2.2.2.2.2.1 | exact h72 | exact h75) (by omega) (by omega) b3 ?_
  refine mw_istore rfl (Nat.le_of_ble_eq_true rfl) ?_
  refine mw_iload_n (i := 3) rfl rfl rfl ?_
  refine mw_istore rfl (Nat.le_of_ble_eq_true rfl) ?_
  have loop : ∀ k, k ≤ pl → andN (fun k => decide (0 < z (g.bd (hs j * 3 + k)))) k = true → MW M_X0_partsAreKnown d 0 0 n post 20 [(0, .ref 72), (1, .ref 56), (3, .int (nI (hs j * 3))), (4, .int (nI pl)), (5, .int (nI (hs j * 3 + k)))] [] h n 0 := by
    refine loop_up pl ?_ ?_
    · intro hf
      rw [hf] at hp
      refine mw_iload rfl rfl ?_
      refine mw_iload_n (i := 3) rfl rfl rfl ?_
      refine mw_iload rfl rfl ?_
      first | refine mw_nadd rfl ?_ | refine mw_iadd rfl ?_
      refine mw_n_ge rfl (by omega) (by omega) (fun hc => ?_) (fun hc => ?_)
      · refine mw_iconst (v := nI 1) rfl (by decide) ?_
        first | exact mw_ireturn rfl rfl (bI_nar _) rfl (Nat.le_refl _) (hp) | exact mw_ireturn rfl rfl rfl rfl (Nat.le_refl _) (hp)
      · omega
    · intro k hk ih hf
      have hb := a9 k hk
      have hzb := hz _ hb
      refine mw_iload rfl rfl ?_
      refine mw_iload_n (i := 3) rfl rfl rfl ?_
      refine mw_iload rfl rfl ?_
      first | refine mw_nadd rfl ?_ | refine mw_iadd rfl ?_
      refine mw_n_ge rfl (by omega) (by omega) (fun hc => ?_) (fun hc => ?_)
      · omega
      · refine mw_aload_n (i := 0) rfl rfl rfl ?_
        refine mw_getfield rfl f_X0_18 (by first | rfl | exact hg.1 | exact hg.2.2.2.2.1 | exact hg.2.2.2.2.2.2.2.1 | exact hg.2.2.2.2.2.2.2.2.2.1 | exact h72 | exact h75) rfl ?_
        refine mw_aload_n (i := 1) rfl rfl rfl ?_
        refine mw_getfield rfl f_X0_89 (by first | rfl | exact hg.1 | exact hg.2.2.2.2.1 | exact hg.2.2.2.2.2.2.2.1 | exact hg.2.2.2.2.2.2.2.2.2.1 | exact h72 | exact h75) rfl ?_
        refine mw_iload rfl rfl ?_
        refine mw_iald rfl (by first | rfl | exact hg.1 | exact hg.2.2.2.2.1 | exact hg.2.2.2.2.2.2.2.1 | exact hg.2.2.2.2.2.2.2.2.2.1 | exact h72 | exact h75) (by omega) (by omega) ?_
        refine mw_iald rfl (by first | rfl | exact hg.1 | exact hg.2.2.2.2.1 | exact hg.2.2.2.2.2.2.2.1 | exact hg.2.2.2.2.2.2.2.2.2.1 | exact h72 | exact h75) (by omega) (by omega) ?_
        show MW _ _ _ _ _ _ _ _ (.int (nI (z (g.bd (hs j * 3 + k)))) :: []) _ _ _
        refine mw_z_ne rfl (by omega) (fun hq => ?_) (fun hq => ?_)
        · first | refine mw_ninc rfl rfl (Nat.le_of_ble_eq_true rfl) ?_ | refine mw_iinc rfl rfl rfl (Nat.le_of_ble_eq_true rfl) ?_
          refine mw_goto rfl ?_
          exact mw_locals rfl (ih (by show (andN _ k && decide (0 < z (g.bd (hs j * 3 + k)))) = true; rw [hf, decide_eq_true (by omega)]; rfl))
        · have : andN (fun k => decide (0 < z (g.bd (hs j * 3 + k)))) pl = false := by
            cases q : andN (fun k => decide (0 < z (g.bd (hs j * 3 + k)))) pl
            · rfl
            · have := of_decide_eq_true ((andN_iff _ _).mp q k hk)
              omega
          rw [this] at hp
          refine mw_iconst (v := nI 0) rfl (by decide) ?_
          first | exact mw_ireturn rfl rfl (bI_nar _) rfl (Nat.le_refl _) (hp) | exact mw_ireturn rfl rfl rfl rfl (Nat.le_refl _) (hp)
  exact mw_locals rfl (loop 0 (Nat.zero_le _) rfl)
theorem c_putT (d n j a : Nat) (v c kr z u : Nat → Nat) (ba ch : Nat → Int32) (S : HoS) (tot : Nat) (hs oh : Nat → Nat) (g : GD) (h : Nat → MC) (hg : GrAt h g) (hG : GrOk v g) (hok : OkN v) (hH : HdOk v S tot hs oh) (hj : j < S.1) (h72 : h 72 = KO) (ha : a < 216) (hch : ch a = nI (hs j)) (hkr : kr a = S.2.1 j) : Fn M_X0_putTogether d 0 0 [.ref 72, .ref 56, .int (nI a)] (mov (kcL c kr z u ba ch) h) n none (mov (kcL c kr (updN z a (szS S z j 3)) (updN u a (usS S u j 3)) ba ch) h) := by
  refine Fn.of fun post hp => ?_
  obtain ⟨a1, a2, a3, a4, a5, a6, a7, a8, a9, a10⟩ := hH.at hok hG hj
  have h8 := hok.2.2.2.1
  rw [szS_it, ← a10 Nat (fun f y => y + z f), usS_it, ← a10 Nat (fun f y => y ||| u f)] at hp
  have b0 : vI kr a = nI (S.2.1 j) := congrArg nI hkr
  have b3 : vI g.pc (S.2.1 j) = nI (plT v (S.2.1 j)) := congrArg nI a7
  generalize S.2.1 j = r at a2 a6 a9 b0 b3 hp
  generalize plT v r = pl at a6 a9 b3 hp
  refine mw_aload_n (i := 0) rfl rfl rfl ?_
  refine mw_getfield rfl f_X0_27 (by first | rfl | exact rfl | exact hg.1 | exact hg.2.2.2.2.1 | exact hg.2.2.2.2.2.2.2.2.2.1 | exact h72) rfl ?_
  refine mw_iload_n (i := 2) rfl rfl rfl ?_
  refine mw_iald_v rfl (by first | rfl | exact rfl | exact hg.1 | exact hg.2.2.2.2.1 | exact hg.2.2.2.2.2.2.2.2.2.1 | exact h72) (by omega) (by omega) hch ?_
  refine mw_iconst (v := nI 3) rfl (by decide) ?_
  first | refine mw_nmul rfl ?_ | refine mw_imul rfl ?_
  refine mw_istore_n (i := 3) rfl rfl (Nat.le_of_ble_eq_true rfl) ?_
  refine mw_iconst (v := nI 1) rfl (by decide) ?_
  refine mw_istore rfl (Nat.le_of_ble_eq_true rfl) ?_
  refine mw_iconst (v := nI 0) rfl (by decide) ?_
  refine mw_istore rfl (Nat.le_of_ble_eq_true rfl) ?_
  refine mw_iload_n (i := 3) rfl rfl rfl ?_
  refine mw_istore rfl (Nat.le_of_ble_eq_true rfl) ?_
  have loop : ∀ k, k ≤ pl → ∀ x : Nat, MW M_X0_putTogether d 0 0 n post 18 [(0, .ref 72), (1, .ref 56), (2, .int (nI a)), (3, .int (nI (hs j * 3))), (4, .int (nI (itN (fun k y => y + z (g.bd (hs j * 3 + k))) 1 k))), (5, .int (nI (itN (fun k y => y ||| u (g.bd (hs j * 3 + k))) 0 k))), (6, .int (nI (hs j * 3 + k)))] [] (mov (kcL c kr z u ba ch) h) n 0 := by
    refine loop_up pl ?_ ?_
    · intro x
      refine mw_iload rfl rfl ?_
      refine mw_iload_n (i := 3) rfl rfl rfl ?_
      refine mw_aload_n (i := 1) rfl rfl rfl ?_
      refine mw_getfield rfl f_X0_86 (by first | rfl | exact rfl | exact hg.1 | exact hg.2.2.2.2.1 | exact hg.2.2.2.2.2.2.2.2.2.1 | exact h72) rfl ?_
      refine mw_aload_n (i := 0) rfl rfl rfl ?_
      refine mw_getfield rfl f_X0_15 (by first | rfl | exact rfl | exact hg.1 | exact hg.2.2.2.2.1 | exact hg.2.2.2.2.2.2.2.2.2.1 | exact h72) rfl ?_
      refine mw_iload_n (i := 2) rfl rfl rfl ?_
      refine mw_iald_v rfl (by first | rfl | exact rfl | exact hg.1 | exact hg.2.2.2.2.1 | exact hg.2.2.2.2.2.2.2.2.2.1 | exact h72) (by omega) (by omega) b0 ?_
      refine mw_iald_v rfl (by first | rfl | exact rfl | exact hg.1 | exact hg.2.2.2.2.1 | exact hg.2.2.2.2.2.2.2.2.2.1 | exact h72) (by omega) (by omega) b3 ?_
      first | refine mw_nadd rfl ?_ | refine mw_iadd rfl ?_
      refine mw_n_ge rfl (by omega) (by omega) (fun hc => ?_) (fun hc => ?_)
      · refine mw_aload_n (i := 0) rfl rfl rfl ?_
        refine mw_getfield rfl f_X0_18 (by first | rfl | exact rfl | exact hg.1 | exact hg.2.2.2.2.1 | exact hg.2.2.2.2.2.2.2.2.2.1 | exact h72) rfl ?_
        refine mw_iload_n (i := 2) rfl rfl rfl ?_
        refine mw_iload rfl rfl ?_
        refine mw_iast_m rfl (by first | rfl | exact rfl | exact hg.1 | exact hg.2.2.2.2.1 | exact hg.2.2.2.2.2.2.2.2.2.1 | exact h72) (by omega) (by omega) ?_
        first | rw [vI_upd] | rw [vI_updv] | skip
        refine mw_aload_n (i := 0) rfl rfl rfl ?_
        refine mw_getfield rfl f_X0_21 (by first | rfl | exact rfl | exact hg.1 | exact hg.2.2.2.2.1 | exact hg.2.2.2.2.2.2.2.2.2.1 | exact h72) rfl ?_
        refine mw_iload_n (i := 2) rfl rfl rfl ?_
        refine mw_iload rfl rfl ?_
        refine mw_iast_m rfl (by first | rfl | exact rfl | exact hg.1 | exact hg.2.2.2.2.1 | exact hg.2.2.2.2.2.2.2.2.2.1 | exact h72) (by omega) (by omega) ?_
        first | rw [vI_upd] | rw [vI_updv] | skip
        exact mw_return rfl rfl rfl (Nat.le_refl _) (hp)
      · omega
    · intro k hk ih x
      have hb := a9 k hk
      refine mw_iload rfl rfl ?_
      refine mw_iload_n (i := 3) rfl rfl rfl ?_
      refine mw_aload_n (i := 1) rfl rfl rfl ?_
      refine mw_getfield rfl f_X0_86 (by first | rfl | exact rfl | exact hg.1 | exact hg.2.2.2.2.1 | exact hg.2.2.2.2.2.2.2.2.2.1 | exact h72) rfl ?_
      refine mw_aload_n (i := 0) rfl rfl rfl ?_
      refine mw_getfield rfl f_X0_15 (by first | rfl | exact rfl | exact hg.1 | exact hg.2.2.2.2.1 | exact hg.2.2.2.2.2.2.2.2.2.1 | exact h72) rfl ?_
      refine mw_iload_n (i := 2) rfl rfl rfl ?_
      refine mw_iald_v rfl (by first | rfl | exact rfl | exact hg.1 | exact hg.2.2.2.2.1 | exact hg.2.2.2.2.2.2.2.2.2.1 | exact h72) (by omega) (by omega) b0 ?_
      refine mw_iald_v rfl (by first | rfl | exact rfl | exact hg.1 | exact hg.2.2.2.2.1 | exact hg.2.2.2.2.2.2.2.2.2.1 | exact h72) (by omega) (by omega) b3 ?_
      first | refine mw_nadd rfl ?_ | refine mw_iadd rfl ?_
      refine mw_n_ge rfl (by omega) (by omega) (fun hc => ?_) (fun hc => ?_)
      · omega
      · refine mw_aload_n (i := 1) rfl rfl rfl ?_
        refine mw_getfield rfl f_X0_89 (by first | rfl | exact rfl | exact hg.1 | exact hg.2.2.2.2.1 | exact hg.2.2.2.2.2.2.2.2.2.1 | exact h72) rfl ?_
        refine mw_iload rfl rfl ?_
        refine mw_iald rfl (by first | rfl | exact rfl | exact hg.1 | exact hg.2.2.2.2.1 | exact hg.2.2.2.2.2.2.2.2.2.1 | exact h72) (by omega) (by omega) ?_
        refine mw_istore rfl (Nat.le_of_ble_eq_true rfl) ?_
        refine mw_iload rfl rfl ?_
        refine mw_aload_n (i := 0) rfl rfl rfl ?_
        refine mw_getfield rfl f_X0_18 (by first | rfl | exact rfl | exact hg.1 | exact hg.2.2.2.2.1 | exact hg.2.2.2.2.2.2.2.2.2.1 | exact h72) rfl ?_
        refine mw_iload rfl rfl ?_
        refine mw_iald rfl (by first | rfl | exact rfl | exact hg.1 | exact hg.2.2.2.2.1 | exact hg.2.2.2.2.2.2.2.2.2.1 | exact h72) (by omega) (by omega) ?_
        first | refine mw_nadd rfl ?_ | refine mw_iadd rfl ?_
        refine mw_istore rfl (Nat.le_of_ble_eq_true rfl) ?_
        refine mw_iload rfl rfl ?_
        refine mw_aload_n (i := 0) rfl rfl rfl ?_
        refine mw_getfield rfl f_X0_21 (by first | rfl | exact rfl | exact hg.1 | exact hg.2.2.2.2.1 | exact hg.2.2.2.2.2.2.2.2.2.1 | exact h72) rfl ?_
        refine mw_iload rfl rfl ?_
        refine mw_iald rfl (by first | rfl | exact rfl | exact hg.1 | exact hg.2.2.2.2.1 | exact hg.2.2.2.2.2.2.2.2.2.1 | exact h72) (by omega) (by omega) ?_
        refine mw_nior (b := u (g.bd (hs j * 3 + k))) rfl ?_
        refine mw_istore rfl (Nat.le_of_ble_eq_true rfl) ?_
        first | refine mw_ninc rfl rfl (Nat.le_of_ble_eq_true rfl) ?_ | refine mw_iinc rfl rfl rfl (Nat.le_of_ble_eq_true rfl) ?_
        refine mw_goto rfl ?_
        exact mw_locals rfl (ih 0)
  exact mw_locals rfl (loop 0 (Nat.zero_le _) 0)
set_option maxRecDepth 20000 in
theorem c_grow (d n : Nat) (v c kr z u : Nat → Nat) (ba ch : Nat → Int32) (L : LeS) (N : Nat) (hN : N = 216) (S : HoS) (tot : Nat) (hs oh : Nat → Nat) (g : GD) (h : Nat → MC) (hg : GrAt h g) (hG : GrOk v g) (hok : OkN v) (hS : HoOk v S) (hH : HdOk v S tot hs oh) (h72 : h 72 = KO) (hcF : CoF c) (hI : LeI v S c L) (hz : LKz L z u) (hc : LKc S c hs ch kr L) (hch : ∀ f, ch f = -1 ∨ ∃ j, j < S.1 ∧ ch f = nI (hs j)) :
    Sp M_X0_grow (d + 1) 0 0 [.ref 72, .ref 56] (mov (kcL c kr z u ba ch) h) n (fun r h1 => r = some (.int (bI (lsP S N L).2)) ∧ ∃ z' u' : Nat → Nat, h1 = mov (kcL c kr z' u' ba ch) h ∧ LKz (lsP S N L).1 z' u' ∧ LKc S c hs ch kr (lsP S N L).1) := by
  show MW _ _ _ _ _ _ _ _ _ _ _ _
  generalize hpost : (fun (r : Option Value) (h1 : Nat → MC) => r = some (.int (bI (lsP S N L).2)) ∧ ∃ z' u' : Nat → Nat, h1 = mov (kcL c kr z' u' ba ch) h ∧ LKz (lsP S N L).1 z' u' ∧ LKc S c hs ch kr (lsP S N L).1) = post
  have hp : ∀ z' u' : Nat → Nat, LKz (lsP S N L).1 z' u' → LKc S c hs ch kr (lsP S N L).1 → post (some (.int (bI (lsP S N L).2))) (mov (kcL c kr z' u' ba ch) h) := by
    intro z' u' h1 h2
    rw [← hpost]
    exact ⟨rfl, z', u', rfl, h1, h2⟩
  clear hpost
  refine mw_iconst (v := nI 0) rfl (by decide) ?_
  refine mw_istore_n (i := 2) rfl rfl (Nat.le_of_ble_eq_true rfl) ?_
  refine mw_iconst (v := nI 0) rfl (by decide) ?_
  refine mw_istore_n (i := 3) rfl rfl (Nat.le_of_ble_eq_true rfl) ?_
  have loop : ∀ a, a ≤ N → ∀ (z u : Nat → Nat) (x : Nat), LKz (itN (lsG S) (L, false) a).1 z u → LKc S c hs ch kr (itN (lsG S) (L, false) a).1 → MW M_X0_grow (d + 1) 0 0 n post 4 [(0, .ref 72), (1, .ref 56), (2, .int (bI (itN (lsG S) (L, false) a).2)), (3, .int (nI a))] [] (mov (kcL c kr z u ba ch) h) n 0 := by
    refine loop_up N ?_ ?_
    · intro z u x h1 h2
      refine mw_iload_n (i := 3) rfl rfl rfl ?_
      refine mw_sipush (v := nI 216) rfl (by decide) ?_
      refine mw_n_ge rfl (by omega) (by omega) (fun hc => ?_) (fun hc => ?_)
      · refine mw_iload_n (i := 2) rfl rfl rfl ?_
        first | exact mw_ireturn rfl rfl (bI_nar _) rfl (Nat.le_refl _) ((hp z u h1 h2)) | exact mw_ireturn rfl rfl rfl rfl (Nat.le_refl _) ((hp z u h1 h2))
      · omega
    · intro a ha ih z u x h1 h2
      have ha6 : a < 216 := by omega
      have hI' := lsN_I hok hS hI a (by omega)
      have eS : itN (lsG S) (L, false) (a + 1) = lsG S a (itN (lsG S) (L, false) a) := rfl
      rw [eS] at ih
      generalize itN (lsG S) (L, false) a = T at ih hI' h1 h2 ⊢
      have hca := hcF a
      have hz31 : ∀ f, f < 216 → z f < 2147483648 := fun f hf => by
        have e1 := (hI' f hf).1
        have e2 := hcF f
        rw [← (h1 f hf).1] at e1
        omega
      obtain ⟨ez, eu⟩ := h1 a ha6
      have hza := hz31 a ha6
      have stay : ¬ (T.1.2.1 a = 0 ∧ ¬ T.1.1 a < 0 ∧ allL S (fun g => decide (0 < T.1.2.1 g)) (T.1.2.2.2 a) = true) → ∀ x y : Nat, MW M_X0_grow (d + 1) 0 0 n post 75 [(0, .ref 72), (1, .ref 56), (2, .int (bI T.2)), (3, .int (nI a))] [] (mov (kcL c kr z u ba ch) h) n 0 := by
        intro hno x y
        have e : lsG S a T = T := if_neg hno
        rw [e] at ih
        first | refine mw_ninc rfl rfl (Nat.le_of_ble_eq_true rfl) ?_ | refine mw_iinc rfl rfl rfl (Nat.le_of_ble_eq_true rfl) ?_
        refine mw_goto rfl ?_
        exact mw_locals rfl (ih z u 0 h1 h2)
      have wait : ∀ b : Bool, (b = true → T.1.2.1 a = 0 ∧ ¬ T.1.1 a < 0) → (b = false → ¬ (T.1.2.1 a = 0 ∧ ¬ T.1.1 a < 0)) → MW M_X0_grow (d + 1) 0 0 n post 46 [(0, .ref 72), (1, .ref 56), (2, .int (bI T.2)), (3, .int (nI a))] [.int (bI b)] (mov (kcL c kr z u ba ch) h) n 0 := by
        intro b hb1 hb2
        refine mw_istore rfl (Nat.le_of_ble_eq_true rfl) ?_
        refine mw_iload rfl rfl ?_
        refine mw_b_eq rfl (fun hq => ?_) (fun hq => ?_)
        · exact mw_locals rfl (stay (fun w => hb2 hq ⟨w.1, w.2.1⟩) 0 0)
        · obtain ⟨t1, t2⟩ := hb1 hq
          obtain ⟨-, q2⟩ := h2 a ha6 t1
          obtain ⟨q3, q4, q5⟩ := q2 t2
          have eall : allL S (fun f => decide (0 < z f)) (T.1.2.2.2 a) = allL S (fun g => decide (0 < T.1.2.1 g)) (T.1.2.2.2 a) := by
            unfold allL
            refine andN_cg fun i hi => ?_
            unfold litB
            split
            · rfl
            · rename_i w
              rcases (hS.2 _ q4).2.2 i hi with w' | ⟨f, hf, w'⟩
              · exact absurd w' w
              · rw [w', nI_clamp (by omega)]
                show decide (0 < z f) = decide (0 < T.1.2.1 f)
                rw [(h1 f hf).1]
          refine mw_aload_n (i := 0) rfl rfl rfl ?_
          refine mw_aload_n (i := 1) rfl rfl rfl ?_
          refine mw_aload_n (i := 0) rfl rfl rfl ?_
          refine mw_getfield rfl f_X0_27 (by first | rfl | exact rfl | exact h72) rfl ?_
          refine mw_iload_n (i := 3) rfl rfl rfl ?_
          refine mw_iald_v rfl (by first | rfl | exact rfl | exact h72) (by omega) (by omega) q3 ?_
          refine mw_callV_f (c_parts d n (T.1.2.2.2 a) v z S tot hs oh g _ hg hG hok hH q4 h72 rfl hz31) rfl ok_X0_partsAreKnown v_X0_98 rfl (by first | rfl | exact rfl | exact h72) (by intro e; cases e) rfl (Nat.le_of_ble_eq_true rfl) rfl (Nat.le_of_ble_eq_true rfl) (by omega) (by omega) (by omega) ?_
          rw [eall]
          refine mw_b_eq rfl (fun hw => ?_) (fun hw => ?_)
          · exact mw_locals rfl (stay (fun w => by rw [hw] at w; exact absurd w.2.2 (by decide)) 0 0)
          · have e : lsG S a T = ((T.1.1, updN T.1.2.1 a (szS S T.1.2.1 (T.1.2.2.2 a) 3), updN T.1.2.2.1 a (usS S T.1.2.2.1 (T.1.2.2.2 a) 3), T.1.2.2.2), true) := if_pos ⟨t1, t2, hw⟩
            rw [e] at ih
            have esz : szS S z (T.1.2.2.2 a) 3 = szS S T.1.2.1 (T.1.2.2.2 a) 3 := itN_cg fun i hi y => by
              unfold litN
              split
              · rfl
              · rename_i w
                rcases (hS.2 _ q4).2.2 i hi with w' | ⟨f, hf, w'⟩
                · exact absurd w' w
                · rw [w', nI_clamp (by omega), (h1 f hf).1]
            have eus : usS S u (T.1.2.2.2 a) 3 = usS S T.1.2.2.1 (T.1.2.2.2 a) 3 := itN_cg fun i hi y => by
              unfold litN
              split
              · rfl
              · rename_i w
                rcases (hS.2 _ q4).2.2 i hi with w' | ⟨f, hf, w'⟩
                · exact absurd w' w
                · rw [w', nI_clamp (by omega), (h1 f hf).2]
            refine mw_aload_n (i := 0) rfl rfl rfl ?_
            refine mw_aload_n (i := 1) rfl rfl rfl ?_
            refine mw_iload_n (i := 3) rfl rfl rfl ?_
            refine mw_callV_f (c_putT d n (T.1.2.2.2 a) a v c kr z u ba ch S tot hs oh g h hg hG hok hH q4 h72 ha6 q3 q5) rfl ok_X0_putTogether v_X0_102 rfl (by first | rfl | exact rfl | exact h72) (by intro e; cases e) rfl (Nat.le_of_ble_eq_true rfl) rfl (Nat.le_of_ble_eq_true rfl) (by omega) (by omega) (by omega) ?_
            rw [esz, eus]
            refine mw_iconst (v := nI 1) rfl (by decide) ?_
            refine mw_istore_n (i := 2) rfl rfl (Nat.le_of_ble_eq_true rfl) ?_
            first | refine mw_ninc rfl rfl (Nat.le_of_ble_eq_true rfl) ?_ | refine mw_iinc rfl rfl rfl (Nat.le_of_ble_eq_true rfl) ?_
            refine mw_goto rfl ?_
            refine mw_locals rfl (ih _ _ 0 (fun f hf => ?_) (fun f hf hq0 => ?_))
            · show updN z a _ f = updN T.1.2.1 a _ f ∧ updN u a _ f = updN T.1.2.2.1 a _ f
              by_cases ef : f = a
              · subst ef
                rw [updN_same, updN_same, updN_same, updN_same]
                exact ⟨rfl, rfl⟩
              · rw [updN_ne _ _ ef, updN_ne _ _ ef, updN_ne _ _ ef, updN_ne _ _ ef]
                exact h1 f hf
            · have hq0 : updN T.1.2.1 a (szS S T.1.2.1 (T.1.2.2.2 a) 3) f = 0 := hq0
              by_cases ef : f = a
              · subst ef
                rw [updN_same] at hq0
                have := szS_pos S T.1.2.1 (T.1.2.2.2 f) 3
                omega
              · rw [updN_ne _ _ ef] at hq0
                exact h2 f hf hq0
      refine mw_iload_n (i := 3) rfl rfl rfl ?_
      refine mw_sipush (v := nI 216) rfl (by decide) ?_
      refine mw_n_ge rfl (by omega) (by omega) (fun hc => ?_) (fun hc => ?_)
      · omega
      · refine mw_aload_n (i := 0) rfl rfl rfl ?_
        refine mw_getfield rfl f_X0_18 (by first | rfl | exact rfl | exact h72) rfl ?_
        refine mw_iload_n (i := 3) rfl rfl rfl ?_
        refine mw_iald rfl (by first | rfl | exact rfl | exact h72) (by omega) (by omega) ?_
        show MW _ _ _ _ _ _ _ _ (.int (nI (z a)) :: []) _ _ _
        refine mw_z_ne rfl (by omega) (fun hq => ?_) (fun hq => ?_)
        · refine mw_iconst (v := nI 0) rfl (by decide) ?_
          exact wait false (fun w => by cases w) (fun _ w => by rw [← ez] at w; omega)
        · have hz0 : T.1.2.1 a = 0 := by rw [← ez]; exact hq
          obtain ⟨q1, -⟩ := h2 a ha6 hz0
          refine mw_aload_n (i := 0) rfl rfl rfl ?_
          refine mw_getfield rfl f_X0_27 (by first | rfl | exact rfl | exact h72) rfl ?_
          refine mw_iload_n (i := 3) rfl rfl rfl ?_
          refine mw_iald rfl (by first | rfl | exact rfl | exact h72) (by omega) (by omega) ?_
          refine mw_iconst (v := (-1)) rfl (by decide) ?_
          refine mw_icmp_eq rfl (fun hw => ?_) (fun hw => ?_)
          · refine mw_iconst (v := nI 0) rfl (by decide) ?_
            exact wait false (fun w => by cases w) (fun _ w => (q1.mpr w.2).1 hw)
          · refine mw_aload_n (i := 0) rfl rfl rfl ?_
            refine mw_getfield rfl f_X0_9 (by first | rfl | exact rfl | exact h72) rfl ?_
            refine mw_iload_n (i := 3) rfl rfl rfl ?_
            refine mw_iald rfl (by first | rfl | exact rfl | exact h72) (by omega) (by omega) ?_
            refine mw_ldc (v := nI 1000001) rfl c_X0_46 ?_
            show MW _ _ _ _ _ _ _ _ (.int (nI 1000001) :: .int (nI (c a)) :: []) _ _ _
            refine mw_n_ge rfl (by omega) (by omega) (fun hy => ?_) (fun hy => ?_)
            · refine mw_iconst (v := nI 0) rfl (by decide) ?_
              exact wait false (fun w => by cases w) (fun _ w => by have := (q1.mpr w.2).2; omega)
            · refine mw_iconst (v := nI 1) rfl (by decide) ?_
              refine mw_goto rfl ?_
              exact wait true (fun _ => ⟨hz0, q1.mp ⟨hw, hy⟩⟩) (fun w => by cases w)
  exact mw_locals rfl (loop 0 (Nat.zero_le _) z u 0 hz hc)
