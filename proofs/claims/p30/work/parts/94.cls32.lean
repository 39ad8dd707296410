/-! THE CLASS'S CONSTRUCTORS: the row of small sets -/
abbrev SmS : Type := Nat × (Nat → Nat)
def putS (s : SmS) (x : Nat) : SmS := (s.1 + 1, updN s.2 s.1 x)
def smF (i : Nat) (s : SmS) : SmS := putS s (2 ^ i)
def smE (i j : Nat) (s : SmS) : SmS := putS s (2 ^ i ||| 2 ^ (i + 1 + j))
def smG (i j k : Nat) (s : SmS) : SmS := putS s (2 ^ i ||| 2 ^ (i + 1 + j) ||| 2 ^ (i + 1 + j + 1 + k))
def smBr (i : Nat) (s : SmS) : SmS := itN (smE i) s (11 - i)
def smCq (i j : Nat) (s : SmS) : SmS := itN (smG i j) s (12 - (i + 1 + j + 1))
def smCr (i : Nat) (s : SmS) : SmS := itN (smCq i) s (11 - i)
def smA : SmS := itN smF (0, fun _ => 0) 12
def smB : SmS := itN smBr smA 12
/-- the small sets, in the order in which they are tried -/
def smC : SmS := itN smCr smB 12
theorem smF_n (s : SmS) : ∀ n, (itN smF s n).1 = s.1 + n
  | 0 => rfl
  | n + 1 => congrArg (· + 1) (smF_n s n)
theorem smE_n (i : Nat) (s : SmS) : ∀ n, (itN (smE i) s n).1 = s.1 + n
  | 0 => rfl
  | n + 1 => congrArg (· + 1) (smE_n i s n)
theorem smG_n (i j : Nat) (s : SmS) : ∀ n, (itN (smG i j) s n).1 = s.1 + n
  | 0 => rfl
  | n + 1 => congrArg (· + 1) (smG_n i j s n)
def cBn (i : Nat) : Nat := itN (fun a s => s + (11 - a)) 12 i
def cQn (i s j : Nat) : Nat := itN (fun b s => s + (12 - (i + 1 + b + 1))) s j
def cCn (i : Nat) : Nat := itN (fun a s => cQn a s (11 - a)) 78 i
theorem nB : ∀ i, (itN smBr smA i).1 = cBn i
  | 0 => smF_n _ 12
  | i + 1 => by
    show (itN (smE i) (itN smBr smA i) (11 - i)).1 = cBn i + (11 - i)
    rw [smE_n, nB i]
theorem nQ (i : Nat) (s : SmS) : ∀ j, (itN (smCq i) s j).1 = cQn i s.1 j
  | 0 => rfl
  | j + 1 => by
    show (itN (smG i j) (itN (smCq i) s j) (12 - (i + 1 + j + 1))).1 = cQn i s.1 j + (12 - (i + 1 + j + 1))
    rw [smG_n, nQ i s j]
theorem nC : ∀ i, (itN smCr smB i).1 = cCn i
  | 0 => nB 12
  | i + 1 => by
    show (itN (smCq i) (itN smCr smB i) (11 - i)).1 = cQn i (cCn i) (11 - i)
    rw [nQ, nC i]
theorem bB : ∀ i, i < 12 → ∀ j, j < 11 - i → cBn i + j < 298 := by decide +kernel
theorem bC : ∀ i, i < 12 → ∀ j, j < 11 - i → ∀ k, k < 12 - (i + 1 + j + 1) → cQn i (cCn i) j + k < 298 := by decide +kernel
theorem bit_nI : ∀ i, i < 12 → nI 1 <<< (nI i &&& 31) = nI (2 ^ i) := by decide +kernel
abbrev lzS (s : SmS) : MLs := [(81, UO), (82, .inl (.int, 298, .inl (vI s.2))), (83, .inl (.long, 1080, .inr (.inl (fun _ => 0))))]
theorem c_X8_init (d : Nat) (h : Nat → MC) (hO : h 81 = .inr (8, [.null, .null])) : Fn M_X8_init (d + 1) 2 1378 [.ref 81] h 82 none (mov (lzS smC) h) := by
  refine Fn.of fun post hp => ?_
  refine mw_over [(81, .inr (8, [.null, .null]))] (mov_self (by simp [hO])) ?_
  refine mw_aload_n (i := 0) rfl rfl rfl ?_
  refine mw_objInit rfl v_X8_3 (by omega) (Nat.le_of_ble_eq_true rfl) ?_
  refine mw_aload_n (i := 0) rfl rfl rfl ?_
  refine mw_sipush (v := nI 298) rfl (by decide) ?_
  refine mw_newarray (ti := 0) (x := .inl (fun _ => 0)) rfl rfl rfl ac_int (fun _ => rfl) (fun _ => rfl) (by omega) (by omega) (by omega) ?_
  first | rw [hset_mov] | skip
  refine mw_putfieldF rfl f_X8_9 rfl rfl (by first | rfl | exact rfl) (Nat.le_of_ble_eq_true rfl) (fun _ => rfl) (fun _ => rfl) ?_
  first | rw [hset_mov] | skip
  refine mw_aload_n (i := 0) rfl rfl rfl ?_
  refine mw_sipush (v := nI 1080) rfl (by decide) ?_
  refine mw_newarray (ti := 2) (x := .inr (.inl (fun _ => 0))) rfl rfl rfl ac_long (fun _ => rfl) (fun _ => rfl) (by omega) (by omega) (by omega) ?_
  first | rw [hset_mov] | skip
  refine mw_putfieldF rfl f_X8_15 rfl rfl (by first | rfl | exact rfl) (Nat.le_of_ble_eq_true rfl) (fun _ => rfl) (fun _ => rfl) ?_
  first | rw [hset_mov] | skip
  have lC : ∀ i, i ≤ 12 → MW M_X8_init (d + 1) 2 1378 82 post 98 [(0, .ref 81), (1, .int (nI (itN smCr smB i).1)), (2, .int (nI i))] [] (mov (lzS (itN smCr smB i)) h) 84 1378 := by
    refine loop_up 12 ?_ ?_
    · refine mw_iload_n (i := 2) rfl rfl rfl ?_
      refine mw_bipush (v := nI 12) rfl (by decide) ?_
      refine mw_n_ge rfl (by omega) (by omega) (fun q => ?_) (fun q => ?_)
      · exact mw_return rfl rfl rfl (Nat.le_refl _) (hp)
      · omega
    · intro i hi ih
      have eA : itN smCr smB (i + 1) = itN (smCq i) (itN smCr smB i) (11 - i) := rfl
      rw [eA] at ih
      have hn := nC i
      have hb := bC i hi
      generalize itN smCr smB i = s at ih hn ⊢
      refine mw_iload_n (i := 2) rfl rfl rfl ?_
      refine mw_bipush (v := nI 12) rfl (by decide) ?_
      refine mw_n_ge rfl (by omega) (by omega) (fun q => ?_) (fun q => ?_)
      · omega
      · refine mw_iload_n (i := 2) rfl rfl rfl ?_
        refine mw_iconst (v := nI 1) rfl (by decide) ?_
        first | refine mw_nadd rfl ?_ | refine mw_iadd rfl ?_
        refine mw_istore_n (i := 3) rfl rfl (Nat.le_of_ble_eq_true rfl) ?_
        have inner : ∀ j, j ≤ 11 - i → MW M_X8_init (d + 1) 2 1378 82 post 108 [(0, .ref 81), (1, .int (nI (itN (smCq i) s j).1)), (2, .int (nI i)), (3, .int (nI (i + 1 + j)))] [] (mov (lzS (itN (smCq i) s j)) h) 84 1378 := by
          refine loop_up (11 - i) ?_ ?_
          · refine mw_iload_n (i := 3) rfl rfl rfl ?_
            refine mw_bipush (v := nI 12) rfl (by decide) ?_
            refine mw_n_ge rfl (by omega) (by omega) (fun q2 => ?_) (fun q2 => ?_)
            · first | refine mw_ninc rfl rfl (Nat.le_of_ble_eq_true rfl) ?_ | refine mw_iinc rfl rfl rfl (Nat.le_of_ble_eq_true rfl) ?_
              refine mw_goto rfl ?_
              exact mw_locals rfl ih
            · omega
          · intro j hj ih2
            have eB : itN (smCq i) s (j + 1) = itN (smG i j) (itN (smCq i) s j) (12 - (i + 1 + j + 1)) := rfl
            rw [eB] at ih2
            have hn2 := nQ i s j
            rw [hn] at hn2
            have hb2 := hb j hj
            generalize itN (smCq i) s j = u at ih2 hn2 ⊢
            refine mw_iload_n (i := 3) rfl rfl rfl ?_
            refine mw_bipush (v := nI 12) rfl (by decide) ?_
            refine mw_n_ge rfl (by omega) (by omega) (fun q2 => ?_) (fun q2 => ?_)
            · omega
            · refine mw_iload_n (i := 3) rfl rfl rfl ?_
              refine mw_iconst (v := nI 1) rfl (by decide) ?_
              first | refine mw_nadd rfl ?_ | refine mw_iadd rfl ?_
              refine mw_istore rfl (Nat.le_of_ble_eq_true rfl) ?_
              have inn : ∀ k, k ≤ 12 - (i + 1 + j + 1) → MW M_X8_init (d + 1) 2 1378 82 post 119 [(0, .ref 81), (1, .int (nI (itN (smG i j) u k).1)), (2, .int (nI i)), (3, .int (nI (i + 1 + j))), (4, .int (nI (i + 1 + j + 1 + k)))] [] (mov (lzS (itN (smG i j) u k)) h) 84 1378 := by
                refine loop_up (12 - (i + 1 + j + 1)) ?_ ?_
                · refine mw_iload rfl rfl ?_
                  refine mw_bipush (v := nI 12) rfl (by decide) ?_
                  refine mw_n_ge rfl (by omega) (by omega) (fun q3 => ?_) (fun q3 => ?_)
                  · first | refine mw_ninc rfl rfl (Nat.le_of_ble_eq_true rfl) ?_ | refine mw_iinc rfl rfl rfl (Nat.le_of_ble_eq_true rfl) ?_
                    refine mw_goto rfl ?_
                    exact mw_locals rfl ih2
                  · omega
                · intro k hk ih3
                  have eC : itN (smG i j) u (k + 1) = putS (itN (smG i j) u k) (2 ^ i ||| 2 ^ (i + 1 + j) ||| 2 ^ (i + 1 + j + 1 + k)) := rfl
                  rw [eC] at ih3
                  have hn3 := smG_n i j u k
                  rw [hn2] at hn3
                  have hb3 := hb2 k hk
                  generalize itN (smG i j) u k = w at ih3 hn3 ⊢
                  refine mw_iload rfl rfl ?_
                  refine mw_bipush (v := nI 12) rfl (by decide) ?_
                  refine mw_n_ge rfl (by omega) (by omega) (fun q3 => ?_) (fun q3 => ?_)
                  · omega
                  · refine mw_aload_n (i := 0) rfl rfl rfl ?_
                    refine mw_getfield rfl f_X8_9 (by first | rfl | exact rfl) rfl ?_
                    refine mw_iload_n (i := 1) rfl rfl rfl ?_
                    first | refine mw_ninc rfl rfl (Nat.le_of_ble_eq_true rfl) ?_ | refine mw_iinc rfl rfl rfl (Nat.le_of_ble_eq_true rfl) ?_
                    refine mw_iconst (v := nI 1) rfl (by decide) ?_
                    refine mw_iload_n (i := 2) rfl rfl rfl ?_
                    refine mw_ishl rfl ?_
                    rw [bit_nI i hi]
                    refine mw_iconst (v := nI 1) rfl (by decide) ?_
                    refine mw_iload_n (i := 3) rfl rfl rfl ?_
                    refine mw_ishl rfl ?_
                    rw [bit_nI (i + 1 + j) (by omega)]
                    first | refine mw_nior rfl ?_ | refine mw_ior rfl ?_
                    refine mw_iconst (v := nI 1) rfl (by decide) ?_
                    refine mw_iload rfl rfl ?_
                    refine mw_ishl rfl ?_
                    rw [bit_nI (i + 1 + j + 1 + k) (by omega)]
                    first | refine mw_nior rfl ?_ | refine mw_ior rfl ?_
                    refine mw_iast_m rfl (by first | rfl | exact rfl) (by omega) (by omega) ?_
                    first | rw [vI_upd] | rw [vI_updv] | skip
                    first | refine mw_ninc rfl rfl (Nat.le_of_ble_eq_true rfl) ?_ | refine mw_iinc rfl rfl rfl (Nat.le_of_ble_eq_true rfl) ?_
                    refine mw_goto rfl ?_
                    exact mw_locals rfl ih3
              exact mw_locals rfl (inn 0 (Nat.zero_le _))
        exact mw_locals rfl (inner 0 (Nat.zero_le _))
  have lB : ∀ i, i ≤ 12 → MW M_X8_init (d + 1) 2 1378 82 post 52 [(0, .ref 81), (1, .int (nI (itN smBr smA i).1)), (2, .int (nI i))] [] (mov (lzS (itN smBr smA i)) h) 84 1378 := by
    refine loop_up 12 ?_ ?_
    · refine mw_iload_n (i := 2) rfl rfl rfl ?_
      refine mw_bipush (v := nI 12) rfl (by decide) ?_
      refine mw_n_ge rfl (by omega) (by omega) (fun q => ?_) (fun q => ?_)
      · refine mw_iconst (v := nI 0) rfl (by decide) ?_
        refine mw_istore_n (i := 2) rfl rfl (Nat.le_of_ble_eq_true rfl) ?_
        exact mw_locals rfl (lC 0 (Nat.zero_le _))
      · omega
    · intro i hi ih
      have eA : itN smBr smA (i + 1) = itN (smE i) (itN smBr smA i) (11 - i) := rfl
      rw [eA] at ih
      have hn := nB i
      have hb := bB i hi
      generalize itN smBr smA i = s at ih hn ⊢
      refine mw_iload_n (i := 2) rfl rfl rfl ?_
      refine mw_bipush (v := nI 12) rfl (by decide) ?_
      refine mw_n_ge rfl (by omega) (by omega) (fun q => ?_) (fun q => ?_)
      · omega
      · refine mw_iload_n (i := 2) rfl rfl rfl ?_
        refine mw_iconst (v := nI 1) rfl (by decide) ?_
        first | refine mw_nadd rfl ?_ | refine mw_iadd rfl ?_
        refine mw_istore_n (i := 3) rfl rfl (Nat.le_of_ble_eq_true rfl) ?_
        have inner : ∀ j, j ≤ 11 - i → MW M_X8_init (d + 1) 2 1378 82 post 62 [(0, .ref 81), (1, .int (nI (itN (smE i) s j).1)), (2, .int (nI i)), (3, .int (nI (i + 1 + j)))] [] (mov (lzS (itN (smE i) s j)) h) 84 1378 := by
          refine loop_up (11 - i) ?_ ?_
          · refine mw_iload_n (i := 3) rfl rfl rfl ?_
            refine mw_bipush (v := nI 12) rfl (by decide) ?_
            refine mw_n_ge rfl (by omega) (by omega) (fun q2 => ?_) (fun q2 => ?_)
            · first | refine mw_ninc rfl rfl (Nat.le_of_ble_eq_true rfl) ?_ | refine mw_iinc rfl rfl rfl (Nat.le_of_ble_eq_true rfl) ?_
              refine mw_goto rfl ?_
              exact mw_locals rfl ih
            · omega
          · intro j hj ih2
            have eB : itN (smE i) s (j + 1) = putS (itN (smE i) s j) (2 ^ i ||| 2 ^ (i + 1 + j)) := rfl
            rw [eB] at ih2
            have hn2 := smE_n i s j
            rw [hn] at hn2
            have hb2 := hb j hj
            generalize itN (smE i) s j = u at ih2 hn2 ⊢
            refine mw_iload_n (i := 3) rfl rfl rfl ?_
            refine mw_bipush (v := nI 12) rfl (by decide) ?_
            refine mw_n_ge rfl (by omega) (by omega) (fun q2 => ?_) (fun q2 => ?_)
            · omega
            · refine mw_aload_n (i := 0) rfl rfl rfl ?_
              refine mw_getfield rfl f_X8_9 (by first | rfl | exact rfl) rfl ?_
              refine mw_iload_n (i := 1) rfl rfl rfl ?_
              first | refine mw_ninc rfl rfl (Nat.le_of_ble_eq_true rfl) ?_ | refine mw_iinc rfl rfl rfl (Nat.le_of_ble_eq_true rfl) ?_
              refine mw_iconst (v := nI 1) rfl (by decide) ?_
              refine mw_iload_n (i := 2) rfl rfl rfl ?_
              refine mw_ishl rfl ?_
              rw [bit_nI i hi]
              refine mw_iconst (v := nI 1) rfl (by decide) ?_
              refine mw_iload_n (i := 3) rfl rfl rfl ?_
              refine mw_ishl rfl ?_
              rw [bit_nI (i + 1 + j) (by omega)]
              first | refine mw_nior rfl ?_ | refine mw_ior rfl ?_
              refine mw_iast_m rfl (by first | rfl | exact rfl) (by omega) (by omega) ?_
              first | rw [vI_upd] | rw [vI_updv] | skip
              first | refine mw_ninc rfl rfl (Nat.le_of_ble_eq_true rfl) ?_ | refine mw_iinc rfl rfl rfl (Nat.le_of_ble_eq_true rfl) ?_
              refine mw_goto rfl ?_
              exact mw_locals rfl ih2
        exact mw_locals rfl (inner 0 (Nat.zero_le _))
  have lA : ∀ i, i ≤ 12 → MW M_X8_init (d + 1) 2 1378 82 post 26 [(0, .ref 81), (1, .int (nI (itN smF (0, fun _ => 0) i).1)), (2, .int (nI i))] [] (mov (lzS (itN smF (0, fun _ => 0) i)) h) 84 1378 := by
    refine loop_up 12 ?_ ?_
    · refine mw_iload_n (i := 2) rfl rfl rfl ?_
      refine mw_bipush (v := nI 12) rfl (by decide) ?_
      refine mw_n_ge rfl (by omega) (by omega) (fun q => ?_) (fun q => ?_)
      · refine mw_iconst (v := nI 0) rfl (by decide) ?_
        refine mw_istore_n (i := 2) rfl rfl (Nat.le_of_ble_eq_true rfl) ?_
        exact mw_locals rfl (lB 0 (Nat.zero_le _))
      · omega
    · intro i hi ih
      have eA : itN smF (0, fun _ => 0) (i + 1) = putS (itN smF (0, fun _ => 0) i) (2 ^ i) := rfl
      rw [eA] at ih
      have hn := smF_n (0, fun _ => 0) i
      generalize itN smF (0, fun _ => 0) i = s at ih hn ⊢
      have hn : s.1 = 0 + i := hn
      refine mw_iload_n (i := 2) rfl rfl rfl ?_
      refine mw_bipush (v := nI 12) rfl (by decide) ?_
      refine mw_n_ge rfl (by omega) (by omega) (fun q => ?_) (fun q => ?_)
      · omega
      · refine mw_aload_n (i := 0) rfl rfl rfl ?_
        refine mw_getfield rfl f_X8_9 (by first | rfl | exact rfl) rfl ?_
        refine mw_iload_n (i := 1) rfl rfl rfl ?_
        first | refine mw_ninc rfl rfl (Nat.le_of_ble_eq_true rfl) ?_ | refine mw_iinc rfl rfl rfl (Nat.le_of_ble_eq_true rfl) ?_
        refine mw_iconst (v := nI 1) rfl (by decide) ?_
        refine mw_iload_n (i := 2) rfl rfl rfl ?_
        refine mw_ishl rfl ?_
        rw [bit_nI i hi]
        refine mw_iast_m rfl (by first | rfl | exact rfl) (by omega) (by omega) ?_
        first | rw [vI_upd] | rw [vI_updv] | skip
        first | refine mw_ninc rfl rfl (Nat.le_of_ble_eq_true rfl) ?_ | refine mw_iinc rfl rfl rfl (Nat.le_of_ble_eq_true rfl) ?_
        refine mw_goto rfl ?_
        exact mw_locals rfl ih
  refine mw_iconst (v := nI 0) rfl (by decide) ?_
  refine mw_istore_n (i := 1) rfl rfl (Nat.le_of_ble_eq_true rfl) ?_
  refine mw_iconst (v := nI 0) rfl (by decide) ?_
  refine mw_istore_n (i := 2) rfl rfl (Nat.le_of_ble_eq_true rfl) ?_
  exact mw_locals rfl (lA 0 (Nat.zero_le _))
