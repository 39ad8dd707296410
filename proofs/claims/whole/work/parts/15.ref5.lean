theorem sh_amt : ∀ x, x < 31 → ((nI x &&& 31).toBitVec.smod 32).toNat = x := by decide +kernel
theorem shlN {a k : Nat} (hk : k < 31) (h : a * 2 ^ k < 2 ^ 32) : nI a <<< (nI k &&& 31) = nI (a * 2 ^ k) := pk_shlN _ k (sh_amt k hk) h
theorem bitN {U x : Nat} (hU : U < 2147483648) (hx : x < 31) : (nI U >>> (nI x &&& 31)) &&& nI 1 = nI (U / 2 ^ x % 2) := by
  rw [pk_shrN (by omega) _ x (sh_amt x hx)]
  have h1 : U / 2 ^ x ≤ U := Nat.div_le_self _ _
  exact pk_andN (by omega) 1 rfl
def orM (f : Nat → Nat) : Nat → Nat
  | 0 => 0
  | k + 1 => orM f k ||| f k
def tb (t : Nat) : Nat := if 5 < t then 2 ^ (t - 6) else 0
def rowB (v : Nat → Nat) (r a : Nat) : Nat := tb (v (45 + 18 * r + 2 + 4 * a + 1)) ||| tb (v (45 + 18 * r + 2 + 4 * a + 2))
theorem tb_lt {t : Nat} (h : t < 9) : tb t < 8 := by
  unfold tb
  split
  · rcases (show t = 6 ∨ t = 7 ∨ t = 8 by omega) with rfl | rfl | rfl <;> decide
  · decide
theorem orM_lt {f : Nat → Nat} : ∀ n, (∀ k, k < n → f k < 8) → orM f n < 8
  | 0, _ => by show 0 < 8; omega
  | n + 1, h => Nat.or_lt_two_pow (n := 3) (orM_lt n (fun k hk => h k (by omega))) (h n (by omega))
/-- which variables a rule has, as bits -/
def varB (v : Nat → Nat) (r : Nat) : Nat := orM (rowB v r) (v (45 + 18 * r + 1) + 1)
def bndU (b : Nat → Nat) (code : Nat) : Nat → Nat := updN (updN (updN b 0 (code / 36)) 1 (code / 6 % 6)) 2 (code % 6)
def bLim (v : Nat → Nat) (r x : Nat) : Nat := if varB v r / 2 ^ x % 2 = 1 then v 0 else 1
def bOk (v : Nat → Nat) (r code : Nat) : Bool := andN (fun x => decide (bndU (fun _ => 0) code x < bLim v r x)) 3
theorem bndU_at (b : Nat → Nat) (code : Nat) {x : Nat} (hx : x < 3) : bndU b code x = bndU (fun _ => 0) code x := by
  rcases (show x = 0 ∨ x = 1 ∨ x = 2 by omega) with rfl | rfl | rfl <;> rfl
theorem bndU_lt (b : Nat → Nat) {code : Nat} (hc : code < 216) {x : Nat} (hx : x < 3) : bndU b code x < 6 := by
  rcases (show x = 0 ∨ x = 1 ∨ x = 2 by omega) with rfl | rfl | rfl
  · show code / 36 < 6; omega
  · show code / 6 % 6 < 6; omega
  · show code % 6 < 6; omega
theorem c_isBinding (d n : Nat) (r code : Nat) (w : Nat → Int32) (v b : Nat → Nat) (h : Nat → MC) (hO : h 178 = RO w) (hv : h 179 = .inl (.int, 189, .inl (vI v))) (hb : h 185 = .inl (.int, 3, .inl (vI b))) (hok : OkN v) (hr : r < v 2) (hc : code < 216) : Fn M_X10_isBinding (d + 1) 0 0 [.ref 178, .int (nI r), .int (nI code)] h n (some (.int (bI (bOk v r code)))) (mov [(185, .inl (.int, 3, .inl (vI (bndU b code))))] h) := by
  obtain ⟨-, -, hl1, hl3, hat⟩ := hok.2.2.2.2.2.2 r hr
  have hr8 := hok.2.2.2.1
  have hn6 := hok.2.1
  refine Fn.of fun post hp => ?_
  refine mw_over [(185, .inl (.int, 3, .inl (vI b)))] (mov_self (by simp [hb])) ?_
  refine mw_aload_n (i := 0) rfl rfl rfl ?_
  refine mw_getfield rfl f_X10_29 (by first | rfl | exact hO | exact hv | exact hb) rfl ?_
  refine mw_iconst (v := nI 0) rfl (by decide) ?_
  refine mw_iload_n (i := 2) rfl rfl rfl ?_
  refine mw_bipush (v := nI 36) rfl (by decide) ?_
  refine mw_ndiv rfl (by omega) (by omega) (by omega) ?_
  refine mw_iast_m rfl (by first | rfl | exact hO | exact hv | exact hb) (by omega) (by omega) ?_
  first | rw [vI_upd] | rw [vI_updv] | skip
  refine mw_aload_n (i := 0) rfl rfl rfl ?_
  refine mw_getfield rfl f_X10_29 (by first | rfl | exact hO | exact hv | exact hb) rfl ?_
  refine mw_iconst (v := nI 1) rfl (by decide) ?_
  refine mw_iload_n (i := 2) rfl rfl rfl ?_
  refine mw_bipush (v := nI 6) rfl (by decide) ?_
  refine mw_ndiv rfl (by omega) (by omega) (by omega) ?_
  refine mw_bipush (v := nI 6) rfl (by decide) ?_
  refine mw_nrem rfl (by omega) (by omega) (by omega) ?_
  refine mw_iast_m rfl (by first | rfl | exact hO | exact hv | exact hb) (by omega) (by omega) ?_
  first | rw [vI_upd] | rw [vI_updv] | skip
  refine mw_aload_n (i := 0) rfl rfl rfl ?_
  refine mw_getfield rfl f_X10_29 (by first | rfl | exact hO | exact hv | exact hb) rfl ?_
  refine mw_iconst (v := nI 2) rfl (by decide) ?_
  refine mw_iload_n (i := 2) rfl rfl rfl ?_
  refine mw_bipush (v := nI 6) rfl (by decide) ?_
  refine mw_nrem rfl (by omega) (by omega) (by omega) ?_
  refine mw_iast_m rfl (by first | rfl | exact hO | exact hv | exact hb) (by omega) (by omega) ?_
  first | rw [vI_upd] | rw [vI_updv] | skip
  refine mw_iconst (v := nI 0) rfl (by decide) ?_
  refine mw_istore_n (i := 3) rfl rfl (Nat.le_of_ble_eq_true rfl) ?_
  refine mw_iconst (v := nI 0) rfl (by decide) ?_
  refine mw_istore rfl (Nat.le_of_ble_eq_true rfl) ?_
  have hrow : ∀ a, a < v (45 + 18 * r + 1) + 1 → rowB v r a < 8 := by
    intro a ha
    obtain ⟨-, h2, h3, -⟩ := hat a (by omega)
    exact Nat.or_lt_two_pow (n := 3) (tb_lt h2) (tb_lt h3)
  have hU : ∀ a, a ≤ v (45 + 18 * r + 1) + 1 → orM (rowB v r) a < 8 := fun a ha => orM_lt a (fun k hk => hrow k (by omega))
  have loop2 : ∀ x, x ≤ 3 → MW M_X10_isBinding (d + 1) 0 0 n post 120 [(0, .ref 178), (1, .int (nI r)), (2, .int (nI code)), (3, .int (nI (varB v r))), (4, .int (bI (andN (fun x => decide (bndU (fun _ => 0) code x < bLim v r x)) x))), (5, .int (nI x))] [] (mov [(185, .inl (.int, 3, .inl (vI (bndU b code))))] h) n 0 := by
    refine loop_up 3 ?_ ?_
    · refine mw_iload rfl rfl ?_
      refine mw_iconst (v := nI 3) rfl (by decide) ?_
      refine mw_n_ge rfl (by omega) (by omega) (fun hc => ?_) (fun hc => ?_)
      · refine mw_iload rfl rfl ?_
        first | exact mw_ireturn rfl rfl (bI_nar _) rfl (Nat.le_refl _) (hp) | exact mw_ireturn rfl rfl rfl rfl (Nat.le_refl _) (hp)
      · omega
    · intro x hx ih
      have hbx := bndU_lt b hc hx
      have hUv := hU _ (Nat.le_refl _)
      refine mw_iload rfl rfl ?_
      refine mw_iconst (v := nI 3) rfl (by decide) ?_
      refine mw_n_ge rfl (by omega) (by omega) (fun q => ?_) (fun q => ?_)
      · omega
      · refine mw_iload rfl rfl ?_
        refine mw_b_eq rfl (fun hi => ?_) (fun hi => ?_)
        · refine mw_iconst (v := nI 0) rfl (by decide) ?_
          refine mw_istore rfl (Nat.le_of_ble_eq_true rfl) ?_
          first | refine mw_ninc rfl rfl (Nat.le_of_ble_eq_true rfl) ?_ | refine mw_iinc rfl rfl rfl (Nat.le_of_ble_eq_true rfl) ?_
          refine mw_goto rfl ?_
          refine mw_locals ?_ ih
          rw [show andN (fun x => decide (bndU (fun _ => 0) code x < bLim v r x)) (x + 1) = false by simp [andN, hi]]
          rfl
        · refine mw_aload_n (i := 0) rfl rfl rfl ?_
          refine mw_getfield rfl f_X10_29 (by first | rfl | exact hO | exact hv | exact hb) rfl ?_
          refine mw_iload rfl rfl ?_
          refine mw_iald rfl (by first | rfl | exact hO | exact hv | exact hb) (by omega) (by omega) ?_
          refine mw_iload_n (i := 3) rfl rfl rfl ?_
          refine mw_iload rfl rfl ?_
          refine mw_ishr rfl ?_
          refine mw_iconst (v := nI 1) rfl (by decide) ?_
          have hbit : (nI (varB v r) >>> (nI x &&& 31)) &&& nI 1 = nI (varB v r / 2 ^ x % 2) := bitN (by unfold varB; omega) (by omega)
          refine mw_iand rfl ?_
          rw [hbit]
          refine mw_iconst (v := nI 1) rfl (by decide) ?_
          have hm2 : varB v r / 2 ^ x % 2 < 2 := Nat.mod_lt _ (by omega)
          refine mw_n_ne rfl (by omega) (by omega) (fun hz => ?_) (fun hz => ?_)
          · refine mw_iconst (v := nI 1) rfl (by decide) ?_
            refine mw_n_ge rfl (by omega) (by omega) (fun hlt => ?_) (fun hlt => ?_)
            · refine mw_iconst (v := nI 0) rfl (by decide) ?_
              refine mw_istore rfl (Nat.le_of_ble_eq_true rfl) ?_
              first | refine mw_ninc rfl rfl (Nat.le_of_ble_eq_true rfl) ?_ | refine mw_iinc rfl rfl rfl (Nat.le_of_ble_eq_true rfl) ?_
              refine mw_goto rfl ?_
              refine mw_locals ?_ ih
              rw [show andN (fun x => decide (bndU (fun _ => 0) code x < bLim v r x)) (x + 1) = false by
                rw [bndU_at b code hx] at hlt
                simp only [andN, hi, Bool.true_and]
                unfold bLim
                rw [if_neg hz]
                exact decide_eq_false (by omega)]
              rfl
            · refine mw_iconst (v := nI 1) rfl (by decide) ?_
              refine mw_goto rfl ?_
              refine mw_istore rfl (Nat.le_of_ble_eq_true rfl) ?_
              first | refine mw_ninc rfl rfl (Nat.le_of_ble_eq_true rfl) ?_ | refine mw_iinc rfl rfl rfl (Nat.le_of_ble_eq_true rfl) ?_
              refine mw_goto rfl ?_
              refine mw_locals ?_ ih
              rw [show andN (fun x => decide (bndU (fun _ => 0) code x < bLim v r x)) (x + 1) = true by
                rw [bndU_at b code hx] at hlt
                simp only [andN, hi, Bool.true_and]
                unfold bLim
                rw [if_neg hz]
                exact decide_eq_true (by omega)]
              rfl
          · refine mw_aload_n (i := 0) rfl rfl rfl ?_
            refine mw_getfield rfl f_X10_7 (by first | rfl | exact hO | exact hv | exact hb) rfl ?_
            refine mw_iconst (v := nI 0) rfl (by decide) ?_
            refine mw_iald rfl (by first | rfl | exact hO | exact hv | exact hb) (by omega) (by omega) ?_
            refine mw_goto rfl ?_
            refine mw_n_ge rfl (by omega) (by omega) (fun hlt => ?_) (fun hlt => ?_)
            · refine mw_iconst (v := nI 0) rfl (by decide) ?_
              refine mw_istore rfl (Nat.le_of_ble_eq_true rfl) ?_
              first | refine mw_ninc rfl rfl (Nat.le_of_ble_eq_true rfl) ?_ | refine mw_iinc rfl rfl rfl (Nat.le_of_ble_eq_true rfl) ?_
              refine mw_goto rfl ?_
              refine mw_locals ?_ ih
              rw [show andN (fun x => decide (bndU (fun _ => 0) code x < bLim v r x)) (x + 1) = false by
                rw [bndU_at b code hx] at hlt
                simp only [andN, hi, Bool.true_and]
                unfold bLim
                rw [if_pos hz]
                exact decide_eq_false (by omega)]
              rfl
            · refine mw_iconst (v := nI 1) rfl (by decide) ?_
              refine mw_goto rfl ?_
              refine mw_istore rfl (Nat.le_of_ble_eq_true rfl) ?_
              first | refine mw_ninc rfl rfl (Nat.le_of_ble_eq_true rfl) ?_ | refine mw_iinc rfl rfl rfl (Nat.le_of_ble_eq_true rfl) ?_
              refine mw_goto rfl ?_
              refine mw_locals ?_ ih
              rw [show andN (fun x => decide (bndU (fun _ => 0) code x < bLim v r x)) (x + 1) = true by
                rw [bndU_at b code hx] at hlt
                simp only [andN, hi, Bool.true_and]
                unfold bLim
                rw [if_pos hz]
                exact decide_eq_true (by omega)]
              rfl
  have loop : ∀ a, a ≤ v (45 + 18 * r + 1) + 1 → MW M_X10_isBinding (d + 1) 0 0 n post 38 [(0, .ref 178), (1, .int (nI r)), (2, .int (nI code)), (3, .int (nI (orM (rowB v r) a))), (4, .int (nI a))] [] (mov [(185, .inl (.int, 3, .inl (vI (bndU b code))))] h) n 0 := by
    refine loop_up (v (45 + 18 * r + 1) + 1) ?_ ?_
    · refine mw_iload rfl rfl ?_
      refine mw_aload_n (i := 0) rfl rfl rfl ?_
      refine mw_getfield rfl f_X10_7 (by first | rfl | exact hO | exact hv | exact hb) rfl ?_
      refine mw_bipush (v := nI 45) rfl (by decide) ?_
      refine mw_bipush (v := nI 18) rfl (by decide) ?_
      refine mw_iload_n (i := 1) rfl rfl rfl ?_
      first | refine mw_nmul rfl ?_ | refine mw_imul rfl ?_
      first | refine mw_nadd rfl ?_ | refine mw_iadd rfl ?_
      refine mw_iconst (v := nI 1) rfl (by decide) ?_
      first | refine mw_nadd rfl ?_ | refine mw_iadd rfl ?_
      refine mw_iald rfl (by first | rfl | exact hO | exact hv | exact hb) (by omega) (by omega) ?_
      refine mw_n_gt rfl (by omega) (by omega) (fun hc => ?_) (fun hc => ?_)
      · refine mw_iconst (v := nI 1) rfl (by decide) ?_
        refine mw_istore rfl (Nat.le_of_ble_eq_true rfl) ?_
        refine mw_iconst (v := nI 0) rfl (by decide) ?_
        refine mw_istore rfl (Nat.le_of_ble_eq_true rfl) ?_
        exact mw_locals rfl (loop2 0 (by omega))
      · omega
    · intro a ha ih
      obtain ⟨-, h2, h3, -⟩ := hat a (by omega)
      have st : ∀ U k t, (k = 1 ∨ k = 2) → v (45 + 18 * r + 2 + 4 * a + k) = t → t < 9 → MW M_X10_isBinding (d + 1) 0 0 n post 60 [(0, .ref 178), (1, .int (nI r)), (2, .int (nI code)), (3, .int (nI (U ||| tb t))), (4, .int (nI a)), (5, .int (nI (k + 1)))] [] (mov [(185, .inl (.int, 3, .inl (vI (bndU b code))))] h) n 0 → MW M_X10_isBinding (d + 1) 0 0 n post 60 [(0, .ref 178), (1, .int (nI r)), (2, .int (nI code)), (3, .int (nI U)), (4, .int (nI a)), (5, .int (nI k))] [] (mov [(185, .inl (.int, 3, .inl (vI (bndU b code))))] h) n 0 := by
        intro U k t hk ht ht9 kk
        have hk3 : k < 3 := by omega
        refine mw_iload rfl rfl ?_
        refine mw_iconst (v := nI 3) rfl (by decide) ?_
        refine mw_n_ge rfl (by omega) (by omega) (fun q => ?_) (fun q => ?_)
        · omega
        · refine mw_aload_n (i := 0) rfl rfl rfl ?_
          refine mw_getfield rfl f_X10_7 (by first | rfl | exact hO | exact hv | exact hb) rfl ?_
          refine mw_iload_n (i := 1) rfl rfl rfl ?_
          refine mw_iload rfl rfl ?_
          refine mw_callS_f (c_atomAt d n r a _) rfl ok_X10_atomAt v_X10_88 rfl (Nat.le_of_ble_eq_true rfl) rfl (Nat.le_of_ble_eq_true rfl) (by omega) (by omega) (by omega) ?_
          refine mw_iload rfl rfl ?_
          refine mw_nadd rfl ?_
          refine mw_iald_v (v := nI t) rfl hv (by omega) (by omega) (congrArg nI ht) ?_
          refine mw_istore rfl (Nat.le_of_ble_eq_true rfl) ?_
          refine mw_iload_n (i := 3) rfl rfl rfl ?_
          refine mw_iload rfl rfl ?_
          refine mw_iconst (v := nI 5) rfl (by decide) ?_
          refine mw_n_le rfl (by omega) (by omega) (fun ht5 => ?_) (fun ht5 => ?_)
          · refine mw_iconst (v := nI 0) rfl (by decide) ?_
            first | refine mw_nior rfl ?_ | refine mw_ior rfl ?_
            refine mw_istore_n (i := 3) rfl rfl (Nat.le_of_ble_eq_true rfl) ?_
            first | refine mw_ninc rfl rfl (Nat.le_of_ble_eq_true rfl) ?_ | refine mw_iinc rfl rfl rfl (Nat.le_of_ble_eq_true rfl) ?_
            refine mw_goto rfl ?_
            refine mw_locals ?_ kk
            rw [show tb t = 0 by unfold tb; rw [if_neg (by omega)]]
            rfl
          · refine mw_iconst (v := nI 1) rfl (by decide) ?_
            refine mw_iload rfl rfl ?_
            refine mw_bipush (v := nI 6) rfl (by decide) ?_
            first | refine mw_nsub rfl (by omega) ?_ | refine mw_isub rfl ?_
            refine mw_ishl rfl ?_
            rw [shlN (a := 1) (k := t - 6) (by omega) (by rcases (show t = 6 ∨ t = 7 ∨ t = 8 by omega) with rfl | rfl | rfl <;> decide), Nat.one_mul]
            refine mw_goto rfl ?_
            first | refine mw_nior rfl ?_ | refine mw_ior rfl ?_
            refine mw_istore_n (i := 3) rfl rfl (Nat.le_of_ble_eq_true rfl) ?_
            first | refine mw_ninc rfl rfl (Nat.le_of_ble_eq_true rfl) ?_ | refine mw_iinc rfl rfl rfl (Nat.le_of_ble_eq_true rfl) ?_
            refine mw_goto rfl ?_
            refine mw_locals ?_ kk
            rw [show tb t = 2 ^ (t - 6) by unfold tb; rw [if_pos (by omega)]]
            rfl
      refine mw_iload rfl rfl ?_
      refine mw_aload_n (i := 0) rfl rfl rfl ?_
      refine mw_getfield rfl f_X10_7 (by first | rfl | exact hO | exact hv | exact hb) rfl ?_
      refine mw_bipush (v := nI 45) rfl (by decide) ?_
      refine mw_bipush (v := nI 18) rfl (by decide) ?_
      refine mw_iload_n (i := 1) rfl rfl rfl ?_
      first | refine mw_nmul rfl ?_ | refine mw_imul rfl ?_
      first | refine mw_nadd rfl ?_ | refine mw_iadd rfl ?_
      refine mw_iconst (v := nI 1) rfl (by decide) ?_
      first | refine mw_nadd rfl ?_ | refine mw_iadd rfl ?_
      refine mw_iald rfl (by first | rfl | exact hO | exact hv | exact hb) (by omega) (by omega) ?_
      refine mw_n_gt rfl (by omega) (by omega) (fun hc => ?_) (fun hc => ?_)
      · omega
      · refine mw_iconst (v := nI 1) rfl (by decide) ?_
        refine mw_istore rfl (Nat.le_of_ble_eq_true rfl) ?_
        refine mw_locals (L2 := [(0, .ref 178), (1, .int (nI r)), (2, .int (nI code)), (3, .int (nI (orM (rowB v r) a))), (4, .int (nI a)), (5, .int (nI 1))]) rfl ?_
        refine st _ 1 _ (Or.inl rfl) rfl h2 ?_
        refine st _ 2 _ (Or.inr rfl) rfl h3 ?_
        refine mw_iload rfl rfl ?_
        refine mw_iconst (v := nI 3) rfl (by decide) ?_
        refine mw_n_ge rfl (by omega) (by omega) (fun q => ?_) (fun q => ?_)
        · first | refine mw_ninc rfl rfl (Nat.le_of_ble_eq_true rfl) ?_ | refine mw_iinc rfl rfl rfl (Nat.le_of_ble_eq_true rfl) ?_
          refine mw_goto rfl ?_
          refine mw_locals ?_ ih
          rw [show orM (rowB v r) (a + 1) = orM (rowB v r) a ||| tb (v (45 + 18 * r + 2 + 4 * a + 1)) ||| tb (v (45 + 18 * r + 2 + 4 * a + 2)) by rw [Nat.or_assoc]; rfl]
          rfl
        · omega
  exact mw_locals rfl (loop 0 (Nat.zero_le _))
/-- how many of the facts lo .. lo + k - 1 are in a model -/
def cntM (m : Nat → Int32) (lo : Nat) : Nat → Nat
  | 0 => 0
  | k + 1 => cntM m lo k + (if m (lo + k) < 0 then 0 else 1)
theorem c_tally (d n : Nat) (K lo k : Nat) (m : Nat → Int32) (h : Nat → MC) (hm : h K = .inl (.int, 216, .inl m)) (hk : lo + k ≤ 216) : Fn M_X10_tally d 0 0 [.ref K, .int (nI lo), .int (nI (lo + k))] h n (some (.int (nI (cntM m lo k)))) h := by
  refine Fn.of fun post hp => ?_
  refine mw_iconst (v := nI 0) rfl (by decide) ?_
  refine mw_istore_n (i := 3) rfl rfl (Nat.le_of_ble_eq_true rfl) ?_
  refine mw_iload_n (i := 1) rfl rfl rfl ?_
  refine mw_istore rfl (Nat.le_of_ble_eq_true rfl) ?_
  have loop : ∀ j, j ≤ k → MW M_X10_tally d 0 0 n post 5 [(0, .ref K), (1, .int (nI lo)), (2, .int (nI (lo + k))), (3, .int (nI (cntM m lo j))), (4, .int (nI (lo + j)))] [] h n 0 := by
    refine loop_up k ?_ ?_
    · refine mw_iload rfl rfl ?_
      refine mw_iload_n (i := 2) rfl rfl rfl ?_
      refine mw_n_ge rfl (by omega) (by omega) (fun hc => ?_) (fun hc => ?_)
      · refine mw_iload_n (i := 3) rfl rfl rfl ?_
        exact mw_ireturn rfl rfl rfl rfl (Nat.le_refl _) (hp)
      · omega
    · intro j hj ih
      refine mw_iload rfl rfl ?_
      refine mw_iload_n (i := 2) rfl rfl rfl ?_
      refine mw_n_ge rfl (by omega) (by omega) (fun hc => ?_) (fun hc => ?_)
      · omega
      · refine mw_iload_n (i := 3) rfl rfl rfl ?_
        refine mw_aload_n (i := 0) rfl rfl rfl ?_
        refine mw_iload rfl rfl ?_
        refine mw_iald rfl (by first | rfl | exact hm) (by omega) (by omega) ?_
        refine mw_if_ge rfl (fun ht => ?_) (fun ht => ?_)
        · refine mw_iconst (v := nI 1) rfl (by decide) ?_
          first | refine mw_nadd rfl ?_ | refine mw_iadd rfl ?_
          refine mw_istore_n (i := 3) rfl rfl (Nat.le_of_ble_eq_true rfl) ?_
          first | refine mw_ninc rfl rfl (Nat.le_of_ble_eq_true rfl) ?_ | refine mw_iinc rfl rfl rfl (Nat.le_of_ble_eq_true rfl) ?_
          refine mw_goto rfl ?_
          refine mw_locals ?_ ih
          rw [show cntM m lo (j + 1) = cntM m lo j + 1 by simp [cntM, Int32.not_lt.mpr ht]]
          rfl
        · refine mw_iconst (v := nI 0) rfl (by decide) ?_
          refine mw_goto rfl ?_
          first | refine mw_nadd rfl ?_ | refine mw_iadd rfl ?_
          refine mw_istore_n (i := 3) rfl rfl (Nat.le_of_ble_eq_true rfl) ?_
          first | refine mw_ninc rfl rfl (Nat.le_of_ble_eq_true rfl) ?_ | refine mw_iinc rfl rfl rfl (Nat.le_of_ble_eq_true rfl) ?_
          refine mw_goto rfl ?_
          refine mw_locals ?_ ih
          rw [show cntM m lo (j + 1) = cntM m lo j + 0 by simp [cntM, Int32.not_le.mp ht]]
          rfl
  exact mw_locals rfl (loop 0 (Nat.zero_le _))
