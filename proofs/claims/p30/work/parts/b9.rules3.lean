/-! P30: rules, the text; the contract -/
def ruW (pl : Nat → Nat) (n y z bd mask many cost : Nat) : RuS := (PF y, fun c => fxF pl bd (PF y c) 1 (TF n z c 1), fun c => fxF pl bd (PF y c) 2 (TF n z c 2), fun c => mask.testBit c, many, cost)
theorem ruW_ok {v pl : Nat → Nat} (hok : OkN v) (hpl : ∀ q, q < 6 → pl q = v (3 + q)) {y z bd mask many cost : Nat} (h1 : 1 ≤ many) (h3 : many ≤ 3) : RuW v (ruW pl (v 0) y z bd mask many cost) := by
  refine ⟨h1, h3, fun a ha => ⟨PF_lt y a, (show TmO (v 0) (fxF pl bd (PF y a) 1 (TF (v 0) z a 1)) from fxF_ok hok.1 (TF_ok hok.1 z a 1)), (show TmO (v 0) (fxF pl bd (PF y a) 2 (TF (v 0) z a 2)) from fxF_ok hok.1 (TF_ok hok.1 z a 2)), fun e => ?_⟩⟩
  show fxF pl bd (PF y a) 2 (TF (v 0) z a 2) = 0
  unfold fxF
  rw [if_pos ⟨rfl, (hpl _ (PF_lt y a)).trans e⟩]
theorem fx_keep {pl : Nat → Nat} {bd p i t x : Nat} (h1 : ¬ (i = 2 ∧ pl p = 1)) (hb : bd.testBit x = true) (ht : t = 6 + x) : fxF pl bd p i t = 6 + x := by
  unfold fxF
  rw [Nat.testBit_eq_decide_div_mod_eq] at hb
  have hb := of_decide_eq_true hb
  rw [if_neg h1, if_neg (fun g => by
    have := g.2
    rw [ht, show 6 + x - 6 = x by omega] at this
    omega), ht]
theorem fx_bit {pl : Nat → Nat} {bd p i t x : Nat} (h : fxF pl bd p i t = 6 + x) : bd.testBit x = true := by
  unfold fxF at h
  split at h
  · omega
  · split at h
    · omega
    · rename_i g
      rw [Nat.testBit_eq_decide_div_mod_eq]
      refine decide_eq_true ?_
      rw [h, show 6 + x - 6 = x by omega] at g
      have : bd / 2 ^ x % 2 < 2 := Nat.mod_lt _ (by omega)
      omega
theorem ruW_bnd {pl rv : Nat → Nat} {n y z k c0 bd many cost : Nat} (H : AJ n y z k c0 pl (many + 1) bd rv) : Bnd (ruW pl n y z bd (rv (k + 14)) many cost) := by
  obtain ⟨-, -, h3, -, -, h6⟩ := H
  intro a ha x hx hf
  have hbit : bd.testBit x = true := by
    rcases hf with hf | hf
    · exact fx_bit (pl := pl) (p := PF y a) (i := 1) (t := TF n z a 1) hf
    · exact fx_bit (pl := pl) (p := PF y a) (i := 2) (t := TF n z a 2) hf
  obtain ⟨c, c1, c2, c3, c4⟩ := h6 x hx hbit
  have e1 : PF y c = prF y c := if_neg (by omega)
  have e2 : ∀ i, TF n z c i = ttF n z c i := fun i => if_neg (by omega)
  refine ⟨c, c1, Nat.le_of_lt_succ c2, (h3 c c1 c2).trans c3, ?_⟩
  rcases c4 with g | ⟨g1, g2⟩
  · exact Or.inl (show fxF pl bd (PF y c) 1 (TF n z c 1) = 6 + x from fx_keep (fun w => by omega) hbit ((e2 1).trans g))
  · exact Or.inr (show fxF pl bd (PF y c) 2 (TF n z c 2) = 6 + x from fx_keep (fun w => by
      have := w.2
      rw [e1, g1] at this
      omega) hbit ((e2 2).trans g2))
/-- the text behind a literals -/
def tcL (v : Nat → Nat) (W : RuS) : Nat → List Nat
  | 0 => atL (v (3 + W.pr 0)) (W.pr 0) (W.fi 0) (W.se 0) ++ [60]
  | a + 1 => tcL v W a ++ ((if 0 < a then [44] else []) ++ liL v W (a + 1))
theorem tc_ru {v : Nat → Nat} {W : RuS} (h1 : 1 ≤ W.li) (h3 : W.li ≤ 3) : tcL v W W.li = ruL2 v W := by
  have all : ∀ m, 1 ≤ m → m ≤ 3 → tcL v W m = atL (v (3 + W.pr 0)) (W.pr 0) (W.fi 0) (W.se 0) ++ 60 :: lsL v W 0 m := by
    intro m g1 g3
    rcases (show m = 1 ∨ m = 2 ∨ m = 3 by omega) with rfl | rfl | rfl
    · simp [tcL, lsL]
    · simp [tcL, lsL]
    · simp [tcL, lsL]
  exact all W.li h1 h3
theorem at_len (pl q a b : Nat) : (atL pl q a b).length ≤ 6 := by
  unfold atL
  split
  · exact Nat.le_refl _
  · exact Nat.le_of_ble_eq_true rfl
theorem tc_len (v : Nat → Nat) (W : RuS) : ∀ a, (tcL v W a).length ≤ 7 + 8 * a
  | 0 => by
    have := at_len (v (3 + W.pr 0)) (W.pr 0) (W.fi 0) (W.se 0)
    show (atL (v (3 + W.pr 0)) (W.pr 0) (W.fi 0) (W.se 0) ++ [60]).length ≤ 7
    rw [List.length_append]
    simp only [List.length_cons, List.length_nil]
    omega
  | a + 1 => by
    have ih := tc_len v W a
    have := at_len (v (3 + W.pr (a + 1))) (W.pr (a + 1)) (W.fi (a + 1)) (W.se (a + 1))
    show (tcL v W a ++ ((if 0 < a then [44] else []) ++ ((if W.ng (a + 1) = true then [33] else []) ++ atL (v (3 + W.pr (a + 1))) (W.pr (a + 1)) (W.fi (a + 1)) (W.se (a + 1))))).length ≤ 7 + 8 * (a + 1)
    rw [List.length_append, List.length_append, List.length_append]
    have g1 : (if 0 < a then [44] else ([] : List Nat)).length ≤ 1 := by split <;> simp
    have g2 : (if W.ng (a + 1) = true then [33] else ([] : List Nat)).length ≤ 1 := by split <;> simp
    omega
section RULES3
variable {hB h : Nat → MC} {post : Option Value → (Nat → MC) → Prop} {n0 k many mask : Nat} {rv pl : Nat → Nat} {D : LD} {W : RuS}
abbrev rlT (k many a : Nat) : List (Nat × Value) := [(0, .ref 0), (3, .ref 178), (4, .ref 180), (5, .ref 181), (6, .int (nI k)), (7, .int (nI many)), (9, .int (nI a))]
/-- the row r holds W -/
def RvW (rv : Nat → Nat) (k : Nat) (W : RuS) : Prop := ∀ c, c ≤ W.li → rv (k + 2 + 3 * c) = W.pr c ∧ rv (k + 2 + 3 * c + 1) = W.fi c ∧ rv (k + 2 + 3 * c + 2) = W.se c
set_option maxRecDepth 20000 in
/-- the literals are written, from 469 on -/
theorem rl_text (hR : hB 178 = .inl (.int, 64, .inl (vI rv))) (hP : hB 180 = .inl (.int, 6, .inl (vI pl))) (hok : OkN D.1) (hpl : ∀ q, q < 6 → pl q = D.1 (3 + q)) (hk : k + 16 ≤ 64) (hW : RuW D.1 W) (hli : W.li = many) (hrv : RvW rv k W) (hng : ∀ c, W.ng c = mask.testBit c) (hmask : rv (k + 14) = mask) (hm16 : mask < 16)
    (kk : ∀ h, TJ D (tcL D.1 W many) hB h → MW M_L_rules 9 0 0 n0 post 534 (rlT k many (many + 1)) [] h n0 0) :
    ∀ j i h, j + i = many → TJ D (tcL D.1 W i) hB h → MW M_L_rules 9 0 0 n0 post 469 (rlT k many (i + 1)) [] h n0 0 := by
  have h3 := hW.2.1
  intro j
  induction j with
  | zero =>
    intro i h he hT
    obtain rfl : i = many := by omega
    refine mw_iload rfl rfl ?_
    refine mw_iload rfl rfl ?_
    refine mw_n_gt rfl (by omega) (by omega) (fun e1 => ?_) (fun e1 => ?_)
    · exact kk h hT
    · omega
  | succ j ih =>
    intro i h he hT
    have hlen := tc_len D.1 W i
    obtain ⟨r1, r2, r3⟩ := hrv (i + 1) (by omega)
    obtain ⟨w1, w2, w3, -⟩ := hW.2.2 (i + 1) (by omega)
    have hp3 : pl (W.pr (i + 1)) < 3 := by
      rw [hpl _ w1]
      have := hok.2.2.2.2.1 _ w1
      omega
    have kC : ∀ h, TJ D (tcL D.1 W i ++ (if 0 < i then [44] else []) ++ (if W.ng (i + 1) = true then [33] else [])) hB h → MW M_L_rules 9 0 0 n0 post 512 (rlT k many (i + 1)) [] h n0 0 := by
      intro h hT
      have g1 : (if 0 < i then [44] else ([] : List Nat)).length ≤ 1 := by split <;> simp
      have g2 : (if W.ng (i + 1) = true then [33] else ([] : List Nat)).length ≤ 1 := by split <;> simp
      refine mw_aload_n (i := 0) rfl rfl rfl ?_
      refine mw_aload_n (i := 3) rfl rfl rfl ?_
      refine mw_iload rfl rfl ?_
      refine mw_iconst (v := nI 2) rfl (by decide) ?_
      first | refine mw_nadd rfl ?_ | refine mw_iadd rfl ?_
      refine mw_iconst (v := nI 3) rfl (by decide) ?_
      refine mw_iload rfl rfl ?_
      first | refine mw_nmul rfl ?_ | refine mw_imul rfl ?_
      first | refine mw_nadd rfl ?_ | refine mw_iadd rfl ?_
      refine mw_aload rfl rfl ?_
      refine mw_callS (c_atom n0 (k + 2 + 3 * (i + 1)) rv pl hT hR hP (by omega) (by rw [r1]; exact w1) (by rw [r2]; exact w2.1) (by rw [r3]; exact w3.1) (by rw [r1]; exact hp3) (by rw [List.length_append, List.length_append]; omega)) rfl ok_L_atom v_L_25 rfl (Nat.le_of_ble_eq_true rfl) rfl (Nat.le_of_ble_eq_true rfl) (by omega) (by omega) (by omega) ?_
      rintro r h ⟨rfl, hT⟩
      show MW M_L_rules 9 0 0 n0 post 528 _ [] h n0 0
      rw [r1, r2, r3, hpl _ w1, List.append_assoc, List.append_assoc] at hT
      first | refine mw_ninc rfl rfl (Nat.le_of_ble_eq_true rfl) ?_ | refine mw_iinc rfl rfl rfl (Nat.le_of_ble_eq_true rfl) ?_
      refine mw_goto rfl ?_
      refine mw_locals rfl (ih (i + 1) h (by omega) ?_)
      exact hT
    have kB : ∀ h, TJ D (tcL D.1 W i ++ (if 0 < i then [44] else [])) hB h → MW M_L_rules 9 0 0 n0 post 489 (rlT k many (i + 1)) [] h n0 0 := by
      intro h hT
      have g1 : (if 0 < i then [44] else ([] : List Nat)).length ≤ 1 := by split <;> simp
      refine mw_aload_n (i := 3) rfl rfl rfl ?_
      refine mw_iload rfl rfl ?_
      refine mw_bipush (v := nI 14) rfl (by decide) ?_
      first | refine mw_nadd rfl ?_ | refine mw_iadd rfl ?_
      refine mw_iald_v rfl (by first | rfl | exact (hT.c (Nat.le_of_ble_eq_true rfl)).trans hR | exact (hT.c (Nat.le_of_ble_eq_true rfl)).trans hP) (by omega) (by omega) (show vI rv (k + 14) = nI mask from congrArg nI hmask) ?_
      refine mw_iload rfl rfl ?_
      refine mw_nshr rfl (by omega) (by omega) ?_
      refine mw_iconst (v := nI 1) rfl (by decide) ?_
      refine mw_nand rfl ?_
      rw [Nat.and_one_is_mod]
      refine mw_iconst (v := nI 1) rfl (by decide) ?_
      have hm2 : mask / 2 ^ (i + 1) % 2 < 2 := Nat.mod_lt _ (by omega)
      refine mw_n_ne rfl (by omega) (by omega) (fun e2 => ?_) (fun e2 => ?_)
      · have e : W.ng (i + 1) = false := by
          rw [hng, Nat.testBit_eq_decide_div_mod_eq]
          exact decide_eq_false e2
        refine kC h ?_
        rw [e, if_neg (show ¬ (false = true) by decide), List.append_nil]
        exact hT
      · have e : W.ng (i + 1) = true := by
          rw [hng, Nat.testBit_eq_decide_div_mod_eq]
          exact decide_eq_true e2
        refine mw_aload_n (i := 0) rfl rfl rfl ?_
        refine mw_bipush (v := nI 33) rfl (by decide) ?_
        refine mw_app hT (by omega) (by rw [List.length_append]; omega) rfl v_L_9 (Nat.le_of_ble_eq_true rfl) (by omega) (by omega) (by omega) (fun h hT => ?_)
        refine mw_pop rfl rfl ?_
        refine kC h ?_
        rw [e, if_pos rfl]
        exact hT
    refine mw_iload rfl rfl ?_
    refine mw_iload rfl rfl ?_
    refine mw_n_gt rfl (by omega) (by omega) (fun e1 => ?_) (fun e1 => ?_)
    · omega
    refine mw_iload rfl rfl ?_
    refine mw_iconst (v := nI 1) rfl (by decide) ?_
    refine mw_n_le rfl (by omega) (by omega) (fun e2 => ?_) (fun e2 => ?_)
    · refine kB h ?_
      rw [if_neg (show ¬ 0 < i by omega), List.append_nil]
      exact hT
    · refine mw_aload_n (i := 0) rfl rfl rfl ?_
      refine mw_bipush (v := nI 44) rfl (by decide) ?_
      refine mw_app hT (by omega) (by omega) rfl v_L_9 (Nat.le_of_ble_eq_true rfl) (by omega) (by omega) (by omega) (fun h hT => ?_)
      refine mw_pop rfl rfl ?_
      refine kB h ?_
      rw [if_pos (show 0 < i by omega)]
      exact hT
end RULES3
/-- what rules leaves of the program -/
def RuD (D D' : LD) : Prop := LV D'.1 ∧ D'.1 0 = D.1 0 ∧ D'.1 1 = D.1 1 ∧ D'.1 2 = D.1 2 + 1 ∧ (∀ q, q < 6 → D'.1 (3 + q) = D.1 (3 + q)) ∧ D'.2.2.2 = D.2.2.2
theorem TL.rst {D : LD} {ls : List Nat} (H : TL D ls) : Rst D.2.2.1 D.2.1 0 ls := ⟨by rw [H.1]; omega, fun i hi => by rw [Nat.zero_add]; exact H.2 i hi⟩
set_option maxRecDepth 20000 in
theorem c_rules (n y z : Nat) (D : LD) (pl w : Nat → Nat) (h : Nat → MC) (H : FW D pl w h) (hV : LV D.1) (hy : y < 2147483648) (hz : z < 2147483648) (hw0 : w 0 = D.1 0) (hw1 : w 1 = D.1 2) (h4 : D.1 2 < 4) (hpl : ∀ q, q < 6 → pl q = D.1 (3 + q)) : Sp M_L_rules 9 0 0 [.ref 0, .int (nI y), .int (nI z), .ref 178, .ref 180, .ref 181] h n (fun r h1 => r = some (.int (nI 1)) ∧ ∃ D', RuD D D' ∧ FW D' pl (updN w 1 (w 1 + 1)) h1) := by
  refine Sp.of2 fun post hp => ?_
  have H2 := H
  obtain ⟨hD, hK, ⟨rf, h178⟩, ⟨bf, h179⟩, hP, hW⟩ := H
  have hok := hD.1
  have h1 := hok.1
  have h3 := hV.2.1
  have hsy : ∀ j, y / 2 ^ j < 2147483648 := fun j => Nat.lt_of_le_of_lt (Nat.div_le_self _ _) hy
  have hplt : ∀ q, q < 6 → pl q < 3 := fun q hq => by
    rw [hpl q hq]
    have := hok.2.2.2.2.1 q hq
    omega
  have erf : rf = vI (fun i => toN (rf i)) := funext fun i => (nI_toN (rf i)).symm
  rw [erf] at h178
  generalize (fun i => toN (rf i)) = r0 at h178
  have hm : hR h r0 = h := mov_self (by simp [h178])
  have hmany : 1 ≤ 1 + y % 3 ∧ 1 + y % 3 ≤ 3 := by omega
  refine mw_heap hm ?_
  refine mw_bipush (v := nI 16) rfl (by decide) ?_
  refine mw_aload rfl rfl ?_
  refine mw_iconst (v := nI 1) rfl (by decide) ?_
  refine mw_iald_v rfl hW (by omega) (by omega) (vI_at w 1) ?_
  first | refine mw_nmul rfl ?_ | refine mw_imul rfl ?_
  refine mw_istore rfl (Nat.le_of_ble_eq_true rfl) ?_
  refine mw_iconst (v := nI 1) rfl (by decide) ?_
  refine mw_iload_n (i := 1) rfl rfl rfl ?_
  refine mw_iconst (v := nI 3) rfl (by decide) ?_
  refine mw_nrem rfl hy (by omega) (by omega) ?_
  first | refine mw_nadd rfl ?_ | refine mw_iadd rfl ?_
  refine mw_istore rfl (Nat.le_of_ble_eq_true rfl) ?_
  refine mw_aload_n (i := 3) rfl rfl rfl ?_
  refine mw_iload rfl rfl ?_
  refine mw_iconst (v := nI 1) rfl (by decide) ?_
  refine mw_iload_n (i := 1) rfl rfl rfl ?_
  refine mw_iconst (v := nI 2) rfl (by decide) ?_
  refine mw_nshr rfl hy (by omega) ?_
  refine mw_bipush (v := nI 9) rfl (by decide) ?_
  refine mw_nrem rfl (hsy _) (by omega) (by omega) ?_
  first | refine mw_nadd rfl ?_ | refine mw_iadd rfl ?_
  refine mw_iast_m rfl rfl (by omega) (by omega) ?_
  first | rw [vI_upd] | rw [vI_updv] | skip
  refine mw_aload_n (i := 3) rfl rfl rfl ?_
  refine mw_iload rfl rfl ?_
  refine mw_iconst (v := nI 1) rfl (by decide) ?_
  first | refine mw_nadd rfl ?_ | refine mw_iadd rfl ?_
  refine mw_iload rfl rfl ?_
  refine mw_iast_m rfl rfl (by omega) (by omega) ?_
  first | rw [vI_upd] | rw [vI_updv] | skip
  refine mw_aload_n (i := 3) rfl rfl rfl ?_
  refine mw_iload rfl rfl ?_
  refine mw_bipush (v := nI 14) rfl (by decide) ?_
  first | refine mw_nadd rfl ?_ | refine mw_iadd rfl ?_
  refine mw_iconst (v := nI 0) rfl (by decide) ?_
  refine mw_iast_m rfl rfl (by omega) (by omega) ?_
  first | rw [vI_upd] | rw [vI_updv] | skip
  refine mw_iconst (v := nI 0) rfl (by decide) ?_
  refine mw_istore rfl (Nat.le_of_ble_eq_true rfl) ?_
  refine mw_iconst (v := nI 1) rfl (by decide) ?_
  refine mw_istore rfl (Nat.le_of_ble_eq_true rfl) ?_
  have hA1 : AJ (w 0) y z (16 * w 1) (1 + y / 2 ^ 2 % 9) pl 1 0 (updN (updN (updN r0 (16 * w 1) (1 + y / 2 ^ 2 % 9)) (16 * w 1 + 1) (1 + y % 3)) (16 * w 1 + 14) 0) := by
    refine ⟨?_, ?_, fun c c1 c2 => by omega, fun c c1 c2 => by omega, by omega, fun x hx hb => ?_⟩
    · rw [updN_ne _ _ (by omega), updN_ne _ _ (by omega), updN_same]
    · rw [updN_same]
      exact Nat.le_of_ble_eq_true rfl
    · rw [Nat.zero_testBit] at hb
      cases hb
  refine mw_locals (L2 := rlL y z (16 * w 1) (1 + y % 3) 0 1) rfl ?_
  refine rl_lits (cost := 1 + y / 2 ^ 2 % 9) hP hW hy hz hmany.2 (by omega) hplt (by omega) (by omega) (fun bd rvA hA => ?_) (1 + y % 3) 1 0 _ (Nat.le_refl _) rfl hA1
  refine rl_head hP hW hy hz (by omega) ?_
  have hA2 := hA
  obtain ⟨-, hmk, hmb, -, hbd, -⟩ := hA2
  refine rl_mend (n := w 0) (cost := 1 + y / 2 ^ 2 % 9) (mask := rvA (16 * w 1 + 14)) hP (by omega) hmany.2 (by omega) hbd hplt (fun rv hBJ => ?_) (1 + y % 3 + 1) 0 _ rfl (hA.head hmany.2)
  have hm16 : rvA (16 * w 1 + 14) < 16 := Nat.lt_of_lt_of_le hmk (Nat.pow_le_pow_right (n := 2) (by omega) (show 1 + y % 3 + 1 ≤ 4 by omega))
  have hRW : RuW D.1 (ruW pl (w 0) y z bd (rvA (16 * w 1 + 14)) (1 + y % 3) (1 + y / 2 ^ 2 % 9)) := by
    rw [hw0]
    exact ruW_ok hok hpl hmany.1 hmany.2
  have hBn : Bnd (ruW pl (w 0) y z bd (rvA (16 * w 1 + 14)) (1 + y % 3) (1 + y / 2 ^ 2 % 9)) := ruW_bnd hA
  have hrvW : RvW rv (16 * w 1) (ruW pl (w 0) y z bd (rvA (16 * w 1 + 14)) (1 + y % 3) (1 + y / 2 ^ 2 % 9)) := fun c hc => by
    have hc : c ≤ 1 + y % 3 := hc
    obtain ⟨g1, g2, -⟩ := hBJ.2.2 c hc
    obtain ⟨g3, g4⟩ := g2 (by omega)
    exact ⟨g1, g3, g4⟩
  have hng : ∀ c, (ruW pl (w 0) y z bd (rvA (16 * w 1 + 14)) (1 + y % 3) (1 + y / 2 ^ 2 % 9)).ng c = (rvA (16 * w 1 + 14)).testBit c := fun c => rfl
  have hli : (ruW pl (w 0) y z bd (rvA (16 * w 1 + 14)) (1 + y % 3) (1 + y / 2 ^ 2 % 9)).li = 1 + y % 3 := rfl
  have hcost : rv (16 * w 1) = 1 + y / 2 ^ 2 % 9 := hBJ.1
  have hmk2 : rv (16 * w 1 + 14) = rvA (16 * w 1 + 14) := hBJ.2.1
  generalize ruW pl (w 0) y z bd (rvA (16 * w 1 + 14)) (1 + y % 3) (1 + y / 2 ^ 2 % 9) = W at *
  generalize rvA (16 * w 1 + 14) = mask at *
  have hc9 : 1 ≤ 1 + y / 2 ^ 2 % 9 ∧ 1 + y / 2 ^ 2 % 9 ≤ 9 := by
    have : y / 2 ^ 2 % 9 < 9 := Nat.mod_lt _ (by omega)
    omega
  generalize 1 + y / 2 ^ 2 % 9 = cost at *
  generalize 1 + y % 3 = many at *
  have hKB : KSd D (hR h rv) := hK.keep (fun j hj => mov_out rfl hj)
  have hJ : SJ D (hR h rv) (hR h rv) := ⟨hKB, fun _ _ => rfl⟩
  have hB178 : hR h rv 178 = .inl (.int, 64, .inl (vI rv)) := rfl
  have hB179 : hR h rv 179 = .inl (.int, 30, .inl bf) := h179
  have hB180 : hR h rv 180 = .inl (.int, 6, .inl (vI pl)) := hP
  have hB181 : hR h rv 181 = .inl (.int, 3, .inl (vI w)) := hW
  generalize hR h rv = hB at *
  refine mw_aload_n (i := 0) rfl rfl rfl ?_
  refine mw_askI (ko_clear hJ.1) hJ rfl ok_X9_clearText v_L_21 rfl rfl (Nat.le_of_ble_eq_true rfl) rfl (Nat.le_of_ble_eq_true rfl) (by omega) (by omega) (by omega) (fun h hJ => ?_)
  have hT : TJ D [] hB h := ⟨(D.1, 0, D.2.2), rfl, rfl, ⟨rfl, fun i hi => absurd hi (Nat.not_lt_zero i)⟩, ⟨hok, Nat.zero_le _, fun i hi => absurd hi (Nat.not_lt_zero i)⟩, hJ⟩
  obtain ⟨r1, r2, r3⟩ := hrvW 0 (Nat.zero_le _)
  obtain ⟨w1, w2, w3, -⟩ := hRW.2.2 0 (Nat.zero_le _)
  refine mw_pop rfl rfl ?_
  refine mw_aload_n (i := 0) rfl rfl rfl ?_
  refine mw_aload_n (i := 3) rfl rfl rfl ?_
  refine mw_iload rfl rfl ?_
  refine mw_iconst (v := nI 2) rfl (by decide) ?_
  first | refine mw_nadd rfl ?_ | refine mw_iadd rfl ?_
  refine mw_aload rfl rfl ?_
  refine mw_callS (c_atom n (16 * w 1 + 2) rv pl hT hB178 hB180 (by omega) (by rw [show 16 * w 1 + 2 = 16 * w 1 + 2 + 3 * 0 from rfl, r1]; exact w1) (by rw [show 16 * w 1 + 2 + 1 = 16 * w 1 + 2 + 3 * 0 + 1 from rfl, r2]; exact w2.1) (by rw [show 16 * w 1 + 2 + 2 = 16 * w 1 + 2 + 3 * 0 + 2 from rfl, r3]; exact w3.1) (by rw [show 16 * w 1 + 2 = 16 * w 1 + 2 + 3 * 0 from rfl, r1]; exact hplt _ w1) (by simp)) rfl ok_L_atom v_L_25 rfl (Nat.le_of_ble_eq_true rfl) rfl (Nat.le_of_ble_eq_true rfl) (by omega) (by omega) (by omega) ?_
  rintro r h ⟨rfl, hT⟩
  show MW M_L_rules 9 0 0 n post 459 _ [] h n 0
  have hT : TJ D ([] ++ atL (pl (rv (16 * w 1 + 2 + 3 * 0))) (rv (16 * w 1 + 2 + 3 * 0)) (rv (16 * w 1 + 2 + 3 * 0 + 1)) (rv (16 * w 1 + 2 + 3 * 0 + 2))) hB h := hT
  rw [r1, r2, r3, hpl _ w1, List.nil_append] at hT
  refine mw_aload_n (i := 0) rfl rfl rfl ?_
  refine mw_bipush (v := nI 60) rfl (by decide) ?_
  refine mw_app hT (by omega) (by have := at_len (D.1 (3 + W.pr 0)) (W.pr 0) (W.fi 0) (W.se 0); omega) rfl v_L_9 (Nat.le_of_ble_eq_true rfl) (by omega) (by omega) (by omega) (fun h hT => ?_)
  refine mw_pop rfl rfl ?_
  refine mw_iconst (v := nI 1) rfl (by decide) ?_
  refine mw_istore rfl (Nat.le_of_ble_eq_true rfl) ?_
  refine mw_locals (L2 := rlT (16 * w 1) many (0 + 1)) rfl ?_
  refine rl_text hB178 hB180 hok hpl (by omega) hRW hli hrvW hng hmk2 hm16 (fun h hT => ?_) many 0 h rfl hT
  have hT : TJ D (tcL D.1 W many) hB h := hT
  rw [← hli, tc_ru hRW.1 hRW.2.1] at hT
  obtain ⟨D2, e1, e2, hL, hD2, hJ⟩ := hT
  have hRst := hL.rst
  have hV2 : LV D2.1 := by
    rw [e1]
    exact hV
  rw [← e1] at hRst hRW
  have hf : ∀ R, ffV D2.1 D2.2.2.1 D2.2.1 R = -5 := fault_no hD2.1 hD2.2.2 hRW hBn hRst
  have c181 : h 181 = .inl (.int, 3, .inl (vI w)) := (hJ.2 181 (by omega)).trans hB181
  refine mw_aload rfl rfl ?_
  refine mw_iconst (v := nI 1) rfl (by decide) ?_
  refine mw_dup2 rfl rfl rfl ?_
  refine mw_iald_v rfl c181 (by omega) (by omega) (vI_at w 1) ?_
  refine mw_iconst (v := nI 1) rfl (by decide) ?_
  first | refine mw_nadd rfl ?_ | refine mw_iadd rfl ?_
  refine mw_iast rfl c181 (by omega) (by omega) ?_
  rw [vI_upd]
  have hJ2 : SJ D2 (hset h 181 (.inl (.int, 3, .inl (vI (updN w 1 (w 1 + 1)))))) (hset h 181 (.inl (.int, 3, .inl (vI (updN w 1 (w 1 + 1)))))) := ⟨hJ.1.keep (fun j hj => hset_ne _ _ (by omega)), fun _ _ => rfl⟩
  have d178 : hset h 181 (.inl (.int, 3, .inl (vI (updN w 1 (w 1 + 1))))) 178 = .inl (.int, 64, .inl (vI rv)) := (hset_ne _ _ (by omega)).trans ((hJ.2 178 (by omega)).trans hB178)
  have d179 : hset h 181 (.inl (.int, 3, .inl (vI (updN w 1 (w 1 + 1))))) 179 = .inl (.int, 30, .inl bf) := (hset_ne _ _ (by omega)).trans ((hJ.2 179 (by omega)).trans hB179)
  have d180 : hset h 181 (.inl (.int, 3, .inl (vI (updN w 1 (w 1 + 1))))) 180 = .inl (.int, 6, .inl (vI pl)) := (hset_ne _ _ (by omega)).trans ((hJ.2 180 (by omega)).trans hB180)
  have d181 : hset h 181 (.inl (.int, 3, .inl (vI (updN w 1 (w 1 + 1))))) 181 = .inl (.int, 3, .inl (vI (updN w 1 (w 1 + 1)))) := hset_same _ _ _
  generalize hset h 181 (.inl (.int, 3, .inl (vI (updN w 1 (w 1 + 1))))) = hC at *
  have hJ := hJ2
  refine mw_aload_n (i := 0) rfl rfl rfl ?_
  refine mw_askI (ko_fault hD2 hJ.1 hf) hJ rfl ok_X9_faultPosition v_L_29 rfl rfl (Nat.le_of_ble_eq_true rfl) rfl (Nat.le_of_ble_eq_true rfl) (by omega) (by omega) (by omega) (fun h hJ => ?_)
  refine mw_bipush (v := (-5)) rfl (by decide) ?_
  refine mw_icmp_ne rfl (fun f1 => ?_) (fun f1 => ?_)
  · exact absurd rfl f1
  have hlt8 : D2.1 2 < 8 := by
    rw [e1]
    omega
  have hLV := LV.addRule (p := cost) hD2 hJ.1 hV2 hRW hBn hRst hc9.1 hc9.2 hlt8
  have x178 := (hJ.2 178 (by omega)).trans d178
  refine mw_aload_n (i := 0) rfl rfl rfl ?_
  refine mw_aload_n (i := 3) rfl rfl rfl ?_
  refine mw_iload rfl rfl ?_
  refine mw_iald_v rfl x178 (by omega) (by omega) (show vI rv (16 * w 1) = nI cost from congrArg nI hcost) ?_
  refine mw_askI (ko_addRule hD2 hJ.1 hf hc9.1 hc9.2 hlt8) hJ rfl ok_X9_addRule v_L_32 rfl rfl (Nat.le_of_ble_eq_true rfl) rfl (Nat.le_of_ble_eq_true rfl) (by omega) (by omega) (by omega) (fun h hJ => ?_)
  have x181 := (hJ.2 181 (by omega)).trans d181
  have ew : vI (updN w 1 (w 1 + 1)) 1 = nI (w 1 + 1) := congrArg nI (updN_same _ _ _)
  refine mw_aload rfl rfl ?_
  refine mw_iconst (v := nI 1) rfl (by decide) ?_
  refine mw_iald_v rfl x181 (by omega) (by omega) ew ?_
  refine mw_iconst (v := nI 1) rfl (by decide) ?_
  first | refine mw_nsub rfl (by omega) ?_ | refine mw_isub rfl ?_
  have e2w : D2.1 2 = w 1 + 1 - 1 := by
    rw [e1, ← hw1]
    omega
  rw [e2w]
  refine mw_icmp_ne rfl (fun f2 => ?_) (fun f2 => ?_)
  · exact absurd rfl f2
  refine mw_iconst (v := nI 1) rfl (by decide) ?_
  refine mw_goto rfl ?_
  refine mw_ireturn rfl rfl rfl rfl (Nat.le_refl _) (hp _ _ ⟨rfl, (adV D2 cost, D2.2), ?_, ?_⟩)
  · obtain ⟨g1, g2, g3, g4, g5⟩ := hLV
    rw [e1] at g2 g3 g4 g5
    exact ⟨g1, g2, g3, g4, g5, e2⟩
  · exact ⟨⟨hLV.1.1, hD2.2⟩, hJ.1, ⟨_, (hJ.2 178 (by omega)).trans d178⟩, ⟨bf, (hJ.2 179 (by omega)).trans d179⟩, (hJ.2 180 (by omega)).trans d180, x181⟩
