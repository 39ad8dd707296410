/-! P30: rules, the loops over the literals -/
/-- behind the literals 1 .. a - 1 -/
def AJ (n y z k cost : Nat) (pl : Nat → Nat) (a bd : Nat) (rv : Nat → Nat) : Prop :=
  rv k = cost ∧ rv (k + 14) < 2 ^ a ∧ (∀ c, 1 ≤ c → c < a → (rv (k + 14)).testBit c = ngF y c) ∧ (∀ c, 1 ≤ c → c < a → rv (k + 2 + 3 * c) = prF y c ∧ rv (k + 2 + 3 * c + 1) = ttF n z c 1 ∧ rv (k + 2 + 3 * c + 2) = ttF n z c 2) ∧ bd < 8 ∧ ∀ x, x < 3 → bd.testBit x = true → ∃ c, 1 ≤ c ∧ c < a ∧ ngF y c = false ∧ (ttF n z c 1 = 6 + x ∨ (pl (prF y c) = 2 ∧ ttF n z c 2 = 6 + x))
theorem AJ.step {n y z k cost a bd bd' : Nat} {pl rv : Nat → Nat} (H : AJ n y z k cost pl a bd rv) (ha1 : 1 ≤ a) (ha : a ≤ 3) (hb : bd' < 8) (hx : ∀ x, x < 3 → bd'.testBit x = true → bd.testBit x = true ∨ (ngF y a = false ∧ (ttF n z a 1 = 6 + x ∨ (pl (prF y a) = 2 ∧ ttF n z a 2 = 6 + x)))) : AJ n y z k cost pl (a + 1) bd' (rvL n y z k a (rv (k + 14)) rv) := by
  obtain ⟨h1, h2, h3, h4, h5, h6⟩ := H
  have em : rvL n y z k a (rv (k + 14)) rv (k + 14) = rv (k + 14) ||| (if ngF y a = true then 1 * 2 ^ a else 0) := by
    unfold rvL
    rw [updN_ne _ _ (by omega), updN_ne _ _ (by omega), updN_same]
  have hp2 : 2 ^ a < 2 ^ (a + 1) := Nat.pow_lt_pow_right (by omega) (by omega)
  refine ⟨?_, ?_, fun c hc1 hc => ?_, fun c hc1 hc => ?_, hb, fun x hx3 hbx => ?_⟩
  · unfold rvL
    rw [updN_ne _ _ (by omega), updN_ne _ _ (by omega), updN_ne _ _ (by omega), updN_ne _ _ (by omega)]
    exact h1
  · rw [em]
    refine Nat.or_lt_two_pow (by omega) ?_
    split
    · omega
    · omega
  · rw [em, Nat.testBit_or]
    by_cases q : c = a
    · subst q
      rw [Nat.testBit_lt_two_pow h2, Bool.false_or]
      cases hn : ngF y c
      · rw [if_neg (by decide), Nat.zero_testBit]
      · rw [if_pos rfl, Nat.one_mul, Nat.testBit_two_pow, decide_eq_true rfl]
    · rw [h3 c hc1 (by omega)]
      split
      · rw [Nat.one_mul, Nat.testBit_two_pow, decide_eq_false (by omega), Bool.or_false]
      · rw [Nat.zero_testBit, Bool.or_false]
  · unfold rvL
    by_cases q : c = a
    · subst q
      refine ⟨?_, ?_, ?_⟩
      · rw [updN_ne _ _ (by omega), updN_ne _ _ (by omega), updN_ne _ _ (by omega), updN_same]
      · rw [updN_ne _ _ (by omega), updN_same]
      · rw [updN_same]
    · obtain ⟨g1, g2, g3⟩ := h4 c hc1 (by omega)
      refine ⟨?_, ?_, ?_⟩
      · rw [updN_ne _ _ (by omega), updN_ne _ _ (by omega), updN_ne _ _ (by omega), updN_ne _ _ (by omega)]
        exact g1
      · rw [updN_ne _ _ (by omega), updN_ne _ _ (by omega), updN_ne _ _ (by omega), updN_ne _ _ (by omega)]
        exact g2
      · rw [updN_ne _ _ (by omega), updN_ne _ _ (by omega), updN_ne _ _ (by omega), updN_ne _ _ (by omega)]
        exact g3
  · rcases hx x hx3 hbx with g | g
    · obtain ⟨c, c1, c2, c3⟩ := h6 x hx3 g
      exact ⟨c, c1, by omega, c3⟩
    · exact ⟨a, ha1, by omega, g⟩
/-- a term behind its mending -/
def fxF (pl : Nat → Nat) (bd p i t : Nat) : Nat := if i = 2 ∧ pl p = 1 then 0 else if 5 < t ∧ bd / 2 ^ (t - 6) % 2 = 0 then 0 else t
/-- predicates and terms as they are read -/
def PF (y c : Nat) : Nat := if c = 0 then 1 + y / 2 ^ 20 % 5 else prF y c
def TF (n z c i : Nat) : Nat := if c = 0 then (if i = 1 then (if z / 2 ^ 20 % 4 < 3 then 6 + z / 2 ^ 20 % 4 else 0) else (if z / 2 ^ 23 % 4 < 3 then 6 + z / 2 ^ 23 % 4 else 0)) else ttF n z c i
theorem PF_lt (y c : Nat) : PF y c < 6 := by
  unfold PF
  split
  · have : y / 2 ^ 20 % 5 < 5 := Nat.mod_lt _ (by omega)
    omega
  · exact prF_lt y c
theorem TF_ok {n : Nat} (h1 : 1 ≤ n) (z c i : Nat) : TmO n (TF n z c i) := by
  unfold TF
  split
  · have g1 : z / 2 ^ 20 % 4 < 4 := Nat.mod_lt _ (by omega)
    have g2 : z / 2 ^ 23 % 4 < 4 := Nat.mod_lt _ (by omega)
    unfold TmO
    split
    · split <;> omega
    · split <;> omega
  · exact (ttF_ok h1 z c i).1
theorem fxF_ok {n : Nat} {pl : Nat → Nat} {bd p i t : Nat} (h1 : 1 ≤ n) (h : TmO n t) : TmO n (fxF pl bd p i t) := by
  unfold fxF TmO at *
  split
  · omega
  · split <;> omega
/-- behind the mending of the atoms 0 .. a - 1 -/
def BJ (n y z k cost many mask bd : Nat) (pl : Nat → Nat) (a : Nat) (rv : Nat → Nat) : Prop :=
  rv k = cost ∧ rv (k + 14) = mask ∧ ∀ c, c ≤ many → rv (k + 2 + 3 * c) = PF y c ∧ (c < a → rv (k + 2 + 3 * c + 1) = fxF pl bd (PF y c) 1 (TF n z c 1) ∧ rv (k + 2 + 3 * c + 2) = fxF pl bd (PF y c) 2 (TF n z c 2)) ∧ (a ≤ c → rv (k + 2 + 3 * c + 1) = TF n z c 1 ∧ rv (k + 2 + 3 * c + 2) = TF n z c 2)
theorem AJ.head {n y z k cost many bd : Nat} {pl rv : Nat → Nat} (hm : many ≤ 3) (H : AJ n y z k cost pl (many + 1) bd rv) : BJ n y z k cost many (rv (k + 14)) bd pl 0 (updN (updN (updN rv (k + 2) (1 + y / 2 ^ 20 % 5)) (k + 3) (if z / 2 ^ 20 % 4 < 3 then 6 + z / 2 ^ 20 % 4 else 0)) (k + 4) (if z / 2 ^ 23 % 4 < 3 then 6 + z / 2 ^ 23 % 4 else 0)) := by
  obtain ⟨h1, h2, h3, h4, h5, h6⟩ := H
  refine ⟨?_, ?_, fun c hc => ?_⟩
  · rw [updN_ne _ _ (by omega), updN_ne _ _ (by omega), updN_ne _ _ (by omega)]
    exact h1
  · rw [updN_ne _ _ (by omega), updN_ne _ _ (by omega), updN_ne _ _ (by omega)]
  · by_cases q : c = 0
    · subst q
      refine ⟨?_, fun w => by omega, fun _ => ⟨?_, ?_⟩⟩
      · rw [updN_ne _ _ (by omega), updN_ne _ _ (by omega), updN_same]
        rfl
      · rw [updN_ne _ _ (by omega), updN_same]
        rfl
      · rw [updN_same]
        rfl
    · obtain ⟨g1, g2, g3⟩ := h4 c (by omega) (by omega)
      have e1 : PF y c = prF y c := if_neg q
      have e2 : ∀ i, TF n z c i = ttF n z c i := fun i => if_neg q
      rw [e1, e2, e2]
      refine ⟨?_, fun w => by omega, fun _ => ⟨?_, ?_⟩⟩
      · rw [updN_ne _ _ (by omega), updN_ne _ _ (by omega), updN_ne _ _ (by omega)]
        exact g1
      · rw [updN_ne _ _ (by omega), updN_ne _ _ (by omega), updN_ne _ _ (by omega)]
        exact g2
      · rw [updN_ne _ _ (by omega), updN_ne _ _ (by omega), updN_ne _ _ (by omega)]
        exact g3
theorem BJ.step {n y z k cost many mask bd a : Nat} {pl rv : Nat → Nat} (hm : many ≤ 3) (ha : a ≤ many) (H : BJ n y z k cost many mask bd pl a rv) : BJ n y z k cost many mask bd pl (a + 1) (updN (updN rv (k + 2 + 3 * a + 1) (fxF pl bd (PF y a) 1 (TF n z a 1))) (k + 2 + 3 * a + 2) (fxF pl bd (PF y a) 2 (TF n z a 2))) := by
  obtain ⟨h1, h2, h3⟩ := H
  refine ⟨?_, ?_, fun c hc => ?_⟩
  · rw [updN_ne _ _ (by omega), updN_ne _ _ (by omega)]
    exact h1
  · rw [updN_ne _ _ (by omega), updN_ne _ _ (by omega)]
    exact h2
  · obtain ⟨g1, g2, g3⟩ := h3 c hc
    refine ⟨?_, fun w => ?_, fun w => ?_⟩
    · rw [updN_ne _ _ (by omega), updN_ne _ _ (by omega)]
      exact g1
    · by_cases q : c = a
      · subst q
        refine ⟨?_, ?_⟩
        · rw [updN_ne _ _ (by omega), updN_same]
        · rw [updN_same]
      · obtain ⟨x1, x2⟩ := g2 (by omega)
        refine ⟨?_, ?_⟩
        · rw [updN_ne _ _ (by omega), updN_ne _ _ (by omega)]
          exact x1
        · rw [updN_ne _ _ (by omega), updN_ne _ _ (by omega)]
          exact x2
    · obtain ⟨x1, x2⟩ := g3 (by omega)
      refine ⟨?_, ?_⟩
      · rw [updN_ne _ _ (by omega), updN_ne _ _ (by omega)]
        exact x1
      · rw [updN_ne _ _ (by omega), updN_ne _ _ (by omega)]
        exact x2
section RULES2
variable {h0 : Nat → MC} {post : Option Value → (Nat → MC) → Prop} {n0 y z k many bd a cost mask : Nat} {rv pl w : Nat → Nat}
abbrev rlB (y z k many bd a i : Nat) : List (Nat × Value) := [(0, .ref 0), (1, .int (nI y)), (2, .int (nI z)), (3, .ref 178), (4, .ref 180), (5, .ref 181), (6, .int (nI k)), (7, .int (nI many)), (8, .int (nI bd)), (9, .int (nI a)), (10, .int (nI i))]
set_option maxRecDepth 20000 in
/-- the literals, from 50 on -/
theorem rl_lits (hP : h0 180 = .inl (.int, 6, .inl (vI pl))) (hW : h0 181 = .inl (.int, 3, .inl (vI w))) (hy : y < 2147483648) (hz : z < 2147483648) (hm : many ≤ 3) (hk : k + 16 ≤ 64) (hplt : ∀ q, q < 6 → pl q < 3) (hn1 : 1 ≤ w 0) (hn6 : w 0 ≤ 6)
    (kk : ∀ bd rv, AJ (w 0) y z k cost pl (many + 1) bd rv → MW M_L_rules 9 0 0 n0 post 263 (rlL y z k many bd (many + 1)) [] (hR h0 rv) n0 0) :
    ∀ j a bd rv, 1 ≤ a → j + a = many + 1 → AJ (w 0) y z k cost pl a bd rv → MW M_L_rules 9 0 0 n0 post 50 (rlL y z k many bd a) [] (hR h0 rv) n0 0 := by
  intro j
  induction j with
  | zero =>
    intro a bd rv h1 he hA
    obtain rfl : a = many + 1 := by omega
    refine mw_iload rfl rfl ?_
    refine mw_iload rfl rfl ?_
    refine mw_n_gt rfl (by omega) (by omega) (fun e1 => ?_) (fun e1 => ?_)
    · exact kk bd rv hA
    · omega
  | succ j ih =>
    intro a bd rv h1 he hA
    refine mw_iload rfl rfl ?_
    refine mw_iload rfl rfl ?_
    refine mw_n_gt rfl (by omega) (by omega) (fun e1 => ?_) (fun e1 => ?_)
    · omega
    · exact rl_lit hP hW hy hz h1 (by omega) hk hA.2.2.2.2.1 hplt hn1 hn6 rfl (fun bd' hb hx => ih (a + 1) bd' _ (by omega) (by omega) (hA.step h1 (by omega) hb hx))
set_option maxRecDepth 20000 in
/-- the head, from 263 on -/
theorem rl_head (hP : h0 180 = .inl (.int, 6, .inl (vI pl))) (hW : h0 181 = .inl (.int, 3, .inl (vI w))) (hy : y < 2147483648) (hz : z < 2147483648) (hk : k + 16 ≤ 64)
    (kk : MW M_L_rules 9 0 0 n0 post 338 (rlL y z k many bd 0) [] (hR h0 (updN (updN (updN rv (k + 2) (1 + y / 2 ^ 20 % 5)) (k + 3) (if z / 2 ^ 20 % 4 < 3 then 6 + z / 2 ^ 20 % 4 else 0)) (k + 4) (if z / 2 ^ 23 % 4 < 3 then 6 + z / 2 ^ 23 % 4 else 0))) n0 0) : MW M_L_rules 9 0 0 n0 post 263 (rlL y z k many bd a) [] (hR h0 rv) n0 0 := by
  have hsy : ∀ j, y / 2 ^ j < 2147483648 := fun j => Nat.lt_of_le_of_lt (Nat.div_le_self _ _) hy
  have hsz : ∀ j, z / 2 ^ j < 2147483648 := fun j => Nat.lt_of_le_of_lt (Nat.div_le_self _ _) hz
  have g1 : z / 2 ^ 20 % 4 < 4 := Nat.mod_lt _ (by omega)
  have g2 : z / 2 ^ 23 % 4 < 4 := Nat.mod_lt _ (by omega)
  have k2 : ∀ h1, h1 = (if z / 2 ^ 20 % 4 < 3 then 6 + z / 2 ^ 20 % 4 else 0) → MW M_L_rules 9 0 0 n0 post 305 (rlL y z k many bd a) [.int (nI h1), .int (nI (k + 3)), .ref 178] (hR h0 (updN rv (k + 2) (1 + y / 2 ^ 20 % 5))) n0 0 := by
    intro h1 e1
    have k3 : ∀ h2, h2 = (if z / 2 ^ 23 % 4 < 3 then 6 + z / 2 ^ 23 % 4 else 0) → MW M_L_rules 9 0 0 n0 post 334 (rlL y z k many bd a) [.int (nI h2), .int (nI (k + 4)), .ref 178] (hR h0 (updN (updN rv (k + 2) (1 + y / 2 ^ 20 % 5)) (k + 3) h1)) n0 0 := by
      intro h2 e2
      rw [e1, e2]
      refine mw_iast_m rfl (by first | rfl | exact hP | exact hW) (by omega) (by omega) ?_
      first | rw [vI_upd] | rw [vI_updv] | skip
      refine mw_iconst (v := nI 0) rfl (by decide) ?_
      refine mw_istore rfl (Nat.le_of_ble_eq_true rfl) ?_
      exact mw_locals rfl kk
    refine mw_iast_m rfl (by first | rfl | exact hP | exact hW) (by omega) (by omega) ?_
    first | rw [vI_upd] | rw [vI_updv] | skip
    refine mw_aload_n (i := 3) rfl rfl rfl ?_
    refine mw_iload rfl rfl ?_
    refine mw_iconst (v := nI 4) rfl (by decide) ?_
    first | refine mw_nadd rfl ?_ | refine mw_iadd rfl ?_
    refine mw_iload_n (i := 2) rfl rfl rfl ?_
    refine mw_bipush (v := nI 23) rfl (by decide) ?_
    refine mw_nshr rfl hz (by omega) ?_
    refine mw_iconst (v := nI 4) rfl (by decide) ?_
    refine mw_nrem rfl (hsz _) (by omega) (by omega) ?_
    refine mw_iconst (v := nI 3) rfl (by decide) ?_
    refine mw_n_ge rfl (by omega) (by omega) (fun f1 => ?_) (fun f1 => ?_)
    · refine mw_iconst (v := nI 0) rfl (by decide) ?_
      exact k3 0 (if_neg (by omega)).symm
    · refine mw_bipush (v := nI 6) rfl (by decide) ?_
      refine mw_iload_n (i := 2) rfl rfl rfl ?_
      refine mw_bipush (v := nI 23) rfl (by decide) ?_
      refine mw_nshr rfl hz (by omega) ?_
      refine mw_iconst (v := nI 4) rfl (by decide) ?_
      refine mw_nrem rfl (hsz _) (by omega) (by omega) ?_
      first | refine mw_nadd rfl ?_ | refine mw_iadd rfl ?_
      refine mw_goto rfl ?_
      exact k3 _ (if_pos f1).symm
  refine mw_aload_n (i := 3) rfl rfl rfl ?_
  refine mw_iload rfl rfl ?_
  refine mw_iconst (v := nI 2) rfl (by decide) ?_
  first | refine mw_nadd rfl ?_ | refine mw_iadd rfl ?_
  refine mw_iconst (v := nI 1) rfl (by decide) ?_
  refine mw_iload_n (i := 1) rfl rfl rfl ?_
  refine mw_bipush (v := nI 20) rfl (by decide) ?_
  refine mw_nshr rfl hy (by omega) ?_
  refine mw_iconst (v := nI 5) rfl (by decide) ?_
  refine mw_nrem rfl (hsy _) (by omega) (by omega) ?_
  first | refine mw_nadd rfl ?_ | refine mw_iadd rfl ?_
  refine mw_iast_m rfl (by first | rfl | exact hP | exact hW) (by omega) (by omega) ?_
  first | rw [vI_upd] | rw [vI_updv] | skip
  refine mw_aload_n (i := 3) rfl rfl rfl ?_
  refine mw_iload rfl rfl ?_
  refine mw_iconst (v := nI 3) rfl (by decide) ?_
  first | refine mw_nadd rfl ?_ | refine mw_iadd rfl ?_
  refine mw_iload_n (i := 2) rfl rfl rfl ?_
  refine mw_bipush (v := nI 20) rfl (by decide) ?_
  refine mw_nshr rfl hz (by omega) ?_
  refine mw_iconst (v := nI 4) rfl (by decide) ?_
  refine mw_nrem rfl (hsz _) (by omega) (by omega) ?_
  refine mw_iconst (v := nI 3) rfl (by decide) ?_
  refine mw_n_ge rfl (by omega) (by omega) (fun f1 => ?_) (fun f1 => ?_)
  · refine mw_iconst (v := nI 0) rfl (by decide) ?_
    exact k2 0 (if_neg (by omega)).symm
  · refine mw_bipush (v := nI 6) rfl (by decide) ?_
    refine mw_iload_n (i := 2) rfl rfl rfl ?_
    refine mw_bipush (v := nI 20) rfl (by decide) ?_
    refine mw_nshr rfl hz (by omega) ?_
    refine mw_iconst (v := nI 4) rfl (by decide) ?_
    refine mw_nrem rfl (hsz _) (by omega) (by omega) ?_
    first | refine mw_nadd rfl ?_ | refine mw_iadd rfl ?_
    refine mw_goto rfl ?_
    exact k2 _ (if_pos f1).symm
set_option maxRecDepth 20000 in
/-- one term is mended, from 348 on -/
theorem rl_fix {i p t : Nat} (hP : h0 180 = .inl (.int, 6, .inl (vI pl))) (hi : i = 1 ∨ i = 2) (ha : a ≤ 3) (hk : k + 16 ≤ 64) (hbd : bd < 8) (hp : rv (k + 2 + 3 * a) = p) (hp6 : p < 6) (hplt : pl p < 3) (ht : rv (k + 2 + 3 * a + i) = t) (ht9 : t < 9)
    (kk : MW M_L_rules 9 0 0 n0 post 348 (rlB y z k many bd a (i + 1)) [] (hR h0 (updN rv (k + 2 + 3 * a + i) (fxF pl bd p i t))) n0 0) : MW M_L_rules 9 0 0 n0 post 348 (rlB y z k many bd a i) [] (hR h0 rv) n0 0 := by
  have hat : vI rv (k + 2 + 3 * a + i) = nI t := congrArg nI ht
  have k1 : ∀ x, x = fxF pl bd p i t → MW M_L_rules 9 0 0 n0 post 430 (rlB y z k many bd a i ++ [(11, .int (nI (k + 2 + 3 * a + i)))]) [.int (nI x), .int (nI (k + 2 + 3 * a + i)), .ref 178] (hR h0 rv) n0 0 := by
    intro x hx
    rw [hx]
    refine mw_iast_m rfl (by first | rfl | exact hP | exact hW) (by omega) (by omega) ?_
    first | rw [vI_upd] | rw [vI_updv] | skip
    first | refine mw_ninc rfl rfl (Nat.le_of_ble_eq_true rfl) ?_ | refine mw_iinc rfl rfl rfl (Nat.le_of_ble_eq_true rfl) ?_
    refine mw_goto rfl ?_
    exact mw_locals rfl kk
  have kt : fxF pl bd p i t = t → MW M_L_rules 9 0 0 n0 post 426 (rlB y z k many bd a i ++ [(11, .int (nI (k + 2 + 3 * a + i)))]) [.int (nI (k + 2 + 3 * a + i)), .ref 178] (hR h0 rv) n0 0 := by
    intro e
    refine mw_aload_n (i := 3) rfl rfl rfl ?_
    refine mw_iload rfl rfl ?_
    refine mw_iald_v rfl (by first | rfl | exact hP | exact hW) (by omega) (by omega) hat ?_
    exact k1 t e.symm
  have k9 : ¬ (i = 2 ∧ pl p = 1) → MW M_L_rules 9 0 0 n0 post 399 (rlB y z k many bd a i ++ [(11, .int (nI (k + 2 + 3 * a + i)))]) [.int (nI (k + 2 + 3 * a + i)), .ref 178] (hR h0 rv) n0 0 := by
    intro hne
    refine mw_aload_n (i := 3) rfl rfl rfl ?_
    refine mw_iload rfl rfl ?_
    refine mw_iald_v rfl (by first | rfl | exact hP | exact hW) (by omega) (by omega) hat ?_
    refine mw_iconst (v := nI 5) rfl (by decide) ?_
    refine mw_n_le rfl (by omega) (by omega) (fun e1 => ?_) (fun e1 => ?_)
    · refine kt ?_
      unfold fxF
      rw [if_neg hne, if_neg (by omega)]
    · refine mw_iload rfl rfl ?_
      refine mw_aload_n (i := 3) rfl rfl rfl ?_
      refine mw_iload rfl rfl ?_
      refine mw_iald_v rfl (by first | rfl | exact hP | exact hW) (by omega) (by omega) hat ?_
      refine mw_bipush (v := nI 6) rfl (by decide) ?_
      first | refine mw_nsub rfl (show 6 ≤ t by omega) ?_ | refine mw_isub rfl ?_
      refine mw_nshr rfl (by omega) (by omega) ?_
      refine mw_iconst (v := nI 1) rfl (by decide) ?_
      first | refine mw_nand rfl ?_ | refine mw_iand rfl ?_
      rw [Nat.and_one_is_mod]
      refine mw_z_ne rfl (by omega) (fun e2 => ?_) (fun e2 => ?_)
      · refine kt ?_
        unfold fxF
        rw [if_neg hne, if_neg (fun g => e2 g.2)]
      · refine mw_iconst (v := nI 0) rfl (by decide) ?_
        refine mw_goto rfl ?_
        refine k1 0 ?_
        unfold fxF
        rw [if_neg hne, if_pos ⟨by omega, e2⟩]
  refine mw_iload rfl rfl ?_
  refine mw_iconst (v := nI 3) rfl (by decide) ?_
  refine mw_n_ge rfl (by omega) (by omega) (fun e0 => ?_) (fun e0 => ?_)
  · omega
  refine mw_iload rfl rfl ?_
  refine mw_iconst (v := nI 2) rfl (by decide) ?_
  first | refine mw_nadd rfl ?_ | refine mw_iadd rfl ?_
  refine mw_iconst (v := nI 3) rfl (by decide) ?_
  refine mw_iload rfl rfl ?_
  first | refine mw_nmul rfl ?_ | refine mw_imul rfl ?_
  first | refine mw_nadd rfl ?_ | refine mw_iadd rfl ?_
  refine mw_iload rfl rfl ?_
  first | refine mw_nadd rfl ?_ | refine mw_iadd rfl ?_
  refine mw_istore rfl (Nat.le_of_ble_eq_true rfl) ?_
  refine mw_aload_n (i := 3) rfl rfl rfl ?_
  refine mw_iload rfl rfl ?_
  refine mw_iload rfl rfl ?_
  refine mw_iconst (v := nI 2) rfl (by decide) ?_
  refine mw_locals (L2 := rlB y z k many bd a i ++ [(11, .int (nI (k + 2 + 3 * a + i)))]) rfl ?_
  refine mw_n_ne rfl (by omega) (by omega) (fun e1 => ?_) (fun e1 => ?_)
  · exact k9 (fun g => e1 g.1)
  · refine mw_aload rfl rfl ?_
    refine mw_aload_n (i := 3) rfl rfl rfl ?_
    refine mw_iload rfl rfl ?_
    refine mw_iconst (v := nI 2) rfl (by decide) ?_
    first | refine mw_nadd rfl ?_ | refine mw_iadd rfl ?_
    refine mw_iconst (v := nI 3) rfl (by decide) ?_
    refine mw_iload rfl rfl ?_
    first | refine mw_nmul rfl ?_ | refine mw_imul rfl ?_
    first | refine mw_nadd rfl ?_ | refine mw_iadd rfl ?_
    refine mw_iald_v rfl (by first | rfl | exact hP | exact hW) (by omega) (by omega) (show vI rv (k + 2 + 3 * a) = nI p from congrArg nI hp) ?_
    refine mw_iald_v rfl (by first | rfl | exact hP | exact hW) (by omega) (by omega) (vI_at pl p) ?_
    refine mw_iconst (v := nI 1) rfl (by decide) ?_
    refine mw_n_ne rfl (by omega) (by omega) (fun e2 => ?_) (fun e2 => ?_)
    · exact k9 (fun g => e2 g.2)
    · refine mw_iconst (v := nI 0) rfl (by decide) ?_
      refine mw_goto rfl ?_
      refine k1 0 ?_
      unfold fxF
      rw [if_pos ⟨e1, e2⟩]
set_option maxRecDepth 20000 in
/-- all terms are mended, from 338 on -/
theorem rl_mend {n : Nat} (hP : h0 180 = .inl (.int, 6, .inl (vI pl))) (hn : 1 ≤ n) (hm : many ≤ 3) (hk : k + 16 ≤ 64) (hbd : bd < 8) (hplt : ∀ q, q < 6 → pl q < 3)
    (kk : ∀ rv, BJ n y z k cost many mask bd pl (many + 1) rv → MW M_L_rules 9 0 0 n0 post 443 (rlL y z k many bd (many + 1)) [] (hR h0 rv) n0 0) :
    ∀ j a rv, j + a = many + 1 → BJ n y z k cost many mask bd pl a rv → MW M_L_rules 9 0 0 n0 post 338 (rlL y z k many bd a) [] (hR h0 rv) n0 0 := by
  intro j
  induction j with
  | zero =>
    intro a rv he hB
    obtain rfl : a = many + 1 := by omega
    refine mw_iload rfl rfl ?_
    refine mw_iload rfl rfl ?_
    refine mw_n_gt rfl (by omega) (by omega) (fun e1 => ?_) (fun e1 => ?_)
    · exact kk rv hB
    · omega
  | succ j ih =>
    intro a rv he hB
    obtain ⟨g1, g2, g3⟩ := hB.2.2 a (by omega)
    obtain ⟨g4, g5⟩ := g3 (Nat.le_refl _)
    have t1 := (TF_ok hn z a 1).1
    have t2 := (TF_ok hn z a 2).1
    have hp6 := PF_lt y a
    refine mw_iload rfl rfl ?_
    refine mw_iload rfl rfl ?_
    refine mw_n_gt rfl (by omega) (by omega) (fun e1 => ?_) (fun e1 => ?_)
    · omega
    refine mw_iconst (v := nI 1) rfl (by decide) ?_
    refine mw_istore rfl (Nat.le_of_ble_eq_true rfl) ?_
    refine mw_locals (L2 := rlB y z k many bd a 1) rfl ?_
    refine rl_fix (i := 1) hP (Or.inl rfl) (by omega) hk hbd g1 hp6 (hplt _ hp6) g4 t1 ?_
    refine rl_fix (i := 2) hP (Or.inr rfl) (by omega) hk hbd ((updN_ne _ _ (by omega)).trans g1) hp6 (hplt _ hp6) ((updN_ne _ _ (by omega)).trans g5) t2 ?_
    refine mw_iload rfl rfl ?_
    refine mw_iconst (v := nI 3) rfl (by decide) ?_
    refine mw_n_ge rfl (by omega) (by omega) (fun e2 => ?_) (fun e2 => ?_)
    · first | refine mw_ninc rfl rfl (Nat.le_of_ble_eq_true rfl) ?_ | refine mw_iinc rfl rfl rfl (Nat.le_of_ble_eq_true rfl) ?_
      refine mw_goto rfl ?_
      exact mw_locals rfl (ih (a + 1) _ (by omega) (hB.step hm (by omega)))
    · omega
end RULES2
