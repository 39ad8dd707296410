/-! P30: rules, the literals -/
def ngF (y c : Nat) : Bool := decide (y / 2 ^ (3 * c + 3) % 4 = 0)
def prF (y c : Nat) : Nat := if ngF y c = true then y / 2 ^ (5 * c) % 2 else y / 2 ^ (4 * c + 2) % 4
def ttF (n z c i : Nat) : Nat := if z / 2 ^ (4 * c + 2 * i) % 5 < 3 then 6 + z / 2 ^ (4 * c + 2 * i) % 5 else z / 2 ^ (4 * c + 2 * i) % 5 % n
theorem prF_lt (y c : Nat) : prF y c < 6 := by
  unfold prF
  split
  · exact Nat.lt_of_lt_of_le (Nat.mod_lt _ (by omega)) (by omega)
  · exact Nat.lt_of_lt_of_le (Nat.mod_lt _ (by omega)) (by omega)
theorem ttF_ok {n : Nat} (h1 : 1 ≤ n) (z c i : Nat) : TmO n (ttF n z c i) ∧ (ttF n z c i < n ∨ 5 < ttF n z c i) := by
  unfold ttF TmO
  have h5 : z / 2 ^ (4 * c + 2 * i) % 5 < 5 := Nat.mod_lt _ (by omega)
  generalize z / 2 ^ (4 * c + 2 * i) % 5 = t at *
  have hm : t % n < n := Nat.mod_lt _ (by omega)
  have hm2 : t % n ≤ t := Nat.mod_le _ _
  split <;> omega
theorem p8 : ∀ m, m < 3 → 1 * 2 ^ m < 8 := by decide
theorem p16 : ∀ m, m < 4 → 1 * 2 ^ m < 16 := by decide
abbrev hR (h0 : Nat → MC) (rv : Nat → Nat) : Nat → MC := mov [(178, .inl (.int, 64, .inl (vI rv)))] h0
abbrev rlL (y z k many bd a : Nat) : List (Nat × Value) := [(0, .ref 0), (1, .int (nI y)), (2, .int (nI z)), (3, .ref 178), (4, .ref 180), (5, .ref 181), (6, .int (nI k)), (7, .int (nI many)), (8, .int (nI bd)), (9, .int (nI a))]
abbrev rlM (y z k many bd a ng i : Nat) : List (Nat × Value) := [(0, .ref 0), (1, .int (nI y)), (2, .int (nI z)), (3, .ref 178), (4, .ref 180), (5, .ref 181), (6, .int (nI k)), (7, .int (nI many)), (8, .int (nI bd)), (9, .int (nI a)), (10, .int (nI ng)), (11, .int (nI i))]
section RULES
variable {h0 : Nat → MC} {post : Option Value → (Nat → MC) → Prop} {n0 y z k many bd a : Nat} {rv pl w : Nat → Nat}
set_option maxRecDepth 20000 in
/-- a term, from 146 on -/
theorem rl_term {ng i : Nat} (hP : h0 180 = .inl (.int, 6, .inl (vI pl))) (hW : h0 181 = .inl (.int, 3, .inl (vI w))) (hz : z < 2147483648) (ha : a ≤ 3) (hi : i = 1 ∨ i = 2) (hk : k + 16 ≤ 64) (hbd : bd < 8) (hng : ng < 2) (hpr : rv (k + 2 + 3 * a) < 6) (hpl : pl (rv (k + 2 + 3 * a)) < 3) (hn1 : 1 ≤ w 0) (hn6 : w 0 ≤ 6)
    (kk : ∀ bd', bd' < 8 → (∀ x, x < 3 → bd'.testBit x = true → bd.testBit x = true ∨ (ng = 0 ∧ (i = 1 ∨ pl (rv (k + 2 + 3 * a)) = 2) ∧ ttF (w 0) z a i = 6 + x)) → MW M_L_rules 9 0 0 n0 post 140 (rlM y z k many bd' a ng (i + 1)) [] (hR h0 (updN rv (k + 2 + 3 * a + i) (ttF (w 0) z a i))) n0 0) : MW M_L_rules 9 0 0 n0 post 146 (rlM y z k many bd a ng i) [] (hR h0 rv) n0 0 := by
  have hsz : ∀ j, z / 2 ^ j < 2147483648 := fun j => Nat.lt_of_le_of_lt (Nat.div_le_self _ _) hz
  have ht5 : z / 2 ^ (4 * a + 2 * i) % 5 < 5 := Nat.mod_lt _ (by omega)
  obtain ⟨htO, -⟩ := ttF_ok hn1 z a i
  have key : ∀ tt, tt = ttF (w 0) z a i → ∀ v12, MW M_L_rules 9 0 0 n0 post 182 (rlM y z k many bd a ng i ++ [(12, v12)]) [.int (nI tt)] (hR h0 rv) n0 0 := by
    intro tt htt v12
    have h9 : tt < 9 := by
      rw [htt]
      exact htO.1
    have kOr : ∀ x, x < 8 → (∀ j, j < 3 → x.testBit j = true → ng = 0 ∧ (i = 1 ∨ pl (rv (k + 2 + 3 * a)) = 2) ∧ tt = 6 + j) → MW M_L_rules 9 0 0 n0 post 232 (rlM y z k many bd a ng i ++ [(12, .int (nI tt))]) [.int (nI x), .int (nI bd)] (hR h0 rv) n0 0 := by
      intro x hx hxb
      first | refine mw_nior rfl ?_ | refine mw_ior rfl ?_
      refine mw_istore rfl (Nat.le_of_ble_eq_true rfl) ?_
      refine mw_aload_n (i := 3) rfl rfl rfl ?_
      refine mw_iload rfl rfl ?_
      refine mw_iconst (v := nI 2) rfl (by decide) ?_
      first | refine mw_nadd rfl ?_ | refine mw_iadd rfl ?_
      refine mw_iconst (v := nI 3) rfl (by decide) ?_
      refine mw_iload rfl rfl ?_
      first | refine mw_nmul rfl ?_ | refine mw_imul rfl ?_
      first | refine mw_nadd rfl ?_ | refine mw_iadd rfl ?_
      refine mw_iload rfl rfl ?_
      first | refine mw_nadd rfl ?_ | refine mw_iadd rfl ?_
      refine mw_iload rfl rfl ?_
      refine mw_iast_m rfl (by first | rfl | exact hP | exact hW) (by omega) (by omega) ?_
      first | rw [vI_upd] | rw [vI_updv] | skip
      first | refine mw_ninc rfl rfl (Nat.le_of_ble_eq_true rfl) ?_ | refine mw_iinc rfl rfl rfl (Nat.le_of_ble_eq_true rfl) ?_
      refine mw_goto rfl ?_
      have hb2 : bd ||| x < 8 := Nat.or_lt_two_pow (n := 3) hbd hx
      refine mw_locals (L2 := rlM y z k many (bd ||| x) a ng (i + 1)) rfl ?_
      rw [htt]
      refine kk (bd ||| x) hb2 fun j hj hb => ?_
      rw [Nat.testBit_or, Bool.or_eq_true] at hb
      rcases hb with hb | hb
      · exact Or.inl hb
      · obtain ⟨g1, g2, g3⟩ := hxb j hj hb
        exact Or.inr ⟨g1, g2, by rw [← htt]; exact g3⟩
    have k0 : MW M_L_rules 9 0 0 n0 post 231 (rlM y z k many bd a ng i ++ [(12, .int (nI tt))]) [.int (nI bd)] (hR h0 rv) n0 0 := by
      refine mw_iconst (v := nI 0) rfl (by decide) ?_
      exact kOr 0 (by omega) (fun j hj hb => by rw [Nat.zero_testBit] at hb; cases hb)
    refine mw_istore rfl (Nat.le_of_ble_eq_true rfl) ?_
    refine mw_locals (L2 := rlM y z k many bd a ng i ++ [(12, .int (nI tt))]) rfl ?_
    refine mw_iload rfl rfl ?_
    refine mw_iload rfl rfl ?_
    refine mw_iconst (v := nI 5) rfl (by decide) ?_
    refine mw_n_le rfl (by omega) (by omega) (fun e1 => ?_) (fun e1 => ?_)
    · exact k0
    have k1 : ng = 0 → (i = 1 ∨ pl (rv (k + 2 + 3 * a)) = 2) → MW M_L_rules 9 0 0 n0 post 221 (rlM y z k many bd a ng i ++ [(12, .int (nI tt))]) [.int (nI bd)] (hR h0 rv) n0 0 := by
      intro g1 g2
      refine mw_iconst (v := nI 1) rfl (by decide) ?_
      refine mw_iload rfl rfl ?_
      refine mw_bipush (v := nI 6) rfl (by decide) ?_
      first | refine mw_nsub rfl (show 6 ≤ tt by omega) ?_ | refine mw_isub rfl ?_
      refine mw_nshl rfl (by omega) (Nat.lt_of_lt_of_le (p8 _ (by omega)) (by decide)) ?_
      refine mw_goto rfl ?_
      refine kOr _ (p8 _ (by omega)) fun j hj hb => ?_
      rw [Nat.one_mul, Nat.testBit_two_pow] at hb
      have := of_decide_eq_true hb
      exact ⟨g1, g2, by omega⟩
    refine mw_iload rfl rfl ?_
    refine mw_z_ne rfl (by omega) (fun e2 => ?_) (fun e2 => ?_)
    · exact k0
    refine mw_iload rfl rfl ?_
    refine mw_iconst (v := nI 1) rfl (by decide) ?_
    refine mw_n_eq rfl (by omega) (by omega) (fun e3 => ?_) (fun e3 => ?_)
    · exact k1 e2 (Or.inl e3)
    refine mw_aload rfl rfl ?_
    refine mw_aload_n (i := 3) rfl rfl rfl ?_
    refine mw_iload rfl rfl ?_
    refine mw_iconst (v := nI 2) rfl (by decide) ?_
    first | refine mw_nadd rfl ?_ | refine mw_iadd rfl ?_
    refine mw_iconst (v := nI 3) rfl (by decide) ?_
    refine mw_iload rfl rfl ?_
    first | refine mw_nmul rfl ?_ | refine mw_imul rfl ?_
    first | refine mw_nadd rfl ?_ | refine mw_iadd rfl ?_
    refine mw_iald_v rfl (by first | rfl | exact hP | exact hW) (by omega) (by omega) (vI_at rv (k + 2 + 3 * a)) ?_
    refine mw_iald_v rfl (by first | rfl | exact hP | exact hW) (by omega) (by omega) (vI_at pl _) ?_
    refine mw_iconst (v := nI 2) rfl (by decide) ?_
    refine mw_n_ne rfl (by omega) (by omega) (fun e4 => ?_) (fun e4 => ?_)
    · exact k0
    · exact k1 e2 (Or.inr e4)
  refine mw_iload_n (i := 2) rfl rfl rfl ?_
  refine mw_iconst (v := nI 4) rfl (by decide) ?_
  refine mw_iload rfl rfl ?_
  first | refine mw_nmul rfl ?_ | refine mw_imul rfl ?_
  refine mw_iconst (v := nI 2) rfl (by decide) ?_
  refine mw_iload rfl rfl ?_
  first | refine mw_nmul rfl ?_ | refine mw_imul rfl ?_
  first | refine mw_nadd rfl ?_ | refine mw_iadd rfl ?_
  refine mw_nshr rfl hz (by omega) ?_
  refine mw_iconst (v := nI 5) rfl (by decide) ?_
  refine mw_nrem rfl (hsz _) (by omega) (by omega) ?_
  refine mw_istore rfl (Nat.le_of_ble_eq_true rfl) ?_
  refine mw_iload rfl rfl ?_
  refine mw_iconst (v := nI 3) rfl (by decide) ?_
  refine mw_n_ge rfl (by omega) (by omega) (fun e0 => ?_) (fun e0 => ?_)
  · refine mw_iload rfl rfl ?_
    refine mw_aload rfl rfl ?_
    refine mw_iconst (v := nI 0) rfl (by decide) ?_
    refine mw_iald_v rfl (by first | rfl | exact hP | exact hW) (by omega) (by omega) (vI_at w 0) ?_
    refine mw_nrem rfl (by omega) (by omega) (by omega) ?_
    exact mw_locals rfl (key _ (if_neg (by omega)).symm (.int (nI (z / 2 ^ (4 * a + 2 * i) % 5))))
  · refine mw_bipush (v := nI 6) rfl (by decide) ?_
    refine mw_iload rfl rfl ?_
    first | refine mw_nadd rfl ?_ | refine mw_iadd rfl ?_
    refine mw_goto rfl ?_
    exact mw_locals rfl (key _ (if_pos e0).symm (.int (nI (z / 2 ^ (4 * a + 2 * i) % 5))))
/-- what the row is behind a literal -/
def rvL (n y z k a mask : Nat) (rv : Nat → Nat) : Nat → Nat := updN (updN (updN (updN rv (k + 2 + 3 * a) (prF y a)) (k + 14) (mask ||| (if ngF y a = true then 1 * 2 ^ a else 0))) (k + 2 + 3 * a + 1) (ttF n z a 1)) (k + 2 + 3 * a + 2) (ttF n z a 2)
set_option maxRecDepth 20000 in
/-- a literal, from 57 on -/
theorem rl_lit {mask : Nat} (hP : h0 180 = .inl (.int, 6, .inl (vI pl))) (hW : h0 181 = .inl (.int, 3, .inl (vI w))) (hy : y < 2147483648) (hz : z < 2147483648) (ha1 : 1 ≤ a) (ha : a ≤ 3) (hk : k + 16 ≤ 64) (hbd : bd < 8) (hplt : ∀ q, q < 6 → pl q < 3) (hn1 : 1 ≤ w 0) (hn6 : w 0 ≤ 6) (hmask : rv (k + 14) = mask)
    (kk : ∀ bd', bd' < 8 → (∀ x, x < 3 → bd'.testBit x = true → bd.testBit x = true ∨ (ngF y a = false ∧ (ttF (w 0) z a 1 = 6 + x ∨ (pl (prF y a) = 2 ∧ ttF (w 0) z a 2 = 6 + x)))) → MW M_L_rules 9 0 0 n0 post 50 (rlL y z k many bd' (a + 1)) [] (hR h0 (rvL (w 0) y z k a mask rv)) n0 0) : MW M_L_rules 9 0 0 n0 post 57 (rlL y z k many bd a) [] (hR h0 rv) n0 0 := by
  have hsy : ∀ j, y / 2 ^ j < 2147483648 := fun j => Nat.lt_of_le_of_lt (Nat.div_le_self _ _) hy
  have hpr := prF_lt y a
  have inner : ∀ ng, ng < 2 → (ng = 0 → ngF y a = false) → MW M_L_rules 9 0 0 n0 post 140 (rlM y z k many bd a ng 1) [] (hR h0 (updN (updN rv (k + 2 + 3 * a) (prF y a)) (k + 14) (mask ||| (if ngF y a = true then 1 * 2 ^ a else 0)))) n0 0 := by
    intro ng hng hn0
    have e1 : updN (updN rv (k + 2 + 3 * a) (prF y a)) (k + 14) (mask ||| (if ngF y a = true then 1 * 2 ^ a else 0)) (k + 2 + 3 * a) = prF y a := by rw [updN_ne _ _ (by omega), updN_same]
    have e2 : updN (updN (updN rv (k + 2 + 3 * a) (prF y a)) (k + 14) (mask ||| (if ngF y a = true then 1 * 2 ^ a else 0))) (k + 2 + 3 * a + 1) (ttF (w 0) z a 1) (k + 2 + 3 * a) = prF y a := by rw [updN_ne _ _ (by omega), e1]
    refine mw_iload rfl rfl ?_
    refine mw_iconst (v := nI 3) rfl (by decide) ?_
    refine mw_n_ge rfl (by omega) (by omega) (fun f1 => ?_) (fun f1 => ?_)
    · omega
    refine rl_term (i := 1) hP hW hz ha (Or.inl rfl) hk hbd hng (by rw [e1]; exact hpr) (by rw [e1]; exact hplt _ hpr) hn1 hn6 (fun b1 hb1 hx1 => ?_)
    rw [e1] at hx1
    refine mw_iload rfl rfl ?_
    refine mw_iconst (v := nI 3) rfl (by decide) ?_
    refine mw_n_ge rfl (by omega) (by omega) (fun f2 => ?_) (fun f2 => ?_)
    · omega
    refine rl_term (i := 2) hP hW hz ha (Or.inr rfl) hk hb1 hng (by rw [e2]; exact hpr) (by rw [e2]; exact hplt _ hpr) hn1 hn6 (fun b2 hb2 hx2 => ?_)
    rw [e2] at hx2
    refine mw_iload rfl rfl ?_
    refine mw_iconst (v := nI 3) rfl (by decide) ?_
    refine mw_n_ge rfl (by omega) (by omega) (fun f3 => ?_) (fun f3 => ?_)
    · first | refine mw_ninc rfl rfl (Nat.le_of_ble_eq_true rfl) ?_ | refine mw_iinc rfl rfl rfl (Nat.le_of_ble_eq_true rfl) ?_
      refine mw_goto rfl ?_
      refine mw_locals rfl (kk b2 hb2 fun x hx hb => ?_)
      rcases hx2 x hx hb with g | ⟨g1, g2, g3⟩
      · rcases hx1 x hx g with g | ⟨g1, g2, g3⟩
        · exact Or.inl g
        · exact Or.inr ⟨hn0 g1, Or.inl g3⟩
      · rcases g2 with g2 | g2
        · omega
        · exact Or.inr ⟨hn0 g1, Or.inr ⟨g2, g3⟩⟩
    · omega
  refine mw_iload_n (i := 1) rfl rfl rfl ?_
  refine mw_iconst (v := nI 3) rfl (by decide) ?_
  refine mw_iload rfl rfl ?_
  first | refine mw_nmul rfl ?_ | refine mw_imul rfl ?_
  refine mw_iconst (v := nI 3) rfl (by decide) ?_
  first | refine mw_nadd rfl ?_ | refine mw_iadd rfl ?_
  refine mw_nshr rfl hy (by omega) ?_
  refine mw_iconst (v := nI 4) rfl (by decide) ?_
  refine mw_nrem rfl (hsy _) (by omega) (by omega) ?_
  have hq4 : y / 2 ^ (3 * a + 3) % 4 < 4 := Nat.mod_lt _ (by omega)
  have hmm : updN rv (k + 2 + 3 * a) (prF y a) (k + 14) = mask := by rw [updN_ne _ _ (by omega), hmask]
  refine mw_z_ne rfl (by omega) (fun e0 => ?_) (fun e0 => ?_)
  · have hng : ngF y a = false := decide_eq_false e0
    have epr : y / 2 ^ (4 * a + 2) % 4 = prF y a := by
      unfold prF
      rw [hng]
      rfl
    refine mw_iconst (v := nI 0) rfl (by decide) ?_
    refine mw_istore rfl (Nat.le_of_ble_eq_true rfl) ?_
    refine mw_aload_n (i := 3) rfl rfl rfl ?_
    refine mw_iload rfl rfl ?_
    refine mw_iconst (v := nI 2) rfl (by decide) ?_
    first | refine mw_nadd rfl ?_ | refine mw_iadd rfl ?_
    refine mw_iconst (v := nI 3) rfl (by decide) ?_
    refine mw_iload rfl rfl ?_
    first | refine mw_nmul rfl ?_ | refine mw_imul rfl ?_
    first | refine mw_nadd rfl ?_ | refine mw_iadd rfl ?_
    refine mw_iload rfl rfl ?_
    refine mw_z_eq rfl (by omega) (fun e1 => ?_) (fun e1 => ?_)
    · refine mw_iload_n (i := 1) rfl rfl rfl ?_
      refine mw_iconst (v := nI 4) rfl (by decide) ?_
      refine mw_iload rfl rfl ?_
      first | refine mw_nmul rfl ?_ | refine mw_imul rfl ?_
      refine mw_iconst (v := nI 2) rfl (by decide) ?_
      first | refine mw_nadd rfl ?_ | refine mw_iadd rfl ?_
      refine mw_nshr rfl hy (by omega) ?_
      refine mw_iconst (v := nI 4) rfl (by decide) ?_
      refine mw_nrem rfl (hsy _) (by omega) (by omega) ?_
      rw [epr]
      refine mw_iast_m rfl (by first | rfl | exact hP | exact hW) (by omega) (by omega) ?_
      first | rw [vI_upd] | rw [vI_updv] | skip
      refine mw_aload_n (i := 3) rfl rfl rfl ?_
      refine mw_iload rfl rfl ?_
      refine mw_bipush (v := nI 14) rfl (by decide) ?_
      first | refine mw_nadd rfl ?_ | refine mw_iadd rfl ?_
      refine mw_dup2 rfl rfl rfl ?_
      refine mw_iald_v rfl (by first | rfl | exact hP | exact hW) (by omega) (by omega) (show vI (updN rv (k + 2 + 3 * a) (prF y a)) (k + 14) = nI mask from congrArg nI hmm) ?_
      refine mw_iload rfl rfl ?_
      refine mw_z_eq rfl (by omega) (fun e2 => ?_) (fun e2 => ?_)
      · refine mw_iconst (v := nI 0) rfl (by decide) ?_
        first | refine mw_nior rfl ?_ | refine mw_ior rfl ?_
        refine mw_iast_m rfl (by first | rfl | exact hP | exact hW) (by omega) (by omega) ?_
        first | rw [vI_upd] | rw [vI_updv] | skip
        refine mw_iconst (v := nI 1) rfl (by decide) ?_
        refine mw_istore rfl (Nat.le_of_ble_eq_true rfl) ?_
        have := inner 0 (by omega) (fun _ => hng)
        rw [hng] at this
        exact mw_locals rfl this
      · omega
    · omega
  · have hng : ngF y a = true := decide_eq_true e0
    have epr : y / 2 ^ (5 * a) % 2 = prF y a := by
      unfold prF
      rw [hng]
      rfl
    refine mw_iconst (v := nI 1) rfl (by decide) ?_
    refine mw_goto rfl ?_
    refine mw_istore rfl (Nat.le_of_ble_eq_true rfl) ?_
    refine mw_aload_n (i := 3) rfl rfl rfl ?_
    refine mw_iload rfl rfl ?_
    refine mw_iconst (v := nI 2) rfl (by decide) ?_
    first | refine mw_nadd rfl ?_ | refine mw_iadd rfl ?_
    refine mw_iconst (v := nI 3) rfl (by decide) ?_
    refine mw_iload rfl rfl ?_
    first | refine mw_nmul rfl ?_ | refine mw_imul rfl ?_
    first | refine mw_nadd rfl ?_ | refine mw_iadd rfl ?_
    refine mw_iload rfl rfl ?_
    refine mw_z_eq rfl (by omega) (fun e1 => ?_) (fun e1 => ?_)
    · omega
    · refine mw_iload_n (i := 1) rfl rfl rfl ?_
      refine mw_iconst (v := nI 5) rfl (by decide) ?_
      refine mw_iload rfl rfl ?_
      first | refine mw_nmul rfl ?_ | refine mw_imul rfl ?_
      refine mw_nshr rfl hy (by omega) ?_
      refine mw_iconst (v := nI 2) rfl (by decide) ?_
      refine mw_nrem rfl (hsy _) (by omega) (by omega) ?_
      refine mw_goto rfl ?_
      rw [epr]
      refine mw_iast_m rfl (by first | rfl | exact hP | exact hW) (by omega) (by omega) ?_
      first | rw [vI_upd] | rw [vI_updv] | skip
      refine mw_aload_n (i := 3) rfl rfl rfl ?_
      refine mw_iload rfl rfl ?_
      refine mw_bipush (v := nI 14) rfl (by decide) ?_
      first | refine mw_nadd rfl ?_ | refine mw_iadd rfl ?_
      refine mw_dup2 rfl rfl rfl ?_
      refine mw_iald_v rfl (by first | rfl | exact hP | exact hW) (by omega) (by omega) (show vI (updN rv (k + 2 + 3 * a) (prF y a)) (k + 14) = nI mask from congrArg nI hmm) ?_
      refine mw_iload rfl rfl ?_
      refine mw_z_eq rfl (by omega) (fun e2 => ?_) (fun e2 => ?_)
      · omega
      · refine mw_iconst (v := nI 1) rfl (by decide) ?_
        refine mw_iload rfl rfl ?_
        refine mw_nshl rfl (by omega) (Nat.lt_of_lt_of_le (p16 _ (by omega)) (by decide)) ?_
        refine mw_goto rfl ?_
        first | refine mw_nior rfl ?_ | refine mw_ior rfl ?_
        refine mw_iast_m rfl (by first | rfl | exact hP | exact hW) (by omega) (by omega) ?_
        first | rw [vI_upd] | rw [vI_updv] | skip
        refine mw_iconst (v := nI 1) rfl (by decide) ?_
        refine mw_istore rfl (Nat.le_of_ble_eq_true rfl) ?_
        have := inner 1 (by omega) (fun w => by omega)
        rw [hng] at this
        exact mw_locals rfl this
end RULES
