/-! P30: sound, the loops -/
/-- the last round so far: facts below the place, and the first i of the predicate q -/
def LaJ (D : LD) (n la q i : Nat) : Prop := la ≤ (mdl0 D.1).2 ∧ (∀ f, f < 36 * q → f < 216 → ∀ k, k ≤ (mdl0 D.1).2 → (mdl0 D.1).1 f = nI k → k ≤ la) ∧ ∀ a b, a * n + b < i → b < n → (D.1 (3 + q) = 1 → b = 0) → ∀ k, k ≤ (mdl0 D.1).2 → (mdl0 D.1).1 (36 * q + 6 * a + b) = nI k → k ≤ la
abbrev tF (D : LD) (q : Nat) : Nat → Nat := fun k => if (mdl0 D.1).1 (36 * q + k) < 0 then 0 else 1
section SOUND2
variable {D : LD} {qd : QD} {h0 h : Nat → MC} {post : Option Value → (Nat → MC) → Prop} {n0 n size al la q he i a b : Nat}
set_option maxRecDepth 20000 in
/-- a fact, from 162 on -/
theorem so_fact {f : Nat} (hS : SQ D qd) (hJ : SJ D h0 h) (hq : q < 6) (ha : a < D.1 0) (hb : b < D.1 0) (hb0 : D.1 (3 + q) = 1 → b = 0) (hf : f = 36 * q + 6 * a + b) (hla : la ≤ (mdl0 D.1).2)
    (kn : (mdl0 D.1).1 f < 0 → ∀ h1, SJ D h0 h1 → MW M_L_sound 9 0 0 n0 post 598 (soI n size al la 1 q (he + 0) i) [] h1 n0 0)
    (kp : ∀ k la', k ≤ (mdl0 D.1).2 → (mdl0 D.1).1 f = nI k → la' = (if k ≤ la then la else k) → ∀ h1, SJ D h0 h1 → MW M_L_sound 9 0 0 n0 post 598 (soI n size al la' 1 q (he + 1) i) [] h1 n0 0) : MW M_L_sound 9 0 0 n0 post 162 (soA n size al la 1 q he i a b) [] h n0 0 := by
  have hS2 := hS
  obtain ⟨hok, h3, hs, hQ, hVF⟩ := hS
  have hR := (mdl_MR D.1).2
  have hF := isF_of hok hq ha hb hb0
  rw [← hf] at hF
  have hf216 : f < 216 := by
    have := hok.2.1
    omega
  have hins := insN_le (hoV D.1) f (hoV D.1).1
  have h1728 := (hoV_ok hok).1
  have q_inst : ∀ h n, KSd D h → Sp M_X9_instances 8 0 0 [.ref 0, .int (nI q), .int (nI a), .int (nI b)] h n (KRet (fun r => r = some (.int (nI (insN (hoV D.1) f (hoV D.1).1)))) D h) := fun h n hK => by
    have := ko_inst (n := n) hK hF.1 hs
    rw [hF.2] at this
    exact this
  rcases (mdl_MR D.1).1 f with hm | ⟨k, hk, hm⟩
  · have hneg : (mdl0 D.1).1 f < 0 := by
      rw [hm]
      decide
    have hw : wrV D.1 (nI q) (nI a) (nI b) = -5 := wrV_5 hF.1 hs (by rw [hF.2]; exact hneg)
    have hi0 := ins_none hok hs hneg (hoV D.1).1 (Nat.le_refl _)
    refine mw_aload_n (i := 0) rfl rfl rfl ?_
    refine mw_iload rfl rfl ?_
    refine mw_iload rfl rfl ?_
    refine mw_iload rfl rfl ?_
    refine mw_askI (ko_wn (ko_round hJ.1 (nI q) (nI a) (nI b)) hw) hJ rfl ok_X9_round v_L_52 rfl rfl (Nat.le_of_ble_eq_true rfl) rfl (Nat.le_of_ble_eq_true rfl) (by omega) (by omega) (by omega) (fun h hJ => ?_)
    refine mw_istore rfl (Nat.le_of_ble_eq_true rfl) ?_
    refine mw_aload_n (i := 0) rfl rfl rfl ?_
    refine mw_iload rfl rfl ?_
    refine mw_iload rfl rfl ?_
    refine mw_iload rfl rfl ?_
    refine mw_askI (q_inst h n0 hJ.1) hJ rfl ok_X9_instances v_L_59 rfl rfl (Nat.le_of_ble_eq_true rfl) rfl (Nat.le_of_ble_eq_true rfl) (by omega) (by omega) (by omega) (fun h hJ => ?_)
    rw [hi0]
    refine mw_istore rfl (Nat.le_of_ble_eq_true rfl) ?_
    refine mw_iload rfl rfl ?_
    refine mw_iload rfl rfl ?_
    refine mw_if_lt rfl (fun e1 => ?_) (fun e1 => ?_)
    · refine mw_iconst (v := nI 0) rfl (by decide) ?_
      first | refine mw_nadd rfl ?_ | refine mw_iadd rfl ?_
      refine mw_istore rfl (Nat.le_of_ble_eq_true rfl) ?_
      refine mw_iload rfl rfl ?_
      refine mw_iload rfl rfl ?_
      refine mw_icmp_le rfl (fun e2 => ?_) (fun e2 => ?_)
      · refine mw_iload rfl rfl ?_
        refine mw_istore rfl (Nat.le_of_ble_eq_true rfl) ?_
        refine mw_iload rfl rfl ?_
        refine mw_if_ge rfl (fun e3 => ?_) (fun e3 => ?_)
        · exact absurd e3 (by decide)
        · refine mw_iload rfl rfl ?_
          refine mw_bipush (v := (-5)) rfl (by decide) ?_
          refine mw_icmp_ne rfl (fun e4 => ?_) (fun e4 => ?_)
          · exact absurd rfl e4
          refine mw_iload rfl rfl ?_
          refine mw_z_ne rfl (by omega) (fun e5 => ?_) (fun e5 => ?_)
          · exact absurd rfl e5
          refine mw_aload_n (i := 0) rfl rfl rfl ?_
          refine mw_iload rfl rfl ?_
          refine mw_iload rfl rfl ?_
          refine mw_iload rfl rfl ?_
          refine mw_askI (ko_wn (ko_cost hok hJ.1 hQ (nI q) (nI a) (nI b)) hw) hJ rfl ok_X9_cost v_L_62 rfl rfl (Nat.le_of_ble_eq_true rfl) rfl (Nat.le_of_ble_eq_true rfl) (by omega) (by omega) (by omega) (fun h hJ => ?_)
          refine mw_bipush (v := (-5)) rfl (by decide) ?_
          refine mw_icmp_ne rfl (fun e6 => ?_) (fun e6 => ?_)
          · exact absurd rfl e6
          refine mw_aload_n (i := 0) rfl rfl rfl ?_
          refine mw_iload rfl rfl ?_
          refine mw_iload rfl rfl ?_
          refine mw_iload rfl rfl ?_
          refine mw_iconst (v := nI 0) rfl (by decide) ?_
          refine mw_askI (ko_wn (ko_least hok hJ.1 hQ hF.1 (w := 0) (by omega)) hw) hJ rfl ok_X9_least v_L_65 rfl rfl (Nat.le_of_ble_eq_true rfl) rfl (Nat.le_of_ble_eq_true rfl) (by omega) (by omega) (by omega) (fun h hJ => ?_)
          refine mw_bipush (v := (-5)) rfl (by decide) ?_
          refine mw_icmp_ne rfl (fun e7 => ?_) (fun e7 => ?_)
          · exact absurd rfl e7
          refine mw_iconst (v := nI 1) rfl (by decide) ?_
          refine mw_goto rfl ?_
          refine mw_istore rfl (Nat.le_of_ble_eq_true rfl) ?_
          refine mw_goto rfl ?_
          exact mw_locals rfl (kn hneg h hJ)
      · exact absurd (Int32.le_trans (show (-5 : Int32) ≤ 0 by decide) (nI_pos' (show la < 2147483648 by omega))) e2
    · exact absurd (by decide) e1
  · have hpos : ¬ (mdl0 D.1).1 f < 0 := by
      rw [hm]
      exact nI_pos (by omega)
    have hw : wrV D.1 (nI q) (nI a) (nI b) = 0 := wrV_0 hF.1 hs (by rw [hF.2]; exact hpos)
    have q_round : Sp M_X9_round 8 0 0 [.ref 0, .int (nI q), .int (nI a), .int (nI b)] h n0 (KRet (fun r => r = some (.int (nI k))) D h) := by
      have := ko_wp (ko_round (n := n0) hJ.1 (nI q) (nI a) (nI b)) hw
      rw [hF.2, hm] at this
      exact this
    refine mw_aload_n (i := 0) rfl rfl rfl ?_
    refine mw_iload rfl rfl ?_
    refine mw_iload rfl rfl ?_
    refine mw_iload rfl rfl ?_
    refine mw_askI (q_round) hJ rfl ok_X9_round v_L_52 rfl rfl (Nat.le_of_ble_eq_true rfl) rfl (Nat.le_of_ble_eq_true rfl) (by omega) (by omega) (by omega) (fun h hJ => ?_)
    refine mw_istore rfl (Nat.le_of_ble_eq_true rfl) ?_
    refine mw_aload_n (i := 0) rfl rfl rfl ?_
    refine mw_iload rfl rfl ?_
    refine mw_iload rfl rfl ?_
    refine mw_iload rfl rfl ?_
    refine mw_askI (q_inst h n0 hJ.1) hJ rfl ok_X9_instances v_L_59 rfl rfl (Nat.le_of_ble_eq_true rfl) rfl (Nat.le_of_ble_eq_true rfl) (by omega) (by omega) (by omega) (fun h hJ => ?_)
    refine mw_istore rfl (Nat.le_of_ble_eq_true rfl) ?_
    refine mw_iload rfl rfl ?_
    refine mw_iload rfl rfl ?_
    refine mw_z_lt rfl (by omega) (fun e1 => ?_) (fun e1 => ?_)
    · exact e1.elim
    have key : ∀ la', la' = (if k ≤ la then la else k) → MW M_L_sound 9 0 0 n0 post 215 (soP n size al la 1 q (he + 1) i a b k (insN (hoV D.1) f (hoV D.1).1)) [.int (nI la')] h n0 0 := by
      intro la' hla'
      have hla2 : la' < 2147483648 := by
        rw [hla']
        split <;> omega
      refine mw_istore rfl (Nat.le_of_ble_eq_true rfl) ?_
      refine mw_iload rfl rfl ?_
      refine mw_z_ge rfl (by omega) (fun e3 => ?_) (fun e3 => ?_)
      · exact mw_locals rfl (so_pos hS2 hJ hq ha hb hb0 hf hk hm (kp k la' hk hm hla'))
      · exact e3.elim
    refine mw_iconst (v := nI 1) rfl (by decide) ?_
    refine mw_goto rfl ?_
    first | refine mw_nadd rfl ?_ | refine mw_iadd rfl ?_
    refine mw_istore rfl (Nat.le_of_ble_eq_true rfl) ?_
    refine mw_iload rfl rfl ?_
    refine mw_iload rfl rfl ?_
    refine mw_locals (L2 := soP n size al la 1 q (he + 1) i a b k (insN (hoV D.1) f (hoV D.1).1)) rfl ?_
    refine mw_n_le rfl (by omega) (by omega) (fun e2 => ?_) (fun e2 => ?_)
    · refine mw_iload rfl rfl ?_
      exact key la (if_pos e2).symm
    · refine mw_iload rfl rfl ?_
      refine mw_goto rfl ?_
      exact key k (if_neg (by omega)).symm
set_option maxRecDepth 20000 in
/-- the facts of a predicate, from 121 on -/
theorem so_inner {pl : Nat → Nat} (hS : SQ D qd) (hP : h0 180 = .inl (.int, 6, .inl (vI pl))) (hpl : ∀ q, q < 6 → pl q = D.1 (3 + q)) (hq : q < 6)
    (kk : ∀ la' h1, SJ D h0 h1 → LaJ D (D.1 0) la' q (D.1 0 * D.1 0) → MW M_L_sound 9 0 0 n0 post 604 (soI (D.1 0) size al la' 1 q (htN (tF D q) (D.1 0) (D.1 (3 + q)) (D.1 0 * D.1 0)) (D.1 0 * D.1 0)) [] h1 n0 0) :
    ∀ m i la h, m + i = D.1 0 * D.1 0 → SJ D h0 h → LaJ D (D.1 0) la q i → MW M_L_sound 9 0 0 n0 post 121 (soI (D.1 0) size al la 1 q (htN (tF D q) (D.1 0) (D.1 (3 + q)) i) i) [] h n0 0 := by
  have hok := hS.1
  have h1 := hok.1
  have h3 := hS.2.1
  have h9 : D.1 0 * D.1 0 ≤ 9 := Nat.mul_le_mul h3 h3
  have hpq := hok.2.2.2.2.1 q hq
  have hR := (mdl_MR D.1).2
  intro m
  induction m with
  | zero =>
    intro i la h hi hJ hL
    obtain rfl : i = D.1 0 * D.1 0 := by omega
    refine mw_iload rfl rfl ?_
    refine mw_iload_n (i := 2) rfl rfl rfl ?_
    refine mw_iload_n (i := 2) rfl rfl rfl ?_
    first | refine mw_nmul rfl ?_ | refine mw_imul rfl ?_
    refine mw_n_ge rfl (by omega) (by omega) (fun e1 => ?_) (fun e1 => ?_)
    · exact mw_locals rfl (kk la h hJ hL)
    · omega
  | succ m ih =>
    intro i la h hi hJ hL
    have hib : i / D.1 0 < D.1 0 := Nat.div_lt_of_lt_mul (by omega)
    have him : i % D.1 0 < D.1 0 := Nat.mod_lt _ (by omega)
    have hdm : D.1 0 * (i / D.1 0) + i % D.1 0 = i := Nat.div_add_mod i (D.1 0)
    have hht : htN (tF D q) (D.1 0) (D.1 (3 + q)) (i + 1) = htN (tF D q) (D.1 0) (D.1 (3 + q)) i + (if 0 < i % D.1 0 ∧ D.1 (3 + q) = 1 then 0 else tF D q (6 * (i / D.1 0) + i % D.1 0)) := rfl
    have uniq : ∀ a b, a * D.1 0 + b < i + 1 → b < D.1 0 → a * D.1 0 + b < i ∨ (a = i / D.1 0 ∧ b = i % D.1 0) := fun a b g1 g2 => by
      by_cases g : a * D.1 0 + b < i
      · exact Or.inl g
      · have e : i = b + D.1 0 * a := by
          rw [Nat.mul_comm]
          omega
        refine Or.inr ⟨?_, ?_⟩
        · rw [e, Nat.add_mul_div_left _ _ (by omega), Nat.div_eq_of_lt g2, Nat.zero_add]
        · rw [e, Nat.add_mul_mod_self_left, Nat.mod_eq_of_lt g2]
    refine mw_iload rfl rfl ?_
    refine mw_iload_n (i := 2) rfl rfl rfl ?_
    refine mw_iload_n (i := 2) rfl rfl rfl ?_
    first | refine mw_nmul rfl ?_ | refine mw_imul rfl ?_
    refine mw_n_ge rfl (by omega) (by omega) (fun e1 => ?_) (fun e1 => ?_)
    · omega
    refine mw_iload rfl rfl ?_
    refine mw_z_eq rfl (by omega) (fun e2 => ?_) (fun e2 => ?_)
    · omega
    refine mw_iload rfl rfl ?_
    refine mw_iload_n (i := 2) rfl rfl rfl ?_
    refine mw_ndiv rfl (by omega) (by omega) (by omega) ?_
    refine mw_istore rfl (Nat.le_of_ble_eq_true rfl) ?_
    refine mw_iload rfl rfl ?_
    refine mw_iload_n (i := 2) rfl rfl rfl ?_
    refine mw_nrem rfl (by omega) (by omega) (by omega) ?_
    refine mw_istore rfl (Nat.le_of_ble_eq_true rfl) ?_
    refine mw_iload rfl rfl ?_
    have hfact : (0 < i % D.1 0 → D.1 (3 + q) ≠ 1) → MW M_L_sound 9 0 0 n0 post 162 (soA (D.1 0) size al la 1 q (htN (tF D q) (D.1 0) (D.1 (3 + q)) i) i (i / D.1 0) (i % D.1 0)) [] h n0 0 := by
      intro hne
      have hb0 : D.1 (3 + q) = 1 → i % D.1 0 = 0 := fun e => Nat.eq_zero_of_not_pos fun w => hne w e
      have hcond : ¬ (0 < i % D.1 0 ∧ D.1 (3 + q) = 1) := fun w => hne w.1 w.2
      rw [if_neg hcond] at hht
      refine so_fact hS hJ hq hib him hb0 (f := 36 * q + (6 * (i / D.1 0) + i % D.1 0)) (by omega) hL.1 (fun hneg h hJ => ?_) (fun k la' hk hm hla' h hJ => ?_)
      · have et : tF D q (6 * (i / D.1 0) + i % D.1 0) = 0 := if_pos hneg
        rw [et] at hht
        rw [← hht]
        first | refine mw_ninc rfl rfl (Nat.le_of_ble_eq_true rfl) ?_ | refine mw_iinc rfl rfl rfl (Nat.le_of_ble_eq_true rfl) ?_
        refine mw_goto rfl ?_
        refine mw_locals rfl (ih (i + 1) la h (by omega) hJ ⟨hL.1, hL.2.1, fun a b g1 g2 g3 k g4 g5 => ?_⟩)
        rcases uniq a b g1 g2 with g | ⟨rfl, rfl⟩
        · exact hL.2.2 a b g g2 g3 k g4 g5
        · rw [show 36 * q + 6 * (i / D.1 0) + i % D.1 0 = 36 * q + (6 * (i / D.1 0) + i % D.1 0) by omega] at g5
          rw [g5] at hneg
          exact absurd hneg (nI_pos (show k < 2147483648 by omega))
      · have et : tF D q (6 * (i / D.1 0) + i % D.1 0) = 1 := if_neg (by rw [hm]; exact nI_pos (show k < 2147483648 by omega))
        rw [et] at hht
        rw [← hht]
        have hle : la ≤ la' ∧ k ≤ la' ∧ la' ≤ (mdl0 D.1).2 := by
          have := hL.1
          rw [hla']
          split <;> omega
        first | refine mw_ninc rfl rfl (Nat.le_of_ble_eq_true rfl) ?_ | refine mw_iinc rfl rfl rfl (Nat.le_of_ble_eq_true rfl) ?_
        refine mw_goto rfl ?_
        refine mw_locals rfl (ih (i + 1) la' h (by omega) hJ ⟨hle.2.2, fun f g1 g2 k g3 g4 => Nat.le_trans (hL.2.1 f g1 g2 k g3 g4) hle.1, fun a b g1 g2 g3 k' g4 g5 => ?_⟩)
        rcases uniq a b g1 g2 with g | ⟨rfl, rfl⟩
        · exact Nat.le_trans (hL.2.2 a b g g2 g3 k' g4 g5) hle.1
        · rw [show 36 * q + 6 * (i / D.1 0) + i % D.1 0 = 36 * q + (6 * (i / D.1 0) + i % D.1 0) by omega, hm] at g5
          have := (nI_eq (show k < 2 ^ 31 by omega) (show k' < 2 ^ 31 by omega)).mp g5
          omega
    refine mw_locals (L2 := soA (D.1 0) size al la 1 q (htN (tF D q) (D.1 0) (D.1 (3 + q)) i) i (i / D.1 0) (i % D.1 0)) rfl ?_
    refine mw_z_le rfl (by omega) (fun e3 => ?_) (fun e3 => ?_)
    · exact hfact (fun w => by omega)
    · refine mw_aload_n (i := 1) rfl rfl rfl ?_
      refine mw_iload rfl rfl ?_
      refine mw_iald_v rfl ((hJ.2 180 (by omega)).trans hP) (by omega) (by omega) (show vI pl q = nI (D.1 (3 + q)) from congrArg nI (hpl q hq)) ?_
      refine mw_iconst (v := nI 1) rfl (by decide) ?_
      refine mw_n_ne rfl (by omega) (by omega) (fun e4 => ?_) (fun e4 => ?_)
      · exact hfact (fun _ => e4)
      · rw [if_pos ⟨e3, e4⟩] at hht
        refine mw_goto rfl ?_
        first | refine mw_ninc rfl rfl (Nat.le_of_ble_eq_true rfl) ?_ | refine mw_iinc rfl rfl rfl (Nat.le_of_ble_eq_true rfl) ?_
        refine mw_goto rfl ?_
        have hht2 : htN (tF D q) (D.1 0) (D.1 (3 + q)) (i + 1) = htN (tF D q) (D.1 0) (D.1 (3 + q)) i := hht
        rw [← hht2]
        refine mw_locals rfl (ih (i + 1) la h (by omega) hJ ⟨hL.1, hL.2.1, fun a b g1 g2 g3 k g4 g5 => ?_⟩)
        rcases uniq a b g1 g2 with g | ⟨rfl, rfl⟩
        · exact hL.2.2 a b g g2 g3 k g4 g5
        · have := g3 e4
          omega
set_option maxRecDepth 20000 in
/-- the predicates, from 103 on -/
theorem so_outer {pl : Nat → Nat} (hS : SQ D qd) (hP : h0 180 = .inl (.int, 6, .inl (vI pl))) (hpl : ∀ q, q < 6 → pl q = D.1 (3 + q))
    (kk : ∀ la h1, SJ D h0 h1 → la ≤ (mdl0 D.1).2 → (∀ f, f < 216 → ∀ k, k ≤ (mdl0 D.1).2 → (mdl0 D.1).1 f = nI k → k ≤ la) → MW M_L_sound 9 0 0 n0 post 660 (soL (D.1 0) size (sumN (fun q => cntM (mdl0 D.1).1 (36 * q) 36) 6) la 1 6) [] h1 n0 0) :
    ∀ m q la h, m + q = 6 → SJ D h0 h → la ≤ (mdl0 D.1).2 → (∀ f, f < 36 * q → f < 216 → ∀ k, k ≤ (mdl0 D.1).2 → (mdl0 D.1).1 f = nI k → k ≤ la) → MW M_L_sound 9 0 0 n0 post 103 (soL (D.1 0) size (sumN (fun q => cntM (mdl0 D.1).1 (36 * q) 36) q) la 1 q) [] h n0 0 := by
  have hok := hS.1
  have h1 := hok.1
  have h3 := hS.2.1
  have hs := hS.2.2.1
  have hst := strF_lt hok hs
  have hR := (mdl_MR D.1).2
  intro m
  induction m with
  | zero =>
    intro q la h hi hJ hL1 hL2
    obtain rfl : q = 6 := by omega
    refine mw_iload rfl rfl ?_
    refine mw_bipush (v := nI 6) rfl (by decide) ?_
    refine mw_n_ge rfl (by omega) (by omega) (fun e1 => ?_) (fun e1 => ?_)
    · exact mw_locals rfl (kk la h hJ hL1 (fun f hf => hL2 f (by omega) hf))
    · omega
  | succ m ih =>
    intro q la h hi hJ hL1 hL2
    have hq : q < 6 := by omega
    have hcnt := cntM_le (mdl0 D.1).1 (36 * q) 36
    refine mw_iload rfl rfl ?_
    refine mw_bipush (v := nI 6) rfl (by decide) ?_
    refine mw_n_ge rfl (by omega) (by omega) (fun e1 => ?_) (fun e1 => ?_)
    · omega
    refine mw_iload rfl rfl ?_
    refine mw_z_eq rfl (by omega) (fun e2 => ?_) (fun e2 => ?_)
    · omega
    refine mw_iconst (v := nI 0) rfl (by decide) ?_
    refine mw_istore rfl (Nat.le_of_ble_eq_true rfl) ?_
    refine mw_iconst (v := nI 0) rfl (by decide) ?_
    refine mw_istore rfl (Nat.le_of_ble_eq_true rfl) ?_
    refine mw_locals (L2 := soI (D.1 0) size (sumN (fun q => cntM (mdl0 D.1).1 (36 * q) 36) q) la 1 q (htN (tF D q) (D.1 0) (D.1 (3 + q)) 0) 0) rfl ?_
    refine so_inner hS hP hpl hq (fun la' h hJ hL => ?_) (D.1 0 * D.1 0) 0 la h (by omega) hJ ⟨hL1, hL2, fun a b g1 => by omega⟩
    have hht : htN (tF D q) (D.1 0) (D.1 (3 + q)) (D.1 0 * D.1 0) = cntM (mdl0 D.1).1 (36 * q) 36 := ht_all hok h3 hS.2.2.2.2 hq
    rw [hht]
    have q_count := ko_count (n := n0) (h := h) hJ.1 hq
    rw [okA_1 hs] at q_count
    refine mw_iload rfl rfl ?_
    refine mw_iload rfl rfl ?_
    first | refine mw_nadd rfl ?_ | refine mw_iadd rfl ?_
    refine mw_istore rfl (Nat.le_of_ble_eq_true rfl) ?_
    refine mw_iload rfl rfl ?_
    refine mw_z_eq rfl (by omega) (fun e3 => ?_) (fun e3 => ?_)
    · omega
    refine mw_aload_n (i := 0) rfl rfl rfl ?_
    refine mw_iload rfl rfl ?_
    refine mw_askI (q_count) hJ rfl ok_X9_count v_L_82 rfl rfl (Nat.le_of_ble_eq_true rfl) rfl (Nat.le_of_ble_eq_true rfl) (by omega) (by omega) (by omega) (fun h hJ => ?_)
    refine mw_iload rfl rfl ?_
    refine mw_n_ne rfl (by omega) (by omega) (fun e4 => ?_) (fun e4 => ?_)
    · exact absurd rfl e4
    refine mw_aload_n (i := 0) rfl rfl rfl ?_
    refine mw_iload rfl rfl ?_
    have q_s1 := ko_stratum (n := n0) (h := h) hJ.1 hq
    rw [okA_1 hs] at q_s1
    have hst1 := hst q hq
    refine mw_askI (q_s1) hJ rfl ok_X9_stratum v_L_45 rfl rfl (Nat.le_of_ble_eq_true rfl) rfl (Nat.le_of_ble_eq_true rfl) (by omega) (by omega) (by omega) (fun h hJ => ?_)
    refine mw_z_lt rfl (by omega) (fun e5 => ?_) (fun e5 => ?_)
    · exact e5.elim
    refine mw_aload_n (i := 0) rfl rfl rfl ?_
    refine mw_iload rfl rfl ?_
    have q_s2 := ko_stratum (n := n0) (h := h) hJ.1 hq
    rw [okA_1 hs] at q_s2
    refine mw_askI (q_s2) hJ rfl ok_X9_stratum v_L_45 rfl rfl (Nat.le_of_ble_eq_true rfl) rfl (Nat.le_of_ble_eq_true rfl) (by omega) (by omega) (by omega) (fun h hJ => ?_)
    refine mw_bipush (v := nI 6) rfl (by decide) ?_
    refine mw_n_ge rfl (by omega) (by omega) (fun e6 => ?_) (fun e6 => ?_)
    · omega
    refine mw_iconst (v := nI 1) rfl (by decide) ?_
    refine mw_goto rfl ?_
    refine mw_istore rfl (Nat.le_of_ble_eq_true rfl) ?_
    first | refine mw_ninc rfl rfl (Nat.le_of_ble_eq_true rfl) ?_ | refine mw_iinc rfl rfl rfl (Nat.le_of_ble_eq_true rfl) ?_
    refine mw_goto rfl ?_
    refine mw_locals rfl (ih (q + 1) la' h (by omega) hJ hL.1 (fun f g1 g2 k g3 g4 => ?_))
    by_cases g : f < 36 * q
    · exact hL.2.1 f g g2 k g3 g4
    · obtain ⟨p', a, b, w1, w2, w3, w4, w5⟩ := hS.2.2.2.2 f g2 (by rw [g4]; exact nI_pos (show k < 2147483648 by omega))
      have h6 := hok.2.1
      obtain rfl : p' = q := by omega
      rw [w5] at g4
      refine hL.2.2 a b ?_ w3 w4 k g3 g4
      have : a * D.1 0 + D.1 0 ≤ D.1 0 * D.1 0 := by
        rw [← Nat.succ_mul]
        exact Nat.mul_le_mul_right _ w2
      omega
end SOUND2
set_option maxRecDepth 20000 in
/-- sound answers true -/
theorem c_sound (n : Nat) (D : LD) (h0 : Nat → MC) (hK : KSd D h0) (hV : LV D.1) {pl : Nat → Nat} (hP : h0 180 = .inl (.int, 6, .inl (vI pl))) (hpl : ∀ q, q < 6 → pl q = D.1 (3 + q)) : Sp M_L_sound 9 0 0 [.ref 0, .ref 180, .int (nI (D.1 0))] h0 n (fun r h1 => r = some (.int (nI 1)) ∧ SJ D h0 h1) := by
  refine Sp.of2 fun post hp => ?_
  obtain ⟨hok, h3, hB, hH⟩ := hV
  have h1 := hok.1
  have hJ : SJ D h0 h0 := ⟨hK, fun _ _ => rfl⟩
  have hR := (mdl_MR D.1).2
  have q_size := ko_size (n := n) hJ.1
  have q_rounds : ∀ h, KSd D h → _ := fun h hK => ko_rounds (n := n) (h := h) hK
  have q_str : ∀ h, KSd D h → _ := fun h hK => ko_stratum (n := n) (h := h) (p := 5) hK (by omega)
  cases hs : (strF D.1).2.2
  · rw [okA_0 hs] at q_size
    simp only [okA_0 hs] at q_rounds q_str
    refine mw_aload_n (i := 0) rfl rfl rfl ?_
    refine mw_askI (q_size) hJ rfl ok_X9_size v_L_39 rfl rfl (Nat.le_of_ble_eq_true rfl) rfl (Nat.le_of_ble_eq_true rfl) (by omega) (by omega) (by omega) (fun h hJ => ?_)
    refine mw_istore_n (i := 3) rfl rfl (Nat.le_of_ble_eq_true rfl) ?_
    refine mw_iload_n (i := 3) rfl rfl rfl ?_
    refine mw_if_ge rfl (fun e1 => ?_) (fun e1 => ?_)
    · exact absurd e1 (by decide)
    refine mw_iload_n (i := 3) rfl rfl rfl ?_
    refine mw_bipush (v := (-6)) rfl (by decide) ?_
    refine mw_icmp_ne rfl (fun e2 => ?_) (fun e2 => ?_)
    · exact absurd rfl e2
    refine mw_aload_n (i := 0) rfl rfl rfl ?_
    refine mw_askI (q_rounds h hJ.1) hJ rfl ok_X9_rounds v_L_42 rfl rfl (Nat.le_of_ble_eq_true rfl) rfl (Nat.le_of_ble_eq_true rfl) (by omega) (by omega) (by omega) (fun h hJ => ?_)
    refine mw_bipush (v := (-6)) rfl (by decide) ?_
    refine mw_icmp_ne rfl (fun e3 => ?_) (fun e3 => ?_)
    · exact absurd rfl e3
    refine mw_aload_n (i := 0) rfl rfl rfl ?_
    refine mw_iconst (v := nI 5) rfl (by decide) ?_
    refine mw_askI (q_str h hJ.1) hJ rfl ok_X9_stratum v_L_45 rfl rfl (Nat.le_of_ble_eq_true rfl) rfl (Nat.le_of_ble_eq_true rfl) (by omega) (by omega) (by omega) (fun h hJ => ?_)
    refine mw_bipush (v := (-6)) rfl (by decide) ?_
    refine mw_icmp_ne rfl (fun e4 => ?_) (fun e4 => ?_)
    · exact absurd rfl e4
    refine mw_iconst (v := nI 1) rfl (by decide) ?_
    refine mw_goto rfl ?_
    first | exact mw_ireturn rfl rfl (bI_nar _) rfl (Nat.le_refl _) (hp _ _ ⟨rfl, hJ⟩) | exact mw_ireturn rfl rfl rfl rfl (Nat.le_refl _) (hp _ _ ⟨rfl, hJ⟩)
  · rw [okA_1 hs] at q_size
    simp only [okA_1 hs] at q_rounds q_str
    obtain ⟨qd, hQ⟩ := QOk.ex hok
    have hS : SQ D qd := ⟨hok, h3, hs, hQ, fun f hf hm => mdl_VF hok hs hB hH hf hm⟩
    have hcnt := cntM_le (mdl0 D.1).1 0 216
    have hcx := cntM_le (mdlX D.1 (nI 2147483647)) 0 216
    have hF := isF_of hok (p := 0) (a := 0) (b := 0) (by omega) (by omega) (by omega) (fun _ => rfl)
    have hX0 : mdlX D.1 (nI 0) = (mdl0 D.1).1 := rfl
    refine mw_aload_n (i := 0) rfl rfl rfl ?_
    refine mw_askI (q_size) hJ rfl ok_X9_size v_L_39 rfl rfl (Nat.le_of_ble_eq_true rfl) rfl (Nat.le_of_ble_eq_true rfl) (by omega) (by omega) (by omega) (fun h hJ => ?_)
    refine mw_istore_n (i := 3) rfl rfl (Nat.le_of_ble_eq_true rfl) ?_
    refine mw_iload_n (i := 3) rfl rfl rfl ?_
    refine mw_z_ge rfl (by omega) (fun e1 => ?_) (fun e1 => ?_)
    · refine mw_iconst (v := nI 0) rfl (by decide) ?_
      refine mw_istore rfl (Nat.le_of_ble_eq_true rfl) ?_
      refine mw_iconst (v := nI 0) rfl (by decide) ?_
      refine mw_istore rfl (Nat.le_of_ble_eq_true rfl) ?_
      refine mw_aload_n (i := 0) rfl rfl rfl ?_
      refine mw_iconst (v := nI 0) rfl (by decide) ?_
      refine mw_iconst (v := nI 0) rfl (by decide) ?_
      refine mw_iconst (v := nI 0) rfl (by decide) ?_
      refine mw_iconst (v := nI 0) rfl (by decide) ?_
      have q_h := ko_holdsW (n := n) (h := h) hJ.1 (y := nI 0) hF.1 (by decide)
      rw [okA_1 hs, hX0] at q_h
      refine mw_askI (q_h) hJ rfl ok_X9_holdsWithout v_L_48 rfl rfl (Nat.le_of_ble_eq_true rfl) rfl (Nat.le_of_ble_eq_true rfl) (by omega) (by omega) (by omega) (fun h hJ => ?_)
      refine mw_aload_n (i := 0) rfl rfl rfl ?_
      refine mw_iconst (v := nI 0) rfl (by decide) ?_
      refine mw_iconst (v := nI 0) rfl (by decide) ?_
      refine mw_iconst (v := nI 0) rfl (by decide) ?_
      have q_r := ko_round (n := n) (h := h) hJ.1 (nI 0) (nI 0) (nI 0)
      refine mw_askI (q_r) hJ rfl ok_X9_round v_L_52 rfl rfl (Nat.le_of_ble_eq_true rfl) rfl (Nat.le_of_ble_eq_true rfl) (by omega) (by omega) (by omega) (fun h hJ => ?_)
      have k2 : ∀ h, SJ D h0 h → MW M_L_sound 9 0 0 n post 72 [(0, .ref 0), (1, .ref 180), (2, .int (nI (D.1 0))), (3, .int (nI (cntM (mdl0 D.1).1 0 216))), (4, .int (nI 0)), (5, .int (nI 0))] [] h n 0 := fun h hJ => by
        refine mw_aload_n (i := 0) rfl rfl rfl ?_
        refine mw_iconst (v := nI 0) rfl (by decide) ?_
        have q_w := ko_sizeW (n := n) (h := h) hJ.1 (y := nI 0) (by decide)
        rw [okA_1 hs, hX0] at q_w
        refine mw_askI (q_w) hJ rfl ok_X9_sizeWithout v_L_56 rfl rfl (Nat.le_of_ble_eq_true rfl) rfl (Nat.le_of_ble_eq_true rfl) (by omega) (by omega) (by omega) (fun h hJ => ?_)
        refine mw_iload_n (i := 3) rfl rfl rfl ?_
        refine mw_n_ne rfl (by omega) (by omega) (fun e2 => ?_) (fun e2 => ?_)
        · exact absurd rfl e2
        refine mw_aload_n (i := 0) rfl rfl rfl ?_
        refine mw_ldc (v := nI 2147483647) rfl c_L_8 ?_
        have q_x := ko_sizeW (n := n) (h := h) hJ.1 (y := nI 2147483647) (by decide)
        rw [okA_1 hs] at q_x
        refine mw_askI (q_x) hJ rfl ok_X9_sizeWithout v_L_56 rfl rfl (Nat.le_of_ble_eq_true rfl) rfl (Nat.le_of_ble_eq_true rfl) (by omega) (by omega) (by omega) (fun h hJ => ?_)
        refine mw_sipush (v := nI 216) rfl (by decide) ?_
        refine mw_n_gt rfl (by omega) (by omega) (fun e3 => ?_) (fun e3 => ?_)
        · omega
        refine mw_iconst (v := nI 1) rfl (by decide) ?_
        refine mw_goto rfl ?_
        refine mw_istore rfl (Nat.le_of_ble_eq_true rfl) ?_
        refine mw_iconst (v := nI 0) rfl (by decide) ?_
        refine mw_istore rfl (Nat.le_of_ble_eq_true rfl) ?_
        refine mw_locals (L2 := soL (D.1 0) (cntM (mdl0 D.1).1 0 216) (sumN (fun q => cntM (mdl0 D.1).1 (36 * q) 36) 0) 0 1 0) rfl ?_
        refine so_outer hS hP hpl (fun la h hJ hl1 hl2 => ?_) 6 0 0 h rfl hJ (Nat.zero_le _) (fun f hf => by omega)
        rw [← cnt_six]
        refine mw_iload rfl rfl ?_
        refine mw_z_eq rfl (by omega) (fun e4 => ?_) (fun e4 => ?_)
        · omega
        refine mw_iload rfl rfl ?_
        refine mw_iload_n (i := 3) rfl rfl rfl ?_
        refine mw_n_ne rfl (by omega) (by omega) (fun e5 => ?_) (fun e5 => ?_)
        · exact absurd rfl e5
        refine mw_iload rfl rfl ?_
        refine mw_aload_n (i := 0) rfl rfl rfl ?_
        refine mw_askI (q_rounds h hJ.1) hJ rfl ok_X9_rounds v_L_42 rfl rfl (Nat.le_of_ble_eq_true rfl) rfl (Nat.le_of_ble_eq_true rfl) (by omega) (by omega) (by omega) (fun h hJ => ?_)
        have hla : la = (mdl0 D.1).2 := by
          rcases mdl_last D.1 with w | ⟨f, w1, w2⟩
          · omega
          · have := hl2 f w1 _ (Nat.le_refl _) w2
            omega
        rw [hla]
        refine mw_n_ne rfl (by omega) (by omega) (fun e6 => ?_) (fun e6 => ?_)
        · exact absurd rfl e6
        refine mw_iconst (v := nI 1) rfl (by decide) ?_
        refine mw_goto rfl ?_
        first | exact mw_ireturn rfl rfl (bI_nar _) rfl (Nat.le_refl _) (hp _ _ ⟨rfl, hJ⟩) | exact mw_ireturn rfl rfl rfl rfl (Nat.le_refl _) (hp _ _ ⟨rfl, hJ⟩)
      rcases wrV_cases D.1 (nI 0) (nI 0) (nI 0) with hw | ⟨hw, hw2, hw3, hw4⟩
      · have hneg : (mdl0 D.1).1 (fctN (nI 0) (nI 0) (nI 0)) < 0 := by
          refine Classical.byContradiction fun w => ?_
          rw [wrV_0 hF.1 hs w] at hw
          exact absurd hw (by decide)
        rw [wA_lt hw, wrV_5 hF.1 hs hneg, decide_eq_false (Int32.not_le.mpr hneg)]
        refine mw_if_lt rfl (fun e2 => ?_) (fun e2 => ?_)
        · refine mw_iconst (v := nI 0) rfl (by decide) ?_
          refine mw_icmp_ne rfl (fun e3 => ?_) (fun e3 => ?_)
          · exact absurd rfl e3
          exact mw_locals rfl (k2 h hJ)
        · exact absurd (by decide) e2
      · rw [wA_ge (by rw [hw]; decide), decide_eq_true (Int32.not_lt.mp hw4)]
        refine mw_if_lt rfl (fun e2 => ?_) (fun e2 => ?_)
        · exact absurd e2 hw4
        · refine mw_iconst (v := nI 1) rfl (by decide) ?_
          refine mw_goto rfl ?_
          refine mw_icmp_ne rfl (fun e3 => ?_) (fun e3 => ?_)
          · exact absurd rfl e3
          exact mw_locals rfl (k2 h hJ)
    · exact e1.elim
