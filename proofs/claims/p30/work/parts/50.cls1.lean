/-! THE CLASS: its rules and its program -/
/-- a rule of the class: predicate, first, second, negated, literals, price -/
abbrev RuS : Type := (Nat → Nat) × (Nat → Nat) × (Nat → Nat) × (Nat → Bool) × Nat × Nat
abbrev RuS.pr (R : RuS) : Nat → Nat := R.1
abbrev RuS.fi (R : RuS) : Nat → Nat := R.2.1
abbrev RuS.se (R : RuS) : Nat → Nat := R.2.2.1
abbrev RuS.ng (R : RuS) : Nat → Bool := R.2.2.2.1
abbrev RuS.li (R : RuS) : Nat := R.2.2.2.2.1
abbrev RuS.pc (R : RuS) : Nat := R.2.2.2.2.2
def ruC (k : Nat) (R : RuS) : Nat → MC
  | 0 => .inr (6, [.ref (k + 1), .ref (k + 2), .ref (k + 3), .ref (k + 4), .int (nI R.li), .int (nI R.pc)])
  | 1 => .inl (.int, 4, .inl (vI R.pr))
  | 2 => .inl (.int, 4, .inl (vI R.fi))
  | 3 => .inl (.int, 4, .inl (vI R.se))
  | _ => .inl (.boolean, 4, .inl (bIf R.ng))
/-- the world with the rule R at the cells k .. k + 4 -/
def ruH (k : Nat) (R : RuS) (h : Nat → MC) : Nat → MC := fun j => if k ≤ j ∧ j < k + 5 then ruC k R (j - k) else h j
def RuAt (h : Nat → MC) (k : Nat) (R : RuS) : Prop := h k = .inr (6, [.ref (k + 1), .ref (k + 2), .ref (k + 3), .ref (k + 4), .int (nI R.li), .int (nI R.pc)]) ∧ h (k + 1) = .inl (.int, 4, .inl (vI R.pr)) ∧ h (k + 2) = .inl (.int, 4, .inl (vI R.fi)) ∧ h (k + 3) = .inl (.int, 4, .inl (vI R.se)) ∧ h (k + 4) = .inl (.boolean, 4, .inl (bIf R.ng))
theorem ruH_at (k : Nat) (R : RuS) (h : Nat → MC) {i : Nat} (hi : i < 5) : ruH k R h (k + i) = ruC k R i := by
  unfold ruH
  rw [if_pos (by omega), Nat.add_sub_cancel_left]
theorem ruH_0 {k : Nat} {R : RuS} {h : Nat → MC} : ruH k R h k = .inr (6, [.ref (k + 1), .ref (k + 2), .ref (k + 3), .ref (k + 4), .int (nI R.li), .int (nI R.pc)]) := ruH_at k R h (i := 0) (by omega)
theorem ruH_1 {k : Nat} {R : RuS} {h : Nat → MC} : ruH k R h (k + 1) = .inl (.int, 4, .inl (vI R.pr)) := ruH_at k R h (i := 1) (by omega)
theorem ruH_2 {k : Nat} {R : RuS} {h : Nat → MC} : ruH k R h (k + 2) = .inl (.int, 4, .inl (vI R.fi)) := ruH_at k R h (i := 2) (by omega)
theorem ruH_3 {k : Nat} {R : RuS} {h : Nat → MC} : ruH k R h (k + 3) = .inl (.int, 4, .inl (vI R.se)) := ruH_at k R h (i := 3) (by omega)
theorem ruH_4 {k : Nat} {R : RuS} {h : Nat → MC} : ruH k R h (k + 4) = .inl (.boolean, 4, .inl (bIf R.ng)) := ruH_at k R h (i := 4) (by omega)
theorem ruH_o {k : Nat} {R : RuS} {h : Nat → MC} {j : Nat} (hj : j < k ∨ k + 5 ≤ j) : ruH k R h j = h j := if_neg (by omega)
theorem ruH_RuAt (k : Nat) (R : RuS) (h : Nat → MC) : RuAt (ruH k R h) k R := ⟨ruH_0, ruH_1, ruH_2, ruH_3, ruH_4⟩
theorem ruH_set (k : Nat) (R R' : RuS) (h : Nat → MC) {i : Nat} {c : MC} (hi : i < 5) (hc : ruC k R' i = c) (hR : ∀ j, j < 5 → j ≠ i → ruC k R' j = ruC k R j) : hset (ruH k R h) (k + i) c = ruH k R' h := by
  funext j
  unfold hset ruH
  by_cases e : j = k + i
  · rw [if_pos e, if_pos (by omega), ← hc]
    congr 1
    omega
  · rw [if_neg e]
    by_cases q : k ≤ j ∧ j < k + 5
    · rw [if_pos q, if_pos q, hR (j - k) (by omega) (by omega)]
    · rw [if_neg q, if_neg q]
theorem ruH_p0 {k : Nat} {R : RuS} {h : Nat → MC} {a b : Nat} : hset (ruH k R h) k (.inr (6, [.ref (k + 1), .ref (k + 2), .ref (k + 3), .ref (k + 4), .int (nI a), .int (nI b)])) = ruH k (R.pr, R.fi, R.se, R.ng, a, b) h :=
  ruH_set k R (R.pr, R.fi, R.se, R.ng, a, b) h (i := 0) (by omega) rfl (fun j hj hn => by match j, hj with | 0, _ => exact absurd rfl hn | 1, _ => rfl | 2, _ => rfl | 3, _ => rfl | 4, _ => rfl)
theorem ruH_p1 {k : Nat} {R : RuS} {h : Nat → MC} {f : Nat → Nat} : hset (ruH k R h) (k + 1) (.inl (.int, 4, .inl (vI f))) = ruH k (f, R.fi, R.se, R.ng, R.li, R.pc) h :=
  ruH_set k R (f, R.fi, R.se, R.ng, R.li, R.pc) h (i := 1) (by omega) rfl (fun j hj hn => by match j, hj with | 0, _ => rfl | 1, _ => exact absurd rfl hn | 2, _ => rfl | 3, _ => rfl | 4, _ => rfl)
theorem ruH_p2 {k : Nat} {R : RuS} {h : Nat → MC} {f : Nat → Nat} : hset (ruH k R h) (k + 2) (.inl (.int, 4, .inl (vI f))) = ruH k (R.pr, f, R.se, R.ng, R.li, R.pc) h :=
  ruH_set k R (R.pr, f, R.se, R.ng, R.li, R.pc) h (i := 2) (by omega) rfl (fun j hj hn => by match j, hj with | 0, _ => rfl | 2, _ => exact absurd rfl hn | 1, _ => rfl | 3, _ => rfl | 4, _ => rfl)
theorem ruH_p3 {k : Nat} {R : RuS} {h : Nat → MC} {f : Nat → Nat} : hset (ruH k R h) (k + 3) (.inl (.int, 4, .inl (vI f))) = ruH k (R.pr, R.fi, f, R.ng, R.li, R.pc) h :=
  ruH_set k R (R.pr, R.fi, f, R.ng, R.li, R.pc) h (i := 3) (by omega) rfl (fun j hj hn => by match j, hj with | 0, _ => rfl | 3, _ => exact absurd rfl hn | 1, _ => rfl | 2, _ => rfl | 4, _ => rfl)
theorem ruH_p4 {k : Nat} {R : RuS} {h : Nat → MC} {f : Nat → Bool} : hset (ruH k R h) (k + 4) (.inl (.boolean, 4, .inl (bIf f))) = ruH k (R.pr, R.fi, R.se, f, R.li, R.pc) h :=
  ruH_set k R (R.pr, R.fi, R.se, f, R.li, R.pc) h (i := 4) (by omega) rfl (fun j hj hn => by match j, hj with | 0, _ => rfl | 4, _ => exact absurd rfl hn | 1, _ => rfl | 2, _ => rfl | 3, _ => rfl)
theorem RuAt.self {h : Nat → MC} {k : Nat} {R : RuS} (H : RuAt h k R) : ruH k R h = h := by
  funext j
  unfold ruH
  by_cases q : k ≤ j ∧ j < k + 5
  · rw [if_pos q]
    obtain ⟨i, hi, rfl⟩ : ∃ i, i < 5 ∧ j = k + i := ⟨j - k, by omega, by omega⟩
    rw [Nat.add_sub_cancel_left]
    obtain ⟨h0, h1, h2, h3, h4⟩ := H
    match i, hi with
    | 0, _ => exact h0.symm
    | 1, _ => exact h1.symm
    | 2, _ => exact h2.symm
    | 3, _ => exact h3.symm
    | 4, _ => exact h4.symm
  · rw [if_neg q]
def cpU {α : Type} (f g : Nat → α) (j : Nat) : Nat → α := fun i => if i < j then g i else f i
theorem cpU_in {α : Type} {f g : Nat → α} {j i : Nat} (h : i < j) : cpU f g j i = g i := if_pos h
theorem cpU_0 {α : Type} (f g : Nat → α) : cpU f g 0 = f := by funext i; simp [cpU]
theorem cpU_s {α : Type} (f g : Nat → α) (j : Nat) : updN (cpU f g j) j (g j) = cpU f g (j + 1) := by
  funext i
  unfold updN cpU
  by_cases e : i = j
  · subst e; simp
  · rw [if_neg e]
    by_cases q : i < j
    · rw [if_pos q, if_pos (by omega)]
    · rw [if_neg q, if_neg (by omega)]
theorem bIf_updv (v u : Nat → Bool) (k i : Nat) : upd (bIf v) k (bIf u i) = bIf (updN v k (u i)) := bIf_upd v k (u i)
def cpR (R R' : RuS) (j : Nat) : RuS := (cpU R.pr R'.pr j, cpU R.fi R'.fi j, cpU R.se R'.se j, cpU R.ng R'.ng j, R.li, R.pc)
theorem vp_nar_bIf (f : Nat → Bool) (i : Nat) : vp_nar .boolean (bIf f i) = bIf f i := bI_z (f i)
theorem c_ruBecome (d n k k' : Nat) (R R' : RuS) (h : Nat → MC) (hR : RuAt h k R) (hR' : RuAt h k' R') (hk : k + 5 ≤ k' ∨ k' + 5 ≤ k) : Fn M_X6_become d 0 0 [.ref k, .ref k'] h n none (ruH k R' h) := by
  refine Fn.of fun post hp => ?_
  have s0 : ∀ {X : RuS}, ruH k X h k' = _ := fun {X} => (ruH_o (by omega)).trans hR'.1
  have s1 : ∀ {X : RuS}, ruH k X h (k' + 1) = _ := fun {X} => (ruH_o (by omega)).trans hR'.2.1
  have s2 : ∀ {X : RuS}, ruH k X h (k' + 2) = _ := fun {X} => (ruH_o (by omega)).trans hR'.2.2.1
  have s3 : ∀ {X : RuS}, ruH k X h (k' + 3) = _ := fun {X} => (ruH_o (by omega)).trans hR'.2.2.2.1
  have s4 : ∀ {X : RuS}, ruH k X h (k' + 4) = _ := fun {X} => (ruH_o (by omega)).trans hR'.2.2.2.2
  refine mw_iconst (v := nI 0) rfl (by decide) ?_
  refine mw_istore_n (i := 2) rfl rfl (Nat.le_of_ble_eq_true rfl) ?_
  have loop : ∀ j, j ≤ 4 → MW M_X6_become d 0 0 n post 2 [(0, .ref k), (1, .ref k'), (2, .int (nI j))] [] (ruH k (cpR R R' j) h) n 0 := by
    refine loop_up 4 ?_ ?_
    · refine mw_iload_n (i := 2) rfl rfl rfl ?_
      refine mw_iconst (v := nI 3) rfl (by decide) ?_
      refine mw_n_gt rfl (by omega) (by omega) (fun hc => ?_) (fun hc => ?_)
      · refine mw_aload_n (i := 0) rfl rfl rfl ?_
        refine mw_aload_n (i := 1) rfl rfl rfl ?_
        refine mw_getfield rfl f_X6_25 (by first | rfl | exact ruH_0 | exact ruH_1 | exact ruH_2 | exact ruH_3 | exact ruH_4 | exact s0 | exact s1 | exact s2 | exact s3 | exact s4) rfl ?_
        refine mw_putfield rfl f_X6_25 (by first | rfl | exact ruH_0 | exact ruH_1 | exact ruH_2 | exact ruH_3 | exact ruH_4 | exact s0 | exact s1 | exact s2 | exact s3 | exact s4) (Nat.le_of_ble_eq_true rfl) (fun _ => rfl) (fun _ => rfl) ?_
        refine mw_heap (h2 := ruH k (cpU R.pr R'.pr 4, cpU R.fi R'.fi 4, cpU R.se R'.se 4, cpU R.ng R'.ng 4, R'.li, R.pc) h) (Eq.symm (by exact ruH_p0)) ?_
        refine mw_aload_n (i := 0) rfl rfl rfl ?_
        refine mw_aload_n (i := 1) rfl rfl rfl ?_
        refine mw_getfield rfl f_X6_29 (by first | rfl | exact ruH_0 | exact ruH_1 | exact ruH_2 | exact ruH_3 | exact ruH_4 | exact s0 | exact s1 | exact s2 | exact s3 | exact s4) rfl ?_
        refine mw_putfield rfl f_X6_29 (by first | rfl | exact ruH_0 | exact ruH_1 | exact ruH_2 | exact ruH_3 | exact ruH_4 | exact s0 | exact s1 | exact s2 | exact s3 | exact s4) (Nat.le_of_ble_eq_true rfl) (fun _ => rfl) (fun _ => rfl) ?_
        refine mw_heap (h2 := ruH k (cpU R.pr R'.pr 4, cpU R.fi R'.fi 4, cpU R.se R'.se 4, cpU R.ng R'.ng 4, R'.li, R'.pc) h) (Eq.symm (by exact ruH_p0)) ?_
        refine mw_tail (vI R'.pr) ruH_1 (fun i hi => congrArg nI (cpU_in hi)) ?_
        rw [ruH_p1]
        refine mw_tail (vI R'.fi) ruH_2 (fun i hi => congrArg nI (cpU_in hi)) ?_
        rw [ruH_p2]
        refine mw_tail (vI R'.se) ruH_3 (fun i hi => congrArg nI (cpU_in hi)) ?_
        rw [ruH_p3]
        refine mw_tail (bIf R'.ng) ruH_4 (fun i hi => congrArg bI (cpU_in hi)) ?_
        rw [ruH_p4]
        exact mw_return rfl rfl rfl (Nat.le_refl _) (hp)
      · omega
    · intro j hj ih
      refine mw_iload_n (i := 2) rfl rfl rfl ?_
      refine mw_iconst (v := nI 3) rfl (by decide) ?_
      refine mw_n_gt rfl (by omega) (by omega) (fun hc => ?_) (fun hc => ?_)
      · omega
      · refine mw_aload_n (i := 0) rfl rfl rfl ?_
        refine mw_getfield rfl f_X6_9 (by first | rfl | exact ruH_0 | exact ruH_1 | exact ruH_2 | exact ruH_3 | exact ruH_4 | exact s0 | exact s1 | exact s2 | exact s3 | exact s4) rfl ?_
        refine mw_iload_n (i := 2) rfl rfl rfl ?_
        refine mw_aload_n (i := 1) rfl rfl rfl ?_
        refine mw_getfield rfl f_X6_9 (by first | rfl | exact ruH_0 | exact ruH_1 | exact ruH_2 | exact ruH_3 | exact ruH_4 | exact s0 | exact s1 | exact s2 | exact s3 | exact s4) rfl ?_
        refine mw_iload_n (i := 2) rfl rfl rfl ?_
        refine mw_iald rfl (by first | rfl | exact ruH_0 | exact ruH_1 | exact ruH_2 | exact ruH_3 | exact ruH_4 | exact s0 | exact s1 | exact s2 | exact s3 | exact s4) (by omega) (by omega) ?_
        refine mw_iast rfl (by first | rfl | exact ruH_0 | exact ruH_1 | exact ruH_2 | exact ruH_3 | exact ruH_4 | exact s0 | exact s1 | exact s2 | exact s3 | exact s4) (by omega) (by omega) ?_
        first | rw [vI_upd] | rw [vI_updv] | skip
        rw [ruH_p1]
        refine mw_aload_n (i := 0) rfl rfl rfl ?_
        refine mw_getfield rfl f_X6_15 (by first | rfl | exact ruH_0 | exact ruH_1 | exact ruH_2 | exact ruH_3 | exact ruH_4 | exact s0 | exact s1 | exact s2 | exact s3 | exact s4) rfl ?_
        refine mw_iload_n (i := 2) rfl rfl rfl ?_
        refine mw_aload_n (i := 1) rfl rfl rfl ?_
        refine mw_getfield rfl f_X6_15 (by first | rfl | exact ruH_0 | exact ruH_1 | exact ruH_2 | exact ruH_3 | exact ruH_4 | exact s0 | exact s1 | exact s2 | exact s3 | exact s4) rfl ?_
        refine mw_iload_n (i := 2) rfl rfl rfl ?_
        refine mw_iald rfl (by first | rfl | exact ruH_0 | exact ruH_1 | exact ruH_2 | exact ruH_3 | exact ruH_4 | exact s0 | exact s1 | exact s2 | exact s3 | exact s4) (by omega) (by omega) ?_
        refine mw_iast rfl (by first | rfl | exact ruH_0 | exact ruH_1 | exact ruH_2 | exact ruH_3 | exact ruH_4 | exact s0 | exact s1 | exact s2 | exact s3 | exact s4) (by omega) (by omega) ?_
        first | rw [vI_upd] | rw [vI_updv] | skip
        rw [ruH_p2]
        refine mw_aload_n (i := 0) rfl rfl rfl ?_
        refine mw_getfield rfl f_X6_18 (by first | rfl | exact ruH_0 | exact ruH_1 | exact ruH_2 | exact ruH_3 | exact ruH_4 | exact s0 | exact s1 | exact s2 | exact s3 | exact s4) rfl ?_
        refine mw_iload_n (i := 2) rfl rfl rfl ?_
        refine mw_aload_n (i := 1) rfl rfl rfl ?_
        refine mw_getfield rfl f_X6_18 (by first | rfl | exact ruH_0 | exact ruH_1 | exact ruH_2 | exact ruH_3 | exact ruH_4 | exact s0 | exact s1 | exact s2 | exact s3 | exact s4) rfl ?_
        refine mw_iload_n (i := 2) rfl rfl rfl ?_
        refine mw_iald rfl (by first | rfl | exact ruH_0 | exact ruH_1 | exact ruH_2 | exact ruH_3 | exact ruH_4 | exact s0 | exact s1 | exact s2 | exact s3 | exact s4) (by omega) (by omega) ?_
        refine mw_iast rfl (by first | rfl | exact ruH_0 | exact ruH_1 | exact ruH_2 | exact ruH_3 | exact ruH_4 | exact s0 | exact s1 | exact s2 | exact s3 | exact s4) (by omega) (by omega) ?_
        first | rw [vI_upd] | rw [vI_updv] | skip
        rw [ruH_p3]
        refine mw_aload_n (i := 0) rfl rfl rfl ?_
        refine mw_getfield rfl f_X6_21 (by first | rfl | exact ruH_0 | exact ruH_1 | exact ruH_2 | exact ruH_3 | exact ruH_4 | exact s0 | exact s1 | exact s2 | exact s3 | exact s4) rfl ?_
        refine mw_iload_n (i := 2) rfl rfl rfl ?_
        refine mw_aload_n (i := 1) rfl rfl rfl ?_
        refine mw_getfield rfl f_X6_21 (by first | rfl | exact ruH_0 | exact ruH_1 | exact ruH_2 | exact ruH_3 | exact ruH_4 | exact s0 | exact s1 | exact s2 | exact s3 | exact s4) rfl ?_
        refine mw_iload_n (i := 2) rfl rfl rfl ?_
        refine mw_zald rfl (by first | rfl | exact ruH_0 | exact ruH_1 | exact ruH_2 | exact ruH_3 | exact ruH_4 | exact s0 | exact s1 | exact s2 | exact s3 | exact s4) (by omega) (by omega) ?_
        refine mw_zast rfl (by first | rfl | exact ruH_4) (by omega) (by omega) (vp_nar_bIf _ _) ?_
        rw [bIf_updv, ruH_p4]
        first | refine mw_ninc rfl rfl (Nat.le_of_ble_eq_true rfl) ?_ | refine mw_iinc rfl rfl rfl (Nat.le_of_ble_eq_true rfl) ?_
        refine mw_goto rfl ?_
        refine mw_locals rfl (mw_heap ?_ ih)
        show ruH k (cpR R R' (j + 1)) h = ruH k (updN (cpU R.pr R'.pr j) j (R'.pr j), updN (cpU R.fi R'.fi j) j (R'.fi j), updN (cpU R.se R'.se j) j (R'.se j), updN (cpU R.ng R'.ng j) j (R'.ng j), R.li, R.pc) h
        rw [cpU_s, cpU_s, cpU_s, cpU_s]
        rfl
  refine mw_locals (L2 := [(0, .ref k), (1, .ref k'), (2, .int (nI 0))]) rfl (mw_heap ?_ (loop 0 (by omega)))
  show ruH k (cpU R.pr R'.pr 0, cpU R.fi R'.fi 0, cpU R.se R'.se 0, cpU R.ng R'.ng 0, R.li, R.pc) h = h
  rw [cpU_0, cpU_0, cpU_0, cpU_0]
  exact hR.self
theorem c_mentions (d n k : Nat) (R : RuS) (p : Nat) (h : Nat → MC) (hR : RuAt h k R) (hl : R.li ≤ 3) (hpr : ∀ a, a ≤ R.li → R.pr a < 6) (hp6 : p < 6) : Fn M_X6_mentions d 0 0 [.ref k, .int (nI p)] h n (some (.int (bI (anyN (fun a => decide (R.pr a = p)) (R.li + 1))))) h := by
  refine Fn.of fun post hp => ?_
  refine mw_iconst (v := nI 0) rfl (by decide) ?_
  refine mw_istore_n (i := 2) rfl rfl (Nat.le_of_ble_eq_true rfl) ?_
  have loop : ∀ j, j ≤ R.li + 1 → anyN (fun a => decide (R.pr a = p)) j = false → MW M_X6_mentions d 0 0 n post 2 [(0, .ref k), (1, .int (nI p)), (2, .int (nI j))] [] h n 0 := by
    refine loop_up (R.li + 1) ?_ ?_
    · intro hf
      rw [hf] at hp
      refine mw_iload_n (i := 2) rfl rfl rfl ?_
      refine mw_aload_n (i := 0) rfl rfl rfl ?_
      refine mw_getfield rfl f_X6_25 (by first | rfl | exact hR.1 | exact hR.2.1) rfl ?_
      refine mw_n_gt rfl (by omega) (by omega) (fun hc => ?_) (fun hc => ?_)
      · refine mw_iconst (v := nI 0) rfl (by decide) ?_
        first | exact mw_ireturn rfl rfl (bI_nar _) rfl (Nat.le_refl _) (hp) | exact mw_ireturn rfl rfl rfl rfl (Nat.le_refl _) (hp)
      · omega
    · intro j hj ih hf
      have h6 := hpr j (by omega)
      refine mw_iload_n (i := 2) rfl rfl rfl ?_
      refine mw_aload_n (i := 0) rfl rfl rfl ?_
      refine mw_getfield rfl f_X6_25 (by first | rfl | exact hR.1 | exact hR.2.1) rfl ?_
      refine mw_n_gt rfl (by omega) (by omega) (fun hc => ?_) (fun hc => ?_)
      · omega
      · refine mw_aload_n (i := 0) rfl rfl rfl ?_
        refine mw_getfield rfl f_X6_9 (by first | rfl | exact hR.1 | exact hR.2.1) rfl ?_
        refine mw_iload_n (i := 2) rfl rfl rfl ?_
        refine mw_iald rfl (by first | rfl | exact hR.1 | exact hR.2.1) (by omega) (by omega) ?_
        refine mw_iload_n (i := 1) rfl rfl rfl ?_
        refine mw_n_ne rfl (by omega) (by omega) (fun he => ?_) (fun he => ?_)
        · first | refine mw_ninc rfl rfl (Nat.le_of_ble_eq_true rfl) ?_ | refine mw_iinc rfl rfl rfl (Nat.le_of_ble_eq_true rfl) ?_
          refine mw_goto rfl ?_
          exact mw_locals rfl (ih (by show (anyN _ j || decide (R.pr j = p)) = false; rw [hf, decide_eq_false he]; rfl))
        · refine mw_iconst (v := nI 1) rfl (by decide) ?_
          rw [show anyN (fun a => decide (R.pr a = p)) (R.li + 1) = true from (anyN_iff _ _).mpr ⟨j, hj, decide_eq_true he⟩] at hp
          first | exact mw_ireturn rfl rfl (bI_nar _) rfl (Nat.le_refl _) (hp) | exact mw_ireturn rfl rfl rfl rfl (Nat.le_refl _) (hp)
  exact mw_locals rfl (loop 0 (by omega) rfl)
/-- a variable in a literal that isn't negated: 1 .. k -/
def hasV (R : RuS) (x : Nat) : Bool := anyN (fun a => !R.ng (a + 1) && (decide (R.fi (a + 1) = 6 + x) || decide (R.se (a + 1) = 6 + x))) R.li
theorem c_hasVariable (d n k : Nat) (R : RuS) (x : Nat) (h : Nat → MC) (hR : RuAt h k R) (hl : R.li ≤ 3) (hfi : ∀ a, 1 ≤ a → a ≤ R.li → R.fi a < 9 ∧ R.se a < 9) (hx : x < 3) : Fn M_X6_hasVariable d 0 0 [.ref k, .int (nI x)] h n (some (.int (bI (hasV R x)))) h := by
  refine Fn.of fun post hp => ?_
  refine mw_bipush (v := nI 6) rfl (by decide) ?_
  refine mw_iload_n (i := 1) rfl rfl rfl ?_
  first | refine mw_nadd rfl ?_ | refine mw_iadd rfl ?_
  refine mw_istore_n (i := 2) rfl rfl (Nat.le_of_ble_eq_true rfl) ?_
  refine mw_iconst (v := nI 1) rfl (by decide) ?_
  refine mw_istore_n (i := 3) rfl rfl (Nat.le_of_ble_eq_true rfl) ?_
  have loop : ∀ j, j ≤ R.li → anyN (fun a => !R.ng (a + 1) && (decide (R.fi (a + 1) = 6 + x) || decide (R.se (a + 1) = 6 + x))) j = false → MW M_X6_hasVariable d 0 0 n post 7 [(0, .ref k), (1, .int (nI x)), (2, .int (nI (6 + x))), (3, .int (nI (j + 1)))] [] h n 0 := by
    refine loop_up R.li ?_ ?_
    · intro hf
      have hf : hasV R x = false := hf
      rw [hf] at hp
      refine mw_iload_n (i := 3) rfl rfl rfl ?_
      refine mw_aload_n (i := 0) rfl rfl rfl ?_
      refine mw_getfield rfl f_X6_25 (by first | rfl | exact hR.1 | exact hR.2.1 | exact hR.2.2.1 | exact hR.2.2.2.1 | exact hR.2.2.2.2) rfl ?_
      refine mw_n_gt rfl (by omega) (by omega) (fun hc => ?_) (fun hc => ?_)
      · refine mw_iconst (v := nI 0) rfl (by decide) ?_
        first | exact mw_ireturn rfl rfl (bI_nar _) rfl (Nat.le_refl _) (hp) | exact mw_ireturn rfl rfl rfl rfl (Nat.le_refl _) (hp)
      · omega
    · intro j hj ih hf
      obtain ⟨h1, h2⟩ := hfi (j + 1) (by omega) (by omega)
      have yes : R.ng (j + 1) = false → (R.fi (j + 1) = 6 + x ∨ R.se (j + 1) = 6 + x) → hasV R x = true := fun q1 q2 => (anyN_iff _ _).mpr ⟨j, hj, by
        rw [q1]
        rcases q2 with q2 | q2
        · rw [decide_eq_true q2]; rfl
        · rw [decide_eq_true q2]; simp⟩
      have no : (R.ng (j + 1) = true ∨ (R.fi (j + 1) ≠ 6 + x ∧ R.se (j + 1) ≠ 6 + x)) → anyN (fun a => !R.ng (a + 1) && (decide (R.fi (a + 1) = 6 + x) || decide (R.se (a + 1) = 6 + x))) (j + 1) = false := fun q => by
        simp only [anyN, hf, Bool.false_or]
        rcases q with q | q
        · rw [q]; rfl
        · rw [decide_eq_false q.1, decide_eq_false q.2]; simp
      refine mw_iload_n (i := 3) rfl rfl rfl ?_
      refine mw_aload_n (i := 0) rfl rfl rfl ?_
      refine mw_getfield rfl f_X6_25 (by first | rfl | exact hR.1 | exact hR.2.1 | exact hR.2.2.1 | exact hR.2.2.2.1 | exact hR.2.2.2.2) rfl ?_
      refine mw_n_gt rfl (by omega) (by omega) (fun hc => ?_) (fun hc => ?_)
      · omega
      · refine mw_aload_n (i := 0) rfl rfl rfl ?_
        refine mw_getfield rfl f_X6_21 (by first | rfl | exact hR.1 | exact hR.2.1 | exact hR.2.2.1 | exact hR.2.2.2.1 | exact hR.2.2.2.2) rfl ?_
        refine mw_iload_n (i := 3) rfl rfl rfl ?_
        refine mw_zald rfl (by first | rfl | exact hR.1 | exact hR.2.1 | exact hR.2.2.1 | exact hR.2.2.2.1 | exact hR.2.2.2.2) (by omega) (by omega) ?_
        show MW _ _ _ _ _ _ _ _ (.int (bI (R.ng (j + 1))) :: []) _ _ _
        refine mw_b_ne rfl (fun hn => ?_) (fun hn => ?_)
        · first | refine mw_ninc rfl rfl (Nat.le_of_ble_eq_true rfl) ?_ | refine mw_iinc rfl rfl rfl (Nat.le_of_ble_eq_true rfl) ?_
          refine mw_goto rfl ?_
          exact mw_locals rfl (ih (no (Or.inl hn)))
        · refine mw_aload_n (i := 0) rfl rfl rfl ?_
          refine mw_getfield rfl f_X6_15 (by first | rfl | exact hR.1 | exact hR.2.1 | exact hR.2.2.1 | exact hR.2.2.2.1 | exact hR.2.2.2.2) rfl ?_
          refine mw_iload_n (i := 3) rfl rfl rfl ?_
          refine mw_iald rfl (by first | rfl | exact hR.1 | exact hR.2.1 | exact hR.2.2.1 | exact hR.2.2.2.1 | exact hR.2.2.2.2) (by omega) (by omega) ?_
          refine mw_iload_n (i := 2) rfl rfl rfl ?_
          refine mw_n_eq rfl (by omega) (by omega) (fun he => ?_) (fun he => ?_)
          · rw [yes hn (Or.inl he)] at hp
            refine mw_iconst (v := nI 1) rfl (by decide) ?_
            first | exact mw_ireturn rfl rfl (bI_nar _) rfl (Nat.le_refl _) (hp) | exact mw_ireturn rfl rfl rfl rfl (Nat.le_refl _) (hp)
          · refine mw_aload_n (i := 0) rfl rfl rfl ?_
            refine mw_getfield rfl f_X6_18 (by first | rfl | exact hR.1 | exact hR.2.1 | exact hR.2.2.1 | exact hR.2.2.2.1 | exact hR.2.2.2.2) rfl ?_
            refine mw_iload_n (i := 3) rfl rfl rfl ?_
            refine mw_iald rfl (by first | rfl | exact hR.1 | exact hR.2.1 | exact hR.2.2.1 | exact hR.2.2.2.1 | exact hR.2.2.2.2) (by omega) (by omega) ?_
            refine mw_iload_n (i := 2) rfl rfl rfl ?_
            refine mw_n_ne rfl (by omega) (by omega) (fun hg => ?_) (fun hg => ?_)
            · first | refine mw_ninc rfl rfl (Nat.le_of_ble_eq_true rfl) ?_ | refine mw_iinc rfl rfl rfl (Nat.le_of_ble_eq_true rfl) ?_
              refine mw_goto rfl ?_
              exact mw_locals rfl (ih (no (Or.inr ⟨he, hg⟩)))
            · rw [yes hn (Or.inr hg)] at hp
              refine mw_iconst (v := nI 1) rfl (by decide) ?_
              first | exact mw_ireturn rfl rfl (bI_nar _) rfl (Nat.le_refl _) (hp) | exact mw_ireturn rfl rfl rfl rfl (Nat.le_refl _) (hp)
  exact mw_locals rfl (loop 0 (by omega) rfl)
