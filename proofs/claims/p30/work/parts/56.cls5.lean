/-! THE CLASS'S GROUNDING: the instances -/
/-- how many of the literals 1 .. a aren't negated -/
def plN (v : Nat → Nat) (r : Nat) : Nat → Nat
  | 0 => 0
  | a + 1 => plN v r a + (if v (45 + 18 * r + 2 + 4 * (a + 1) + 3) = 0 then 1 else 0)
def plT (v : Nat → Nat) (r : Nat) : Nat := plN v r (v (45 + 18 * r + 1))
theorem plN_le (v : Nat → Nat) (r : Nat) : ∀ a, plN v r a ≤ a
  | 0 => Nat.le_refl _
  | a + 1 => by
    have := plN_le v r a
    simp only [plN]
    split <;> omega
theorem plN_mono (v : Nat → Nat) (r : Nat) : ∀ m a, plN v r a ≤ plN v r (a + m) ∧ plN v r (a + m) ≤ plN v r a + m
  | 0, a => ⟨Nat.le_refl _, Nat.le_refl _⟩
  | m + 1, a => by
    have := plN_mono v r m a
    show plN v r a ≤ plN v r ((a + m) + 1) ∧ plN v r ((a + m) + 1) ≤ plN v r a + (m + 1)
    simp only [plN]
    split <;> omega
theorem plN_1 {v : Nat → Nat} {r a : Nat} (h : v (45 + 18 * r + 2 + 4 * (a + 1) + 3) = 0) : plN v r (a + 1) = plN v r a + 1 := by
  simp only [plN]; rw [if_pos h]
theorem plN_0 {v : Nat → Nat} {r a : Nat} (h : v (45 + 18 * r + 2 + 4 * (a + 1) + 3) ≠ 0) : plN v r (a + 1) = plN v r a := by
  simp only [plN]; rw [if_neg h]; rfl
/-- where the literal a + 1 of the instance i stands -/
def bdP (v : Nat → Nat) (r i a : Nat) : Nat := if v (45 + 18 * r + 2 + 4 * (a + 1) + 3) = 0 then i * 3 + plN v r a else i * 3 + plT v r + (a - plN v r a)
theorem bdP_in {v : Nat → Nat} {r i a : Nat} (ha : a < v (45 + 18 * r + 1)) : i * 3 ≤ bdP v r i a ∧ bdP v r i a < i * 3 + v (45 + 18 * r + 1) := by
  have h0 := plN_le v r a
  have h1 := plN_mono v r (v (45 + 18 * r + 1) - (a + 1)) (a + 1)
  rw [show a + 1 + (v (45 + 18 * r + 1) - (a + 1)) = v (45 + 18 * r + 1) by omega] at h1
  have h2 := plN_le v r (v (45 + 18 * r + 1))
  unfold bdP plT
  split
  · rename_i q
    have := plN_1 q
    omega
  · rename_i q
    have := plN_0 q
    omega
theorem bdP_ne {v : Nat → Nat} {r i a a' : Nat} (ha : a < a') (ha' : a' < v (45 + 18 * r + 1)) : bdP v r i a ≠ bdP v r i a' := by
  have h0 := plN_le v r a
  have h0' := plN_le v r a'
  have h1 := plN_mono v r (a' - (a + 1)) (a + 1)
  rw [show a + 1 + (a' - (a + 1)) = a' by omega] at h1
  have h2 := plN_mono v r (v (45 + 18 * r + 1) - (a' + 1)) (a' + 1)
  rw [show a' + 1 + (v (45 + 18 * r + 1) - (a' + 1)) = v (45 + 18 * r + 1) by omega] at h2
  unfold bdP plT
  split
  · rename_i q
    have := plN_1 q
    split
    · omega
    · rename_i q'
      have := plN_0 q'
      omega
  · rename_i q
    have := plN_0 q
    split
    · rename_i q'
      have := plN_1 q'
      omega
    · omega
def bdN (v b : Nat → Nat) (r i : Nat) (bd : Nat → Nat) (k : Nat) : Nat → Nat := itN (fun a f => updN f (bdP v r i a) (fA v b r (a + 1))) bd k
theorem bdN_in {v b : Nat → Nat} {r i : Nat} {bd : Nat → Nat} : ∀ k, k ≤ v (45 + 18 * r + 1) → ∀ a, a < k → bdN v b r i bd k (bdP v r i a) = fA v b r (a + 1)
  | 0, _, a, ha => absurd ha (Nat.not_lt_zero a)
  | k + 1, hk, a, ha => by
    show updN (bdN v b r i bd k) (bdP v r i k) (fA v b r (k + 1)) (bdP v r i a) = _
    by_cases e : a = k
    · subst e; rw [updN_same]
    · rw [updN_ne _ _ (bdP_ne (by omega) (by omega))]
      exact bdN_in k (by omega) a (by omega)
theorem bdN_out {v b : Nat → Nat} {r i : Nat} {bd : Nat → Nat} {j : Nat} (hl : v (45 + 18 * r + 1) ≤ 3) (hj : j < i * 3 ∨ i * 3 + 3 ≤ j) : ∀ k, k ≤ v (45 + 18 * r + 1) → bdN v b r i bd k j = bd j
  | 0, _ => rfl
  | k + 1, hk => by
    have := bdP_in (v := v) (r := r) (i := i) (a := k) (by omega)
    show updN (bdN v b r i bd k) (bdP v r i k) (fA v b r (k + 1)) j = _
    rw [updN_ne _ _ (by omega)]
    exact bdN_out hl hj k (by omega)
/-- the grounding's rows: strata, stratified, rules, strata of heads, prices, plain literals, literals, starts, rules, heads, bodies, meaning -/
abbrev GD : Type := (Nat → Nat) × Bool × Nat × (Nat → Nat) × (Nat → Nat) × (Nat → Nat) × (Nat → Nat) × (Nat → Nat) × (Nat → Nat) × (Nat → Nat) × (Nat → Nat) × (Nat → Nat)
abbrev GD.st (g : GD) : Nat → Nat := g.1
abbrev GD.sf (g : GD) : Bool := g.2.1
abbrev GD.rc (g : GD) : Nat := g.2.2.1
abbrev GD.hs (g : GD) : Nat → Nat := g.2.2.2.1
abbrev GD.pr (g : GD) : Nat → Nat := g.2.2.2.2.1
abbrev GD.pc (g : GD) : Nat → Nat := g.2.2.2.2.2.1
abbrev GD.lc (g : GD) : Nat → Nat := g.2.2.2.2.2.2.1
abbrev GD.sr (g : GD) : Nat → Nat := g.2.2.2.2.2.2.2.1
abbrev GD.ru (g : GD) : Nat → Nat := g.2.2.2.2.2.2.2.2.1
abbrev GD.hd (g : GD) : Nat → Nat := g.2.2.2.2.2.2.2.2.2.1
abbrev GD.bd (g : GD) : Nat → Nat := g.2.2.2.2.2.2.2.2.2.2.1
abbrev GD.mg (g : GD) : Nat → Nat := g.2.2.2.2.2.2.2.2.2.2.2
abbrev mkG (st : Nat → Nat) (sf : Bool) (rc : Nat) (hs pr pc lc sr ru hd bd mg : Nat → Nat) : GD := (st, sf, rc, hs, pr, pc, lc, sr, ru, hd, bd, mg)
abbrev grL (g : GD) : MLs := [(56, GO g.sf g.rc), (57, .inl (.int, 6, .inl (vI g.st))), (58, .inl (.int, 8, .inl (vI g.hs))), (59, .inl (.int, 8, .inl (vI g.pr))), (60, .inl (.int, 8, .inl (vI g.pc))), (61, .inl (.int, 8, .inl (vI g.lc))), (62, .inl (.int, 9, .inl (vI g.sr))), (63, .inl (.int, 1728, .inl (vI g.ru))), (64, .inl (.int, 1728, .inl (vI g.hd))), (65, .inl (.int, 5184, .inl (vI g.bd))), (66, .inl (.int, 9, .inl (vI g.mg)))]
theorem RuAt.mv {h : Nat → MC} {k : Nat} {R : RuS} {l : MLs} (hR : RuAt h k R) (hk : 0 < k ∧ k + 5 ≤ 47) (hl : l.all (fun q => Nat.beq q.1 0 || Nat.ble 47 q.1) = true) : RuAt (mov l h) k R := by
  have e : ∀ j, 0 < j → j < 47 → mov l h j = h j := fun j h1 h2 => by
    cases e : mlk l j with
    | none => simp only [mov, e]
    | some c =>
      have h3 := List.all_eq_true.mp hl _ (mlk_mem e)
      rw [Bool.or_eq_true] at h3
      rcases h3 with h3 | h3
      · have : j = 0 := Nat.eq_of_beq_eq_true h3
        omega
      · have : 47 ≤ j := Nat.le_of_ble_eq_true h3
        omega
  exact ⟨(e _ (by omega) (by omega)).trans hR.1, (e _ (by omega) (by omega)).trans hR.2.1, (e _ (by omega) (by omega)).trans hR.2.2.1, (e _ (by omega) (by omega)).trans hR.2.2.2.1, (e _ (by omega) (by omega)).trans hR.2.2.2.2⟩
set_option maxRecDepth 20000 in
theorem c_fillInstance (d n r i : Nat) (R : RuS) (v b : Nat → Nat) (g : GD) (h : Nat → MC) (hR : RuAt h (7 + 5 * r) R) (hV : RuV R v r) (hok : OkN v) (hr : r < v 2) (hb : ∀ x, x < 3 → b x < 6) (hmg : ∀ t, t < 9 → g.mg t = tOf b t) (hpc : g.pc r = plT v r) (hi : i < 1728) : Fn M_X1_fillInstance (d + 1) 0 0 [.ref 56, .ref (7 + 5 * r), .int (nI r), .int (nI i)] (mov (grL g) h) n none (mov (grL (mkG g.st g.sf g.rc g.hs g.pr g.pc g.lc g.sr (updN g.ru i r) (updN g.hd i (fA v b r 0)) (bdN v b r i g.bd (v (45 + 18 * r + 1))) g.mg)) h) := by
  refine Fn.of fun post hp => ?_
  have h8 := hok.2.2.2.1
  obtain ⟨-, -, hl1, hl3, hat⟩ := hok.2.2.2.2.2.2 r hr
  obtain ⟨e1, e2, ea⟩ := hV
  have hR' : ∀ {l : MLs}, l.all (fun q => Nat.beq q.1 0 || Nat.ble 47 q.1) = true → RuAt (mov l h) (7 + 5 * r) R := fun hl => hR.mv (by omega) hl
  have q0 : ∀ {l : MLs}, l.all (fun q => Nat.beq q.1 0 || Nat.ble 47 q.1) = true → mov l h (7 + 5 * r) = _ := fun hl => (hR' hl).1
  have q1 : ∀ {l : MLs}, l.all (fun q => Nat.beq q.1 0 || Nat.ble 47 q.1) = true → mov l h (7 + 5 * r + 1) = _ := fun hl => (hR' hl).2.1
  have q2 : ∀ {l : MLs}, l.all (fun q => Nat.beq q.1 0 || Nat.ble 47 q.1) = true → mov l h (7 + 5 * r + 2) = _ := fun hl => (hR' hl).2.2.1
  have q3 : ∀ {l : MLs}, l.all (fun q => Nat.beq q.1 0 || Nat.ble 47 q.1) = true → mov l h (7 + 5 * r + 3) = _ := fun hl => (hR' hl).2.2.2.1
  have q4 : ∀ {l : MLs}, l.all (fun q => Nat.beq q.1 0 || Nat.ble 47 q.1) = true → mov l h (7 + 5 * r + 4) = _ := fun hl => (hR' hl).2.2.2.2
  have atom : ∀ a, a ≤ v (45 + 18 * r + 1) → vI R.pr a = nI (v (45 + 18 * r + 2 + 4 * a)) ∧ vI R.fi a = nI (v (45 + 18 * r + 2 + 4 * a + 1)) ∧ vI R.se a = nI (v (45 + 18 * r + 2 + 4 * a + 2)) ∧ v (45 + 18 * r + 2 + 4 * a + 1) < 9 ∧ v (45 + 18 * r + 2 + 4 * a + 2) < 9 ∧ v (45 + 18 * r + 2 + 4 * a) * 36 + tOf b (v (45 + 18 * r + 2 + 4 * a + 1)) * 6 + tOf b (v (45 + 18 * r + 2 + 4 * a + 2)) = fA v b r a := fun a ha => by
    obtain ⟨u1, u2, u3, -⟩ := ea a ha
    obtain ⟨-, w1, w2, -⟩ := hat a ha
    refine ⟨congrArg nI u1, congrArg nI u2, congrArg nI u3, w1, w2, ?_⟩
    unfold fA
    omega
  have mgn : ∀ t, t < 9 → vI g.mg t = nI (tOf b t) := fun t ht => congrArg nI (hmg t ht)
  have hpcI : vI g.pc r = nI (plT v r) := congrArg nI hpc
  have hpt : plT v r ≤ 3 := Nat.le_trans (plN_le v r _) hl3
  refine mw_aload_n (i := 0) rfl rfl rfl ?_
  refine mw_getfield rfl f_X1_30 (by first | rfl | exact rfl | exact (q0 rfl) | exact (q1 rfl) | exact (q2 rfl) | exact (q3 rfl) | exact (q4 rfl)) rfl ?_
  refine mw_iload_n (i := 3) rfl rfl rfl ?_
  refine mw_iload_n (i := 2) rfl rfl rfl ?_
  refine mw_iast_m rfl (by first | rfl | exact rfl | exact (q0 rfl) | exact (q1 rfl) | exact (q2 rfl) | exact (q3 rfl) | exact (q4 rfl)) (by omega) (by omega) ?_
  first | rw [vI_upd] | rw [vI_updv] | skip
  refine mw_iload_n (i := 3) rfl rfl rfl ?_
  refine mw_iconst (v := nI 3) rfl (by decide) ?_
  first | refine mw_nmul rfl ?_ | refine mw_imul rfl ?_
  refine mw_istore rfl (Nat.le_of_ble_eq_true rfl) ?_
  refine mw_iload rfl rfl ?_
  refine mw_aload_n (i := 0) rfl rfl rfl ?_
  refine mw_getfield rfl f_X1_21 (by first | rfl | exact rfl | exact (q0 rfl) | exact (q1 rfl) | exact (q2 rfl) | exact (q3 rfl) | exact (q4 rfl)) rfl ?_
  refine mw_iload_n (i := 2) rfl rfl rfl ?_
  refine mw_iald_v rfl (by first | rfl | exact rfl | exact (q0 rfl) | exact (q1 rfl) | exact (q2 rfl) | exact (q3 rfl) | exact (q4 rfl)) (by omega) (by omega) hpcI ?_
  first | refine mw_nadd rfl ?_ | refine mw_iadd rfl ?_
  refine mw_istore rfl (Nat.le_of_ble_eq_true rfl) ?_
  refine mw_iconst (v := nI 0) rfl (by decide) ?_
  refine mw_istore rfl (Nat.le_of_ble_eq_true rfl) ?_
  obtain ⟨a1, a2, a3, a4, a5, a6⟩ := atom 0 (by omega)
  refine mw_iload rfl rfl ?_
  refine mw_aload_n (i := 1) rfl rfl rfl ?_
  refine mw_getfield rfl f_X1_64 (by first | rfl | exact rfl | exact (q0 rfl) | exact (q1 rfl) | exact (q2 rfl) | exact (q3 rfl) | exact (q4 rfl)) rfl ?_
  refine mw_n_gt rfl (by omega) (by omega) (fun hc => ?_) (fun hc => ?_)
  · omega
  · refine mw_aload_n (i := 1) rfl rfl rfl ?_
    refine mw_getfield rfl f_X1_57 (by first | rfl | exact rfl | exact (q0 rfl) | exact (q1 rfl) | exact (q2 rfl) | exact (q3 rfl) | exact (q4 rfl)) rfl ?_
    refine mw_iload rfl rfl ?_
    refine mw_iald_v rfl (q1 rfl) (by omega) (by omega) a1 ?_
    refine mw_aload_n (i := 0) rfl rfl rfl ?_
    refine mw_getfield rfl f_X1_39 (by first | rfl | exact rfl | exact (q0 rfl) | exact (q1 rfl) | exact (q2 rfl) | exact (q3 rfl) | exact (q4 rfl)) rfl ?_
    refine mw_aload_n (i := 1) rfl rfl rfl ?_
    refine mw_getfield rfl f_X1_106 (by first | rfl | exact rfl | exact (q0 rfl) | exact (q1 rfl) | exact (q2 rfl) | exact (q3 rfl) | exact (q4 rfl)) rfl ?_
    refine mw_iload rfl rfl ?_
    refine mw_iald_v rfl (q2 rfl) (by omega) (by omega) a2 ?_
    refine mw_iald_v rfl (by first | rfl | exact rfl | exact (q0 rfl) | exact (q1 rfl) | exact (q2 rfl) | exact (q3 rfl) | exact (q4 rfl)) (by omega) (by omega) (mgn _ a4) ?_
    refine mw_aload_n (i := 0) rfl rfl rfl ?_
    refine mw_getfield rfl f_X1_39 (by first | rfl | exact rfl | exact (q0 rfl) | exact (q1 rfl) | exact (q2 rfl) | exact (q3 rfl) | exact (q4 rfl)) rfl ?_
    refine mw_aload_n (i := 1) rfl rfl rfl ?_
    refine mw_getfield rfl f_X1_109 (by first | rfl | exact rfl | exact (q0 rfl) | exact (q1 rfl) | exact (q2 rfl) | exact (q3 rfl) | exact (q4 rfl)) rfl ?_
    refine mw_iload rfl rfl ?_
    refine mw_iald_v rfl (q3 rfl) (by omega) (by omega) a3 ?_
    refine mw_iald_v rfl (by first | rfl | exact rfl | exact (q0 rfl) | exact (q1 rfl) | exact (q2 rfl) | exact (q3 rfl) | exact (q4 rfl)) (by omega) (by omega) (mgn _ a5) ?_
    refine mw_callSN_f (c_atomNumber d n (v (45 + 18 * r + 2 + 4 * 0)) (tOf b (v (45 + 18 * r + 2 + 4 * 0 + 1))) (tOf b (v (45 + 18 * r + 2 + 4 * 0 + 2))) _) rfl ok_X9_atomNumber v_X1_112 rfl (Nat.le_of_ble_eq_true rfl) rfl (Nat.le_of_ble_eq_true rfl) (by omega) (by omega) (by omega) ?_
    rw [a6]
    refine mw_istore rfl (Nat.le_of_ble_eq_true rfl) ?_
    refine mw_iload rfl rfl ?_
    refine mw_z_ne rfl (by omega) (fun hz => ?_) (fun hz => ?_)
    · exact absurd rfl hz
    · refine mw_aload_n (i := 0) rfl rfl rfl ?_
      refine mw_getfield rfl f_X1_33 (by first | rfl | exact rfl | exact (q0 rfl) | exact (q1 rfl) | exact (q2 rfl) | exact (q3 rfl) | exact (q4 rfl)) rfl ?_
      refine mw_iload_n (i := 3) rfl rfl rfl ?_
      refine mw_iload rfl rfl ?_
      refine mw_iast_m rfl (by first | rfl | exact rfl | exact (q0 rfl) | exact (q1 rfl) | exact (q2 rfl) | exact (q3 rfl) | exact (q4 rfl)) (by omega) (by omega) ?_
      first | rw [vI_upd] | rw [vI_updv] | skip
      refine mw_goto rfl ?_
      first | refine mw_ninc rfl rfl (Nat.le_of_ble_eq_true rfl) ?_ | refine mw_iinc rfl rfl rfl (Nat.le_of_ble_eq_true rfl) ?_
      refine mw_goto rfl ?_
      have loop : ∀ k, k ≤ v (45 + 18 * r + 1) → ∀ x : Nat, MW M_X1_fillInstance (d + 1) 0 0 n post 26 [(0, .ref 56), (1, .ref (7 + 5 * r)), (2, .int (nI r)), (3, .int (nI i)), (4, .int (nI (i * 3 + plN v r k))), (5, .int (nI (i * 3 + plT v r + (k - plN v r k)))), (6, .int (nI (k + 1))), (7, .int (nI x))] [] (mov (grL (mkG g.st g.sf g.rc g.hs g.pr g.pc g.lc g.sr (updN g.ru i r) (updN g.hd i (fA v b r 0)) (bdN v b r i g.bd k) g.mg)) h) n 0 := by
        refine loop_up (v (45 + 18 * r + 1)) ?_ ?_
        · intro x
          refine mw_iload rfl rfl ?_
          refine mw_aload_n (i := 1) rfl rfl rfl ?_
          refine mw_getfield rfl f_X1_64 (by first | rfl | exact rfl | exact (q0 rfl) | exact (q1 rfl) | exact (q2 rfl) | exact (q3 rfl) | exact (q4 rfl)) rfl ?_
          refine mw_n_gt rfl (by omega) (by omega) (fun hc => ?_) (fun hc => ?_)
          · exact mw_return rfl rfl rfl (Nat.le_refl _) (hp)
          · omega
        · intro k hk ih x
          obtain ⟨a1, a2, a3, a4, a5, a6⟩ := atom (k + 1) (by omega)
          have gk : bIf R.ng (k + 1) = bI (decide (v (45 + 18 * r + 2 + 4 * (k + 1) + 3) ≠ 0)) := congrArg bI ((ea (k + 1) (by omega)).2.2.2 (by omega))
          have hin := bdP_in (v := v) (r := r) (i := i) (a := k) hk
          have hle := plN_le v r k
          refine mw_iload rfl rfl ?_
          refine mw_aload_n (i := 1) rfl rfl rfl ?_
          refine mw_getfield rfl f_X1_64 (by first | rfl | exact rfl | exact (q0 rfl) | exact (q1 rfl) | exact (q2 rfl) | exact (q3 rfl) | exact (q4 rfl)) rfl ?_
          refine mw_n_gt rfl (by omega) (by omega) (fun hc => ?_) (fun hc => ?_)
          · omega
          · refine mw_aload_n (i := 1) rfl rfl rfl ?_
            refine mw_getfield rfl f_X1_57 (by first | rfl | exact rfl | exact (q0 rfl) | exact (q1 rfl) | exact (q2 rfl) | exact (q3 rfl) | exact (q4 rfl)) rfl ?_
            refine mw_iload rfl rfl ?_
            refine mw_iald_v rfl (q1 rfl) (by omega) (by omega) a1 ?_
            refine mw_aload_n (i := 0) rfl rfl rfl ?_
            refine mw_getfield rfl f_X1_39 (by first | rfl | exact rfl | exact (q0 rfl) | exact (q1 rfl) | exact (q2 rfl) | exact (q3 rfl) | exact (q4 rfl)) rfl ?_
            refine mw_aload_n (i := 1) rfl rfl rfl ?_
            refine mw_getfield rfl f_X1_106 (by first | rfl | exact rfl | exact (q0 rfl) | exact (q1 rfl) | exact (q2 rfl) | exact (q3 rfl) | exact (q4 rfl)) rfl ?_
            refine mw_iload rfl rfl ?_
            refine mw_iald_v rfl (q2 rfl) (by omega) (by omega) a2 ?_
            refine mw_iald_v rfl (by first | rfl | exact rfl | exact (q0 rfl) | exact (q1 rfl) | exact (q2 rfl) | exact (q3 rfl) | exact (q4 rfl)) (by omega) (by omega) (mgn _ a4) ?_
            refine mw_aload_n (i := 0) rfl rfl rfl ?_
            refine mw_getfield rfl f_X1_39 (by first | rfl | exact rfl | exact (q0 rfl) | exact (q1 rfl) | exact (q2 rfl) | exact (q3 rfl) | exact (q4 rfl)) rfl ?_
            refine mw_aload_n (i := 1) rfl rfl rfl ?_
            refine mw_getfield rfl f_X1_109 (by first | rfl | exact rfl | exact (q0 rfl) | exact (q1 rfl) | exact (q2 rfl) | exact (q3 rfl) | exact (q4 rfl)) rfl ?_
            refine mw_iload rfl rfl ?_
            refine mw_iald_v rfl (q3 rfl) (by omega) (by omega) a3 ?_
            refine mw_iald_v rfl (by first | rfl | exact rfl | exact (q0 rfl) | exact (q1 rfl) | exact (q2 rfl) | exact (q3 rfl) | exact (q4 rfl)) (by omega) (by omega) (mgn _ a5) ?_
            refine mw_callSN_f (c_atomNumber d n (v (45 + 18 * r + 2 + 4 * (k + 1))) (tOf b (v (45 + 18 * r + 2 + 4 * (k + 1) + 1))) (tOf b (v (45 + 18 * r + 2 + 4 * (k + 1) + 2))) _) rfl ok_X9_atomNumber v_X1_112 rfl (Nat.le_of_ble_eq_true rfl) rfl (Nat.le_of_ble_eq_true rfl) (by omega) (by omega) (by omega) ?_
            rw [a6]
            refine mw_istore rfl (Nat.le_of_ble_eq_true rfl) ?_
            refine mw_iload rfl rfl ?_
            refine mw_z_ne rfl (by omega) (fun hz => ?_) (fun hz => ?_)
            · refine mw_aload_n (i := 1) rfl rfl rfl ?_
              refine mw_getfield rfl f_X1_67 (by first | rfl | exact rfl | exact (q0 rfl) | exact (q1 rfl) | exact (q2 rfl) | exact (q3 rfl) | exact (q4 rfl)) rfl ?_
              refine mw_iload rfl rfl ?_
              refine mw_zald_v rfl (q4 rfl) (by omega) (by omega) gk ?_
              refine mw_b_eq rfl (fun hb => ?_) (fun hb => ?_)
              · have hv0 : v (45 + 18 * r + 2 + 4 * (k + 1) + 3) = 0 := by simpa using hb
                have ep : bdP v r i k = i * 3 + plN v r k := if_pos hv0
                rw [ep] at hin
                refine mw_aload_n (i := 0) rfl rfl rfl ?_
                refine mw_getfield rfl f_X1_36 (by first | rfl | exact rfl | exact (q0 rfl) | exact (q1 rfl) | exact (q2 rfl) | exact (q3 rfl) | exact (q4 rfl)) rfl ?_
                refine mw_iload rfl rfl ?_
                refine mw_iload rfl rfl ?_
                refine mw_iast_m rfl (by first | rfl | exact rfl | exact (q0 rfl) | exact (q1 rfl) | exact (q2 rfl) | exact (q3 rfl) | exact (q4 rfl)) (by omega) (by omega) ?_
                first | rw [vI_upd] | rw [vI_updv] | skip
                first | refine mw_ninc rfl rfl (Nat.le_of_ble_eq_true rfl) ?_ | refine mw_iinc rfl rfl rfl (Nat.le_of_ble_eq_true rfl) ?_
                first | refine mw_ninc rfl rfl (Nat.le_of_ble_eq_true rfl) ?_ | refine mw_iinc rfl rfl rfl (Nat.le_of_ble_eq_true rfl) ?_
                refine mw_goto rfl ?_
                refine mw_locals ?_ (mw_heap ?_ (ih (fA v b r (k + 1))))
                · rw [plN_1 hv0, show k + 1 - (plN v r k + 1) = k - plN v r k by omega]; rfl
                · rw [← ep]; rfl
              · have hv0 : v (45 + 18 * r + 2 + 4 * (k + 1) + 3) ≠ 0 := of_decide_eq_true hb
                have ep : bdP v r i k = i * 3 + plT v r + (k - plN v r k) := if_neg hv0
                rw [ep] at hin
                refine mw_aload_n (i := 0) rfl rfl rfl ?_
                refine mw_getfield rfl f_X1_36 (by first | rfl | exact rfl | exact (q0 rfl) | exact (q1 rfl) | exact (q2 rfl) | exact (q3 rfl) | exact (q4 rfl)) rfl ?_
                refine mw_iload rfl rfl ?_
                refine mw_iload rfl rfl ?_
                refine mw_iast_m rfl (by first | rfl | exact rfl | exact (q0 rfl) | exact (q1 rfl) | exact (q2 rfl) | exact (q3 rfl) | exact (q4 rfl)) (by omega) (by omega) ?_
                first | rw [vI_upd] | rw [vI_updv] | skip
                first | refine mw_ninc rfl rfl (Nat.le_of_ble_eq_true rfl) ?_ | refine mw_iinc rfl rfl rfl (Nat.le_of_ble_eq_true rfl) ?_
                refine mw_goto rfl ?_
                first | refine mw_ninc rfl rfl (Nat.le_of_ble_eq_true rfl) ?_ | refine mw_iinc rfl rfl rfl (Nat.le_of_ble_eq_true rfl) ?_
                refine mw_goto rfl ?_
                refine mw_locals ?_ (mw_heap ?_ (ih (fA v b r (k + 1))))
                · rw [plN_0 hv0, show k + 1 - plN v r k = k - plN v r k + 1 by omega]; rfl
                · rw [← ep]; rfl
            · omega
      exact mw_locals rfl (mw_heap rfl (loop 0 (Nat.zero_le _) (fA v b r 0)))
