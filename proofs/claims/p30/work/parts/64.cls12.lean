/-! THE CLASS'S COSTS: base facts, one instance, one pass -/
theorem nI_0le {k : Nat} (h : k < 2147483648) : ¬ nI k < 0 := nI_pos h
/-- steps over the plain places of an instance are steps over its plain literals -/
theorem pl_fold {α : Type} {v b bd : Nat → Nat} {r i : Nat} (F : Nat → α → α) (z : α) (hbd : ∀ a, a < v (45 + 18 * r + 1) → bd (bdP v r i a) = fA v b r (a + 1)) : ∀ n, n ≤ v (45 + 18 * r + 1) → itN (fun k x => F (bd (i * 3 + k)) x) z (plN v r n) = itN (fun a x => if v (45 + 18 * r + 2 + 4 * (a + 1) + 3) = 0 then F (fA v b r (a + 1)) x else x) z n
  | 0, _ => rfl
  | n + 1, hn => by
    have ih := pl_fold F z hbd n (by omega)
    show _ = if v (45 + 18 * r + 2 + 4 * (n + 1) + 3) = 0 then F (fA v b r (n + 1)) (itN (fun a x => if v (45 + 18 * r + 2 + 4 * (a + 1) + 3) = 0 then F (fA v b r (a + 1)) x else x) z n) else itN (fun a x => if v (45 + 18 * r + 2 + 4 * (a + 1) + 3) = 0 then F (fA v b r (a + 1)) x else x) z n
    by_cases q : v (45 + 18 * r + 2 + 4 * (n + 1) + 3) = 0
    · rw [plN_1 q, if_pos q, ← ih]
      have e := hbd n (by omega)
      unfold bdP at e
      rw [if_pos q] at e
      show F (bd (i * 3 + plN v r n)) _ = _
      rw [e]
    · rw [plN_0 q, if_neg q, ih]
/-- a literal's step in the reference's rows -/
def litG {α : Type} (F : Nat → α → α) (x : Int32) (y : α) : α := if x < 0 then y else F x.toNatClampNeg y
theorem li_fold {α : Type} {v b : Nat → Nat} {r : Nat} (hok : OkN v) (hr : r < v 2) (hb : ∀ x, x < 3 → b x < 6) (F : Nat → α → α) (z : α) {li : Nat → Int32} {j : Nat} (hli : ∀ a, a < 3 → li (3 * j + a) = liA v b r (a + 1)) : itN (fun a y => litG F (li (3 * j + a)) y) z 3 = itN (fun a x => if v (45 + 18 * r + 2 + 4 * (a + 1) + 3) = 0 then F (fA v b r (a + 1)) x else x) z (v (45 + 18 * r + 1)) := by
  have hl3 := (hok.2.2.2.2.2.2 r hr).2.2.2.1
  have h1 : ∀ a, a < v (45 + 18 * r + 1) → ∀ y, litG F (li (3 * j + a)) y = if v (45 + 18 * r + 2 + 4 * (a + 1) + 3) = 0 then F (fA v b r (a + 1)) y else y := fun a ha y => by
    have hf := fA_lt hok hb hr (show a + 1 ≤ v (45 + 18 * r + 1) by omega)
    rw [hli a (by omega)]
    unfold liA plA
    rw [decide_eq_true (show a + 1 ≤ v (45 + 18 * r + 1) by omega), Bool.true_and]
    by_cases q : v (45 + 18 * r + 2 + 4 * (a + 1) + 3) = 0
    · rw [if_pos q, decide_eq_true q, if_pos rfl]
      unfold litG
      rw [if_neg (nI_pos (by omega)), nI_clamp (by omega)]
    · rw [if_neg q, decide_eq_false q, if_neg (show ¬ false = true by decide)]
      exact if_pos (by decide)
  have h2 : ∀ a, v (45 + 18 * r + 1) ≤ a → a < 3 → ∀ y, litG F (li (3 * j + a)) y = y := fun a ha ha3 y => by
    rw [hli a ha3]
    unfold liA plA
    rw [decide_eq_false (show ¬ a + 1 ≤ v (45 + 18 * r + 1) by omega), Bool.false_and, if_neg (show ¬ false = true by decide)]
    exact if_pos (by decide)
  have h3 : ∀ m, v (45 + 18 * r + 1) + m ≤ 3 → itN (fun a y => litG F (li (3 * j + a)) y) z (v (45 + 18 * r + 1) + m) = itN (fun a y => litG F (li (3 * j + a)) y) z (v (45 + 18 * r + 1)) := by
    intro m
    induction m with
    | zero => exact fun _ => rfl
    | succ m ih =>
      intro hm
      show litG F (li (3 * j + (v (45 + 18 * r + 1) + m))) (itN (fun a y => litG F (li (3 * j + a)) y) z (v (45 + 18 * r + 1) + m)) = _
      rw [h2 _ (by omega) (by omega), ih (by omega)]
  have h4 := h3 (3 - v (45 + 18 * r + 1)) (by omega)
  rw [show v (45 + 18 * r + 1) + (3 - v (45 + 18 * r + 1)) = 3 by omega] at h4
  rw [h4]
  exact itN_cg h1
/-- what is known of the j-th instance that holds -/
theorem HdOk.at {v : Nat → Nat} (hok : OkN v) {g : GD} (hG : GrOk v g) {S : HoS} {tot : Nat} {hs oh : Nat → Nat} (h : HdOk v S tot hs oh) {j : Nat} (hj : j < S.1) :
    hs j < 1728 ∧ S.2.1 j < v 2 ∧ g.ru (hs j) = S.2.1 j ∧ S.2.2.1 j < 216 ∧ g.hd (hs j) = S.2.2.1 j ∧ plT v (S.2.1 j) ≤ 3 ∧ g.pc (S.2.1 j) = plT v (S.2.1 j) ∧ g.pr (S.2.1 j) = v (45 + 18 * S.2.1 j) ∧ (∀ k, k < plT v (S.2.1 j) → g.bd (hs j * 3 + k) < 216) ∧ ∀ (α : Type) (F : Nat → α → α) (z : α), itN (fun k x => F (g.bd (hs j * 3 + k)) x) z (plT v (S.2.1 j)) = itN (fun a y => litG F (S.2.2.2.1 (3 * j + a)) y) z 3 := by
  obtain ⟨-, -, -, hJ, -, hI, -⟩ := hG
  obtain ⟨-, h2, -⟩ := h
  obtain ⟨a1, a2, a3, a4⟩ := h2 j hj
  obtain ⟨hr, hc, eru, ehd, ebd⟩ := hI (hs j) a1
  rw [a2] at hr eru ehd ebd
  have hN := en_1728 hok (Nat.le_refl (v 2))
  have hb : ∀ x, x < 3 → bnd ((enF v (v 2)).2.2 (hs j)) x < 6 := fun x hx => bndU_lt (fun _ => 0) hc hx
  obtain ⟨-, q2, q3, -⟩ := hJ _ hr
  have hl3 := (hok.2.2.2.2.2.2 _ hr).2.2.2.1
  have hpl : plT v (S.2.1 j) ≤ v (45 + 18 * S.2.1 j + 1) := plN_le v _ _
  refine ⟨by omega, hr, eru, ?_, ehd.trans a3, by omega, q3, q2, fun k hk => ?_, fun α F z => ?_⟩
  · rw [← a3]
    exact fA_lt hok hb hr (Nat.zero_le _)
  · obtain ⟨a, h1, h2⟩ := bdP_surj (v := v) (r := S.2.1 j) (i := hs j) (k := k) (by omega)
    rw [← h2, ebd a h1]
    exact fA_lt hok hb hr (by omega)
  · rw [li_fold hok hr hb F z a4]
    exact pl_fold F z ebd _ (Nat.le_refl _)
theorem coS_eq (v : Nat → Nat) (S : HoS) (c : Nat → Nat) (j : Nat) : coS v S c j = itN (fun a y => litG (fun f y => y + c f) (S.2.2.2.1 (3 * j + a)) y) (v (45 + 18 * S.2.1 j)) 3 := itN_cg fun a _ y => by
  unfold litN litG
  split
  · rfl
  · rfl
abbrev KO : MC := .inr (0, [.ref 73, .ref 74, .ref 75, .ref 76, .ref 77, .ref 78])
theorem sum_le {c : Nat → Nat} {p : Nat → Nat} {z : Nat} : ∀ n, (∀ k, k < n → c (p k) ≤ 1000001) → itN (fun k x => x + c (p k)) z n ≤ z + 1000001 * n
  | 0, _ => Nat.le_refl _
  | n + 1, h => by
    have h1 := sum_le (z := z) n (fun k hk => h k (by omega))
    have h2 := h n (by omega)
    show itN _ z n + c (p n) ≤ _
    omega
theorem c_kcostBy (d n j : Nat) (v c : Nat → Nat) (S : HoS) (tot : Nat) (hs oh : Nat → Nat) (g : GD) (h : Nat → MC) (hg : GrAt h g) (hG : GrOk v g) (hok : OkN v) (hH : HdOk v S tot hs oh) (hj : j < S.1) (h72 : h 72 = KO) (h73 : h 73 = .inl (.int, 216, .inl (vI c))) (hc : ∀ f, f < 216 → c f ≤ 1000001) : Fn M_X0_costBy (d + 1) 0 0 [.ref 72, .ref 56, .int (nI (hs j))] h n (some (.int (nI (coB v S c j)))) h := by
  refine Fn.of fun post hp => ?_
  obtain ⟨a1, a2, a3, a4, a5, a6, a7, a8, a9, a10⟩ := hH.at hok hG hj
  have h8 := hok.2.2.2.1
  have hpr := (hok.2.2.2.2.2.2 _ a2).2.1
  unfold coB at hp
  rw [coS_eq, ← a10 Nat (fun f y => y + c f)] at hp
  have b1 : vI g.ru (hs j) = nI (S.2.1 j) := congrArg nI a3
  have b2 : vI g.pr (S.2.1 j) = nI (v (45 + 18 * S.2.1 j)) := congrArg nI a8
  have b3 : vI g.pc (S.2.1 j) = nI (plT v (S.2.1 j)) := congrArg nI a7
  have hsum := fun n hn => sum_le (c := c) (p := fun k => g.bd (hs j * 3 + k)) (z := v (45 + 18 * S.2.1 j)) n (fun k hk => hc _ (a9 k (Nat.lt_of_lt_of_le hk hn)))
  generalize S.2.1 j = r at a2 a6 a9 b1 b2 b3 hp hpr hsum
  generalize plT v r = pl at a6 a9 b3 hp hsum
  generalize v (45 + 18 * r) = pz at b2 hp hpr hsum
  refine mw_aload_n (i := 1) rfl rfl rfl ?_
  refine mw_getfield rfl f_X0_82 (by first | rfl | exact hg.1 | exact hg.2.2.2.1 | exact hg.2.2.2.2.1 | exact hg.2.2.2.2.2.2.2.1 | exact hg.2.2.2.2.2.2.2.2.2.1 | exact h72 | exact h73) rfl ?_
  refine mw_iload_n (i := 2) rfl rfl rfl ?_
  refine mw_iald_v rfl (by first | rfl | exact hg.1 | exact hg.2.2.2.1 | exact hg.2.2.2.2.1 | exact hg.2.2.2.2.2.2.2.1 | exact hg.2.2.2.2.2.2.2.2.2.1 | exact h72 | exact h73) (by omega) (by omega) b1 ?_
  refine mw_istore_n (i := 3) rfl rfl (Nat.le_of_ble_eq_true rfl) ?_
  refine mw_iload_n (i := 2) rfl rfl rfl ?_
  refine mw_iconst (v := nI 3) rfl (by decide) ?_
  first | refine mw_nmul rfl ?_ | refine mw_imul rfl ?_
  refine mw_istore rfl (Nat.le_of_ble_eq_true rfl) ?_
  refine mw_aload_n (i := 1) rfl rfl rfl ?_
  refine mw_getfield rfl f_X0_83 (by first | rfl | exact hg.1 | exact hg.2.2.2.1 | exact hg.2.2.2.2.1 | exact hg.2.2.2.2.2.2.2.1 | exact hg.2.2.2.2.2.2.2.2.2.1 | exact h72 | exact h73) rfl ?_
  refine mw_iload_n (i := 3) rfl rfl rfl ?_
  refine mw_iald_v rfl (by first | rfl | exact hg.1 | exact hg.2.2.2.1 | exact hg.2.2.2.2.1 | exact hg.2.2.2.2.2.2.2.1 | exact hg.2.2.2.2.2.2.2.2.2.1 | exact h72 | exact h73) (by omega) (by omega) b2 ?_
  refine mw_istore rfl (Nat.le_of_ble_eq_true rfl) ?_
  refine mw_iload rfl rfl ?_
  refine mw_istore rfl (Nat.le_of_ble_eq_true rfl) ?_
  have loop : ∀ k, k ≤ pl → MW M_X0_costBy (d + 1) 0 0 n post 24 [(0, .ref 72), (1, .ref 56), (3, .int (nI r)), (4, .int (nI (hs j * 3))), (5, .int (nI (itN (fun k y => y + c (g.bd (hs j * 3 + k))) pz k))), (6, .int (nI (hs j * 3 + k)))] [] h n 0 := by
    refine loop_up pl ?_ ?_
    · have h1 := hsum pl (Nat.le_refl _)
      generalize itN (fun k y => y + c (g.bd (hs j * 3 + k))) pz pl = t at h1 hp ⊢
      refine mw_iload rfl rfl ?_
      refine mw_iload rfl rfl ?_
      refine mw_aload_n (i := 1) rfl rfl rfl ?_
      refine mw_getfield rfl f_X0_86 (by first | rfl | exact hg.1 | exact hg.2.2.2.1 | exact hg.2.2.2.2.1 | exact hg.2.2.2.2.2.2.2.1 | exact hg.2.2.2.2.2.2.2.2.2.1 | exact h72 | exact h73) rfl ?_
      refine mw_iload_n (i := 3) rfl rfl rfl ?_
      refine mw_iald_v rfl (by first | rfl | exact hg.1 | exact hg.2.2.2.1 | exact hg.2.2.2.2.1 | exact hg.2.2.2.2.2.2.2.1 | exact hg.2.2.2.2.2.2.2.2.2.1 | exact h72 | exact h73) (by omega) (by omega) b3 ?_
      first | refine mw_nadd rfl ?_ | refine mw_iadd rfl ?_
      refine mw_n_ge rfl (by omega) (by omega) (fun hc => ?_) (fun hc => ?_)
      · refine mw_iload rfl rfl ?_
        refine mw_ldc (v := nI 1000001) rfl c_X0_46 ?_
        refine mw_mmin rfl v_X0_92 (by omega) (Nat.le_of_ble_eq_true rfl) (by omega) (by omega) ?_
        rw [show (if nI 1000001 < nI t then nI 1000001 else nI t) = nI (if 1000001 < t then 1000001 else t) by
          by_cases q : 1000001 < t
          · rw [if_pos q, if_pos ((nI_ltI (by omega) (by omega)).mpr q)]
          · rw [if_neg q, if_neg (fun w => q ((nI_ltI (by omega) (by omega)).mp w))]]
        exact mw_ireturn rfl rfl rfl rfl (Nat.le_refl _) (hp)
      · omega
    · intro k hk ih
      have hb := a9 k hk
      refine mw_iload rfl rfl ?_
      refine mw_iload rfl rfl ?_
      refine mw_aload_n (i := 1) rfl rfl rfl ?_
      refine mw_getfield rfl f_X0_86 (by first | rfl | exact hg.1 | exact hg.2.2.2.1 | exact hg.2.2.2.2.1 | exact hg.2.2.2.2.2.2.2.1 | exact hg.2.2.2.2.2.2.2.2.2.1 | exact h72 | exact h73) rfl ?_
      refine mw_iload_n (i := 3) rfl rfl rfl ?_
      refine mw_iald_v rfl (by first | rfl | exact hg.1 | exact hg.2.2.2.1 | exact hg.2.2.2.2.1 | exact hg.2.2.2.2.2.2.2.1 | exact hg.2.2.2.2.2.2.2.2.2.1 | exact h72 | exact h73) (by omega) (by omega) b3 ?_
      first | refine mw_nadd rfl ?_ | refine mw_iadd rfl ?_
      refine mw_n_ge rfl (by omega) (by omega) (fun hc => ?_) (fun hc => ?_)
      · omega
      · refine mw_iload rfl rfl ?_
        refine mw_aload_n (i := 0) rfl rfl rfl ?_
        refine mw_getfield rfl f_X0_9 (by first | rfl | exact hg.1 | exact hg.2.2.2.1 | exact hg.2.2.2.2.1 | exact hg.2.2.2.2.2.2.2.1 | exact hg.2.2.2.2.2.2.2.2.2.1 | exact h72 | exact h73) rfl ?_
        refine mw_aload_n (i := 1) rfl rfl rfl ?_
        refine mw_getfield rfl f_X0_89 (by first | rfl | exact hg.1 | exact hg.2.2.2.1 | exact hg.2.2.2.2.1 | exact hg.2.2.2.2.2.2.2.1 | exact hg.2.2.2.2.2.2.2.2.2.1 | exact h72 | exact h73) rfl ?_
        refine mw_iload rfl rfl ?_
        refine mw_iald rfl (by first | rfl | exact hg.1 | exact hg.2.2.2.1 | exact hg.2.2.2.2.1 | exact hg.2.2.2.2.2.2.2.1 | exact hg.2.2.2.2.2.2.2.2.2.1 | exact h72 | exact h73) (by omega) (by omega) ?_
        refine mw_iald rfl (by first | rfl | exact hg.1 | exact hg.2.2.2.1 | exact hg.2.2.2.2.1 | exact hg.2.2.2.2.2.2.2.1 | exact hg.2.2.2.2.2.2.2.2.2.1 | exact h72 | exact h73) (by omega) (by omega) ?_
        first | refine mw_nadd rfl ?_ | refine mw_iadd rfl ?_
        refine mw_istore rfl (Nat.le_of_ble_eq_true rfl) ?_
        first | refine mw_ninc rfl rfl (Nat.le_of_ble_eq_true rfl) ?_ | refine mw_iinc rfl rfl rfl (Nat.le_of_ble_eq_true rfl) ?_
        refine mw_goto rfl ?_
        exact mw_locals rfl ih
  exact mw_locals rfl (loop 0 (Nat.zero_le _))
/-- the base facts of the class: (costs, cheapest base fact) -/
def kbU (v : Nat → Nat) (k : Nat) (p : (Nat → Nat) × (Nat → Int32)) : (Nat → Nat) × (Nat → Int32) := if v (9 + 3 * k + 1) < p.1 (v (9 + 3 * k)) then (updN p.1 (v (9 + 3 * k)) (v (9 + 3 * k + 1)), upd p.2 (v (9 + 3 * k)) (nI k)) else p
def kbF (v : Nat → Nat) : (Nat → Nat) × (Nat → Int32) := itN (kbU v) (fun _ => 1000001, fun _ => -1) (v 1)
theorem kb_co (v : Nat → Nat) : ∀ n, (itN (kbU v) (fun _ => 1000001, fun _ => -1) n).1 = itN (coU v) (fun _ => 1000001) n
  | 0 => rfl
  | n + 1 => by
    have ih := kb_co v n
    show (kbU v n (itN (kbU v) (fun _ => 1000001, fun _ => -1) n)).1 = coU v n (itN (coU v) (fun _ => 1000001) n)
    rw [← ih]
    generalize itN (kbU v) (fun _ => 1000001, fun _ => -1) n = p
    unfold kbU coU
    split
    · rfl
    · funext j
      unfold updN
      split
      · rename_i q
        rw [q]
      · rfl
set_option maxRecDepth 20000 in
theorem c_startBase (d n : Nat) (P : PgS) (v c0 : Nat → Nat) (ba0 : Nat → Int32) (h : Nat → MC) (hP : PgAt h 1 P) (hV : PgV P v) (hok : OkN v) (h72 : h 72 = KO) : Fn M_X0_startWithBaseFacts (d + 1) 0 0 [.ref 72, .ref 1] (mov [(73, .inl (.int, 216, .inl (vI c0))), (77, .inl (.int, 216, .inl ba0))] h) n none (mov [(73, .inl (.int, 216, .inl (vI (kbF v).1))), (77, .inl (.int, 216, .inl (kbF v).2))] h) := by
  refine Fn.of fun post hp => ?_
  have hP0 : h 1 = _ := hP.cell (i := 0) (by omega)
  have hP2 : h 3 = _ := hP.cell (i := 2) (by omega)
  have hP3 : h 4 = _ := hP.cell (i := 3) (by omega)
  have hf12 := hok.2.2.1
  obtain ⟨vc, vpl, vfc, vfa, vrc, vru⟩ := hV
  refine mw_aload_n (i := 0) rfl rfl rfl ?_
  refine mw_getfield rfl f_X0_9 (by first | rfl | exact rfl | exact hP0 | exact hP2 | exact hP3 | exact h72) rfl ?_
  refine mw_ldc (v := nI 1000001) rfl c_X0_46 ?_
  refine mw_callS_f (c_fill d n 73 216 (vI c0) (nI 1000001) _ rfl (by omega)) rfl ok_J7_fill_53178 v_X0_47 rfl (Nat.le_of_ble_eq_true rfl) rfl (Nat.le_of_ble_eq_true rfl) (by omega) (by omega) (by omega) ?_
  refine mw_tail (vI (fun _ => 1000001)) (hset_same _ _ _) (fun j hj => by unfold flr; rw [if_pos hj]; rfl) ?_
  rw [hset_hset, hset_mov]
  refine mw_aload_n (i := 0) rfl rfl rfl ?_
  refine mw_getfield rfl f_X0_24 (by first | rfl | exact rfl | exact hP0 | exact hP2 | exact hP3 | exact h72) rfl ?_
  refine mw_iconst (v := (-1)) rfl (by decide) ?_
  refine mw_callS_f (c_fill d n 77 216 ba0 (-1) _ rfl (by omega)) rfl ok_J7_fill_53178 v_X0_47 rfl (Nat.le_of_ble_eq_true rfl) rfl (Nat.le_of_ble_eq_true rfl) (by omega) (by omega) (by omega) ?_
  refine mw_tail (fun _ => -1) (hset_same _ _ _) (fun j hj => by unfold flr; rw [if_pos hj]) ?_
  rw [hset_hset, hset_mov]
  refine mw_iconst (v := nI 0) rfl (by decide) ?_
  refine mw_istore_n (i := 2) rfl rfl (Nat.le_of_ble_eq_true rfl) ?_
  have hb : ∀ k, k ≤ v 1 → ∀ f, (itN (kbU v) (fun _ => 1000001, fun _ => -1) k).1 f ≤ 1000001 := fun k hk f => by
    rw [kb_co]
    exact itN_inv (P := CoF) (s := coU v) (N := v 1) (fun i hi c hc f => by
      show updN _ _ _ f ≤ _
      unfold updN
      split
      · split
        · have := (hok.2.2.2.2.2.1 i hi).2.1; omega
        · exact hc _
      · exact hc _) k hk (fun _ => Nat.le_refl _) f
  have loop : ∀ k, k ≤ P.fc → ∀ x : Int32, MW M_X0_startWithBaseFacts (d + 1) 0 0 n post 19 [(0, .ref 72), (1, .ref 1), (2, .int (nI k))] [] (mov [(73, .inl (.int, 216, .inl (vI (itN (kbU v) (fun _ => 1000001, fun _ => -1) k).1))), (77, .inl (.int, 216, .inl (itN (kbU v) (fun _ => 1000001, fun _ => -1) k).2))] h) n 0 := by
    refine loop_up P.fc ?_ ?_
    · intro x
      refine mw_iload_n (i := 2) rfl rfl rfl ?_
      refine mw_aload_n (i := 1) rfl rfl rfl ?_
      refine mw_getfield rfl f_X0_53 (by first | rfl | exact rfl | exact hP0 | exact hP2 | exact hP3 | exact h72) rfl ?_
      refine mw_n_ge rfl (by omega) (by omega) (fun hc => ?_) (fun hc => ?_)
      · rw [vfc]
        exact mw_return rfl rfl rfl (Nat.le_refl _) (hp)
      · omega
    · intro k hk ih x
      have hk2 : k < v 1 := by rw [← vfc]; exact hk
      obtain ⟨g1, g2, g3⟩ := vfa k hk2
      have e1 : vI P.fa k = nI (v (9 + 3 * k)) := congrArg nI g1
      have e2 : vI P.fo k = nI (v (9 + 3 * k + 1)) := congrArg nI g2
      obtain ⟨w1, w2, -⟩ := hok.2.2.2.2.2.1 k hk2
      have hbk := hb k (by omega) (v (9 + 3 * k))
      have eS : itN (kbU v) (fun _ => 1000001, fun _ => (-1 : Int32)) (k + 1) = kbU v k (itN (kbU v) (fun _ => 1000001, fun _ => (-1 : Int32)) k) := rfl
      rw [eS] at ih
      generalize itN (kbU v) (fun _ => 1000001, fun _ => (-1 : Int32)) k = T at ih hbk ⊢
      unfold kbU at ih
      refine mw_iload_n (i := 2) rfl rfl rfl ?_
      refine mw_aload_n (i := 1) rfl rfl rfl ?_
      refine mw_getfield rfl f_X0_53 (by first | rfl | exact rfl | exact hP0 | exact hP2 | exact hP3 | exact h72) rfl ?_
      refine mw_n_ge rfl (by omega) (by omega) (fun hc => ?_) (fun hc => ?_)
      · omega
      · refine mw_aload_n (i := 1) rfl rfl rfl ?_
        refine mw_getfield rfl f_X0_59 (by first | rfl | exact rfl | exact hP0 | exact hP2 | exact hP3 | exact h72) rfl ?_
        refine mw_iload_n (i := 2) rfl rfl rfl ?_
        refine mw_iald_v rfl (by first | rfl | exact rfl | exact hP0 | exact hP2 | exact hP3 | exact h72) (by omega) (by omega) e1 ?_
        refine mw_istore_n (i := 3) rfl rfl (Nat.le_of_ble_eq_true rfl) ?_
        refine mw_aload_n (i := 1) rfl rfl rfl ?_
        refine mw_getfield rfl f_X0_62 (by first | rfl | exact rfl | exact hP0 | exact hP2 | exact hP3 | exact h72) rfl ?_
        refine mw_iload_n (i := 2) rfl rfl rfl ?_
        refine mw_iald_v rfl (by first | rfl | exact rfl | exact hP0 | exact hP2 | exact hP3 | exact h72) (by omega) (by omega) e2 ?_
        refine mw_aload_n (i := 0) rfl rfl rfl ?_
        refine mw_getfield rfl f_X0_9 (by first | rfl | exact rfl | exact hP0 | exact hP2 | exact hP3 | exact h72) rfl ?_
        refine mw_iload_n (i := 3) rfl rfl rfl ?_
        refine mw_iald rfl (by first | rfl | exact rfl | exact hP0 | exact hP2 | exact hP3 | exact h72) (by omega) (by omega) ?_
        show MW _ _ _ _ _ _ _ _ (.int (nI (T.1 (v (9 + 3 * k)))) :: .int (nI (v (9 + 3 * k + 1))) :: []) _ _ _
        refine mw_n_ge rfl (by omega) (by omega) (fun hc => ?_) (fun hc => ?_)
        · rw [if_neg (by omega)] at ih
          first | refine mw_ninc rfl rfl (Nat.le_of_ble_eq_true rfl) ?_ | refine mw_iinc rfl rfl rfl (Nat.le_of_ble_eq_true rfl) ?_
          refine mw_goto rfl ?_
          exact mw_locals rfl (ih 0)
        · rw [if_pos (by omega)] at ih
          refine mw_aload_n (i := 0) rfl rfl rfl ?_
          refine mw_getfield rfl f_X0_9 (by first | rfl | exact rfl | exact hP0 | exact hP2 | exact hP3 | exact h72) rfl ?_
          refine mw_iload_n (i := 3) rfl rfl rfl ?_
          refine mw_aload_n (i := 1) rfl rfl rfl ?_
          refine mw_getfield rfl f_X0_62 (by first | rfl | exact rfl | exact hP0 | exact hP2 | exact hP3 | exact h72) rfl ?_
          refine mw_iload_n (i := 2) rfl rfl rfl ?_
          refine mw_iald_v rfl (by first | rfl | exact rfl | exact hP0 | exact hP2 | exact hP3 | exact h72) (by omega) (by omega) e2 ?_
          refine mw_iast_m rfl (by first | rfl | exact rfl | exact hP0 | exact hP2 | exact hP3 | exact h72) (by omega) (by omega) ?_
          first | rw [vI_upd] | rw [vI_updv] | skip
          refine mw_aload_n (i := 0) rfl rfl rfl ?_
          refine mw_getfield rfl f_X0_24 (by first | rfl | exact rfl | exact hP0 | exact hP2 | exact hP3 | exact h72) rfl ?_
          refine mw_iload_n (i := 3) rfl rfl rfl ?_
          refine mw_iload_n (i := 2) rfl rfl rfl ?_
          refine mw_iast_m rfl (by first | rfl | exact rfl | exact hP0 | exact hP2 | exact hP3 | exact h72) (by omega) (by omega) ?_
          first | rw [vI_upd] | rw [vI_updv] | skip
          first | refine mw_ninc rfl rfl (Nat.le_of_ble_eq_true rfl) ?_ | refine mw_iinc rfl rfl rfl (Nat.le_of_ble_eq_true rfl) ?_
          refine mw_goto rfl ?_
          exact mw_locals rfl (mw_heap rfl (ih 0))
  exact mw_locals rfl (mw_heap rfl (loop 0 (Nat.zero_le _) 0))
set_option maxRecDepth 20000 in
theorem c_lower (d n : Nat) (v c : Nat → Nat) (S : HoS) (tot : Nat) (hs oh : Nat → Nat) (g : GD) (h : Nat → MC) (hg : GrAt h g) (hG : GrOk v g) (hok : OkN v) (hS : HoOk v S) (hH : HdOk v S tot hs oh) (h72 : h 72 = KO) (h69 : h 69 = .inr (2, [.ref 70, .int (nI tot), .ref 71])) (h70 : h 70 = .inl (.int, 1728, .inl (vI hs))) (hc : CoF c) : Fn M_X0_lower (d + 2) 0 0 [.ref 72, .ref 56, .ref 69] (mov [(73, .inl (.int, 216, .inl (vI c)))] h) n (some (.int (bI (coP v S c).2))) (mov [(73, .inl (.int, 216, .inl (vI (coP v S c).1)))] h) := by
  refine Fn.of fun post hp => ?_
  have hS1 := hS.1
  have htot := hH.1
  refine mw_iconst (v := nI 0) rfl (by decide) ?_
  refine mw_istore_n (i := 3) rfl rfl (Nat.le_of_ble_eq_true rfl) ?_
  refine mw_iconst (v := nI 0) rfl (by decide) ?_
  refine mw_istore rfl (Nat.le_of_ble_eq_true rfl) ?_
  have loop : ∀ j, j ≤ S.1 → ∀ x : Int32, MW M_X0_lower (d + 2) 0 0 n post 5 [(0, .ref 72), (1, .ref 56), (2, .ref 69), (3, .int (bI (itN (coI v S) (c, false) j).2)), (4, .int (nI j))] [] (mov [(73, .inl (.int, 216, .inl (vI (itN (coI v S) (c, false) j).1)))] h) n 0 := by
    refine loop_up S.1 ?_ ?_
    · intro x
      refine mw_iload rfl rfl ?_
      refine mw_aload_n (i := 2) rfl rfl rfl ?_
      refine mw_getfield rfl f_X0_65 (by first | rfl | exact rfl | exact hg.1 | exact hg.2.2.2.2.2.2.2.2.1 | exact h72 | exact h69 | exact h70) rfl ?_
      rw [htot]
      refine mw_n_ge rfl (by omega) (by omega) (fun hc => ?_) (fun hc => ?_)
      · refine mw_iload_n (i := 3) rfl rfl rfl ?_
        first | exact mw_ireturn rfl rfl (bI_nar _) rfl (Nat.le_refl _) (hp) | exact mw_ireturn rfl rfl rfl rfl (Nat.le_refl _) (hp)
      · omega
    · intro j hj ih x
      obtain ⟨a1, a2, a3, a4, a5, -⟩ := hH.at hok hG hj
      have e1 : vI g.hd (hs j) = nI (S.2.2.1 j) := congrArg nI a5
      have hF := coIs_F (v := v) (S := S) (p := (c, false)) hc j
      have eS : itN (coI v S) (c, false) (j + 1) = coI v S j (itN (coI v S) (c, false) j) := rfl
      rw [eS] at ih
      generalize itN (coI v S) (c, false) j = T at ih hF ⊢
      have hTf := hF (S.2.2.1 j)
      have hcb := coB_le v S T.1 j
      unfold coI at ih
      refine mw_iload rfl rfl ?_
      refine mw_aload_n (i := 2) rfl rfl rfl ?_
      refine mw_getfield rfl f_X0_65 (by first | rfl | exact rfl | exact hg.1 | exact hg.2.2.2.2.2.2.2.2.1 | exact h72 | exact h69 | exact h70) rfl ?_
      rw [htot]
      refine mw_n_ge rfl (by omega) (by omega) (fun hc => ?_) (fun hc => ?_)
      · omega
      · refine mw_aload_n (i := 2) rfl rfl rfl ?_
        refine mw_getfield rfl f_X0_70 (by first | rfl | exact rfl | exact hg.1 | exact hg.2.2.2.2.2.2.2.2.1 | exact h72 | exact h69 | exact h70) rfl ?_
        refine mw_iload rfl rfl ?_
        refine mw_iald_v rfl (by first | rfl | exact rfl | exact hg.1 | exact hg.2.2.2.2.2.2.2.2.1 | exact h72 | exact h69 | exact h70) (by omega) (by omega) (show vI hs j = nI (hs j) from rfl) ?_
        refine mw_istore rfl (Nat.le_of_ble_eq_true rfl) ?_
        refine mw_aload_n (i := 1) rfl rfl rfl ?_
        refine mw_getfield rfl f_X0_73 (by first | rfl | exact rfl | exact hg.1 | exact hg.2.2.2.2.2.2.2.2.1 | exact h72 | exact h69 | exact h70) rfl ?_
        refine mw_iload rfl rfl ?_
        refine mw_iald_v rfl (by first | rfl | exact rfl | exact hg.1 | exact hg.2.2.2.2.2.2.2.2.1 | exact h72 | exact h69 | exact h70) (by omega) (by omega) e1 ?_
        refine mw_istore rfl (Nat.le_of_ble_eq_true rfl) ?_
        refine mw_aload_n (i := 0) rfl rfl rfl ?_
        refine mw_aload_n (i := 1) rfl rfl rfl ?_
        refine mw_iload rfl rfl ?_
        refine mw_callV_f (c_kcostBy d n j v T.1 S tot hs oh g _ hg hG hok hH hj h72 rfl (fun f _ => hF f)) rfl ok_X0_costBy v_X0_78 rfl (by first | rfl | exact rfl | exact hg.1 | exact hg.2.2.2.2.2.2.2.2.1 | exact h72 | exact h69 | exact h70) (by intro e; cases e) rfl (Nat.le_of_ble_eq_true rfl) rfl (Nat.le_of_ble_eq_true rfl) (by omega) (by omega) (by omega) ?_
        refine mw_istore rfl (Nat.le_of_ble_eq_true rfl) ?_
        refine mw_iload rfl rfl ?_
        refine mw_aload_n (i := 0) rfl rfl rfl ?_
        refine mw_getfield rfl f_X0_9 (by first | rfl | exact rfl | exact hg.1 | exact hg.2.2.2.2.2.2.2.2.1 | exact h72 | exact h69 | exact h70) rfl ?_
        refine mw_iload rfl rfl ?_
        refine mw_iald rfl (by first | rfl | exact rfl | exact hg.1 | exact hg.2.2.2.2.2.2.2.2.1 | exact h72 | exact h69 | exact h70) (by omega) (by omega) ?_
        show MW _ _ _ _ _ _ _ _ (.int (nI (T.1 (S.2.2.1 j))) :: .int (nI (coB v S T.1 j)) :: []) _ _ _
        refine mw_n_ge rfl (by omega) (by omega) (fun hc => ?_) (fun hc => ?_)
        · rw [if_neg (by omega)] at ih
          first | refine mw_ninc rfl rfl (Nat.le_of_ble_eq_true rfl) ?_ | refine mw_iinc rfl rfl rfl (Nat.le_of_ble_eq_true rfl) ?_
          refine mw_goto rfl ?_
          exact mw_locals rfl (ih 0)
        · rw [if_pos (by omega)] at ih
          refine mw_aload_n (i := 0) rfl rfl rfl ?_
          refine mw_getfield rfl f_X0_9 (by first | rfl | exact rfl | exact hg.1 | exact hg.2.2.2.2.2.2.2.2.1 | exact h72 | exact h69 | exact h70) rfl ?_
          refine mw_iload rfl rfl ?_
          refine mw_iload rfl rfl ?_
          refine mw_iast_m rfl (by first | rfl | exact rfl | exact hg.1 | exact hg.2.2.2.2.2.2.2.2.1 | exact h72 | exact h69 | exact h70) (by omega) (by omega) ?_
          first | rw [vI_upd] | rw [vI_updv] | skip
          refine mw_iconst (v := nI 1) rfl (by decide) ?_
          refine mw_istore_n (i := 3) rfl rfl (Nat.le_of_ble_eq_true rfl) ?_
          first | refine mw_ninc rfl rfl (Nat.le_of_ble_eq_true rfl) ?_ | refine mw_iinc rfl rfl rfl (Nat.le_of_ble_eq_true rfl) ?_
          refine mw_goto rfl ?_
          exact mw_locals rfl (mw_heap rfl (ih 0))
  exact mw_locals rfl (loop 0 (Nat.zero_le _) 0)
