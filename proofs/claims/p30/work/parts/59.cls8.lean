/-! THE CLASS'S MODEL: one instance, one rule -/
theorem plN_surj {v : Nat → Nat} {r : Nat} : ∀ n k, k < plN v r n → ∃ a, a < n ∧ v (45 + 18 * r + 2 + 4 * (a + 1) + 3) = 0 ∧ plN v r a = k
  | 0, k, h => absurd h (Nat.not_lt_zero k)
  | n + 1, k, h => by
    by_cases q : v (45 + 18 * r + 2 + 4 * (n + 1) + 3) = 0
    · rw [plN_1 q] at h
      by_cases e : k = plN v r n
      · exact ⟨n, Nat.lt_succ_self n, q, e.symm⟩
      · obtain ⟨a, h1, h2, h3⟩ := plN_surj (v := v) (r := r) n k (by omega)
        exact ⟨a, by omega, h2, h3⟩
    · rw [plN_0 q] at h
      obtain ⟨a, h1, h2, h3⟩ := plN_surj (v := v) (r := r) n k h
      exact ⟨a, by omega, h2, h3⟩
theorem ngN_surj {v : Nat → Nat} {r : Nat} : ∀ n k, k < n - plN v r n → ∃ a, a < n ∧ v (45 + 18 * r + 2 + 4 * (a + 1) + 3) ≠ 0 ∧ a - plN v r a = k
  | 0, k, h => absurd h (by omega)
  | n + 1, k, h => by
    have hle := plN_le v r n
    by_cases q : v (45 + 18 * r + 2 + 4 * (n + 1) + 3) = 0
    · rw [plN_1 q] at h
      obtain ⟨a, h1, h2, h3⟩ := ngN_surj (v := v) (r := r) n k (by omega)
      exact ⟨a, by omega, h2, h3⟩
    · rw [plN_0 q] at h
      by_cases e : k = n - plN v r n
      · exact ⟨n, Nat.lt_succ_self n, q, e.symm⟩
      · obtain ⟨a, h1, h2, h3⟩ := ngN_surj (v := v) (r := r) n k (by omega)
        exact ⟨a, by omega, h2, h3⟩
theorem bdP_surj {v : Nat → Nat} {r i k : Nat} (hk : k < v (45 + 18 * r + 1)) : ∃ a, a < v (45 + 18 * r + 1) ∧ bdP v r i a = i * 3 + k := by
  by_cases q : k < plT v r
  · obtain ⟨a, h1, h2, h3⟩ := plN_surj (v := v) (r := r) _ k q
    exact ⟨a, h1, by unfold bdP; rw [if_pos h2, h3]⟩
  · obtain ⟨a, h1, h2, h3⟩ := ngN_surj (v := v) (r := r) (v (45 + 18 * r + 1)) (k - plT v r) (by unfold plT at q ⊢; omega)
    exact ⟨a, h1, by unfold bdP; rw [if_neg h2, h3]; omega⟩
/-- does an instance hold before a round, by the rows -/
def hbB (m : Nat → Int32) (rd : Int32) (bd : Nat → Nat) (i pl li : Nat) : Bool := andN (fun k => !decide (m (bd (i * 3 + k)) = -1) && decide (m (bd (i * 3 + k)) < rd)) pl && andN (fun k => decide (m (bd (i * 3 + pl + k)) = -1)) (li - pl)
/-- the same, literal by literal -/
def hbL (v b : Nat → Nat) (m : Nat → Int32) (rd : Int32) (r a : Nat) : Bool := if v (45 + 18 * r + 2 + 4 * (a + 1) + 3) = 0 then (!decide (m (fA v b r (a + 1)) = -1) && decide (m (fA v b r (a + 1)) < rd)) else decide (m (fA v b r (a + 1)) = -1)
theorem hbB_eq {v b : Nat → Nat} {m : Nat → Int32} {rd : Int32} {bd : Nat → Nat} {r i : Nat} (hbd : ∀ a, a < v (45 + 18 * r + 1) → bd (bdP v r i a) = fA v b r (a + 1)) : hbB m rd bd i (plT v r) (v (45 + 18 * r + 1)) = andN (hbL v b m rd r) (v (45 + 18 * r + 1)) := by
  have hpl : plT v r ≤ v (45 + 18 * r + 1) := plN_le v r _
  rw [Bool.eq_iff_iff]
  unfold hbB
  rw [Bool.and_eq_true, andN_iff, andN_iff, andN_iff]
  constructor
  · rintro ⟨h1, h2⟩ a ha
    have h0 := plN_le v r a
    have hm := plN_mono v r (v (45 + 18 * r + 1) - (a + 1)) (a + 1)
    rw [show a + 1 + (v (45 + 18 * r + 1) - (a + 1)) = v (45 + 18 * r + 1) by omega] at hm
    have e := hbd a ha
    unfold bdP at e
    unfold hbL
    split
    · rename_i q
      rw [if_pos q] at e
      have := plN_1 q
      have h3 := h1 (plN v r a) (by unfold plT; omega)
      rw [e] at h3
      exact h3
    · rename_i q
      rw [if_neg q] at e
      have := plN_0 q
      have h3 := h2 (a - plN v r a) (by unfold plT; omega)
      rw [e] at h3
      exact h3
  · intro h
    refine ⟨fun k hk => ?_, fun k hk => ?_⟩
    · obtain ⟨a, h1, h2, h3⟩ := plN_surj (v := v) (r := r) _ k hk
      have e := hbd a h1
      unfold bdP at e
      rw [if_pos h2, h3] at e
      have h4 := h a h1
      unfold hbL at h4
      rw [if_pos h2] at h4
      rw [e]
      exact h4
    · obtain ⟨a, h1, h2, h3⟩ := ngN_surj (v := v) (r := r) (v (45 + 18 * r + 1)) k hk
      have e := hbd a h1
      unfold bdP at e
      rw [if_neg h2, h3] at e
      have h4 := h a h1
      unfold hbL at h4
      rw [if_neg h2] at h4
      rw [e]
      exact h4
def GrAt (h : Nat → MC) (g : GD) : Prop := h 56 = GO g.sf g.rc ∧ h 57 = .inl (.int, 6, .inl (vI g.st)) ∧ h 58 = .inl (.int, 8, .inl (vI g.hs)) ∧ h 59 = .inl (.int, 8, .inl (vI g.pr)) ∧ h 60 = .inl (.int, 8, .inl (vI g.pc)) ∧ h 61 = .inl (.int, 8, .inl (vI g.lc)) ∧ h 62 = .inl (.int, 9, .inl (vI g.sr)) ∧ h 63 = .inl (.int, 1728, .inl (vI g.ru)) ∧ h 64 = .inl (.int, 1728, .inl (vI g.hd)) ∧ h 65 = .inl (.int, 5184, .inl (vI g.bd)) ∧ h 66 = .inl (.int, 9, .inl (vI g.mg))
abbrev MO (k : Nat) (lr at_ : Nat) : MC := .inr (4, [.ref k, .int (nI lr), .int (nI at_)])
/-- the number of all instances -/
theorem en_1728 {v : Nat → Nat} (hok : OkN v) {r : Nat} (hr : r ≤ v 2) : (enF v r).1 ≤ 1728 := by
  have := enF_cnt (v := v) r
  have := hok.2.2.2.1
  omega
theorem anyN_succ_le (a b : Nat) : a ≤ a + b := Nat.le_add_right a b
set_option maxRecDepth 20000 in
theorem c_holdsBeforeA (d n i lr ta rd : Nat) (v : Nat → Nat) (m : Nat → Int32) (g : GD) (h : Nat → MC) (hg : GrAt h g) (hG : GrOk v g) (hMO : h 67 = MO 68 lr ta) (hM : h 68 = .inl (.int, 216, .inl m)) (hok : OkN v) (hi : i < (enF v (v 2)).1) : Fn M_X4_holdsBefore d 0 0 [.ref 67, .ref 56, .int (nI i), .int (nI rd)] h n (some (.int (bI (andN (hbL v (bnd ((enF v (v 2)).2.2 i)) m (nI rd) ((enF v (v 2)).2.1 i)) (v (45 + 18 * (enF v (v 2)).2.1 i + 1)))))) h := by
  obtain ⟨-, -, -, hJ, -, hI, -⟩ := hG
  obtain ⟨hr, hc, eru, ehd, ebd⟩ := hI i hi
  have hi2 : i < 1728 := Nat.lt_of_lt_of_le hi (en_1728 hok (Nat.le_refl _))
  generalize hR : (enF v (v 2)).2.1 i = r at hr eru ebd
  generalize hC : (enF v (v 2)).2.2 i = code at hc ebd
  rw [← hbB_eq ebd]
  obtain ⟨-, -, epc, elc⟩ := hJ r hr
  have h8 := hok.2.2.2.1
  obtain ⟨-, -, hl1, hl3, -⟩ := hok.2.2.2.2.2.2 r hr
  have hpl : plT v r ≤ v (45 + 18 * r + 1) := plN_le v r _
  have hbd : ∀ k, k < v (45 + 18 * r + 1) → g.bd (i * 3 + k) < 216 := fun k hk => by
    obtain ⟨a, h1, h2⟩ := bdP_surj (v := v) (r := r) (i := i) hk
    rw [← h2, ebd a h1]
    exact fA_lt hok (fun x hx => bndU_lt _ hc hx) hr (by omega)
  generalize plT v r = pl at hpl epc ⊢
  generalize v (45 + 18 * r + 1) = li at hl1 hl3 hpl elc hbd ⊢
  refine Fn.of fun post hp => ?_
  have i1 : vI g.ru i = nI r := congrArg nI eru
  have i2 : vI g.pc r = nI pl := congrArg nI epc
  have i3 : vI g.lc r = nI li := congrArg nI elc
  unfold hbB at hp
  refine mw_aload_n (i := 1) rfl rfl rfl ?_
  refine mw_getfield rfl f_X4_65 (by first | rfl | exact hg.1 | exact hg.2.2.2.2.1 | exact hg.2.2.2.2.2.1 | exact hg.2.2.2.2.2.2.2.1 | exact hg.2.2.2.2.2.2.2.2.2.1 | exact hM | exact hMO) rfl ?_
  refine mw_iload_n (i := 2) rfl rfl rfl ?_
  refine mw_iald_v rfl (by first | rfl | exact hg.1 | exact hg.2.2.2.2.1 | exact hg.2.2.2.2.2.1 | exact hg.2.2.2.2.2.2.2.1 | exact hg.2.2.2.2.2.2.2.2.2.1 | exact hM | exact hMO) (by omega) (by omega) i1 ?_
  refine mw_istore rfl (Nat.le_of_ble_eq_true rfl) ?_
  refine mw_iload_n (i := 2) rfl rfl rfl ?_
  refine mw_iconst (v := nI 3) rfl (by decide) ?_
  first | refine mw_nmul rfl ?_ | refine mw_imul rfl ?_
  refine mw_istore rfl (Nat.le_of_ble_eq_true rfl) ?_
  refine mw_iload rfl rfl ?_
  refine mw_aload_n (i := 1) rfl rfl rfl ?_
  refine mw_getfield rfl f_X4_68 (by first | rfl | exact hg.1 | exact hg.2.2.2.2.1 | exact hg.2.2.2.2.2.1 | exact hg.2.2.2.2.2.2.2.1 | exact hg.2.2.2.2.2.2.2.2.2.1 | exact hM | exact hMO) rfl ?_
  refine mw_iload rfl rfl ?_
  refine mw_iald_v rfl (by first | rfl | exact hg.1 | exact hg.2.2.2.2.1 | exact hg.2.2.2.2.2.1 | exact hg.2.2.2.2.2.2.2.1 | exact hg.2.2.2.2.2.2.2.2.2.1 | exact hM | exact hMO) (by omega) (by omega) i2 ?_
  first | refine mw_nadd rfl ?_ | refine mw_iadd rfl ?_
  refine mw_istore rfl (Nat.le_of_ble_eq_true rfl) ?_
  refine mw_iload rfl rfl ?_
  refine mw_istore rfl (Nat.le_of_ble_eq_true rfl) ?_
  have loop2 : andN (fun k => !decide (m (g.bd (i * 3 + k)) = -1) && decide (m (g.bd (i * 3 + k)) < nI rd)) pl = true → ∀ x : Int32, ∀ j, j ≤ li - pl → andN (fun k => decide (m (g.bd (i * 3 + pl + k)) = -1)) j = true → MW M_X4_holdsBefore d 0 0 n post 74 [(0, .ref 67), (1, .ref 56), (2, .int (nI i)), (3, .int (nI rd)), (4, .int (nI r)), (5, .int (nI (i * 3))), (6, .int (nI (i * 3 + pl))), (7, .int (nI (i * 3 + pl + j)))] [] h n 0 := by
    intro h1 x
    refine loop_up (li - pl) ?_ ?_
    · intro hf
      rw [h1, hf] at hp
      refine mw_iload rfl rfl ?_
      refine mw_iload rfl rfl ?_
      refine mw_aload_n (i := 1) rfl rfl rfl ?_
      refine mw_getfield rfl f_X4_74 (by first | rfl | exact hg.1 | exact hg.2.2.2.2.1 | exact hg.2.2.2.2.2.1 | exact hg.2.2.2.2.2.2.2.1 | exact hg.2.2.2.2.2.2.2.2.2.1 | exact hM | exact hMO) rfl ?_
      refine mw_iload rfl rfl ?_
      refine mw_iald_v rfl (by first | rfl | exact hg.1 | exact hg.2.2.2.2.1 | exact hg.2.2.2.2.2.1 | exact hg.2.2.2.2.2.2.2.1 | exact hg.2.2.2.2.2.2.2.2.2.1 | exact hM | exact hMO) (by omega) (by omega) i3 ?_
      first | refine mw_nadd rfl ?_ | refine mw_iadd rfl ?_
      refine mw_n_ge rfl (by omega) (by omega) (fun hc => ?_) (fun hc => ?_)
      · refine mw_iconst (v := nI 1) rfl (by decide) ?_
        first | exact mw_ireturn rfl rfl (bI_nar _) rfl (Nat.le_refl _) (hp) | exact mw_ireturn rfl rfl rfl rfl (Nat.le_refl _) (hp)
      · omega
    · intro j hj ih hf
      have hb := hbd (pl + j) (by omega)
      rw [show i * 3 + (pl + j) = i * 3 + pl + j by omega] at hb
      refine mw_iload rfl rfl ?_
      refine mw_iload rfl rfl ?_
      refine mw_aload_n (i := 1) rfl rfl rfl ?_
      refine mw_getfield rfl f_X4_74 (by first | rfl | exact hg.1 | exact hg.2.2.2.2.1 | exact hg.2.2.2.2.2.1 | exact hg.2.2.2.2.2.2.2.1 | exact hg.2.2.2.2.2.2.2.2.2.1 | exact hM | exact hMO) rfl ?_
      refine mw_iload rfl rfl ?_
      refine mw_iald_v rfl (by first | rfl | exact hg.1 | exact hg.2.2.2.2.1 | exact hg.2.2.2.2.2.1 | exact hg.2.2.2.2.2.2.2.1 | exact hg.2.2.2.2.2.2.2.2.2.1 | exact hM | exact hMO) (by omega) (by omega) i3 ?_
      first | refine mw_nadd rfl ?_ | refine mw_iadd rfl ?_
      refine mw_n_ge rfl (by omega) (by omega) (fun hc => ?_) (fun hc => ?_)
      · omega
      · refine mw_aload_n (i := 0) rfl rfl rfl ?_
        refine mw_getfield rfl f_X4_9 (by first | rfl | exact hg.1 | exact hg.2.2.2.2.1 | exact hg.2.2.2.2.2.1 | exact hg.2.2.2.2.2.2.2.1 | exact hg.2.2.2.2.2.2.2.2.2.1 | exact hM | exact hMO) rfl ?_
        refine mw_aload_n (i := 1) rfl rfl rfl ?_
        refine mw_getfield rfl f_X4_71 (by first | rfl | exact hg.1 | exact hg.2.2.2.2.1 | exact hg.2.2.2.2.2.1 | exact hg.2.2.2.2.2.2.2.1 | exact hg.2.2.2.2.2.2.2.2.2.1 | exact hM | exact hMO) rfl ?_
        refine mw_iload rfl rfl ?_
        refine mw_iald rfl (by first | rfl | exact hg.1 | exact hg.2.2.2.2.1 | exact hg.2.2.2.2.2.1 | exact hg.2.2.2.2.2.2.2.1 | exact hg.2.2.2.2.2.2.2.2.2.1 | exact hM | exact hMO) (by omega) (by omega) ?_
        refine mw_iald rfl (by first | rfl | exact hg.1 | exact hg.2.2.2.2.1 | exact hg.2.2.2.2.2.1 | exact hg.2.2.2.2.2.2.2.1 | exact hg.2.2.2.2.2.2.2.2.2.1 | exact hM | exact hMO) (by omega) (by omega) ?_
        refine mw_iconst (v := (-1)) rfl (by decide) ?_
        refine mw_icmp_eq rfl (fun hc => ?_) (fun hc => ?_)
        · first | refine mw_ninc rfl rfl (Nat.le_of_ble_eq_true rfl) ?_ | refine mw_iinc rfl rfl rfl (Nat.le_of_ble_eq_true rfl) ?_
          refine mw_goto rfl ?_
          exact mw_locals rfl (ih (by show (andN _ j && decide (m (g.bd (i * 3 + pl + j)) = -1)) = true; rw [hf, decide_eq_true hc]; rfl))
        · have : andN (fun k => decide (m (g.bd (i * 3 + pl + k)) = -1)) (li - pl) = false := by
            cases q : andN (fun k => decide (m (g.bd (i * 3 + pl + k)) = -1)) (li - pl)
            · rfl
            · exact absurd (of_decide_eq_true ((andN_iff _ _).mp q j hj)) hc
          rw [this, Bool.and_false] at hp
          refine mw_iconst (v := nI 0) rfl (by decide) ?_
          first | exact mw_ireturn rfl rfl (bI_nar _) rfl (Nat.le_refl _) (hp) | exact mw_ireturn rfl rfl rfl rfl (Nat.le_refl _) (hp)
  have loop : ∀ x : Int32, ∀ j, j ≤ pl → andN (fun k => !decide (m (g.bd (i * 3 + k)) = -1) && decide (m (g.bd (i * 3 + k)) < nI rd)) j = true → MW M_X4_holdsBefore d 0 0 n post 29 [(0, .ref 67), (1, .ref 56), (2, .int (nI i)), (3, .int (nI rd)), (4, .int (nI r)), (5, .int (nI (i * 3))), (6, .int (nI (i * 3 + pl))), (7, .int (nI (i * 3 + j)))] [] h n 0 := by
    intro x
    refine loop_up pl ?_ ?_
    · intro hf
      refine mw_iload rfl rfl ?_
      refine mw_iload rfl rfl ?_
      refine mw_n_ge rfl (by omega) (by omega) (fun hc => ?_) (fun hc => ?_)
      · refine mw_iload rfl rfl ?_
        refine mw_istore rfl (Nat.le_of_ble_eq_true rfl) ?_
        exact mw_locals rfl (loop2 hf 0 0 (Nat.zero_le _) rfl)
      · omega
    · intro j hj ih hf
      have hb := hbd j (by omega)
      have no : (m (g.bd (i * 3 + j)) = -1 ∨ ¬ m (g.bd (i * 3 + j)) < nI rd) → andN (fun k => !decide (m (g.bd (i * 3 + k)) = -1) && decide (m (g.bd (i * 3 + k)) < nI rd)) pl = false := by
        intro h1
        cases q : andN (fun k => !decide (m (g.bd (i * 3 + k)) = -1) && decide (m (g.bd (i * 3 + k)) < nI rd)) pl
        · rfl
        · have h2 := (andN_iff _ _).mp q j hj
          simp only [Bool.and_eq_true, Bool.not_eq_true', decide_eq_true_eq, decide_eq_false_iff_not] at h2
          rcases h1 with h1 | h1
          · exact absurd h1 h2.1
          · exact absurd h2.2 h1
      refine mw_iload rfl rfl ?_
      refine mw_iload rfl rfl ?_
      refine mw_n_ge rfl (by omega) (by omega) (fun hc => ?_) (fun hc => ?_)
      · omega
      · refine mw_aload_n (i := 0) rfl rfl rfl ?_
        refine mw_getfield rfl f_X4_9 (by first | rfl | exact hg.1 | exact hg.2.2.2.2.1 | exact hg.2.2.2.2.2.1 | exact hg.2.2.2.2.2.2.2.1 | exact hg.2.2.2.2.2.2.2.2.2.1 | exact hM | exact hMO) rfl ?_
        refine mw_aload_n (i := 1) rfl rfl rfl ?_
        refine mw_getfield rfl f_X4_71 (by first | rfl | exact hg.1 | exact hg.2.2.2.2.1 | exact hg.2.2.2.2.2.1 | exact hg.2.2.2.2.2.2.2.1 | exact hg.2.2.2.2.2.2.2.2.2.1 | exact hM | exact hMO) rfl ?_
        refine mw_iload rfl rfl ?_
        refine mw_iald rfl (by first | rfl | exact hg.1 | exact hg.2.2.2.2.1 | exact hg.2.2.2.2.2.1 | exact hg.2.2.2.2.2.2.2.1 | exact hg.2.2.2.2.2.2.2.2.2.1 | exact hM | exact hMO) (by omega) (by omega) ?_
        refine mw_iald rfl (by first | rfl | exact hg.1 | exact hg.2.2.2.2.1 | exact hg.2.2.2.2.2.1 | exact hg.2.2.2.2.2.2.2.1 | exact hg.2.2.2.2.2.2.2.2.2.1 | exact hM | exact hMO) (by omega) (by omega) ?_
        refine mw_istore rfl (Nat.le_of_ble_eq_true rfl) ?_
        refine mw_iload rfl rfl ?_
        refine mw_iconst (v := (-1)) rfl (by decide) ?_
        refine mw_icmp_eq rfl (fun hc => ?_) (fun hc => ?_)
        · rw [no (Or.inl hc), Bool.false_and] at hp
          refine mw_iconst (v := nI 0) rfl (by decide) ?_
          first | exact mw_ireturn rfl rfl (bI_nar _) rfl (Nat.le_refl _) (hp) | exact mw_ireturn rfl rfl rfl rfl (Nat.le_refl _) (hp)
        · refine mw_iload rfl rfl ?_
          refine mw_iload_n (i := 3) rfl rfl rfl ?_
          refine mw_icmp_lt rfl (fun hd => ?_) (fun hd => ?_)
          · first | refine mw_ninc rfl rfl (Nat.le_of_ble_eq_true rfl) ?_ | refine mw_iinc rfl rfl rfl (Nat.le_of_ble_eq_true rfl) ?_
            refine mw_goto rfl ?_
            exact mw_locals rfl (ih (by show (andN _ j && (!decide (m (g.bd (i * 3 + j)) = -1) && decide (m (g.bd (i * 3 + j)) < nI rd))) = true; rw [hf, decide_eq_false hc, decide_eq_true hd]; rfl))
          · rw [no (Or.inr hd), Bool.false_and] at hp
            refine mw_iconst (v := nI 0) rfl (by decide) ?_
            first | exact mw_ireturn rfl rfl (bI_nar _) rfl (Nat.le_refl _) (hp) | exact mw_ireturn rfl rfl rfl rfl (Nat.le_refl _) (hp)
  exact mw_locals rfl (loop 0 0 (Nat.zero_le _) rfl)
set_option maxRecDepth 20000 in
theorem c_holdsBeforeB (d n i lr ta rd : Nat) (v : Nat → Nat) (m : Nat → Int32) (g : GD) (h : Nat → MC) (hg : GrAt h g) (hG : GrOk v g) (hMO : h 84 = MO 85 lr ta) (hM : h 85 = .inl (.int, 216, .inl m)) (hok : OkN v) (hi : i < (enF v (v 2)).1) : Fn M_X4_holdsBefore d 0 0 [.ref 84, .ref 56, .int (nI i), .int (nI rd)] h n (some (.int (bI (andN (hbL v (bnd ((enF v (v 2)).2.2 i)) m (nI rd) ((enF v (v 2)).2.1 i)) (v (45 + 18 * (enF v (v 2)).2.1 i + 1)))))) h := by
  obtain ⟨-, -, -, hJ, -, hI, -⟩ := hG
  obtain ⟨hr, hc, eru, ehd, ebd⟩ := hI i hi
  have hi2 : i < 1728 := Nat.lt_of_lt_of_le hi (en_1728 hok (Nat.le_refl _))
  generalize hR : (enF v (v 2)).2.1 i = r at hr eru ebd
  generalize hC : (enF v (v 2)).2.2 i = code at hc ebd
  rw [← hbB_eq ebd]
  obtain ⟨-, -, epc, elc⟩ := hJ r hr
  have h8 := hok.2.2.2.1
  obtain ⟨-, -, hl1, hl3, -⟩ := hok.2.2.2.2.2.2 r hr
  have hpl : plT v r ≤ v (45 + 18 * r + 1) := plN_le v r _
  have hbd : ∀ k, k < v (45 + 18 * r + 1) → g.bd (i * 3 + k) < 216 := fun k hk => by
    obtain ⟨a, h1, h2⟩ := bdP_surj (v := v) (r := r) (i := i) hk
    rw [← h2, ebd a h1]
    exact fA_lt hok (fun x hx => bndU_lt _ hc hx) hr (by omega)
  generalize plT v r = pl at hpl epc ⊢
  generalize v (45 + 18 * r + 1) = li at hl1 hl3 hpl elc hbd ⊢
  refine Fn.of fun post hp => ?_
  have i1 : vI g.ru i = nI r := congrArg nI eru
  have i2 : vI g.pc r = nI pl := congrArg nI epc
  have i3 : vI g.lc r = nI li := congrArg nI elc
  unfold hbB at hp
  refine mw_aload_n (i := 1) rfl rfl rfl ?_
  refine mw_getfield rfl f_X4_65 (by first | rfl | exact hg.1 | exact hg.2.2.2.2.1 | exact hg.2.2.2.2.2.1 | exact hg.2.2.2.2.2.2.2.1 | exact hg.2.2.2.2.2.2.2.2.2.1 | exact hM | exact hMO) rfl ?_
  refine mw_iload_n (i := 2) rfl rfl rfl ?_
  refine mw_iald_v rfl (by first | rfl | exact hg.1 | exact hg.2.2.2.2.1 | exact hg.2.2.2.2.2.1 | exact hg.2.2.2.2.2.2.2.1 | exact hg.2.2.2.2.2.2.2.2.2.1 | exact hM | exact hMO) (by omega) (by omega) i1 ?_
  refine mw_istore rfl (Nat.le_of_ble_eq_true rfl) ?_
  refine mw_iload_n (i := 2) rfl rfl rfl ?_
  refine mw_iconst (v := nI 3) rfl (by decide) ?_
  first | refine mw_nmul rfl ?_ | refine mw_imul rfl ?_
  refine mw_istore rfl (Nat.le_of_ble_eq_true rfl) ?_
  refine mw_iload rfl rfl ?_
  refine mw_aload_n (i := 1) rfl rfl rfl ?_
  refine mw_getfield rfl f_X4_68 (by first | rfl | exact hg.1 | exact hg.2.2.2.2.1 | exact hg.2.2.2.2.2.1 | exact hg.2.2.2.2.2.2.2.1 | exact hg.2.2.2.2.2.2.2.2.2.1 | exact hM | exact hMO) rfl ?_
  refine mw_iload rfl rfl ?_
  refine mw_iald_v rfl (by first | rfl | exact hg.1 | exact hg.2.2.2.2.1 | exact hg.2.2.2.2.2.1 | exact hg.2.2.2.2.2.2.2.1 | exact hg.2.2.2.2.2.2.2.2.2.1 | exact hM | exact hMO) (by omega) (by omega) i2 ?_
  first | refine mw_nadd rfl ?_ | refine mw_iadd rfl ?_
  refine mw_istore rfl (Nat.le_of_ble_eq_true rfl) ?_
  refine mw_iload rfl rfl ?_
  refine mw_istore rfl (Nat.le_of_ble_eq_true rfl) ?_
  have loop2 : andN (fun k => !decide (m (g.bd (i * 3 + k)) = -1) && decide (m (g.bd (i * 3 + k)) < nI rd)) pl = true → ∀ x : Int32, ∀ j, j ≤ li - pl → andN (fun k => decide (m (g.bd (i * 3 + pl + k)) = -1)) j = true → MW M_X4_holdsBefore d 0 0 n post 74 [(0, .ref 84), (1, .ref 56), (2, .int (nI i)), (3, .int (nI rd)), (4, .int (nI r)), (5, .int (nI (i * 3))), (6, .int (nI (i * 3 + pl))), (7, .int (nI (i * 3 + pl + j)))] [] h n 0 := by
    intro h1 x
    refine loop_up (li - pl) ?_ ?_
    · intro hf
      rw [h1, hf] at hp
      refine mw_iload rfl rfl ?_
      refine mw_iload rfl rfl ?_
      refine mw_aload_n (i := 1) rfl rfl rfl ?_
      refine mw_getfield rfl f_X4_74 (by first | rfl | exact hg.1 | exact hg.2.2.2.2.1 | exact hg.2.2.2.2.2.1 | exact hg.2.2.2.2.2.2.2.1 | exact hg.2.2.2.2.2.2.2.2.2.1 | exact hM | exact hMO) rfl ?_
      refine mw_iload rfl rfl ?_
      refine mw_iald_v rfl (by first | rfl | exact hg.1 | exact hg.2.2.2.2.1 | exact hg.2.2.2.2.2.1 | exact hg.2.2.2.2.2.2.2.1 | exact hg.2.2.2.2.2.2.2.2.2.1 | exact hM | exact hMO) (by omega) (by omega) i3 ?_
      first | refine mw_nadd rfl ?_ | refine mw_iadd rfl ?_
      refine mw_n_ge rfl (by omega) (by omega) (fun hc => ?_) (fun hc => ?_)
      · refine mw_iconst (v := nI 1) rfl (by decide) ?_
        first | exact mw_ireturn rfl rfl (bI_nar _) rfl (Nat.le_refl _) (hp) | exact mw_ireturn rfl rfl rfl rfl (Nat.le_refl _) (hp)
      · omega
    · intro j hj ih hf
      have hb := hbd (pl + j) (by omega)
      rw [show i * 3 + (pl + j) = i * 3 + pl + j by omega] at hb
      refine mw_iload rfl rfl ?_
      refine mw_iload rfl rfl ?_
      refine mw_aload_n (i := 1) rfl rfl rfl ?_
      refine mw_getfield rfl f_X4_74 (by first | rfl | exact hg.1 | exact hg.2.2.2.2.1 | exact hg.2.2.2.2.2.1 | exact hg.2.2.2.2.2.2.2.1 | exact hg.2.2.2.2.2.2.2.2.2.1 | exact hM | exact hMO) rfl ?_
      refine mw_iload rfl rfl ?_
      refine mw_iald_v rfl (by first | rfl | exact hg.1 | exact hg.2.2.2.2.1 | exact hg.2.2.2.2.2.1 | exact hg.2.2.2.2.2.2.2.1 | exact hg.2.2.2.2.2.2.2.2.2.1 | exact hM | exact hMO) (by omega) (by omega) i3 ?_
      first | refine mw_nadd rfl ?_ | refine mw_iadd rfl ?_
      refine mw_n_ge rfl (by omega) (by omega) (fun hc => ?_) (fun hc => ?_)
      · omega
      · refine mw_aload_n (i := 0) rfl rfl rfl ?_
        refine mw_getfield rfl f_X4_9 (by first | rfl | exact hg.1 | exact hg.2.2.2.2.1 | exact hg.2.2.2.2.2.1 | exact hg.2.2.2.2.2.2.2.1 | exact hg.2.2.2.2.2.2.2.2.2.1 | exact hM | exact hMO) rfl ?_
        refine mw_aload_n (i := 1) rfl rfl rfl ?_
        refine mw_getfield rfl f_X4_71 (by first | rfl | exact hg.1 | exact hg.2.2.2.2.1 | exact hg.2.2.2.2.2.1 | exact hg.2.2.2.2.2.2.2.1 | exact hg.2.2.2.2.2.2.2.2.2.1 | exact hM | exact hMO) rfl ?_
        refine mw_iload rfl rfl ?_
        refine mw_iald rfl (by first | rfl | exact hg.1 | exact hg.2.2.2.2.1 | exact hg.2.2.2.2.2.1 | exact hg.2.2.2.2.2.2.2.1 | exact hg.2.2.2.2.2.2.2.2.2.1 | exact hM | exact hMO) (by omega) (by omega) ?_
        refine mw_iald rfl (by first | rfl | exact hg.1 | exact hg.2.2.2.2.1 | exact hg.2.2.2.2.2.1 | exact hg.2.2.2.2.2.2.2.1 | exact hg.2.2.2.2.2.2.2.2.2.1 | exact hM | exact hMO) (by omega) (by omega) ?_
        refine mw_iconst (v := (-1)) rfl (by decide) ?_
        refine mw_icmp_eq rfl (fun hc => ?_) (fun hc => ?_)
        · first | refine mw_ninc rfl rfl (Nat.le_of_ble_eq_true rfl) ?_ | refine mw_iinc rfl rfl rfl (Nat.le_of_ble_eq_true rfl) ?_
          refine mw_goto rfl ?_
          exact mw_locals rfl (ih (by show (andN _ j && decide (m (g.bd (i * 3 + pl + j)) = -1)) = true; rw [hf, decide_eq_true hc]; rfl))
        · have : andN (fun k => decide (m (g.bd (i * 3 + pl + k)) = -1)) (li - pl) = false := by
            cases q : andN (fun k => decide (m (g.bd (i * 3 + pl + k)) = -1)) (li - pl)
            · rfl
            · exact absurd (of_decide_eq_true ((andN_iff _ _).mp q j hj)) hc
          rw [this, Bool.and_false] at hp
          refine mw_iconst (v := nI 0) rfl (by decide) ?_
          first | exact mw_ireturn rfl rfl (bI_nar _) rfl (Nat.le_refl _) (hp) | exact mw_ireturn rfl rfl rfl rfl (Nat.le_refl _) (hp)
  have loop : ∀ x : Int32, ∀ j, j ≤ pl → andN (fun k => !decide (m (g.bd (i * 3 + k)) = -1) && decide (m (g.bd (i * 3 + k)) < nI rd)) j = true → MW M_X4_holdsBefore d 0 0 n post 29 [(0, .ref 84), (1, .ref 56), (2, .int (nI i)), (3, .int (nI rd)), (4, .int (nI r)), (5, .int (nI (i * 3))), (6, .int (nI (i * 3 + pl))), (7, .int (nI (i * 3 + j)))] [] h n 0 := by
    intro x
    refine loop_up pl ?_ ?_
    · intro hf
      refine mw_iload rfl rfl ?_
      refine mw_iload rfl rfl ?_
      refine mw_n_ge rfl (by omega) (by omega) (fun hc => ?_) (fun hc => ?_)
      · refine mw_iload rfl rfl ?_
        refine mw_istore rfl (Nat.le_of_ble_eq_true rfl) ?_
        exact mw_locals rfl (loop2 hf 0 0 (Nat.zero_le _) rfl)
      · omega
    · intro j hj ih hf
      have hb := hbd j (by omega)
      have no : (m (g.bd (i * 3 + j)) = -1 ∨ ¬ m (g.bd (i * 3 + j)) < nI rd) → andN (fun k => !decide (m (g.bd (i * 3 + k)) = -1) && decide (m (g.bd (i * 3 + k)) < nI rd)) pl = false := by
        intro h1
        cases q : andN (fun k => !decide (m (g.bd (i * 3 + k)) = -1) && decide (m (g.bd (i * 3 + k)) < nI rd)) pl
        · rfl
        · have h2 := (andN_iff _ _).mp q j hj
          simp only [Bool.and_eq_true, Bool.not_eq_true', decide_eq_true_eq, decide_eq_false_iff_not] at h2
          rcases h1 with h1 | h1
          · exact absurd h1 h2.1
          · exact absurd h2.2 h1
      refine mw_iload rfl rfl ?_
      refine mw_iload rfl rfl ?_
      refine mw_n_ge rfl (by omega) (by omega) (fun hc => ?_) (fun hc => ?_)
      · omega
      · refine mw_aload_n (i := 0) rfl rfl rfl ?_
        refine mw_getfield rfl f_X4_9 (by first | rfl | exact hg.1 | exact hg.2.2.2.2.1 | exact hg.2.2.2.2.2.1 | exact hg.2.2.2.2.2.2.2.1 | exact hg.2.2.2.2.2.2.2.2.2.1 | exact hM | exact hMO) rfl ?_
        refine mw_aload_n (i := 1) rfl rfl rfl ?_
        refine mw_getfield rfl f_X4_71 (by first | rfl | exact hg.1 | exact hg.2.2.2.2.1 | exact hg.2.2.2.2.2.1 | exact hg.2.2.2.2.2.2.2.1 | exact hg.2.2.2.2.2.2.2.2.2.1 | exact hM | exact hMO) rfl ?_
        refine mw_iload rfl rfl ?_
        refine mw_iald rfl (by first | rfl | exact hg.1 | exact hg.2.2.2.2.1 | exact hg.2.2.2.2.2.1 | exact hg.2.2.2.2.2.2.2.1 | exact hg.2.2.2.2.2.2.2.2.2.1 | exact hM | exact hMO) (by omega) (by omega) ?_
        refine mw_iald rfl (by first | rfl | exact hg.1 | exact hg.2.2.2.2.1 | exact hg.2.2.2.2.2.1 | exact hg.2.2.2.2.2.2.2.1 | exact hg.2.2.2.2.2.2.2.2.2.1 | exact hM | exact hMO) (by omega) (by omega) ?_
        refine mw_istore rfl (Nat.le_of_ble_eq_true rfl) ?_
        refine mw_iload rfl rfl ?_
        refine mw_iconst (v := (-1)) rfl (by decide) ?_
        refine mw_icmp_eq rfl (fun hc => ?_) (fun hc => ?_)
        · rw [no (Or.inl hc), Bool.false_and] at hp
          refine mw_iconst (v := nI 0) rfl (by decide) ?_
          first | exact mw_ireturn rfl rfl (bI_nar _) rfl (Nat.le_refl _) (hp) | exact mw_ireturn rfl rfl rfl rfl (Nat.le_refl _) (hp)
        · refine mw_iload rfl rfl ?_
          refine mw_iload_n (i := 3) rfl rfl rfl ?_
          refine mw_icmp_lt rfl (fun hd => ?_) (fun hd => ?_)
          · first | refine mw_ninc rfl rfl (Nat.le_of_ble_eq_true rfl) ?_ | refine mw_iinc rfl rfl rfl (Nat.le_of_ble_eq_true rfl) ?_
            refine mw_goto rfl ?_
            exact mw_locals rfl (ih (by show (andN _ j && (!decide (m (g.bd (i * 3 + j)) = -1) && decide (m (g.bd (i * 3 + j)) < nI rd))) = true; rw [hf, decide_eq_false hc, decide_eq_true hd]; rfl))
          · rw [no (Or.inr hd), Bool.false_and] at hp
            refine mw_iconst (v := nI 0) rfl (by decide) ?_
            first | exact mw_ireturn rfl rfl (bI_nar _) rfl (Nat.le_refl _) (hp) | exact mw_ireturn rfl rfl rfl rfl (Nat.le_refl _) (hp)
  exact mw_locals rfl (loop 0 0 (Nat.zero_le _) rfl)
