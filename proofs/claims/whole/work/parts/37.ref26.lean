def rdLit (v t : Nat → Nat) (tl a : Nat) (s : PS) : Bool × PS := rdAtom v t tl a ((rdTake t tl 33 s).2.1, upd (rdTake t tl 33 s).2.2 (4 * a + 3) (bI (rdTake t tl 33 s).1))
/-- literals from the (k + 1)st on, at most m: (well formed, how many there are, where the reader stands) -/
def rdLits (v t : Nat → Nat) (tl : Nat) : Nat → Nat → PS → Bool × Nat × PS
  | 0, k, s => (true, k, s)
  | m + 1, k, s => if (rdLit v t tl (k + 1) s).1 = true then (if k + 1 < 3 then (if (rdTake t tl 44 (rdLit v t tl (k + 1) s).2).1 = true then rdLits v t tl m (k + 1) (rdTake t tl 44 (rdLit v t tl (k + 1) s).2).2 else (true, k + 1, (rdTake t tl 44 (rdLit v t tl (k + 1) s).2).2)) else (true, k + 1, (rdLit v t tl (k + 1) s).2)) else (false, k, (rdLit v t tl (k + 1) s).2)
def rdForm (v t : Nat → Nat) (tl : Nat) (td : Nat → Int32) : Bool × Nat × PS :=
  if (rdAtom v t tl 0 (0, upd td 3 (nI 0))).1 = true then
    (if (rdTake t tl 60 (rdAtom v t tl 0 (0, upd td 3 (nI 0))).2).1 = true then
      ((rdLits v t tl 3 0 (rdTake t tl 60 (rdAtom v t tl 0 (0, upd td 3 (nI 0))).2).2).1 && decide ((rdLits v t tl 3 0 (rdTake t tl 60 (rdAtom v t tl 0 (0, upd td 3 (nI 0))).2).2).2.2.1 = tl), (rdLits v t tl 3 0 (rdTake t tl 60 (rdAtom v t tl 0 (0, upd td 3 (nI 0))).2).2).2)
    else (false, 0, (rdTake t tl 60 (rdAtom v t tl 0 (0, upd td 3 (nI 0))).2).2))
  else (false, 0, (rdAtom v t tl 0 (0, upd td 3 (nI 0))).2)
theorem andP_le {a b : PS → Bool × PS} {tl : Nat} (ha : ∀ s, s.1 ≤ tl → (a s).2.1 ≤ tl) (hb : ∀ s, s.1 ≤ tl → (b s).2.1 ≤ tl) : ∀ s, s.1 ≤ tl → (andP a b s).2.1 ≤ tl := by
  intro s hs
  unfold andP
  split
  · exact hb _ (ha s hs)
  · exact ha s hs
theorem rdAtom_le {v t : Nat → Nat} {tl i : Nat} (h6 : v 0 ≤ 6) {s : PS} (h : s.1 ≤ tl) : (rdAtom v t tl i s).2.1 ≤ tl := by
  unfold rdAtom
  split
  · rename_i hin
    have hlt : s.1 < tl := hereV_lt (fun e2 => by rw [e2] at hin; exact absurd hin (by decide))
    refine andP_le (fun s hs => rdTake_le (by omega) hs) (andP_le (fun s hs => rdTerm_le h6 hs) ?_) _ hlt
    split
    · exact andP_le (fun s hs => rdTake_le (by omega) hs) (andP_le (fun s hs => rdTerm_le h6 hs) (fun s hs => rdTake_le (by omega) hs))
    · exact fun s hs => rdTake_le (by omega) hs
  · exact h
theorem updN_3 {α : Type} (w : Nat → α) (a b c : α) : updN (updN (updN w 2 a) 1 b) 2 c = updN (updN w 2 c) 1 b := by
  funext j
  unfold updN
  by_cases h2 : j = 2
  · subst h2; rfl
  · simp only [if_neg h2]
theorem updN_sw {α : Type} (w : Nat → α) (a b : α) : updN (updN w 1 a) 2 b = updN (updN w 2 b) 1 a := by
  funext j
  unfold updN
  by_cases h2 : j = 2
  · subst h2; rfl
  · simp only [if_neg h2]
abbrev ty (w : Nat → Int32) (k : Nat) (s : PS) : MLs := tx (updN w 2 (nI k)) s
set_option maxRecDepth 20000 in
theorem c_isForm (d n tl : Nat) (w : Nat → Int32) (v t : Nat → Nat) (td : Nat → Int32) (h : Nat → MC) (hO : h 178 = RO w) (hv : h 179 = .inl (.int, 189, .inl (vI v))) (ht : h 182 = .inl (.int, 60, .inl (vI t))) (htd : h 183 = .inl (.int, 16, .inl td)) (h0 : w 0 = nI tl) (hl : tl ≤ 60) (hok : OkN v) : Fn M_X10_isForm (d + 4) 0 0 [.ref 178] h n (some (.int (bI (rdForm v t tl td).1))) (mov (ty w (rdForm v t tl td).2.1 (rdForm v t tl td).2.2) h) := by
  refine Fn.of fun post hp => ?_
  have hc6 := hok.2.1
  have fin : ∀ k (s : PS), s.1 ≤ tl → post (some (.int (bI (decide (s.1 = tl))))) (mov (ty w k s) h) → MW M_X10_isForm (d + 4) 0 0 n post 119 [(0, .ref 178)] [] (mov (ty w k s) h) n 0 := by
    intro k s hs hp
    refine mw_aload_n (i := 0) rfl rfl rfl ?_
    refine mw_getfield rfl f_X10_106 (by first | rfl | exact rfl | exact hv | exact ht) rfl ?_
    refine mw_aload_n (i := 0) rfl rfl rfl ?_
    refine mw_getfield rfl f_X10_102 (by first | rfl | exact rfl | exact hv | exact ht) rfl ?_
    rw [show updN (updN w 2 (nI k)) 1 (nI s.1) 0 = nI tl from h0]
    refine mw_n_ne rfl (by omega) (by omega) (fun hc => ?_) (fun hc => ?_)
    · rw [decide_eq_false (by omega)] at hp
      refine mw_iconst (v := nI 0) rfl (by decide) ?_
      first | exact mw_ireturn rfl rfl (bI_nar _) rfl (Nat.le_refl _) (hp) | exact mw_ireturn rfl rfl rfl rfl (Nat.le_refl _) (hp)
    · rw [decide_eq_true (by omega)] at hp
      refine mw_iconst (v := nI 1) rfl (by decide) ?_
      refine mw_goto rfl ?_
      first | exact mw_ireturn rfl rfl (bI_nar _) rfl (Nat.le_refl _) (hp) | exact mw_ireturn rfl rfl rfl rfl (Nat.le_refl _) (hp)
  have stop : ∀ k (s : PS), s.1 ≤ tl → post (some (.int (bI (decide (s.1 = tl))))) (mov (ty w k s) h) → MW M_X10_isForm (d + 4) 0 0 n post 38 [(0, .ref 178), (1, .int (nI 0))] [] (mov (ty w k s) h) n 0 := by
    intro k s hs hp
    refine mw_iload_n (i := 1) rfl rfl rfl ?_
    refine mw_z_eq rfl (by omega) (fun hz => ?_) (fun hz => ?_)
    · exact mw_locals rfl (fin k s hs hp)
    · exact absurd rfl hz
  have step : ∀ m k (s : PS), k + (m + 1) = 3 → s.1 ≤ tl → (0 < m → ∀ s : PS, s.1 ≤ tl → post (some (.int (bI ((rdLits v t tl m (k + 1) s).1 && decide ((rdLits v t tl m (k + 1) s).2.2.1 = tl))))) (mov (ty w (rdLits v t tl m (k + 1) s).2.1 (rdLits v t tl m (k + 1) s).2.2) h) → MW M_X10_isForm (d + 4) 0 0 n post 38 [(0, .ref 178), (1, .int (nI 1))] [] (mov (ty w (k + 1) s) h) n 0) → post (some (.int (bI ((rdLits v t tl (m + 1) k s).1 && decide ((rdLits v t tl (m + 1) k s).2.2.1 = tl))))) (mov (ty w (rdLits v t tl (m + 1) k s).2.1 (rdLits v t tl (m + 1) k s).2.2) h) → MW M_X10_isForm (d + 4) 0 0 n post 38 [(0, .ref 178), (1, .int (nI 1))] [] (mov (ty w k s) h) n 0 := by
    intro m k s hk hs ih hp
    have hp1 := rdTake_le (t := t) (c := 33) (by omega) hs
    have mid : MW M_X10_isForm (d + 4) 0 0 n post 72 [(0, .ref 178), (1, .int (nI 1)), (2, .int (nI (k + 1)))] [.int (bI (rdTake t tl 33 s).1), .int (nI (4 * (k + 1) + 3)), .ref 183] (mov (ty w k (rdTake t tl 33 s).2) h) n 0 := by
      refine mw_iast_m rfl (by first | rfl | exact rfl | exact hv | exact ht) (by omega) (by omega) ?_
      first | rw [vI_upd] | rw [vI_updv] | skip
      refine mw_aload_n (i := 0) rfl rfl rfl ?_
      refine mw_iload_n (i := 2) rfl rfl rfl ?_
      refine mw_heap (h2 := mov (ty w k ((rdTake t tl 33 s).2.1, upd (rdTake t tl 33 s).2.2 (4 * (k + 1) + 3) (bI (rdTake t tl 33 s).1))) h) rfl ?_
      have hp2 := rdAtom_le (v := v) (t := t) (i := k + 1) hc6 (s := ((rdTake t tl 33 s).2.1, upd (rdTake t tl 33 s).2.2 (4 * (k + 1) + 3) (bI (rdTake t tl 33 s).1))) hp1
      refine mw_callV_f (c_isAtom d n (k + 1) tl (updN w 2 (nI k)) v t ((rdTake t tl 33 s).2.1, upd (rdTake t tl 33 s).2.2 (4 * (k + 1) + 3) (bI (rdTake t tl 33 s).1)) h hv ht h0 hl hp1 hok (by omega)) rfl ok_X10_isAtom v_X10_122 rfl (by first | rfl | exact rfl | exact hv | exact ht) (by intro e; cases e) rfl (Nat.le_of_ble_eq_true rfl) rfl (Nat.le_of_ble_eq_true rfl) (by omega) (by omega) (by omega) ?_
      have eL : rdAtom v t tl (k + 1) ((rdTake t tl 33 s).2.1, upd (rdTake t tl 33 s).2.2 (4 * (k + 1) + 3) (bI (rdTake t tl 33 s).1)) = rdLit v t tl (k + 1) s := rfl
      rw [eL] at hp2 ⊢
      have eR : rdLits v t tl (m + 1) k s = if (rdLit v t tl (k + 1) s).1 = true then (if k + 1 < 3 then (if (rdTake t tl 44 (rdLit v t tl (k + 1) s).2).1 = true then rdLits v t tl m (k + 1) (rdTake t tl 44 (rdLit v t tl (k + 1) s).2).2 else (true, k + 1, (rdTake t tl 44 (rdLit v t tl (k + 1) s).2).2)) else (true, k + 1, (rdLit v t tl (k + 1) s).2)) else (false, k, (rdLit v t tl (k + 1) s).2) := rfl
      rw [eR] at hp
      refine mw_b_ne rfl (fun hL => ?_) (fun hL => ?_)
      · rw [if_pos hL] at hp
        generalize (rdLit v t tl (k + 1) s).2 = s3 at hp hp2 ⊢
        refine mw_aload_n (i := 0) rfl rfl rfl ?_
        refine mw_dup rfl rfl ?_
        refine mw_getfield rfl f_X10_119 (by first | rfl | exact rfl | exact hv | exact ht) rfl ?_
        refine mw_iconst (v := nI 1) rfl (by decide) ?_
        first | refine mw_nadd rfl ?_ | refine mw_iadd rfl ?_
        refine mw_putfield_m rfl f_X10_119 (by first | rfl | exact rfl | exact hv | exact ht) (Nat.le_of_ble_eq_true rfl) (fun _ => rfl) (fun _ => rfl) ?_
        refine mw_heap (h2 := mov (ty w (k + 1) s3) h) (congrArg (fun z => mov [(183, .inl (.int, 16, .inl s3.2)), (178, RO z)] h) (updN_3 w (nI k) (nI s3.1) (nI (k + 1))).symm) ?_
        refine mw_aload_n (i := 0) rfl rfl rfl ?_
        refine mw_getfield rfl f_X10_119 (by first | rfl | exact rfl | exact hv | exact ht) rfl ?_
        refine mw_iconst (v := nI 3) rfl (by decide) ?_
        refine mw_n_ge rfl (by omega) (by omega) (fun h3 => ?_) (fun h3 => ?_)
        · rw [if_neg (by omega)] at hp
          refine mw_iconst (v := nI 0) rfl (by decide) ?_
          refine mw_istore_n (i := 1) rfl rfl (Nat.le_of_ble_eq_true rfl) ?_
          refine mw_goto rfl ?_
          exact mw_locals rfl (stop (k + 1) s3 hp2 (by rw [Bool.true_and] at hp; exact hp))
        · rw [if_pos (by omega)] at hp
          have hp4 := rdTake_le (t := t) (c := 44) (by omega) hp2
          refine mw_aload_n (i := 0) rfl rfl rfl ?_
          refine mw_bipush (v := nI 44) rfl (by decide) ?_
          refine mw_callV_f (c_takesS (d + 2) n 44 tl (updN w 2 (nI (k + 1))) t s3 h ht h0 hl hp2) rfl ok_X10_takes v_X10_113 rfl (by first | rfl | exact rfl | exact hv | exact ht) (by intro e; cases e) rfl (Nat.le_of_ble_eq_true rfl) rfl (Nat.le_of_ble_eq_true rfl) (by omega) (by omega) (by omega) ?_
          refine mw_b_eq rfl (fun h44 => ?_) (fun h44 => ?_)
          · rw [if_neg (by rw [h44]; decide)] at hp
            refine mw_iconst (v := nI 0) rfl (by decide) ?_
            refine mw_istore_n (i := 1) rfl rfl (Nat.le_of_ble_eq_true rfl) ?_
            refine mw_goto rfl ?_
            exact mw_locals rfl (stop (k + 1) _ hp4 (by rw [Bool.true_and] at hp; exact hp))
          · rw [if_pos h44] at hp
            refine mw_iconst (v := nI 1) rfl (by decide) ?_
            refine mw_goto rfl ?_
            refine mw_istore_n (i := 1) rfl rfl (Nat.le_of_ble_eq_true rfl) ?_
            refine mw_goto rfl ?_
            exact mw_locals rfl (ih (by omega) _ hp4 hp)
      · rw [if_neg (by rw [hL]; decide), Bool.false_and] at hp
        refine mw_iconst (v := nI 0) rfl (by decide) ?_
        first | exact mw_ireturn rfl rfl (bI_nar _) rfl (Nat.le_refl _) (hp) | exact mw_ireturn rfl rfl rfl rfl (Nat.le_refl _) (hp)
    refine mw_iload_n (i := 1) rfl rfl rfl ?_
    refine mw_z_eq rfl (by omega) (fun hz => ?_) (fun hz => ?_)
    · exact absurd hz (by decide)
    · refine mw_aload_n (i := 0) rfl rfl rfl ?_
      refine mw_getfield rfl f_X10_119 (by first | rfl | exact rfl | exact hv | exact ht) rfl ?_
      refine mw_iconst (v := nI 1) rfl (by decide) ?_
      first | refine mw_nadd rfl ?_ | refine mw_iadd rfl ?_
      refine mw_istore_n (i := 2) rfl rfl (Nat.le_of_ble_eq_true rfl) ?_
      refine mw_aload_n (i := 0) rfl rfl rfl ?_
      refine mw_getfield rfl f_X10_23 (by first | rfl | exact rfl | exact hv | exact ht) rfl ?_
      refine mw_iconst (v := nI 4) rfl (by decide) ?_
      refine mw_iload_n (i := 2) rfl rfl rfl ?_
      first | refine mw_nmul rfl ?_ | refine mw_imul rfl ?_
      refine mw_iconst (v := nI 3) rfl (by decide) ?_
      first | refine mw_nadd rfl ?_ | refine mw_iadd rfl ?_
      refine mw_aload_n (i := 0) rfl rfl rfl ?_
      refine mw_bipush (v := nI 33) rfl (by decide) ?_
      refine mw_callV_f (c_takesS (d + 2) n 33 tl (updN w 2 (nI k)) t s h ht h0 hl hs) rfl ok_X10_takes v_X10_113 rfl (by first | rfl | exact rfl | exact hv | exact ht) (by intro e; cases e) rfl (Nat.le_of_ble_eq_true rfl) rfl (Nat.le_of_ble_eq_true rfl) (by omega) (by omega) (by omega) ?_
      refine mw_b_eq rfl (fun h33 => ?_) (fun h33 => ?_)
      · rw [h33] at mid
        refine mw_iconst (v := nI 0) rfl (by decide) ?_
        exact mw_locals rfl mid
      · rw [h33] at mid
        refine mw_iconst (v := nI 1) rfl (by decide) ?_
        refine mw_goto rfl ?_
        exact mw_locals rfl mid
  have loop : ∀ m k (s : PS), k + (m + 1) = 3 → s.1 ≤ tl → post (some (.int (bI ((rdLits v t tl (m + 1) k s).1 && decide ((rdLits v t tl (m + 1) k s).2.2.1 = tl))))) (mov (ty w (rdLits v t tl (m + 1) k s).2.1 (rdLits v t tl (m + 1) k s).2.2) h) → MW M_X10_isForm (d + 4) 0 0 n post 38 [(0, .ref 178), (1, .int (nI 1))] [] (mov (ty w k s) h) n 0 := by
    intro m
    induction m with
    | zero => exact fun k s hk hs hp => step 0 k s hk hs (fun q => absurd q (by omega)) hp
    | succ m ih => exact fun k s hk hs hp => step (m + 1) k s hk hs (fun _ s hs hp => ih (k + 1) s (by omega) hs hp) hp
  unfold rdForm at hp
  refine mw_over [(183, .inl (.int, 16, .inl td)), (178, RO w)] (mov_self (by simp [htd, hO])) ?_
  refine mw_aload_n (i := 0) rfl rfl rfl ?_
  refine mw_iconst (v := nI 0) rfl (by decide) ?_
  refine mw_putfield_m rfl f_X10_106 (by first | rfl | exact rfl | exact hv | exact ht) (Nat.le_of_ble_eq_true rfl) (fun _ => rfl) (fun _ => rfl) ?_
  refine mw_aload_n (i := 0) rfl rfl rfl ?_
  refine mw_iconst (v := nI 0) rfl (by decide) ?_
  refine mw_putfield_m rfl f_X10_119 (by first | rfl | exact rfl | exact hv | exact ht) (Nat.le_of_ble_eq_true rfl) (fun _ => rfl) (fun _ => rfl) ?_
  refine mw_aload_n (i := 0) rfl rfl rfl ?_
  refine mw_getfield rfl f_X10_23 (by first | rfl | exact rfl | exact hv | exact ht) rfl ?_
  refine mw_iconst (v := nI 3) rfl (by decide) ?_
  refine mw_iconst (v := nI 0) rfl (by decide) ?_
  refine mw_iast_m rfl (by first | rfl | exact rfl | exact hv | exact ht) (by omega) (by omega) ?_
  first | rw [vI_upd] | rw [vI_updv] | skip
  refine mw_aload_n (i := 0) rfl rfl rfl ?_
  refine mw_iconst (v := nI 0) rfl (by decide) ?_
  refine mw_heap (h2 := mov (ty w 0 (0, upd td 3 (nI 0))) h) (congrArg (fun z => mov [(183, .inl (.int, 16, .inl (upd td 3 (nI 0)))), (178, RO z)] h) (updN_sw w (nI 0) (nI 0)).symm) ?_
  have hq0 : ((0, upd td 3 (nI 0)) : PS).1 ≤ tl := Nat.zero_le _
  generalize ((0, upd td 3 (nI 0)) : PS) = s0 at hp hq0 ⊢
  have hq1 := rdAtom_le (v := v) (t := t) (i := 0) hc6 hq0
  refine mw_callV_f (c_isAtom d n 0 tl (updN w 2 (nI 0)) v t s0 h hv ht h0 hl hq0 hok (by omega)) rfl ok_X10_isAtom v_X10_122 rfl (by first | rfl | exact rfl | exact hv | exact ht) (by intro e; cases e) rfl (Nat.le_of_ble_eq_true rfl) rfl (Nat.le_of_ble_eq_true rfl) (by omega) (by omega) (by omega) ?_
  refine mw_b_eq rfl (fun hA => ?_) (fun hA => ?_)
  · rw [if_neg (by rw [hA]; decide)] at hp
    refine mw_iconst (v := nI 0) rfl (by decide) ?_
    first | exact mw_ireturn rfl rfl (bI_nar _) rfl (Nat.le_refl _) (hp) | exact mw_ireturn rfl rfl rfl rfl (Nat.le_refl _) (hp)
  · rw [if_pos hA] at hp
    generalize (rdAtom v t tl 0 s0).2 = s1 at hp hq1 ⊢
    have hq2 := rdTake_le (t := t) (c := 60) (by omega) hq1
    refine mw_aload_n (i := 0) rfl rfl rfl ?_
    refine mw_bipush (v := nI 60) rfl (by decide) ?_
    refine mw_callV_f (c_takesS (d + 2) n 60 tl (updN w 2 (nI 0)) t s1 h ht h0 hl hq1) rfl ok_X10_takes v_X10_113 rfl (by first | rfl | exact rfl | exact hv | exact ht) (by intro e; cases e) rfl (Nat.le_of_ble_eq_true rfl) rfl (Nat.le_of_ble_eq_true rfl) (by omega) (by omega) (by omega) ?_
    refine mw_b_ne rfl (fun h60 => ?_) (fun h60 => ?_)
    · rw [if_pos h60] at hp
      generalize (rdTake t tl 60 s1).2 = s2 at hp hq2 ⊢
      refine mw_iconst (v := nI 1) rfl (by decide) ?_
      refine mw_istore_n (i := 1) rfl rfl (Nat.le_of_ble_eq_true rfl) ?_
      exact mw_locals rfl (loop 2 0 s2 rfl hq2 hp)
    · rw [if_neg (by rw [h60]; decide)] at hp
      refine mw_iconst (v := nI 0) rfl (by decide) ?_
      first | exact mw_ireturn rfl rfl (bI_nar _) rfl (Nat.le_refl _) (hp) | exact mw_ireturn rfl rfl rfl rfl (Nat.le_refl _) (hp)
