theorem RuE.b {R R' : RuS} {k : Nat} (h : RuE R R' (k + 1)) (hB : RuB R k) (hk : R'.pr (k + 1) < 6 ∧ R'.fi (k + 1) < 9 ∧ R'.se (k + 1) < 9) : RuB R' (k + 1) := by
  intro a ha
  by_cases e : a = k + 1
  · subst e; exact hk
  · obtain ⟨e1, e2, e3⟩ := h.1 a e
    rw [e1, e2, e3]
    exact hB a (by omega)
theorem kdLit_B {v t : Nat → Nat} {tl k : Nat} (h6 : v 0 ≤ 6) {s : KS} (hB : RuB s.2 k) (h : (kdLit v t tl (k + 1) s).1 = true) : RuB (kdLit v t tl (k + 1) s).2.2 (k + 1) :=
  RuE.b (R := (s.2.pr, s.2.fi, s.2.se, updN s.2.ng (k + 1) (kdTake t tl 33 s).1, s.2.li, s.2.pc)) (kdAtom_E v t tl (k + 1) _) hB (kdAtom_B h6 h)
theorem kdLits_B {v t : Nat → Nat} {tl : Nat} (h6 : v 0 ≤ 6) : ∀ m k (s : KS), k + m = 3 → (0 < k → s.2.li = k) → RuB s.2 k → (kdLits v t tl m k s).1 = true → (kdLits v t tl m k s).2.2.li ≤ 3 ∧ 1 ≤ (kdLits v t tl m k s).2.2.li ∧ RuB (kdLits v t tl m k s).2.2 (kdLits v t tl m k s).2.2.li
  | 0, k, s, hk, hli, hB, h => by
    have e : s.2.li = k := hli (by omega)
    show s.2.li ≤ 3 ∧ 1 ≤ s.2.li ∧ RuB s.2 s.2.li
    rw [e]
    exact ⟨by omega, by omega, hB⟩
  | m + 1, k, s, hk, hli, hB, h => by
    unfold kdLits at h ⊢
    cases hL : (kdLit v t tl (k + 1) s).1
    · rw [hL] at h; simp at h
    · have hB1 := kdLit_B h6 hB hL
      rw [if_pos hL] at h
      rw [if_pos rfl]
      generalize (kdLit v t tl (k + 1) s).2 = s1 at h hB1 ⊢
      have hB2 : RuB (kdSet (k + 1) s1).2 (k + 1) := hB1
      have hl2 : (kdSet (k + 1) s1).2.li = k + 1 := rfl
      generalize kdSet (k + 1) s1 = s2 at h hB2 hl2 ⊢
      by_cases h3 : k + 1 < 3
      · rw [if_pos h3] at h ⊢
        have hB3 : RuB (kdTake t tl 44 s2).2.2 (k + 1) := hB2
        have hl3 : (kdTake t tl 44 s2).2.2.li = k + 1 := hl2
        cases h44 : (kdTake t tl 44 s2).1
        · rw [if_neg (by decide)]
          show (kdTake t tl 44 s2).2.2.li ≤ 3 ∧ 1 ≤ (kdTake t tl 44 s2).2.2.li ∧ RuB (kdTake t tl 44 s2).2.2 (kdTake t tl 44 s2).2.2.li
          rw [hl3]
          exact ⟨by omega, by omega, hB3⟩
        · rw [if_pos h44] at h
          rw [if_pos rfl]
          exact kdLits_B h6 m (k + 1) _ (by omega) (fun _ => hl3) hB3 h
      · rw [if_neg h3]
        show s2.2.li ≤ 3 ∧ 1 ≤ s2.2.li ∧ RuB s2.2 s2.2.li
        rw [hl2]
        exact ⟨by omega, by omega, hB2⟩
theorem kdRule_B {v t : Nat → Nat} {tl : Nat} {R : RuS} (h6 : v 0 ≤ 6) (h : (kdRule v t tl R).1 = true) : (kdRule v t tl R).2.2.li ≤ 3 ∧ 1 ≤ (kdRule v t tl R).2.2.li ∧ RuB (kdRule v t tl R).2.2 (kdRule v t tl R).2.2.li := by
  unfold kdRule at h ⊢
  cases hA : (kdAtom v t tl 0 (0, R)).1
  · rw [hA] at h; simp at h
  · rw [if_pos hA] at h
    rw [if_pos rfl]
    have hB : RuB (kdAtom v t tl 0 (0, R)).2.2 0 := fun a ha => by
      have : a = 0 := by omega
      subst this
      exact kdAtom_B h6 hA
    generalize (kdAtom v t tl 0 (0, R)).2 = s1 at h hB ⊢
    cases h60 : (kdTake t tl 60 s1).1
    · rw [h60] at h; simp at h
    · rw [if_pos h60] at h
      rw [if_pos rfl]
      have hB2 : RuB (kdTake t tl 60 s1).2.2 0 := hB
      generalize (kdTake t tl 60 s1).2 = s2 at h hB2 ⊢
      rw [Bool.and_eq_true] at h
      exact kdLits_B h6 3 0 s2 rfl (fun q => absurd q (by omega)) hB2 h.1
/-- the first letter that is a loose variable -/
def unF (t : Nat → Nat) (R : RuS) (i : Nat) : Option Nat := if isVr (nI (t i)) = true ∧ hasV R (t i - 88) = false then some i else none
def unV (t : Nat → Nat) (R : RuS) (tl : Nat) : Int32 := ((upTo (unF t R) tl).map nI).getD (-5)
theorem isVr_nI {x : Nat} (hx : x < 2147483648) : isVr (nI x) = true ↔ 88 ≤ x ∧ x ≤ 90 := by
  unfold isVr
  rw [decide_eq_true_iff, nI_leI (by omega) hx, nI_leI hx (by omega)]
set_option maxRecDepth 20000 in
theorem c_unbound (d n tl : Nat) (t : Nat → Nat) (s : KS) (h : Nat → MC) (ht : h 50 = .inl (.int, 60, .inl (vI t))) (ht7 : ∀ i, i < tl → t i < 128) (hl : tl ≤ 60) (hli : s.2.li ≤ 3) (hB : RuB s.2 s.2.li) : Fn M_X7_unboundVariable (d + 1) 0 0 [.ref 49] (mov (txC tl s) h) n (some (.int (unV t s.2 tl))) (mov (txC tl s) h) := by
  refine Fn.of fun post hp => ?_
  refine mw_iconst (v := nI 0) rfl (by decide) ?_
  refine mw_istore_n (i := 1) rfl rfl (Nat.le_of_ble_eq_true rfl) ?_
  have loop : ∀ j, j ≤ tl → upTo (unF t s.2) j = none → MW M_X7_unboundVariable (d + 1) 0 0 n post 2 [(0, .ref 49), (1, .int (nI j))] [] (mov (txC tl s) h) n 0 := by
    refine loop_up tl ?_ ?_
    · intro hf
      rw [show unV t s.2 tl = -5 by unfold unV; rw [hf]; rfl] at hp
      refine mw_iload_n (i := 1) rfl rfl rfl ?_
      refine mw_aload_n (i := 0) rfl rfl rfl ?_
      refine mw_getfield rfl f_X7_22 (by first | rfl | exact rfl | exact ht) rfl ?_
      refine mw_n_ge rfl (by omega) (by omega) (fun hc => ?_) (fun hc => ?_)
      · refine mw_bipush (v := (-5)) rfl (by decide) ?_
        exact mw_ireturn rfl rfl rfl rfl (Nat.le_refl _) (hp)
      · omega
    · intro j hj ih hf
      have h7 := ht7 j hj
      refine mw_iload_n (i := 1) rfl rfl rfl ?_
      refine mw_aload_n (i := 0) rfl rfl rfl ?_
      refine mw_getfield rfl f_X7_22 (by first | rfl | exact rfl | exact ht) rfl ?_
      refine mw_n_ge rfl (by omega) (by omega) (fun hc => ?_) (fun hc => ?_)
      · omega
      · refine mw_aload_n (i := 0) rfl rfl rfl ?_
        refine mw_getfield rfl f_X7_9 (by first | rfl | exact rfl | exact ht) rfl ?_
        refine mw_iload_n (i := 1) rfl rfl rfl ?_
        refine mw_iald rfl (by first | rfl | exact rfl | exact ht) (by omega) (by omega) ?_
        refine mw_callS_f (c_isVariable d n (nI (t j)) _) rfl ok_X7_isVariable v_X7_82 rfl (Nat.le_of_ble_eq_true rfl) rfl (Nat.le_of_ble_eq_true rfl) (by omega) (by omega) (by omega) ?_
        refine mw_b_eq rfl (fun hb => ?_) (fun hb => ?_)
        · first | refine mw_ninc rfl rfl (Nat.le_of_ble_eq_true rfl) ?_ | refine mw_iinc rfl rfl rfl (Nat.le_of_ble_eq_true rfl) ?_
          refine mw_goto rfl ?_
          exact mw_locals rfl (ih (upTo_miss hf (if_neg (fun q => by rw [hb] at q; exact absurd q.1 (by decide)))))
        · obtain ⟨b1, b2⟩ := (isVr_nI (by omega)).mp hb
          refine mw_aload_n (i := 0) rfl rfl rfl ?_
          refine mw_getfield rfl f_X7_18 (by first | rfl | exact rfl | exact ht) rfl ?_
          refine mw_aload_n (i := 0) rfl rfl rfl ?_
          refine mw_getfield rfl f_X7_9 (by first | rfl | exact rfl | exact ht) rfl ?_
          refine mw_iload_n (i := 1) rfl rfl rfl ?_
          refine mw_iald rfl (by first | rfl | exact rfl | exact ht) (by omega) (by omega) ?_
          refine mw_bipush (v := nI 88) rfl (by decide) ?_
          first | refine mw_nsub rfl (show 88 ≤ t j by omega) ?_ | refine mw_isub rfl ?_
          refine mw_callV_f (c_hasVariable d n 51 s.2 (t j - 88) _ ⟨rfl, rfl, rfl, rfl, rfl⟩ hli (fun a _ ha => (hB a ha).2) (by omega)) rfl ok_X6_hasVariable v_X7_85 rfl (by first | rfl | exact rfl | exact ht) (by intro e; cases e) rfl (Nat.le_of_ble_eq_true rfl) rfl (Nat.le_of_ble_eq_true rfl) (by omega) (by omega) (by omega) ?_
          refine mw_b_ne rfl (fun hv => ?_) (fun hv => ?_)
          · first | refine mw_ninc rfl rfl (Nat.le_of_ble_eq_true rfl) ?_ | refine mw_iinc rfl rfl rfl (Nat.le_of_ble_eq_true rfl) ?_
            refine mw_goto rfl ?_
            exact mw_locals rfl (ih (upTo_miss hf (if_neg (fun q => by rw [hv] at q; exact absurd q.2 (by decide)))))
          · have e1 : unF t s.2 j = some j := if_pos ⟨hb, hv⟩
            rw [show unV t s.2 tl = nI j by unfold unV; rw [upTo_hit hf e1 hj]; rfl] at hp
            refine mw_iload_n (i := 1) rfl rfl rfl ?_
            exact mw_ireturn rfl rfl rfl rfl (Nat.le_refl _) (hp)
  exact mw_locals rfl (loop 0 (Nat.zero_le _) rfl)
def ffV (v t : Nat → Nat) (tl : Nat) (R : RuS) : Int32 := if (kdRule v t tl R).1 = true then unV t (kdRule v t tl R).2.2 tl else nI (kdRule v t tl R).2.1
set_option maxRecDepth 20000 in
theorem c_findFault (d n tl : Nat) (v t : Nat → Nat) (P : PgS) (s : KS) (h : Nat → MC) (ht : h 50 = .inl (.int, 60, .inl (vI t))) (ht7 : ∀ i, i < tl → t i < 128) (hl : tl ≤ 60) (hP : PgAt h 1 P) (hV : PgV P v) (hok : OkN v) : Fn M_X7_findFault (d + 4) 0 0 [.ref 49, .ref 1] (mov (txC tl s) h) n (some (.int (ffV v t tl s.2))) (mov (txC tl (kdRule v t tl s.2).2) h) := by
  refine Fn.of fun post hp => ?_
  unfold ffV at hp
  refine mw_aload_n (i := 0) rfl rfl rfl ?_
  refine mw_iconst (v := nI 0) rfl (by decide) ?_
  refine mw_putfield_m rfl f_X7_26 (by first | rfl | exact rfl | exact ht) (Nat.le_of_ble_eq_true rfl) (fun _ => rfl) (fun _ => rfl) ?_
  refine mw_aload_n (i := 0) rfl rfl rfl ?_
  refine mw_aload_n (i := 1) rfl rfl rfl ?_
  refine mw_heap (h2 := mov (txC tl (0, s.2)) h) rfl ?_
  refine mw_callV_f (c_readRule d n tl v t P s.2 h ht hl hP hV hok) rfl ok_X7_readRule v_X7_29 rfl (by first | rfl | exact rfl | exact ht) (by intro e; cases e) rfl (Nat.le_of_ble_eq_true rfl) rfl (Nat.le_of_ble_eq_true rfl) (by omega) (by omega) (by omega) ?_
  refine mw_b_eq rfl (fun hb => ?_) (fun hb => ?_)
  · rw [if_neg (by rw [hb]; decide)] at hp
    refine mw_aload_n (i := 0) rfl rfl rfl ?_
    refine mw_getfield rfl f_X7_26 (by first | rfl | exact rfl | exact ht) rfl ?_
    exact mw_ireturn rfl rfl rfl rfl (Nat.le_refl _) (hp)
  · rw [if_pos hb] at hp
    obtain ⟨b1, -, b2⟩ := kdRule_B hok.2.1 hb
    refine mw_aload_n (i := 0) rfl rfl rfl ?_
    refine mw_callV_f (c_unbound (d + 2) n tl t (kdRule v t tl s.2).2 h ht ht7 hl b1 b2) rfl ok_X7_unboundVariable v_X7_33 rfl (by first | rfl | exact rfl | exact ht) (by intro e; cases e) rfl (Nat.le_of_ble_eq_true rfl) rfl (Nat.le_of_ble_eq_true rfl) (by omega) (by omega) (by omega) ?_
    refine mw_goto rfl ?_
    exact mw_ireturn rfl rfl rfl rfl (Nat.le_refl _) (hp)
theorem c_put (d n tl at_ x : Nat) (t : Nat → Nat) (h : Nat → MC) (hx : h 49 = .inr (7, [.ref 50, .int (nI tl), .ref 51, .int (nI at_)])) (ht : h 50 = .inl (.int, 60, .inl (vI t))) (hl : tl < 60) : Fn M_X7_put d 0 0 [.ref 49, .int (nI x)] h n none (mov [(50, .inl (.int, 60, .inl (vI (updN t tl x)))), (49, .inr (7, [.ref 50, .int (nI (tl + 1)), .ref 51, .int (nI at_)]))] h) := by
  refine Fn.of fun post hp => ?_
  refine mw_over [(50, .inl (.int, 60, .inl (vI t))), (49, .inr (7, [.ref 50, .int (nI tl), .ref 51, .int (nI at_)]))] (mov_self (by simp [ht, hx])) ?_
  refine mw_aload_n (i := 0) rfl rfl rfl ?_
  refine mw_getfield rfl f_X7_9 (by first | rfl | exact rfl | exact ht | exact hx) rfl ?_
  refine mw_aload_n (i := 0) rfl rfl rfl ?_
  refine mw_getfield rfl f_X7_22 (by first | rfl | exact rfl | exact ht | exact hx) rfl ?_
  refine mw_iload_n (i := 1) rfl rfl rfl ?_
  refine mw_iast_m rfl (by first | rfl | exact rfl | exact ht | exact hx) (by omega) (by omega) ?_
  first | rw [vI_upd] | rw [vI_updv] | skip
  refine mw_aload_n (i := 0) rfl rfl rfl ?_
  refine mw_dup rfl rfl ?_
  refine mw_getfield rfl f_X7_22 (by first | rfl | exact rfl | exact ht | exact hx) rfl ?_
  refine mw_iconst (v := nI 1) rfl (by decide) ?_
  first | refine mw_nadd rfl ?_ | refine mw_iadd rfl ?_
  refine mw_putfield_m rfl f_X7_22 (by first | rfl | exact rfl | exact ht | exact hx) (Nat.le_of_ble_eq_true rfl) (fun _ => rfl) (fun _ => rfl) ?_
  exact mw_return rfl rfl rfl (Nat.le_refl _) (hp)
