theorem mov_tx (tl : Nat) (s s' : KS) (h : Nat → MC) : mov (txC tl s') (mov (txC tl s) h) = mov (txC tl s') h := (mov_puts (txC tl s) h (txC tl s')).symm
theorem PgAt.tx {h : Nat → MC} {P : PgS} (hP : PgAt h 1 P) (tl : Nat) (s : KS) : PgAt (mov (txC tl s) h) 1 P := hP.keep fun j h1 h2 => by
  simp only [txC, mov, mlk, nbf (show ¬ 49 = j by omega), nbf (show ¬ 51 = j by omega), nbf (show ¬ 52 = j by omega), nbf (show ¬ 53 = j by omega), nbf (show ¬ 54 = j by omega), nbf (show ¬ 55 = j by omega), cond_false]
set_option maxRecDepth 20000 in
theorem c_readRule (d n tl : Nat) (v t : Nat → Nat) (P : PgS) (R : RuS) (h : Nat → MC) (ht : h 50 = .inl (.int, 60, .inl (vI t))) (hl : tl ≤ 60) (hP : PgAt h 1 P) (hV : PgV P v) (hok : OkN v) : Fn M_X7_readRule (d + 3) 0 0 [.ref 49, .ref 1] (mov (txC tl (0, R)) h) n (some (.int (bI (kdRule v t tl R).1))) (mov (txC tl (kdRule v t tl R).2) h) := by
  refine Fn.of fun post hp => ?_
  have hc6 := hok.2.1
  have fin : ∀ s : KS, s.1 ≤ tl → post (some (.int (bI (decide (s.1 = tl))))) (mov (txC tl s) h) → MW M_X7_readRule (d + 3) 0 0 n post 93 [(0, .ref 49)] [] (mov (txC tl s) h) n 0 := by
    intro s hs hp
    refine mw_aload_n (i := 0) rfl rfl rfl ?_
    refine mw_getfield rfl f_X7_26 (by first | rfl | exact rfl | exact ht) rfl ?_
    refine mw_aload_n (i := 0) rfl rfl rfl ?_
    refine mw_getfield rfl f_X7_22 (by first | rfl | exact rfl | exact ht) rfl ?_
    refine mw_n_ne rfl (by omega) (by omega) (fun hc => ?_) (fun hc => ?_)
    · rw [decide_eq_false (by omega)] at hp
      refine mw_iconst (v := nI 0) rfl (by decide) ?_
      first | exact mw_ireturn rfl rfl (bI_nar _) rfl (Nat.le_refl _) (hp) | exact mw_ireturn rfl rfl rfl rfl (Nat.le_refl _) (hp)
    · rw [decide_eq_true (by omega)] at hp
      refine mw_iconst (v := nI 1) rfl (by decide) ?_
      refine mw_goto rfl ?_
      first | exact mw_ireturn rfl rfl (bI_nar _) rfl (Nat.le_refl _) (hp) | exact mw_ireturn rfl rfl rfl rfl (Nat.le_refl _) (hp)
  have stop : ∀ (k : Nat) (s : KS), s.1 ≤ tl → post (some (.int (bI (decide (s.1 = tl))))) (mov (txC tl s) h) → MW M_X7_readRule (d + 3) 0 0 n post 24 [(0, .ref 49), (2, .int (nI 0)), (3, .int (nI k))] [] (mov (txC tl s) h) n 0 := by
    intro k s hs hp
    refine mw_iload_n (i := 2) rfl rfl rfl ?_
    refine mw_z_eq rfl (by omega) (fun hz => ?_) (fun hz => ?_)
    · exact mw_locals rfl (fin s hs hp)
    · exact absurd rfl hz
  have step : ∀ m k (s : KS), k + (m + 1) = 3 → s.1 ≤ tl → (0 < m → ∀ s : KS, s.1 ≤ tl → post (some (.int (bI ((kdLits v t tl m (k + 1) s).1 && decide ((kdLits v t tl m (k + 1) s).2.1 = tl))))) (mov (txC tl (kdLits v t tl m (k + 1) s).2) h) → MW M_X7_readRule (d + 3) 0 0 n post 24 [(0, .ref 49), (1, .ref 1), (2, .int (nI 1)), (3, .int (nI (k + 2)))] [] (mov (txC tl s) h) n 0) → post (some (.int (bI ((kdLits v t tl (m + 1) k s).1 && decide ((kdLits v t tl (m + 1) k s).2.1 = tl))))) (mov (txC tl (kdLits v t tl (m + 1) k s).2) h) → MW M_X7_readRule (d + 3) 0 0 n post 24 [(0, .ref 49), (1, .ref 1), (2, .int (nI 1)), (3, .int (nI (k + 1)))] [] (mov (txC tl s) h) n 0 := by
    intro m k s hk hs ih hp
    have hp1 := kdTake_le (t := t) (c := 33) (by omega) hs
    have e33 : (kdTake t tl 33 s).2.2 = s.2 := rfl
    refine mw_iload_n (i := 2) rfl rfl rfl ?_
    refine mw_z_eq rfl (by omega) (fun hz => ?_) (fun hz => ?_)
    · exact absurd hz (by decide)
    · refine mw_iload_n (i := 3) rfl rfl rfl ?_
      refine mw_iconst (v := nI 3) rfl (by decide) ?_
      refine mw_n_gt rfl (by omega) (by omega) (fun h3 => ?_) (fun h3 => ?_)
      · omega
      · refine mw_aload_n (i := 0) rfl rfl rfl ?_
        refine mw_getfield rfl f_X7_18 (by first | rfl | exact rfl | exact ht) rfl ?_
        refine mw_getfield rfl f_X7_45 (by first | rfl | exact rfl | exact ht) rfl ?_
        refine mw_iload_n (i := 3) rfl rfl rfl ?_
        refine mw_aload_n (i := 0) rfl rfl rfl ?_
        refine mw_bipush (v := nI 33) rfl (by decide) ?_
        refine mw_callV_f (c_take (d + 1) n 33 tl t s h ht hl hs) rfl ok_X7_take v_X7_41 rfl (by first | rfl | exact rfl | exact ht) (by intro e; cases e) rfl (Nat.le_of_ble_eq_true rfl) rfl (Nat.le_of_ble_eq_true rfl) (by omega) (by omega) (by omega) ?_
        first | refine mw_zast_m rfl (by first | rfl | exact rfl | exact ht) (by omega) (by omega) (bI_z _) ?_ | refine mw_zast_m rfl (by first | rfl | exact rfl | exact ht) (by omega) (by omega) (by decide) ?_
        first | rw [bIf_updt] | rw [bIf_updf] | rw [bIf_upd] | skip
        refine mw_aload_n (i := 0) rfl rfl rfl ?_
        refine mw_aload_n (i := 1) rfl rfl rfl ?_
        refine mw_iload_n (i := 3) rfl rfl rfl ?_
        refine mw_heap (h2 := mov (txC tl ((kdTake t tl 33 s).2.1, (s.2.pr, s.2.fi, s.2.se, updN s.2.ng (k + 1) (kdTake t tl 33 s).1, s.2.li, s.2.pc))) h) rfl ?_
        refine mw_callV_f (c_readAtom d n (k + 1) tl v t P ((kdTake t tl 33 s).2.1, (s.2.pr, s.2.fi, s.2.se, updN s.2.ng (k + 1) (kdTake t tl 33 s).1, s.2.li, s.2.pc)) h ht hl hp1 hP hV hok (by omega)) rfl ok_X7_readAtom v_X7_37 rfl (by first | rfl | exact rfl | exact ht) (by intro e; cases e) rfl (Nat.le_of_ble_eq_true rfl) rfl (Nat.le_of_ble_eq_true rfl) (by omega) (by omega) (by omega) ?_
        have hp2 := kdAtom_le (v := v) (t := t) (k := k + 1) hc6 (s := ((kdTake t tl 33 s).2.1, (s.2.pr, s.2.fi, s.2.se, updN s.2.ng (k + 1) (kdTake t tl 33 s).1, s.2.li, s.2.pc))) hp1
        have eL : kdAtom v t tl (k + 1) ((kdTake t tl 33 s).2.1, (s.2.pr, s.2.fi, s.2.se, updN s.2.ng (k + 1) (kdTake t tl 33 s).1, s.2.li, s.2.pc)) = kdLit v t tl (k + 1) s := rfl
        rw [eL] at hp2 ⊢
        have eR : kdLits v t tl (m + 1) k s = if (kdLit v t tl (k + 1) s).1 = true then (if k + 1 < 3 then (if (kdTake t tl 44 (kdSet (k + 1) (kdLit v t tl (k + 1) s).2)).1 = true then kdLits v t tl m (k + 1) (kdTake t tl 44 (kdSet (k + 1) (kdLit v t tl (k + 1) s).2)).2 else (true, (kdTake t tl 44 (kdSet (k + 1) (kdLit v t tl (k + 1) s).2)).2)) else (true, kdSet (k + 1) (kdLit v t tl (k + 1) s).2)) else (false, (kdLit v t tl (k + 1) s).2) := rfl
        rw [eR] at hp
        refine mw_b_ne rfl (fun hL => ?_) (fun hL => ?_)
        · rw [if_pos hL] at hp
          generalize (kdLit v t tl (k + 1) s).2 = s3 at hp hp2 ⊢
          refine mw_aload_n (i := 0) rfl rfl rfl ?_
          refine mw_getfield rfl f_X7_18 (by first | rfl | exact rfl | exact ht) rfl ?_
          refine mw_iload_n (i := 3) rfl rfl rfl ?_
          refine mw_putfield_m rfl f_X7_49 (by first | rfl | exact rfl | exact ht) (Nat.le_of_ble_eq_true rfl) (fun _ => rfl) (fun _ => rfl) ?_
          refine mw_heap (h2 := mov (txC tl (kdSet (k + 1) s3)) h) rfl ?_
          have hp3 : (kdSet (k + 1) s3).1 ≤ tl := hp2
          generalize kdSet (k + 1) s3 = s4 at hp hp3 ⊢
          refine mw_iload_n (i := 3) rfl rfl rfl ?_
          refine mw_iconst (v := nI 3) rfl (by decide) ?_
          refine mw_n_ge rfl (by omega) (by omega) (fun h3 => ?_) (fun h3 => ?_)
          · rw [if_neg (by omega)] at hp
            refine mw_iconst (v := nI 0) rfl (by decide) ?_
            refine mw_istore_n (i := 2) rfl rfl (Nat.le_of_ble_eq_true rfl) ?_
            first | refine mw_ninc rfl rfl (Nat.le_of_ble_eq_true rfl) ?_ | refine mw_iinc rfl rfl rfl (Nat.le_of_ble_eq_true rfl) ?_
            refine mw_goto rfl ?_
            exact mw_locals rfl (stop (k + 2) s4 hp3 (by rw [Bool.true_and] at hp; exact hp))
          · rw [if_pos (by omega)] at hp
            have hp4 := kdTake_le (t := t) (c := 44) (by omega) hp3
            refine mw_aload_n (i := 0) rfl rfl rfl ?_
            refine mw_bipush (v := nI 44) rfl (by decide) ?_
            refine mw_callV_f (c_take (d + 1) n 44 tl t s4 h ht hl hp3) rfl ok_X7_take v_X7_41 rfl (by first | rfl | exact rfl | exact ht) (by intro e; cases e) rfl (Nat.le_of_ble_eq_true rfl) rfl (Nat.le_of_ble_eq_true rfl) (by omega) (by omega) (by omega) ?_
            refine mw_b_eq rfl (fun h44 => ?_) (fun h44 => ?_)
            · rw [if_neg (by rw [h44]; decide)] at hp
              refine mw_iconst (v := nI 0) rfl (by decide) ?_
              refine mw_istore_n (i := 2) rfl rfl (Nat.le_of_ble_eq_true rfl) ?_
              first | refine mw_ninc rfl rfl (Nat.le_of_ble_eq_true rfl) ?_ | refine mw_iinc rfl rfl rfl (Nat.le_of_ble_eq_true rfl) ?_
              refine mw_goto rfl ?_
              exact mw_locals rfl (stop (k + 2) _ hp4 (by rw [Bool.true_and] at hp; exact hp))
            · rw [if_pos h44] at hp
              refine mw_iconst (v := nI 1) rfl (by decide) ?_
              refine mw_goto rfl ?_
              refine mw_istore_n (i := 2) rfl rfl (Nat.le_of_ble_eq_true rfl) ?_
              first | refine mw_ninc rfl rfl (Nat.le_of_ble_eq_true rfl) ?_ | refine mw_iinc rfl rfl rfl (Nat.le_of_ble_eq_true rfl) ?_
              refine mw_goto rfl ?_
              exact mw_locals rfl (ih (by omega) _ hp4 hp)
        · rw [if_neg (by rw [hL]; decide), Bool.false_and] at hp
          refine mw_iconst (v := nI 0) rfl (by decide) ?_
          first | exact mw_ireturn rfl rfl (bI_nar _) rfl (Nat.le_refl _) (hp) | exact mw_ireturn rfl rfl rfl rfl (Nat.le_refl _) (hp)
  have loop : ∀ m k (s : KS), k + (m + 1) = 3 → s.1 ≤ tl → post (some (.int (bI ((kdLits v t tl (m + 1) k s).1 && decide ((kdLits v t tl (m + 1) k s).2.1 = tl))))) (mov (txC tl (kdLits v t tl (m + 1) k s).2) h) → MW M_X7_readRule (d + 3) 0 0 n post 24 [(0, .ref 49), (1, .ref 1), (2, .int (nI 1)), (3, .int (nI (k + 1)))] [] (mov (txC tl s) h) n 0 := by
    intro m
    induction m with
    | zero => exact fun k s hk hs hp => step 0 k s hk hs (fun q => absurd q (by omega)) hp
    | succ m ih => exact fun k s hk hs hp => step (m + 1) k s hk hs (fun _ s hs hp => ih (k + 1) s (by omega) hs hp) hp
  unfold kdRule at hp
  have hq0 : ((0, R) : KS).1 ≤ tl := Nat.zero_le _
  generalize ((0, R) : KS) = s0 at hp hq0 ⊢
  have hq1 := kdAtom_le (v := v) (t := t) (k := 0) hc6 hq0
  refine mw_aload_n (i := 0) rfl rfl rfl ?_
  refine mw_aload_n (i := 1) rfl rfl rfl ?_
  refine mw_iconst (v := nI 0) rfl (by decide) ?_
  refine mw_callV_f (c_readAtom d n 0 tl v t P s0 h ht hl hq0 hP hV hok (by omega)) rfl ok_X7_readAtom v_X7_37 rfl (by first | rfl | exact rfl | exact ht) (by intro e; cases e) rfl (Nat.le_of_ble_eq_true rfl) rfl (Nat.le_of_ble_eq_true rfl) (by omega) (by omega) (by omega) ?_
  refine mw_b_eq rfl (fun hA => ?_) (fun hA => ?_)
  · rw [if_neg (by rw [hA]; decide)] at hp
    refine mw_iconst (v := nI 0) rfl (by decide) ?_
    first | exact mw_ireturn rfl rfl (bI_nar _) rfl (Nat.le_refl _) (hp) | exact mw_ireturn rfl rfl rfl rfl (Nat.le_refl _) (hp)
  · rw [if_pos hA] at hp
    generalize (kdAtom v t tl 0 s0).2 = s1 at hp hq1 ⊢
    have hq2 := kdTake_le (t := t) (c := 60) (by omega) hq1
    refine mw_aload_n (i := 0) rfl rfl rfl ?_
    refine mw_bipush (v := nI 60) rfl (by decide) ?_
    refine mw_callV_f (c_take (d + 1) n 60 tl t s1 h ht hl hq1) rfl ok_X7_take v_X7_41 rfl (by first | rfl | exact rfl | exact ht) (by intro e; cases e) rfl (Nat.le_of_ble_eq_true rfl) rfl (Nat.le_of_ble_eq_true rfl) (by omega) (by omega) (by omega) ?_
    refine mw_b_ne rfl (fun h60 => ?_) (fun h60 => ?_)
    · rw [if_pos h60] at hp
      generalize (kdTake t tl 60 s1).2 = s2 at hp hq2 ⊢
      refine mw_iconst (v := nI 1) rfl (by decide) ?_
      refine mw_istore_n (i := 2) rfl rfl (Nat.le_of_ble_eq_true rfl) ?_
      refine mw_iconst (v := nI 1) rfl (by decide) ?_
      refine mw_istore_n (i := 3) rfl rfl (Nat.le_of_ble_eq_true rfl) ?_
      exact mw_locals rfl (loop 2 0 s2 rfl hq2 hp)
    · rw [if_neg (by rw [h60]; decide)] at hp
      refine mw_iconst (v := nI 0) rfl (by decide) ?_
      first | exact mw_ireturn rfl rfl (bI_nar _) rfl (Nat.le_refl _) (hp) | exact mw_ireturn rfl rfl rfl rfl (Nat.le_refl _) (hp)
/-- the terms of the atoms 0 .. k of a rule are terms -/
def RuB (R : RuS) (k : Nat) : Prop := ∀ a, a ≤ k → R.pr a < 6 ∧ R.fi a < 9 ∧ R.se a < 9
theorem toN_nI {j : Nat} (h : j < 4294967296) : toN (nI j) = j := by
  show (BitVec.ofNat 32 j).toNat = j
  rw [BitVec.toNat_ofNat]
  exact Nat.mod_eq_of_lt h
theorem tmV_lt {v : Nat → Nat} (h6 : v 0 ≤ 6) {x : Int32} (h : tmB v x = true) : toN (tmV x) < 9 := by
  rcases tmB_cases h6 h with ⟨j, hj, -, e⟩ | ⟨j, hj, -, e⟩
  · rw [e, toN_nI (by omega)]; omega
  · rw [e, toN_nI (by omega)]; omega
/-- what an atom's reading leaves: of the other atoms' terms nothing is changed -/
def RuE (R R' : RuS) (k : Nat) : Prop := (∀ a, a ≠ k → R'.pr a = R.pr a ∧ R'.fi a = R.fi a ∧ R'.se a = R.se a) ∧ R'.ng = R.ng ∧ R'.li = R.li
theorem RuE.rf (R : RuS) (k : Nat) : RuE R R k := ⟨fun _ _ => ⟨rfl, rfl, rfl⟩, rfl, rfl⟩
theorem RuE.tr {R R' R'' : RuS} {k : Nat} (h : RuE R R' k) (h' : RuE R' R'' k) : RuE R R'' k :=
  ⟨fun a ha => ⟨(h'.1 a ha).1.trans (h.1 a ha).1, (h'.1 a ha).2.1.trans (h.1 a ha).2.1, (h'.1 a ha).2.2.trans (h.1 a ha).2.2⟩, h'.2.1.trans h.2.1, h'.2.2.trans h.2.2⟩
theorem andK_E {a b : KS → Bool × KS} {k : Nat} (ha : ∀ s, RuE s.2 (a s).2.2 k) (hb : ∀ s, RuE s.2 (b s).2.2 k) (s : KS) : RuE s.2 (andK a b s).2.2 k := by
  unfold andK
  split
  · exact (ha s).tr (hb _)
  · exact ha s
theorem kdTake_E (t : Nat → Nat) (tl c k : Nat) (s : KS) : RuE s.2 (kdTake t tl c s).2.2 k := RuE.rf _ _
theorem kdFirst_E (v t : Nat → Nat) (tl k q : Nat) (s : KS) : RuE s.2 (kdFirst v t tl k q s).2.2 k := by
  unfold kdFirst
  split
  · exact ⟨fun a ha => ⟨updN_ne _ _ ha, updN_ne _ _ ha, updN_ne _ _ ha⟩, rfl, rfl⟩
  · exact RuE.rf _ _
theorem kdSecond_E (v t : Nat → Nat) (tl k : Nat) (s : KS) : RuE s.2 (kdSecond v t tl k s).2.2 k := by
  unfold kdSecond
  split
  · exact ⟨fun a ha => ⟨rfl, rfl, updN_ne _ _ ha⟩, rfl, rfl⟩
  · exact RuE.rf _ _
theorem kdAtom_E (v t : Nat → Nat) (tl k : Nat) (s : KS) : RuE s.2 (kdAtom v t tl k s).2.2 k := by
  unfold kdAtom
  split
  · refine andK_E (k := k) (fun s => kdTake_E t tl 40 k s) (fun s => andK_E (k := k) (fun s => kdFirst_E v t tl k _ s) (fun s => ?_) s) ((s.1 + 1, s.2) : KS)
    split
    · exact andK_E (k := k) (fun s => kdTake_E t tl 44 k s) (fun s => andK_E (k := k) (fun s => kdSecond_E v t tl k s) (fun s => kdTake_E t tl 41 k s) s) s
    · exact kdTake_E t tl 41 k s
  · exact RuE.rf _ _
/-- a read atom's terms are terms -/
theorem kdAtom_B {v t : Nat → Nat} {tl k : Nat} (h6 : v 0 ≤ 6) {s : KS} (h : (kdAtom v t tl k s).1 = true) : (kdAtom v t tl k s).2.2.pr k < 6 ∧ (kdAtom v t tl k s).2.2.fi k < 9 ∧ (kdAtom v t tl k s).2.2.se k < 9 := by
  unfold kdAtom at h ⊢
  by_cases hin : inI (hereV t tl s.1 - nI 112) 6 = true
  · rw [if_pos hin] at h ⊢
    obtain ⟨q, hq, e⟩ := inI_of hin (by omega)
    rw [e, nI_clamp (by omega)] at h ⊢
    generalize ((s.1 + 1, s.2) : KS) = s1 at h ⊢
    cases h40 : (kdTake t tl 40 s1).1
    · rw [andK_0 h40] at h; cases h
    · rw [andK_1 h40] at h ⊢
      generalize (kdTake t tl 40 s1).2 = s2 at h ⊢
      cases h1 : tmB v (hereV t tl s2.1)
      · have e1 : kdFirst v t tl k q s2 = (false, s2) := if_neg (by rw [h1]; decide)
        rw [andK_0 (by rw [e1])] at h; cases h
      · have e1 : kdFirst v t tl k q s2 = (true, s2.1 + 1, (updN s2.2.pr k q, updN s2.2.fi k (toN (tmV (hereV t tl s2.1))), updN s2.2.se k 0, s2.2.ng, s2.2.li, s2.2.pc)) := if_pos h1
        have b1 : (kdFirst v t tl k q s2).2.2.pr k < 6 := by rw [e1]; show updN _ _ _ _ < 6; rw [updN_same]; exact hq
        have b2 : (kdFirst v t tl k q s2).2.2.fi k < 9 := by rw [e1]; show updN _ _ _ _ < 9; rw [updN_same]; exact tmV_lt h6 h1
        have b3 : (kdFirst v t tl k q s2).2.2.se k < 9 := by rw [e1]; show updN _ _ _ _ < 9; rw [updN_same]; omega
        rw [andK_1 (by rw [e1])] at h ⊢
        generalize (kdFirst v t tl k q s2).2 = s3 at h b1 b2 b3 ⊢
        by_cases h2 : v (3 + q) = 2
        · rw [if_pos h2] at h ⊢
          cases h44 : (kdTake t tl 44 s3).1
          · rw [andK_0 h44] at h; cases h
          · rw [andK_1 h44] at h ⊢
            have e44 : (kdTake t tl 44 s3).2.2 = s3.2 := rfl
            rw [← e44] at b1 b2
            generalize (kdTake t tl 44 s3).2 = s4 at h b1 b2 ⊢
            cases h3 : tmB v (hereV t tl s4.1)
            · have e4 : kdSecond v t tl k s4 = (false, s4) := if_neg (by rw [h3]; decide)
              rw [andK_0 (by rw [e4])] at h; cases h
            · have e4 : kdSecond v t tl k s4 = (true, s4.1 + 1, (s4.2.pr, s4.2.fi, updN s4.2.se k (toN (tmV (hereV t tl s4.1))), s4.2.ng, s4.2.li, s4.2.pc)) := if_pos h3
              rw [andK_1 (by rw [e4]), e4]
              refine ⟨b1, b2, ?_⟩
              show updN _ _ _ _ < 9
              rw [updN_same]
              exact tmV_lt h6 h3
        · rw [if_neg h2]
          exact ⟨b1, b2, b3⟩
  · rw [if_neg hin] at h; cases h
