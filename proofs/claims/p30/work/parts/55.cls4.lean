/-! THE CLASS'S GROUNDING: strata, an instance -/
theorem PgAt.mv {h : Nat → MC} {P : PgS} {l : MLs} (hP : PgAt h 1 P) (hl : l.all (fun q => Nat.beq q.1 0 || Nat.ble 47 q.1) = true) : PgAt (mov l h) 1 P := hP.keep fun j h1 h2 => by
  cases e : mlk l j with
  | none => simp only [mov, e]
  | some c =>
    have h3 := List.all_eq_true.mp hl _ (mlk_mem e)
    rw [Bool.or_eq_true] at h3
    rcases h3 with h3 | h3
    · have : j = 0 := Nat.eq_of_beq_eq_true h3
      omega
    · have : 47 ≤ j := Nat.le_of_ble_eq_true h3
      omega
abbrev GO (sf : Bool) (rc : Nat) : MC := .inr (1, [.ref 57, .int (bI sf), .int (nI rc), .ref 58, .ref 59, .ref 60, .ref 61, .ref 62, .ref 63, .ref 64, .ref 65, .ref 66])
def dueV (v st : Nat → Nat) (r n : Nat) : Nat := itN (fun a x => if x < st (v (45 + 18 * r + 2 + 4 * (a + 1))) + v (45 + 18 * r + 2 + 4 * (a + 1) + 3) then st (v (45 + 18 * r + 2 + 4 * (a + 1))) + v (45 + 18 * r + 2 + 4 * (a + 1) + 3) else x) 0 n
def raV (v : Nat → Nat) (r : Nat) (st : Nat → Nat) : (Nat → Nat) × Bool := if dueV v st r (v (45 + 18 * r + 1)) ≤ st (v (45 + 18 * r + 2 + 4 * 0)) then (st, false) else (updN st (v (45 + 18 * r + 2 + 4 * 0)) (dueV v st r (v (45 + 18 * r + 1))), true)
theorem dueV_le {v st : Nat → Nat} {r c : Nat} (hok : OkN v) (hr : r < v 2) (hst : ∀ p, p < 6 → st p ≤ c) : ∀ n, n ≤ v (45 + 18 * r + 1) → dueV v st r n ≤ c + 1
  | 0, _ => Nat.zero_le _
  | n + 1, hn => by
    have ih := dueV_le hok hr hst n (by omega)
    obtain ⟨h1, -, -, h4⟩ := (hok.2.2.2.2.2.2 r hr).2.2.2.2 (n + 1) hn
    have h2 := hst _ h1
    show (if dueV v st r n < _ then _ else dueV v st r n) ≤ c + 1
    split
    · show st (v (45 + 18 * r + 2 + 4 * (n + 1))) + v (45 + 18 * r + 2 + 4 * (n + 1) + 3) ≤ c + 1
      omega
    · exact ih
theorem raV_le {v st : Nat → Nat} {r c : Nat} (hok : OkN v) (hr : r < v 2) (hst : ∀ p, p < 6 → st p ≤ c) : ∀ p, p < 6 → (raV v r st).1 p ≤ c + 1 := by
  intro p hp
  unfold raV
  split
  · exact Nat.le_trans (hst p hp) (Nat.le_succ c)
  · show updN st _ _ p ≤ c + 1
    unfold updN
    split
    · exact dueV_le hok hr hst _ (Nat.le_refl _)
    · exact Nat.le_trans (hst p hp) (Nat.le_succ c)
theorem raV_same {v st : Nat → Nat} {r : Nat} (h : (raV v r st).2 = false) : (raV v r st).1 = st := by
  unfold raV at h ⊢
  split
  · rfl
  · rename_i q
    rw [if_neg q] at h
    cases h
theorem if_nI {a b : Nat} (ha : a < 2147483648) (hb : b < 2147483648) : (if nI a < nI b then nI b else nI a) = nI (if a < b then b else a) := by
  by_cases h : a < b
  · rw [if_pos h, if_pos ((nI_ltI ha hb).mpr h)]
  · rw [if_neg h, if_neg (fun q => h ((nI_ltI ha hb).mp q))]
theorem c_raiseHead (d n r : Nat) (sf : Bool) (rc : Nat) (R : RuS) (v st : Nat → Nat) (h : Nat → MC) (h56 : h 56 = GO sf rc) (h57 : h 57 = .inl (.int, 6, .inl (vI st))) (hR : RuAt h (7 + 5 * r) R) (hV : RuV R v r) (hok : OkN v) (hr : r < v 2) (hst : ∀ p, p < 6 → st p ≤ 1000) : Fn M_X1_raiseHead (d + 1) 0 0 [.ref 56, .ref (7 + 5 * r)] h n (some (.int (bI (raV v r st).2))) (hset h 57 (.inl (.int, 6, .inl (vI (raV v r st).1)))) := by
  refine Fn.of fun post hp => ?_
  obtain ⟨-, -, hl1, hl3, hat⟩ := hok.2.2.2.2.2.2 r hr
  obtain ⟨e1, e2, ea⟩ := hV
  have hD := dueV_le hok hr hst
  refine mw_iconst (v := nI 0) rfl (by decide) ?_
  refine mw_istore_n (i := 2) rfl rfl (Nat.le_of_ble_eq_true rfl) ?_
  refine mw_iconst (v := nI 1) rfl (by decide) ?_
  refine mw_istore_n (i := 3) rfl rfl (Nat.le_of_ble_eq_true rfl) ?_
  have loop : ∀ j, j ≤ R.li → MW M_X1_raiseHead (d + 1) 0 0 n post 4 [(0, .ref 56), (1, .ref (7 + 5 * r)), (2, .int (nI (dueV v st r j))), (3, .int (nI (j + 1)))] [] h n 0 := by
    refine loop_up R.li ?_ ?_
    · have h6 := (hat 0 (by omega)).1
      have hs6 := hst _ h6
      have hd := hD R.li (by omega)
      have f0 : vI R.pr 0 = nI (v (45 + 18 * r + 2 + 4 * 0)) := congrArg nI (ea 0 (by omega)).1
      refine mw_iload_n (i := 3) rfl rfl rfl ?_
      refine mw_aload_n (i := 1) rfl rfl rfl ?_
      refine mw_getfield rfl f_X1_64 (by first | rfl | exact h56 | exact h57 | exact hR.1 | exact hR.2.1 | exact hR.2.2.2.2) rfl ?_
      refine mw_n_gt rfl (by omega) (by omega) (fun hc => ?_) (fun hc => ?_)
      · refine mw_aload_n (i := 0) rfl rfl rfl ?_
        refine mw_getfield rfl f_X1_9 (by first | rfl | exact h56 | exact h57 | exact hR.1 | exact hR.2.1 | exact hR.2.2.2.2) rfl ?_
        refine mw_aload_n (i := 1) rfl rfl rfl ?_
        refine mw_getfield rfl f_X1_57 (by first | rfl | exact h56 | exact h57 | exact hR.1 | exact hR.2.1 | exact hR.2.2.2.2) rfl ?_
        refine mw_iconst (v := nI 0) rfl (by decide) ?_
        refine mw_iald_v rfl (by first | rfl | exact h56 | exact h57 | exact hR.1 | exact hR.2.1 | exact hR.2.2.2.2) (by omega) (by omega) f0 ?_
        refine mw_iald rfl (by first | rfl | exact h56 | exact h57 | exact hR.1 | exact hR.2.1 | exact hR.2.2.2.2) (by omega) (by omega) ?_
        refine mw_iload_n (i := 2) rfl rfl rfl ?_
        unfold raV at hp
        rw [e2] at hd ⊢
        show MW _ _ _ _ _ _ _ _ (.int (nI (dueV v st r (v (45 + 18 * r + 1)))) :: .int (nI (st (v (45 + 18 * r + 2 + 4 * 0)))) :: []) _ _ _
        refine mw_n_lt rfl (by omega) (by omega) (fun hc => ?_) (fun hc => ?_)
        · rw [if_neg (by omega)] at hp
          refine mw_aload_n (i := 0) rfl rfl rfl ?_
          refine mw_getfield rfl f_X1_9 (by first | rfl | exact h56 | exact h57 | exact hR.1 | exact hR.2.1 | exact hR.2.2.2.2) rfl ?_
          refine mw_aload_n (i := 1) rfl rfl rfl ?_
          refine mw_getfield rfl f_X1_57 (by first | rfl | exact h56 | exact h57 | exact hR.1 | exact hR.2.1 | exact hR.2.2.2.2) rfl ?_
          refine mw_iconst (v := nI 0) rfl (by decide) ?_
          refine mw_iald_v rfl (by first | rfl | exact h56 | exact h57 | exact hR.1 | exact hR.2.1 | exact hR.2.2.2.2) (by omega) (by omega) f0 ?_
          refine mw_iload_n (i := 2) rfl rfl rfl ?_
          refine mw_iast rfl (by first | rfl | exact h56 | exact h57 | exact hR.1 | exact hR.2.1 | exact hR.2.2.2.2) (by omega) (by omega) ?_
          first | rw [vI_upd] | rw [vI_updv] | skip
          refine mw_iconst (v := nI 1) rfl (by decide) ?_
          first | exact mw_ireturn rfl rfl (bI_nar _) rfl (Nat.le_refl _) (hp) | exact mw_ireturn rfl rfl rfl rfl (Nat.le_refl _) (hp)
        · rw [if_pos (by omega), hset_id h57] at hp
          refine mw_iconst (v := nI 0) rfl (by decide) ?_
          first | exact mw_ireturn rfl rfl (bI_nar _) rfl (Nat.le_refl _) (hp) | exact mw_ireturn rfl rfl rfl rfl (Nat.le_refl _) (hp)
      · omega
    · intro j hj ih
      obtain ⟨h6, -, -, h01⟩ := hat (j + 1) (by omega)
      have hs6 := hst _ h6
      have hd := hD j (by omega)
      have fj : vI R.pr (j + 1) = nI (v (45 + 18 * r + 2 + 4 * (j + 1))) := congrArg nI (ea (j + 1) (by omega)).1
      have gj : bIf R.ng (j + 1) = bI (decide (v (45 + 18 * r + 2 + 4 * (j + 1) + 3) ≠ 0)) := congrArg bI ((ea (j + 1) (by omega)).2.2.2 (by omega))
      have more : MW M_X1_raiseHead (d + 1) 0 0 n post 38 [(0, .ref 56), (1, .ref (7 + 5 * r)), (2, .int (nI (dueV v st r j))), (3, .int (nI (j + 1)))] [.int (nI (v (45 + 18 * r + 2 + 4 * (j + 1) + 3))), .int (nI (st (v (45 + 18 * r + 2 + 4 * (j + 1))))), .int (nI (dueV v st r j))] h n 0 := by
        first | refine mw_nadd rfl ?_ | refine mw_iadd rfl ?_
        refine mw_mmax rfl v_X1_92 (by omega) (Nat.le_of_ble_eq_true rfl) (by omega) (by omega) ?_
        rw [if_nI (by omega) (by omega)]
        refine mw_istore_n (i := 2) rfl rfl (Nat.le_of_ble_eq_true rfl) ?_
        first | refine mw_ninc rfl rfl (Nat.le_of_ble_eq_true rfl) ?_ | refine mw_iinc rfl rfl rfl (Nat.le_of_ble_eq_true rfl) ?_
        refine mw_goto rfl ?_
        exact mw_locals rfl ih
      refine mw_iload_n (i := 3) rfl rfl rfl ?_
      refine mw_aload_n (i := 1) rfl rfl rfl ?_
      refine mw_getfield rfl f_X1_64 (by first | rfl | exact h56 | exact h57 | exact hR.1 | exact hR.2.1 | exact hR.2.2.2.2) rfl ?_
      refine mw_n_gt rfl (by omega) (by omega) (fun hc => ?_) (fun hc => ?_)
      · omega
      · refine mw_iload_n (i := 2) rfl rfl rfl ?_
        refine mw_aload_n (i := 0) rfl rfl rfl ?_
        refine mw_getfield rfl f_X1_9 (by first | rfl | exact h56 | exact h57 | exact hR.1 | exact hR.2.1 | exact hR.2.2.2.2) rfl ?_
        refine mw_aload_n (i := 1) rfl rfl rfl ?_
        refine mw_getfield rfl f_X1_57 (by first | rfl | exact h56 | exact h57 | exact hR.1 | exact hR.2.1 | exact hR.2.2.2.2) rfl ?_
        refine mw_iload_n (i := 3) rfl rfl rfl ?_
        refine mw_iald_v rfl (by first | rfl | exact h56 | exact h57 | exact hR.1 | exact hR.2.1 | exact hR.2.2.2.2) (by omega) (by omega) fj ?_
        refine mw_iald rfl (by first | rfl | exact h56 | exact h57 | exact hR.1 | exact hR.2.1 | exact hR.2.2.2.2) (by omega) (by omega) ?_
        refine mw_aload_n (i := 1) rfl rfl rfl ?_
        refine mw_getfield rfl f_X1_67 (by first | rfl | exact h56 | exact h57 | exact hR.1 | exact hR.2.1 | exact hR.2.2.2.2) rfl ?_
        refine mw_iload_n (i := 3) rfl rfl rfl ?_
        refine mw_zald_v rfl (by first | rfl | exact h56 | exact h57 | exact hR.1 | exact hR.2.1 | exact hR.2.2.2.2) (by omega) (by omega) gj ?_
        refine mw_b_eq rfl (fun hb => ?_) (fun hb => ?_)
        · have : v (45 + 18 * r + 2 + 4 * (j + 1) + 3) = 0 := by simpa using hb
          rw [this] at more
          refine mw_iconst (v := nI 0) rfl (by decide) ?_
          exact mw_locals rfl more
        · have : v (45 + 18 * r + 2 + 4 * (j + 1) + 3) = 1 := by have := of_decide_eq_true hb; omega
          rw [this] at more
          refine mw_iconst (v := nI 1) rfl (by decide) ?_
          refine mw_goto rfl ?_
          exact mw_locals rfl more
  exact mw_locals rfl (loop 0 (Nat.zero_le _))
/-- a pass of the class over the rules: (strata, has it changed anything) -/
def gsR (v : Nat → Nat) (r : Nat) (S : (Nat → Nat) × Bool) : (Nat → Nat) × Bool := ((raV v r S.1).1, S.2 || (raV v r S.1).2)
def gsP (v : Nat → Nat) (st : Nat → Nat) : (Nat → Nat) × Bool := itN (gsR v) (st, false) (v 2)
def gsW (v : Nat → Nat) (S : (Nat → Nat) × Bool) : (Nat → Nat) × Bool := if S.2 then gsP v S.1 else S
def grF (v : Nat → Nat) : (Nat → Nat) × Bool := itN (fun _ => gsW v) (fun _ => 0, true) 7
theorem gsR_le {v : Nat → Nat} (hok : OkN v) {c : Nat} {S : (Nat → Nat) × Bool} (h : ∀ p, p < 6 → S.1 p ≤ c) : ∀ r, r ≤ v 2 → ∀ p, p < 6 → (itN (gsR v) S r).1 p ≤ c + r
  | 0, _ => h
  | r + 1, hr => raV_le hok (by omega) (gsR_le hok h r (by omega))
theorem gsW_le {v : Nat → Nat} (hok : OkN v) : ∀ k, ∀ p, p < 6 → (itN (fun _ => gsW v) (fun _ => 0, true) k).1 p ≤ 8 * k
  | 0, p, hp => Nat.zero_le _
  | k + 1, p, hp => by
    have ih := gsW_le hok k
    have h8 := hok.2.2.2.1
    show (gsW v (itN (fun _ => gsW v) (fun _ => 0, true) k)).1 p ≤ _
    generalize itN (fun _ => gsW v) (fun _ => 0, true) k = S at ih ⊢
    unfold gsW
    split
    · have := gsR_le hok (S := (S.1, false)) ih (v 2) (Nat.le_refl _) p hp
      unfold gsP
      omega
    · have := ih p hp
      omega
theorem or_bI (a b : Bool) : bI a ||| bI b = bI (a || b) := by cases a <;> cases b <;> rfl
set_option maxRecDepth 20000 in
theorem c_kfindStrata (d n : Nat) (sf : Bool) (rc : Nat) (P : PgS) (v st0 : Nat → Nat) (h : Nat → MC) (h56 : h 56 = GO sf rc) (h57 : h 57 = .inl (.int, 6, .inl (vI st0))) (hP : PgAt h 1 P) (hV : PgV P v) (hok : OkN v) : Fn M_X1_findStrata (d + 2) 0 0 [.ref 56, .ref 1] h n none (mov [(57, .inl (.int, 6, .inl (vI (grF v).1))), (56, GO (!(grF v).2) rc)] h) := by
  refine Fn.of fun post hp => ?_
  have hP0 : h 1 = _ := hP.cell (i := 0) (by omega)
  have hP5 : h 6 = .inl (.object RX6, 8, .inr (.inr (.inr (.inr (plf 1))))) := hP.cell (i := 5) (by omega)
  obtain ⟨vc, vpl, vfc, vfa, vrc, vru⟩ := hV
  have h8 := hok.2.2.2.1
  refine mw_over [(57, .inl (.int, 6, .inl (vI st0))), (56, GO sf rc)] (mov_self (by simp [h56, h57])) ?_
  refine mw_aload_n (i := 0) rfl rfl rfl ?_
  refine mw_getfield rfl f_X1_9 (by first | rfl | exact rfl | exact hP0 | exact hP5) rfl ?_
  refine mw_iconst (v := nI 0) rfl (by decide) ?_
  refine mw_callS_f (c_fill (d + 1) n 57 6 (vI st0) (nI 0) _ rfl (by omega)) rfl ok_J7_fill_53178 v_X1_78 rfl (Nat.le_of_ble_eq_true rfl) rfl (Nat.le_of_ble_eq_true rfl) (by omega) (by omega) (by omega) ?_
  refine mw_tail (vI (fun _ => 0)) (hset_same _ _ _) (fun j hj => by unfold flr; rw [if_pos hj]; rfl) ?_
  rw [hset_hset, hset_mov]
  refine mw_iconst (v := nI 1) rfl (by decide) ?_
  refine mw_istore_n (i := 2) rfl rfl (Nat.le_of_ble_eq_true rfl) ?_
  refine mw_iconst (v := nI 0) rfl (by decide) ?_
  refine mw_istore_n (i := 3) rfl rfl (Nat.le_of_ble_eq_true rfl) ?_
  have fin : ∀ b : Bool, b = (grF v).2 → ∀ i : Nat, MW M_X1_findStrata (d + 2) 0 0 n post 64 [(0, .ref 56), (2, .int (bI b)), (3, .int (nI i))] [] (mov [(57, .inl (.int, 6, .inl (vI (grF v).1))), (56, GO sf rc)] h) n 0 := by
    intro b hb i
    rw [← hb] at hp
    refine mw_aload_n (i := 0) rfl rfl rfl ?_
    refine mw_iload_n (i := 2) rfl rfl rfl ?_
    refine mw_b_ne rfl (fun hz => ?_) (fun hz => ?_)
    · rw [hz] at hp
      refine mw_iconst (v := nI 0) rfl (by decide) ?_
      first | refine mw_putfield_m rfl f_X1_88 (by first | rfl | exact rfl | exact hP0 | exact hP5) (Nat.le_of_ble_eq_true rfl) (fun _ => bI_nar _) (fun _ => bI_fit _) ?_ | refine mw_putfield_m rfl f_X1_88 (by first | rfl | exact rfl | exact hP0 | exact hP5) (Nat.le_of_ble_eq_true rfl) (fun _ => rfl) (fun _ => rfl) ?_
      exact mw_return rfl rfl rfl (Nat.le_refl _) (hp)
    · rw [hz] at hp
      refine mw_iconst (v := nI 1) rfl (by decide) ?_
      refine mw_goto rfl ?_
      first | refine mw_putfield_m rfl f_X1_88 (by first | rfl | exact rfl | exact hP0 | exact hP5) (Nat.le_of_ble_eq_true rfl) (fun _ => bI_nar _) (fun _ => bI_fit _) ?_ | refine mw_putfield_m rfl f_X1_88 (by first | rfl | exact rfl | exact hP0 | exact hP5) (Nat.le_of_ble_eq_true rfl) (fun _ => rfl) (fun _ => rfl) ?_
      exact mw_return rfl rfl rfl (Nat.le_refl _) (hp)
  have loop : ∀ k, k ≤ 7 → MW M_X1_findStrata (d + 2) 0 0 n post 12 [(0, .ref 56), (1, .ref 1), (2, .int (bI (itN (fun _ => gsW v) (fun _ => 0, true) k).2)), (3, .int (nI k))] [] (mov [(57, .inl (.int, 6, .inl (vI (itN (fun _ => gsW v) (fun _ => 0, true) k).1))), (56, GO sf rc)] h) n 0 := by
    refine loop_up 7 ?_ ?_
    · refine mw_iload_n (i := 2) rfl rfl rfl ?_
      refine mw_b_eq rfl (fun hb => ?_) (fun hb => ?_)
      · exact mw_locals rfl (fin _ rfl 7)
      · refine mw_iload_n (i := 3) rfl rfl rfl ?_
        refine mw_bipush (v := nI 6) rfl (by decide) ?_
        refine mw_n_gt rfl (by omega) (by omega) (fun hc => ?_) (fun hc => ?_)
        · exact mw_locals rfl (fin _ rfl 7)
        · omega
    · intro k hk ih
      have hB := gsW_le hok k
      have e1 : itN (fun _ => gsW v) (fun _ => 0, true) (k + 1) = gsW v (itN (fun _ => gsW v) (fun _ => 0, true) k) := rfl
      rw [e1] at ih
      refine mw_iload_n (i := 2) rfl rfl rfl ?_
      refine mw_b_eq rfl (fun hb => ?_) (fun hb => ?_)
      · have es : itN (fun _ => gsW v) (fun _ => 0, true) 7 = itN (fun _ => gsW v) (fun _ => 0, true) k := itN_stay (f := gsW v) (by omega) (by
          generalize itN (fun _ => gsW v) (fun _ => 0, true) k = S at hb ⊢
          show gsW v S = S
          unfold gsW
          rw [if_neg (by rw [hb]; decide)])
        have ef : grF v = itN (fun _ => gsW v) (fun _ => 0, true) k := es
        rw [← ef] at hb ⊢
        exact mw_locals rfl (fin _ rfl k)
      · generalize itN (fun _ => gsW v) (fun _ => 0, true) k = S at hb ih hB ⊢
        have e2 : gsW v S = gsP v S.1 := if_pos hb
        rw [e2] at ih
        refine mw_iload_n (i := 3) rfl rfl rfl ?_
        refine mw_bipush (v := nI 6) rfl (by decide) ?_
        refine mw_n_gt rfl (by omega) (by omega) (fun hc => ?_) (fun hc => ?_)
        · omega
        · refine mw_iconst (v := nI 0) rfl (by decide) ?_
          refine mw_istore_n (i := 2) rfl rfl (Nat.le_of_ble_eq_true rfl) ?_
          refine mw_iconst (v := nI 0) rfl (by decide) ?_
          refine mw_istore rfl (Nat.le_of_ble_eq_true rfl) ?_
          have inner : ∀ r, r ≤ P.rc → MW M_X1_findStrata (d + 2) 0 0 n post 27 [(0, .ref 56), (1, .ref 1), (2, .int (bI (itN (gsR v) (S.1, false) r).2)), (3, .int (nI k)), (4, .int (nI r))] [] (mov [(57, .inl (.int, 6, .inl (vI (itN (gsR v) (S.1, false) r).1))), (56, GO sf rc)] h) n 0 := by
            refine loop_up P.rc ?_ ?_
            · refine mw_iload rfl rfl ?_
              refine mw_aload_n (i := 1) rfl rfl rfl ?_
              refine mw_getfield rfl f_X1_42 (by first | rfl | exact rfl | exact hP0 | exact hP5) rfl ?_
              refine mw_n_ge rfl (by omega) (by omega) (fun hc => ?_) (fun hc => ?_)
              · first | refine mw_ninc rfl rfl (Nat.le_of_ble_eq_true rfl) ?_ | refine mw_iinc rfl rfl rfl (Nat.le_of_ble_eq_true rfl) ?_
                refine mw_goto rfl ?_
                refine mw_locals ?_ (mw_heap ?_ ih)
                · rw [vrc]; rfl
                · rw [vrc]; rfl
              · omega
            · intro r hr ihr
              have hr2 : r < v 2 := by rw [← vrc]; exact hr
              have hRr : RuAt (mov [(57, .inl (.int, 6, .inl (vI (itN (gsR v) (S.1, false) r).1))), (56, GO sf rc)] h) (7 + 5 * r) (P.ru r) := (hP.mv rfl).rule (show r < 8 by omega)
              have hrb : ∀ p, p < 6 → (itN (gsR v) (S.1, false) r).1 p ≤ 1000 := fun p hp => by
                have := gsR_le hok (S := (S.1, false)) hB r (by omega) p hp
                omega
              refine mw_iload rfl rfl ?_
              refine mw_aload_n (i := 1) rfl rfl rfl ?_
              refine mw_getfield rfl f_X1_42 (by first | rfl | exact rfl | exact hP0 | exact hP5) rfl ?_
              refine mw_n_ge rfl (by omega) (by omega) (fun hc => ?_) (fun hc => ?_)
              · omega
              · refine mw_aload_n (i := 0) rfl rfl rfl ?_
                refine mw_aload_n (i := 1) rfl rfl rfl ?_
                refine mw_getfield rfl f_X1_53 (by first | rfl | exact rfl | exact hP0 | exact hP5) rfl ?_
                refine mw_iload rfl rfl ?_
                refine mw_aald (ti := 5) rfl hP5 rfl (by omega) (by omega) (plf_at (b := 1) (by omega)) ?_
                refine mw_callV_f (c_raiseHead d n r sf rc (P.ru r) v (itN (gsR v) (S.1, false) r).1 _ rfl rfl hRr (vru r hr2) hok hr2 hrb) rfl ok_X1_raiseHead v_X1_84 rfl (by first | rfl | exact rfl | exact hP0 | exact hP5) (by intro e; cases e) rfl (Nat.le_of_ble_eq_true rfl) rfl (Nat.le_of_ble_eq_true rfl) (by omega) (by omega) (by omega) ?_
                rw [hset_mov]
                refine mw_b_eq rfl (fun hfl => ?_) (fun hfl => ?_)
                · have eF : (itN (gsR v) (S.1, false) (r + 1)).2 = (itN (gsR v) (S.1, false) r).2 := by
                    show (_ || _) = _
                    rw [hfl, Bool.or_false]
                  rw [eF] at ihr
                  first | refine mw_ninc rfl rfl (Nat.le_of_ble_eq_true rfl) ?_ | refine mw_iinc rfl rfl rfl (Nat.le_of_ble_eq_true rfl) ?_
                  refine mw_goto rfl ?_
                  exact mw_locals rfl (mw_heap rfl ihr)
                · have eF : (itN (gsR v) (S.1, false) (r + 1)).2 = true := by
                    show (_ || _) = _
                    rw [hfl, Bool.or_true]
                  rw [eF] at ihr
                  refine mw_iconst (v := nI 1) rfl (by decide) ?_
                  refine mw_istore_n (i := 2) rfl rfl (Nat.le_of_ble_eq_true rfl) ?_
                  first | refine mw_ninc rfl rfl (Nat.le_of_ble_eq_true rfl) ?_ | refine mw_iinc rfl rfl rfl (Nat.le_of_ble_eq_true rfl) ?_
                  refine mw_goto rfl ?_
                  exact mw_locals rfl (mw_heap rfl ihr)
          exact mw_locals rfl (inner 0 (Nat.zero_le _))
  exact mw_locals rfl (loop 0 (Nat.zero_le _))
