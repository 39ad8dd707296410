/-! THE CLASS'S HOLDING INSTANCES -/
/-- (next instance, how many hold, which, of which head how many) -/
abbrev KhS : Type := Nat × Nat × (Nat → Nat) × (Nat → Nat)
def khF (v : Nat → Nat) (m : Nat → Int32) (r c : Nat) (S : KhS) : KhS :=
  if holdsR v (bnd c) m r = true then (S.1 + 1, S.2.1 + 1, updN S.2.2.1 S.2.1 S.1, updN S.2.2.2 (fA v (bnd c) r 0) (S.2.2.2 (fA v (bnd c) r 0) + 1)) else (S.1 + 1, S.2)
def khB (v : Nat → Nat) (m : Nat → Int32) (r c : Nat) (S : KhS) : KhS := if bOk v r c = true then khF v m r c S else S
def khI (v : Nat → Nat) (m : Nat → Int32) (hs0 : Nat → Nat) (i : Nat) : KhS := itN (fun i => khF v m ((enF v (v 2)).2.1 i) ((enF v (v 2)).2.2 i)) (0, 0, hs0, fun _ => 0) i
theorem khI_1 (v : Nat → Nat) (m : Nat → Int32) (hs0 : Nat → Nat) : ∀ i, (khI v m hs0 i).1 = i ∧ (khI v m hs0 i).2.1 ≤ i
  | 0 => ⟨rfl, Nat.le_refl _⟩
  | i + 1 => by
    obtain ⟨h1, h2⟩ := khI_1 v m hs0 i
    show (khF v m _ _ (khI v m hs0 i)).1 = i + 1 ∧ (khF v m _ _ (khI v m hs0 i)).2.1 ≤ i + 1
    unfold khF
    split
    · exact ⟨congrArg (· + 1) h1, Nat.succ_le_succ h2⟩
    · exact ⟨congrArg (· + 1) h1, Nat.le_succ_of_le h2⟩
theorem hbL_final {v b : Nat → Nat} (hok : OkN v) {m : Nat → Int32} {R : Nat} (hm : MR m R) (hR : R ≤ 216) {r : Nat} (hr : r < v 2) : andN (hbL v b m (nI (R + 1)) r) (v (45 + 18 * r + 1)) = holdsR v b m r := by
  unfold holdsR
  refine andN_cg fun a ha => ?_
  unfold hbL hLit
  generalize fA v b r (a + 1) = f
  by_cases q : v (45 + 18 * r + 2 + 4 * (a + 1) + 3) = 0
  · rw [if_pos q, decide_eq_true q]
    rcases hm f with e | ⟨k, h1, e⟩
    · rw [e, decide_eq_true (show (-1 : Int32) = -1 from rfl), decide_eq_false (show ¬ (0 : Int32) ≤ -1 by decide)]; rfl
    · rw [e, decide_eq_true (nI_pos' (by omega)), decide_eq_true ((nI_ltI (by omega) (by omega)).mpr (show k < R + 1 by omega)), decide_eq_false (nI_nm1 (by omega))]
      rfl
  · rw [if_neg q, decide_eq_false q]
    rcases hm f with e | ⟨k, h1, e⟩
    · rw [e]; decide
    · rw [e, decide_eq_true (nI_pos' (by omega)), decide_eq_false (nI_nm1 (by omega))]
      rfl
abbrev hdL (T : KhS) : MLs := [(69, .inr (2, [.ref 70, .int (nI T.2.1), .ref 71])), (70, .inl (.int, 1728, .inl (vI T.2.2.1))), (71, .inl (.int, 216, .inl (vI T.2.2.2)))]
set_option maxRecDepth 20000 in
theorem c_collect (d n R ta : Nat) (v : Nat → Nat) (m : Nat → Int32) (g : GD) (T0 : KhS) (h : Nat → MC) (hg : GrAt h g) (hG : GrOk v g) (hMO : h 67 = MO 68 R ta) (hM : h 68 = .inl (.int, 216, .inl m)) (hok : OkN v) (hm : MR m R) (hR : R ≤ 216) : Fn M_X2_collect (d + 1) 0 0 [.ref 69, .ref 56, .ref 67] (mov (hdL T0) h) n none (mov (hdL (khI v m T0.2.2.1 (enF v (v 2)).1)) h) := by
  refine Fn.of fun post hp => ?_
  have hG0 := hG
  obtain ⟨-, -, grc, hJ, hsr, hI, -⟩ := hG
  have h8 := hok.2.2.2.1
  have hN := en_1728 hok (Nat.le_refl (v 2))
  have s1 : vI g.sr (v 2) = nI (enF v (v 2)).1 := congrArg nI (hsr (v 2) (Nat.le_refl _))
  refine mw_aload_n (i := 0) rfl rfl rfl ?_
  refine mw_iconst (v := nI 0) rfl (by decide) ?_
  refine mw_putfield_m rfl f_X2_18 (by first | rfl | exact rfl | exact hg.1 | exact hg.2.2.2.2.2.2.1 | exact hg.2.2.2.2.2.2.2.2.1 | exact hMO) (Nat.le_of_ble_eq_true rfl) (fun _ => rfl) (fun _ => rfl) ?_
  refine mw_aload_n (i := 0) rfl rfl rfl ?_
  refine mw_getfield rfl f_X2_15 (by first | rfl | exact rfl | exact hg.1 | exact hg.2.2.2.2.2.2.1 | exact hg.2.2.2.2.2.2.2.2.1 | exact hMO) rfl ?_
  refine mw_iconst (v := nI 0) rfl (by decide) ?_
  refine mw_callS_f (c_fill d n 71 216 (vI T0.2.2.2) (nI 0) _ rfl (by omega)) rfl ok_J7_fill_53178 v_X2_22 rfl (Nat.le_of_ble_eq_true rfl) rfl (Nat.le_of_ble_eq_true rfl) (by omega) (by omega) (by omega) ?_
  refine mw_tail (vI (fun _ => 0)) (hset_same _ _ _) (fun j hj => by unfold flr; rw [if_pos hj]; rfl) ?_
  rw [hset_hset, hset_mov]
  refine mw_iconst (v := nI 0) rfl (by decide) ?_
  refine mw_istore_n (i := 3) rfl rfl (Nat.le_of_ble_eq_true rfl) ?_
  have loop : ∀ i, i ≤ (enF v (v 2)).1 → MW M_X2_collect (d + 1) 0 0 n post 15 [(0, .ref 69), (1, .ref 56), (2, .ref 67), (3, .int (nI i))] [] (mov (hdL (khI v m T0.2.2.1 i)) h) n 0 := by
    refine loop_up (enF v (v 2)).1 ?_ ?_
    · refine mw_iload_n (i := 3) rfl rfl rfl ?_
      refine mw_aload_n (i := 1) rfl rfl rfl ?_
      refine mw_getfield rfl f_X2_28 (by first | rfl | exact rfl | exact hg.1 | exact hg.2.2.2.2.2.2.1 | exact hg.2.2.2.2.2.2.2.2.1 | exact hMO) rfl ?_
      refine mw_aload_n (i := 1) rfl rfl rfl ?_
      refine mw_getfield rfl f_X2_33 (by first | rfl | exact rfl | exact hg.1 | exact hg.2.2.2.2.2.2.1 | exact hg.2.2.2.2.2.2.2.2.1 | exact hMO) rfl ?_
      rw [grc]
      refine mw_iald_v rfl (by first | rfl | exact rfl | exact hg.1 | exact hg.2.2.2.2.2.2.1 | exact hg.2.2.2.2.2.2.2.2.1 | exact hMO) (by omega) (by omega) s1 ?_
      refine mw_n_ge rfl (by omega) (by omega) (fun hc => ?_) (fun hc => ?_)
      · exact mw_return rfl rfl rfl (Nat.le_refl _) (hp)
      · omega
    · intro i hi ih
      obtain ⟨hr', hc', eru, ehd, -⟩ := hI i hi
      have ehdI : vI g.hd i = nI (fA v (bnd ((enF v (v 2)).2.2 i)) ((enF v (v 2)).2.1 i) 0) := congrArg nI ehd
      have hf : fA v (bnd ((enF v (v 2)).2.2 i)) ((enF v (v 2)).2.1 i) 0 < 216 := fA_lt hok (fun x hx => bndU_lt (fun _ => 0) hc' hx) hr' (Nat.zero_le _)
      obtain ⟨k1, k2⟩ := khI_1 v m T0.2.2.1 i
      have eS : khI v m T0.2.2.1 (i + 1) = khF v m ((enF v (v 2)).2.1 i) ((enF v (v 2)).2.2 i) (khI v m T0.2.2.1 i) := rfl
      rw [eS] at ih
      generalize khI v m T0.2.2.1 i = S at k1 k2 ih ⊢
      unfold khF at ih
      refine mw_iload_n (i := 3) rfl rfl rfl ?_
      refine mw_aload_n (i := 1) rfl rfl rfl ?_
      refine mw_getfield rfl f_X2_28 (by first | rfl | exact rfl | exact hg.1 | exact hg.2.2.2.2.2.2.1 | exact hg.2.2.2.2.2.2.2.2.1 | exact hMO) rfl ?_
      refine mw_aload_n (i := 1) rfl rfl rfl ?_
      refine mw_getfield rfl f_X2_33 (by first | rfl | exact rfl | exact hg.1 | exact hg.2.2.2.2.2.2.1 | exact hg.2.2.2.2.2.2.2.2.1 | exact hMO) rfl ?_
      rw [grc]
      refine mw_iald_v rfl (by first | rfl | exact rfl | exact hg.1 | exact hg.2.2.2.2.2.2.1 | exact hg.2.2.2.2.2.2.2.2.1 | exact hMO) (by omega) (by omega) s1 ?_
      refine mw_n_ge rfl (by omega) (by omega) (fun hc => ?_) (fun hc => ?_)
      · omega
      · refine mw_aload_n (i := 2) rfl rfl rfl ?_
        refine mw_aload_n (i := 1) rfl rfl rfl ?_
        refine mw_iload_n (i := 3) rfl rfl rfl ?_
        refine mw_aload_n (i := 2) rfl rfl rfl ?_
        refine mw_getfield rfl f_X2_36 (by first | rfl | exact rfl | exact hg.1 | exact hg.2.2.2.2.2.2.1 | exact hg.2.2.2.2.2.2.2.2.1 | exact hMO) rfl ?_
        refine mw_iconst (v := nI 1) rfl (by decide) ?_
        first | refine mw_nadd rfl ?_ | refine mw_iadd rfl ?_
        refine mw_callV_f (c_holdsBeforeA d n i R ta (R + 1) v m g _ hg hG0 hMO hM hok hi) rfl ok_X4_holdsBefore v_X2_41 rfl (by first | rfl | exact rfl | exact hg.1 | exact hg.2.2.2.2.2.2.1 | exact hg.2.2.2.2.2.2.2.2.1 | exact hMO) (by intro e; cases e) rfl (Nat.le_of_ble_eq_true rfl) rfl (Nat.le_of_ble_eq_true rfl) (by omega) (by omega) (by omega) ?_
        rw [hbL_final hok hm hR hr']
        refine mw_b_eq rfl (fun hb => ?_) (fun hb => ?_)
        · rw [if_neg (by rw [hb]; decide)] at ih
          first | refine mw_ninc rfl rfl (Nat.le_of_ble_eq_true rfl) ?_ | refine mw_iinc rfl rfl rfl (Nat.le_of_ble_eq_true rfl) ?_
          refine mw_goto rfl ?_
          exact mw_locals rfl ih
        · rw [if_pos hb, k1] at ih
          refine mw_aload_n (i := 0) rfl rfl rfl ?_
          refine mw_getfield rfl f_X2_9 (by first | rfl | exact rfl | exact hg.1 | exact hg.2.2.2.2.2.2.1 | exact hg.2.2.2.2.2.2.2.2.1 | exact hMO) rfl ?_
          refine mw_aload_n (i := 0) rfl rfl rfl ?_
          refine mw_getfield rfl f_X2_18 (by first | rfl | exact rfl | exact hg.1 | exact hg.2.2.2.2.2.2.1 | exact hg.2.2.2.2.2.2.2.2.1 | exact hMO) rfl ?_
          refine mw_iload_n (i := 3) rfl rfl rfl ?_
          refine mw_iast_m rfl (by first | rfl | exact rfl | exact hg.1 | exact hg.2.2.2.2.2.2.1 | exact hg.2.2.2.2.2.2.2.2.1 | exact hMO) (by omega) (by omega) ?_
          first | rw [vI_upd] | rw [vI_updv] | skip
          refine mw_aload_n (i := 0) rfl rfl rfl ?_
          refine mw_dup rfl rfl ?_
          refine mw_getfield rfl f_X2_18 (by first | rfl | exact rfl | exact hg.1 | exact hg.2.2.2.2.2.2.1 | exact hg.2.2.2.2.2.2.2.2.1 | exact hMO) rfl ?_
          refine mw_iconst (v := nI 1) rfl (by decide) ?_
          first | refine mw_nadd rfl ?_ | refine mw_iadd rfl ?_
          refine mw_putfield_m rfl f_X2_18 (by first | rfl | exact rfl | exact hg.1 | exact hg.2.2.2.2.2.2.1 | exact hg.2.2.2.2.2.2.2.2.1 | exact hMO) (Nat.le_of_ble_eq_true rfl) (fun _ => rfl) (fun _ => rfl) ?_
          refine mw_aload_n (i := 0) rfl rfl rfl ?_
          refine mw_getfield rfl f_X2_15 (by first | rfl | exact rfl | exact hg.1 | exact hg.2.2.2.2.2.2.1 | exact hg.2.2.2.2.2.2.2.2.1 | exact hMO) rfl ?_
          refine mw_aload_n (i := 1) rfl rfl rfl ?_
          refine mw_getfield rfl f_X2_45 (by first | rfl | exact rfl | exact hg.1 | exact hg.2.2.2.2.2.2.1 | exact hg.2.2.2.2.2.2.2.2.1 | exact hMO) rfl ?_
          refine mw_iload_n (i := 3) rfl rfl rfl ?_
          refine mw_iald_v rfl (by first | rfl | exact rfl | exact hg.1 | exact hg.2.2.2.2.2.2.1 | exact hg.2.2.2.2.2.2.2.2.1 | exact hMO) (by omega) (by omega) ehdI ?_
          refine mw_dup2 rfl rfl rfl ?_
          refine mw_iald rfl (by first | rfl | exact rfl | exact hg.1 | exact hg.2.2.2.2.2.2.1 | exact hg.2.2.2.2.2.2.2.2.1 | exact hMO) (by omega) (by omega) ?_
          refine mw_iconst (v := nI 1) rfl (by decide) ?_
          first | refine mw_nadd rfl ?_ | refine mw_iadd rfl ?_
          refine mw_iast_m rfl (by first | rfl | exact rfl | exact hg.1 | exact hg.2.2.2.2.2.2.1 | exact hg.2.2.2.2.2.2.2.2.1 | exact hMO) (by omega) (by omega) ?_
          first | rw [vI_upd] | rw [vI_updv] | skip
          first | refine mw_ninc rfl rfl (Nat.le_of_ble_eq_true rfl) ?_ | refine mw_iinc rfl rfl rfl (Nat.le_of_ble_eq_true rfl) ?_
          refine mw_goto rfl ?_
          exact mw_locals rfl (mw_heap rfl ih)
  exact mw_locals rfl (mw_heap rfl (loop 0 (Nat.zero_le _)))
/-- the class's rows of holding instances tell what the reference's tell -/
def HdOk (v : Nat → Nat) (S : HoS) (tot : Nat) (hs oh : Nat → Nat) : Prop := tot = S.1 ∧ (∀ j, j < S.1 → hs j < (enF v (v 2)).1 ∧ (enF v (v 2)).2.1 (hs j) = S.2.1 j ∧ fA v (bnd ((enF v (v 2)).2.2 (hs j))) (S.2.1 j) 0 = S.2.2.1 j ∧ ∀ a, a < 3 → S.2.2.2.1 (3 * j + a) = liA v (bnd ((enF v (v 2)).2.2 (hs j))) (S.2.1 j) (a + 1)) ∧ ∀ f, f < 216 → oh f = insN S f S.1
theorem liA_b {v b b' : Nat → Nat} (hok : OkN v) (e : ∀ x, x < 3 → b x = b' x) {r a : Nat} (hr : r < v 2) : liA v b r a = liA v b' r a := by
  unfold liA
  split
  · rename_i q
    unfold plA at q
    rw [Bool.and_eq_true] at q
    rw [fA_b hok e hr (of_decide_eq_true q.1)]
  · rfl
theorem liU_at (v b : Nat → Nat) (r c : Nat) (li : Nat → Int32) : (∀ a, a < 3 → itN (liU v b r c) li 3 (3 * c + a) = liA v b r (a + 1)) ∧ ∀ j, (j < 3 * c ∨ 3 * c + 3 ≤ j) → itN (liU v b r c) li 3 j = li j := by
  have e : itN (liU v b r c) li 3 = upd (upd (upd li (3 * c + 0) (liA v b r 1)) (3 * c + 1) (liA v b r 2)) (3 * c + 2) (liA v b r 3) := rfl
  rw [e]
  refine ⟨fun a ha => ?_, fun j hj => ?_⟩
  · match a, ha with
    | 0, _ => simp [upd]
    | 1, _ => simp [upd]
    | 2, _ => simp [upd]
  · have h0 : ¬ j = 3 * c + 0 := by omega
    have h1 : ¬ j = 3 * c + 1 := by omega
    have h2 : ¬ j = 3 * c + 2 := by omega
    simp only [upd, h0, h1, h2, if_false]
theorem insN_cg {S S' : HoS} {f : Nat} : ∀ n, (∀ k, k < n → S'.2.2.1 k = S.2.2.1 k) → insN S' f n = insN S f n
  | 0, _ => rfl
  | n + 1, h => by
    show insN S' f n + _ = insN S f n + _
    rw [insN_cg n (fun k hk => h k (by omega)), h n (by omega)]
/-- both sides under way -/
def HJ (v : Nat → Nat) (i : Nat) (T : KhS) (S : HoS) : Prop := T.1 = i ∧ HdOk v S T.2.1 T.2.2.1 T.2.2.2
theorem HJ_step {v : Nat → Nat} (hok : OkN v) {m : Nat → Int32} {r c : Nat} (hr : r < v 2) (hc : c < 216) {T : KhS} {S : HoS} (h : HJ v (itN (enC v r) (enF v r) c).1 T S) : HJ v (itN (enC v r) (enF v r) (c + 1)).1 (khB v m r c T) (hoC v m r c S) := by
  obtain ⟨e1, e2, e3, e4⟩ := h
  have heq : ∀ x, x < 3 → bndU S.2.2.2.2 c x = bnd c x := fun x hx => bndU_at _ c hx
  show HJ v (enC v r c (itN (enC v r) (enF v r) c)).1 (khB v m r c T) (hoC v m r c S)
  unfold khB khF hoC
  rw [holdsR_b hok heq hr]
  cases hbk : bOk v r c
  · have : (enC v r c (itN (enC v r) (enF v r) c)).1 = (itN (enC v r) (enF v r) c).1 := by
      unfold enC
      rw [if_neg (by rw [hbk]; decide)]
    rw [this, if_neg (by decide), Bool.false_and, if_neg (by decide)]
    exact ⟨e1, e2, e3, fun f hf => (e4 f hf).trans (insN_cg (S := S) (S' := (S.1, S.2.1, S.2.2.1, S.2.2.2.1, bndU S.2.2.2.2 c)) S.1 (fun _ _ => rfl)).symm⟩
  · obtain ⟨a1, a2, a3⟩ := en_at hr hc hbk
    have hmo := enF_mono (v := v) (k := r + 1) (v 2 - (r + 1))
    rw [show r + 1 + (v 2 - (r + 1)) = v 2 by omega] at hmo
    have : (enC v r c (itN (enC v r) (enF v r) c)).1 = (itN (enC v r) (enF v r) c).1 + 1 := by
      unfold enC
      rw [if_pos hbk]
    rw [this, if_pos rfl, Bool.true_and]
    generalize (itN (enC v r) (enF v r) c).1 = i at a1 a2 a3 e1 ⊢
    cases hh : holdsR v (bnd c) m r
    · rw [if_neg (by decide), if_neg (by decide)]
      exact ⟨congrArg (· + 1) e1, e2, e3, fun f hf => (e4 f hf).trans (insN_cg (S := S) (S' := (S.1, S.2.1, S.2.2.1, S.2.2.2.1, bndU S.2.2.2.2 c)) S.1 (fun _ _ => rfl)).symm⟩
    · rw [if_pos rfl, if_pos rfl]
      refine ⟨congrArg (· + 1) e1, congrArg (· + 1) e2, fun j hj => ?_, fun f hf => ?_⟩
      · obtain ⟨l1, l2⟩ := liU_at v (bndU S.2.2.2.2 c) r S.1 S.2.2.2.1
        show updN T.2.2.1 T.2.1 T.1 j < _ ∧ (enF v (v 2)).2.1 (updN T.2.2.1 T.2.1 T.1 j) = updN S.2.1 S.1 r j ∧ fA v (bnd ((enF v (v 2)).2.2 (updN T.2.2.1 T.2.1 T.1 j))) (updN S.2.1 S.1 r j) 0 = updN S.2.2.1 S.1 (fA v (bndU S.2.2.2.2 c) r 0) j ∧ ∀ a, a < 3 → itN (liU v (bndU S.2.2.2.2 c) r S.1) S.2.2.2.1 3 (3 * j + a) = liA v (bnd ((enF v (v 2)).2.2 (updN T.2.2.1 T.2.1 T.1 j))) (updN S.2.1 S.1 r j) (a + 1)
        rw [e2, e1]
        by_cases e : j = S.1
        · subst e
          rw [updN_same, updN_same, updN_same, a2, a3]
          exact ⟨by omega, rfl, (fA_b hok heq hr (Nat.zero_le _)).symm, fun a ha => (l1 a ha).trans (liA_b hok heq hr)⟩
        · rw [updN_ne _ _ e, updN_ne _ _ e, updN_ne _ _ e]
          have hj : j < S.1 + 1 := hj
          obtain ⟨g1, g2, g3, g4⟩ := e3 j (by omega)
          exact ⟨g1, g2, g3, fun a ha => (l2 (3 * j + a) (by omega)).trans (g4 a ha)⟩
      · show updN T.2.2.2 (fA v (bnd c) r 0) (T.2.2.2 (fA v (bnd c) r 0) + 1) f = insN (S.1 + 1, updN S.2.1 S.1 r, updN S.2.2.1 S.1 (fA v (bndU S.2.2.2.2 c) r 0), itN (liU v (bndU S.2.2.2.2 c) r S.1) S.2.2.2.1 3, bndU S.2.2.2.2 c) f S.1 + (if updN S.2.2.1 S.1 (fA v (bndU S.2.2.2.2 c) r 0) S.1 = f then 1 else 0)
        rw [insN_cg (S := S) S.1 (fun k hk => updN_ne _ _ (by omega)), updN_same, fA_b hok heq hr (Nat.zero_le _), ← e4 f hf]
        by_cases e : f = fA v (bnd c) r 0
        · rw [← e, updN_same, if_pos rfl]
        · rw [updN_ne _ _ e, if_neg (fun q => e q.symm)]
          rfl
set_option maxRecDepth 100000 in
/-- the class's holding instances are the reference's -/
theorem kh_ho {v : Nat → Nat} (hok : OkN v) (m : Nat → Int32) (hs0 ru0 hd0 b0 : Nat → Nat) (li0 : Nat → Int32) : HdOk v (hoF v m (0, ru0, hd0, li0, b0)) (khI v m hs0 (enF v (v 2)).1).2.1 (khI v m hs0 (enF v (v 2)).1).2.2.1 (khI v m hs0 (enF v (v 2)).1).2.2.2 := by
  have h1 : khI v m hs0 (enF v (v 2)).1 = itN (fun r a => itN (khB v m r) a 216) (0, 0, hs0, fun _ => 0) (v 2) := en_folds (v := v) (v 2) (khF v m) (0, 0, hs0, fun _ => 0) (v 2) (Nat.le_refl _)
  rw [h1]
  have hrel : ∀ r, r ≤ v 2 → HJ v (enF v r).1 (itN (fun r a => itN (khB v m r) a 216) (0, 0, hs0, fun _ => 0) r) (itN (hoR v m) (0, ru0, hd0, li0, b0) r) := by
    intro r
    induction r with
    | zero => exact fun _ => ⟨rfl, rfl, fun j hj => absurd hj (Nat.not_lt_zero j), fun f _ => rfl⟩
    | succ r ih =>
      intro hr
      have h0 := ih (by omega)
      show HJ v (itN (enC v r) (enF v r) 216).1 (itN (khB v m r) (itN (fun r a => itN (khB v m r) a 216) (0, 0, hs0, fun _ => 0) r) 216) (itN (hoC v m r) (itN (hoR v m) (0, ru0, hd0, li0, b0) r) 216)
      generalize itN (fun r a => itN (khB v m r) a 216) (0, 0, hs0, fun _ => 0) r = T at h0 ⊢
      generalize itN (hoR v m) (0, ru0, hd0, li0, b0) r = S at h0 ⊢
      have hin : ∀ c, c ≤ 216 → HJ v (itN (enC v r) (enF v r) c).1 (itN (khB v m r) T c) (itN (hoC v m r) S c) := by
        intro c
        induction c with
        | zero => exact fun _ => h0
        | succ c ihc => exact fun hc => HJ_step hok (by omega) (by omega) (ihc (by omega))
      exact hin 216 (Nat.le_refl _)
  exact (hrel (v 2) (Nat.le_refl _)).2
