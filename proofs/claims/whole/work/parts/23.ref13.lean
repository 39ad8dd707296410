/-- what can be derived: one pass -/
def dvI (S : HoS) (i : Nat) (p : (Nat → Bool) × Bool) : (Nat → Bool) × Bool :=
  if p.1 (S.2.2.1 i) = false ∧ allL S p.1 i = true then (updN p.1 (S.2.2.1 i) true, true) else p
def dvP (S : HoS) (D : Nat → Bool) : (Nat → Bool) × Bool := itN (dvI S) (D, false) S.1
def dvK (v : Nat → Nat) (x : Int32) (k : Nat) (D : Nat → Bool) : Nat → Bool := updN D (v (9 + 3 * k)) (D (v (9 + 3 * k)) || delB x k)
def dvBase (v : Nat → Nat) (x : Int32) : Nat → Bool := itN (dvK v x) (fun _ => false) (v 1)
/-- how many are not derived -/
def ndv (D : Nat → Bool) : Nat → Nat
  | 0 => 0
  | k + 1 => ndv D k + (if D k then 0 else 1)
theorem ndv_upd {D : Nat → Bool} {f : Nat} (hz : D f = false) : ∀ n, ndv (updN D f true) n + (if f < n then 1 else 0) = ndv D n
  | 0 => by simp [ndv]
  | n + 1 => by
    have ih := ndv_upd hz n
    simp only [ndv]
    by_cases e : n = f
    · subst e
      have e1 : (if updN D n true n then 0 else 1) = 0 := by rw [updN_same]; rfl
      have e2 : (if D n then 0 else 1) = 1 := by rw [hz]; rfl
      rw [e1, e2, if_pos (Nat.lt_succ_self _)]
      rw [if_neg (Nat.lt_irrefl _)] at ih
      omega
    · rw [updN_ne _ _ e]
      by_cases q : f < n
      · rw [if_pos q] at ih
        rw [if_pos (show f < n + 1 by omega)]
        omega
      · rw [if_neg q] at ih
        rw [if_neg (show ¬ f < n + 1 by omega)]
        omega
theorem dvI_n {S : HoS} {i s0 N : Nat} (hf : S.2.2.1 i < N) {p : (Nat → Bool) × Bool} (h : ndv p.1 N ≤ s0 ∧ (p.2 = true → ndv p.1 N < s0)) : ndv (dvI S i p).1 N ≤ s0 ∧ ((dvI S i p).2 = true → ndv (dvI S i p).1 N < s0) := by
  unfold dvI
  split
  · rename_i hc
    have h1 := ndv_upd hc.1 N
    rw [if_pos hf] at h1
    have h2 : ndv (updN p.1 (S.2.2.1 i) true) N < s0 := by omega
    exact ⟨Nat.le_of_lt h2, fun _ => h2⟩
  · exact h
theorem dvI_same {S : HoS} {i : Nat} {D : Nat → Bool} {p : (Nat → Bool) × Bool} (h : p.2 = true ∨ p.1 = D) : (dvI S i p).2 = true ∨ (dvI S i p).1 = D := by
  unfold dvI
  split
  · exact Or.inl rfl
  · exact h
theorem dvN_flag {v : Nat → Nat} {S : HoS} (hS : HoOk v S) (D : Nat → Bool) (N : Nat) (hN : N = 216) : ((dvP S D).2 = true → ndv (dvP S D).1 N < ndv D N) ∧ ((dvP S D).2 = false → (dvP S D).1 = D) := by
  have h1 := itN_inv (P := fun p : (Nat → Bool) × Bool => ndv p.1 N ≤ ndv D N ∧ (p.2 = true → ndv p.1 N < ndv D N)) (s := dvI S) (N := S.1) (fun i hi p hp => dvI_n (by have := (hS.2 i hi).2.1; omega) hp) S.1 (Nat.le_refl _) (a := (D, false)) ⟨Nat.le_refl _, fun q => absurd (show false = true from q) (by decide)⟩
  have h2 := itN_inv (P := fun p : (Nat → Bool) × Bool => p.2 = true ∨ p.1 = D) (s := dvI S) (N := S.1) (fun i _ p hp => dvI_same hp) S.1 (Nat.le_refl _) (a := (D, false)) (Or.inr rfl)
  exact ⟨h1.2, fun q => h2.resolve_left (by show ¬ (dvP S D).2 = true; rw [q]; decide)⟩
theorem dvLim {v : Nat → Nat} {S : HoS} (hS : HoOk v S) (D0 : Nat → Bool) : ∃ D, IsLim (fun D => (dvP S D).1) D0 D :=
  lim_ex (fun _ => True) (fun D => ndv D 216) (fun _ _ => trivial) (fun D _ => by
    have h := dvN_flag hS D 216 rfl
    cases q : (dvP S D).2
    · exact Or.inl (h.2 q)
    · exact Or.inr (h.1 q)) (ndv D0 216) D0 (Nat.le_refl _) trivial
theorem dvP_ne {v : Nat → Nat} {S : HoS} (hS : HoOk v S) {D : Nat → Bool} (h : (dvP S D).2 = true) : (dvP S D).1 ≠ D := by
  intro e
  have h1 := (dvN_flag hS D 216 rfl).1 h
  rw [e] at h1
  omega
theorem litB_mono {D E : Nat → Bool} (h : ∀ f, D f = true → E f = true) {x : Int32} (q : litB D x = true) : litB E x = true := by
  unfold litB at q ⊢
  split
  · rfl
  · rename_i e
    rw [if_neg e] at q
    exact h _ q
theorem allL_mono {S : HoS} {D E : Nat → Bool} (h : ∀ f, D f = true → E f = true) {i : Nat} (q : allL S D i = true) : allL S E i = true := by
  unfold allL at q ⊢
  rw [andN_iff] at q ⊢
  exact fun a ha => litB_mono h (q a ha)
/-- closed under the instances -/
def DvC (S : HoS) (D : Nat → Bool) : Prop := ∀ i, i < S.1 → allL S D i = true → D (S.2.2.1 i) = true
theorem dvI_flag {S : HoS} {D : Nat → Bool} : ∀ n, (itN (dvI S) (D, false) n).2 = false → itN (dvI S) (D, false) n = (D, false) ∧ ∀ i, i < n → allL S D i = true → D (S.2.2.1 i) = true
  | 0, _ => ⟨rfl, fun i hi => absurd hi (Nat.not_lt_zero i)⟩
  | n + 1, h => by
    have e : itN (dvI S) (D, false) (n + 1) = dvI S n (itN (dvI S) (D, false) n) := rfl
    rw [e] at h ⊢
    have h0 : (itN (dvI S) (D, false) n).2 = false := by
      unfold dvI at h
      split at h
      · cases h
      · exact h
    obtain ⟨h1, h2⟩ := dvI_flag n h0
    rw [h1] at h ⊢
    have hc : ¬ (D (S.2.2.1 n) = false ∧ allL S D n = true) := by
      intro hc
      unfold dvI at h
      rw [if_pos hc] at h
      cases h
    refine ⟨by unfold dvI; rw [if_neg hc], fun i hi ha => ?_⟩
    by_cases q : i = n
    · subst q
      cases q2 : D (S.2.2.1 i)
      · exact absurd ⟨q2, ha⟩ hc
      · rfl
    · exact h2 i (by omega) ha
theorem dvLim_closed {v : Nat → Nat} {S : HoS} (hS : HoOk v S) {D : Nat → Bool} (e : (dvP S D).1 = D) : DvC S D := by
  have h : (dvP S D).2 = false := by
    cases q : (dvP S D).2
    · rfl
    · exact absurd e (dvP_ne hS q)
  exact (dvI_flag S.1 h).2
theorem dvI_sub {S : HoS} {E : Nat → Bool} (hE : DvC S E) {i : Nat} (hi : i < S.1) {p : (Nat → Bool) × Bool} (h : ∀ f, p.1 f = true → E f = true) : ∀ f, (dvI S i p).1 f = true → E f = true := by
  unfold dvI
  split
  · rename_i hc
    intro f hf
    have hf : updN p.1 (S.2.2.1 i) true f = true := hf
    by_cases q : f = S.2.2.1 i
    · subst q
      exact hE i hi (allL_mono h hc.2)
    · rw [updN_ne _ _ q] at hf
      exact h f hf
  · exact h
theorem dvP_sub {S : HoS} {E D : Nat → Bool} (hE : DvC S E) (h : ∀ f, D f = true → E f = true) : ∀ f, (dvP S D).1 f = true → E f = true :=
  itN_inv (P := fun p : (Nat → Bool) × Bool => ∀ f, p.1 f = true → E f = true) (s := dvI S) (N := S.1) (fun i hi p hp => dvI_sub hE hi hp) S.1 (Nat.le_refl _) (a := (D, false)) h
theorem dvI_sup {S : HoS} {i : Nat} {p : (Nat → Bool) × Bool} : ∀ f, p.1 f = true → (dvI S i p).1 f = true := by
  intro f hf
  unfold dvI
  split
  · show updN p.1 (S.2.2.1 i) true f = true
    unfold updN
    split
    · rfl
    · exact hf
  · exact hf
theorem dvIt_sub {S : HoS} {D0 : Nat → Bool} : ∀ k, ∀ f, D0 f = true → itN (fun _ D => (dvP S D).1) D0 k f = true
  | 0, _, h => h
  | k + 1, f, h => by
    have h1 := dvIt_sub (S := S) k f h
    have h2 : ∀ n, (itN (dvI S) (itN (fun _ D => (dvP S D).1) D0 k, false) n).1 f = true := by
      intro n
      induction n with
      | zero => exact h1
      | succ n ih => exact dvI_sup f ih
    exact h2 S.1
theorem c_canDo (d n : Nat) (g : Nat) (x : Int32) (w : Nat → Int32) (v : Nat → Nat) (D0 E : Nat → Bool) (S : HoS) (h : Nat → MC) (hO : h 178 = RO w) (hw : w 6 = nI S.1) (hv : h 179 = .inl (.int, 189, .inl (vI v))) (hdv : h 198 = .inl (.boolean, 216, .inl (bIf D0))) (hok : OkN v) (hS : HoOk v S) (hA : HoAt h S) (hg : g < 216) (hl : IsLim (fun D => (dvP S D).1) (dvBase v x) E) : Sp M_X10_canDo (d + 1) 0 0 [.ref 178, .int (nI g), .int x] h n (fun r h1 => r = some (.int (bI (E g))) ∧ ∃ D : Nat → Bool, h1 = mov [(198, .inl (.boolean, 216, .inl (bIf D)))] h) := by
  show MW _ _ _ _ _ _ _ _ _ _ _ _
  generalize hpost : (fun (r : Option Value) (h1 : Nat → MC) => r = some (.int (bI (E g))) ∧ ∃ D : Nat → Bool, h1 = mov [(198, .inl (.boolean, 216, .inl (bIf D)))] h) = post
  have hp : ∀ D : Nat → Bool, post (some (.int (bI (E g)))) (mov [(198, .inl (.boolean, 216, .inl (bIf D)))] h) := by
    intro D
    rw [← hpost]
    exact ⟨rfl, D, rfl⟩
  clear hpost
  obtain ⟨hru, hhd, hli⟩ := hA
  have hf12 := hok.2.2.1
  have h1728 := hS.1
  have hEc : DvC S E := by
    obtain ⟨k, -, e⟩ := hl
    exact dvLim_closed hS e
  have hE0 : ∀ f, dvBase v x f = true → E f = true := by
    obtain ⟨k, rfl, -⟩ := hl
    exact dvIt_sub k
  have hex : ∀ (fl : Bool) (D : Nat → Bool), D g = E g → (fl = false ∨ D g = true) → MW M_X10_canDo (d + 1) 0 0 n post 90 [(0, .ref 178), (1, .int (nI g)), (3, .int (bI fl))] [] (mov [(198, .inl (.boolean, 216, .inl (bIf D)))] h) n 0 := by
    intro fl D e hfl
    refine mw_iload_n (i := 3) rfl rfl rfl ?_
    refine mw_b_eq rfl (fun q => ?_) (fun q => ?_)
    · refine mw_aload_n (i := 0) rfl rfl rfl ?_
      refine mw_getfield rfl f_X10_69 (by first | rfl | exact hO | exact hv | exact hhd) rfl ?_
      refine mw_iload_n (i := 1) rfl rfl rfl ?_
      refine mw_zald_v (v := bI (E g)) rfl (by rfl) (by omega) (by omega) (show bIf D g = bI (E g) by show bI (D g) = _; rw [e]) ?_
      first | exact mw_ireturn rfl rfl (bI_nar _) rfl (Nat.le_refl _) (hp D) | exact mw_ireturn rfl rfl rfl rfl (Nat.le_refl _) (hp D)
    · refine mw_aload_n (i := 0) rfl rfl rfl ?_
      refine mw_getfield rfl f_X10_69 (by first | rfl | exact hO | exact hv | exact hhd) rfl ?_
      refine mw_iload_n (i := 1) rfl rfl rfl ?_
      refine mw_zald rfl (by first | rfl | exact hO | exact hv | exact hhd) (by omega) (by omega) ?_
      refine mw_b_ne rfl (fun q2 => ?_) (fun q2 => ?_)
      · refine mw_aload_n (i := 0) rfl rfl rfl ?_
        refine mw_getfield rfl f_X10_69 (by first | rfl | exact hO | exact hv | exact hhd) rfl ?_
        refine mw_iload_n (i := 1) rfl rfl rfl ?_
        refine mw_zald_v (v := bI (E g)) rfl (by rfl) (by omega) (by omega) (show bIf D g = bI (E g) by show bI (D g) = _; rw [e]) ?_
        first | exact mw_ireturn rfl rfl (bI_nar _) rfl (Nat.le_refl _) (hp D) | exact mw_ireturn rfl rfl rfl rfl (Nat.le_refl _) (hp D)
      · rcases hfl with q3 | q3
        · rw [q] at q3; cases q3
        · rw [q2] at q3; cases q3
  have loopI : ∀ D : Nat → Bool, MW M_X10_canDo (d + 1) 0 0 n post 90 [(0, .ref 178), (1, .int (nI g)), (3, .int (bI (dvP S D).2))] [] (mov [(198, .inl (.boolean, 216, .inl (bIf (dvP S D).1)))] h) n 0 → ∀ i, i ≤ S.1 → MW M_X10_canDo (d + 1) 0 0 n post 108 [(0, .ref 178), (1, .int (nI g)), (3, .int (bI (itN (dvI S) (D, false) i).2)), (4, .int (nI i))] [] (mov [(198, .inl (.boolean, 216, .inl (bIf (itN (dvI S) (D, false) i).1)))] h) n 0 := by
    intro D k
    refine loop_up S.1 ?_ ?_
    · refine mw_iload rfl rfl ?_
      refine mw_aload_n (i := 0) rfl rfl rfl ?_
      refine mw_getfield rfl f_X10_157 (by first | rfl | exact hO | exact hv | exact hhd) rfl ?_
      rw [hw]
      refine mw_n_ge rfl (by omega) (by omega) (fun q => ?_) (fun q => ?_)
      · refine mw_goto rfl ?_
        exact mw_locals rfl k
      · omega
    · intro i hi ih
      have hhi := (hS.2 i hi).2.1
      generalize hQ : itN (dvI S) (D, false) i = Q at ⊢
      have eQ : itN (dvI S) (D, false) (i + 1) = dvI S i Q := by rw [← hQ]; rfl
      rw [eQ] at ih
      refine mw_iload rfl rfl ?_
      refine mw_aload_n (i := 0) rfl rfl rfl ?_
      refine mw_getfield rfl f_X10_157 (by first | rfl | exact hO | exact hv | exact hhd) rfl ?_
      rw [hw]
      refine mw_n_ge rfl (by omega) (by omega) (fun q => ?_) (fun q => ?_)
      · omega
      · refine mw_aload_n (i := 0) rfl rfl rfl ?_
        refine mw_getfield rfl f_X10_69 (by first | rfl | exact hO | exact hv | exact hhd) rfl ?_
        refine mw_aload_n (i := 0) rfl rfl rfl ?_
        refine mw_getfield rfl f_X10_44 (by first | rfl | exact hO | exact hv | exact hhd) rfl ?_
        refine mw_iload rfl rfl ?_
        refine mw_iald rfl (by first | rfl | exact hO | exact hv | exact hhd) (by omega) (by omega) ?_
        refine mw_zald rfl (by first | rfl | exact hO | exact hv | exact hhd) (by omega) (by omega) ?_
        refine mw_b_ne rfl (fun q1 => ?_) (fun q1 => ?_)
        · rw [show dvI S i Q = Q by unfold dvI; rw [if_neg (by intro e; rw [q1] at e; exact absurd e.1 (by decide))]] at ih
          first | refine mw_ninc rfl rfl (Nat.le_of_ble_eq_true rfl) ?_ | refine mw_iinc rfl rfl rfl (Nat.le_of_ble_eq_true rfl) ?_
          refine mw_goto rfl ?_
          exact mw_locals rfl ih
        · refine mw_aload_n (i := 0) rfl rfl rfl ?_
          refine mw_iload rfl rfl ?_
          refine mw_callV_f (c_areDerived d n i w v Q.1 S _ hO rfl hS ⟨hru, hhd, hli⟩ hi) rfl ok_X10_areDerived v_X10_224 rfl (by first | rfl | exact hO | exact hv | exact hhd) (by intro e; cases e) rfl (Nat.le_of_ble_eq_true rfl) rfl (Nat.le_of_ble_eq_true rfl) (by omega) (by omega) (by omega) ?_
          refine mw_b_eq rfl (fun q2 => ?_) (fun q2 => ?_)
          · rw [show dvI S i Q = Q by unfold dvI; rw [if_neg (by intro e; rw [q2] at e; exact absurd e.2 (by decide))]] at ih
            first | refine mw_ninc rfl rfl (Nat.le_of_ble_eq_true rfl) ?_ | refine mw_iinc rfl rfl rfl (Nat.le_of_ble_eq_true rfl) ?_
            refine mw_goto rfl ?_
            exact mw_locals rfl ih
          · rw [show dvI S i Q = (updN Q.1 (S.2.2.1 i) true, true) by unfold dvI; rw [if_pos ⟨q1, q2⟩]] at ih
            refine mw_aload_n (i := 0) rfl rfl rfl ?_
            refine mw_getfield rfl f_X10_69 (by first | rfl | exact hO | exact hv | exact hhd) rfl ?_
            refine mw_aload_n (i := 0) rfl rfl rfl ?_
            refine mw_getfield rfl f_X10_44 (by first | rfl | exact hO | exact hv | exact hhd) rfl ?_
            refine mw_iload rfl rfl ?_
            refine mw_iald rfl (by first | rfl | exact hO | exact hv | exact hhd) (by omega) (by omega) ?_
            refine mw_iconst (v := nI 1) rfl (by decide) ?_
            first | refine mw_zast_m rfl (by first | rfl | exact hO | exact hv | exact hhd) (by omega) (by omega) (bI_z _) ?_ | refine mw_zast_m rfl (by first | rfl | exact hO | exact hv | exact hhd) (by omega) (by omega) (by decide) ?_
            first | rw [bIf_updt] | rw [bIf_updf] | rw [bIf_upd] | skip
            refine mw_iconst (v := nI 1) rfl (by decide) ?_
            refine mw_istore_n (i := 3) rfl rfl (Nat.le_of_ble_eq_true rfl) ?_
            first | refine mw_ninc rfl rfl (Nat.le_of_ble_eq_true rfl) ?_ | refine mw_iinc rfl rfl rfl (Nat.le_of_ble_eq_true rfl) ?_
            refine mw_goto rfl ?_
            exact mw_locals rfl ih
  have hW : MW M_X10_canDo (d + 1) 0 0 n post 90 [(0, .ref 178), (1, .int (nI g)), (3, .int (bI true))] [] (mov [(198, .inl (.boolean, 216, .inl (bIf (dvBase v x))))] h) n 0 := by
    refine while_lim (P := dvP S) (H := fun fl D => MW M_X10_canDo (d + 1) 0 0 n post 90 [(0, .ref 178), (1, .int (nI g)), (3, .int (bI fl))] [] (mov [(198, .inl (.boolean, 216, .inl (bIf D)))] h) n 0) (I := fun D => ∀ f, D f = true → E f = true) hl hE0 (fun D hD => dvP_sub hEc hD) (fun D _ => (dvN_flag hS D 216 rfl).2) (fun D _ => dvP_ne hS) (hex false E rfl (Or.inl rfl)) ?_
    intro D hD k
    show MW M_X10_canDo (d + 1) 0 0 n post 90 [(0, .ref 178), (1, .int (nI g)), (3, .int (bI true))] [] (mov [(198, .inl (.boolean, 216, .inl (bIf D)))] h) n 0
    cases q0 : D g
    · refine mw_iload_n (i := 3) rfl rfl rfl ?_
      refine mw_b_eq rfl (fun q => ?_) (fun q => ?_)
      · cases q
      · refine mw_aload_n (i := 0) rfl rfl rfl ?_
        refine mw_getfield rfl f_X10_69 (by first | rfl | exact hO | exact hv | exact hhd) rfl ?_
        refine mw_iload_n (i := 1) rfl rfl rfl ?_
        refine mw_zald_v (v := bI false) rfl (by rfl) (by omega) (by omega) (show bIf D g = bI false by show bI (D g) = _; rw [q0]) ?_
        refine mw_b_ne rfl (fun q2 => ?_) (fun q2 => ?_)
        · cases q2
        · refine mw_iconst (v := nI 0) rfl (by decide) ?_
          refine mw_istore_n (i := 3) rfl rfl (Nat.le_of_ble_eq_true rfl) ?_
          refine mw_iconst (v := nI 0) rfl (by decide) ?_
          refine mw_istore rfl (Nat.le_of_ble_eq_true rfl) ?_
          exact mw_locals rfl (loopI D k 0 (Nat.zero_le _))
    · exact hex true D (by rw [q0, hD g q0]) (Or.inr q0)
  have loopK : ∀ k, k ≤ v 1 → MW M_X10_canDo (d + 1) 0 0 n post 24 [(0, .ref 178), (1, .int (nI g)), (2, .int x), (3, .int (nI k))] [] (mov [(198, .inl (.boolean, 216, .inl (bIf (itN (dvK v x) (fun _ => false) k))))] h) n 0 := by
    refine loop_up (v 1) ?_ ?_
    · refine mw_iload_n (i := 3) rfl rfl rfl ?_
      refine mw_aload_n (i := 0) rfl rfl rfl ?_
      refine mw_getfield rfl f_X10_7 (by first | rfl | exact hO | exact hv | exact hhd) rfl ?_
      refine mw_iconst (v := nI 1) rfl (by decide) ?_
      refine mw_iald rfl (by first | rfl | exact hO | exact hv | exact hhd) (by omega) (by omega) ?_
      refine mw_n_ge rfl (by omega) (by omega) (fun q => ?_) (fun q => ?_)
      · refine mw_iconst (v := nI 1) rfl (by decide) ?_
        refine mw_istore_n (i := 3) rfl rfl (Nat.le_of_ble_eq_true rfl) ?_
        exact mw_locals rfl hW
      · omega
    · intro k hk ih
      have hf := (hok.2.2.2.2.2.1 k hk).1
      generalize hQ : itN (dvK v x) (fun _ => false) k = Q at ⊢
      have eQ : itN (dvK v x) (fun _ => false) (k + 1) = dvK v x k Q := by rw [← hQ]; rfl
      rw [eQ] at ih
      refine mw_iload_n (i := 3) rfl rfl rfl ?_
      refine mw_aload_n (i := 0) rfl rfl rfl ?_
      refine mw_getfield rfl f_X10_7 (by first | rfl | exact hO | exact hv | exact hhd) rfl ?_
      refine mw_iconst (v := nI 1) rfl (by decide) ?_
      refine mw_iald rfl (by first | rfl | exact hO | exact hv | exact hhd) (by omega) (by omega) ?_
      refine mw_n_ge rfl (by omega) (by omega) (fun q => ?_) (fun q => ?_)
      · omega
      · refine mw_aload_n (i := 0) rfl rfl rfl ?_
        refine mw_getfield rfl f_X10_69 (by first | rfl | exact hO | exact hv | exact hhd) rfl ?_
        refine mw_aload_n (i := 0) rfl rfl rfl ?_
        refine mw_getfield rfl f_X10_7 (by first | rfl | exact hO | exact hv | exact hhd) rfl ?_
        refine mw_bipush (v := nI 9) rfl (by decide) ?_
        refine mw_iconst (v := nI 3) rfl (by decide) ?_
        refine mw_iload_n (i := 3) rfl rfl rfl ?_
        first | refine mw_nmul rfl ?_ | refine mw_imul rfl ?_
        first | refine mw_nadd rfl ?_ | refine mw_iadd rfl ?_
        refine mw_iald rfl (by first | rfl | exact hO | exact hv | exact hhd) (by omega) (by omega) ?_
        refine mw_aload_n (i := 0) rfl rfl rfl ?_
        refine mw_getfield rfl f_X10_69 (by first | rfl | exact hO | exact hv | exact hhd) rfl ?_
        refine mw_aload_n (i := 0) rfl rfl rfl ?_
        refine mw_getfield rfl f_X10_7 (by first | rfl | exact hO | exact hv | exact hhd) rfl ?_
        refine mw_bipush (v := nI 9) rfl (by decide) ?_
        refine mw_iconst (v := nI 3) rfl (by decide) ?_
        refine mw_iload_n (i := 3) rfl rfl rfl ?_
        first | refine mw_nmul rfl ?_ | refine mw_imul rfl ?_
        first | refine mw_nadd rfl ?_ | refine mw_iadd rfl ?_
        refine mw_iald rfl (by first | rfl | exact hO | exact hv | exact hhd) (by omega) (by omega) ?_
        refine mw_zald rfl (by first | rfl | exact hO | exact hv | exact hhd) (by omega) (by omega) ?_
        refine mw_b_ne rfl (fun q1 => ?_) (fun q1 => ?_)
        · rw [show dvK v x k Q = updN Q (v (9 + 3 * k)) true by unfold dvK; rw [q1, Bool.true_or]] at ih
          refine mw_iconst (v := nI 1) rfl (by decide) ?_
          refine mw_goto rfl ?_
          first | refine mw_zast_m rfl (by first | rfl | exact hO | exact hv | exact hhd) (by omega) (by omega) (bI_z _) ?_ | refine mw_zast_m rfl (by first | rfl | exact hO | exact hv | exact hhd) (by omega) (by omega) (by decide) ?_
          first | rw [bIf_updt] | rw [bIf_updf] | rw [bIf_upd] | skip
          first | refine mw_ninc rfl rfl (Nat.le_of_ble_eq_true rfl) ?_ | refine mw_iinc rfl rfl rfl (Nat.le_of_ble_eq_true rfl) ?_
          refine mw_goto rfl ?_
          exact mw_locals rfl ih
        · refine mw_iload_n (i := 2) rfl rfl rfl ?_
          refine mw_iload_n (i := 3) rfl rfl rfl ?_
          refine mw_ishr rfl ?_
          refine mw_iconst (v := nI 1) rfl (by decide) ?_
          refine mw_iand rfl ?_
          refine mw_if_ne rfl (fun q2 => ?_) (fun q2 => ?_)
          · rw [show dvK v x k Q = updN Q (v (9 + 3 * k)) false by unfold dvK; rw [q1, Bool.false_or, show delB x k = false by simp only [delB]; exact decide_eq_false q2]] at ih
            refine mw_iconst (v := nI 0) rfl (by decide) ?_
            first | refine mw_zast_m rfl (by first | rfl | exact hO | exact hv | exact hhd) (by omega) (by omega) (bI_z _) ?_ | refine mw_zast_m rfl (by first | rfl | exact hO | exact hv | exact hhd) (by omega) (by omega) (by decide) ?_
            first | rw [bIf_updt] | rw [bIf_updf] | rw [bIf_upd] | skip
            first | refine mw_ninc rfl rfl (Nat.le_of_ble_eq_true rfl) ?_ | refine mw_iinc rfl rfl rfl (Nat.le_of_ble_eq_true rfl) ?_
            refine mw_goto rfl ?_
            exact mw_locals rfl ih
          · rw [show dvK v x k Q = updN Q (v (9 + 3 * k)) true by unfold dvK; rw [q1, Bool.false_or, show delB x k = true by simp only [delB]; exact decide_eq_true q2]] at ih
            refine mw_iconst (v := nI 1) rfl (by decide) ?_
            refine mw_goto rfl ?_
            first | refine mw_zast_m rfl (by first | rfl | exact hO | exact hv | exact hhd) (by omega) (by omega) (bI_z _) ?_ | refine mw_zast_m rfl (by first | rfl | exact hO | exact hv | exact hhd) (by omega) (by omega) (by decide) ?_
            first | rw [bIf_updt] | rw [bIf_updf] | rw [bIf_upd] | skip
            first | refine mw_ninc rfl rfl (Nat.le_of_ble_eq_true rfl) ?_ | refine mw_iinc rfl rfl rfl (Nat.le_of_ble_eq_true rfl) ?_
            refine mw_goto rfl ?_
            exact mw_locals rfl ih
  have loopA : ∀ k, k ≤ 216 → MW M_X10_canDo (d + 1) 0 0 n post 2 [(0, .ref 178), (1, .int (nI g)), (2, .int x), (3, .int (nI k))] [] (mov [(198, .inl (.boolean, 216, .inl (bIf (fun j => if j < k ∨ 216 ≤ j then false else D0 j))))] h) n 0 := by
    refine loop_up 216 ?_ ?_
    · refine mw_iload_n (i := 3) rfl rfl rfl ?_
      refine mw_sipush (v := nI 216) rfl (by decide) ?_
      refine mw_n_ge rfl (by omega) (by omega) (fun q => ?_) (fun q => ?_)
      · rw [show (fun j => if j < 216 ∨ 216 ≤ j then false else D0 j) = (fun _ => false) by funext j; rw [if_pos (by omega)]]
        refine mw_iconst (v := nI 0) rfl (by decide) ?_
        refine mw_istore_n (i := 3) rfl rfl (Nat.le_of_ble_eq_true rfl) ?_
        exact mw_locals rfl (loopK 0 (Nat.zero_le _))
      · omega
    · intro k hk ih
      have e : updN (fun j => if j < k ∨ 216 ≤ j then false else D0 j) k false = (fun j => if j < k + 1 ∨ 216 ≤ j then false else D0 j) := by
        funext j
        simp only [updN]
        by_cases q : j = k
        · rw [if_pos q, if_pos (by omega)]
        · rw [if_neg q]
          have q3 : (j < k + 1 ∨ 216 ≤ j) ↔ (j < k ∨ 216 ≤ j) := by omega
          simp only [q3]
      rw [← e] at ih
      refine mw_iload_n (i := 3) rfl rfl rfl ?_
      refine mw_sipush (v := nI 216) rfl (by decide) ?_
      refine mw_n_ge rfl (by omega) (by omega) (fun q => ?_) (fun q => ?_)
      · omega
      · refine mw_aload_n (i := 0) rfl rfl rfl ?_
        refine mw_getfield rfl f_X10_69 (by first | rfl | exact hO | exact hv | exact hhd) rfl ?_
        refine mw_iload_n (i := 3) rfl rfl rfl ?_
        refine mw_iconst (v := nI 0) rfl (by decide) ?_
        first | refine mw_zast_m rfl (by first | rfl | exact hO | exact hv | exact hhd) (by omega) (by omega) (bI_z _) ?_ | refine mw_zast_m rfl (by first | rfl | exact hO | exact hv | exact hhd) (by omega) (by omega) (by decide) ?_
        first | rw [bIf_updt] | rw [bIf_updf] | rw [bIf_upd] | skip
        first | refine mw_ninc rfl rfl (Nat.le_of_ble_eq_true rfl) ?_ | refine mw_iinc rfl rfl rfl (Nat.le_of_ble_eq_true rfl) ?_
        refine mw_goto rfl ?_
        exact mw_locals rfl ih
  refine mw_tail (K := 198) (bIf (fun j => if j < 0 ∨ 216 ≤ j then false else D0 j)) hdv (fun j hj => by simp only [bIf]; rw [if_neg (by omega)]) ?_
  rw [hset_1]
  refine mw_iconst (v := nI 0) rfl (by decide) ?_
  refine mw_istore_n (i := 3) rfl rfl (Nat.le_of_ble_eq_true rfl) ?_
  exact mw_locals rfl (loopA 0 (by omega))
