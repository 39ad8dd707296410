/-- what the rows of the holding instances are -/
def HoOk (v : Nat → Nat) (S : HoS) : Prop := S.1 ≤ 1728 ∧ ∀ i, i < S.1 → S.2.1 i < v 2 ∧ S.2.2.1 i < 216 ∧ ∀ a, a < 3 → S.2.2.2.1 (3 * i + a) < 0 ∨ ∃ f, f < 216 ∧ S.2.2.2.1 (3 * i + a) = nI f
/-- the facts that speak of the reference's rows of holding instances -/
def HoAt (h : Nat → MC) (S : HoS) : Prop := h 189 = .inl (.int, 1728, .inl (vI S.2.1)) ∧ h 190 = .inl (.int, 1728, .inl (vI S.2.2.1)) ∧ h 191 = .inl (.int, 5184, .inl S.2.2.2.1)
def insN (S : HoS) (f : Nat) : Nat → Nat
  | 0 => 0
  | k + 1 => insN S f k + (if S.2.2.1 k = f then 1 else 0)
theorem c_instancesOf (d n : Nat) (f : Nat) (w : Nat → Int32) (v : Nat → Nat) (S : HoS) (h : Nat → MC) (hO : h 178 = RO w) (hw : w 6 = nI S.1) (hS : HoOk v S) (hA : HoAt h S) (hf : f < 216) : Fn M_X10_instancesOf d 0 0 [.ref 178, .int (nI f)] h n (some (.int (nI (insN S f S.1)))) h := by
  obtain ⟨hru, hhd, hli⟩ := hA
  obtain ⟨h1728, hS⟩ := hS
  refine Fn.of fun post hp => ?_
  refine mw_iconst (v := nI 0) rfl (by decide) ?_
  refine mw_istore_n (i := 2) rfl rfl (Nat.le_of_ble_eq_true rfl) ?_
  refine mw_iconst (v := nI 0) rfl (by decide) ?_
  refine mw_istore_n (i := 3) rfl rfl (Nat.le_of_ble_eq_true rfl) ?_
  have loop : ∀ j, j ≤ S.1 → MW M_X10_instancesOf d 0 0 n post 4 [(0, .ref 178), (1, .int (nI f)), (2, .int (nI (insN S f j))), (3, .int (nI j))] [] h n 0 := by
    refine loop_up S.1 ?_ ?_
    · refine mw_iload_n (i := 3) rfl rfl rfl ?_
      refine mw_aload_n (i := 0) rfl rfl rfl ?_
      refine mw_getfield rfl f_X10_157 (by first | rfl | exact hO | exact hhd) rfl ?_
      rw [hw]
      refine mw_n_ge rfl (by omega) (by omega) (fun hc => ?_) (fun hc => ?_)
      · refine mw_iload_n (i := 2) rfl rfl rfl ?_
        exact mw_ireturn rfl rfl rfl rfl (Nat.le_refl _) (hp)
      · omega
    · intro j hj ih
      have := (hS j hj).2.1
      refine mw_iload_n (i := 3) rfl rfl rfl ?_
      refine mw_aload_n (i := 0) rfl rfl rfl ?_
      refine mw_getfield rfl f_X10_157 (by first | rfl | exact hO | exact hhd) rfl ?_
      rw [hw]
      refine mw_n_ge rfl (by omega) (by omega) (fun hc => ?_) (fun hc => ?_)
      · omega
      · refine mw_iload_n (i := 2) rfl rfl rfl ?_
        refine mw_aload_n (i := 0) rfl rfl rfl ?_
        refine mw_getfield rfl f_X10_44 (by first | rfl | exact hO | exact hhd) rfl ?_
        refine mw_iload_n (i := 3) rfl rfl rfl ?_
        refine mw_iald rfl (by first | rfl | exact hO | exact hhd) (by omega) (by omega) ?_
        refine mw_iload_n (i := 1) rfl rfl rfl ?_
        refine mw_n_ne rfl (by omega) (by omega) (fun he => ?_) (fun he => ?_)
        · refine mw_iconst (v := nI 0) rfl (by decide) ?_
          first | refine mw_nadd rfl ?_ | refine mw_iadd rfl ?_
          refine mw_istore_n (i := 2) rfl rfl (Nat.le_of_ble_eq_true rfl) ?_
          first | refine mw_ninc rfl rfl (Nat.le_of_ble_eq_true rfl) ?_ | refine mw_iinc rfl rfl rfl (Nat.le_of_ble_eq_true rfl) ?_
          refine mw_goto rfl ?_
          refine mw_locals ?_ ih
          rw [show insN S f (j + 1) = insN S f j + 0 by simp [insN, he]]
          rfl
        · refine mw_iconst (v := nI 1) rfl (by decide) ?_
          refine mw_goto rfl ?_
          first | refine mw_nadd rfl ?_ | refine mw_iadd rfl ?_
          refine mw_istore_n (i := 2) rfl rfl (Nat.le_of_ble_eq_true rfl) ?_
          first | refine mw_ninc rfl rfl (Nat.le_of_ble_eq_true rfl) ?_ | refine mw_iinc rfl rfl rfl (Nat.le_of_ble_eq_true rfl) ?_
          refine mw_goto rfl ?_
          refine mw_locals ?_ ih
          rw [show insN S f (j + 1) = insN S f j + 1 by simp [insN, he]]
          rfl
  exact mw_locals rfl (loop 0 (Nat.zero_le _))
def FARN : Nat := 1000001
def litN (c : Nat → Nat) (x : Int32) : Nat := if x < 0 then 0 else c x.toNatClampNeg
def coS (v : Nat → Nat) (S : HoS) (c : Nat → Nat) (i : Nat) : Nat := itN (fun a s => s + litN c (S.2.2.2.1 (3 * i + a))) (v (45 + 18 * S.2.1 i)) 3
def coB (v : Nat → Nat) (S : HoS) (c : Nat → Nat) (i : Nat) : Nat := if 1000001 < coS v S c i then 1000001 else coS v S c i
theorem litN_le {c : Nat → Nat} {x : Int32} {b : Nat} (hc : ∀ f, f < 216 → c f ≤ b) (hx : x < 0 ∨ ∃ f, f < 216 ∧ x = nI f) : litN c x ≤ b := by
  unfold litN
  split
  · exact Nat.zero_le _
  · rename_i q
    rcases hx with hx | ⟨f, hf, rfl⟩
    · exact absurd hx q
    · rw [nI_clamp (by omega)]
      exact hc f hf
theorem c_costBy (d n : Nat) (i : Nat) (w : Nat → Int32) (v c : Nat → Nat) (S : HoS) (h : Nat → MC) (hO : h 178 = RO w) (hv : h 179 = .inl (.int, 189, .inl (vI v))) (hcs : h 192 = .inl (.int, 216, .inl (vI c))) (hok : OkN v) (hS : HoOk v S) (hA : HoAt h S) (hi : i < S.1) (hcb : ∀ f, f < 216 → c f ≤ 1000001) : Fn M_X10_costBy d 0 0 [.ref 178, .int (nI i)] h n (some (.int (nI (coB v S c i)))) h := by
  obtain ⟨hru, hhd, hli⟩ := hA
  obtain ⟨h1728, hS⟩ := hS
  obtain ⟨hr, hh, hl⟩ := hS i hi
  have hpr := (hok.2.2.2.2.2.2 _ hr).2.1
  have hr8 := hok.2.2.2.1
  refine Fn.of fun post hp => ?_
  have hb : ∀ a, a ≤ 3 → itN (fun a s => s + litN c (S.2.2.2.1 (3 * i + a))) (v (45 + 18 * S.2.1 i)) a ≤ 9 + 1000001 * a := by
    intro a
    induction a with
    | zero => intro _; exact hpr
    | succ a ih =>
      intro ha
      have h1 := ih (by omega)
      have h2 := litN_le hcb (hl a (by omega))
      show itN (fun a s => s + litN c (S.2.2.2.1 (3 * i + a))) (v (45 + 18 * S.2.1 i)) a + litN c (S.2.2.2.1 (3 * i + a)) ≤ _
      omega
  refine mw_aload_n (i := 0) rfl rfl rfl ?_
  refine mw_getfield rfl f_X10_7 (by first | rfl | exact hO | exact hv | exact hru | exact hli | exact hcs) rfl ?_
  refine mw_bipush (v := nI 45) rfl (by decide) ?_
  refine mw_bipush (v := nI 18) rfl (by decide) ?_
  refine mw_aload_n (i := 0) rfl rfl rfl ?_
  refine mw_getfield rfl f_X10_41 (by first | rfl | exact hO | exact hv | exact hru | exact hli | exact hcs) rfl ?_
  refine mw_iload_n (i := 1) rfl rfl rfl ?_
  refine mw_iald rfl (by first | rfl | exact hO | exact hv | exact hru | exact hli | exact hcs) (by omega) (by omega) ?_
  first | refine mw_nmul rfl ?_ | refine mw_imul rfl ?_
  first | refine mw_nadd rfl ?_ | refine mw_iadd rfl ?_
  refine mw_iald rfl (by first | rfl | exact hO | exact hv | exact hru | exact hli | exact hcs) (by omega) (by omega) ?_
  refine mw_istore_n (i := 2) rfl rfl (Nat.le_of_ble_eq_true rfl) ?_
  refine mw_iconst (v := nI 0) rfl (by decide) ?_
  refine mw_istore_n (i := 3) rfl rfl (Nat.le_of_ble_eq_true rfl) ?_
  have loop : ∀ a, a ≤ 3 → MW M_X10_costBy d 0 0 n post 20 [(0, .ref 178), (1, .int (nI i)), (2, .int (nI (itN (fun a s => s + litN c (S.2.2.2.1 (3 * i + a))) (v (45 + 18 * S.2.1 i)) a))), (3, .int (nI a))] [] h n 0 := by
    refine loop_up 3 ?_ ?_
    · have h3 : coS v S c i ≤ 9 + 1000001 * 3 := hb 3 (Nat.le_refl _)
      show MW M_X10_costBy d 0 0 n post 20 [(0, .ref 178), (1, .int (nI i)), (2, .int (nI (coS v S c i))), (3, .int (nI 3))] [] h n 0
      refine mw_iload_n (i := 3) rfl rfl rfl ?_
      refine mw_iconst (v := nI 3) rfl (by decide) ?_
      refine mw_n_ge rfl (by omega) (by omega) (fun hc => ?_) (fun hc => ?_)
      · refine mw_iload_n (i := 2) rfl rfl rfl ?_
        refine mw_ldc (v := nI 1000001) rfl c_X10_198 ?_
        refine mw_n_le rfl (by omega) (by omega) (fun hgt => ?_) (fun hgt => ?_)
        · rw [show coB v S c i = coS v S c i by unfold coB; rw [if_neg (by omega)]] at hp
          refine mw_iload_n (i := 2) rfl rfl rfl ?_
          exact mw_ireturn rfl rfl rfl rfl (Nat.le_refl _) (hp)
        · rw [show coB v S c i = 1000001 by unfold coB; rw [if_pos hgt]] at hp
          refine mw_ldc (v := nI 1000001) rfl c_X10_198 ?_
          refine mw_goto rfl ?_
          exact mw_ireturn rfl rfl rfl rfl (Nat.le_refl _) (hp)
      · omega
    · intro a ha ih
      have hba := hb a (by omega)
      have hla := hl a ha
      refine mw_iload_n (i := 3) rfl rfl rfl ?_
      refine mw_iconst (v := nI 3) rfl (by decide) ?_
      refine mw_n_ge rfl (by omega) (by omega) (fun hc => ?_) (fun hc => ?_)
      · omega
      · generalize hX : S.2.2.2.1 (3 * i + a) = x at hla
        have eX : litN c (S.2.2.2.1 (3 * i + a)) = litN c x := by rw [hX]
        refine mw_aload_n (i := 0) rfl rfl rfl ?_
        refine mw_getfield rfl f_X10_47 (by first | rfl | exact hO | exact hv | exact hru | exact hli | exact hcs) rfl ?_
        refine mw_iconst (v := nI 3) rfl (by decide) ?_
        refine mw_iload_n (i := 1) rfl rfl rfl ?_
        first | refine mw_nmul rfl ?_ | refine mw_imul rfl ?_
        refine mw_iload_n (i := 3) rfl rfl rfl ?_
        first | refine mw_nadd rfl ?_ | refine mw_iadd rfl ?_
        refine mw_iald_v (v := x) rfl hli (by omega) (by omega) hX ?_
        refine mw_istore rfl (Nat.le_of_ble_eq_true rfl) ?_
        refine mw_iload_n (i := 2) rfl rfl rfl ?_
        refine mw_iload rfl rfl ?_
        refine mw_if_ge rfl (fun hge => ?_) (fun hge => ?_)
        · obtain ⟨f, hf, rfl⟩ : ∃ f, f < 216 ∧ x = nI f := by
            rcases hla with q | q
            · exact absurd hge (Int32.not_le.mpr q)
            · exact q
          rw [show itN (fun a s => s + litN c (S.2.2.2.1 (3 * i + a))) (v (45 + 18 * S.2.1 i)) (a + 1) = itN (fun a s => s + litN c (S.2.2.2.1 (3 * i + a))) (v (45 + 18 * S.2.1 i)) a + c f by
            show _ + litN c (S.2.2.2.1 (3 * i + a)) = _
            rw [eX]
            unfold litN
            rw [if_neg (nI_pos (by omega)), nI_clamp (by omega)]] at ih
          refine mw_aload_n (i := 0) rfl rfl rfl ?_
          refine mw_getfield rfl f_X10_50 (by first | rfl | exact hO | exact hv | exact hru | exact hli | exact hcs) rfl ?_
          refine mw_iload rfl rfl ?_
          refine mw_iald rfl (by first | rfl | exact hO | exact hv | exact hru | exact hli | exact hcs) (by omega) (by omega) ?_
          first | refine mw_nadd rfl ?_ | refine mw_iadd rfl ?_
          refine mw_istore_n (i := 2) rfl rfl (Nat.le_of_ble_eq_true rfl) ?_
          first | refine mw_ninc rfl rfl (Nat.le_of_ble_eq_true rfl) ?_ | refine mw_iinc rfl rfl rfl (Nat.le_of_ble_eq_true rfl) ?_
          refine mw_goto rfl ?_
          exact mw_locals rfl ih
        · rw [show itN (fun a s => s + litN c (S.2.2.2.1 (3 * i + a))) (v (45 + 18 * S.2.1 i)) (a + 1) = itN (fun a s => s + litN c (S.2.2.2.1 (3 * i + a))) (v (45 + 18 * S.2.1 i)) a + 0 by
            show _ + litN c (S.2.2.2.1 (3 * i + a)) = _
            rw [eX]
            unfold litN
            rw [if_pos (Int32.not_le.mp hge)]] at ih
          refine mw_iconst (v := nI 0) rfl (by decide) ?_
          refine mw_goto rfl ?_
          first | refine mw_nadd rfl ?_ | refine mw_iadd rfl ?_
          refine mw_istore_n (i := 2) rfl rfl (Nat.le_of_ble_eq_true rfl) ?_
          first | refine mw_ninc rfl rfl (Nat.le_of_ble_eq_true rfl) ?_ | refine mw_iinc rfl rfl rfl (Nat.le_of_ble_eq_true rfl) ?_
          refine mw_goto rfl ?_
          exact mw_locals rfl ih
  exact mw_locals rfl (loop 0 (Nat.zero_le _))
def coI (v : Nat → Nat) (S : HoS) (i : Nat) (p : (Nat → Nat) × Bool) : (Nat → Nat) × Bool :=
  if coB v S p.1 i < p.1 (S.2.2.1 i) then (updN p.1 (S.2.2.1 i) (coB v S p.1 i), true) else p
def coP (v : Nat → Nat) (S : HoS) (c : Nat → Nat) : (Nat → Nat) × Bool := itN (coI v S) (c, false) S.1
def coU (v : Nat → Nat) (k : Nat) (c : Nat → Nat) : Nat → Nat := updN c (v (9 + 3 * k)) (if v (9 + 3 * k + 1) < c (v (9 + 3 * k)) then v (9 + 3 * k + 1) else c (v (9 + 3 * k)))
def coBase (v : Nat → Nat) : Nat → Nat := itN (coU v) (fun _ => 1000001) (v 1)
/-- c is where the passes from c0 come to rest -/
def IsLim {α : Type} (P : α → α) (c0 c : α) : Prop := ∃ k, c = itN (fun _ => P) c0 k ∧ P c = c
theorem IsLim.uniq {α : Type} {P : α → α} {c0 c c' : α} (h : IsLim P c0 c) (h' : IsLim P c0 c') : c = c' := by
  obtain ⟨k, rfl, e⟩ := h
  obtain ⟨k', rfl, e'⟩ := h'
  rcases Nat.le_total k k' with q | q
  · exact (itN_stay q e).symm
  · exact itN_stay q e'
theorem lim_ex {α : Type} {P : α → α} (I : α → Prop) (μ : α → Nat) (hI : ∀ a, I a → I (P a)) (h : ∀ a, I a → P a = a ∨ μ (P a) < μ a) : ∀ (m : Nat) (c0 : α), μ c0 ≤ m → I c0 → ∃ c, IsLim P c0 c := by
  intro m
  induction m with
  | zero =>
    intro c0 hm h0
    rcases h c0 h0 with q | q
    · exact ⟨c0, 0, rfl, q⟩
    · omega
  | succ m ih =>
    intro c0 hm h0
    rcases h c0 h0 with q | q
    · exact ⟨c0, 0, rfl, q⟩
    · obtain ⟨c, k, rfl, e⟩ := ih (P c0) (by omega) (hI c0 h0)
      exact ⟨_, k + 1, itN_first _ _ _, e⟩
theorem coI_sum {v : Nat → Nat} {S : HoS} (hS : HoOk v S) {i s0 : Nat} (hi : i < S.1) {p : (Nat → Nat) × Bool} (h : sumN p.1 216 ≤ s0 ∧ (p.2 = true → sumN p.1 216 < s0)) : sumN (coI v S i p).1 216 ≤ s0 ∧ ((coI v S i p).2 = true → sumN (coI v S i p).1 216 < s0) := by
  unfold coI
  split
  · rename_i hlt
    have h1 := sumN_upd p.1 (S.2.2.1 i) (coB v S p.1 i) 216 (hS.2 i hi).2.1
    have h2 : sumN (updN p.1 (S.2.2.1 i) (coB v S p.1 i)) 216 < s0 := by omega
    exact ⟨Nat.le_of_lt h2, fun _ => h2⟩
  · exact h
theorem coI_same {v : Nat → Nat} {S : HoS} {c : Nat → Nat} {i : Nat} {p : (Nat → Nat) × Bool} (h : p.2 = true ∨ p.1 = c) : (coI v S i p).2 = true ∨ (coI v S i p).1 = c := by
  unfold coI
  split
  · exact Or.inl rfl
  · exact h
set_option maxRecDepth 100000 in
theorem coP_flag {v : Nat → Nat} {S : HoS} (hS : HoOk v S) (c : Nat → Nat) : ((coP v S c).2 = true → sumN (coP v S c).1 216 < sumN c 216) ∧ ((coP v S c).2 = false → (coP v S c).1 = c) := by
  have h1 := itN_inv (P := fun p : (Nat → Nat) × Bool => sumN p.1 216 ≤ sumN c 216 ∧ (p.2 = true → sumN p.1 216 < sumN c 216)) (s := coI v S) (N := S.1) (fun i hi p hp => coI_sum hS hi hp) S.1 (Nat.le_refl _) (a := (c, false)) ⟨Nat.le_refl _, fun q => absurd (show false = true from q) (by decide)⟩
  have h2 := itN_inv (P := fun p : (Nat → Nat) × Bool => p.2 = true ∨ p.1 = c) (s := coI v S) (N := S.1) (fun i _ p hp => coI_same hp) S.1 (Nat.le_refl _) (a := (c, false)) (Or.inr rfl)
  exact ⟨h1.2, fun q => h2.resolve_left (by show ¬ (coP v S c).2 = true; rw [q]; decide)⟩
theorem coLim {v : Nat → Nat} {S : HoS} (hS : HoOk v S) (c0 : Nat → Nat) : ∃ c, IsLim (fun c => (coP v S c).1) c0 c :=
  lim_ex (fun _ => True) (fun c => sumN c 216) (fun _ _ => trivial) (fun c _ => by
    have h := coP_flag hS c
    cases q : (coP v S c).2
    · exact Or.inl (h.2 q)
    · exact Or.inr (h.1 q)) (sumN c0 216) c0 (Nat.le_refl _) trivial
theorem coB_le (v : Nat → Nat) (S : HoS) (c : Nat → Nat) (i : Nat) : coB v S c i ≤ 1000001 := by
  unfold coB
  split <;> omega
def CoF (c : Nat → Nat) : Prop := ∀ f, c f ≤ 1000001
theorem coI_F {v : Nat → Nat} {S : HoS} {i : Nat} {p : (Nat → Nat) × Bool} (h : CoF p.1) : CoF (coI v S i p).1 := by
  unfold coI
  split
  · intro f
    show updN _ _ _ f ≤ _
    unfold updN
    split
    · exact coB_le _ _ _ _
    · exact h f
  · exact h
theorem coIs_F {v : Nat → Nat} {S : HoS} {p : (Nat → Nat) × Bool} (h : CoF p.1) : ∀ k, CoF (itN (coI v S) p k).1
  | 0 => h
  | k + 1 => coI_F (coIs_F h k)
theorem coBase_F {v : Nat → Nat} : CoF (coBase v) := by
  have h : ∀ k, CoF (itN (coU v) (fun _ => 1000001) k) := by
    intro k
    induction k with
    | zero => intro f; exact Nat.le_refl _
    | succ k ih =>
      intro f
      show updN _ _ _ f ≤ _
      unfold updN
      split
      · split
        · rename_i q
          have := ih (v (9 + 3 * k))
          omega
        · exact ih _
      · exact ih f
  exact h _
theorem coIt_F {v : Nat → Nat} {S : HoS} : ∀ k, CoF (itN (fun _ c => (coP v S c).1) (coBase v) k)
  | 0 => coBase_F
  | k + 1 => coIs_F (coIt_F k) S.1
theorem c_findCosts (d n : Nat) (w : Nat → Int32) (v c0 c : Nat → Nat) (S : HoS) (h : Nat → MC) (hO : h 178 = RO w) (hw : w 6 = nI S.1) (hv : h 179 = .inl (.int, 189, .inl (vI v))) (hcs : h 192 = .inl (.int, 216, .inl (vI c0))) (hok : OkN v) (hS : HoOk v S) (hA : HoAt h S) (hl : IsLim (fun c => (coP v S c).1) (coBase v) c) : Fn M_X10_findCosts (d + 1) 0 0 [.ref 178] h n none (mov [(192, .inl (.int, 216, .inl (vI c)))] h) := by
  have hA0 := hA
  obtain ⟨hru, hhd, hli⟩ := hA
  have hf12 := hok.2.2.1
  have h1728 := hS.1
  obtain ⟨K, rfl, hfix⟩ := hl
  refine Fn.of fun post hp => ?_
  have loopI : ∀ c : Nat → Nat, CoF c → MW M_X10_findCosts (d + 1) 0 0 n post 105 [(0, .ref 178), (1, .int (bI (coP v S c).2))] [] (mov [(192, .inl (.int, 216, .inl (vI (coP v S c).1)))] h) n 0 → ∀ i, i ≤ S.1 → MW M_X10_findCosts (d + 1) 0 0 n post 113 [(0, .ref 178), (1, .int (bI (itN (coI v S) (c, false) i).2)), (2, .int (nI i))] [] (mov [(192, .inl (.int, 216, .inl (vI (itN (coI v S) (c, false) i).1)))] h) n 0 := by
    intro c hc k
    refine loop_up S.1 ?_ ?_
    · refine mw_iload_n (i := 2) rfl rfl rfl ?_
      refine mw_aload_n (i := 0) rfl rfl rfl ?_
      refine mw_getfield rfl f_X10_157 (by first | rfl | exact hO | exact hv | exact hhd) rfl ?_
      rw [hw]
      refine mw_n_ge rfl (by omega) (by omega) (fun q => ?_) (fun q => ?_)
      · refine mw_goto rfl ?_
        exact mw_locals rfl k
      · omega
    · intro i hi ih
      have hT := coIs_F (v := v) (S := S) (p := (c, false)) hc i
      have hhi := (hS.2 i hi).2.1
      generalize hQ : itN (coI v S) (c, false) i = Q at hT ⊢
      have eQ : itN (coI v S) (c, false) (i + 1) = coI v S i Q := by rw [← hQ]; rfl
      rw [eQ] at ih
      have b1 := hT (S.2.2.1 i)
      have b2 := coB_le v S Q.1 i
      refine mw_iload_n (i := 2) rfl rfl rfl ?_
      refine mw_aload_n (i := 0) rfl rfl rfl ?_
      refine mw_getfield rfl f_X10_157 (by first | rfl | exact hO | exact hv | exact hhd) rfl ?_
      rw [hw]
      refine mw_n_ge rfl (by omega) (by omega) (fun q => ?_) (fun q => ?_)
      · omega
      · refine mw_aload_n (i := 0) rfl rfl rfl ?_
        refine mw_iload_n (i := 2) rfl rfl rfl ?_
        refine mw_callV_f (c_costBy d n i w v Q.1 S _ hO hv rfl hok hS ⟨hru, hhd, hli⟩ hi (fun f _ => hT f)) rfl ok_X10_costBy v_X10_199 rfl (by first | rfl | exact hO | exact hv | exact hhd) (by intro e; cases e) rfl (Nat.le_of_ble_eq_true rfl) rfl (Nat.le_of_ble_eq_true rfl) (by omega) (by omega) (by omega) ?_
        refine mw_istore_n (i := 3) rfl rfl (Nat.le_of_ble_eq_true rfl) ?_
        refine mw_iload_n (i := 3) rfl rfl rfl ?_
        refine mw_aload_n (i := 0) rfl rfl rfl ?_
        refine mw_getfield rfl f_X10_50 (by first | rfl | exact hO | exact hv | exact hhd) rfl ?_
        refine mw_aload_n (i := 0) rfl rfl rfl ?_
        refine mw_getfield rfl f_X10_44 (by first | rfl | exact hO | exact hv | exact hhd) rfl ?_
        refine mw_iload_n (i := 2) rfl rfl rfl ?_
        refine mw_iald rfl (by first | rfl | exact hO | exact hv | exact hhd) (by omega) (by omega) ?_
        refine mw_iald rfl (by first | rfl | exact hO | exact hv | exact hhd) (by omega) (by omega) ?_
        refine mw_n_ge rfl (by omega) (by omega) (fun hlt => ?_) (fun hlt => ?_)
        · rw [show coI v S i Q = Q by unfold coI; rw [if_neg (by omega)]] at ih
          first | refine mw_ninc rfl rfl (Nat.le_of_ble_eq_true rfl) ?_ | refine mw_iinc rfl rfl rfl (Nat.le_of_ble_eq_true rfl) ?_
          refine mw_goto rfl ?_
          exact mw_locals rfl ih
        · rw [show coI v S i Q = (updN Q.1 (S.2.2.1 i) (coB v S Q.1 i), true) by unfold coI; rw [if_pos hlt]] at ih
          refine mw_aload_n (i := 0) rfl rfl rfl ?_
          refine mw_getfield rfl f_X10_50 (by first | rfl | exact hO | exact hv | exact hhd) rfl ?_
          refine mw_aload_n (i := 0) rfl rfl rfl ?_
          refine mw_getfield rfl f_X10_44 (by first | rfl | exact hO | exact hv | exact hhd) rfl ?_
          refine mw_iload_n (i := 2) rfl rfl rfl ?_
          refine mw_iald rfl (by first | rfl | exact hO | exact hv | exact hhd) (by omega) (by omega) ?_
          refine mw_iload_n (i := 3) rfl rfl rfl ?_
          refine mw_iast_m rfl (by first | rfl | exact hO | exact hv | exact hhd) (by omega) (by omega) ?_
          first | rw [vI_upd] | rw [vI_updv] | skip
          refine mw_iconst (v := nI 1) rfl (by decide) ?_
          refine mw_istore_n (i := 1) rfl rfl (Nat.le_of_ble_eq_true rfl) ?_
          first | refine mw_ninc rfl rfl (Nat.le_of_ble_eq_true rfl) ?_ | refine mw_iinc rfl rfl rfl (Nat.le_of_ble_eq_true rfl) ?_
          refine mw_goto rfl ?_
          exact mw_locals rfl ih
  have loopW : ∀ j, j ≤ K → ∀ fl : Bool, fl = true ∨ (coP v S (itN (fun _ c => (coP v S c).1) (coBase v) j)).1 = itN (fun _ c => (coP v S c).1) (coBase v) j → MW M_X10_findCosts (d + 1) 0 0 n post 105 [(0, .ref 178), (1, .int (bI fl))] [] (mov [(192, .inl (.int, 216, .inl (vI (itN (fun _ c => (coP v S c).1) (coBase v) j))))] h) n 0 := by
    have hrest : ∀ j, j ≤ K → (coP v S (itN (fun _ c => (coP v S c).1) (coBase v) j)).1 = itN (fun _ c => (coP v S c).1) (coBase v) j → MW M_X10_findCosts (d + 1) 0 0 n post 105 [(0, .ref 178), (1, .int (bI false))] [] (mov [(192, .inl (.int, 216, .inl (vI (itN (fun _ c => (coP v S c).1) (coBase v) j))))] h) n 0 := by
      intro j hj e
      rw [← itN_stay hj e]
      refine mw_iload_n (i := 1) rfl rfl rfl ?_
      refine mw_b_eq rfl (fun q => ?_) (fun q => ?_)
      · exact mw_return rfl rfl rfl (Nat.le_refl _) (hp)
      · cases q
    have hboth : ∀ j, j ≤ K → (coP v S (itN (fun _ c => (coP v S c).1) (coBase v) j)).1 = itN (fun _ c => (coP v S c).1) (coBase v) j → ∀ fl : Bool, MW M_X10_findCosts (d + 1) 0 0 n post 105 [(0, .ref 178), (1, .int (bI fl))] [] (mov [(192, .inl (.int, 216, .inl (vI (itN (fun _ c => (coP v S c).1) (coBase v) j))))] h) n 0 := by
      intro j hj e fl
      cases fl
      · exact hrest j hj e
      · have hF := coIt_F (v := v) (S := S) j
        have hfl := coP_flag hS (itN (fun _ c => (coP v S c).1) (coBase v) j)
        have hr := hrest j hj e
        generalize itN (fun _ c => (coP v S c).1) (coBase v) j = c at e hF hfl hr ⊢
        have h2 : (coP v S c).2 = false := by
          cases q : (coP v S c).2
          · rfl
          · have := hfl.1 q
            rw [e] at this
            omega
        refine mw_iload_n (i := 1) rfl rfl rfl ?_
        refine mw_b_eq rfl (fun q => ?_) (fun q => ?_)
        · cases q
        · refine mw_iconst (v := nI 0) rfl (by decide) ?_
          refine mw_istore_n (i := 1) rfl rfl (Nat.le_of_ble_eq_true rfl) ?_
          refine mw_iconst (v := nI 0) rfl (by decide) ?_
          refine mw_istore_n (i := 2) rfl rfl (Nat.le_of_ble_eq_true rfl) ?_
          exact mw_locals rfl (loopI c hF (by rw [h2, e]; exact hr) 0 (Nat.zero_le _))
    refine loop_up (P := fun j => ∀ fl : Bool, fl = true ∨ (coP v S (itN (fun _ c => (coP v S c).1) (coBase v) j)).1 = itN (fun _ c => (coP v S c).1) (coBase v) j → MW M_X10_findCosts (d + 1) 0 0 n post 105 [(0, .ref 178), (1, .int (bI fl))] [] (mov [(192, .inl (.int, 216, .inl (vI (itN (fun _ c => (coP v S c).1) (coBase v) j))))] h) n 0) K (fun fl _ => hboth K (Nat.le_refl _) hfix fl) ?_
    intro j hj ih fl hfl0
    by_cases e : (coP v S (itN (fun _ c => (coP v S c).1) (coBase v) j)).1 = itN (fun _ c => (coP v S c).1) (coBase v) j
    · exact hboth j (by omega) e fl
    · have hfl0 := hfl0.resolve_right e
      subst hfl0
      have hF := coIt_F (v := v) (S := S) j
      have hfl := coP_flag hS (itN (fun _ c => (coP v S c).1) (coBase v) j)
      have ih2 : ∀ fl : Bool, fl = true ∨ _ → _ := ih
      have ih3 := ih (coP v S (itN (fun _ c => (coP v S c).1) (coBase v) j)).2
      have ee : itN (fun _ c => (coP v S c).1) (coBase v) (j + 1) = (coP v S (itN (fun _ c => (coP v S c).1) (coBase v) j)).1 := rfl
      rw [ee] at ih3
      generalize itN (fun _ c => (coP v S c).1) (coBase v) j = c at e hF hfl ih3 ⊢
      have h2 : (coP v S c).2 = true := by
        cases q : (coP v S c).2
        · exact absurd (hfl.2 q) e
        · rfl
      refine mw_iload_n (i := 1) rfl rfl rfl ?_
      refine mw_b_eq rfl (fun q => ?_) (fun q => ?_)
      · cases q
      · refine mw_iconst (v := nI 0) rfl (by decide) ?_
        refine mw_istore_n (i := 1) rfl rfl (Nat.le_of_ble_eq_true rfl) ?_
        refine mw_iconst (v := nI 0) rfl (by decide) ?_
        refine mw_istore_n (i := 2) rfl rfl (Nat.le_of_ble_eq_true rfl) ?_
        exact mw_locals rfl (loopI c hF (ih3 (Or.inl h2)) 0 (Nat.zero_le _))
  have loopF : ∀ k, k ≤ v 1 → MW M_X10_findCosts (d + 1) 0 0 n post 25 [(0, .ref 178), (1, .int (nI k))] [] (mov [(192, .inl (.int, 216, .inl (vI (itN (coU v) (fun _ => 1000001) k))))] h) n 0 := by
    refine loop_up (v 1) ?_ ?_
    · refine mw_iload_n (i := 1) rfl rfl rfl ?_
      refine mw_aload_n (i := 0) rfl rfl rfl ?_
      refine mw_getfield rfl f_X10_7 (by first | rfl | exact hO | exact hv | exact hhd) rfl ?_
      refine mw_iconst (v := nI 1) rfl (by decide) ?_
      refine mw_iald rfl (by first | rfl | exact hO | exact hv | exact hhd) (by omega) (by omega) ?_
      refine mw_n_ge rfl (by omega) (by omega) (fun q => ?_) (fun q => ?_)
      · refine mw_iconst (v := nI 1) rfl (by decide) ?_
        refine mw_istore_n (i := 1) rfl rfl (Nat.le_of_ble_eq_true rfl) ?_
        exact mw_locals rfl (loopW 0 (Nat.zero_le _) true (Or.inl rfl))
      · omega
    · intro k hk ih
      obtain ⟨hf1, hf2, -⟩ := hok.2.2.2.2.2.1 k hk
      have hbF : ∀ k, CoF (itN (coU v) (fun _ => 1000001) k) := by
        intro k
        induction k with
        | zero => intro f; exact Nat.le_refl _
        | succ k ih =>
          intro f
          show updN _ _ _ f ≤ _
          unfold updN
          split
          · split
            · have := ih (v (9 + 3 * k))
              omega
            · exact ih _
          · exact ih f
      have b1 := hbF k (v (9 + 3 * k))
      generalize hQ : itN (coU v) (fun _ => 1000001) k = Q at b1 ⊢
      have eQ : itN (coU v) (fun _ => 1000001) (k + 1) = coU v k Q := by rw [← hQ]; rfl
      rw [eQ] at ih
      refine mw_iload_n (i := 1) rfl rfl rfl ?_
      refine mw_aload_n (i := 0) rfl rfl rfl ?_
      refine mw_getfield rfl f_X10_7 (by first | rfl | exact hO | exact hv | exact hhd) rfl ?_
      refine mw_iconst (v := nI 1) rfl (by decide) ?_
      refine mw_iald rfl (by first | rfl | exact hO | exact hv | exact hhd) (by omega) (by omega) ?_
      refine mw_n_ge rfl (by omega) (by omega) (fun q => ?_) (fun q => ?_)
      · omega
      · refine mw_aload_n (i := 0) rfl rfl rfl ?_
        refine mw_getfield rfl f_X10_7 (by first | rfl | exact hO | exact hv | exact hhd) rfl ?_
        refine mw_bipush (v := nI 9) rfl (by decide) ?_
        refine mw_iconst (v := nI 3) rfl (by decide) ?_
        refine mw_iload_n (i := 1) rfl rfl rfl ?_
        first | refine mw_nmul rfl ?_ | refine mw_imul rfl ?_
        first | refine mw_nadd rfl ?_ | refine mw_iadd rfl ?_
        refine mw_iald rfl (by first | rfl | exact hO | exact hv | exact hhd) (by omega) (by omega) ?_
        refine mw_istore_n (i := 2) rfl rfl (Nat.le_of_ble_eq_true rfl) ?_
        refine mw_aload_n (i := 0) rfl rfl rfl ?_
        refine mw_getfield rfl f_X10_50 (by first | rfl | exact hO | exact hv | exact hhd) rfl ?_
        refine mw_iload_n (i := 2) rfl rfl rfl ?_
        refine mw_aload_n (i := 0) rfl rfl rfl ?_
        refine mw_getfield rfl f_X10_7 (by first | rfl | exact hO | exact hv | exact hhd) rfl ?_
        refine mw_bipush (v := nI 9) rfl (by decide) ?_
        refine mw_iconst (v := nI 3) rfl (by decide) ?_
        refine mw_iload_n (i := 1) rfl rfl rfl ?_
        first | refine mw_nmul rfl ?_ | refine mw_imul rfl ?_
        first | refine mw_nadd rfl ?_ | refine mw_iadd rfl ?_
        refine mw_iconst (v := nI 1) rfl (by decide) ?_
        first | refine mw_nadd rfl ?_ | refine mw_iadd rfl ?_
        refine mw_iald rfl (by first | rfl | exact hO | exact hv | exact hhd) (by omega) (by omega) ?_
        refine mw_aload_n (i := 0) rfl rfl rfl ?_
        refine mw_getfield rfl f_X10_50 (by first | rfl | exact hO | exact hv | exact hhd) rfl ?_
        refine mw_iload_n (i := 2) rfl rfl rfl ?_
        refine mw_iald rfl (by first | rfl | exact hO | exact hv | exact hhd) (by omega) (by omega) ?_
        refine mw_n_ge rfl (by omega) (by omega) (fun hlt => ?_) (fun hlt => ?_)
        · rw [show coU v k Q = updN Q (v (9 + 3 * k)) (Q (v (9 + 3 * k))) by unfold coU; rw [if_neg (by omega)]] at ih
          refine mw_aload_n (i := 0) rfl rfl rfl ?_
          refine mw_getfield rfl f_X10_50 (by first | rfl | exact hO | exact hv | exact hhd) rfl ?_
          refine mw_iload_n (i := 2) rfl rfl rfl ?_
          refine mw_iald rfl (by first | rfl | exact hO | exact hv | exact hhd) (by omega) (by omega) ?_
          refine mw_iast_m rfl (by first | rfl | exact hO | exact hv | exact hhd) (by omega) (by omega) ?_
          first | rw [vI_upd] | rw [vI_updv] | skip
          first | refine mw_ninc rfl rfl (Nat.le_of_ble_eq_true rfl) ?_ | refine mw_iinc rfl rfl rfl (Nat.le_of_ble_eq_true rfl) ?_
          refine mw_goto rfl ?_
          exact mw_locals rfl ih
        · rw [show coU v k Q = updN Q (v (9 + 3 * k)) (v (9 + 3 * k + 1)) by unfold coU; rw [if_pos hlt]] at ih
          refine mw_aload_n (i := 0) rfl rfl rfl ?_
          refine mw_getfield rfl f_X10_7 (by first | rfl | exact hO | exact hv | exact hhd) rfl ?_
          refine mw_bipush (v := nI 9) rfl (by decide) ?_
          refine mw_iconst (v := nI 3) rfl (by decide) ?_
          refine mw_iload_n (i := 1) rfl rfl rfl ?_
          first | refine mw_nmul rfl ?_ | refine mw_imul rfl ?_
          first | refine mw_nadd rfl ?_ | refine mw_iadd rfl ?_
          refine mw_iconst (v := nI 1) rfl (by decide) ?_
          first | refine mw_nadd rfl ?_ | refine mw_iadd rfl ?_
          refine mw_iald rfl (by first | rfl | exact hO | exact hv | exact hhd) (by omega) (by omega) ?_
          refine mw_goto rfl ?_
          refine mw_iast_m rfl (by first | rfl | exact hO | exact hv | exact hhd) (by omega) (by omega) ?_
          first | rw [vI_upd] | rw [vI_updv] | skip
          first | refine mw_ninc rfl rfl (Nat.le_of_ble_eq_true rfl) ?_ | refine mw_iinc rfl rfl rfl (Nat.le_of_ble_eq_true rfl) ?_
          refine mw_goto rfl ?_
          exact mw_locals rfl ih
  have loopA : ∀ k, k ≤ 216 → MW M_X10_findCosts (d + 1) 0 0 n post 2 [(0, .ref 178), (1, .int (nI k))] [] (mov [(192, .inl (.int, 216, .inl (vI (fun j => if j < k ∨ 216 ≤ j then 1000001 else c0 j))))] h) n 0 := by
    refine loop_up 216 ?_ ?_
    · refine mw_iload_n (i := 1) rfl rfl rfl ?_
      refine mw_sipush (v := nI 216) rfl (by decide) ?_
      refine mw_n_ge rfl (by omega) (by omega) (fun q => ?_) (fun q => ?_)
      · rw [show (fun j => if j < 216 ∨ 216 ≤ j then 1000001 else c0 j) = (fun _ => 1000001) by funext j; rw [if_pos (by omega)]]
        refine mw_iconst (v := nI 0) rfl (by decide) ?_
        refine mw_istore_n (i := 1) rfl rfl (Nat.le_of_ble_eq_true rfl) ?_
        exact mw_locals rfl (loopF 0 (Nat.zero_le _))
      · omega
    · intro k hk ih
      refine mw_iload_n (i := 1) rfl rfl rfl ?_
      refine mw_sipush (v := nI 216) rfl (by decide) ?_
      refine mw_n_ge rfl (by omega) (by omega) (fun q => ?_) (fun q => ?_)
      · omega
      · refine mw_aload_n (i := 0) rfl rfl rfl ?_
        refine mw_getfield rfl f_X10_50 (by first | rfl | exact hO | exact hv | exact hhd) rfl ?_
        refine mw_iload_n (i := 1) rfl rfl rfl ?_
        refine mw_ldc (v := nI 1000001) rfl c_X10_198 ?_
        refine mw_iast_m rfl (by first | rfl | exact hO | exact hv | exact hhd) (by omega) (by omega) ?_
        first | rw [vI_upd] | rw [vI_updv] | skip
        first | refine mw_ninc rfl rfl (Nat.le_of_ble_eq_true rfl) ?_ | refine mw_iinc rfl rfl rfl (Nat.le_of_ble_eq_true rfl) ?_
        refine mw_goto rfl ?_
        refine mw_locals rfl (mw_heap (heap1N fun i => ?_) ih)
        simp only [updN]
        by_cases q : i = k
        · rw [if_pos q, if_pos (by omega)]
        · rw [if_neg q]
          have q3 : (i < k + 1 ∨ 216 ≤ i) ↔ (i < k ∨ 216 ≤ i) := by omega
          simp only [q3]
  refine mw_tail (K := 192) (vI (fun j => if j < 0 ∨ 216 ≤ j then 1000001 else c0 j)) hcs (fun j hj => by simp only [vI]; rw [if_neg (by omega)]) ?_
  rw [hset_1]
  refine mw_iconst (v := nI 0) rfl (by decide) ?_
  refine mw_istore_n (i := 1) rfl rfl (Nat.le_of_ble_eq_true rfl) ?_
  exact mw_locals rfl (loopA 0 (by omega))
