/-- the reference's scratch rows -/
abbrev RD : Type := (Nat → Nat) × (Nat → Nat) × (Nat → Bool) × (Nat → Int32) × (Nat → Int32) × (Nat → Nat) × (Nat → Nat) × (Nat → Int32) × (Nat → Nat) × (Nat → UInt32) × (Nat → Int32) × (Nat → Nat) × (Nat → Nat) × (Nat → Nat) × (Nat → Bool)
abbrev RD.st (x : RD) : Nat → Nat := x.1
abbrev RD.b (x : RD) : Nat → Nat := x.2.1
abbrev RD.nb (x : RD) : Nat → Bool := x.2.2.1
abbrev RD.m (x : RD) : Nat → Int32 := x.2.2.2.1
abbrev RD.o (x : RD) : Nat → Int32 := x.2.2.2.2.1
abbrev RD.ru (x : RD) : Nat → Nat := x.2.2.2.2.2.1
abbrev RD.hd (x : RD) : Nat → Nat := x.2.2.2.2.2.2.1
abbrev RD.li (x : RD) : Nat → Int32 := x.2.2.2.2.2.2.2.1
abbrev RD.c (x : RD) : Nat → Nat := x.2.2.2.2.2.2.2.2.1
abbrev RD.l (x : RD) : Nat → UInt32 := x.2.2.2.2.2.2.2.2.2.1
abbrev RD.lr (x : RD) : Nat → Int32 := x.2.2.2.2.2.2.2.2.2.2.1
abbrev RD.lb (x : RD) : Nat → Nat := x.2.2.2.2.2.2.2.2.2.2.2.1
abbrev RD.z (x : RD) : Nat → Nat := x.2.2.2.2.2.2.2.2.2.2.2.2.1
abbrev RD.u (x : RD) : Nat → Nat := x.2.2.2.2.2.2.2.2.2.2.2.2.2.1
abbrev RD.D (x : RD) : Nat → Bool := x.2.2.2.2.2.2.2.2.2.2.2.2.2.2
abbrev mkR (st : Nat → Nat) (b : Nat → Nat) (nb : Nat → Bool) (m : Nat → Int32) (o : Nat → Int32) (ru : Nat → Nat) (hd : Nat → Nat) (li : Nat → Int32) (c : Nat → Nat) (l : Nat → UInt32) (lr : Nat → Int32) (lb : Nat → Nat) (z : Nat → Nat) (u : Nat → Nat) (D : Nat → Bool) : RD := (st, b, nb, m, o, ru, hd, li, c, l, lr, lb, z, u, D)
abbrev rcL (w : Nat → Int32) (x : RD) : MLs := [(178, RO w), (184, .inl (.int, 6, .inl (vI x.st))), (185, .inl (.int, 3, .inl (vI x.b))), (186, .inl (.int, 216, .inl x.m)), (187, .inl (.int, 216, .inl x.o)), (188, .inl (.boolean, 216, .inl (bIf x.nb))), (189, .inl (.int, 1728, .inl (vI x.ru))), (190, .inl (.int, 1728, .inl (vI x.hd))), (191, .inl (.int, 5184, .inl x.li)), (192, .inl (.int, 216, .inl (vI x.c))), (193, .inl (.float, 216, .inr (.inr (.inl x.l)))), (194, .inl (.int, 216, .inl x.lr)), (195, .inl (.int, 216, .inl (vI x.lb))), (196, .inl (.int, 216, .inl (vI x.z))), (197, .inl (.int, 216, .inl (vI x.u))), (198, .inl (.boolean, 216, .inl (bIf x.D)))]
/-- the rows are what the world holds -/
def RAt (h : Nat → MC) (w : Nat → Int32) (x : RD) : Prop := mov (rcL w x) h = h
/-- the rows hold what is found of v -/
def FndM (v : Nat → Nat) (w : Nat → Int32) (x : RD) (S : HoS) : Prop := x.m = (mdlV v x.st (nI 0)).1 ∧ w 7 = nI (mdlV v x.st (nI 0)).2 ∧ (∃ (ru0 hd0 b0 : Nat → Nat) (li0 : Nat → Int32), S = hoF v x.m (0, ru0, hd0, li0, b0)) ∧ w 6 = nI S.1 ∧ x.ru = S.2.1 ∧ x.hd = S.2.2.1 ∧ x.li = S.2.2.2.1 ∧ IsLim (fun c => (coP v S c).1) (coBase v) x.c ∧ IsLim (fun l => (lkP S l).1) (lkBase v) x.l ∧ (∃ (N : Nat) (lb : Nat → Nat), N = 216 ∧ IsLim (fun L => (lsP S N L).1) (ls2 v S x.c lb) (x.lr, x.z, x.u, x.lb))
def Fnd (v : Nat → Nat) (w : Nat → Int32) (x : RD) : Prop := w 3 = bI true ∧ w 4 = bI (strF v).2.2 ∧ x.st = (strF v).1 ∧ ((strF v).2.2 = true → ∃ S, FndM v w x S)
/-- what stays true of the rows, found or not -/
def FndI (v : Nat → Nat) (w : Nat → Int32) (x : RD) : Prop := (∀ f, 216 ≤ f → x.l f = fM1) ∧ (w 3 = bI false ∨ Fnd v w x)
/-- w' is w but for what is found -/
def SameT (w w' : Nat → Int32) : Prop := w' 0 = w 0 ∧ w' 1 = w 1 ∧ w' 2 = w 2
theorem hoC_ok {v : Nat → Nat} {m : Nat → Int32} (hok : OkN v) {r code : Nat} (hr : r < v 2) (hc : code < 216) {S : HoS} (hS : ∀ i, i < S.1 → S.2.1 i < v 2 ∧ S.2.2.1 i < 216 ∧ ∀ a, a < 3 → S.2.2.2.1 (3 * i + a) < 0 ∨ ∃ f, f < 216 ∧ S.2.2.2.1 (3 * i + a) = nI f) : ∀ i, i < (hoC v m r code S).1 → (hoC v m r code S).2.1 i < v 2 ∧ (hoC v m r code S).2.2.1 i < 216 ∧ ∀ a, a < 3 → (hoC v m r code S).2.2.2.1 (3 * i + a) < 0 ∨ ∃ f, f < 216 ∧ (hoC v m r code S).2.2.2.1 (3 * i + a) = nI f := by
  unfold hoC
  have hb6 : ∀ x, x < 3 → bndU S.2.2.2.2 code x < 6 := fun x hx => bndU_lt S.2.2.2.2 hc hx
  generalize bndU S.2.2.2.2 code = b at hb6 ⊢
  split
  · intro i hi
    have hi : i < S.1 + 1 := hi
    have hlit : ∀ n, n ≤ 3 → ∀ j, (∀ a, a < n → j ≠ 3 * S.1 + a) → itN (liU v b r S.1) S.2.2.2.1 n j = S.2.2.2.1 j := by
      intro n
      induction n with
      | zero => intro _ j _; rfl
      | succ n ih =>
        intro hn j hj
        show upd _ _ _ j = _
        rw [pk_un (hj n (by omega))]
        exact ih (by omega) j (fun a ha => hj a (by omega))
    have hlit2 : ∀ n, n ≤ 3 → ∀ a, a < n → itN (liU v b r S.1) S.2.2.2.1 n (3 * S.1 + a) = liA v b r (a + 1) := by
      intro n
      induction n with
      | zero => intro _ a ha; omega
      | succ n ih =>
        intro hn a ha
        show upd _ _ _ (3 * S.1 + a) = _
        by_cases e : a = n
        · subst e
          exact pk_us
        · rw [pk_un (by omega)]
          exact ih (by omega) a (by omega)
    by_cases e : i = S.1
    · subst e
      refine ⟨?_, ?_, fun a ha => ?_⟩
      · show updN _ _ _ _ < _
        rw [updN_same]; exact hr
      · show updN _ _ _ _ < _
        rw [updN_same]; exact fA_lt hok hb6 hr (Nat.zero_le _)
      · show itN (liU v b r S.1) S.2.2.2.1 3 (3 * S.1 + a) < 0 ∨ ∃ f, f < 216 ∧ itN (liU v b r S.1) S.2.2.2.1 3 (3 * S.1 + a) = nI f
        rw [hlit2 3 (Nat.le_refl _) a ha]
        unfold liA
        split
        · rename_i q
          unfold plA at q
          rw [Bool.and_eq_true] at q
          exact Or.inr ⟨_, fA_lt hok hb6 hr (of_decide_eq_true q.1), rfl⟩
        · exact Or.inl (by decide)
    · obtain ⟨h1, h2, h3⟩ := hS i (by omega)
      refine ⟨?_, ?_, fun a ha => ?_⟩
      · show updN _ _ _ _ < _
        rw [updN_ne _ _ e]; exact h1
      · show updN _ _ _ _ < _
        rw [updN_ne _ _ e]; exact h2
      · show itN (liU v b r S.1) S.2.2.2.1 3 (3 * i + a) < 0 ∨ ∃ f, f < 216 ∧ itN (liU v b r S.1) S.2.2.2.1 3 (3 * i + a) = nI f
        rw [hlit 3 (Nat.le_refl _) (3 * i + a) (fun a' ha' => by omega)]
        exact h3 a ha
  · exact hS
set_option maxRecDepth 100000 in
theorem hoF_ok {v : Nat → Nat} {m : Nat → Int32} (hok : OkN v) (ru0 hd0 b0 : Nat → Nat) (li0 : Nat → Int32) : HoOk v (hoF v m (0, ru0, hd0, li0, b0)) := by
  refine ⟨?_, ?_⟩
  · have := hoR_cnt (v := v) (m := m) (S := (0, ru0, hd0, li0, b0)) (v 2)
    have := hok.2.2.2.1
    unfold hoF
    have e : ((0, ru0, hd0, li0, b0) : HoS).1 = 0 := rfl
    omega
  · refine itN_inv (P := fun S : HoS => ∀ i, i < S.1 → S.2.1 i < v 2 ∧ S.2.2.1 i < 216 ∧ ∀ a, a < 3 → S.2.2.2.1 (3 * i + a) < 0 ∨ ∃ f, f < 216 ∧ S.2.2.2.1 (3 * i + a) = nI f) (s := hoR v m) (N := v 2) (fun r hr S hS => ?_) (v 2) (Nat.le_refl _) (fun i hi => absurd hi (Nat.not_lt_zero i))
    exact itN_inv (P := fun S : HoS => ∀ i, i < S.1 → S.2.1 i < v 2 ∧ S.2.2.1 i < 216 ∧ ∀ a, a < 3 → S.2.2.2.1 (3 * i + a) < 0 ∨ ∃ f, f < 216 ∧ S.2.2.2.1 (3 * i + a) = nI f) (s := hoC v m r) (N := 216) (fun code hc S hS => hoC_ok hok hr hc hS) 216 (Nat.le_refl _) hS
theorem coLim_F {v : Nat → Nat} {S : HoS} {c : Nat → Nat} (h : IsLim (fun c => (coP v S c).1) (coBase v) c) : CoF c := by
  obtain ⟨k, rfl, -⟩ := h
  exact coIt_F k
theorem lkLim_tail {v : Nat → Nat} (hok : OkN v) {S : HoS} (hS : HoOk v S) {l : Nat → UInt32} (h : IsLim (fun l => (lkP S l).1) (lkBase v) l) : ∀ f, 216 ≤ f → l f = fM1 := by
  obtain ⟨k, rfl, -⟩ := h
  induction k with
  | zero =>
    show ∀ f, 216 ≤ f → lkBase v f = fM1
    refine itN_inv (P := fun l : Nat → UInt32 => ∀ f, 216 ≤ f → l f = fM1) (N := v 1) (fun j hj l hl f hf => ?_) (v 1) (Nat.le_refl _) (fun _ _ => rfl)
    have := (hok.2.2.2.2.2.1 j hj).1
    show updN _ _ _ f = _
    rw [updN_ne _ _ (by omega)]
    exact hl f hf
  | succ k ih =>
    show ∀ f, 216 ≤ f → (lkP S _).1 f = fM1
    refine itN_inv (P := fun p : (Nat → UInt32) × Bool => ∀ f, 216 ≤ f → p.1 f = fM1) (N := S.1) (fun i hi p hp f hf => ?_) S.1 (Nat.le_refl _) ih
    have := (hS.2 i hi).2.1
    unfold lkI
    split
    · show updN _ _ _ f = _
      rw [updN_ne _ _ (by omega)]
      exact hp f hf
    · exact hp f hf
set_option maxRecDepth 20000 in
theorem strF_lt {v : Nat → Nat} (hok : OkN v) (h : (strF v).2.2 = true) : ∀ p, p < 6 → (strF v).1 p < 6 := (strI_J hok 40).1 h
theorem bI_1 : bI true = 1 := rfl
theorem bI_inj {a b : Bool} (h : bI a = bI b) : a = b := by
  cases a <;> cases b <;> first | rfl | exact absurd h (by decide)
