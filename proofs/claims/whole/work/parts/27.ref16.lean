/-- the reference's scratch rows -/
abbrev RD : Type := (Nat → Nat) × (Nat → Nat) × (Nat → Bool) × (Nat → Int32) × (Nat → Int32) × (Nat → Nat) × (Nat → Nat) × (Nat → Int32) × (Nat → Nat) × (Nat → UInt32) × (Nat → Int32) × (Nat → Nat) × (Nat → Nat) × (Nat → Nat) × (Nat → Bool)
abbrev RD.st (x : RD) : Nat → Nat := x.1
abbrev RD.b (x : RD) : Nat → Nat := x.2.1
abbrev RD.nb (x : RD) : Nat → Bool := x.2.2.1
abbrev RD.m (x : RD) : Nat → Int32 := x.2.2.2.1
abbrev RD.o (x : RD) : Nat → Int32 := x.2.2.2.2.1
abbrev RD.ru (x : RD) : Nat → Nat := x.2.2.2.2.2.1
abbrev RD.hd (x : RD) : Nat → Nat := x.2.2.2.2.2.2.1
abbrev RD.li (x : RD) : Nat → Int32 := x.2.2.2.2.2.2.2.1
abbrev RD.c (x : RD) : Nat → Nat := x.2.2.2.2.2.2.2.2.1
abbrev RD.l (x : RD) : Nat → UInt32 := x.2.2.2.2.2.2.2.2.2.1
abbrev RD.lr (x : RD) : Nat → Int32 := x.2.2.2.2.2.2.2.2.2.2.1
abbrev RD.lb (x : RD) : Nat → Nat := x.2.2.2.2.2.2.2.2.2.2.2.1
abbrev RD.z (x : RD) : Nat → Nat := x.2.2.2.2.2.2.2.2.2.2.2.2.1
abbrev RD.u (x : RD) : Nat → Nat := x.2.2.2.2.2.2.2.2.2.2.2.2.2.1
abbrev RD.D (x : RD) : Nat → Bool := x.2.2.2.2.2.2.2.2.2.2.2.2.2.2
abbrev mkR (st : Nat → Nat) (b : Nat → Nat) (nb : Nat → Bool) (m : Nat → Int32) (o : Nat → Int32) (ru : Nat → Nat) (hd : Nat → Nat) (li : Nat → Int32) (c : Nat → Nat) (l : Nat → UInt32) (lr : Nat → Int32) (lb : Nat → Nat) (z : Nat → Nat) (u : Nat → Nat) (D : Nat → Bool) : RD := (st, b, nb, m, o, ru, hd, li, c, l, lr, lb, z, u, D)
abbrev rcL (w : Nat → Int32) (x : RD) : MLs := [(178, RO w), (184, .inl (.int, 6, .inl (vI x.st))), (185, .inl (.int, 3, .inl (vI x.b))), (186, .inl (.int, 216, .inl x.m)), (187, .inl (.int, 216, .inl x.o)), (188, .inl (.boolean, 216, .inl (bIf x.nb))), (189, .inl (.int, 1728, .inl (vI x.ru))), (190, .inl (.int, 1728, .inl (vI x.hd))), (191, .inl (.int, 5184, .inl x.li)), (192, .inl (.int, 216, .inl (vI x.c))), (193, .inl (.float, 216, .inr (.inr (.inl x.l)))), (194, .inl (.int, 216, .inl x.lr)), (195, .inl (.int, 216, .inl (vI x.lb))), (196, .inl (.int, 216, .inl (vI x.z))), (197, .inl (.int, 216, .inl (vI x.u))), (198, .inl (.boolean, 216, .inl (bIf x.D)))]
/-- the rows are what the world holds -/
def RAt (h : Nat → MC) (w : Nat → Int32) (x : RD) : Prop := mov (rcL w x) h = h
/-- the rows hold what is found of v -/
def FndM (v : Nat → Nat) (w : Nat → Int32) (x : RD) (S : HoS) : Prop := x.m = (mdlV v x.st (nI 0)).1 ∧ w 7 = nI (mdlV v x.st (nI 0)).2 ∧ (∃ (ru0 hd0 b0 : Nat → Nat) (li0 : Nat → Int32), S = hoF v x.m (0, ru0, hd0, li0, b0)) ∧ w 6 = nI S.1 ∧ x.ru = S.2.1 ∧ x.hd = S.2.2.1 ∧ x.li = S.2.2.2.1 ∧ IsLim (fun c => (coP v S c).1) (coBase v) x.c ∧ IsLim (fun l => (lkP S l).1) (lkBase v) x.l ∧ (∃ (N : Nat) (lb : Nat → Nat), N = 216 ∧ IsLim (fun L => (lsP S N L).1) (ls2 v S x.c lb) (x.lr, x.z, x.u, x.lb))
def Fnd (v : Nat → Nat) (w : Nat → Int32) (x : RD) : Prop := w 3 = bI true ∧ w 4 = bI (strF v).2.2 ∧ x.st = (strF v).1 ∧ ((strF v).2.2 = true → ∃ S, FndM v w x S)
/-- what stays true of the rows, found or not -/
def FndI (v : Nat → Nat) (w : Nat → Int32) (x : RD) : Prop := (∀ f, 216 ≤ f → x.l f = fM1) ∧ (w 3 = bI false ∨ Fnd v w x)
/-- w' is w but for what is found -/
def SameT (w w' : Nat → Int32) : Prop := w' 0 = w 0 ∧ w' 1 = w 1 ∧ w' 2 = w 2
theorem hoC_ok {v : Nat → Nat} {m : Nat → Int32} (hok : OkN v) {r code : Nat} (hr : r < v 2) (hc : code < 216) {S : HoS} (hS : ∀ i, i < S.1 → S.2.1 i < v 2 ∧ S.2.2.1 i < 216 ∧ ∀ a, a < 3 → S.2.2.2.1 (3 * i + a) < 0 ∨ ∃ f, f < 216 ∧ S.2.2.2.1 (3 * i + a) = nI f) : ∀ i, i < (hoC v m r code S).1 → (hoC v m r code S).2.1 i < v 2 ∧ (hoC v m r code S).2.2.1 i < 216 ∧ ∀ a, a < 3 → (hoC v m r code S).2.2.2.1 (3 * i + a) < 0 ∨ ∃ f, f < 216 ∧ (hoC v m r code S).2.2.2.1 (3 * i + a) = nI f := by
  unfold hoC
  have hb6 : ∀ x, x < 3 → bndU S.2.2.2.2 code x < 6 := fun x hx => bndU_lt S.2.2.2.2 hc hx
  generalize bndU S.2.2.2.2 code = b at hb6 ⊢
  split
  · intro i hi
    have hi : i < S.1 + 1 := hi
    have hlit : ∀ n, n ≤ 3 → ∀ j, (∀ a, a < n → j ≠ 3 * S.1 + a) → itN (liU v b r S.1) S.2.2.2.1 n j = S.2.2.2.1 j := by
      intro n
      induction n with
      | zero => intro _ j _; rfl
      | succ n ih =>
        intro hn j hj
        show upd _ _ _ j = _
        rw [pk_un (hj n (by omega))]
        exact ih (by omega) j (fun a ha => hj a (by omega))
    have hlit2 : ∀ n, n ≤ 3 → ∀ a, a < n → itN (liU v b r S.1) S.2.2.2.1 n (3 * S.1 + a) = liA v b r (a + 1) := by
      intro n
      induction n with
      | zero => intro _ a ha; omega
      | succ n ih =>
        intro hn a ha
        show upd _ _ _ (3 * S.1 + a) = _
        by_cases e : a = n
        · subst e
          exact pk_us
        · rw [pk_un (by omega)]
          exact ih (by omega) a (by omega)
    by_cases e : i = S.1
    · subst e
      refine ⟨?_, ?_, fun a ha => ?_⟩
      · show updN _ _ _ _ < _
        rw [updN_same]; exact hr
      · show updN _ _ _ _ < _
        rw [updN_same]; exact fA_lt hok hb6 hr (Nat.zero_le _)
      · show itN (liU v b r S.1) S.2.2.2.1 3 (3 * S.1 + a) < 0 ∨ ∃ f, f < 216 ∧ itN (liU v b r S.1) S.2.2.2.1 3 (3 * S.1 + a) = nI f
        rw [hlit2 3 (Nat.le_refl _) a ha]
        unfold liA
        split
        · rename_i q
          unfold plA at q
          rw [Bool.and_eq_true] at q
          exact Or.inr ⟨_, fA_lt hok hb6 hr (of_decide_eq_true q.1), rfl⟩
        · exact Or.inl (by decide)
    · obtain ⟨h1, h2, h3⟩ := hS i (by omega)
      refine ⟨?_, ?_, fun a ha => ?_⟩
      · show updN _ _ _ _ < _
        rw [updN_ne _ _ e]; exact h1
      · show updN _ _ _ _ < _
        rw [updN_ne _ _ e]; exact h2
      · show itN (liU v b r S.1) S.2.2.2.1 3 (3 * i + a) < 0 ∨ ∃ f, f < 216 ∧ itN (liU v b r S.1) S.2.2.2.1 3 (3 * i + a) = nI f
        rw [hlit 3 (Nat.le_refl _) (3 * i + a) (fun a' ha' => by omega)]
        exact h3 a ha
  · exact hS
set_option maxRecDepth 100000 in
theorem hoF_ok {v : Nat → Nat} {m : Nat → Int32} (hok : OkN v) (ru0 hd0 b0 : Nat → Nat) (li0 : Nat → Int32) : HoOk v (hoF v m (0, ru0, hd0, li0, b0)) := by
  refine ⟨?_, ?_⟩
  · have := hoR_cnt (v := v) (m := m) (S := (0, ru0, hd0, li0, b0)) (v 2)
    have := hok.2.2.2.1
    unfold hoF
    have e : ((0, ru0, hd0, li0, b0) : HoS).1 = 0 := rfl
    omega
  · refine itN_inv (P := fun S : HoS => ∀ i, i < S.1 → S.2.1 i < v 2 ∧ S.2.2.1 i < 216 ∧ ∀ a, a < 3 → S.2.2.2.1 (3 * i + a) < 0 ∨ ∃ f, f < 216 ∧ S.2.2.2.1 (3 * i + a) = nI f) (s := hoR v m) (N := v 2) (fun r hr S hS => ?_) (v 2) (Nat.le_refl _) (fun i hi => absurd hi (Nat.not_lt_zero i))
    exact itN_inv (P := fun S : HoS => ∀ i, i < S.1 → S.2.1 i < v 2 ∧ S.2.2.1 i < 216 ∧ ∀ a, a < 3 → S.2.2.2.1 (3 * i + a) < 0 ∨ ∃ f, f < 216 ∧ S.2.2.2.1 (3 * i + a) = nI f) (s := hoC v m r) (N := 216) (fun code hc S hS => hoC_ok hok hr hc hS) 216 (Nat.le_refl _) hS
theorem coLim_F {v : Nat → Nat} {S : HoS} {c : Nat → Nat} (h : IsLim (fun c => (coP v S c).1) (coBase v) c) : CoF c := by
  obtain ⟨k, rfl, -⟩ := h
  exact coIt_F k
theorem lkLim_tail {v : Nat → Nat} (hok : OkN v) {S : HoS} (hS : HoOk v S) {l : Nat → UInt32} (h : IsLim (fun l => (lkP S l).1) (lkBase v) l) : ∀ f, 216 ≤ f → l f = fM1 := by
  obtain ⟨k, rfl, -⟩ := h
  induction k with
  | zero =>
    show ∀ f, 216 ≤ f → lkBase v f = fM1
    refine itN_inv (P := fun l : Nat → UInt32 => ∀ f, 216 ≤ f → l f = fM1) (N := v 1) (fun j hj l hl f hf => ?_) (v 1) (Nat.le_refl _) (fun _ _ => rfl)
    have := (hok.2.2.2.2.2.1 j hj).1
    show updN _ _ _ f = _
    rw [updN_ne _ _ (by omega)]
    exact hl f hf
  | succ k ih =>
    show ∀ f, 216 ≤ f → (lkP S _).1 f = fM1
    refine itN_inv (P := fun p : (Nat → UInt32) × Bool => ∀ f, 216 ≤ f → p.1 f = fM1) (N := S.1) (fun i hi p hp f hf => ?_) S.1 (Nat.le_refl _) ih
    have := (hS.2 i hi).2.1
    unfold lkI
    split
    · show updN _ _ _ f = _
      rw [updN_ne _ _ (by omega)]
      exact hp f hf
    · exact hp f hf
set_option maxRecDepth 20000 in
theorem strF_lt {v : Nat → Nat} (hok : OkN v) (h : (strF v).2.2 = true) : ∀ p, p < 6 → (strF v).1 p < 6 := (strI_J hok 40).1 h
theorem bI_1 : bI true = 1 := rfl
theorem bI_inj {a b : Bool} (h : bI a = bI b) : a = b := by
  cases a <;> cases b <;> first | rfl | exact absurd h (by decide)
set_option maxRecDepth 20000 in
theorem c_finds (d n : Nat) (w : Nat → Int32) (v : Nat → Nat) (x : RD) (h : Nat → MC) (hx : RAt h w x) (hv : h 179 = .inl (.int, 189, .inl (vI v))) (hok : OkN v) (hF : FndI v w x) : Sp M_X10_finds (d + 5) 0 0 [.ref 178] h n (fun r h1 => r = some (.int (bI (strF v).2.2)) ∧ ∃ (w' : Nat → Int32) (x' : RD), h1 = mov (rcL w' x') h ∧ SameT w w' ∧ Fnd v w' x' ∧ FndI v w' x') := by
  show MW _ _ _ _ _ _ _ _ _ _ _ _
  generalize hpost : (fun (r : Option Value) (h1 : Nat → MC) => r = some (.int (bI (strF v).2.2)) ∧ ∃ (w' : Nat → Int32) (x' : RD), h1 = mov (rcL w' x') h ∧ SameT w w' ∧ Fnd v w' x' ∧ FndI v w' x') = post
  have hp : ∀ (w' : Nat → Int32) (x' : RD), SameT w w' → Fnd v w' x' → (∀ f, 216 ≤ f → x'.l f = fM1) → post (some (.int (bI (strF v).2.2))) (mov (rcL w' x') h) := by
    intro w' x' h1 h2 h3
    rw [← hpost]
    exact ⟨rfl, w', x', rfl, h1, h2, h3, Or.inr h2⟩
  clear hpost
  obtain ⟨hlt, hF⟩ := hF
  refine mw_over (rcL w x) hx ?_
  refine mw_aload_n (i := 0) rfl rfl rfl ?_
  refine mw_getfield rfl f_X10_76 (by first | rfl | exact rfl | exact hv) rfl ?_
  rcases hF with h0 | hfd
  · show MW _ _ _ _ _ _ _ _ (.int (w 3) :: []) _ _ _
    rw [h0]
    refine mw_b_ne rfl (fun q => ?_) (fun q => ?_)
    · cases q
    · refine mw_aload_n (i := 0) rfl rfl rfl ?_
      refine mw_iconst (v := nI 1) rfl (by decide) ?_
      first | refine mw_putfield_m rfl f_X10_76 (by first | rfl | exact rfl | exact hv) (Nat.le_of_ble_eq_true rfl) (fun _ => bI_nar _) (fun _ => bI_fit _) ?_ | refine mw_putfield_m rfl f_X10_76 (by first | rfl | exact rfl | exact hv) (Nat.le_of_ble_eq_true rfl) (fun _ => rfl) (fun _ => rfl) ?_
      refine mw_aload_n (i := 0) rfl rfl rfl ?_
      refine mw_aload_n (i := 0) rfl rfl rfl ?_
      refine mw_callV_f (c_findStrata (d + 3) n (updN w 3 1) v x.st _ rfl hv rfl hok) rfl ok_X10_findStrata v_X10_160 rfl (by first | rfl | exact rfl | exact hv) (by intro e; cases e) rfl (Nat.le_of_ble_eq_true rfl) rfl (Nat.le_of_ble_eq_true rfl) (by omega) (by omega) (by omega) ?_
      obtain ⟨w1, hw1⟩ : ∃ w1, w1 = updN (updN w 3 1) 4 (bI (strF v).2.2) := ⟨_, rfl⟩
      obtain ⟨x1, hx1⟩ : ∃ x1, x1 = mkR (strF v).1 x.b x.nb x.m x.o x.ru x.hd x.li x.c x.l x.lr x.lb x.z x.u x.D := ⟨_, rfl⟩
      have hT1 : SameT w w1 := by rw [hw1]; exact ⟨rfl, rfl, rfl⟩
      have hw13 : w1 3 = bI true := by rw [hw1]; rfl
      have hw14 : w1 4 = bI (strF v).2.2 := by rw [hw1]; rfl
      have hs1 : x1.st = (strF v).1 := by rw [hx1]
      have hl1 : ∀ f, 216 ≤ f → x1.l f = fM1 := by rw [hx1]; exact hlt
      rw [← mov_puts]
      first | refine mw_putfield_m rfl f_X10_163 (by first | rfl | exact rfl | exact hv) (Nat.le_of_ble_eq_true rfl) (fun _ => bI_nar _) (fun _ => bI_fit _) ?_ | refine mw_putfield_m rfl f_X10_163 (by first | rfl | exact rfl | exact hv) (Nat.le_of_ble_eq_true rfl) (fun _ => rfl) (fun _ => rfl) ?_
      refine mw_heap (h2 := mov (rcL w1 x1) h) (by rw [hw1, hx1]; rfl) ?_
      clear hx1 hw1
      refine mw_aload_n (i := 0) rfl rfl rfl ?_
      refine mw_getfield rfl f_X10_163 (by first | rfl | exact rfl | exact hv) rfl ?_
      rw [hw14]
      refine mw_b_eq rfl (fun hs => ?_) (fun hs => ?_)
      · refine mw_aload_n (i := 0) rfl rfl rfl ?_
        refine mw_getfield rfl f_X10_163 (by first | rfl | exact rfl | exact hv) rfl ?_
        rw [hw14]
        first | exact mw_ireturn rfl rfl (bI_nar _) rfl (Nat.le_refl _) ((hp w1 x1 hT1 ⟨hw13, hw14, hs1, fun q => absurd hs (by rw [q]; decide)⟩ hl1)) | exact mw_ireturn rfl rfl rfl rfl (Nat.le_refl _) ((hp w1 x1 hT1 ⟨hw13, hw14, hs1, fun q => absurd hs (by rw [q]; decide)⟩ hl1))
      · have hst6 : ∀ p, p < 6 → x1.st p < 6 := by rw [hs1]; exact strF_lt hok hs
        refine mw_aload_n (i := 0) rfl rfl rfl ?_
        refine mw_iconst (v := nI 0) rfl (by decide) ?_
        refine mw_aload_n (i := 0) rfl rfl rfl ?_
        refine mw_getfield rfl f_X10_32 (by first | rfl | exact rfl | exact hv) rfl ?_
        refine mw_callV (c_buildsA d n (nI 0) w1 v x1.st x1.b x1.nb x1.m _ rfl hv rfl rfl rfl rfl hok hst6) rfl ok_X10_builds v_X10_166 rfl (by first | rfl | exact rfl | exact hv) (by intro e; cases e) rfl (Nat.le_of_ble_eq_true rfl) rfl (Nat.le_of_ble_eq_true rfl) (by omega) (by omega) (by omega) ?_
        intro r2 h2 hq2
        obtain ⟨rfl, nb2, b2, rfl⟩ := hq2
        obtain ⟨w2, hw2⟩ : ∃ w2, w2 = updN (updN w1 5 (nI (mdlV v x1.st (nI 0)).2)) 7 (nI (mdlV v x1.st (nI 0)).2) := ⟨_, rfl⟩
        obtain ⟨x2, hx2⟩ : ∃ x2, x2 = mkR x1.st b2 nb2 (mdlV v x1.st (nI 0)).1 x1.o x1.ru x1.hd x1.li x1.c x1.l x1.lr x1.lb x1.z x1.u x1.D := ⟨_, rfl⟩
        rw [← mov_puts]
        refine mw_aload_n (i := 0) rfl rfl rfl ?_
        refine mw_aload_n (i := 0) rfl rfl rfl ?_
        refine mw_getfield rfl f_X10_150 (by first | rfl | exact rfl | exact hv) rfl ?_
        refine mw_putfield_m rfl f_X10_170 (by first | rfl | exact rfl | exact hv) (Nat.le_of_ble_eq_true rfl) (fun _ => rfl) (fun _ => rfl) ?_
        refine mw_heap (h2 := mov (rcL w2 x2) h) (by rw [hw2, hx2]; rfl) ?_
        have hT2 : SameT w w2 := by rw [hw2]; exact hT1
        have hw23 : w2 3 = bI true := by rw [hw2]; exact hw13
        have hw24 : w2 4 = bI (strF v).2.2 := by rw [hw2]; exact hw14
        have hw27 : w2 7 = nI (mdlV v x2.st (nI 0)).2 := by rw [hw2, hx2]; rfl
        have hs2 : x2.st = (strF v).1 := by rw [hx2]; exact hs1
        have hm2 : x2.m = (mdlV v x2.st (nI 0)).1 := by rw [hx2]
        have hl2 : ∀ f, 216 ≤ f → x2.l f = fM1 := by rw [hx2]; exact hl1
        clear hx2 hw2
        refine mw_aload_n (i := 0) rfl rfl rfl ?_
        refine mw_callV_f (c_findHolding (d + 1) n w2 v x2.ru x2.hd x2.b x2.m x2.li _ rfl hv rfl rfl rfl rfl rfl hok) rfl ok_X10_findHolding v_X10_173 rfl (by first | rfl | exact rfl | exact hv) (by intro e; cases e) rfl (Nat.le_of_ble_eq_true rfl) rfl (Nat.le_of_ble_eq_true rfl) (by omega) (by omega) (by omega) ?_
        have hSok := hoF_ok (m := x2.m) hok x2.ru x2.hd x2.b x2.li
        have hSe : ∃ (ru0 hd0 b0 : Nat → Nat) (li0 : Nat → Int32), hoF v x2.m (0, x2.ru, x2.hd, x2.li, x2.b) = hoF v x2.m (0, ru0, hd0, li0, b0) := ⟨_, _, _, _, rfl⟩
        generalize hoF v x2.m (0, x2.ru, x2.hd, x2.li, x2.b) = S at hSok hSe ⊢
        unfold HH
        rw [← mov_puts]
        obtain ⟨w3, hw3⟩ : ∃ w3, w3 = updN w2 6 (nI S.1) := ⟨_, rfl⟩
        obtain ⟨x3, hx3⟩ : ∃ x3, x3 = mkR x2.st S.2.2.2.2 x2.nb x2.m x2.o S.2.1 S.2.2.1 S.2.2.2.1 x2.c x2.l x2.lr x2.lb x2.z x2.u x2.D := ⟨_, rfl⟩
        refine mw_heap (h2 := mov (rcL w3 x3) h) (by rw [hw3, hx3]; rfl) ?_
        have hT3 : SameT w w3 := by rw [hw3]; exact hT2
        have hw33 : w3 3 = bI true := by rw [hw3]; exact hw23
        have hw34 : w3 4 = bI (strF v).2.2 := by rw [hw3]; exact hw24
        have hw37 : w3 7 = nI (mdlV v x3.st (nI 0)).2 := by rw [hw3, hx3]; exact hw27
        have hw36 : w3 6 = nI S.1 := by rw [hw3]; rfl
        have hs3 : x3.st = (strF v).1 := by rw [hx3]; exact hs2
        have hm3 : x3.m = (mdlV v x3.st (nI 0)).1 := by rw [hx3]; exact hm2
        have hl3 : ∀ f, 216 ≤ f → x3.l f = fM1 := by rw [hx3]; exact hl2
        have hSe : ∃ (ru0 hd0 b0 : Nat → Nat) (li0 : Nat → Int32), S = hoF v x3.m (0, ru0, hd0, li0, b0) := by rw [hx3]; exact hSe
        have hru3 : x3.ru = S.2.1 := by rw [hx3]
        have hhd3 : x3.hd = S.2.2.1 := by rw [hx3]
        have hli3 : x3.li = S.2.2.2.1 := by rw [hx3]
        clear hx3 hw3
        have hA3 : ∀ (w : Nat → Int32) (x : RD), x.ru = S.2.1 → x.hd = S.2.2.1 → x.li = S.2.2.2.1 → HoAt (mov (rcL w x) h) S := by
          intro w x e1 e2 e3
          refine ⟨?_, ?_, ?_⟩
          · show (.inl (.int, 1728, .inl (vI x.ru)) : MC) = _
            rw [e1]
          · show (.inl (.int, 1728, .inl (vI x.hd)) : MC) = _
            rw [e2]
          · show (.inl (.int, 5184, .inl x.li) : MC) = _
            rw [e3]
        obtain ⟨c, hc⟩ := coLim hSok (coBase v)
        obtain ⟨l, hl⟩ := lkLim hok hSok
        refine mw_aload_n (i := 0) rfl rfl rfl ?_
        refine mw_callV_f (c_findCosts (d + 3) n w3 v x3.c c S _ rfl hw36 hv rfl hok hSok (hA3 w3 x3 hru3 hhd3 hli3) hc) rfl ok_X10_findCosts v_X10_176 rfl (by first | rfl | exact rfl | exact hv) (by intro e; cases e) rfl (Nat.le_of_ble_eq_true rfl) rfl (Nat.le_of_ble_eq_true rfl) (by omega) (by omega) (by omega) ?_
        rw [← mov_puts]
        obtain ⟨x4, hx4⟩ : ∃ x4, x4 = mkR x3.st x3.b x3.nb x3.m x3.o x3.ru x3.hd x3.li c x3.l x3.lr x3.lb x3.z x3.u x3.D := ⟨_, rfl⟩
        refine mw_heap (h2 := mov (rcL w3 x4) h) (by rw [hx4]; rfl) ?_
        refine mw_aload_n (i := 0) rfl rfl rfl ?_
        refine mw_callV_f (c_findLikelihoods (d + 3) n w3 v x4.l l S _ rfl hw36 hv rfl (by rw [hx4]; exact hl3) hok hSok (hA3 w3 x4 (by rw [hx4]; exact hru3) (by rw [hx4]; exact hhd3) (by rw [hx4]; exact hli3)) hl) rfl ok_X10_findLikelihoods v_X10_179 rfl (by first | rfl | exact rfl | exact hv) (by intro e; cases e) rfl (Nat.le_of_ble_eq_true rfl) rfl (Nat.le_of_ble_eq_true rfl) (by omega) (by omega) (by omega) ?_
        rw [← mov_puts]
        obtain ⟨x5, hx5⟩ : ∃ x5, x5 = mkR x4.st x4.b x4.nb x4.m x4.o x4.ru x4.hd x4.li x4.c l x4.lr x4.lb x4.z x4.u x4.D := ⟨_, rfl⟩
        refine mw_heap (h2 := mov (rcL w3 x5) h) (by rw [hx5]; rfl) ?_
        obtain ⟨N, hN⟩ : ∃ N : Nat, N = 216 := ⟨_, rfl⟩
        obtain ⟨F, hF⟩ := lsLim S N (ls2 v S c x5.lb)
        have hc5 : x5.c = c := by rw [hx5, hx4]
        refine mw_aload_n (i := 0) rfl rfl rfl ?_
        refine mw_callV_f (c_findLeast (d + 3) n w3 v x5.c x5.z x5.u x5.lb x5.lr S F N hN _ rfl hw36 hv rfl rfl rfl rfl rfl hok hSok (hA3 w3 x5 (by rw [hx5, hx4]; exact hru3) (by rw [hx5, hx4]; exact hhd3) (by rw [hx5, hx4]; exact hli3)) (by rw [hc5]; exact fun f _ => coLim_F hc f) (by rw [hc5]; exact hF)) rfl ok_X10_findLeast v_X10_182 rfl (by first | rfl | exact rfl | exact hv) (by intro e; cases e) rfl (Nat.le_of_ble_eq_true rfl) rfl (Nat.le_of_ble_eq_true rfl) (by omega) (by omega) (by omega) ?_
        unfold HL
        rw [← mov_puts]
        obtain ⟨x6, hx6⟩ : ∃ x6, x6 = mkR x5.st x5.b x5.nb x5.m x5.o x5.ru x5.hd x5.li x5.c x5.l F.1 F.2.2.2 F.2.1 F.2.2.1 x5.D := ⟨_, rfl⟩
        refine mw_heap (h2 := mov (rcL w3 x6) h) (by rw [hx6]; rfl) ?_
        refine mw_aload_n (i := 0) rfl rfl rfl ?_
        refine mw_getfield rfl f_X10_163 (by first | rfl | exact rfl | exact hv) rfl ?_
        rw [hw34]
        have hl6 : x6.l = l := by rw [hx6, hx5]
        have hc6 : x6.c = c := by rw [hx6]; exact hc5
        first | exact mw_ireturn rfl rfl (bI_nar _) rfl (Nat.le_refl _) ((hp w3 x6 hT3 ⟨hw33, hw34, by rw [hx6, hx5, hx4]; exact hs3, fun _ => ⟨S, by rw [hx6, hx5, hx4]; exact hm3, by rw [hx6, hx5, hx4]; exact hw37, by rw [hx6, hx5, hx4]; exact hSe, hw36, by rw [hx6, hx5, hx4]; exact hru3, by rw [hx6, hx5, hx4]; exact hhd3, by rw [hx6, hx5, hx4]; exact hli3, by rw [hc6]; exact hc, by rw [hl6]; exact hl, N, x5.lb, hN, by rw [hc6]; rw [hx6]; exact hF⟩⟩ (by rw [hl6]; exact lkLim_tail hok hSok hl))) | exact mw_ireturn rfl rfl rfl rfl (Nat.le_refl _) ((hp w3 x6 hT3 ⟨hw33, hw34, by rw [hx6, hx5, hx4]; exact hs3, fun _ => ⟨S, by rw [hx6, hx5, hx4]; exact hm3, by rw [hx6, hx5, hx4]; exact hw37, by rw [hx6, hx5, hx4]; exact hSe, hw36, by rw [hx6, hx5, hx4]; exact hru3, by rw [hx6, hx5, hx4]; exact hhd3, by rw [hx6, hx5, hx4]; exact hli3, by rw [hc6]; exact hc, by rw [hl6]; exact hl, N, x5.lb, hN, by rw [hc6]; rw [hx6]; exact hF⟩⟩ (by rw [hl6]; exact lkLim_tail hok hSok hl)))
  · show MW _ _ _ _ _ _ _ _ (.int (w 3) :: []) _ _ _
    rw [hfd.1]
    refine mw_b_ne rfl (fun q => ?_) (fun q => ?_)
    · refine mw_aload_n (i := 0) rfl rfl rfl ?_
      refine mw_getfield rfl f_X10_163 (by first | rfl | exact rfl | exact hv) rfl ?_
      rw [hfd.2.1]
      first | exact mw_ireturn rfl rfl (bI_nar _) rfl (Nat.le_refl _) ((hp w x ⟨rfl, rfl, rfl⟩ hfd hlt)) | exact mw_ireturn rfl rfl rfl rfl (Nat.le_refl _) ((hp w x ⟨rfl, rfl, rfl⟩ hfd hlt))
    · cases q
