/-! THE CLASS AS A WHOLE: its scratch cells, what is fresh -/
abbrev KFl : Type := Bool × Bool × Bool × Bool × Bool × Int32
abbrev KM : Type := (Nat → Int32) × Nat × Nat
abbrev KC : Type := (Nat → Nat) × (Nat → Nat) × (Nat → Nat) × (Nat → Nat) × (Nat → Int32) × (Nat → Int32)
abbrev KD : Type := KFl × GD × KM × KhS × KC × (Nat → UInt32) × (Nat → Int64) × KM
abbrev KD.gF (x : KD) : Bool := x.1.1
abbrev KD.mF (x : KD) : Bool := x.1.2.1
abbrev KD.cF (x : KD) : Bool := x.1.2.2.1
abbrev KD.lF (x : KD) : Bool := x.1.2.2.2.1
abbrev KD.sF (x : KD) : Bool := x.1.2.2.2.2.1
abbrev KD.lw (x : KD) : Int32 := x.1.2.2.2.2.2
abbrev KD.g (x : KD) : GD := x.2.1
abbrev KD.m (x : KD) : KM := x.2.2.1
abbrev KD.T (x : KD) : KhS := x.2.2.2.1
abbrev KD.C (x : KD) : KC := x.2.2.2.2.1
abbrev KD.l (x : KD) : Nat → UInt32 := x.2.2.2.2.2.1
abbrev KD.r (x : KD) : Nat → Int64 := x.2.2.2.2.2.2.1
abbrev KD.o (x : KD) : KM := x.2.2.2.2.2.2.2
abbrev FO (f : KFl) : MC := .inr (9, [.ref 1, .ref 47, .ref 48, .ref 49, .ref 56, .ref 67, .ref 69, .ref 72, .ref 79, .ref 81, .ref 84, .int (bI f.1), .int (bI f.2.1), .int (bI f.2.2.1), .int (bI f.2.2.2.1), .int (bI f.2.2.2.2.1), .int f.2.2.2.2.2])
abbrev kqL (x : KD) : MLs := (0, FO x.1) :: (grL x.2.1 ++ (mdLA x.2.2.1.1 x.2.2.1.2.1 x.2.2.1.2.2 ++ (hdL x.2.2.2.1 ++ (kcL x.2.2.2.2.1.1 x.2.2.2.2.1.2.1 x.2.2.2.2.1.2.2.1 x.2.2.2.2.1.2.2.2.1 x.2.2.2.2.1.2.2.2.2.1 x.2.2.2.2.1.2.2.2.2.2 ++ (lkC x.2.2.2.2.2.1 ++ (rwL x.2.2.2.2.2.2.1 ++ mdLB x.2.2.2.2.2.2.2.1 x.2.2.2.2.2.2.2.2.1 x.2.2.2.2.2.2.2.2.2))))))
def KAt (h : Nat → MC) (x : KD) : Prop := mov (kqL x) h = h
/-- the class's constant cells -/
def KK (h : Nat → MC) (sm : Nat → Nat) : Prop := h 72 = KO ∧ h 79 = LO ∧ h 81 = UO ∧ h 82 = .inl (.int, 298, .inl (vI sm))
def hoS0 : HoS := (0, fun _ => 0, fun _ => 0, fun _ => 0, fun _ => 0)
/-- the holding instances of v -/
def hoV (v : Nat → Nat) : HoS := hoF v (mdl0 v).1 hoS0
theorem hoV_ok {v : Nat → Nat} (hok : OkN v) : HoOk v (hoV v) := hoF_ok hok _ _ _ _
/-- what is fresh is what it should be -/
def KI (v sm : Nat → Nat) (x : KD) : Prop :=
  (∀ f, 216 ≤ f → x.l f = FP.fconst0) ∧ (x.gF = true → GrOk v x.g) ∧
  (x.mF = true → x.gF = true ∧ (strF v).2.2 = true ∧ x.m.1 = (mdl0 v).1 ∧ x.m.2.1 = (mdl0 v).2 ∧ x.m.2.2 = cntM (mdl0 v).1 0 216 ∧ HdOk v (hoV v) x.T.2.1 x.T.2.2.1 x.T.2.2.2) ∧
  (x.cF = true → x.mF = true ∧ KcOk v (hoV v) x.C.1 x.C.2.1 x.C.2.2.1 x.C.2.2.2.1) ∧
  (x.lF = true → x.mF = true ∧ KlOk v (hoV v) x.l) ∧
  (x.sF = true → x.mF = true ∧ KsOk v (hoV v) sm x.r) ∧
  (x.lw = -1 ∨ (x.gF = true ∧ (strF v).2.2 = true ∧ x.o.1 = (mdlV v (strF v).1 x.lw).1 ∧ x.o.2.2 = cntM x.o.1 0 216))
/-- the class's state is that of the numbers v -/
def KW (v sm : Nat → Nat) (P : PgS) (h : Nat → MC) (x : KD) : Prop := KAt h x ∧ PgAt h 1 P ∧ PgV P v ∧ SafV v P ∧ OkN v ∧ KK h sm ∧ KI v sm x
/-- behind a question to the class -/
def KQ (v sm : Nat → Nat) (h : Nat → MC) (A : KD → Option Value → Prop) : Option Value → (Nat → MC) → Prop := fun r h1 => ∃ x' : KD, h1 = mov (kqL x') h ∧ KI v sm x' ∧ A x' r
theorem mlk_none {l : MLs} {j : Nat} : mlk l j = none ↔ ¬ j ∈ l.map (fun q => q.1) := by
  induction l with
  | nil => simp [mlk]
  | cons q t ih =>
    by_cases e : q.1 = j
    · have e1 : Nat.beq q.1 j = true := by simp [e]
      simp [mlk, e1, e]
    · have e1 : Nat.beq q.1 j = false := nbf e
      simp only [mlk, e1, cond_false, ih, List.map_cons, List.mem_cons, not_or]
      exact ⟨fun h => ⟨fun w => e w.symm, h⟩, fun h => h.2⟩
theorem mov_keys {l l' : MLs} (h : Nat → MC) (hk : l.map (fun q => q.1) = l'.map (fun q => q.1)) : mov l' (mov l h) = mov l' h := by
  funext j
  cases e : mlk l' j with
  | some c => simp only [mov, e]
  | none =>
    have e2 : mlk l j = none := mlk_none.mpr (by rw [hk]; exact mlk_none.mp e)
    simp only [mov, e, e2]
theorem kq_over (x x' : KD) (h : Nat → MC) : mov (kqL x') (mov (kqL x) h) = mov (kqL x') h := mov_keys h rfl
theorem KAt.of (x : KD) (h : Nat → MC) : KAt (mov (kqL x) h) x := mov_idem _ _
theorem KW.mv {v sm : Nat → Nat} {P : PgS} {h : Nat → MC} {x x' : KD} (H : KW v sm P h x) (hI : KI v sm x') : KW v sm P (mov (kqL x') h) x' := by
  obtain ⟨h1, h2, h3, h4, h5, h6, h7⟩ := H
  exact ⟨KAt.of x' h, h2.mv rfl, h3, h4, h5, h6, hI⟩
theorem KQ.mk {v sm : Nat → Nat} {h : Nat → MC} {A : KD → Option Value → Prop} {post : Option Value → (Nat → MC) → Prop} (hpost : KQ v sm h A = post) {r : Option Value} (x' : KD) (h2 : KI v sm x') (h3 : A x' r) : post r (mov (kqL x') h) := by
  rw [← hpost]
  exact ⟨x', rfl, h2, h3⟩
theorem stOk {v : Nat → Nat} (hok : OkN v) {g : GD} (hG : GrOk v g) : g.sf = (strF v).2.2 ∧ ((strF v).2.2 = true → g.st = (strF v).1 ∧ StC v g.st ∧ ∀ p, p < 6 → g.st p < 6) := by
  obtain ⟨h1, h2, -⟩ := hG
  obtain ⟨s1, s2⟩ := st_eq hok
  rw [h1, h2, s1]
  refine ⟨rfl, fun q => ?_⟩
  obtain ⟨t1, t2, t3⟩ := s2 (s1.trans q)
  exact ⟨t1.symm, t2, t3⟩
set_option maxRecDepth 20000 in
theorem c_hasModel (d n : Nat) (v sm : Nat → Nat) (P : PgS) (x : KD) (h : Nat → MC) (H : KW v sm P h x) : Sp M_X9_hasModel (d + 4) 0 0 [.ref 0] h n (KQ v sm h (fun x' r => r = some (.int (bI (strF v).2.2)) ∧ x'.gF = true ∧ ((strF v).2.2 = true → x'.mF = true))) := by
  show MW _ _ _ _ _ _ _ _ _ _ _ _
  generalize hpost : KQ v sm h (fun x' r => r = some (.int (bI (strF v).2.2)) ∧ x'.gF = true ∧ ((strF v).2.2 = true → x'.mF = true)) = post
  have hp := fun (x' : KD) (h2 : KI v sm x') (h3 : x'.gF = true ∧ ((strF v).2.2 = true → x'.mF = true)) => KQ.mk hpost (r := some (.int (bI (strF v).2.2))) x' h2 ⟨rfl, h3⟩
  clear hpost
  obtain ⟨hAt, hPg, hV, hSf, hok, hKK, hI⟩ := H
  refine mw_over (kqL x) hAt ?_
  have mid : ∀ x : KD, KI v sm x → x.gF = true → MW M_X9_hasModel (d + 4) 0 0 n post 23 [(0, .ref 0)] [] (mov (kqL x) h) n 0 := by
    intro x hI hgF
    obtain ⟨i1, i2, i3, i4, i5, i6, i7⟩ := hI
    have hG := i2 hgF
    obtain ⟨e1, e2⟩ := stOk hok hG
    refine mw_aload_n (i := 0) rfl rfl rfl ?_
    refine mw_getfield rfl f_X9_34 (by first | rfl | exact rfl) rfl ?_
    refine mw_getfield rfl f_X9_249 (by first | rfl | exact rfl) rfl ?_
    show MW _ _ _ _ _ _ _ _ (.int (bI x.g.sf) :: []) _ _ _
    rw [e1]
    refine mw_b_ne rfl (fun hs => ?_) (fun hs => ?_)
    · obtain ⟨t1, t2, t3⟩ := e2 hs
      refine mw_aload_n (i := 0) rfl rfl rfl ?_
      refine mw_getfield rfl f_X9_234 (by first | rfl | exact rfl) rfl ?_
      show MW _ _ _ _ _ _ _ _ (.int (bI x.mF) :: []) _ _ _
      refine mw_b_ne rfl (fun hm => ?_) (fun hm => ?_)
      · have := hp x ⟨i1, i2, i3, i4, i5, i6, i7⟩ ⟨hgF, fun _ => hm⟩
        rw [hs] at this
        refine mw_iconst (v := nI 1) rfl (by decide) ?_
        first | exact mw_ireturn rfl rfl (bI_nar _) rfl (Nat.le_refl _) (this) | exact mw_ireturn rfl rfl rfl rfl (Nat.le_refl _) (this)
      · refine mw_aload_n (i := 0) rfl rfl rfl ?_
        refine mw_getfield rfl f_X9_41 (by first | rfl | exact rfl) rfl ?_
        refine mw_aload_n (i := 0) rfl rfl rfl ?_
        refine mw_getfield rfl f_X9_12 (by first | rfl | exact rfl) rfl ?_
        refine mw_aload_n (i := 0) rfl rfl rfl ?_
        refine mw_getfield rfl f_X9_34 (by first | rfl | exact rfl) rfl ?_
        refine mw_iconst (v := nI 0) rfl (by decide) ?_
        refine mw_heap (h2 := mov (mdLA x.m.1 x.m.2.1 x.m.2.2) (mov (kqL x) h)) (mov_sub h (by intro q hq; simp only [List.mem_cons, List.not_mem_nil, or_false] at hq; rcases hq with rfl | rfl <;> rfl)) ?_
        refine mw_callV_f (c_kbuildA d n x.m.2.1 x.m.2.2 (nI 0) P v x.m.1 x.g (mov (kqL x) h) (hPg.mv rfl) hV ⟨rfl, rfl, rfl, rfl, rfl, rfl, rfl, rfl, rfl, rfl, rfl⟩ hG hok t2 t3) rfl ok_X4_build v_X9_252 rfl (by first | rfl | exact rfl) (by intro e; cases e) rfl (Nat.le_of_ble_eq_true rfl) rfl (Nat.le_of_ble_eq_true rfl) (by omega) (by omega) (by omega) ?_
        rw [t1, show mdlV v (strF v).1 (nI 0) = mdl0 v from rfl, ← mov_puts]
        obtain ⟨hX, hMR⟩ : InvX (mdl0 v) ∧ MR (mdl0 v).1 (mdl0 v).2 := mdlV_st (v := v) (st := (strF v).1) (nI 0) 6
        have hX2 : (mdl0 v).2 ≤ 216 := by unfold InvX at hX; omega
        obtain ⟨x1, hx1⟩ : ∃ x1 : KD, x1 = (x.1, x.g, ((mdl0 v).1, (mdl0 v).2, cntM (mdl0 v).1 0 216), x.T, x.C, x.l, x.r, x.o) := ⟨_, rfl⟩
        refine mw_heap (h2 := mov (kqL x1) h) (by rw [hx1]; rfl) ?_
        have f1 : x1.m.1 = (mdl0 v).1 := by rw [hx1]
        have f2 : x1.m.2.1 = (mdl0 v).2 := by rw [hx1]
        have f3 : x1.m.2.2 = cntM (mdl0 v).1 0 216 := by rw [hx1]
        have f4 : x1.g = x.g := by rw [hx1]
        refine mw_aload_n (i := 0) rfl rfl rfl ?_
        refine mw_getfield rfl f_X9_48 (by first | rfl | exact rfl) rfl ?_
        refine mw_aload_n (i := 0) rfl rfl rfl ?_
        refine mw_getfield rfl f_X9_34 (by first | rfl | exact rfl) rfl ?_
        refine mw_aload_n (i := 0) rfl rfl rfl ?_
        refine mw_getfield rfl f_X9_41 (by first | rfl | exact rfl) rfl ?_
        refine mw_heap (h2 := mov (hdL x1.T) (mov (kqL x1) h)) (mov_sub h (by intro q hq; simp only [List.mem_cons, List.not_mem_nil, or_false] at hq; rcases hq with rfl | rfl | rfl <;> rfl)) ?_
        refine mw_callV_f (c_collect (d + 2) n (mdl0 v).2 x1.m.2.2 v (mdl0 v).1 x1.g x1.T (mov (kqL x1) h) ⟨rfl, rfl, rfl, rfl, rfl, rfl, rfl, rfl, rfl, rfl, rfl⟩ (by rw [f4]; exact hG) (by rw [← f2]; rfl) (by rw [← f1]; rfl) hok hMR hX2) rfl ok_X2_collect v_X9_256 rfl (by first | rfl | exact rfl) (by intro e; cases e) rfl (Nat.le_of_ble_eq_true rfl) rfl (Nat.le_of_ble_eq_true rfl) (by omega) (by omega) (by omega) ?_
        have hH : HdOk v (hoV v) (khI v (mdl0 v).1 x1.T.2.2.1 (enF v (v 2)).1).2.1 (khI v (mdl0 v).1 x1.T.2.2.1 (enF v (v 2)).1).2.2.1 (khI v (mdl0 v).1 x1.T.2.2.1 (enF v (v 2)).1).2.2.2 := kh_ho hok (mdl0 v).1 x1.T.2.2.1 (fun _ => 0) (fun _ => 0) (fun _ => 0) (fun _ => 0)
        generalize khI v (mdl0 v).1 x1.T.2.2.1 (enF v (v 2)).1 = T at hH ⊢
        rw [← mov_puts]
        obtain ⟨x2, hx2⟩ : ∃ x2 : KD, x2 = ((true, true, x.cF, x.lF, x.sF, x.lw), x.g, ((mdl0 v).1, (mdl0 v).2, cntM (mdl0 v).1 0 216), T, x.C, x.l, x.r, x.o) := ⟨_, rfl⟩
        have hI2 : KI v sm x2 := by
          rw [hx2]
          refine ⟨i1, fun _ => hG, fun _ => ⟨rfl, hs, rfl, rfl, rfl, hH⟩, fun q => ?_, fun q => ?_, fun q => ?_, i7.imp id fun q => ⟨rfl, q.2⟩⟩
          · have := (i4 q).1
            rw [hm] at this
            cases this
          · have := (i5 q).1
            rw [hm] at this
            cases this
          · have := (i6 q).1
            rw [hm] at this
            cases this
        have hpx := hp x2 hI2 ⟨by rw [hx2], fun _ => by rw [hx2]⟩
        rw [hs] at hpx
        refine mw_aload_n (i := 0) rfl rfl rfl ?_
        refine mw_iconst (v := nI 1) rfl (by decide) ?_
        first | refine mw_putfield_m rfl f_X9_234 (by first | rfl | exact rfl) (Nat.le_of_ble_eq_true rfl) (fun _ => bI_nar _) (fun _ => bI_fit _) ?_ | refine mw_putfield_m rfl f_X9_234 (by first | rfl | exact rfl) (Nat.le_of_ble_eq_true rfl) (fun _ => rfl) (fun _ => rfl) ?_
        refine mw_iconst (v := nI 1) rfl (by decide) ?_
        refine mw_heap (h2 := mov (kqL x2) h) (by rw [hx2, hx1]; show _ = mov _ h; rw [show x.1 = (x.gF, x.mF, x.cF, x.lF, x.sF, x.lw) from rfl, hgF]; rfl) ?_
        first | exact mw_ireturn rfl rfl (bI_nar _) rfl (Nat.le_refl _) (hpx) | exact mw_ireturn rfl rfl rfl rfl (Nat.le_refl _) (hpx)
    · have := hp x ⟨i1, i2, i3, i4, i5, i6, i7⟩ ⟨hgF, fun q => by rw [hs] at q; cases q⟩
      rw [hs] at this
      refine mw_iconst (v := nI 0) rfl (by decide) ?_
      first | exact mw_ireturn rfl rfl (bI_nar _) rfl (Nat.le_refl _) (this) | exact mw_ireturn rfl rfl rfl rfl (Nat.le_refl _) (this)
  refine mw_aload_n (i := 0) rfl rfl rfl ?_
  refine mw_getfield rfl f_X9_230 (by first | rfl | exact rfl) rfl ?_
  show MW _ _ _ _ _ _ _ _ (.int (bI x.gF) :: []) _ _ _
  refine mw_b_ne rfl (fun hg => ?_) (fun hg => ?_)
  · exact mw_locals rfl (mid x hI hg)
  · obtain ⟨i1, i2, i3, i4, i5, i6, i7⟩ := hI
    refine mw_aload_n (i := 0) rfl rfl rfl ?_
    refine mw_getfield rfl f_X9_34 (by first | rfl | exact rfl) rfl ?_
    refine mw_aload_n (i := 0) rfl rfl rfl ?_
    refine mw_getfield rfl f_X9_12 (by first | rfl | exact rfl) rfl ?_
    refine mw_heap (h2 := mov (grL x.g) (mov (kqL x) h)) (mov_sub h (by intro q hq; simp only [List.mem_cons, List.not_mem_nil, or_false] at hq; rcases hq with rfl | rfl | rfl | rfl | rfl | rfl | rfl | rfl | rfl | rfl | rfl <;> rfl)) ?_
    refine mw_callV (c_kfill d n P v x.g (mov (kqL x) h) (hPg.mv rfl) hV hSf hok) rfl ok_X1_fill v_X9_246 rfl (by first | rfl | exact rfl) (by intro e; cases e) rfl (Nat.le_of_ble_eq_true rfl) rfl (Nat.le_of_ble_eq_true rfl) (by omega) (by omega) (by omega) ?_
    intro r2 h2 hq2
    obtain ⟨rfl, g', rfl, hG'⟩ := hq2
    rw [← mov_puts]
    obtain ⟨x1, hx1⟩ : ∃ x1 : KD, x1 = ((true, x.mF, x.cF, x.lF, x.sF, x.lw), g', x.m, x.T, x.C, x.l, x.r, x.o) := ⟨_, rfl⟩
    refine mw_aload_n (i := 0) rfl rfl rfl ?_
    refine mw_iconst (v := nI 1) rfl (by decide) ?_
    first | refine mw_putfield_m rfl f_X9_230 (by first | rfl | exact rfl) (Nat.le_of_ble_eq_true rfl) (fun _ => bI_nar _) (fun _ => bI_fit _) ?_ | refine mw_putfield_m rfl f_X9_230 (by first | rfl | exact rfl) (Nat.le_of_ble_eq_true rfl) (fun _ => rfl) (fun _ => rfl) ?_
    refine mw_heap (h2 := mov (kqL x1) h) (by rw [hx1]; rfl) ?_
    have hmF : x.mF = false := by
      cases q : x.mF
      · rfl
      · have := (i3 q).1
        rw [hg] at this
        cases this
    refine mw_locals rfl (mid x1 ?_ (by rw [hx1]))
    rw [hx1]
    refine ⟨i1, fun _ => hG', fun q => ?_, fun q => ?_, fun q => ?_, fun q => ?_, i7.imp id fun q => ?_⟩
    · rw [show KD.mF ((true, x.mF, x.cF, x.lF, x.sF, x.lw), g', x.m, x.T, x.C, x.l, x.r, x.o) = x.mF from rfl, hmF] at q
      cases q
    · have := (i4 q).1
      rw [hmF] at this
      cases this
    · have := (i5 q).1
      rw [hmF] at this
      cases this
    · have := (i6 q).1
      rw [hmF] at this
      cases this
    · have := q.1
      rw [hg] at this
      cases this
