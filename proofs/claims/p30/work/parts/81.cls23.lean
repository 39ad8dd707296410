/-! THE CLASS'S QUESTIONS: provenance, deletions -/
theorem c_kinstances (d n : Nat) (p a b : Int32) (v sm : Nat → Nat) (P : PgS) (x : KD) (h : Nat → MC) (H : KW v sm P h x) : Sp M_X9_instances (d + 5) 0 0 [.ref 0, .int p, .int a, .int b] h n (KQ v sm h (fun x' r => (isF v p a b = false → r = some (.int (-1))) ∧ (isF v p a b = true → (strF v).2.2 = false → r = some (.int (-6))) ∧ (isF v p a b = true → (strF v).2.2 = true → r = some (.int (nI (insN (hoV v) (fctN p a b) (hoV v).1)))))) := by
  show MW _ _ _ _ _ _ _ _ _ _ _ _
  generalize hpost : KQ v sm h (fun x' r => (isF v p a b = false → r = some (.int (-1))) ∧ (isF v p a b = true → (strF v).2.2 = false → r = some (.int (-6))) ∧ (isF v p a b = true → (strF v).2.2 = true → r = some (.int (nI (insN (hoV v) (fctN p a b) (hoV v).1))))) = post
  have hp := fun (r : Option Value) (x' : KD) (h2 : KI v sm x') => KQ.mk hpost (r := r) x' h2
  clear hpost
  have hok := H.2.2.2.2.1
  have hP0 : h 1 = _ := H.2.1.cell (i := 0) (by omega)
  refine mw_over (kqL x) H.1 ?_
  refine mw_aload_n (i := 0) rfl rfl rfl ?_
  refine mw_getfield rfl f_X9_12 (by first | rfl | exact rfl | exact hP0) rfl ?_
  refine mw_iload_n (i := 1) rfl rfl rfl ?_
  refine mw_iload_n (i := 2) rfl rfl rfl ?_
  refine mw_iload_n (i := 3) rfl rfl rfl ?_
  refine mw_callV_f (c_hasAtom (d + 3) n p a b P v _ (H.2.1.mv rfl) H.2.2.1 hok) rfl ok_X5_hasAtom v_X9_101 rfl (by first | rfl | exact rfl | exact hP0) (by intro e; cases e) rfl (Nat.le_of_ble_eq_true rfl) rfl (Nat.le_of_ble_eq_true rfl) (by omega) (by omega) (by omega) ?_
  refine mw_b_ne rfl (fun hF => ?_) (fun hF => ?_)
  · refine mw_aload_n (i := 0) rfl rfl rfl ?_
    refine mw_callV (c_hasModel d n v sm P x _ (H.mv H.2.2.2.2.2.2)) rfl ok_X9_hasModel v_X9_145 rfl (by first | rfl | exact rfl | exact hP0) (by intro e; cases e) rfl (Nat.le_of_ble_eq_true rfl) rfl (Nat.le_of_ble_eq_true rfl) (by omega) (by omega) (by omega) ?_
    intro r2 h2 hq2
    obtain ⟨x', rfl, hI', rfl, g1, g2⟩ := hq2
    rw [kq_over]
    refine mw_b_ne rfl (fun hs => ?_) (fun hs => ?_)
    · obtain ⟨-, -, -, hH, -⟩ := hI'.flag (g2 hs)
      obtain ⟨i, j, k, hi, hj, hk, rfl, rfl, rfl, hf, hf2⟩ := isF_nat hok hF
      refine mw_aload_n (i := 0) rfl rfl rfl ?_
      refine mw_getfield rfl f_X9_48 (by first | rfl | exact rfl | exact hP0) rfl ?_
      refine mw_getfield rfl f_X9_168 (by first | rfl | exact rfl | exact hP0) rfl ?_
      refine mw_iload_n (i := 1) rfl rfl rfl ?_
      refine mw_iload_n (i := 2) rfl rfl rfl ?_
      refine mw_iload_n (i := 3) rfl rfl rfl ?_
      refine mw_callS_f (c_atomNumber (d + 4) n i j k _) rfl ok_X9_atomNumber v_X9_108 rfl (Nat.le_of_ble_eq_true rfl) rfl (Nat.le_of_ble_eq_true rfl) (by omega) (by omega) (by omega) ?_
      rw [show i * 36 + j * 6 + k = fctN (nI i) (nI j) (nI k) by rw [hf]; omega]
      rw [← hf] at hf2
      refine mw_iald_v rfl (by first | rfl | exact rfl | exact hP0) (by omega) (by omega) (show vI x'.T.2.2.2 (fctN (nI i) (nI j) (nI k)) = nI (insN (hoV v) (fctN (nI i) (nI j) (nI k)) (hoV v).1) from congrArg nI (hH.2.2 _ hf2)) ?_
      exact mw_ireturn rfl rfl rfl rfl (Nat.le_refl _) ((hp _ x' hI' ⟨fun q => (by rw [hF] at q; cases q), fun _ q => (by rw [hs] at q; cases q), fun _ _ => rfl⟩))
    · refine mw_bipush (v := (-6)) rfl (by decide) ?_
      exact mw_ireturn rfl rfl rfl rfl (Nat.le_refl _) ((hp _ x' hI' ⟨fun q => (by rw [hF] at q; cases q), fun _ _ => rfl, fun _ q => (by rw [hs] at q; cases q)⟩))
  · refine mw_iconst (v := (-1)) rfl (by decide) ?_
    exact mw_ireturn rfl rfl rfl rfl (Nat.le_refl _) ((hp _ x H.2.2.2.2.2.2 ⟨fun _ => rfl, fun q => (by rw [hF] at q; cases q), fun q => (by rw [hF] at q; cases q)⟩))
/-- the form of an answer that is asked of a fact of the model -/
def wQ (v : Nat → Nat) (p a b : Int32) (B : Int32 → Prop) (r : Option Value) : Prop := (wrV v p a b < 0 → r = some (.int (wrV v p a b))) ∧ (0 ≤ wrV v p a b → ∃ y, B y ∧ r = some (.int y))
theorem wQ_lt {v : Nat → Nat} {p a b : Int32} {B : Int32 → Prop} (h : wrV v p a b < 0) : wQ v p a b B (some (.int (wrV v p a b))) := ⟨fun _ => rfl, fun q => absurd h (Int32.not_lt.mpr q)⟩
theorem wQ_ge {v : Nat → Nat} {p a b : Int32} {B : Int32 → Prop} {y : Int32} (h : wrV v p a b = 0) (hB : B y) : wQ v p a b B (some (.int y)) := ⟨fun q => absurd q (by rw [h]; decide), fun _ => ⟨y, hB, rfl⟩⟩
theorem c_kcost (d n : Nat) (p a b : Int32) (v sm : Nat → Nat) (P : PgS) (x : KD) (h : Nat → MC) (H : KW v sm P h x) : Sp M_X9_cost (d + 6) 0 0 [.ref 0, .int p, .int a, .int b] h n (KQ v sm h (fun x' r => wQ v p a b (fun y => ∃ c kr z u, KcOk v (hoV v) c kr z u ∧ y = nI (c (fctN p a b))) r)) := by
  show MW _ _ _ _ _ _ _ _ _ _ _ _
  generalize hpost : KQ v sm h (fun x' r => wQ v p a b (fun y => ∃ c kr z u, KcOk v (hoV v) c kr z u ∧ y = nI (c (fctN p a b))) r) = post
  have hp := fun (r : Option Value) (x' : KD) (h2 : KI v sm x') => KQ.mk hpost (r := r) x' h2
  clear hpost
  have hok := H.2.2.2.2.1
  have hKC : h 72 = KO := H.2.2.2.2.2.1.1
  refine mw_over (kqL x) H.1 ?_
  refine mw_aload_n (i := 0) rfl rfl rfl ?_
  refine mw_iload_n (i := 1) rfl rfl rfl ?_
  refine mw_iload_n (i := 2) rfl rfl rfl ?_
  refine mw_iload_n (i := 3) rfl rfl rfl ?_
  refine mw_callV (c_katom (d + 0) n p a b v sm P x _ (H.mv H.2.2.2.2.2.2)) rfl ok_X9_atomOfModel v_X9_162 rfl (by first | rfl | exact rfl | exact hKC) (by intro e; cases e) rfl (Nat.le_of_ble_eq_true rfl) rfl (Nat.le_of_ble_eq_true rfl) (by omega) (by omega) (by omega) ?_
  intro r2 h2 hq2
  obtain ⟨x', rfl, hI', rfl, g1⟩ := hq2
  rw [kq_over]
  rcases wrV_cases v p a b with hw | ⟨hw, hF, hs, hm⟩
  · rw [wA_lt hw]
    refine mw_istore rfl (Nat.le_of_ble_eq_true rfl) ?_
    refine mw_iload rfl rfl ?_
    refine mw_if_ge rfl (fun hc => ?_) (fun hc => ?_)
    · exact absurd hw (Int32.not_lt.mpr hc)
    · refine mw_iload rfl rfl ?_
      exact mw_ireturn rfl rfl rfl rfl (Nat.le_refl _) ((hp _ x' hI' (wQ_lt hw)))
  · rw [wA_ge (by rw [hw]; decide)]
    obtain ⟨i, j, k, hi, hj, hk, rfl, rfl, rfl, hf, hf2⟩ := isF_nat hok hF
    rw [← hf] at hf2
    refine mw_istore rfl (Nat.le_of_ble_eq_true rfl) ?_
    refine mw_iload rfl rfl ?_
    refine mw_if_ge rfl (fun hc => ?_) (fun hc => ?_)
    · refine mw_aload_n (i := 0) rfl rfl rfl ?_
      refine mw_callV (c_compC d n v sm P x' _ (H.mv hI') ((g1 hF).2 hs)) rfl ok_X9_computeCosts v_X9_171 rfl (by first | rfl | exact rfl | exact hKC) (by intro e; cases e) rfl (Nat.le_of_ble_eq_true rfl) rfl (Nat.le_of_ble_eq_true rfl) (by omega) (by omega) (by omega) ?_
      intro r3 h3 hq3
      obtain ⟨x3, rfl, hI3, rfl, k1, k2, -⟩ := hq3
      rw [kq_over]
      refine mw_aload_n (i := 0) rfl rfl rfl ?_
      refine mw_getfield rfl f_X9_55 (by first | rfl | exact rfl | exact hKC) rfl ?_
      refine mw_getfield rfl f_X9_174 (by first | rfl | exact rfl | exact hKC) rfl ?_
      refine mw_iload rfl rfl ?_
      refine mw_iald rfl (by first | rfl | exact rfl | exact hKC) (by omega) (by omega) ?_
      exact mw_ireturn rfl rfl rfl rfl (Nat.le_refl _) ((hp _ x3 hI3 (wQ_ge hw ⟨x3.C.1, x3.C.2.1, x3.C.2.2.1, x3.C.2.2.2.1, (hI3.2.2.2.1 k2).2, rfl⟩)))
    · exact absurd (nI_pos' (by omega)) hc
theorem c_klikelihood (d n : Nat) (p a b : Int32) (v sm : Nat → Nat) (P : PgS) (x : KD) (h : Nat → MC) (H : KW v sm P h x) : Sp M_X9_likelihood (d + 6) 0 0 [.ref 0, .int p, .int a, .int b] h n (KQ v sm h (fun x' r => wQ v p a b (fun y => ∃ l, KlOk v (hoV v) l ∧ y = (l (fctN p a b)).toInt32) r)) := by
  show MW _ _ _ _ _ _ _ _ _ _ _ _
  generalize hpost : KQ v sm h (fun x' r => wQ v p a b (fun y => ∃ l, KlOk v (hoV v) l ∧ y = (l (fctN p a b)).toInt32) r) = post
  have hp := fun (r : Option Value) (x' : KD) (h2 : KI v sm x') => KQ.mk hpost (r := r) x' h2
  clear hpost
  have hok := H.2.2.2.2.1
  have hKC : h 79 = LO := H.2.2.2.2.2.1.2.1
  refine mw_over (kqL x) H.1 ?_
  refine mw_aload_n (i := 0) rfl rfl rfl ?_
  refine mw_iload_n (i := 1) rfl rfl rfl ?_
  refine mw_iload_n (i := 2) rfl rfl rfl ?_
  refine mw_iload_n (i := 3) rfl rfl rfl ?_
  refine mw_callV (c_katom (d + 0) n p a b v sm P x _ (H.mv H.2.2.2.2.2.2)) rfl ok_X9_atomOfModel v_X9_162 rfl (by first | rfl | exact rfl | exact hKC) (by intro e; cases e) rfl (Nat.le_of_ble_eq_true rfl) rfl (Nat.le_of_ble_eq_true rfl) (by omega) (by omega) (by omega) ?_
  intro r2 h2 hq2
  obtain ⟨x', rfl, hI', rfl, g1⟩ := hq2
  rw [kq_over]
  rcases wrV_cases v p a b with hw | ⟨hw, hF, hs, hm⟩
  · rw [wA_lt hw]
    refine mw_istore rfl (Nat.le_of_ble_eq_true rfl) ?_
    refine mw_iload rfl rfl ?_
    refine mw_if_ge rfl (fun hc => ?_) (fun hc => ?_)
    · exact absurd hw (Int32.not_lt.mpr hc)
    · refine mw_iload rfl rfl ?_
      exact mw_ireturn rfl rfl rfl rfl (Nat.le_refl _) ((hp _ x' hI' (wQ_lt hw)))
  · rw [wA_ge (by rw [hw]; decide)]
    obtain ⟨i, j, k, hi, hj, hk, rfl, rfl, rfl, hf, hf2⟩ := isF_nat hok hF
    rw [← hf] at hf2
    refine mw_istore rfl (Nat.le_of_ble_eq_true rfl) ?_
    refine mw_iload rfl rfl ?_
    refine mw_if_ge rfl (fun hc => ?_) (fun hc => ?_)
    · refine mw_aload_n (i := 0) rfl rfl rfl ?_
      refine mw_callV (c_compL d n v sm P x' _ (H.mv hI') ((g1 hF).2 hs)) rfl ok_X9_computeLikelihoods v_X9_177 rfl (by first | rfl | exact rfl | exact hKC) (by intro e; cases e) rfl (Nat.le_of_ble_eq_true rfl) rfl (Nat.le_of_ble_eq_true rfl) (by omega) (by omega) (by omega) ?_
      intro r3 h3 hq3
      obtain ⟨x3, rfl, hI3, rfl, k1, k2, -⟩ := hq3
      rw [kq_over]
      have hL := (hI3.2.2.2.2.1 k2).2
      refine mw_aload_n (i := 0) rfl rfl rfl ?_
      refine mw_getfield rfl f_X9_62 (by first | rfl | exact rfl | exact hKC) rfl ?_
      refine mw_getfield rfl f_X9_180 (by first | rfl | exact rfl | exact hKC) rfl ?_
      refine mw_iload rfl rfl ?_
      refine mw_fald rfl (by first | rfl | exact rfl | exact hKC) (by omega) (by omega) ?_
      refine mw_callS_f (c_floatBits (d + 5) n (x3.l (fctN (nI i) (nI j) (nI k))) _ (hL.1 _)) rfl ok_X9_floatBits v_X9_184 rfl (Nat.le_of_ble_eq_true rfl) rfl (Nat.le_of_ble_eq_true rfl) (by omega) (by omega) (by omega) ?_
      exact mw_ireturn rfl rfl rfl rfl (Nat.le_refl _) ((hp _ x3 hI3 (wQ_ge hw ⟨x3.l, hL, rfl⟩)))
    · exact absurd (nI_pos' (by omega)) hc
def lsN (c kr z u : Nat → Nat) (f what : Nat) : Int32 := if c f < 1000001 then (if what = 0 then nI (kr f) else if what = 1 then nI (z f) else nI (u f)) else -5
theorem c_kleast (d n : Nat) (p a b what : Int32) (v sm : Nat → Nat) (P : PgS) (x : KD) (h : Nat → MC) (H : KW v sm P h x) : Sp M_X9_least (d + 6) 0 0 [.ref 0, .int p, .int a, .int b, .int what] h n (KQ v sm h (fun x' r => (wrV v p a b = -1 → r = some (.int (-1))) ∧ (wrV v p a b ≠ -1 → inI what 3 = false → r = some (.int (-2))) ∧ (wrV v p a b ≠ -1 → inI what 3 = true → wQ v p a b (fun y => ∃ c kr z u, KcOk v (hoV v) c kr z u ∧ y = lsN c kr z u (fctN p a b) what.toNatClampNeg) r))) := by
  show MW _ _ _ _ _ _ _ _ _ _ _ _
  generalize hpost : KQ v sm h (fun x' r => (wrV v p a b = -1 → r = some (.int (-1))) ∧ (wrV v p a b ≠ -1 → inI what 3 = false → r = some (.int (-2))) ∧ (wrV v p a b ≠ -1 → inI what 3 = true → wQ v p a b (fun y => ∃ c kr z u, KcOk v (hoV v) c kr z u ∧ y = lsN c kr z u (fctN p a b) what.toNatClampNeg) r)) = post
  have hp := fun (r : Option Value) (x' : KD) (h2 : KI v sm x') => KQ.mk hpost (r := r) x' h2
  clear hpost
  have hok := H.2.2.2.2.1
  have hP0 : h 1 = _ := H.2.1.cell (i := 0) (by omega)
  refine mw_over (kqL x) H.1 ?_
  refine mw_aload_n (i := 0) rfl rfl rfl ?_
  refine mw_getfield rfl f_X9_12 (by first | rfl | exact rfl | exact hP0) rfl ?_
  refine mw_iload_n (i := 1) rfl rfl rfl ?_
  refine mw_iload_n (i := 2) rfl rfl rfl ?_
  refine mw_iload_n (i := 3) rfl rfl rfl ?_
  refine mw_callV_f (c_hasAtom (d + 4) n p a b P v _ (H.2.1.mv rfl) H.2.2.1 hok) rfl ok_X5_hasAtom v_X9_101 rfl (by first | rfl | exact rfl | exact hP0) (by intro e; cases e) rfl (Nat.le_of_ble_eq_true rfl) rfl (Nat.le_of_ble_eq_true rfl) (by omega) (by omega) (by omega) ?_
  refine mw_b_ne rfl (fun hF => ?_) (fun hF => ?_)
  · have hw1 : wrV v p a b ≠ -1 := by
      intro q
      cases hs : (strF v).2.2
      · rw [wrV_6 hF hs] at q
        exact absurd q (by decide)
      · by_cases hm : (mdl0 v).1 (fctN p a b) < 0
        · rw [wrV_5 hF hs hm] at q
          exact absurd q (by decide)
        · rw [wrV_0 hF hs hm] at q
          exact absurd q (by decide)
    have bad : inI what 3 = false → MW M_X9_least (d + 6) 0 0 n post 26 [(0, .ref 0)] [] (mov (kqL x) h) n 0 := by
      intro hb
      refine mw_bipush (v := (-2)) rfl (by decide) ?_
      exact mw_ireturn rfl rfl rfl rfl (Nat.le_refl _) ((hp _ x H.2.2.2.2.2.2 ⟨fun q => absurd q hw1, fun _ _ => rfl, fun _ q => (by rw [hb] at q; cases q)⟩))
    refine mw_iload rfl rfl ?_
    refine mw_if_lt rfl (fun hc => ?_) (fun hc => ?_)
    · exact mw_locals rfl (bad (decide_eq_false (fun q => absurd q.1 (Int32.not_le.mpr hc))))
    · refine mw_iload rfl rfl ?_
      refine mw_iconst (v := nI 2) rfl (by decide) ?_
      refine mw_icmp_le rfl (fun hd => ?_) (fun hd => ?_)
      · have hb : inI what 3 = true := by
          rw [← inI_in (n := 2) (by omega)]
          exact decide_eq_true ⟨Int32.not_lt.mp hc, hd⟩
        obtain ⟨w, hw3, rfl⟩ := inI_of hb (by omega)
        refine mw_aload_n (i := 0) rfl rfl rfl ?_
        refine mw_iload_n (i := 1) rfl rfl rfl ?_
        refine mw_iload_n (i := 2) rfl rfl rfl ?_
        refine mw_iload_n (i := 3) rfl rfl rfl ?_
        refine mw_callV (c_katom (d + 0) n p a b v sm P x _ (H.mv H.2.2.2.2.2.2)) rfl ok_X9_atomOfModel v_X9_162 rfl (by first | rfl | exact rfl | exact hP0) (by intro e; cases e) rfl (Nat.le_of_ble_eq_true rfl) rfl (Nat.le_of_ble_eq_true rfl) (by omega) (by omega) (by omega) ?_
        intro r2 h2 hq2
        obtain ⟨x', rfl, hI', rfl, g1⟩ := hq2
        rw [kq_over]
        rcases wrV_cases v p a b with hw | ⟨hw, -, hs, hm⟩
        · rw [wA_lt hw]
          refine mw_istore rfl (Nat.le_of_ble_eq_true rfl) ?_
          refine mw_iload rfl rfl ?_
          refine mw_if_ge rfl (fun hc2 => ?_) (fun hc2 => ?_)
          · exact absurd hw (Int32.not_lt.mpr hc2)
          · refine mw_iload rfl rfl ?_
            exact mw_ireturn rfl rfl rfl rfl (Nat.le_refl _) ((hp _ x' hI' ⟨fun q => absurd q hw1, fun _ q => (by rw [hb] at q; cases q), fun _ _ => wQ_lt hw⟩))
        · rw [wA_ge (by rw [hw]; decide)]
          obtain ⟨i, j, k, hi, hj, hk, rfl, rfl, rfl, hf, hf2⟩ := isF_nat hok hF
          rw [← hf] at hf2
          refine mw_istore rfl (Nat.le_of_ble_eq_true rfl) ?_
          refine mw_iload rfl rfl ?_
          refine mw_if_ge rfl (fun hc2 => ?_) (fun hc2 => ?_)
          · refine mw_aload_n (i := 0) rfl rfl rfl ?_
            refine mw_callV (c_compC d n v sm P x' _ (H.mv hI') ((g1 hF).2 hs)) rfl ok_X9_computeCosts v_X9_171 rfl (by first | rfl | exact rfl | exact hP0) (by intro e; cases e) rfl (Nat.le_of_ble_eq_true rfl) rfl (Nat.le_of_ble_eq_true rfl) (by omega) (by omega) (by omega) ?_
            intro r3 h3 hq3
            obtain ⟨x3, rfl, hI3, rfl, k1, k2, -⟩ := hq3
            rw [kq_over]
            have hC := (hI3.2.2.2.1 k2).2
            refine mw_aload_n (i := 0) rfl rfl rfl ?_
            refine mw_iload rfl rfl ?_
            refine mw_iload rfl rfl ?_
            refine mw_callV_f (c_leastOf (d + 5) n (fctN (nI i) (nI j) (nI k)) w x3 h H.2.2.2.2.2.1.1 hf2 (coLim_F hC.1 _) hw3) rfl ok_X9_leastOf v_X9_188 rfl (by first | rfl | exact rfl | exact hP0) (by intro e; cases e) rfl (Nat.le_of_ble_eq_true rfl) rfl (Nat.le_of_ble_eq_true rfl) (by omega) (by omega) (by omega) ?_
            exact mw_ireturn rfl rfl rfl rfl (Nat.le_refl _) ((hp _ x3 hI3 ⟨fun q => absurd q hw1, fun _ q => (by rw [hb] at q; cases q), fun _ _ => wQ_ge hw ⟨x3.C.1, x3.C.2.1, x3.C.2.2.1, x3.C.2.2.2.1, hC, by rw [nI_clamp (by omega)]; rfl⟩⟩))
          · exact absurd (nI_pos' (by omega)) hc2
      · have hb : inI what 3 = false := by
          rw [← inI_in (n := 2) (by omega)]
          exact decide_eq_false (fun q => hd q.2)
        exact mw_locals rfl (bad hb)
  · refine mw_iconst (v := (-1)) rfl (by decide) ?_
    exact mw_ireturn rfl rfl rfl rfl (Nat.le_refl _) ((hp _ x H.2.2.2.2.2.2 ⟨fun _ => rfl, fun q => absurd (wrV_1 hF) q, fun q => absurd (wrV_1 hF) q⟩))
theorem c_kneeds (d n : Nat) (p a b : Int32) (v sm : Nat → Nat) (P : PgS) (x : KD) (h : Nat → MC) (H : KW v sm P h x) : Sp M_X9_needs (d + 6) 0 0 [.ref 0, .int p, .int a, .int b] h n (KQ v sm h (fun x' r => wQ v p a b (fun y => ∃ rr, KsOk v (hoV v) sm rr ∧ y = kneV sm rr (fctN p a b) 12) r)) := by
  show MW _ _ _ _ _ _ _ _ _ _ _ _
  generalize hpost : KQ v sm h (fun x' r => wQ v p a b (fun y => ∃ rr, KsOk v (hoV v) sm rr ∧ y = kneV sm rr (fctN p a b) 12) r) = post
  have hp := fun (r : Option Value) (x' : KD) (h2 : KI v sm x') => KQ.mk hpost (r := r) x' h2
  clear hpost
  have hok := H.2.2.2.2.1
  have hKC : h 81 = UO := H.2.2.2.2.2.1.2.2.1
  refine mw_over (kqL x) H.1 ?_
  refine mw_aload_n (i := 0) rfl rfl rfl ?_
  refine mw_iload_n (i := 1) rfl rfl rfl ?_
  refine mw_iload_n (i := 2) rfl rfl rfl ?_
  refine mw_iload_n (i := 3) rfl rfl rfl ?_
  refine mw_callV (c_katom (d + 0) n p a b v sm P x _ (H.mv H.2.2.2.2.2.2)) rfl ok_X9_atomOfModel v_X9_162 rfl (by first | rfl | exact rfl | exact hKC) (by intro e; cases e) rfl (Nat.le_of_ble_eq_true rfl) rfl (Nat.le_of_ble_eq_true rfl) (by omega) (by omega) (by omega) ?_
  intro r2 h2 hq2
  obtain ⟨x', rfl, hI', rfl, g1⟩ := hq2
  rw [kq_over]
  rcases wrV_cases v p a b with hw | ⟨hw, hF, hs, hm⟩
  · rw [wA_lt hw]
    refine mw_istore rfl (Nat.le_of_ble_eq_true rfl) ?_
    refine mw_iload rfl rfl ?_
    refine mw_if_ge rfl (fun hc => ?_) (fun hc => ?_)
    · exact absurd hw (Int32.not_lt.mpr hc)
    · refine mw_iload rfl rfl ?_
      exact mw_ireturn rfl rfl rfl rfl (Nat.le_refl _) ((hp _ x' hI' (wQ_lt hw)))
  · rw [wA_ge (by rw [hw]; decide)]
    obtain ⟨i, j, k, hi, hj, hk, rfl, rfl, rfl, hf, hf2⟩ := isF_nat hok hF
    rw [← hf] at hf2
    refine mw_istore rfl (Nat.le_of_ble_eq_true rfl) ?_
    refine mw_iload rfl rfl ?_
    refine mw_if_ge rfl (fun hc => ?_) (fun hc => ?_)
    · refine mw_aload_n (i := 0) rfl rfl rfl ?_
      refine mw_callV (c_compS d n v sm P x' _ (H.mv hI') ((g1 hF).2 hs)) rfl ok_X9_computeSurvivals v_X9_192 rfl (by first | rfl | exact rfl | exact hKC) (by intro e; cases e) rfl (Nat.le_of_ble_eq_true rfl) rfl (Nat.le_of_ble_eq_true rfl) (by omega) (by omega) (by omega) ?_
      intro r3 h3 hq3
      obtain ⟨x3, rfl, hI3, rfl, k1, k2⟩ := hq3
      rw [kq_over]
      refine mw_aload_n (i := 0) rfl rfl rfl ?_
      refine mw_getfield rfl f_X9_69 (by first | rfl | exact rfl | exact hKC) rfl ?_
      refine mw_iload rfl rfl ?_
      refine mw_callV_f (c_neededBy (d + 4) n (fctN (nI i) (nI j) (nI k)) sm x3.r _ hKC H.2.2.2.2.2.1.2.2.2 rfl hf2) rfl ok_X8_neededBy v_X9_195 rfl (by first | rfl | exact rfl | exact hKC) (by intro e; cases e) rfl (Nat.le_of_ble_eq_true rfl) rfl (Nat.le_of_ble_eq_true rfl) (by omega) (by omega) (by omega) ?_
      exact mw_ireturn rfl rfl rfl rfl (Nat.le_refl _) ((hp _ x3 hI3 (wQ_ge hw ⟨x3.r, (hI3.2.2.2.2.2.1 k2).2, rfl⟩)))
    · exact absurd (nI_pos' (by omega)) hc
theorem c_kcut (d n : Nat) (p a b : Int32) (v sm : Nat → Nat) (P : PgS) (x : KD) (h : Nat → MC) (H : KW v sm P h x) : Sp M_X9_cut (d + 6) 0 0 [.ref 0, .int p, .int a, .int b] h n (KQ v sm h (fun x' r => wQ v p a b (fun y => ∃ rr, KsOk v (hoV v) sm rr ∧ y = (upTo (cutF sm rr (fctN p a b)) 298).getD (-5)) r)) := by
  show MW _ _ _ _ _ _ _ _ _ _ _ _
  generalize hpost : KQ v sm h (fun x' r => wQ v p a b (fun y => ∃ rr, KsOk v (hoV v) sm rr ∧ y = (upTo (cutF sm rr (fctN p a b)) 298).getD (-5)) r) = post
  have hp := fun (r : Option Value) (x' : KD) (h2 : KI v sm x') => KQ.mk hpost (r := r) x' h2
  clear hpost
  have hok := H.2.2.2.2.1
  have hKC : h 81 = UO := H.2.2.2.2.2.1.2.2.1
  refine mw_over (kqL x) H.1 ?_
  refine mw_aload_n (i := 0) rfl rfl rfl ?_
  refine mw_iload_n (i := 1) rfl rfl rfl ?_
  refine mw_iload_n (i := 2) rfl rfl rfl ?_
  refine mw_iload_n (i := 3) rfl rfl rfl ?_
  refine mw_callV (c_katom (d + 0) n p a b v sm P x _ (H.mv H.2.2.2.2.2.2)) rfl ok_X9_atomOfModel v_X9_162 rfl (by first | rfl | exact rfl | exact hKC) (by intro e; cases e) rfl (Nat.le_of_ble_eq_true rfl) rfl (Nat.le_of_ble_eq_true rfl) (by omega) (by omega) (by omega) ?_
  intro r2 h2 hq2
  obtain ⟨x', rfl, hI', rfl, g1⟩ := hq2
  rw [kq_over]
  rcases wrV_cases v p a b with hw | ⟨hw, hF, hs, hm⟩
  · rw [wA_lt hw]
    refine mw_istore rfl (Nat.le_of_ble_eq_true rfl) ?_
    refine mw_iload rfl rfl ?_
    refine mw_if_ge rfl (fun hc => ?_) (fun hc => ?_)
    · exact absurd hw (Int32.not_lt.mpr hc)
    · refine mw_iload rfl rfl ?_
      exact mw_ireturn rfl rfl rfl rfl (Nat.le_refl _) ((hp _ x' hI' (wQ_lt hw)))
  · rw [wA_ge (by rw [hw]; decide)]
    obtain ⟨i, j, k, hi, hj, hk, rfl, rfl, rfl, hf, hf2⟩ := isF_nat hok hF
    rw [← hf] at hf2
    refine mw_istore rfl (Nat.le_of_ble_eq_true rfl) ?_
    refine mw_iload rfl rfl ?_
    refine mw_if_ge rfl (fun hc => ?_) (fun hc => ?_)
    · refine mw_aload_n (i := 0) rfl rfl rfl ?_
      refine mw_callV (c_compS d n v sm P x' _ (H.mv hI') ((g1 hF).2 hs)) rfl ok_X9_computeSurvivals v_X9_192 rfl (by first | rfl | exact rfl | exact hKC) (by intro e; cases e) rfl (Nat.le_of_ble_eq_true rfl) rfl (Nat.le_of_ble_eq_true rfl) (by omega) (by omega) (by omega) ?_
      intro r3 h3 hq3
      obtain ⟨x3, rfl, hI3, rfl, k1, k2⟩ := hq3
      rw [kq_over]
      refine mw_aload_n (i := 0) rfl rfl rfl ?_
      refine mw_getfield rfl f_X9_69 (by first | rfl | exact rfl | exact hKC) rfl ?_
      refine mw_iload rfl rfl ?_
      refine mw_callV_f (c_firstCut (d + 4) n (fctN (nI i) (nI j) (nI k)) sm x3.r _ hKC H.2.2.2.2.2.1.2.2.2 rfl hf2) rfl ok_X8_firstCut v_X9_198 rfl (by first | rfl | exact rfl | exact hKC) (by intro e; cases e) rfl (Nat.le_of_ble_eq_true rfl) rfl (Nat.le_of_ble_eq_true rfl) (by omega) (by omega) (by omega) ?_
      exact mw_ireturn rfl rfl rfl rfl (Nat.le_refl _) ((hp _ x3 hI3 (wQ_ge hw ⟨x3.r, (hI3.2.2.2.2.2.1 k2).2, rfl⟩)))
    · exact absurd (nI_pos' (by omega)) hc
