/-! THE CLASS'S CHECKSUM -/
def ckM (s : Int64) (y : Int32) : Int64 := 31 * s + y.toInt64
/-- what an atom adds -/
def ckF (ro : Nat → Int32) (ins c kr z u : Nat → Nat) (l : Nat → UInt32) (f : Nat) (s : Int64) : Int64 :=
  ckM (ckM (ckM (ckM (ckM (ckM (ckM s (ro f)) (nI (ins f))) (nI (c f))) (l f).toInt32) (lsN c kr z u f 0)) (lsN c kr z u f 1)) (lsN c kr z u f 2)
def ckG (ro : Nat → Int32) (ins c kr z u : Nat → Nat) (l : Nat → UInt32) (f : Nat) (s : Int64) : Int64 := if ro f = -1 then s else ckF ro ins c kr z u l f s
/-- what the program adds -/
def ckH (v : Nat → Nat) : Int64 := ckM (ckM (ckM (ckM 89 (nI (v 0))) (nI (v 1))) (nI (v 2))) (okA v (nI (cntM (mdl0 v).1 0 216)))
def ckS (v : Nat → Nat) (i : Nat) (s : Int64) : Int64 := ckM s (nI ((strF v).1 i))
/-- what the model adds -/
def ckV (v : Nat → Nat) (c kr z u : Nat → Nat) (l : Nat → UInt32) : Int64 := itN (ckG (mdl0 v).1 (fun f => insN (hoV v) f (hoV v).1) c kr z u l) (itN (ckS v) (ckM (ckH v) (nI (mdl0 v).2)) 6) 216
theorem c_withAtom (d n f : Nat) (s : Int64) (x : KD) (h : Nat → MC) (hKC : h 72 = KO) (hLO : h 79 = LO) (hf : f < 216) (hc : x.C.1 f ≤ 1000001) (hl : UF (x.l f)) : Fn M_X9_withAtom (d + 1) 0 0 [.ref 0, .long s, .int (nI f)] (mov (kqL x) h) n (some (.long (ckF x.m.1 x.T.2.2.2 x.C.1 x.C.2.1 x.C.2.2.1 x.C.2.2.2.1 x.l f s))) (mov (kqL x) h) := by
  refine Fn.of fun post hp => ?_
  refine mw_lload_n (i := 1) rfl rfl rfl ?_
  refine mw_lstore rfl (Nat.le_of_ble_eq_true rfl) ?_
  refine mw_ldc2 rfl c_X9_210 ?_
  refine mw_lload rfl rfl ?_
  refine mw_lmul rfl ?_
  refine mw_aload_n (i := 0) rfl rfl rfl ?_
  refine mw_getfield rfl f_X9_41 (by first | rfl | exact rfl | exact hKC | exact hLO) rfl ?_
  refine mw_getfield rfl f_X9_165 (by first | rfl | exact rfl | exact hKC | exact hLO) rfl ?_
  refine mw_iload_n (i := 3) rfl rfl rfl ?_
  refine mw_iald rfl (by first | rfl | exact rfl | exact hKC | exact hLO) (by omega) (by omega) ?_
  refine mw_i2l rfl ?_
  refine mw_ladd rfl ?_
  refine mw_lstore rfl (Nat.le_of_ble_eq_true rfl) ?_
  refine mw_ldc2 rfl c_X9_210 ?_
  refine mw_lload rfl rfl ?_
  refine mw_lmul rfl ?_
  refine mw_aload_n (i := 0) rfl rfl rfl ?_
  refine mw_getfield rfl f_X9_48 (by first | rfl | exact rfl | exact hKC | exact hLO) rfl ?_
  refine mw_getfield rfl f_X9_168 (by first | rfl | exact rfl | exact hKC | exact hLO) rfl ?_
  refine mw_iload_n (i := 3) rfl rfl rfl ?_
  refine mw_iald rfl (by first | rfl | exact rfl | exact hKC | exact hLO) (by omega) (by omega) ?_
  refine mw_i2l rfl ?_
  refine mw_ladd rfl ?_
  refine mw_lstore rfl (Nat.le_of_ble_eq_true rfl) ?_
  refine mw_ldc2 rfl c_X9_210 ?_
  refine mw_lload rfl rfl ?_
  refine mw_lmul rfl ?_
  refine mw_aload_n (i := 0) rfl rfl rfl ?_
  refine mw_getfield rfl f_X9_55 (by first | rfl | exact rfl | exact hKC | exact hLO) rfl ?_
  refine mw_getfield rfl f_X9_174 (by first | rfl | exact rfl | exact hKC | exact hLO) rfl ?_
  refine mw_iload_n (i := 3) rfl rfl rfl ?_
  refine mw_iald rfl (by first | rfl | exact rfl | exact hKC | exact hLO) (by omega) (by omega) ?_
  refine mw_i2l rfl ?_
  refine mw_ladd rfl ?_
  refine mw_lstore rfl (Nat.le_of_ble_eq_true rfl) ?_
  refine mw_ldc2 rfl c_X9_210 ?_
  refine mw_lload rfl rfl ?_
  refine mw_lmul rfl ?_
  refine mw_aload_n (i := 0) rfl rfl rfl ?_
  refine mw_getfield rfl f_X9_62 (by first | rfl | exact rfl | exact hKC | exact hLO) rfl ?_
  refine mw_getfield rfl f_X9_180 (by first | rfl | exact rfl | exact hKC | exact hLO) rfl ?_
  refine mw_iload_n (i := 3) rfl rfl rfl ?_
  refine mw_fald rfl (by first | rfl | exact rfl | exact hKC | exact hLO) (by omega) (by omega) ?_
  refine mw_callS_f (c_floatBits d n (x.l f) _ hl) rfl ok_X9_floatBits v_X9_184 rfl (Nat.le_of_ble_eq_true rfl) rfl (Nat.le_of_ble_eq_true rfl) (by omega) (by omega) (by omega) ?_
  refine mw_i2l rfl ?_
  refine mw_ladd rfl ?_
  refine mw_lstore rfl (Nat.le_of_ble_eq_true rfl) ?_
  refine mw_iconst (v := nI 0) rfl (by decide) ?_
  refine mw_istore rfl (Nat.le_of_ble_eq_true rfl) ?_
  refine mw_iload rfl rfl ?_
  refine mw_iconst (v := nI 2) rfl (by decide) ?_
  refine mw_n_gt rfl (by omega) (by omega) (fun q0 => ?_) (fun q0 => ?_)
  · omega
  · refine mw_ldc2 rfl c_X9_210 ?_
    refine mw_lload rfl rfl ?_
    refine mw_lmul rfl ?_
    refine mw_aload_n (i := 0) rfl rfl rfl ?_
    refine mw_iload_n (i := 3) rfl rfl rfl ?_
    refine mw_iload rfl rfl ?_
    refine mw_callV_f (c_leastOf d n f 0 x h hKC hf hc (by omega)) rfl ok_X9_leastOf v_X9_188 rfl (by first | rfl | exact rfl | exact hKC | exact hLO) (by intro e; cases e) rfl (Nat.le_of_ble_eq_true rfl) rfl (Nat.le_of_ble_eq_true rfl) (by omega) (by omega) (by omega) ?_
    refine mw_i2l rfl ?_
    refine mw_ladd rfl ?_
    refine mw_lstore rfl (Nat.le_of_ble_eq_true rfl) ?_
    first | refine mw_ninc rfl rfl (Nat.le_of_ble_eq_true rfl) ?_ | refine mw_iinc rfl rfl rfl (Nat.le_of_ble_eq_true rfl) ?_
    refine mw_goto rfl ?_
    refine mw_iload rfl rfl ?_
    refine mw_iconst (v := nI 2) rfl (by decide) ?_
    refine mw_n_gt rfl (by omega) (by omega) (fun q1 => ?_) (fun q1 => ?_)
    · omega
    · refine mw_ldc2 rfl c_X9_210 ?_
      refine mw_lload rfl rfl ?_
      refine mw_lmul rfl ?_
      refine mw_aload_n (i := 0) rfl rfl rfl ?_
      refine mw_iload_n (i := 3) rfl rfl rfl ?_
      refine mw_iload rfl rfl ?_
      refine mw_callV_f (c_leastOf d n f 1 x h hKC hf hc (by omega)) rfl ok_X9_leastOf v_X9_188 rfl (by first | rfl | exact rfl | exact hKC | exact hLO) (by intro e; cases e) rfl (Nat.le_of_ble_eq_true rfl) rfl (Nat.le_of_ble_eq_true rfl) (by omega) (by omega) (by omega) ?_
      refine mw_i2l rfl ?_
      refine mw_ladd rfl ?_
      refine mw_lstore rfl (Nat.le_of_ble_eq_true rfl) ?_
      first | refine mw_ninc rfl rfl (Nat.le_of_ble_eq_true rfl) ?_ | refine mw_iinc rfl rfl rfl (Nat.le_of_ble_eq_true rfl) ?_
      refine mw_goto rfl ?_
      refine mw_iload rfl rfl ?_
      refine mw_iconst (v := nI 2) rfl (by decide) ?_
      refine mw_n_gt rfl (by omega) (by omega) (fun q2 => ?_) (fun q2 => ?_)
      · omega
      · refine mw_ldc2 rfl c_X9_210 ?_
        refine mw_lload rfl rfl ?_
        refine mw_lmul rfl ?_
        refine mw_aload_n (i := 0) rfl rfl rfl ?_
        refine mw_iload_n (i := 3) rfl rfl rfl ?_
        refine mw_iload rfl rfl ?_
        refine mw_callV_f (c_leastOf d n f 2 x h hKC hf hc (by omega)) rfl ok_X9_leastOf v_X9_188 rfl (by first | rfl | exact rfl | exact hKC | exact hLO) (by intro e; cases e) rfl (Nat.le_of_ble_eq_true rfl) rfl (Nat.le_of_ble_eq_true rfl) (by omega) (by omega) (by omega) ?_
        refine mw_i2l rfl ?_
        refine mw_ladd rfl ?_
        refine mw_lstore rfl (Nat.le_of_ble_eq_true rfl) ?_
        first | refine mw_ninc rfl rfl (Nat.le_of_ble_eq_true rfl) ?_ | refine mw_iinc rfl rfl rfl (Nat.le_of_ble_eq_true rfl) ?_
        refine mw_goto rfl ?_
        refine mw_iload rfl rfl ?_
        refine mw_iconst (v := nI 2) rfl (by decide) ?_
        refine mw_n_gt rfl (by omega) (by omega) (fun q3 => ?_) (fun q3 => ?_)
        · refine mw_lload rfl rfl ?_
          exact mw_lreturn rfl rfl rfl (Nat.le_refl _) (hp)
        · omega
theorem c_kchecksum (d n : Nat) (v sm : Nat → Nat) (P : PgS) (x : KD) (h : Nat → MC) (H : KW v sm P h x) : Sp M_X9_checksum (d + 6) 0 0 [.ref 0] h n (KQ v sm h (fun x' r => ((strF v).2.2 = false → r = some (.long (ckH v))) ∧ ((strF v).2.2 = true → ∃ c kr z u l, KcOk v (hoV v) c kr z u ∧ KlOk v (hoV v) l ∧ r = some (.long (ckV v c kr z u l))))) := by
  show MW _ _ _ _ _ _ _ _ _ _ _ _
  generalize hpost : KQ v sm h (fun x' r => ((strF v).2.2 = false → r = some (.long (ckH v))) ∧ ((strF v).2.2 = true → ∃ c kr z u l, KcOk v (hoV v) c kr z u ∧ KlOk v (hoV v) l ∧ r = some (.long (ckV v c kr z u l)))) = post
  have hp := fun (r : Option Value) (x' : KD) (h2 : KI v sm x') => KQ.mk hpost (r := r) x' h2
  clear hpost
  have hok := H.2.2.2.2.1
  have hP0 : h 1 = _ := H.2.1.cell (i := 0) (by omega)
  have hKC : h 72 = KO := H.2.2.2.2.2.1.1
  have hLO : h 79 = LO := H.2.2.2.2.2.1.2.1
  have p1 : P.c = v 0 := H.2.2.1.1
  have p2 : P.fc = v 1 := H.2.2.1.2.2.1
  have p3 : P.rc = v 2 := H.2.2.1.2.2.2.2.1
  refine mw_over (kqL x) H.1 ?_
  refine mw_ldc2 rfl c_X9_208 ?_
  refine mw_lstore_n (i := 1) rfl rfl (Nat.le_of_ble_eq_true rfl) ?_
  refine mw_ldc2 rfl c_X9_210 ?_
  refine mw_lload_n (i := 1) rfl rfl rfl ?_
  refine mw_lmul rfl ?_
  refine mw_aload_n (i := 0) rfl rfl rfl ?_
  refine mw_getfield rfl f_X9_12 (by first | rfl | exact rfl | exact hP0 | exact hLO) rfl ?_
  refine mw_getfield rfl f_X9_80 (by first | rfl | exact rfl | exact hP0 | exact hLO) rfl ?_
  rw [p1]
  refine mw_i2l rfl ?_
  refine mw_ladd rfl ?_
  refine mw_lstore_n (i := 1) rfl rfl (Nat.le_of_ble_eq_true rfl) ?_
  refine mw_ldc2 rfl c_X9_210 ?_
  refine mw_lload_n (i := 1) rfl rfl rfl ?_
  refine mw_lmul rfl ?_
  refine mw_aload_n (i := 0) rfl rfl rfl ?_
  refine mw_getfield rfl f_X9_12 (by first | rfl | exact rfl | exact hP0 | exact hLO) rfl ?_
  refine mw_getfield rfl f_X9_105 (by first | rfl | exact rfl | exact hP0 | exact hLO) rfl ?_
  rw [p2]
  refine mw_i2l rfl ?_
  refine mw_ladd rfl ?_
  refine mw_lstore_n (i := 1) rfl rfl (Nat.le_of_ble_eq_true rfl) ?_
  refine mw_ldc2 rfl c_X9_210 ?_
  refine mw_lload_n (i := 1) rfl rfl rfl ?_
  refine mw_lmul rfl ?_
  refine mw_aload_n (i := 0) rfl rfl rfl ?_
  refine mw_getfield rfl f_X9_12 (by first | rfl | exact rfl | exact hP0 | exact hLO) rfl ?_
  refine mw_getfield rfl f_X9_121 (by first | rfl | exact rfl | exact hP0 | exact hLO) rfl ?_
  rw [p3]
  refine mw_i2l rfl ?_
  refine mw_ladd rfl ?_
  refine mw_lstore_n (i := 1) rfl rfl (Nat.le_of_ble_eq_true rfl) ?_
  refine mw_ldc2 rfl c_X9_210 ?_
  refine mw_lload_n (i := 1) rfl rfl rfl ?_
  refine mw_lmul rfl ?_
  refine mw_aload_n (i := 0) rfl rfl rfl ?_
  refine mw_callV (c_ksize d n v sm P x _ (H.mv H.2.2.2.2.2.2)) rfl ok_X9_size v_X9_212 rfl (by first | rfl | exact rfl | exact hP0 | exact hLO) (by intro e; cases e) rfl (Nat.le_of_ble_eq_true rfl) rfl (Nat.le_of_ble_eq_true rfl) (by omega) (by omega) (by omega) ?_
  intro r2 h2 hq2
  obtain ⟨x1, rfl, hI1, rfl⟩ := hq2
  rw [kq_over]
  refine mw_i2l rfl ?_
  refine mw_ladd rfl ?_
  refine mw_lstore_n (i := 1) rfl rfl (Nat.le_of_ble_eq_true rfl) ?_
  refine mw_aload_n (i := 0) rfl rfl rfl ?_
  refine mw_callV (c_hasModel (d + 1) n v sm P x1 _ (H.mv hI1)) rfl ok_X9_hasModel v_X9_145 rfl (by first | rfl | exact rfl | exact hP0 | exact hLO) (by intro e; cases e) rfl (Nat.le_of_ble_eq_true rfl) rfl (Nat.le_of_ble_eq_true rfl) (by omega) (by omega) (by omega) ?_
  intro r3 h3 hq3
  obtain ⟨x2, rfl, hI2, rfl, g1, g2⟩ := hq3
  rw [kq_over]
  refine mw_b_ne rfl (fun hs => ?_) (fun hs => ?_)
  · have hm := g2 hs
    obtain ⟨-, -, f1, hH, hG⟩ := hI2.flag hm
    have f2 : x2.m.2.1 = (mdl0 v).2 := (hI2.2.2.1 hm).2.2.2.1
    have t1 := ((stOk hok hG).2 hs).1
    refine mw_ldc2 rfl c_X9_210 ?_
    refine mw_lload_n (i := 1) rfl rfl rfl ?_
    refine mw_lmul rfl ?_
    refine mw_aload_n (i := 0) rfl rfl rfl ?_
    refine mw_getfield rfl f_X9_41 (by first | rfl | exact rfl | exact hP0 | exact hLO) rfl ?_
    refine mw_getfield rfl f_X9_159 (by first | rfl | exact rfl | exact hP0 | exact hLO) rfl ?_
    show MW _ _ _ _ _ _ _ _ (.int (nI x2.m.2.1) :: _) _ _ _
    rw [f2]
    refine mw_i2l rfl ?_
    refine mw_ladd rfl ?_
    refine mw_lstore_n (i := 1) rfl rfl (Nat.le_of_ble_eq_true rfl) ?_
    refine mw_iconst (v := nI 0) rfl (by decide) ?_
    refine mw_istore_n (i := 3) rfl rfl (Nat.le_of_ble_eq_true rfl) ?_
    have loop : ∀ i, i ≤ 6 → MW M_X9_checksum (d + 6) 0 0 n post 87 [(0, .ref 0), (1, .long (itN (ckS v) (ckM (ckH v) (nI (mdl0 v).2)) i)), (3, .int (nI i))] [] (mov (kqL x2) h) n 0 := by
      refine loop_up 6 ?_ ?_
      · refine mw_iload_n (i := 3) rfl rfl rfl ?_
        refine mw_bipush (v := nI 6) rfl (by decide) ?_
        refine mw_n_ge rfl (by omega) (by omega) (fun q1 => ?_) (fun q1 => ?_)
        · generalize hS6 : itN (ckS v) (ckM (ckH v) (nI (mdl0 v).2)) 6 = S6
          refine mw_aload_n (i := 0) rfl rfl rfl ?_
          refine mw_callV (c_compC (d + 1) n v sm P x2 _ (H.mv hI2) hm) rfl ok_X9_computeCosts v_X9_171 rfl (by first | rfl | exact rfl | exact hP0 | exact hLO) (by intro e; cases e) rfl (Nat.le_of_ble_eq_true rfl) rfl (Nat.le_of_ble_eq_true rfl) (by omega) (by omega) (by omega) ?_
          intro r4 h4 hq4
          obtain ⟨x3, rfl, hI3, rfl, k1, k2, -⟩ := hq4
          rw [kq_over]
          refine mw_aload_n (i := 0) rfl rfl rfl ?_
          refine mw_callV (c_compL (d + 1) n v sm P x3 _ (H.mv hI3) k1) rfl ok_X9_computeLikelihoods v_X9_177 rfl (by first | rfl | exact rfl | exact hP0 | exact hLO) (by intro e; cases e) rfl (Nat.le_of_ble_eq_true rfl) rfl (Nat.le_of_ble_eq_true rfl) (by omega) (by omega) (by omega) ?_
          intro r5 h5 hq5
          obtain ⟨x4, rfl, hI4, rfl, k3, k4, k5⟩ := hq5
          rw [kq_over]
          have hL := (hI4.2.2.2.2.1 k4).2
          have hC := (hI4.2.2.2.1 (k5 k2)).2
          obtain ⟨-, -, f3, hH4, -⟩ := hI4.flag k3
          refine mw_iconst (v := nI 0) rfl (by decide) ?_
          refine mw_istore_n (i := 3) rfl rfl (Nat.le_of_ble_eq_true rfl) ?_
          have loop2 : ∀ i, i ≤ 216 → MW M_X9_checksum (d + 6) 0 0 n post 126 [(0, .ref 0), (1, .long (itN (ckG (mdl0 v).1 (fun f => insN (hoV v) f (hoV v).1) x4.C.1 x4.C.2.1 x4.C.2.2.1 x4.C.2.2.2.1 x4.l) S6 i)), (3, .int (nI i))] [] (mov (kqL x4) h) n 0 := by
            refine loop_up 216 ?_ ?_
            · refine mw_iload_n (i := 3) rfl rfl rfl ?_
              refine mw_sipush (v := nI 216) rfl (by decide) ?_
              refine mw_n_ge rfl (by omega) (by omega) (fun q2 => ?_) (fun q2 => ?_)
              · refine mw_lload_n (i := 1) rfl rfl rfl ?_
                exact mw_lreturn rfl rfl rfl (Nat.le_refl _) ((hp _ x4 hI4 ⟨fun q => (by rw [hs] at q; cases q), fun _ => ⟨_, _, _, _, _, hC, hL, by unfold ckV; rw [hS6]⟩⟩))
              · omega
            · intro i hi ih
              have eA : itN (ckG (mdl0 v).1 (fun f => insN (hoV v) f (hoV v).1) x4.C.1 x4.C.2.1 x4.C.2.2.1 x4.C.2.2.2.1 x4.l) S6 (i + 1) = ckG (mdl0 v).1 (fun f => insN (hoV v) f (hoV v).1) x4.C.1 x4.C.2.1 x4.C.2.2.1 x4.C.2.2.2.1 x4.l i (itN (ckG (mdl0 v).1 (fun f => insN (hoV v) f (hoV v).1) x4.C.1 x4.C.2.1 x4.C.2.2.1 x4.C.2.2.2.1 x4.l) S6 i) := rfl
              rw [eA] at ih
              generalize itN (ckG (mdl0 v).1 (fun f => insN (hoV v) f (hoV v).1) x4.C.1 x4.C.2.1 x4.C.2.2.1 x4.C.2.2.2.1 x4.l) S6 i = s at ih ⊢
              unfold ckG at ih
              rw [← f3] at ih
              refine mw_iload_n (i := 3) rfl rfl rfl ?_
              refine mw_sipush (v := nI 216) rfl (by decide) ?_
              refine mw_n_ge rfl (by omega) (by omega) (fun q2 => ?_) (fun q2 => ?_)
              · omega
              · refine mw_aload_n (i := 0) rfl rfl rfl ?_
                refine mw_getfield rfl f_X9_41 (by first | rfl | exact rfl | exact hP0 | exact hLO) rfl ?_
                refine mw_getfield rfl f_X9_165 (by first | rfl | exact rfl | exact hP0 | exact hLO) rfl ?_
                refine mw_iload_n (i := 3) rfl rfl rfl ?_
                refine mw_iald rfl (by first | rfl | exact rfl | exact hP0 | exact hLO) (by omega) (by omega) ?_
                refine mw_iconst (v := (-1)) rfl (by decide) ?_
                refine mw_icmp_eq rfl (fun q3 => ?_) (fun q3 => ?_)
                · rw [if_pos q3] at ih
                  first | refine mw_ninc rfl rfl (Nat.le_of_ble_eq_true rfl) ?_ | refine mw_iinc rfl rfl rfl (Nat.le_of_ble_eq_true rfl) ?_
                  refine mw_goto rfl ?_
                  exact mw_locals rfl ih
                · rw [if_neg q3] at ih
                  have eF : ckF x4.m.1 x4.T.2.2.2 x4.C.1 x4.C.2.1 x4.C.2.2.1 x4.C.2.2.2.1 x4.l i s = ckF x4.m.1 (fun f => insN (hoV v) f (hoV v).1) x4.C.1 x4.C.2.1 x4.C.2.2.1 x4.C.2.2.2.1 x4.l i s := by
                    unfold ckF
                    rw [hH4.2.2 i hi]
                  refine mw_aload_n (i := 0) rfl rfl rfl ?_
                  refine mw_lload_n (i := 1) rfl rfl rfl ?_
                  refine mw_iload_n (i := 3) rfl rfl rfl ?_
                  refine mw_callV_f (c_withAtom (d + 4) n i s x4 h hKC hLO hi (coLim_F hC.1 _) (hL.1 _)) rfl ok_X9_withAtom v_X9_216 rfl (by first | rfl | exact rfl | exact hP0 | exact hLO) (by intro e; cases e) rfl (Nat.le_of_ble_eq_true rfl) rfl (Nat.le_of_ble_eq_true rfl) (by omega) (by omega) (by omega) ?_
                  rw [eF]
                  refine mw_lstore_n (i := 1) rfl rfl (Nat.le_of_ble_eq_true rfl) ?_
                  first | refine mw_ninc rfl rfl (Nat.le_of_ble_eq_true rfl) ?_ | refine mw_iinc rfl rfl rfl (Nat.le_of_ble_eq_true rfl) ?_
                  refine mw_goto rfl ?_
                  exact mw_locals rfl ih
          exact mw_locals rfl (loop2 0 (by omega))
        · omega
      · intro i hi ih
        have eA : itN (ckS v) (ckM (ckH v) (nI (mdl0 v).2)) (i + 1) = ckM (itN (ckS v) (ckM (ckH v) (nI (mdl0 v).2)) i) (nI ((strF v).1 i)) := rfl
        rw [eA] at ih
        generalize itN (ckS v) (ckM (ckH v) (nI (mdl0 v).2)) i = s at ih ⊢
        refine mw_iload_n (i := 3) rfl rfl rfl ?_
        refine mw_bipush (v := nI 6) rfl (by decide) ?_
        refine mw_n_ge rfl (by omega) (by omega) (fun q1 => ?_) (fun q1 => ?_)
        · omega
        · refine mw_ldc2 rfl c_X9_210 ?_
          refine mw_lload_n (i := 1) rfl rfl rfl ?_
          refine mw_lmul rfl ?_
          refine mw_aload_n (i := 0) rfl rfl rfl ?_
          refine mw_getfield rfl f_X9_34 (by first | rfl | exact rfl | exact hP0 | exact hLO) rfl ?_
          refine mw_getfield rfl f_X9_149 (by first | rfl | exact rfl | exact hP0 | exact hLO) rfl ?_
          refine mw_iload_n (i := 3) rfl rfl rfl ?_
          refine mw_iald_v rfl (by first | rfl | exact rfl | exact hP0 | exact hLO) (by omega) (by omega) (show vI x2.g.st i = nI ((strF v).1 i) from congrArg nI (congrFun t1 i)) ?_
          refine mw_i2l rfl ?_
          refine mw_ladd rfl ?_
          refine mw_lstore_n (i := 1) rfl rfl (Nat.le_of_ble_eq_true rfl) ?_
          first | refine mw_ninc rfl rfl (Nat.le_of_ble_eq_true rfl) ?_ | refine mw_iinc rfl rfl rfl (Nat.le_of_ble_eq_true rfl) ?_
          refine mw_goto rfl ?_
          exact mw_locals rfl ih
    exact mw_locals rfl (loop 0 (by omega))
  · refine mw_lload_n (i := 1) rfl rfl rfl ?_
    exact mw_lreturn rfl rfl rfl (Nat.le_refl _) ((hp _ x2 hI2 ⟨fun _ => rfl, fun q => (by rw [hs] at q; cases q)⟩))
