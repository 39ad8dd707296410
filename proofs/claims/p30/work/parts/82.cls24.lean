/-! THE CLASS'S QUESTIONS: deletions -/
theorem pow12 {n : Nat} (h : n ≤ 12) : 1 ≤ 2 ^ n ∧ 2 ^ n ≤ 4096 := ⟨Nat.one_le_two_pow, Nat.pow_le_pow_right (by omega) h⟩
theorem maskI {m n : Nat} (hm : m < 2147483648) (hn : n ≤ 12) : nI m &&& nI (2 ^ n - 1) = nI (m % 2 ^ n) := by
  refine pk_andN (by omega) n ?_
  have := pow12 hn
  show (BitVec.ofNat 32 (2 ^ n - 1)).toNat = _
  rw [BitVec.toNat_ofNat]
  exact Nat.mod_eq_of_lt (by omega)
theorem delB_nI {U k : Nat} (hU : U < 2147483648) (hk : k < 31) : delB (nI U) k = !U.testBit k := by
  unfold delB
  rw [bitN hU hk, Nat.testBit_eq_decide_div_mod_eq]
  have h2 : U / 2 ^ k % 2 = 0 ∨ U / 2 ^ k % 2 = 1 := by omega
  rcases h2 with e | e
  · rw [e]; rfl
  · rw [e]; rfl
theorem delB_mask {m n k : Nat} (hm : m < 2147483648) (hn : n ≤ 12) (hk : k < n) : delB (nI (m % 2 ^ n)) k = delB (nI m) k := by
  have := pow12 hn
  have hlt : m % 2 ^ n < 2 ^ n := Nat.mod_lt _ (by omega)
  rw [delB_nI (by omega) (by omega), delB_nI hm (by omega), Nat.testBit_mod_two_pow, decide_eq_true hk, Bool.true_and]
theorem baseM_del {v : Nat → Nat} {x y : Int32} (h : ∀ k, k < v 1 → delB x k = delB y k) : baseM v x = baseM v y := itN_cg fun k hk m => by rw [h k hk]
theorem mdlV_del {v st : Nat → Nat} {x y : Int32} (h : ∀ k, k < v 1 → delB x k = delB y k) : mdlV v st x = mdlV v st y := by
  unfold mdlV
  rw [baseM_del h]
set_option maxRecDepth 20000 in
theorem c_lesser (d n m : Nat) (v sm : Nat → Nat) (P : PgS) (x : KD) (h : Nat → MC) (H : KW v sm P h x) (hg : x.gF = true) (hs : (strF v).2.2 = true) (hm : m < 2147483648) : Sp M_X9_buildLesserModel (d + 4) 0 0 [.ref 0, .int (nI m)] h n (KQ v sm h (fun x' r => r = none ∧ x'.o.1 = mdlX v (nI m) ∧ x'.o.2.2 = cntM (mdlX v (nI m)) 0 216)) := by
  show MW _ _ _ _ _ _ _ _ _ _ _ _
  generalize hpost : KQ v sm h (fun x' r => r = none ∧ x'.o.1 = mdlX v (nI m) ∧ x'.o.2.2 = cntM (mdlX v (nI m)) 0 216) = post
  have hp := fun (x' : KD) (h2 : KI v sm x') (h3 : x'.o.1 = mdlX v (nI m)) (h4 : x'.o.2.2 = cntM (mdlX v (nI m)) 0 216) => KQ.mk hpost (r := none) x' h2 ⟨rfl, h3, h4⟩
  clear hpost
  obtain ⟨hAt, hPg, hV, hSf, hok, hKK, hI⟩ := H
  have hf12 := hok.2.2.1
  have hP0 : h 1 = _ := hPg.cell (i := 0) (by omega)
  have hpw := pow12 hf12
  have e1 : mdlV v (strF v).1 (nI (m % 2 ^ v 1)) = mdlV v (strF v).1 (nI m) := mdlV_del fun k hk => delB_mask hm hf12 hk
  refine mw_over (kqL x) hAt ?_
  refine mw_iload_n (i := 1) rfl rfl rfl ?_
  refine mw_iconst (v := nI 1) rfl (by decide) ?_
  refine mw_aload_n (i := 0) rfl rfl rfl ?_
  refine mw_getfield rfl f_X9_12 (by first | rfl | exact rfl | exact hP0) rfl ?_
  refine mw_getfield rfl f_X9_105 (by first | rfl | exact rfl | exact hP0) rfl ?_
  rw [show P.fc = v 1 from hV.2.2.1]
  refine mw_ishl rfl ?_
  rw [shlN (a := 1) (by omega) (by omega), Nat.one_mul]
  refine mw_iconst (v := nI 1) rfl (by decide) ?_
  first | refine mw_nsub rfl hpw.1 ?_ | refine mw_isub rfl ?_
  refine mw_iand rfl ?_
  rw [maskI hm hf12]
  refine mw_istore_n (i := 2) rfl rfl (Nat.le_of_ble_eq_true rfl) ?_
  refine mw_aload_n (i := 0) rfl rfl rfl ?_
  refine mw_getfield rfl f_X9_76 (by first | rfl | exact rfl | exact hP0) rfl ?_
  refine mw_iload_n (i := 2) rfl rfl rfl ?_
  show MW _ _ _ _ _ _ _ _ (.int (nI (m % 2 ^ v 1)) :: .int x.lw :: []) _ _ _
  refine mw_icmp_eq rfl (fun hc => ?_) (fun hc => ?_)
  · rcases hI.2.2.2.2.2.2 with q | ⟨-, -, q1, q2⟩
    · rw [q] at hc
      have hlt : m % 2 ^ v 1 < 2 ^ v 1 := Nat.mod_lt _ (by omega)
      exact absurd hc.symm (nI_nm1 (by omega))
    · rw [hc, e1] at q1
      have q1 : x.o.1 = mdlX v (nI m) := q1
      rw [q1] at q2
      exact mw_return rfl rfl rfl (Nat.le_refl _) ((hp x hI q1 q2))
  · obtain ⟨i1, i2, i3, i4, i5, i6, i7⟩ := hI
    have hG := i2 hg
    obtain ⟨t1, t2, t3⟩ := (stOk hok hG).2 hs
    refine mw_aload_n (i := 0) rfl rfl rfl ?_
    refine mw_getfield rfl f_X9_73 (by first | rfl | exact rfl | exact hP0) rfl ?_
    refine mw_aload_n (i := 0) rfl rfl rfl ?_
    refine mw_getfield rfl f_X9_12 (by first | rfl | exact rfl | exact hP0) rfl ?_
    refine mw_aload_n (i := 0) rfl rfl rfl ?_
    refine mw_getfield rfl f_X9_34 (by first | rfl | exact rfl | exact hP0) rfl ?_
    refine mw_iload_n (i := 2) rfl rfl rfl ?_
    refine mw_heap (h2 := mov (mdLB x.o.1 x.o.2.1 x.o.2.2) (mov (kqL x) h)) (mov_sub h (by intro q hq; simp only [List.mem_cons, List.not_mem_nil, or_false] at hq; rcases hq with rfl | rfl <;> rfl)) ?_
    refine mw_callV_f (c_kbuildB d n x.o.2.1 x.o.2.2 (nI (m % 2 ^ v 1)) P v x.o.1 x.g (mov (kqL x) h) (hPg.mv rfl) hV ⟨rfl, rfl, rfl, rfl, rfl, rfl, rfl, rfl, rfl, rfl, rfl⟩ hG hok t2 t3) rfl ok_X4_build v_X9_252 rfl (by first | rfl | exact rfl | exact hP0) (by intro e; cases e) rfl (Nat.le_of_ble_eq_true rfl) rfl (Nat.le_of_ble_eq_true rfl) (by omega) (by omega) (by omega) ?_
    rw [t1, ← mov_puts]
    obtain ⟨x1, hx1⟩ : ∃ x1 : KD, x1 = ((x.gF, x.mF, x.cF, x.lF, x.sF, nI (m % 2 ^ v 1)), x.g, x.m, x.T, x.C, x.l, x.r, ((mdlV v (strF v).1 (nI (m % 2 ^ v 1))).1, (mdlV v (strF v).1 (nI (m % 2 ^ v 1))).2, cntM (mdlV v (strF v).1 (nI (m % 2 ^ v 1))).1 0 216)) := ⟨_, rfl⟩
    have hI1 : KI v sm x1 := by
      rw [hx1]
      exact ⟨i1, i2, i3, i4, i5, i6, Or.inr ⟨hg, hs, rfl, rfl⟩⟩
    refine mw_aload_n (i := 0) rfl rfl rfl ?_
    refine mw_iload_n (i := 2) rfl rfl rfl ?_
    refine mw_putfield_m rfl f_X9_76 (by first | rfl | exact rfl | exact hP0) (Nat.le_of_ble_eq_true rfl) (fun _ => rfl) (fun _ => rfl) ?_
    refine mw_heap (h2 := mov (kqL x1) h) (by rw [hx1]; rfl) ?_
    exact mw_return rfl rfl rfl (Nat.le_refl _) ((hp x1 hI1 (by rw [hx1, e1]; rfl) (by rw [hx1, e1]; rfl)))
theorem c_ksizeW_e (d n : Nat) (y : Int32) (h : Nat → MC) (hy : y < 0) : Fn M_X9_sizeWithout d 0 0 [.ref 0, .int y] h n (some (.int (-2))) h := by
  refine Fn.of fun post hp => ?_
  refine mw_iload_n (i := 1) rfl rfl rfl ?_
  refine mw_if_ge rfl (fun hc => ?_) (fun hc => ?_)
  · exact absurd hy (Int32.not_lt.mpr hc)
  · refine mw_bipush (v := (-2)) rfl (by decide) ?_
    exact mw_ireturn rfl rfl rfl rfl (Nat.le_refl _) (hp)
theorem c_ksizeW (d n : Nat) (y : Int32) (v sm : Nat → Nat) (P : PgS) (x : KD) (h : Nat → MC) (H : KW v sm P h x) (hy : 0 ≤ y) : Sp M_X9_sizeWithout (d + 5) 0 0 [.ref 0, .int y] h n (KQ v sm h (fun x' r => r = some (.int (okA v (nI (cntM (mdlX v y) 0 216)))))) := by
  show MW _ _ _ _ _ _ _ _ _ _ _ _
  generalize hpost : KQ v sm h (fun x' r => r = some (.int (okA v (nI (cntM (mdlX v y) 0 216))))) = post
  have hp := fun (x' : KD) (h2 : KI v sm x') => KQ.mk hpost (r := some (.int (okA v (nI (cntM (mdlX v y) 0 216))))) x' h2 rfl
  clear hpost
  obtain ⟨m, hm, rfl⟩ := nI_of (Int32.not_lt.mpr hy)
  refine mw_over (kqL x) H.1 ?_
  refine mw_iload_n (i := 1) rfl rfl rfl ?_
  refine mw_if_ge rfl (fun hc => ?_) (fun hc => ?_)
  · refine mw_aload_n (i := 0) rfl rfl rfl ?_
    refine mw_callV (c_hasModel d n v sm P x _ (H.mv H.2.2.2.2.2.2)) rfl ok_X9_hasModel v_X9_145 rfl (by first | rfl | exact rfl) (by intro e; cases e) rfl (Nat.le_of_ble_eq_true rfl) rfl (Nat.le_of_ble_eq_true rfl) (by omega) (by omega) (by omega) ?_
    intro r2 h2 hq2
    obtain ⟨x', rfl, hI', rfl, g1, g2⟩ := hq2
    rw [kq_over]
    refine mw_b_ne rfl (fun hs => ?_) (fun hs => ?_)
    · refine mw_aload_n (i := 0) rfl rfl rfl ?_
      refine mw_iload_n (i := 1) rfl rfl rfl ?_
      refine mw_callV (c_lesser d n m v sm P x' _ (H.mv hI') g1 hs hm) rfl ok_X9_buildLesserModel v_X9_201 rfl (by first | rfl | exact rfl) (by intro e; cases e) rfl (Nat.le_of_ble_eq_true rfl) rfl (Nat.le_of_ble_eq_true rfl) (by omega) (by omega) (by omega) ?_
      intro r3 h3 hq3
      obtain ⟨x3, rfl, hI3, rfl, k1, k2⟩ := hq3
      rw [kq_over]
      have hpx := hp x3 hI3
      rw [okA_1 hs, ← k2] at hpx
      refine mw_aload_n (i := 0) rfl rfl rfl ?_
      refine mw_getfield rfl f_X9_73 (by first | rfl | exact rfl) rfl ?_
      refine mw_getfield rfl f_X9_152 (by first | rfl | exact rfl) rfl ?_
      exact mw_ireturn rfl rfl rfl rfl (Nat.le_refl _) (hpx)
    · have hpx := hp x' hI'
      rw [okA_0 hs] at hpx
      refine mw_bipush (v := (-6)) rfl (by decide) ?_
      exact mw_ireturn rfl rfl rfl rfl (Nat.le_refl _) (hpx)
  · exact absurd hy hc
theorem c_kholdsW (d n : Nat) (y p a b : Int32) (v sm : Nat → Nat) (P : PgS) (x : KD) (h : Nat → MC) (H : KW v sm P h x) : Sp M_X9_holdsWithout (d + 5) 0 0 [.ref 0, .int y, .int p, .int a, .int b] h n (KQ v sm h (fun x' r => (isF v p a b = false → r = some (.int (-1))) ∧ (isF v p a b = true → y < 0 → r = some (.int (-2))) ∧ (isF v p a b = true → 0 ≤ y → r = some (.int (okA v (bI (decide (0 ≤ mdlX v y (fctN p a b))))))))) := by
  show MW _ _ _ _ _ _ _ _ _ _ _ _
  generalize hpost : KQ v sm h (fun x' r => (isF v p a b = false → r = some (.int (-1))) ∧ (isF v p a b = true → y < 0 → r = some (.int (-2))) ∧ (isF v p a b = true → 0 ≤ y → r = some (.int (okA v (bI (decide (0 ≤ mdlX v y (fctN p a b)))))))) = post
  have hp := fun (r : Option Value) (x' : KD) (h2 : KI v sm x') => KQ.mk hpost (r := r) x' h2
  clear hpost
  have hok := H.2.2.2.2.1
  have hP0 : h 1 = _ := H.2.1.cell (i := 0) (by omega)
  refine mw_over (kqL x) H.1 ?_
  refine mw_aload_n (i := 0) rfl rfl rfl ?_
  refine mw_getfield rfl f_X9_12 (by first | rfl | exact rfl | exact hP0) rfl ?_
  refine mw_iload_n (i := 2) rfl rfl rfl ?_
  refine mw_iload_n (i := 3) rfl rfl rfl ?_
  refine mw_iload rfl rfl ?_
  refine mw_callV_f (c_hasAtom (d + 3) n p a b P v _ (H.2.1.mv rfl) H.2.2.1 hok) rfl ok_X5_hasAtom v_X9_101 rfl (by first | rfl | exact rfl | exact hP0) (by intro e; cases e) rfl (Nat.le_of_ble_eq_true rfl) rfl (Nat.le_of_ble_eq_true rfl) (by omega) (by omega) (by omega) ?_
  refine mw_b_ne rfl (fun hF => ?_) (fun hF => ?_)
  · refine mw_iload_n (i := 1) rfl rfl rfl ?_
    refine mw_if_ge rfl (fun hy => ?_) (fun hy => ?_)
    · obtain ⟨m, hm, rfl⟩ := nI_of (Int32.not_lt.mpr hy)
      refine mw_aload_n (i := 0) rfl rfl rfl ?_
      refine mw_callV (c_hasModel d n v sm P x _ (H.mv H.2.2.2.2.2.2)) rfl ok_X9_hasModel v_X9_145 rfl (by first | rfl | exact rfl | exact hP0) (by intro e; cases e) rfl (Nat.le_of_ble_eq_true rfl) rfl (Nat.le_of_ble_eq_true rfl) (by omega) (by omega) (by omega) ?_
      intro r2 h2 hq2
      obtain ⟨x', rfl, hI', rfl, g1, g2⟩ := hq2
      rw [kq_over]
      refine mw_b_ne rfl (fun hs => ?_) (fun hs => ?_)
      · refine mw_aload_n (i := 0) rfl rfl rfl ?_
        refine mw_iload_n (i := 1) rfl rfl rfl ?_
        refine mw_callV (c_lesser d n m v sm P x' _ (H.mv hI') g1 hs hm) rfl ok_X9_buildLesserModel v_X9_201 rfl (by first | rfl | exact rfl | exact hP0) (by intro e; cases e) rfl (Nat.le_of_ble_eq_true rfl) rfl (Nat.le_of_ble_eq_true rfl) (by omega) (by omega) (by omega) ?_
        intro r3 h3 hq3
        obtain ⟨x3, rfl, hI3, rfl, k1, k2⟩ := hq3
        rw [kq_over]
        obtain ⟨i, j, k, hi, hj, hk, rfl, rfl, rfl, hf, hf2⟩ := isF_nat hok hF
        rw [← hf] at hf2
        obtain ⟨hX, hMR⟩ : InvX (mdlV v (strF v).1 (nI m)) ∧ MR (mdlV v (strF v).1 (nI m)).1 (mdlV v (strF v).1 (nI m)).2 := mdlV_st (v := v) (st := (strF v).1) (nI m) 6
        have hX2 : (mdlV v (strF v).1 (nI m)).2 ≤ 216 := by unfold InvX at hX; omega
        have hneg := hMR.neg (by omega) (fctN (nI i) (nI j) (nI k))
        have hneg : mdlX v (nI m) (fctN (nI i) (nI j) (nI k)) < 0 ↔ mdlX v (nI m) (fctN (nI i) (nI j) (nI k)) = -1 := hneg
        refine mw_aload_n (i := 0) rfl rfl rfl ?_
        refine mw_getfield rfl f_X9_73 (by first | rfl | exact rfl | exact hP0) rfl ?_
        refine mw_getfield rfl f_X9_165 (by first | rfl | exact rfl | exact hP0) rfl ?_
        refine mw_iload_n (i := 2) rfl rfl rfl ?_
        refine mw_iload_n (i := 3) rfl rfl rfl ?_
        refine mw_iload rfl rfl ?_
        refine mw_callS_f (c_atomNumber (d + 4) n i j k _) rfl ok_X9_atomNumber v_X9_108 rfl (Nat.le_of_ble_eq_true rfl) rfl (Nat.le_of_ble_eq_true rfl) (by omega) (by omega) (by omega) ?_
        rw [show i * 36 + j * 6 + k = fctN (nI i) (nI j) (nI k) by rw [hf]; omega]
        refine mw_iald_v rfl (by first | rfl | exact rfl | exact hP0) (by omega) (by omega) (show x3.o.1 (fctN (nI i) (nI j) (nI k)) = mdlX v (nI m) (fctN (nI i) (nI j) (nI k)) by rw [k1]) ?_
        refine mw_iconst (v := (-1)) rfl (by decide) ?_
        refine mw_icmp_ne rfl (fun hc => ?_) (fun hc => ?_)
        · have e : okA v (bI (decide (0 ≤ mdlX v (nI m) (fctN (nI i) (nI j) (nI k))))) = nI 1 := by
            rw [okA_1 hs, decide_eq_true (Int32.not_lt.mp (fun q => hc (hneg.mp q)))]
            rfl
          refine mw_iconst (v := nI 1) rfl (by decide) ?_
          exact mw_ireturn rfl rfl rfl rfl (Nat.le_refl _) ((hp _ x3 hI3 ⟨fun q => (by rw [hF] at q; cases q), fun _ q => absurd hy (Int32.not_le.mpr q), fun _ _ => by rw [e]⟩))
        · have e : okA v (bI (decide (0 ≤ mdlX v (nI m) (fctN (nI i) (nI j) (nI k))))) = nI 0 := by
            rw [okA_1 hs, decide_eq_false (Int32.not_le.mpr (hneg.mpr hc))]
            rfl
          refine mw_iconst (v := nI 0) rfl (by decide) ?_
          refine mw_goto rfl ?_
          exact mw_ireturn rfl rfl rfl rfl (Nat.le_refl _) ((hp _ x3 hI3 ⟨fun q => (by rw [hF] at q; cases q), fun _ q => absurd hy (Int32.not_le.mpr q), fun _ _ => by rw [e]⟩))
      · refine mw_bipush (v := (-6)) rfl (by decide) ?_
        exact mw_ireturn rfl rfl rfl rfl (Nat.le_refl _) ((hp _ x' hI' ⟨fun q => (by rw [hF] at q; cases q), fun _ q => absurd hy (Int32.not_le.mpr q), fun _ _ => by rw [okA_0 hs]⟩))
    · refine mw_bipush (v := (-2)) rfl (by decide) ?_
      exact mw_ireturn rfl rfl rfl rfl (Nat.le_refl _) ((hp _ x H.2.2.2.2.2.2 ⟨fun q => (by rw [hF] at q; cases q), fun _ _ => rfl, fun _ q => absurd q hy⟩))
  · refine mw_iconst (v := (-1)) rfl (by decide) ?_
    exact mw_ireturn rfl rfl rfl rfl (Nat.le_refl _) ((hp _ x H.2.2.2.2.2.2 ⟨fun _ => rfl, fun q => (by rw [hF] at q; cases q), fun q => (by rw [hF] at q; cases q)⟩))
