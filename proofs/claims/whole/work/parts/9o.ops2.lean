/-! EACH CALL: text, rules from texts, slots -/
theorem op_mk2 {MK MR : MI} {as : List Value} {h : Nat → MC} {V : Value → Prop} {D D' : LD} {A B : Option Value → Prop} (hD : DOk D') (hK : KSd D h) (hR : RSd D h) (k : Sp MK 8 0 0 (.ref 0 :: as) h 199 (KRet A D' h)) (r : ∀ h1, (∀ j, 178 ≤ j → h1 j = h j) → Sp MR 8 0 0 (.ref 178 :: as) h1 199 (RRet B D' h1)) (e : ∀ r1 r2, A r1 → B r2 → r1 = r2 ∧ ∃ y, V y ∧ r1 = some y) : OpJ MK MR as h V := op_mk hD hK hR k (fun h1 e1 _ => r h1 e1) e
theorem RSr.keep {D : LD} {h h1 : Nat → MC} {w : Nat → Int32} {x : RD} {td : Nat → Int32} (H : RSr D h w x td) (e : ∀ j, 178 ≤ j → h1 j = h j) : RSr D h1 w x td := by
  obtain ⟨k1, k2, k3, k4, k5, k6, k7, k8⟩ := H
  exact ⟨k1.put ((e 178 (by omega)).trans k1.c0) (fun j hj => e j (by omega)), (e 179 (by omega)).trans k2, k3, (e 180 (by omega)).trans k4, (e 181 (by omega)).trans k5, (e 182 (by omega)).trans k6, (e 183 (by omega)).trans k7, k8⟩
theorem mov2_o {h : Nat → MC} {a b j : Nat} {c d : MC} (h1 : j ≠ a) (h2 : j ≠ b) : mov [(a, c), (b, d)] h j = h j := by
  simp only [mov, mlk, nbf (fun w => h1 w.symm), nbf (fun w => h2 w.symm), cond_false]
theorem TxA.put {h h1 : Nat → MC} {tl tl' : Nat} {t t' : Nat → Nat} {s : KS} (H : TxA h tl t s) (e49 : h1 49 = .inr (7, [.ref 50, .int (nI tl'), .ref 51, .int (nI s.1)])) (e50 : h1 50 = .inl (.int, 60, .inl (vI t'))) (e : ∀ j, 51 ≤ j → j < 56 → h1 j = h j) : TxA h1 tl' t' s := by
  refine ⟨mov_self fun q hq => ?_, e50⟩
  simp only [List.mem_cons, List.not_mem_nil, or_false] at hq
  rcases hq with rfl | rfl | rfl | rfl | rfl | rfl
  · exact e49
  · exact (e 51 (by omega) (by omega)).trans (congrFun H.1 51).symm
  · exact (e 52 (by omega) (by omega)).trans (congrFun H.1 52).symm
  · exact (e 53 (by omega) (by omega)).trans (congrFun H.1 53).symm
  · exact (e 54 (by omega) (by omega)).trans (congrFun H.1 54).symm
  · exact (e 55 (by omega) (by omega)).trans (congrFun H.1 55).symm
theorem op_append {D : LD} {h : Nat → MC} (y : Int32) (hD : DOk D) (hK : KSd D h) (hR : RSd D h) : OpJ M_X9_append M_X10_append [.int y] h isI := by
  obtain ⟨P, x, s, hk⟩ := id hK
  cases hy : inI y 128
  · exact op_const hD hK hR (k_same hk (c_kappend_e 8 199 y h hy)) fun h1 hR1 => r_same hR1 (c_append_e1 7 199 y h1 hy)
  · have hy2 := hy
    obtain ⟨c, hc, rfl⟩ := inI_of hy (by omega)
    have hO := hk.1.1.c0
    have hT := hk.2.1.c49
    by_cases hl : D.2.1 = 60
    · refine op_const hD hK hR (k_same hk (c_kappend_f 8 199 c D.2.1 s x.1 h hO hT hc hl)) fun h1 hR1 => ?_
      obtain ⟨w, xr, td, hr⟩ := id hR1
      exact r_same hR1 (c_append_e2 7 199 (nI c) w h1 hr.1.c0 hy2 (by rw [hr.2.2.2.2.2.2.2, hl]))
    · have hl60 : D.2.1 < 60 := by
        have := hD.2.1
        omega
      have hD' : DOk (D.1, D.2.1 + 1, updN D.2.2.1 D.2.1 c, D.2.2.2) := ⟨hD.1, hl60, fun i hi => by
        have hi : i < D.2.1 + 1 := hi
        show updN D.2.2.1 D.2.1 c i < 128
        by_cases e : i = D.2.1
        · rw [e, updN_same]
          exact hc
        · rw [updN_ne _ _ e]
          exact hD.2.2 i (by omega)⟩
      refine op_const (z := nI (D.2.1 + 1)) hD' hK hR (sp_imp (c_kappend 7 199 c D.2.1 D.2.2.1 s x.1 h hO hT hk.2.1.2 hc hl60) fun r h1 hq => ?_) fun h1 hR1 => ?_
      · obtain ⟨rfl, rfl⟩ := hq
        obtain ⟨k1, k2, k3, k4, k5⟩ := hk
        refine ⟨rfl, fun j hj => mov2_o (by omega) (by omega), P, x, s, k1.keep (fun j hj => mov2_o (by omega) (by omega)), k2.put rfl rfl (fun j q1 q2 => mov2_o (by omega) (by omega)), (mov2_o (by omega) (by omega)).trans k3, (mov2_o (by omega) (by omega)).trans k4, fun i hi => ?_⟩
        obtain ⟨P', g1, g2⟩ := k5 i hi
        exact ⟨P', g1.keep (fun j q1 q2 => mov2_o (by omega) (by omega)), g2⟩
      · obtain ⟨w, xr, td, hr⟩ := hR1
        obtain ⟨k1, k2, k3, k4, k5, k6, k7, k8⟩ := hr
        refine sp_imp (c_append 7 199 c D.2.1 w D.2.2.1 h1 k1.c0 k6 hc k8 hl60) fun r h2 hq => ?_
        obtain ⟨rfl, rfl⟩ := hq
        exact ⟨rfl, fun j hj => mov2_o (by omega) (by omega), updN w 0 (nI (D.2.1 + 1)), xr, td, k1.put rfl (fun j hj => mov2_o (by omega) (by omega)), (mov2_o (by omega) (by omega)).trans k2, k3.w rfl rfl rfl rfl, (mov2_o (by omega) (by omega)).trans k4, (mov2_o (by omega) (by omega)).trans k5, rfl, (mov2_o (by omega) (by omega)).trans k7, rfl⟩
/-- the text's reader is elsewhere -/
theorem KSr.text {D : LD} {h : Nat → MC} {P : PgS} {x : KD} {s : KS} (H : KSr D h P x s) (tl : Nat) (s' : KS) : KSr (D.1, tl, D.2.2) (mov (txC tl s') h) P x s' := by
  obtain ⟨k1, k2, k3, k4, k5⟩ := H
  refine ⟨k1.keep (fun j hj => tx_o _ _ _ (by omega)), ⟨mov_idem _ _, (tx_o _ _ _ (by omega)).trans k2.2⟩, (tx_o _ _ _ (by omega)).trans k3, (tx_o _ _ _ (by omega)).trans k4, fun i hi => ?_⟩
  obtain ⟨P', g1, g2⟩ := k5 i hi
  exact ⟨P', g1.keep (fun j q1 q2 => tx_o _ _ _ (by omega)), g2⟩
theorem op_clearText {D : LD} {h : Nat → MC} (hD : DOk D) (hK : KSd D h) (hR : RSd D h) : OpJ M_X9_clearText M_X10_clearText [] h isI := by
  obtain ⟨P, x, s, hk⟩ := id hK
  refine op_const (D' := (D.1, 0, D.2.2)) (z := nI D.2.1) ⟨hD.1, Nat.zero_le _, fun i hi => absurd hi (Nat.not_lt_zero i)⟩ hK hR (sp_imp (c_kclearText 8 199 D.2.1 D.2.2.1 s x.1 h hk.1.1.c0 hk.2.1) fun r h1 hq => ?_) fun h1 hR1 => ?_
  · obtain ⟨rfl, rfl⟩ := hq
    exact ⟨rfl, fun j hj => tx_o _ _ _ (by omega), P, x, s, hk.text 0 s⟩
  · obtain ⟨w, xr, td, k1, k2, k3, k4, k5, k6, k7, k8⟩ := hR1
    refine sp_imp (c_clearText 8 199 w h1 k1.c0) fun r h2 hq => ?_
    obtain ⟨rfl, rfl⟩ := hq
    exact ⟨by rw [k8], hset_o (by omega), updN w 0 0, xr, td, k1.put (hset_same _ _ _) (hset_o (P := fun j => 184 ≤ j) (by omega)), (hset_ne _ _ (by omega)).trans k2, k3.w rfl rfl rfl rfl, (hset_ne _ _ (by omega)).trans k4, (hset_ne _ _ (by omega)).trans k5, (hset_ne _ _ (by omega)).trans k6, (hset_ne _ _ (by omega)).trans k7, rfl⟩
/-- the reference's reader is elsewhere -/
theorem RSr.text {D : LD} {h : Nat → MC} {w : Nat → Int32} {x : RD} {td : Nat → Int32} (H : RSr D h w x td) (k : Nat) (st : PS) {B : Option Value → Prop} {r : Option Value} (hb : B r) : RRet B D h r (mov (ty w k st) h) := by
  obtain ⟨k1, k2, k3, k4, k5, k6, k7, k8⟩ := H
  exact ⟨hb, fun j hj => mov2_o (by omega) (by omega), updN (updN w 2 (nI k)) 1 (nI st.1), x, st.2, k1.put rfl (fun j hj => mov2_o (by omega) (by omega)), (mov2_o (by omega) (by omega)).trans k2, k3.w rfl rfl rfl rfl, (mov2_o (by omega) (by omega)).trans k4, (mov2_o (by omega) (by omega)).trans k5, (mov2_o (by omega) (by omega)).trans k6, rfl, k8⟩
theorem op_fault {D : LD} {h : Nat → MC} (hD : DOk D) (hK : KSd D h) (hR : RSd D h) : OpJ M_X9_faultPosition M_X10_faultPosition [] h isI := by
  obtain ⟨P, x, s, hk⟩ := id hK
  refine op_const (D' := D) (z := ffV D.1 D.2.2.1 D.2.1 s.2) hD hK hR (sp_imp (c_kfault 3 199 D.2.1 D.1 D.2.2.1 P s x.1 h hk.1.1.c0 hk.2.1 hD.2.2 hD.2.1 hk.1.2.1 hk.1.2.2.1 hD.1) fun r h1 hq => ?_) fun h1 hR1 => ?_
  · obtain ⟨rfl, rfl⟩ := hq
    exact ⟨rfl, fun j hj => tx_o _ _ _ (by omega), P, x, _, hk.text D.2.1 _⟩
  · obtain ⟨w, xr, td, hr⟩ := hR1
    refine sp_imp (c_faultPosition 2 199 D.2.1 w D.1 D.2.2.1 td h1 hr.1.c0 hr.2.1 hr.2.2.2.2.2.1 hr.2.2.2.2.2.2.1 hr.2.2.2.2.2.2.2 hD.2.1 hD.1) fun r h2 hq => ?_
    obtain ⟨rfl, rfl⟩ := hq
    exact hr.text _ _ (by rw [(text_eq hD.1.2.1 hD.2.2 hD.2.1 td s.2).1])
theorem mov3_o {h : Nat → MC} {a b e j : Nat} {c d f : MC} (h1 : j ≠ a) (h2 : j ≠ b) (h3 : j ≠ e) : mov [(a, c), (b, d), (e, f)] h j = h j := by
  simp only [mov, mlk, nbf (fun w => h1 w.symm), nbf (fun w => h2 w.symm), nbf (fun w => h3 w.symm), cond_false]
theorem op_addRule {D : LD} {h : Nat → MC} (y : Int32) (hD : DOk D) (hK : KSd D h) (hR : RSd D h) : OpJ M_X9_addRule M_X10_addRule [.int y] h isI := by
  obtain ⟨P, x, s, hk⟩ := id hK
  have K := c_kaddRule 3 199 D.2.1 y D.1 smC.2 D.2.2.1 P x s h hk.1 hk.2.1 hD.2.2 hD.2.1
  by_cases hy : nI 1 ≤ y ∧ y ≤ nI 9
  · obtain ⟨p, hp1, hp9, rfl⟩ := nI_box (by omega) (by omega) hy
    obtain ⟨w, xr, td, hr⟩ := id hR
    have T := text_eq hD.1.2.1 hD.2.2 hD.2.1 td s.2
    have hkt := hk.text D.2.1 (kdRule D.1 D.2.2.1 D.2.1 s.2).2
    have R : ∀ h1, (∀ j, 178 ≤ j → h1 j = h j) → Fn M_X10_addRule 8 0 0 [.ref 178, .int (nI p)] h1 199 (some (.int (adA D.1 (rdText D.1 D.2.2.1 D.2.1 td)))) (mov (adL w D.1 p (rdText D.1 D.2.2.1 D.2.1 td)) h1) := by
      intro h1 e
      have q : RSr D h1 w xr td := hr.keep e
      exact c_addRule 2 199 p D.2.1 w D.1 D.2.2.1 td h1 q.1.c0 q.2.1 q.2.2.2.2.2.1 q.2.2.2.2.2.2.1 q.2.2.2.2.2.2.2 hD.2.1 hD.1 hp1 hp9
    by_cases hf : ffV D.1 D.2.2.1 D.2.1 s.2 = -5
    · have hF := T.2.1.mpr hf
      by_cases h8 : D.1 2 = 8
      · refine op_mk2 (D' := D) hD hK hR (sp_imp K fun r h1 hq => ?_) (fun h1 e => sp_imp (R h1 e) fun r h2 hq => ?_) (eqI (z := -4))
        · obtain ⟨rfl, rfl⟩ := ((hq.2 p rfl ⟨hp1, hp9⟩).2 hf).1 h8
          exact ⟨rfl, fun j hj => tx_o _ _ _ (by omega), P, x, _, hkt⟩
        · obtain ⟨rfl, rfl⟩ := hq
          unfold adL
          rw [if_neg (fun q => q.2 h8)]
          refine (hr.keep e).text _ _ ?_
          unfold adA
          rw [if_pos hF, if_pos h8]
      · have hlt : D.1 2 < 8 := by
          have := hD.1.2.2.2.1
          omega
        obtain ⟨a1, -, -⟩ := add_ok (R := s.2) (p := p) (td := td) hD.1 hk.1.2.2.1 hk.1.2.2.2.1 hlt hp1 hp9 hD.2.2 hD.2.1 hF
        refine op_mk2 (D' := (addRuleV D.1 p (rdText D.1 D.2.2.1 D.2.1 td).2.1 (rdText D.1 D.2.2.1 D.2.1 td).2.2.2, D.2)) ⟨a1, hD.2⟩ hK hR (sp_imp K fun r h1 hq => ?_) (fun h1 e => sp_imp (R h1 e) fun r h2 hq => ?_) (eqI (z := nI (D.1 2)))
        · obtain ⟨b1, b2, b3⟩ := hkt.change (((hq.2 p rfl ⟨hp1, hp9⟩).2 hf).2 h8 td)
          exact ⟨b1, fun j hj => (b2 j hj).trans (tx_o _ _ _ (by omega)), b3⟩
        · obtain ⟨rfl, rfl⟩ := hq
          unfold adL
          rw [if_pos ⟨hF, h8⟩]
          obtain ⟨k1, k2, k3, k4, k5, k6, k7, k8⟩ := hr.keep e
          refine ⟨?_, fun j hj => mov3_o (by omega) (by omega) (by omega), updN (updN (updN w 2 (nI (rdText D.1 D.2.2.1 D.2.1 td).2.1)) 1 (nI (rdText D.1 D.2.2.1 D.2.1 td).2.2.1)) 3 0, xr, (rdText D.1 D.2.2.1 D.2.1 td).2.2.2, k1.put rfl (fun j hj => mov3_o (by omega) (by omega) (by omega)), rfl, k3.stale rfl, (mov3_o (by omega) (by omega) (by omega)).trans k4, (mov3_o (by omega) (by omega) (by omega)).trans k5, (mov3_o (by omega) (by omega) (by omega)).trans k6, rfl, k8⟩
          unfold adA
          rw [if_pos hF, if_neg h8]
    · have hF : ¬ (rdText D.1 D.2.2.1 D.2.1 td).1 = true := fun q => hf (T.2.1.mp q)
      refine op_mk2 (D' := D) hD hK hR (sp_imp K fun r h1 hq => ?_) (fun h1 e => sp_imp (R h1 e) fun r h2 hq => ?_) (eqI (z := -3))
      · obtain ⟨rfl, rfl⟩ := (hq.2 p rfl ⟨hp1, hp9⟩).1 hf
        exact ⟨rfl, fun j hj => tx_o _ _ _ (by omega), P, x, _, hkt⟩
      · obtain ⟨rfl, rfl⟩ := hq
        unfold adL
        rw [if_neg (fun q => hF q.1)]
        refine (hr.keep e).text _ _ ?_
        unfold adA
        rw [if_neg hF]
  · refine op_const (z := -2) hD hK hR (sp_imp K fun r h1 hq => ?_) fun h1 hR1 => r_same hR1 (c_addRule_e1 2 199 y h1 hy)
    obtain ⟨rfl, rfl⟩ := hq.1 hy
    exact hk.same rfl
theorem op_save {D : LD} {h : Nat → MC} (y : Int32) (hD : DOk D) (hK : KSd D h) (hR : RSd D h) : OpJ M_X9_save M_X10_save [.int y] h isI := by
  obtain ⟨P, x, s, hk⟩ := id hK
  cases hy : inI y 2
  · exact op_const hD hK hR (k_same hk (c_ksave_e 8 199 y h hy)) fun h1 hR1 => r_same hR1 (c_save_e 7 199 y h1 hy)
  · obtain ⟨i, hi, rfl⟩ := inI_of hy (by omega)
    obtain ⟨k1, k2, k3, k4, k5⟩ := hk
    obtain ⟨P', g1, -⟩ := k5 i hi
    have hrc : P.rc = D.1 2 := k1.2.2.1.2.2.2.2.1
    refine op_const (D' := (D.1, D.2.1, D.2.2.1, updN D.2.2.2.1 i true, keepV D.1 D.2.2.2.2 (189 * i) 189)) (z := nI (D.1 2)) hD hK hR (sp_imp (c_ksave 5 199 i P P' x.1 D.2.2.2.1 h k1.1.c0 k1.2.1 k3 k4 g1 hi) fun r h1 hq => ?_) fun h1 hR1 => ?_
    · obtain ⟨rfl, rfl⟩ := hq
      have e : ∀ (c : MC) (j : Nat), j ≠ 48 → (j < 86 + 46 * i ∨ 86 + 46 * i + 46 ≤ j) → hset (pgH (86 + 46 * i) P h) 48 c j = h j := fun c j q1 q2 => (hset_ne _ _ q1).trans (pgH_o (by omega))
      refine ⟨by rw [hrc], fun j hj => e _ j (by omega) (by omega), P, x, s, k1.keep (fun j hj => e _ j (by omega) (by omega)), k2.keep (fun j q1 q2 => e _ j (by omega) (by omega)), (e _ 47 (by omega) (by omega)).trans k3, hset_same _ _ _, fun i' hi' => ?_⟩
      by_cases q : i' = i
      · subst q
        refine ⟨P, (PgAt.of _ P h).keep (fun j q1 q2 => hset_ne _ _ (by omega)), fun _ => ⟨D.1, fun j hj => ?_, k1.2.2.1, k1.2.2.2.1, hD.1⟩⟩
        show D.1 j = if 189 * i' ≤ 189 * i' + j ∧ 189 * i' + j < 189 * i' + 189 then D.1 (189 * i' + j - 189 * i') else D.2.2.2.2 (189 * i' + j)
        rw [if_pos ⟨by omega, by omega⟩, Nat.add_sub_cancel_left]
      · obtain ⟨P2, g3, g4⟩ := k5 i' hi'
        refine ⟨P2, g3.keep (fun j q1 q2 => e _ j (by omega) (by omega)), fun w => ?_⟩
        have w2 : updN D.2.2.2.1 i true i' = true := w
        rw [updN_ne _ _ q] at w2
        obtain ⟨vs, b1, b2⟩ := g4 w2
        refine ⟨vs, fun j hj => ?_, b2⟩
        show vs j = if 189 * i ≤ 189 * i' + j ∧ 189 * i' + j < 189 * i + 189 then D.1 (189 * i' + j - 189 * i) else D.2.2.2.2 (189 * i' + j)
        rw [if_neg (by omega)]
        exact b1 j hj
    · obtain ⟨w, xr, td, r1, r2, r3, r4, r5, r6, r7, r8⟩ := hR1
      refine sp_imp (c_save 7 199 i w D.1 D.2.2.2.2 D.2.2.2.1 h1 r1.c0 r2 r4 r5 hi) fun r h2 hq => ?_
      obtain ⟨rfl, rfl⟩ := hq
      exact ⟨rfl, fun j hj => mov2_o (by omega) (by omega), w, xr, td, r1.put ((mov2_o (by omega) (by omega)).trans r1.c0) (fun j hj => mov2_o (by omega) (by omega)), (mov2_o (by omega) (by omega)).trans r2, r3, rfl, rfl, (mov2_o (by omega) (by omega)).trans r6, (mov2_o (by omega) (by omega)).trans r7, r8⟩
theorem op_restore {D : LD} {h : Nat → MC} (y : Int32) (hD : DOk D) (hK : KSd D h) (hR : RSd D h) : OpJ M_X9_restore M_X10_restore [.int y] h isI := by
  obtain ⟨P, x, s, hk⟩ := id hK
  cases hy : inI y 2
  · exact op_const hD hK hR (k_same hk (c_krestore_e 8 199 y h hy)) fun h1 hR1 => r_same hR1 (c_restore_e1 7 199 y h1 hy)
  · obtain ⟨i, hi, rfl⟩ := inI_of hy (by omega)
    cases hik : D.2.2.2.1 i
    · refine op_const hD hK hR (k_same hk (c_krestore_n 8 199 i x.1 D.2.2.2.1 h hk.1.1.c0 hk.2.2.2.1 hi hik)) fun h1 hR1 => ?_
      obtain ⟨w, xr, td, hr⟩ := id hR1
      exact r_same hR1 (c_restore_e2 7 199 i w D.2.2.2.1 h1 hr.1.c0 hr.2.2.2.2.1 hi hik)
    · obtain ⟨P', g1, g2⟩ := hk.2.2.2.2 i hi
      obtain ⟨vs, b1, b2, b3, b4⟩ := g2 hik
      have e : ∀ j, j < 189 → (fun j => if j < 189 then D.2.2.2.2 (189 * i + j) else D.1 j) j = vs j := fun j hj => by
        show (if j < 189 then D.2.2.2.2 (189 * i + j) else D.1 j) = vs j
        rw [if_pos hj, b1 j hj]
      obtain ⟨c1, c2⟩ := PgV_cg b4 b2 b3 e
      have c3 := ok_cg b4 e
      refine op_const (D' := (fun j => if j < 189 then D.2.2.2.2 (189 * i + j) else D.1 j, D.2)) (z := nI (D.2.2.2.2 (189 * i + 2))) ⟨c3, hD.2⟩ hK hR (sp_imp (c_krestore 5 199 i D.1 (fun j => if j < 189 then D.2.2.2.2 (189 * i + j) else D.1 j) smC.2 P P' x D.2.2.2.1 h hk.1 hk.2.2.1 hk.2.2.2.1 g1 hi hik c1 c2 c3) fun r h1 hq => hk.change hq) fun h1 hR1 => ?_
      obtain ⟨w, xr, td, hr⟩ := hR1
      refine sp_imp (c_restore 7 199 i w D.1 D.2.2.2.2 D.2.2.2.1 h1 hr.1.c0 hr.2.1 hr.2.2.2.1 hr.2.2.2.2.1 hi hik) fun r h2 hq => ?_
      obtain ⟨rfl, rfl⟩ := hq
      exact hr.change rfl
