/-! EACH CALL: both sides answer the same and the world is as it should be -/
theorem op_const {MK MR : MI} {as : List Value} {h : Nat → MC} {D D' : LD} {z : Int32} (hD : DOk D') (hK : KSd D h) (hR : RSd D h) (k : Sp MK 8 0 0 (.ref 0 :: as) h 199 (KRet (fun r => r = some (.int z)) D' h)) (r : ∀ h1, RSd D h1 → Sp MR 8 0 0 (.ref 178 :: as) h1 199 (RRet (fun r => r = some (.int z)) D' h1)) : OpJ MK MR as h isI := op_mk hD hK hR k (fun h1 _ => r h1) eqI
theorem op_ask {MK MR : MI} {as : List Value} {h : Nat → MC} {V : Value → Prop} {D D' : LD} {A B : Option Value → Prop} (hD : DOk D') (hK : KSd D h) (hR : RSd D h) (k : Sp MK 8 0 0 (.ref 0 :: as) h 199 (KRet A D' h)) (r : ∀ (h1 : Nat → MC) (w : Nat → Int32) (xr : RD) (td : Nat → Int32), RSr D h1 w xr td → Sp MR 8 0 0 (.ref 178 :: as) h1 199 (RRet B D' h1)) (e : ∀ r1 r2, A r1 → B r2 → r1 = r2 ∧ ∃ y, V y ∧ r1 = some y) : OpJ MK MR as h V := op_mk hD hK hR k (fun h1 _ hR1 => by
  obtain ⟨w, xr, td, hr⟩ := hR1
  exact r h1 w xr td hr) e
theorem k_same {M : MI} {as : List Value} {D : LD} {h : Nat → MC} {P : PgS} {x : KD} {s : KS} {z : Int32} (hk : KSr D h P x s) (H : Fn M 8 0 0 (.ref 0 :: as) h 199 (some (.int z)) h) : Sp M 8 0 0 (.ref 0 :: as) h 199 (KRet (fun r => r = some (.int z)) D h) := sp_imp H fun r h1 hq => by
  obtain ⟨rfl, rfl⟩ := hq
  exact hk.same rfl
theorem r_same {M : MI} {as : List Value} {D : LD} {h : Nat → MC} {z : Int32} (hr : RSd D h) (H : Fn M 8 0 0 (.ref 178 :: as) h 199 (some (.int z)) h) : Sp M 8 0 0 (.ref 178 :: as) h 199 (RRet (fun r => r = some (.int z)) D h) := sp_imp H fun r h1 hq => by
  obtain ⟨rfl, rfl⟩ := hq
  exact ⟨rfl, fun _ _ => rfl, hr⟩
theorem nI_box {c : Int32} {a b : Nat} (ha : a < 2147483648) (hb : b < 2147483648) (h : nI a ≤ c ∧ c ≤ nI b) : ∃ k, a ≤ k ∧ k ≤ b ∧ c = nI k := by
  have h0 : (0 : Int32) ≤ c := Int32.le_trans (nI_pos' ha) h.1
  obtain ⟨k, hk, rfl⟩ := nI_of (Int32.not_lt.mpr h0)
  exact ⟨k, (nI_leI ha hk).mp h.1, (nI_leI hk hb).mp h.2, rfl⟩
theorem op_size {D : LD} {h : Nat → MC} (hD : DOk D) (hK : KSd D h) (hR : RSd D h) : OpJ M_X9_size M_X10_size [] h isI := by
  obtain ⟨P, x, s, hk⟩ := id hK
  refine op_ask (D := D) (D' := D) hD hK hR (sp_imp (c_ksize 3 199 D.1 smC.2 P x h hk.1) fun r h1 hq => hk.ask hq) (fun h1 w xr td hr => sp_imp (c_size 2 199 w D.1 xr h1 hr.1 hr.2.1 hD.1 hr.2.2.1) fun r h2 hq => hr.ask hq) ?_
  · rintro r1 r2 ⟨x1, e1⟩ ⟨w2, x2, e2⟩
    exact eqI r1 r2 e1 e2
theorem op_rounds {D : LD} {h : Nat → MC} (hD : DOk D) (hK : KSd D h) (hR : RSd D h) : OpJ M_X9_rounds M_X10_rounds [] h isI := by
  obtain ⟨P, x, s, hk⟩ := id hK
  refine op_ask (D := D) (D' := D) hD hK hR (sp_imp (c_krounds 3 199 D.1 smC.2 P x h hk.1) fun r h1 hq => hk.ask hq) (fun h1 w xr td hr => sp_imp (c_rounds 2 199 w D.1 xr h1 hr.1 hr.2.1 hD.1 hr.2.2.1) fun r h2 hq => hr.ask hq) ?_
  · rintro r1 r2 ⟨x1, e1⟩ ⟨w2, x2, e2⟩
    exact eqI r1 r2 e1 e2
theorem op_stratum {D : LD} {h : Nat → MC} (y : Int32) (hD : DOk D) (hK : KSd D h) (hR : RSd D h) : OpJ M_X9_stratum M_X10_stratum [.int y] h isI := by
  obtain ⟨P, x, s, hk⟩ := id hK
  cases hy : inI y 6
  · exact op_const hD hK hR (k_same hk (c_kstratum_e 3 199 y h hy)) fun h1 hR1 => r_same hR1 (c_stratum_e 2 199 y h1 hy)
  · obtain ⟨p, hp, rfl⟩ := inI_of hy (by omega)
    refine op_ask (D := D) (D' := D) hD hK hR (sp_imp (c_kstratum 3 199 p D.1 smC.2 P x h hk.1 hp) fun r h1 hq => hk.ask hq) (fun h1 w xr td hr => sp_imp (c_stratum 2 199 p w D.1 xr h1 hr.1 hr.2.1 hD.1 hr.2.2.1 hp) fun r h2 hq => hr.ask hq) ?_
    · rintro r1 r2 ⟨x1, e1⟩ ⟨w2, x2, e2⟩
      exact eqI r1 r2 e1 e2
theorem op_count {D : LD} {h : Nat → MC} (y : Int32) (hD : DOk D) (hK : KSd D h) (hR : RSd D h) : OpJ M_X9_count M_X10_count [.int y] h isI := by
  obtain ⟨P, x, s, hk⟩ := id hK
  cases hy : inI y 6
  · exact op_const hD hK hR (k_same hk (c_kcount_e 3 199 y h hy)) fun h1 hR1 => r_same hR1 (c_count_e 2 199 y h1 hy)
  · obtain ⟨p, hp, rfl⟩ := inI_of hy (by omega)
    refine op_ask (D := D) (D' := D) hD hK hR (sp_imp (c_kcount 3 199 p D.1 smC.2 P x h hk.1 hp) fun r h1 hq => hk.ask hq) (fun h1 w xr td hr => sp_imp (c_count 2 199 p w D.1 xr h1 hr.1 hr.2.1 hD.1 hr.2.2.1 hp) fun r h2 hq => hr.ask hq) ?_
    · rintro r1 r2 ⟨x1, e1⟩ ⟨w2, x2, e2⟩
      exact eqI r1 r2 e1 e2
theorem op_round {D : LD} {h : Nat → MC} (p a b : Int32) (hD : DOk D) (hK : KSd D h) (hR : RSd D h) : OpJ M_X9_round M_X10_round [.int p, .int a, .int b] h isI := by
  obtain ⟨P, x, s, hk⟩ := id hK
  refine op_ask (D := D) (D' := D) hD hK hR (sp_imp (c_kround 2 199 p a b D.1 smC.2 P x h hk.1) fun r h1 hq => hk.ask hq) (fun h1 w xr td hr => sp_imp (c_round 1 199 p a b w D.1 xr h1 hr.1 hr.2.1 hD.1 hr.2.2.1) fun r h2 hq => hr.ask hq) ?_
  · rintro r1 r2 ⟨x1, e1⟩ ⟨w2, x2, e2, -⟩
    exact eqI r1 r2 e1 e2
theorem op_instances {D : LD} {h : Nat → MC} (p a b : Int32) (hD : DOk D) (hK : KSd D h) (hR : RSd D h) : OpJ M_X9_instances M_X10_instances [.int p, .int a, .int b] h isI := by
  obtain ⟨P, x, s, hk⟩ := id hK
  refine op_ask (D := D) (D' := D) hD hK hR (sp_imp (c_kinstances 3 199 p a b D.1 smC.2 P x h hk.1) fun r h1 hq => hk.ask hq) (fun h1 w xr td hr => sp_imp (c_instances 1 199 p a b w D.1 xr h1 hr.1 hr.2.1 hD.1 hr.2.2.1) fun r h2 hq => hr.ask hq) ?_
  · rintro r1 r2 ⟨x1, e1⟩ ⟨w2, x2, e2⟩
    refine ⟨q_inst hD.1 e1 e2, ?_⟩
    cases h1 : isF D.1 p a b
    · exact ⟨_, ⟨_, rfl⟩, e1.1 h1⟩
    · cases h2 : (strF D.1).2.2
      · exact ⟨_, ⟨_, rfl⟩, e1.2.1 h1 h2⟩
      · exact ⟨_, ⟨_, rfl⟩, e1.2.2 h1 h2⟩
theorem op_cost {D : LD} {h : Nat → MC} (p a b : Int32) (hD : DOk D) (hK : KSd D h) (hR : RSd D h) : OpJ M_X9_cost M_X10_cost [.int p, .int a, .int b] h isI := by
  obtain ⟨P, x, s, hk⟩ := id hK
  refine op_ask (D := D) (D' := D) hD hK hR (sp_imp (c_kcost 2 199 p a b D.1 smC.2 P x h hk.1) fun r h1 hq => hk.ask hq) (fun h1 w xr td hr => sp_imp (c_cost 1 199 p a b w D.1 xr h1 hr.1 hr.2.1 hD.1 hr.2.2.1) fun r h2 hq => hr.ask hq) ?_
  · rintro r1 r2 ⟨x1, e1⟩ ⟨w2, x2, e2, hF⟩
    exact eqI r1 r2 (q_cost hD.1 e1 hF) e2
theorem op_likelihood {D : LD} {h : Nat → MC} (p a b : Int32) (hD : DOk D) (hK : KSd D h) (hR : RSd D h) : OpJ M_X9_likelihood M_X10_likelihood [.int p, .int a, .int b] h isI := by
  obtain ⟨P, x, s, hk⟩ := id hK
  refine op_ask (D := D) (D' := D) hD hK hR (sp_imp (c_klikelihood 2 199 p a b D.1 smC.2 P x h hk.1) fun r h1 hq => hk.ask hq) (fun h1 w xr td hr => sp_imp (c_likelihood 1 199 p a b w D.1 xr h1 hr.1 hr.2.1 hD.1 hr.2.2.1) fun r h2 hq => hr.ask hq) ?_
  · rintro r1 r2 ⟨x1, e1⟩ ⟨w2, x2, e2, hF⟩
    exact eqI r1 r2 (q_lik hD.1 e1 hF) e2
theorem op_least {D : LD} {h : Nat → MC} (p a b what : Int32) (hD : DOk D) (hK : KSd D h) (hR : RSd D h) : OpJ M_X9_least M_X10_least [.int p, .int a, .int b, .int what] h isI := by
  obtain ⟨P, x, s, hk⟩ := id hK
  refine op_ask (D := D) (D' := D) hD hK hR (sp_imp (c_kleast 2 199 p a b what D.1 smC.2 P x h hk.1) fun r h1 hq => hk.ask hq) (fun h1 w xr td hr => sp_imp (c_least 1 199 p a b what w D.1 xr h1 hr.1 hr.2.1 hD.1 hr.2.2.1) fun r h2 hq => hr.ask hq) ?_
  · rintro r1 r2 ⟨x1, e1⟩ ⟨w2, x2, e2, hF⟩
    exact eqI r1 r2 (q_least hD.1 e1 hF) e2
theorem wQ_I {v : Nat → Nat} {p a b : Int32} {B : Int32 → Prop} {r : Option Value} (h : wQ v p a b B r) : ∃ y, isI y ∧ r = some y := by
  rcases wrV_cases v p a b with hw | ⟨hw, -⟩
  · exact ⟨_, ⟨_, rfl⟩, h.1 hw⟩
  · obtain ⟨z, -, e⟩ := h.2 (by rw [hw]; decide)
    exact ⟨_, ⟨_, rfl⟩, e⟩
theorem op_needs {D : LD} {h : Nat → MC} (p a b : Int32) (hD : DOk D) (hK : KSd D h) (hR : RSd D h) : OpJ M_X9_needs M_X10_needs [.int p, .int a, .int b] h isI := by
  obtain ⟨P, x, s, hk⟩ := id hK
  refine op_ask (D := D) (D' := D) hD hK hR (sp_imp (c_kneeds 2 199 p a b D.1 smC.2 P x h hk.1) fun r h1 hq => hk.ask hq) (fun h1 w xr td hr => sp_imp (c_needs 1 199 p a b w D.1 xr h1 hr.1 hr.2.1 hD.1 hr.2.2.1) fun r h2 hq => hr.ask hq) ?_
  · rintro r1 r2 ⟨x1, e1⟩ ⟨w2, x2, e2⟩
    exact ⟨q_needs hD.1 e1 e2, wQ_I e1⟩
theorem op_cut {D : LD} {h : Nat → MC} (p a b : Int32) (hD : DOk D) (hK : KSd D h) (hR : RSd D h) : OpJ M_X9_cut M_X10_cut [.int p, .int a, .int b] h isI := by
  obtain ⟨P, x, s, hk⟩ := id hK
  refine op_ask (D := D) (D' := D) hD hK hR (sp_imp (c_kcut 2 199 p a b D.1 smC.2 P x h hk.1) fun r h1 hq => hk.ask hq) (fun h1 w xr td hr => sp_imp (c_cut 1 199 p a b w D.1 xr h1 hr.1 hr.2.1 hD.1 hr.2.2.1) fun r h2 hq => hr.ask hq) ?_
  · rintro r1 r2 ⟨x1, e1⟩ ⟨w2, x2, e2⟩
    exact ⟨q_cut hD.1 e1 e2, wQ_I e1⟩
theorem op_sizeWithout {D : LD} {h : Nat → MC} (y : Int32) (hD : DOk D) (hK : KSd D h) (hR : RSd D h) : OpJ M_X9_sizeWithout M_X10_sizeWithout [.int y] h isI := by
  obtain ⟨P, x, s, hk⟩ := id hK
  by_cases hy : y < 0
  · exact op_const hD hK hR (k_same hk (c_ksizeW_e 8 199 y h hy)) fun h1 hR1 => r_same hR1 (c_sizeWithout_e 8 199 y h1 hy)
  · have hy := Int32.not_lt.mp hy
    refine op_ask (D := D) (D' := D) hD hK hR (sp_imp (c_ksizeW 3 199 y D.1 smC.2 P x h hk.1 hy) fun r h1 hq => hk.ask hq) (fun h1 w xr td hr => sp_imp (c_sizeWithout 2 199 y w D.1 xr h1 hr.1 hr.2.1 hD.1 hr.2.2.1 hy) fun r h2 hq => hr.ask hq) ?_
    · rintro r1 r2 ⟨x1, e1⟩ ⟨w2, x2, e2⟩
      exact eqI r1 r2 e1 e2
theorem op_holdsWithout {D : LD} {h : Nat → MC} (y p a b : Int32) (hD : DOk D) (hK : KSd D h) (hR : RSd D h) : OpJ M_X9_holdsWithout M_X10_holdsWithout [.int y, .int p, .int a, .int b] h isI := by
  obtain ⟨P, x, s, hk⟩ := id hK
  have K := c_kholdsW 3 199 y p a b D.1 smC.2 P x h hk.1
  cases hF : isF D.1 p a b
  · refine op_const (z := -1) hD hK hR (sp_imp K fun r h1 hq => ?_) fun h1 hR1 => ?_
    · obtain ⟨⟨x1, e1⟩, e2⟩ := hk.ask hq
      exact ⟨e1.1 hF, e2⟩
    · obtain ⟨w, xr, td, hr⟩ := id hR1
      exact r_same hR1 (c_holdsWithout_e1 2 199 y p a b w D.1 h1 hr.1.c0 hr.2.1 hD.1 hF)
  · by_cases hy : y < 0
    · refine op_const (z := -2) hD hK hR (sp_imp K fun r h1 hq => ?_) fun h1 hR1 => ?_
      · obtain ⟨⟨x1, e1⟩, e2⟩ := hk.ask hq
        exact ⟨e1.2.1 hF hy, e2⟩
      · obtain ⟨w, xr, td, hr⟩ := id hR1
        exact r_same hR1 (c_holdsWithout_e2 2 199 y p a b w D.1 h1 hr.1.c0 hr.2.1 hD.1 hF hy)
    · have hy := Int32.not_lt.mp hy
      refine op_ask (D := D) (D' := D) hD hK hR (sp_imp K fun r h1 hq => hk.ask hq) (fun h1 w xr td hr => sp_imp (c_holdsWithout 2 199 y p a b w D.1 xr h1 hr.1 hr.2.1 hD.1 hr.2.2.1 hF hy) fun r h2 hq => hr.ask hq) ?_
      · rintro r1 r2 ⟨x1, e1⟩ ⟨w2, x2, e2⟩
        exact eqI r1 r2 (e1.2.2 hF hy) e2
theorem op_checksum {D : LD} {h : Nat → MC} (hD : DOk D) (hK : KSd D h) (hR : RSd D h) : OpJ M_X9_checksum M_X10_checksum [] h isL := by
  obtain ⟨P, x, s, hk⟩ := id hK
  refine op_ask (D := D) (D' := D) hD hK hR (sp_imp (c_kchecksum 2 199 D.1 smC.2 P x h hk.1) fun r h1 hq => hk.ask hq) (fun h1 w xr td hr => sp_imp (c_checksum 1 199 w D.1 xr h1 hr.1 hr.2.1 hD.1 hr.2.2.1) fun r h2 hq => hr.ask hq) ?_
  · rintro r1 r2 ⟨x1, e1⟩ ⟨w2, x2, e2⟩
    refine ⟨q_ck hD.1 e1 e2, ?_⟩
    cases ho : (strF D.1).2.2
    · exact ⟨_, ⟨_, rfl⟩, e1.1 ho⟩
    · obtain ⟨c, kr, z, u, l, -, -, e⟩ := e1.2 ho
      exact ⟨_, ⟨_, rfl⟩, e⟩
theorem op_facts {D : LD} {h : Nat → MC} (hD : DOk D) (hK : KSd D h) (hR : RSd D h) : OpJ M_X9_facts M_X10_facts [] h isI := by
  obtain ⟨P, x, s, hk⟩ := id hK
  refine op_const hD hK hR (k_same hk (c_kfacts 8 199 D.1 smC.2 P x h hk.1)) fun h1 hR1 => ?_
  obtain ⟨w, xr, td, hr⟩ := id hR1
  exact r_same hR1 (c_facts 8 199 w D.1 h1 hr.1.c0 hr.2.1)
theorem op_rules {D : LD} {h : Nat → MC} (hD : DOk D) (hK : KSd D h) (hR : RSd D h) : OpJ M_X9_rules M_X10_rules [] h isI := by
  obtain ⟨P, x, s, hk⟩ := id hK
  refine op_const hD hK hR (k_same hk (c_krules 8 199 D.1 smC.2 P x h hk.1)) fun h1 hR1 => ?_
  obtain ⟨w, xr, td, hr⟩ := id hR1
  exact r_same hR1 (c_rules 8 199 w D.1 h1 hr.1.c0 hr.2.1)
theorem op_begin {D : LD} {h : Nat → MC} (y : Int32) (hD : DOk D) (hK : KSd D h) (hR : RSd D h) : OpJ M_X9_begin M_X10_begin [.int y] h isI := by
  obtain ⟨P, x, s, hk⟩ := id hK
  by_cases hy : 1 ≤ y ∧ y ≤ 6
  · obtain ⟨c, h1, h6, rfl⟩ := nI_box (a := 1) (b := 6) (by omega) (by omega) hy
    refine op_const (D' := (anewV D.1 c, D.2)) (z := nI (D.1 0)) ⟨ok_anew _ h1 h6, hD.2⟩ hK hR (sp_imp (c_kbegin 6 199 c D.1 smC.2 P x h hk.1 h1 h6) fun r h1 hq => hk.change hq) fun h1 hR1 => ?_
    obtain ⟨w, xr, td, hr⟩ := hR1
    refine sp_imp (c_begin 7 199 c w D.1 h1 hr.1.c0 hr.2.1 (by assumption) h6) fun r h2 hq => ?_
    obtain ⟨rfl, rfl⟩ := hq
    exact hr.change rfl
  · exact op_const hD hK hR (k_same hk (c_kbegin_e 8 199 y h hy)) fun h1 hR1 => r_same hR1 (c_begin_e 7 199 y h1 hy)
theorem sub1_e {n : Nat} {y : Int32} (hn : n < 1000) (h : inI y n = false) : decide (nI 0 ≤ y ∧ y ≤ nI n - nI 1) = false := by
  cases q : decide (nI 0 ≤ y ∧ y ≤ nI n - nI 1)
  · rfl
  · exfalso
    obtain ⟨q1, q2⟩ := of_decide_eq_true q
    obtain ⟨k, hk, rfl⟩ := nI_of (Int32.not_lt.mpr (show (0 : Int32) ≤ y from q1))
    rcases Nat.eq_zero_or_pos n with e | e
    · subst e
      have q3 : nI k ≤ -1 := q2
      exact absurd (Int32.le_trans (nI_pos' hk) q3) (by decide)
    · rw [pk_sub e] at q2
      have := (nI_leI hk (by omega)).mp q2
      rw [inI_nI (by omega) (by omega)] at h
      cases h
theorem op_removeFact {D : LD} {h : Nat → MC} (y : Int32) (hD : DOk D) (hK : KSd D h) (hR : RSd D h) : OpJ M_X9_removeFact M_X10_removeFact [.int y] h isI := by
  obtain ⟨P, x, s, hk⟩ := id hK
  have h12 := hD.1.2.2.1
  cases hy : inI y (D.1 1)
  · refine op_const (z := -1) hD hK hR (sp_imp (c_kremoveFact 6 199 y D.1 smC.2 P x h hk.1) fun r h1 hq => ?_) fun h1 hR1 => ?_
    · obtain ⟨rfl, rfl⟩ := hq.1 hy
      exact hk.same rfl
    · obtain ⟨w, xr, td, hr⟩ := id hR1
      exact r_same hR1 (c_removeFact_e 7 199 y w D.1 h1 hr.1.c0 hr.2.1 (sub1_e (by omega) hy))
  · obtain ⟨f, hf, rfl⟩ := inI_of hy (by omega)
    refine op_const (D' := (shV (updN D.1 1 (D.1 1 - 1)) 3 (9 + 3 * f) (9 + 3 * (D.1 1 - 1)), D.2)) (z := nI (D.1 1 - 1)) ⟨ok_removeFact hD.1 hf, hD.2⟩ hK hR (sp_imp (c_kremoveFact 6 199 (nI f) D.1 smC.2 P x h hk.1) fun r h1 hq => hk.change (hq.2 f rfl hf)) fun h1 hR1 => ?_
    obtain ⟨w, xr, td, hr⟩ := hR1
    refine sp_imp (c_removeFact 7 199 f w D.1 h1 hr.1.c0 hr.2.1 hD.1 hf) fun r h2 hq => ?_
    obtain ⟨rfl, rfl⟩ := hq
    exact hr.change rfl
theorem op_removeRule {D : LD} {h : Nat → MC} (y : Int32) (hD : DOk D) (hK : KSd D h) (hR : RSd D h) : OpJ M_X9_removeRule M_X10_removeRule [.int y] h isI := by
  obtain ⟨P, x, s, hk⟩ := id hK
  have h8 := hD.1.2.2.2.1
  cases hy : inI y (D.1 2)
  · refine op_const (z := -1) hD hK hR (sp_imp (c_kremoveRule 6 199 y D.1 smC.2 P x h hk.1) fun r h1 hq => ?_) fun h1 hR1 => ?_
    · obtain ⟨rfl, rfl⟩ := hq.1 hy
      exact hk.same rfl
    · obtain ⟨w, xr, td, hr⟩ := id hR1
      exact r_same hR1 (c_removeRule_e 7 199 y w D.1 h1 hr.1.c0 hr.2.1 (sub1_e (by omega) hy))
  · obtain ⟨f, hf, rfl⟩ := inI_of hy (by omega)
    refine op_const (D' := (shV (updN D.1 2 (D.1 2 - 1)) 18 (45 + 18 * f) (45 + 18 * (D.1 2 - 1)), D.2)) (z := nI (D.1 2 - 1)) ⟨ok_removeRule hD.1 hf, hD.2⟩ hK hR (sp_imp (c_kremoveRule 6 199 (nI f) D.1 smC.2 P x h hk.1) fun r h1 hq => hk.change (hq.2 f rfl hf)) fun h1 hR1 => ?_
    obtain ⟨w, xr, td, hr⟩ := hR1
    refine sp_imp (c_removeRule 7 199 f w D.1 h1 hr.1.c0 hr.2.1 hD.1 hf) fun r h2 hq => ?_
    obtain ⟨rfl, rfl⟩ := hq
    exact hr.change rfl
theorem hset_o {h : Nat → MC} {k : Nat} {c : MC} {P : Nat → Prop} (hk : ¬ P k) : ∀ j, P j → hset h k c j = h j := fun j hj => hset_ne _ _ (fun e => hk (e ▸ hj))
theorem op_setPlaces {D : LD} {h : Nat → MC} (y z : Int32) (hD : DOk D) (hK : KSd D h) (hR : RSd D h) : OpJ M_X9_setPlaces M_X10_setPlaces [.int y, .int z] h isI := by
  obtain ⟨P, x, s, hk⟩ := id hK
  have K := c_ksetPlaces 5 199 y z D.1 smC.2 P x h hk.1
  cases hy : inI y 6
  · refine op_const (z := -1) hD hK hR (sp_imp K fun r h1 hq => ?_) fun h1 hR1 => r_same hR1 (c_setPlaces_e1 6 199 y z h1 hy)
    obtain ⟨rfl, rfl⟩ := hq.1 hy
    exact hk.same rfl
  · by_cases hz : nI 1 ≤ z ∧ z ≤ nI 2
    · obtain ⟨p, hp, rfl⟩ := inI_of hy (by omega)
      obtain ⟨q, hq1, hq2, rfl⟩ := nI_box (by omega) (by omega) hz
      cases hu : isUsedV D.1 p
      · refine op_const (D' := (updN D.1 (3 + p) q, D.2)) (z := nI (D.1 (3 + p))) ⟨ok_places hD.1 hp ⟨hq1, hq2⟩, hD.2⟩ hK hR (sp_imp K fun r h1 hq => hk.change ((hq.2.2 p q rfl hp rfl ⟨hq1, hq2⟩).2 hu)) fun h1 hR1 => ?_
        obtain ⟨w, xr, td, hr⟩ := hR1
        refine sp_imp (c_setPlaces 6 199 p q w D.1 h1 hr.1.c0 hr.2.1 hD.1 hp ⟨hq1, hq2⟩ hu) fun r h2 hq => ?_
        obtain ⟨rfl, rfl⟩ := hq
        obtain ⟨k1, k2, k3, k4, k5, k6, k7, k8⟩ := hr
        exact ⟨rfl, hset_o (by omega), w, xr, td, k1.put ((hset_ne _ _ (by omega)).trans k1.c0) (hset_o (P := fun j => 184 ≤ j) (by omega)), hset_same _ _ _, FndI_p (EqP_places D.1 hp) k3, (hset_ne _ _ (by omega)).trans k4, (hset_ne _ _ (by omega)).trans k5, (hset_ne _ _ (by omega)).trans k6, (hset_ne _ _ (by omega)).trans k7, k8⟩
      · refine op_const (z := -3) hD hK hR (sp_imp K fun r h1 hq => ?_) fun h1 hR1 => ?_
        · obtain ⟨rfl, rfl⟩ := (hq.2.2 p q rfl hp rfl ⟨hq1, hq2⟩).1 hu
          exact hk.same rfl
        · obtain ⟨w, xr, td, hr⟩ := id hR1
          exact r_same hR1 (c_setPlaces_e3 6 199 p q w D.1 h1 hr.1.c0 hr.2.1 hD.1 hp ⟨hq1, hq2⟩ hu)
    · refine op_const (z := -2) hD hK hR (sp_imp K fun r h1 hq => ?_) fun h1 hR1 => ?_
      · obtain ⟨rfl, rfl⟩ := hq.2.1 hy hz
        exact hk.same rfl
      · obtain ⟨p, hp, rfl⟩ := inI_of hy (by omega)
        exact r_same hR1 (c_setPlaces_e2 6 199 p z h1 hp hz)
theorem op_addFact {D : LD} {h : Nat → MC} (p a b c u : Int32) (hD : DOk D) (hK : KSd D h) (hR : RSd D h) : OpJ M_X9_addFact M_X10_addFact [.int p, .int a, .int b, .int c, .int u] h isI := by
  obtain ⟨P, x, s, hk⟩ := id hK
  have K := c_kaddFact 6 199 p a b c u D.1 smC.2 P x h hk.1
  cases hF : isF D.1 p a b
  · refine op_const (z := -1) hD hK hR (sp_imp K fun r h1 hq => ?_) fun h1 hR1 => ?_
    · obtain ⟨rfl, rfl⟩ := hq.1 hF
      exact hk.same rfl
    · obtain ⟨w, xr, td, hr⟩ := id hR1
      exact r_same hR1 (c_addFact_e1 5 199 p a b c u w D.1 h1 hr.1.c0 hr.2.1 hD.1 hF)
  · cases hc : (inI c 100 && decide (nI 1 ≤ u ∧ u ≤ nI 16))
    · refine op_const (z := -2) hD hK hR (sp_imp K fun r h1 hq => ?_) fun h1 hR1 => ?_
      · obtain ⟨rfl, rfl⟩ := hq.2.1 hF hc
        exact hk.same rfl
      · obtain ⟨w, xr, td, hr⟩ := id hR1
        exact r_same hR1 (c_addFact_e2 5 199 p a b c u w D.1 h1 hr.1.c0 hr.2.1 hD.1 hF hc)
    · by_cases h12 : D.1 1 = 12
      · refine op_const (z := -4) hD hK hR (sp_imp K fun r h1 hq => ?_) fun h1 hR1 => ?_
        · obtain ⟨rfl, rfl⟩ := (hq.2.2 hF hc).1 h12
          exact hk.same rfl
        · obtain ⟨w, xr, td, hr⟩ := id hR1
          exact r_same hR1 (c_addFact_e3 5 199 p a b c u w D.1 h1 hr.1.c0 hr.2.1 hD.1 hF hc h12)
      · obtain ⟨i, j, k, hi, hj, hkk, rfl, rfl, rfl, hf, h216⟩ := isF_nat hD.1 hF
        have hc2 := hc
        rw [Bool.and_eq_true] at hc2
        obtain ⟨c', hc', rfl⟩ := inI_of hc2.1 (by omega)
        obtain ⟨u', hu1, hu2, rfl⟩ := nI_box (by omega) (by omega) (of_decide_eq_true hc2.2)
        have eD : addFactV D.1 (fctN (nI i) (nI j) (nI k)) (nI c').toNatClampNeg (nI u').toNatClampNeg = addFactV D.1 (36 * i + 6 * j + k) c' u' := by
          rw [hf, nI_clamp (by omega), nI_clamp (by omega)]
        refine op_const (D' := (addFactV D.1 (36 * i + 6 * j + k) c' u', D.2)) (z := nI (D.1 1)) ⟨ok_addFact hD.1 h216 (by omega) hu1 hu2 h12, hD.2⟩ hK hR (sp_imp K fun r h1 hq => ?_) fun h1 hR1 => ?_
        · have hz := (hq.2.2 hF hc).2 h12
          rw [eD] at hz
          exact hk.change hz
        · obtain ⟨w, xr, td, hr⟩ := hR1
          refine sp_imp (c_addFact 5 199 i j k c' u' w D.1 h1 hr.1.c0 hr.2.1 hD.1 hF hc h12) fun r h2 hq => ?_
          obtain ⟨rfl, rfl⟩ := hq
          exact hr.change rfl
