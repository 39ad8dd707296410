/-! P30: THE CALLS of the class, one by one -/
theorem k_same {M : MI} {n : Nat} {as : List Value} {D : LD} {h : Nat → MC} {P : PgS} {x : KD} {s : KS} {z : Int32} (hk : KSr D h P x s) (H : Fn M 8 0 0 (.ref 0 :: as) h n (some (.int z)) h) : Sp M 8 0 0 (.ref 0 :: as) h n (KRet (fun r => r = some (.int z)) D h) := sp_imp H fun r h1 hq => by
  obtain ⟨rfl, rfl⟩ := hq
  exact hk.same rfl
theorem nI_box {c : Int32} {a b : Nat} (ha : a < 2147483648) (hb : b < 2147483648) (h : nI a ≤ c ∧ c ≤ nI b) : ∃ k, a ≤ k ∧ k ≤ b ∧ c = nI k := by
  have h0 : (0 : Int32) ≤ c := Int32.le_trans (nI_pos' ha) h.1
  obtain ⟨k, hk, rfl⟩ := nI_of (Int32.not_lt.mpr h0)
  exact ⟨k, (nI_leI ha hk).mp h.1, (nI_leI hk hb).mp h.2, rfl⟩
section KO
variable {D : LD} {h : Nat → MC} {n : Nat}
theorem ko_size (hK : KSd D h) : Sp M_X9_size 8 0 0 [.ref 0] h n (KRet (fun r => r = some (.int (okA D.1 (nI (cntM (mdl0 D.1).1 0 216))))) D h) := by
  obtain ⟨P, x, s, hk⟩ := hK
  exact sp_imp (c_ksize 3 n D.1 smC.2 P x h hk.1) fun r h1 hq => by
    obtain ⟨⟨x1, e⟩, e2⟩ := hk.ask hq
    exact ⟨e, e2⟩
theorem ko_rounds (hK : KSd D h) : Sp M_X9_rounds 8 0 0 [.ref 0] h n (KRet (fun r => r = some (.int (okA D.1 (nI (mdl0 D.1).2)))) D h) := by
  obtain ⟨P, x, s, hk⟩ := hK
  exact sp_imp (c_krounds 3 n D.1 smC.2 P x h hk.1) fun r h1 hq => by
    obtain ⟨⟨x1, e⟩, e2⟩ := hk.ask hq
    exact ⟨e, e2⟩
theorem ko_stratum (hK : KSd D h) {p : Nat} (hp : p < 6) : Sp M_X9_stratum 8 0 0 [.ref 0, .int (nI p)] h n (KRet (fun r => r = some (.int (okA D.1 (nI ((strF D.1).1 p))))) D h) := by
  obtain ⟨P, x, s, hk⟩ := hK
  exact sp_imp (c_kstratum 3 n p D.1 smC.2 P x h hk.1 hp) fun r h1 hq => by
    obtain ⟨⟨x1, e⟩, e2⟩ := hk.ask hq
    exact ⟨e, e2⟩
theorem ko_stratum_e (hK : KSd D h) {y : Int32} (hy : inI y 6 = false) : Sp M_X9_stratum 8 0 0 [.ref 0, .int y] h n (KRet (fun r => r = some (.int (-1))) D h) := by
  obtain ⟨P, x, s, hk⟩ := hK
  exact k_same hk (c_kstratum_e 3 n y h hy)
theorem ko_count (hK : KSd D h) {p : Nat} (hp : p < 6) : Sp M_X9_count 8 0 0 [.ref 0, .int (nI p)] h n (KRet (fun r => r = some (.int (okA D.1 (nI (cntM (mdl0 D.1).1 (36 * p) 36))))) D h) := by
  obtain ⟨P, x, s, hk⟩ := hK
  exact sp_imp (c_kcount 3 n p D.1 smC.2 P x h hk.1 hp) fun r h1 hq => by
    obtain ⟨⟨x1, e⟩, e2⟩ := hk.ask hq
    exact ⟨e, e2⟩
theorem ko_count_e (hK : KSd D h) {y : Int32} (hy : inI y 6 = false) : Sp M_X9_count 8 0 0 [.ref 0, .int y] h n (KRet (fun r => r = some (.int (-1))) D h) := by
  obtain ⟨P, x, s, hk⟩ := hK
  exact k_same hk (c_kcount_e 3 n y h hy)
theorem ko_round (hK : KSd D h) (p a b : Int32) : Sp M_X9_round 8 0 0 [.ref 0, .int p, .int a, .int b] h n (KRet (fun r => r = some (.int (wA D.1 p a b ((mdl0 D.1).1 (fctN p a b))))) D h) := by
  obtain ⟨P, x, s, hk⟩ := hK
  exact sp_imp (c_kround 2 n p a b D.1 smC.2 P x h hk.1) fun r h1 hq => by
    obtain ⟨⟨x1, e⟩, e2⟩ := hk.ask hq
    exact ⟨e, e2⟩
theorem ko_inst (hK : KSd D h) {p a b : Int32} (hF : isF D.1 p a b = true) (hs : (strF D.1).2.2 = true) : Sp M_X9_instances 8 0 0 [.ref 0, .int p, .int a, .int b] h n (KRet (fun r => r = some (.int (nI (insN (hoV D.1) (fctN p a b) (hoV D.1).1)))) D h) := by
  obtain ⟨P, x, s, hk⟩ := hK
  exact sp_imp (c_kinstances 3 n p a b D.1 smC.2 P x h hk.1) fun r h1 hq => by
    obtain ⟨⟨x1, e⟩, e2⟩ := hk.ask hq
    exact ⟨e.2.2 hF hs, e2⟩
theorem ko_inst_e (hK : KSd D h) {p a b : Int32} (hF : isF D.1 p a b = false) : Sp M_X9_instances 8 0 0 [.ref 0, .int p, .int a, .int b] h n (KRet (fun r => r = some (.int (-1))) D h) := by
  obtain ⟨P, x, s, hk⟩ := hK
  exact sp_imp (c_kinstances 3 n p a b D.1 smC.2 P x h hk.1) fun r h1 hq => by
    obtain ⟨⟨x1, e⟩, e2⟩ := hk.ask hq
    exact ⟨e.1 hF, e2⟩
theorem ko_cost (hok : OkN D.1) (hK : KSd D h) {q : QD} (hq0 : QOk D.1 q) (p a b : Int32) : Sp M_X9_cost 8 0 0 [.ref 0, .int p, .int a, .int b] h n (KRet (fun r => r = some (.int (wA D.1 p a b (nI (q.1 (fctN p a b)))))) D h) := by
  obtain ⟨P, x, s, hk⟩ := hK
  exact sp_imp (c_kcost 2 n p a b D.1 smC.2 P x h hk.1) fun r h1 hq => by
    obtain ⟨⟨x1, e⟩, e2⟩ := hk.ask hq
    refine ⟨wQ_eq e fun _ z hz => ?_, e2⟩
    obtain ⟨c, kr, z1, u, hc, rfl⟩ := hz
    rw [hq0.co hc]
theorem ko_likelihood (hok : OkN D.1) (hK : KSd D h) {p a b : Int32} (hw : 0 ≤ wrV D.1 p a b) : Sp M_X9_likelihood 8 0 0 [.ref 0, .int p, .int a, .int b] h n (KRet (fun r => ∃ k, k ≤ 1065353216 ∧ r = some (.int (nI k))) D h) := by
  obtain ⟨P, x, s, hk⟩ := hK
  exact sp_imp (c_klikelihood 2 n p a b D.1 smC.2 P x h hk.1) fun r h1 hq => by
    obtain ⟨⟨x1, e⟩, e2⟩ := hk.ask hq
    obtain ⟨y, ⟨l, hl, rfl⟩, e3⟩ := e.2 hw
    exact ⟨⟨(l (fctN p a b)).toNat, hl.1 _, by rw [e3, i32_nI]⟩, e2⟩
theorem wrV_ne {v : Nat → Nat} {p a b : Int32} (hF : isF v p a b = true) : wrV v p a b ≠ -1 := fun q => by
  unfold wrV at q
  rw [if_neg (by rw [hF]; decide)] at q
  split at q
  · cases q
  · split at q <;> cases q
theorem ko_least (hok : OkN D.1) (hK : KSd D h) {q : QD} (hq0 : QOk D.1 q) {p a b : Int32} (hF : isF D.1 p a b = true) {w : Nat} (hw : w < 3) : Sp M_X9_least 8 0 0 [.ref 0, .int p, .int a, .int b, .int (nI w)] h n (KRet (fun r => r = some (.int (wA D.1 p a b (leN q.2.1.1 q.2.1.2.1 q.2.1.2.2.1 (fctN p a b) w)))) D h) := by
  obtain ⟨P, x, s, hk⟩ := hK
  exact sp_imp (c_kleast 2 n p a b (nI w) D.1 smC.2 P x h hk.1) fun r h1 hq => by
    obtain ⟨⟨x1, e⟩, e2⟩ := hk.ask hq
    refine ⟨wQ_eq (e.2.2 (wrV_ne hF) (inI_nI hw (by omega))) fun _ z hz => ?_, e2⟩
    obtain ⟨c, kr, z1, u, hc, rfl⟩ := hz
    rw [nI_clamp (show w < 2 ^ 31 by omega), hq0.le hok hc (fctN_lt hok hF)]
theorem ko_least_e (hK : KSd D h) {p a b w : Int32} (hF : isF D.1 p a b = false) : Sp M_X9_least 8 0 0 [.ref 0, .int p, .int a, .int b, .int w] h n (KRet (fun r => r = some (.int (-1))) D h) := by
  obtain ⟨P, x, s, hk⟩ := hK
  exact sp_imp (c_kleast 2 n p a b w D.1 smC.2 P x h hk.1) fun r h1 hq => by
    obtain ⟨⟨x1, e⟩, e2⟩ := hk.ask hq
    exact ⟨e.1 (wrV_1 hF), e2⟩
theorem ko_needs (hok : OkN D.1) (hK : KSd D h) {q : QD} (hq0 : QOk D.1 q) {p a b : Int32} (hF : isF D.1 p a b = true) : Sp M_X9_needs 8 0 0 [.ref 0, .int p, .int a, .int b] h n (KRet (fun r => r = some (.int (wA D.1 p a b (nI (neN q.2.2 (fctN p a b)))))) D h) := by
  obtain ⟨P, x, s, hk⟩ := hK
  exact sp_imp (c_kneeds 2 n p a b D.1 smC.2 P x h hk.1) fun r h1 hq => by
    obtain ⟨⟨x1, e⟩, e2⟩ := hk.ask hq
    refine ⟨wQ_eq e fun _ z hz => ?_, e2⟩
    obtain ⟨rr, hr, rfl⟩ := hz
    exact kne_N hr hq0.2.2 (fctN_lt hok hF)
theorem ko_cut (hok : OkN D.1) (hK : KSd D h) {q : QD} (hq0 : QOk D.1 q) {p a b : Int32} (hF : isF D.1 p a b = true) : Sp M_X9_cut 8 0 0 [.ref 0, .int p, .int a, .int b] h n (KRet (fun r => r = some (.int (wA D.1 p a b (ctN q.2.2 (fctN p a b))))) D h) := by
  obtain ⟨P, x, s, hk⟩ := hK
  exact sp_imp (c_kcut 2 n p a b D.1 smC.2 P x h hk.1) fun r h1 hq => by
    obtain ⟨⟨x1, e⟩, e2⟩ := hk.ask hq
    refine ⟨wQ_eq e fun _ z hz => ?_, e2⟩
    obtain ⟨rr, hr, hz⟩ := hz
    exact hz.trans (cut_N hr hq0.2.2 (fctN_lt hok hF))
theorem ko_sizeW (hK : KSd D h) {y : Int32} (hy : 0 ≤ y) : Sp M_X9_sizeWithout 8 0 0 [.ref 0, .int y] h n (KRet (fun r => r = some (.int (okA D.1 (nI (cntM (mdlX D.1 y) 0 216))))) D h) := by
  obtain ⟨P, x, s, hk⟩ := hK
  exact sp_imp (c_ksizeW 3 n y D.1 smC.2 P x h hk.1 hy) fun r h1 hq => by
    obtain ⟨⟨x1, e⟩, e2⟩ := hk.ask hq
    exact ⟨e, e2⟩
theorem ko_sizeW_e (hK : KSd D h) {y : Int32} (hy : y < 0) : Sp M_X9_sizeWithout 8 0 0 [.ref 0, .int y] h n (KRet (fun r => r = some (.int (-2))) D h) := by
  obtain ⟨P, x, s, hk⟩ := hK
  exact k_same hk (c_ksizeW_e 8 n y h hy)
theorem ko_holdsW (hK : KSd D h) {y p a b : Int32} (hF : isF D.1 p a b = true) (hy : 0 ≤ y) : Sp M_X9_holdsWithout 8 0 0 [.ref 0, .int y, .int p, .int a, .int b] h n (KRet (fun r => r = some (.int (okA D.1 (bI (decide (0 ≤ mdlX D.1 y (fctN p a b))))))) D h) := by
  obtain ⟨P, x, s, hk⟩ := hK
  exact sp_imp (c_kholdsW 3 n y p a b D.1 smC.2 P x h hk.1) fun r h1 hq => by
    obtain ⟨⟨x1, e⟩, e2⟩ := hk.ask hq
    exact ⟨e.2.2 hF hy, e2⟩
theorem ko_holdsW_e1 (hK : KSd D h) {y p a b : Int32} (hF : isF D.1 p a b = false) : Sp M_X9_holdsWithout 8 0 0 [.ref 0, .int y, .int p, .int a, .int b] h n (KRet (fun r => r = some (.int (-1))) D h) := by
  obtain ⟨P, x, s, hk⟩ := hK
  exact sp_imp (c_kholdsW 3 n y p a b D.1 smC.2 P x h hk.1) fun r h1 hq => by
    obtain ⟨⟨x1, e⟩, e2⟩ := hk.ask hq
    exact ⟨e.1 hF, e2⟩
theorem ko_holdsW_e2 (hK : KSd D h) {y p a b : Int32} (hF : isF D.1 p a b = true) (hy : y < 0) : Sp M_X9_holdsWithout 8 0 0 [.ref 0, .int y, .int p, .int a, .int b] h n (KRet (fun r => r = some (.int (-2))) D h) := by
  obtain ⟨P, x, s, hk⟩ := hK
  exact sp_imp (c_kholdsW 3 n y p a b D.1 smC.2 P x h hk.1) fun r h1 hq => by
    obtain ⟨⟨x1, e⟩, e2⟩ := hk.ask hq
    exact ⟨e.2.1 hF hy, e2⟩
/-- the checksum of v -/
def CkA (v : Nat → Nat) (r : Option Value) : Prop := ((strF v).2.2 = false → r = some (.long (ckH v))) ∧ ((strF v).2.2 = true → ∃ c kr z u l, KcOk v (hoV v) c kr z u ∧ KlOk v (hoV v) l ∧ r = some (.long (ckV v c kr z u l)))
theorem ko_checksum (hK : KSd D h) : Sp M_X9_checksum 8 0 0 [.ref 0] h n (KRet (CkA D.1) D h) := by
  obtain ⟨P, x, s, hk⟩ := hK
  exact sp_imp (c_kchecksum 2 n D.1 smC.2 P x h hk.1) fun r h1 hq => by
    obtain ⟨⟨x1, e⟩, e2⟩ := hk.ask hq
    exact ⟨e, e2⟩
theorem ko_facts (hK : KSd D h) : Sp M_X9_facts 8 0 0 [.ref 0] h n (KRet (fun r => r = some (.int (nI (D.1 1)))) D h) := by
  obtain ⟨P, x, s, hk⟩ := hK
  exact k_same hk (c_kfacts 8 n D.1 smC.2 P x h hk.1)
theorem ko_rules (hK : KSd D h) : Sp M_X9_rules 8 0 0 [.ref 0] h n (KRet (fun r => r = some (.int (nI (D.1 2)))) D h) := by
  obtain ⟨P, x, s, hk⟩ := hK
  exact k_same hk (c_krules 8 n D.1 smC.2 P x h hk.1)
theorem ko_begin (hK : KSd D h) {c : Nat} (h1 : 1 ≤ c) (h6 : c ≤ 6) : Sp M_X9_begin 8 0 0 [.ref 0, .int (nI c)] h n (KRet (fun r => r = some (.int (nI (D.1 0)))) (anewV D.1 c, D.2) h) := by
  obtain ⟨P, x, s, hk⟩ := hK
  exact sp_imp (c_kbegin 6 n c D.1 smC.2 P x h hk.1 h1 h6) fun r h1 hq => hk.change hq
theorem ko_begin_e (hK : KSd D h) {c : Int32} (hc : ¬ (1 ≤ c ∧ c ≤ 6)) : Sp M_X9_begin 8 0 0 [.ref 0, .int c] h n (KRet (fun r => r = some (.int (-2))) D h) := by
  obtain ⟨P, x, s, hk⟩ := hK
  exact k_same hk (c_kbegin_e 8 n c h hc)
theorem ko_places (hK : KSd D h) {p q : Nat} (hp : p < 6) (hq : 1 ≤ q ∧ q ≤ 2) (hu : isUsedV D.1 p = false) : Sp M_X9_setPlaces 8 0 0 [.ref 0, .int (nI p), .int (nI q)] h n (KRet (fun r => r = some (.int (nI (D.1 (3 + p))))) (updN D.1 (3 + p) q, D.2) h) := by
  obtain ⟨P, x, s, hk⟩ := hK
  exact sp_imp (c_ksetPlaces 5 n (nI p) (nI q) D.1 smC.2 P x h hk.1) fun r h1 hr => hk.change ((hr.2.2 p q rfl hp rfl hq).2 hu)
theorem ko_places_e1 (hK : KSd D h) {y z : Int32} (hy : inI y 6 = false) : Sp M_X9_setPlaces 8 0 0 [.ref 0, .int y, .int z] h n (KRet (fun r => r = some (.int (-1))) D h) := by
  obtain ⟨P, x, s, hk⟩ := hK
  exact sp_imp (c_ksetPlaces 5 n y z D.1 smC.2 P x h hk.1) fun r h1 hr => by
    obtain ⟨rfl, rfl⟩ := hr.1 hy
    exact hk.same rfl
theorem ko_places_e2 (hK : KSd D h) {y z : Int32} (hy : inI y 6 = true) (hz : ¬ (nI 1 ≤ z ∧ z ≤ nI 2)) : Sp M_X9_setPlaces 8 0 0 [.ref 0, .int y, .int z] h n (KRet (fun r => r = some (.int (-2))) D h) := by
  obtain ⟨P, x, s, hk⟩ := hK
  exact sp_imp (c_ksetPlaces 5 n y z D.1 smC.2 P x h hk.1) fun r h1 hr => by
    obtain ⟨rfl, rfl⟩ := hr.2.1 hy hz
    exact hk.same rfl
theorem ko_addFact (hK : KSd D h) {p a b c s : Int32} (hF : isF D.1 p a b = true) (hcs : (inI c 100 && decide (nI 1 ≤ s ∧ s ≤ nI 16)) = true) (h12 : D.1 1 ≠ 12) : Sp M_X9_addFact 8 0 0 [.ref 0, .int p, .int a, .int b, .int c, .int s] h n (KRet (fun r => r = some (.int (nI (D.1 1)))) (addFactV D.1 (fctN p a b) c.toNatClampNeg s.toNatClampNeg, D.2) h) := by
  obtain ⟨P, x, s0, hk⟩ := hK
  exact sp_imp (c_kaddFact 6 n p a b c s D.1 smC.2 P x h hk.1) fun r h1 hr => hk.change ((hr.2.2 hF hcs).2 h12)
theorem ko_addFact_e1 (hK : KSd D h) {p a b c s : Int32} (hF : isF D.1 p a b = false) : Sp M_X9_addFact 8 0 0 [.ref 0, .int p, .int a, .int b, .int c, .int s] h n (KRet (fun r => r = some (.int (-1))) D h) := by
  obtain ⟨P, x, s0, hk⟩ := hK
  exact sp_imp (c_kaddFact 6 n p a b c s D.1 smC.2 P x h hk.1) fun r h1 hr => by
    obtain ⟨rfl, rfl⟩ := hr.1 hF
    exact hk.same rfl
theorem ko_addFact_e2 (hK : KSd D h) {p a b c s : Int32} (hF : isF D.1 p a b = true) (hcs : (inI c 100 && decide (nI 1 ≤ s ∧ s ≤ nI 16)) = false) : Sp M_X9_addFact 8 0 0 [.ref 0, .int p, .int a, .int b, .int c, .int s] h n (KRet (fun r => r = some (.int (-2))) D h) := by
  obtain ⟨P, x, s0, hk⟩ := hK
  exact sp_imp (c_kaddFact 6 n p a b c s D.1 smC.2 P x h hk.1) fun r h1 hr => by
    obtain ⟨rfl, rfl⟩ := hr.2.1 hF hcs
    exact hk.same rfl
theorem ko_removeFact (hK : KSd D h) {f : Nat} (hf : f < D.1 1) : Sp M_X9_removeFact 8 0 0 [.ref 0, .int (nI f)] h n (KRet (fun r => r = some (.int (nI (D.1 1 - 1)))) (shV (updN D.1 1 (D.1 1 - 1)) 3 (9 + 3 * f) (9 + 3 * (D.1 1 - 1)), D.2) h) := by
  obtain ⟨P, x, s, hk⟩ := hK
  exact sp_imp (c_kremoveFact 6 n (nI f) D.1 smC.2 P x h hk.1) fun r h1 hr => hk.change (hr.2 f rfl hf)
theorem ko_removeFact_e (hK : KSd D h) {y : Int32} (hy : inI y (D.1 1) = false) : Sp M_X9_removeFact 8 0 0 [.ref 0, .int y] h n (KRet (fun r => r = some (.int (-1))) D h) := by
  obtain ⟨P, x, s, hk⟩ := hK
  exact sp_imp (c_kremoveFact 6 n y D.1 smC.2 P x h hk.1) fun r h1 hr => by
    obtain ⟨rfl, rfl⟩ := hr.1 hy
    exact hk.same rfl
theorem ko_removeRule (hK : KSd D h) {f : Nat} (hf : f < D.1 2) : Sp M_X9_removeRule 8 0 0 [.ref 0, .int (nI f)] h n (KRet (fun r => r = some (.int (nI (D.1 2 - 1)))) (shV (updN D.1 2 (D.1 2 - 1)) 18 (45 + 18 * f) (45 + 18 * (D.1 2 - 1)), D.2) h) := by
  obtain ⟨P, x, s, hk⟩ := hK
  exact sp_imp (c_kremoveRule 6 n (nI f) D.1 smC.2 P x h hk.1) fun r h1 hr => hk.change (hr.2 f rfl hf)
theorem ko_removeRule_e (hK : KSd D h) {y : Int32} (hy : inI y (D.1 2) = false) : Sp M_X9_removeRule 8 0 0 [.ref 0, .int y] h n (KRet (fun r => r = some (.int (-1))) D h) := by
  obtain ⟨P, x, s, hk⟩ := hK
  exact sp_imp (c_kremoveRule 6 n y D.1 smC.2 P x h hk.1) fun r h1 hr => by
    obtain ⟨rfl, rfl⟩ := hr.1 hy
    exact hk.same rfl
end KO
