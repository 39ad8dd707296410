/-! THE ANSWERS of both sides are the same -/
theorem wQ_eq {v : Nat → Nat} {p a b : Int32} {B : Int32 → Prop} {r : Option Value} (h : wQ v p a b B r) {y : Int32} (hy : 0 ≤ wrV v p a b → ∀ z, B z → z = y) : r = some (.int (wA v p a b y)) := by
  rcases wrV_cases v p a b with hw | ⟨hw, -⟩
  · rw [wA_lt hw]
    exact h.1 hw
  · have hge : 0 ≤ wrV v p a b := by
      rw [hw]
      decide
    obtain ⟨z, hz, e⟩ := h.2 hge
    rw [wA_ge hge, e, hy hge z hz]
theorem fctN_lt {v : Nat → Nat} (hok : OkN v) {p a b : Int32} (h : isF v p a b = true) : fctN p a b < 216 := by
  obtain ⟨i, j, k, -, -, -, -, -, -, e, h2⟩ := isF_nat hok h
  rw [e]
  exact h2
theorem q_cost {v : Nat → Nat} {w : Nat → Int32} {x : RD} {p a b : Int32} {r : Option Value} (hok : OkN v) (h : wQ v p a b (fun y => ∃ c kr z u, KcOk v (hoV v) c kr z u ∧ y = nI (c (fctN p a b))) r) (hF : isF v p a b = true → Fnd v w x) : r = some (.int (wA v p a b (nI (x.c (fctN p a b))))) := by
  refine wQ_eq h fun hge z hz => ?_
  obtain ⟨-, hf, ho, hm⟩ := wrV_ok hge
  obtain ⟨S, hS, f1, f2, hSE, f3, f4, f5⟩ := (hF hf).v hok ho
  obtain ⟨c, kr, z1, u, hK, rfl⟩ := hz
  obtain ⟨e, -⟩ := Kc_v hK f3 f5
  rw [e]
theorem q_lik {v : Nat → Nat} {w : Nat → Int32} {x : RD} {p a b : Int32} {r : Option Value} (hok : OkN v) (h : wQ v p a b (fun y => ∃ l, KlOk v (hoV v) l ∧ y = (l (fctN p a b)).toInt32) r) (hF : isF v p a b = true → Fnd v w x) : r = some (.int (wA v p a b (x.l (fctN p a b)).toInt32)) := by
  refine wQ_eq h fun hge z hz => ?_
  obtain ⟨-, hf, ho, hm⟩ := wrV_ok hge
  obtain ⟨S, hS, f1, f2, hSE, f3, f4, f5⟩ := (hF hf).v hok ho
  obtain ⟨l, hK, rfl⟩ := hz
  have e := hK.2 _ f4 (fctN p a b)
  rw [zf_uf (lk_UF hok ho f4 (fctN_lt hok hf) hm)] at e
  rw [e]
/-- a least derivation is there where the cost is one -/
theorem lr_pos {v c : Nat → Nat} (hok : OkN v) (lb : Nat → Nat) (hc : IsLim (fun c => (coP v (hoV v) c).1) (coBase v) c) {f : Nat} (hlt : c f < 1000001) : ¬ (ls2 v (hoV v) c lb).1 f < 0 := by
  have hS := hoV_ok hok
  have h8 := hok.2.2.2.1
  rcases ls2_C hok hS c lb f with ⟨k, hk, a1, -⟩ | ⟨hk, a2, a3, a4⟩
  · rw [a1]
    decide
  · rcases a4 with ⟨i, ⟨i1, -⟩, d1, -⟩ | ⟨hi, d1⟩
    · have := (hS.2 i i1).1
      rw [d1]
      exact nI_pos (by omega)
    · exfalso
      rcases coLim_ach hS hc f with q | ⟨k, q1, q2⟩ | ⟨i, q1, q2, q3⟩
      · omega
      · exact absurd q2 (hk k q1)
      · exact absurd ⟨q2, hlt, q3⟩ (hi i q1)
theorem lsLim_1 {S : HoS} {N : Nat} {L F : LeS} (h : IsLim (fun L => (lsP S N L).1) L F) : F.1 = L.1 := by
  obtain ⟨k, rfl, -⟩ := h
  have hk : ∀ k, (itN (fun _ => fun L => (lsP S N L).1) L k).1 = L.1 := by
    intro k
    induction k with
    | zero => rfl
    | succ k ih => exact lsP_1.trans ih
  exact hk k
theorem lsN_eq {v c kr z u : Nat → Nat} {x : RD} (hok : OkN v) (hK : KcOk v (hoV v) c kr z u) (f3 : IsLim (fun c => (coP v (hoV v) c).1) (coBase v) x.c) (f5 : ∃ (N : Nat) (lb : Nat → Nat), N = 216 ∧ IsLim (fun L => (lsP (hoV v) N L).1) (ls2 v (hoV v) x.c lb) (x.lr, x.z, x.u, x.lb)) {f : Nat} (hf : f < 216) (what : Nat) : lsN c kr z u f what = leN x.lr x.z x.u f what := by
  obtain ⟨e, hzu, hkr⟩ := Kc_v hK f3 f5
  obtain ⟨N, lb, -, hl⟩ := f5
  have e1 : x.lr = (ls2 v (hoV v) x.c lb).1 := lsLim_1 hl
  obtain ⟨k1, k2⟩ := hkr f hf
  have k1 : x.c f < 1000001 → x.lr f = nI (kr f) := k1
  have k2 : 1000001 ≤ x.c f → x.lr f < 0 := k2
  obtain ⟨z1, z2⟩ := hzu f hf
  unfold lsN leN
  rw [e, z1, z2]
  by_cases q : x.c f < 1000001
  · rw [if_pos q, ← k1 q, if_neg (show ¬ x.lr f < 0 by rw [e1]; exact lr_pos hok lb f3 q)]
  · rw [if_neg q, if_pos (k2 (by omega))]
theorem q_least {v : Nat → Nat} {w : Nat → Int32} {x : RD} {p a b what : Int32} {r : Option Value} (hok : OkN v) (h : (wrV v p a b = -1 → r = some (.int (-1))) ∧ (wrV v p a b ≠ -1 → inI what 3 = false → r = some (.int (-2))) ∧ (wrV v p a b ≠ -1 → inI what 3 = true → wQ v p a b (fun y => ∃ c kr z u, KcOk v (hoV v) c kr z u ∧ y = lsN c kr z u (fctN p a b) what.toNatClampNeg) r)) (hF : isF v p a b = true → Fnd v w x) : r = some (.int (lqA v x p a b what)) := by
  unfold lqA
  by_cases h1 : wrV v p a b = -1
  · rw [if_pos h1]
    exact h.1 h1
  · rw [if_neg h1]
    cases h2 : inI what 3
    · rw [if_pos rfl]
      exact h.2.1 h1 h2
    · rw [if_neg (by decide)]
      refine wQ_eq (h.2.2 h1 h2) fun hge z hz => ?_
      obtain ⟨-, hf, ho, hm⟩ := wrV_ok hge
      obtain ⟨S, hS, f1, f2, hSE, f3, f4, f5⟩ := (hF hf).v hok ho
      obtain ⟨c, kr, z1, u, hK, rfl⟩ := hz
      exact lsN_eq hok hK f3 f5 (fctN_lt hok hf) _
theorem q_needs {v : Nat → Nat} {w : Nat → Int32} {x : RD} {p a b : Int32} {r r2 : Option Value} (hok : OkN v) (h : wQ v p a b (fun y => ∃ rr, KsOk v (hoV v) smC.2 rr ∧ y = kneV smC.2 rr (fctN p a b) 12) r) (h2 : ndQ v p a b (fun E f => ndA E f (v 1)) w x r2) : r = r2 := by
  obtain ⟨hF, g1, g2⟩ := h2
  rcases wrV_cases v p a b with hw | ⟨hw, hf, ho, hm⟩
  · rw [g1 hw]
    exact h.1 hw
  · have hge : 0 ≤ wrV v p a b := by
      rw [hw]
      decide
    obtain ⟨S, E, hS, hE, e⟩ := g2 hge
    obtain ⟨y, ⟨rr, hK, rfl⟩, e2⟩ := h.2 hge
    obtain ⟨-, -, hSE, -⟩ := FndM_v hok (hF hf).2.2.1 hS
    rw [e, e2, needs_eq hok (stC_of hok ho) hK (DerE_s hSE hE) (fctN_lt hok hf) hm]
theorem q_cut {v : Nat → Nat} {w : Nat → Int32} {x : RD} {p a b : Int32} {r r2 : Option Value} (hok : OkN v) (h : wQ v p a b (fun y => ∃ rr, KsOk v (hoV v) smC.2 rr ∧ y = (upTo (cutF smC.2 rr (fctN p a b)) 298).getD (-5)) r) (h2 : ndQ v p a b (fun E f => cutV E f (v 1)) w x r2) : r = r2 := by
  obtain ⟨hF, g1, g2⟩ := h2
  rcases wrV_cases v p a b with hw | ⟨hw, hf, ho, hm⟩
  · rw [g1 hw]
    exact h.1 hw
  · have hge : 0 ≤ wrV v p a b := by
      rw [hw]
      decide
    obtain ⟨S, E, hS, hE, e⟩ := g2 hge
    obtain ⟨y, ⟨rr, hK, ey⟩, e2⟩ := h.2 hge
    obtain ⟨-, -, hSE, -⟩ := FndM_v hok (hF hf).2.2.1 hS
    rw [e, e2, ey, cut_eq hok (stC_of hok ho) hK (DerE_s hSE hE) (fctN_lt hok hf) hm]
theorem q_inst {v : Nat → Nat} {w : Nat → Int32} {x : RD} {p a b : Int32} {r r2 : Option Value} (hok : OkN v) (h : (isF v p a b = false → r = some (.int (-1))) ∧ (isF v p a b = true → (strF v).2.2 = false → r = some (.int (-6))) ∧ (isF v p a b = true → (strF v).2.2 = true → r = some (.int (nI (insN (hoV v) (fctN p a b) (hoV v).1))))) (h2 : inA v p a b w x r2) : r = r2 := by
  obtain ⟨hF, g1, g2, g3⟩ := h2
  cases h1 : isF v p a b
  · have e := wrV_1 (v := v) h1
    rw [h.1 h1, g2 (by rw [e]; decide) (by rw [e]; decide), e]
  · cases ho : (strF v).2.2
    · have e := wrV_6 h1 ho
      rw [h.2.1 h1 ho, g2 (by rw [e]; decide) (by rw [e]; decide), e]
    · by_cases hm : (mdl0 v).1 (fctN p a b) < 0
      · rw [h.2.2 h1 ho, g1 (wrV_5 h1 ho hm), ins_none hok ho hm _ (Nat.le_refl _)]
        rfl
      · obtain ⟨S, hS, e⟩ := g3 (by rw [wrV_0 h1 ho hm]; decide)
        obtain ⟨-, -, hSE, -⟩ := FndM_v hok (hF h1).2.2.1 hS
        rw [h.2.2 h1 ho, e, hSE.1, insN_s hSE _ _ (Nat.le_refl _)]
theorem q_ck {v : Nat → Nat} {w : Nat → Int32} {x : RD} {r r2 : Option Value} (hok : OkN v) (h : ((strF v).2.2 = false → r = some (.long (ckH v))) ∧ ((strF v).2.2 = true → ∃ c kr z u l, KcOk v (hoV v) c kr z u ∧ KlOk v (hoV v) l ∧ r = some (.long (ckV v c kr z u l)))) (h2 : Fnd v w x ∧ ((strF v).2.2 = false → r2 = some (.long (ckH v))) ∧ ((strF v).2.2 = true → r2 = some (.long (rkV v x)))) : r = r2 := by
  obtain ⟨hF, g1, g2⟩ := h2
  cases ho : (strF v).2.2
  · rw [h.1 ho, g1 ho]
  · obtain ⟨c, kr, z, u, l, hK, hL, e⟩ := h.2 ho
    obtain ⟨S, hS, f1, f2, hSE, f3, f4, f5⟩ := hF.v hok ho
    have ec := (Kc_v hK f3 f5).1
    obtain ⟨hX, hMR⟩ : InvX (mdl0 v) ∧ MR (mdl0 v).1 (mdl0 v).2 := mdlV_st (v := v) (st := (strF v).1) (nI 0) 6
    have hX2 : (mdl0 v).2 ≤ 216 := by
      unfold InvX at hX
      omega
    rw [e, g2 ho]
    unfold ckV rkV
    rw [itN_cg (n := 216) fun f hf s => ?_]
    unfold ckG rkG
    by_cases hm : (mdl0 v).1 f < 0
    · rw [if_pos hm, if_pos ((hMR.neg (by omega) f).mp hm)]
    · rw [if_neg hm, if_neg (fun q => hm ((hMR.neg (by omega) f).mpr q))]
      unfold ckF rkF
      have el := hL.2 _ f4 f
      rw [zf_uf (lk_UF hok ho f4 hf hm)] at el
      rw [lsN_eq hok hK f3 f5 hf 0, lsN_eq hok hK f3 f5 hf 1, lsN_eq hok hK f3 f5 hf 2, ec, el]
