/-! P30, PURE: rounds, instances, base facts -/
/-- some fact has the last round -/
def LstJ (X : (Nat → Int32) × Nat) : Prop := X.2 = 0 ∨ ∃ f, f < 216 ∧ X.1 f = nI X.2
theorem last_step {v st : Nat → Nat} {s : Nat} {X : (Nat → Int32) × Nat} (h : LstJ X) : LstJ (stepM v st s X) := by
  by_cases h0 : cntS v st s X = 0
  · rw [stepM_0 h0]
    exact h
  · have hpos : 0 < cntS v st s X := Nat.pos_of_ne_zero h0
    obtain ⟨k, hk, hf⟩ := (cntB_pos (f := newF v st X.1 s) (n := 216)).mp hpos
    refine Or.inr ⟨k, hk, ?_⟩
    show goM (newF v st X.1 s) X.1 (if 0 < cntS v st s X then X.2 + 1 else X.2) 216 k = nI (if 0 < cntS v st s X then X.2 + 1 else X.2)
    unfold goM
    rw [if_pos hk, if_pos hf]
theorem mdl_last (v : Nat → Nat) : LstJ (mdl0 v) := itN_inv (P := LstJ) (N := 6) (fun k _ a h => (itN_inv (P := LstJ) (N := 217) (fun _ _ a h => last_step h) 217 (Nat.le_refl _) h : LstJ (itN (fun _ => stepM v (strF v).1 k) a 217))) 6 (Nat.le_refl _) (a := (baseM v (nI 0), 0)) (Or.inl rfl)
theorem mdl_MR (v : Nat → Nat) : MR (mdl0 v).1 (mdl0 v).2 ∧ (mdl0 v).2 ≤ 216 := by
  have h := mdlV_st (v := v) (st := (strF v).1) (nI 0) 6
  have h1 : InvX (mdl0 v) := h.1
  refine ⟨h.2, ?_⟩
  unfold InvX at h1
  omega
theorem mdl_MJ {v : Nat → Nat} (hok : OkN v) (hs : (strF v).2.2 = true) : MdJ v (strF v).1 6 (mdl0 v) := mdl_J hok (stC_of hok hs) (nI 0) 6 (Nat.le_refl _)
theorem insN_le (S : HoS) (f : Nat) : ∀ n, insN S f n ≤ n
  | 0 => Nat.le_refl _
  | n + 1 => by
    have h := insN_le S f n
    show insN S f n + (if S.2.2.1 n = f then 1 else 0) ≤ n + 1
    split <;> omega
theorem insN_pos {S : HoS} {f j : Nat} (hf : S.2.2.1 j = f) : ∀ n, j < n → 0 < insN S f n
  | 0, h => absurd h (Nat.not_lt_zero j)
  | n + 1, h => by
    show 0 < insN S f n + (if S.2.2.1 n = f then 1 else 0)
    rcases Nat.lt_succ_iff_lt_or_eq.mp h with q | rfl
    · have := insN_pos hf n q
      omega
    · rw [if_pos hf]
      omega
/-- a fact of a later round has an instance -/
theorem ins_some {v : Nat → Nat} (hok : OkN v) (hs : (strF v).2.2 = true) {f k : Nat} (hf : f < 216) (hk : 0 < k) (hkR : k ≤ (mdl0 v).2) (hm : (mdl0 v).1 f = nI k) : 0 < insN (hoV v) f (hoV v).1 := by
  have hR := (mdl_MR v).2
  obtain ⟨r, code, hr, hc, hb, -, e1, hl⟩ := (mdl_MJ hok hs f hf k hkR hm).2 hk
  have hh : holdsR v (bnd code) (mdl0 v).1 r = true := (andN_iff _ _).mpr fun a ha => by
    obtain ⟨l1, l2⟩ := hl a ha
    show (decide (0 ≤ (mdl0 v).1 (fA v (bnd code) r (a + 1))) == decide (v (45 + 18 * r + 2 + 4 * (a + 1) + 3) = 0)) = true
    by_cases h0 : v (45 + 18 * r + 2 + 4 * (a + 1) + 3) = 0
    · obtain ⟨j, hj, ej⟩ := l1 h0
      rw [ej, decide_eq_true h0, decide_eq_true (nI_pos' (show j < 2147483648 by omega))]
      rfl
    · rw [l2 h0, decide_eq_false h0, decide_eq_false (by decide)]
      rfl
  obtain ⟨j, j1, -, j3, -⟩ := hoF_J hok hoS0 hr hc hb hh
  exact insN_pos (j3.trans e1) _ j1
/-- a fact of round 0 costs less than 100 -/
theorem base_cost {v c : Nat → Nat} (hok : OkN v) (hs : (strF v).2.2 = true) (hc : IsLim (fun c => (coP v (hoV v) c).1) (coBase v) c) {f : Nat} (hf : f < 216) (hm : (mdl0 v).1 f = nI 0) : c f ≤ 99 := by
  obtain ⟨j, hj, e⟩ := (mdl_MJ hok hs f hf 0 (Nat.zero_le _) hm).1 rfl
  have h1 := coLim_base hc j hj
  have h2 := (hok.2.2.2.2.2.1 j hj).2.1
  rw [e] at h1
  omega
