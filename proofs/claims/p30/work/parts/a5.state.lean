/-! P30, PURE: the law's own changes of the program; checksums; an empty program -/
/-- what the law's numbers keep -/
def LV (v : Nat → Nat) : Prop := OkN v ∧ v 0 ≤ 3 ∧ VB v ∧ VH v
theorem VF.cg {v v' : Nat → Nat} (h0 : v' 0 = v 0) (hp : ∀ q, q < 6 → v' (3 + q) = v (3 + q)) {f : Nat} (h : VF v f) : VF v' f := by
  obtain ⟨p, a, b, h1, h2, h3, h4, h5⟩ := h
  exact ⟨p, a, b, h1, by rw [h0]; exact h2, by rw [h0]; exact h3, fun e => h4 ((hp p h1) ▸ e), h5⟩
theorem VH.row {v v' : Nat → Nat} (hok : OkN v) (h0 : v' 0 = v 0) (hp : ∀ q, q < 6 → v' (3 + q) = v (3 + q)) {r : Nat} (hr : r < v 2) (hrow : ∀ j, 45 + 18 * r ≤ j → j < 45 + 18 * r + 18 → v' j = v j) (h : (v (45 + 18 * r + 2 + 4 * 0 + 1) < 6 → v (45 + 18 * r + 2 + 4 * 0 + 1) < v 0) ∧ (v (45 + 18 * r + 2 + 4 * 0 + 2) < 6 → v (45 + 18 * r + 2 + 4 * 0 + 2) < v 0) ∧ (v (3 + v (45 + 18 * r + 2 + 4 * 0)) = 1 → v (45 + 18 * r + 2 + 4 * 0 + 2) = 0)) : (v' (45 + 18 * r + 2 + 4 * 0 + 1) < 6 → v' (45 + 18 * r + 2 + 4 * 0 + 1) < v' 0) ∧ (v' (45 + 18 * r + 2 + 4 * 0 + 2) < 6 → v' (45 + 18 * r + 2 + 4 * 0 + 2) < v' 0) ∧ (v' (3 + v' (45 + 18 * r + 2 + 4 * 0)) = 1 → v' (45 + 18 * r + 2 + 4 * 0 + 2) = 0) := by
  have hq := ((hok.2.2.2.2.2.2 r hr).2.2.2.2 0 (Nat.zero_le _)).1
  rw [hrow _ (by omega) (by omega), hrow (45 + 18 * r + 2 + 4 * 0 + 2) (by omega) (by omega), hrow (45 + 18 * r + 2 + 4 * 0) (by omega) (by omega), h0, hp _ hq]
  exact h
theorem isF_VF {v : Nat → Nat} (hok : OkN v) {p a b : Int32} (h : isF v p a b = true) : VF v (fctN p a b) := by
  obtain ⟨i, j, k, hi, hj, hk, rfl, rfl, rfl, e, -⟩ := isF_nat hok h
  refine ⟨i, j, k, hi, hj, hk, fun q => ?_, e⟩
  have hj6 := hok.2.1
  unfold isF at h
  rw [nI_clamp (show i < 2 ^ 31 by omega), q] at h
  simp only [Bool.and_eq_true, Bool.or_eq_true, decide_eq_true_eq, beq_iff_eq] at h
  rcases h.2.2.2 with w | w
  · omega
  · exact (nI_eq (show k < 2 ^ 31 by omega) (show 0 < 2 ^ 31 by omega)).mp w
theorem LV.addFact {v : Nat → Nat} (h : LV v) {f c s : Nat} (hf : VF v f) (hc : c ≤ 99) (hs1 : 1 ≤ s) (hs : s ≤ 16) (hn : v 1 < 12) : LV (addFactV v f c s) := by
  obtain ⟨hok, h3, hB, hH⟩ := h
  have h6 := hok.2.1
  have hf216 : f < 216 := by
    obtain ⟨p, a, b, h1, h2, h3, h4, h5⟩ := hf
    omega
  have e0 : addFactV v f c s 0 = v 0 := addFactV_o (by omega) (by omega) (by omega) (by omega)
  have e1 : addFactV v f c s 1 = v 1 + 1 := if_pos rfl
  have e2 : addFactV v f c s 2 = v 2 := addFactV_o (by omega) (by omega) (by omega) (by omega)
  have ep : ∀ q, q < 6 → addFactV v f c s (3 + q) = v (3 + q) := fun q hq => addFactV_o (by omega) (by omega) (by omega) (by omega)
  refine ⟨ok_addFact hok hf216 hc hs1 hs (by omega), by rw [e0]; exact h3, fun k hk => ?_, fun r hr => ?_⟩
  · rw [e1] at hk
    by_cases q : k = v 1
    · subst q
      rw [show addFactV v f c s (9 + 3 * v 1) = f by unfold addFactV; rw [if_neg (by omega), if_pos rfl]]
      exact hf.cg e0 ep
    · rw [addFactV_o (v := v) (f := f) (c := c) (s := s) (j := 9 + 3 * k) (by omega) (by omega) (by omega) (by omega)]
      exact (hB k (by omega)).cg e0 ep
  · rw [e2] at hr
    exact VH.row hok e0 ep hr (fun j q1 q2 => addFactV_o (by omega) (by omega) (by omega) (by omega)) (hH r hr)
theorem shV_no (v : Nat → Nat) (k lo : Nat) : shV v k lo lo = v := by
  funext j
  unfold shV
  rw [if_neg (by omega)]
theorem LV.dropFact {v : Nat → Nat} (h : LV v) (h1 : 0 < v 1) : LV (updN v 1 (v 1 - 1)) := by
  obtain ⟨hok, h3, hB, hH⟩ := h
  have hk := ok_removeFact hok (f := v 1 - 1) (by omega)
  rw [shV_no] at hk
  have e0 : updN v 1 (v 1 - 1) 0 = v 0 := updN_ne _ _ (by omega)
  have ep : ∀ q, q < 6 → updN v 1 (v 1 - 1) (3 + q) = v (3 + q) := fun q hq => updN_ne _ _ (by omega)
  refine ⟨hk, by rw [e0]; exact h3, fun k hk => ?_, fun r hr => ?_⟩
  · rw [updN_same] at hk
    rw [updN_ne _ _ (show 9 + 3 * k ≠ 1 by omega)]
    exact (hB k (by omega)).cg e0 ep
  · rw [updN_ne _ _ (show (2 : Nat) ≠ 1 by omega)] at hr
    exact VH.row hok e0 ep hr (fun j q1 q2 => updN_ne _ _ (by omega)) (hH r hr)
theorem LV.dropRule {v : Nat → Nat} (h : LV v) (h1 : 0 < v 2) : LV (updN v 2 (v 2 - 1)) := by
  obtain ⟨hok, h3, hB, hH⟩ := h
  have hk := ok_removeRule hok (f := v 2 - 1) (by omega)
  rw [shV_no] at hk
  have e0 : updN v 2 (v 2 - 1) 0 = v 0 := updN_ne _ _ (by omega)
  have ep : ∀ q, q < 6 → updN v 2 (v 2 - 1) (3 + q) = v (3 + q) := fun q hq => updN_ne _ _ (by omega)
  refine ⟨hk, by rw [e0]; exact h3, fun k hk => ?_, fun r hr => ?_⟩
  · rw [updN_ne _ _ (show (1 : Nat) ≠ 2 by omega)] at hk
    rw [updN_ne _ _ (show 9 + 3 * k ≠ 2 by omega)]
    exact (hB k hk).cg e0 ep
  · rw [updN_same] at hr
    exact VH.row hok e0 ep (show r < v 2 by omega) (fun j q1 q2 => updN_ne _ _ (by omega)) (hH r (by omega))
theorem add_drop (v : Nat → Nat) (f c s : Nat) : addFactV (updN (addFactV v f c s) 1 (addFactV v f c s 1 - 1)) f c s = addFactV v f c s := by
  have e1 : addFactV v f c s 1 - 1 = v 1 := by
    rw [show addFactV v f c s 1 = v 1 + 1 from if_pos rfl]
    omega
  rw [e1]
  funext j
  show (if j = 1 then updN (addFactV v f c s) 1 (v 1) 1 + 1 else if j = 9 + 3 * updN (addFactV v f c s) 1 (v 1) 1 then f else if j = 9 + 3 * updN (addFactV v f c s) 1 (v 1) 1 + 1 then c else if j = 9 + 3 * updN (addFactV v f c s) 1 (v 1) 1 + 2 then s else updN (addFactV v f c s) 1 (v 1) j) = if j = 1 then v 1 + 1 else if j = 9 + 3 * v 1 then f else if j = 9 + 3 * v 1 + 1 then c else if j = 9 + 3 * v 1 + 2 then s else v j
  rw [updN_same]
  by_cases h1 : j = 1
  · rw [if_pos h1, if_pos h1]
  · rw [if_neg h1, if_neg h1]
    by_cases h2 : j = 9 + 3 * v 1
    · rw [if_pos h2, if_pos h2]
    · rw [if_neg h2, if_neg h2]
      by_cases h3 : j = 9 + 3 * v 1 + 1
      · rw [if_pos h3, if_pos h3]
      · rw [if_neg h3, if_neg h3]
        by_cases h4 : j = 9 + 3 * v 1 + 2
        · rw [if_pos h4, if_pos h4]
        · rw [if_neg h4, if_neg h4, updN_ne _ _ h1]
          exact addFactV_o h1 h2 h3 h4
/-- one program, one checksum -/
theorem ck_uniq {v : Nat → Nat} (hok : OkN v) {r r' : Option Value} (h : CkA v r) (h' : CkA v r') : ∃ y, r = some (.long y) ∧ r' = some (.long y) := by
  cases ho : (strF v).2.2
  · exact ⟨_, h.1 ho, h'.1 ho⟩
  · obtain ⟨c, kr, z, u, l, hK, hL, e⟩ := h.2 ho
    obtain ⟨c', kr', z', u', l', hK', hL', e'⟩ := h'.2 ho
    refine ⟨_, e, ?_⟩
    rw [e']
    obtain ⟨q, hq⟩ := QOk.ex hok
    obtain ⟨F, hF⟩ := lkLim hok (hoV_ok hok)
    have hMR := mdl_MR v
    unfold ckV
    rw [itN_cg (n := 216) fun f hf s => ?_]
    unfold ckG
    by_cases hm : (mdl0 v).1 f = -1
    · rw [if_pos hm, if_pos hm]
    · rw [if_neg hm, if_neg hm]
      unfold ckF
      have el := hL.2 _ hF f
      have el' := hL'.2 _ hF f
      rw [hq.le hok hK hf 0, hq.le hok hK hf 1, hq.le hok hK hf 2, hq.le hok hK' hf 0, hq.le hok hK' hf 1, hq.le hok hK' hf 2, hq.co hK, hq.co hK', el, el']
theorem str_no {v : Nat → Nat} (hok : OkN v) (h2 : v 2 = 0) : (strF v).2.2 = true := by
  have hσ : StC v (fun _ => 0) := fun r hr => by
    rw [h2] at hr
    exact absurd hr (Nat.not_lt_zero r)
  rw [(st_eq hok).1, grF_sol hok hσ]
  rfl
theorem cnt_no {m : Nat → Int32} (h : ∀ f, f < 216 → m f < 0) : ∀ n, n ≤ 216 → cntM m 0 n = 0
  | 0, _ => rfl
  | n + 1, hn => by
    show cntM m 0 n + (if m (0 + n) < 0 then 0 else 1) = 0
    rw [cnt_no h n (by omega), if_pos (h (0 + n) (by omega))]
theorem mdl_no {v : Nat → Nat} (hok : OkN v) (h1 : v 1 = 0) (h2 : v 2 = 0) : cntM (mdl0 v).1 0 216 = 0 := by
  refine cnt_no (fun f hf => ?_) 216 (Nat.le_refl _)
  rcases (mdl_MR v).1 f with q | ⟨k, hk, q⟩
  · rw [q]
    decide
  · exfalso
    obtain ⟨j1, j2⟩ := mdl_MJ hok (str_no hok h2) f hf k hk q
    rcases Nat.eq_zero_or_pos k with hk0 | hk0
    · obtain ⟨j, hj, -⟩ := j1 hk0
      omega
    · obtain ⟨r, code, hr, -⟩ := j2 hk0
      omega
