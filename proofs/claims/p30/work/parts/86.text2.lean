/-! BOTH SIDES' READING OF A RULE -/
def EAt (i : Nat) (a : PS → Bool × PS) : Prop := ∀ (s : PS) (j : Nat), j ≠ 4 * i → j ≠ 4 * i + 1 → j ≠ 4 * i + 2 → (a s).2.2 j = s.2 j
theorem EAt_take (t : Nat → Nat) (tl c i : Nat) : EAt i (rdTake t tl c) := fun _ _ _ _ _ => rfl
theorem EAt_term (v t : Nat → Nat) (tl i k : Nat) (hk : k = 4 * i + 1 ∨ k = 4 * i + 2) : EAt i (rdTerm v t tl k) := fun s j _ h1 h2 => by
  have h3 : ¬ j = k := by omega
  show upd s.2 k _ j = s.2 j
  simp only [upd, h3, if_false]
theorem EAt_and {i : Nat} {a b : PS → Bool × PS} (ha : EAt i a) (hb : EAt i b) : EAt i (andP a b) := fun s j h0 h1 h2 => by
  unfold andP
  split
  · exact (hb _ j h0 h1 h2).trans (ha s j h0 h1 h2)
  · exact ha s j h0 h1 h2
theorem EAt_atom (v t : Nat → Nat) (tl i : Nat) : EAt i (rdAtom v t tl i) := fun s j h0 h1 h2 => by
  unfold rdAtom
  split
  · have hin : EAt i (andP (rdTake t tl 40) (andP (rdTerm v t tl (4 * i + 1)) (if v (3 + (hereV t tl s.1 - nI 112).toNatClampNeg) = 2 then andP (rdTake t tl 44) (andP (rdTerm v t tl (4 * i + 2)) (rdTake t tl 41)) else rdTake t tl 41))) := by
      refine EAt_and (EAt_take t tl 40 i) (EAt_and (EAt_term v t tl i _ (Or.inl rfl)) ?_)
      split
      · exact EAt_and (EAt_take t tl 44 i) (EAt_and (EAt_term v t tl i _ (Or.inr rfl)) (EAt_take t tl 41 i))
      · exact EAt_take t tl 41 i
    refine (hin _ j h0 h1 h2).trans ?_
    show upd (upd s.2 (4 * i) _) (4 * i + 2) _ j = s.2 j
    have n0 : ¬ j = 4 * i := h0
    have n2 : ¬ j = 4 * i + 2 := h2
    simp only [upd, n0, n2, if_false]
  · rfl
/-- the atoms 0 .. k are read, on both sides -/
def LT (t : Nat → Nat) (k : Nat) (s : PS) (s' : KS) : Prop := s.1 = s'.1 ∧ (∀ a, a ≤ k → TW a s.2 s'.2) ∧ (∀ a, 1 ≤ a → a ≤ k → s.2 (4 * a + 3) = bI (s'.2.ng a)) ∧ s.2 3 = nI 0 ∧ (∀ j, j < s'.1 → 88 ≤ t j → t j ≤ 90 → ∃ a, a ≤ k ∧ (s'.2.fi a = t j - 82 ∨ s'.2.se a = t j - 82)) ∧ ∀ x, x < 3 → ∀ a, a ≤ k → (s'.2.fi a = 6 + x ∨ s'.2.se a = 6 + x) → ∃ j, j < s'.1 ∧ t j = 88 + x
theorem LT_take {t : Nat → Nat} {tl c k : Nat} (ht7 : ∀ i, i < tl → t i < 128) (hc : c < 88) {s : PS} {s' : KS} (h : LT t k s s') : LT t k (rdTake t tl c s).2 (kdTake t tl c s').2 := by
  obtain ⟨h1, h2, h3, h4, h5, h6⟩ := h
  refine ⟨(RelP_take t tl c s s' h1).2, h2, h3, h4, fun j hj hv1 hv2 => ?_, fun x hx a ha w => ?_⟩
  · have hj : j < s'.1 + oneB (tkB t tl s'.1 c) := hj
    by_cases e : j < s'.1
    · exact h5 j e hv1 hv2
    · cases q : tkB t tl s'.1 c
      · rw [q] at hj
        have hj : j < s'.1 + 0 := hj
        omega
      · rw [q] at hj
        have hj : j < s'.1 + 1 := hj
        obtain ⟨-, e2⟩ := take_at ht7 (by omega) q
        have : j = s'.1 := by omega
        rw [this, e2] at hv1
        omega
  · obtain ⟨j, hj, e⟩ := h6 x hx a ha w
    exact ⟨j, by show j < s'.1 + oneB (tkB t tl s'.1 c); omega, e⟩
theorem LT_lit {v t : Nat → Nat} {tl k : Nat} (h6 : v 0 ≤ 6) (ht7 : ∀ i, i < tl → t i < 128) {s : PS} {s' : KS} (h : LT t k s s') (hL : (kdLit v t tl (k + 1) s').1 = true) : LT t (k + 1) (rdLit v t tl (k + 1) s).2 (kdLit v t tl (k + 1) s').2 := by
  have ht := LT_take (c := 33) ht7 (by omega) h
  have hfl : (rdTake t tl 33 s).1 = (kdTake t tl 33 s').1 := (RelP_take t tl 33 s s' h.1).1
  obtain ⟨t1, t2, t3, t4, t5, t6⟩ := ht
  have e0 : ((rdTake t tl 33 s).2.1, upd (rdTake t tl 33 s).2.2 (4 * (k + 1) + 3) (bI (rdTake t tl 33 s).1)).1 = ((kdTake t tl 33 s').2.1, ((s'.2.pr, s'.2.fi, s'.2.se, updN s'.2.ng (k + 1) (kdTake t tl 33 s').1, s'.2.li, s'.2.pc) : RuS)).1 := t1
  obtain ⟨w1, w2, w3⟩ := atom_W (i := k + 1) h6 ht7 e0 hL
  have hp := (RelP_atom v t tl (k + 1) _ _ e0).2
  have hE := EAt_atom v t tl (k + 1) ((rdTake t tl 33 s).2.1, upd (rdTake t tl 33 s).2.2 (4 * (k + 1) + 3) (bI (rdTake t tl 33 s).1))
  obtain ⟨r1, r2, -⟩ := kdAtom_E v t tl (k + 1) ((kdTake t tl 33 s').2.1, ((s'.2.pr, s'.2.fi, s'.2.se, updN s'.2.ng (k + 1) (kdTake t tl 33 s').1, s'.2.li, s'.2.pc) : RuS))
  have eR : rdAtom v t tl (k + 1) ((rdTake t tl 33 s).2.1, upd (rdTake t tl 33 s).2.2 (4 * (k + 1) + 3) (bI (rdTake t tl 33 s).1)) = rdLit v t tl (k + 1) s := rfl
  have eK : kdAtom v t tl (k + 1) ((kdTake t tl 33 s').2.1, ((s'.2.pr, s'.2.fi, s'.2.se, updN s'.2.ng (k + 1) (kdTake t tl 33 s').1, s'.2.li, s'.2.pc) : RuS)) = kdLit v t tl (k + 1) s' := rfl
  rw [eR] at hp hE w1
  rw [eK] at hp r1 r2 w1 w2 w3
  have hE : ∀ j, j ≠ 4 * (k + 1) → j ≠ 4 * (k + 1) + 1 → j ≠ 4 * (k + 1) + 2 → (rdLit v t tl (k + 1) s).2.2 j = upd (rdTake t tl 33 s).2.2 (4 * (k + 1) + 3) (bI (rdTake t tl 33 s).1) j := hE
  have r1 : ∀ a, a ≠ k + 1 → (kdLit v t tl (k + 1) s').2.2.pr a = s'.2.pr a ∧ (kdLit v t tl (k + 1) s').2.2.fi a = s'.2.fi a ∧ (kdLit v t tl (k + 1) s').2.2.se a = s'.2.se a := r1
  have r2 : (kdLit v t tl (k + 1) s').2.2.ng = updN s'.2.ng (k + 1) (kdTake t tl 33 s').1 := r2
  have hpos : (kdTake t tl 33 s').2.1 ≤ (kdLit v t tl (k + 1) s').2.1 := by
    rcases Nat.lt_or_ge (kdLit v t tl (k + 1) s').2.1 (kdTake t tl 33 s').2.1 with q | q
    · -- an atom's reading doesn't go back
      have mono : ∀ s0 : KS, s0.1 ≤ (kdAtom v t tl (k + 1) s0).2.1 := by
        have mT : ∀ (c : Nat) (s0 : KS), s0.1 ≤ (kdTake t tl c s0).2.1 := fun c s0 => Nat.le_add_right _ _
        have mA : ∀ (a b : KS → Bool × KS), (∀ s0, s0.1 ≤ (a s0).2.1) → (∀ s0, s0.1 ≤ (b s0).2.1) → ∀ s0, s0.1 ≤ (andK a b s0).2.1 := fun a b ha hb s0 => by
          unfold andK
          split
          · exact Nat.le_trans (ha s0) (hb _)
          · exact ha s0
        have mF : ∀ (q : Nat) (s0 : KS), s0.1 ≤ (kdFirst v t tl (k + 1) q s0).2.1 := fun q s0 => by
          unfold kdFirst
          split
          · exact Nat.le_succ _
          · exact Nat.le_refl _
        have mS : ∀ (s0 : KS), s0.1 ≤ (kdSecond v t tl (k + 1) s0).2.1 := fun s0 => by
          unfold kdSecond
          split
          · exact Nat.le_succ _
          · exact Nat.le_refl _
        intro s0
        unfold kdAtom
        split
        · refine Nat.le_trans (Nat.le_succ s0.1) (mA _ _ (mT 40) (mA _ _ (mF _) ?_) (s0.1 + 1, s0.2))
          split
          · exact mA _ _ (mT 44) (mA _ _ mS (mT 41))
          · exact mT 41
        · exact Nat.le_refl _
      have := mono ((kdTake t tl 33 s').2.1, ((s'.2.pr, s'.2.fi, s'.2.se, updN s'.2.ng (k + 1) (kdTake t tl 33 s').1, s'.2.li, s'.2.pc) : RuS))
      rw [eK] at this
      exact this
    · exact q
  generalize (rdLit v t tl (k + 1) s).2 = S at hp hE w1 ⊢
  generalize (kdLit v t tl (k + 1) s').2 = S' at hp r1 r2 w1 w2 w3 hpos ⊢
  refine ⟨hp, fun a ha => ?_, fun a ha1 ha => ?_, ?_, fun j hj hv1 hv2 => ?_, fun x hx a ha w => ?_⟩
  · by_cases e : a = k + 1
    · subst e; exact w1
    · obtain ⟨g1, g2, g3⟩ := r1 a e
      obtain ⟨f1, f2, f3⟩ := t2 a (by omega)
      refine ⟨?_, ?_, ?_⟩
      · have n : ¬ 4 * a = 4 * (k + 1) + 3 := by omega
        rw [hE _ (by omega) (by omega) (by omega), g1, ← show (rdTake t tl 33 s).2.2 (4 * a) = nI (s'.2.pr a) from f1]
        simp only [upd, n, if_false]
      · have n : ¬ 4 * a + 1 = 4 * (k + 1) + 3 := by omega
        rw [hE _ (by omega) (by omega) (by omega), g2, ← show (rdTake t tl 33 s).2.2 (4 * a + 1) = nI (s'.2.fi a) from f2]
        simp only [upd, n, if_false]
      · have n : ¬ 4 * a + 2 = 4 * (k + 1) + 3 := by omega
        rw [hE _ (by omega) (by omega) (by omega), g3, ← show (rdTake t tl 33 s).2.2 (4 * a + 2) = nI (s'.2.se a) from f3]
        simp only [upd, n, if_false]
  · rw [r2, hE _ (by omega) (by omega) (by omega)]
    by_cases e : a = k + 1
    · subst e
      rw [updN_same, ← hfl]
      simp [upd]
    · rw [updN_ne _ _ e]
      have n : ¬ 4 * a + 3 = 4 * (k + 1) + 3 := by omega
      simp only [upd, n, if_false]
      exact t3 a ha1 (by omega)
  · rw [hE _ (by omega) (by omega) (by omega)]
    have n : ¬ 3 = 4 * (k + 1) + 3 := by omega
    simp only [upd, n, if_false]
    exact t4
  · by_cases e : j < (kdTake t tl 33 s').2.1
    · obtain ⟨a, ha, w⟩ := t5 j e hv1 hv2
      obtain ⟨g1, g2, g3⟩ := r1 a (by omega)
      refine ⟨a, by omega, ?_⟩
      rw [g2, g3]
      exact w
    · exact ⟨k + 1, Nat.le_refl _, w2 j (by show (kdTake t tl 33 s').2.1 ≤ j; omega) hj hv1 hv2⟩
  · by_cases e : a = k + 1
    · subst e
      obtain ⟨j, j1, j2, j3⟩ := w3 x hx w
      exact ⟨j, j2, j3⟩
    · obtain ⟨g1, g2, g3⟩ := r1 a e
      rw [g2, g3] at w
      obtain ⟨j, j1, j2⟩ := t6 x hx a (by omega) w
      exact ⟨j, by omega, j2⟩
theorem lits_eq {v t : Nat → Nat} {tl : Nat} (h6 : v 0 ≤ 6) (ht7 : ∀ i, i < tl → t i < 128) : ∀ m k (s : PS) (s' : KS), k + m = 3 → (0 < k → s'.2.li = k) → LT t k s s' → (rdLits v t tl m k s).1 = (kdLits v t tl m k s').1 ∧ (rdLits v t tl m k s).2.2.1 = (kdLits v t tl m k s').2.1 ∧ ((kdLits v t tl m k s').1 = true → (rdLits v t tl m k s).2.1 = (kdLits v t tl m k s').2.2.li ∧ LT t (kdLits v t tl m k s').2.2.li (rdLits v t tl m k s).2.2 (kdLits v t tl m k s').2)
  | 0, k, s, s', hk, hli, h => by
    have e : s'.2.li = k := hli (by omega)
    refine ⟨rfl, h.1, fun _ => ⟨e.symm, ?_⟩⟩
    show LT t s'.2.li s s'
    rw [e]
    exact h
  | m + 1, k, s, s', hk, hli, h => by
    have e0 : ((rdTake t tl 33 s).2.1, upd (rdTake t tl 33 s).2.2 (4 * (k + 1) + 3) (bI (rdTake t tl 33 s).1)).1 = ((kdTake t tl 33 s').2.1, ((s'.2.pr, s'.2.fi, s'.2.se, updN s'.2.ng (k + 1) (kdTake t tl 33 s').1, s'.2.li, s'.2.pc) : RuS)).1 := (RelP_take t tl 33 s s' h.1).2
    have hrel : (rdLit v t tl (k + 1) s).1 = (kdLit v t tl (k + 1) s').1 ∧ (rdLit v t tl (k + 1) s).2.1 = (kdLit v t tl (k + 1) s').2.1 := RelP_atom v t tl (k + 1) _ _ e0
    have hlt := LT_lit h6 ht7 h
    unfold rdLits kdLits
    rw [hrel.1]
    cases hL : (kdLit v t tl (k + 1) s').1
    · rw [if_neg (by decide), if_neg (by decide)]
      exact ⟨rfl, hrel.2, fun q => (by cases q)⟩
    · have hlt := hlt hL
      rw [if_pos rfl, if_pos rfl]
      generalize (rdLit v t tl (k + 1) s).2 = s1 at hlt ⊢
      generalize (kdLit v t tl (k + 1) s').2 = s1' at hlt ⊢
      have hlt2 : LT t (k + 1) s1 (kdSet (k + 1) s1') := hlt
      have hl2 : (kdSet (k + 1) s1').2.li = k + 1 := rfl
      generalize kdSet (k + 1) s1' = s2' at hlt2 hl2 ⊢
      by_cases h3 : k + 1 < 3
      · rw [if_pos h3, if_pos h3]
        have hr := RelP_take t tl 44 s1 s2' hlt2.1
        have hlt3 := LT_take (c := 44) ht7 (by omega) hlt2
        have hl3 : (kdTake t tl 44 s2').2.2.li = k + 1 := hl2
        rw [hr.1]
        cases h44 : (kdTake t tl 44 s2').1
        · rw [if_neg (by decide), if_neg (by decide)]
          refine ⟨rfl, hr.2, fun _ => ⟨hl3.symm, ?_⟩⟩
          show LT t (kdTake t tl 44 s2').2.2.li _ _
          rw [hl3]
          exact hlt3
        · rw [if_pos rfl, if_pos rfl]
          exact lits_eq h6 ht7 m (k + 1) _ _ (by omega) (fun _ => hl3) hlt3
      · rw [if_neg h3, if_neg h3]
        refine ⟨rfl, hlt2.1, fun _ => ⟨hl2.symm, ?_⟩⟩
        show LT t s2'.2.li s1 s2'
        rw [hl2]
        exact hlt2
/-- both sides read a text alike -/
theorem form_eq {v t : Nat → Nat} {tl : Nat} (h6 : v 0 ≤ 6) (ht7 : ∀ i, i < tl → t i < 128) (td : Nat → Int32) (R : RuS) : (rdForm v t tl td).1 = (kdRule v t tl R).1 ∧ (rdForm v t tl td).2.2.1 = (kdRule v t tl R).2.1 ∧ ((kdRule v t tl R).1 = true → (rdForm v t tl td).2.1 = (kdRule v t tl R).2.2.li ∧ LT t (kdRule v t tl R).2.2.li (rdForm v t tl td).2.2 (kdRule v t tl R).2 ∧ (kdRule v t tl R).2.1 = tl) := by
  have hrel := RelP_atom v t tl 0 (0, upd td 3 (nI 0)) (0, R) rfl
  unfold rdForm kdRule
  rw [hrel.1]
  cases hA : (kdAtom v t tl 0 (0, R)).1
  · rw [if_neg (by decide), if_neg (by decide)]
    exact ⟨rfl, hrel.2, fun q => (by cases q)⟩
  · rw [if_pos rfl, if_pos rfl]
    obtain ⟨w1, w2, w3⟩ := atom_W (s := (0, upd td 3 (nI 0))) (i := 0) h6 ht7 rfl hA
    have hE := EAt_atom v t tl 0 (0, upd td 3 (nI 0)) 3 (by omega) (by omega) (by omega)
    have hlt : LT t 0 (rdAtom v t tl 0 (0, upd td 3 (nI 0))).2 (kdAtom v t tl 0 (0, R)).2 := by
      refine ⟨hrel.2, fun a ha => ?_, fun a h1 h2 => absurd h1 (by omega), ?_, fun j hj hv1 hv2 => ⟨0, Nat.le_refl _, w2 j (Nat.zero_le _) hj hv1 hv2⟩, fun x hx a ha w => ?_⟩
      · have : a = 0 := by omega
        subst this
        exact w1
      · rw [hE]
        simp [upd]
      · have : a = 0 := by omega
        subst this
        obtain ⟨j, -, j2, j3⟩ := w3 x hx w
        exact ⟨j, j2, j3⟩
    generalize (rdAtom v t tl 0 (0, upd td 3 (nI 0))).2 = s1 at hlt ⊢
    generalize (kdAtom v t tl 0 (0, R)).2 = s1' at hlt ⊢
    have hr := RelP_take t tl 60 s1 s1' hlt.1
    have hlt2 := LT_take (c := 60) ht7 (by omega) hlt
    rw [hr.1]
    cases h60 : (kdTake t tl 60 s1').1
    · rw [if_neg (by decide), if_neg (by decide)]
      exact ⟨rfl, hr.2, fun q => (by cases q)⟩
    · rw [if_pos rfl, if_pos rfl]
      obtain ⟨g1, g2, g3⟩ := lits_eq h6 ht7 3 0 _ _ rfl (fun q => absurd q (by omega)) hlt2
      show ((rdLits v t tl 3 0 (rdTake t tl 60 s1).2).1 && decide ((rdLits v t tl 3 0 (rdTake t tl 60 s1).2).2.2.1 = tl)) = ((kdLits v t tl 3 0 (kdTake t tl 60 s1').2).1 && decide ((kdLits v t tl 3 0 (kdTake t tl 60 s1').2).2.1 = tl)) ∧ (rdLits v t tl 3 0 (rdTake t tl 60 s1).2).2.2.1 = (kdLits v t tl 3 0 (kdTake t tl 60 s1').2).2.1 ∧ (((kdLits v t tl 3 0 (kdTake t tl 60 s1').2).1 && decide ((kdLits v t tl 3 0 (kdTake t tl 60 s1').2).2.1 = tl)) = true → (rdLits v t tl 3 0 (rdTake t tl 60 s1).2).2.1 = (kdLits v t tl 3 0 (kdTake t tl 60 s1').2).2.2.li ∧ LT t (kdLits v t tl 3 0 (kdTake t tl 60 s1').2).2.2.li (rdLits v t tl 3 0 (rdTake t tl 60 s1).2).2.2 (kdLits v t tl 3 0 (kdTake t tl 60 s1').2).2 ∧ (kdLits v t tl 3 0 (kdTake t tl 60 s1').2).2.1 = tl)
      rw [g1, g2]
      refine ⟨rfl, rfl, fun q => ?_⟩
      rw [Bool.and_eq_true] at q
      obtain ⟨k1, k2⟩ := g3 q.1
      exact ⟨k1, k2, of_decide_eq_true q.2⟩
