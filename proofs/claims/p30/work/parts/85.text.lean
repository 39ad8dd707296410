/-! BOTH SIDES' READING OF A TEXT -/
def RelP (a : PS → Bool × PS) (b : KS → Bool × KS) : Prop := ∀ (s : PS) (s' : KS), s.1 = s'.1 → (a s).1 = (b s').1 ∧ (a s).2.1 = (b s').2.1
theorem RelP_take (t : Nat → Nat) (tl c : Nat) : RelP (rdTake t tl c) (kdTake t tl c) := fun s s' e => by
  unfold rdTake kdTake
  rw [e]
  exact ⟨rfl, rfl⟩
theorem RelP_first (v t : Nat → Nat) (tl i k q : Nat) : RelP (rdTerm v t tl i) (kdFirst v t tl k q) := fun s s' e => by
  unfold rdTerm kdFirst
  rw [e]
  cases h : tmB v (hereV t tl s'.1)
  · exact ⟨rfl, rfl⟩
  · exact ⟨rfl, rfl⟩
theorem RelP_second (v t : Nat → Nat) (tl i k : Nat) : RelP (rdTerm v t tl i) (kdSecond v t tl k) := fun s s' e => by
  unfold rdTerm kdSecond
  rw [e]
  cases h : tmB v (hereV t tl s'.1)
  · exact ⟨rfl, rfl⟩
  · exact ⟨rfl, rfl⟩
theorem RelP_and {a1 a2 : PS → Bool × PS} {b1 b2 : KS → Bool × KS} (h1 : RelP a1 b1) (h2 : RelP a2 b2) : RelP (andP a1 a2) (andK b1 b2) := fun s s' e => by
  obtain ⟨g1, g2⟩ := h1 s s' e
  unfold andP andK
  rw [g1]
  split
  · exact h2 _ _ g2
  · exact ⟨rfl, g2⟩
theorem RelP_atom (v t : Nat → Nat) (tl i : Nat) : RelP (rdAtom v t tl i) (kdAtom v t tl i) := fun s s' e => by
  unfold rdAtom kdAtom
  rw [e]
  split
  · refine RelP_and (RelP_take t tl 40) (RelP_and (RelP_first v t tl _ i _) ?_) (s'.1 + 1, upd (upd s.2 (4 * i) (hereV t tl s'.1 - nI 112)) (4 * i + 2) (nI 0)) (s'.1 + 1, s'.2) rfl
    split
    · exact RelP_and (RelP_take t tl 44) (RelP_and (RelP_second v t tl _ i) (RelP_take t tl 41))
    · exact RelP_take t tl 41
  · exact ⟨rfl, e⟩
/-- what was told of the atom i is what the class's rule has -/
def TW (i : Nat) (td : Nat → Int32) (R : RuS) : Prop := td (4 * i) = nI (R.pr i) ∧ td (4 * i + 1) = nI (R.fi i) ∧ td (4 * i + 2) = nI (R.se i)
/-- the letters behind the first place and up to the second are terms of the atom, or no variables -/
def LW (t : Nat → Nat) (lo hi i : Nat) (R : RuS) : Prop := (∀ j, lo ≤ j → j < hi → 88 ≤ t j → t j ≤ 90 → R.fi i = t j - 82 ∨ R.se i = t j - 82) ∧ ∀ x, x < 3 → (R.fi i = 6 + x ∨ R.se i = 6 + x) → ∃ j, lo ≤ j ∧ j < hi ∧ t j = 88 + x
theorem here_nI {t : Nat → Nat} {tl pl c : Nat} (ht7 : ∀ i, i < tl → t i < 128) (hc : c < 128) (h : hereV t tl pl = nI c) : pl < tl ∧ t pl = c := by
  have hl : pl < tl := hereV_lt (fun e => by rw [e] at h; exact nI_nm1 (by omega) h.symm)
  have h7 := ht7 pl hl
  have : nI (t pl) = nI c := by rw [← h]; exact (if_pos hl).symm
  exact ⟨hl, (nI_eq (by omega) (by omega)).mp this⟩
theorem take_at {t : Nat → Nat} {tl pl c : Nat} (ht7 : ∀ i, i < tl → t i < 128) (hc : c < 128) (h : tkB t tl pl c = true) : pl < tl ∧ t pl = c := here_nI ht7 hc (of_decide_eq_true h)
theorem term_at {v t : Nat → Nat} {tl pl : Nat} (h6 : v 0 ≤ 6) (ht7 : ∀ i, i < tl → t i < 128) (h : tmB v (hereV t tl pl) = true) : (48 ≤ t pl ∧ t pl < 54 ∧ tmV (hereV t tl pl) = nI (t pl - 48)) ∨ (88 ≤ t pl ∧ t pl ≤ 90 ∧ tmV (hereV t tl pl) = nI (t pl - 82)) := by
  rcases tmB_cases h6 h with ⟨j, hj, e1, e2⟩ | ⟨j, hj, e1, e2⟩
  · obtain ⟨-, e⟩ := here_nI ht7 (by omega) e1
    exact Or.inl ⟨by omega, by omega, by rw [e2, e]; congr 1; omega⟩
  · obtain ⟨-, e⟩ := here_nI ht7 (by omega) e1
    exact Or.inr ⟨by omega, by omega, by rw [e2, e]; congr 1; omega⟩
/-- an atom that is well formed on both sides -/
theorem atom_W {v t : Nat → Nat} {tl i : Nat} (h6 : v 0 ≤ 6) (ht7 : ∀ i, i < tl → t i < 128) {s : PS} {s' : KS} (e : s.1 = s'.1) (h : (kdAtom v t tl i s').1 = true) : TW i (rdAtom v t tl i s).2.2 (kdAtom v t tl i s').2.2 ∧ LW t s'.1 (kdAtom v t tl i s').2.1 i (kdAtom v t tl i s').2.2 := by
  unfold rdAtom
  unfold kdAtom at h ⊢
  rw [e]
  by_cases hin : inI (hereV t tl s'.1 - nI 112) 6 = true
  · rw [if_pos hin] at h ⊢
    rw [if_pos hin]
    obtain ⟨q, hq, eq1⟩ := inI_of hin (by omega)
    have hx0 : hereV t tl s'.1 = nI (112 + q) := by
      have : hereV t tl s'.1 = nI 112 + nI q := by rw [← eq1, Int32.add_comm, Int32.sub_add_cancel]
      rw [this, nI_add]
    obtain ⟨hl0, ht0⟩ := here_nI ht7 (by omega) hx0
    rw [eq1, nI_clamp (by omega)] at h ⊢
    have no0 : ∀ j, s'.1 ≤ j → j < s'.1 + 1 → ¬ (88 ≤ t j ∧ t j ≤ 90) := fun j h1 h2 => by
      have : j = s'.1 := by omega
      rw [this, ht0]
      omega
    cases h40 : (kdTake t tl 40 (s'.1 + 1, s'.2)).1
    · rw [andK_0 h40] at h; cases h
    · rw [andK_1 h40] at h ⊢
      have g40 : (rdTake t tl 40 (s'.1 + 1, upd (upd s.2 (4 * i) (nI q)) (4 * i + 2) (nI 0))).1 = true := h40
      rw [andP_1 g40]
      have e40 : tkB t tl (s'.1 + 1) 40 = true := h40
      obtain ⟨-, ht1⟩ := take_at ht7 (by omega) e40
      have es2 : (kdTake t tl 40 (s'.1 + 1, s'.2)).2 = (s'.1 + 2, s'.2) := by
        unfold kdTake oneB
        rw [show tkB t tl ((s'.1 + 1, s'.2) : KS).1 40 = true from e40]
        rfl
      have er2 : (rdTake t tl 40 (s'.1 + 1, upd (upd s.2 (4 * i) (nI q)) (4 * i + 2) (nI 0))).2 = (s'.1 + 2, upd (upd s.2 (4 * i) (nI q)) (4 * i + 2) (nI 0)) := by
        unfold rdTake oneB
        rw [show tkB t tl ((s'.1 + 1, upd (upd s.2 (4 * i) (nI q)) (4 * i + 2) (nI 0)) : PS).1 40 = true from e40]
        rfl
      rw [es2] at h ⊢
      rw [er2]
      cases hT : tmB v (hereV t tl (s'.1 + 2))
      · have e1 : kdFirst v t tl i q (s'.1 + 2, s'.2) = (false, s'.1 + 2, s'.2) := if_neg (by show ¬ tmB v (hereV t tl (s'.1 + 2)) = true; rw [hT]; decide)
        rw [andK_0 (by rw [e1])] at h; cases h
      · have e1 : kdFirst v t tl i q (s'.1 + 2, s'.2) = (true, s'.1 + 3, (updN s'.2.pr i q, updN s'.2.fi i (toN (tmV (hereV t tl (s'.1 + 2)))), updN s'.2.se i 0, s'.2.ng, s'.2.li, s'.2.pc)) := if_pos hT
        have r1 : rdTerm v t tl (4 * i + 1) (s'.1 + 2, upd (upd s.2 (4 * i) (nI q)) (4 * i + 2) (nI 0)) = (true, s'.1 + 3, upd (upd (upd s.2 (4 * i) (nI q)) (4 * i + 2) (nI 0)) (4 * i + 1) (tmV (hereV t tl (s'.1 + 2)))) := by
          unfold rdTerm oneB
          rw [show tmB v (hereV t tl ((s'.1 + 2, upd (upd s.2 (4 * i) (nI q)) (4 * i + 2) (nI 0)) : PS).1) = true from hT]
          rfl
        rw [andK_1 (by rw [e1]), e1] at h ⊢
        rw [andP_1 (by rw [r1]), r1]
        have hterm := term_at h6 ht7 hT
        have htm : nI (toN (tmV (hereV t tl (s'.1 + 2)))) = tmV (hereV t tl (s'.1 + 2)) := nI_toN _
        have hfi : (48 ≤ t (s'.1 + 2) ∧ t (s'.1 + 2) < 54 ∧ toN (tmV (hereV t tl (s'.1 + 2))) = t (s'.1 + 2) - 48) ∨ (88 ≤ t (s'.1 + 2) ∧ t (s'.1 + 2) ≤ 90 ∧ toN (tmV (hereV t tl (s'.1 + 2))) = t (s'.1 + 2) - 82) := by
          rcases hterm with ⟨w1, w2, w3⟩ | ⟨w1, w2, w3⟩
          · exact Or.inl ⟨w1, w2, by rw [w3, toN_nI (by omega)]⟩
          · exact Or.inr ⟨w1, w2, by rw [w3, toN_nI (by omega)]⟩
        generalize tmV (hereV t tl (s'.1 + 2)) = y1 at htm hfi h ⊢
        have n1 : ¬ 4 * i = 4 * i + 2 := by omega
        have n2 : ¬ 4 * i = 4 * i + 1 := by omega
        have n3 : ¬ 4 * i + 2 = 4 * i + 1 := by omega
        have n4 : ¬ 4 * i + 1 = 4 * i + 2 := by omega
        by_cases h2 : v (3 + q) = 2
        · rw [if_pos h2] at h ⊢
          rw [if_pos h2]
          cases h44 : tkB t tl (s'.1 + 3) 44
          · rw [andK_0 (show (kdTake t tl 44 (s'.1 + 3, (updN s'.2.pr i q, updN s'.2.fi i (toN y1), updN s'.2.se i 0, s'.2.ng, s'.2.li, s'.2.pc))).1 = false from h44)] at h; cases h
          · obtain ⟨-, ht3⟩ := take_at ht7 (by omega) h44
            have e44 : kdTake t tl 44 (s'.1 + 3, (updN s'.2.pr i q, updN s'.2.fi i (toN y1), updN s'.2.se i 0, s'.2.ng, s'.2.li, s'.2.pc)) = (true, s'.1 + 4, (updN s'.2.pr i q, updN s'.2.fi i (toN y1), updN s'.2.se i 0, s'.2.ng, s'.2.li, s'.2.pc)) := by
              unfold kdTake oneB
              rw [show tkB t tl ((s'.1 + 3, (updN s'.2.pr i q, updN s'.2.fi i (toN y1), updN s'.2.se i 0, s'.2.ng, s'.2.li, s'.2.pc)) : KS).1 44 = true from h44]
              rfl
            have r44 : rdTake t tl 44 (s'.1 + 3, upd (upd (upd s.2 (4 * i) (nI q)) (4 * i + 2) (nI 0)) (4 * i + 1) y1) = (true, s'.1 + 4, upd (upd (upd s.2 (4 * i) (nI q)) (4 * i + 2) (nI 0)) (4 * i + 1) y1) := by
              unfold rdTake oneB
              rw [show tkB t tl ((s'.1 + 3, upd (upd (upd s.2 (4 * i) (nI q)) (4 * i + 2) (nI 0)) (4 * i + 1) y1) : PS).1 44 = true from h44]
              rfl
            rw [andK_1 (by rw [e44]), e44] at h ⊢
            rw [andP_1 (by rw [r44]), r44]
            cases hT2 : tmB v (hereV t tl (s'.1 + 4))
            · have e4 : kdSecond v t tl i (s'.1 + 4, (updN s'.2.pr i q, updN s'.2.fi i (toN y1), updN s'.2.se i 0, s'.2.ng, s'.2.li, s'.2.pc)) = (false, s'.1 + 4, (updN s'.2.pr i q, updN s'.2.fi i (toN y1), updN s'.2.se i 0, s'.2.ng, s'.2.li, s'.2.pc)) := if_neg (by show ¬ tmB v (hereV t tl (s'.1 + 4)) = true; rw [hT2]; decide)
              rw [andK_0 (by rw [e4])] at h; cases h
            · have e4 : kdSecond v t tl i (s'.1 + 4, (updN s'.2.pr i q, updN s'.2.fi i (toN y1), updN s'.2.se i 0, s'.2.ng, s'.2.li, s'.2.pc)) = (true, s'.1 + 5, (updN s'.2.pr i q, updN s'.2.fi i (toN y1), updN (updN s'.2.se i 0) i (toN (tmV (hereV t tl (s'.1 + 4)))), s'.2.ng, s'.2.li, s'.2.pc)) := if_pos hT2
              have r4 : rdTerm v t tl (4 * i + 2) (s'.1 + 4, upd (upd (upd s.2 (4 * i) (nI q)) (4 * i + 2) (nI 0)) (4 * i + 1) y1) = (true, s'.1 + 5, upd (upd (upd (upd s.2 (4 * i) (nI q)) (4 * i + 2) (nI 0)) (4 * i + 1) y1) (4 * i + 2) (tmV (hereV t tl (s'.1 + 4)))) := by
                unfold rdTerm oneB
                rw [show tmB v (hereV t tl ((s'.1 + 4, upd (upd (upd s.2 (4 * i) (nI q)) (4 * i + 2) (nI 0)) (4 * i + 1) y1) : PS).1) = true from hT2]
                rfl
              rw [andK_1 (by rw [e4]), e4] at h ⊢
              rw [andP_1 (by rw [r4]), r4]
              have hterm2 := term_at h6 ht7 hT2
              have htm2 : nI (toN (tmV (hereV t tl (s'.1 + 4)))) = tmV (hereV t tl (s'.1 + 4)) := nI_toN _
              have hse : (48 ≤ t (s'.1 + 4) ∧ t (s'.1 + 4) < 54 ∧ toN (tmV (hereV t tl (s'.1 + 4))) = t (s'.1 + 4) - 48) ∨ (88 ≤ t (s'.1 + 4) ∧ t (s'.1 + 4) ≤ 90 ∧ toN (tmV (hereV t tl (s'.1 + 4))) = t (s'.1 + 4) - 82) := by
                rcases hterm2 with ⟨w1, w2, w3⟩ | ⟨w1, w2, w3⟩
                · exact Or.inl ⟨w1, w2, by rw [w3, toN_nI (by omega)]⟩
                · exact Or.inr ⟨w1, w2, by rw [w3, toN_nI (by omega)]⟩
              generalize tmV (hereV t tl (s'.1 + 4)) = y2 at htm2 hse h ⊢
              have h41 : tkB t tl (s'.1 + 5) 41 = true := h
              obtain ⟨-, ht5⟩ := take_at ht7 (by omega) h41
              have e41 : (kdTake t tl 41 (s'.1 + 5, (updN s'.2.pr i q, updN s'.2.fi i (toN y1), updN (updN s'.2.se i 0) i (toN y2), s'.2.ng, s'.2.li, s'.2.pc))).2.1 = s'.1 + 6 := by
                show s'.1 + 5 + oneB (tkB t tl (s'.1 + 5) 41) = _
                rw [h41]
                rfl
              have eFi : updN s'.2.fi i (toN y1) i = toN y1 := updN_same _ _ _
              have eSe : updN (updN s'.2.se i 0) i (toN y2) i = toN y2 := updN_same _ _ _
              refine ⟨⟨?_, ?_, ?_⟩, ?_⟩
              · show upd (upd (upd (upd s.2 (4 * i) (nI q)) (4 * i + 2) (nI 0)) (4 * i + 1) y1) (4 * i + 2) y2 (4 * i) = nI (updN s'.2.pr i q i)
                rw [updN_same]
                simp only [upd, n1, n2, if_false, if_true]
              · show upd (upd (upd (upd s.2 (4 * i) (nI q)) (4 * i + 2) (nI 0)) (4 * i + 1) y1) (4 * i + 2) y2 (4 * i + 1) = nI (updN s'.2.fi i (toN y1) i)
                rw [updN_same, htm]
                simp only [upd, n4, if_false, if_true]
              · show upd (upd (upd (upd s.2 (4 * i) (nI q)) (4 * i + 2) (nI 0)) (4 * i + 1) y1) (4 * i + 2) y2 (4 * i + 2) = nI (updN (updN s'.2.se i 0) i (toN y2) i)
                rw [updN_same, htm2]
                simp only [upd, if_true]
              · rw [e41]
                show (∀ j, s'.1 ≤ j → j < s'.1 + 6 → 88 ≤ t j → t j ≤ 90 → updN s'.2.fi i (toN y1) i = t j - 82 ∨ updN (updN s'.2.se i 0) i (toN y2) i = t j - 82) ∧ ∀ x, x < 3 → (updN s'.2.fi i (toN y1) i = 6 + x ∨ updN (updN s'.2.se i 0) i (toN y2) i = 6 + x) → ∃ j, s'.1 ≤ j ∧ j < s'.1 + 6 ∧ t j = 88 + x
                rw [eFi, eSe]
                refine ⟨fun j hj1 hj2 hv1 hv2 => ?_, fun x hx hfs => ?_⟩
                · rcases (show j = s'.1 ∨ j = s'.1 + 1 ∨ j = s'.1 + 2 ∨ j = s'.1 + 3 ∨ j = s'.1 + 4 ∨ j = s'.1 + 5 by omega) with w | w | w | w | w | w
                  · rw [w] at hv1 hv2; omega
                  · rw [w] at hv1 hv2; omega
                  · rw [w] at hv1 hv2 ⊢; exact Or.inl (by omega)
                  · rw [w] at hv1 hv2; omega
                  · rw [w] at hv1 hv2 ⊢; exact Or.inr (by omega)
                  · rw [w] at hv1 hv2; omega
                · rcases hfs with w | w
                  · exact ⟨s'.1 + 2, by omega, by omega, by omega⟩
                  · exact ⟨s'.1 + 4, by omega, by omega, by omega⟩
        · rw [if_neg h2] at h ⊢
          rw [if_neg h2]
          have h41 : tkB t tl (s'.1 + 3) 41 = true := h
          obtain ⟨-, ht3⟩ := take_at ht7 (by omega) h41
          have e41 : (kdTake t tl 41 (s'.1 + 3, (updN s'.2.pr i q, updN s'.2.fi i (toN y1), updN s'.2.se i 0, s'.2.ng, s'.2.li, s'.2.pc))).2.1 = s'.1 + 4 := by
            show s'.1 + 3 + oneB (tkB t tl (s'.1 + 3) 41) = _
            rw [h41]
            rfl
          have eFi : updN s'.2.fi i (toN y1) i = toN y1 := updN_same _ _ _
          have eSe : updN s'.2.se i 0 i = 0 := updN_same _ _ _
          refine ⟨⟨?_, ?_, ?_⟩, ?_⟩
          · show upd (upd (upd s.2 (4 * i) (nI q)) (4 * i + 2) (nI 0)) (4 * i + 1) y1 (4 * i) = nI (updN s'.2.pr i q i)
            rw [updN_same]
            simp only [upd, n1, n2, if_false, if_true]
          · show upd (upd (upd s.2 (4 * i) (nI q)) (4 * i + 2) (nI 0)) (4 * i + 1) y1 (4 * i + 1) = nI (updN s'.2.fi i (toN y1) i)
            rw [updN_same, htm]
            simp only [upd, if_true]
          · show upd (upd (upd s.2 (4 * i) (nI q)) (4 * i + 2) (nI 0)) (4 * i + 1) y1 (4 * i + 2) = nI (updN s'.2.se i 0 i)
            rw [updN_same]
            simp only [upd, n3, if_false, if_true]
          · rw [e41]
            show (∀ j, s'.1 ≤ j → j < s'.1 + 4 → 88 ≤ t j → t j ≤ 90 → updN s'.2.fi i (toN y1) i = t j - 82 ∨ updN s'.2.se i 0 i = t j - 82) ∧ ∀ x, x < 3 → (updN s'.2.fi i (toN y1) i = 6 + x ∨ updN s'.2.se i 0 i = 6 + x) → ∃ j, s'.1 ≤ j ∧ j < s'.1 + 4 ∧ t j = 88 + x
            rw [eFi, eSe]
            refine ⟨fun j hj1 hj2 hv1 hv2 => ?_, fun x hx hfs => ?_⟩
            · rcases (show j = s'.1 ∨ j = s'.1 + 1 ∨ j = s'.1 + 2 ∨ j = s'.1 + 3 by omega) with w | w | w | w
              · rw [w] at hv1 hv2; omega
              · rw [w] at hv1 hv2; omega
              · rw [w] at hv1 hv2 ⊢; exact Or.inl (by omega)
              · rw [w] at hv1 hv2; omega
            · rcases hfs with w | w
              · exact ⟨s'.1 + 2, by omega, by omega, by omega⟩
              · omega
  · rw [if_neg hin] at h; cases h
