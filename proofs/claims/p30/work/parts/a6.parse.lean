/-! P30, PURE: the law's texts read without a fault -/
/-- the rest of the text, from p on -/
def Rst (t : Nat → Nat) (tl p : Nat) (ls : List Nat) : Prop := p + ls.length = tl ∧ ∀ i, i < ls.length → t (p + i) = ls.getD i 0
theorem Rst.tail {t : Nat → Nat} {tl p c : Nat} {ls : List Nat} (h : Rst t tl p (c :: ls)) : Rst t tl (p + 1) ls := by
  obtain ⟨h1, h2⟩ := h
  rw [List.length_cons] at h1 h2
  refine ⟨by omega, fun i hi => ?_⟩
  have := h2 (i + 1) (by omega)
  rw [show p + 1 + i = p + (i + 1) by omega, this]
  rfl
theorem Rst.here {t : Nat → Nat} {tl p c : Nat} {ls : List Nat} (h : Rst t tl p (c :: ls)) : hereV t tl p = nI c := by
  obtain ⟨h1, h2⟩ := h
  rw [List.length_cons] at h1 h2
  have e : t p = c := h2 0 (by omega)
  unfold hereV
  rw [if_pos (by omega), e]
theorem Rst.here0 {t : Nat → Nat} {tl p : Nat} (h : Rst t tl p []) : hereV t tl p = -1 ∧ p = tl := by
  have h1 : p + 0 = tl := h.1
  unfold hereV
  rw [if_neg (by omega)]
  exact ⟨rfl, by omega⟩
theorem Rst.take {t : Nat → Nat} {tl p c : Nat} {ls : List Nat} (h : Rst t tl p (c :: ls)) (R : RuS) : kdTake t tl c (p, R) = (true, p + 1, R) := by
  have e : tkB t tl p c = true := decide_eq_true h.here
  show (tkB t tl p c, p + oneB (tkB t tl p c), R) = (true, p + 1, R)
  rw [e]
  rfl
theorem Rst.skip {t : Nat → Nat} {tl p c d : Nat} {ls : List Nat} (h : Rst t tl p (d :: ls)) (hc : c < 128) (hd : d < 128) (hcd : d ≠ c) (R : RuS) : kdTake t tl c (p, R) = (false, p, R) := by
  have e : tkB t tl p c = false := decide_eq_false (by
    rw [h.here]
    exact fun q => hcd ((nI_eq (by omega) (by omega)).mp q))
  show (tkB t tl p c, p + oneB (tkB t tl p c), R) = (false, p, R)
  rw [e]
  rfl
theorem Rst.skip0 {t : Nat → Nat} {tl p c : Nat} (h : Rst t tl p []) (hc : c < 128) (R : RuS) : kdTake t tl c (p, R) = (false, p, R) := by
  have e : tkB t tl p c = false := decide_eq_false (by
    rw [h.here0.1]
    exact fun q => nI_nm1 (show c < 2147483648 by omega) q.symm)
  show (tkB t tl p c, p + oneB (tkB t tl p c), R) = (false, p, R)
  rw [e]
  rfl
/-- a term's letter -/
def ltT (x : Nat) : Nat := if x < 6 then 48 + x else 82 + x
/-- a term of n constants -/
def TmO (n x : Nat) : Prop := x < 9 ∧ (x < 6 → x < n)
theorem ltT_lt {x : Nat} (h : x < 9) : ltT x < 128 := by
  unfold ltT
  split <;> omega
theorem tm_ok {v : Nat → Nat} (h6 : v 0 ≤ 6) {x : Nat} (h : TmO (v 0) x) : tmB v (nI (ltT x)) = true ∧ toN (tmV (nI (ltT x))) = x := by
  obtain ⟨h9, hn⟩ := h
  unfold ltT
  split
  · have hx := hn (by assumption)
    refine ⟨?_, ?_⟩
    · unfold tmB
      rw [pk_sub (show 48 ≤ 48 + x by omega), show 48 + x - 48 = x by omega, inI_nI hx (by omega)]
      rfl
    · unfold tmV
      rw [if_pos ((nI_ltI (by omega) (by omega)).mpr (show 48 + x < 88 by omega)), pk_sub (show 48 ≤ 48 + x by omega), show 48 + x - 48 = x by omega]
      exact toN_nI (by omega)
  · refine ⟨?_, ?_⟩
    · unfold tmB
      rw [decide_eq_true (show nI 88 ≤ nI (82 + x) ∧ nI (82 + x) ≤ nI 90 from ⟨(nI_leI (by omega) (by omega)).mpr (by omega), (nI_leI (by omega) (by omega)).mpr (by omega)⟩), Bool.or_true]
    · unfold tmV
      rw [if_neg (fun q => by
        have := (nI_ltI (show 82 + x < 2 ^ 31 by omega) (show 88 < 2 ^ 31 by omega)).mp q
        omega), pk_sub (show 88 ≤ 82 + x by omega), nI_add, show 82 + x - 88 + 6 = x by omega]
      exact toN_nI (by omega)
/-- an atom's letters -/
def atL (pl q a b : Nat) : List Nat := (112 + q) :: 40 :: ltT a :: (if pl = 2 then 44 :: ltT b :: [41] else [41])
def upA (R : RuS) (k q a b : Nat) : RuS := (updN R.pr k q, updN R.fi k a, updN R.se k b, R.ng, R.li, R.pc)
theorem atom_ok {v t : Nat → Nat} {tl p q a b k : Nat} {ls : List Nat} (hok : OkN v) (hq : q < 6) (ha : TmO (v 0) a) (hb : TmO (v 0) b) (hb0 : v (3 + q) = 1 → b = 0) (h : Rst t tl p (atL (v (3 + q)) q a b ++ ls)) (R : RuS) : ∃ p', kdAtom v t tl k (p, R) = (true, p', upA R k q a b) ∧ Rst t tl p' ls := by
  have h6 := hok.2.1
  have h : Rst t tl p ((112 + q) :: 40 :: ltT a :: ((if v (3 + q) = 2 then 44 :: ltT b :: [41] else [41]) ++ ls)) := h
  have e1 : hereV t tl p - nI 112 = nI q := by rw [h.here, pk_sub (by omega), show 112 + q - 112 = q by omega]
  have h2 := h.tail
  have h3 := h2.tail
  have h4 := h3.tail
  have t1 := tm_ok h6 ha
  have f1 : kdFirst v t tl k q (p + 1 + 1, R) = (true, p + 1 + 1 + 1, (updN R.pr k q, updN R.fi k a, updN R.se k 0, R.ng, R.li, R.pc)) := by
    show (if tmB v (hereV t tl (p + 1 + 1)) = true then (true, p + 1 + 1 + 1, (updN R.pr k q, updN R.fi k (toN (tmV (hereV t tl (p + 1 + 1)))), updN R.se k 0, R.ng, R.li, R.pc)) else (false, (p + 1 + 1, R))) = _
    rw [h3.here, if_pos t1.1, t1.2]
  have g : kdAtom v t tl k (p, R) = andK (kdTake t tl 40) (andK (kdFirst v t tl k q) (if v (3 + q) = 2 then andK (kdTake t tl 44) (andK (kdSecond v t tl k) (kdTake t tl 41)) else kdTake t tl 41)) (p + 1, R) := by
    show (if inI (hereV t tl p - nI 112) 6 = true then andK (kdTake t tl 40) (andK (kdFirst v t tl k (hereV t tl p - nI 112).toNatClampNeg) (if v (3 + (hereV t tl p - nI 112).toNatClampNeg) = 2 then andK (kdTake t tl 44) (andK (kdSecond v t tl k) (kdTake t tl 41)) else kdTake t tl 41)) (p + 1, R) else (false, (p, R))) = _
    rw [e1, nI_clamp (show q < 2 ^ 31 by omega), if_pos (inI_nI hq (by omega))]
  have k1 := h2.take R
  rw [g, andK_1 (by rw [k1]), k1, andK_1 (by rw [f1]), f1]
  by_cases hp : v (3 + q) = 2
  · rw [if_pos hp] at h4 ⊢
    have h4 : Rst t tl (p + 1 + 1 + 1) (44 :: ltT b :: 41 :: ls) := h4
    have t2 := tm_ok h6 hb
    have h5 := h4.tail
    have h7 := h5.tail
    have k2 := h4.take (updN R.pr k q, updN R.fi k a, updN R.se k 0, R.ng, R.li, R.pc)
    have f2 : kdSecond v t tl k (p + 1 + 1 + 1 + 1, (updN R.pr k q, updN R.fi k a, updN R.se k 0, R.ng, R.li, R.pc)) = (true, p + 1 + 1 + 1 + 1 + 1, upA R k q a b) := by
      show (if tmB v (hereV t tl (p + 1 + 1 + 1 + 1)) = true then (true, p + 1 + 1 + 1 + 1 + 1, (updN R.pr k q, updN R.fi k a, updN (updN R.se k 0) k (toN (tmV (hereV t tl (p + 1 + 1 + 1 + 1)))), R.ng, R.li, R.pc)) else (false, _)) = _
      rw [h5.here, if_pos t2.1, t2.2, updN_2]
      rfl
    rw [andK_1 (by rw [k2]), k2, andK_1 (by rw [f2]), f2, h7.take]
    exact ⟨_, rfl, h7.tail⟩
  · rw [if_neg hp] at h4 ⊢
    have h4 : Rst t tl (p + 1 + 1 + 1) (41 :: ls) := h4
    have hp1 : v (3 + q) = 1 := (hok.2.2.2.2.1 q hq).resolve_right hp
    rw [h4.take]
    refine ⟨_, ?_, h4.tail⟩
    rw [hb0 hp1]
    rfl
/-- what the law's rule is to be -/
def RuW (v : Nat → Nat) (W : RuS) : Prop := 1 ≤ W.li ∧ W.li ≤ 3 ∧ ∀ a, a ≤ W.li → W.pr a < 6 ∧ TmO (v 0) (W.fi a) ∧ TmO (v 0) (W.se a) ∧ (v (3 + W.pr a) = 1 → W.se a = 0)
def liL (v : Nat → Nat) (W : RuS) (a : Nat) : List Nat := (if W.ng a = true then [33] else []) ++ atL (v (3 + W.pr a)) (W.pr a) (W.fi a) (W.se a)
/-- the literals k + 1 .. k + j -/
def lsL (v : Nat → Nat) (W : RuS) : Nat → Nat → List Nat
  | _, 0 => []
  | k, j + 1 => liL v W (k + 1) ++ (if j = 0 then [] else 44 :: lsL v W (k + 1) j)
def ruL2 (v : Nat → Nat) (W : RuS) : List Nat := atL (v (3 + W.pr 0)) (W.pr 0) (W.fi 0) (W.se 0) ++ 60 :: lsL v W 0 W.li
theorem lit_ok {v t : Nat → Nat} {tl p a : Nat} {ls : List Nat} {W : RuS} (hok : OkN v) (hW : RuW v W) (ha : a ≤ W.li) (h : Rst t tl p (liL v W a ++ ls)) (R : RuS) : ∃ p', kdLit v t tl a (p, R) = (true, p', (updN R.pr a (W.pr a), updN R.fi a (W.fi a), updN R.se a (W.se a), updN R.ng a (W.ng a), R.li, R.pc)) ∧ Rst t tl p' ls := by
  obtain ⟨w1, w2, w3, w4⟩ := hW.2.2 a ha
  unfold liL at h
  cases hn : W.ng a
  · rw [hn, if_neg (by decide)] at h
    have h : Rst t tl p (atL (v (3 + W.pr a)) (W.pr a) (W.fi a) (W.se a) ++ ls) := h
    have hk : kdTake t tl 33 (p, R) = (false, p, R) := Rst.skip (d := 112 + W.pr a) h (by omega) (by omega) (by omega) R
    obtain ⟨p', e, hr⟩ := atom_ok (k := a) hok w1 w2 w3 w4 h (R.pr, R.fi, R.se, updN R.ng a false, R.li, R.pc)
    refine ⟨p', ?_, hr⟩
    show kdAtom v t tl a ((kdTake t tl 33 (p, R)).2.1, (R.pr, R.fi, R.se, updN R.ng a (kdTake t tl 33 (p, R)).1, R.li, R.pc)) = _
    rw [hk]
    exact e
  · rw [hn, if_pos rfl] at h
    have h : Rst t tl p (33 :: (atL (v (3 + W.pr a)) (W.pr a) (W.fi a) (W.se a) ++ ls)) := h
    have hk := h.take R
    obtain ⟨p', e, hr⟩ := atom_ok (k := a) hok w1 w2 w3 w4 h.tail (R.pr, R.fi, R.se, updN R.ng a true, R.li, R.pc)
    refine ⟨p', ?_, hr⟩
    show kdAtom v t tl a ((kdTake t tl 33 (p, R)).2.1, (R.pr, R.fi, R.se, updN R.ng a (kdTake t tl 33 (p, R)).1, R.li, R.pc)) = _
    rw [hk]
    exact e
/-- the atoms lo + 1 .. hi are W's, the others R's -/
def SameW (W R R' : RuS) (lo hi : Nat) : Prop := (∀ a, lo < a → a ≤ hi → R'.pr a = W.pr a ∧ R'.fi a = W.fi a ∧ R'.se a = W.se a ∧ R'.ng a = W.ng a) ∧ ∀ a, a ≤ lo → R'.pr a = R.pr a ∧ R'.fi a = R.fi a ∧ R'.se a = R.se a ∧ R'.ng a = R.ng a
theorem lits_ok {v t : Nat → Nat} {tl : Nat} {W : RuS} (hok : OkN v) (hW : RuW v W) : ∀ (j fu k p : Nat) (R : RuS), k + fu = 3 → k + (j + 1) = W.li → Rst t tl p (lsL v W k (j + 1)) → ∃ R', kdLits v t tl fu k (p, R) = (true, tl, R') ∧ R'.li = W.li ∧ SameW W R R' k W.li := by
  intro j
  induction j with
  | zero =>
    intro fu k p R hf hk h
    have h3 := hW.2.1
    obtain ⟨fu, rfl⟩ : ∃ f, fu = f + 1 := ⟨fu - 1, by omega⟩
    have h : Rst t tl p (liL v W (k + 1) ++ []) := h
    obtain ⟨p', e, hr⟩ := lit_ok hok hW (by omega) h R
    obtain ⟨-, ep⟩ := hr.here0
    show ∃ R', (if (kdLit v t tl (k + 1) (p, R)).1 = true then (if k + 1 < 3 then (if (kdTake t tl 44 (kdSet (k + 1) (kdLit v t tl (k + 1) (p, R)).2)).1 = true then kdLits v t tl fu (k + 1) (kdTake t tl 44 (kdSet (k + 1) (kdLit v t tl (k + 1) (p, R)).2)).2 else (true, (kdTake t tl 44 (kdSet (k + 1) (kdLit v t tl (k + 1) (p, R)).2)).2)) else (true, kdSet (k + 1) (kdLit v t tl (k + 1) (p, R)).2)) else (false, (kdLit v t tl (k + 1) (p, R)).2)) = (true, tl, R') ∧ _
    rw [e, if_pos rfl]
    have hs := hr.skip0 (c := 44) (by omega) (updN R.pr (k + 1) (W.pr (k + 1)), updN R.fi (k + 1) (W.fi (k + 1)), updN R.se (k + 1) (W.se (k + 1)), updN R.ng (k + 1) (W.ng (k + 1)), k + 1, R.pc)
    have hw : SameW W R (updN R.pr (k + 1) (W.pr (k + 1)), updN R.fi (k + 1) (W.fi (k + 1)), updN R.se (k + 1) (W.se (k + 1)), updN R.ng (k + 1) (W.ng (k + 1)), k + 1, R.pc) k W.li := by
      refine ⟨fun a q1 q2 => ?_, fun a q1 => ?_⟩
      · obtain rfl : a = k + 1 := by omega
        exact ⟨updN_same _ _ _, updN_same _ _ _, updN_same _ _ _, updN_same _ _ _⟩
      · exact ⟨updN_ne _ _ (by omega), updN_ne _ _ (by omega), updN_ne _ _ (by omega), updN_ne _ _ (by omega)⟩
    by_cases hlt : k + 1 < 3
    · rw [if_pos hlt]
      have hs : kdTake t tl 44 (kdSet (k + 1) (p', (updN R.pr (k + 1) (W.pr (k + 1)), updN R.fi (k + 1) (W.fi (k + 1)), updN R.se (k + 1) (W.se (k + 1)), updN R.ng (k + 1) (W.ng (k + 1)), R.li, R.pc))) = _ := hs
      rw [hs, if_neg (show ¬ (false = true) by decide), ep]
      exact ⟨_, rfl, hk, hw⟩
    · rw [if_neg hlt, ep]
      exact ⟨_, rfl, hk, hw⟩
  | succ j ih =>
    intro fu k p R hf hk h
    have h3 := hW.2.1
    obtain ⟨fu, rfl⟩ : ∃ f, fu = f + 1 := ⟨fu - 1, by omega⟩
    have h : Rst t tl p (liL v W (k + 1) ++ 44 :: lsL v W (k + 1) (j + 1)) := h
    obtain ⟨p', e, hr⟩ := lit_ok hok hW (by omega) h R
    show ∃ R', (if (kdLit v t tl (k + 1) (p, R)).1 = true then (if k + 1 < 3 then (if (kdTake t tl 44 (kdSet (k + 1) (kdLit v t tl (k + 1) (p, R)).2)).1 = true then kdLits v t tl fu (k + 1) (kdTake t tl 44 (kdSet (k + 1) (kdLit v t tl (k + 1) (p, R)).2)).2 else (true, (kdTake t tl 44 (kdSet (k + 1) (kdLit v t tl (k + 1) (p, R)).2)).2)) else (true, kdSet (k + 1) (kdLit v t tl (k + 1) (p, R)).2)) else (false, (kdLit v t tl (k + 1) (p, R)).2)) = (true, tl, R') ∧ _
    rw [e, if_pos rfl, if_pos (show k + 1 < 3 by omega)]
    have hs := hr.take (updN R.pr (k + 1) (W.pr (k + 1)), updN R.fi (k + 1) (W.fi (k + 1)), updN R.se (k + 1) (W.se (k + 1)), updN R.ng (k + 1) (W.ng (k + 1)), k + 1, R.pc)
    have hs : kdTake t tl 44 (kdSet (k + 1) (p', (updN R.pr (k + 1) (W.pr (k + 1)), updN R.fi (k + 1) (W.fi (k + 1)), updN R.se (k + 1) (W.se (k + 1)), updN R.ng (k + 1) (W.ng (k + 1)), R.li, R.pc))) = _ := hs
    rw [hs, if_pos rfl]
    obtain ⟨R', e2, l2, s1, s2⟩ := ih fu (k + 1) (p' + 1) (updN R.pr (k + 1) (W.pr (k + 1)), updN R.fi (k + 1) (W.fi (k + 1)), updN R.se (k + 1) (W.se (k + 1)), updN R.ng (k + 1) (W.ng (k + 1)), k + 1, R.pc) (by omega) (by omega) hr.tail
    refine ⟨R', e2, l2, fun a q1 q2 => ?_, fun a q1 => ?_⟩
    · by_cases q : a = k + 1
      · subst q
        obtain ⟨x1, x2, x3, x4⟩ := s2 (k + 1) (Nat.le_refl _)
        exact ⟨x1.trans (updN_same _ _ _), x2.trans (updN_same _ _ _), x3.trans (updN_same _ _ _), x4.trans (updN_same _ _ _)⟩
      · exact s1 a (by omega) q2
    · obtain ⟨x1, x2, x3, x4⟩ := s2 a (by omega)
      exact ⟨x1.trans (updN_ne _ _ (by omega)), x2.trans (updN_ne _ _ (by omega)), x3.trans (updN_ne _ _ (by omega)), x4.trans (updN_ne _ _ (by omega))⟩
/-- the rule read is W -/
def IsW (W R' : RuS) : Prop := R'.li = W.li ∧ ∀ a, a ≤ W.li → R'.pr a = W.pr a ∧ R'.fi a = W.fi a ∧ R'.se a = W.se a ∧ (1 ≤ a → R'.ng a = W.ng a)
theorem rule_ok {v t : Nat → Nat} {tl : Nat} {W : RuS} (hok : OkN v) (hW : RuW v W) (h : Rst t tl 0 (ruL2 v W)) (R : RuS) : (kdRule v t tl R).1 = true ∧ IsW W (kdRule v t tl R).2.2 := by
  obtain ⟨w1, w2, w3, w4⟩ := hW.2.2 0 (Nat.zero_le _)
  obtain ⟨p1, e1, h1⟩ := atom_ok (k := 0) hok w1 w2 w3 w4 h R
  have e2 := h1.take (upA R 0 (W.pr 0) (W.fi 0) (W.se 0))
  obtain ⟨j, hj⟩ : ∃ j, W.li = j + 1 := ⟨W.li - 1, by have := hW.1; omega⟩
  have h2 := h1.tail
  rw [hj] at h2
  obtain ⟨R', e3, l3, s1, s2⟩ := lits_ok hok hW j 3 0 (p1 + 1) (upA R 0 (W.pr 0) (W.fi 0) (W.se 0)) rfl (by omega) h2
  have e : kdRule v t tl R = (true, tl, R') := by
    unfold kdRule
    rw [e1, if_pos rfl, e2, if_pos rfl, e3, decide_eq_true rfl]
    rfl
  rw [e]
  refine ⟨rfl, l3, fun a ha => ?_⟩
  rcases Nat.eq_zero_or_pos a with rfl | hp
  · obtain ⟨x1, x2, x3, -⟩ := s2 0 (Nat.le_refl _)
    exact ⟨x1.trans (show updN R.pr 0 (W.pr 0) 0 = W.pr 0 from updN_same _ _ _), x2.trans (show updN R.fi 0 (W.fi 0) 0 = W.fi 0 from updN_same _ _ _), x3.trans (show updN R.se 0 (W.se 0) 0 = W.se 0 from updN_same _ _ _), fun q => by omega⟩
  · obtain ⟨x1, x2, x3, x4⟩ := s1 a hp ha
    exact ⟨x1, x2, x3, fun _ => x4⟩
/-- each variable stands in a literal that isn't negated -/
def Bnd (W : RuS) : Prop := ∀ a, a ≤ W.li → ∀ x, x < 3 → (W.fi a = 6 + x ∨ W.se a = 6 + x) → ∃ c, 1 ≤ c ∧ c ≤ W.li ∧ W.ng c = false ∧ (W.fi c = 6 + x ∨ W.se c = 6 + x)
theorem fault_no {v t : Nat → Nat} {tl : Nat} {W : RuS} (hok : OkN v) (ht7 : ∀ i, i < tl → t i < 128) (hW : RuW v W) (hB : Bnd W) (h : Rst t tl 0 (ruL2 v W)) (R : RuS) : ffV v t tl R = -5 := by
  obtain ⟨e, hli, hI⟩ := rule_ok hok hW h R
  obtain ⟨-, -, f3⟩ := form_eq hok.2.1 ht7 (fun _ => 0) R
  obtain ⟨-, hLT, hpos⟩ := f3 e
  obtain ⟨-, -, -, -, l5, -⟩ := hLT
  unfold ffV
  rw [if_pos e]
  unfold unV
  rw [upTo_none (P := unF t (kdRule v t tl R).2.2) fun i hi => ?_]
  · rfl
  unfold unF
  refine if_neg fun q => ?_
  obtain ⟨q1, q2⟩ := q
  have hv := (isVr_nI (show t i < 2147483648 by have := ht7 i hi; omega)).mp q1
  obtain ⟨a, ha, hf⟩ := l5 i (by rw [hpos]; exact hi) hv.1 hv.2
  rw [hli] at ha
  obtain ⟨-, i2, i3, -⟩ := hI a ha
  rw [i2, i3] at hf
  obtain ⟨c, c1, c2, c3, c4⟩ := hB a ha (t i - 88) (by omega) (by omega)
  obtain ⟨-, j2, j3, j4⟩ := hI c c2
  have : hasV (kdRule v t tl R).2.2 (t i - 88) = true := by
    refine (anyN_iff _ _).mpr ⟨c - 1, by rw [hli]; omega, ?_⟩
    rw [show c - 1 + 1 = c by omega, j2, j3, j4 c1, c3]
    rcases c4 with w | w
    · rw [decide_eq_true w]
      rfl
    · rw [decide_eq_true w, Bool.or_true]
      rfl
  rw [this] at q2
  cases q2
