/-! LOOSE VARIABLES, and the rule that is added -/
theorem nI_or (a b : Nat) : nI a ||| nI b = nI (a ||| b) := by
  apply Int32.toBitVec_inj.mp
  simp only [Int32.toBitVec_or]
  show (BitVec.ofNat 32 a) ||| (BitVec.ofNat 32 b) = BitVec.ofNat 32 (a ||| b)
  apply BitVec.eq_of_toNat_eq
  simp [Nat.or_mod_two_pow]
theorem lsB_nI : ∀ f, f < 9 → lsB (nI f) = nI (tb f) := by decide +kernel
theorem tb_bit : ∀ f, f < 9 → ∀ x, x < 3 → (tb f).testBit x = decide (f = 6 + x) := by decide +kernel
theorem loose_bit : ∀ s, s < 8 → ∀ p, p < 8 → ∀ x, x < 3 → decide (((nI s &&& (nI p ^^^ -1)) >>> (nI x &&& 31)) &&& nI 1 = nI 1) = (s.testBit x && !p.testBit x) := by decide +kernel
theorem orM_bit (f : Nat → Nat) (x : Nat) : ∀ n, (orM f n).testBit x = true ↔ ∃ i, i < n ∧ (f i).testBit x = true
  | 0 => by
    refine ⟨fun h => ?_, fun ⟨i, h, _⟩ => absurd h (Nat.not_lt_zero i)⟩
    have h : (0 : Nat).testBit x = true := h
    rw [Nat.zero_testBit] at h
    cases h
  | n + 1 => by
    show (orM f n ||| f n).testBit x = true ↔ _
    rw [Nat.testBit_or, Bool.or_eq_true, orM_bit f x n]
    constructor
    · rintro (⟨i, h1, h2⟩ | h)
      · exact ⟨i, by omega, h2⟩
      · exact ⟨n, Nat.lt_succ_self n, h⟩
    · rintro ⟨i, h1, h2⟩
      by_cases e : i = n
      · subst e; exact Or.inr h2
      · exact Or.inl ⟨i, by omega, h2⟩
def sN (R : RuS) (n : Nat) : Nat := orM (fun r => tb (R.fi r) ||| tb (R.se r)) n
def pN (R : RuS) (n : Nat) : Nat := orM (fun r => if r ≠ 0 ∧ R.ng r = false then tb (R.fi r) ||| tb (R.se r) else 0) n
theorem or8 {a b : Nat} (ha : a < 8) (hb : b < 8) : a ||| b < 8 := Nat.or_lt_two_pow (n := 3) ha hb
theorem ls_eq {t : Nat → Nat} {k : Nat} {s : PS} {s' : KS} (h : LT t k s s') (hB : RuB s'.2 k) : ∀ n, n ≤ k + 1 → itN (lsW s.2) (nI 0, nI 0) n = (nI (sN s'.2 n), nI (pN s'.2 n))
  | 0, _ => rfl
  | n + 1, hn => by
    have hh := h
    obtain ⟨-, h2, h3, h4, -⟩ := hh
    obtain ⟨-, f1, f2⟩ := h2 n (by omega)
    obtain ⟨-, b1, b2⟩ := hB n (by omega)
    have hg : (n ≠ 0 ∧ s.2 (4 * n + 3) = 0) ↔ (n ≠ 0 ∧ s'.2.ng n = false) := by
      by_cases q : n = 0
      · exact ⟨fun w => absurd q w.1, fun w => absurd q w.1⟩
      · rw [h3 n (by omega) (by omega), bI_0]
    show lsW s.2 n (itN (lsW s.2) (nI 0, nI 0) n) = _
    rw [ls_eq h hB n (by omega)]
    show ((nI (sN s'.2 n) ||| lsB (s.2 (4 * n + 1))) ||| lsB (s.2 (4 * n + 2)), (nI (pN s'.2 n) ||| (if n ≠ 0 ∧ s.2 (4 * n + 3) = 0 then lsB (s.2 (4 * n + 1)) else nI 0)) ||| (if n ≠ 0 ∧ s.2 (4 * n + 3) = 0 then lsB (s.2 (4 * n + 2)) else nI 0)) = (nI (sN s'.2 n ||| (tb (s'.2.fi n) ||| tb (s'.2.se n))), nI (pN s'.2 n ||| (if n ≠ 0 ∧ s'.2.ng n = false then tb (s'.2.fi n) ||| tb (s'.2.se n) else 0)))
    rw [f1, f2, lsB_nI _ b1, lsB_nI _ b2, nI_or, nI_or, Nat.or_assoc]
    by_cases q : n ≠ 0 ∧ s'.2.ng n = false
    · rw [if_pos (hg.mpr q), if_pos (hg.mpr q), if_pos q, nI_or, nI_or, Nat.or_assoc]
    · rw [if_neg (fun w => q (hg.mp w)), if_neg (fun w => q (hg.mp w)), if_neg q, nI_or, nI_or, Nat.or_zero, Nat.or_zero]
theorem sN_lt {R : RuS} {k : Nat} (hB : RuB R k) : sN R (k + 1) < 8 := orM_lt (k + 1) fun r hr => or8 (tb_lt (hB r (by omega)).2.1) (tb_lt (hB r (by omega)).2.2)
theorem pN_lt {R : RuS} {k : Nat} (hB : RuB R k) : pN R (k + 1) < 8 := orM_lt (k + 1) fun r hr => by
  show (if r ≠ 0 ∧ R.ng r = false then tb (R.fi r) ||| tb (R.se r) else 0) < 8
  split
  · exact or8 (tb_lt (hB r (by omega)).2.1) (tb_lt (hB r (by omega)).2.2)
  · omega
theorem sN_bit {R : RuS} {k x : Nat} (hB : RuB R k) (hx : x < 3) : (sN R (k + 1)).testBit x = true ↔ ∃ a, a ≤ k ∧ (R.fi a = 6 + x ∨ R.se a = 6 + x) := by
  unfold sN
  rw [orM_bit]
  constructor
  · rintro ⟨i, hi, h⟩
    obtain ⟨-, b1, b2⟩ := hB i (by omega)
    rw [Nat.testBit_or, tb_bit _ b1 x hx, tb_bit _ b2 x hx, Bool.or_eq_true, decide_eq_true_iff, decide_eq_true_iff] at h
    exact ⟨i, by omega, h⟩
  · rintro ⟨i, hi, h⟩
    obtain ⟨-, b1, b2⟩ := hB i hi
    refine ⟨i, by omega, ?_⟩
    rw [Nat.testBit_or, tb_bit _ b1 x hx, tb_bit _ b2 x hx, Bool.or_eq_true, decide_eq_true_iff, decide_eq_true_iff]
    exact h
theorem pN_bit {R : RuS} {x : Nat} (hB : RuB R R.li) (hx : x < 3) : (pN R (R.li + 1)).testBit x = hasV R x := by
  rw [Bool.eq_iff_iff]
  unfold pN hasV
  rw [orM_bit, anyN_iff]
  constructor
  · rintro ⟨i, hi, h⟩
    obtain ⟨-, b1, b2⟩ := hB i (by omega)
    by_cases q : i ≠ 0 ∧ R.ng i = false
    · rw [if_pos q, Nat.testBit_or, tb_bit _ b1 x hx, tb_bit _ b2 x hx] at h
      refine ⟨i - 1, by omega, ?_⟩
      rw [show i - 1 + 1 = i by omega, q.2]
      exact h
    · rw [if_neg q, Nat.zero_testBit] at h
      cases h
  · rintro ⟨i, hi, h⟩
    obtain ⟨-, b1, b2⟩ := hB (i + 1) (by omega)
    rw [Bool.and_eq_true, Bool.not_eq_true'] at h
    refine ⟨i + 1, by omega, ?_⟩
    rw [if_pos ⟨by omega, h.1⟩, Nat.testBit_or, tb_bit _ b1 x hx, tb_bit _ b2 x hx]
    exact h.2
/-- a letter of the text is a loose variable on both sides -/
theorem lsAt_eq {t : Nat → Nat} {tl : Nat} {s : PS} {s' : KS} (ht7 : ∀ i, i < tl → t i < 128) (h : LT t s'.2.li s s') (hB : RuB s'.2 s'.2.li) (hp : s'.1 = tl) {i : Nat} (hi : i < tl) : lsAt (looseV s.2 s'.2.li) (nI (t i)) = true ↔ (isVr (nI (t i)) = true ∧ hasV s'.2 (t i - 88) = false) := by
  have h7 := ht7 i hi
  unfold lsAt looseV
  rw [Bool.and_eq_true, show decide (nI 88 ≤ nI (t i) ∧ nI (t i) ≤ nI 90) = isVr (nI (t i)) from rfl]
  by_cases hv : isVr (nI (t i)) = true
  · obtain ⟨v1, v2⟩ := (isVr_nI (by omega)).mp hv
    obtain ⟨a, ha, hfs⟩ := h.2.2.2.2.1 i (by omega) v1 v2
    have hseen : (sN s'.2 (s'.2.li + 1)).testBit (t i - 88) = true := (sN_bit hB (by omega)).mpr ⟨a, ha, by omega⟩
    rw [ls_eq h hB _ (Nat.le_refl _), pk_sub v1, loose_bit _ (sN_lt hB) _ (pN_lt hB) _ (by omega), hseen, pN_bit hB (by omega), Bool.true_and, Bool.not_eq_true']
  · exact ⟨fun w => absurd w.1 hv, fun w => absurd w.1 hv⟩
theorem scan_eq {t : Nat → Nat} {tl : Nat} {L : Int32} {R : RuS} (h : ∀ i, i < tl → (lsAt L (nI (t i)) = true ↔ (isVr (nI (t i)) = true ∧ hasV R (t i - 88) = false))) : ∀ m pl, pl + m = tl → upTo (unF t R) pl = none → (scP t L m pl = tl ∧ upTo (unF t R) tl = none) ∨ (scP t L m pl < tl ∧ upTo (unF t R) tl = some (scP t L m pl))
  | 0, pl, hp, hn => by
    have : pl = tl := by omega
    subst this
    exact Or.inl ⟨rfl, hn⟩
  | m + 1, pl, hp, hn => by
    have hl := h pl (by omega)
    unfold scP
    by_cases q : lsAt L (nI (t pl)) = true
    · rw [if_pos q]
      exact Or.inr ⟨by omega, upTo_hit hn (if_pos (hl.mp q)) (by omega)⟩
    · rw [if_neg q]
      exact scan_eq h m (pl + 1) (by omega) (upTo_miss hn (if_neg (fun w => q (hl.mpr w))))
/-- the fault position is the same on both sides; where there is none, the rule is whole -/
theorem text_eq {v t : Nat → Nat} {tl : Nat} (h6 : v 0 ≤ 6) (ht7 : ∀ i, i < tl → t i < 128) (hl : tl ≤ 60) (td : Nat → Int32) (R : RuS) :
    ffV v t tl R = (if (rdText v t tl td).1 = true then -5 else nI (rdText v t tl td).2.2.1) ∧ ((rdText v t tl td).1 = true ↔ ffV v t tl R = -5) ∧ ((rdText v t tl td).1 = true → (kdRule v t tl R).1 = true ∧ (rdText v t tl td).2.1 = (kdRule v t tl R).2.2.li ∧ LT t (kdRule v t tl R).2.2.li (tl, (rdText v t tl td).2.2.2) (kdRule v t tl R).2 ∧ ∀ i, i < tl → isVr (nI (t i)) = true → hasV (kdRule v t tl R).2.2 (t i - 88) = true) := by
  obtain ⟨g1, g2, g3⟩ := form_eq h6 ht7 td R
  unfold rdText ffV txL
  rw [g1]
  cases hf : (kdRule v t tl R).1
  · have hpos : (kdRule v t tl R).2.1 ≤ tl := by
      have k0 := kdAtom_le (v := v) (t := t) (k := 0) h6 (s := (0, R)) (Nat.zero_le tl)
      have kl : ∀ m k (s : KS), s.1 ≤ tl → (kdLits v t tl m k s).2.1 ≤ tl := by
        intro m
        induction m with
        | zero => exact fun k s hs => hs
        | succ m ih =>
          intro k s hs
          have q1 : (kdLit v t tl (k + 1) s).2.1 ≤ tl := kdAtom_le h6 (kdTake_le (by omega) hs)
          unfold kdLits
          split
          · have q2 : (kdSet (k + 1) (kdLit v t tl (k + 1) s).2).1 ≤ tl := q1
            split
            · split
              · exact ih _ _ (kdTake_le (by omega) q2)
              · exact kdTake_le (by omega) q2
            · exact q2
          · exact q1
      unfold kdRule
      split
      · split
        · exact kl 3 0 _ (kdTake_le (by omega) k0)
        · exact kdTake_le (by omega) k0
      · exact k0
    show nI (kdRule v t tl R).2.1 = nI (rdForm v t tl td).2.2.1 ∧ (false = true ↔ nI (kdRule v t tl R).2.1 = -5) ∧ _
    rw [g2]
    exact ⟨rfl, ⟨fun q => (by cases q), fun q => absurd q.symm (fun w => by
      have := nI_pos' (n := (kdRule v t tl R).2.1) (by omega)
      rw [← w] at this
      exact absurd this (by decide))⟩, fun q => (by cases q)⟩
  · obtain ⟨k1, k2, k3⟩ := g3 hf
    obtain ⟨b1, b2, b3⟩ := kdRule_B h6 hf
    have hp1 : (rdForm v t tl td).2.2.1 = tl := g2.trans k3
    have hS : (rdForm v t tl td).2.2 = (tl, (rdForm v t tl td).2.2.2) := Prod.ext hp1 rfl
    rw [if_pos rfl, if_pos rfl, k1]
    rw [hS] at k2
    have hsc := scan_eq (t := t) (L := looseV (rdForm v t tl td).2.2.2 (kdRule v t tl R).2.2.li) (R := (kdRule v t tl R).2.2) (fun i hi => lsAt_eq (s := (tl, (rdForm v t tl td).2.2.2)) ht7 k2 b3 k3 hi) tl 0 (Nat.zero_add tl) rfl
    show unV t (kdRule v t tl R).2.2 tl = (if decide (scP t (looseV (rdForm v t tl td).2.2.2 (kdRule v t tl R).2.2.li) tl 0 = tl) = true then -5 else nI (scP t (looseV (rdForm v t tl td).2.2.2 (kdRule v t tl R).2.2.li) tl 0)) ∧ (decide (scP t (looseV (rdForm v t tl td).2.2.2 (kdRule v t tl R).2.2.li) tl 0 = tl) = true ↔ unV t (kdRule v t tl R).2.2 tl = -5) ∧ (decide (scP t (looseV (rdForm v t tl td).2.2.2 (kdRule v t tl R).2.2.li) tl 0 = tl) = true → true = true ∧ (kdRule v t tl R).2.2.li = (kdRule v t tl R).2.2.li ∧ LT t (kdRule v t tl R).2.2.li (tl, (rdForm v t tl td).2.2.2) (kdRule v t tl R).2 ∧ ∀ i, i < tl → isVr (nI (t i)) = true → hasV (kdRule v t tl R).2.2 (t i - 88) = true)
    unfold unV
    rcases hsc with ⟨e1, e2⟩ | ⟨e1, e2⟩
    · rw [e2, decide_eq_true e1, if_pos rfl]
      refine ⟨rfl, ⟨fun _ => rfl, fun _ => rfl⟩, fun _ => ⟨rfl, rfl, k2, fun i hi hv => ?_⟩⟩
      cases q : hasV (kdRule v t tl R).2.2 (t i - 88)
      · have e3 : unF t (kdRule v t tl R).2.2 i = some i := if_pos ⟨hv, q⟩
        have hno : ∀ n, i < n → n ≤ tl → upTo (unF t (kdRule v t tl R).2.2) n ≠ none := by
          intro n
          induction n with
          | zero => intro h; exact absurd h (Nat.not_lt_zero i)
          | succ n ih =>
            intro hn hn2 hN
            have hN : (upTo (unF t (kdRule v t tl R).2.2) n).or (unF t (kdRule v t tl R).2.2 n) = none := hN
            by_cases e : i = n
            · subst e
              rw [e3] at hN
              cases w : upTo (unF t (kdRule v t tl R).2.2) i
              · rw [w] at hN; cases hN
              · rw [w] at hN; cases hN
            · cases w : upTo (unF t (kdRule v t tl R).2.2) n
              · exact ih (by omega) (by omega) w
              · rw [w] at hN; cases hN
        exact absurd e2 (hno tl hi (Nat.le_refl _))
      · rfl
    · rw [e2, decide_eq_false (by omega), if_neg (by decide)]
      refine ⟨rfl, ⟨fun q => (by cases q), fun q => ?_⟩, fun q => (by cases q)⟩
      have q : nI (scP t (looseV (rdForm v t tl td).2.2.2 (kdRule v t tl R).2.2.li) tl 0) = -1 - 4 := q
      have := nI_pos' (n := scP t (looseV (rdForm v t tl td).2.2.2 (kdRule v t tl R).2.2.li) tl 0) (by omega)
      rw [q] at this
      exact absurd this (by decide)
