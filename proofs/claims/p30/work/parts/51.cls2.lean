/-! THE CLASS'S PROGRAM: 46 cells from b on -/
/-- n, places, how many base facts, their atoms, costs, sixteenths, how many rules, the rules -/
abbrev PgS : Type := Nat × (Nat → Nat) × Nat × (Nat → Nat) × (Nat → Nat) × (Nat → Nat) × Nat × (Nat → RuS)
abbrev PgS.c (P : PgS) : Nat := P.1
abbrev PgS.pl (P : PgS) : Nat → Nat := P.2.1
abbrev PgS.fc (P : PgS) : Nat := P.2.2.1
abbrev PgS.fa (P : PgS) : Nat → Nat := P.2.2.2.1
abbrev PgS.fo (P : PgS) : Nat → Nat := P.2.2.2.2.1
abbrev PgS.fs (P : PgS) : Nat → Nat := P.2.2.2.2.2.1
abbrev PgS.rc (P : PgS) : Nat := P.2.2.2.2.2.2.1
abbrev PgS.ru (P : PgS) : Nat → RuS := P.2.2.2.2.2.2.2
def plf (b : Nat) : Nat → Option Nat := fun j => if j < 8 then some (b + 6 + 5 * j) else none
theorem plf_at {b j : Nat} (h : j < 8) : plf b j = some (b + 6 + 5 * j) := if_pos h
def pgC (b : Nat) (P : PgS) : Nat → MC
  | 0 => .inr (5, [.int (nI P.c), .ref (b + 1), .int (nI P.fc), .ref (b + 2), .ref (b + 3), .ref (b + 4), .int (nI P.rc), .ref (b + 5)])
  | 1 => .inl (.int, 6, .inl (vI P.pl))
  | 2 => .inl (.int, 12, .inl (vI P.fa))
  | 3 => .inl (.int, 12, .inl (vI P.fo))
  | 4 => .inl (.int, 12, .inl (vI P.fs))
  | 5 => .inl (.object RX6, 8, .inr (.inr (.inr (.inr (plf b)))))
  | i + 6 => ruC (b + 6 + 5 * (i / 5)) (P.ru (i / 5)) (i % 5)
def pgH (b : Nat) (P : PgS) (h : Nat → MC) : Nat → MC := fun j => if b ≤ j ∧ j < b + 46 then pgC b P (j - b) else h j
/-- the program P stands at b -/
def PgAt (h : Nat → MC) (b : Nat) (P : PgS) : Prop := pgH b P h = h
theorem pgH_at (b : Nat) (P : PgS) (h : Nat → MC) {i : Nat} (hi : i < 46) : pgH b P h (b + i) = pgC b P i := by
  unfold pgH
  rw [if_pos (by omega), Nat.add_sub_cancel_left]
theorem pgH_0 {b : Nat} {P : PgS} {h : Nat → MC} : pgH b P h b = .inr (5, [.int (nI P.c), .ref (b + 1), .int (nI P.fc), .ref (b + 2), .ref (b + 3), .ref (b + 4), .int (nI P.rc), .ref (b + 5)]) := pgH_at b P h (i := 0) (by omega)
theorem pgH_1 {b : Nat} {P : PgS} {h : Nat → MC} : pgH b P h (b + 1) = .inl (.int, 6, .inl (vI P.pl)) := pgH_at b P h (i := 1) (by omega)
theorem pgH_2 {b : Nat} {P : PgS} {h : Nat → MC} : pgH b P h (b + 2) = .inl (.int, 12, .inl (vI P.fa)) := pgH_at b P h (i := 2) (by omega)
theorem pgH_3 {b : Nat} {P : PgS} {h : Nat → MC} : pgH b P h (b + 3) = .inl (.int, 12, .inl (vI P.fo)) := pgH_at b P h (i := 3) (by omega)
theorem pgH_4 {b : Nat} {P : PgS} {h : Nat → MC} : pgH b P h (b + 4) = .inl (.int, 12, .inl (vI P.fs)) := pgH_at b P h (i := 4) (by omega)
theorem pgH_5 {b : Nat} {P : PgS} {h : Nat → MC} : pgH b P h (b + 5) = .inl (.object RX6, 8, .inr (.inr (.inr (.inr (plf b))))) := pgH_at b P h (i := 5) (by omega)
theorem pgH_o {b : Nat} {P : PgS} {h : Nat → MC} {j : Nat} (hj : j < b ∨ b + 46 ≤ j) : pgH b P h j = h j := if_neg (by omega)
theorem pgC_ru (b : Nat) (P : PgS) {r i : Nat} (hi : i < 5) : pgC b P (5 * r + i + 6) = ruC (b + 6 + 5 * r) (P.ru r) i := by
  show ruC (b + 6 + 5 * ((5 * r + i) / 5)) (P.ru ((5 * r + i) / 5)) ((5 * r + i) % 5) = _
  rw [show (5 * r + i) / 5 = r by omega, show (5 * r + i) % 5 = i by omega]
theorem pgH_ru {b : Nat} {P : PgS} {h : Nat → MC} {r : Nat} (hr : r < 8) : RuAt (pgH b P h) (b + 6 + 5 * r) (P.ru r) := by
  have e : ∀ i, i < 5 → pgH b P h (b + 6 + 5 * r + i) = ruC (b + 6 + 5 * r) (P.ru r) i := fun i hi => by
    rw [show b + 6 + 5 * r + i = b + (5 * r + i + 6) by omega, pgH_at b P h (by omega), pgC_ru b P hi]
  exact ⟨e 0 (by omega), e 1 (by omega), e 2 (by omega), e 3 (by omega), e 4 (by omega)⟩
theorem pgH_cg (b : Nat) {P P' : PgS} (h : Nat → MC) (e : ∀ i, i < 46 → pgC b P i = pgC b P' i) : pgH b P h = pgH b P' h := by
  funext j
  unfold pgH
  by_cases q : b ≤ j ∧ j < b + 46
  · rw [if_pos q, if_pos q, e _ (by omega)]
  · rw [if_neg q, if_neg q]
theorem pgH_set (b : Nat) (P P' : PgS) (h : Nat → MC) {i : Nat} {c : MC} (hi : i < 6) (hc : pgC b P' i = c) (hR : ∀ j, j < 6 → j ≠ i → pgC b P' j = pgC b P j) (hru : P'.ru = P.ru) : hset (pgH b P h) (b + i) c = pgH b P' h := by
  funext j
  unfold hset pgH
  by_cases e : j = b + i
  · rw [if_pos e, if_pos (by omega), ← hc]
    congr 1
    omega
  · rw [if_neg e]
    by_cases q : b ≤ j ∧ j < b + 46
    · rw [if_pos q, if_pos q]
      by_cases q6 : j - b < 6
      · rw [hR (j - b) q6 (by omega)]
      · obtain ⟨t, ht⟩ : ∃ t, j - b = t + 6 := ⟨j - b - 6, by omega⟩
        rw [ht]
        show ruC _ (P.ru _) _ = ruC _ (P'.ru _) _
        rw [hru]
    · rw [if_neg q, if_neg q]
theorem pgH_p0 {b : Nat} {P : PgS} {h : Nat → MC} {x y z : Nat} : hset (pgH b P h) b (.inr (5, [.int (nI x), .ref (b + 1), .int (nI y), .ref (b + 2), .ref (b + 3), .ref (b + 4), .int (nI z), .ref (b + 5)])) = pgH b (x, P.pl, y, P.fa, P.fo, P.fs, z, P.ru) h :=
  pgH_set b P (x, P.pl, y, P.fa, P.fo, P.fs, z, P.ru) h (i := 0) (by omega) rfl (fun j hj hn => by match j, hj with | 0, _ => exact absurd rfl hn | 1, _ => rfl | 2, _ => rfl | 3, _ => rfl | 4, _ => rfl | 5, _ => rfl) rfl
theorem pgH_p1 {b : Nat} {P : PgS} {h : Nat → MC} {f : Nat → Nat} : hset (pgH b P h) (b + 1) (.inl (.int, 6, .inl (vI f))) = pgH b (P.c, f, P.fc, P.fa, P.fo, P.fs, P.rc, P.ru) h :=
  pgH_set b P (P.c, f, P.fc, P.fa, P.fo, P.fs, P.rc, P.ru) h (i := 1) (by omega) rfl (fun j hj hn => by match j, hj with | 1, _ => exact absurd rfl hn | 0, _ => rfl | 2, _ => rfl | 3, _ => rfl | 4, _ => rfl | 5, _ => rfl) rfl
theorem pgH_p2 {b : Nat} {P : PgS} {h : Nat → MC} {f : Nat → Nat} : hset (pgH b P h) (b + 2) (.inl (.int, 12, .inl (vI f))) = pgH b (P.c, P.pl, P.fc, f, P.fo, P.fs, P.rc, P.ru) h :=
  pgH_set b P (P.c, P.pl, P.fc, f, P.fo, P.fs, P.rc, P.ru) h (i := 2) (by omega) rfl (fun j hj hn => by match j, hj with | 2, _ => exact absurd rfl hn | 0, _ => rfl | 1, _ => rfl | 3, _ => rfl | 4, _ => rfl | 5, _ => rfl) rfl
theorem pgH_p3 {b : Nat} {P : PgS} {h : Nat → MC} {f : Nat → Nat} : hset (pgH b P h) (b + 3) (.inl (.int, 12, .inl (vI f))) = pgH b (P.c, P.pl, P.fc, P.fa, f, P.fs, P.rc, P.ru) h :=
  pgH_set b P (P.c, P.pl, P.fc, P.fa, f, P.fs, P.rc, P.ru) h (i := 3) (by omega) rfl (fun j hj hn => by match j, hj with | 3, _ => exact absurd rfl hn | 0, _ => rfl | 1, _ => rfl | 2, _ => rfl | 4, _ => rfl | 5, _ => rfl) rfl
theorem pgH_p4 {b : Nat} {P : PgS} {h : Nat → MC} {f : Nat → Nat} : hset (pgH b P h) (b + 4) (.inl (.int, 12, .inl (vI f))) = pgH b (P.c, P.pl, P.fc, P.fa, P.fo, f, P.rc, P.ru) h :=
  pgH_set b P (P.c, P.pl, P.fc, P.fa, P.fo, f, P.rc, P.ru) h (i := 4) (by omega) rfl (fun j hj hn => by match j, hj with | 4, _ => exact absurd rfl hn | 0, _ => rfl | 1, _ => rfl | 2, _ => rfl | 3, _ => rfl | 5, _ => rfl) rfl
theorem pgH_pr {b : Nat} {P : PgS} {h : Nat → MC} {r : Nat} {R : RuS} (hr : r < 8) : ruH (b + 6 + 5 * r) R (pgH b P h) = pgH b (P.c, P.pl, P.fc, P.fa, P.fo, P.fs, P.rc, updN P.ru r R) h := by
  funext j
  unfold ruH
  by_cases e : b + 6 + 5 * r ≤ j ∧ j < b + 6 + 5 * r + 5
  · rw [if_pos e]
    obtain ⟨i, hi, rfl⟩ : ∃ i, i < 5 ∧ j = b + 6 + 5 * r + i := ⟨j - (b + 6 + 5 * r), by omega, by omega⟩
    rw [Nat.add_sub_cancel_left, show b + 6 + 5 * r + i = b + (5 * r + i + 6) by omega, pgH_at _ _ _ (by omega), pgC_ru _ _ hi]
    show _ = ruC _ (updN P.ru r R r) i
    rw [updN_same]
  · rw [if_neg e]
    unfold pgH
    by_cases q : b ≤ j ∧ j < b + 46
    · rw [if_pos q, if_pos q]
      by_cases q6 : j - b < 6
      · generalize j - b = t at q6
        match t, q6 with
        | 0, _ => rfl
        | 1, _ => rfl
        | 2, _ => rfl
        | 3, _ => rfl
        | 4, _ => rfl
        | 5, _ => rfl
      · obtain ⟨t, ht⟩ : ∃ t, j - b = t + 6 := ⟨j - b - 6, by omega⟩
        rw [ht]
        show ruC _ (P.ru _) _ = ruC _ (updN P.ru r R _) _
        rw [updN_ne _ _ (by omega)]
    · rw [if_neg q, if_neg q]
theorem PgAt.of (b : Nat) (P : PgS) (h : Nat → MC) : PgAt (pgH b P h) b P := by
  funext j
  unfold pgH
  by_cases q : b ≤ j ∧ j < b + 46
  · rw [if_pos q, if_pos q]
  · rw [if_neg q, if_neg q]
theorem PgAt.cell {b : Nat} {P : PgS} {h : Nat → MC} (hP : PgAt h b P) {i : Nat} (hi : i < 46) : h (b + i) = pgC b P i := by
  have := congrFun hP (b + i)
  rw [pgH_at b P h hi] at this
  exact this.symm
theorem PgAt.keep {b : Nat} {P : PgS} {h h' : Nat → MC} (hP : PgAt h b P) (e : ∀ j, b ≤ j → j < b + 46 → h' j = h j) : PgAt h' b P := by
  funext j
  unfold pgH
  by_cases q : b ≤ j ∧ j < b + 46
  · rw [if_pos q, e j q.1 q.2]
    have := congrFun hP j
    unfold pgH at this
    rw [if_pos q] at this
    exact this
  · rw [if_neg q]
theorem PgAt.rule {b : Nat} {P : PgS} {h : Nat → MC} (hP : PgAt h b P) {r : Nat} (hr : r < 8) : RuAt h (b + 6 + 5 * r) (P.ru r) := by
  have := pgH_ru (b := b) (P := P) (h := h) hr
  rw [show pgH b P h = h from hP] at this
  exact this
/-- the program is what the reference's numbers say -/
def RuV (R : RuS) (v : Nat → Nat) (r : Nat) : Prop := R.pc = v (45 + 18 * r) ∧ R.li = v (45 + 18 * r + 1) ∧ ∀ a, a ≤ v (45 + 18 * r + 1) → R.pr a = v (45 + 18 * r + 2 + 4 * a) ∧ R.fi a = v (45 + 18 * r + 2 + 4 * a + 1) ∧ R.se a = v (45 + 18 * r + 2 + 4 * a + 2) ∧ (1 ≤ a → R.ng a = decide (v (45 + 18 * r + 2 + 4 * a + 3) ≠ 0))
def PgV (P : PgS) (v : Nat → Nat) : Prop := P.c = v 0 ∧ (∀ p, p < 6 → P.pl p = v (3 + p)) ∧ P.fc = v 1 ∧ (∀ k, k < v 1 → P.fa k = v (9 + 3 * k) ∧ P.fo k = v (9 + 3 * k + 1) ∧ P.fs k = v (9 + 3 * k + 2)) ∧ P.rc = v 2 ∧ ∀ r, r < v 2 → RuV (P.ru r) v r
theorem c_isPredicate (d n : Nat) (p : Int32) (h : Nat → MC) : Fn M_X9_isPredicate d 0 0 [.int p] h n (some (.int (bI (inI p 6)))) h := by
  refine Fn.of fun post hp => ?_
  refine mw_iload_n (i := 0) rfl rfl rfl ?_
  refine mw_if_lt rfl (fun hc => ?_) (fun hc => ?_)
  · rw [show inI p 6 = false from decide_eq_false (fun q => absurd q.1 (Int32.not_le.mpr hc))] at hp
    refine mw_iconst (v := nI 0) rfl (by decide) ?_
    first | exact mw_ireturn rfl rfl (bI_nar _) rfl (Nat.le_refl _) (hp) | exact mw_ireturn rfl rfl rfl rfl (Nat.le_refl _) (hp)
  · refine mw_iload_n (i := 0) rfl rfl rfl ?_
    refine mw_bipush (v := nI 6) rfl (by decide) ?_
    refine mw_icmp_ge rfl (fun hd => ?_) (fun hd => ?_)
    · rw [show inI p 6 = false from decide_eq_false (fun q => absurd q.2 (Int32.not_lt.mpr hd))] at hp
      refine mw_iconst (v := nI 0) rfl (by decide) ?_
      first | exact mw_ireturn rfl rfl (bI_nar _) rfl (Nat.le_refl _) (hp) | exact mw_ireturn rfl rfl rfl rfl (Nat.le_refl _) (hp)
    · rw [show inI p 6 = true from decide_eq_true ⟨Int32.not_lt.mp hc, Int32.not_le.mp hd⟩] at hp
      refine mw_iconst (v := nI 1) rfl (by decide) ?_
      refine mw_goto rfl ?_
      first | exact mw_ireturn rfl rfl (bI_nar _) rfl (Nat.le_refl _) (hp) | exact mw_ireturn rfl rfl rfl rfl (Nat.le_refl _) (hp)
theorem c_atomNumber (d n : Nat) (p a b : Nat) (h : Nat → MC) : Fn M_X9_atomNumber d 0 0 [.int (nI p), .int (nI a), .int (nI b)] h n (some (.int (nI (p * 36 + a * 6 + b)))) h := by
  refine Fn.of fun post hp => ?_
  refine mw_iload_n (i := 0) rfl rfl rfl ?_
  refine mw_bipush (v := nI 36) rfl (by decide) ?_
  first | refine mw_nmul rfl ?_ | refine mw_imul rfl ?_
  refine mw_iload_n (i := 1) rfl rfl rfl ?_
  refine mw_bipush (v := nI 6) rfl (by decide) ?_
  first | refine mw_nmul rfl ?_ | refine mw_imul rfl ?_
  first | refine mw_nadd rfl ?_ | refine mw_iadd rfl ?_
  refine mw_iload_n (i := 2) rfl rfl rfl ?_
  first | refine mw_nadd rfl ?_ | refine mw_iadd rfl ?_
  exact mw_ireturn rfl rfl rfl rfl (Nat.le_refl _) (hp)
theorem c_hasAtom (d n : Nat) (p a b : Int32) (P : PgS) (v : Nat → Nat) (h : Nat → MC) (hP : PgAt h 1 P) (hV : PgV P v) (hok : OkN v) : Fn M_X5_hasAtom (d + 1) 0 0 [.ref 1, .int p, .int a, .int b] h n (some (.int (bI (isF v p a b)))) h := by
  have hP0 : h 1 = _ := hP.cell (i := 0) (by omega)
  have hP1 : h 2 = _ := hP.cell (i := 1) (by omega)
  obtain ⟨hn1, hn6, hf12, hr8, hpl, hfa, hru⟩ := hok
  obtain ⟨vc, vpl, vfc, vfa, vrc, vru⟩ := hV
  refine Fn.of fun post hp => ?_
  refine mw_iload_n (i := 1) rfl rfl rfl ?_
  refine mw_callSN_f (c_isPredicate d n p h) rfl ok_X9_isPredicate v_X5_57 rfl (Nat.le_of_ble_eq_true rfl) rfl (Nat.le_of_ble_eq_true rfl) (by omega) (by omega) (by omega) ?_
  refine mw_b_eq rfl (fun hc => ?_) (fun hc => ?_)
  · have e : isF v p a b = false := by simp [isF, hc]
    rw [e] at hp
    refine mw_iconst (v := nI 0) rfl (by decide) ?_
    first | exact mw_ireturn rfl rfl (bI_nar _) rfl (Nat.le_refl _) (hp) | exact mw_ireturn rfl rfl rfl rfl (Nat.le_refl _) (hp)
  · have hc1 := hc
    obtain ⟨q, hq, rfl⟩ := inI_of hc (by omega)
    refine mw_iload_n (i := 2) rfl rfl rfl ?_
    refine mw_if_lt rfl (fun h2 => ?_) (fun h2 => ?_)
    · have : inI a (v 0) = false := decide_eq_false (fun t => absurd t.1 (Int32.not_le.mpr h2))
      have e : isF v (nI q) a b = false := by simp [isF, this]
      rw [e] at hp
      refine mw_iconst (v := nI 0) rfl (by decide) ?_
      first | exact mw_ireturn rfl rfl (bI_nar _) rfl (Nat.le_refl _) (hp) | exact mw_ireturn rfl rfl rfl rfl (Nat.le_refl _) (hp)
    · refine mw_iload_n (i := 2) rfl rfl rfl ?_
      refine mw_aload_n (i := 0) rfl rfl rfl ?_
      refine mw_getfield rfl f_X5_9 (by first | rfl | exact hP0 | exact hP1) rfl ?_
      refine mw_icmp_ge rfl (fun h3 => ?_) (fun h3 => ?_)
      · have : inI a (v 0) = false := decide_eq_false (fun t => absurd t.2 (Int32.not_lt.mpr (by rw [← vc]; exact h3)))
        have e : isF v (nI q) a b = false := by simp [isF, this]
        rw [e] at hp
        refine mw_iconst (v := nI 0) rfl (by decide) ?_
        first | exact mw_ireturn rfl rfl (bI_nar _) rfl (Nat.le_refl _) (hp) | exact mw_ireturn rfl rfl rfl rfl (Nat.le_refl _) (hp)
      · have ha : inI a (v 0) = true := decide_eq_true ⟨Int32.not_lt.mp h2, by rw [← vc]; exact Int32.not_le.mp h3⟩
        refine mw_iload_n (i := 3) rfl rfl rfl ?_
        refine mw_if_ge rfl (fun h4 => ?_) (fun h4 => ?_)
        · refine mw_aload_n (i := 0) rfl rfl rfl ?_
          refine mw_getfield rfl f_X5_15 (by first | rfl | exact hP0 | exact hP1) rfl ?_
          refine mw_iload_n (i := 1) rfl rfl rfl ?_
          refine mw_iald_v rfl hP1 (by omega) (by omega) (congrArg nI (vpl q hq)) ?_
          have hq2 := hpl q hq
          refine mw_iconst (v := nI 1) rfl (by decide) ?_
          refine mw_n_ne rfl (by omega) (by omega) (fun h5 => ?_) (fun h5 => ?_)
          · have h5' : v (3 + q) = 2 := by rcases hq2 with t | t; exact absurd t h5; exact t
            refine mw_iload_n (i := 3) rfl rfl rfl ?_
            refine mw_aload_n (i := 0) rfl rfl rfl ?_
            refine mw_getfield rfl f_X5_9 (by first | rfl | exact hP0 | exact hP1) rfl ?_
            refine mw_icmp_ge rfl (fun h6 => ?_) (fun h6 => ?_)
            · have : inI b (v 0) = false := decide_eq_false (fun t => absurd t.2 (Int32.not_lt.mpr (by rw [← vc]; exact h6)))
              have e : isF v (nI q) a b = false := by simp [isF, this]
              rw [e] at hp
              refine mw_iconst (v := nI 0) rfl (by decide) ?_
              first | exact mw_ireturn rfl rfl (bI_nar _) rfl (Nat.le_refl _) (hp) | exact mw_ireturn rfl rfl rfl rfl (Nat.le_refl _) (hp)
            · have hb : inI b (v 0) = true := decide_eq_true ⟨h4, by rw [← vc]; exact Int32.not_le.mp h6⟩
              have e : isF v (nI q) a b = true := by simp [isF, hc1, ha, hb, nI_clamp (show q < 2 ^ 31 by omega), h5']
              rw [e] at hp
              refine mw_iconst (v := nI 1) rfl (by decide) ?_
              refine mw_goto rfl ?_
              first | exact mw_ireturn rfl rfl (bI_nar _) rfl (Nat.le_refl _) (hp) | exact mw_ireturn rfl rfl rfl rfl (Nat.le_refl _) (hp)
          · refine mw_iload_n (i := 3) rfl rfl rfl ?_
            refine mw_if_ne rfl (fun h6 => ?_) (fun h6 => ?_)
            · have e : isF v (nI q) a b = false := by simp [isF, hc1, ha, nI_clamp (show q < 2 ^ 31 by omega), h5, h6]
              rw [e] at hp
              refine mw_iconst (v := nI 0) rfl (by decide) ?_
              refine mw_goto rfl ?_
              first | exact mw_ireturn rfl rfl (bI_nar _) rfl (Nat.le_refl _) (hp) | exact mw_ireturn rfl rfl rfl rfl (Nat.le_refl _) (hp)
            · have hb : inI b (v 0) = true := by rw [h6]; exact inI_nI (j := 0) (by omega) (by omega)
              have e : isF v (nI q) a b = true := by rw [h6] at hb ⊢; simp [isF, hc1, ha, hb]
              rw [e] at hp
              refine mw_iconst (v := nI 1) rfl (by decide) ?_
              refine mw_goto rfl ?_
              first | exact mw_ireturn rfl rfl (bI_nar _) rfl (Nat.le_refl _) (hp) | exact mw_ireturn rfl rfl rfl rfl (Nat.le_refl _) (hp)
        · have : inI b (v 0) = false := decide_eq_false (fun t => absurd t.1 h4)
          have e : isF v (nI q) a b = false := by simp [isF, this]
          rw [e] at hp
          refine mw_iconst (v := nI 0) rfl (by decide) ?_
          first | exact mw_ireturn rfl rfl (bI_nar _) rfl (Nat.le_refl _) (hp) | exact mw_ireturn rfl rfl rfl rfl (Nat.le_refl _) (hp)
theorem anyN_cg {f g : Nat → Bool} : ∀ {n : Nat}, (∀ k, k < n → f k = g k) → anyN f n = anyN g n
  | 0, _ => rfl
  | n + 1, h => by simp only [anyN]; rw [anyN_cg (fun k hk => h k (by omega)), h n (by omega)]
theorem c_uses (d n : Nat) (p : Nat) (P : PgS) (v : Nat → Nat) (h : Nat → MC) (hP : PgAt h 1 P) (hV : PgV P v) (hok : OkN v) (hp6 : p < 6) : Fn M_X5_uses (d + 1) 0 0 [.ref 1, .int (nI p)] h n (some (.int (bI (isUsedV v p)))) h := by
  have hP0 : h 1 = _ := hP.cell (i := 0) (by omega)
  have hP2 : h 3 = _ := hP.cell (i := 2) (by omega)
  have hP5 : h 6 = .inl (.object RX6, 8, .inr (.inr (.inr (.inr (plf 1))))) := hP.cell (i := 5) (by omega)
  obtain ⟨hn1, hn6, hf12, hr8, hpl, hfa, hru⟩ := hok
  obtain ⟨vc, vpl, vfc, vfa, vrc, vru⟩ := hV
  refine Fn.of fun post hp => ?_
  have hp : post (some (.int (bI (anyN (usedF v p) P.fc || anyN (usedR v p) P.rc)))) h := by rw [vfc, vrc]; exact hp
  refine mw_iconst (v := nI 0) rfl (by decide) ?_
  refine mw_istore_n (i := 2) rfl rfl (Nat.le_of_ble_eq_true rfl) ?_
  have loop2 : anyN (usedF v p) P.fc = false → ∀ r, r ≤ P.rc → anyN (usedR v p) r = false → MW M_X5_uses (d + 1) 0 0 n post 33 [(0, .ref 1), (1, .int (nI p)), (2, .int (nI r))] [] h n 0 := by
    intro hF
    refine loop_up P.rc ?_ ?_
    · intro hf
      rw [hF, hf] at hp
      refine mw_iload_n (i := 2) rfl rfl rfl ?_
      refine mw_aload_n (i := 0) rfl rfl rfl ?_
      refine mw_getfield rfl f_X5_44 (by first | rfl | exact hP0 | exact hP2 | exact hP5 | exact hRr.1) rfl ?_
      refine mw_n_ge rfl (by omega) (by omega) (fun hc => ?_) (fun hc => ?_)
      · refine mw_iconst (v := nI 0) rfl (by decide) ?_
        first | exact mw_ireturn rfl rfl (bI_nar _) rfl (Nat.le_refl _) (hp) | exact mw_ireturn rfl rfl rfl rfl (Nat.le_refl _) (hp)
      · omega
    · intro r hr ih hf
      have hr2 : r < v 2 := by rw [← vrc]; exact hr
      obtain ⟨q1, q2, qa⟩ := vru r hr2
      obtain ⟨-, -, hl1, hl3, hat⟩ := hru r hr2
      have hRr : RuAt h (7 + 5 * r) (P.ru r) := hP.rule (show r < 8 by omega)
      have e1 : anyN (fun a => decide ((P.ru r).pr a = p)) ((P.ru r).li + 1) = usedR v p r := by
        unfold usedR
        rw [q2]
        exact anyN_cg fun a ha => by unfold usedA; rw [(qa a (by omega)).1]
      refine mw_iload_n (i := 2) rfl rfl rfl ?_
      refine mw_aload_n (i := 0) rfl rfl rfl ?_
      refine mw_getfield rfl f_X5_44 (by first | rfl | exact hP0 | exact hP2 | exact hP5 | exact hRr.1) rfl ?_
      refine mw_n_ge rfl (by omega) (by omega) (fun hc => ?_) (fun hc => ?_)
      · omega
      · refine mw_aload_n (i := 0) rfl rfl rfl ?_
        refine mw_getfield rfl f_X5_30 (by first | rfl | exact hP0 | exact hP2 | exact hP5 | exact hRr.1) rfl ?_
        refine mw_iload_n (i := 2) rfl rfl rfl ?_
        refine mw_aald (ti := 5) rfl hP5 rfl (by omega) (by omega) (plf_at (b := 1) (by omega)) ?_
        refine mw_iload_n (i := 1) rfl rfl rfl ?_
        refine mw_callV_f (c_mentions d n (7 + 5 * r) (P.ru r) p h hRr (by omega) (fun a ha => by rw [(qa a (by omega)).1]; exact (hat a (by omega)).1) hp6) rfl ok_X6_mentions v_X5_61 rfl (by first | rfl | exact hP0 | exact hP2 | exact hP5 | exact hRr.1) (by intro e; cases e) rfl (Nat.le_of_ble_eq_true rfl) rfl (Nat.le_of_ble_eq_true rfl) (by omega) (by omega) (by omega) ?_
        rw [e1]
        refine mw_b_eq rfl (fun hb => ?_) (fun hb => ?_)
        · first | refine mw_ninc rfl rfl (Nat.le_of_ble_eq_true rfl) ?_ | refine mw_iinc rfl rfl rfl (Nat.le_of_ble_eq_true rfl) ?_
          refine mw_goto rfl ?_
          exact mw_locals rfl (ih (by show (anyN _ r || usedR v p r) = false; rw [hf, hb]; rfl))
        · rw [(anyN_iff (usedR v p) P.rc).mpr ⟨r, hr, hb⟩, Bool.or_true] at hp
          refine mw_iconst (v := nI 1) rfl (by decide) ?_
          first | exact mw_ireturn rfl rfl (bI_nar _) rfl (Nat.le_refl _) (hp) | exact mw_ireturn rfl rfl rfl rfl (Nat.le_refl _) (hp)
  have loop : ∀ k, k ≤ P.fc → anyN (usedF v p) k = false → MW M_X5_uses (d + 1) 0 0 n post 2 [(0, .ref 1), (1, .int (nI p)), (2, .int (nI k))] [] h n 0 := by
    refine loop_up P.fc ?_ ?_
    · intro hf
      refine mw_iload_n (i := 2) rfl rfl rfl ?_
      refine mw_aload_n (i := 0) rfl rfl rfl ?_
      refine mw_getfield rfl f_X5_41 (by first | rfl | exact hP0 | exact hP2 | exact hP5 | exact hRr.1) rfl ?_
      refine mw_n_ge rfl (by omega) (by omega) (fun hc => ?_) (fun hc => ?_)
      · refine mw_iconst (v := nI 0) rfl (by decide) ?_
        refine mw_istore_n (i := 2) rfl rfl (Nat.le_of_ble_eq_true rfl) ?_
        exact mw_locals rfl (loop2 hf 0 (by omega) rfl)
      · omega
    · intro k hk ih hf
      have hk2 : k < v 1 := by rw [← vfc]; exact hk
      have h216 := (hfa k hk2).1
      refine mw_iload_n (i := 2) rfl rfl rfl ?_
      refine mw_aload_n (i := 0) rfl rfl rfl ?_
      refine mw_getfield rfl f_X5_41 (by first | rfl | exact hP0 | exact hP2 | exact hP5 | exact hRr.1) rfl ?_
      refine mw_n_ge rfl (by omega) (by omega) (fun hc => ?_) (fun hc => ?_)
      · omega
      · refine mw_aload_n (i := 0) rfl rfl rfl ?_
        refine mw_getfield rfl f_X5_19 (by first | rfl | exact hP0 | exact hP2 | exact hP5 | exact hRr.1) rfl ?_
        refine mw_iload_n (i := 2) rfl rfl rfl ?_
        refine mw_iald_v rfl hP2 (by omega) (by omega) (congrArg nI (vfa k hk2).1) ?_
        refine mw_bipush (v := nI 36) rfl (by decide) ?_
        refine mw_ndiv rfl (by omega) (by omega) (by omega) ?_
        refine mw_iload_n (i := 1) rfl rfl rfl ?_
        refine mw_n_ne rfl (by omega) (by omega) (fun he => ?_) (fun he => ?_)
        · first | refine mw_ninc rfl rfl (Nat.le_of_ble_eq_true rfl) ?_ | refine mw_iinc rfl rfl rfl (Nat.le_of_ble_eq_true rfl) ?_
          refine mw_goto rfl ?_
          exact mw_locals rfl (ih (by show (anyN _ k || usedF v p k) = false; rw [hf]; unfold usedF; rw [decide_eq_false he]; rfl))
        · rw [(anyN_iff (usedF v p) P.fc).mpr ⟨k, hk, decide_eq_true he⟩] at hp
          refine mw_iconst (v := nI 1) rfl (by decide) ?_
          first | exact mw_ireturn rfl rfl (bI_nar _) rfl (Nat.le_refl _) (hp) | exact mw_ireturn rfl rfl rfl rfl (Nat.le_refl _) (hp)
  exact mw_locals rfl (loop 0 (by omega) rfl)
theorem c_enterFact (d n b : Nat) (f c s : Nat) (P : PgS) (h : Nat → MC) (h12 : P.fc < 12) : Fn M_X5_enterFact d 0 0 [.ref b, .int (nI f), .int (nI c), .int (nI s)] (pgH b P h) n (some (.int (nI P.fc))) (pgH b (P.c, P.pl, P.fc + 1, updN P.fa P.fc f, updN P.fo P.fc c, updN P.fs P.fc s, P.rc, P.ru) h) := by
  refine Fn.of fun post hp => ?_
  refine mw_aload_n (i := 0) rfl rfl rfl ?_
  refine mw_getfield rfl f_X5_41 (by first | rfl | exact pgH_0 | exact pgH_1 | exact pgH_2 | exact pgH_3 | exact pgH_4 | exact pgH_5) rfl ?_
  refine mw_istore rfl (Nat.le_of_ble_eq_true rfl) ?_
  refine mw_aload_n (i := 0) rfl rfl rfl ?_
  refine mw_getfield rfl f_X5_19 (by first | rfl | exact pgH_0 | exact pgH_1 | exact pgH_2 | exact pgH_3 | exact pgH_4 | exact pgH_5) rfl ?_
  refine mw_iload rfl rfl ?_
  refine mw_iload_n (i := 1) rfl rfl rfl ?_
  refine mw_iast rfl (by first | rfl | exact pgH_0 | exact pgH_1 | exact pgH_2 | exact pgH_3 | exact pgH_4 | exact pgH_5) (by omega) (by omega) ?_
  first | rw [vI_upd] | rw [vI_updv] | skip
  rw [pgH_p2]
  refine mw_aload_n (i := 0) rfl rfl rfl ?_
  refine mw_getfield rfl f_X5_22 (by first | rfl | exact pgH_0 | exact pgH_1 | exact pgH_2 | exact pgH_3 | exact pgH_4 | exact pgH_5) rfl ?_
  refine mw_iload rfl rfl ?_
  refine mw_iload_n (i := 2) rfl rfl rfl ?_
  refine mw_iast rfl (by first | rfl | exact pgH_0 | exact pgH_1 | exact pgH_2 | exact pgH_3 | exact pgH_4 | exact pgH_5) (by omega) (by omega) ?_
  first | rw [vI_upd] | rw [vI_updv] | skip
  rw [pgH_p3]
  refine mw_aload_n (i := 0) rfl rfl rfl ?_
  refine mw_getfield rfl f_X5_25 (by first | rfl | exact pgH_0 | exact pgH_1 | exact pgH_2 | exact pgH_3 | exact pgH_4 | exact pgH_5) rfl ?_
  refine mw_iload rfl rfl ?_
  refine mw_iload_n (i := 3) rfl rfl rfl ?_
  refine mw_iast rfl (by first | rfl | exact pgH_0 | exact pgH_1 | exact pgH_2 | exact pgH_3 | exact pgH_4 | exact pgH_5) (by omega) (by omega) ?_
  first | rw [vI_upd] | rw [vI_updv] | skip
  rw [pgH_p4]
  refine mw_aload_n (i := 0) rfl rfl rfl ?_
  refine mw_dup rfl rfl ?_
  refine mw_getfield rfl f_X5_41 (by first | rfl | exact pgH_0 | exact pgH_1 | exact pgH_2 | exact pgH_3 | exact pgH_4 | exact pgH_5) rfl ?_
  refine mw_iconst (v := nI 1) rfl (by decide) ?_
  first | refine mw_nadd rfl ?_ | refine mw_iadd rfl ?_
  refine mw_putfield rfl f_X5_41 (by first | rfl | exact pgH_0 | exact pgH_1 | exact pgH_2 | exact pgH_3 | exact pgH_4 | exact pgH_5) (Nat.le_of_ble_eq_true rfl) (fun _ => rfl) (fun _ => rfl) ?_
  refine mw_heap (h2 := pgH b (P.c, P.pl, P.fc + 1, updN P.fa P.fc f, updN P.fo P.fc c, updN P.fs P.fc s, P.rc, P.ru) h) (Eq.symm (by exact pgH_p0)) ?_
  refine mw_iload rfl rfl ?_
  exact mw_ireturn rfl rfl rfl rfl (Nat.le_refl _) (hp)
/-- one is taken out of a row -/
def shR {α : Type} (f : Nat → α) (lo hi : Nat) : Nat → α := fun j => if lo ≤ j ∧ j < hi then f (j + 1) else f j
theorem shR_0 {α : Type} (f : Nat → α) (lo : Nat) : shR f lo lo = f := by
  funext j
  unfold shR
  rw [if_neg (by omega)]
theorem shR_at {α : Type} (f : Nat → α) (lo hi : Nat) : shR f lo hi (hi + 1) = f (hi + 1) := if_neg (by omega)
theorem shR_s {α : Type} {f : Nat → α} {lo hi : Nat} (h : lo ≤ hi) : updN (shR f lo hi) hi (shR f lo hi (hi + 1)) = shR f lo (hi + 1) := by
  funext j
  unfold updN
  by_cases e : j = hi
  · subst e
    rw [if_pos rfl, shR_at]
    unfold shR
    rw [if_pos (by omega)]
  · rw [if_neg e]
    unfold shR
    by_cases q : lo ≤ j ∧ j < hi
    · rw [if_pos q, if_pos (by omega)]
    · rw [if_neg q, if_neg (by omega)]
theorem c_dropFact (d n b : Nat) (f : Nat) (P : PgS) (h : Nat → MC) (h12 : P.fc ≤ 12) (hf : f < P.fc) : Fn M_X5_dropFact d 0 0 [.ref b, .int (nI f)] (pgH b P h) n none (pgH b (P.c, P.pl, P.fc - 1, shR P.fa f (P.fc - 1), shR P.fo f (P.fc - 1), shR P.fs f (P.fc - 1), P.rc, P.ru) h) := by
  refine Fn.of fun post hp => ?_
  refine mw_iload_n (i := 1) rfl rfl rfl ?_
  refine mw_istore_n (i := 2) rfl rfl (Nat.le_of_ble_eq_true rfl) ?_
  have loop : ∀ j, j ≤ P.fc - 1 → f ≤ j → MW M_X5_dropFact d 0 0 n post 2 [(0, .ref b), (1, .int (nI f)), (2, .int (nI j))] [] (pgH b (P.c, P.pl, P.fc, shR P.fa f j, shR P.fo f j, shR P.fs f j, P.rc, P.ru) h) n 0 := by
    refine loop_up (P.fc - 1) ?_ ?_
    · intro hj
      refine mw_iload_n (i := 2) rfl rfl rfl ?_
      refine mw_iconst (v := nI 1) rfl (by decide) ?_
      first | refine mw_nadd rfl ?_ | refine mw_iadd rfl ?_
      refine mw_aload_n (i := 0) rfl rfl rfl ?_
      refine mw_getfield rfl f_X5_41 (by first | rfl | exact pgH_0 | exact pgH_1 | exact pgH_2 | exact pgH_3 | exact pgH_4 | exact pgH_5) rfl ?_
      show MW _ _ _ _ _ _ _ _ (.int (nI P.fc) :: .int (nI (P.fc - 1 + 1)) :: []) _ _ _
      refine mw_n_ge rfl (by omega) (by omega) (fun hc => ?_) (fun hc => ?_)
      · refine mw_aload_n (i := 0) rfl rfl rfl ?_
        refine mw_dup rfl rfl ?_
        refine mw_getfield rfl f_X5_41 (by first | rfl | exact pgH_0 | exact pgH_1 | exact pgH_2 | exact pgH_3 | exact pgH_4 | exact pgH_5) rfl ?_
        refine mw_iconst (v := nI 1) rfl (by decide) ?_
        first | refine mw_nsub rfl (show 1 ≤ P.fc by omega) ?_ | refine mw_isub rfl ?_
        refine mw_putfield rfl f_X5_41 (by first | rfl | exact pgH_0 | exact pgH_1 | exact pgH_2 | exact pgH_3 | exact pgH_4 | exact pgH_5) (Nat.le_of_ble_eq_true rfl) (fun _ => rfl) (fun _ => rfl) ?_
        refine mw_heap (h2 := pgH b (P.c, P.pl, P.fc - 1, shR P.fa f (P.fc - 1), shR P.fo f (P.fc - 1), shR P.fs f (P.fc - 1), P.rc, P.ru) h) (Eq.symm (by exact pgH_p0)) ?_
        exact mw_return rfl rfl rfl (Nat.le_refl _) (hp)
      · omega
    · intro j hj ih hfj
      refine mw_iload_n (i := 2) rfl rfl rfl ?_
      refine mw_iconst (v := nI 1) rfl (by decide) ?_
      first | refine mw_nadd rfl ?_ | refine mw_iadd rfl ?_
      refine mw_aload_n (i := 0) rfl rfl rfl ?_
      refine mw_getfield rfl f_X5_41 (by first | rfl | exact pgH_0 | exact pgH_1 | exact pgH_2 | exact pgH_3 | exact pgH_4 | exact pgH_5) rfl ?_
      show MW _ _ _ _ _ _ _ _ (.int (nI P.fc) :: .int (nI (j + 1)) :: []) _ _ _
      refine mw_n_ge rfl (by omega) (by omega) (fun hc => ?_) (fun hc => ?_)
      · omega
      · refine mw_aload_n (i := 0) rfl rfl rfl ?_
        refine mw_getfield rfl f_X5_19 (by first | rfl | exact pgH_0 | exact pgH_1 | exact pgH_2 | exact pgH_3 | exact pgH_4 | exact pgH_5) rfl ?_
        refine mw_iload_n (i := 2) rfl rfl rfl ?_
        refine mw_aload_n (i := 0) rfl rfl rfl ?_
        refine mw_getfield rfl f_X5_19 (by first | rfl | exact pgH_0 | exact pgH_1 | exact pgH_2 | exact pgH_3 | exact pgH_4 | exact pgH_5) rfl ?_
        refine mw_iload_n (i := 2) rfl rfl rfl ?_
        refine mw_iconst (v := nI 1) rfl (by decide) ?_
        first | refine mw_nadd rfl ?_ | refine mw_iadd rfl ?_
        refine mw_iald rfl (by first | rfl | exact pgH_0 | exact pgH_1 | exact pgH_2 | exact pgH_3 | exact pgH_4 | exact pgH_5) (by omega) (by omega) ?_
        refine mw_iast rfl (by first | rfl | exact pgH_0 | exact pgH_1 | exact pgH_2 | exact pgH_3 | exact pgH_4 | exact pgH_5) (by omega) (by omega) ?_
        first | rw [vI_upd] | rw [vI_updv] | skip
        rw [pgH_p2]
        refine mw_aload_n (i := 0) rfl rfl rfl ?_
        refine mw_getfield rfl f_X5_22 (by first | rfl | exact pgH_0 | exact pgH_1 | exact pgH_2 | exact pgH_3 | exact pgH_4 | exact pgH_5) rfl ?_
        refine mw_iload_n (i := 2) rfl rfl rfl ?_
        refine mw_aload_n (i := 0) rfl rfl rfl ?_
        refine mw_getfield rfl f_X5_22 (by first | rfl | exact pgH_0 | exact pgH_1 | exact pgH_2 | exact pgH_3 | exact pgH_4 | exact pgH_5) rfl ?_
        refine mw_iload_n (i := 2) rfl rfl rfl ?_
        refine mw_iconst (v := nI 1) rfl (by decide) ?_
        first | refine mw_nadd rfl ?_ | refine mw_iadd rfl ?_
        refine mw_iald rfl (by first | rfl | exact pgH_0 | exact pgH_1 | exact pgH_2 | exact pgH_3 | exact pgH_4 | exact pgH_5) (by omega) (by omega) ?_
        refine mw_iast rfl (by first | rfl | exact pgH_0 | exact pgH_1 | exact pgH_2 | exact pgH_3 | exact pgH_4 | exact pgH_5) (by omega) (by omega) ?_
        first | rw [vI_upd] | rw [vI_updv] | skip
        rw [pgH_p3]
        refine mw_aload_n (i := 0) rfl rfl rfl ?_
        refine mw_getfield rfl f_X5_25 (by first | rfl | exact pgH_0 | exact pgH_1 | exact pgH_2 | exact pgH_3 | exact pgH_4 | exact pgH_5) rfl ?_
        refine mw_iload_n (i := 2) rfl rfl rfl ?_
        refine mw_aload_n (i := 0) rfl rfl rfl ?_
        refine mw_getfield rfl f_X5_25 (by first | rfl | exact pgH_0 | exact pgH_1 | exact pgH_2 | exact pgH_3 | exact pgH_4 | exact pgH_5) rfl ?_
        refine mw_iload_n (i := 2) rfl rfl rfl ?_
        refine mw_iconst (v := nI 1) rfl (by decide) ?_
        first | refine mw_nadd rfl ?_ | refine mw_iadd rfl ?_
        refine mw_iald rfl (by first | rfl | exact pgH_0 | exact pgH_1 | exact pgH_2 | exact pgH_3 | exact pgH_4 | exact pgH_5) (by omega) (by omega) ?_
        refine mw_iast rfl (by first | rfl | exact pgH_0 | exact pgH_1 | exact pgH_2 | exact pgH_3 | exact pgH_4 | exact pgH_5) (by omega) (by omega) ?_
        first | rw [vI_upd] | rw [vI_updv] | skip
        rw [pgH_p4]
        first | refine mw_ninc rfl rfl (Nat.le_of_ble_eq_true rfl) ?_ | refine mw_iinc rfl rfl rfl (Nat.le_of_ble_eq_true rfl) ?_
        refine mw_goto rfl ?_
        refine mw_locals rfl (mw_heap ?_ (ih (by omega)))
        rw [← shR_s hfj, ← shR_s hfj, ← shR_s hfj]
  refine mw_locals (L2 := [(0, .ref b), (1, .int (nI f)), (2, .int (nI f))]) rfl (mw_heap ?_ (loop f (by omega) (by omega)))
  rw [shR_0, shR_0, shR_0]
theorem ru_put0 {H : Nat → MC} {k : Nat} {R : RuS} (hR : RuAt H k R) {a b : Nat} : hset H k (.inr (6, [.ref (k + 1), .ref (k + 2), .ref (k + 3), .ref (k + 4), .int (nI a), .int (nI b)])) = ruH k (R.pr, R.fi, R.se, R.ng, a, b) H :=
  (congrArg (fun H' => hset H' k _) hR.self.symm).trans ruH_p0
theorem c_enterRule (d n b k' q : Nat) (P : PgS) (R' : RuS) (h : Nat → MC) (hR' : RuAt h k' R') (hk : k' + 5 ≤ b ∨ b + 46 ≤ k') (h8 : P.rc < 8) : Fn M_X5_enterRule (d + 1) 0 0 [.ref b, .ref k', .int (nI q)] (pgH b P h) n (some (.int (nI P.rc))) (pgH b (P.c, P.pl, P.fc, P.fa, P.fo, P.fs, P.rc + 1, updN P.ru P.rc (R'.pr, R'.fi, R'.se, R'.ng, R'.li, q)) h) := by
  refine Fn.of fun post hp => ?_
  have hR'' : RuAt (pgH b P h) k' R' := ⟨(pgH_o (by omega)).trans hR'.1, (pgH_o (by omega)).trans hR'.2.1, (pgH_o (by omega)).trans hR'.2.2.1, (pgH_o (by omega)).trans hR'.2.2.2.1, (pgH_o (by omega)).trans hR'.2.2.2.2⟩
  have hRr : RuAt (pgH b P h) (b + 6 + 5 * P.rc) (P.ru P.rc) := pgH_ru h8
  refine mw_aload_n (i := 0) rfl rfl rfl ?_
  refine mw_getfield rfl f_X5_44 (by first | rfl | exact pgH_0 | exact pgH_1 | exact pgH_2 | exact pgH_3 | exact pgH_4 | exact pgH_5 | exact hRr.1 | exact hR2.1) rfl ?_
  refine mw_istore_n (i := 3) rfl rfl (Nat.le_of_ble_eq_true rfl) ?_
  refine mw_aload_n (i := 0) rfl rfl rfl ?_
  refine mw_getfield rfl f_X5_30 (by first | rfl | exact pgH_0 | exact pgH_1 | exact pgH_2 | exact pgH_3 | exact pgH_4 | exact pgH_5 | exact hRr.1 | exact hR2.1) rfl ?_
  refine mw_iload_n (i := 3) rfl rfl rfl ?_
  refine mw_aald (ti := 5) rfl pgH_5 rfl (by omega) (by omega) (plf_at h8) ?_
  refine mw_aload_n (i := 1) rfl rfl rfl ?_
  refine mw_callV_f (c_ruBecome d n (b + 6 + 5 * P.rc) k' (P.ru P.rc) R' (pgH b P h) hRr hR'' (by omega)) rfl ok_X6_become v_X5_53 rfl (by first | rfl | exact pgH_0 | exact pgH_1 | exact pgH_2 | exact pgH_3 | exact pgH_4 | exact pgH_5 | exact hRr.1 | exact hR2.1) (by intro e; cases e) rfl (Nat.le_of_ble_eq_true rfl) rfl (Nat.le_of_ble_eq_true rfl) (by omega) (by omega) (by omega) ?_
  rw [pgH_pr h8]
  have hR2 : RuAt (pgH b (P.c, P.pl, P.fc, P.fa, P.fo, P.fs, P.rc, updN P.ru P.rc R') h) (b + 6 + 5 * P.rc) R' := by
    have := pgH_ru (b := b) (P := (P.c, P.pl, P.fc, P.fa, P.fo, P.fs, P.rc, updN P.ru P.rc R')) (h := h) h8
    rw [show PgS.ru (P.c, P.pl, P.fc, P.fa, P.fo, P.fs, P.rc, updN P.ru P.rc R') P.rc = R' from updN_same _ _ _] at this
    exact this
  refine mw_aload_n (i := 0) rfl rfl rfl ?_
  refine mw_getfield rfl f_X5_30 (by first | rfl | exact pgH_0 | exact pgH_1 | exact pgH_2 | exact pgH_3 | exact pgH_4 | exact pgH_5 | exact hRr.1 | exact hR2.1) rfl ?_
  refine mw_iload_n (i := 3) rfl rfl rfl ?_
  refine mw_aald (ti := 5) rfl pgH_5 rfl (by omega) (by omega) (plf_at h8) ?_
  refine mw_iload_n (i := 2) rfl rfl rfl ?_
  refine mw_putfield rfl f_X5_64 (by first | rfl | exact pgH_0 | exact pgH_1 | exact pgH_2 | exact pgH_3 | exact pgH_4 | exact pgH_5 | exact hRr.1 | exact hR2.1) (Nat.le_of_ble_eq_true rfl) (fun _ => rfl) (fun _ => rfl) ?_
  refine mw_heap (h2 := pgH b (P.c, P.pl, P.fc, P.fa, P.fo, P.fs, P.rc, updN P.ru P.rc (R'.pr, R'.fi, R'.se, R'.ng, R'.li, q)) h) ?_ ?_
  · refine Eq.trans ?_ (ru_put0 hR2).symm
    rw [pgH_pr h8]
    show pgH b (P.c, P.pl, P.fc, P.fa, P.fo, P.fs, P.rc, updN P.ru P.rc (R'.pr, R'.fi, R'.se, R'.ng, R'.li, q)) h = pgH b (P.c, P.pl, P.fc, P.fa, P.fo, P.fs, P.rc, updN (updN P.ru P.rc R') P.rc (R'.pr, R'.fi, R'.se, R'.ng, R'.li, q)) h
    rw [updN_2]
  refine mw_aload_n (i := 0) rfl rfl rfl ?_
  refine mw_dup rfl rfl ?_
  refine mw_getfield rfl f_X5_44 (by first | rfl | exact pgH_0 | exact pgH_1 | exact pgH_2 | exact pgH_3 | exact pgH_4 | exact pgH_5 | exact hRr.1 | exact hR2.1) rfl ?_
  refine mw_iconst (v := nI 1) rfl (by decide) ?_
  first | refine mw_nadd rfl ?_ | refine mw_iadd rfl ?_
  refine mw_putfield rfl f_X5_44 (by first | rfl | exact pgH_0 | exact pgH_1 | exact pgH_2 | exact pgH_3 | exact pgH_4 | exact pgH_5 | exact hRr.1 | exact hR2.1) (Nat.le_of_ble_eq_true rfl) (fun _ => rfl) (fun _ => rfl) ?_
  refine mw_heap (h2 := pgH b (P.c, P.pl, P.fc, P.fa, P.fo, P.fs, P.rc + 1, updN P.ru P.rc (R'.pr, R'.fi, R'.se, R'.ng, R'.li, q)) h) (Eq.symm (by exact pgH_p0)) ?_
  refine mw_iload_n (i := 3) rfl rfl rfl ?_
  exact mw_ireturn rfl rfl rfl rfl (Nat.le_refl _) (hp)
theorem c_dropRule (d n b : Nat) (f : Nat) (P : PgS) (h : Nat → MC) (h8 : P.rc ≤ 8) (hf : f < P.rc) : Fn M_X5_dropRule (d + 1) 0 0 [.ref b, .int (nI f)] (pgH b P h) n none (pgH b (P.c, P.pl, P.fc, P.fa, P.fo, P.fs, P.rc - 1, shR P.ru f (P.rc - 1)) h) := by
  refine Fn.of fun post hp => ?_
  refine mw_iload_n (i := 1) rfl rfl rfl ?_
  refine mw_istore_n (i := 2) rfl rfl (Nat.le_of_ble_eq_true rfl) ?_
  have loop : ∀ j, j ≤ P.rc - 1 → f ≤ j → MW M_X5_dropRule (d + 1) 0 0 n post 2 [(0, .ref b), (1, .int (nI f)), (2, .int (nI j))] [] (pgH b (P.c, P.pl, P.fc, P.fa, P.fo, P.fs, P.rc, shR P.ru f j) h) n 0 := by
    refine loop_up (P.rc - 1) ?_ ?_
    · intro hj
      refine mw_iload_n (i := 2) rfl rfl rfl ?_
      refine mw_iconst (v := nI 1) rfl (by decide) ?_
      first | refine mw_nadd rfl ?_ | refine mw_iadd rfl ?_
      refine mw_aload_n (i := 0) rfl rfl rfl ?_
      refine mw_getfield rfl f_X5_44 (by first | rfl | exact pgH_0 | exact pgH_1 | exact pgH_2 | exact pgH_3 | exact pgH_4 | exact pgH_5 | exact hR1.1 | exact hR2.1) rfl ?_
      show MW _ _ _ _ _ _ _ _ (.int (nI P.rc) :: .int (nI (P.rc - 1 + 1)) :: []) _ _ _
      refine mw_n_ge rfl (by omega) (by omega) (fun hc => ?_) (fun hc => ?_)
      · refine mw_aload_n (i := 0) rfl rfl rfl ?_
        refine mw_dup rfl rfl ?_
        refine mw_getfield rfl f_X5_44 (by first | rfl | exact pgH_0 | exact pgH_1 | exact pgH_2 | exact pgH_3 | exact pgH_4 | exact pgH_5 | exact hR1.1 | exact hR2.1) rfl ?_
        refine mw_iconst (v := nI 1) rfl (by decide) ?_
        first | refine mw_nsub rfl (show 1 ≤ P.rc by omega) ?_ | refine mw_isub rfl ?_
        refine mw_putfield rfl f_X5_44 (by first | rfl | exact pgH_0 | exact pgH_1 | exact pgH_2 | exact pgH_3 | exact pgH_4 | exact pgH_5 | exact hR1.1 | exact hR2.1) (Nat.le_of_ble_eq_true rfl) (fun _ => rfl) (fun _ => rfl) ?_
        refine mw_heap (h2 := pgH b (P.c, P.pl, P.fc, P.fa, P.fo, P.fs, P.rc - 1, shR P.ru f (P.rc - 1)) h) (Eq.symm (by exact pgH_p0)) ?_
        exact mw_return rfl rfl rfl (Nat.le_refl _) (hp)
      · omega
    · intro j hj ih hfj
      have hR1 : RuAt (pgH b (P.c, P.pl, P.fc, P.fa, P.fo, P.fs, P.rc, shR P.ru f j) h) (b + 6 + 5 * j) (shR P.ru f j j) := pgH_ru (show j < 8 by omega)
      have hR2 : RuAt (pgH b (P.c, P.pl, P.fc, P.fa, P.fo, P.fs, P.rc, shR P.ru f j) h) (b + 6 + 5 * (j + 1)) (shR P.ru f j (j + 1)) := pgH_ru (show j + 1 < 8 by omega)
      refine mw_iload_n (i := 2) rfl rfl rfl ?_
      refine mw_iconst (v := nI 1) rfl (by decide) ?_
      first | refine mw_nadd rfl ?_ | refine mw_iadd rfl ?_
      refine mw_aload_n (i := 0) rfl rfl rfl ?_
      refine mw_getfield rfl f_X5_44 (by first | rfl | exact pgH_0 | exact pgH_1 | exact pgH_2 | exact pgH_3 | exact pgH_4 | exact pgH_5 | exact hR1.1 | exact hR2.1) rfl ?_
      show MW _ _ _ _ _ _ _ _ (.int (nI P.rc) :: .int (nI (j + 1)) :: []) _ _ _
      refine mw_n_ge rfl (by omega) (by omega) (fun hc => ?_) (fun hc => ?_)
      · omega
      · refine mw_aload_n (i := 0) rfl rfl rfl ?_
        refine mw_getfield rfl f_X5_30 (by first | rfl | exact pgH_0 | exact pgH_1 | exact pgH_2 | exact pgH_3 | exact pgH_4 | exact pgH_5 | exact hR1.1 | exact hR2.1) rfl ?_
        refine mw_iload_n (i := 2) rfl rfl rfl ?_
        refine mw_aald (ti := 5) rfl pgH_5 rfl (by omega) (by omega) (plf_at (by omega)) ?_
        refine mw_aload_n (i := 0) rfl rfl rfl ?_
        refine mw_getfield rfl f_X5_30 (by first | rfl | exact pgH_0 | exact pgH_1 | exact pgH_2 | exact pgH_3 | exact pgH_4 | exact pgH_5 | exact hR1.1 | exact hR2.1) rfl ?_
        refine mw_iload_n (i := 2) rfl rfl rfl ?_
        refine mw_iconst (v := nI 1) rfl (by decide) ?_
        first | refine mw_nadd rfl ?_ | refine mw_iadd rfl ?_
        refine mw_aald (ti := 5) rfl pgH_5 rfl (by omega) (by omega) (plf_at (by omega)) ?_
        refine mw_callV_f (c_ruBecome d n (b + 6 + 5 * j) (b + 6 + 5 * (j + 1)) (shR P.ru f j j) (shR P.ru f j (j + 1)) _ hR1 hR2 (by omega)) rfl ok_X6_become v_X5_53 rfl (by first | rfl | exact pgH_0 | exact pgH_1 | exact pgH_2 | exact pgH_3 | exact pgH_4 | exact pgH_5 | exact hR1.1 | exact hR2.1) (by intro e; cases e) rfl (Nat.le_of_ble_eq_true rfl) rfl (Nat.le_of_ble_eq_true rfl) (by omega) (by omega) (by omega) ?_
        rw [pgH_pr (show j < 8 by omega)]
        first | refine mw_ninc rfl rfl (Nat.le_of_ble_eq_true rfl) ?_ | refine mw_iinc rfl rfl rfl (Nat.le_of_ble_eq_true rfl) ?_
        refine mw_goto rfl ?_
        refine mw_locals rfl (mw_heap ?_ (ih (by omega)))
        rw [← shR_s hfj]
  refine mw_locals (L2 := [(0, .ref b), (1, .int (nI f)), (2, .int (nI f))]) rfl (mw_heap ?_ (loop f (by omega) (by omega)))
  rw [shR_0]
theorem c_clear (d n b : Nat) (c : Nat) (P : PgS) (h : Nat → MC) : Fn M_X5_clear (d + 1) 0 0 [.ref b, .int (nI c)] (pgH b P h) n none (pgH b (c, (fun _ => 2), 0, P.fa, P.fo, P.fs, 0, P.ru) h) := by
  refine Fn.of fun post hp => ?_
  refine mw_aload_n (i := 0) rfl rfl rfl ?_
  refine mw_iload_n (i := 1) rfl rfl rfl ?_
  refine mw_putfield rfl f_X5_9 (by first | rfl | exact pgH_0 | exact pgH_1 | exact pgH_2 | exact pgH_3 | exact pgH_4 | exact pgH_5) (Nat.le_of_ble_eq_true rfl) (fun _ => rfl) (fun _ => rfl) ?_
  refine mw_heap (h2 := pgH b (c, P.pl, P.fc, P.fa, P.fo, P.fs, P.rc, P.ru) h) (Eq.symm (by exact pgH_p0)) ?_
  refine mw_aload_n (i := 0) rfl rfl rfl ?_
  refine mw_getfield rfl f_X5_15 (by first | rfl | exact pgH_0 | exact pgH_1 | exact pgH_2 | exact pgH_3 | exact pgH_4 | exact pgH_5) rfl ?_
  refine mw_iconst (v := nI 2) rfl (by decide) ?_
  refine mw_callS_f (c_fill d n (b + 1) 6 (vI P.pl) (nI 2) _ pgH_1 (by omega)) rfl ok_J7_fill_53178 v_X5_34 rfl (Nat.le_of_ble_eq_true rfl) rfl (Nat.le_of_ble_eq_true rfl) (by omega) (by omega) (by omega) ?_
  refine mw_tail (vI (fun _ => 2)) (hset_same _ _ _) (fun j hj => by unfold flr; rw [if_pos hj]; rfl) ?_
  rw [hset_hset, pgH_p1]
  refine mw_aload_n (i := 0) rfl rfl rfl ?_
  refine mw_iconst (v := nI 0) rfl (by decide) ?_
  refine mw_putfield rfl f_X5_41 (by first | rfl | exact pgH_0 | exact pgH_1 | exact pgH_2 | exact pgH_3 | exact pgH_4 | exact pgH_5) (Nat.le_of_ble_eq_true rfl) (fun _ => rfl) (fun _ => rfl) ?_
  refine mw_heap (h2 := pgH b (c, (fun _ => 2), 0, P.fa, P.fo, P.fs, P.rc, P.ru) h) (Eq.symm (by exact pgH_p0)) ?_
  refine mw_aload_n (i := 0) rfl rfl rfl ?_
  refine mw_iconst (v := nI 0) rfl (by decide) ?_
  refine mw_putfield rfl f_X5_44 (by first | rfl | exact pgH_0 | exact pgH_1 | exact pgH_2 | exact pgH_3 | exact pgH_4 | exact pgH_5) (Nat.le_of_ble_eq_true rfl) (fun _ => rfl) (fun _ => rfl) ?_
  refine mw_heap (h2 := pgH b (c, (fun _ => 2), 0, P.fa, P.fo, P.fs, 0, P.ru) h) (Eq.symm (by exact pgH_p0)) ?_
  exact mw_return rfl rfl rfl (Nat.le_refl _) (hp)
theorem c_pgBecome (d n b b' : Nat) (P P' : PgS) (h : Nat → MC) (hP' : PgAt h b' P') (hb : b' + 46 ≤ b ∨ b + 46 ≤ b') : Fn M_X5_become (d + 2) 0 0 [.ref b, .ref b'] (pgH b P h) n none (pgH b P' h) := by
  have s0 : ∀ {X : PgS}, pgH b X h b' = _ := fun {X} => (pgH_o (by omega)).trans (hP'.cell (i := 0) (by omega))
  have s1 : ∀ {X : PgS}, pgH b X h (b' + 1) = _ := fun {X} => (pgH_o (by omega)).trans (hP'.cell (i := 1) (by omega))
  have s2 : ∀ {X : PgS}, pgH b X h (b' + 2) = _ := fun {X} => (pgH_o (by omega)).trans (hP'.cell (i := 2) (by omega))
  have s3 : ∀ {X : PgS}, pgH b X h (b' + 3) = _ := fun {X} => (pgH_o (by omega)).trans (hP'.cell (i := 3) (by omega))
  have s4 : ∀ {X : PgS}, pgH b X h (b' + 4) = _ := fun {X} => (pgH_o (by omega)).trans (hP'.cell (i := 4) (by omega))
  have s5 : ∀ {X : PgS}, pgH b X h (b' + 5) = .inl (.object RX6, 8, .inr (.inr (.inr (.inr (plf b'))))) := fun {X} => (pgH_o (by omega)).trans (hP'.cell (i := 5) (by omega))
  have cpy : ∀ {f g : Nat → Nat} {N j : Nat}, j < N → va_cpy (vI f) (vI g) 0 0 N j = vI f j := fun {f g N j} hj => by
    unfold va_cpy
    rw [if_pos (by omega)]
    show vI f (0 + (j - 0)) = _
    rw [show 0 + (j - 0) = j by omega]
  refine Fn.of fun post hp => ?_
  refine mw_aload_n (i := 0) rfl rfl rfl ?_
  refine mw_aload_n (i := 1) rfl rfl rfl ?_
  refine mw_getfield rfl f_X5_9 (by first | rfl | exact pgH_0 | exact pgH_1 | exact pgH_2 | exact pgH_3 | exact pgH_4 | exact pgH_5 | exact s0 | exact s1 | exact s2 | exact s3 | exact s4 | exact s5 | exact hR1.1 | exact hR2.1) rfl ?_
  refine mw_putfield rfl f_X5_9 (by first | rfl | exact pgH_0 | exact pgH_1 | exact pgH_2 | exact pgH_3 | exact pgH_4 | exact pgH_5 | exact s0 | exact s1 | exact s2 | exact s3 | exact s4 | exact s5 | exact hR1.1 | exact hR2.1) (Nat.le_of_ble_eq_true rfl) (fun _ => rfl) (fun _ => rfl) ?_
  refine mw_heap (h2 := pgH b (P'.c, P.pl, P.fc, P.fa, P.fo, P.fs, P.rc, P.ru) h) (Eq.symm (by exact pgH_p0)) ?_
  refine mw_aload_n (i := 1) rfl rfl rfl ?_
  refine mw_getfield rfl f_X5_15 (by first | rfl | exact pgH_0 | exact pgH_1 | exact pgH_2 | exact pgH_3 | exact pgH_4 | exact pgH_5 | exact s0 | exact s1 | exact s2 | exact s3 | exact s4 | exact s5 | exact hR1.1 | exact hR2.1) rfl ?_
  refine mw_iconst (v := nI 0) rfl (by decide) ?_
  refine mw_aload_n (i := 0) rfl rfl rfl ?_
  refine mw_getfield rfl f_X5_15 (by first | rfl | exact pgH_0 | exact pgH_1 | exact pgH_2 | exact pgH_3 | exact pgH_4 | exact pgH_5 | exact s0 | exact s1 | exact s2 | exact s3 | exact s4 | exact s5 | exact hR1.1 | exact hR2.1) rfl ?_
  refine mw_iconst (v := nI 0) rfl (by decide) ?_
  refine mw_bipush (v := nI 6) rfl (by decide) ?_
  refine mw_acopy rfl v_X5_47 (by first | rfl | exact pgH_0 | exact pgH_1 | exact pgH_2 | exact pgH_3 | exact pgH_4 | exact pgH_5 | exact s0 | exact s1 | exact s2 | exact s3 | exact s4 | exact s5 | exact hR1.1 | exact hR2.1) (by first | rfl | exact pgH_0 | exact pgH_1 | exact pgH_2 | exact pgH_3 | exact pgH_4 | exact pgH_5 | exact s0 | exact s1 | exact s2 | exact s3 | exact s4 | exact s5 | exact hR1.1 | exact hR2.1) (by omega) (by omega) (Nat.le_of_ble_eq_true rfl) ?_
  refine mw_tail (vI P'.pl) (hset_same _ _ _) (fun j hj => cpy hj) ?_
  rw [hset_hset, pgH_p1]
  refine mw_aload_n (i := 0) rfl rfl rfl ?_
  refine mw_aload_n (i := 1) rfl rfl rfl ?_
  refine mw_getfield rfl f_X5_41 (by first | rfl | exact pgH_0 | exact pgH_1 | exact pgH_2 | exact pgH_3 | exact pgH_4 | exact pgH_5 | exact s0 | exact s1 | exact s2 | exact s3 | exact s4 | exact s5 | exact hR1.1 | exact hR2.1) rfl ?_
  refine mw_putfield rfl f_X5_41 (by first | rfl | exact pgH_0 | exact pgH_1 | exact pgH_2 | exact pgH_3 | exact pgH_4 | exact pgH_5 | exact s0 | exact s1 | exact s2 | exact s3 | exact s4 | exact s5 | exact hR1.1 | exact hR2.1) (Nat.le_of_ble_eq_true rfl) (fun _ => rfl) (fun _ => rfl) ?_
  refine mw_heap (h2 := pgH b (P'.c, P'.pl, P'.fc, P.fa, P.fo, P.fs, P.rc, P.ru) h) (Eq.symm (by exact pgH_p0)) ?_
  refine mw_aload_n (i := 1) rfl rfl rfl ?_
  refine mw_getfield rfl f_X5_19 (by first | rfl | exact pgH_0 | exact pgH_1 | exact pgH_2 | exact pgH_3 | exact pgH_4 | exact pgH_5 | exact s0 | exact s1 | exact s2 | exact s3 | exact s4 | exact s5 | exact hR1.1 | exact hR2.1) rfl ?_
  refine mw_iconst (v := nI 0) rfl (by decide) ?_
  refine mw_aload_n (i := 0) rfl rfl rfl ?_
  refine mw_getfield rfl f_X5_19 (by first | rfl | exact pgH_0 | exact pgH_1 | exact pgH_2 | exact pgH_3 | exact pgH_4 | exact pgH_5 | exact s0 | exact s1 | exact s2 | exact s3 | exact s4 | exact s5 | exact hR1.1 | exact hR2.1) rfl ?_
  refine mw_iconst (v := nI 0) rfl (by decide) ?_
  refine mw_bipush (v := nI 12) rfl (by decide) ?_
  refine mw_acopy rfl v_X5_47 (by first | rfl | exact pgH_0 | exact pgH_1 | exact pgH_2 | exact pgH_3 | exact pgH_4 | exact pgH_5 | exact s0 | exact s1 | exact s2 | exact s3 | exact s4 | exact s5 | exact hR1.1 | exact hR2.1) (by first | rfl | exact pgH_0 | exact pgH_1 | exact pgH_2 | exact pgH_3 | exact pgH_4 | exact pgH_5 | exact s0 | exact s1 | exact s2 | exact s3 | exact s4 | exact s5 | exact hR1.1 | exact hR2.1) (by omega) (by omega) (Nat.le_of_ble_eq_true rfl) ?_
  refine mw_tail (vI P'.fa) (hset_same _ _ _) (fun j hj => cpy hj) ?_
  rw [hset_hset, pgH_p2]
  refine mw_aload_n (i := 1) rfl rfl rfl ?_
  refine mw_getfield rfl f_X5_22 (by first | rfl | exact pgH_0 | exact pgH_1 | exact pgH_2 | exact pgH_3 | exact pgH_4 | exact pgH_5 | exact s0 | exact s1 | exact s2 | exact s3 | exact s4 | exact s5 | exact hR1.1 | exact hR2.1) rfl ?_
  refine mw_iconst (v := nI 0) rfl (by decide) ?_
  refine mw_aload_n (i := 0) rfl rfl rfl ?_
  refine mw_getfield rfl f_X5_22 (by first | rfl | exact pgH_0 | exact pgH_1 | exact pgH_2 | exact pgH_3 | exact pgH_4 | exact pgH_5 | exact s0 | exact s1 | exact s2 | exact s3 | exact s4 | exact s5 | exact hR1.1 | exact hR2.1) rfl ?_
  refine mw_iconst (v := nI 0) rfl (by decide) ?_
  refine mw_bipush (v := nI 12) rfl (by decide) ?_
  refine mw_acopy rfl v_X5_47 (by first | rfl | exact pgH_0 | exact pgH_1 | exact pgH_2 | exact pgH_3 | exact pgH_4 | exact pgH_5 | exact s0 | exact s1 | exact s2 | exact s3 | exact s4 | exact s5 | exact hR1.1 | exact hR2.1) (by first | rfl | exact pgH_0 | exact pgH_1 | exact pgH_2 | exact pgH_3 | exact pgH_4 | exact pgH_5 | exact s0 | exact s1 | exact s2 | exact s3 | exact s4 | exact s5 | exact hR1.1 | exact hR2.1) (by omega) (by omega) (Nat.le_of_ble_eq_true rfl) ?_
  refine mw_tail (vI P'.fo) (hset_same _ _ _) (fun j hj => cpy hj) ?_
  rw [hset_hset, pgH_p3]
  refine mw_aload_n (i := 1) rfl rfl rfl ?_
  refine mw_getfield rfl f_X5_25 (by first | rfl | exact pgH_0 | exact pgH_1 | exact pgH_2 | exact pgH_3 | exact pgH_4 | exact pgH_5 | exact s0 | exact s1 | exact s2 | exact s3 | exact s4 | exact s5 | exact hR1.1 | exact hR2.1) rfl ?_
  refine mw_iconst (v := nI 0) rfl (by decide) ?_
  refine mw_aload_n (i := 0) rfl rfl rfl ?_
  refine mw_getfield rfl f_X5_25 (by first | rfl | exact pgH_0 | exact pgH_1 | exact pgH_2 | exact pgH_3 | exact pgH_4 | exact pgH_5 | exact s0 | exact s1 | exact s2 | exact s3 | exact s4 | exact s5 | exact hR1.1 | exact hR2.1) rfl ?_
  refine mw_iconst (v := nI 0) rfl (by decide) ?_
  refine mw_bipush (v := nI 12) rfl (by decide) ?_
  refine mw_acopy rfl v_X5_47 (by first | rfl | exact pgH_0 | exact pgH_1 | exact pgH_2 | exact pgH_3 | exact pgH_4 | exact pgH_5 | exact s0 | exact s1 | exact s2 | exact s3 | exact s4 | exact s5 | exact hR1.1 | exact hR2.1) (by first | rfl | exact pgH_0 | exact pgH_1 | exact pgH_2 | exact pgH_3 | exact pgH_4 | exact pgH_5 | exact s0 | exact s1 | exact s2 | exact s3 | exact s4 | exact s5 | exact hR1.1 | exact hR2.1) (by omega) (by omega) (Nat.le_of_ble_eq_true rfl) ?_
  refine mw_tail (vI P'.fs) (hset_same _ _ _) (fun j hj => cpy hj) ?_
  rw [hset_hset, pgH_p4]
  refine mw_aload_n (i := 0) rfl rfl rfl ?_
  refine mw_aload_n (i := 1) rfl rfl rfl ?_
  refine mw_getfield rfl f_X5_44 (by first | rfl | exact pgH_0 | exact pgH_1 | exact pgH_2 | exact pgH_3 | exact pgH_4 | exact pgH_5 | exact s0 | exact s1 | exact s2 | exact s3 | exact s4 | exact s5 | exact hR1.1 | exact hR2.1) rfl ?_
  refine mw_putfield rfl f_X5_44 (by first | rfl | exact pgH_0 | exact pgH_1 | exact pgH_2 | exact pgH_3 | exact pgH_4 | exact pgH_5 | exact s0 | exact s1 | exact s2 | exact s3 | exact s4 | exact s5 | exact hR1.1 | exact hR2.1) (Nat.le_of_ble_eq_true rfl) (fun _ => rfl) (fun _ => rfl) ?_
  refine mw_heap (h2 := pgH b (P'.c, P'.pl, P'.fc, P'.fa, P'.fo, P'.fs, P'.rc, P.ru) h) (Eq.symm (by exact pgH_p0)) ?_
  refine mw_iconst (v := nI 0) rfl (by decide) ?_
  refine mw_istore_n (i := 2) rfl rfl (Nat.le_of_ble_eq_true rfl) ?_
  have loop : ∀ j, j ≤ 8 → MW M_X5_become (d + 2) 0 0 n post 86 [(0, .ref b), (1, .ref b'), (2, .int (nI j))] [] (pgH b (P'.c, P'.pl, P'.fc, P'.fa, P'.fo, P'.fs, P'.rc, cpU P.ru P'.ru j) h) n 0 := by
    refine loop_up 8 ?_ ?_
    · refine mw_iload_n (i := 2) rfl rfl rfl ?_
      refine mw_bipush (v := nI 8) rfl (by decide) ?_
      refine mw_n_ge rfl (by omega) (by omega) (fun hc => ?_) (fun hc => ?_)
      · refine mw_heap (h2 := pgH b P' h) ?_ ?_
        · refine pgH_cg b h fun i hi => ?_
          by_cases q6 : i < 6
          · match i, q6 with
            | 0, _ => rfl
            | 1, _ => rfl
            | 2, _ => rfl
            | 3, _ => rfl
            | 4, _ => rfl
            | 5, _ => rfl
          · obtain ⟨t, rfl⟩ : ∃ t, i = t + 6 := ⟨i - 6, by omega⟩
            show ruC _ (P'.ru _) _ = ruC _ (cpU P.ru P'.ru 8 _) _
            rw [cpU_in (by omega)]
        · exact mw_return rfl rfl rfl (Nat.le_refl _) (hp)
      · omega
    · intro j hj ih
      have hR1 : RuAt (pgH b (P'.c, P'.pl, P'.fc, P'.fa, P'.fo, P'.fs, P'.rc, cpU P.ru P'.ru j) h) (b + 6 + 5 * j) (cpU P.ru P'.ru j j) := pgH_ru hj
      have hR0 : RuAt h (b' + 6 + 5 * j) (P'.ru j) := hP'.rule hj
      have hR2 : RuAt (pgH b (P'.c, P'.pl, P'.fc, P'.fa, P'.fo, P'.fs, P'.rc, cpU P.ru P'.ru j) h) (b' + 6 + 5 * j) (P'.ru j) := ⟨(pgH_o (by omega)).trans hR0.1, (pgH_o (by omega)).trans hR0.2.1, (pgH_o (by omega)).trans hR0.2.2.1, (pgH_o (by omega)).trans hR0.2.2.2.1, (pgH_o (by omega)).trans hR0.2.2.2.2⟩
      refine mw_iload_n (i := 2) rfl rfl rfl ?_
      refine mw_bipush (v := nI 8) rfl (by decide) ?_
      refine mw_n_ge rfl (by omega) (by omega) (fun hc => ?_) (fun hc => ?_)
      · omega
      · refine mw_aload_n (i := 0) rfl rfl rfl ?_
        refine mw_getfield rfl f_X5_30 (by first | rfl | exact pgH_0 | exact pgH_1 | exact pgH_2 | exact pgH_3 | exact pgH_4 | exact pgH_5 | exact s0 | exact s1 | exact s2 | exact s3 | exact s4 | exact s5 | exact hR1.1 | exact hR2.1) rfl ?_
        refine mw_iload_n (i := 2) rfl rfl rfl ?_
        refine mw_aald (ti := 5) rfl pgH_5 rfl (by omega) (by omega) (plf_at hj) ?_
        refine mw_aload_n (i := 1) rfl rfl rfl ?_
        refine mw_getfield rfl f_X5_30 (by first | rfl | exact pgH_0 | exact pgH_1 | exact pgH_2 | exact pgH_3 | exact pgH_4 | exact pgH_5 | exact s0 | exact s1 | exact s2 | exact s3 | exact s4 | exact s5 | exact hR1.1 | exact hR2.1) rfl ?_
        refine mw_iload_n (i := 2) rfl rfl rfl ?_
        refine mw_aald (ti := 5) rfl s5 rfl (by omega) (by omega) (plf_at hj) ?_
        refine mw_callV_f (c_ruBecome d n (b + 6 + 5 * j) (b' + 6 + 5 * j) (cpU P.ru P'.ru j j) (P'.ru j) _ hR1 hR2 (by omega)) rfl ok_X6_become v_X5_53 rfl (by first | rfl | exact pgH_0 | exact pgH_1 | exact pgH_2 | exact pgH_3 | exact pgH_4 | exact pgH_5 | exact s0 | exact s1 | exact s2 | exact s3 | exact s4 | exact s5 | exact hR1.1 | exact hR2.1) (by intro e; cases e) rfl (Nat.le_of_ble_eq_true rfl) rfl (Nat.le_of_ble_eq_true rfl) (by omega) (by omega) (by omega) ?_
        rw [pgH_pr hj]
        first | refine mw_ninc rfl rfl (Nat.le_of_ble_eq_true rfl) ?_ | refine mw_iinc rfl rfl rfl (Nat.le_of_ble_eq_true rfl) ?_
        refine mw_goto rfl ?_
        refine mw_locals rfl (mw_heap ?_ ih)
        rw [← cpU_s]
  refine mw_locals (L2 := [(0, .ref b), (1, .ref b'), (2, .int (nI 0))]) rfl (mw_heap ?_ (loop 0 (by omega)))
  rw [cpU_0]
