/-! THE CLASS'S READER -/
/-- where the class's reader stands: (place, rule) -/
abbrev KS : Type := Nat × RuS
abbrev txC (tl : Nat) (s : KS) : MLs := [(49, .inr (7, [.ref 50, .int (nI tl), .ref 51, .int (nI s.1)])), (51, .inr (6, [.ref 52, .ref 53, .ref 54, .ref 55, .int (nI s.2.li), .int (nI s.2.pc)])), (52, .inl (.int, 4, .inl (vI s.2.pr))), (53, .inl (.int, 4, .inl (vI s.2.fi))), (54, .inl (.int, 4, .inl (vI s.2.se))), (55, .inl (.boolean, 4, .inl (bIf s.2.ng)))]
def kdTake (t : Nat → Nat) (tl c : Nat) (s : KS) : Bool × KS := (tkB t tl s.1 c, s.1 + oneB (tkB t tl s.1 c), s.2)
theorem kdTake_le {t : Nat → Nat} {tl c : Nat} (hc : c < 2147483648) {s : KS} (h : s.1 ≤ tl) : (kdTake t tl c s).2.1 ≤ tl := by
  show s.1 + oneB (tkB t tl s.1 c) ≤ tl
  cases q : tkB t tl s.1 c
  · exact h
  · have := tkB_lt hc q
    unfold oneB
    rw [if_pos rfl]
    omega
theorem c_next (d n tl : Nat) (t : Nat → Nat) (s : KS) (h : Nat → MC) (ht : h 50 = .inl (.int, 60, .inl (vI t))) (hl : tl ≤ 60) (hp : s.1 ≤ tl) : Fn M_X7_next d 0 0 [.ref 49] (mov (txC tl s) h) n (some (.int (hereV t tl s.1))) (mov (txC tl s) h) := by
  refine Fn.of fun post hpp => ?_
  refine mw_aload_n (i := 0) rfl rfl rfl ?_
  refine mw_getfield rfl f_X7_26 (by first | rfl | exact rfl | exact ht) rfl ?_
  refine mw_aload_n (i := 0) rfl rfl rfl ?_
  refine mw_getfield rfl f_X7_22 (by first | rfl | exact rfl | exact ht) rfl ?_
  refine mw_n_ge rfl (by omega) (by omega) (fun hc => ?_) (fun hc => ?_)
  · rw [show hereV t tl s.1 = -1 from if_neg (by omega)] at hpp
    refine mw_iconst (v := (-1)) rfl (by decide) ?_
    exact mw_ireturn rfl rfl rfl rfl (Nat.le_refl _) (hpp)
  · rw [show hereV t tl s.1 = nI (t s.1) from if_pos (by omega)] at hpp
    refine mw_aload_n (i := 0) rfl rfl rfl ?_
    refine mw_getfield rfl f_X7_9 (by first | rfl | exact rfl | exact ht) rfl ?_
    refine mw_aload_n (i := 0) rfl rfl rfl ?_
    refine mw_getfield rfl f_X7_26 (by first | rfl | exact rfl | exact ht) rfl ?_
    refine mw_iald rfl (by first | rfl | exact rfl | exact ht) (by omega) (by omega) ?_
    refine mw_goto rfl ?_
    exact mw_ireturn rfl rfl rfl rfl (Nat.le_refl _) (hpp)
theorem c_take (d n c tl : Nat) (t : Nat → Nat) (s : KS) (h : Nat → MC) (ht : h 50 = .inl (.int, 60, .inl (vI t))) (hl : tl ≤ 60) (hp : s.1 ≤ tl) : Fn M_X7_take (d + 1) 0 0 [.ref 49, .int (nI c)] (mov (txC tl s) h) n (some (.int (bI (kdTake t tl c s).1))) (mov (txC tl (kdTake t tl c s).2) h) := by
  refine Fn.of fun post hpp => ?_
  unfold kdTake at hpp
  refine mw_aload_n (i := 0) rfl rfl rfl ?_
  refine mw_callV_f (c_next d n tl t s h ht hl hp) rfl ok_X7_next v_X7_52 rfl (by first | rfl | exact rfl | exact ht) (by intro e; cases e) rfl (Nat.le_of_ble_eq_true rfl) rfl (Nat.le_of_ble_eq_true rfl) (by omega) (by omega) (by omega) ?_
  refine mw_iload_n (i := 1) rfl rfl rfl ?_
  refine mw_icmp_eq rfl (fun hc => ?_) (fun hc => ?_)
  · rw [show tkB t tl s.1 c = true from decide_eq_true hc] at hpp
    refine mw_aload_n (i := 0) rfl rfl rfl ?_
    refine mw_dup rfl rfl ?_
    refine mw_getfield rfl f_X7_26 (by first | rfl | exact rfl | exact ht) rfl ?_
    refine mw_iconst (v := nI 1) rfl (by decide) ?_
    first | refine mw_nadd rfl ?_ | refine mw_iadd rfl ?_
    refine mw_putfield_m rfl f_X7_26 (by first | rfl | exact rfl | exact ht) (Nat.le_of_ble_eq_true rfl) (fun _ => rfl) (fun _ => rfl) ?_
    refine mw_iconst (v := nI 1) rfl (by decide) ?_
    first | exact mw_ireturn rfl rfl (bI_nar _) rfl (Nat.le_refl _) (hpp) | exact mw_ireturn rfl rfl rfl rfl (Nat.le_refl _) (hpp)
  · rw [show tkB t tl s.1 c = false from decide_eq_false hc] at hpp
    refine mw_iconst (v := nI 0) rfl (by decide) ?_
    first | exact mw_ireturn rfl rfl (bI_nar _) rfl (Nat.le_refl _) (hpp) | exact mw_ireturn rfl rfl rfl rfl (Nat.le_refl _) (hpp)
def isVr (x : Int32) : Bool := decide (nI 88 ≤ x ∧ x ≤ nI 90)
theorem c_isVariable (d n : Nat) (x : Int32) (h : Nat → MC) : Fn M_X7_isVariable d 0 0 [.int x] h n (some (.int (bI (isVr x)))) h := by
  refine Fn.of fun post hp => ?_
  refine mw_iload_n (i := 0) rfl rfl rfl ?_
  refine mw_bipush (v := nI 88) rfl (by decide) ?_
  refine mw_icmp_lt rfl (fun hc => ?_) (fun hc => ?_)
  · rw [show isVr x = false from decide_eq_false (fun q => absurd q.1 (Int32.not_le.mpr hc))] at hp
    refine mw_iconst (v := nI 0) rfl (by decide) ?_
    first | exact mw_ireturn rfl rfl (bI_nar _) rfl (Nat.le_refl _) (hp) | exact mw_ireturn rfl rfl rfl rfl (Nat.le_refl _) (hp)
  · refine mw_iload_n (i := 0) rfl rfl rfl ?_
    refine mw_bipush (v := nI 90) rfl (by decide) ?_
    refine mw_icmp_gt rfl (fun hd => ?_) (fun hd => ?_)
    · rw [show isVr x = false from decide_eq_false (fun q => absurd q.2 (Int32.not_le.mpr hd))] at hp
      refine mw_iconst (v := nI 0) rfl (by decide) ?_
      first | exact mw_ireturn rfl rfl (bI_nar _) rfl (Nat.le_refl _) (hp) | exact mw_ireturn rfl rfl rfl rfl (Nat.le_refl _) (hp)
    · rw [show isVr x = true from decide_eq_true ⟨Int32.not_lt.mp hc, Int32.not_lt.mp hd⟩] at hp
      refine mw_iconst (v := nI 1) rfl (by decide) ?_
      refine mw_goto rfl ?_
      first | exact mw_ireturn rfl rfl (bI_nar _) rfl (Nat.le_refl _) (hp) | exact mw_ireturn rfl rfl rfl rfl (Nat.le_refl _) (hp)
theorem sub48 {x : Int32} {c : Nat} (hc : c ≤ 6) : inI (x - nI 48) c = true ↔ nI 48 ≤ x ∧ x < nI (48 + c) := by
  constructor
  · intro h
    obtain ⟨j, hj, e⟩ := inI_of h (by omega)
    have e2 : x = nI (48 + j) := by
      have : x = nI 48 + nI j := by rw [← e, Int32.add_comm, Int32.sub_add_cancel]
      rw [this, nI_add]
    rw [e2]
    exact ⟨(nI_leI (by omega) (by omega)).mpr (by omega), (nI_ltI (by omega) (by omega)).mpr (by omega)⟩
  · rintro ⟨h1, h2⟩
    have h0 : (0 : Int32) ≤ x := Int32.le_trans (by decide) h1
    obtain ⟨m, hm, rfl⟩ := nI_of (Int32.not_lt.mpr h0)
    have h1 := (nI_leI (by omega) (by omega)).mp h1
    have h2 := (nI_ltI (by omega) (by omega)).mp h2
    rw [pk_sub h1]
    exact inI_nI (by omega) (by omega)
theorem c_kisTerm (d n : Nat) (x : Int32) (v : Nat → Nat) (h : Nat → MC) (h6 : v 0 ≤ 6) : Fn M_X7_isTerm (d + 1) 0 0 [.int x, .int (nI (v 0))] h n (some (.int (bI (tmB v x)))) h := by
  refine Fn.of fun post hp => ?_
  have tail : inI (x - nI 48) (v 0) = false → MW M_X7_isTerm (d + 1) 0 0 n post 14 [(0, .int x), (1, .int (nI (v 0)))] [] h n 0 := by
    intro hI
    have e : tmB v x = isVr x := by unfold tmB; rw [hI]; rfl
    rw [e] at hp
    refine mw_iload_n (i := 0) rfl rfl rfl ?_
    refine mw_callS_f (c_isVariable d n x h) rfl ok_X7_isVariable v_X7_82 rfl (Nat.le_of_ble_eq_true rfl) rfl (Nat.le_of_ble_eq_true rfl) (by omega) (by omega) (by omega) ?_
    refine mw_b_eq rfl (fun hb => ?_) (fun hb => ?_)
    · rw [hb] at hp
      refine mw_iconst (v := nI 0) rfl (by decide) ?_
      first | exact mw_ireturn rfl rfl (bI_nar _) rfl (Nat.le_refl _) (hp) | exact mw_ireturn rfl rfl rfl rfl (Nat.le_refl _) (hp)
    · rw [hb] at hp
      refine mw_iconst (v := nI 1) rfl (by decide) ?_
      refine mw_goto rfl ?_
      first | exact mw_ireturn rfl rfl (bI_nar _) rfl (Nat.le_refl _) (hp) | exact mw_ireturn rfl rfl rfl rfl (Nat.le_refl _) (hp)
  refine mw_iload_n (i := 0) rfl rfl rfl ?_
  refine mw_bipush (v := nI 48) rfl (by decide) ?_
  refine mw_icmp_lt rfl (fun hc => ?_) (fun hc => ?_)
  · have hI : inI (x - nI 48) (v 0) = false := by
      cases q : inI (x - nI 48) (v 0)
      · rfl
      · exact absurd ((sub48 h6).mp q).1 (Int32.not_le.mpr hc)
    exact mw_locals rfl (tail hI)
  · refine mw_iload_n (i := 0) rfl rfl rfl ?_
    refine mw_bipush (v := nI 48) rfl (by decide) ?_
    refine mw_iload_n (i := 1) rfl rfl rfl ?_
    first | refine mw_nadd rfl ?_ | refine mw_iadd rfl ?_
    refine mw_icmp_lt rfl (fun hd => ?_) (fun hd => ?_)
    · have hI : inI (x - nI 48) (v 0) = true := (sub48 h6).mpr ⟨Int32.not_lt.mp hc, hd⟩
      rw [show tmB v x = true from by unfold tmB; rw [hI]; rfl] at hp
      refine mw_iconst (v := nI 1) rfl (by decide) ?_
      refine mw_goto rfl ?_
      first | exact mw_ireturn rfl rfl (bI_nar _) rfl (Nat.le_refl _) (hp) | exact mw_ireturn rfl rfl rfl rfl (Nat.le_refl _) (hp)
    · have hI : inI (x - nI 48) (v 0) = false := by
        cases q : inI (x - nI 48) (v 0)
        · rfl
        · exact absurd ((sub48 h6).mp q).2 hd
      exact mw_locals rfl (tail hI)
theorem tmB_cases {v : Nat → Nat} (h6 : v 0 ≤ 6) {x : Int32} (h : tmB v x = true) : (∃ j, j < v 0 ∧ x = nI (48 + j) ∧ tmV x = nI j) ∨ (∃ j, j < 3 ∧ x = nI (88 + j) ∧ tmV x = nI (6 + j)) := by
  unfold tmB at h
  rw [Bool.or_eq_true] at h
  rcases h with h | h
  · obtain ⟨j, hj, e⟩ := inI_of h (by omega)
    have e2 : x = nI (48 + j) := by
      have : x = nI 48 + nI j := by rw [← e, Int32.add_comm, Int32.sub_add_cancel]
      rw [this, nI_add]
    refine Or.inl ⟨j, hj, e2, ?_⟩
    unfold tmV
    rw [if_pos (by rw [e2]; exact (nI_ltI (by omega) (by omega)).mpr (by omega)), e]
  · have h := of_decide_eq_true h
    have h0 : (0 : Int32) ≤ x := Int32.le_trans (by decide) h.1
    obtain ⟨m, hm, rfl⟩ := nI_of (Int32.not_lt.mpr h0)
    have h1 := (nI_leI (by omega) (by omega)).mp h.1
    have h2 := (nI_leI (by omega) (by omega)).mp h.2
    refine Or.inr ⟨m - 88, by omega, by rw [show 88 + (m - 88) = m by omega], ?_⟩
    unfold tmV
    rw [if_neg (by intro q; have := (nI_ltI (by omega) (by omega)).mp q; omega), pk_sub h1, nI_add, show m - 88 + 6 = 6 + (m - 88) by omega]
theorem c_takeTerm (d n tl : Nat) (v t : Nat → Nat) (s : KS) (h : Nat → MC) (ht : h 50 = .inl (.int, 60, .inl (vI t))) (hl : tl ≤ 60) (hp : s.1 ≤ tl) (h6 : v 0 ≤ 6) (hT : tmB v (hereV t tl s.1) = true) : Fn M_X7_takeTerm (d + 1) 0 0 [.ref 49] (mov (txC tl s) h) n (some (.int (tmV (hereV t tl s.1)))) (mov (txC tl (s.1 + 1, s.2)) h) := by
  refine Fn.of fun post hpp => ?_
  refine mw_aload_n (i := 0) rfl rfl rfl ?_
  refine mw_callV_f (c_next d n tl t s h ht hl hp) rfl ok_X7_next v_X7_52 rfl (by first | rfl | exact rfl | exact ht) (by intro e; cases e) rfl (Nat.le_of_ble_eq_true rfl) rfl (Nat.le_of_ble_eq_true rfl) (by omega) (by omega) (by omega) ?_
  rcases tmB_cases h6 hT with ⟨j, hj, e1, e2⟩ | ⟨j, hj, e1, e2⟩
  · rw [e2] at hpp
    rw [e1]
    refine mw_istore_n (i := 1) rfl rfl (Nat.le_of_ble_eq_true rfl) ?_
    refine mw_aload_n (i := 0) rfl rfl rfl ?_
    refine mw_dup rfl rfl ?_
    refine mw_getfield rfl f_X7_26 (by first | rfl | exact rfl | exact ht) rfl ?_
    refine mw_iconst (v := nI 1) rfl (by decide) ?_
    first | refine mw_nadd rfl ?_ | refine mw_iadd rfl ?_
    refine mw_putfield_m rfl f_X7_26 (by first | rfl | exact rfl | exact ht) (Nat.le_of_ble_eq_true rfl) (fun _ => rfl) (fun _ => rfl) ?_
    refine mw_iload_n (i := 1) rfl rfl rfl ?_
    refine mw_callS_f (c_isVariable d n (nI (48 + j)) _) rfl ok_X7_isVariable v_X7_82 rfl (Nat.le_of_ble_eq_true rfl) rfl (Nat.le_of_ble_eq_true rfl) (by omega) (by omega) (by omega) ?_
    rw [show isVr (nI (48 + j)) = false from decide_eq_false (fun q => absurd ((nI_leI (by omega) (by omega)).mp q.1) (by omega))]
    refine mw_b_eq rfl (fun hz => ?_) (fun hz => ?_)
    · refine mw_iload_n (i := 1) rfl rfl rfl ?_
      refine mw_bipush (v := nI 48) rfl (by decide) ?_
      first | refine mw_nsub rfl (by omega) ?_ | refine mw_isub rfl ?_
      rw [show 48 + j - 48 = j by omega]
      exact mw_ireturn rfl rfl rfl rfl (Nat.le_refl _) (hpp)
    · cases hz
  · rw [e2] at hpp
    rw [e1]
    refine mw_istore_n (i := 1) rfl rfl (Nat.le_of_ble_eq_true rfl) ?_
    refine mw_aload_n (i := 0) rfl rfl rfl ?_
    refine mw_dup rfl rfl ?_
    refine mw_getfield rfl f_X7_26 (by first | rfl | exact rfl | exact ht) rfl ?_
    refine mw_iconst (v := nI 1) rfl (by decide) ?_
    first | refine mw_nadd rfl ?_ | refine mw_iadd rfl ?_
    refine mw_putfield_m rfl f_X7_26 (by first | rfl | exact rfl | exact ht) (Nat.le_of_ble_eq_true rfl) (fun _ => rfl) (fun _ => rfl) ?_
    refine mw_iload_n (i := 1) rfl rfl rfl ?_
    refine mw_callS_f (c_isVariable d n (nI (88 + j)) _) rfl ok_X7_isVariable v_X7_82 rfl (Nat.le_of_ble_eq_true rfl) rfl (Nat.le_of_ble_eq_true rfl) (by omega) (by omega) (by omega) ?_
    rw [show isVr (nI (88 + j)) = true from decide_eq_true ⟨(nI_leI (by omega) (by omega)).mpr (by omega), (nI_leI (by omega) (by omega)).mpr (by omega)⟩]
    refine mw_b_eq rfl (fun hz => ?_) (fun hz => ?_)
    · cases hz
    · refine mw_bipush (v := nI 6) rfl (by decide) ?_
      refine mw_iload_n (i := 1) rfl rfl rfl ?_
      first | refine mw_nadd rfl ?_ | refine mw_iadd rfl ?_
      refine mw_bipush (v := nI 88) rfl (by decide) ?_
      first | refine mw_nsub rfl (by omega) ?_ | refine mw_isub rfl ?_
      refine mw_goto rfl ?_
      rw [show 6 + (88 + j) - 88 = 6 + j by omega]
      exact mw_ireturn rfl rfl rfl rfl (Nat.le_refl _) (hpp)
def andK (a b : KS → Bool × KS) : KS → Bool × KS := fun s => if (a s).1 = true then b (a s).2 else (false, (a s).2)
theorem andK_1 {a b : KS → Bool × KS} {s : KS} (h : (a s).1 = true) : andK a b s = b (a s).2 := if_pos h
theorem andK_0 {a b : KS → Bool × KS} {s : KS} (h : (a s).1 = false) : andK a b s = (false, (a s).2) := if_neg (by rw [h]; decide)
def kdFirst (v t : Nat → Nat) (tl k q : Nat) (s : KS) : Bool × KS := if tmB v (hereV t tl s.1) = true then (true, s.1 + 1, (updN s.2.pr k q, updN s.2.fi k (toN (tmV (hereV t tl s.1))), updN s.2.se k 0, s.2.ng, s.2.li, s.2.pc)) else (false, s)
def kdSecond (v t : Nat → Nat) (tl k : Nat) (s : KS) : Bool × KS := if tmB v (hereV t tl s.1) = true then (true, s.1 + 1, (s.2.pr, s.2.fi, updN s.2.se k (toN (tmV (hereV t tl s.1))), s.2.ng, s.2.li, s.2.pc)) else (false, s)
def kdAtom (v t : Nat → Nat) (tl k : Nat) (s : KS) : Bool × KS :=
  if inI (hereV t tl s.1 - nI 112) 6 = true then
    andK (kdTake t tl 40) (andK (kdFirst v t tl k (hereV t tl s.1 - nI 112).toNatClampNeg) (if v (3 + (hereV t tl s.1 - nI 112).toNatClampNeg) = 2 then andK (kdTake t tl 44) (andK (kdSecond v t tl k) (kdTake t tl 41)) else kdTake t tl 41)) (s.1 + 1, s.2)
  else (false, s)
theorem kd_lt {v t : Nat → Nat} {tl pl : Nat} (h6 : v 0 ≤ 6) (h : tmB v (hereV t tl pl) = true) : pl < tl := by
  refine hereV_lt (t := t) (fun e => ?_)
  rcases tmB_cases h6 h with ⟨j, hj, e1, e2⟩ | ⟨j, hj, e1, e2⟩
  · rw [e] at e1
    have := nI_pos' (show 48 + j < 2147483648 by omega)
    rw [← e1] at this
    exact absurd this (by decide)
  · rw [e] at e1
    have := nI_pos' (show 88 + j < 2147483648 by omega)
    rw [← e1] at this
    exact absurd this (by decide)
theorem kdFirst_le {v t : Nat → Nat} {tl k q : Nat} (h6 : v 0 ≤ 6) {s : KS} (h : s.1 ≤ tl) : (kdFirst v t tl k q s).2.1 ≤ tl := by
  unfold kdFirst
  split
  · rename_i hT
    have := kd_lt h6 hT
    show s.1 + 1 ≤ tl
    omega
  · exact h
theorem kdSecond_le {v t : Nat → Nat} {tl k : Nat} (h6 : v 0 ≤ 6) {s : KS} (h : s.1 ≤ tl) : (kdSecond v t tl k s).2.1 ≤ tl := by
  unfold kdSecond
  split
  · rename_i hT
    have := kd_lt h6 hT
    show s.1 + 1 ≤ tl
    omega
  · exact h
theorem andK_le {a b : KS → Bool × KS} {tl : Nat} (ha : ∀ s, s.1 ≤ tl → (a s).2.1 ≤ tl) (hb : ∀ s, s.1 ≤ tl → (b s).2.1 ≤ tl) : ∀ s, s.1 ≤ tl → (andK a b s).2.1 ≤ tl := by
  intro s h
  unfold andK
  split
  · exact hb _ (ha s h)
  · exact ha s h
theorem kdAtom_le {v t : Nat → Nat} {tl k : Nat} (h6 : v 0 ≤ 6) {s : KS} (h : s.1 ≤ tl) : (kdAtom v t tl k s).2.1 ≤ tl := by
  unfold kdAtom
  split
  · rename_i hin
    have hlt : s.1 < tl := hereV_lt (fun e2 => by rw [e2] at hin; exact absurd hin (by decide))
    refine andK_le (fun s h => kdTake_le (by omega) h) (andK_le (fun s h => kdFirst_le h6 h) ?_) _ hlt
    split
    · exact andK_le (fun s h => kdTake_le (by omega) h) (andK_le (fun s h => kdSecond_le h6 h) (fun s h => kdTake_le (by omega) h))
    · exact fun s h => kdTake_le (by omega) h
  · exact h
set_option maxRecDepth 20000 in
theorem c_readAtom (d n k tl : Nat) (v t : Nat → Nat) (P : PgS) (s : KS) (h : Nat → MC) (ht : h 50 = .inl (.int, 60, .inl (vI t))) (hl : tl ≤ 60) (hp : s.1 ≤ tl) (hP : PgAt h 1 P) (hV : PgV P v) (hok : OkN v) (hk : k < 4) : Fn M_X7_readAtom (d + 2) 0 0 [.ref 49, .ref 1, .int (nI k)] (mov (txC tl s) h) n (some (.int (bI (kdAtom v t tl k s).1))) (mov (txC tl (kdAtom v t tl k s).2) h) := by
  have hP0 : h 1 = _ := hP.cell (i := 0) (by omega)
  have hP1 : h 2 = _ := hP.cell (i := 1) (by omega)
  obtain ⟨hc1, hc6, -, -, hpl, -⟩ := hok
  obtain ⟨vc, vpl, -⟩ := hV
  refine Fn.of fun post hpp => ?_
  refine mw_aload_n (i := 0) rfl rfl rfl ?_
  refine mw_callV_f (c_next (d + 1) n tl t s h ht hl hp) rfl ok_X7_next v_X7_52 rfl (by first | rfl | exact rfl | exact ht | exact hP0 | exact hP1) (by intro e; cases e) rfl (Nat.le_of_ble_eq_true rfl) rfl (Nat.le_of_ble_eq_true rfl) (by omega) (by omega) (by omega) ?_
  unfold kdAtom at hpp
  generalize hX : hereV t tl s.1 = x at hpp ⊢
  refine mw_bipush (v := nI 112) rfl (by decide) ?_
  first | refine mw_nsub rfl (by omega) ?_ | refine mw_isub rfl ?_
  refine mw_istore_n (i := 3) rfl rfl (Nat.le_of_ble_eq_true rfl) ?_
  refine mw_iload_n (i := 3) rfl rfl rfl ?_
  refine mw_callSN_f (c_isPredicate (d + 1) n (x - nI 112) _) rfl ok_X9_isPredicate v_X7_55 rfl (Nat.le_of_ble_eq_true rfl) rfl (Nat.le_of_ble_eq_true rfl) (by omega) (by omega) (by omega) ?_
  refine mw_b_ne rfl (fun hin => ?_) (fun hin => ?_)
  · rw [if_pos hin] at hpp
    obtain ⟨q, hq, e⟩ := inI_of hin (by omega)
    rw [e, nI_clamp (by omega)] at hpp
    have hlt : s.1 < tl := hereV_lt (fun e2 => by rw [hX] at e2; rw [e2] at hin; exact absurd hin (by decide))
    rw [e]
    refine mw_aload_n (i := 0) rfl rfl rfl ?_
    refine mw_dup rfl rfl ?_
    refine mw_getfield rfl f_X7_26 (by first | rfl | exact rfl | exact ht | exact hP0 | exact hP1) rfl ?_
    refine mw_iconst (v := nI 1) rfl (by decide) ?_
    first | refine mw_nadd rfl ?_ | refine mw_iadd rfl ?_
    refine mw_putfield_m rfl f_X7_26 (by first | rfl | exact rfl | exact ht | exact hP0 | exact hP1) (Nat.le_of_ble_eq_true rfl) (fun _ => rfl) (fun _ => rfl) ?_
    refine mw_aload_n (i := 0) rfl rfl rfl ?_
    refine mw_bipush (v := nI 40) rfl (by decide) ?_
    refine mw_heap (h2 := mov (txC tl (s.1 + 1, s.2)) h) rfl ?_
    have hp1 : ((s.1 + 1, s.2) : KS).1 ≤ tl := hlt
    generalize ((s.1 + 1, s.2) : KS) = s1 at hp1 hpp ⊢
    refine mw_callV_f (c_take d n 40 tl t s1 h ht hl hp1) rfl ok_X7_take v_X7_41 rfl (by first | rfl | exact rfl | exact ht | exact hP0 | exact hP1) (by intro e; cases e) rfl (Nat.le_of_ble_eq_true rfl) rfl (Nat.le_of_ble_eq_true rfl) (by omega) (by omega) (by omega) ?_
    refine mw_b_eq rfl (fun h40 => ?_) (fun h40 => ?_)
    · rw [andK_0 h40] at hpp
      refine mw_iconst (v := nI 0) rfl (by decide) ?_
      first | exact mw_ireturn rfl rfl (bI_nar _) rfl (Nat.le_refl _) (hpp) | exact mw_ireturn rfl rfl rfl rfl (Nat.le_refl _) (hpp)
    · rw [andK_1 h40] at hpp
      have hp2 := kdTake_le (t := t) (c := 40) (by omega) hp1
      generalize (kdTake t tl 40 s1).2 = s2 at hpp hp2 ⊢
      refine mw_aload_n (i := 0) rfl rfl rfl ?_
      refine mw_callV_f (c_next (d + 1) n tl t s2 h ht hl hp2) rfl ok_X7_next v_X7_52 rfl (by first | rfl | exact rfl | exact ht | exact hP0 | exact hP1) (by intro e; cases e) rfl (Nat.le_of_ble_eq_true rfl) rfl (Nat.le_of_ble_eq_true rfl) (by omega) (by omega) (by omega) ?_
      refine mw_aload_n (i := 1) rfl rfl rfl ?_
      refine mw_getfield rfl f_X7_58 (by first | rfl | exact rfl | exact ht | exact hP0 | exact hP1) rfl ?_
      rw [show P.c = v 0 from vc]
      refine mw_callS_f (c_kisTerm d n (hereV t tl s2.1) v _ hc6) rfl ok_X7_isTerm v_X7_63 rfl (Nat.le_of_ble_eq_true rfl) rfl (Nat.le_of_ble_eq_true rfl) (by omega) (by omega) (by omega) ?_
      refine mw_b_ne rfl (fun h1 => ?_) (fun h1 => ?_)
      · have e1 : kdFirst v t tl k q s2 = (true, s2.1 + 1, (updN s2.2.pr k q, updN s2.2.fi k (toN (tmV (hereV t tl s2.1))), updN s2.2.se k 0, s2.2.ng, s2.2.li, s2.2.pc)) := if_pos h1
        have hp3 := kdFirst_le (t := t) (k := k) (q := q) hc6 hp2
        rw [andK_1 (by rw [e1])] at hpp
        refine mw_aload_n (i := 0) rfl rfl rfl ?_
        refine mw_getfield rfl f_X7_18 (by first | rfl | exact rfl | exact ht | exact hP0 | exact hP1) rfl ?_
        refine mw_getfield rfl f_X7_67 (by first | rfl | exact rfl | exact ht | exact hP0 | exact hP1) rfl ?_
        refine mw_iload_n (i := 2) rfl rfl rfl ?_
        refine mw_iload_n (i := 3) rfl rfl rfl ?_
        refine mw_iast_m rfl (by first | rfl | exact rfl | exact ht | exact hP0 | exact hP1) (by omega) (by omega) ?_
        first | rw [vI_upd] | rw [vI_updv] | skip
        refine mw_aload_n (i := 0) rfl rfl rfl ?_
        refine mw_getfield rfl f_X7_18 (by first | rfl | exact rfl | exact ht | exact hP0 | exact hP1) rfl ?_
        refine mw_getfield rfl f_X7_70 (by first | rfl | exact rfl | exact ht | exact hP0 | exact hP1) rfl ?_
        refine mw_iload_n (i := 2) rfl rfl rfl ?_
        refine mw_aload_n (i := 0) rfl rfl rfl ?_
        refine mw_heap (h2 := mov (txC tl (s2.1, (updN s2.2.pr k q, s2.2.fi, s2.2.se, s2.2.ng, s2.2.li, s2.2.pc))) h) rfl ?_
        refine mw_callV_f (c_takeTerm d n tl v t (s2.1, (updN s2.2.pr k q, s2.2.fi, s2.2.se, s2.2.ng, s2.2.li, s2.2.pc)) h ht hl hp2 hc6 h1) rfl ok_X7_takeTerm v_X7_73 rfl (by first | rfl | exact rfl | exact ht | exact hP0 | exact hP1) (by intro e; cases e) rfl (Nat.le_of_ble_eq_true rfl) rfl (Nat.le_of_ble_eq_true rfl) (by omega) (by omega) (by omega) ?_
        rw [show tmV (hereV t tl ((s2.1, (updN s2.2.pr k q, s2.2.fi, s2.2.se, s2.2.ng, s2.2.li, s2.2.pc)) : KS).1) = nI (toN (tmV (hereV t tl s2.1))) from (nI_toN _).symm]
        refine mw_iast_m rfl (by first | rfl | exact rfl | exact ht | exact hP0 | exact hP1) (by omega) (by omega) ?_
        first | rw [vI_upd] | rw [vI_updv] | skip
        refine mw_aload_n (i := 0) rfl rfl rfl ?_
        refine mw_getfield rfl f_X7_18 (by first | rfl | exact rfl | exact ht | exact hP0 | exact hP1) rfl ?_
        refine mw_getfield rfl f_X7_76 (by first | rfl | exact rfl | exact ht | exact hP0 | exact hP1) rfl ?_
        refine mw_iload_n (i := 2) rfl rfl rfl ?_
        refine mw_iconst (v := nI 0) rfl (by decide) ?_
        refine mw_iast_m rfl (by first | rfl | exact rfl | exact ht | exact hP0 | exact hP1) (by omega) (by omega) ?_
        first | rw [vI_upd] | rw [vI_updv] | skip
        refine mw_heap (h2 := mov (txC tl (kdFirst v t tl k q s2).2) h) (by rw [e1]; rfl) ?_
        generalize (kdFirst v t tl k q s2).2 = s3 at hpp hp3 ⊢
        have := hpl q hq
        refine mw_aload_n (i := 1) rfl rfl rfl ?_
        refine mw_getfield rfl f_X7_79 (by first | rfl | exact rfl | exact ht | exact hP0 | exact hP1) rfl ?_
        refine mw_iload_n (i := 3) rfl rfl rfl ?_
        refine mw_iald_v rfl (by first | rfl | exact rfl | exact ht | exact hP0 | exact hP1) (by omega) (by omega) (show vI P.pl q = nI (v (3 + q)) from congrArg nI (vpl q hq)) ?_
        refine mw_iconst (v := nI 2) rfl (by decide) ?_
        refine mw_n_ne rfl (by omega) (by omega) (fun h2 => ?_) (fun h2 => ?_)
        · rw [if_neg h2] at hpp
          refine mw_aload_n (i := 0) rfl rfl rfl ?_
          refine mw_bipush (v := nI 41) rfl (by decide) ?_
          refine mw_callV_f (c_take d n 41 tl t s3 h ht hl hp3) rfl ok_X7_take v_X7_41 rfl (by first | rfl | exact rfl | exact ht | exact hP0 | exact hP1) (by intro e; cases e) rfl (Nat.le_of_ble_eq_true rfl) rfl (Nat.le_of_ble_eq_true rfl) (by omega) (by omega) (by omega) ?_
          first | exact mw_ireturn rfl rfl (bI_nar _) rfl (Nat.le_refl _) (hpp) | exact mw_ireturn rfl rfl rfl rfl (Nat.le_refl _) (hpp)
        · rw [if_pos h2] at hpp
          refine mw_aload_n (i := 0) rfl rfl rfl ?_
          refine mw_bipush (v := nI 44) rfl (by decide) ?_
          refine mw_callV_f (c_take d n 44 tl t s3 h ht hl hp3) rfl ok_X7_take v_X7_41 rfl (by first | rfl | exact rfl | exact ht | exact hP0 | exact hP1) (by intro e; cases e) rfl (Nat.le_of_ble_eq_true rfl) rfl (Nat.le_of_ble_eq_true rfl) (by omega) (by omega) (by omega) ?_
          refine mw_b_eq rfl (fun h44 => ?_) (fun h44 => ?_)
          · rw [andK_0 h44] at hpp
            refine mw_iconst (v := nI 0) rfl (by decide) ?_
            first | exact mw_ireturn rfl rfl (bI_nar _) rfl (Nat.le_refl _) (hpp) | exact mw_ireturn rfl rfl rfl rfl (Nat.le_refl _) (hpp)
          · rw [andK_1 h44] at hpp
            have hp4 := kdTake_le (t := t) (c := 44) (by omega) hp3
            generalize (kdTake t tl 44 s3).2 = s4 at hpp hp4 ⊢
            refine mw_aload_n (i := 0) rfl rfl rfl ?_
            refine mw_callV_f (c_next (d + 1) n tl t s4 h ht hl hp4) rfl ok_X7_next v_X7_52 rfl (by first | rfl | exact rfl | exact ht | exact hP0 | exact hP1) (by intro e; cases e) rfl (Nat.le_of_ble_eq_true rfl) rfl (Nat.le_of_ble_eq_true rfl) (by omega) (by omega) (by omega) ?_
            refine mw_aload_n (i := 1) rfl rfl rfl ?_
            refine mw_getfield rfl f_X7_58 (by first | rfl | exact rfl | exact ht | exact hP0 | exact hP1) rfl ?_
            rw [show P.c = v 0 from vc]
            refine mw_callS_f (c_kisTerm d n (hereV t tl s4.1) v _ hc6) rfl ok_X7_isTerm v_X7_63 rfl (Nat.le_of_ble_eq_true rfl) rfl (Nat.le_of_ble_eq_true rfl) (by omega) (by omega) (by omega) ?_
            refine mw_b_ne rfl (fun h3 => ?_) (fun h3 => ?_)
            · have e4 : kdSecond v t tl k s4 = (true, s4.1 + 1, (s4.2.pr, s4.2.fi, updN s4.2.se k (toN (tmV (hereV t tl s4.1))), s4.2.ng, s4.2.li, s4.2.pc)) := if_pos h3
              have hp5 := kdSecond_le (t := t) (k := k) hc6 hp4
              rw [andK_1 (by rw [e4])] at hpp
              refine mw_aload_n (i := 0) rfl rfl rfl ?_
              refine mw_getfield rfl f_X7_18 (by first | rfl | exact rfl | exact ht | exact hP0 | exact hP1) rfl ?_
              refine mw_getfield rfl f_X7_76 (by first | rfl | exact rfl | exact ht | exact hP0 | exact hP1) rfl ?_
              refine mw_iload_n (i := 2) rfl rfl rfl ?_
              refine mw_aload_n (i := 0) rfl rfl rfl ?_
              refine mw_callV_f (c_takeTerm d n tl v t s4 h ht hl hp4 hc6 h3) rfl ok_X7_takeTerm v_X7_73 rfl (by first | rfl | exact rfl | exact ht | exact hP0 | exact hP1) (by intro e; cases e) rfl (Nat.le_of_ble_eq_true rfl) rfl (Nat.le_of_ble_eq_true rfl) (by omega) (by omega) (by omega) ?_
              rw [show tmV (hereV t tl s4.1) = nI (toN (tmV (hereV t tl s4.1))) from (nI_toN _).symm]
              refine mw_iast_m rfl (by first | rfl | exact rfl | exact ht | exact hP0 | exact hP1) (by omega) (by omega) ?_
              first | rw [vI_upd] | rw [vI_updv] | skip
              refine mw_heap (h2 := mov (txC tl (kdSecond v t tl k s4).2) h) (by rw [e4]; rfl) ?_
              generalize (kdSecond v t tl k s4).2 = s5 at hpp hp5 ⊢
              refine mw_aload_n (i := 0) rfl rfl rfl ?_
              refine mw_bipush (v := nI 41) rfl (by decide) ?_
              refine mw_callV_f (c_take d n 41 tl t s5 h ht hl hp5) rfl ok_X7_take v_X7_41 rfl (by first | rfl | exact rfl | exact ht | exact hP0 | exact hP1) (by intro e; cases e) rfl (Nat.le_of_ble_eq_true rfl) rfl (Nat.le_of_ble_eq_true rfl) (by omega) (by omega) (by omega) ?_
              first | exact mw_ireturn rfl rfl (bI_nar _) rfl (Nat.le_refl _) (hpp) | exact mw_ireturn rfl rfl rfl rfl (Nat.le_refl _) (hpp)
            · have e4 : kdSecond v t tl k s4 = (false, s4) := if_neg (by rw [h3]; decide)
              rw [andK_0 (by rw [e4]), e4] at hpp
              refine mw_iconst (v := nI 0) rfl (by decide) ?_
              first | exact mw_ireturn rfl rfl (bI_nar _) rfl (Nat.le_refl _) (hpp) | exact mw_ireturn rfl rfl rfl rfl (Nat.le_refl _) (hpp)
      · have e1 : kdFirst v t tl k q s2 = (false, s2) := if_neg (by rw [h1]; decide)
        rw [andK_0 (by rw [e1]), e1] at hpp
        refine mw_iconst (v := nI 0) rfl (by decide) ?_
        first | exact mw_ireturn rfl rfl (bI_nar _) rfl (Nat.le_refl _) (hpp) | exact mw_ireturn rfl rfl rfl rfl (Nat.le_refl _) (hpp)
  · rw [if_neg (by rw [hin]; decide)] at hpp
    refine mw_iconst (v := nI 0) rfl (by decide) ?_
    first | exact mw_ireturn rfl rfl (bI_nar _) rfl (Nat.le_refl _) (hpp) | exact mw_ireturn rfl rfl rfl rfl (Nat.le_refl _) (hpp)
def kdLit (v t : Nat → Nat) (tl a : Nat) (s : KS) : Bool × KS := kdAtom v t tl a ((kdTake t tl 33 s).2.1, (s.2.pr, s.2.fi, s.2.se, updN s.2.ng a (kdTake t tl 33 s).1, s.2.li, s.2.pc))
def kdSet (k : Nat) (s : KS) : KS := (s.1, (s.2.pr, s.2.fi, s.2.se, s.2.ng, k, s.2.pc))
def kdLits (v t : Nat → Nat) (tl : Nat) : Nat → Nat → KS → Bool × KS
  | 0, _, s => (true, s)
  | m + 1, k, s => if (kdLit v t tl (k + 1) s).1 = true then (if k + 1 < 3 then (if (kdTake t tl 44 (kdSet (k + 1) (kdLit v t tl (k + 1) s).2)).1 = true then kdLits v t tl m (k + 1) (kdTake t tl 44 (kdSet (k + 1) (kdLit v t tl (k + 1) s).2)).2 else (true, (kdTake t tl 44 (kdSet (k + 1) (kdLit v t tl (k + 1) s).2)).2)) else (true, kdSet (k + 1) (kdLit v t tl (k + 1) s).2)) else (false, (kdLit v t tl (k + 1) s).2)
def kdRule (v t : Nat → Nat) (tl : Nat) (R : RuS) : Bool × KS :=
  if (kdAtom v t tl 0 (0, R)).1 = true then
    (if (kdTake t tl 60 (kdAtom v t tl 0 (0, R)).2).1 = true then
      ((kdLits v t tl 3 0 (kdTake t tl 60 (kdAtom v t tl 0 (0, R)).2).2).1 && decide ((kdLits v t tl 3 0 (kdTake t tl 60 (kdAtom v t tl 0 (0, R)).2).2).2.1 = tl), (kdLits v t tl 3 0 (kdTake t tl 60 (kdAtom v t tl 0 (0, R)).2).2).2)
    else (false, (kdTake t tl 60 (kdAtom v t tl 0 (0, R)).2).2))
  else (false, (kdAtom v t tl 0 (0, R)).2)
