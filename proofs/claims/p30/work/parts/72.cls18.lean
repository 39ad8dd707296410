/-! THE CLASS'S SURVIVALS: bits, one base fact, one instance -/
-- ts_bit, wb_cu: pasted from the kit's laws/BITS.to-paste
theorem ts_bit {w : Int64} {s : UInt64} {j : Nat} (hj : j < 64) (hs : s.toNat = j) : ((w.toUInt64 >>> s).toInt64 &&& 1) = 0 ↔ w.toBitVec.getLsbD j = false := by
  have e : (w.toUInt64 >>> s).toInt64.toBitVec = w.toBitVec >>> j := by
    apply BitVec.eq_of_toNat_eq
    show (w.toUInt64 >>> s).toNat = _
    rw [UInt64.toNat_shiftRight, hs, Nat.mod_eq_of_lt hj, BitVec.toNat_ushiftRight]
    rfl
  rw [← Int64.toBitVec_inj, Int64.toBitVec_and, e]
  show w.toBitVec >>> j &&& 1#64 = 0#64 ↔ _
  constructor
  · intro h
    have t := congrArg (fun x => x.getLsbD 0) h
    simp only [BitVec.getLsbD_and, BitVec.getLsbD_ushiftRight] at t
    simpa using t
  · intro h
    apply BitVec.eq_of_getLsbD_eq
    intro i hi
    simp only [BitVec.getLsbD_and, BitVec.getLsbD_ushiftRight]
    cases i with
    | zero => simpa using h
    | succ i => simp
theorem wb_cu : ∀ k, k < 64 → ((nI k).toInt64.toUInt64 &&& Int64.toUInt64 63) = UInt64.ofNat k := by decide +kernel
theorem wb_1 : ∀ k, k < 64 → ((1 : Int64) <<< ((nI k).toInt64 &&& 63)).toBitVec = BitVec.twoPow 64 k := by decide +kernel
def bt (x : Int64) (b : Nat) : Bool := x.toBitVec.getLsbD b
theorem bt_or (x y : Int64) (b : Nat) : bt (x ||| y) b = (bt x b || bt y b) := by
  unfold bt
  rw [Int64.toBitVec_or, BitVec.getLsbD_or]
theorem bt_and (x y : Int64) (b : Nat) : bt (x &&& y) b = (bt x b && bt y b) := by
  unfold bt
  rw [Int64.toBitVec_and, BitVec.getLsbD_and]
theorem bt_m1 {b : Nat} (h : b < 64) : bt (-1) b = true := by
  unfold bt
  rw [show (-1 : Int64).toBitVec = BitVec.allOnes 64 by decide, BitVec.getLsbD_allOnes]
  exact decide_eq_true h
theorem bt_0 (b : Nat) : bt 0 b = false := by
  unfold bt
  rw [show (0 : Int64).toBitVec = 0#64 by decide]
  exact BitVec.getLsbD_zero
theorem bt_sh {k b : Nat} (hk : k < 64) : bt ((1 : Int64) <<< ((nI k).toInt64 &&& 63)) b = decide (k = b) := by
  unfold bt
  rw [wb_1 k hk, BitVec.getLsbD_twoPow, decide_eq_true hk, Bool.true_and]
theorem bt_ext {x y : Int64} (h : ∀ b, b < 64 → bt x b = bt y b) : x = y := by
  apply Int64.toBitVec_inj.mp
  apply BitVec.eq_of_getLsbD_eq
  intro i hi
  exact h i hi
theorem bt_test (x : Int64) {k : Nat} (hk : k < 64) : lg_cmp ((x.toUInt64 >>> ((nI k).toInt64.toUInt64 &&& Int64.toUInt64 63)).toInt64 &&& 1) 0 = 0 ↔ bt x k = false := by
  rw [lg_cmp_eq, wb_cu k hk]
  refine ts_bit hk ?_
  rw [UInt64.toNat_ofNat']
  exact Nat.mod_eq_of_lt (by omega)
/-- is the bit of the set s on in the row of the atom f -/
def Dv (rw' : Nat → Int64) (s f : Nat) : Bool := bt (rw' (f * 5 + s / 64)) (s % 64)
def SV (rw' : Nat → Int64) (D : Nat → Nat → Bool) : Prop := ∀ s, s < 320 → ∀ f, f < 216 → Dv rw' s f = D s f
abbrev UO : MC := .inr (8, [.ref 82, .ref 83])
abbrev rwL (rw' : Nat → Int64) : MLs := [(83, .inl (.long, 1080, .inr (.inl rw')))]
theorem vp_updN (f : Nat → Int64) (k : Nat) (x : Int64) : vp_updL f k x = updN f k x := rfl
theorem c_survives (d n f s : Nat) (rw' : Nat → Int64) (h : Nat → MC) (h81 : h 81 = UO) (h83 : h 83 = .inl (.long, 1080, .inr (.inl rw'))) (hf : f < 216) (hs : s < 320) : Fn M_X8_survives d 0 0 [.ref 81, .int (nI f), .int (nI s)] h n (some (.int (bI (Dv rw' s f)))) h := by
  refine Fn.of fun post hp => ?_
  have hb := bt_test (rw' (f * 5 + s / 64)) (show s % 64 < 64 by omega)
  unfold Dv at hp
  refine mw_aload_n (i := 0) rfl rfl rfl ?_
  refine mw_getfield rfl f_X8_15 (by first | rfl | exact h81 | exact h83) rfl ?_
  refine mw_iload_n (i := 1) rfl rfl rfl ?_
  refine mw_iconst (v := nI 5) rfl (by decide) ?_
  first | refine mw_nmul rfl ?_ | refine mw_imul rfl ?_
  refine mw_iload_n (i := 2) rfl rfl rfl ?_
  refine mw_bipush (v := nI 64) rfl (by decide) ?_
  refine mw_ndiv rfl (by omega) (by omega) (by omega) ?_
  first | refine mw_nadd rfl ?_ | refine mw_iadd rfl ?_
  refine mw_lald rfl (by first | rfl | exact h81 | exact h83) (by omega) (by omega) ?_
  refine mw_lstore_n (i := 3) rfl rfl (Nat.le_of_ble_eq_true rfl) ?_
  refine mw_lload_n (i := 3) rfl rfl rfl ?_
  refine mw_iload_n (i := 2) rfl rfl rfl ?_
  refine mw_bipush (v := nI 64) rfl (by decide) ?_
  refine mw_nrem rfl (by omega) (by omega) (by omega) ?_
  refine mw_lushr rfl ?_
  refine mw_lconst (v := 1) rfl (by decide) ?_
  refine mw_land rfl ?_
  refine mw_lconst (v := 0) rfl (by decide) ?_
  refine mw_lcmp rfl ?_
  refine mw_if_eq rfl (fun hc => ?_) (fun hc => ?_)
  · rw [hb.mp hc] at hp
    refine mw_iconst (v := nI 0) rfl (by decide) ?_
    first | exact mw_ireturn rfl rfl (bI_nar _) rfl (Nat.le_refl _) (hp) | exact mw_ireturn rfl rfl rfl rfl (Nat.le_refl _) (hp)
  · have : bt (rw' (f * 5 + s / 64)) (s % 64) = true := by
      cases q : bt (rw' (f * 5 + s / 64)) (s % 64)
      · exact absurd (hb.mpr q) hc
      · rfl
    rw [this] at hp
    refine mw_iconst (v := nI 1) rfl (by decide) ?_
    refine mw_goto rfl ?_
    first | exact mw_ireturn rfl rfl (bI_nar _) rfl (Nat.le_refl _) (hp) | exact mw_ireturn rfl rfl rfl rfl (Nat.le_refl _) (hp)
def enS (sm : Nat → Nat) (k a i : Nat) (D : Nat → Nat → Bool) : Nat → Nat → Bool := fun s => if s < i ∧ delB (nI (sm s)) k = true then updN (D s) a true else D s
theorem Dv_upd {rw' : Nat → Int64} {s' f s a : Nat} {x : Int64} (hs : s < 320) (hs' : s' < 320) : Dv (updN rw' (a * 5 + s / 64) x) s' f = if f = a ∧ s' / 64 = s / 64 then bt x (s' % 64) else Dv rw' s' f := by
  unfold Dv
  by_cases q : f = a ∧ s' / 64 = s / 64
  · rw [if_pos q, q.1, q.2, updN_same]
  · rw [if_neg q, updN_ne _ _ (by omega)]
set_option maxRecDepth 20000 in
theorem c_enter (d n a k : Nat) (sm : Nat → Nat) (rw0 : Nat → Int64) (D : Nat → Nat → Bool) (h : Nat → MC) (h81 : h 81 = UO) (h82 : h 82 = .inl (.int, 298, .inl (vI sm))) (ha : a < 216) (hk : k < 12) (hD : SV rw0 D) :
    Sp M_X8_enterBaseFact d 0 0 [.ref 81, .int (nI (a * 5)), .int (nI k)] (mov (rwL rw0) h) n (fun r h1 => r = none ∧ ∃ rw' : Nat → Int64, h1 = mov (rwL rw') h ∧ SV rw' (enS sm k a 298 D)) := by
  show MW _ _ _ _ _ _ _ _ _ _ _ _
  generalize hpost : (fun (r : Option Value) (h1 : Nat → MC) => r = none ∧ ∃ rw' : Nat → Int64, h1 = mov (rwL rw') h ∧ SV rw' (enS sm k a 298 D)) = post
  have hp : ∀ rw' : Nat → Int64, SV rw' (enS sm k a 298 D) → post none (mov (rwL rw') h) := by
    intro rw' h1
    rw [← hpost]
    exact ⟨rfl, rw', rfl, h1⟩
  clear hpost
  refine mw_iconst (v := nI 0) rfl (by decide) ?_
  refine mw_istore_n (i := 3) rfl rfl (Nat.le_of_ble_eq_true rfl) ?_
  have loop : ∀ i, i ≤ 298 → ∀ rw' : Nat → Int64, SV rw' (enS sm k a i D) → MW M_X8_enterBaseFact d 0 0 n post 2 [(0, .ref 81), (1, .int (nI (a * 5))), (2, .int (nI k)), (3, .int (nI i))] [] (mov (rwL rw') h) n 0 := by
    refine loop_up 298 ?_ ?_
    · intro rw' hS
      refine mw_iload_n (i := 3) rfl rfl rfl ?_
      refine mw_sipush (v := nI 298) rfl (by decide) ?_
      refine mw_n_ge rfl (by omega) (by omega) (fun hc => ?_) (fun hc => ?_)
      · exact mw_return rfl rfl rfl (Nat.le_refl _) ((hp rw' hS))
      · omega
    · intro i hi ih rw' hS
      refine mw_iload_n (i := 3) rfl rfl rfl ?_
      refine mw_sipush (v := nI 298) rfl (by decide) ?_
      refine mw_n_ge rfl (by omega) (by omega) (fun hc => ?_) (fun hc => ?_)
      · omega
      · refine mw_aload_n (i := 0) rfl rfl rfl ?_
        refine mw_getfield rfl f_X8_9 (by first | rfl | exact rfl | exact h81 | exact h82) rfl ?_
        refine mw_iload_n (i := 3) rfl rfl rfl ?_
        refine mw_iald rfl (by first | rfl | exact rfl | exact h81 | exact h82) (by omega) (by omega) ?_
        refine mw_iload_n (i := 2) rfl rfl rfl ?_
        refine mw_ishr rfl ?_
        refine mw_iconst (v := nI 1) rfl (by decide) ?_
        refine mw_iand rfl ?_
        refine mw_if_ne rfl (fun hc => ?_) (fun hc => ?_)
        · have hd : delB (nI (sm i)) k = false := decide_eq_false hc
          first | refine mw_ninc rfl rfl (Nat.le_of_ble_eq_true rfl) ?_ | refine mw_iinc rfl rfl rfl (Nat.le_of_ble_eq_true rfl) ?_
          refine mw_goto rfl ?_
          refine mw_locals rfl (ih rw' (fun s hs f hf => ?_))
          rw [hS s hs f hf]
          unfold enS
          by_cases q : s = i
          · subst q
            rw [if_neg (fun w => Nat.lt_irrefl _ w.1), if_neg (fun w => by rw [hd] at w; exact absurd w.2 (by decide))]
          · by_cases w : s < i ∧ delB (nI (sm s)) k = true
            · rw [if_pos w, if_pos ⟨by omega, w.2⟩]
            · rw [if_neg w, if_neg (fun y => w ⟨by omega, y.2⟩)]
        · have hd : delB (nI (sm i)) k = true := decide_eq_true hc
          refine mw_aload_n (i := 0) rfl rfl rfl ?_
          refine mw_getfield rfl f_X8_15 (by first | rfl | exact rfl | exact h81 | exact h82) rfl ?_
          refine mw_iload_n (i := 1) rfl rfl rfl ?_
          refine mw_iload_n (i := 3) rfl rfl rfl ?_
          refine mw_bipush (v := nI 64) rfl (by decide) ?_
          refine mw_ndiv rfl (by omega) (by omega) (by omega) ?_
          first | refine mw_nadd rfl ?_ | refine mw_iadd rfl ?_
          refine mw_dup2 rfl rfl rfl ?_
          refine mw_lald rfl (by first | rfl | exact rfl | exact h81 | exact h82) (by omega) (by omega) ?_
          refine mw_lconst (v := 1) rfl (by decide) ?_
          refine mw_iload_n (i := 3) rfl rfl rfl ?_
          refine mw_bipush (v := nI 64) rfl (by decide) ?_
          refine mw_nrem rfl (by omega) (by omega) (by omega) ?_
          refine mw_lshl rfl ?_
          refine mw_lor rfl ?_
          refine mw_last_m rfl (by first | rfl | exact rfl | exact h81 | exact h82) (by omega) (by omega) ?_
          first | refine mw_ninc rfl rfl (Nat.le_of_ble_eq_true rfl) ?_ | refine mw_iinc rfl rfl rfl (Nat.le_of_ble_eq_true rfl) ?_
          refine mw_goto rfl ?_
          rw [vp_updN]
          refine mw_locals rfl (ih _ (fun s hs f hf => ?_))
          rw [Dv_upd (by omega) hs]
          have h0 := hS s hs f hf
          unfold enS at h0 ⊢
          by_cases q : f = a ∧ s / 64 = i / 64
          · rw [if_pos q, bt_or, bt_sh (by omega)]
            have e1 : bt (rw' (a * 5 + i / 64)) (s % 64) = Dv rw' s f := by unfold Dv; rw [q.1, q.2]
            rw [e1, h0]
            by_cases w : s = i
            · subst w
              rw [decide_eq_true rfl, Bool.or_true, if_pos ⟨Nat.lt_succ_self s, hd⟩, q.1, updN_same]
            · rw [decide_eq_false (show ¬ i % 64 = s % 64 by omega), Bool.or_false]
              by_cases y : s < i ∧ delB (nI (sm s)) k = true
              · rw [if_pos y, if_pos ⟨by omega, y.2⟩]
              · rw [if_neg y, if_neg (fun t => y ⟨by omega, t.2⟩)]
          · rw [if_neg q, h0]
            by_cases w : s = i
            · subst w
              rw [if_neg (fun t => Nat.lt_irrefl _ t.1), if_pos ⟨Nat.lt_succ_self s, hd⟩, updN_ne _ _ (fun t => q ⟨t, rfl⟩)]
            · by_cases y : s < i ∧ delB (nI (sm s)) k = true
              · rw [if_pos y, if_pos ⟨by omega, y.2⟩]
              · rw [if_neg y, if_neg (fun t => y ⟨by omega, t.2⟩)]
  refine mw_locals rfl (loop 0 (Nat.zero_le _) rw0 (fun s hs f hf => ?_))
  rw [hD s hs f hf]
  unfold enS
  rw [if_neg (fun w => Nat.not_lt_zero _ w.1)]
theorem dvI_at {S : HoS} {j : Nat} {D : Nat → Bool} (f : Nat) : (dvI S j (D, false)).1 f = if f = S.2.2.1 j then (D (S.2.2.1 j) || allL S D j) else D f := by
  unfold dvI
  by_cases q : D (S.2.2.1 j) = false ∧ allL S D j = true
  · rw [if_pos q]
    show updN D _ _ f = _
    unfold updN
    rw [q.1, q.2]
    rfl
  · rw [if_neg q]
    show D f = _
    split
    · rename_i e
      rw [e]
      cases h1 : D (S.2.2.1 j)
      · cases h2 : allL S D j
        · rfl
        · exact absurd ⟨h1, h2⟩ q
      · rfl
    · rfl
set_option maxRecDepth 20000 in
theorem c_widen (d n j : Nat) (v : Nat → Nat) (rw0 : Nat → Int64) (D : Nat → Nat → Bool) (S : HoS) (tot : Nat) (hs oh : Nat → Nat) (g : GD) (h : Nat → MC) (hg : GrAt h g) (hG : GrOk v g) (hok : OkN v) (hH : HdOk v S tot hs oh) (hj : j < S.1) (h81 : h 81 = UO) (hD : SV rw0 D) :
    Sp M_X8_widen d 0 0 [.ref 81, .ref 56, .int (nI (hs j))] (mov (rwL rw0) h) n (fun r h1 => ∃ (b : Bool) (rw' : Nat → Int64), r = some (.int (bI b)) ∧ h1 = mov (rwL rw') h ∧ SV rw' (fun s => (dvI S j (D s, false)).1) ∧ (b = true → ∃ s, s < 320 ∧ D s (S.2.2.1 j) = false ∧ allL S (D s) j = true) ∧ (b = false → ∀ s, s < 320 → (dvI S j (D s, false)).1 = D s)) := by
  show MW _ _ _ _ _ _ _ _ _ _ _ _
  generalize hpost : (fun (r : Option Value) (h1 : Nat → MC) => ∃ (b : Bool) (rw' : Nat → Int64), r = some (.int (bI b)) ∧ h1 = mov (rwL rw') h ∧ SV rw' (fun s => (dvI S j (D s, false)).1) ∧ (b = true → ∃ s, s < 320 ∧ D s (S.2.2.1 j) = false ∧ allL S (D s) j = true) ∧ (b = false → ∀ s, s < 320 → (dvI S j (D s, false)).1 = D s)) = post
  have hp : ∀ (b : Bool) (rw' : Nat → Int64), SV rw' (fun s => (dvI S j (D s, false)).1) → (b = true → ∃ s, s < 320 ∧ D s (S.2.2.1 j) = false ∧ allL S (D s) j = true) → (b = false → ∀ s, s < 320 → (dvI S j (D s, false)).1 = D s) → post (some (.int (bI b))) (mov (rwL rw') h) := by
    intro b rw' h1 h2 h3
    rw [← hpost]
    exact ⟨b, rw', rfl, rfl, h1, h2, h3⟩
  clear hpost
  obtain ⟨a1, a2, a3, a4, a5, a6, a7, a8, a9, a10⟩ := hH.at hok hG hj
  have h8 := hok.2.2.2.1
  have eall : ∀ s, allL S (D s) j = andN (fun k => D s (g.bd (hs j * 3 + k))) (plT v (S.2.1 j)) := fun s => by
    rw [allL_it, ← a10 Bool (fun f y => y && D s f), ← andN_it (fun k => D s (g.bd (hs j * 3 + k)))]
  have b1 : vI g.ru (hs j) = nI (S.2.1 j) := congrArg nI a3
  have b2 : vI g.hd (hs j) = nI (S.2.2.1 j) := congrArg nI a5
  have b3 : vI g.pc (S.2.1 j) = nI (plT v (S.2.1 j)) := congrArg nI a7
  have hat := fun (s f : Nat) => dvI_at (S := S) (j := j) (D := D s) f
  generalize S.2.1 j = r at a2 a6 a9 b1 b3 eall
  generalize plT v r = pl at a6 a9 b3 eall
  generalize S.2.2.1 j = hd at a4 b2 hat hp
  refine mw_iload_n (i := 2) rfl rfl rfl ?_
  refine mw_iconst (v := nI 3) rfl (by decide) ?_
  first | refine mw_nmul rfl ?_ | refine mw_imul rfl ?_
  refine mw_istore_n (i := 3) rfl rfl (Nat.le_of_ble_eq_true rfl) ?_
  refine mw_aload_n (i := 1) rfl rfl rfl ?_
  refine mw_getfield rfl f_X8_54 (by first | rfl | exact rfl | exact hg.1 | exact hg.2.2.2.2.1 | exact hg.2.2.2.2.2.2.2.1 | exact hg.2.2.2.2.2.2.2.2.1 | exact hg.2.2.2.2.2.2.2.2.2.1 | exact h81) rfl ?_
  refine mw_aload_n (i := 1) rfl rfl rfl ?_
  refine mw_getfield rfl f_X8_59 (by first | rfl | exact rfl | exact hg.1 | exact hg.2.2.2.2.1 | exact hg.2.2.2.2.2.2.2.1 | exact hg.2.2.2.2.2.2.2.2.1 | exact hg.2.2.2.2.2.2.2.2.2.1 | exact h81) rfl ?_
  refine mw_iload_n (i := 2) rfl rfl rfl ?_
  refine mw_iald_v rfl (by first | rfl | exact rfl | exact hg.1 | exact hg.2.2.2.2.1 | exact hg.2.2.2.2.2.2.2.1 | exact hg.2.2.2.2.2.2.2.2.1 | exact hg.2.2.2.2.2.2.2.2.2.1 | exact h81) (by omega) (by omega) b1 ?_
  refine mw_iald_v rfl (by first | rfl | exact rfl | exact hg.1 | exact hg.2.2.2.2.1 | exact hg.2.2.2.2.2.2.2.1 | exact hg.2.2.2.2.2.2.2.2.1 | exact hg.2.2.2.2.2.2.2.2.2.1 | exact h81) (by omega) (by omega) b3 ?_
  refine mw_istore rfl (Nat.le_of_ble_eq_true rfl) ?_
  refine mw_aload_n (i := 1) rfl rfl rfl ?_
  refine mw_getfield rfl f_X8_62 (by first | rfl | exact rfl | exact hg.1 | exact hg.2.2.2.2.1 | exact hg.2.2.2.2.2.2.2.1 | exact hg.2.2.2.2.2.2.2.2.1 | exact hg.2.2.2.2.2.2.2.2.2.1 | exact h81) rfl ?_
  refine mw_iload_n (i := 2) rfl rfl rfl ?_
  refine mw_iald_v rfl (by first | rfl | exact rfl | exact hg.1 | exact hg.2.2.2.2.1 | exact hg.2.2.2.2.2.2.2.1 | exact hg.2.2.2.2.2.2.2.2.1 | exact hg.2.2.2.2.2.2.2.2.2.1 | exact h81) (by omega) (by omega) b2 ?_
  refine mw_iconst (v := nI 5) rfl (by decide) ?_
  first | refine mw_nmul rfl ?_ | refine mw_imul rfl ?_
  refine mw_istore rfl (Nat.le_of_ble_eq_true rfl) ?_
  refine mw_iconst (v := nI 0) rfl (by decide) ?_
  refine mw_istore rfl (Nat.le_of_ble_eq_true rfl) ?_
  refine mw_iconst (v := nI 0) rfl (by decide) ?_
  refine mw_istore rfl (Nat.le_of_ble_eq_true rfl) ?_
  have loop : ∀ w, w ≤ 5 → ∀ (rw' : Nat → Int64) (b : Bool), (∀ s, s < 320 → ∀ f, f < 216 → Dv rw' s f = if s / 64 < w then (dvI S j (D s, false)).1 f else D s f) → (b = true → ∃ s, s < 320 ∧ D s hd = false ∧ allL S (D s) j = true) → (b = false → ∀ s, s < 64 * w → (dvI S j (D s, false)).1 = D s) → MW M_X8_widen d 0 0 n post 33 [(0, .ref 81), (1, .ref 56), (2, .int (nI (hs j))), (3, .int (nI (hs j * 3))), (4, .int (nI pl)), (5, .int (nI (hd * 5))), (6, .int (bI b)), (7, .int (nI w))] [] (mov (rwL rw') h) n 0 := by
    refine loop_up 5 ?_ ?_
    · intro rw' b hS hb1 hb2
      refine mw_iload rfl rfl ?_
      refine mw_iconst (v := nI 5) rfl (by decide) ?_
      refine mw_n_ge rfl (by omega) (by omega) (fun hc => ?_) (fun hc => ?_)
      · refine mw_iload rfl rfl ?_
        first | exact mw_ireturn rfl rfl (bI_nar _) rfl (Nat.le_refl _) ((hp b rw' (fun s hs f hf => by rw [hS s hs f hf, if_pos (by omega)]) hb1 hb2)) | exact mw_ireturn rfl rfl rfl rfl (Nat.le_refl _) ((hp b rw' (fun s hs f hf => by rw [hS s hs f hf, if_pos (by omega)]) hb1 hb2))
      · omega
    · intro w hw ih rw' b hS hb1 hb2
      have old : ∀ f, f < 216 → ∀ t, t < 64 → bt (rw' (f * 5 + w)) t = D (64 * w + t) f := fun f hf t ht => by
        have := hS (64 * w + t) (by omega) f hf
        unfold Dv at this
        rw [show (64 * w + t) / 64 = w by omega, show (64 * w + t) % 64 = t by omega, if_neg (Nat.lt_irrefl _)] at this
        exact this
      refine mw_iload rfl rfl ?_
      refine mw_iconst (v := nI 5) rfl (by decide) ?_
      refine mw_n_ge rfl (by omega) (by omega) (fun hc => ?_) (fun hc => ?_)
      · omega
      · refine mw_ldc2 rfl c_X8_65 ?_
        refine mw_lstore rfl (Nat.le_of_ble_eq_true rfl) ?_
        refine mw_iload_n (i := 3) rfl rfl rfl ?_
        refine mw_istore rfl (Nat.le_of_ble_eq_true rfl) ?_
        have inner : ∀ k, k ≤ pl → ∀ all : Int64, (∀ t, t < 64 → bt all t = andN (fun k => D (64 * w + t) (g.bd (hs j * 3 + k))) k) → MW M_X8_widen d 0 0 n post 47 [(0, .ref 81), (1, .ref 56), (2, .int (nI (hs j))), (3, .int (nI (hs j * 3))), (4, .int (nI pl)), (5, .int (nI (hd * 5))), (6, .int (bI b)), (7, .int (nI w)), (8, .long all), (10, .int (nI (hs j * 3 + k)))] [] (mov (rwL rw') h) n 0 := by
          refine loop_up pl ?_ ?_
          · intro all hall
            have hbit : ∀ t, t < 64 → bt (rw' (hd * 5 + w) ||| all) t = (D (64 * w + t) hd || allL S (D (64 * w + t)) j) := fun t ht => by
              rw [bt_or, old hd a4 t ht, hall t ht, eall]
            have hnew : ∀ (rn : Nat → Int64), (∀ f, f < 216 → ∀ q, q < 5 → rn (f * 5 + q) = if f = hd ∧ q = w then rw' (hd * 5 + w) ||| all else rw' (f * 5 + q)) → ∀ s, s < 320 → ∀ f, f < 216 → Dv rn s f = if s / 64 < w + 1 then (dvI S j (D s, false)).1 f else D s f := by
              intro rn hrn s hs f hf
              have h0 := hS s hs f hf
              unfold Dv at h0 ⊢
              rw [hrn f hf (s / 64) (by omega)]
              by_cases q : f = hd ∧ s / 64 = w
              · obtain ⟨q1, q2⟩ := q
                subst q1
                rw [if_pos ⟨rfl, q2⟩, if_pos (by omega), hbit (s % 64) (by omega), hat, if_pos rfl, show 64 * w + s % 64 = s by omega]
              · rw [if_neg q, h0]
                by_cases y : s / 64 < w
                · rw [if_pos y, if_pos (by omega)]
                · rw [if_neg y]
                  by_cases y2 : s / 64 = w
                  · rw [if_pos (by omega), hat, if_neg (fun e => q ⟨e, y2⟩)]
                  · rw [if_neg (by omega)]
            refine mw_iload rfl rfl ?_
            refine mw_iload_n (i := 3) rfl rfl rfl ?_
            refine mw_iload rfl rfl ?_
            first | refine mw_nadd rfl ?_ | refine mw_iadd rfl ?_
            refine mw_n_ge rfl (by omega) (by omega) (fun hc => ?_) (fun hc => ?_)
            · refine mw_aload_n (i := 0) rfl rfl rfl ?_
              refine mw_getfield rfl f_X8_15 (by first | rfl | exact rfl | exact hg.1 | exact hg.2.2.2.2.1 | exact hg.2.2.2.2.2.2.2.1 | exact hg.2.2.2.2.2.2.2.2.1 | exact hg.2.2.2.2.2.2.2.2.2.1 | exact h81) rfl ?_
              refine mw_iload rfl rfl ?_
              refine mw_iload rfl rfl ?_
              first | refine mw_nadd rfl ?_ | refine mw_iadd rfl ?_
              refine mw_lald rfl (by first | rfl | exact rfl | exact hg.1 | exact hg.2.2.2.2.1 | exact hg.2.2.2.2.2.2.2.1 | exact hg.2.2.2.2.2.2.2.2.1 | exact hg.2.2.2.2.2.2.2.2.2.1 | exact h81) (by omega) (by omega) ?_
              refine mw_lload rfl rfl ?_
              refine mw_lor rfl ?_
              refine mw_lstore rfl (Nat.le_of_ble_eq_true rfl) ?_
              refine mw_lload rfl rfl ?_
              refine mw_aload_n (i := 0) rfl rfl rfl ?_
              refine mw_getfield rfl f_X8_15 (by first | rfl | exact rfl | exact hg.1 | exact hg.2.2.2.2.1 | exact hg.2.2.2.2.2.2.2.1 | exact hg.2.2.2.2.2.2.2.2.1 | exact hg.2.2.2.2.2.2.2.2.2.1 | exact h81) rfl ?_
              refine mw_iload rfl rfl ?_
              refine mw_iload rfl rfl ?_
              first | refine mw_nadd rfl ?_ | refine mw_iadd rfl ?_
              refine mw_lald rfl (by first | rfl | exact rfl | exact hg.1 | exact hg.2.2.2.2.1 | exact hg.2.2.2.2.2.2.2.1 | exact hg.2.2.2.2.2.2.2.2.1 | exact hg.2.2.2.2.2.2.2.2.2.1 | exact h81) (by omega) (by omega) ?_
              refine mw_lcmp rfl ?_
              refine mw_if_eq rfl (fun hc => ?_) (fun hc => ?_)
              · have heq : rw' (hd * 5 + w) ||| all = rw' (hd * 5 + w) := (lg_cmp_eq _ _).mp hc
                first | refine mw_ninc rfl rfl (Nat.le_of_ble_eq_true rfl) ?_ | refine mw_iinc rfl rfl rfl (Nat.le_of_ble_eq_true rfl) ?_
                refine mw_goto rfl ?_
                refine mw_locals rfl (ih rw' b (hnew rw' (fun f hf q hq => ?_)) hb1 (fun hb s hs => ?_))
                · split
                  · rename_i y
                    rw [y.1, y.2, heq]
                  · rfl
                · by_cases y : s < 64 * w
                  · exact hb2 hb s y
                  · funext f
                    rw [hat]
                    split
                    · rename_i e
                      have h1 := hbit (s % 64) (by omega)
                      rw [heq, old hd a4 (s % 64) (by omega), show 64 * w + s % 64 = s by omega] at h1
                      rw [e, ← h1]
                    · rfl
              · have hne : rw' (hd * 5 + w) ||| all ≠ rw' (hd * 5 + w) := fun e => hc ((lg_cmp_eq _ _).mpr e)
                refine mw_aload_n (i := 0) rfl rfl rfl ?_
                refine mw_getfield rfl f_X8_15 (by first | rfl | exact rfl | exact hg.1 | exact hg.2.2.2.2.1 | exact hg.2.2.2.2.2.2.2.1 | exact hg.2.2.2.2.2.2.2.2.1 | exact hg.2.2.2.2.2.2.2.2.2.1 | exact h81) rfl ?_
                refine mw_iload rfl rfl ?_
                refine mw_iload rfl rfl ?_
                first | refine mw_nadd rfl ?_ | refine mw_iadd rfl ?_
                refine mw_lload rfl rfl ?_
                refine mw_last_m rfl (by first | rfl | exact rfl | exact hg.1 | exact hg.2.2.2.2.1 | exact hg.2.2.2.2.2.2.2.1 | exact hg.2.2.2.2.2.2.2.2.1 | exact hg.2.2.2.2.2.2.2.2.2.1 | exact h81) (by omega) (by omega) ?_
                refine mw_iconst (v := nI 1) rfl (by decide) ?_
                refine mw_istore rfl (Nat.le_of_ble_eq_true rfl) ?_
                first | refine mw_ninc rfl rfl (Nat.le_of_ble_eq_true rfl) ?_ | refine mw_iinc rfl rfl rfl (Nat.le_of_ble_eq_true rfl) ?_
                refine mw_goto rfl ?_
                rw [vp_updN]
                refine mw_locals rfl (ih _ true (hnew _ (fun f hf q hq => ?_)) (fun _ => ?_) (fun hb => by cases hb))
                · unfold updN
                  by_cases y : f = hd ∧ q = w
                  · rw [if_pos (by rw [y.1, y.2]), if_pos y]
                  · rw [if_neg (by omega), if_neg y]
                · refine Classical.byContradiction fun hno => hne (bt_ext fun t ht => ?_)
                  rw [hbit t ht, old hd a4 t ht]
                  cases h1 : D (64 * w + t) hd
                  · cases h2 : allL S (D (64 * w + t)) j
                    · rfl
                    · exact absurd ⟨64 * w + t, by omega, h1, h2⟩ hno
                  · rfl
            · omega
          · intro k hk ihk all hall
            have hb := a9 k hk
            refine mw_iload rfl rfl ?_
            refine mw_iload_n (i := 3) rfl rfl rfl ?_
            refine mw_iload rfl rfl ?_
            first | refine mw_nadd rfl ?_ | refine mw_iadd rfl ?_
            refine mw_n_ge rfl (by omega) (by omega) (fun hc => ?_) (fun hc => ?_)
            · omega
            · refine mw_lload rfl rfl ?_
              refine mw_aload_n (i := 0) rfl rfl rfl ?_
              refine mw_getfield rfl f_X8_15 (by first | rfl | exact rfl | exact hg.1 | exact hg.2.2.2.2.1 | exact hg.2.2.2.2.2.2.2.1 | exact hg.2.2.2.2.2.2.2.2.1 | exact hg.2.2.2.2.2.2.2.2.2.1 | exact h81) rfl ?_
              refine mw_aload_n (i := 1) rfl rfl rfl ?_
              refine mw_getfield rfl f_X8_67 (by first | rfl | exact rfl | exact hg.1 | exact hg.2.2.2.2.1 | exact hg.2.2.2.2.2.2.2.1 | exact hg.2.2.2.2.2.2.2.2.1 | exact hg.2.2.2.2.2.2.2.2.2.1 | exact h81) rfl ?_
              refine mw_iload rfl rfl ?_
              refine mw_iald rfl (by first | rfl | exact rfl | exact hg.1 | exact hg.2.2.2.2.1 | exact hg.2.2.2.2.2.2.2.1 | exact hg.2.2.2.2.2.2.2.2.1 | exact hg.2.2.2.2.2.2.2.2.2.1 | exact h81) (by omega) (by omega) ?_
              refine mw_iconst (v := nI 5) rfl (by decide) ?_
              first | refine mw_nmul rfl ?_ | refine mw_imul rfl ?_
              refine mw_iload rfl rfl ?_
              first | refine mw_nadd rfl ?_ | refine mw_iadd rfl ?_
              refine mw_lald rfl (by first | rfl | exact rfl | exact hg.1 | exact hg.2.2.2.2.1 | exact hg.2.2.2.2.2.2.2.1 | exact hg.2.2.2.2.2.2.2.2.1 | exact hg.2.2.2.2.2.2.2.2.2.1 | exact h81) (by omega) (by omega) ?_
              refine mw_land rfl ?_
              refine mw_lstore rfl (Nat.le_of_ble_eq_true rfl) ?_
              first | refine mw_ninc rfl rfl (Nat.le_of_ble_eq_true rfl) ?_ | refine mw_iinc rfl rfl rfl (Nat.le_of_ble_eq_true rfl) ?_
              refine mw_goto rfl ?_
              refine mw_locals rfl (ihk _ (fun t ht => ?_))
              rw [bt_and, hall t ht, old _ hb t ht]
              rfl
        exact mw_locals rfl (inner 0 (Nat.zero_le _) (-1) (fun t ht => bt_m1 ht))
  exact mw_locals rfl (loop 0 (Nat.zero_le _) rw0 false (fun s hs f hf => by rw [hD s hs f hf, if_neg (Nat.not_lt_zero _)]) (fun hb => by cases hb) (fun _ s hs => absurd hs (by omega)))
