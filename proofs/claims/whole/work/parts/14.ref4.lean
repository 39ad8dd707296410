theorem nI_z {a : Nat} (ha : a < 2147483648) : nI a = 0 ↔ a = 0 := ⟨fun h => (nI_eq ha (by omega)).mp (h.trans nI_0.symm), fun h => by rw [h]; rfl⟩
theorem mw_z_eq {M : MI} {d mc ms n0 : Nat} {post : Option Value → (Nat → MC) → Prop} {pc : Nat} {L : List (Nat × Value)} {S : List Value} {h : Nat → MC} {n sl nx tg a : Nat} {off : Int} (hf : fch M pc = some (.ifCond .eq off, 3, nx, tg)) (ha : a < 2147483648) (kt : a = 0 → MW M d mc ms n0 post tg L S h n sl) (kf : a ≠ 0 → MW M d mc ms n0 post nx L S h n sl) : MW M d mc ms n0 post pc L (.int (nI a) :: S) h n sl := mw_if_eq hf (fun h => kt ((nI_z ha).mp h)) (fun h => kf (fun q => h ((nI_z ha).mpr q)))
theorem mw_z_ne {M : MI} {d mc ms n0 : Nat} {post : Option Value → (Nat → MC) → Prop} {pc : Nat} {L : List (Nat × Value)} {S : List Value} {h : Nat → MC} {n sl nx tg a : Nat} {off : Int} (hf : fch M pc = some (.ifCond .ne off, 3, nx, tg)) (ha : a < 2147483648) (kt : a ≠ 0 → MW M d mc ms n0 post tg L S h n sl) (kf : a = 0 → MW M d mc ms n0 post nx L S h n sl) : MW M d mc ms n0 post pc L (.int (nI a) :: S) h n sl := mw_if_ne hf (fun h => kt (fun q => h ((nI_z ha).mpr q))) (fun h => kf ((nI_z ha).mp h))
theorem mw_z_gt {M : MI} {d mc ms n0 : Nat} {post : Option Value → (Nat → MC) → Prop} {pc : Nat} {L : List (Nat × Value)} {S : List Value} {h : Nat → MC} {n sl nx tg a : Nat} {off : Int} (hf : fch M pc = some (.ifCond .gt off, 3, nx, tg)) (ha : a < 2147483648) (kt : 0 < a → MW M d mc ms n0 post tg L S h n sl) (kf : a = 0 → MW M d mc ms n0 post nx L S h n sl) : MW M d mc ms n0 post pc L (.int (nI a) :: S) h n sl := mw_if_gt hf (fun h => kt ((nI_ltI (by omega) ha).mp (show nI 0 < nI a from h))) (fun h => kf (Nat.eq_zero_of_not_pos fun q => h ((nI_ltI (a := 0) (by omega) ha).mpr q)))
theorem mw_z_le {M : MI} {d mc ms n0 : Nat} {post : Option Value → (Nat → MC) → Prop} {pc : Nat} {L : List (Nat × Value)} {S : List Value} {h : Nat → MC} {n sl nx tg a : Nat} {off : Int} (hf : fch M pc = some (.ifCond .le off, 3, nx, tg)) (ha : a < 2147483648) (kt : a = 0 → MW M d mc ms n0 post tg L S h n sl) (kf : 0 < a → MW M d mc ms n0 post nx L S h n sl) : MW M d mc ms n0 post pc L (.int (nI a) :: S) h n sl := mw_if_le hf (fun h => kt (Nat.le_zero.mp ((nI_leI ha (by omega)).mp (show nI a ≤ nI 0 from h)))) (fun h => kf (Nat.pos_of_ne_zero fun q => h ((nI_leI (b := 0) ha (by omega)).mpr (Nat.le_of_eq q))))
theorem mw_z_lt {M : MI} {d mc ms n0 : Nat} {post : Option Value → (Nat → MC) → Prop} {pc : Nat} {L : List (Nat × Value)} {S : List Value} {h : Nat → MC} {n sl nx tg a : Nat} {off : Int} (hf : fch M pc = some (.ifCond .lt off, 3, nx, tg)) (ha : a < 2147483648) (kt : False → MW M d mc ms n0 post tg L S h n sl) (kf : True → MW M d mc ms n0 post nx L S h n sl) : MW M d mc ms n0 post pc L (.int (nI a) :: S) h n sl := mw_if_lt hf (fun h => kt (absurd h (nI_pos ha))) (fun h => kf (trivial))
theorem mw_z_ge {M : MI} {d mc ms n0 : Nat} {post : Option Value → (Nat → MC) → Prop} {pc : Nat} {L : List (Nat × Value)} {S : List Value} {h : Nat → MC} {n sl nx tg a : Nat} {off : Int} (hf : fch M pc = some (.ifCond .ge off, 3, nx, tg)) (ha : a < 2147483648) (kt : True → MW M d mc ms n0 post tg L S h n sl) (kf : False → MW M d mc ms n0 post nx L S h n sl) : MW M d mc ms n0 post pc L (.int (nI a) :: S) h n sl := mw_if_ge hf (fun h => kt (trivial)) (fun h => kf (absurd (nI_pos' ha) h))
theorem mw_nior {M : MI} {d mc ms n0 : Nat} {post : Option Value → (Nat → MC) → Prop} {pc : Nat} {L : List (Nat × Value)} {S : List Value} {h : Nat → MC} {n sl nx tg a b : Nat} (hf : fch M pc = some (.ior, 1, nx, tg)) (k : MW M d mc ms n0 post nx L (.int (nI (a ||| b)) :: S) h n sl) : MW M d mc ms n0 post pc L (.int (nI b) :: .int (nI a) :: S) h n sl := mw_ior hf (by
  have e : nI a ||| nI b = nI (a ||| b) := by
    apply Int32.toBitVec_inj.mp
    simp only [Int32.toBitVec_or]
    show (BitVec.ofNat 32 a) ||| (BitVec.ofNat 32 b) = BitVec.ofNat 32 (a ||| b)
    apply BitVec.eq_of_toNat_eq
    simp [Nat.or_mod_two_pow]
  rw [e]; exact k)
/-- steps 0 .. n - 1, one after the other -/
def itN {α : Type} (step : Nat → α → α) (a : α) : Nat → α
  | 0 => a
  | k + 1 => step k (itN step a k)
def tOf (b : Nat → Nat) (t : Nat) : Nat := if t < 6 then t else b (t - 6)
def fA (v b : Nat → Nat) (r a : Nat) : Nat := 36 * v (45 + 18 * r + 2 + 4 * a) + 6 * tOf b (v (45 + 18 * r + 2 + 4 * a + 1)) + tOf b (v (45 + 18 * r + 2 + 4 * a + 2))
theorem tOf_lt {b : Nat → Nat} (hb : ∀ x, x < 3 → b x < 6) {t : Nat} (ht : t < 9) : tOf b t < 6 := by
  unfold tOf
  split
  · assumption
  · exact hb _ (by omega)
theorem fA_lt {v b : Nat → Nat} (hok : OkN v) (hb : ∀ x, x < 3 → b x < 6) {r a : Nat} (hr : r < v 2) (ha : a ≤ v (45 + 18 * r + 1)) : fA v b r a < 216 := by
  obtain ⟨-, -, -, -, hat⟩ := hok.2.2.2.2.2.2 r hr
  obtain ⟨h1, h2, h3, -⟩ := hat a ha
  have := tOf_lt hb h2
  have := tOf_lt hb h3
  unfold fA
  omega
theorem c_termOf (d n : Nat) (t : Nat) (w : Nat → Int32) (b : Nat → Nat) (h : Nat → MC) (hO : h 178 = RO w) (hb : h 185 = .inl (.int, 3, .inl (vI b))) (ht : t < 9) : Fn M_X10_termOf d 0 0 [.ref 178, .int (nI t)] h n (some (.int (nI (tOf b t)))) h := by
  refine Fn.of fun post hp => ?_
  refine mw_iload_n (i := 1) rfl rfl rfl ?_
  refine mw_bipush (v := nI 6) rfl (by decide) ?_
  refine mw_n_ge rfl (by omega) (by omega) (fun hc => ?_) (fun hc => ?_)
  · rw [show tOf b t = b (t - 6) by unfold tOf; rw [if_neg (by omega)]] at hp
    refine mw_aload_n (i := 0) rfl rfl rfl ?_
    refine mw_getfield rfl f_X10_29 (by first | rfl | exact hO | exact hb) rfl ?_
    refine mw_iload_n (i := 1) rfl rfl rfl ?_
    refine mw_bipush (v := nI 6) rfl (by decide) ?_
    first | refine mw_nsub rfl (by omega) ?_ | refine mw_isub rfl ?_
    refine mw_iald rfl (by first | rfl | exact hO | exact hb) (by omega) (by omega) ?_
    exact mw_ireturn rfl rfl rfl rfl (Nat.le_refl _) (hp)
  · rw [show tOf b t = t by unfold tOf; rw [if_pos (by omega)]] at hp
    refine mw_iload_n (i := 1) rfl rfl rfl ?_
    refine mw_goto rfl ?_
    exact mw_ireturn rfl rfl rfl rfl (Nat.le_refl _) (hp)
theorem c_factAt (d n : Nat) (r a : Nat) (w : Nat → Int32) (v b : Nat → Nat) (h : Nat → MC) (hO : h 178 = RO w) (hv : h 179 = .inl (.int, 189, .inl (vI v))) (hb : h 185 = .inl (.int, 3, .inl (vI b))) (hok : OkN v) (hr : r < v 2) (ha : a ≤ v (45 + 18 * r + 1)) : Fn M_X10_factAt (d + 1) 0 0 [.ref 178, .int (nI r), .int (nI a)] h n (some (.int (nI (fA v b r a)))) h := by
  obtain ⟨-, -, hl1, hl3, hat⟩ := hok.2.2.2.2.2.2 r hr
  obtain ⟨h1, h2, h3, -⟩ := hat a ha
  have hr8 := hok.2.2.2.1
  refine Fn.of fun post hp => ?_
  refine mw_iload_n (i := 1) rfl rfl rfl ?_
  refine mw_iload_n (i := 2) rfl rfl rfl ?_
  refine mw_callS_f (c_atomAt d n r a h) rfl ok_X10_atomAt v_X10_88 rfl (Nat.le_of_ble_eq_true rfl) rfl (Nat.le_of_ble_eq_true rfl) (by omega) (by omega) (by omega) ?_
  refine mw_istore_n (i := 3) rfl rfl (Nat.le_of_ble_eq_true rfl) ?_
  refine mw_aload_n (i := 0) rfl rfl rfl ?_
  refine mw_getfield rfl f_X10_7 (by first | rfl | exact hO | exact hv | exact hb) rfl ?_
  refine mw_iload_n (i := 3) rfl rfl rfl ?_
  refine mw_iald rfl (by first | rfl | exact hO | exact hv | exact hb) (by omega) (by omega) ?_
  refine mw_aload_n (i := 0) rfl rfl rfl ?_
  refine mw_aload_n (i := 0) rfl rfl rfl ?_
  refine mw_getfield rfl f_X10_7 (by first | rfl | exact hO | exact hv | exact hb) rfl ?_
  refine mw_iload_n (i := 3) rfl rfl rfl ?_
  refine mw_iconst (v := nI 1) rfl (by decide) ?_
  first | refine mw_nadd rfl ?_ | refine mw_iadd rfl ?_
  refine mw_iald rfl (by first | rfl | exact hO | exact hv | exact hb) (by omega) (by omega) ?_
  refine mw_callV_f (c_termOf d n (v (45 + 18 * r + 2 + 4 * a + 1)) w b h hO hb h2) rfl ok_X10_termOf v_X10_135 rfl (by first | rfl | exact hO | exact hv | exact hb) (by intro e; cases e) rfl (Nat.le_of_ble_eq_true rfl) rfl (Nat.le_of_ble_eq_true rfl) (by omega) (by omega) (by omega) ?_
  refine mw_aload_n (i := 0) rfl rfl rfl ?_
  refine mw_aload_n (i := 0) rfl rfl rfl ?_
  refine mw_getfield rfl f_X10_7 (by first | rfl | exact hO | exact hv | exact hb) rfl ?_
  refine mw_iload_n (i := 3) rfl rfl rfl ?_
  refine mw_iconst (v := nI 2) rfl (by decide) ?_
  first | refine mw_nadd rfl ?_ | refine mw_iadd rfl ?_
  refine mw_iald rfl (by first | rfl | exact hO | exact hv | exact hb) (by omega) (by omega) ?_
  refine mw_callV_f (c_termOf d n (v (45 + 18 * r + 2 + 4 * a + 2)) w b h hO hb h3) rfl ok_X10_termOf v_X10_135 rfl (by first | rfl | exact hO | exact hv | exact hb) (by intro e; cases e) rfl (Nat.le_of_ble_eq_true rfl) rfl (Nat.le_of_ble_eq_true rfl) (by omega) (by omega) (by omega) ?_
  refine mw_callS_f (c_factOf d n (v (45 + 18 * r + 2 + 4 * a)) (tOf b (v (45 + 18 * r + 2 + 4 * a + 1))) (tOf b (v (45 + 18 * r + 2 + 4 * a + 2))) h) rfl ok_X10_factOf v_X10_98 rfl (Nat.le_of_ble_eq_true rfl) rfl (Nat.le_of_ble_eq_true rfl) (by omega) (by omega) (by omega) ?_
  exact mw_ireturn rfl rfl rfl rfl (Nat.le_refl _) (hp)
/-- the body of an instance is as it has to be in a model: the literals 1 .. k -/
def hLit (v b : Nat → Nat) (m : Nat → Int32) (r a : Nat) : Bool := decide (0 ≤ m (fA v b r (a + 1))) == decide (v (45 + 18 * r + 2 + 4 * (a + 1) + 3) = 0)
def andN (f : Nat → Bool) : Nat → Bool
  | 0 => true
  | k + 1 => andN f k && f k
theorem andN_iff (f : Nat → Bool) : ∀ n, andN f n = true ↔ ∀ k, k < n → f k = true
  | 0 => by simp [andN]
  | n + 1 => by
    simp only [andN, Bool.and_eq_true, andN_iff f n]
    constructor
    · rintro ⟨h1, h2⟩ k hk
      by_cases e : k = n
      · subst e; exact h2
      · exact h1 k (by omega)
    · intro h
      exact ⟨fun k hk => h k (by omega), h n (by omega)⟩
def holdsR (v b : Nat → Nat) (m : Nat → Int32) (r : Nat) : Bool := andN (hLit v b m r) (v (45 + 18 * r + 1))
theorem c_holds (d n : Nat) (r K : Nat) (w : Nat → Int32) (v b : Nat → Nat) (m : Nat → Int32) (h : Nat → MC) (hO : h 178 = RO w) (hv : h 179 = .inl (.int, 189, .inl (vI v))) (hb : h 185 = .inl (.int, 3, .inl (vI b))) (hm : h K = .inl (.int, 216, .inl m)) (hok : OkN v) (hb6 : ∀ x, x < 3 → b x < 6) (hr : r < v 2) : Fn M_X10_holds (d + 2) 0 0 [.ref 178, .int (nI r), .ref K] h n (some (.int (bI (holdsR v b m r)))) h := by
  obtain ⟨-, -, hl1, hl3, hat⟩ := hok.2.2.2.2.2.2 r hr
  have hr8 := hok.2.2.2.1
  refine Fn.of fun post hp => ?_
  refine mw_iconst (v := nI 1) rfl (by decide) ?_
  refine mw_istore_n (i := 3) rfl rfl (Nat.le_of_ble_eq_true rfl) ?_
  refine mw_iconst (v := nI 1) rfl (by decide) ?_
  refine mw_istore rfl (Nat.le_of_ble_eq_true rfl) ?_
  have loop : ∀ a, a ≤ v (45 + 18 * r + 1) → MW M_X10_holds (d + 2) 0 0 n post 5 [(0, .ref 178), (1, .int (nI r)), (2, .ref K), (3, .int (bI (andN (hLit v b m r) a))), (4, .int (nI (a + 1)))] [] h n 0 := by
    refine loop_up (v (45 + 18 * r + 1)) ?_ ?_
    · refine mw_iload rfl rfl ?_
      refine mw_aload_n (i := 0) rfl rfl rfl ?_
      refine mw_getfield rfl f_X10_7 (by first | rfl | exact hO | exact hv | exact hb | exact hm) rfl ?_
      refine mw_bipush (v := nI 45) rfl (by decide) ?_
      refine mw_bipush (v := nI 18) rfl (by decide) ?_
      refine mw_iload_n (i := 1) rfl rfl rfl ?_
      first | refine mw_nmul rfl ?_ | refine mw_imul rfl ?_
      first | refine mw_nadd rfl ?_ | refine mw_iadd rfl ?_
      refine mw_iconst (v := nI 1) rfl (by decide) ?_
      first | refine mw_nadd rfl ?_ | refine mw_iadd rfl ?_
      refine mw_iald rfl (by first | rfl | exact hO | exact hv | exact hb | exact hm) (by omega) (by omega) ?_
      refine mw_n_gt rfl (by omega) (by omega) (fun hc => ?_) (fun hc => ?_)
      · refine mw_iload_n (i := 3) rfl rfl rfl ?_
        first | exact mw_ireturn rfl rfl (bI_nar _) rfl (Nat.le_refl _) (hp) | exact mw_ireturn rfl rfl rfl rfl (Nat.le_refl _) (hp)
      · omega
    · intro a ha ih
      obtain ⟨h1, h2, h3, h4⟩ := hat (a + 1) (by omega)
      have hlt := fA_lt hok hb6 hr (show a + 1 ≤ v (45 + 18 * r + 1) by omega)
      refine mw_iload rfl rfl ?_
      refine mw_aload_n (i := 0) rfl rfl rfl ?_
      refine mw_getfield rfl f_X10_7 (by first | rfl | exact hO | exact hv | exact hb | exact hm) rfl ?_
      refine mw_bipush (v := nI 45) rfl (by decide) ?_
      refine mw_bipush (v := nI 18) rfl (by decide) ?_
      refine mw_iload_n (i := 1) rfl rfl rfl ?_
      first | refine mw_nmul rfl ?_ | refine mw_imul rfl ?_
      first | refine mw_nadd rfl ?_ | refine mw_iadd rfl ?_
      refine mw_iconst (v := nI 1) rfl (by decide) ?_
      first | refine mw_nadd rfl ?_ | refine mw_iadd rfl ?_
      refine mw_iald rfl (by first | rfl | exact hO | exact hv | exact hb | exact hm) (by omega) (by omega) ?_
      refine mw_n_gt rfl (by omega) (by omega) (fun hc => ?_) (fun hc => ?_)
      · omega
      · refine mw_aload_n (i := 2) rfl rfl rfl ?_
        refine mw_aload_n (i := 0) rfl rfl rfl ?_
        refine mw_iload_n (i := 1) rfl rfl rfl ?_
        refine mw_iload rfl rfl ?_
        refine mw_callV_f (c_factAt d n r (a + 1) w v b h hO hv hb hok hr (by omega)) rfl ok_X10_factAt v_X10_139 rfl (by first | rfl | exact hO | exact hv | exact hb | exact hm) (by intro e; cases e) rfl (Nat.le_of_ble_eq_true rfl) rfl (Nat.le_of_ble_eq_true rfl) (by omega) (by omega) (by omega) ?_
        refine mw_iald rfl (by first | rfl | exact hO | exact hv | exact hb | exact hm) (by omega) (by omega) ?_
        refine mw_if_lt rfl (fun ht => ?_) (fun ht => ?_)
        · refine mw_iconst (v := nI 0) rfl (by decide) ?_
          refine mw_istore rfl (Nat.le_of_ble_eq_true rfl) ?_
          refine mw_iload_n (i := 3) rfl rfl rfl ?_
          refine mw_b_eq rfl (fun hi => ?_) (fun hi => ?_)
          · refine mw_iconst (v := nI 0) rfl (by decide) ?_
            refine mw_istore_n (i := 3) rfl rfl (Nat.le_of_ble_eq_true rfl) ?_
            first | refine mw_ninc rfl rfl (Nat.le_of_ble_eq_true rfl) ?_ | refine mw_iinc rfl rfl rfl (Nat.le_of_ble_eq_true rfl) ?_
            refine mw_goto rfl ?_
            refine mw_locals ?_ ih
            rw [show andN (hLit v b m r) (a + 1) = false by simp [andN, hi]]
            rfl
          · have hneg : ¬ (0 : Int32) ≤ m (fA v b r (a + 1)) := Int32.not_le.mpr ht
            refine mw_iload rfl rfl ?_
            refine mw_aload_n (i := 0) rfl rfl rfl ?_
            refine mw_getfield rfl f_X10_7 (by first | rfl | exact hO | exact hv | exact hb | exact hm) rfl ?_
            refine mw_iload_n (i := 1) rfl rfl rfl ?_
            refine mw_iload rfl rfl ?_
            refine mw_callS_f (c_atomAt (d + 1) n r (a + 1) h) rfl ok_X10_atomAt v_X10_88 rfl (Nat.le_of_ble_eq_true rfl) rfl (Nat.le_of_ble_eq_true rfl) (by omega) (by omega) (by omega) ?_
            refine mw_iconst (v := nI 3) rfl (by decide) ?_
            first | refine mw_nadd rfl ?_ | refine mw_iadd rfl ?_
            refine mw_iald rfl (by first | rfl | exact hO | exact hv | exact hb | exact hm) (by omega) (by omega) ?_
            refine mw_if_ne rfl (fun hz => ?_) (fun hz => ?_)
            · refine mw_iconst (v := nI 0) rfl (by decide) ?_
              refine mw_n_ne rfl (by omega) (by omega) (fun hz2 => ?_) (fun hz2 => ?_)
              · omega
              · refine mw_iconst (v := nI 1) rfl (by decide) ?_
                refine mw_goto rfl ?_
                refine mw_istore_n (i := 3) rfl rfl (Nat.le_of_ble_eq_true rfl) ?_
                first | refine mw_ninc rfl rfl (Nat.le_of_ble_eq_true rfl) ?_ | refine mw_iinc rfl rfl rfl (Nat.le_of_ble_eq_true rfl) ?_
                refine mw_goto rfl ?_
                refine mw_locals ?_ ih
                rw [show andN (hLit v b m r) (a + 1) = true by
                  have : v (45 + 18 * r + 2 + 4 * (a + 1) + 3) ≠ 0 := fun q => hz (show nI _ = 0 by rw [q]; rfl)
                  simp [andN, hi, hLit, hneg, this]]
                rfl
            · refine mw_iconst (v := nI 1) rfl (by decide) ?_
              refine mw_goto rfl ?_
              refine mw_n_ne rfl (by omega) (by omega) (fun hz2 => ?_) (fun hz2 => ?_)
              · refine mw_iconst (v := nI 0) rfl (by decide) ?_
                refine mw_istore_n (i := 3) rfl rfl (Nat.le_of_ble_eq_true rfl) ?_
                first | refine mw_ninc rfl rfl (Nat.le_of_ble_eq_true rfl) ?_ | refine mw_iinc rfl rfl rfl (Nat.le_of_ble_eq_true rfl) ?_
                refine mw_goto rfl ?_
                refine mw_locals ?_ ih
                rw [show andN (hLit v b m r) (a + 1) = false by
                  have : v (45 + 18 * r + 2 + 4 * (a + 1) + 3) = 0 := (nI_eq (by omega) (by omega)).mp (hz.trans nI_0.symm)
                  simp [andN, hi, hLit, hneg, this]]
                rfl
              · omega
        · refine mw_iconst (v := nI 1) rfl (by decide) ?_
          refine mw_goto rfl ?_
          refine mw_istore rfl (Nat.le_of_ble_eq_true rfl) ?_
          refine mw_iload_n (i := 3) rfl rfl rfl ?_
          refine mw_b_eq rfl (fun hi => ?_) (fun hi => ?_)
          · refine mw_iconst (v := nI 0) rfl (by decide) ?_
            refine mw_istore_n (i := 3) rfl rfl (Nat.le_of_ble_eq_true rfl) ?_
            first | refine mw_ninc rfl rfl (Nat.le_of_ble_eq_true rfl) ?_ | refine mw_iinc rfl rfl rfl (Nat.le_of_ble_eq_true rfl) ?_
            refine mw_goto rfl ?_
            refine mw_locals ?_ ih
            rw [show andN (hLit v b m r) (a + 1) = false by simp [andN, hi]]
            rfl
          · have hneg : (0 : Int32) ≤ m (fA v b r (a + 1)) := Int32.not_lt.mp ht
            refine mw_iload rfl rfl ?_
            refine mw_aload_n (i := 0) rfl rfl rfl ?_
            refine mw_getfield rfl f_X10_7 (by first | rfl | exact hO | exact hv | exact hb | exact hm) rfl ?_
            refine mw_iload_n (i := 1) rfl rfl rfl ?_
            refine mw_iload rfl rfl ?_
            refine mw_callS_f (c_atomAt (d + 1) n r (a + 1) h) rfl ok_X10_atomAt v_X10_88 rfl (Nat.le_of_ble_eq_true rfl) rfl (Nat.le_of_ble_eq_true rfl) (by omega) (by omega) (by omega) ?_
            refine mw_iconst (v := nI 3) rfl (by decide) ?_
            first | refine mw_nadd rfl ?_ | refine mw_iadd rfl ?_
            refine mw_iald rfl (by first | rfl | exact hO | exact hv | exact hb | exact hm) (by omega) (by omega) ?_
            refine mw_if_ne rfl (fun hz => ?_) (fun hz => ?_)
            · refine mw_iconst (v := nI 0) rfl (by decide) ?_
              refine mw_n_ne rfl (by omega) (by omega) (fun hz2 => ?_) (fun hz2 => ?_)
              · refine mw_iconst (v := nI 0) rfl (by decide) ?_
                refine mw_istore_n (i := 3) rfl rfl (Nat.le_of_ble_eq_true rfl) ?_
                first | refine mw_ninc rfl rfl (Nat.le_of_ble_eq_true rfl) ?_ | refine mw_iinc rfl rfl rfl (Nat.le_of_ble_eq_true rfl) ?_
                refine mw_goto rfl ?_
                refine mw_locals ?_ ih
                rw [show andN (hLit v b m r) (a + 1) = false by
                  have : v (45 + 18 * r + 2 + 4 * (a + 1) + 3) ≠ 0 := fun q => hz (show nI _ = 0 by rw [q]; rfl)
                  simp [andN, hi, hLit, hneg, this]]
                rfl
              · omega
            · refine mw_iconst (v := nI 1) rfl (by decide) ?_
              refine mw_goto rfl ?_
              refine mw_n_ne rfl (by omega) (by omega) (fun hz2 => ?_) (fun hz2 => ?_)
              · omega
              · refine mw_iconst (v := nI 1) rfl (by decide) ?_
                refine mw_goto rfl ?_
                refine mw_istore_n (i := 3) rfl rfl (Nat.le_of_ble_eq_true rfl) ?_
                first | refine mw_ninc rfl rfl (Nat.le_of_ble_eq_true rfl) ?_ | refine mw_iinc rfl rfl rfl (Nat.le_of_ble_eq_true rfl) ?_
                refine mw_goto rfl ?_
                refine mw_locals ?_ ih
                rw [show andN (hLit v b m r) (a + 1) = true by
                  have : v (45 + 18 * r + 2 + 4 * (a + 1) + 3) = 0 := (nI_eq (by omega) (by omega)).mp (hz.trans nI_0.symm)
                  simp [andN, hi, hLit, hneg, this]]
                rfl
  exact mw_locals rfl (loop 0 (Nat.zero_le _))
