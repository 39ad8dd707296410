/-! THE CLASS'S QUESTIONS: costs, likelihoods, survivals are computed when asked for -/
theorem pf_n32 {x : UInt32} (h : x.toNat < 2139095040) : vf_n32 x := by
  unfold vf_n32
  rw [UInt32.le_iff_toNat_le, UInt32.toNat_and]
  have h1 : x.toNat &&& (2147483647 : UInt32).toNat ≤ x.toNat := Nat.and_le_left
  have h2 : (2139095040 : UInt32).toNat = 2139095040 := by decide
  exact Nat.le_trans h1 (by rw [h2]; omega)
theorem pf_cg {x y : UInt32} (hx : x.toNat < 2139095040) (hy : y.toNat < 2139095040) : (0 ≤ Op.cmpValue (FP.fcmp x y) .g) ↔ y.toNat ≤ x.toNat := by
  rw [pf_cmp hx hy]
  rcases Nat.lt_trichotomy x.toNat y.toNat with h | h | h
  · rw [Nat.compare_eq_lt.mpr h]
    exact ⟨fun q => absurd q (by decide), fun q => by omega⟩
  · rw [Nat.compare_eq_eq.mpr h]
    exact ⟨fun _ => by omega, fun _ => by decide⟩
  · rw [Nat.compare_eq_gt.mpr h]
    exact ⟨fun _ => by omega, fun _ => by decide⟩
theorem pf_cl {x y : UInt32} (hx : x.toNat < 2139095040) (hy : y.toNat < 2139095040) : (0 < Op.cmpValue (FP.fcmp x y) .l) ↔ y.toNat < x.toNat := by
  rw [pf_cmp hx hy]
  rcases Nat.lt_trichotomy x.toNat y.toNat with h | h | h
  · rw [Nat.compare_eq_lt.mpr h]
    exact ⟨fun q => absurd q (by decide), fun q => by omega⟩
  · rw [Nat.compare_eq_eq.mpr h]
    exact ⟨fun q => absurd q (by decide), fun q => by omega⟩
  · rw [Nat.compare_eq_gt.mpr h]
    exact ⟨fun _ => h, fun _ => by decide⟩
theorem f2i_U {z : UInt32} {n : Nat} (hz : z.toNat < 2139095040) (hU : fU z = n * 2 ^ 149) (hn : n < 2147483648) : FP.f2i z = nI n := by
  obtain ⟨c, q, x1, x2, x3⟩ := pf_fin hz
  have h1 := FP.Core.f2i_val (pf_val hz)
  have hzm : FP.Core.zmag FP.Core.b32 (FP.Core.val32 z) = n * 2 ^ 149 := by
    rw [x1]
    exact x3.trans hU
  have hs : FP.Core.sgn (FP.Core.val32 z) = false := by
    rw [x1]
    rfl
  rw [hzm, hs, show FP.Core.one32 = 2 ^ 149 from rfl, Nat.mul_div_cancel _ (Nat.two_pow_pos 149)] at h1
  refine Int32.toInt.inj (Eq.trans h1 ?_)
  rw [nI_toInt hn]
  show max _ (min _ (n : Int)) = (n : Int)
  omega
theorem tl32 : FP.Core.b32.tails = 8388608 := by decide +kernel
theorem fu_eq (m : Nat) : FP.Core.unitsOf FP.Core.b32 m = if m < 8388608 then m else (8388608 + m % 8388608) * 2 ^ (m / 8388608 - 1) := by
  unfold FP.Core.unitsOf
  rw [tl32]
/-- twice a float, by its bits -/
def dbl (m : Nat) : Nat := if m < 8388608 then 2 * m else m + 8388608
theorem U_dbl (m : Nat) : FP.Core.unitsOf FP.Core.b32 (dbl m) = 2 * FP.Core.unitsOf FP.Core.b32 m := by
  unfold dbl
  by_cases h : m < 8388608
  · rw [if_pos h, fu_eq m, if_pos h, fu_eq]
    by_cases h2 : 2 * m < 8388608
    · rw [if_pos h2]
    · rw [if_neg h2, show 2 * m % 8388608 = 2 * m - 8388608 by omega, show 2 * m / 8388608 - 1 = 0 by omega, Nat.pow_zero]
      omega
  · rw [if_neg h, fu_eq m, if_neg h, fu_eq, if_neg (by omega), Nat.add_mod_right, show (m + 8388608) / 8388608 - 1 = (m / 8388608 - 1) + 1 by omega, Nat.pow_succ, ← Nat.mul_assoc, Nat.mul_comm]
def dblN (m : Nat) : Nat → Nat
  | 0 => m
  | k + 1 => dbl (dblN m k)
theorem U_dblN (m : Nat) : ∀ k, FP.Core.unitsOf FP.Core.b32 (dblN m k) = 2 ^ k * FP.Core.unitsOf FP.Core.b32 m
  | 0 => (Nat.one_mul _).symm
  | k + 1 => by
    show FP.Core.unitsOf FP.Core.b32 (dbl (dblN m k)) = _
    rw [U_dbl, U_dblN m k, Nat.pow_succ, Nat.mul_comm (2 ^ k) 2, Nat.mul_assoc]
theorem dblN_le (m : Nat) : ∀ k, dblN m k ≤ m + k * 8388608
  | 0 => by rw [Nat.zero_mul]; exact Nat.le_refl _
  | k + 1 => by
    have h := dblN_le m k
    show dbl (dblN m k) ≤ _
    unfold dbl
    split <;> omega
theorem U_inj {m k : Nat} (h : FP.Core.unitsOf FP.Core.b32 m = FP.Core.unitsOf FP.Core.b32 k) : m = k :=
  Nat.le_antisymm (FP.Core.unitsOf_le_iff.mp (Nat.le_of_eq h)) (FP.Core.unitsOf_le_iff.mp (Nat.le_of_eq h.symm))
theorem fmul_pow {x c : UInt32} {k : Nat} (hx : x.toNat < 2139095040) (hc : c.toNat < 2139095040) (hU : fU c = 2 ^ k * 2 ^ 149) (hb : x.toNat + k * 8388608 ≤ 2139095040) : (FP.fmul x c).toNat = dblN x.toNat k := by
  have e : fU x * fU c = FP.Core.unitsOf FP.Core.b32 (dblN x.toNat k) * 2 ^ 149 := by
    rw [U_dblN, hU, ← Nat.mul_assoc, Nat.mul_comm (fU x) (2 ^ k)]
  exact Nat.le_antisymm (pf_mul_le hx hc _ (Nat.le_of_eq e)) (pf_mul_ge hx hc _ (Nat.le_trans (dblN_le _ _) hb) (Nat.le_of_eq e.symm))
theorem rr_bits {z : UInt32} {A : Nat} {e e0 : Int} (h1 : FP.Core.decode FP.Core.b32 z.toNat = FP.Core.roundRatio FP.Core.b32 false A 1 e) (he0 : e0 ≤ FP.Core.b32.qmin) (he : e0 ≤ e) {m : Nat} (hm : m ≤ 2139095040) (hU : FP.Core.inUnits A e e0 = FP.Core.unitsOf FP.Core.b32 m * 2 ^ (FP.Core.b32.qmin - e0).toNat) : z.toNat = m := by
  have hn : FP.Core.val32 z ≠ .nan := by
    show FP.Core.decode FP.Core.b32 z.toNat ≠ .nan
    rw [h1]
    exact FP.Core.roundRatio_ne_nan _ _ _ _ _
  have hs := FP.Core.sgn_bits32 hn
  rw [show FP.Core.val32 z = _ from h1, FP.Core.sgn_roundRatio] at hs
  have hlt := of_decide_eq_false hs.symm
  have hmg : FP.Core.mag FP.Core.b32 z.toNat = z.toNat := by
    rw [FP.Core.mag_toNat32]
    omega
  have l1 := FP.Core.mag_le FP.Core.good_b32 (m := m) h1 (by decide) he0 he (by rw [hU, Nat.mul_one]; exact Nat.le_refl _)
  have l2 := FP.Core.mag_ge FP.Core.good_b32 (m := m) h1 (by decide) he0 he (by rw [FP.Core.infBits_b32]; exact hm) (by rw [hU, Nat.mul_one]; exact Nat.le_refl _)
  rw [hmg] at l1 l2
  exact Nat.le_antisymm l1 l2
theorem fU_up {x : UInt32} {t : Nat} (hx : x.toNat = 1065353216 + t) (ht : t < 8388608) : fU x = (8388608 + t) * 2 ^ 126 := by
  show FP.Core.unitsOf FP.Core.b32 x.toNat = _
  rw [hx, fu_eq, if_neg (by omega), show (1065353216 + t) % 8388608 = t by omega, show (1065353216 + t) / 8388608 - 1 = 126 by omega]
theorem sub_units (a b : Nat) : ((a + b : Nat) : Int) + -((a : Nat) : Int) = ((b : Nat) : Int) := by omega
theorem neg_abs {a b : Nat} (h : -((a : Nat) : Int) = ((b : Nat) : Int)) (hp : 0 < b) : False := by omega
theorem fsub_1 {x : UInt32} {t : Nat} (hx : x.toNat = 1065353216 + t) (ht : t < 8388608) : (FP.fsub x FP.fconst1).toNat = dblN t 126 := by
  rcases Nat.eq_zero_or_pos t with h0 | h0
  · subst h0
    have hx1 : x = FP.fconst1 := UInt32.toNat.inj (hx.trans (by decide))
    subst hx1
    decide +kernel
  · obtain ⟨c, q, x1, x2, x3⟩ := pf_fin (x := x) (by omega)
    have o1 : FP.Core.negate (FP.Core.val32 FP.fconst1) = .fin true (2 ^ 23) (-23) := by decide +kernel
    have f1 : FP.Core.fits FP.Core.b32 (.fin true (2 ^ 23) (-23)) := by
      rw [← o1]
      exact FP.Core.negate_fits (FP.Core.val32_fits _)
    obtain ⟨sg, n, e, p1, p2, p3⟩ := FP.Core.sum_units x2 f1
    have hU := fU_up hx ht
    have hz : FP.Core.signed sg (FP.Core.inUnits n e FP.Core.b32.qmin) = ((t * 2 ^ 126 : Nat) : Int) := by
      rw [p3]
      have z1 : FP.Core.zval FP.Core.b32 (.fin false c q) = ((fU x : Nat) : Int) := by
        show FP.Core.signed false (FP.Core.inUnits c q FP.Core.b32.qmin) = _
        rw [x3]
        rfl
      have z2 : FP.Core.zval FP.Core.b32 (.fin true (2 ^ 23) (-23)) = -((8388608 * 2 ^ 126 : Nat) : Int) := by decide +kernel
      rw [z1, z2, hU, Nat.add_mul]
      exact sub_units _ _
    have hp : 0 < t * 2 ^ 126 := Nat.mul_pos h0 (Nat.two_pow_pos 126)
    cases sg with
    | true =>
      have hz2 : -((FP.Core.inUnits n e FP.Core.b32.qmin : Nat) : Int) = ((t * 2 ^ 126 : Nat) : Int) := hz
      exact (neg_abs hz2 hp).elim
    | false =>
      have hz2 : ((FP.Core.inUnits n e FP.Core.b32.qmin : Nat) : Int) = ((t * 2 ^ 126 : Nat) : Int) := hz
      have hA : FP.Core.inUnits n e FP.Core.b32.qmin = t * 2 ^ 126 := Int.ofNat_inj.mp hz2
      refine rr_bits (A := n) (e := e) (e0 := FP.Core.b32.qmin) ?_ (Int.le_refl _) p2 ?_ ?_
      · have h := FP.Core.val32_fsub x FP.fconst1
        rw [x1, o1, p1] at h
        exact h
      · exact Nat.le_trans (dblN_le _ _) (by omega)
      · rw [hA, U_dblN, fu_eq, if_pos ht, Int.sub_self]
        show t * 2 ^ 126 = 2 ^ 126 * t * 2 ^ 0
        rw [Nat.pow_zero, Nat.mul_one, Nat.mul_comm]
theorem fc23 : fU (1258291200 : UInt32) = 2 ^ 23 * 2 ^ 149 := by decide +kernel
theorem fc2 : fU FP.fconst2 = 2 ^ 1 * 2 ^ 149 := by decide +kernel
theorem pow23 (a : Nat) : 2 ^ 23 * (2 ^ 126 * a) = a * 2 ^ 149 := by
  rw [← Nat.mul_assoc, ← Nat.pow_add, Nat.mul_comm]
theorem fb_up {y x : UInt32} {j t : Nat} (hj : j ≤ 126) (hU : fU x = 2 ^ j * fU y) (hx : x.toNat = 1065353216 + t) (ht : t < 8388608) : y.toNat = (126 - j + 1) * 8388608 + t := by
  refine U_inj (Nat.eq_of_mul_eq_mul_left (Nat.two_pow_pos j) ?_)
  rw [← show fU x = 2 ^ j * FP.Core.unitsOf FP.Core.b32 y.toNat from hU, fU_up hx ht, fu_eq, if_neg (by omega), show ((126 - j + 1) * 8388608 + t) % 8388608 = t by omega, show ((126 - j + 1) * 8388608 + t) / 8388608 - 1 = 126 - j by omega, Nat.mul_left_comm, ← Nat.pow_add, show j + (126 - j) = 126 by omega]
theorem fb_lo {y x : UInt32} (hU : fU x = 2 ^ 126 * fU y) (hx : x.toNat < 1065353216) : y.toNat < 8388608 ∧ fU y = y.toNat := by
  have h1 : fU x < 2 ^ 149 := by
    rw [← fU_1]
    exact FP.Core.unitsOf_lt hx
  have h2 : fU y < 8388608 := by
    refine Nat.lt_of_mul_lt_mul_left (a := 2 ^ 126) ?_
    rw [← hU]
    exact h1
  have h3 : y.toNat < 8388608 := by
    refine Nat.lt_of_not_le fun q => ?_
    have h4 := FP.Core.unitsOf_le_iff (f := FP.Core.b32) |>.mpr q
    rw [fu_eq 8388608] at h4
    exact absurd (Nat.lt_of_le_of_lt h4 h2) (by decide)
  exact ⟨h3, (fu_eq _).trans (if_pos h3)⟩
theorem i32_nI (y : UInt32) : y.toInt32 = nI y.toNat := by
  apply Int32.toBitVec_inj.mp
  apply BitVec.eq_of_toNat_eq
  show y.toNat = y.toNat % 2 ^ 32
  exact (Nat.mod_eq_of_lt y.toNat_lt).symm
theorem or_23 {a t : Nat} (ht : t < 8388608) : a * 2 ^ 23 ||| t = a * 8388608 + t := by
  rw [Nat.mul_comm, ← Nat.two_pow_add_eq_or_of_lt ht, Nat.mul_comm]
theorem wf_ldcwF {p : Program} {l : Launch} {e : Env} {R : Room} {s : State} {m : MethodId} {args : Array Value} {below : List Frame} {meth : Method} {c : Code} {locs : List Loc} {cells slots : Nat} {T : State} (X : Stand p l e R s m args below meth c T locs cells slots) (hexec : p.tables.exec = Jvm.exec) {own : String} {index : Nat} {v : UInt32} (hown : s.vm.findClass own = some m.cls)
    (hconst : (Cond.constantFloat own index v).before args s = true) {g : JFrame} (hg : g.method = m) (hdg : decode c.code g.pc = .ok (.ldc_w index, 3)) :
    ∀ target, Steps p.tables e below (T.setTop { g with pc := g.pc + 3, stack := .float v :: g.stack }) target → Steps p.tables e below (T.setTop g) target := by
  obtain ⟨k, cf, hk, hcf, hcp⟩ := Cond.constantFloat_spec hown hconst
  obtain ⟨k', hk', he⟩ := X.warmed.alike.2.2 _ _ hk
  intro target hrest
  subst hg
  jvm_step X.here [hexec, hdg, ldc_w.wp_float (s := T) (f := g) X.here.top hk' (by rw [he]; exact hcf) hcp]
  exact hrest
theorem mw_ldcfw {M : MI} {d mc ms n0 : Nat} {post : Option Value → (Nat → MC) → Prop} {pc : Nat} {L : List (Nat × Value)} {S : List Value} {h : Nat → MC} {n sl nx tg ix : Nat} {v : UInt32} (hf : fch M pc = some (.ldc_w ix, 3, nx, tg)) (hw : Cond.constantFloat M.1.cls ix v ∈ lw_gd) (k : MW M d mc ms n0 post nx L (.float v :: S) h n sl) : MW M d mc ms n0 post pc L S h n sl := by
  intro G p lc e s m args below meth c X H locs ls hn hW hS hl
  obtain ⟨hdg, rfl, htg⟩ := fch_ok X.1 hf
  intro T hT X0
  obtain ⟨t, a, b⟩ := k G p lc e s m args below meth c X H locs ls hn hW hS hl T hT X0
  exact ⟨t, wf_ldcwF X0 X.2.1 X.2.2.2.2.2.2.1 (X.2.2.2.2.2.2.2.2.1 _ hw) (g := F0 m pc ls (S.map (cvV G.2.1))) rfl (by rw [X.2.2.1]; exact hdg) t a, b⟩
/-- the bits of a likelihood, found by arithmetic -/
theorem c_floatBits (d n : Nat) (y : UInt32) (h : Nat → MC) (hy : UF y) : Fn M_X9_floatBits d 0 0 [.float y] h n (some (.int y.toInt32)) h := by
  refine Fn.of fun post hp => ?_
  rw [i32_nI] at hp
  have hyu : y.toNat ≤ 1065353216 := hy
  have k0 : FP.fconst0.toNat = 0 := by decide
  have k1 : FP.fconst1.toNat = 1065353216 := by decide
  have k2 : FP.fconst2.toNat = 1073741824 := by decide
  have k3 : (1258291200 : UInt32).toNat = 1258291200 := by decide
  have out : ∀ j, j ≤ 126 → ∀ x : UInt32, x.toNat < 1073741824 → fU x = 2 ^ j * fU y → (x.toNat < 1065353216 → j = 126) → MW M_X9_floatBits d 0 0 n post 40 [(0, .float y), (1, .float x), (2, .int (nI (126 - j + 1))), (3, .int (nI (1 + j)))] [] h n 0 := by
    intro j hj x hx hU hlo
    refine mw_fload_n (i := 1) rfl rfl rfl ?_
    refine mw_fconst1 rfl ?_
    refine mw_fcmp rfl ?_
    refine mw_if_ge rfl (fun hq => ?_) (fun hq => ?_)
    · have h1 := (pf_cg (by omega) (by rw [k1]; decide)).mp hq
      rw [k1] at h1
      obtain ⟨t, ht⟩ : ∃ t, x.toNat = 1065353216 + t := ⟨x.toNat - 1065353216, by omega⟩
      have htl : t < 8388608 := by omega
      have b1 := fsub_1 ht htl
      have b2 := dblN_le t 126
      have b3 : (FP.fmul (FP.fsub x FP.fconst1) 1258291200).toNat = dblN (dblN t 126) 23 := by
        rw [fmul_pow (k := 23) (by omega) (by rw [k3]; decide) fc23 (by omega), b1]
      have b4 := dblN_le (dblN t 126) 23
      have b5 : FP.f2i (FP.fmul (FP.fsub x FP.fconst1) 1258291200) = nI t := by
        refine f2i_U (by omega) ?_ (by omega)
        show FP.Core.unitsOf FP.Core.b32 (FP.fmul (FP.fsub x FP.fconst1) 1258291200).toNat = _
        rw [b3, U_dblN, U_dblN, fu_eq, if_pos htl, pow23]
      have b6 := fb_up hj hU ht htl
      refine mw_iload_n (i := 2) rfl rfl rfl ?_
      refine mw_bipush (v := nI 23) rfl (by decide) ?_
      refine mw_ishl rfl ?_
      rw [shlN (by decide) (by omega)]
      refine mw_fload_n (i := 1) rfl rfl rfl ?_
      refine mw_fconst1 rfl ?_
      refine mw_fsub rfl (pf_n32 (by omega)) ?_
      refine mw_ldcfw rfl c_X9_266 ?_
      refine mw_fmul rfl (pf_n32 (by omega)) ?_
      refine mw_f2i rfl ?_
      rw [b5]
      refine mw_nior rfl ?_
      rw [or_23 htl, ← b6]
      exact mw_ireturn rfl rfl rfl rfl (Nat.le_refl _) (hp)
    · have h1 : x.toNat < 1065353216 := by
        refine Nat.lt_of_not_le fun q => hq ((pf_cg (by omega) (by rw [k1]; decide)).mpr ?_)
        rw [k1]
        exact q
      have hj2 := hlo h1
      rw [hj2] at hU
      obtain ⟨b1, b2⟩ := fb_lo hU h1
      have b3 : (FP.fmul x 1258291200).toNat = dblN x.toNat 23 := fmul_pow (k := 23) (by omega) (by rw [k3]; decide) fc23 (by omega)
      have b4 := dblN_le x.toNat 23
      have b5 : FP.f2i (FP.fmul x 1258291200) = nI y.toNat := by
        refine f2i_U (by omega) ?_ (by omega)
        show FP.Core.unitsOf FP.Core.b32 (FP.fmul x 1258291200).toNat = _
        rw [b3, U_dblN, show FP.Core.unitsOf FP.Core.b32 x.toNat = _ from hU, b2, pow23]
      refine mw_fload_n (i := 1) rfl rfl rfl ?_
      refine mw_ldcfw rfl c_X9_266 ?_
      refine mw_fmul rfl (pf_n32 (by omega)) ?_
      refine mw_f2i rfl ?_
      rw [b5]
      exact mw_ireturn rfl rfl rfl rfl (Nat.le_refl _) (hp)
  have loop : ∀ j, j ≤ 126 → ∀ x : UInt32, x.toNat < 1073741824 → fU x = 2 ^ j * fU y → MW M_X9_floatBits d 0 0 n post 15 [(0, .float y), (1, .float x), (2, .int (nI (126 - j + 1))), (3, .int (nI (1 + j)))] [] h n 0 := by
    refine loop_up (P := fun j => ∀ x : UInt32, x.toNat < 1073741824 → fU x = 2 ^ j * fU y → MW M_X9_floatBits d 0 0 n post 15 [(0, .float y), (1, .float x), (2, .int (nI (126 - j + 1))), (3, .int (nI (1 + j)))] [] h n 0) 126 ?_ ?_
    · intro x hx hU
      refine mw_fload_n (i := 1) rfl rfl rfl ?_
      refine mw_fconst1 rfl ?_
      refine mw_fcmp rfl ?_
      refine mw_if_ge rfl (fun hq => ?_) (fun hq => ?_)
      · exact mw_locals rfl (out 126 (Nat.le_refl _) x hx hU (fun _ => rfl))
      · refine mw_iload_n (i := 3) rfl rfl rfl ?_
        refine mw_bipush (v := nI 127) rfl (by decide) ?_
        refine mw_n_ge rfl (by omega) (by omega) (fun hr => ?_) (fun hr => ?_)
        · exact mw_locals rfl (out 126 (Nat.le_refl _) x hx hU (fun _ => rfl))
        · omega
    · intro j hj ih x hx hU
      refine mw_fload_n (i := 1) rfl rfl rfl ?_
      refine mw_fconst1 rfl ?_
      refine mw_fcmp rfl ?_
      refine mw_if_ge rfl (fun hq => ?_) (fun hq => ?_)
      · have h1 := (pf_cg (by omega) (by rw [k1]; decide)).mp hq
        exact mw_locals rfl (out j (by omega) x hx hU (fun q => by rw [k1] at h1; omega))
      · have h1 : x.toNat < 1065353216 := by
          refine Nat.lt_of_not_le fun q => hq ((pf_cg (by omega) (by rw [k1]; decide)).mpr ?_)
          rw [k1]
          exact q
        have b1 : (FP.fmul x FP.fconst2).toNat = dblN x.toNat 1 := fmul_pow (k := 1) (by omega) (by rw [k2]; decide) fc2 (by omega)
        have b2 := dblN_le x.toNat 1
        have b3 : fU (FP.fmul x FP.fconst2) = 2 ^ (j + 1) * fU y := by
          show FP.Core.unitsOf FP.Core.b32 (FP.fmul x FP.fconst2).toNat = _
          rw [b1, U_dblN, show FP.Core.unitsOf FP.Core.b32 x.toNat = _ from hU, ← Nat.mul_assoc, ← Nat.pow_add, Nat.add_comm 1 j]
        refine mw_iload_n (i := 3) rfl rfl rfl ?_
        refine mw_bipush (v := nI 127) rfl (by decide) ?_
        refine mw_n_ge rfl (by omega) (by omega) (fun hr => ?_) (fun hr => ?_)
        · omega
        · refine mw_fload_n (i := 1) rfl rfl rfl ?_
          refine mw_fconst2 rfl ?_
          refine mw_fmul rfl (pf_n32 (by omega)) ?_
          refine mw_fstore_n (i := 1) rfl rfl (Nat.le_of_ble_eq_true rfl) ?_
          refine mw_iinc rfl rfl ((congrArg (fun z => nI (126 - j + 1) + z) (show Int32.ofInt (-1) = (-1 : Int32) by decide)).trans (pk_m1 (126 - j))) (Nat.le_of_ble_eq_true rfl) ?_
          first | refine mw_ninc rfl rfl (Nat.le_of_ble_eq_true rfl) ?_ | refine mw_iinc rfl rfl rfl (Nat.le_of_ble_eq_true rfl) ?_
          refine mw_goto rfl ?_
          rw [show 126 - j = 126 - (j + 1) + 1 by omega]
          exact mw_locals rfl (ih _ (by omega) b3)
  refine mw_fload_n (i := 0) rfl rfl rfl ?_
  refine mw_fconst0 rfl ?_
  refine mw_fcmp rfl ?_
  refine mw_if_gt rfl (fun hc => ?_) (fun hc => ?_)
  · refine mw_fload_n (i := 0) rfl rfl rfl ?_
    refine mw_fstore_n (i := 1) rfl rfl (Nat.le_of_ble_eq_true rfl) ?_
    refine mw_bipush (v := nI 127) rfl (by decide) ?_
    refine mw_istore_n (i := 2) rfl rfl (Nat.le_of_ble_eq_true rfl) ?_
    refine mw_iconst (v := nI 1) rfl (by decide) ?_
    refine mw_istore_n (i := 3) rfl rfl (Nat.le_of_ble_eq_true rfl) ?_
    exact mw_locals rfl (loop 0 (by omega) y (by omega) (Nat.one_mul _).symm)
  · have h0 : y.toNat = 0 := by
      refine Nat.eq_zero_of_not_pos fun q => hc ((pf_cl (by omega) (by rw [k0]; decide)).mpr ?_)
      rw [k0]
      exact q
    rw [h0] at hp
    refine mw_iconst (v := nI 0) rfl (by decide) ?_
    exact mw_ireturn rfl rfl rfl rfl (Nat.le_refl _) (hp)
theorem KI.flag {v sm : Nat → Nat} {x : KD} (hI : KI v sm x) (hm : x.mF = true) : x.gF = true ∧ (strF v).2.2 = true ∧ x.m.1 = (mdl0 v).1 ∧ HdOk v (hoV v) x.T.2.1 x.T.2.2.1 x.T.2.2.2 ∧ GrOk v x.g := by
  obtain ⟨h1, h2, h3, -, -, h6⟩ := hI.2.2.1 hm
  exact ⟨h1, h2, h3, h6, hI.2.1 h1⟩
set_option maxRecDepth 20000 in
theorem c_compC (d n : Nat) (v sm : Nat → Nat) (P : PgS) (x : KD) (h : Nat → MC) (H : KW v sm P h x) (hm : x.mF = true) : Sp M_X9_computeCosts (d + 4) 0 0 [.ref 0] h n (KQ v sm h (fun x' r => r = none ∧ x'.mF = true ∧ x'.cF = true ∧ (x.lF = true → x'.lF = true))) := by
  show MW _ _ _ _ _ _ _ _ _ _ _ _
  generalize hpost : KQ v sm h (fun x' r => r = none ∧ x'.mF = true ∧ x'.cF = true ∧ (x.lF = true → x'.lF = true)) = post
  have hp := fun (x' : KD) (h2 : KI v sm x') (h3 : x'.mF = true) (h4 : x'.cF = true) (h5 : x.lF = true → x'.lF = true) => KQ.mk hpost (r := none) x' h2 ⟨rfl, h3, h4, h5⟩
  clear hpost
  obtain ⟨hAt, hPg, hV, hSf, hok, hKK, hI⟩ := H
  obtain ⟨f1, f2, f3, f4, f5⟩ := hI.flag hm
  refine mw_over (kqL x) hAt ?_
  refine mw_aload_n (i := 0) rfl rfl rfl ?_
  refine mw_getfield rfl f_X9_237 (by first | rfl | exact rfl | exact hKK.1) rfl ?_
  show MW _ _ _ _ _ _ _ _ (.int (bI x.cF) :: []) _ _ _
  refine mw_b_ne rfl (fun hc => ?_) (fun hc => ?_)
  · exact mw_return rfl rfl rfl (Nat.le_refl _) ((hp x hI hm hc (fun q => q)))
  · refine mw_aload_n (i := 0) rfl rfl rfl ?_
    refine mw_getfield rfl f_X9_55 (by first | rfl | exact rfl | exact hKK.1) rfl ?_
    refine mw_aload_n (i := 0) rfl rfl rfl ?_
    refine mw_getfield rfl f_X9_12 (by first | rfl | exact rfl | exact hKK.1) rfl ?_
    refine mw_aload_n (i := 0) rfl rfl rfl ?_
    refine mw_getfield rfl f_X9_34 (by first | rfl | exact rfl | exact hKK.1) rfl ?_
    refine mw_aload_n (i := 0) rfl rfl rfl ?_
    refine mw_getfield rfl f_X9_48 (by first | rfl | exact rfl | exact hKK.1) rfl ?_
    refine mw_heap (h2 := mov (kcL x.C.1 x.C.2.1 x.C.2.2.1 x.C.2.2.2.1 x.C.2.2.2.2.1 x.C.2.2.2.2.2) (mov (kqL x) h)) (mov_sub h (by intro q hq; simp only [List.mem_cons, List.not_mem_nil, or_false] at hq; rcases hq with rfl | rfl | rfl | rfl | rfl | rfl <;> rfl)) ?_
    refine mw_callV (c_kcompute d n P v x.C.1 x.C.2.1 x.C.2.2.1 x.C.2.2.2.1 x.C.2.2.2.2.1 x.C.2.2.2.2.2 (hoV v) x.T.2.1 x.T.2.2.1 x.T.2.2.2 x.g (mov (kqL x) h) (hPg.mv rfl) hV ⟨rfl, rfl, rfl, rfl, rfl, rfl, rfl, rfl, rfl, rfl, rfl⟩ f5 hok (hoV_ok hok) f4 hKK.1 rfl rfl) rfl ok_X0_compute v_X9_260 rfl (by first | rfl | exact rfl | exact hKK.1) (by intro e; cases e) rfl (Nat.le_of_ble_eq_true rfl) rfl (Nat.le_of_ble_eq_true rfl) (by omega) (by omega) (by omega) ?_
    intro r2 h2 hq2
    obtain ⟨rfl, c, kr, z, u, ba, ch, rfl, hC⟩ := hq2
    rw [← mov_puts]
    obtain ⟨x1, hx1⟩ : ∃ x1 : KD, x1 = ((x.gF, x.mF, true, x.lF, x.sF, x.lw), x.g, x.m, x.T, (c, kr, z, u, ba, ch), x.l, x.r, x.o) := ⟨_, rfl⟩
    obtain ⟨i1, i2, i3, i4, i5, i6, i7⟩ := hI
    have hI1 : KI v sm x1 := by
      rw [hx1]
      exact ⟨i1, i2, i3, fun _ => ⟨hm, hC⟩, i5, i6, i7⟩
    refine mw_aload_n (i := 0) rfl rfl rfl ?_
    refine mw_iconst (v := nI 1) rfl (by decide) ?_
    first | refine mw_putfield_m rfl f_X9_237 (by first | rfl | exact rfl | exact hKK.1) (Nat.le_of_ble_eq_true rfl) (fun _ => bI_nar _) (fun _ => bI_fit _) ?_ | refine mw_putfield_m rfl f_X9_237 (by first | rfl | exact rfl | exact hKK.1) (Nat.le_of_ble_eq_true rfl) (fun _ => rfl) (fun _ => rfl) ?_
    refine mw_heap (h2 := mov (kqL x1) h) (by rw [hx1]; rfl) ?_
    exact mw_return rfl rfl rfl (Nat.le_refl _) ((hp x1 hI1 (by rw [hx1]; exact hm) (by rw [hx1]) (by rw [hx1]; exact fun q => q)))
set_option maxRecDepth 20000 in
theorem c_compL (d n : Nat) (v sm : Nat → Nat) (P : PgS) (x : KD) (h : Nat → MC) (H : KW v sm P h x) (hm : x.mF = true) : Sp M_X9_computeLikelihoods (d + 4) 0 0 [.ref 0] h n (KQ v sm h (fun x' r => r = none ∧ x'.mF = true ∧ x'.lF = true ∧ (x.cF = true → x'.cF = true))) := by
  show MW _ _ _ _ _ _ _ _ _ _ _ _
  generalize hpost : KQ v sm h (fun x' r => r = none ∧ x'.mF = true ∧ x'.lF = true ∧ (x.cF = true → x'.cF = true)) = post
  have hp := fun (x' : KD) (h2 : KI v sm x') (h3 : x'.mF = true) (h4 : x'.lF = true) (h5 : x.cF = true → x'.cF = true) => KQ.mk hpost (r := none) x' h2 ⟨rfl, h3, h4, h5⟩
  clear hpost
  obtain ⟨hAt, hPg, hV, hSf, hok, hKK, hI⟩ := H
  obtain ⟨f1, f2, f3, f4, f5⟩ := hI.flag hm
  refine mw_over (kqL x) hAt ?_
  refine mw_aload_n (i := 0) rfl rfl rfl ?_
  refine mw_getfield rfl f_X9_240 (by first | rfl | exact rfl | exact hKK.2.1) rfl ?_
  show MW _ _ _ _ _ _ _ _ (.int (bI x.lF) :: []) _ _ _
  refine mw_b_ne rfl (fun hc => ?_) (fun hc => ?_)
  · exact mw_return rfl rfl rfl (Nat.le_refl _) ((hp x hI hm hc (fun q => q)))
  · refine mw_aload_n (i := 0) rfl rfl rfl ?_
    refine mw_getfield rfl f_X9_62 (by first | rfl | exact rfl | exact hKK.2.1) rfl ?_
    refine mw_aload_n (i := 0) rfl rfl rfl ?_
    refine mw_getfield rfl f_X9_12 (by first | rfl | exact rfl | exact hKK.2.1) rfl ?_
    refine mw_aload_n (i := 0) rfl rfl rfl ?_
    refine mw_getfield rfl f_X9_34 (by first | rfl | exact rfl | exact hKK.2.1) rfl ?_
    refine mw_aload_n (i := 0) rfl rfl rfl ?_
    refine mw_getfield rfl f_X9_48 (by first | rfl | exact rfl | exact hKK.2.1) rfl ?_
    refine mw_heap (h2 := mov (lkC x.l) (mov (kqL x) h)) (mov_sub h (by intro q hq; simp only [List.mem_cons, List.not_mem_nil, or_false] at hq; rcases hq with rfl; rfl)) ?_
    refine mw_callV (c_klcompute (d + 2) n P v x.l (hoV v) x.T.2.1 x.T.2.2.1 x.T.2.2.2 x.g (mov (kqL x) h) (hPg.mv rfl) hV ⟨rfl, rfl, rfl, rfl, rfl, rfl, rfl, rfl, rfl, rfl, rfl⟩ f5 hok (hoV_ok hok) f4 hKK.2.1 rfl rfl hI.1) rfl ok_X3_compute v_X9_264 rfl (by first | rfl | exact rfl | exact hKK.2.1) (by intro e; cases e) rfl (Nat.le_of_ble_eq_true rfl) rfl (Nat.le_of_ble_eq_true rfl) (by omega) (by omega) (by omega) ?_
    intro r2 h2 hq2
    obtain ⟨rfl, l, rfl, hL⟩ := hq2
    rw [← mov_puts]
    obtain ⟨x1, hx1⟩ : ∃ x1 : KD, x1 = ((x.gF, x.mF, x.cF, true, x.sF, x.lw), x.g, x.m, x.T, x.C, l, x.r, x.o) := ⟨_, rfl⟩
    obtain ⟨i1, i2, i3, i4, i5, i6, i7⟩ := hI
    have hl0 : ∀ f, 216 ≤ f → l f = FP.fconst0 := fun f hf => by
      obtain ⟨F, hF⟩ := lkLim hok (hoV_ok hok)
      rw [hL.2 F hF f, lkLim_tail hok (hoV_ok hok) hF f hf]
      exact if_pos rfl
    have hI1 : KI v sm x1 := by
      rw [hx1]
      exact ⟨hl0, i2, i3, i4, fun _ => ⟨hm, hL⟩, i6, i7⟩
    refine mw_aload_n (i := 0) rfl rfl rfl ?_
    refine mw_iconst (v := nI 1) rfl (by decide) ?_
    first | refine mw_putfield_m rfl f_X9_240 (by first | rfl | exact rfl | exact hKK.2.1) (Nat.le_of_ble_eq_true rfl) (fun _ => bI_nar _) (fun _ => bI_fit _) ?_ | refine mw_putfield_m rfl f_X9_240 (by first | rfl | exact rfl | exact hKK.2.1) (Nat.le_of_ble_eq_true rfl) (fun _ => rfl) (fun _ => rfl) ?_
    refine mw_heap (h2 := mov (kqL x1) h) (by rw [hx1]; rfl) ?_
    exact mw_return rfl rfl rfl (Nat.le_refl _) ((hp x1 hI1 (by rw [hx1]; exact hm) (by rw [hx1]) (by rw [hx1]; exact fun q => q)))
set_option maxRecDepth 20000 in
theorem c_compS (d n : Nat) (v sm : Nat → Nat) (P : PgS) (x : KD) (h : Nat → MC) (H : KW v sm P h x) (hm : x.mF = true) : Sp M_X9_computeSurvivals (d + 4) 0 0 [.ref 0] h n (KQ v sm h (fun x' r => r = none ∧ x'.mF = true ∧ x'.sF = true)) := by
  show MW _ _ _ _ _ _ _ _ _ _ _ _
  generalize hpost : KQ v sm h (fun x' r => r = none ∧ x'.mF = true ∧ x'.sF = true) = post
  have hp := fun (x' : KD) (h2 : KI v sm x') (h3 : x'.mF = true) (h4 : x'.sF = true) => KQ.mk hpost (r := none) x' h2 ⟨rfl, h3, h4⟩
  clear hpost
  obtain ⟨hAt, hPg, hV, hSf, hok, hKK, hI⟩ := H
  obtain ⟨f1, f2, f3, f4, f5⟩ := hI.flag hm
  refine mw_over (kqL x) hAt ?_
  refine mw_aload_n (i := 0) rfl rfl rfl ?_
  refine mw_getfield rfl f_X9_243 (by first | rfl | exact rfl | exact hKK.2.2.1) rfl ?_
  show MW _ _ _ _ _ _ _ _ (.int (bI x.sF) :: []) _ _ _
  refine mw_b_ne rfl (fun hc => ?_) (fun hc => ?_)
  · exact mw_return rfl rfl rfl (Nat.le_refl _) ((hp x hI hm hc))
  · refine mw_aload_n (i := 0) rfl rfl rfl ?_
    refine mw_getfield rfl f_X9_69 (by first | rfl | exact rfl | exact hKK.2.2.1) rfl ?_
    refine mw_aload_n (i := 0) rfl rfl rfl ?_
    refine mw_getfield rfl f_X9_12 (by first | rfl | exact rfl | exact hKK.2.2.1) rfl ?_
    refine mw_aload_n (i := 0) rfl rfl rfl ?_
    refine mw_getfield rfl f_X9_34 (by first | rfl | exact rfl | exact hKK.2.2.1) rfl ?_
    refine mw_aload_n (i := 0) rfl rfl rfl ?_
    refine mw_getfield rfl f_X9_48 (by first | rfl | exact rfl | exact hKK.2.2.1) rfl ?_
    refine mw_heap (h2 := mov (rwL x.r) (mov (kqL x) h)) (mov_sub h (by intro q hq; simp only [List.mem_cons, List.not_mem_nil, or_false] at hq; rcases hq with rfl; rfl)) ?_
    refine mw_callV (c_kscompute (d + 2) n P v sm x.r (hoV v) x.T.2.1 x.T.2.2.1 x.T.2.2.2 x.g (mov (kqL x) h) (hPg.mv rfl) hV ⟨rfl, rfl, rfl, rfl, rfl, rfl, rfl, rfl, rfl, rfl, rfl⟩ f5 hok (hoV_ok hok) f4 hKK.2.2.1 hKK.2.2.2 rfl rfl) rfl ok_X8_compute v_X9_265 rfl (by first | rfl | exact rfl | exact hKK.2.2.1) (by intro e; cases e) rfl (Nat.le_of_ble_eq_true rfl) rfl (Nat.le_of_ble_eq_true rfl) (by omega) (by omega) (by omega) ?_
    intro r2 h2 hq2
    obtain ⟨rfl, rr, rfl, hS⟩ := hq2
    rw [← mov_puts]
    obtain ⟨x1, hx1⟩ : ∃ x1 : KD, x1 = ((x.gF, x.mF, x.cF, x.lF, true, x.lw), x.g, x.m, x.T, x.C, x.l, rr, x.o) := ⟨_, rfl⟩
    obtain ⟨i1, i2, i3, i4, i5, i6, i7⟩ := hI
    have hI1 : KI v sm x1 := by
      rw [hx1]
      exact ⟨i1, i2, i3, i4, i5, fun _ => ⟨hm, hS⟩, i7⟩
    refine mw_aload_n (i := 0) rfl rfl rfl ?_
    refine mw_iconst (v := nI 1) rfl (by decide) ?_
    first | refine mw_putfield_m rfl f_X9_243 (by first | rfl | exact rfl | exact hKK.2.2.1) (Nat.le_of_ble_eq_true rfl) (fun _ => bI_nar _) (fun _ => bI_fit _) ?_ | refine mw_putfield_m rfl f_X9_243 (by first | rfl | exact rfl | exact hKK.2.2.1) (Nat.le_of_ble_eq_true rfl) (fun _ => rfl) (fun _ => rfl) ?_
    refine mw_heap (h2 := mov (kqL x1) h) (by rw [hx1]; rfl) ?_
    exact mw_return rfl rfl rfl (Nat.le_refl _) ((hp x1 hI1 (by rw [hx1]; exact hm) (by rw [hx1])))
theorem c_leastOf (d n f : Nat) (what : Nat) (x : KD) (h : Nat → MC) (hKC : h 72 = KO) (hf : f < 216) (hc : x.C.1 f ≤ 1000001) (hw : what < 3) : Fn M_X9_leastOf d 0 0 [.ref 0, .int (nI f), .int (nI what)] (mov (kqL x) h) n (some (.int (if x.C.1 f < 1000001 then (if what = 0 then nI (x.C.2.1 f) else if what = 1 then nI (x.C.2.2.1 f) else nI (x.C.2.2.2.1 f)) else -5))) (mov (kqL x) h) := by
  refine Fn.of fun post hp => ?_
  refine mw_aload_n (i := 0) rfl rfl rfl ?_
  refine mw_getfield rfl f_X9_55 (by first | rfl | exact rfl | exact hKC) rfl ?_
  refine mw_getfield rfl f_X9_174 (by first | rfl | exact rfl | exact hKC) rfl ?_
  refine mw_iload_n (i := 1) rfl rfl rfl ?_
  refine mw_iald rfl (by first | rfl | exact rfl | exact hKC) (by omega) (by omega) ?_
  refine mw_ldc (v := nI 1000001) rfl c_X9_220 ?_
  show MW _ _ _ _ _ _ _ _ (.int (nI 1000001) :: .int (nI (x.C.1 f)) :: []) _ _ _
  refine mw_n_lt rfl (by omega) (by omega) (fun hq => ?_) (fun hq => ?_)
  · rw [if_pos hq] at hp
    refine mw_iload_n (i := 2) rfl rfl rfl ?_
    refine mw_z_ne rfl (by omega) (fun h0 => ?_) (fun h0 => ?_)
    · rw [if_neg h0] at hp
      refine mw_iload_n (i := 2) rfl rfl rfl ?_
      refine mw_iconst (v := nI 1) rfl (by decide) ?_
      refine mw_n_ne rfl (by omega) (by omega) (fun h1 => ?_) (fun h1 => ?_)
      · rw [if_neg h1] at hp
        refine mw_aload_n (i := 0) rfl rfl rfl ?_
        refine mw_getfield rfl f_X9_55 (by first | rfl | exact rfl | exact hKC) rfl ?_
        refine mw_getfield rfl f_X9_227 (by first | rfl | exact rfl | exact hKC) rfl ?_
        refine mw_iload_n (i := 1) rfl rfl rfl ?_
        refine mw_iald rfl (by first | rfl | exact rfl | exact hKC) (by omega) (by omega) ?_
        exact mw_ireturn rfl rfl rfl rfl (Nat.le_refl _) (hp)
      · rw [if_pos h1] at hp
        refine mw_aload_n (i := 0) rfl rfl rfl ?_
        refine mw_getfield rfl f_X9_55 (by first | rfl | exact rfl | exact hKC) rfl ?_
        refine mw_getfield rfl f_X9_224 (by first | rfl | exact rfl | exact hKC) rfl ?_
        refine mw_iload_n (i := 1) rfl rfl rfl ?_
        refine mw_iald rfl (by first | rfl | exact rfl | exact hKC) (by omega) (by omega) ?_
        refine mw_goto rfl ?_
        exact mw_ireturn rfl rfl rfl rfl (Nat.le_refl _) (hp)
    · rw [if_pos h0] at hp
      refine mw_aload_n (i := 0) rfl rfl rfl ?_
      refine mw_getfield rfl f_X9_55 (by first | rfl | exact rfl | exact hKC) rfl ?_
      refine mw_getfield rfl f_X9_221 (by first | rfl | exact rfl | exact hKC) rfl ?_
      refine mw_iload_n (i := 1) rfl rfl rfl ?_
      refine mw_iald rfl (by first | rfl | exact rfl | exact hKC) (by omega) (by omega) ?_
      exact mw_ireturn rfl rfl rfl rfl (Nat.le_refl _) (hp)
  · rw [if_neg (by omega)] at hp
    refine mw_bipush (v := (-5)) rfl (by decide) ?_
    exact mw_ireturn rfl rfl rfl rfl (Nat.le_refl _) (hp)
