/-! THE CLASS'S GROUNDING: all instances -/
/-- the instances, one after the other: (how many, rule, code) -/
abbrev EnS : Type := Nat × (Nat → Nat) × (Nat → Nat)
def enC (v : Nat → Nat) (r code : Nat) (S : EnS) : EnS := if bOk v r code = true then (S.1 + 1, updN S.2.1 S.1 r, updN S.2.2 S.1 code) else S
def enR (v : Nat → Nat) (r : Nat) (S : EnS) : EnS := itN (enC v r) S 216
def en0 : EnS := (0, fun _ => 0, fun _ => 0)
def enF (v : Nat → Nat) (k : Nat) : EnS := itN (enR v) en0 k
/-- the constants of a code -/
abbrev bnd (code : Nat) : Nat → Nat := bndU (fun _ => 0) code
/-- the rows of the instances are what they should be -/
def GI (v : Nat → Nat) (S : EnS) (ru hd bd : Nat → Nat) : Prop := ∀ i, i < S.1 → S.2.1 i < v 2 ∧ S.2.2 i < 216 ∧ ru i = S.2.1 i ∧ hd i = fA v (bnd (S.2.2 i)) (S.2.1 i) 0 ∧ ∀ a, a < v (45 + 18 * S.2.1 i + 1) → bd (bdP v (S.2.1 i) i a) = fA v (bnd (S.2.2 i)) (S.2.1 i) (a + 1)
theorem enC_cnt {v : Nat → Nat} {r code : Nat} {S : EnS} : (enC v r code S).1 ≤ S.1 + 1 := by
  unfold enC
  split
  · exact Nat.le_refl _
  · exact Nat.le_succ _
theorem enCs_cnt {v : Nat → Nat} {r : Nat} {S : EnS} : ∀ k, (itN (enC v r) S k).1 ≤ S.1 + k
  | 0 => Nat.le_refl _
  | k + 1 => Nat.le_trans enC_cnt (by have := enCs_cnt (v := v) (r := r) (S := S) k; omega)
theorem enF_cnt {v : Nat → Nat} : ∀ k, (enF v k).1 ≤ 216 * k
  | 0 => Nat.le_refl _
  | k + 1 => by
    have h1 := enCs_cnt (v := v) (r := k) (S := enF v k) 216
    have h2 := enF_cnt (v := v) k
    show (itN (enC v k) (enF v k) 216).1 ≤ _
    omega
theorem GI_add {v : Nat → Nat} (hok : OkN v) {S : EnS} {ru hd bd b : Nat → Nat} {r code : Nat} (hr : r < v 2) (hc : code < 216) (hb : ∀ x, x < 3 → b x = bnd code x) (h : GI v S ru hd bd) : GI v (S.1 + 1, updN S.2.1 S.1 r, updN S.2.2 S.1 code) (updN ru S.1 r) (updN hd S.1 (fA v b r 0)) (bdN v b r S.1 bd (v (45 + 18 * r + 1))) := by
  intro i hi
  have hi : i < S.1 + 1 := hi
  have hl3 := (hok.2.2.2.2.2.2 r hr).2.2.2.1
  show updN S.2.1 S.1 r i < v 2 ∧ updN S.2.2 S.1 code i < 216 ∧ updN ru S.1 r i = updN S.2.1 S.1 r i ∧ updN hd S.1 (fA v b r 0) i = fA v (bnd (updN S.2.2 S.1 code i)) (updN S.2.1 S.1 r i) 0 ∧ ∀ a, a < v (45 + 18 * updN S.2.1 S.1 r i + 1) → bdN v b r S.1 bd (v (45 + 18 * r + 1)) (bdP v (updN S.2.1 S.1 r i) i a) = fA v (bnd (updN S.2.2 S.1 code i)) (updN S.2.1 S.1 r i) (a + 1)
  by_cases e : i = S.1
  · subst e
    simp only [updN_same]
    refine ⟨hr, hc, trivial, fA_b hok hb hr (Nat.zero_le _), fun a ha => ?_⟩
    rw [bdN_in _ (Nat.le_refl _) a ha]
    exact fA_b hok hb hr (by omega)
  · simp only [updN_ne _ _ e]
    obtain ⟨h1, h2, h3, h4, h5⟩ := h i (by omega)
    refine ⟨h1, h2, h3, h4, fun a ha => ?_⟩
    have hin := bdP_in (v := v) (r := S.2.1 i) (i := i) (a := a) ha
    have hl3' := (hok.2.2.2.2.2.2 _ h1).2.2.2.1
    rw [bdN_out hl3 (by omega) _ (Nat.le_refl _)]
    exact h5 a ha
theorem enC_skip {v : Nat → Nat} {r : Nat} {S : EnS} {k : Nat} : ∀ m, (∀ c, k ≤ c → c < k + m → bOk v r c = false) → itN (enC v r) S (k + m) = itN (enC v r) S k
  | 0, _ => rfl
  | m + 1, h => by
    show enC v r (k + m) (itN (enC v r) S (k + m)) = _
    rw [enC_skip m (fun c h1 h2 => h c h1 (by omega))]
    unfold enC
    rw [if_neg (by rw [h (k + m) (by omega) (by omega)]; decide)]
theorem bnd_at {x y z : Nat} (hx : x < 6) (hy : y < 6) (hz : z < 6) : bnd (36 * x + 6 * y + z) 0 = x ∧ bnd (36 * x + 6 * y + z) 1 = y ∧ bnd (36 * x + 6 * y + z) 2 = z := by
  refine ⟨?_, ?_, ?_⟩
  · show (36 * x + 6 * y + z) / 36 = x
    omega
  · show (36 * x + 6 * y + z) / 6 % 6 = y
    omega
  · show (36 * x + 6 * y + z) % 6 = z
    omega
theorem bOk_at {v : Nat → Nat} {r x y z : Nat} (hx : x < 6) (hy : y < 6) (hz : z < 6) : bOk v r (36 * x + 6 * y + z) = true ↔ x < bLim v r 0 ∧ y < bLim v r 1 ∧ z < bLim v r 2 := by
  obtain ⟨e0, e1, e2⟩ := bnd_at hx hy hz
  have e0 : bndU (fun _ => 0) (36 * x + 6 * y + z) 0 = x := e0
  have e1 : bndU (fun _ => 0) (36 * x + 6 * y + z) 1 = y := e1
  have e2 : bndU (fun _ => 0) (36 * x + 6 * y + z) 2 = z := e2
  unfold bOk
  rw [andN_iff]
  constructor
  · intro h
    have h0 := of_decide_eq_true (h 0 (by omega))
    have h1 := of_decide_eq_true (h 1 (by omega))
    have h2 := of_decide_eq_true (h 2 (by omega))
    rw [e0] at h0
    rw [e1] at h1
    rw [e2] at h2
    exact ⟨h0, h1, h2⟩
  · rintro ⟨h0, h1, h2⟩ k hk
    match k, hk with
    | 0, _ => exact decide_eq_true (by rw [e0]; exact h0)
    | 1, _ => exact decide_eq_true (by rw [e1]; exact h1)
    | 2, _ => exact decide_eq_true (by rw [e2]; exact h2)
theorem bOk_no {v : Nat → Nat} {r x y z : Nat} (hx : x < 6) (hy : y < 6) (hz : z < 6) (h : bLim v r 0 ≤ x ∨ bLim v r 1 ≤ y ∨ bLim v r 2 ≤ z) : bOk v r (36 * x + 6 * y + z) = false := by
  cases q : bOk v r (36 * x + 6 * y + z)
  · rfl
  · have := (bOk_at hx hy hz).mp q
    omega
theorem bLim_le {v : Nat → Nat} (hok : OkN v) (r x : Nat) : 1 ≤ bLim v r x ∧ bLim v r x ≤ 6 := by
  have h1 := hok.1
  have h6 := hok.2.1
  unfold bLim
  split <;> omega
/-- each variable of a rule stands in a literal that isn't negated -/
def SafR (v : Nat → Nat) (R : RuS) (r : Nat) : Prop := ∀ x, x < 3 → hasV R x = decide (varB v r / 2 ^ x % 2 = 1)
set_option maxRecDepth 20000 in
theorem c_fillInstances (d n r : Nat) (R : RuS) (v : Nat → Nat) (g : GD) (h : Nat → MC) (hR : RuAt h (7 + 5 * r) R) (hV : RuV R v r) (hS : SafR v R r) (hok : OkN v) (hr : r < v 2) (hmg : ∀ t, t < 6 → g.mg t = t) (hpc : g.pc r = plT v r) (hsr : g.sr r = (enF v r).1) (hG : GI v (enF v r) g.ru g.hd g.bd) : Sp M_X1_fillInstances (d + 2) 0 0 [.ref 56, .ref (7 + 5 * r), .int (nI r), .int (nI (v 0))] (mov (grL g) h) n (fun ro h1 => ro = some (.int (nI (enF v (r + 1)).1)) ∧ ∃ ru hd bd mg : Nat → Nat, h1 = mov (grL (mkG g.st g.sf g.rc g.hs g.pr g.pc g.lc g.sr ru hd bd mg)) h ∧ GI v (enF v (r + 1)) ru hd bd ∧ ∀ t, t < 6 → mg t = t) := by
  show MW _ _ _ _ _ _ _ _ _ _ _ _
  generalize hpost : (fun (ro : Option Value) (h1 : Nat → MC) => ro = some (.int (nI (enF v (r + 1)).1)) ∧ ∃ ru hd bd mg : Nat → Nat, h1 = mov (grL (mkG g.st g.sf g.rc g.hs g.pr g.pc g.lc g.sr ru hd bd mg)) h ∧ GI v (enF v (r + 1)) ru hd bd ∧ ∀ t, t < 6 → mg t = t) = post
  have hp : ∀ ru hd bd mg : Nat → Nat, GI v (enF v (r + 1)) ru hd bd → (∀ t, t < 6 → mg t = t) → post (some (.int (nI (enF v (r + 1)).1))) (mov (grL (mkG g.st g.sf g.rc g.hs g.pr g.pc g.lc g.sr ru hd bd mg)) h) := by
    intro ru hd bd mg h1 h2
    rw [← hpost]
    exact ⟨rfl, ru, hd, bd, mg, rfl, h1, h2⟩
  clear hpost
  have h8 := hok.2.2.2.1
  have hv0 := hok.1
  have hv6 := hok.2.1
  obtain ⟨-, -, hl1, hl3, hat⟩ := hok.2.2.2.2.2.2 r hr
  have hR' : ∀ {l : MLs}, l.all (fun q => Nat.beq q.1 0 || Nat.ble 47 q.1) = true → RuAt (mov l h) (7 + 5 * r) R := fun hl => hR.mv (by omega) hl
  have q0 : ∀ {l : MLs}, l.all (fun q => Nat.beq q.1 0 || Nat.ble 47 q.1) = true → mov l h (7 + 5 * r) = _ := fun hl => (hR' hl).1
  have hli : R.li ≤ 3 := by rw [hV.2.1]; exact hl3
  have hB : ∀ a, 1 ≤ a → a ≤ R.li → R.fi a < 9 ∧ R.se a < 9 := fun a _ ha => by
    have ha : a ≤ v (45 + 18 * r + 1) := by rw [← hV.2.1]; exact ha
    obtain ⟨-, e2, e3, -⟩ := hV.2.2 a ha
    obtain ⟨-, f2, f3, -⟩ := hat a ha
    rw [e2, e3]
    exact ⟨f2, f3⟩
  have lim : ∀ x, x < 3 → (hasV R x = true → bLim v r x = v 0) ∧ (hasV R x = false → bLim v r x = 1) := fun x hx => by
    rw [hS x hx]
    unfold bLim
    exact ⟨fun q => if_pos (of_decide_eq_true q), fun q => if_neg (of_decide_eq_false q)⟩
  have hN := enF_cnt (v := v) r
  obtain ⟨L0, hL0⟩ : ∃ L, L = bLim v r 0 := ⟨_, rfl⟩
  obtain ⟨L1, hL1⟩ : ∃ L, L = bLim v r 1 := ⟨_, rfl⟩
  obtain ⟨L2, hL2⟩ : ∃ L, L = bLim v r 2 := ⟨_, rfl⟩
  have b0 := bLim_le hok r 0
  have b1 := bLim_le hok r 1
  have b2 := bLim_le hok r 2
  have no := fun {x y z : Nat} (hx : x < 6) (hy : y < 6) (hz : z < 6) => bOk_no (v := v) (r := r) hx hy hz
  have yes := fun {x y z : Nat} (hx : x < 6) (hy : y < 6) (hz : z < 6) => bOk_at (v := v) (r := r) hx hy hz
  rw [← hL0] at b0 no yes
  rw [← hL1] at b1 no yes
  rw [← hL2] at b2 no yes
  have hsrI : vI g.sr r = nI (enF v r).1 := congrArg nI hsr
  have main : MW M_X1_fillInstances (d + 2) 0 0 n post 53 [(0, .ref 56), (1, .ref (7 + 5 * r)), (2, .int (nI r)), (4, .int (nI (enF v r).1)), (5, .int (nI L0)), (6, .int (nI L1)), (7, .int (nI L2))] [] (mov (grL g) h) n 0 := by
    have loopX : ∀ x, x ≤ L0 → ∀ ru hd bd mg : Nat → Nat, GI v (itN (enC v r) (enF v r) (36 * x)) ru hd bd → (∀ t, t < 6 → mg t = t) → MW M_X1_fillInstances (d + 2) 0 0 n post 56 [(0, .ref 56), (1, .ref (7 + 5 * r)), (2, .int (nI r)), (4, .int (nI (itN (enC v r) (enF v r) (36 * x)).1)), (5, .int (nI L0)), (6, .int (nI L1)), (7, .int (nI L2)), (8, .int (nI x))] [] (mov (grL (mkG g.st g.sf g.rc g.hs g.pr g.pc g.lc g.sr ru hd bd mg)) h) n 0 := by
      refine loop_up L0 ?_ ?_
      · intro ru hd bd mg hG hm
        have es : itN (enC v r) (enF v r) (36 * L0) = enF v (r + 1) := by
          have := enC_skip (v := v) (r := r) (S := enF v r) (k := 36 * L0) (216 - 36 * L0) (fun c h1 h2 => by
            have e : c = 36 * (c / 36) + 6 * (c / 6 % 6) + c % 6 := by omega
            rw [e]
            exact no (by omega) (by omega) (by omega) (Or.inl (by omega)))
          rw [show 36 * L0 + (216 - 36 * L0) = 216 by omega] at this
          exact this.symm
        rw [es] at hG ⊢
        refine mw_iload rfl rfl ?_
        refine mw_iload rfl rfl ?_
        refine mw_n_ge rfl (by omega) (by omega) (fun hc => ?_) (fun hc => ?_)
        · refine mw_iload rfl rfl ?_
          exact mw_ireturn rfl rfl rfl rfl (Nat.le_refl _) ((hp _ _ _ _ hG hm))
        · omega
      · intro x hx ihx ru hd bd mg hG hm
        have hx6 : x < 6 := by omega
        refine mw_iload rfl rfl ?_
        refine mw_iload rfl rfl ?_
        refine mw_n_ge rfl (by omega) (by omega) (fun hc => ?_) (fun hc => ?_)
        · omega
        · refine mw_iconst (v := nI 0) rfl (by decide) ?_
          refine mw_istore rfl (Nat.le_of_ble_eq_true rfl) ?_
          have loopY : ∀ y, y ≤ L1 → ∀ ru hd bd mg : Nat → Nat, GI v (itN (enC v r) (enF v r) (36 * x + 6 * y)) ru hd bd → (∀ t, t < 6 → mg t = t) → MW M_X1_fillInstances (d + 2) 0 0 n post 66 [(0, .ref 56), (1, .ref (7 + 5 * r)), (2, .int (nI r)), (4, .int (nI (itN (enC v r) (enF v r) (36 * x + 6 * y)).1)), (5, .int (nI L0)), (6, .int (nI L1)), (7, .int (nI L2)), (8, .int (nI x)), (9, .int (nI y))] [] (mov (grL (mkG g.st g.sf g.rc g.hs g.pr g.pc g.lc g.sr ru hd bd mg)) h) n 0 := by
            refine loop_up L1 ?_ ?_
            · intro ru hd bd mg hG hm
              have es : itN (enC v r) (enF v r) (36 * x + 6 * L1) = itN (enC v r) (enF v r) (36 * (x + 1)) := by
                have := enC_skip (v := v) (r := r) (S := enF v r) (k := 36 * x + 6 * L1) (36 - 6 * L1) (fun c h1 h2 => by
                  have e : c = 36 * (c / 36) + 6 * (c / 6 % 6) + c % 6 := by omega
                  rw [e]
                  exact no (by omega) (by omega) (by omega) (Or.inr (Or.inl (by omega))))
                rw [show 36 * x + 6 * L1 + (36 - 6 * L1) = 36 * (x + 1) by omega] at this
                exact this.symm
              rw [es] at hG ⊢
              refine mw_iload rfl rfl ?_
              refine mw_iload rfl rfl ?_
              refine mw_n_ge rfl (by omega) (by omega) (fun hc => ?_) (fun hc => ?_)
              · first | refine mw_ninc rfl rfl (Nat.le_of_ble_eq_true rfl) ?_ | refine mw_iinc rfl rfl rfl (Nat.le_of_ble_eq_true rfl) ?_
                refine mw_goto rfl ?_
                exact mw_locals rfl (ihx ru hd bd mg hG hm)
              · omega
            · intro y hy ihy ru hd bd mg hG hm
              have hy6 : y < 6 := by omega
              refine mw_iload rfl rfl ?_
              refine mw_iload rfl rfl ?_
              refine mw_n_ge rfl (by omega) (by omega) (fun hc => ?_) (fun hc => ?_)
              · omega
              · refine mw_iconst (v := nI 0) rfl (by decide) ?_
                refine mw_istore rfl (Nat.le_of_ble_eq_true rfl) ?_
                have loopZ : ∀ z, z ≤ L2 → ∀ ru hd bd mg : Nat → Nat, GI v (itN (enC v r) (enF v r) (36 * x + 6 * y + z)) ru hd bd → (∀ t, t < 6 → mg t = t) → MW M_X1_fillInstances (d + 2) 0 0 n post 76 [(0, .ref 56), (1, .ref (7 + 5 * r)), (2, .int (nI r)), (4, .int (nI (itN (enC v r) (enF v r) (36 * x + 6 * y + z)).1)), (5, .int (nI L0)), (6, .int (nI L1)), (7, .int (nI L2)), (8, .int (nI x)), (9, .int (nI y)), (10, .int (nI z))] [] (mov (grL (mkG g.st g.sf g.rc g.hs g.pr g.pc g.lc g.sr ru hd bd mg)) h) n 0 := by
                  refine loop_up L2 ?_ ?_
                  · intro ru hd bd mg hG hm
                    have es : itN (enC v r) (enF v r) (36 * x + 6 * y + L2) = itN (enC v r) (enF v r) (36 * x + 6 * (y + 1)) := by
                      have := enC_skip (v := v) (r := r) (S := enF v r) (k := 36 * x + 6 * y + L2) (6 - L2) (fun c h1 h2 => by
                        have e : c = 36 * (c / 36) + 6 * (c / 6 % 6) + c % 6 := by omega
                        rw [e]
                        exact no (by omega) (by omega) (by omega) (Or.inr (Or.inr (by omega))))
                      rw [show 36 * x + 6 * y + L2 + (6 - L2) = 36 * x + 6 * (y + 1) by omega] at this
                      exact this.symm
                    rw [es] at hG ⊢
                    refine mw_iload rfl rfl ?_
                    refine mw_iload rfl rfl ?_
                    refine mw_n_ge rfl (by omega) (by omega) (fun hc => ?_) (fun hc => ?_)
                    · first | refine mw_ninc rfl rfl (Nat.le_of_ble_eq_true rfl) ?_ | refine mw_iinc rfl rfl rfl (Nat.le_of_ble_eq_true rfl) ?_
                      refine mw_goto rfl ?_
                      exact mw_locals rfl (ihy ru hd bd mg hG hm)
                    · omega
                  · intro z hz ihz ru hd bd mg hG hm
                    have hz6 : z < 6 := by omega
                    have hok1 : bOk v r (36 * x + 6 * y + z) = true := (yes hx6 hy6 hz6).mpr ⟨hx, hy, hz⟩
                    have hcnt := enCs_cnt (v := v) (r := r) (S := enF v r) (36 * x + 6 * y + z)
                    have eS : itN (enC v r) (enF v r) (36 * x + 6 * y + (z + 1)) = enC v r (36 * x + 6 * y + z) (itN (enC v r) (enF v r) (36 * x + 6 * y + z)) := rfl
                    obtain ⟨c0, c1, c2⟩ := bnd_at hx6 hy6 hz6
                    rw [eS] at ihz
                    generalize itN (enC v r) (enF v r) (36 * x + 6 * y + z) = S at hG hcnt ihz ⊢
                    rw [show enC v r (36 * x + 6 * y + z) S = (S.1 + 1, updN S.2.1 S.1 r, updN S.2.2 S.1 (36 * x + 6 * y + z)) from if_pos hok1] at ihz
                    refine mw_iload rfl rfl ?_
                    refine mw_iload rfl rfl ?_
                    refine mw_n_ge rfl (by omega) (by omega) (fun hc => ?_) (fun hc => ?_)
                    · omega
                    · refine mw_aload_n (i := 0) rfl rfl rfl ?_
                      refine mw_getfield rfl f_X1_39 (by first | rfl | exact rfl | exact (q0 rfl)) rfl ?_
                      refine mw_bipush (v := nI 6) rfl (by decide) ?_
                      refine mw_iload rfl rfl ?_
                      refine mw_iast_m rfl (by first | rfl | exact rfl | exact (q0 rfl)) (by omega) (by omega) ?_
                      first | rw [vI_upd] | rw [vI_updv] | skip
                      refine mw_aload_n (i := 0) rfl rfl rfl ?_
                      refine mw_getfield rfl f_X1_39 (by first | rfl | exact rfl | exact (q0 rfl)) rfl ?_
                      refine mw_bipush (v := nI 7) rfl (by decide) ?_
                      refine mw_iload rfl rfl ?_
                      refine mw_iast_m rfl (by first | rfl | exact rfl | exact (q0 rfl)) (by omega) (by omega) ?_
                      first | rw [vI_upd] | rw [vI_updv] | skip
                      refine mw_aload_n (i := 0) rfl rfl rfl ?_
                      refine mw_getfield rfl f_X1_39 (by first | rfl | exact rfl | exact (q0 rfl)) rfl ?_
                      refine mw_bipush (v := nI 8) rfl (by decide) ?_
                      refine mw_iload rfl rfl ?_
                      refine mw_iast_m rfl (by first | rfl | exact rfl | exact (q0 rfl)) (by omega) (by omega) ?_
                      first | rw [vI_upd] | rw [vI_updv] | skip
                      refine mw_aload_n (i := 0) rfl rfl rfl ?_
                      refine mw_aload_n (i := 1) rfl rfl rfl ?_
                      refine mw_iload_n (i := 2) rfl rfl rfl ?_
                      refine mw_iload rfl rfl ?_
                      refine mw_heap (h2 := mov (grL (mkG g.st g.sf g.rc g.hs g.pr g.pc g.lc g.sr ru hd bd (updN (updN (updN mg 6 x) 7 y) 8 z))) h) rfl ?_
                      have hb6 : ∀ t, t < 3 → bnd (36 * x + 6 * y + z) t < 6 := fun t ht => by
                        match t, ht with
                        | 0, _ => rw [c0]; exact hx6
                        | 1, _ => rw [c1]; exact hy6
                        | 2, _ => rw [c2]; exact hz6
                      have hm9 : ∀ t, t < 9 → updN (updN (updN mg 6 x) 7 y) 8 z t = tOf (bnd (36 * x + 6 * y + z)) t := fun t ht => by
                        unfold tOf
                        by_cases h6 : t < 6
                        · rw [if_pos h6, updN_ne _ _ (by omega), updN_ne _ _ (by omega), updN_ne _ _ (by omega)]
                          exact hm t h6
                        · rw [if_neg h6]
                          obtain ⟨u, hu, rfl⟩ : ∃ u, u < 3 ∧ t = u + 6 := ⟨t - 6, by omega, by omega⟩
                          rw [Nat.add_sub_cancel]
                          match u, hu with
                          | 0, _ => rw [c0]; rfl
                          | 1, _ => rw [c1]; rfl
                          | 2, _ => rw [c2]; rfl
                      refine mw_callV_f (c_fillInstance d n r S.1 R v (bnd (36 * x + 6 * y + z)) (mkG g.st g.sf g.rc g.hs g.pr g.pc g.lc g.sr ru hd bd (updN (updN (updN mg 6 x) 7 y) 8 z)) h hR hV hok hr hb6 hm9 hpc (by omega)) rfl ok_X1_fillInstance v_X1_102 rfl (by first | rfl | exact rfl | exact (q0 rfl)) (by intro e; cases e) rfl (Nat.le_of_ble_eq_true rfl) rfl (Nat.le_of_ble_eq_true rfl) (by omega) (by omega) (by omega) ?_
                      first | refine mw_ninc rfl rfl (Nat.le_of_ble_eq_true rfl) ?_ | refine mw_iinc rfl rfl rfl (Nat.le_of_ble_eq_true rfl) ?_
                      first | refine mw_ninc rfl rfl (Nat.le_of_ble_eq_true rfl) ?_ | refine mw_iinc rfl rfl rfl (Nat.le_of_ble_eq_true rfl) ?_
                      refine mw_goto rfl ?_
                      refine mw_locals rfl (mw_heap rfl (ihz _ _ _ (updN (updN (updN mg 6 x) 7 y) 8 z) (GI_add hok hr (by omega) (fun _ _ => rfl) hG) (fun t ht => by rw [hm9 t (by omega)]; unfold tOf; rw [if_pos ht])))
                exact mw_locals rfl (loopZ 0 (Nat.zero_le _) ru hd bd mg hG hm)
          exact mw_locals rfl (loopY 0 (Nat.zero_le _) ru hd bd mg hG hm)
    refine mw_iconst (v := nI 0) rfl (by decide) ?_
    refine mw_istore rfl (Nat.le_of_ble_eq_true rfl) ?_
    exact mw_locals rfl (mw_heap rfl (loopX 0 (Nat.zero_le _) g.ru g.hd g.bd g.mg hG hmg))
  have z3 : ∀ y0 : Nat, y0 = L0 → ∀ y1 : Nat, y1 = L1 → MW M_X1_fillInstances (d + 2) 0 0 n post 38 [(0, .ref 56), (1, .ref (7 + 5 * r)), (2, .int (nI r)), (3, .int (nI (v 0))), (4, .int (nI (enF v r).1)), (5, .int (nI y0)), (6, .int (nI y1))] [] (mov (grL g) h) n 0 := by
    intro y0 ey0 y1 ey1
    subst ey0
    subst ey1
    refine mw_aload_n (i := 1) rfl rfl rfl ?_
    refine mw_iconst (v := nI 2) rfl (by decide) ?_
    refine mw_callV_f (c_hasVariable (d + 1) n (7 + 5 * r) R 2 _ (hR' rfl) hli hB (by omega)) rfl ok_X6_hasVariable v_X1_98 rfl (by first | rfl | exact rfl | exact (q0 rfl)) (by intro e; cases e) rfl (Nat.le_of_ble_eq_true rfl) rfl (Nat.le_of_ble_eq_true rfl) (by omega) (by omega) (by omega) ?_
    refine mw_b_eq rfl (fun hb => ?_) (fun hb => ?_)
    · have : L2 = 1 := hL2.trans ((lim 2 (by omega)).2 hb)
      rw [this] at main
      refine mw_iconst (v := nI 1) rfl (by decide) ?_
      refine mw_istore rfl (Nat.le_of_ble_eq_true rfl) ?_
      exact mw_locals rfl main
    · have : L2 = v 0 := hL2.trans ((lim 2 (by omega)).1 hb)
      rw [this] at main
      refine mw_iload_n (i := 3) rfl rfl rfl ?_
      refine mw_goto rfl ?_
      refine mw_istore rfl (Nat.le_of_ble_eq_true rfl) ?_
      exact mw_locals rfl main
  have z2 : ∀ y0 : Nat, y0 = L0 → MW M_X1_fillInstances (d + 2) 0 0 n post 23 [(0, .ref 56), (1, .ref (7 + 5 * r)), (2, .int (nI r)), (3, .int (nI (v 0))), (4, .int (nI (enF v r).1)), (5, .int (nI y0))] [] (mov (grL g) h) n 0 := by
    intro y0 ey0
    refine mw_aload_n (i := 1) rfl rfl rfl ?_
    refine mw_iconst (v := nI 1) rfl (by decide) ?_
    refine mw_callV_f (c_hasVariable (d + 1) n (7 + 5 * r) R 1 _ (hR' rfl) hli hB (by omega)) rfl ok_X6_hasVariable v_X1_98 rfl (by first | rfl | exact rfl | exact (q0 rfl)) (by intro e; cases e) rfl (Nat.le_of_ble_eq_true rfl) rfl (Nat.le_of_ble_eq_true rfl) (by omega) (by omega) (by omega) ?_
    refine mw_b_eq rfl (fun hb => ?_) (fun hb => ?_)
    · refine mw_iconst (v := nI 1) rfl (by decide) ?_
      refine mw_istore rfl (Nat.le_of_ble_eq_true rfl) ?_
      exact mw_locals rfl (z3 y0 ey0 1 (hL1.trans ((lim 1 (by omega)).2 hb)).symm)
    · refine mw_iload_n (i := 3) rfl rfl rfl ?_
      refine mw_goto rfl ?_
      refine mw_istore rfl (Nat.le_of_ble_eq_true rfl) ?_
      exact mw_locals rfl (z3 y0 ey0 (v 0) (hL1.trans ((lim 1 (by omega)).1 hb)).symm)
  refine mw_aload_n (i := 0) rfl rfl rfl ?_
  refine mw_getfield rfl f_X1_27 (by first | rfl | exact rfl | exact (q0 rfl)) rfl ?_
  refine mw_iload_n (i := 2) rfl rfl rfl ?_
  refine mw_iald_v rfl (by first | rfl | exact rfl | exact (q0 rfl)) (by omega) (by omega) hsrI ?_
  refine mw_istore rfl (Nat.le_of_ble_eq_true rfl) ?_
  refine mw_aload_n (i := 1) rfl rfl rfl ?_
  refine mw_iconst (v := nI 0) rfl (by decide) ?_
  refine mw_callV_f (c_hasVariable (d + 1) n (7 + 5 * r) R 0 _ (hR' rfl) hli hB (by omega)) rfl ok_X6_hasVariable v_X1_98 rfl (by first | rfl | exact rfl | exact (q0 rfl)) (by intro e; cases e) rfl (Nat.le_of_ble_eq_true rfl) rfl (Nat.le_of_ble_eq_true rfl) (by omega) (by omega) (by omega) ?_
  refine mw_b_eq rfl (fun hb => ?_) (fun hb => ?_)
  · refine mw_iconst (v := nI 1) rfl (by decide) ?_
    refine mw_istore rfl (Nat.le_of_ble_eq_true rfl) ?_
    exact mw_locals rfl (z2 1 (hL0.trans ((lim 0 (by omega)).2 hb)).symm)
  · refine mw_iload_n (i := 3) rfl rfl rfl ?_
    refine mw_goto rfl ?_
    refine mw_istore rfl (Nat.le_of_ble_eq_true rfl) ?_
    exact mw_locals rfl (z2 (v 0) (hL0.trans ((lim 0 (by omega)).1 hb)).symm)
