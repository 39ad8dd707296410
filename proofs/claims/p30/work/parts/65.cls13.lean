/-! COSTS SETTLE -/
def isLit (S : HoS) (i f : Nat) : Prop := ∃ a, a < 3 ∧ ¬ S.2.2.2.1 (3 * i + a) < 0 ∧ (S.2.2.2.1 (3 * i + a)).toNatClampNeg = f
theorem coS_mono {v : Nat → Nat} {S : HoS} {c c' : Nat → Nat} {i : Nat} (h : ∀ f, isLit S i f → c f ≤ c' f) : ∀ n, n ≤ 3 → itN (fun a s => s + litN c (S.2.2.2.1 (3 * i + a))) (v (45 + 18 * S.2.1 i)) n ≤ itN (fun a s => s + litN c' (S.2.2.2.1 (3 * i + a))) (v (45 + 18 * S.2.1 i)) n
  | 0, _ => Nat.le_refl _
  | n + 1, hn => by
    have ih := coS_mono (v := v) h n (by omega)
    show itN _ _ n + litN c (S.2.2.2.1 (3 * i + n)) ≤ itN _ _ n + litN c' (S.2.2.2.1 (3 * i + n))
    have : litN c (S.2.2.2.1 (3 * i + n)) ≤ litN c' (S.2.2.2.1 (3 * i + n)) := by
      unfold litN
      split
      · exact Nat.le_refl _
      · rename_i q
        exact h _ ⟨n, by omega, q, rfl⟩
    omega
theorem coS_ge {v : Nat → Nat} {S : HoS} {c : Nat → Nat} {i f : Nat} (h : isLit S i f) : c f ≤ coS v S c i := by
  obtain ⟨a, ha, h1, h2⟩ := h
  have h3 : ∀ n, n ≤ 3 → a < n → c f ≤ itN (fun a s => s + litN c (S.2.2.2.1 (3 * i + a))) (v (45 + 18 * S.2.1 i)) n := by
    intro n
    induction n with
    | zero => exact fun _ q => absurd q (Nat.not_lt_zero a)
    | succ n ih =>
      intro hn hq
      show c f ≤ itN _ _ n + litN c (S.2.2.2.1 (3 * i + n))
      by_cases e : a = n
      · subst e
        have : litN c (S.2.2.2.1 (3 * i + a)) = c f := by
          unfold litN
          rw [if_neg h1, h2]
        omega
      · have := ih (by omega) (by omega)
        omega
  exact h3 3 (Nat.le_refl _) ha
theorem coB_mono {v : Nat → Nat} {S : HoS} {c c' : Nat → Nat} {i : Nat} (h : ∀ f, isLit S i f → c f ≤ c' f) : coB v S c i ≤ coB v S c' i := by
  have := coS_mono (v := v) h 3 (Nat.le_refl _)
  unfold coB coS
  split <;> split <;> omega
theorem co_gl {v : Nat → Nat} {S : HoS} {c : Nat → Nat} {b : Bool} (hc : CoF c) : ∀ n, (itN (coI v S) (c, b) n).1 = itN (glS (fun x => 1000001 - x) (fun i => S.2.2.1 i) (fun i c => coB v S c i)) c n
  | 0 => rfl
  | n + 1 => by
    have ih := co_gl (v := v) (S := S) (b := b) hc n
    have hF := coIs_F (v := v) (S := S) (p := (c, b)) hc n
    show (coI v S n (itN (coI v S) (c, b) n)).1 = glS _ _ _ n (itN (glS (fun x => 1000001 - x) (fun i => S.2.2.1 i) (fun i c => coB v S c i)) c n)
    rw [← ih]
    generalize itN (coI v S) (c, b) n = T at hF
    have h1 := hF (S.2.2.1 n)
    have h2 := coB_le v S T.1 n
    unfold coI glS
    by_cases q : coB v S T.1 n < T.1 (S.2.2.1 n)
    · rw [if_pos q, if_pos (show 1000001 - T.1 (S.2.2.1 n) < 1000001 - coB v S T.1 n by omega)]
    · rw [if_neg q, if_neg (show ¬ 1000001 - T.1 (S.2.2.1 n) < 1000001 - coB v S T.1 n by omega)]
theorem co_glIt {v : Nat → Nat} {S : HoS} : ∀ k, itN (fun _ c => (coP v S c).1) (coBase v) k = itN (fun _ => glP (fun x => 1000001 - x) (fun i => S.2.2.1 i) (fun i c => coB v S c i) S.1) (coBase v) k
  | 0 => rfl
  | k + 1 => by
    have ih := co_glIt (v := v) (S := S) k
    have hF := coIt_F (v := v) (S := S) k
    show (coP v S (itN (fun _ c => (coP v S c).1) (coBase v) k)).1 = glP _ _ _ S.1 (itN (fun _ => glP (fun x => 1000001 - x) (fun i => S.2.2.1 i) (fun i c => coB v S c i) S.1) (coBase v) k)
    rw [← ih]
    exact co_gl hF S.1
set_option maxRecDepth 20000 in
theorem co_settle {v : Nat → Nat} {S : HoS} (hS : HoOk v S) : ∃ K, K ≤ 216 ∧ (coP v S (itN (fun _ c => (coP v S c).1) (coBase v) K)).1 = itN (fun _ c => (coP v S c).1) (coBase v) K := by
  obtain ⟨c, k, hk, hfix⟩ := coLim hS (coBase v)
  have e : ∀ K, (coP v S (itN (fun _ c => (coP v S c).1) (coBase v) K)).1 = itN (fun _ => glP (fun x => 1000001 - x) (fun i => S.2.2.1 i) (fun i c => coB v S c i) S.1) (coBase v) (K + 1) := fun K => co_glIt (K + 1)
  obtain ⟨K, h1, h2⟩ := gl_settles (α := Nat) (fun x => 1000001 - x) (fun i => S.2.2.1 i) (fun i c => coB v S c i) (N := S.1) (M := 216) (I := CoF) (G := isLit S) (c0 := coBase v) coBase_F
    (fun i hi c hc f => by
      unfold glS
      split
      · unfold updN
        split
        · exact coB_le v S c i
        · exact hc f
      · exact hc f)
    (fun i hi => (hS.2 i hi).2.1)
    (fun i hi f hf => by
      obtain ⟨a, ha, h1, h2⟩ := hf
      rcases (hS.2 i hi).2.2 a ha with q | ⟨g, hg, q⟩
      · exact absurd q h1
      · rw [q, nI_clamp (by omega)] at h2
        omega)
    (fun i hi c c' hc hc' h => by
      have := coB_mono (v := v) (S := S) (c := c') (c' := c) (i := i) (fun f hf => by
        have h1 := h f hf
        have h2 := hc f
        have h3 := hc' f
        omega)
      show 1000001 - coB v S c i ≤ 1000001 - coB v S c' i
      omega)
    (fun i hi c hc f hf => by
      have h1 := coS_ge (v := v) (c := c) hf
      have h2 := hc f
      show 1000001 - coB v S c i ≤ 1000001 - c f
      unfold coB
      split <;> omega)
    ⟨k, by
      have h1 := co_glIt (v := v) (S := S) (k + 1)
      have h2 := co_glIt (v := v) (S := S) k
      have h3 : itN (fun _ => glP (fun x => 1000001 - x) (fun i => S.2.2.1 i) (fun i c => coB v S c i) S.1) (coBase v) (k + 1) = itN (fun _ => glP (fun x => 1000001 - x) (fun i => S.2.2.1 i) (fun i c => coB v S c i) S.1) (coBase v) k := by
        rw [← h1, ← h2]
        show (coP v S (itN (fun _ c => (coP v S c).1) (coBase v) k)).1 = _
        have hk : c = itN (fun _ c => (coP v S c).1) (coBase v) k := hk
        rw [← hk]
        exact hfix
      exact h3⟩
  refine ⟨K, h1, ?_⟩
  rw [e K, co_glIt K]
  exact h2
/-! THE CLASS'S CHOICE -/
def chJ (v : Nat → Nat) (S : HoS) (c hs : Nat → Nat) (j : Nat) (ch : Nat → Int32) : Nat → Int32 := if ch (S.2.2.1 j) = -1 ∧ coB v S c j = c (S.2.2.1 j) then upd ch (S.2.2.1 j) (nI (hs j)) else ch
def chF (v : Nat → Nat) (S : HoS) (c hs : Nat → Nat) : Nat → Int32 := itN (chJ v S c hs) (fun _ => -1) S.1
/-- is the atom's least derivation a base fact -/
def isBv (v c : Nat → Nat) (ba : Nat → Int32) (a : Nat) : Bool := !decide (ba a = -1) && decide (v (9 + 3 * (ba a).toNatClampNeg + 1) = c a)
def zcV (v c : Nat → Nat) (ba : Nat → Int32) (a : Nat) : Nat := if isBv v c ba a = true then 1 else 0
def ucV (v c : Nat → Nat) (ba : Nat → Int32) (a : Nat) : Nat := if isBv v c ba a = true then 2 ^ (ba a).toNatClampNeg else 0
def krV (v c : Nat → Nat) (ba ch : Nat → Int32) (ru : Nat → Nat) (a : Nat) : Nat := if isBv v c ba a = false ∧ ch a ≠ -1 then ru (ch a).toNatClampNeg else 8
/-- the cheapest base facts -/
def BaOk (v : Nat → Nat) (ba : Nat → Int32) : Prop := ∀ f, ba f = -1 ∨ ∃ k, k < v 1 ∧ ba f = nI k ∧ v (9 + 3 * k) = f
theorem kb_ok (v : Nat → Nat) : ∀ n, n ≤ v 1 → BaOk v (itN (kbU v) (fun _ => 1000001, fun _ => -1) n).2
  | 0, _ => fun f => Or.inl rfl
  | n + 1, hn => by
    have ih := kb_ok v n (by omega)
    show BaOk v (kbU v n (itN (kbU v) (fun _ => 1000001, fun _ => -1) n)).2
    generalize itN (kbU v) (fun _ => 1000001, fun _ => -1) n = T at ih ⊢
    unfold kbU
    split
    · intro f
      by_cases e : f = v (9 + 3 * n)
      · exact Or.inr ⟨n, by omega, by show upd T.2 _ _ f = _; simp [upd, e], e.symm⟩
      · have := ih f
        show upd T.2 (v (9 + 3 * n)) (nI n) f = -1 ∨ ∃ k, k < v 1 ∧ upd T.2 (v (9 + 3 * n)) (nI n) f = nI k ∧ v (9 + 3 * k) = f
        simpa [upd, e] using this
    · exact ih
theorem ch_ok {v : Nat → Nat} {S : HoS} {c hs : Nat → Nat} : ∀ n, n ≤ S.1 → ∀ f, itN (chJ v S c hs) (fun _ => -1) n f = -1 ∨ ∃ j, j < S.1 ∧ itN (chJ v S c hs) (fun _ => -1) n f = nI (hs j)
  | 0, _, f => Or.inl rfl
  | n + 1, hn, f => by
    have ih := ch_ok (v := v) (S := S) (c := c) (hs := hs) n (by omega) f
    show chJ v S c hs n (itN (chJ v S c hs) (fun _ => -1) n) f = -1 ∨ ∃ j, j < S.1 ∧ chJ v S c hs n (itN (chJ v S c hs) (fun _ => -1) n) f = nI (hs j)
    generalize itN (chJ v S c hs) (fun _ => -1) n = T at ih ⊢
    unfold chJ
    split
    · by_cases e : f = S.2.2.1 n
      · exact Or.inr ⟨n, by omega, by simp [upd, e]⟩
      · simpa [upd, e] using ih
    · exact ih
abbrev kcL (c kr z u : Nat → Nat) (ba ch : Nat → Int32) : MLs := [(73, .inl (.int, 216, .inl (vI c))), (74, .inl (.int, 216, .inl (vI kr))), (75, .inl (.int, 216, .inl (vI z))), (76, .inl (.int, 216, .inl (vI u))), (77, .inl (.int, 216, .inl ba)), (78, .inl (.int, 216, .inl ch))]
set_option maxRecDepth 20000 in
theorem c_choose (d n : Nat) (P : PgS) (v c kr0 z0 u0 : Nat → Nat) (ba ch0 : Nat → Int32) (S : HoS) (tot : Nat) (hs oh : Nat → Nat) (g : GD) (h : Nat → MC) (hP : PgAt h 1 P) (hV : PgV P v) (hg : GrAt h g) (hG : GrOk v g) (hok : OkN v) (hS : HoOk v S) (hH : HdOk v S tot hs oh) (h72 : h 72 = KO) (h69 : h 69 = .inr (2, [.ref 70, .int (nI tot), .ref 71])) (h70 : h 70 = .inl (.int, 1728, .inl (vI hs))) (hcF : CoF c) (hba : BaOk v ba) : Fn M_X0_choose (d + 2) 0 0 [.ref 72, .ref 1, .ref 56, .ref 69] (mov (kcL c kr0 z0 u0 ba ch0) h) n none (mov (kcL c (krV v c ba (chF v S c hs) g.ru) (zcV v c ba) (ucV v c ba) ba (chF v S c hs)) h) := by
  refine Fn.of fun post hp => ?_
  have hP0 : h 1 = _ := hP.cell (i := 0) (by omega)
  have hP3 : h 4 = _ := hP.cell (i := 3) (by omega)
  have hf12 := hok.2.2.1
  obtain ⟨vc, vpl, vfc, vfa, vrc, vru⟩ := hV
  have hS1 := hS.1
  have htot := hH.1
  refine mw_aload_n (i := 0) rfl rfl rfl ?_
  refine mw_getfield rfl f_X0_27 (by first | rfl | exact rfl | exact hg.1 | exact hg.2.2.2.2.2.2.2.1 | exact hg.2.2.2.2.2.2.2.2.1 | exact h72 | exact h69 | exact h70 | exact hP0 | exact hP3) rfl ?_
  refine mw_iconst (v := (-1)) rfl (by decide) ?_
  refine mw_callS_f (c_fill (d + 1) n 78 216 ch0 (-1) _ rfl (by omega)) rfl ok_J7_fill_53178 v_X0_47 rfl (Nat.le_of_ble_eq_true rfl) rfl (Nat.le_of_ble_eq_true rfl) (by omega) (by omega) (by omega) ?_
  refine mw_tail (fun _ => -1) (hset_same _ _ _) (fun j hj => by unfold flr; rw [if_pos hj]) ?_
  rw [hset_hset, hset_mov]
  refine mw_iconst (v := nI 0) rfl (by decide) ?_
  refine mw_istore rfl (Nat.le_of_ble_eq_true rfl) ?_
  have hchall : ∀ f, chF v S c hs f = -1 ∨ ∃ j, j < S.1 ∧ chF v S c hs f = nI (hs j) := ch_ok (v := v) (c := c) (hs := hs) S.1 (Nat.le_refl _)
  have loopA : ∀ a, a ≤ 216 → ∀ x y : Int32, MW M_X0_choose (d + 2) 0 0 n post 84 [(0, .ref 72), (1, .ref 1), (2, .ref 56), (4, .int (nI a))] [] (mov (kcL c (cpU kr0 (krV v c ba (chF v S c hs) g.ru) a) (cpU z0 (zcV v c ba) a) (cpU u0 (ucV v c ba) a) ba (chF v S c hs)) h) n 0 := by
    refine loop_up 216 ?_ ?_
    · intro x y
      refine mw_iload rfl rfl ?_
      refine mw_sipush (v := nI 216) rfl (by decide) ?_
      refine mw_n_ge rfl (by omega) (by omega) (fun hc => ?_) (fun hc => ?_)
      · refine mw_tail (vI (krV v c ba (chF v S c hs) g.ru)) (K := 74) (N := 216) rfl (fun j hj => congrArg nI (cpU_in hj)) ?_
        rw [hset_mov]
        refine mw_tail (vI (zcV v c ba)) (K := 75) (N := 216) rfl (fun j hj => congrArg nI (cpU_in hj)) ?_
        rw [hset_mov]
        refine mw_tail (vI (ucV v c ba)) (K := 76) (N := 216) rfl (fun j hj => congrArg nI (cpU_in hj)) ?_
        rw [hset_mov]
        exact mw_return rfl rfl rfl (Nat.le_refl _) (hp)
      · omega
    · intro a ha ih x y
      have kS := cpU_s kr0 (krV v c ba (chF v S c hs) g.ru) a
      have zS := cpU_s z0 (zcV v c ba) a
      have uS := cpU_s u0 (ucV v c ba) a
      rw [← kS, ← zS, ← uS] at ih
      clear kS zS uS
      generalize cpU kr0 (krV v c ba (chF v S c hs) g.ru) a = kr at ih ⊢
      generalize cpU z0 (zcV v c ba) a = z at ih ⊢
      generalize cpU u0 (ucV v c ba) a = u at ih ⊢
      have hca := hcF a
      have fin : ∀ b : Bool, b = isBv v c ba a → ∀ k : Nat, (b = true → ba a = nI k ∧ k < 12) → ∀ x : Int32, (b = true → x = nI k) → MW M_X0_choose (d + 2) 0 0 n post 129 [(0, .ref 72), (1, .ref 1), (2, .ref 56), (4, .int (nI a)), (5, .int x)] [.int (bI b)] (mov (kcL c kr z u ba (chF v S c hs)) h) n 0 := by
        intro b hb k hk x hx
        have e2 : ∀ r' : Nat, updN (updN kr a 8) a r' = updN kr a r' := fun r' => updN_2 kr a 8 r'
        cases b
        · have hz : zcV v c ba a = 0 := by unfold zcV; rw [← hb]; rfl
          have hu : ucV v c ba a = 0 := by unfold ucV; rw [← hb]; rfl
          rw [hz, hu] at ih
          refine mw_istore rfl (Nat.le_of_ble_eq_true rfl) ?_
          refine mw_aload_n (i := 0) rfl rfl rfl ?_
          refine mw_getfield rfl f_X0_15 (by first | rfl | exact rfl | exact hg.1 | exact hg.2.2.2.2.2.2.2.1 | exact hg.2.2.2.2.2.2.2.2.1 | exact h72 | exact h69 | exact h70 | exact hP0 | exact hP3) rfl ?_
          refine mw_iload rfl rfl ?_
          refine mw_bipush (v := nI 8) rfl (by decide) ?_
          refine mw_iast_m rfl (by first | rfl | exact rfl | exact hg.1 | exact hg.2.2.2.2.2.2.2.1 | exact hg.2.2.2.2.2.2.2.2.1 | exact h72 | exact h69 | exact h70 | exact hP0 | exact hP3) (by omega) (by omega) ?_
          first | rw [vI_upd] | rw [vI_updv] | skip
          refine mw_aload_n (i := 0) rfl rfl rfl ?_
          refine mw_getfield rfl f_X0_18 (by first | rfl | exact rfl | exact hg.1 | exact hg.2.2.2.2.2.2.2.1 | exact hg.2.2.2.2.2.2.2.2.1 | exact h72 | exact h69 | exact h70 | exact hP0 | exact hP3) rfl ?_
          refine mw_iload rfl rfl ?_
          refine mw_iload rfl rfl ?_
          refine mw_b_eq rfl (fun hq => ?_) (fun hq => ?_)
          · refine mw_iconst (v := nI 0) rfl (by decide) ?_
            refine mw_iast_m rfl (by first | rfl | exact rfl | exact hg.1 | exact hg.2.2.2.2.2.2.2.1 | exact hg.2.2.2.2.2.2.2.2.1 | exact h72 | exact h69 | exact h70 | exact hP0 | exact hP3) (by omega) (by omega) ?_
            first | rw [vI_upd] | rw [vI_updv] | skip
            refine mw_aload_n (i := 0) rfl rfl rfl ?_
            refine mw_getfield rfl f_X0_21 (by first | rfl | exact rfl | exact hg.1 | exact hg.2.2.2.2.2.2.2.1 | exact hg.2.2.2.2.2.2.2.2.1 | exact h72 | exact h69 | exact h70 | exact hP0 | exact hP3) rfl ?_
            refine mw_iload rfl rfl ?_
            refine mw_iload rfl rfl ?_
            refine mw_b_eq rfl (fun hq => ?_) (fun hq => ?_)
            · refine mw_iconst (v := nI 0) rfl (by decide) ?_
              refine mw_iast_m rfl (by first | rfl | exact rfl | exact hg.1 | exact hg.2.2.2.2.2.2.2.1 | exact hg.2.2.2.2.2.2.2.2.1 | exact h72 | exact h69 | exact h70 | exact hP0 | exact hP3) (by omega) (by omega) ?_
              first | rw [vI_upd] | rw [vI_updv] | skip
              refine mw_iload rfl rfl ?_
              refine mw_b_ne rfl (fun hq => ?_) (fun hq => ?_)
              · cases hq
              · refine mw_aload_n (i := 0) rfl rfl rfl ?_
                refine mw_getfield rfl f_X0_27 (by first | rfl | exact rfl | exact hg.1 | exact hg.2.2.2.2.2.2.2.1 | exact hg.2.2.2.2.2.2.2.2.1 | exact h72 | exact h69 | exact h70 | exact hP0 | exact hP3) rfl ?_
                refine mw_iload rfl rfl ?_
                refine mw_iald rfl (by first | rfl | exact rfl | exact hg.1 | exact hg.2.2.2.2.2.2.2.1 | exact hg.2.2.2.2.2.2.2.2.1 | exact h72 | exact h69 | exact h70 | exact hP0 | exact hP3) (by omega) (by omega) ?_
                refine mw_iconst (v := (-1)) rfl (by decide) ?_
                have hr : krV v c ba (chF v S c hs) g.ru a = if chF v S c hs a ≠ -1 then g.ru (chF v S c hs a).toNatClampNeg else 8 := by
                  unfold krV
                  rw [← hb]
                  by_cases q : chF v S c hs a = -1
                  · rw [if_neg (fun w => w.2 q), if_neg (fun w => w q)]
                  · rw [if_pos ⟨rfl, q⟩, if_pos q]
                rw [hr] at ih
                rcases hchall a with q | ⟨j, hj, q⟩
                · rw [if_neg (fun w => w q)] at ih
                  refine mw_icmp_eq rfl (fun hq2 => ?_) (fun hq2 => ?_)
                  · first | refine mw_ninc rfl rfl (Nat.le_of_ble_eq_true rfl) ?_ | refine mw_iinc rfl rfl rfl (Nat.le_of_ble_eq_true rfl) ?_
                    refine mw_goto rfl ?_
                    exact mw_locals rfl (mw_heap rfl (ih 0 0))
                  · exact absurd q hq2
                · obtain ⟨a1, a2, a3, a4, a5, -⟩ := hH.at hok hG hj
                  have q1 : chF v S c hs a ≠ -1 := by rw [q]; exact nI_nm1 (by omega)
                  rw [if_pos q1, q, nI_clamp (by omega)] at ih
                  refine mw_icmp_eq rfl (fun hq2 => ?_) (fun hq2 => ?_)
                  · exact absurd hq2 q1
                  · refine mw_aload_n (i := 0) rfl rfl rfl ?_
                    refine mw_getfield rfl f_X0_15 (by first | rfl | exact rfl | exact hg.1 | exact hg.2.2.2.2.2.2.2.1 | exact hg.2.2.2.2.2.2.2.2.1 | exact h72 | exact h69 | exact h70 | exact hP0 | exact hP3) rfl ?_
                    refine mw_iload rfl rfl ?_
                    refine mw_aload_n (i := 2) rfl rfl rfl ?_
                    refine mw_getfield rfl f_X0_82 (by first | rfl | exact rfl | exact hg.1 | exact hg.2.2.2.2.2.2.2.1 | exact hg.2.2.2.2.2.2.2.2.1 | exact h72 | exact h69 | exact h70 | exact hP0 | exact hP3) rfl ?_
                    refine mw_aload_n (i := 0) rfl rfl rfl ?_
                    refine mw_getfield rfl f_X0_27 (by first | rfl | exact rfl | exact hg.1 | exact hg.2.2.2.2.2.2.2.1 | exact hg.2.2.2.2.2.2.2.2.1 | exact h72 | exact h69 | exact h70 | exact hP0 | exact hP3) rfl ?_
                    refine mw_iload rfl rfl ?_
                    refine mw_iald_v rfl (by first | rfl | exact rfl | exact hg.1 | exact hg.2.2.2.2.2.2.2.1 | exact hg.2.2.2.2.2.2.2.2.1 | exact h72 | exact h69 | exact h70 | exact hP0 | exact hP3) (by omega) (by omega) q ?_
                    refine mw_iald rfl (by first | rfl | exact rfl | exact hg.1 | exact hg.2.2.2.2.2.2.2.1 | exact hg.2.2.2.2.2.2.2.2.1 | exact h72 | exact h69 | exact h70 | exact hP0 | exact hP3) (by omega) (by omega) ?_
                    refine mw_iast_m rfl (by first | rfl | exact rfl | exact hg.1 | exact hg.2.2.2.2.2.2.2.1 | exact hg.2.2.2.2.2.2.2.2.1 | exact h72 | exact h69 | exact h70 | exact hP0 | exact hP3) (by omega) (by omega) ?_
                    first | rw [vI_upd] | rw [vI_updv] | skip
                    first | refine mw_ninc rfl rfl (Nat.le_of_ble_eq_true rfl) ?_ | refine mw_iinc rfl rfl rfl (Nat.le_of_ble_eq_true rfl) ?_
                    refine mw_goto rfl ?_
                    refine mw_locals rfl (mw_heap ?_ (ih 0 0))
                    rw [← e2 (g.ru (hs j))]
                    rfl
            · cases hq
          · cases hq
        · obtain ⟨q1, q2⟩ := hk rfl
          have hz : zcV v c ba a = 1 := by unfold zcV; rw [← hb]; rfl
          have hu : ucV v c ba a = 2 ^ k := by unfold ucV; rw [← hb, if_pos rfl, q1, nI_clamp (by omega)]
          have hr : krV v c ba (chF v S c hs) g.ru a = 8 := by unfold krV; rw [← hb]; exact if_neg (fun w => by cases w.1)
          rw [hz, hu, hr] at ih
          have hpow : 1 * 2 ^ k < 2 ^ 32 := by
            have : 2 ^ k ≤ 2 ^ 12 := Nat.pow_le_pow_right (by omega) (by omega)
            omega
          rw [hx rfl]
          refine mw_istore rfl (Nat.le_of_ble_eq_true rfl) ?_
          refine mw_aload_n (i := 0) rfl rfl rfl ?_
          refine mw_getfield rfl f_X0_15 (by first | rfl | exact rfl | exact hg.1 | exact hg.2.2.2.2.2.2.2.1 | exact hg.2.2.2.2.2.2.2.2.1 | exact h72 | exact h69 | exact h70 | exact hP0 | exact hP3) rfl ?_
          refine mw_iload rfl rfl ?_
          refine mw_bipush (v := nI 8) rfl (by decide) ?_
          refine mw_iast_m rfl (by first | rfl | exact rfl | exact hg.1 | exact hg.2.2.2.2.2.2.2.1 | exact hg.2.2.2.2.2.2.2.2.1 | exact h72 | exact h69 | exact h70 | exact hP0 | exact hP3) (by omega) (by omega) ?_
          first | rw [vI_upd] | rw [vI_updv] | skip
          refine mw_aload_n (i := 0) rfl rfl rfl ?_
          refine mw_getfield rfl f_X0_18 (by first | rfl | exact rfl | exact hg.1 | exact hg.2.2.2.2.2.2.2.1 | exact hg.2.2.2.2.2.2.2.2.1 | exact h72 | exact h69 | exact h70 | exact hP0 | exact hP3) rfl ?_
          refine mw_iload rfl rfl ?_
          refine mw_iload rfl rfl ?_
          refine mw_b_eq rfl (fun hq => ?_) (fun hq => ?_)
          · cases hq
          · refine mw_iconst (v := nI 1) rfl (by decide) ?_
            refine mw_goto rfl ?_
            refine mw_iast_m rfl (by first | rfl | exact rfl | exact hg.1 | exact hg.2.2.2.2.2.2.2.1 | exact hg.2.2.2.2.2.2.2.2.1 | exact h72 | exact h69 | exact h70 | exact hP0 | exact hP3) (by omega) (by omega) ?_
            first | rw [vI_upd] | rw [vI_updv] | skip
            refine mw_aload_n (i := 0) rfl rfl rfl ?_
            refine mw_getfield rfl f_X0_21 (by first | rfl | exact rfl | exact hg.1 | exact hg.2.2.2.2.2.2.2.1 | exact hg.2.2.2.2.2.2.2.2.1 | exact h72 | exact h69 | exact h70 | exact hP0 | exact hP3) rfl ?_
            refine mw_iload rfl rfl ?_
            refine mw_iload rfl rfl ?_
            refine mw_b_eq rfl (fun hq => ?_) (fun hq => ?_)
            · cases hq
            · refine mw_iconst (v := nI 1) rfl (by decide) ?_
              refine mw_iload rfl rfl ?_
              refine mw_ishl rfl ?_
              rw [shlN (a := 1) (by omega) hpow, Nat.one_mul]
              refine mw_goto rfl ?_
              refine mw_iast_m rfl (by first | rfl | exact rfl | exact hg.1 | exact hg.2.2.2.2.2.2.2.1 | exact hg.2.2.2.2.2.2.2.2.1 | exact h72 | exact h69 | exact h70 | exact hP0 | exact hP3) (by omega) (by omega) ?_
              first | rw [vI_upd] | rw [vI_updv] | skip
              refine mw_iload rfl rfl ?_
              refine mw_b_ne rfl (fun hq => ?_) (fun hq => ?_)
              · first | refine mw_ninc rfl rfl (Nat.le_of_ble_eq_true rfl) ?_ | refine mw_iinc rfl rfl rfl (Nat.le_of_ble_eq_true rfl) ?_
                refine mw_goto rfl ?_
                exact mw_locals rfl (mw_heap rfl (ih 0 0))
              · cases hq
      refine mw_iload rfl rfl ?_
      refine mw_sipush (v := nI 216) rfl (by decide) ?_
      refine mw_n_ge rfl (by omega) (by omega) (fun hc => ?_) (fun hc => ?_)
      · omega
      · refine mw_aload_n (i := 0) rfl rfl rfl ?_
        refine mw_getfield rfl f_X0_24 (by first | rfl | exact rfl | exact hg.1 | exact hg.2.2.2.2.2.2.2.1 | exact hg.2.2.2.2.2.2.2.2.1 | exact h72 | exact h69 | exact h70 | exact hP0 | exact hP3) rfl ?_
        refine mw_iload rfl rfl ?_
        refine mw_iald rfl (by first | rfl | exact rfl | exact hg.1 | exact hg.2.2.2.2.2.2.2.1 | exact hg.2.2.2.2.2.2.2.2.1 | exact h72 | exact h69 | exact h70 | exact hP0 | exact hP3) (by omega) (by omega) ?_
        refine mw_istore rfl (Nat.le_of_ble_eq_true rfl) ?_
        refine mw_iload rfl rfl ?_
        refine mw_iconst (v := (-1)) rfl (by decide) ?_
        rcases hba a with q | ⟨k, hk, q, q3⟩
        · refine mw_icmp_eq rfl (fun hq => ?_) (fun hq => ?_)
          · refine mw_iconst (v := nI 0) rfl (by decide) ?_
            exact mw_locals rfl (fin false (by unfold isBv; rw [q]; rfl) 0 (fun w => by cases w) _ (fun w => by cases w))
          · exact absurd q hq
        · rw [q]
          refine mw_icmp_eq rfl (fun hq => ?_) (fun hq => ?_)
          · exact absurd hq (nI_nm1 (by omega))
          · obtain ⟨g1, g2, g3⟩ := vfa k hk
            obtain ⟨w1, w2, -⟩ := hok.2.2.2.2.2.1 k hk
            have e2 : vI P.fo k = nI (v (9 + 3 * k + 1)) := congrArg nI g2
            refine mw_aload_n (i := 1) rfl rfl rfl ?_
            refine mw_getfield rfl f_X0_62 (by first | rfl | exact rfl | exact hg.1 | exact hg.2.2.2.2.2.2.2.1 | exact hg.2.2.2.2.2.2.2.2.1 | exact h72 | exact h69 | exact h70 | exact hP0 | exact hP3) rfl ?_
            refine mw_iload rfl rfl ?_
            refine mw_iald_v rfl (by first | rfl | exact rfl | exact hg.1 | exact hg.2.2.2.2.2.2.2.1 | exact hg.2.2.2.2.2.2.2.2.1 | exact h72 | exact h69 | exact h70 | exact hP0 | exact hP3) (by omega) (by omega) e2 ?_
            refine mw_aload_n (i := 0) rfl rfl rfl ?_
            refine mw_getfield rfl f_X0_9 (by first | rfl | exact rfl | exact hg.1 | exact hg.2.2.2.2.2.2.2.1 | exact hg.2.2.2.2.2.2.2.2.1 | exact h72 | exact h69 | exact h70 | exact hP0 | exact hP3) rfl ?_
            refine mw_iload rfl rfl ?_
            refine mw_iald rfl (by first | rfl | exact rfl | exact hg.1 | exact hg.2.2.2.2.2.2.2.1 | exact hg.2.2.2.2.2.2.2.2.1 | exact h72 | exact h69 | exact h70 | exact hP0 | exact hP3) (by omega) (by omega) ?_
            show MW _ _ _ _ _ _ _ _ (.int (nI (c a)) :: .int (nI (v (9 + 3 * k + 1))) :: []) _ _ _
            have hbb : isBv v c ba a = decide (v (9 + 3 * k + 1) = c a) := by
              unfold isBv
              rw [q, decide_eq_false (nI_nm1 (by omega)), nI_clamp (by omega)]
              rfl
            refine mw_n_ne rfl (by omega) (by omega) (fun he => ?_) (fun he => ?_)
            · refine mw_iconst (v := nI 0) rfl (by decide) ?_
              exact mw_locals rfl (fin false (by rw [hbb, decide_eq_false he]) 0 (fun w => by cases w) _ (fun w => by cases w))
            · refine mw_iconst (v := nI 1) rfl (by decide) ?_
              refine mw_goto rfl ?_
              exact mw_locals rfl (fin true (by rw [hbb, decide_eq_true he]) k (fun _ => ⟨q, by omega⟩) _ (fun _ => rfl))
  have loop : ∀ j, j ≤ S.1 → ∀ x y : Int32, MW M_X0_choose (d + 2) 0 0 n post 11 [(0, .ref 72), (1, .ref 1), (2, .ref 56), (3, .ref 69), (4, .int (nI j))] [] (mov (kcL c kr0 z0 u0 ba (itN (chJ v S c hs) (fun _ => -1) j)) h) n 0 := by
    refine loop_up S.1 ?_ ?_
    · intro x y
      refine mw_iload rfl rfl ?_
      refine mw_aload_n (i := 3) rfl rfl rfl ?_
      refine mw_getfield rfl f_X0_65 (by first | rfl | exact rfl | exact hg.1 | exact hg.2.2.2.2.2.2.2.1 | exact hg.2.2.2.2.2.2.2.2.1 | exact h72 | exact h69 | exact h70 | exact hP0 | exact hP3) rfl ?_
      rw [htot]
      refine mw_n_ge rfl (by omega) (by omega) (fun hc => ?_) (fun hc => ?_)
      · refine mw_iconst (v := nI 0) rfl (by decide) ?_
        refine mw_istore rfl (Nat.le_of_ble_eq_true rfl) ?_
        refine mw_locals rfl (mw_heap ?_ (loopA 0 (Nat.zero_le _) 0 0))
        rw [cpU_0, cpU_0, cpU_0]
        rfl
      · omega
    · intro j hj ih x y
      obtain ⟨a1, a2, a3, a4, a5, -⟩ := hH.at hok hG hj
      have e1 : vI g.hd (hs j) = nI (S.2.2.1 j) := congrArg nI a5
      have hcf := hcF (S.2.2.1 j)
      have hcb := coB_le v S c j
      have eS : itN (chJ v S c hs) (fun _ => (-1 : Int32)) (j + 1) = chJ v S c hs j (itN (chJ v S c hs) (fun _ => (-1 : Int32)) j) := rfl
      rw [eS] at ih
      generalize itN (chJ v S c hs) (fun _ => (-1 : Int32)) j = T at ih ⊢
      unfold chJ at ih
      refine mw_iload rfl rfl ?_
      refine mw_aload_n (i := 3) rfl rfl rfl ?_
      refine mw_getfield rfl f_X0_65 (by first | rfl | exact rfl | exact hg.1 | exact hg.2.2.2.2.2.2.2.1 | exact hg.2.2.2.2.2.2.2.2.1 | exact h72 | exact h69 | exact h70 | exact hP0 | exact hP3) rfl ?_
      rw [htot]
      refine mw_n_ge rfl (by omega) (by omega) (fun hc => ?_) (fun hc => ?_)
      · omega
      · refine mw_aload_n (i := 3) rfl rfl rfl ?_
        refine mw_getfield rfl f_X0_70 (by first | rfl | exact rfl | exact hg.1 | exact hg.2.2.2.2.2.2.2.1 | exact hg.2.2.2.2.2.2.2.2.1 | exact h72 | exact h69 | exact h70 | exact hP0 | exact hP3) rfl ?_
        refine mw_iload rfl rfl ?_
        refine mw_iald_v rfl (by first | rfl | exact rfl | exact hg.1 | exact hg.2.2.2.2.2.2.2.1 | exact hg.2.2.2.2.2.2.2.2.1 | exact h72 | exact h69 | exact h70 | exact hP0 | exact hP3) (by omega) (by omega) (show vI hs j = nI (hs j) from rfl) ?_
        refine mw_istore rfl (Nat.le_of_ble_eq_true rfl) ?_
        refine mw_aload_n (i := 2) rfl rfl rfl ?_
        refine mw_getfield rfl f_X0_73 (by first | rfl | exact rfl | exact hg.1 | exact hg.2.2.2.2.2.2.2.1 | exact hg.2.2.2.2.2.2.2.2.1 | exact h72 | exact h69 | exact h70 | exact hP0 | exact hP3) rfl ?_
        refine mw_iload rfl rfl ?_
        refine mw_iald_v rfl (by first | rfl | exact rfl | exact hg.1 | exact hg.2.2.2.2.2.2.2.1 | exact hg.2.2.2.2.2.2.2.2.1 | exact h72 | exact h69 | exact h70 | exact hP0 | exact hP3) (by omega) (by omega) e1 ?_
        refine mw_istore rfl (Nat.le_of_ble_eq_true rfl) ?_
        refine mw_aload_n (i := 0) rfl rfl rfl ?_
        refine mw_getfield rfl f_X0_27 (by first | rfl | exact rfl | exact hg.1 | exact hg.2.2.2.2.2.2.2.1 | exact hg.2.2.2.2.2.2.2.2.1 | exact h72 | exact h69 | exact h70 | exact hP0 | exact hP3) rfl ?_
        refine mw_iload rfl rfl ?_
        refine mw_iald rfl (by first | rfl | exact rfl | exact hg.1 | exact hg.2.2.2.2.2.2.2.1 | exact hg.2.2.2.2.2.2.2.2.1 | exact h72 | exact h69 | exact h70 | exact hP0 | exact hP3) (by omega) (by omega) ?_
        refine mw_iconst (v := (-1)) rfl (by decide) ?_
        refine mw_icmp_ne rfl (fun hn => ?_) (fun hn => ?_)
        · rw [if_neg (fun q => hn q.1)] at ih
          first | refine mw_ninc rfl rfl (Nat.le_of_ble_eq_true rfl) ?_ | refine mw_iinc rfl rfl rfl (Nat.le_of_ble_eq_true rfl) ?_
          refine mw_goto rfl ?_
          exact mw_locals rfl (ih 0 0)
        · refine mw_aload_n (i := 0) rfl rfl rfl ?_
          refine mw_aload_n (i := 2) rfl rfl rfl ?_
          refine mw_iload rfl rfl ?_
          refine mw_callV_f (c_kcostBy d n j v c S tot hs oh g _ hg hG hok hH hj h72 rfl (fun f _ => hcF f)) rfl ok_X0_costBy v_X0_78 rfl (by first | rfl | exact rfl | exact hg.1 | exact hg.2.2.2.2.2.2.2.1 | exact hg.2.2.2.2.2.2.2.2.1 | exact h72 | exact h69 | exact h70 | exact hP0 | exact hP3) (by intro e; cases e) rfl (Nat.le_of_ble_eq_true rfl) rfl (Nat.le_of_ble_eq_true rfl) (by omega) (by omega) (by omega) ?_
          refine mw_aload_n (i := 0) rfl rfl rfl ?_
          refine mw_getfield rfl f_X0_9 (by first | rfl | exact rfl | exact hg.1 | exact hg.2.2.2.2.2.2.2.1 | exact hg.2.2.2.2.2.2.2.2.1 | exact h72 | exact h69 | exact h70 | exact hP0 | exact hP3) rfl ?_
          refine mw_iload rfl rfl ?_
          refine mw_iald rfl (by first | rfl | exact rfl | exact hg.1 | exact hg.2.2.2.2.2.2.2.1 | exact hg.2.2.2.2.2.2.2.2.1 | exact h72 | exact h69 | exact h70 | exact hP0 | exact hP3) (by omega) (by omega) ?_
          show MW _ _ _ _ _ _ _ _ (.int (nI (c (S.2.2.1 j))) :: .int (nI (coB v S c j)) :: []) _ _ _
          refine mw_n_ne rfl (by omega) (by omega) (fun he => ?_) (fun he => ?_)
          · rw [if_neg (fun q => he q.2)] at ih
            first | refine mw_ninc rfl rfl (Nat.le_of_ble_eq_true rfl) ?_ | refine mw_iinc rfl rfl rfl (Nat.le_of_ble_eq_true rfl) ?_
            refine mw_goto rfl ?_
            exact mw_locals rfl (ih 0 0)
          · rw [if_pos ⟨hn, he⟩] at ih
            refine mw_aload_n (i := 0) rfl rfl rfl ?_
            refine mw_getfield rfl f_X0_27 (by first | rfl | exact rfl | exact hg.1 | exact hg.2.2.2.2.2.2.2.1 | exact hg.2.2.2.2.2.2.2.2.1 | exact h72 | exact h69 | exact h70 | exact hP0 | exact hP3) rfl ?_
            refine mw_iload rfl rfl ?_
            refine mw_iload rfl rfl ?_
            refine mw_iast_m rfl (by first | rfl | exact rfl | exact hg.1 | exact hg.2.2.2.2.2.2.2.1 | exact hg.2.2.2.2.2.2.2.2.1 | exact h72 | exact h69 | exact h70 | exact hP0 | exact hP3) (by omega) (by omega) ?_
            first | rw [vI_upd] | rw [vI_updv] | skip
            first | refine mw_ninc rfl rfl (Nat.le_of_ble_eq_true rfl) ?_ | refine mw_iinc rfl rfl rfl (Nat.le_of_ble_eq_true rfl) ?_
            refine mw_goto rfl ?_
            exact mw_locals rfl (mw_heap rfl (ih 0 0))
  exact mw_locals rfl (mw_heap rfl (loop 0 (Nat.zero_le _) 0 0))
