/-! THE CLASS'S COSTS: compute -/
theorem zer_le (z : Nat → Nat) : ∀ n, zer z n ≤ n
  | 0 => Nat.le_refl _
  | n + 1 => by
    have := zer_le z n
    simp only [zer]
    split <;> omega
theorem lsG_1 {S : HoS} {f : Nat} {p : LeS × Bool} : (lsG S f p).1.1 = p.1.1 := by
  unfold lsG
  split <;> rfl
theorem lsP_1 {S : HoS} {N : Nat} {L : LeS} : (lsP S N L).1.1 = L.1 := by
  have : ∀ n, (itN (lsG S) (L, false) n).1.1 = L.1 := by
    intro n
    induction n with
    | zero => rfl
    | succ n ih => exact lsG_1.trans ih
  exact this N
theorem lsPs_1 {S : HoS} {N : Nat} {L : LeS} : ∀ k, (itN (fun _ L => (lsP S N L).1) L k).1 = L.1
  | 0 => rfl
  | k + 1 => lsP_1.trans (lsPs_1 k)
theorem lsP_zer {S : HoS} {N : Nat} {L : LeS} : ∀ k, (∀ i, i < k → (lsP S N (itN (fun _ L => (lsP S N L).1) L i)).2 = true) → zer (itN (fun _ L => (lsP S N L).1) L k).2.1 N + k ≤ zer L.2.1 N
  | 0, _ => Nat.le_refl _
  | k + 1, h => by
    have ih := lsP_zer k (fun i hi => h i (by omega))
    have h1 := (lsP_flag S N (itN (fun _ L => (lsP S N L).1) L k)).1 (h k (by omega))
    show zer (lsP S N (itN (fun _ L => (lsP S N L).1) L k)).1.2.1 N + (k + 1) ≤ _
    omega
/-- costs and least derivations are what they should be -/
def KcOk (v : Nat → Nat) (S : HoS) (c kr z u : Nat → Nat) : Prop := IsLim (fun c => (coP v S c).1) (coBase v) c ∧ ∀ (lb : Nat → Nat) (F : LeS) (N : Nat), N = 216 → IsLim (fun L => (lsP S N L).1) (ls2 v S c lb) F → (∀ f, f < 216 → z f = F.2.1 f ∧ u f = F.2.2.1 f) ∧ LKr c kr F
set_option maxRecDepth 20000 in
theorem c_kcompute (d n : Nat) (P : PgS) (v c0 kr0 z0 u0 : Nat → Nat) (ba0 ch0 : Nat → Int32) (S : HoS) (tot : Nat) (hs oh : Nat → Nat) (g : GD) (h : Nat → MC) (hP : PgAt h 1 P) (hV : PgV P v) (hg : GrAt h g) (hG : GrOk v g) (hok : OkN v) (hS : HoOk v S) (hH : HdOk v S tot hs oh) (h72 : h 72 = KO) (h69 : h 69 = .inr (2, [.ref 70, .int (nI tot), .ref 71])) (h70 : h 70 = .inl (.int, 1728, .inl (vI hs))) :
    Sp M_X0_compute (d + 3) 0 0 [.ref 72, .ref 1, .ref 56, .ref 69] (mov (kcL c0 kr0 z0 u0 ba0 ch0) h) n (fun r h1 => r = none ∧ ∃ (c kr z u : Nat → Nat) (ba ch : Nat → Int32), h1 = mov (kcL c kr z u ba ch) h ∧ KcOk v S c kr z u) := by
  show MW _ _ _ _ _ _ _ _ _ _ _ _
  generalize hpost : (fun (r : Option Value) (h1 : Nat → MC) => r = none ∧ ∃ (c kr z u : Nat → Nat) (ba ch : Nat → Int32), h1 = mov (kcL c kr z u ba ch) h ∧ KcOk v S c kr z u) = post
  have hp : ∀ (c kr z u : Nat → Nat) (ba ch : Nat → Int32), KcOk v S c kr z u → post none (mov (kcL c kr z u ba ch) h) := by
    intro c kr z u ba ch h1
    rw [← hpost]
    exact ⟨rfl, c, kr, z, u, ba, ch, rfl, h1⟩
  clear hpost
  obtain ⟨N, hN⟩ : ∃ N : Nat, N = 216 := ⟨_, rfl⟩
  have rest : ∀ c : Nat → Nat, IsLim (fun c => (coP v S c).1) (coBase v) c → MW M_X0_compute (d + 3) 0 0 n post 38 [(0, .ref 72), (1, .ref 1), (2, .ref 56), (3, .ref 69)] [] (mov (kcL c kr0 z0 u0 (kbF v).2 ch0) h) n 0 := by
    intro c hc
    have hF := coLim_F hc
    obtain ⟨s1, s2, s3⟩ := LK_start hok hG hS hH hc (fun _ => 0)
    have hI0 := ls2_I v S c (fun _ => 0)
    have hE := fun lb => ls2_E hok hS c (fun _ => 0) lb
    refine mw_aload_n (i := 0) rfl rfl rfl ?_
    refine mw_aload_n (i := 1) rfl rfl rfl ?_
    refine mw_aload_n (i := 2) rfl rfl rfl ?_
    refine mw_aload_n (i := 3) rfl rfl rfl ?_
    refine mw_callV_f (c_choose d n P v c kr0 z0 u0 (kbF v).2 ch0 S tot hs oh g h hP hV hg hG hok hS hH h72 h69 h70 hF (kb_ok v (v 1) (Nat.le_refl _))) rfl ok_X0_choose v_X0_38 rfl (by first | rfl | exact rfl | exact h72) (by intro e; cases e) rfl (Nat.le_of_ble_eq_true rfl) rfl (Nat.le_of_ble_eq_true rfl) (by omega) (by omega) (by omega) ?_
    have hchall : ∀ f, chF v S c hs f = -1 ∨ ∃ j, j < S.1 ∧ chF v S c hs f = nI (hs j) := ch_ok (v := v) (c := c) (hs := hs) S.1 (Nat.le_refl _)
    generalize krV v c (kbF v).2 (chF v S c hs) g.ru = kr at s2 s3 ⊢
    generalize chF v S c hs = ch at s2 hchall ⊢
    generalize zcV v c (kbF v).2 = z1 at s1 ⊢
    generalize ucV v c (kbF v).2 = u1 at s1 ⊢
    generalize hL0 : ls2 v S c (fun _ => 0) = L0 at s1 s2 s3 hI0 hE
    refine mw_iconst (v := nI 1) rfl (by decide) ?_
    refine mw_istore rfl (Nat.le_of_ble_eq_true rfl) ?_
    refine mw_iconst (v := nI 0) rfl (by decide) ?_
    refine mw_istore rfl (Nat.le_of_ble_eq_true rfl) ?_
    have done : ∀ (k : Nat) (z u : Nat → Nat), (lsP S N (itN (fun _ L => (lsP S N L).1) L0 k)).2 = false → LKz (itN (fun _ L => (lsP S N L).1) L0 k) z u → MW M_X0_compute (d + 3) 0 0 n post 77 [(0, .ref 72)] [] (mov (kcL c kr z u (kbF v).2 ch) h) n 0 := by
      intro k z u hfl hzu
      have hfix := (lsP_flag S N (itN (fun _ L => (lsP S N L).1) L0 k)).2 hfl
      have h1 := lsPs_1 (S := S) (N := N) (L := L0) k
      have hK : KcOk v S c kr z u := ⟨hc, fun lb F N' hN' hlim => by
        obtain rfl : N' = N := hN'.trans hN.symm
        have hl0 : IsLim (fun L => (lsP S N' L).1) L0 (itN (fun _ L => (lsP S N' L).1) L0 k) := ⟨k, rfl, hfix⟩
        have hEE := lim_E (hE lb) hl0 hlim
        refine ⟨fun f hf => ?_, fun f hf => ?_⟩
        · obtain ⟨e1, e2, e3, -⟩ := hEE f
          obtain ⟨g1, g2⟩ := hzu f hf
          exact ⟨g1.trans e2, g2.trans e3⟩
        · obtain ⟨e1, -⟩ := hEE f
          rw [← e1, h1]
          exact s3 f hf⟩
      exact mw_return rfl rfl rfl (Nat.le_refl _) ((hp c kr z u (kbF v).2 ch hK))
    have loop : ∀ k, k ≤ 218 → (∀ i, i < k → (lsP S N (itN (fun _ L => (lsP S N L).1) L0 i)).2 = true) → ∀ z u : Nat → Nat, LKz (itN (fun _ L => (lsP S N L).1) L0 k) z u → LKc S c hs ch kr (itN (fun _ L => (lsP S N L).1) L0 k) → LeI v S c (itN (fun _ L => (lsP S N L).1) L0 k) → MW M_X0_compute (d + 3) 0 0 n post 51 [(0, .ref 72), (2, .ref 56), (5, .int (bI true)), (6, .int (nI k))] [] (mov (kcL c kr z u (kbF v).2 ch) h) n 0 := by
      refine loop_up 218 ?_ ?_
      · intro hj z u g1 g2 g3
        have h1 := lsP_zer 218 hj
        have h2 := zer_le L0.2.1 N
        omega
      · intro k hk ih hj z u g1 g2 g3
        refine mw_iload rfl rfl ?_
        refine mw_b_eq rfl (fun hz => ?_) (fun hz => ?_)
        · cases hz
        · refine mw_iload rfl rfl ?_
          refine mw_sipush (v := nI 218) rfl (by decide) ?_
          refine mw_n_ge rfl (by omega) (by omega) (fun hc => ?_) (fun hc => ?_)
          · omega
          · refine mw_aload_n (i := 0) rfl rfl rfl ?_
            refine mw_aload_n (i := 2) rfl rfl rfl ?_
            refine mw_callV (c_grow (d + 1) n v c kr z u (kbF v).2 ch (itN (fun _ L => (lsP S N L).1) L0 k) N hN S tot hs oh g h hg hG hok hS hH h72 hF g3 g1 g2 hchall) rfl ok_X0_grow v_X0_42 rfl (by first | rfl | exact rfl | exact h72) (by intro e; cases e) rfl (Nat.le_of_ble_eq_true rfl) rfl (Nat.le_of_ble_eq_true rfl) (by omega) (by omega) (by omega) ?_
            intro r2 h2 hq2
            obtain ⟨rfl, z', u', rfl, g1', g2'⟩ := hq2
            have g3' := lsP_I hok hS hN g3
            cases hfl : (lsP S N (itN (fun _ L => (lsP S N L).1) L0 k)).2
            · refine mw_istore rfl (Nat.le_of_ble_eq_true rfl) ?_
              first | refine mw_ninc rfl rfl (Nat.le_of_ble_eq_true rfl) ?_ | refine mw_iinc rfl rfl rfl (Nat.le_of_ble_eq_true rfl) ?_
              refine mw_goto rfl ?_
              have hfix := (lsP_flag S N (itN (fun _ L => (lsP S N L).1) L0 k)).2 hfl
              rw [hfix] at g1'
              refine mw_iload rfl rfl ?_
              refine mw_b_eq rfl (fun hq => ?_) (fun hq => ?_)
              · exact mw_locals rfl (done k z' u' hfl g1')
              · cases hq
            · refine mw_istore rfl (Nat.le_of_ble_eq_true rfl) ?_
              first | refine mw_ninc rfl rfl (Nat.le_of_ble_eq_true rfl) ?_ | refine mw_iinc rfl rfl rfl (Nat.le_of_ble_eq_true rfl) ?_
              refine mw_goto rfl ?_
              exact mw_locals rfl (ih (fun i hi => by
                by_cases e : i = k
                · subst e; exact hfl
                · exact hj i (by omega)) z' u' g1' g2' g3')
    exact mw_locals rfl (loop 0 (Nat.zero_le _) (fun i hi => absurd hi (Nat.not_lt_zero i)) z1 u1 s1 s2 hI0)
  refine mw_aload_n (i := 0) rfl rfl rfl ?_
  refine mw_aload_n (i := 1) rfl rfl rfl ?_
  refine mw_heap (h2 := mov [(73, .inl (.int, 216, .inl (vI c0))), (77, .inl (.int, 216, .inl ba0))] (mov (kcL c0 kr0 z0 u0 ba0 ch0) h)) (mov_sub h (by intro q hq; simp only [List.mem_cons, List.not_mem_nil, or_false] at hq; rcases hq with rfl | rfl <;> rfl)) ?_
  refine mw_callV_f (c_startBase (d + 1) n P v c0 ba0 (mov (kcL c0 kr0 z0 u0 ba0 ch0) h) (hP.mv rfl) hV hok h72) rfl ok_X0_startWithBaseFacts v_X0_30 rfl (by first | rfl | exact rfl | exact h72) (by intro e; cases e) rfl (Nat.le_of_ble_eq_true rfl) rfl (Nat.le_of_ble_eq_true rfl) (by omega) (by omega) (by omega) ?_
  rw [← mov_puts]
  refine mw_heap (h2 := mov (kcL (coBase v) kr0 z0 u0 (kbF v).2 ch0) h) (by rw [← show (kbF v).1 = coBase v from kb_co v (v 1)]; rfl) ?_
  refine mw_iconst (v := nI 1) rfl (by decide) ?_
  refine mw_istore rfl (Nat.le_of_ble_eq_true rfl) ?_
  refine mw_iconst (v := nI 0) rfl (by decide) ?_
  refine mw_istore rfl (Nat.le_of_ble_eq_true rfl) ?_
  obtain ⟨K, hK1, hK2⟩ := co_settle hS
  have loop : ∀ k, k ≤ 218 → (∀ i, i < k → (coP v S (itN (fun _ c => (coP v S c).1) (coBase v) i)).2 = true) → MW M_X0_compute (d + 3) 0 0 n post 11 [(0, .ref 72), (1, .ref 1), (2, .ref 56), (3, .ref 69), (4, .int (bI true)), (5, .int (nI k))] [] (mov (kcL (itN (fun _ c => (coP v S c).1) (coBase v) k) kr0 z0 u0 (kbF v).2 ch0) h) n 0 := by
    refine loop_up 218 ?_ ?_
    · intro hj
      have h1 := (coP_flag hS _).1 (hj K (by omega))
      rw [hK2] at h1
      omega
    · intro k hk ih hj
      have hF := coIt_F (v := v) (S := S) k
      have hlim : (coP v S (itN (fun _ c => (coP v S c).1) (coBase v) k)).2 = false → IsLim (fun c => (coP v S c).1) (coBase v) (itN (fun _ c => (coP v S c).1) (coBase v) k) := fun hfl => ⟨k, rfl, (coP_flag hS _).2 hfl⟩
      have eS : itN (fun _ c => (coP v S c).1) (coBase v) (k + 1) = (coP v S (itN (fun _ c => (coP v S c).1) (coBase v) k)).1 := rfl
      rw [eS] at ih
      have hj' : (coP v S (itN (fun _ c => (coP v S c).1) (coBase v) k)).2 = true → ∀ i, i < k + 1 → (coP v S (itN (fun _ c => (coP v S c).1) (coBase v) i)).2 = true := fun hfl i hi => by
        by_cases e : i = k
        · subst e; exact hfl
        · exact hj i (by omega)
      generalize itN (fun _ c => (coP v S c).1) (coBase v) k = c at ih hF hlim hj' ⊢
      have hfx := (coP_flag hS c).2
      refine mw_iload rfl rfl ?_
      refine mw_b_eq rfl (fun hz => ?_) (fun hz => ?_)
      · cases hz
      · refine mw_iload rfl rfl ?_
        refine mw_sipush (v := nI 218) rfl (by decide) ?_
        refine mw_n_ge rfl (by omega) (by omega) (fun hc => ?_) (fun hc => ?_)
        · omega
        · refine mw_aload_n (i := 0) rfl rfl rfl ?_
          refine mw_aload_n (i := 2) rfl rfl rfl ?_
          refine mw_aload_n (i := 3) rfl rfl rfl ?_
          refine mw_heap (h2 := mov [(73, .inl (.int, 216, .inl (vI c)))] (mov (kcL c kr0 z0 u0 (kbF v).2 ch0) h)) (mov_sub h (by intro q hq; simp only [List.mem_cons, List.not_mem_nil, or_false] at hq; rcases hq with rfl; rfl)) ?_
          refine mw_callV_f (c_lower d n v c S tot hs oh g (mov (kcL c kr0 z0 u0 (kbF v).2 ch0) h) hg hG hok hS hH h72 h69 h70 hF) rfl ok_X0_lower v_X0_34 rfl (by first | rfl | exact rfl | exact h72) (by intro e; cases e) rfl (Nat.le_of_ble_eq_true rfl) rfl (Nat.le_of_ble_eq_true rfl) (by omega) (by omega) (by omega) ?_
          rw [← mov_puts]
          refine mw_heap (h2 := mov (kcL (coP v S c).1 kr0 z0 u0 (kbF v).2 ch0) h) rfl ?_
          cases hfl : (coP v S c).2
          · rw [hfx hfl]
            refine mw_istore rfl (Nat.le_of_ble_eq_true rfl) ?_
            first | refine mw_ninc rfl rfl (Nat.le_of_ble_eq_true rfl) ?_ | refine mw_iinc rfl rfl rfl (Nat.le_of_ble_eq_true rfl) ?_
            refine mw_goto rfl ?_
            refine mw_iload rfl rfl ?_
            refine mw_b_eq rfl (fun hq => ?_) (fun hq => ?_)
            · exact mw_locals rfl (rest c (hlim hfl))
            · cases hq
          · refine mw_istore rfl (Nat.le_of_ble_eq_true rfl) ?_
            first | refine mw_ninc rfl rfl (Nat.le_of_ble_eq_true rfl) ?_ | refine mw_iinc rfl rfl rfl (Nat.le_of_ble_eq_true rfl) ?_
            refine mw_goto rfl ?_
            exact mw_locals rfl (ih (hj' hfl))
  exact mw_locals rfl (loop 0 (Nat.zero_le _) (fun i hi => absurd hi (Nat.not_lt_zero i)))
