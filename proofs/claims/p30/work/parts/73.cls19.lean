/-! THE CLASS'S SURVIVALS: compute, neededBy, firstCut -/
def eB (b : Bool) : Nat := if b = true then 1 else 0
theorem dvI_1 {S : HoS} {j : Nat} {p : (Nat → Bool) × Bool} : (dvI S j p).1 = (dvI S j (p.1, false)).1 := by
  unfold dvI
  by_cases q : p.1 (S.2.2.1 j) = false ∧ allL S p.1 j = true
  · rw [if_pos q, if_pos q]
  · rw [if_neg q, if_neg q]
theorem dv_gl {S : HoS} {D : Nat → Bool} {b : Bool} : ∀ n, (itN (dvI S) (D, b) n).1 = itN (glS eB (fun i => S.2.2.1 i) (fun i D => allL S D i)) D n
  | 0 => rfl
  | n + 1 => by
    have ih := dv_gl (S := S) (D := D) (b := b) n
    show (dvI S n (itN (dvI S) (D, b) n)).1 = glS _ _ _ n (itN (glS eB (fun i => S.2.2.1 i) (fun i D => allL S D i)) D n)
    rw [← ih]
    generalize itN (dvI S) (D, b) n = T
    show (if T.1 (S.2.2.1 n) = false ∧ allL S T.1 n = true then (updN T.1 (S.2.2.1 n) true, true) else T).1 = if eB (T.1 (S.2.2.1 n)) < eB (allL S T.1 n) then updN T.1 (S.2.2.1 n) (allL S T.1 n) else T.1
    generalize T.1 (S.2.2.1 n) = x
    generalize allL S T.1 n = y
    cases x <;> cases y <;> rfl
theorem allL_iff {S : HoS} {D : Nat → Bool} {i : Nat} : allL S D i = true ↔ ∀ f, isLit S i f → D f = true := by
  unfold allL
  rw [andN_iff]
  constructor
  · rintro h f ⟨a, ha, h1, h2⟩
    have := h a ha
    unfold litB at this
    rw [if_neg h1, h2] at this
    exact this
  · intro h a ha
    unfold litB
    split
    · rfl
    · rename_i q
      exact h _ ⟨a, ha, q, rfl⟩
set_option maxRecDepth 20000 in
theorem dv_settle {v : Nat → Nat} {S : HoS} (hS : HoOk v S) (D0 : Nat → Bool) : ∃ K, K ≤ 216 ∧ (dvP S (itN (fun _ D => (dvP S D).1) D0 K)).1 = itN (fun _ D => (dvP S D).1) D0 K := by
  obtain ⟨E, k, hk, hfix⟩ := dvLim hS D0
  have hit : ∀ K, itN (fun _ D => (dvP S D).1) D0 K = itN (fun _ => glP eB (fun i => S.2.2.1 i) (fun i D => allL S D i) S.1) D0 K := by
    intro K
    induction K with
    | zero => rfl
    | succ K ih =>
      show (dvP S (itN (fun _ D => (dvP S D).1) D0 K)).1 = glP eB (fun i => S.2.2.1 i) (fun i D => allL S D i) S.1 (itN (fun _ => glP eB (fun i => S.2.2.1 i) (fun i D => allL S D i) S.1) D0 K)
      rw [← ih]
      exact dv_gl S.1
  have e : ∀ K, (dvP S (itN (fun _ D => (dvP S D).1) D0 K)).1 = itN (fun _ => glP eB (fun i => S.2.2.1 i) (fun i D => allL S D i) S.1) D0 (K + 1) := fun K => hit (K + 1)
  have e1 : ∀ x y : Bool, (x = true → y = true) → eB x ≤ eB y := fun x y h => by
    cases x
    · exact Nat.zero_le _
    · rw [h rfl]; exact Nat.le_refl _
  obtain ⟨K, h1, h2⟩ := gl_settles (α := Bool) eB (fun i => S.2.2.1 i) (fun i D => allL S D i) (N := S.1) (M := 216) (I := fun _ => True) (G := isLit S) (c0 := D0) trivial (fun _ _ _ _ => trivial)
    (fun i hi => (hS.2 i hi).2.1)
    (fun i hi f hf => by
      obtain ⟨a, ha, h1, h2⟩ := hf
      rcases (hS.2 i hi).2.2 a ha with q | ⟨g, hg, q⟩
      · exact absurd q h1
      · rw [q, nI_clamp (by omega)] at h2
        omega)
    (fun i hi D D' _ _ h => e1 _ _ (fun q => allL_iff.mpr fun f hf => by
      have h1 := h f hf
      rw [allL_iff.mp q f hf] at h1
      cases h2 : D' f
      · rw [h2] at h1; exact absurd h1 (by decide)
      · rfl))
    (fun i hi D _ f hf => e1 _ _ (fun q => allL_iff.mp q f hf))
    ⟨k, by
      have hk : E = itN (fun _ D => (dvP S D).1) D0 k := hk
      have h3 : itN (fun _ D => (dvP S D).1) D0 (k + 1) = itN (fun _ D => (dvP S D).1) D0 k := by
        show (dvP S (itN (fun _ D => (dvP S D).1) D0 k)).1 = _
        rw [← hk]
        exact hfix
      rw [hit (k + 1), hit k] at h3
      exact h3⟩
  refine ⟨K, h1, ?_⟩
  rw [e K, hit K]
  exact h2
theorem dv_216 {v : Nat → Nat} {S : HoS} (hS : HoOk v S) (D0 : Nat → Bool) {k : Nat} (hk : 216 ≤ k) : (dvP S (itN (fun _ D => (dvP S D).1) D0 k)).1 = itN (fun _ D => (dvP S D).1) D0 k := by
  obtain ⟨K, h1, h2⟩ := dv_settle hS D0
  have e : itN (fun _ D => (dvP S D).1) D0 k = itN (fun _ D => (dvP S D).1) D0 K := itN_stay (f := fun D => (dvP S D).1) (by omega) h2
  rw [e]
  exact h2
/-- the rows hold what can do without each of the small sets -/
def KsOk (v : Nat → Nat) (S : HoS) (sm : Nat → Nat) (rw' : Nat → Int64) : Prop := ∀ s, s < 298 → ∀ E, IsLim (fun D => (dvP S D).1) (dvBase v (nI (sm s))) E → ∀ f, f < 216 → Dv rw' s f = E f
def bsD (v sm : Nat → Nat) (k s : Nat) : Nat → Bool := if s < 298 then itN (dvK v (nI (sm s))) (fun _ => false) k else fun _ => false
theorem bsD_s (v sm : Nat → Nat) (k : Nat) : enS sm k (v (9 + 3 * k)) 298 (bsD v sm k) = bsD v sm (k + 1) := by
  funext s
  unfold enS bsD
  by_cases q : s < 298
  · rw [if_pos q, if_pos q]
    show _ = dvK v (nI (sm s)) k (itN (dvK v (nI (sm s))) (fun _ => false) k)
    generalize itN (dvK v (nI (sm s))) (fun _ => false) k = D
    unfold dvK
    by_cases w : delB (nI (sm s)) k = true
    · rw [if_pos ⟨q, w⟩, w, Bool.or_true]
    · have w' : delB (nI (sm s)) k = false := by
        cases h : delB (nI (sm s)) k
        · rfl
        · exact absurd h w
      rw [if_neg (fun y => w y.2), w', Bool.or_false]
      funext f
      unfold updN
      split
      · rename_i e; rw [e]
      · rfl
  · rw [if_neg q, if_neg q, if_neg (fun y => q y.1)]
set_option maxRecDepth 20000 in
theorem c_kscompute (d n : Nat) (P : PgS) (v sm : Nat → Nat) (rw0 : Nat → Int64) (S : HoS) (tot : Nat) (hs oh : Nat → Nat) (g : GD) (h : Nat → MC) (hP : PgAt h 1 P) (hV : PgV P v) (hg : GrAt h g) (hG : GrOk v g) (hok : OkN v) (hS : HoOk v S) (hH : HdOk v S tot hs oh) (h81 : h 81 = UO) (h82 : h 82 = .inl (.int, 298, .inl (vI sm))) (h69 : h 69 = .inr (2, [.ref 70, .int (nI tot), .ref 71])) (h70 : h 70 = .inl (.int, 1728, .inl (vI hs))) :
    Sp M_X8_compute (d + 1) 0 0 [.ref 81, .ref 1, .ref 56, .ref 69] (mov (rwL rw0) h) n (fun r h1 => r = none ∧ ∃ rw' : Nat → Int64, h1 = mov (rwL rw') h ∧ KsOk v S sm rw') := by
  show MW _ _ _ _ _ _ _ _ _ _ _ _
  generalize hpost : (fun (r : Option Value) (h1 : Nat → MC) => r = none ∧ ∃ rw' : Nat → Int64, h1 = mov (rwL rw') h ∧ KsOk v S sm rw') = post
  have hp : ∀ rw' : Nat → Int64, KsOk v S sm rw' → post none (mov (rwL rw') h) := by
    intro rw' h1
    rw [← hpost]
    exact ⟨rfl, rw', rfl, h1⟩
  clear hpost
  have hP0 : h 1 = _ := hP.cell (i := 0) (by omega)
  have hP2 : h 3 = _ := hP.cell (i := 2) (by omega)
  have hf12 := hok.2.2.1
  have hS1 := hS.1
  have htot := hH.1
  obtain ⟨vc, vpl, vfc, vfa, vrc, vru⟩ := hV
  have done : ∀ (k : Nat) (rw' : Nat → Int64), SV rw' (fun s => itN (fun _ D => (dvP S D).1) (bsD v sm (v 1) s) k) → (∀ s, s < 320 → (dvP S (itN (fun _ D => (dvP S D).1) (bsD v sm (v 1) s) k)).1 = itN (fun _ D => (dvP S D).1) (bsD v sm (v 1) s) k) → KsOk v S sm rw' := by
    intro k rw' h1 h2 s hs E hE f hf
    rw [h1 s (by omega) f hf]
    have e : bsD v sm (v 1) s = dvBase v (nI (sm s)) := if_pos hs
    have hl : IsLim (fun D => (dvP S D).1) (dvBase v (nI (sm s))) (itN (fun _ D => (dvP S D).1) (bsD v sm (v 1) s) k) := ⟨k, by rw [e], h2 s (by omega)⟩
    show itN (fun _ D => (dvP S D).1) (bsD v sm (v 1) s) k f = E f
    rw [hl.uniq hE]
  have loop : ∀ k, k ≤ 218 → ∀ rw' : Nat → Int64, SV rw' (fun s => itN (fun _ D => (dvP S D).1) (bsD v sm (v 1) s) k) → MW M_X8_compute (d + 1) 0 0 n post 47 [(0, .ref 81), (2, .ref 56), (3, .ref 69), (4, .int (bI true)), (5, .int (nI k))] [] (mov (rwL rw') h) n 0 := by
    refine loop_up 218 ?_ ?_
    · intro rw' hSV
      refine mw_iload rfl rfl ?_
      refine mw_b_eq rfl (fun hz => ?_) (fun hz => ?_)
      · cases hz
      · refine mw_iload rfl rfl ?_
        refine mw_sipush (v := nI 218) rfl (by decide) ?_
        refine mw_n_ge rfl (by omega) (by omega) (fun hc => ?_) (fun hc => ?_)
        · exact mw_return rfl rfl rfl (Nat.le_refl _) ((hp rw' (done 218 rw' hSV (fun s _ => dv_216 hS _ (by omega)))))
        · omega
    · intro k hk ih rw' hSV
      have hdn := done k rw' hSV
      obtain ⟨D, hD⟩ : ∃ D : Nat → Nat → Bool, D = fun s => itN (fun _ D => (dvP S D).1) (bsD v sm (v 1) s) k := ⟨_, rfl⟩
      have eS : (fun s => itN (fun _ D => (dvP S D).1) (bsD v sm (v 1) s) (k + 1)) = fun s => (dvP S (D s)).1 := by rw [hD]; rfl
      rw [eS] at ih
      rw [← hD] at hSV
      have hdn : (∀ s, s < 320 → (dvP S (D s)).1 = D s) → KsOk v S sm rw' := by rw [hD]; exact hdn
      refine mw_iload rfl rfl ?_
      refine mw_b_eq rfl (fun hz => ?_) (fun hz => ?_)
      · cases hz
      · refine mw_iload rfl rfl ?_
        refine mw_sipush (v := nI 218) rfl (by decide) ?_
        refine mw_n_ge rfl (by omega) (by omega) (fun hc => ?_) (fun hc => ?_)
        · omega
        · refine mw_iconst (v := nI 0) rfl (by decide) ?_
          refine mw_istore rfl (Nat.le_of_ble_eq_true rfl) ?_
          refine mw_iconst (v := nI 0) rfl (by decide) ?_
          refine mw_istore rfl (Nat.le_of_ble_eq_true rfl) ?_
          have inner : ∀ j, j ≤ S.1 → ∀ (rw1 : Nat → Int64) (b : Bool), SV rw1 (fun s => (itN (dvI S) (D s, false) j).1) → (b = false → ∀ s, s < 320 → (itN (dvI S) (D s, false) j).1 = D s) → MW M_X8_compute (d + 1) 0 0 n post 66 [(0, .ref 81), (2, .ref 56), (3, .ref 69), (4, .int (bI b)), (5, .int (nI k)), (6, .int (nI j))] [] (mov (rwL rw1) h) n 0 := by
            refine loop_up S.1 ?_ ?_
            · intro rw1 b h1 h2
              refine mw_iload rfl rfl ?_
              refine mw_aload_n (i := 3) rfl rfl rfl ?_
              refine mw_getfield rfl f_X8_38 (by first | rfl | exact rfl | exact h81 | exact h69 | exact h70 | exact hP0 | exact hP2) rfl ?_
              rw [htot]
              refine mw_n_ge rfl (by omega) (by omega) (fun hc => ?_) (fun hc => ?_)
              · first | refine mw_ninc rfl rfl (Nat.le_of_ble_eq_true rfl) ?_ | refine mw_iinc rfl rfl rfl (Nat.le_of_ble_eq_true rfl) ?_
                refine mw_goto rfl ?_
                cases b
                · refine mw_iload rfl rfl ?_
                  refine mw_b_eq rfl (fun hq => ?_) (fun hq => ?_)
                  · have h3 : ∀ s, s < 320 → (dvP S (D s)).1 = D s := h2 rfl
                    have h4 : SV rw1 (fun s => itN (fun _ D => (dvP S D).1) (bsD v sm (v 1) s) k) := fun s hs f hf => by
                      rw [h1 s hs f hf]
                      show (itN (dvI S) (D s, false) S.1).1 f = _
                      rw [h2 rfl s hs, hD]
                    exact mw_return rfl rfl rfl (Nat.le_refl _) ((hp rw1 (done k rw1 h4 (fun s hs => by have := h3 s hs; rw [hD] at this; exact this))))
                  · cases hq
                · exact mw_locals rfl (ih rw1 h1)
              · omega
            · intro j hj ihj rw1 b h1 h2
              refine mw_iload rfl rfl ?_
              refine mw_aload_n (i := 3) rfl rfl rfl ?_
              refine mw_getfield rfl f_X8_38 (by first | rfl | exact rfl | exact h81 | exact h69 | exact h70 | exact hP0 | exact hP2) rfl ?_
              rw [htot]
              refine mw_n_ge rfl (by omega) (by omega) (fun hc => ?_) (fun hc => ?_)
              · omega
              · refine mw_aload_n (i := 0) rfl rfl rfl ?_
                refine mw_aload_n (i := 2) rfl rfl rfl ?_
                refine mw_aload_n (i := 3) rfl rfl rfl ?_
                refine mw_getfield rfl f_X8_43 (by first | rfl | exact rfl | exact h81 | exact h69 | exact h70 | exact hP0 | exact hP2) rfl ?_
                refine mw_iload rfl rfl ?_
                refine mw_iald_v rfl (by first | rfl | exact rfl | exact h81 | exact h69 | exact h70 | exact hP0 | exact hP2) (by omega) (by omega) (show vI hs j = nI (hs j) from rfl) ?_
                refine mw_callV (c_widen d n j v rw1 (fun s => (itN (dvI S) (D s, false) j).1) S tot hs oh g h hg hG hok hH hj h81 h1) rfl ok_X8_widen v_X8_46 rfl (by first | rfl | exact rfl | exact h81 | exact h69 | exact h70 | exact hP0 | exact hP2) (by intro e; cases e) rfl (Nat.le_of_ble_eq_true rfl) rfl (Nat.le_of_ble_eq_true rfl) (by omega) (by omega) (by omega) ?_
                intro r2 h3 hq2
                obtain ⟨b', rw2, rfl, rfl, g1, -, g3⟩ := hq2
                have hnx : MW M_X8_compute (d + 1) 0 0 n post 66 [(0, .ref 81), (2, .ref 56), (3, .ref 69), (4, .int (bI (b || b'))), (5, .int (nI k)), (6, .int (nI (j + 1)))] [] (mov (rwL rw2) h) n 0 := by
                  refine ihj rw2 (b || b') (fun s hs f hf => ?_) (fun hb s hs => ?_)
                  · rw [g1 s hs f hf]
                    show _ = (dvI S j (itN (dvI S) (D s, false) j)).1 f
                    rw [dvI_1 (p := itN (dvI S) (D s, false) j)]
                  · rw [Bool.or_eq_false_iff] at hb
                    show (dvI S j (itN (dvI S) (D s, false) j)).1 = _
                    rw [dvI_1 (p := itN (dvI S) (D s, false) j)]
                    exact (g3 hb.2 s hs).trans (h2 hb.1 s hs)
                refine mw_b_eq rfl (fun hfl => ?_) (fun hfl => ?_)
                · rw [hfl, Bool.or_false] at hnx
                  first | refine mw_ninc rfl rfl (Nat.le_of_ble_eq_true rfl) ?_ | refine mw_iinc rfl rfl rfl (Nat.le_of_ble_eq_true rfl) ?_
                  refine mw_goto rfl ?_
                  exact mw_locals rfl hnx
                · rw [hfl, Bool.or_true] at hnx
                  refine mw_iconst (v := nI 1) rfl (by decide) ?_
                  refine mw_istore rfl (Nat.le_of_ble_eq_true rfl) ?_
                  first | refine mw_ninc rfl rfl (Nat.le_of_ble_eq_true rfl) ?_ | refine mw_iinc rfl rfl rfl (Nat.le_of_ble_eq_true rfl) ?_
                  refine mw_goto rfl ?_
                  exact mw_locals rfl hnx
          exact mw_locals rfl (inner 0 (Nat.zero_le _) rw' false hSV (fun _ _ _ => rfl))
  have loopB : ∀ k, k ≤ P.fc → ∀ rw' : Nat → Int64, SV rw' (bsD v sm k) → MW M_X8_compute (d + 1) 0 0 n post 11 [(0, .ref 81), (1, .ref 1), (2, .ref 56), (3, .ref 69), (4, .int (nI k))] [] (mov (rwL rw') h) n 0 := by
    refine loop_up P.fc ?_ ?_
    · intro rw' hSV
      refine mw_iload rfl rfl ?_
      refine mw_aload_n (i := 1) rfl rfl rfl ?_
      refine mw_getfield rfl f_X8_25 (by first | rfl | exact rfl | exact h81 | exact h69 | exact h70 | exact hP0 | exact hP2) rfl ?_
      refine mw_n_ge rfl (by omega) (by omega) (fun hc => ?_) (fun hc => ?_)
      · refine mw_iconst (v := nI 1) rfl (by decide) ?_
        refine mw_istore rfl (Nat.le_of_ble_eq_true rfl) ?_
        refine mw_iconst (v := nI 0) rfl (by decide) ?_
        refine mw_istore rfl (Nat.le_of_ble_eq_true rfl) ?_
        rw [vfc] at hSV
        exact mw_locals rfl (loop 0 (Nat.zero_le _) rw' hSV)
      · omega
    · intro k hk ih rw' hSV
      have hk2 : k < v 1 := by rw [← vfc]; exact hk
      have e1 : vI P.fa k = nI (v (9 + 3 * k)) := congrArg nI (vfa k hk2).1
      have w1 := (hok.2.2.2.2.2.1 k hk2).1
      refine mw_iload rfl rfl ?_
      refine mw_aload_n (i := 1) rfl rfl rfl ?_
      refine mw_getfield rfl f_X8_25 (by first | rfl | exact rfl | exact h81 | exact h69 | exact h70 | exact hP0 | exact hP2) rfl ?_
      refine mw_n_ge rfl (by omega) (by omega) (fun hc => ?_) (fun hc => ?_)
      · omega
      · refine mw_aload_n (i := 0) rfl rfl rfl ?_
        refine mw_aload_n (i := 1) rfl rfl rfl ?_
        refine mw_getfield rfl f_X8_31 (by first | rfl | exact rfl | exact h81 | exact h69 | exact h70 | exact hP0 | exact hP2) rfl ?_
        refine mw_iload rfl rfl ?_
        refine mw_iald_v rfl (by first | rfl | exact rfl | exact h81 | exact h69 | exact h70 | exact hP0 | exact hP2) (by omega) (by omega) e1 ?_
        refine mw_iconst (v := nI 5) rfl (by decide) ?_
        first | refine mw_nmul rfl ?_ | refine mw_imul rfl ?_
        refine mw_iload rfl rfl ?_
        refine mw_callV (c_enter d n (v (9 + 3 * k)) k sm rw' (bsD v sm k) h h81 h82 w1 (by omega) hSV) rfl ok_X8_enterBaseFact v_X8_34 rfl (by first | rfl | exact rfl | exact h81 | exact h69 | exact h70 | exact hP0 | exact hP2) (by intro e; cases e) rfl (Nat.le_of_ble_eq_true rfl) rfl (Nat.le_of_ble_eq_true rfl) (by omega) (by omega) (by omega) ?_
        intro r2 h2 hq2
        obtain ⟨rfl, rw2, rfl, g1⟩ := hq2
        rw [bsD_s] at g1
        first | refine mw_ninc rfl rfl (Nat.le_of_ble_eq_true rfl) ?_ | refine mw_iinc rfl rfl rfl (Nat.le_of_ble_eq_true rfl) ?_
        refine mw_goto rfl ?_
        exact mw_locals rfl (ih rw2 g1)
  refine mw_aload_n (i := 0) rfl rfl rfl ?_
  refine mw_getfield rfl f_X8_15 (by first | rfl | exact rfl | exact h81 | exact h69 | exact h70 | exact hP0 | exact hP2) rfl ?_
  refine mw_lconst (v := 0) rfl (by decide) ?_
  refine mw_callS_f (c_fillL d n 83 1080 rw0 0 _ rfl (by omega)) rfl ok_J7_fill_d0a16 v_X8_19 rfl (Nat.le_of_ble_eq_true rfl) rfl (Nat.le_of_ble_eq_true rfl) (by omega) (by omega) (by omega) ?_
  rw [hset_mov]
  refine mw_iconst (v := nI 0) rfl (by decide) ?_
  refine mw_istore rfl (Nat.le_of_ble_eq_true rfl) ?_
  refine mw_locals rfl (mw_heap rfl (loopB 0 (Nat.zero_le _) (flr rw0 0 1080) (fun s hs f hf => ?_)))
  unfold Dv flr bsD
  rw [if_pos (by omega), bt_0]
  split <;> rfl
/-- the base facts that each atom needs -/
def kneV (sm : Nat → Nat) (rw' : Nat → Int64) (f : Nat) (n : Nat) : Int32 := itN (fun i a => if Dv rw' i f = true then a else a ||| nI (sm i)) (nI 0) n
theorem c_neededBy (d n f : Nat) (sm : Nat → Nat) (rw' : Nat → Int64) (h : Nat → MC) (h81 : h 81 = UO) (h82 : h 82 = .inl (.int, 298, .inl (vI sm))) (h83 : h 83 = .inl (.long, 1080, .inr (.inl rw'))) (hf : f < 216) : Fn M_X8_neededBy (d + 1) 0 0 [.ref 81, .int (nI f)] h n (some (.int (kneV sm rw' f 12))) h := by
  refine Fn.of fun post hp => ?_
  refine mw_iconst (v := nI 0) rfl (by decide) ?_
  refine mw_istore_n (i := 2) rfl rfl (Nat.le_of_ble_eq_true rfl) ?_
  refine mw_iconst (v := nI 0) rfl (by decide) ?_
  refine mw_istore_n (i := 3) rfl rfl (Nat.le_of_ble_eq_true rfl) ?_
  have loop : ∀ i, i ≤ 12 → MW M_X8_neededBy (d + 1) 0 0 n post 4 [(0, .ref 81), (1, .int (nI f)), (2, .int (kneV sm rw' f i)), (3, .int (nI i))] [] h n 0 := by
    refine loop_up 12 ?_ ?_
    · refine mw_iload_n (i := 3) rfl rfl rfl ?_
      refine mw_bipush (v := nI 12) rfl (by decide) ?_
      refine mw_n_ge rfl (by omega) (by omega) (fun hc => ?_) (fun hc => ?_)
      · refine mw_iload_n (i := 2) rfl rfl rfl ?_
        exact mw_ireturn rfl rfl rfl rfl (Nat.le_refl _) (hp)
      · omega
    · intro i hi ih
      have eS : kneV sm rw' f (i + 1) = if Dv rw' i f = true then kneV sm rw' f i else kneV sm rw' f i ||| nI (sm i) := rfl
      rw [eS] at ih
      refine mw_iload_n (i := 3) rfl rfl rfl ?_
      refine mw_bipush (v := nI 12) rfl (by decide) ?_
      refine mw_n_ge rfl (by omega) (by omega) (fun hc => ?_) (fun hc => ?_)
      · omega
      · refine mw_aload_n (i := 0) rfl rfl rfl ?_
        refine mw_iload_n (i := 1) rfl rfl rfl ?_
        refine mw_iload_n (i := 3) rfl rfl rfl ?_
        refine mw_callV_f (c_survives d n f i rw' h h81 h83 hf (by omega)) rfl ok_X8_survives v_X8_50 rfl (by first | rfl | exact h81 | exact h82 | exact h83) (by intro e; cases e) rfl (Nat.le_of_ble_eq_true rfl) rfl (Nat.le_of_ble_eq_true rfl) (by omega) (by omega) (by omega) ?_
        refine mw_b_ne rfl (fun hb => ?_) (fun hb => ?_)
        · rw [if_pos hb] at ih
          first | refine mw_ninc rfl rfl (Nat.le_of_ble_eq_true rfl) ?_ | refine mw_iinc rfl rfl rfl (Nat.le_of_ble_eq_true rfl) ?_
          refine mw_goto rfl ?_
          exact mw_locals rfl ih
        · rw [if_neg (by rw [hb]; decide)] at ih
          refine mw_iload_n (i := 2) rfl rfl rfl ?_
          refine mw_aload_n (i := 0) rfl rfl rfl ?_
          refine mw_getfield rfl f_X8_9 (by first | rfl | exact h81 | exact h82 | exact h83) rfl ?_
          refine mw_iload_n (i := 3) rfl rfl rfl ?_
          refine mw_iald rfl (by first | rfl | exact h81 | exact h82 | exact h83) (by omega) (by omega) ?_
          refine mw_ior (y := nI (sm i)) rfl ?_
          refine mw_istore_n (i := 2) rfl rfl (Nat.le_of_ble_eq_true rfl) ?_
          first | refine mw_ninc rfl rfl (Nat.le_of_ble_eq_true rfl) ?_ | refine mw_iinc rfl rfl rfl (Nat.le_of_ble_eq_true rfl) ?_
          refine mw_goto rfl ?_
          exact mw_locals rfl ih
  exact mw_locals rfl (loop 0 (Nat.zero_le _))
def cutF (sm : Nat → Nat) (rw' : Nat → Int64) (f i : Nat) : Option Int32 := if Dv rw' i f = true then none else some (nI (sm i))
theorem c_firstCut (d n f : Nat) (sm : Nat → Nat) (rw' : Nat → Int64) (h : Nat → MC) (h81 : h 81 = UO) (h82 : h 82 = .inl (.int, 298, .inl (vI sm))) (h83 : h 83 = .inl (.long, 1080, .inr (.inl rw'))) (hf : f < 216) : Fn M_X8_firstCut (d + 1) 0 0 [.ref 81, .int (nI f)] h n (some (.int ((upTo (cutF sm rw' f) 298).getD (-5)))) h := by
  refine Fn.of fun post hp => ?_
  refine mw_iconst (v := nI 0) rfl (by decide) ?_
  refine mw_istore_n (i := 2) rfl rfl (Nat.le_of_ble_eq_true rfl) ?_
  have loop : ∀ i, i ≤ 298 → upTo (cutF sm rw' f) i = none → MW M_X8_firstCut (d + 1) 0 0 n post 2 [(0, .ref 81), (1, .int (nI f)), (2, .int (nI i))] [] h n 0 := by
    refine loop_up 298 ?_ ?_
    · intro hn
      rw [hn] at hp
      refine mw_iload_n (i := 2) rfl rfl rfl ?_
      refine mw_sipush (v := nI 298) rfl (by decide) ?_
      refine mw_n_ge rfl (by omega) (by omega) (fun hc => ?_) (fun hc => ?_)
      · refine mw_bipush (v := (-5)) rfl (by decide) ?_
        exact mw_ireturn rfl rfl rfl rfl (Nat.le_refl _) (hp)
      · omega
    · intro i hi ih hn
      refine mw_iload_n (i := 2) rfl rfl rfl ?_
      refine mw_sipush (v := nI 298) rfl (by decide) ?_
      refine mw_n_ge rfl (by omega) (by omega) (fun hc => ?_) (fun hc => ?_)
      · omega
      · refine mw_aload_n (i := 0) rfl rfl rfl ?_
        refine mw_iload_n (i := 1) rfl rfl rfl ?_
        refine mw_iload_n (i := 2) rfl rfl rfl ?_
        refine mw_callV_f (c_survives d n f i rw' h h81 h83 hf (by omega)) rfl ok_X8_survives v_X8_50 rfl (by first | rfl | exact h81 | exact h82 | exact h83) (by intro e; cases e) rfl (Nat.le_of_ble_eq_true rfl) rfl (Nat.le_of_ble_eq_true rfl) (by omega) (by omega) (by omega) ?_
        refine mw_b_ne rfl (fun hb => ?_) (fun hb => ?_)
        · first | refine mw_ninc rfl rfl (Nat.le_of_ble_eq_true rfl) ?_ | refine mw_iinc rfl rfl rfl (Nat.le_of_ble_eq_true rfl) ?_
          refine mw_goto rfl ?_
          exact mw_locals rfl (ih (upTo_miss hn (if_pos hb)))
        · have e1 : cutF sm rw' f i = some (nI (sm i)) := if_neg (by rw [hb]; decide)
          rw [upTo_hit hn e1 hi] at hp
          refine mw_aload_n (i := 0) rfl rfl rfl ?_
          refine mw_getfield rfl f_X8_9 (by first | rfl | exact h81 | exact h82 | exact h83) rfl ?_
          refine mw_iload_n (i := 2) rfl rfl rfl ?_
          refine mw_iald rfl (by first | rfl | exact h81 | exact h82 | exact h83) (by omega) (by omega) ?_
          exact mw_ireturn rfl rfl rfl rfl (Nat.le_refl _) (hp)
  exact mw_locals rfl (loop 0 (Nat.zero_le _) rfl)
