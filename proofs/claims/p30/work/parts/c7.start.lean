/-! P30: the law's start -/
theorem arr_p {s : State} {args : Array Value} {ty : FieldType} (h : (Cond.arrayClass ty).before args s = true) (hra : ∀ cA, s.vm.findClass ("[" ++ ty.toString) = some cA → va_RA s cA ty) : ∃ cA, ArrOfT s cA ty ∧ va_RA s cA ty := by
  obtain ⟨c, k, comp, h1, h2, h3⟩ := Cond.arrayClass_spec h
  exact ⟨c, fun n z => ⟨fun k h => (by cases h), k, h2, comp, h3⟩, hra c h1⟩
theorem arr_o {s : State} {args : Array Value} {C : String} (h : (Cond.arrayOver (.object C)).before args s = true) : ∃ cA, ArrOfT s cA (.object C) ∧ va_RA s cA (.object C) := by
  obtain ⟨comp, c, k, h1, h2, h3, h4, h5⟩ := Cond.arrayOver_spec h
  exact ⟨c, fun n z => ⟨fun k h => (by cases h), k, h3, comp, h4⟩, k, comp, h3, h4, h1, h5⟩
theorem ao_5 : Cond.arrayOver (.object RX5) ∈ lw_tbl := by decide +kernel
theorem ao_6 : Cond.arrayOver (.object RX6) ∈ lw_tbl := by decide +kernel
theorem mK_start {p : Program} {s : State} {m : MethodId} {meth : Method} {c : Code} {b L : Nat} {xs : Nat → Int32} (C0 : lw_At p s m meth c b L xs) : ∃ G : MG, mK G s ∧ s.heap.size = G.2.1 := by
  obtain ⟨hx, hb, hr, hml, hown, hts, hX, hbl, hlocks, hgv⟩ := id C0
  have hc : ∀ k : Nat, ∃ D : ClassId × (Nat → Nat), ∀ q : vw_C, vwCl[k]? = some q → u_Kn s q.1 q.2.1 q.2.2 D.1 D.2 := by
    intro k
    match k with
    | 0 =>
      obtain ⟨cC, iS, h⟩ := u_known (C := RX0) (T := TX0) (N := 6) (n := 6) hts inT0 (hts (.instantiable RX0 6) (by decide +kernel))
      exact ⟨(cC, iS), fun q hq => by cases hq; exact h⟩
    | 1 =>
      obtain ⟨cC, iS, h⟩ := u_known (C := RX1) (T := TX1) (N := 12) (n := 12) hts inT1 (hts (.instantiable RX1 12) (by decide +kernel))
      exact ⟨(cC, iS), fun q hq => by cases hq; exact h⟩
    | 2 =>
      obtain ⟨cC, iS, h⟩ := u_known (C := RX2) (T := TX2) (N := 3) (n := 3) hts inT2 (hts (.instantiable RX2 3) (by decide +kernel))
      exact ⟨(cC, iS), fun q hq => by cases hq; exact h⟩
    | 3 =>
      obtain ⟨cC, iS, h⟩ := u_known (C := RX3) (T := TX3) (N := 1) (n := 1) hts inT3 (hts (.instantiable RX3 1) (by decide +kernel))
      exact ⟨(cC, iS), fun q hq => by cases hq; exact h⟩
    | 4 =>
      obtain ⟨cC, iS, h⟩ := u_known (C := RX4) (T := TX4) (N := 3) (n := 3) hts inT4 (hts (.instantiable RX4 3) (by decide +kernel))
      exact ⟨(cC, iS), fun q hq => by cases hq; exact h⟩
    | 5 =>
      obtain ⟨cC, iS, h⟩ := u_known (C := RX5) (T := TX5) (N := 8) (n := 8) hts inT5 (hts (.instantiable RX5 8) (by decide +kernel))
      exact ⟨(cC, iS), fun q hq => by cases hq; exact h⟩
    | 6 =>
      obtain ⟨cC, iS, h⟩ := u_known (C := RX6) (T := TX6) (N := 6) (n := 6) hts inT6 (hts (.instantiable RX6 6) (by decide +kernel))
      exact ⟨(cC, iS), fun q hq => by cases hq; exact h⟩
    | 7 =>
      obtain ⟨cC, iS, h⟩ := u_known (C := RX7) (T := TX7) (N := 4) (n := 4) hts inT7 (hts (.instantiable RX7 4) (by decide +kernel))
      exact ⟨(cC, iS), fun q hq => by cases hq; exact h⟩
    | 8 =>
      obtain ⟨cC, iS, h⟩ := u_known (C := RX8) (T := TX8) (N := 2) (n := 2) hts inT8 (hts (.instantiable RX8 2) (by decide +kernel))
      exact ⟨(cC, iS), fun q hq => by cases hq; exact h⟩
    | 9 =>
      obtain ⟨cC, iS, h⟩ := u_known (C := RX9) (T := TX9) (N := 17) (n := 17) hts inT9 (hts (.instantiable RX9 17) (by decide +kernel))
      exact ⟨(cC, iS), fun q hq => by cases hq; exact h⟩
    | k + 10 => exact ⟨(0, fun _ => 0), fun q hq => by cases hq⟩
  obtain ⟨D, hD⟩ := Classical.axiomOfChoice hc
  have ha : ∀ ty : FieldType, ∃ cA : ClassId, ty ∈ mtys → ArrOfT s cA ty ∧ va_RA s cA ty := by
    intro ty
    by_cases h : ty ∈ mtys
    · simp only [mtys, List.mem_cons, List.not_mem_nil, or_false] at h
      rcases h with rfl | rfl | rfl | rfl | rfl | rfl
      · obtain ⟨cA, g⟩ := arr_p (hts _ (List.mem_filter.mp ac_int).1) (fun _ h => h)
        exact ⟨cA, fun _ => g⟩
      · obtain ⟨cA, g⟩ := arr_p (hts _ (List.mem_filter.mp ac_boolean).1) (fun _ h => h)
        exact ⟨cA, fun _ => g⟩
      · obtain ⟨cA, g⟩ := arr_p (hts _ (List.mem_filter.mp ac_long).1) (fun _ h => h)
        exact ⟨cA, fun _ => g⟩
      · obtain ⟨cA, g⟩ := arr_p (hts _ (List.mem_filter.mp ac_float).1) (fun _ h => h)
        exact ⟨cA, fun _ => g⟩
      · obtain ⟨cA, g⟩ := arr_o (hts _ ao_5)
        exact ⟨cA, fun _ => g⟩
      · obtain ⟨cA, g⟩ := arr_o (hts _ ao_6)
        exact ⟨cA, fun _ => g⟩
    · exact ⟨0, fun q => absurd q h⟩
  obtain ⟨tyC, hA⟩ := Classical.axiomOfChoice ha
  refine ⟨((fun k => (D k).1, fun k => (D k).2), s.heap.size, tyC), ⟨⟨fun k q hq => hD k q hq, fun k q hq => ?_⟩, fun w hw => ?_, va_AO.of (hts _ ao_5), va_AO.of (hts _ ao_6)⟩, rfl⟩
  · rw [mTT, List.getElem?_map] at hq
    obtain ⟨ty, h1, rfl⟩ := Option.map_eq_some_iff.mp hq
    exact hA ty (List.mem_of_getElem? h1)
  · have h1 := List.mem_filter.mp hw
    have h2 : isNest w = true := h1.2
    refine va_Nw.of ?_ (hts w h1.1)
    cases w <;> first | (cases h2; done) | rfl
section LAWS2
variable {p : Program} {l : Launch} {e : Env} {s : State} {m : MethodId} {below : List Frame} {meth : Method} {c : Code} {b Ln : Nat} {xs : Nat → Int32} {G : MG} {sl y k : Nat} {h : Nat → MC} {D : LD} {pl w : Nat → Nat}
set_option maxRecDepth 20000 in
/-- the first facts, from 145 on -/
theorem law_facts (C : LC p s m meth c b Ln xs G) (hsl : sl ≤ 7302250) : ∀ j k D w h, j + k = 3 → LaW D pl w h → D.1 1 = k → D.1 2 = 0 → LM p l e s m below meth c b G 145 (lwL y 1 k) [] h 182 sl := by
  intro j
  induction j with
  | zero =>
    intro k D w h hk H h1 h2
    obtain rfl : k = 3 := by omega
    refine lm_iload C rfl rfl ?_
    refine lm_iconst C (v := nI 3) rfl (by decide) ?_
    refine lm_n_ge C rfl (by omega) (by omega) (fun f1 => ?_) (fun f1 => ?_)
    · refine lm_iconst C (v := nI 0) rfl (by decide) ?_
      refine lm_istore C rfl rfl ?_
      exact lm_locals rfl (law_loop C hsl 4 0 D w h rfl H (by omega) (by omega))
    · omega
  | succ j ih =>
    intro k D w h hk H h1 h2
    refine lm_iload C rfl rfl ?_
    refine lm_iconst C (v := nI 3) rfl (by decide) ?_
    refine lm_n_ge C rfl (by omega) (by omega) (fun f1 => ?_) (fun f1 => ?_)
    · omega
    refine lm_iload C rfl rfl ?_
    refine lm_z_eq C rfl (by omega) (fun f2 => ?_) (fun f2 => ?_)
    · omega
    refine lm_aload_n C (i := 1) rfl rfl rfl ?_
    refine lm_cell1 (k := 1) (j := k) C rfl rfl (by decide) rfl rfl rfl (by omega) rfl (Nat.le_of_ble_eq_true rfl) (by omega) hsl (fun y1 hy1 => ?_)
    refine lm_aload_n C (i := 3) rfl rfl rfl ?_
    refine lm_aload C rfl rfl ?_
    refine lm_aload C rfl rfl ?_
    refine lm_callS C (H.facts hy1 (by omega)) rfl ok_L_facts v_L_116 rfl (Nat.le_of_ble_eq_true rfl) rfl (Nat.le_of_ble_eq_true rfl) (by omega) (by omega) (by omega) ?_
    rintro r h' ⟨rfl, H1⟩
    show LM p l e s m below meth c b G 173 _ [.int (nI 1)] h' 182 sl
    refine lm_istore C rfl rfl ?_
    first | refine lm_ninc C rfl rfl rfl ?_ | refine lm_iinc C rfl rfl rfl rfl ?_
    refine lm_goto C rfl ?_
    refine lm_locals rfl (ih (k + 1) _ _ h' (by omega) H1 ?_ ?_)
    · show fyV D.1 pl y1 1 = k + 1
      rw [fyV_1, h1]
    · show fyV D.1 pl y1 2 = 0
      rw [fyV_2, h2]
/-- while the places are set -/
def PlJ (D : LD) (pl w : Nat → Nat) (h : Nat → MC) (q : Nat) : Prop := FW D pl w h ∧ OkN D.1 ∧ D.1 0 ≤ 3 ∧ w 0 = D.1 0 ∧ w 1 = 0 ∧ w 2 = 0 ∧ D.1 1 = 0 ∧ D.1 2 = 0 ∧ (∀ i, i < q → pl i = D.1 (3 + i)) ∧ ∀ i, q ≤ i → i < 6 → D.1 (3 + i) = 2
theorem PlJ.law (H : PlJ D pl w h 6) : LaW D pl w h := by
  obtain ⟨hF, hok, h3, w0, w1, w2, d1, d2, hpl, -⟩ := H
  refine ⟨hF, ⟨hok, h3, fun k hk => ?_, fun r hr => ?_⟩, w0, w1.trans d2.symm, w2.trans d1.symm, hpl⟩
  · rw [d1] at hk
    exact absurd hk (Nat.not_lt_zero k)
  · rw [d2] at hr
    exact absurd hr (Nat.not_lt_zero r)
theorem PlJ.step {q x : Nat} {h1 : Nat → MC} (H : PlJ D pl w h q) (hq : q < 6) (hx : 1 ≤ x ∧ x ≤ 2) (hJ : SJ (updN D.1 (3 + q) x, D.2) (hset h 180 (.inl (.int, 6, .inl (vI (updN pl q x))))) h1) : PlJ (updN D.1 (3 + q) x, D.2) (updN pl q x) w h1 (q + 1) := by
  obtain ⟨hF, hok, h3, w0, w1, w2, d1, d2, hpl, hp2⟩ := H
  have hok2 := ok_places hok hq hx
  have e0 : updN D.1 (3 + q) x 0 = D.1 0 := updN_ne _ _ (by omega)
  have e1 : updN D.1 (3 + q) x 1 = D.1 1 := updN_ne _ _ (by omega)
  have e2 : updN D.1 (3 + q) x 2 = D.1 2 := updN_ne _ _ (by omega)
  refine ⟨(hF.setP (pl' := updN pl q x)).sj ⟨hok2, hF.1.2⟩ hJ, hok2, (show updN D.1 (3 + q) x 0 ≤ 3 by rw [e0]; exact h3), w0.trans e0.symm, w1, w2, e1.trans d1, e2.trans d2, fun i hi => ?_, fun i h1 h2 => ?_⟩
  · show updN pl q x i = updN D.1 (3 + q) x (3 + i)
    by_cases g : i = q
    · rw [g, updN_same, updN_same]
    · rw [updN_ne _ _ g, updN_ne _ _ (by omega)]
      exact hpl i (by omega)
  · show updN D.1 (3 + q) x (3 + i) = 2
    rw [updN_ne _ _ (by omega)]
    exact hp2 i (by omega) h2
set_option maxRecDepth 20000 in
/-- the places, from 78 on -/
theorem law_places (C : LC p s m meth c b Ln xs G) (hsl : sl ≤ 7302250) (hy : y < 2147483648) : ∀ j q D pl w h, j + q = 6 → PlJ D pl w h q → LM p l e s m below meth c b G 78 (lwL y 1 q) [] h 182 sl := by
  have hsy : ∀ j, y / 2 ^ j < 2147483648 := fun j => Nat.lt_of_le_of_lt (Nat.div_le_self _ _) hy
  intro j
  induction j with
  | zero =>
    intro q D pl w h hk H
    obtain rfl : q = 6 := by omega
    have HL := H.law
    refine lm_iload C rfl rfl ?_
    refine lm_bipush C (v := nI 6) rfl (by decide) ?_
    refine lm_n_ge C rfl (by omega) (by omega) (fun f1 => ?_) (fun f1 => ?_)
    · refine lm_iconst C (v := nI 0) rfl (by decide) ?_
      refine lm_istore C rfl rfl ?_
      exact lm_locals rfl (law_facts C hsl 3 0 D w h rfl HL H.2.2.2.2.2.2.1 H.2.2.2.2.2.2.2.1)
    · omega
  | succ j ih =>
    intro q D pl w h hk H
    have hq : q < 6 := by omega
    have key : ∀ x, 1 ≤ x ∧ x ≤ 2 → LM p l e s m below meth c b G 113 (lwL y 1 q) [.int (nI x), .int (nI q), .ref 180] h 182 sl := by
      intro x hx
      have hP := H.1.p
      refine lm_iast C rfl hP (by omega) (by omega) ?_
      rw [vI_upd]
      have hK : SJ D (hset h 180 (.inl (.int, 6, .inl (vI (updN pl q x))))) (hset h 180 (.inl (.int, 6, .inl (vI (updN pl q x))))) := ⟨(H.1.setP (pl' := updN pl q x)).2.1, fun _ _ => rfl⟩
      have e180 : hset h 180 (.inl (.int, 6, .inl (vI (updN pl q x)))) 180 = .inl (.int, 6, .inl (vI (updN pl q x))) := hset_same _ _ _
      have hu : isUsedV D.1 q = false := by
        unfold isUsedV
        rw [H.2.2.2.2.2.2.1, H.2.2.2.2.2.2.2.1]
        rfl
      have h2 := H.2.2.2.2.2.2.2.2.2 q (Nat.le_refl _) hq
      have hn : ∀ h1, SJ (updN D.1 (3 + q) x, D.2) (hset h 180 (.inl (.int, 6, .inl (vI (updN pl q x))))) h1 → PlJ (updN D.1 (3 + q) x, D.2) (updN pl q x) w h1 (q + 1) := fun h1 g => H.step hq hx g
      have hJ := hK
      have hpl := ko_places (n := 182) hJ.1 hq hx hu
      rw [h2] at hpl
      generalize hset h 180 (.inl (.int, 6, .inl (vI (updN pl q x)))) = hb at *
      refine lm_aload_n C (i := 1) rfl rfl rfl ?_
      refine lm_iload C rfl rfl ?_
      refine lm_aload C rfl rfl ?_
      refine lm_iload C rfl rfl ?_
      refine lm_iald_v C rfl e180 (by omega) (by omega) (show vI (updN pl q x) q = nI x from congrArg nI (updN_same _ _ _)) ?_
      refine lm_askI C (hpl) hJ rfl ok_X9_setPlaces v_L_92 rfl rfl (Nat.le_of_ble_eq_true rfl) rfl (Nat.le_of_ble_eq_true rfl) (by omega) (by omega) (by omega) (fun h hJ => ?_)
      refine lm_iconst C (v := nI 2) rfl (by decide) ?_
      refine lm_icmp_ne C rfl (fun f1 => ?_) (fun f1 => ?_)
      · exact absurd rfl f1
      refine lm_iconst C (v := nI 1) rfl (by decide) ?_
      refine lm_goto C rfl ?_
      refine lm_istore C rfl rfl ?_
      first | refine lm_ninc C rfl rfl rfl ?_ | refine lm_iinc C rfl rfl rfl rfl ?_
      refine lm_goto C rfl ?_
      exact lm_locals rfl (ih (q + 1) _ _ _ _ (by omega) (hn _ hJ))
    refine lm_iload C rfl rfl ?_
    refine lm_bipush C (v := nI 6) rfl (by decide) ?_
    refine lm_n_ge C rfl (by omega) (by omega) (fun f1 => ?_) (fun f1 => ?_)
    · omega
    refine lm_iload C rfl rfl ?_
    refine lm_z_eq C rfl (by omega) (fun f2 => ?_) (fun f2 => ?_)
    · omega
    refine lm_aload C rfl rfl ?_
    refine lm_iload C rfl rfl ?_
    refine lm_iload C rfl rfl ?_
    refine lm_iconst C (v := nI 3) rfl (by decide) ?_
    refine lm_iconst C (v := nI 2) rfl (by decide) ?_
    refine lm_iload C rfl rfl ?_
    first | refine lm_nmul C rfl ?_ | refine lm_imul C rfl ?_
    first | refine lm_nadd C rfl ?_ | refine lm_iadd C rfl ?_
    refine lm_nshr C rfl hy (by omega) ?_
    refine lm_iconst C (v := nI 3) rfl (by decide) ?_
    refine lm_nrem C rfl (hsy _) (by omega) (by omega) ?_
    refine lm_z_ne C rfl (by omega) (fun f3 => ?_) (fun f3 => ?_)
    · refine lm_iconst C (v := nI 2) rfl (by decide) ?_
      exact lm_locals rfl (key 2 (by omega))
    · refine lm_iconst C (v := nI 1) rfl (by decide) ?_
      refine lm_goto C rfl ?_
      exact lm_locals rfl (key 1 (by omega))
end LAWS2
