/-! THE LAW'S LOOP and its start -/
theorem and31 (x : Int32) : ∃ k, k < 32 ∧ x &&& nI 31 = nI k := by
  refine ⟨toN (x &&& nI 31), ?_, (nI_toN _).symm⟩
  show (x.toBitVec &&& (nI 31).toBitVec).toNat < 32
  rw [BitVec.toNat_and]
  exact Nat.lt_of_le_of_lt Nat.and_le_right (by decide)
theorem d_end : decode code 945 = .ok (.ireturn, 1) := by decide +kernel
theorem loop_in {i L : Nat} (hi : i < 10000) (hL : L ≤ 3072) (h : ¬ nI L - nI 6 < nI i) : i + 6 ≤ L := by
  by_cases h6 : 6 ≤ L
  · rw [pk_sub h6] at h
    have h2 : ¬ L - 6 < i := fun q => h ((nI_ltI (by omega) (by omega)).mpr q)
    omega
  · exfalso
    refine h (Int32.lt_of_lt_of_le (pk_sneg (by omega) (by omega)) (nI_pos' (by omega)))
section LAWL
variable {p : Program} {l : Launch} {e : Env} {s : State} {m : MethodId} {below : List Frame} {meth : Method} {c : Code} {b L : Nat} {xs : Nat → Int32} {G : MG}
theorem law_step (C : LC p s m meth c b L xs G) {i : Nat} (hi : i + 5 < L) {h : Nat → MC} (hJ : LJ h) (k : ∀ h2, LJ h2 → LwJ p l e s m below meth c b G 938 (lwL b i G) [] h2 199 26283) : LwJ p l e s m below meth c b G 27 (lwL b i G) [] h 199 26283 := by
  have hL := C.2.2.2
  refine lw_aload C LTh_ok rfl rfl rfl ?_
  refine lw_iload C LTh_ok rfl rfl rfl ?_
  refine lw_sld C LTh_ok rfl (by omega) ?_
  refine lw_bipush (v := nI 31) C LTh_ok rfl (by decide) ?_
  refine lw_iand C LTh_ok rfl ?_
  obtain ⟨q, hq, e1⟩ := and31 (xs i)
  rw [e1]
  by_cases h27 : 27 ≤ q
  · exact lw_tabO (tg := 938) C d_sw (by omega) (by omega) (by decide) (k h hJ)
  · rcases (show q = 0 ∨ q = 1 ∨ q = 2 ∨ q = 3 ∨ q = 4 ∨ q = 5 ∨ q = 6 ∨ q = 7 ∨ q = 8 ∨ q = 9 ∨ q = 10 ∨ q = 11 ∨ q = 12 ∨ q = 13 ∨ q = 14 ∨ q = 15 ∨ q = 16 ∨ q = 17 ∨ q = 18 ∨ q = 19 ∨ q = 20 ∨ q = 21 ∨ q = 22 ∨ q = 23 ∨ q = 24 ∨ q = 25 ∨ q = 26 by omega) with rfl | rfl | rfl | rfl | rfl | rfl | rfl | rfl | rfl | rfl | rfl | rfl | rfl | rfl | rfl | rfl | rfl | rfl | rfl | rfl | rfl | rfl | rfl | rfl | rfl | rfl | rfl
    · exact lw_tab C d_sw (by decide) rfl (by decide) rfl (by decide) (lwo_0 C hi hJ k)
    · exact lw_tab C d_sw (by decide) rfl (by decide) rfl (by decide) (lwo_1 C hi hJ k)
    · exact lw_tab C d_sw (by decide) rfl (by decide) rfl (by decide) (lwo_2 C hi hJ k)
    · exact lw_tab C d_sw (by decide) rfl (by decide) rfl (by decide) (lwo_3 C hi hJ k)
    · exact lw_tab C d_sw (by decide) rfl (by decide) rfl (by decide) (lwo_4 C hi hJ k)
    · exact lw_tab C d_sw (by decide) rfl (by decide) rfl (by decide) (lwo_5 C hi hJ k)
    · exact lw_tab C d_sw (by decide) rfl (by decide) rfl (by decide) (lwo_6 C hi hJ k)
    · exact lw_tab C d_sw (by decide) rfl (by decide) rfl (by decide) (lwo_7 C hi hJ k)
    · exact lw_tab C d_sw (by decide) rfl (by decide) rfl (by decide) (lwo_8 C hi hJ k)
    · exact lw_tab C d_sw (by decide) rfl (by decide) rfl (by decide) (lwo_9 C hi hJ k)
    · exact lw_tab C d_sw (by decide) rfl (by decide) rfl (by decide) (lwo_10 C hi hJ k)
    · exact lw_tab C d_sw (by decide) rfl (by decide) rfl (by decide) (lwo_11 C hi hJ k)
    · exact lw_tab C d_sw (by decide) rfl (by decide) rfl (by decide) (lwo_12 C hi hJ k)
    · exact lw_tab C d_sw (by decide) rfl (by decide) rfl (by decide) (lwo_13 C hi hJ k)
    · exact lw_tab C d_sw (by decide) rfl (by decide) rfl (by decide) (lwo_14 C hi hJ k)
    · exact lw_tab C d_sw (by decide) rfl (by decide) rfl (by decide) (lwo_15 C hi hJ k)
    · exact lw_tab C d_sw (by decide) rfl (by decide) rfl (by decide) (lwo_16 C hi hJ k)
    · exact lw_tab C d_sw (by decide) rfl (by decide) rfl (by decide) (lwo_17 C hi hJ k)
    · exact lw_tab C d_sw (by decide) rfl (by decide) rfl (by decide) (lwo_18 C hi hJ k)
    · exact lw_tab C d_sw (by decide) rfl (by decide) rfl (by decide) (lwo_19 C hi hJ k)
    · exact lw_tab C d_sw (by decide) rfl (by decide) rfl (by decide) (lwo_20 C hi hJ k)
    · exact lw_tab C d_sw (by decide) rfl (by decide) rfl (by decide) (lwo_21 C hi hJ k)
    · exact lw_tab C d_sw (by decide) rfl (by decide) rfl (by decide) (lwo_22 C hi hJ k)
    · exact lw_tab C d_sw (by decide) rfl (by decide) rfl (by decide) (lwo_23 C hi hJ k)
    · exact lw_tab C d_sw (by decide) rfl (by decide) rfl (by decide) (lwo_24 C hi hJ k)
    · exact lw_tab C d_sw (by decide) rfl (by decide) rfl (by decide) (lwo_25 C hi hJ k)
    · exact lw_tab C d_sw (by decide) rfl (by decide) rfl (by decide) (lwo_26 C hi hJ k)
theorem law_loop (C : LC p s m meth c b L xs G) : ∀ (f i : Nat) (h : Nat → MC), i ≤ L + 6 → L ≤ i + f → LJ h → LwJ p l e s m below meth c b G 18 (lwL b i G) [] h 199 26283 := by
  have hL := C.2.2.2
  intro f
  induction f with
  | zero =>
    intro i h h1 h2 hJ
    refine lw_iload C LTh_ok rfl rfl rfl ?_
    refine lw_aload C LTh_ok rfl rfl rfl ?_
    refine lw_slen C LTh_ok rfl ?_
    refine lw_bipush (v := nI 6) C LTh_ok rfl (by decide) ?_
    refine lw_isub C LTh_ok rfl ?_
    refine lw_gt C LTh_ok rfl (fun _ => ?_) (fun q => ?_)
    · refine lw_iconst (v := 1) C LTh_ok rfl (by decide) ?_
      exact lw_end C d_end (Nat.le_of_ble_eq_true rfl) (Nat.le_of_ble_eq_true rfl)
    · have := loop_in (by omega) hL q
      omega
  | succ f ih =>
    intro i h h1 h2 hJ
    refine lw_iload C LTh_ok rfl rfl rfl ?_
    refine lw_aload C LTh_ok rfl rfl rfl ?_
    refine lw_slen C LTh_ok rfl ?_
    refine lw_bipush (v := nI 6) C LTh_ok rfl (by decide) ?_
    refine lw_isub C LTh_ok rfl ?_
    refine lw_gt C LTh_ok rfl (fun _ => ?_) (fun q => ?_)
    · refine lw_iconst (v := 1) C LTh_ok rfl (by decide) ?_
      exact lw_end C d_end (Nat.le_of_ble_eq_true rfl) (Nat.le_of_ble_eq_true rfl)
    · have hin := loop_in (by omega) hL q
      refine law_step C (by omega) hJ (fun h2 hJ2 => ?_)
      refine lw_iinc (v := nI (i + 6)) C LTh_ok rfl rfl (nI_add i 6) (by decide) ?_
      refine lw_goto C LTh_ok rfl ?_
      exact lw_locals rfl (ih (i + 6) h2 (by omega) (by omega) hJ2)
end LAWL
theorem LJ_new {h1 h2 : Nat → MC} {cc : MC} (hN : KNew h1) (hR : RefNew (hset h1 178 cc) h2) : LJ h2 := by
  obtain ⟨⟨P, x, k1⟩, k2, k3, k4, ⟨P1, k5⟩, P2, k6⟩ := hN
  obtain ⟨r0, r1, r2, r3, r4, r5, r6⟩ := hR
  have hK : KSd (KV0, 0, fun _ => 0, fun _ => false, fun _ => 0) h1 := by
    refine ⟨P, x, _, k1, k2, k3, k4, fun i hi => ?_⟩
    rcases (show i = 0 ∨ i = 1 by omega) with rfl | rfl
    · exact ⟨P1, k5, fun q => by cases q⟩
    · exact ⟨P2, k6, fun q => by cases q⟩
  refine ⟨(KV0, 0, fun _ => 0, fun _ => false, fun _ => 0), ⟨ok_anew _ (by omega) (by omega), Nat.zero_le _, fun i hi => absurd hi (Nat.not_lt_zero i)⟩, hK.keep (fun j hj => (r0 j hj).trans (hset_ne _ _ (by omega))), updN (fun _ => 0) 3 0, rd0, _, r1, r2, ⟨fun f hf => if_neg (by omega), Or.inl rfl⟩, r3, r4, r5, r6, rfl⟩
theorem arr_p {s : State} {args : Array Value} {ty : FieldType} (h : (Cond.arrayClass ty).before args s = true) (hra : ∀ cA, s.vm.findClass ("[" ++ ty.toString) = some cA → va_RA s cA ty) : ∃ cA, ArrOfT s cA ty ∧ va_RA s cA ty := by
  obtain ⟨c, k, comp, h1, h2, h3⟩ := Cond.arrayClass_spec h
  exact ⟨c, fun n z => ⟨fun k h => (by cases h), k, h2, comp, h3⟩, hra c h1⟩
theorem arr_o {s : State} {args : Array Value} {C : String} (h : (Cond.arrayOver (.object C)).before args s = true) : ∃ cA, ArrOfT s cA (.object C) ∧ va_RA s cA (.object C) := by
  obtain ⟨comp, c, k, h1, h2, h3, h4, h5⟩ := Cond.arrayOver_spec h
  exact ⟨c, fun n z => ⟨fun k h => (by cases h), k, h3, comp, h4⟩, k, comp, h3, h4, h1, h5⟩
theorem ao_5 : Cond.arrayOver (.object RX5) ∈ lw_tbl := by decide +kernel
theorem ao_6 : Cond.arrayOver (.object RX6) ∈ lw_tbl := by decide +kernel
theorem mK_start {p : Program} {s : State} {m : MethodId} {meth : Method} {c : Code} {b L : Nat} {xs : Nat → Int32} (C0 : lw_At p s m meth c b L xs) : ∃ G : MG, mK G s ∧ s.heap.size = G.2.1 := by
  obtain ⟨hx, hb, hr, hml, hown, hts, hX, hbl, hlocks, hgv⟩ := id C0
  have hc : ∀ k : Nat, ∃ D : ClassId × (Nat → Nat), ∀ q : vw_C, vwCl[k]? = some q → u_Kn s q.1 q.2.1 q.2.2 D.1 D.2 := by
    intro k
    match k with
    | 0 =>
      obtain ⟨cC, iS, h⟩ := u_known (C := RX0) (T := TX0) (N := 6) (n := 6) hts inT0 (hts (.instantiable RX0 6) (by decide +kernel))
      exact ⟨(cC, iS), fun q hq => by cases hq; exact h⟩
    | 1 =>
      obtain ⟨cC, iS, h⟩ := u_known (C := RX1) (T := TX1) (N := 12) (n := 12) hts inT1 (hts (.instantiable RX1 12) (by decide +kernel))
      exact ⟨(cC, iS), fun q hq => by cases hq; exact h⟩
    | 2 =>
      obtain ⟨cC, iS, h⟩ := u_known (C := RX2) (T := TX2) (N := 3) (n := 3) hts inT2 (hts (.instantiable RX2 3) (by decide +kernel))
      exact ⟨(cC, iS), fun q hq => by cases hq; exact h⟩
    | 3 =>
      obtain ⟨cC, iS, h⟩ := u_known (C := RX3) (T := TX3) (N := 1) (n := 1) hts inT3 (hts (.instantiable RX3 1) (by decide +kernel))
      exact ⟨(cC, iS), fun q hq => by cases hq; exact h⟩
    | 4 =>
      obtain ⟨cC, iS, h⟩ := u_known (C := RX4) (T := TX4) (N := 3) (n := 3) hts inT4 (hts (.instantiable RX4 3) (by decide +kernel))
      exact ⟨(cC, iS), fun q hq => by cases hq; exact h⟩
    | 5 =>
      obtain ⟨cC, iS, h⟩ := u_known (C := RX5) (T := TX5) (N := 8) (n := 8) hts inT5 (hts (.instantiable RX5 8) (by decide +kernel))
      exact ⟨(cC, iS), fun q hq => by cases hq; exact h⟩
    | 6 =>
      obtain ⟨cC, iS, h⟩ := u_known (C := RX6) (T := TX6) (N := 6) (n := 6) hts inT6 (hts (.instantiable RX6 6) (by decide +kernel))
      exact ⟨(cC, iS), fun q hq => by cases hq; exact h⟩
    | 7 =>
      obtain ⟨cC, iS, h⟩ := u_known (C := RX7) (T := TX7) (N := 4) (n := 4) hts inT7 (hts (.instantiable RX7 4) (by decide +kernel))
      exact ⟨(cC, iS), fun q hq => by cases hq; exact h⟩
    | 8 =>
      obtain ⟨cC, iS, h⟩ := u_known (C := RX8) (T := TX8) (N := 2) (n := 2) hts inT8 (hts (.instantiable RX8 2) (by decide +kernel))
      exact ⟨(cC, iS), fun q hq => by cases hq; exact h⟩
    | 9 =>
      obtain ⟨cC, iS, h⟩ := u_known (C := RX9) (T := TX9) (N := 17) (n := 17) hts inT9 (hts (.instantiable RX9 17) (by decide +kernel))
      exact ⟨(cC, iS), fun q hq => by cases hq; exact h⟩
    | 10 =>
      obtain ⟨cC, iS, h⟩ := u_known (C := RX10) (T := TX10) (N := 28) (n := 28) hts inT10 (hts (.instantiable RX10 28) (by decide +kernel))
      exact ⟨(cC, iS), fun q hq => by cases hq; exact h⟩
    | k + 11 => exact ⟨(0, fun _ => 0), fun q hq => by cases hq⟩
  obtain ⟨D, hD⟩ := Classical.axiomOfChoice hc
  have ha : ∀ ty : FieldType, ∃ cA : ClassId, ty ∈ mtys → ArrOfT s cA ty ∧ va_RA s cA ty := by
    intro ty
    by_cases h : ty ∈ mtys
    · simp only [mtys, List.mem_cons, List.not_mem_nil, or_false] at h
      rcases h with rfl | rfl | rfl | rfl | rfl | rfl
      · obtain ⟨cA, g⟩ := arr_p (hts _ (List.mem_filter.mp ac_int).1) (fun _ h => h)
        exact ⟨cA, fun _ => g⟩
      · obtain ⟨cA, g⟩ := arr_p (hts _ (List.mem_filter.mp ac_boolean).1) (fun _ h => h)
        exact ⟨cA, fun _ => g⟩
      · obtain ⟨cA, g⟩ := arr_p (hts _ (List.mem_filter.mp ac_long).1) (fun _ h => h)
        exact ⟨cA, fun _ => g⟩
      · obtain ⟨cA, g⟩ := arr_p (hts _ (List.mem_filter.mp ac_float).1) (fun _ h => h)
        exact ⟨cA, fun _ => g⟩
      · obtain ⟨cA, g⟩ := arr_o (hts _ ao_5)
        exact ⟨cA, fun _ => g⟩
      · obtain ⟨cA, g⟩ := arr_o (hts _ ao_6)
        exact ⟨cA, fun _ => g⟩
    · exact ⟨0, fun q => absurd q h⟩
  obtain ⟨tyC, hA⟩ := Classical.axiomOfChoice ha
  refine ⟨((fun k => (D k).1, fun k => (D k).2), s.heap.size, tyC), ⟨⟨fun k q hq => hD k q hq, fun k q hq => ?_⟩, fun w hw => ?_, va_AO.of (hts _ ao_5), va_AO.of (hts _ ao_6)⟩, rfl⟩
  · rw [mTT, List.getElem?_map] at hq
    obtain ⟨ty, h1, rfl⟩ := Option.map_eq_some_iff.mp hq
    exact hA ty (List.mem_of_getElem? h1)
  · have h1 := List.mem_filter.mp hw
    have h2 : isNest w = true := h1.2
    refine va_Nw.of ?_ (hts w h1.1)
    cases w <;> first | (cases h2; done) | rfl
set_option maxHeartbeats 4000000 in
/-- THE LAW, from its entry -/
theorem whole_start {p : Program} {e : Env} {s : State} {m : MethodId} {below : List Frame} {meth : Method} {c : Code} (l : Launch) (hflags : l.flags = flags0) {b L : Nat} {xs : Nat → Int32} (hL : L ≤ 3072) (C0 : lw_At p s m meth c b L xs) : W p l e room_1 s m #[Value.ref b] below meth c s.heap [] 0 0 (lw_Z below #[Value.ref b] s) (entryFrame m ([Value.ref b] : List Value).toArray 4) := by
  obtain ⟨G, hK, hG⟩ := mK_start C0
  have C : LC p s m meth c b L xs G := ⟨C0, hK, hG, hL⟩
  have hl := lv_entry ([.ref b]) (n := 4) (Nat.le_of_ble_eq_true rfl)
  rw [lg_entry_eq]
  generalize (lg_sl ([.ref b]) ++ List.replicate (4 - (lg_sl ([.ref b])).length) Slot.unset).toArray = ls at hl ⊢
  have hl : lv_has ls 4 [(0, .ref b)] := hl
  have hW : mWd G (fun _ => dead) 0 s.heap := ⟨fun k _ => rfl, fun k q h => by simp [mws] at h⟩
  have hS : va_S (mA G) s.heap s.heap [] := va_S.rf
  suffices H : LwJ p l e s m below meth c b G 0 [(0, .ref b)] [] (fun _ => dead) 0 0 from H _ _ _ hW hS hl
  refine lw_new C LTh_ok rfl n_L_7 (Nat.le_of_ble_eq_true rfl) (Nat.le_of_ble_eq_true rfl) ?_
  refine lw_dup C LTh_ok rfl ?_
  refine lw_callI (c_X9_init 1 _ (hset_same _ _ _)) C LTh_ok rfl ok_X9_init rfl v_L_9 (Nat.le_of_ble_eq_true rfl) (Nat.le_of_ble_eq_true rfl) (Nat.le_of_ble_eq_true rfl) (Nat.le_of_ble_eq_true rfl) (Nat.le_of_ble_eq_true rfl) (fun r h1 hq => ?_)
  obtain ⟨rfl, hN⟩ := hq
  show LwJ p l e s m below meth c b G 7 [(0, .ref b)] [.ref (G.2.1 + 0)] h1 178 14801
  refine lw_astore C LTh_ok rfl rfl (by decide) ?_
  refine lw_new C LTh_ok rfl n_L_10 (Nat.le_of_ble_eq_true rfl) (Nat.le_of_ble_eq_true rfl) ?_
  refine lw_dup C LTh_ok rfl ?_
  refine lw_callI (c_init 1 _ (hset_same _ _ _)) C LTh_ok rfl ok_X10_init rfl v_L_12 (Nat.le_of_ble_eq_true rfl) (Nat.le_of_ble_eq_true rfl) (Nat.le_of_ble_eq_true rfl) (Nat.le_of_ble_eq_true rfl) (Nat.le_of_ble_eq_true rfl) (fun r2 h2 hq2 => ?_)
  obtain ⟨rfl, hN2⟩ := hq2
  show LwJ p l e s m below meth c b G 15 _ [.ref (G.2.1 + 178)] h2 199 26283
  refine lw_astore C LTh_ok rfl rfl (by decide) ?_
  refine lw_iconst (v := nI 0) C LTh_ok rfl (by decide) ?_
  refine lw_istore C LTh_ok rfl rfl (by decide) ?_
  exact lw_locals rfl (law_loop C L 0 h2 (Nat.zero_le _) (by omega) (LJ_new hN hN2))
