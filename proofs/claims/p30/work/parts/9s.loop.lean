/-! THE LAW'S LOOP and its start -/
theorem and31 (x : Int32) : ∃ k, k < 32 ∧ x &&& nI 31 = nI k := by
  refine ⟨toN (x &&& nI 31), ?_, (nI_toN _).symm⟩
  show (x.toBitVec &&& (nI 31).toBitVec).toNat < 32
  rw [BitVec.toNat_and]
  exact Nat.lt_of_le_of_lt Nat.and_le_right (by decide)
theorem d_end : decode code 945 = .ok (.ireturn, 1) := by decide +kernel
theorem loop_in {i L : Nat} (hi : i < 10000) (hL : L ≤ 3072) (h : ¬ nI L - nI 6 < nI i) : i + 6 ≤ L := by
  by_cases h6 : 6 ≤ L
  · rw [pk_sub h6] at h
    have h2 : ¬ L - 6 < i := fun q => h ((nI_ltI (by omega) (by omega)).mpr q)
    omega
  · exfalso
    refine h (Int32.lt_of_lt_of_le (pk_sneg (by omega) (by omega)) (nI_pos' (by omega)))
section LAWL
variable {p : Program} {l : Launch} {e : Env} {s : State} {m : MethodId} {below : List Frame} {meth : Method} {c : Code} {b L : Nat} {xs : Nat → Int32} {G : MG}
end LAWL
theorem LJ_new {h1 h2 : Nat → MC} {cc : MC} (hN : KNew h1) (hR : RefNew (hset h1 178 cc) h2) : LJ h2 := by
  obtain ⟨⟨P, x, k1⟩, k2, k3, k4, ⟨P1, k5⟩, P2, k6⟩ := hN
  obtain ⟨r0, r1, r2, r3, r4, r5, r6⟩ := hR
  have hK : KSd (KV0, 0, fun _ => 0, fun _ => false, fun _ => 0) h1 := by
    refine ⟨P, x, _, k1, k2, k3, k4, fun i hi => ?_⟩
    rcases (show i = 0 ∨ i = 1 by omega) with rfl | rfl
    · exact ⟨P1, k5, fun q => by cases q⟩
    · exact ⟨P2, k6, fun q => by cases q⟩
  refine ⟨(KV0, 0, fun _ => 0, fun _ => false, fun _ => 0), ⟨ok_anew _ (by omega) (by omega), Nat.zero_le _, fun i hi => absurd hi (Nat.not_lt_zero i)⟩, hK.keep (fun j hj => (r0 j hj).trans (hset_ne _ _ (by omega))), updN (fun _ => 0) 3 0, rd0, _, r1, r2, ⟨fun f hf => if_neg (by omega), Or.inl rfl⟩, r3, r4, r5, r6, rfl⟩
theorem arr_p {s : State} {args : Array Value} {ty : FieldType} (h : (Cond.arrayClass ty).before args s = true) (hra : ∀ cA, s.vm.findClass ("[" ++ ty.toString) = some cA → va_RA s cA ty) : ∃ cA, ArrOfT s cA ty ∧ va_RA s cA ty := by
  obtain ⟨c, k, comp, h1, h2, h3⟩ := Cond.arrayClass_spec h
  exact ⟨c, fun n z => ⟨fun k h => (by cases h), k, h2, comp, h3⟩, hra c h1⟩
theorem arr_o {s : State} {args : Array Value} {C : String} (h : (Cond.arrayOver (.object C)).before args s = true) : ∃ cA, ArrOfT s cA (.object C) ∧ va_RA s cA (.object C) := by
  obtain ⟨comp, c, k, h1, h2, h3, h4, h5⟩ := Cond.arrayOver_spec h
  exact ⟨c, fun n z => ⟨fun k h => (by cases h), k, h3, comp, h4⟩, k, comp, h3, h4, h1, h5⟩
theorem ao_5 : Cond.arrayOver (.object RX5) ∈ lw_tbl := by decide +kernel
theorem ao_6 : Cond.arrayOver (.object RX6) ∈ lw_tbl := by decide +kernel
theorem mK_start {p : Program} {s : State} {m : MethodId} {meth : Method} {c : Code} {b L : Nat} {xs : Nat → Int32} (C0 : lw_At p s m meth c b L xs) : ∃ G : MG, mK G s ∧ s.heap.size = G.2.1 := by
  obtain ⟨hx, hb, hr, hml, hown, hts, hX, hbl, hlocks, hgv⟩ := id C0
  have hc : ∀ k : Nat, ∃ D : ClassId × (Nat → Nat), ∀ q : vw_C, vwCl[k]? = some q → u_Kn s q.1 q.2.1 q.2.2 D.1 D.2 := by
    intro k
    match k with
    | 0 =>
      obtain ⟨cC, iS, h⟩ := u_known (C := RX0) (T := TX0) (N := 6) (n := 6) hts inT0 (hts (.instantiable RX0 6) (by decide +kernel))
      exact ⟨(cC, iS), fun q hq => by cases hq; exact h⟩
    | 1 =>
      obtain ⟨cC, iS, h⟩ := u_known (C := RX1) (T := TX1) (N := 12) (n := 12) hts inT1 (hts (.instantiable RX1 12) (by decide +kernel))
      exact ⟨(cC, iS), fun q hq => by cases hq; exact h⟩
    | 2 =>
      obtain ⟨cC, iS, h⟩ := u_known (C := RX2) (T := TX2) (N := 3) (n := 3) hts inT2 (hts (.instantiable RX2 3) (by decide +kernel))
      exact ⟨(cC, iS), fun q hq => by cases hq; exact h⟩
    | 3 =>
      obtain ⟨cC, iS, h⟩ := u_known (C := RX3) (T := TX3) (N := 1) (n := 1) hts inT3 (hts (.instantiable RX3 1) (by decide +kernel))
      exact ⟨(cC, iS), fun q hq => by cases hq; exact h⟩
    | 4 =>
      obtain ⟨cC, iS, h⟩ := u_known (C := RX4) (T := TX4) (N := 3) (n := 3) hts inT4 (hts (.instantiable RX4 3) (by decide +kernel))
      exact ⟨(cC, iS), fun q hq => by cases hq; exact h⟩
    | 5 =>
      obtain ⟨cC, iS, h⟩ := u_known (C := RX5) (T := TX5) (N := 8) (n := 8) hts inT5 (hts (.instantiable RX5 8) (by decide +kernel))
      exact ⟨(cC, iS), fun q hq => by cases hq; exact h⟩
    | 6 =>
      obtain ⟨cC, iS, h⟩ := u_known (C := RX6) (T := TX6) (N := 6) (n := 6) hts inT6 (hts (.instantiable RX6 6) (by decide +kernel))
      exact ⟨(cC, iS), fun q hq => by cases hq; exact h⟩
    | 7 =>
      obtain ⟨cC, iS, h⟩ := u_known (C := RX7) (T := TX7) (N := 4) (n := 4) hts inT7 (hts (.instantiable RX7 4) (by decide +kernel))
      exact ⟨(cC, iS), fun q hq => by cases hq; exact h⟩
    | 8 =>
      obtain ⟨cC, iS, h⟩ := u_known (C := RX8) (T := TX8) (N := 2) (n := 2) hts inT8 (hts (.instantiable RX8 2) (by decide +kernel))
      exact ⟨(cC, iS), fun q hq => by cases hq; exact h⟩
    | 9 =>
      obtain ⟨cC, iS, h⟩ := u_known (C := RX9) (T := TX9) (N := 17) (n := 17) hts inT9 (hts (.instantiable RX9 17) (by decide +kernel))
      exact ⟨(cC, iS), fun q hq => by cases hq; exact h⟩
    | 10 =>
      obtain ⟨cC, iS, h⟩ := u_known (C := RX10) (T := TX10) (N := 28) (n := 28) hts inT10 (hts (.instantiable RX10 28) (by decide +kernel))
      exact ⟨(cC, iS), fun q hq => by cases hq; exact h⟩
    | k + 11 => exact ⟨(0, fun _ => 0), fun q hq => by cases hq⟩
  obtain ⟨D, hD⟩ := Classical.axiomOfChoice hc
  have ha : ∀ ty : FieldType, ∃ cA : ClassId, ty ∈ mtys → ArrOfT s cA ty ∧ va_RA s cA ty := by
    intro ty
    by_cases h : ty ∈ mtys
    · simp only [mtys, List.mem_cons, List.not_mem_nil, or_false] at h
      rcases h with rfl | rfl | rfl | rfl | rfl | rfl
      · obtain ⟨cA, g⟩ := arr_p (hts _ (List.mem_filter.mp ac_int).1) (fun _ h => h)
        exact ⟨cA, fun _ => g⟩
      · obtain ⟨cA, g⟩ := arr_p (hts _ (List.mem_filter.mp ac_boolean).1) (fun _ h => h)
        exact ⟨cA, fun _ => g⟩
      · obtain ⟨cA, g⟩ := arr_p (hts _ (List.mem_filter.mp ac_long).1) (fun _ h => h)
        exact ⟨cA, fun _ => g⟩
      · obtain ⟨cA, g⟩ := arr_p (hts _ (List.mem_filter.mp ac_float).1) (fun _ h => h)
        exact ⟨cA, fun _ => g⟩
      · obtain ⟨cA, g⟩ := arr_o (hts _ ao_5)
        exact ⟨cA, fun _ => g⟩
      · obtain ⟨cA, g⟩ := arr_o (hts _ ao_6)
        exact ⟨cA, fun _ => g⟩
    · exact ⟨0, fun q => absurd q h⟩
  obtain ⟨tyC, hA⟩ := Classical.axiomOfChoice ha
  refine ⟨((fun k => (D k).1, fun k => (D k).2), s.heap.size, tyC), ⟨⟨fun k q hq => hD k q hq, fun k q hq => ?_⟩, fun w hw => ?_, va_AO.of (hts _ ao_5), va_AO.of (hts _ ao_6)⟩, rfl⟩
  · rw [mTT, List.getElem?_map] at hq
    obtain ⟨ty, h1, rfl⟩ := Option.map_eq_some_iff.mp hq
    exact hA ty (List.mem_of_getElem? h1)
  · have h1 := List.mem_filter.mp hw
    have h2 : isNest w = true := h1.2
    refine va_Nw.of ?_ (hts w h1.1)
    cases w <;> first | (cases h2; done) | rfl
