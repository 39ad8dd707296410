/-! THE LAW'S CALLS -/
abbrev lwL (b i : Nat) (G : MG) : List (Nat × Value) := [(0, .ref b), (1, .ref (G.2.1 + 0)), (2, .ref (G.2.1 + 178)), (3, .int (nI i))]
section LAWC
variable {p : Program} {l : Launch} {e : Env} {s : State} {m : MethodId} {below : List Frame} {meth : Method} {c : Code} {b L : Nat} {xs : Nat → Int32} {G : MG}
theorem lwo_0 (C : LC p s m meth c b L xs G) {i : Nat} (hi : i + 5 < L) {h : Nat → MC} (hJ : LJ h) (k : ∀ h2, LJ h2 → LwJ p l e s m below meth c b G 938 (lwL b i G) [] h2 199 26283) : LwJ p l e s m below meth c b G 156 (lwL b i G) [] h 199 26283 := by
  obtain ⟨D, hD, hK, hR⟩ := hJ
  obtain ⟨h0, postK, spK, go⟩ := op_begin (xs (i + 1)) hD hK hR
  refine lw_aload C LT0_ok rfl rfl rfl ?_
  refine lw_aload C LT0_ok rfl rfl rfl ?_
  refine lw_iload C LT0_ok rfl rfl rfl ?_
  refine lw_iconst (v := nI 1) C LT0_ok rfl (by decide) ?_
  refine lw_nadd C LT0_ok rfl ?_
  refine lw_sld C LT0_ok rfl (by omega) ?_
  refine lw_callV (S := []) spK C LT0_ok rfl ok_X9_begin v_L_13 rfl rfl h0 rfl (Nat.le_of_ble_eq_true rfl) rfl (Nat.zero_le _) (Nat.le_of_ble_eq_true rfl) (Nat.le_of_ble_eq_true rfl) (fun r1 h1 hq => ?_)
  obtain ⟨h178, postR, spR, fin⟩ := go r1 h1 hq
  refine lw_aload C LT0_ok rfl rfl rfl ?_
  refine lw_aload C LT0_ok rfl rfl rfl ?_
  refine lw_iload C LT0_ok rfl rfl rfl ?_
  refine lw_iconst (v := nI 1) C LT0_ok rfl (by decide) ?_
  refine lw_nadd C LT0_ok rfl ?_
  refine lw_sld C LT0_ok rfl (by omega) ?_
  refine lw_callV (S := (r1.map (cvV G.2.1)).toList ++ []) spR C LT0_ok rfl ok_X10_begin v_L_17 rfl rfl h178 rfl (Nat.le_of_ble_eq_true rfl) rfl (cat_le _ _) (Nat.le_of_ble_eq_true rfl) (Nat.le_of_ble_eq_true rfl) (fun r2 h2 hq2 => ?_)
  obtain ⟨e1, ⟨y, ⟨z, rfl⟩, e2⟩, hJ2⟩ := fin r2 h2 hq2
  rw [← e1, e2]
  show LwJ p l e s m below meth c b G 174 (lwL b i G) (.int z :: .int z :: []) h2 199 26283
  refine lw_same C LT0_ok rfl ?_
  exact k h2 hJ2
theorem lwo_1 (C : LC p s m meth c b L xs G) {i : Nat} (hi : i + 5 < L) {h : Nat → MC} (hJ : LJ h) (k : ∀ h2, LJ h2 → LwJ p l e s m below meth c b G 938 (lwL b i G) [] h2 199 26283) : LwJ p l e s m below meth c b G 179 (lwL b i G) [] h 199 26283 := by
  obtain ⟨D, hD, hK, hR⟩ := hJ
  obtain ⟨h0, postK, spK, go⟩ := op_setPlaces (xs (i + 1)) (xs (i + 2)) hD hK hR
  refine lw_aload C LT1_ok rfl rfl rfl ?_
  refine lw_aload C LT1_ok rfl rfl rfl ?_
  refine lw_iload C LT1_ok rfl rfl rfl ?_
  refine lw_iconst (v := nI 1) C LT1_ok rfl (by decide) ?_
  refine lw_nadd C LT1_ok rfl ?_
  refine lw_sld C LT1_ok rfl (by omega) ?_
  refine lw_aload C LT1_ok rfl rfl rfl ?_
  refine lw_iload C LT1_ok rfl rfl rfl ?_
  refine lw_iconst (v := nI 2) C LT1_ok rfl (by decide) ?_
  refine lw_nadd C LT1_ok rfl ?_
  refine lw_sld C LT1_ok rfl (by omega) ?_
  refine lw_callV (S := []) spK C LT1_ok rfl ok_X9_setPlaces v_L_18 rfl rfl h0 rfl (Nat.le_of_ble_eq_true rfl) rfl (Nat.zero_le _) (Nat.le_of_ble_eq_true rfl) (Nat.le_of_ble_eq_true rfl) (fun r1 h1 hq => ?_)
  obtain ⟨h178, postR, spR, fin⟩ := go r1 h1 hq
  refine lw_aload C LT1_ok rfl rfl rfl ?_
  refine lw_aload C LT1_ok rfl rfl rfl ?_
  refine lw_iload C LT1_ok rfl rfl rfl ?_
  refine lw_iconst (v := nI 1) C LT1_ok rfl (by decide) ?_
  refine lw_nadd C LT1_ok rfl ?_
  refine lw_sld C LT1_ok rfl (by omega) ?_
  refine lw_aload C LT1_ok rfl rfl rfl ?_
  refine lw_iload C LT1_ok rfl rfl rfl ?_
  refine lw_iconst (v := nI 2) C LT1_ok rfl (by decide) ?_
  refine lw_nadd C LT1_ok rfl ?_
  refine lw_sld C LT1_ok rfl (by omega) ?_
  refine lw_callV (S := (r1.map (cvV G.2.1)).toList ++ []) spR C LT1_ok rfl ok_X10_setPlaces v_L_22 rfl rfl h178 rfl (Nat.le_of_ble_eq_true rfl) rfl (cat_le _ _) (Nat.le_of_ble_eq_true rfl) (Nat.le_of_ble_eq_true rfl) (fun r2 h2 hq2 => ?_)
  obtain ⟨e1, ⟨y, ⟨z, rfl⟩, e2⟩, hJ2⟩ := fin r2 h2 hq2
  rw [← e1, e2]
  show LwJ p l e s m below meth c b G 207 (lwL b i G) (.int z :: .int z :: []) h2 199 26283
  refine lw_same C LT1_ok rfl ?_
  exact k h2 hJ2
theorem lwo_2 (C : LC p s m meth c b L xs G) {i : Nat} (hi : i + 5 < L) {h : Nat → MC} (hJ : LJ h) (k : ∀ h2, LJ h2 → LwJ p l e s m below meth c b G 938 (lwL b i G) [] h2 199 26283) : LwJ p l e s m below meth c b G 212 (lwL b i G) [] h 199 26283 := by
  obtain ⟨D, hD, hK, hR⟩ := hJ
  obtain ⟨h0, postK, spK, go⟩ := op_addFact (xs (i + 1)) (xs (i + 2)) (xs (i + 3)) (xs (i + 4)) (xs (i + 5)) hD hK hR
  refine lw_aload C LT2_ok rfl rfl rfl ?_
  refine lw_aload C LT2_ok rfl rfl rfl ?_
  refine lw_iload C LT2_ok rfl rfl rfl ?_
  refine lw_iconst (v := nI 1) C LT2_ok rfl (by decide) ?_
  refine lw_nadd C LT2_ok rfl ?_
  refine lw_sld C LT2_ok rfl (by omega) ?_
  refine lw_aload C LT2_ok rfl rfl rfl ?_
  refine lw_iload C LT2_ok rfl rfl rfl ?_
  refine lw_iconst (v := nI 2) C LT2_ok rfl (by decide) ?_
  refine lw_nadd C LT2_ok rfl ?_
  refine lw_sld C LT2_ok rfl (by omega) ?_
  refine lw_aload C LT2_ok rfl rfl rfl ?_
  refine lw_iload C LT2_ok rfl rfl rfl ?_
  refine lw_iconst (v := nI 3) C LT2_ok rfl (by decide) ?_
  refine lw_nadd C LT2_ok rfl ?_
  refine lw_sld C LT2_ok rfl (by omega) ?_
  refine lw_aload C LT2_ok rfl rfl rfl ?_
  refine lw_iload C LT2_ok rfl rfl rfl ?_
  refine lw_iconst (v := nI 4) C LT2_ok rfl (by decide) ?_
  refine lw_nadd C LT2_ok rfl ?_
  refine lw_sld C LT2_ok rfl (by omega) ?_
  refine lw_aload C LT2_ok rfl rfl rfl ?_
  refine lw_iload C LT2_ok rfl rfl rfl ?_
  refine lw_iconst (v := nI 5) C LT2_ok rfl (by decide) ?_
  refine lw_nadd C LT2_ok rfl ?_
  refine lw_sld C LT2_ok rfl (by omega) ?_
  refine lw_callV (S := []) spK C LT2_ok rfl ok_X9_addFact v_L_23 rfl rfl h0 rfl (Nat.le_of_ble_eq_true rfl) rfl (Nat.zero_le _) (Nat.le_of_ble_eq_true rfl) (Nat.le_of_ble_eq_true rfl) (fun r1 h1 hq => ?_)
  obtain ⟨h178, postR, spR, fin⟩ := go r1 h1 hq
  refine lw_aload C LT2_ok rfl rfl rfl ?_
  refine lw_aload C LT2_ok rfl rfl rfl ?_
  refine lw_iload C LT2_ok rfl rfl rfl ?_
  refine lw_iconst (v := nI 1) C LT2_ok rfl (by decide) ?_
  refine lw_nadd C LT2_ok rfl ?_
  refine lw_sld C LT2_ok rfl (by omega) ?_
  refine lw_aload C LT2_ok rfl rfl rfl ?_
  refine lw_iload C LT2_ok rfl rfl rfl ?_
  refine lw_iconst (v := nI 2) C LT2_ok rfl (by decide) ?_
  refine lw_nadd C LT2_ok rfl ?_
  refine lw_sld C LT2_ok rfl (by omega) ?_
  refine lw_aload C LT2_ok rfl rfl rfl ?_
  refine lw_iload C LT2_ok rfl rfl rfl ?_
  refine lw_iconst (v := nI 3) C LT2_ok rfl (by decide) ?_
  refine lw_nadd C LT2_ok rfl ?_
  refine lw_sld C LT2_ok rfl (by omega) ?_
  refine lw_aload C LT2_ok rfl rfl rfl ?_
  refine lw_iload C LT2_ok rfl rfl rfl ?_
  refine lw_iconst (v := nI 4) C LT2_ok rfl (by decide) ?_
  refine lw_nadd C LT2_ok rfl ?_
  refine lw_sld C LT2_ok rfl (by omega) ?_
  refine lw_aload C LT2_ok rfl rfl rfl ?_
  refine lw_iload C LT2_ok rfl rfl rfl ?_
  refine lw_iconst (v := nI 5) C LT2_ok rfl (by decide) ?_
  refine lw_nadd C LT2_ok rfl ?_
  refine lw_sld C LT2_ok rfl (by omega) ?_
  refine lw_callV (S := (r1.map (cvV G.2.1)).toList ++ []) spR C LT2_ok rfl ok_X10_addFact v_L_27 rfl rfl h178 rfl (Nat.le_of_ble_eq_true rfl) rfl (cat_le _ _) (Nat.le_of_ble_eq_true rfl) (Nat.le_of_ble_eq_true rfl) (fun r2 h2 hq2 => ?_)
  obtain ⟨e1, ⟨y, ⟨z, rfl⟩, e2⟩, hJ2⟩ := fin r2 h2 hq2
  rw [← e1, e2]
  show LwJ p l e s m below meth c b G 270 (lwL b i G) (.int z :: .int z :: []) h2 199 26283
  refine lw_same C LT2_ok rfl ?_
  exact k h2 hJ2
theorem lwo_3 (C : LC p s m meth c b L xs G) {i : Nat} (hi : i + 5 < L) {h : Nat → MC} (hJ : LJ h) (k : ∀ h2, LJ h2 → LwJ p l e s m below meth c b G 938 (lwL b i G) [] h2 199 26283) : LwJ p l e s m below meth c b G 275 (lwL b i G) [] h 199 26283 := by
  obtain ⟨D, hD, hK, hR⟩ := hJ
  obtain ⟨h0, postK, spK, go⟩ := op_removeFact (xs (i + 1)) hD hK hR
  refine lw_aload C LT3_ok rfl rfl rfl ?_
  refine lw_aload C LT3_ok rfl rfl rfl ?_
  refine lw_iload C LT3_ok rfl rfl rfl ?_
  refine lw_iconst (v := nI 1) C LT3_ok rfl (by decide) ?_
  refine lw_nadd C LT3_ok rfl ?_
  refine lw_sld C LT3_ok rfl (by omega) ?_
  refine lw_callV (S := []) spK C LT3_ok rfl ok_X9_removeFact v_L_28 rfl rfl h0 rfl (Nat.le_of_ble_eq_true rfl) rfl (Nat.zero_le _) (Nat.le_of_ble_eq_true rfl) (Nat.le_of_ble_eq_true rfl) (fun r1 h1 hq => ?_)
  obtain ⟨h178, postR, spR, fin⟩ := go r1 h1 hq
  refine lw_aload C LT3_ok rfl rfl rfl ?_
  refine lw_aload C LT3_ok rfl rfl rfl ?_
  refine lw_iload C LT3_ok rfl rfl rfl ?_
  refine lw_iconst (v := nI 1) C LT3_ok rfl (by decide) ?_
  refine lw_nadd C LT3_ok rfl ?_
  refine lw_sld C LT3_ok rfl (by omega) ?_
  refine lw_callV (S := (r1.map (cvV G.2.1)).toList ++ []) spR C LT3_ok rfl ok_X10_removeFact v_L_31 rfl rfl h178 rfl (Nat.le_of_ble_eq_true rfl) rfl (cat_le _ _) (Nat.le_of_ble_eq_true rfl) (Nat.le_of_ble_eq_true rfl) (fun r2 h2 hq2 => ?_)
  obtain ⟨e1, ⟨y, ⟨z, rfl⟩, e2⟩, hJ2⟩ := fin r2 h2 hq2
  rw [← e1, e2]
  show LwJ p l e s m below meth c b G 293 (lwL b i G) (.int z :: .int z :: []) h2 199 26283
  refine lw_same C LT3_ok rfl ?_
  exact k h2 hJ2
theorem lwo_4 (C : LC p s m meth c b L xs G) {i : Nat} (hi : i + 5 < L) {h : Nat → MC} (hJ : LJ h) (k : ∀ h2, LJ h2 → LwJ p l e s m below meth c b G 938 (lwL b i G) [] h2 199 26283) : LwJ p l e s m below meth c b G 298 (lwL b i G) [] h 199 26283 := by
  obtain ⟨D, hD, hK, hR⟩ := hJ
  obtain ⟨h0, postK, spK, go⟩ := op_facts hD hK hR
  refine lw_aload C LT4_ok rfl rfl rfl ?_
  refine lw_callV (S := []) spK C LT4_ok rfl ok_X9_facts v_L_32 rfl rfl h0 rfl (Nat.le_of_ble_eq_true rfl) rfl (Nat.zero_le _) (Nat.le_of_ble_eq_true rfl) (Nat.le_of_ble_eq_true rfl) (fun r1 h1 hq => ?_)
  obtain ⟨h178, postR, spR, fin⟩ := go r1 h1 hq
  refine lw_aload C LT4_ok rfl rfl rfl ?_
  refine lw_callV (S := (r1.map (cvV G.2.1)).toList ++ []) spR C LT4_ok rfl ok_X10_facts v_L_36 rfl rfl h178 rfl (Nat.le_of_ble_eq_true rfl) rfl (cat_le _ _) (Nat.le_of_ble_eq_true rfl) (Nat.le_of_ble_eq_true rfl) (fun r2 h2 hq2 => ?_)
  obtain ⟨e1, ⟨y, ⟨z, rfl⟩, e2⟩, hJ2⟩ := fin r2 h2 hq2
  rw [← e1, e2]
  show LwJ p l e s m below meth c b G 306 (lwL b i G) (.int z :: .int z :: []) h2 199 26283
  refine lw_same C LT4_ok rfl ?_
  exact k h2 hJ2
theorem lwo_5 (C : LC p s m meth c b L xs G) {i : Nat} (hi : i + 5 < L) {h : Nat → MC} (hJ : LJ h) (k : ∀ h2, LJ h2 → LwJ p l e s m below meth c b G 938 (lwL b i G) [] h2 199 26283) : LwJ p l e s m below meth c b G 311 (lwL b i G) [] h 199 26283 := by
  obtain ⟨D, hD, hK, hR⟩ := hJ
  obtain ⟨h0, postK, spK, go⟩ := op_removeRule (xs (i + 1)) hD hK hR
  refine lw_aload C LT5_ok rfl rfl rfl ?_
  refine lw_aload C LT5_ok rfl rfl rfl ?_
  refine lw_iload C LT5_ok rfl rfl rfl ?_
  refine lw_iconst (v := nI 1) C LT5_ok rfl (by decide) ?_
  refine lw_nadd C LT5_ok rfl ?_
  refine lw_sld C LT5_ok rfl (by omega) ?_
  refine lw_callV (S := []) spK C LT5_ok rfl ok_X9_removeRule v_L_37 rfl rfl h0 rfl (Nat.le_of_ble_eq_true rfl) rfl (Nat.zero_le _) (Nat.le_of_ble_eq_true rfl) (Nat.le_of_ble_eq_true rfl) (fun r1 h1 hq => ?_)
  obtain ⟨h178, postR, spR, fin⟩ := go r1 h1 hq
  refine lw_aload C LT5_ok rfl rfl rfl ?_
  refine lw_aload C LT5_ok rfl rfl rfl ?_
  refine lw_iload C LT5_ok rfl rfl rfl ?_
  refine lw_iconst (v := nI 1) C LT5_ok rfl (by decide) ?_
  refine lw_nadd C LT5_ok rfl ?_
  refine lw_sld C LT5_ok rfl (by omega) ?_
  refine lw_callV (S := (r1.map (cvV G.2.1)).toList ++ []) spR C LT5_ok rfl ok_X10_removeRule v_L_40 rfl rfl h178 rfl (Nat.le_of_ble_eq_true rfl) rfl (cat_le _ _) (Nat.le_of_ble_eq_true rfl) (Nat.le_of_ble_eq_true rfl) (fun r2 h2 hq2 => ?_)
  obtain ⟨e1, ⟨y, ⟨z, rfl⟩, e2⟩, hJ2⟩ := fin r2 h2 hq2
  rw [← e1, e2]
  show LwJ p l e s m below meth c b G 329 (lwL b i G) (.int z :: .int z :: []) h2 199 26283
  refine lw_same C LT5_ok rfl ?_
  exact k h2 hJ2
theorem lwo_6 (C : LC p s m meth c b L xs G) {i : Nat} (hi : i + 5 < L) {h : Nat → MC} (hJ : LJ h) (k : ∀ h2, LJ h2 → LwJ p l e s m below meth c b G 938 (lwL b i G) [] h2 199 26283) : LwJ p l e s m below meth c b G 334 (lwL b i G) [] h 199 26283 := by
  obtain ⟨D, hD, hK, hR⟩ := hJ
  obtain ⟨h0, postK, spK, go⟩ := op_rules hD hK hR
  refine lw_aload C LT6_ok rfl rfl rfl ?_
  refine lw_callV (S := []) spK C LT6_ok rfl ok_X9_rules v_L_41 rfl rfl h0 rfl (Nat.le_of_ble_eq_true rfl) rfl (Nat.zero_le _) (Nat.le_of_ble_eq_true rfl) (Nat.le_of_ble_eq_true rfl) (fun r1 h1 hq => ?_)
  obtain ⟨h178, postR, spR, fin⟩ := go r1 h1 hq
  refine lw_aload C LT6_ok rfl rfl rfl ?_
  refine lw_callV (S := (r1.map (cvV G.2.1)).toList ++ []) spR C LT6_ok rfl ok_X10_rules v_L_44 rfl rfl h178 rfl (Nat.le_of_ble_eq_true rfl) rfl (cat_le _ _) (Nat.le_of_ble_eq_true rfl) (Nat.le_of_ble_eq_true rfl) (fun r2 h2 hq2 => ?_)
  obtain ⟨e1, ⟨y, ⟨z, rfl⟩, e2⟩, hJ2⟩ := fin r2 h2 hq2
  rw [← e1, e2]
  show LwJ p l e s m below meth c b G 342 (lwL b i G) (.int z :: .int z :: []) h2 199 26283
  refine lw_same C LT6_ok rfl ?_
  exact k h2 hJ2
theorem lwo_7 (C : LC p s m meth c b L xs G) {i : Nat} (hi : i + 5 < L) {h : Nat → MC} (hJ : LJ h) (k : ∀ h2, LJ h2 → LwJ p l e s m below meth c b G 938 (lwL b i G) [] h2 199 26283) : LwJ p l e s m below meth c b G 347 (lwL b i G) [] h 199 26283 := by
  obtain ⟨D, hD, hK, hR⟩ := hJ
  obtain ⟨h0, postK, spK, go⟩ := op_append (xs (i + 1)) hD hK hR
  refine lw_aload C LT7_ok rfl rfl rfl ?_
  refine lw_aload C LT7_ok rfl rfl rfl ?_
  refine lw_iload C LT7_ok rfl rfl rfl ?_
  refine lw_iconst (v := nI 1) C LT7_ok rfl (by decide) ?_
  refine lw_nadd C LT7_ok rfl ?_
  refine lw_sld C LT7_ok rfl (by omega) ?_
  refine lw_callV (S := []) spK C LT7_ok rfl ok_X9_append v_L_45 rfl rfl h0 rfl (Nat.le_of_ble_eq_true rfl) rfl (Nat.zero_le _) (Nat.le_of_ble_eq_true rfl) (Nat.le_of_ble_eq_true rfl) (fun r1 h1 hq => ?_)
  obtain ⟨h178, postR, spR, fin⟩ := go r1 h1 hq
  refine lw_aload C LT7_ok rfl rfl rfl ?_
  refine lw_aload C LT7_ok rfl rfl rfl ?_
  refine lw_iload C LT7_ok rfl rfl rfl ?_
  refine lw_iconst (v := nI 1) C LT7_ok rfl (by decide) ?_
  refine lw_nadd C LT7_ok rfl ?_
  refine lw_sld C LT7_ok rfl (by omega) ?_
  refine lw_callV (S := (r1.map (cvV G.2.1)).toList ++ []) spR C LT7_ok rfl ok_X10_append v_L_48 rfl rfl h178 rfl (Nat.le_of_ble_eq_true rfl) rfl (cat_le _ _) (Nat.le_of_ble_eq_true rfl) (Nat.le_of_ble_eq_true rfl) (fun r2 h2 hq2 => ?_)
  obtain ⟨e1, ⟨y, ⟨z, rfl⟩, e2⟩, hJ2⟩ := fin r2 h2 hq2
  rw [← e1, e2]
  show LwJ p l e s m below meth c b G 365 (lwL b i G) (.int z :: .int z :: []) h2 199 26283
  refine lw_same C LT7_ok rfl ?_
  exact k h2 hJ2
theorem lwo_8 (C : LC p s m meth c b L xs G) {i : Nat} (hi : i + 5 < L) {h : Nat → MC} (hJ : LJ h) (k : ∀ h2, LJ h2 → LwJ p l e s m below meth c b G 938 (lwL b i G) [] h2 199 26283) : LwJ p l e s m below meth c b G 370 (lwL b i G) [] h 199 26283 := by
  obtain ⟨D, hD, hK, hR⟩ := hJ
  obtain ⟨h0, postK, spK, go⟩ := op_clearText hD hK hR
  refine lw_aload C LT8_ok rfl rfl rfl ?_
  refine lw_callV (S := []) spK C LT8_ok rfl ok_X9_clearText v_L_49 rfl rfl h0 rfl (Nat.le_of_ble_eq_true rfl) rfl (Nat.zero_le _) (Nat.le_of_ble_eq_true rfl) (Nat.le_of_ble_eq_true rfl) (fun r1 h1 hq => ?_)
  obtain ⟨h178, postR, spR, fin⟩ := go r1 h1 hq
  refine lw_aload C LT8_ok rfl rfl rfl ?_
  refine lw_callV (S := (r1.map (cvV G.2.1)).toList ++ []) spR C LT8_ok rfl ok_X10_clearText v_L_52 rfl rfl h178 rfl (Nat.le_of_ble_eq_true rfl) rfl (cat_le _ _) (Nat.le_of_ble_eq_true rfl) (Nat.le_of_ble_eq_true rfl) (fun r2 h2 hq2 => ?_)
  obtain ⟨e1, ⟨y, ⟨z, rfl⟩, e2⟩, hJ2⟩ := fin r2 h2 hq2
  rw [← e1, e2]
  show LwJ p l e s m below meth c b G 378 (lwL b i G) (.int z :: .int z :: []) h2 199 26283
  refine lw_same C LT8_ok rfl ?_
  exact k h2 hJ2
theorem lwo_9 (C : LC p s m meth c b L xs G) {i : Nat} (hi : i + 5 < L) {h : Nat → MC} (hJ : LJ h) (k : ∀ h2, LJ h2 → LwJ p l e s m below meth c b G 938 (lwL b i G) [] h2 199 26283) : LwJ p l e s m below meth c b G 383 (lwL b i G) [] h 199 26283 := by
  obtain ⟨D, hD, hK, hR⟩ := hJ
  obtain ⟨h0, postK, spK, go⟩ := op_fault hD hK hR
  refine lw_aload C LT9_ok rfl rfl rfl ?_
  refine lw_callV (S := []) spK C LT9_ok rfl ok_X9_faultPosition v_L_53 rfl rfl h0 rfl (Nat.le_of_ble_eq_true rfl) rfl (Nat.zero_le _) (Nat.le_of_ble_eq_true rfl) (Nat.le_of_ble_eq_true rfl) (fun r1 h1 hq => ?_)
  obtain ⟨h178, postR, spR, fin⟩ := go r1 h1 hq
  refine lw_aload C LT9_ok rfl rfl rfl ?_
  refine lw_callV (S := (r1.map (cvV G.2.1)).toList ++ []) spR C LT9_ok rfl ok_X10_faultPosition v_L_56 rfl rfl h178 rfl (Nat.le_of_ble_eq_true rfl) rfl (cat_le _ _) (Nat.le_of_ble_eq_true rfl) (Nat.le_of_ble_eq_true rfl) (fun r2 h2 hq2 => ?_)
  obtain ⟨e1, ⟨y, ⟨z, rfl⟩, e2⟩, hJ2⟩ := fin r2 h2 hq2
  rw [← e1, e2]
  show LwJ p l e s m below meth c b G 391 (lwL b i G) (.int z :: .int z :: []) h2 199 26283
  refine lw_same C LT9_ok rfl ?_
  exact k h2 hJ2
theorem lwo_10 (C : LC p s m meth c b L xs G) {i : Nat} (hi : i + 5 < L) {h : Nat → MC} (hJ : LJ h) (k : ∀ h2, LJ h2 → LwJ p l e s m below meth c b G 938 (lwL b i G) [] h2 199 26283) : LwJ p l e s m below meth c b G 396 (lwL b i G) [] h 199 26283 := by
  obtain ⟨D, hD, hK, hR⟩ := hJ
  obtain ⟨h0, postK, spK, go⟩ := op_addRule (xs (i + 1)) hD hK hR
  refine lw_aload C LT10_ok rfl rfl rfl ?_
  refine lw_aload C LT10_ok rfl rfl rfl ?_
  refine lw_iload C LT10_ok rfl rfl rfl ?_
  refine lw_iconst (v := nI 1) C LT10_ok rfl (by decide) ?_
  refine lw_nadd C LT10_ok rfl ?_
  refine lw_sld C LT10_ok rfl (by omega) ?_
  refine lw_callV (S := []) spK C LT10_ok rfl ok_X9_addRule v_L_57 rfl rfl h0 rfl (Nat.le_of_ble_eq_true rfl) rfl (Nat.zero_le _) (Nat.le_of_ble_eq_true rfl) (Nat.le_of_ble_eq_true rfl) (fun r1 h1 hq => ?_)
  obtain ⟨h178, postR, spR, fin⟩ := go r1 h1 hq
  refine lw_aload C LT10_ok rfl rfl rfl ?_
  refine lw_aload C LT10_ok rfl rfl rfl ?_
  refine lw_iload C LT10_ok rfl rfl rfl ?_
  refine lw_iconst (v := nI 1) C LT10_ok rfl (by decide) ?_
  refine lw_nadd C LT10_ok rfl ?_
  refine lw_sld C LT10_ok rfl (by omega) ?_
  refine lw_callV (S := (r1.map (cvV G.2.1)).toList ++ []) spR C LT10_ok rfl ok_X10_addRule v_L_60 rfl rfl h178 rfl (Nat.le_of_ble_eq_true rfl) rfl (cat_le _ _) (Nat.le_of_ble_eq_true rfl) (Nat.le_of_ble_eq_true rfl) (fun r2 h2 hq2 => ?_)
  obtain ⟨e1, ⟨y, ⟨z, rfl⟩, e2⟩, hJ2⟩ := fin r2 h2 hq2
  rw [← e1, e2]
  show LwJ p l e s m below meth c b G 414 (lwL b i G) (.int z :: .int z :: []) h2 199 26283
  refine lw_same C LT10_ok rfl ?_
  exact k h2 hJ2
theorem lwo_11 (C : LC p s m meth c b L xs G) {i : Nat} (hi : i + 5 < L) {h : Nat → MC} (hJ : LJ h) (k : ∀ h2, LJ h2 → LwJ p l e s m below meth c b G 938 (lwL b i G) [] h2 199 26283) : LwJ p l e s m below meth c b G 419 (lwL b i G) [] h 199 26283 := by
  obtain ⟨D, hD, hK, hR⟩ := hJ
  obtain ⟨h0, postK, spK, go⟩ := op_stratum (xs (i + 1)) hD hK hR
  refine lw_aload C LT11_ok rfl rfl rfl ?_
  refine lw_aload C LT11_ok rfl rfl rfl ?_
  refine lw_iload C LT11_ok rfl rfl rfl ?_
  refine lw_iconst (v := nI 1) C LT11_ok rfl (by decide) ?_
  refine lw_nadd C LT11_ok rfl ?_
  refine lw_sld C LT11_ok rfl (by omega) ?_
  refine lw_callV (S := []) spK C LT11_ok rfl ok_X9_stratum v_L_61 rfl rfl h0 rfl (Nat.le_of_ble_eq_true rfl) rfl (Nat.zero_le _) (Nat.le_of_ble_eq_true rfl) (Nat.le_of_ble_eq_true rfl) (fun r1 h1 hq => ?_)
  obtain ⟨h178, postR, spR, fin⟩ := go r1 h1 hq
  refine lw_aload C LT11_ok rfl rfl rfl ?_
  refine lw_aload C LT11_ok rfl rfl rfl ?_
  refine lw_iload C LT11_ok rfl rfl rfl ?_
  refine lw_iconst (v := nI 1) C LT11_ok rfl (by decide) ?_
  refine lw_nadd C LT11_ok rfl ?_
  refine lw_sld C LT11_ok rfl (by omega) ?_
  refine lw_callV (S := (r1.map (cvV G.2.1)).toList ++ []) spR C LT11_ok rfl ok_X10_stratum v_L_64 rfl rfl h178 rfl (Nat.le_of_ble_eq_true rfl) rfl (cat_le _ _) (Nat.le_of_ble_eq_true rfl) (Nat.le_of_ble_eq_true rfl) (fun r2 h2 hq2 => ?_)
  obtain ⟨e1, ⟨y, ⟨z, rfl⟩, e2⟩, hJ2⟩ := fin r2 h2 hq2
  rw [← e1, e2]
  show LwJ p l e s m below meth c b G 437 (lwL b i G) (.int z :: .int z :: []) h2 199 26283
  refine lw_same C LT11_ok rfl ?_
  exact k h2 hJ2
theorem lwo_12 (C : LC p s m meth c b L xs G) {i : Nat} (hi : i + 5 < L) {h : Nat → MC} (hJ : LJ h) (k : ∀ h2, LJ h2 → LwJ p l e s m below meth c b G 938 (lwL b i G) [] h2 199 26283) : LwJ p l e s m below meth c b G 442 (lwL b i G) [] h 199 26283 := by
  obtain ⟨D, hD, hK, hR⟩ := hJ
  obtain ⟨h0, postK, spK, go⟩ := op_size hD hK hR
  refine lw_aload C LT12_ok rfl rfl rfl ?_
  refine lw_callV (S := []) spK C LT12_ok rfl ok_X9_size v_L_65 rfl rfl h0 rfl (Nat.le_of_ble_eq_true rfl) rfl (Nat.zero_le _) (Nat.le_of_ble_eq_true rfl) (Nat.le_of_ble_eq_true rfl) (fun r1 h1 hq => ?_)
  obtain ⟨h178, postR, spR, fin⟩ := go r1 h1 hq
  refine lw_aload C LT12_ok rfl rfl rfl ?_
  refine lw_callV (S := (r1.map (cvV G.2.1)).toList ++ []) spR C LT12_ok rfl ok_X10_size v_L_68 rfl rfl h178 rfl (Nat.le_of_ble_eq_true rfl) rfl (cat_le _ _) (Nat.le_of_ble_eq_true rfl) (Nat.le_of_ble_eq_true rfl) (fun r2 h2 hq2 => ?_)
  obtain ⟨e1, ⟨y, ⟨z, rfl⟩, e2⟩, hJ2⟩ := fin r2 h2 hq2
  rw [← e1, e2]
  show LwJ p l e s m below meth c b G 450 (lwL b i G) (.int z :: .int z :: []) h2 199 26283
  refine lw_same C LT12_ok rfl ?_
  exact k h2 hJ2
theorem lwo_13 (C : LC p s m meth c b L xs G) {i : Nat} (hi : i + 5 < L) {h : Nat → MC} (hJ : LJ h) (k : ∀ h2, LJ h2 → LwJ p l e s m below meth c b G 938 (lwL b i G) [] h2 199 26283) : LwJ p l e s m below meth c b G 455 (lwL b i G) [] h 199 26283 := by
  obtain ⟨D, hD, hK, hR⟩ := hJ
  obtain ⟨h0, postK, spK, go⟩ := op_count (xs (i + 1)) hD hK hR
  refine lw_aload C LT13_ok rfl rfl rfl ?_
  refine lw_aload C LT13_ok rfl rfl rfl ?_
  refine lw_iload C LT13_ok rfl rfl rfl ?_
  refine lw_iconst (v := nI 1) C LT13_ok rfl (by decide) ?_
  refine lw_nadd C LT13_ok rfl ?_
  refine lw_sld C LT13_ok rfl (by omega) ?_
  refine lw_callV (S := []) spK C LT13_ok rfl ok_X9_count v_L_69 rfl rfl h0 rfl (Nat.le_of_ble_eq_true rfl) rfl (Nat.zero_le _) (Nat.le_of_ble_eq_true rfl) (Nat.le_of_ble_eq_true rfl) (fun r1 h1 hq => ?_)
  obtain ⟨h178, postR, spR, fin⟩ := go r1 h1 hq
  refine lw_aload C LT13_ok rfl rfl rfl ?_
  refine lw_aload C LT13_ok rfl rfl rfl ?_
  refine lw_iload C LT13_ok rfl rfl rfl ?_
  refine lw_iconst (v := nI 1) C LT13_ok rfl (by decide) ?_
  refine lw_nadd C LT13_ok rfl ?_
  refine lw_sld C LT13_ok rfl (by omega) ?_
  refine lw_callV (S := (r1.map (cvV G.2.1)).toList ++ []) spR C LT13_ok rfl ok_X10_count v_L_72 rfl rfl h178 rfl (Nat.le_of_ble_eq_true rfl) rfl (cat_le _ _) (Nat.le_of_ble_eq_true rfl) (Nat.le_of_ble_eq_true rfl) (fun r2 h2 hq2 => ?_)
  obtain ⟨e1, ⟨y, ⟨z, rfl⟩, e2⟩, hJ2⟩ := fin r2 h2 hq2
  rw [← e1, e2]
  show LwJ p l e s m below meth c b G 473 (lwL b i G) (.int z :: .int z :: []) h2 199 26283
  refine lw_same C LT13_ok rfl ?_
  exact k h2 hJ2
theorem lwo_14 (C : LC p s m meth c b L xs G) {i : Nat} (hi : i + 5 < L) {h : Nat → MC} (hJ : LJ h) (k : ∀ h2, LJ h2 → LwJ p l e s m below meth c b G 938 (lwL b i G) [] h2 199 26283) : LwJ p l e s m below meth c b G 478 (lwL b i G) [] h 199 26283 := by
  obtain ⟨D, hD, hK, hR⟩ := hJ
  obtain ⟨h0, postK, spK, go⟩ := op_rounds hD hK hR
  refine lw_aload C LT14_ok rfl rfl rfl ?_
  refine lw_callV (S := []) spK C LT14_ok rfl ok_X9_rounds v_L_73 rfl rfl h0 rfl (Nat.le_of_ble_eq_true rfl) rfl (Nat.zero_le _) (Nat.le_of_ble_eq_true rfl) (Nat.le_of_ble_eq_true rfl) (fun r1 h1 hq => ?_)
  obtain ⟨h178, postR, spR, fin⟩ := go r1 h1 hq
  refine lw_aload C LT14_ok rfl rfl rfl ?_
  refine lw_callV (S := (r1.map (cvV G.2.1)).toList ++ []) spR C LT14_ok rfl ok_X10_rounds v_L_76 rfl rfl h178 rfl (Nat.le_of_ble_eq_true rfl) rfl (cat_le _ _) (Nat.le_of_ble_eq_true rfl) (Nat.le_of_ble_eq_true rfl) (fun r2 h2 hq2 => ?_)
  obtain ⟨e1, ⟨y, ⟨z, rfl⟩, e2⟩, hJ2⟩ := fin r2 h2 hq2
  rw [← e1, e2]
  show LwJ p l e s m below meth c b G 486 (lwL b i G) (.int z :: .int z :: []) h2 199 26283
  refine lw_same C LT14_ok rfl ?_
  exact k h2 hJ2
theorem lwo_15 (C : LC p s m meth c b L xs G) {i : Nat} (hi : i + 5 < L) {h : Nat → MC} (hJ : LJ h) (k : ∀ h2, LJ h2 → LwJ p l e s m below meth c b G 938 (lwL b i G) [] h2 199 26283) : LwJ p l e s m below meth c b G 491 (lwL b i G) [] h 199 26283 := by
  obtain ⟨D, hD, hK, hR⟩ := hJ
  obtain ⟨h0, postK, spK, go⟩ := op_round (xs (i + 1)) (xs (i + 2)) (xs (i + 3)) hD hK hR
  refine lw_aload C LT15_ok rfl rfl rfl ?_
  refine lw_aload C LT15_ok rfl rfl rfl ?_
  refine lw_iload C LT15_ok rfl rfl rfl ?_
  refine lw_iconst (v := nI 1) C LT15_ok rfl (by decide) ?_
  refine lw_nadd C LT15_ok rfl ?_
  refine lw_sld C LT15_ok rfl (by omega) ?_
  refine lw_aload C LT15_ok rfl rfl rfl ?_
  refine lw_iload C LT15_ok rfl rfl rfl ?_
  refine lw_iconst (v := nI 2) C LT15_ok rfl (by decide) ?_
  refine lw_nadd C LT15_ok rfl ?_
  refine lw_sld C LT15_ok rfl (by omega) ?_
  refine lw_aload C LT15_ok rfl rfl rfl ?_
  refine lw_iload C LT15_ok rfl rfl rfl ?_
  refine lw_iconst (v := nI 3) C LT15_ok rfl (by decide) ?_
  refine lw_nadd C LT15_ok rfl ?_
  refine lw_sld C LT15_ok rfl (by omega) ?_
  refine lw_callV (S := []) spK C LT15_ok rfl ok_X9_round v_L_77 rfl rfl h0 rfl (Nat.le_of_ble_eq_true rfl) rfl (Nat.zero_le _) (Nat.le_of_ble_eq_true rfl) (Nat.le_of_ble_eq_true rfl) (fun r1 h1 hq => ?_)
  obtain ⟨h178, postR, spR, fin⟩ := go r1 h1 hq
  refine lw_aload C LT15_ok rfl rfl rfl ?_
  refine lw_aload C LT15_ok rfl rfl rfl ?_
  refine lw_iload C LT15_ok rfl rfl rfl ?_
  refine lw_iconst (v := nI 1) C LT15_ok rfl (by decide) ?_
  refine lw_nadd C LT15_ok rfl ?_
  refine lw_sld C LT15_ok rfl (by omega) ?_
  refine lw_aload C LT15_ok rfl rfl rfl ?_
  refine lw_iload C LT15_ok rfl rfl rfl ?_
  refine lw_iconst (v := nI 2) C LT15_ok rfl (by decide) ?_
  refine lw_nadd C LT15_ok rfl ?_
  refine lw_sld C LT15_ok rfl (by omega) ?_
  refine lw_aload C LT15_ok rfl rfl rfl ?_
  refine lw_iload C LT15_ok rfl rfl rfl ?_
  refine lw_iconst (v := nI 3) C LT15_ok rfl (by decide) ?_
  refine lw_nadd C LT15_ok rfl ?_
  refine lw_sld C LT15_ok rfl (by omega) ?_
  refine lw_callV (S := (r1.map (cvV G.2.1)).toList ++ []) spR C LT15_ok rfl ok_X10_round v_L_81 rfl rfl h178 rfl (Nat.le_of_ble_eq_true rfl) rfl (cat_le _ _) (Nat.le_of_ble_eq_true rfl) (Nat.le_of_ble_eq_true rfl) (fun r2 h2 hq2 => ?_)
  obtain ⟨e1, ⟨y, ⟨z, rfl⟩, e2⟩, hJ2⟩ := fin r2 h2 hq2
  rw [← e1, e2]
  show LwJ p l e s m below meth c b G 529 (lwL b i G) (.int z :: .int z :: []) h2 199 26283
  refine lw_same C LT15_ok rfl ?_
  exact k h2 hJ2
theorem lwo_16 (C : LC p s m meth c b L xs G) {i : Nat} (hi : i + 5 < L) {h : Nat → MC} (hJ : LJ h) (k : ∀ h2, LJ h2 → LwJ p l e s m below meth c b G 938 (lwL b i G) [] h2 199 26283) : LwJ p l e s m below meth c b G 534 (lwL b i G) [] h 199 26283 := by
  obtain ⟨D, hD, hK, hR⟩ := hJ
  obtain ⟨h0, postK, spK, go⟩ := op_instances (xs (i + 1)) (xs (i + 2)) (xs (i + 3)) hD hK hR
  refine lw_aload C LT16_ok rfl rfl rfl ?_
  refine lw_aload C LT16_ok rfl rfl rfl ?_
  refine lw_iload C LT16_ok rfl rfl rfl ?_
  refine lw_iconst (v := nI 1) C LT16_ok rfl (by decide) ?_
  refine lw_nadd C LT16_ok rfl ?_
  refine lw_sld C LT16_ok rfl (by omega) ?_
  refine lw_aload C LT16_ok rfl rfl rfl ?_
  refine lw_iload C LT16_ok rfl rfl rfl ?_
  refine lw_iconst (v := nI 2) C LT16_ok rfl (by decide) ?_
  refine lw_nadd C LT16_ok rfl ?_
  refine lw_sld C LT16_ok rfl (by omega) ?_
  refine lw_aload C LT16_ok rfl rfl rfl ?_
  refine lw_iload C LT16_ok rfl rfl rfl ?_
  refine lw_iconst (v := nI 3) C LT16_ok rfl (by decide) ?_
  refine lw_nadd C LT16_ok rfl ?_
  refine lw_sld C LT16_ok rfl (by omega) ?_
  refine lw_callV (S := []) spK C LT16_ok rfl ok_X9_instances v_L_82 rfl rfl h0 rfl (Nat.le_of_ble_eq_true rfl) rfl (Nat.zero_le _) (Nat.le_of_ble_eq_true rfl) (Nat.le_of_ble_eq_true rfl) (fun r1 h1 hq => ?_)
  obtain ⟨h178, postR, spR, fin⟩ := go r1 h1 hq
  refine lw_aload C LT16_ok rfl rfl rfl ?_
  refine lw_aload C LT16_ok rfl rfl rfl ?_
  refine lw_iload C LT16_ok rfl rfl rfl ?_
  refine lw_iconst (v := nI 1) C LT16_ok rfl (by decide) ?_
  refine lw_nadd C LT16_ok rfl ?_
  refine lw_sld C LT16_ok rfl (by omega) ?_
  refine lw_aload C LT16_ok rfl rfl rfl ?_
  refine lw_iload C LT16_ok rfl rfl rfl ?_
  refine lw_iconst (v := nI 2) C LT16_ok rfl (by decide) ?_
  refine lw_nadd C LT16_ok rfl ?_
  refine lw_sld C LT16_ok rfl (by omega) ?_
  refine lw_aload C LT16_ok rfl rfl rfl ?_
  refine lw_iload C LT16_ok rfl rfl rfl ?_
  refine lw_iconst (v := nI 3) C LT16_ok rfl (by decide) ?_
  refine lw_nadd C LT16_ok rfl ?_
  refine lw_sld C LT16_ok rfl (by omega) ?_
  refine lw_callV (S := (r1.map (cvV G.2.1)).toList ++ []) spR C LT16_ok rfl ok_X10_instances v_L_85 rfl rfl h178 rfl (Nat.le_of_ble_eq_true rfl) rfl (cat_le _ _) (Nat.le_of_ble_eq_true rfl) (Nat.le_of_ble_eq_true rfl) (fun r2 h2 hq2 => ?_)
  obtain ⟨e1, ⟨y, ⟨z, rfl⟩, e2⟩, hJ2⟩ := fin r2 h2 hq2
  rw [← e1, e2]
  show LwJ p l e s m below meth c b G 572 (lwL b i G) (.int z :: .int z :: []) h2 199 26283
  refine lw_same C LT16_ok rfl ?_
  exact k h2 hJ2
theorem lwo_17 (C : LC p s m meth c b L xs G) {i : Nat} (hi : i + 5 < L) {h : Nat → MC} (hJ : LJ h) (k : ∀ h2, LJ h2 → LwJ p l e s m below meth c b G 938 (lwL b i G) [] h2 199 26283) : LwJ p l e s m below meth c b G 577 (lwL b i G) [] h 199 26283 := by
  obtain ⟨D, hD, hK, hR⟩ := hJ
  obtain ⟨h0, postK, spK, go⟩ := op_cost (xs (i + 1)) (xs (i + 2)) (xs (i + 3)) hD hK hR
  refine lw_aload C LT17_ok rfl rfl rfl ?_
  refine lw_aload C LT17_ok rfl rfl rfl ?_
  refine lw_iload C LT17_ok rfl rfl rfl ?_
  refine lw_iconst (v := nI 1) C LT17_ok rfl (by decide) ?_
  refine lw_nadd C LT17_ok rfl ?_
  refine lw_sld C LT17_ok rfl (by omega) ?_
  refine lw_aload C LT17_ok rfl rfl rfl ?_
  refine lw_iload C LT17_ok rfl rfl rfl ?_
  refine lw_iconst (v := nI 2) C LT17_ok rfl (by decide) ?_
  refine lw_nadd C LT17_ok rfl ?_
  refine lw_sld C LT17_ok rfl (by omega) ?_
  refine lw_aload C LT17_ok rfl rfl rfl ?_
  refine lw_iload C LT17_ok rfl rfl rfl ?_
  refine lw_iconst (v := nI 3) C LT17_ok rfl (by decide) ?_
  refine lw_nadd C LT17_ok rfl ?_
  refine lw_sld C LT17_ok rfl (by omega) ?_
  refine lw_callV (S := []) spK C LT17_ok rfl ok_X9_cost v_L_86 rfl rfl h0 rfl (Nat.le_of_ble_eq_true rfl) rfl (Nat.zero_le _) (Nat.le_of_ble_eq_true rfl) (Nat.le_of_ble_eq_true rfl) (fun r1 h1 hq => ?_)
  obtain ⟨h178, postR, spR, fin⟩ := go r1 h1 hq
  refine lw_aload C LT17_ok rfl rfl rfl ?_
  refine lw_aload C LT17_ok rfl rfl rfl ?_
  refine lw_iload C LT17_ok rfl rfl rfl ?_
  refine lw_iconst (v := nI 1) C LT17_ok rfl (by decide) ?_
  refine lw_nadd C LT17_ok rfl ?_
  refine lw_sld C LT17_ok rfl (by omega) ?_
  refine lw_aload C LT17_ok rfl rfl rfl ?_
  refine lw_iload C LT17_ok rfl rfl rfl ?_
  refine lw_iconst (v := nI 2) C LT17_ok rfl (by decide) ?_
  refine lw_nadd C LT17_ok rfl ?_
  refine lw_sld C LT17_ok rfl (by omega) ?_
  refine lw_aload C LT17_ok rfl rfl rfl ?_
  refine lw_iload C LT17_ok rfl rfl rfl ?_
  refine lw_iconst (v := nI 3) C LT17_ok rfl (by decide) ?_
  refine lw_nadd C LT17_ok rfl ?_
  refine lw_sld C LT17_ok rfl (by omega) ?_
  refine lw_callV (S := (r1.map (cvV G.2.1)).toList ++ []) spR C LT17_ok rfl ok_X10_cost v_L_89 rfl rfl h178 rfl (Nat.le_of_ble_eq_true rfl) rfl (cat_le _ _) (Nat.le_of_ble_eq_true rfl) (Nat.le_of_ble_eq_true rfl) (fun r2 h2 hq2 => ?_)
  obtain ⟨e1, ⟨y, ⟨z, rfl⟩, e2⟩, hJ2⟩ := fin r2 h2 hq2
  rw [← e1, e2]
  show LwJ p l e s m below meth c b G 615 (lwL b i G) (.int z :: .int z :: []) h2 199 26283
  refine lw_same C LT17_ok rfl ?_
  exact k h2 hJ2
theorem lwo_18 (C : LC p s m meth c b L xs G) {i : Nat} (hi : i + 5 < L) {h : Nat → MC} (hJ : LJ h) (k : ∀ h2, LJ h2 → LwJ p l e s m below meth c b G 938 (lwL b i G) [] h2 199 26283) : LwJ p l e s m below meth c b G 620 (lwL b i G) [] h 199 26283 := by
  obtain ⟨D, hD, hK, hR⟩ := hJ
  obtain ⟨h0, postK, spK, go⟩ := op_likelihood (xs (i + 1)) (xs (i + 2)) (xs (i + 3)) hD hK hR
  refine lw_aload C LT18_ok rfl rfl rfl ?_
  refine lw_aload C LT18_ok rfl rfl rfl ?_
  refine lw_iload C LT18_ok rfl rfl rfl ?_
  refine lw_iconst (v := nI 1) C LT18_ok rfl (by decide) ?_
  refine lw_nadd C LT18_ok rfl ?_
  refine lw_sld C LT18_ok rfl (by omega) ?_
  refine lw_aload C LT18_ok rfl rfl rfl ?_
  refine lw_iload C LT18_ok rfl rfl rfl ?_
  refine lw_iconst (v := nI 2) C LT18_ok rfl (by decide) ?_
  refine lw_nadd C LT18_ok rfl ?_
  refine lw_sld C LT18_ok rfl (by omega) ?_
  refine lw_aload C LT18_ok rfl rfl rfl ?_
  refine lw_iload C LT18_ok rfl rfl rfl ?_
  refine lw_iconst (v := nI 3) C LT18_ok rfl (by decide) ?_
  refine lw_nadd C LT18_ok rfl ?_
  refine lw_sld C LT18_ok rfl (by omega) ?_
  refine lw_callV (S := []) spK C LT18_ok rfl ok_X9_likelihood v_L_90 rfl rfl h0 rfl (Nat.le_of_ble_eq_true rfl) rfl (Nat.zero_le _) (Nat.le_of_ble_eq_true rfl) (Nat.le_of_ble_eq_true rfl) (fun r1 h1 hq => ?_)
  obtain ⟨h178, postR, spR, fin⟩ := go r1 h1 hq
  refine lw_aload C LT18_ok rfl rfl rfl ?_
  refine lw_aload C LT18_ok rfl rfl rfl ?_
  refine lw_iload C LT18_ok rfl rfl rfl ?_
  refine lw_iconst (v := nI 1) C LT18_ok rfl (by decide) ?_
  refine lw_nadd C LT18_ok rfl ?_
  refine lw_sld C LT18_ok rfl (by omega) ?_
  refine lw_aload C LT18_ok rfl rfl rfl ?_
  refine lw_iload C LT18_ok rfl rfl rfl ?_
  refine lw_iconst (v := nI 2) C LT18_ok rfl (by decide) ?_
  refine lw_nadd C LT18_ok rfl ?_
  refine lw_sld C LT18_ok rfl (by omega) ?_
  refine lw_aload C LT18_ok rfl rfl rfl ?_
  refine lw_iload C LT18_ok rfl rfl rfl ?_
  refine lw_iconst (v := nI 3) C LT18_ok rfl (by decide) ?_
  refine lw_nadd C LT18_ok rfl ?_
  refine lw_sld C LT18_ok rfl (by omega) ?_
  refine lw_callV (S := (r1.map (cvV G.2.1)).toList ++ []) spR C LT18_ok rfl ok_X10_likelihood v_L_93 rfl rfl h178 rfl (Nat.le_of_ble_eq_true rfl) rfl (cat_le _ _) (Nat.le_of_ble_eq_true rfl) (Nat.le_of_ble_eq_true rfl) (fun r2 h2 hq2 => ?_)
  obtain ⟨e1, ⟨y, ⟨z, rfl⟩, e2⟩, hJ2⟩ := fin r2 h2 hq2
  rw [← e1, e2]
  show LwJ p l e s m below meth c b G 658 (lwL b i G) (.int z :: .int z :: []) h2 199 26283
  refine lw_same C LT18_ok rfl ?_
  exact k h2 hJ2
theorem lwo_19 (C : LC p s m meth c b L xs G) {i : Nat} (hi : i + 5 < L) {h : Nat → MC} (hJ : LJ h) (k : ∀ h2, LJ h2 → LwJ p l e s m below meth c b G 938 (lwL b i G) [] h2 199 26283) : LwJ p l e s m below meth c b G 663 (lwL b i G) [] h 199 26283 := by
  obtain ⟨D, hD, hK, hR⟩ := hJ
  obtain ⟨h0, postK, spK, go⟩ := op_least (xs (i + 1)) (xs (i + 2)) (xs (i + 3)) (xs (i + 4)) hD hK hR
  refine lw_aload C LT19_ok rfl rfl rfl ?_
  refine lw_aload C LT19_ok rfl rfl rfl ?_
  refine lw_iload C LT19_ok rfl rfl rfl ?_
  refine lw_iconst (v := nI 1) C LT19_ok rfl (by decide) ?_
  refine lw_nadd C LT19_ok rfl ?_
  refine lw_sld C LT19_ok rfl (by omega) ?_
  refine lw_aload C LT19_ok rfl rfl rfl ?_
  refine lw_iload C LT19_ok rfl rfl rfl ?_
  refine lw_iconst (v := nI 2) C LT19_ok rfl (by decide) ?_
  refine lw_nadd C LT19_ok rfl ?_
  refine lw_sld C LT19_ok rfl (by omega) ?_
  refine lw_aload C LT19_ok rfl rfl rfl ?_
  refine lw_iload C LT19_ok rfl rfl rfl ?_
  refine lw_iconst (v := nI 3) C LT19_ok rfl (by decide) ?_
  refine lw_nadd C LT19_ok rfl ?_
  refine lw_sld C LT19_ok rfl (by omega) ?_
  refine lw_aload C LT19_ok rfl rfl rfl ?_
  refine lw_iload C LT19_ok rfl rfl rfl ?_
  refine lw_iconst (v := nI 4) C LT19_ok rfl (by decide) ?_
  refine lw_nadd C LT19_ok rfl ?_
  refine lw_sld C LT19_ok rfl (by omega) ?_
  refine lw_callV (S := []) spK C LT19_ok rfl ok_X9_least v_L_94 rfl rfl h0 rfl (Nat.le_of_ble_eq_true rfl) rfl (Nat.zero_le _) (Nat.le_of_ble_eq_true rfl) (Nat.le_of_ble_eq_true rfl) (fun r1 h1 hq => ?_)
  obtain ⟨h178, postR, spR, fin⟩ := go r1 h1 hq
  refine lw_aload C LT19_ok rfl rfl rfl ?_
  refine lw_aload C LT19_ok rfl rfl rfl ?_
  refine lw_iload C LT19_ok rfl rfl rfl ?_
  refine lw_iconst (v := nI 1) C LT19_ok rfl (by decide) ?_
  refine lw_nadd C LT19_ok rfl ?_
  refine lw_sld C LT19_ok rfl (by omega) ?_
  refine lw_aload C LT19_ok rfl rfl rfl ?_
  refine lw_iload C LT19_ok rfl rfl rfl ?_
  refine lw_iconst (v := nI 2) C LT19_ok rfl (by decide) ?_
  refine lw_nadd C LT19_ok rfl ?_
  refine lw_sld C LT19_ok rfl (by omega) ?_
  refine lw_aload C LT19_ok rfl rfl rfl ?_
  refine lw_iload C LT19_ok rfl rfl rfl ?_
  refine lw_iconst (v := nI 3) C LT19_ok rfl (by decide) ?_
  refine lw_nadd C LT19_ok rfl ?_
  refine lw_sld C LT19_ok rfl (by omega) ?_
  refine lw_aload C LT19_ok rfl rfl rfl ?_
  refine lw_iload C LT19_ok rfl rfl rfl ?_
  refine lw_iconst (v := nI 4) C LT19_ok rfl (by decide) ?_
  refine lw_nadd C LT19_ok rfl ?_
  refine lw_sld C LT19_ok rfl (by omega) ?_
  refine lw_callV (S := (r1.map (cvV G.2.1)).toList ++ []) spR C LT19_ok rfl ok_X10_least v_L_98 rfl rfl h178 rfl (Nat.le_of_ble_eq_true rfl) rfl (cat_le _ _) (Nat.le_of_ble_eq_true rfl) (Nat.le_of_ble_eq_true rfl) (fun r2 h2 hq2 => ?_)
  obtain ⟨e1, ⟨y, ⟨z, rfl⟩, e2⟩, hJ2⟩ := fin r2 h2 hq2
  rw [← e1, e2]
  show LwJ p l e s m below meth c b G 711 (lwL b i G) (.int z :: .int z :: []) h2 199 26283
  refine lw_same C LT19_ok rfl ?_
  exact k h2 hJ2
theorem lwo_20 (C : LC p s m meth c b L xs G) {i : Nat} (hi : i + 5 < L) {h : Nat → MC} (hJ : LJ h) (k : ∀ h2, LJ h2 → LwJ p l e s m below meth c b G 938 (lwL b i G) [] h2 199 26283) : LwJ p l e s m below meth c b G 716 (lwL b i G) [] h 199 26283 := by
  obtain ⟨D, hD, hK, hR⟩ := hJ
  obtain ⟨h0, postK, spK, go⟩ := op_needs (xs (i + 1)) (xs (i + 2)) (xs (i + 3)) hD hK hR
  refine lw_aload C LT20_ok rfl rfl rfl ?_
  refine lw_aload C LT20_ok rfl rfl rfl ?_
  refine lw_iload C LT20_ok rfl rfl rfl ?_
  refine lw_iconst (v := nI 1) C LT20_ok rfl (by decide) ?_
  refine lw_nadd C LT20_ok rfl ?_
  refine lw_sld C LT20_ok rfl (by omega) ?_
  refine lw_aload C LT20_ok rfl rfl rfl ?_
  refine lw_iload C LT20_ok rfl rfl rfl ?_
  refine lw_iconst (v := nI 2) C LT20_ok rfl (by decide) ?_
  refine lw_nadd C LT20_ok rfl ?_
  refine lw_sld C LT20_ok rfl (by omega) ?_
  refine lw_aload C LT20_ok rfl rfl rfl ?_
  refine lw_iload C LT20_ok rfl rfl rfl ?_
  refine lw_iconst (v := nI 3) C LT20_ok rfl (by decide) ?_
  refine lw_nadd C LT20_ok rfl ?_
  refine lw_sld C LT20_ok rfl (by omega) ?_
  refine lw_callV (S := []) spK C LT20_ok rfl ok_X9_needs v_L_99 rfl rfl h0 rfl (Nat.le_of_ble_eq_true rfl) rfl (Nat.zero_le _) (Nat.le_of_ble_eq_true rfl) (Nat.le_of_ble_eq_true rfl) (fun r1 h1 hq => ?_)
  obtain ⟨h178, postR, spR, fin⟩ := go r1 h1 hq
  refine lw_aload C LT20_ok rfl rfl rfl ?_
  refine lw_aload C LT20_ok rfl rfl rfl ?_
  refine lw_iload C LT20_ok rfl rfl rfl ?_
  refine lw_iconst (v := nI 1) C LT20_ok rfl (by decide) ?_
  refine lw_nadd C LT20_ok rfl ?_
  refine lw_sld C LT20_ok rfl (by omega) ?_
  refine lw_aload C LT20_ok rfl rfl rfl ?_
  refine lw_iload C LT20_ok rfl rfl rfl ?_
  refine lw_iconst (v := nI 2) C LT20_ok rfl (by decide) ?_
  refine lw_nadd C LT20_ok rfl ?_
  refine lw_sld C LT20_ok rfl (by omega) ?_
  refine lw_aload C LT20_ok rfl rfl rfl ?_
  refine lw_iload C LT20_ok rfl rfl rfl ?_
  refine lw_iconst (v := nI 3) C LT20_ok rfl (by decide) ?_
  refine lw_nadd C LT20_ok rfl ?_
  refine lw_sld C LT20_ok rfl (by omega) ?_
  refine lw_callV (S := (r1.map (cvV G.2.1)).toList ++ []) spR C LT20_ok rfl ok_X10_needs v_L_102 rfl rfl h178 rfl (Nat.le_of_ble_eq_true rfl) rfl (cat_le _ _) (Nat.le_of_ble_eq_true rfl) (Nat.le_of_ble_eq_true rfl) (fun r2 h2 hq2 => ?_)
  obtain ⟨e1, ⟨y, ⟨z, rfl⟩, e2⟩, hJ2⟩ := fin r2 h2 hq2
  rw [← e1, e2]
  show LwJ p l e s m below meth c b G 754 (lwL b i G) (.int z :: .int z :: []) h2 199 26283
  refine lw_same C LT20_ok rfl ?_
  exact k h2 hJ2
theorem lwo_21 (C : LC p s m meth c b L xs G) {i : Nat} (hi : i + 5 < L) {h : Nat → MC} (hJ : LJ h) (k : ∀ h2, LJ h2 → LwJ p l e s m below meth c b G 938 (lwL b i G) [] h2 199 26283) : LwJ p l e s m below meth c b G 759 (lwL b i G) [] h 199 26283 := by
  obtain ⟨D, hD, hK, hR⟩ := hJ
  obtain ⟨h0, postK, spK, go⟩ := op_cut (xs (i + 1)) (xs (i + 2)) (xs (i + 3)) hD hK hR
  refine lw_aload C LT21_ok rfl rfl rfl ?_
  refine lw_aload C LT21_ok rfl rfl rfl ?_
  refine lw_iload C LT21_ok rfl rfl rfl ?_
  refine lw_iconst (v := nI 1) C LT21_ok rfl (by decide) ?_
  refine lw_nadd C LT21_ok rfl ?_
  refine lw_sld C LT21_ok rfl (by omega) ?_
  refine lw_aload C LT21_ok rfl rfl rfl ?_
  refine lw_iload C LT21_ok rfl rfl rfl ?_
  refine lw_iconst (v := nI 2) C LT21_ok rfl (by decide) ?_
  refine lw_nadd C LT21_ok rfl ?_
  refine lw_sld C LT21_ok rfl (by omega) ?_
  refine lw_aload C LT21_ok rfl rfl rfl ?_
  refine lw_iload C LT21_ok rfl rfl rfl ?_
  refine lw_iconst (v := nI 3) C LT21_ok rfl (by decide) ?_
  refine lw_nadd C LT21_ok rfl ?_
  refine lw_sld C LT21_ok rfl (by omega) ?_
  refine lw_callV (S := []) spK C LT21_ok rfl ok_X9_cut v_L_103 rfl rfl h0 rfl (Nat.le_of_ble_eq_true rfl) rfl (Nat.zero_le _) (Nat.le_of_ble_eq_true rfl) (Nat.le_of_ble_eq_true rfl) (fun r1 h1 hq => ?_)
  obtain ⟨h178, postR, spR, fin⟩ := go r1 h1 hq
  refine lw_aload C LT21_ok rfl rfl rfl ?_
  refine lw_aload C LT21_ok rfl rfl rfl ?_
  refine lw_iload C LT21_ok rfl rfl rfl ?_
  refine lw_iconst (v := nI 1) C LT21_ok rfl (by decide) ?_
  refine lw_nadd C LT21_ok rfl ?_
  refine lw_sld C LT21_ok rfl (by omega) ?_
  refine lw_aload C LT21_ok rfl rfl rfl ?_
  refine lw_iload C LT21_ok rfl rfl rfl ?_
  refine lw_iconst (v := nI 2) C LT21_ok rfl (by decide) ?_
  refine lw_nadd C LT21_ok rfl ?_
  refine lw_sld C LT21_ok rfl (by omega) ?_
  refine lw_aload C LT21_ok rfl rfl rfl ?_
  refine lw_iload C LT21_ok rfl rfl rfl ?_
  refine lw_iconst (v := nI 3) C LT21_ok rfl (by decide) ?_
  refine lw_nadd C LT21_ok rfl ?_
  refine lw_sld C LT21_ok rfl (by omega) ?_
  refine lw_callV (S := (r1.map (cvV G.2.1)).toList ++ []) spR C LT21_ok rfl ok_X10_cut v_L_106 rfl rfl h178 rfl (Nat.le_of_ble_eq_true rfl) rfl (cat_le _ _) (Nat.le_of_ble_eq_true rfl) (Nat.le_of_ble_eq_true rfl) (fun r2 h2 hq2 => ?_)
  obtain ⟨e1, ⟨y, ⟨z, rfl⟩, e2⟩, hJ2⟩ := fin r2 h2 hq2
  rw [← e1, e2]
  show LwJ p l e s m below meth c b G 797 (lwL b i G) (.int z :: .int z :: []) h2 199 26283
  refine lw_same C LT21_ok rfl ?_
  exact k h2 hJ2
theorem lwo_22 (C : LC p s m meth c b L xs G) {i : Nat} (hi : i + 5 < L) {h : Nat → MC} (hJ : LJ h) (k : ∀ h2, LJ h2 → LwJ p l e s m below meth c b G 938 (lwL b i G) [] h2 199 26283) : LwJ p l e s m below meth c b G 802 (lwL b i G) [] h 199 26283 := by
  obtain ⟨D, hD, hK, hR⟩ := hJ
  obtain ⟨h0, postK, spK, go⟩ := op_sizeWithout (xs (i + 1)) hD hK hR
  refine lw_aload C LT22_ok rfl rfl rfl ?_
  refine lw_aload C LT22_ok rfl rfl rfl ?_
  refine lw_iload C LT22_ok rfl rfl rfl ?_
  refine lw_iconst (v := nI 1) C LT22_ok rfl (by decide) ?_
  refine lw_nadd C LT22_ok rfl ?_
  refine lw_sld C LT22_ok rfl (by omega) ?_
  refine lw_callV (S := []) spK C LT22_ok rfl ok_X9_sizeWithout v_L_107 rfl rfl h0 rfl (Nat.le_of_ble_eq_true rfl) rfl (Nat.zero_le _) (Nat.le_of_ble_eq_true rfl) (Nat.le_of_ble_eq_true rfl) (fun r1 h1 hq => ?_)
  obtain ⟨h178, postR, spR, fin⟩ := go r1 h1 hq
  refine lw_aload C LT22_ok rfl rfl rfl ?_
  refine lw_aload C LT22_ok rfl rfl rfl ?_
  refine lw_iload C LT22_ok rfl rfl rfl ?_
  refine lw_iconst (v := nI 1) C LT22_ok rfl (by decide) ?_
  refine lw_nadd C LT22_ok rfl ?_
  refine lw_sld C LT22_ok rfl (by omega) ?_
  refine lw_callV (S := (r1.map (cvV G.2.1)).toList ++ []) spR C LT22_ok rfl ok_X10_sizeWithout v_L_110 rfl rfl h178 rfl (Nat.le_of_ble_eq_true rfl) rfl (cat_le _ _) (Nat.le_of_ble_eq_true rfl) (Nat.le_of_ble_eq_true rfl) (fun r2 h2 hq2 => ?_)
  obtain ⟨e1, ⟨y, ⟨z, rfl⟩, e2⟩, hJ2⟩ := fin r2 h2 hq2
  rw [← e1, e2]
  show LwJ p l e s m below meth c b G 820 (lwL b i G) (.int z :: .int z :: []) h2 199 26283
  refine lw_same C LT22_ok rfl ?_
  exact k h2 hJ2
theorem lwo_23 (C : LC p s m meth c b L xs G) {i : Nat} (hi : i + 5 < L) {h : Nat → MC} (hJ : LJ h) (k : ∀ h2, LJ h2 → LwJ p l e s m below meth c b G 938 (lwL b i G) [] h2 199 26283) : LwJ p l e s m below meth c b G 825 (lwL b i G) [] h 199 26283 := by
  obtain ⟨D, hD, hK, hR⟩ := hJ
  obtain ⟨h0, postK, spK, go⟩ := op_holdsWithout (xs (i + 1)) (xs (i + 2)) (xs (i + 3)) (xs (i + 4)) hD hK hR
  refine lw_aload C LT23_ok rfl rfl rfl ?_
  refine lw_aload C LT23_ok rfl rfl rfl ?_
  refine lw_iload C LT23_ok rfl rfl rfl ?_
  refine lw_iconst (v := nI 1) C LT23_ok rfl (by decide) ?_
  refine lw_nadd C LT23_ok rfl ?_
  refine lw_sld C LT23_ok rfl (by omega) ?_
  refine lw_aload C LT23_ok rfl rfl rfl ?_
  refine lw_iload C LT23_ok rfl rfl rfl ?_
  refine lw_iconst (v := nI 2) C LT23_ok rfl (by decide) ?_
  refine lw_nadd C LT23_ok rfl ?_
  refine lw_sld C LT23_ok rfl (by omega) ?_
  refine lw_aload C LT23_ok rfl rfl rfl ?_
  refine lw_iload C LT23_ok rfl rfl rfl ?_
  refine lw_iconst (v := nI 3) C LT23_ok rfl (by decide) ?_
  refine lw_nadd C LT23_ok rfl ?_
  refine lw_sld C LT23_ok rfl (by omega) ?_
  refine lw_aload C LT23_ok rfl rfl rfl ?_
  refine lw_iload C LT23_ok rfl rfl rfl ?_
  refine lw_iconst (v := nI 4) C LT23_ok rfl (by decide) ?_
  refine lw_nadd C LT23_ok rfl ?_
  refine lw_sld C LT23_ok rfl (by omega) ?_
  refine lw_callV (S := []) spK C LT23_ok rfl ok_X9_holdsWithout v_L_111 rfl rfl h0 rfl (Nat.le_of_ble_eq_true rfl) rfl (Nat.zero_le _) (Nat.le_of_ble_eq_true rfl) (Nat.le_of_ble_eq_true rfl) (fun r1 h1 hq => ?_)
  obtain ⟨h178, postR, spR, fin⟩ := go r1 h1 hq
  refine lw_aload C LT23_ok rfl rfl rfl ?_
  refine lw_aload C LT23_ok rfl rfl rfl ?_
  refine lw_iload C LT23_ok rfl rfl rfl ?_
  refine lw_iconst (v := nI 1) C LT23_ok rfl (by decide) ?_
  refine lw_nadd C LT23_ok rfl ?_
  refine lw_sld C LT23_ok rfl (by omega) ?_
  refine lw_aload C LT23_ok rfl rfl rfl ?_
  refine lw_iload C LT23_ok rfl rfl rfl ?_
  refine lw_iconst (v := nI 2) C LT23_ok rfl (by decide) ?_
  refine lw_nadd C LT23_ok rfl ?_
  refine lw_sld C LT23_ok rfl (by omega) ?_
  refine lw_aload C LT23_ok rfl rfl rfl ?_
  refine lw_iload C LT23_ok rfl rfl rfl ?_
  refine lw_iconst (v := nI 3) C LT23_ok rfl (by decide) ?_
  refine lw_nadd C LT23_ok rfl ?_
  refine lw_sld C LT23_ok rfl (by omega) ?_
  refine lw_aload C LT23_ok rfl rfl rfl ?_
  refine lw_iload C LT23_ok rfl rfl rfl ?_
  refine lw_iconst (v := nI 4) C LT23_ok rfl (by decide) ?_
  refine lw_nadd C LT23_ok rfl ?_
  refine lw_sld C LT23_ok rfl (by omega) ?_
  refine lw_callV (S := (r1.map (cvV G.2.1)).toList ++ []) spR C LT23_ok rfl ok_X10_holdsWithout v_L_114 rfl rfl h178 rfl (Nat.le_of_ble_eq_true rfl) rfl (cat_le _ _) (Nat.le_of_ble_eq_true rfl) (Nat.le_of_ble_eq_true rfl) (fun r2 h2 hq2 => ?_)
  obtain ⟨e1, ⟨y, ⟨z, rfl⟩, e2⟩, hJ2⟩ := fin r2 h2 hq2
  rw [← e1, e2]
  show LwJ p l e s m below meth c b G 873 (lwL b i G) (.int z :: .int z :: []) h2 199 26283
  refine lw_same C LT23_ok rfl ?_
  exact k h2 hJ2
theorem lwo_24 (C : LC p s m meth c b L xs G) {i : Nat} (hi : i + 5 < L) {h : Nat → MC} (hJ : LJ h) (k : ∀ h2, LJ h2 → LwJ p l e s m below meth c b G 938 (lwL b i G) [] h2 199 26283) : LwJ p l e s m below meth c b G 878 (lwL b i G) [] h 199 26283 := by
  obtain ⟨D, hD, hK, hR⟩ := hJ
  obtain ⟨h0, postK, spK, go⟩ := op_save (xs (i + 1)) hD hK hR
  refine lw_aload C LT24_ok rfl rfl rfl ?_
  refine lw_aload C LT24_ok rfl rfl rfl ?_
  refine lw_iload C LT24_ok rfl rfl rfl ?_
  refine lw_iconst (v := nI 1) C LT24_ok rfl (by decide) ?_
  refine lw_nadd C LT24_ok rfl ?_
  refine lw_sld C LT24_ok rfl (by omega) ?_
  refine lw_callV (S := []) spK C LT24_ok rfl ok_X9_save v_L_115 rfl rfl h0 rfl (Nat.le_of_ble_eq_true rfl) rfl (Nat.zero_le _) (Nat.le_of_ble_eq_true rfl) (Nat.le_of_ble_eq_true rfl) (fun r1 h1 hq => ?_)
  obtain ⟨h178, postR, spR, fin⟩ := go r1 h1 hq
  refine lw_aload C LT24_ok rfl rfl rfl ?_
  refine lw_aload C LT24_ok rfl rfl rfl ?_
  refine lw_iload C LT24_ok rfl rfl rfl ?_
  refine lw_iconst (v := nI 1) C LT24_ok rfl (by decide) ?_
  refine lw_nadd C LT24_ok rfl ?_
  refine lw_sld C LT24_ok rfl (by omega) ?_
  refine lw_callV (S := (r1.map (cvV G.2.1)).toList ++ []) spR C LT24_ok rfl ok_X10_save v_L_118 rfl rfl h178 rfl (Nat.le_of_ble_eq_true rfl) rfl (cat_le _ _) (Nat.le_of_ble_eq_true rfl) (Nat.le_of_ble_eq_true rfl) (fun r2 h2 hq2 => ?_)
  obtain ⟨e1, ⟨y, ⟨z, rfl⟩, e2⟩, hJ2⟩ := fin r2 h2 hq2
  rw [← e1, e2]
  show LwJ p l e s m below meth c b G 896 (lwL b i G) (.int z :: .int z :: []) h2 199 26283
  refine lw_same C LT24_ok rfl ?_
  exact k h2 hJ2
theorem lwo_25 (C : LC p s m meth c b L xs G) {i : Nat} (hi : i + 5 < L) {h : Nat → MC} (hJ : LJ h) (k : ∀ h2, LJ h2 → LwJ p l e s m below meth c b G 938 (lwL b i G) [] h2 199 26283) : LwJ p l e s m below meth c b G 901 (lwL b i G) [] h 199 26283 := by
  obtain ⟨D, hD, hK, hR⟩ := hJ
  obtain ⟨h0, postK, spK, go⟩ := op_restore (xs (i + 1)) hD hK hR
  refine lw_aload C LT25_ok rfl rfl rfl ?_
  refine lw_aload C LT25_ok rfl rfl rfl ?_
  refine lw_iload C LT25_ok rfl rfl rfl ?_
  refine lw_iconst (v := nI 1) C LT25_ok rfl (by decide) ?_
  refine lw_nadd C LT25_ok rfl ?_
  refine lw_sld C LT25_ok rfl (by omega) ?_
  refine lw_callV (S := []) spK C LT25_ok rfl ok_X9_restore v_L_119 rfl rfl h0 rfl (Nat.le_of_ble_eq_true rfl) rfl (Nat.zero_le _) (Nat.le_of_ble_eq_true rfl) (Nat.le_of_ble_eq_true rfl) (fun r1 h1 hq => ?_)
  obtain ⟨h178, postR, spR, fin⟩ := go r1 h1 hq
  refine lw_aload C LT25_ok rfl rfl rfl ?_
  refine lw_aload C LT25_ok rfl rfl rfl ?_
  refine lw_iload C LT25_ok rfl rfl rfl ?_
  refine lw_iconst (v := nI 1) C LT25_ok rfl (by decide) ?_
  refine lw_nadd C LT25_ok rfl ?_
  refine lw_sld C LT25_ok rfl (by omega) ?_
  refine lw_callV (S := (r1.map (cvV G.2.1)).toList ++ []) spR C LT25_ok rfl ok_X10_restore v_L_122 rfl rfl h178 rfl (Nat.le_of_ble_eq_true rfl) rfl (cat_le _ _) (Nat.le_of_ble_eq_true rfl) (Nat.le_of_ble_eq_true rfl) (fun r2 h2 hq2 => ?_)
  obtain ⟨e1, ⟨y, ⟨z, rfl⟩, e2⟩, hJ2⟩ := fin r2 h2 hq2
  rw [← e1, e2]
  show LwJ p l e s m below meth c b G 919 (lwL b i G) (.int z :: .int z :: []) h2 199 26283
  refine lw_same C LT25_ok rfl ?_
  exact k h2 hJ2
theorem lwo_26 (C : LC p s m meth c b L xs G) {i : Nat} (hi : i + 5 < L) {h : Nat → MC} (hJ : LJ h) (k : ∀ h2, LJ h2 → LwJ p l e s m below meth c b G 938 (lwL b i G) [] h2 199 26283) : LwJ p l e s m below meth c b G 924 (lwL b i G) [] h 199 26283 := by
  obtain ⟨D, hD, hK, hR⟩ := hJ
  obtain ⟨h0, postK, spK, go⟩ := op_checksum hD hK hR
  refine lw_aload C LT26_ok rfl rfl rfl ?_
  refine lw_callV (S := []) spK C LT26_ok rfl ok_X9_checksum v_L_123 rfl rfl h0 rfl (Nat.le_of_ble_eq_true rfl) rfl (Nat.zero_le _) (Nat.le_of_ble_eq_true rfl) (Nat.le_of_ble_eq_true rfl) (fun r1 h1 hq => ?_)
  obtain ⟨h178, postR, spR, fin⟩ := go r1 h1 hq
  refine lw_aload C LT26_ok rfl rfl rfl ?_
  refine lw_callV (S := (r1.map (cvV G.2.1)).toList ++ []) spR C LT26_ok rfl ok_X10_checksum v_L_127 rfl rfl h178 rfl (Nat.le_of_ble_eq_true rfl) rfl (cat_le _ _) (Nat.le_of_ble_eq_true rfl) (Nat.le_of_ble_eq_true rfl) (fun r2 h2 hq2 => ?_)
  obtain ⟨e1, ⟨y, ⟨z, rfl⟩, e2⟩, hJ2⟩ := fin r2 h2 hq2
  rw [← e1, e2]
  show LwJ p l e s m below meth c b G 932 (lwL b i G) (.long z :: .long z :: []) h2 199 26283
  refine lw_lcmp C LT26_ok rfl ?_
  refine lw_ifeq0 C LT26_ok rfl ?_
  exact k h2 hJ2
end LAWC
