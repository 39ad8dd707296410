/-! P30: cell, the only method that gets the script -/
theorem cell_blind (G : MG) (av : List Value) (h : Nat → MC) (n b Ln : Nat) (xs : Nat → Int32) : FrameBlind (va_Pc av (fun U => (mK G U ∧ mWd G h n U.heap ∧ U.heap.size = G.2.1 + n) ∧ va_X b Ln xs U U.heap ∧ b < G.2.1)) := fun a U g mk q => by
  obtain ⟨q0, ⟨q1, q2, q3⟩, q4, q5⟩ := q
  exact ⟨q0, ⟨mK.same (u := U) (U := U.calling g mk a) rfl q1, q2, q3⟩, va_X.moved (show U.vm.Alike (U.calling g mk a).vm from (State.WarmedH.refl U).alike) q4, q5⟩
theorem met_cell (lc : Launch) (G : MG) (n k b Ln : Nat) (xs : Nat → Int32) (h : Nat → MC) (hk : k < 2147483648) (hL : Ln ≤ 260) :
    Met lc M_L_cell.1 (wsM M_L_cell) (mroom 1 0 0) (va_Pc [.ref b, .int (nI k)] (fun U => (mK G U ∧ mWd G h n U.heap ∧ U.heap.size = G.2.1 + n) ∧ va_X b Ln xs U U.heap ∧ b < G.2.1)) (MQc G (n + 0) (fun r h1 => (∃ y, y < 2147483648 ∧ r = some (.int (nI y))) ∧ h1 = h)) 0 0 (mA G) := by
  refine Met.ofW (cc := M_L_cell.2.1) (maxL := M_L_cell.2.2.1) (ret := M_L_cell.2.2.2.1) ok_L_cell.2.1 rfl ?_
  intro p e s m args below meth c s₁ B hml hv
  obtain ⟨rfl, ⟨hK, hW, hz⟩, hX, hbG⟩ := hv
  have hl := lv_entry ([.ref b, .int (nI k)]) (n := M_L_cell.2.2.1) (Nat.le_of_ble_eq_true rfl)
  rw [lg_entry_eq]
  generalize ((lg_sl ([.ref b, .int (nI k)]) ++ List.replicate (M_L_cell.2.2.1 - (lg_sl ([.ref b, .int (nI k)])).length) Slot.unset).toArray) = ls at hl ⊢
  have hl : lv_has ls 2 [(0, .ref b), (1, .int (nI k))] := hl
  have hts := atoms_spec (ws := wsM M_L_cell) B.pre
  have hown : s.vm.findClass RL = some m.cls := findClass_of_methodNamed B.named
  have hS : va_S (mA G) s.heap s.heap [] := va_S.rf
  have hbl : b < s.heap.size := by omega
  have hbA : ¬ mA G b := fun q => by
    have : G.2.1 ≤ b := q
    omega
  have hb0 : ls[0]? = some (.val (.ref b)) := hl.2.2 (0, .ref b) List.mem_cons_self
  have hb1 : ls[1]? = some (.val (.int (nI k))) := hl.2.2 (1, .int (nI k)) (List.mem_cons_of_mem _ List.mem_cons_self)
  have dc : ∀ {pc : Nat} {i : Instr} {len nx tg : Nat}, fch M_L_cell pc = some (i, len, nx, tg) → decode M_L_cell.2.1 pc = .ok (i, len) := fun h => (fch_ok ok_L_cell h).1
  refine lv_iload_n B.exec B.bytes (dc (pc := 0) (tg := 0) rfl) (i := 1) rfl hb1 ?_
  refine lv_aload_n B.exec B.bytes (dc (pc := 1) (tg := 0) rfl) (i := 0) rfl hb0 ?_
  refine va_slen (A := mA G) B.exec B.bytes hX hbl hbA hS (dc (pc := 2) (tg := 0) rfl) ?_
  refine lv_icmp_ge B.exec B.bytes (dc (pc := 3) (tg := 12) rfl) (tgt := 12) (by decide) (fun q => ?_) (fun q => ?_)
  · refine lv_ldc B.exec B.bytes hown (hts _ (List.mem_cons_of_mem _ c_L_7)) (dc (pc := 12) (tg := 0) rfl) ?_
    refine lv_iload_n B.exec B.bytes (dc (pc := 14) (tg := 0) rfl) (i := 1) rfl hb1 ?_
    refine lv_imul B.exec B.bytes (dc (pc := 15) (tg := 0) rfl) ?_
    refine lv_sipush (v := 367) B.exec B.bytes (dc (pc := 16) (tg := 0) rfl) (by decide) ?_
    refine lv_iadd B.exec B.bytes (dc (pc := 19) (tg := 0) rfl) ?_
    refine lv_ldc B.exec B.bytes hown (hts _ (List.mem_cons_of_mem _ c_L_8)) (dc (pc := 20) (tg := 0) rfl) ?_
    refine lv_iand B.exec B.bytes (dc (pc := 22) (tg := 0) rfl) ?_
    obtain ⟨y, hy, ey⟩ := pk_andE (15535169 * nI k + 367) (m := 2147483647) 31 (by decide)
    rw [ey]
    exact W.zret (ty := .int) (v := nI y) B.exec B.bytes B.returns rfl (fun t ht hWm => ⟨⟨some (.int (nI y)), h, rfl, ⟨⟨y, hy, rfl⟩, rfl⟩, by rw [ht]; exact hW, mK.moved hWm hK⟩, hS.F ht⟩) hS.2.2 (dc (pc := 23) (tg := 0) rfl) (hlocks := B.notSynchronized)
  · have hlt : k < Ln := by
      refine Nat.lt_of_not_le fun w => q ?_
      show nI Ln ≤ nI k
      exact (nI_leI (by omega) hk).mpr w
    refine lv_aload_n B.exec B.bytes (dc (pc := 6) (tg := 0) rfl) (i := 0) rfl hb0 ?_
    refine lv_iload_n B.exec B.bytes (dc (pc := 7) (tg := 0) rfl) (i := 1) rfl hb1 ?_
    refine va_sld (A := mA G) B.exec B.bytes hX hbl hbA hS (vp_in_nI hlt (by omega)) (dc (pc := 8) (tg := 0) rfl) ?_
    refine lv_goto B.exec B.bytes (dc (pc := 9) (tg := 20) rfl) (tgt := 20) (by decide) ?_
    refine lv_ldc B.exec B.bytes hown (hts _ (List.mem_cons_of_mem _ c_L_8)) (dc (pc := 20) (tg := 0) rfl) ?_
    refine lv_iand B.exec B.bytes (dc (pc := 22) (tg := 0) rfl) ?_
    obtain ⟨y, hy, ey⟩ := pk_andE (xs (nI k).toNatClampNeg) (m := 2147483647) 31 (by decide)
    rw [ey]
    exact W.zret (ty := .int) (v := nI y) B.exec B.bytes B.returns rfl (fun t ht hWm => ⟨⟨some (.int (nI y)), h, rfl, ⟨⟨y, hy, rfl⟩, rfl⟩, by rw [ht]; exact hW, mK.moved hWm hK⟩, hS.F ht⟩) hS.2.2 (dc (pc := 23) (tg := 0) rfl) (hlocks := B.notSynchronized)
section LAWX
variable {p : Program} {l : Launch} {e : Env} {s : State} {m : MethodId} {below : List Frame} {meth : Method} {c : Code} {b Ln : Nat} {xs : Nat → Int32} {G : MG} {pc n sl nx tg : Nat} {h : Nat → MC} {L : List (Nat × Value)} {S St : List Value}
theorem lm_cell {k : Nat} (C : LC p s m meth c b Ln xs G) (hk : k < 2147483648) (hf : fnd LTw pc = some (.invokestatic 112, 3, nx, tg)) (hcat : (S.map fun v => v.category).sum ≤ 8) (hcs : n ≤ 600000) (hss : sl ≤ 7302250)
    (kk : ∀ y, y < 2147483648 → LM p l e s m below meth c b G nx L (.int (nI y) :: S) h n sl) : LwJ p l e s m below meth c b G pc (cvL G.2.1 L ++ [(0, .ref b)]) (.int (nI k) :: .ref b :: S.map (cvV G.2.1)) h n sl := by
  intro H locs ls hW hS hl
  obtain ⟨hdg, rfl, htg⟩ := lt_ok LTw_ok hf
  have hts := C.w
  intro T0 hT0 X0
  have hz := lw_sz C hW hT0 X0
  have hv : msOk RL 112 M_L_cell.1 2 := v_L_112
  have hbl := C.1.2.2.2.2.2.2.2.1
  have hbG : b < G.2.1 := by
    have := C.2.2.1
    omega
  have hB : CallB room_1 s #[Value.ref b] RL 112 M_L_cell.1 M_L_cell.2.1 M_L_cell.2.2.1 M_L_cell.2.2.2.1 (wsM M_L_cell) (mroom 1 0 0) 0 0 2 := callB_of 2 hts (mg_ws ok_L_cell) rfl rfl rfl (hts _ (hv.1 _ (by simp))) (hts _ (hv.1 _ (by simp))) hv.2 ⟨by show 1 + 1 ≤ 10; omega, by show 8 + (2 + 11) + 42 * 1 ≤ 422; omega⟩
  exact lw_goon (mc' := 0) (ms' := 0) (post' := fun r h1 => (∃ y, y < 2147483648 ∧ r = some (.int (nI y))) ∧ h1 = h) hS hl (va_runS (As := [.ref b, .int (nI k)]) ⟨C.1.1, C.1.2.1, C.1.2.2.2.1, C.1.2.2.2.2.1, hts⟩ (met_cell l G n k b Ln xs h hk C.2.2.2) ⟨hB, hts _ (hv.1 _ (by simp))⟩ ⟨cell_blind G _ h n b Ln xs, fun U hU hWU => ⟨rfl, ⟨mK.moved hWU C.2.1, by rw [hU]; exact hW, by rw [hU]; exact hz⟩, va_X.kept (va_X.moved hWU.alike C.1.2.2.2.2.2.2.1) (by rw [hU]; exact hS.2.1 b hbl C.hbA), hbG⟩⟩ rfl rfl hl.1 rfl (lv_room (by rw [cat_sum_cv]; exact hcat)) hdg ⟨hcs, hss⟩) (fun r h1 hp => by
    obtain ⟨⟨y, hy, rfl⟩, rfl⟩ := hp
    exact kk y hy) T0 hT0 X0
theorem lw_aload0 (C : LC p s m meth c b Ln xs G) (hf : fnd LTw pc = some (.aload_n 0, 1, nx, tg)) (k : LwJ p l e s m below meth c b G nx (cvL G.2.1 L ++ [(0, .ref b)]) (.ref b :: St) h n sl) : LwJ p l e s m below meth c b G pc (cvL G.2.1 L ++ [(0, .ref b)]) St h n sl := by
  intro H locs ls hW hS hl
  obtain ⟨hdg, rfl, htg⟩ := lt_ok LTw_ok hf
  exact lv_aload_n C.1.1 C.1.2.1 hdg (i := 0) rfl (hl.2.2 (0, .ref b) (List.mem_append_right _ List.mem_cons_self)) (k H locs ls hW hS hl)
theorem lw_iconst (C : LC p s m meth c b Ln xs G) {i : Int} {v : Int32} (hf : fnd LTw pc = some (.iconst i, 1, nx, tg)) (hv : Int32.ofInt i = v) (k : LwJ p l e s m below meth c b G nx (cvL G.2.1 L ++ [(0, .ref b)]) (.int v :: St) h n sl) : LwJ p l e s m below meth c b G pc (cvL G.2.1 L ++ [(0, .ref b)]) St h n sl := by
  intro H locs ls hW hS hl
  obtain ⟨hdg, rfl, htg⟩ := lt_ok LTw_ok hf
  exact lv_iconst C.1.1 C.1.2.1 hdg hv (k H locs ls hW hS hl)
theorem lw_bipush (C : LC p s m meth c b Ln xs G) {i : Int} {v : Int32} (hf : fnd LTw pc = some (.bipush i, 2, nx, tg)) (hv : (Int8.ofInt i).toInt32 = v) (k : LwJ p l e s m below meth c b G nx (cvL G.2.1 L ++ [(0, .ref b)]) (.int v :: St) h n sl) : LwJ p l e s m below meth c b G pc (cvL G.2.1 L ++ [(0, .ref b)]) St h n sl := by
  intro H locs ls hW hS hl
  obtain ⟨hdg, rfl, htg⟩ := lt_ok LTw_ok hf
  exact lv_bipush C.1.1 C.1.2.1 hdg hv (k H locs ls hW hS hl)
theorem lw_iload (C : LC p s m meth c b Ln xs G) {i : Nat} {x : Int32} (hf : fnd LTw pc = some (.iload i, 2, nx, tg)) (hv : mlkv L i = some (.int x)) (k : LwJ p l e s m below meth c b G nx (cvL G.2.1 L ++ [(0, .ref b)]) (.int x :: St) h n sl) : LwJ p l e s m below meth c b G pc (cvL G.2.1 L ++ [(0, .ref b)]) St h n sl := by
  intro H locs ls hW hS hl
  obtain ⟨hdg, rfl, htg⟩ := lt_ok LTw_ok hf
  exact lv_iload C.1.1 C.1.2.1 hdg (matL hl hv) (k H locs ls hW hS hl)
theorem lw_nadd (C : LC p s m meth c b Ln xs G) {x y : Nat} (hf : fnd LTw pc = some (.iadd, 1, nx, tg)) (k : LwJ p l e s m below meth c b G nx (cvL G.2.1 L ++ [(0, .ref b)]) (.int (nI (x + y)) :: St) h n sl) : LwJ p l e s m below meth c b G pc (cvL G.2.1 L ++ [(0, .ref b)]) (.int (nI y) :: .int (nI x) :: St) h n sl := by
  intro H locs ls hW hS hl
  obtain ⟨hdg, rfl, htg⟩ := lt_ok LTw_ok hf
  refine lv_iadd C.1.1 C.1.2.1 hdg ?_
  rw [nI_add]
  exact k H locs ls hW hS hl
theorem lw_nmul (C : LC p s m meth c b Ln xs G) {x y : Nat} (hf : fnd LTw pc = some (.imul, 1, nx, tg)) (k : LwJ p l e s m below meth c b G nx (cvL G.2.1 L ++ [(0, .ref b)]) (.int (nI (x * y)) :: St) h n sl) : LwJ p l e s m below meth c b G pc (cvL G.2.1 L ++ [(0, .ref b)]) (.int (nI y) :: .int (nI x) :: St) h n sl := by
  intro H locs ls hW hS hl
  obtain ⟨hdg, rfl, htg⟩ := lt_ok LTw_ok hf
  refine lv_imul C.1.1 C.1.2.1 hdg ?_
  rw [pk_mul]
  exact k H locs ls hW hS hl
/-- cell at a constant place -/
theorem lm_cell0 {k : Nat} {i : Int} (C : LC p s m meth c b Ln xs G) (h0 : fnd LTw pc = some (.aload_n 0, 1, pc + 1, 0)) (h1 : fnd LTw (pc + 1) = some (.iconst i, 1, pc + 2, 0)) (hi : Int32.ofInt i = nI k) (hk : k < 2147483648) (h2 : fnd LTw (pc + 2) = some (.invokestatic 112, 3, nx, tg)) (hcat : (S.map fun v => v.category).sum ≤ 8) (hcs : n ≤ 600000) (hss : sl ≤ 7302250)
    (kk : ∀ y, y < 2147483648 → LM p l e s m below meth c b G nx L (.int (nI y) :: S) h n sl) : LM p l e s m below meth c b G pc L S h n sl := lw_aload0 C h0 (lw_iconst C h1 hi (lm_cell C hk h2 hcat hcs hss kk))
/-- cell at k + local 8 -/
theorem lm_cell1 {k j : Nat} {i : Int} (C : LC p s m meth c b Ln xs G) (h0 : fnd LTw pc = some (.aload_n 0, 1, pc + 1, 0)) (h1 : fnd LTw (pc + 1) = some (.iconst i, 1, pc + 2, 0)) (hi : Int32.ofInt i = nI k) (h2 : fnd LTw (pc + 2) = some (.iload 8, 2, pc + 4, 0)) (hj : mlkv L 8 = some (.int (nI j))) (h3 : fnd LTw (pc + 4) = some (.iadd, 1, pc + 5, 0)) (hk : k + j < 2147483648) (h4 : fnd LTw (pc + 5) = some (.invokestatic 112, 3, nx, tg)) (hcat : (S.map fun v => v.category).sum ≤ 8) (hcs : n ≤ 600000) (hss : sl ≤ 7302250)
    (kk : ∀ y, y < 2147483648 → LM p l e s m below meth c b G nx L (.int (nI y) :: S) h n sl) : LM p l e s m below meth c b G pc L S h n sl := lw_aload0 C h0 (lw_iconst C h1 hi (lw_iload C h2 hj (lw_nadd C h3 (lm_cell C hk h4 hcat hcs hss kk))))
/-- cell at k + 2 * local 8 -/
theorem lm_cell2 {k j : Nat} {i : Int} (C : LC p s m meth c b Ln xs G) (h0 : fnd LTw pc = some (.aload_n 0, 1, pc + 1, 0)) (h1 : fnd LTw (pc + 1) = some (.bipush i, 2, pc + 3, 0)) (hi : (Int8.ofInt i).toInt32 = nI k) (h2 : fnd LTw (pc + 3) = some (.iconst 2, 1, pc + 4, 0)) (h3 : fnd LTw (pc + 4) = some (.iload 8, 2, pc + 6, 0)) (hj : mlkv L 8 = some (.int (nI j))) (h4 : fnd LTw (pc + 6) = some (.imul, 1, pc + 7, 0)) (h5 : fnd LTw (pc + 7) = some (.iadd, 1, pc + 8, 0)) (hk : k + 2 * j < 2147483648) (h6 : fnd LTw (pc + 8) = some (.invokestatic 112, 3, nx, tg)) (hcat : (S.map fun v => v.category).sum ≤ 8) (hcs : n ≤ 600000) (hss : sl ≤ 7302250)
    (kk : ∀ y, y < 2147483648 → LM p l e s m below meth c b G nx L (.int (nI y) :: S) h n sl) : LM p l e s m below meth c b G pc L S h n sl := lw_aload0 C h0 (lw_bipush C h1 hi (lw_iconst (v := nI 2) C h2 (by decide) (lw_iload C h3 hj (lw_nmul C h4 (lw_nadd C h5 (lm_cell C hk h6 hcat hcs hss kk))))))
end LAWX
