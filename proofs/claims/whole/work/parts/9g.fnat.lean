/-! THE FLOAT'S BITS: methods of a class that has natives -/
theorem dnF_0 : decode cJxf58ca_isNaN_12338 0 = .ok (.fload_n 0, 1) := by decide +kernel
theorem dnF_1 : decode cJxf58ca_isNaN_12338 1 = .ok (.fload_n 0, 1) := by decide +kernel
theorem dnF_2 : decode cJxf58ca_isNaN_12338 2 = .ok (.fcmp .l, 1) := by decide +kernel
theorem dnF_3 : decode cJxf58ca_isNaN_12338 3 = .ok (.ifCond .eq 7, 3) := by decide +kernel
theorem dnF_10 : decode cJxf58ca_isNaN_12338 10 = .ok (.iconst 0, 1) := by decide +kernel
theorem dnF_11 : decode cJxf58ca_isNaN_12338 11 = .ok (.ireturn, 1) := by decide +kernel
theorem df_0 : decode cJxf58ca_floatToIntBits_5c35a 0 = .ok (.fload_n 0, 1) := by decide +kernel
theorem df_1 : decode cJxf58ca_floatToIntBits_5c35a 1 = .ok (.invokestatic 59, 3) := by decide +kernel
theorem df_4 : decode cJxf58ca_floatToIntBits_5c35a 4 = .ok (.ifCond .ne 8, 3) := by decide +kernel
theorem df_7 : decode cJxf58ca_floatToIntBits_5c35a 7 = .ok (.fload_n 0, 1) := by decide +kernel
theorem df_8 : decode cJxf58ca_floatToIntBits_5c35a 8 = .ok (.invokestatic 74, 3) := by decide +kernel
theorem df_11 : decode cJxf58ca_floatToIntBits_5c35a 11 = .ok (.ireturn, 1) := by decide +kernel
theorem fw_cN : Cond.code yJxf58ca_isNaN_12338 cJxf58ca_isNaN_12338 1 (some .boolean) ∈ lw_gd := gd_code (by decide +kernel)
theorem fw_cF : Cond.code yJxf58ca_floatToIntBits_5c35a cJxf58ca_floatToIntBits_5c35a 1 (some .int) ∈ lw_gd := gd_code (by decide +kernel)
theorem fw_i : Cond.initialized "java/lang/Float" ∈ lw_gd := by decide +kernel
theorem fw_59 : Cond.methodLink RJxf58ca 59 yJxf58ca_isNaN_12338 ∈ lw_gd := by decide +kernel
theorem fw_sN : Cond.static yJxf58ca_isNaN_12338 ∈ lw_gd := by decide +kernel
theorem fw_sF : Cond.static yJxf58ca_floatToIntBits_5c35a ∈ lw_gd := by decide +kernel
theorem fw_74 : Cond.methodLink RJxf58ca 74 ⟨"java/lang/Float", "floatToRawIntBits", "(F)I"⟩ ∈ lw_gd := by decide +kernel
theorem fw_n : Cond.native ⟨"java/lang/Float", "floatToRawIntBits", "(F)I"⟩ ∈ lw_gd := by decide +kernel
theorem fw_sR : Cond.static ⟨"java/lang/Float", "floatToRawIntBits", "(F)I"⟩ ∈ lw_gd := by decide +kernel
theorem fw_215 : Cond.methodLink RX10 215 yJxf58ca_floatToIntBits_5c35a ∈ lw_gd := by decide +kernel
theorem mg_wsF {w0 : Cond} (h0 : w0 ∈ lw_gd) : GoodIn lw_gd (w0 :: lw_gd) := fun w hw => by
  rcases List.mem_cons.mp hw with rfl | hw
  · exact ⟨h0, good_of_word (mg_tbl _ h0)⟩
  · exact ⟨hw, good_of_word (mg_tbl _ hw)⟩
theorem met_isNaN (lc : Launch) (G : MG) (d n : Nat) (x : UInt32) (h : Nat → MC) (hx : UF x) :
    Met lc yJxf58ca_isNaN_12338 (Cond.code yJxf58ca_isNaN_12338 cJxf58ca_isNaN_12338 1 (some .boolean) :: lw_gd) (mroom d 0 0) (va_Pc ([Value.float x].map (cvV G.2.1)) (fun U => mK G U ∧ mWd G h n U.heap ∧ U.heap.size = G.2.1 + n)) (MQc G n (fun r h1 => r = some (.int 0) ∧ h1 = h)) 0 0 (mA G) := by
  refine va_MetF (cc := cJxf58ca_isNaN_12338) (maxL := 1) (ret := some .boolean) (by decide +kernel) rfl ?_
  intro p e s m args below meth c s₁ B hml hv
  obtain ⟨rfl, hK, hW, hz⟩ := hv
  have hl := lv_entry ([Value.float x].map (cvV G.2.1)) (n := 1) (Nat.le_refl _)
  rw [lg_entry_eq]
  rw [lv_args_cv] at hl
  have e0 : Op.cmpValue (FP.fcmp x x) .l = 0 := by
    rw [pf_cmp (uf_lt hx) (uf_lt hx), Nat.compare_eq_eq.mpr rfl]
    rfl
  refine lv_fload_n B.exec B.bytes dnF_0 (i := 0) rfl (mat hl (v := .float x) rfl) ?_
  refine lv_fload_n B.exec B.bytes dnF_1 (i := 0) rfl (mat hl (v := .float x) rfl) ?_
  refine lv_fcmp B.exec B.bytes dnF_2 ?_
  rw [e0]
  refine lv_if_eq B.exec B.bytes dnF_3 (tgt := 10) (by decide) (fun _ => ?_) (fun q => absurd rfl q)
  refine lv_iconst B.exec B.bytes dnF_10 (v := 0) (by decide) ?_
  have hS : va_S (mA G) s.heap s.heap [] := va_S.rf
  exact W.zret (ty := .boolean) (v := 0) B.exec B.bytes B.returns rfl (fun t ht hWm => ⟨⟨some (.int 0), h, rfl, ⟨rfl, rfl⟩, by rw [ht]; exact hW, mK.moved hWm hK⟩, hS.F ht⟩) hS.2.2 dnF_11 (hlocks := B.notSynchronized)
theorem met_f2i (lc : Launch) (G : MG) (d n : Nat) (x : UInt32) (h : Nat → MC) (hx : UF x) :
    Met lc yJxf58ca_floatToIntBits_5c35a (Cond.code yJxf58ca_floatToIntBits_5c35a cJxf58ca_floatToIntBits_5c35a 1 (some .int) :: lw_gd) (mroom (d + 1) 0 0) (va_Pc ([Value.float x].map (cvV G.2.1)) (fun U => mK G U ∧ mWd G h n U.heap ∧ U.heap.size = G.2.1 + n)) (MQc G n (fun r h1 => r = some (.int x.toInt32) ∧ h1 = h)) 0 0 (mA G) := by
  refine va_MetF (cc := cJxf58ca_floatToIntBits_5c35a) (maxL := 1) (ret := some .int) (by decide +kernel) rfl ?_
  intro p e s m args below meth c s₁ B hml hv
  obtain ⟨rfl, hK, hW, hz⟩ := hv
  have hl := lv_entry ([Value.float x].map (cvV G.2.1)) (n := 1) (Nat.le_refl _)
  rw [lg_entry_eq]
  rw [lv_args_cv] at hl
  have hts := atoms_spec (ws := Cond.code yJxf58ca_floatToIntBits_5c35a cJxf58ca_floatToIntBits_5c35a 1 (some .int) :: lw_gd) B.pre
  have htg : ∀ w ∈ lw_gd, w.before ([Value.float x].map (cvV G.2.1)).toArray s = true := fun w hw => hts w (List.mem_cons_of_mem _ hw)
  have hown : s.vm.findClass RJxf58ca = some m.cls := findClass_of_methodNamed B.named
  generalize hls : ((lg_sl ([Value.float x].map (cvV G.2.1)) ++ List.replicate (1 - (lg_sl ([Value.float x].map (cvV G.2.1))).length) Slot.unset).toArray) = ls at hl ⊢
  refine lv_fload_n B.exec B.bytes df_0 (i := 0) rfl (mat hl (v := .float x) rfl) ?_
  have hB : CallB (mroom (d + 1) 0 0) s ([Value.float x].map (cvV G.2.1)).toArray RJxf58ca 59 yJxf58ca_isNaN_12338 cJxf58ca_isNaN_12338 1 (some .boolean) (Cond.code yJxf58ca_isNaN_12338 cJxf58ca_isNaN_12338 1 (some .boolean) :: lw_gd) (mroom d 0 0) 0 0 1 :=
    callB_of 1 htg (mg_wsF fw_cN) rfl rfl rfl (htg _ fw_i) (htg _ fw_59) ⟨by decide, by decide, by decide +kernel⟩ ⟨Nat.le_refl _, by show 8 + (1 + 11) + 31 * d ≤ 31 * (d + 1); omega⟩
  intro T hT X0
  obtain ⟨v, st₀, t, T', Lo, g0, X', hL, g1, g2, ⟨⟨r, h1, hv, hp, hw, hk⟩, hz', hkp⟩, st⟩ := (va_runS (As := [Value.float x].map (cvV G.2.1)) (rest := []) (g := F0 m (0 + 1) ls [.float x]) (cells := 0) (slots := 0) ⟨B.exec, B.bytes, hml, hown, htg⟩ (met_isNaN lc G d n x h hx) ⟨hB, htg _ fw_sN⟩ ⟨pc_blind G [.float x] h n, fun U hU hWU => ⟨rfl, mK.moved hWU hK, by rw [hU]; exact hW, by rw [hU]; exact hz⟩⟩ rfl rfl hl.1 rfl (lv_room (by decide)) df_1 ⟨Nat.le_refl 0, Nat.le_refl 0⟩) T hT X0
  obtain ⟨rfl, rfl⟩ := hp
  cases hv
  rw [g0] at hz' hkp
  have hS2 : va_S (mA G) s.heap T'.heap ([] ++ Lo) := ⟨by rw [g1]; exact hz', fun q q1 q2 => by rw [g1, hkp q q1 q2], fun q hq => hL q hq⟩
  have hW2 : mWd G h1 n T'.heap := by
    rw [g1]
    exact hw
  have h5 : W p lc e (mroom (d + 1) 0 0) s m ([Value.float x].map (cvV G.2.1)).toArray below meth c T'.heap ([] ++ Lo) 0 0 (MQ below (MQc G n (fun r h2 => r = some (.int x.toInt32) ∧ h2 = h1)) ([Value.float x].map (cvV G.2.1)).toArray s 0 0 (mA G)) (F0 m 4 ls [.int 0]) := by
    refine lv_if_ne B.exec B.bytes df_4 (tgt := 12) (by decide) (fun q => absurd rfl q) (fun _ => ?_)
    refine lv_fload_n B.exec B.bytes df_7 (i := 0) rfl (mat hl (v := .float x) rfl) ?_
    refine vn_f2i (own := RJxf58ca) B.exec B.bytes (hml.trans hl.1.symm) hown (htg _ fw_74) (htg _ fw_n) (htg _ fw_sR) (htg _ fw_i) (by show 1 ≤ d + 1; omega) (by show 0 + 15 ≤ 31 * (d + 1); omega) df_8 ?_
    exact W.zret (ty := .int) (v := x.toInt32) B.exec B.bytes B.returns rfl (fun t ht hWm => ⟨⟨some (.int x.toInt32), h1, rfl, ⟨rfl, rfl⟩, by rw [ht]; exact hW2, mK.moved hWm hK⟩, hS2.F ht⟩) hS2.2.2 df_11 (hlocks := B.notSynchronized)
  obtain ⟨t2, a1, b1⟩ := h5 T' rfl X'
  exact ⟨t2, st t2 a1, b1⟩
theorem mw_callF {M : MI} {d mc ms n0 pc n sl nx tg : Nat} {post : Option Value → (Nat → MC) → Prop} {L : List (Nat × Value)} {S : List Value} {h : Nat → MC} {x : UInt32} (hx : UF x) (hf : fch M pc = some (.invokestatic 215, 3, nx, tg)) (hM : M.1.cls = RX10) (hcat : (S.map fun v => v.category).sum ≤ 8) (hd : 2 ≤ d) (hmc : n - n0 ≤ mc) (hms : sl ≤ ms) (k : MW M d mc ms n0 post nx L (.int x.toInt32 :: S) h n sl) : MW M d mc ms n0 post pc L (.float x :: S) h n sl := by
  intro G p lch e s m args below meth c X H locs ls hn hW hS hl
  obtain ⟨hdg, rfl, htg⟩ := fch_ok X.1 hf
  have hts := X.2.2.2.2.2.2.2.2.1
  have hl215 : Cond.methodLink M.1.cls 215 yJxf58ca_floatToIntBits_5c35a ∈ lw_gd := by
    rw [hM]
    exact fw_215
  intro T hT X0
  have hz := mw_sz X hn hW hT X0
  have hB : CallB (mroom d mc ms) s args M.1.cls 215 yJxf58ca_floatToIntBits_5c35a cJxf58ca_floatToIntBits_5c35a 1 (some .int) (Cond.code yJxf58ca_floatToIntBits_5c35a cJxf58ca_floatToIntBits_5c35a 1 (some .int) :: lw_gd) (mroom (0 + 1) 0 0) 0 0 1 :=
    callB_of 1 hts (mg_wsF fw_cF) rfl rfl rfl (hts _ fw_i) (hts _ hl215) ⟨by decide, by decide, by decide +kernel⟩ ⟨hd, by show 8 + (1 + 11) + 31 * (0 + 1) ≤ 31 * d; omega⟩
  exact mw_goon (mc' := 0) (ms' := 0) (post' := fun r h1 => r = some (.int x.toInt32) ∧ h1 = h) X hn hS hl (va_runS (As := [Value.float x].map (cvV G.2.1)) ⟨X.2.1, X.2.2.1, X.2.2.2.2.2.1, X.2.2.2.2.2.2.1, hts⟩ (met_f2i lch G 0 n x h hx) ⟨hB, hts _ fw_sF⟩ ⟨pc_blind G [.float x] h n, fun U hU hWU => ⟨rfl, mK.moved hWU X.2.2.2.2.2.2.2.2.2.1, by rw [hU]; exact hW, by rw [hU]; exact hz⟩⟩ rfl rfl hl.1 rfl (lv_room (by rw [cat_sum_cv]; exact hcat)) hdg ⟨hmc, hms⟩) (fun r h1 hp => by obtain ⟨rfl, rfl⟩ := hp; exact k) T hT X0
