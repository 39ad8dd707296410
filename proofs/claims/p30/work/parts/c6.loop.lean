/-! P30: the law's loop over rules, from 184 on -/
section LAWQ
variable {p : Program} {l : Launch} {e : Env} {s : State} {m : MethodId} {below : List Frame} {meth : Method} {c : Code} {b Ln : Nat} {xs : Nat → Int32} {G : MG} {sl y k z : Nat} {h : Nat → MC} {D : LD} {pl w : Nat → Nat}
abbrev lwM (y ok i z : Nat) : List (Nat × Value) := [(1, .ref 0), (2, .ref 178), (3, .ref 179), (4, .ref 180), (5, .ref 181), (6, .int (nI y)), (7, .int (nI ok)), (8, .int (nI i)), (9, .int (nI z))]
theorem LaW.sound {n : Nat} (H : LaW D pl w h) : Sp M_L_sound 9 0 0 [.ref 0, .ref 180, .int (nI (w 0))] h n (fun r h1 => r = some (.int (nI 1)) ∧ LaW D pl w h1) := by
  have := c_sound n D h H.1.2.1 H.2.1 H.1.p H.2.2.2.2.2
  rw [← H.2.2.1] at this
  exact sp_imp this fun r h1 q => ⟨q.1, H.same q.2⟩
theorem LaW.facts {n : Nat} (H : LaW D pl w h) (hy : y < 2147483648) (h8 : D.1 1 < 9) : Sp M_L_facts 9 0 0 [.ref 0, .int (nI y), .ref 179, .ref 180, .ref 181] h n (fun r h1 => r = some (.int (nI 1)) ∧ LaW (fyV D.1 pl y, D.2) pl (updN w 2 (w 2 + 1)) h1) := sp_imp (c_facts n y D pl w h H.1 hy H.2.2.1 H.2.1.2.1 H.2.2.2.2.1 h8 H.2.2.2.2.2) fun r h1 q => ⟨q.1, H.fact (by omega) q.2⟩
theorem LaW.rules {n : Nat} (H : LaW D pl w h) (hy : y < 2147483648) (hz : z < 2147483648) (h4 : D.1 2 < 4) : Sp M_L_rules 9 0 0 [.ref 0, .int (nI y), .int (nI z), .ref 178, .ref 180, .ref 181] h n (fun r h1 => r = some (.int (nI 1)) ∧ ∃ D', D'.1 1 = D.1 1 ∧ D'.1 2 = D.1 2 + 1 ∧ LaW D' pl (updN w 1 (w 1 + 1)) h1) := sp_imp (c_rules n y z D pl w h H.1 H.2.1 hy hz H.2.2.1 H.2.2.2.1 h4 H.2.2.2.2.2) fun r h1 q => by
  obtain ⟨q1, D', ⟨g1, g2, g3, g4, g5, g6⟩, q3⟩ := q
  refine ⟨q1, D', g3, g4, q3, g1, ?_, ?_, ?_, fun q hq => ?_⟩
  · rw [updN_ne _ _ (by omega), H.2.2.1, g2]
  · rw [updN_same, H.2.2.2.1, g4]
  · rw [updN_ne _ _ (by omega), H.2.2.2.2.1, g3]
  · rw [H.2.2.2.2.2 q hq, g5 q hq]
theorem LaW.refuses {n : Nat} (H : LaW D pl w h) : Sp M_L_refuses 9 0 0 [.ref 0, .int (nI (w 0))] h n (fun r h1 => r = some (.int (nI 1)) ∧ LaW D pl w h1) := by
  have := c_refuses n D h H.1.1 H.1.2.1 H.2.1.2.1
  rw [← H.2.2.1] at this
  exact sp_imp this fun r h1 q => ⟨q.1, H.same q.2⟩
/-- the last fact goes -/
theorem LaW.drop {h1 : Nat → MC} (H : LaW D pl w h) (h0 : 0 < D.1 1) (hJ : SJ (updN D.1 1 (D.1 1 - 1), D.2) h h1) : LaW (updN D.1 1 (D.1 1 - 1), D.2) pl (updN w 2 (w 2 - 1)) (hset h1 181 (.inl (.int, 3, .inl (vI (updN w 2 (w 2 - 1)))))) := by
  have hV := H.2.1.dropFact h0
  refine ⟨(show FW (updN D.1 1 (D.1 1 - 1), D.2) pl w h1 from H.1.sj ⟨hV.1, H.1.1.2⟩ hJ).setW, hV, ?_, ?_, ?_, fun q hq => ?_⟩
  · rw [updN_ne _ _ (by omega), H.2.2.1]
    exact (show updN D.1 1 (D.1 1 - 1) 0 = D.1 0 from updN_ne _ _ (by omega)).symm
  · rw [updN_ne _ _ (by omega), H.2.2.2.1]
    exact (show updN D.1 1 (D.1 1 - 1) 2 = D.1 2 from updN_ne _ _ (by omega)).symm
  · rw [updN_same, H.2.2.2.2.1]
    exact (show updN D.1 1 (D.1 1 - 1) 1 = D.1 1 - 1 from updN_same _ _ _).symm
  · rw [H.2.2.2.2.2 q hq]
    exact (show updN D.1 1 (D.1 1 - 1) (3 + q) = D.1 (3 + q) from updN_ne _ _ (by omega)).symm
/-- the last rule goes -/
theorem LaW.dropR {h1 : Nat → MC} (H : LaW D pl w h) (h0 : 0 < D.1 2) (hJ : SJ (updN D.1 2 (D.1 2 - 1), D.2) h h1) : LaW (updN D.1 2 (D.1 2 - 1), D.2) pl (updN w 1 (w 1 - 1)) (hset h1 181 (.inl (.int, 3, .inl (vI (updN w 1 (w 1 - 1)))))) := by
  have hV := H.2.1.dropRule h0
  refine ⟨(show FW (updN D.1 2 (D.1 2 - 1), D.2) pl w h1 from H.1.sj ⟨hV.1, H.1.1.2⟩ hJ).setW, hV, ?_, ?_, ?_, fun q hq => ?_⟩
  · rw [updN_ne _ _ (by omega), H.2.2.1]
    exact (show updN D.1 2 (D.1 2 - 1) 0 = D.1 0 from updN_ne _ _ (by omega)).symm
  · rw [updN_same, H.2.2.2.1]
    exact (show updN D.1 2 (D.1 2 - 1) 2 = D.1 2 - 1 from updN_same _ _ _).symm
  · rw [updN_ne _ _ (by omega), H.2.2.2.2.1]
    exact (show updN D.1 2 (D.1 2 - 1) 1 = D.1 1 from updN_ne _ _ (by omega)).symm
  · rw [H.2.2.2.2.2 q hq]
    exact (show updN D.1 2 (D.1 2 - 1) (3 + q) = D.1 (3 + q) from updN_ne _ _ (by omega)).symm
set_option maxRecDepth 20000 in
/-- from 410 on: perhaps a rule is removed -/
theorem law_rem (C : LC p s m meth c b Ln xs G) (H : LaW D pl w h) (hsl : sl ≤ 7302250) (hz : z < 2147483648) (hk : k < 4)
    (kk : ∀ D' w' h', D'.1 1 = D.1 1 → D'.1 2 ≤ D.1 2 → LaW D' pl w' h' → LM p l e s m below meth c b G 184 (lwL y 1 (k + 1)) [] h' 182 sl) : LM p l e s m below meth c b G 410 (lwM y 1 k z) [] h 182 sl := by
  have hok := H.2.1.1
  have h8 := hok.2.2.2.1
  have w1 := H.2.2.2.1
  have hJ := H.j
  have k1 : LM p l e s m below meth c b G 464 (lwM y 1 k z) [] h 182 sl := by
    first | refine lm_ninc C rfl rfl rfl ?_ | refine lm_iinc C rfl rfl rfl rfl ?_
    refine lm_goto C rfl ?_
    exact lm_locals rfl (kk D w h rfl (Nat.le_refl _) H)
  refine lm_iload C rfl rfl ?_
  refine lm_z_eq C rfl (by omega) (fun f1 => ?_) (fun f1 => ?_)
  · omega
  refine lm_iload C rfl rfl ?_
  refine lm_iconst C (v := nI 4) rfl (by decide) ?_
  refine lm_nrem C rfl hz (by omega) (by omega) ?_
  refine lm_z_ne C rfl (by omega) (fun f2 => ?_) (fun f2 => ?_)
  · exact k1
  refine lm_aload C rfl rfl ?_
  refine lm_iconst C (v := nI 1) rfl (by decide) ?_
  refine lm_iald_v C rfl H.1.w (by omega) (by omega) (vI_at w 1) ?_
  refine lm_iconst C (v := nI 1) rfl (by decide) ?_
  refine lm_n_le C rfl (by omega) (by omega) (fun f3 => ?_) (fun f3 => ?_)
  · exact k1
  refine lm_aload_n C (i := 1) rfl rfl rfl ?_
  refine lm_aload C rfl rfl ?_
  refine lm_iconst C (v := nI 1) rfl (by decide) ?_
  refine lm_iald_v C rfl H.1.w (by omega) (by omega) (vI_at w 1) ?_
  refine lm_iconst C (v := nI 1) rfl (by decide) ?_
  first | refine lm_nsub C rfl (by omega) ?_ | refine lm_isub C rfl ?_
  rw [show w 1 - 1 = D.1 2 - 1 by rw [w1]]
  have hr := ko_removeRule (n := 182) (f := D.1 2 - 1) hJ.1 (by omega)
  rw [shV_no] at hr
  refine lm_askI C (hr) hJ rfl ok_X9_removeRule v_L_102 rfl rfl (Nat.le_of_ble_eq_true rfl) rfl (Nat.le_of_ble_eq_true rfl) (by omega) (by omega) (by omega) (fun h hJ => ?_)
  have e181 := (hJ.2 181 (by omega)).trans H.1.w
  refine lm_aload C rfl rfl ?_
  refine lm_iconst C (v := nI 1) rfl (by decide) ?_
  refine lm_iald_v C rfl e181 (by omega) (by omega) (vI_at w 1) ?_
  refine lm_iconst C (v := nI 1) rfl (by decide) ?_
  first | refine lm_nsub C rfl (by omega) ?_ | refine lm_isub C rfl ?_
  rw [show w 1 - 1 = D.1 2 - 1 by rw [w1]]
  refine lm_n_ne C rfl (by omega) (by omega) (fun f4 => ?_) (fun f4 => ?_)
  · exact absurd rfl f4
  refine lm_iconst C (v := nI 1) rfl (by decide) ?_
  refine lm_goto C rfl ?_
  refine lm_istore C rfl rfl ?_
  refine lm_aload C rfl rfl ?_
  refine lm_iconst C (v := nI 1) rfl (by decide) ?_
  refine lm_dup2 C rfl rfl rfl ?_
  refine lm_iald_v C rfl e181 (by omega) (by omega) (vI_at w 1) ?_
  refine lm_iconst C (v := nI 1) rfl (by decide) ?_
  first | refine lm_nsub C rfl (by omega) ?_ | refine lm_isub C rfl ?_
  refine lm_iast C rfl e181 (by omega) (by omega) ?_
  rw [vI_upd]
  have H2 := H.dropR (by omega) hJ
  first | refine lm_ninc C rfl rfl rfl ?_ | refine lm_iinc C rfl rfl rfl rfl ?_
  refine lm_goto C rfl ?_
  exact lm_locals rfl (kk (updN D.1 2 (D.1 2 - 1), D.2) _ _ (show updN D.1 2 (D.1 2 - 1) 1 = D.1 1 from updN_ne _ _ (by omega)) (by
    show updN D.1 2 (D.1 2 - 1) 2 ≤ D.1 2
    rw [updN_same]
    omega) H2)
set_option maxRecDepth 20000 in
/-- from 316 on: a fact goes and comes again -/
theorem law_back {v1 : Nat → Nat} {D1 : LD} (C : LC p s m meth c b Ln xs G) (hD : D = (fyV v1 pl z, D1.2)) (H : LaW D pl w h) (hsl : sl ≤ 7302250) (hz : z < 2147483648) (hk : k < 4) (h8 : D.1 1 < 9)
    (kk : ∀ D' w' h', D'.1 1 = D.1 1 → D'.1 2 ≤ D.1 2 → LaW D' pl w' h' → LM p l e s m below meth c b G 184 (lwL y 1 (k + 1)) [] h' 182 sl) : LM p l e s m below meth c b G 316 (lwM y 1 k z) [] h 182 sl := by
  have hok := H.2.1.1
  have w2 := H.2.2.2.2.1
  have hJ := H.j
  have h1 : 0 < D.1 1 := by
    rw [hD]
    show 0 < fyV v1 pl z 1
    rw [fyV_1]
    omega
  refine lm_aload_n C (i := 1) rfl rfl rfl ?_
  refine lm_ask C (ko_checksum hJ.1) hJ rfl ok_X9_checksum v_L_85 rfl rfl (Nat.le_of_ble_eq_true rfl) rfl (Nat.le_of_ble_eq_true rfl) (by omega) (by omega) (by omega) (fun r h hr hJ => ?_)
  obtain ⟨c0, e0, -⟩ := ck_uniq hok hr hr
  have hck := hr
  subst e0
  have e181 := (hJ.2 181 (by omega)).trans H.1.w
  refine lm_lstore C rfl rfl ?_
  refine lm_iload C rfl rfl ?_
  refine lm_z_eq C rfl (by omega) (fun f1 => ?_) (fun f1 => ?_)
  · omega
  refine lm_aload_n C (i := 1) rfl rfl rfl ?_
  refine lm_aload C rfl rfl ?_
  refine lm_iconst C (v := nI 2) rfl (by decide) ?_
  refine lm_iald_v C rfl e181 (by omega) (by omega) (vI_at w 2) ?_
  refine lm_iconst C (v := nI 1) rfl (by decide) ?_
  first | refine lm_nsub C rfl (by omega) ?_ | refine lm_isub C rfl ?_
  rw [show w 2 - 1 = D.1 1 - 1 by rw [w2]]
  have hrm := ko_removeFact (n := 182) (f := D.1 1 - 1) hJ.1 (by omega)
  rw [shV_no] at hrm
  refine lm_askI C (hrm) hJ rfl ok_X9_removeFact v_L_99 rfl rfl (Nat.le_of_ble_eq_true rfl) rfl (Nat.le_of_ble_eq_true rfl) (by omega) (by omega) (by omega) (fun h hJ => ?_)
  have e181 := (hJ.2 181 (by omega)).trans H.1.w
  refine lm_aload C rfl rfl ?_
  refine lm_iconst C (v := nI 2) rfl (by decide) ?_
  refine lm_iald_v C rfl e181 (by omega) (by omega) (vI_at w 2) ?_
  refine lm_iconst C (v := nI 1) rfl (by decide) ?_
  first | refine lm_nsub C rfl (by omega) ?_ | refine lm_isub C rfl ?_
  rw [show w 2 - 1 = D.1 1 - 1 by rw [w2]]
  refine lm_n_ne C rfl (by omega) (by omega) (fun f2 => ?_) (fun f2 => ?_)
  · exact absurd rfl f2
  refine lm_iconst C (v := nI 1) rfl (by decide) ?_
  refine lm_goto C rfl ?_
  refine lm_istore C rfl rfl ?_
  refine lm_aload C rfl rfl ?_
  refine lm_iconst C (v := nI 2) rfl (by decide) ?_
  refine lm_dup2 C rfl rfl rfl ?_
  refine lm_iald_v C rfl e181 (by omega) (by omega) (vI_at w 2) ?_
  refine lm_iconst C (v := nI 1) rfl (by decide) ?_
  first | refine lm_nsub C rfl (by omega) ?_ | refine lm_isub C rfl ?_
  refine lm_iast C rfl e181 (by omega) (by omega) ?_
  rw [vI_upd]
  have H2 := H.drop h1 hJ
  generalize hset _ 181 (.inl (.int, 3, .inl (vI (updN w 2 (w 2 - 1))))) = h2 at H2 ⊢
  have w02 : updN w 2 (w 2 - 1) 0 = w 0 := updN_ne _ _ (by omega)
  refine lm_iload C rfl rfl ?_
  refine lm_z_eq C rfl (by omega) (fun f3 => ?_) (fun f3 => ?_)
  · omega
  refine lm_aload_n C (i := 1) rfl rfl rfl ?_
  refine lm_aload C rfl rfl ?_
  refine lm_aload C rfl rfl ?_
  refine lm_iconst C (v := nI 0) rfl (by decide) ?_
  refine lm_iald_v C rfl H2.1.w (by omega) (by omega) (vI_at (updN w 2 (w 2 - 1)) 0) ?_
  refine lm_callS C (H2.sound) rfl ok_L_sound v_L_122 rfl (Nat.le_of_ble_eq_true rfl) rfl (Nat.le_of_ble_eq_true rfl) (by omega) (by omega) (by omega) ?_
  rintro r h3 ⟨rfl, H3⟩
  show LM p l e s m below meth c b G 376 _ [.int (nI 1)] h3 182 sl
  refine lm_z_eq C rfl (by omega) (fun f4 => ?_) (fun f4 => ?_)
  · omega
  refine lm_aload_n C (i := 1) rfl rfl rfl ?_
  refine lm_iload C rfl rfl ?_
  refine lm_aload_n C (i := 3) rfl rfl rfl ?_
  refine lm_aload C rfl rfl ?_
  refine lm_aload C rfl rfl ?_
  refine lm_callS C (H3.facts hz (by show updN D.1 1 (D.1 1 - 1) 1 < 9; rw [updN_same]; omega)) rfl ok_L_facts v_L_116 rfl (Nat.le_of_ble_eq_true rfl) rfl (Nat.le_of_ble_eq_true rfl) (by omega) (by omega) (by omega) ?_
  rintro r h4 ⟨rfl, H4⟩
  show LM p l e s m below meth c b G 390 _ [.int (nI 1)] h4 182 sl
  refine lm_z_eq C rfl (by omega) (fun f5 => ?_) (fun f5 => ?_)
  · omega
  have eD : (fyV (updN D.1 1 (D.1 1 - 1)) pl z, D.2) = D := by
    rw [hD]
    exact congrArg (fun v => (v, D1.2)) (fyV_back v1 pl z)
  have H4 : LaW (fyV (updN D.1 1 (D.1 1 - 1)) pl z, D.2) pl (updN (updN w 2 (w 2 - 1)) 2 (updN w 2 (w 2 - 1) 2 + 1)) h4 := H4
  rw [eD] at H4
  have hJ := H4.j
  refine lm_aload_n C (i := 1) rfl rfl rfl ?_
  refine lm_ask C (ko_checksum hJ.1) hJ rfl ok_X9_checksum v_L_85 rfl rfl (Nat.le_of_ble_eq_true rfl) rfl (Nat.le_of_ble_eq_true rfl) (by omega) (by omega) (by omega) (fun r h hr hJ => ?_)
  obtain ⟨c1, e1, e3⟩ := ck_uniq hok hr hck
  cases e3
  subst e1
  refine lm_lload C rfl rfl ?_
  refine lm_lcmp C rfl ?_
  rw [lg_same]
  refine lm_if_ne C rfl (fun f6 => ?_) (fun f6 => ?_)
  · exact absurd rfl f6
  refine lm_iconst C (v := nI 1) rfl (by decide) ?_
  refine lm_goto C rfl ?_
  refine lm_istore C rfl rfl ?_
  exact lm_locals rfl (law_rem C (H4.same hJ) hsl hz hk kk)
set_option maxRecDepth 20000 in
/-- one turn of the loop, from 195 on -/
theorem law_turn (C : LC p s m meth c b Ln xs G) (H : LaW D pl w h) (hsl : sl ≤ 7302250) (hk : k < 4) (h1 : D.1 1 = 3 + k) (h2 : D.1 2 ≤ k)
    (kk : ∀ D' w' h', D'.1 1 = 3 + (k + 1) → D'.1 2 ≤ k + 1 → LaW D' pl w' h' → LM p l e s m below meth c b G 184 (lwL y 1 (k + 1)) [] h' 182 sl) : LM p l e s m below meth c b G 195 (lwL y 1 k) [] h 182 sl := by
  refine lm_cell1 (k := 4) (j := k) C rfl rfl (by decide) rfl rfl rfl (by omega) rfl (Nat.le_of_ble_eq_true rfl) (by omega) hsl (fun z hz => ?_)
  refine lm_istore C rfl rfl ?_
  refine lm_aload_n C (i := 1) rfl rfl rfl ?_
  refine lm_cell2 (k := 9) (j := k) C rfl rfl (by decide) rfl rfl rfl rfl rfl (by omega) rfl (Nat.le_of_ble_eq_true rfl) (by omega) hsl (fun y1 hy1 => ?_)
  refine lm_cell2 (k := 10) (j := k) C rfl rfl (by decide) rfl rfl rfl rfl rfl (by omega) rfl (Nat.le_of_ble_eq_true rfl) (by omega) hsl (fun z1 hz1 => ?_)
  refine lm_aload_n C (i := 2) rfl rfl rfl ?_
  refine lm_aload C rfl rfl ?_
  refine lm_aload C rfl rfl ?_
  refine lm_callS C (H.rules hy1 hz1 (by omega)) rfl ok_L_rules v_L_119 rfl (Nat.le_of_ble_eq_true rfl) rfl (Nat.le_of_ble_eq_true rfl) (by omega) (by omega) (by omega) ?_
  rintro r h1' ⟨rfl, D1, g1, g2, H1⟩
  show LM p l e s m below meth c b G 236 _ [.int (nI 1)] h1' 182 sl
  refine lm_z_eq C rfl (by omega) (fun f1 => ?_) (fun f1 => ?_)
  · omega
  refine lm_aload_n C (i := 1) rfl rfl rfl ?_
  refine lm_aload C rfl rfl ?_
  refine lm_aload C rfl rfl ?_
  refine lm_iconst C (v := nI 0) rfl (by decide) ?_
  refine lm_iald_v C rfl H1.1.w (by omega) (by omega) (vI_at _ 0) ?_
  refine lm_callS C (H1.sound) rfl ok_L_sound v_L_122 rfl (Nat.le_of_ble_eq_true rfl) rfl (Nat.le_of_ble_eq_true rfl) (by omega) (by omega) (by omega) ?_
  rintro r h2' ⟨rfl, H2⟩
  show LM p l e s m below meth c b G 249 _ [.int (nI 1)] h2' 182 sl
  refine lm_z_eq C rfl (by omega) (fun f2 => ?_) (fun f2 => ?_)
  · omega
  refine lm_iconst C (v := nI 1) rfl (by decide) ?_
  refine lm_goto C rfl ?_
  refine lm_istore C rfl rfl ?_
  refine lm_iload C rfl rfl ?_
  refine lm_z_eq C rfl (by omega) (fun f3 => ?_) (fun f3 => ?_)
  · omega
  refine lm_aload_n C (i := 1) rfl rfl rfl ?_
  refine lm_iload C rfl rfl ?_
  refine lm_aload_n C (i := 3) rfl rfl rfl ?_
  refine lm_aload C rfl rfl ?_
  refine lm_aload C rfl rfl ?_
  refine lm_callS C (H2.facts hz (by omega)) rfl ok_L_facts v_L_116 rfl (Nat.le_of_ble_eq_true rfl) rfl (Nat.le_of_ble_eq_true rfl) (by omega) (by omega) (by omega) ?_
  rintro r h3' ⟨rfl, H3⟩
  show LM p l e s m below meth c b G 275 _ [.int (nI 1)] h3' 182 sl
  refine lm_z_eq C rfl (by omega) (fun f4 => ?_) (fun f4 => ?_)
  · omega
  refine lm_aload_n C (i := 1) rfl rfl rfl ?_
  refine lm_aload C rfl rfl ?_
  refine lm_aload C rfl rfl ?_
  refine lm_iconst C (v := nI 0) rfl (by decide) ?_
  refine lm_iald_v C rfl H3.1.w (by omega) (by omega) (vI_at _ 0) ?_
  refine lm_callS C (H3.sound) rfl ok_L_sound v_L_122 rfl (Nat.le_of_ble_eq_true rfl) rfl (Nat.le_of_ble_eq_true rfl) (by omega) (by omega) (by omega) ?_
  rintro r h4' ⟨rfl, H4⟩
  show LM p l e s m below meth c b G 288 _ [.int (nI 1)] h4' 182 sl
  refine lm_z_eq C rfl (by omega) (fun f5 => ?_) (fun f5 => ?_)
  · omega
  have k9 : ∀ h', LaW (fyV D1.1 pl z, D1.2) pl (updN (updN w 1 (w 1 + 1)) 2 (updN w 1 (w 1 + 1) 2 + 1)) h' → LM p l e s m below meth c b G 309 (lwM y 1 k z) [] h' 182 sl := by
    intro h' H5
    refine lm_iconst C (v := nI 1) rfl (by decide) ?_
    refine lm_goto C rfl ?_
    refine lm_istore C rfl rfl ?_
    refine lm_locals rfl (law_back (v1 := D1.1) (D1 := D1) C rfl H5 hsl hz hk ?_ (fun D' w' h' q1 q2 q3 => kk D' w' h' ?_ ?_ q3))
    · show fyV D1.1 pl z 1 < 9
      rw [fyV_1]
      omega
    · rw [q1]
      show fyV D1.1 pl z 1 = 3 + (k + 1)
      rw [fyV_1]
      omega
    · have q2 : D'.1 2 ≤ fyV D1.1 pl z 2 := q2
      rw [fyV_2] at q2
      omega
  refine lm_locals (L2 := lwM y 1 k z) rfl ?_
  refine lm_iload C rfl rfl ?_
  refine lm_iconst C (v := nI 2) rfl (by decide) ?_
  refine lm_nrem C rfl (by omega) (by omega) (by omega) ?_
  refine lm_z_gt C rfl (by omega) (fun f6 => ?_) (fun f6 => ?_)
  · exact k9 h4' H4
  refine lm_aload_n C (i := 1) rfl rfl rfl ?_
  refine lm_aload C rfl rfl ?_
  refine lm_iconst C (v := nI 0) rfl (by decide) ?_
  refine lm_iald_v C rfl H4.1.w (by omega) (by omega) (vI_at _ 0) ?_
  refine lm_callS C (H4.refuses) rfl ok_L_refuses v_L_126 rfl (Nat.le_of_ble_eq_true rfl) rfl (Nat.le_of_ble_eq_true rfl) (by omega) (by omega) (by omega) ?_
  rintro r h5' ⟨rfl, H5⟩
  show LM p l e s m below meth c b G 306 _ [.int (nI 1)] h5' 182 sl
  refine lm_z_eq C rfl (by omega) (fun f7 => ?_) (fun f7 => ?_)
  · omega
  exact k9 h5' H5
set_option maxRecDepth 20000 in
theorem law_loop (C : LC p s m meth c b Ln xs G) (hsl : sl ≤ 7302250) : ∀ j k D w h, j + k = 4 → LaW D pl w h → D.1 1 = 3 + k → D.1 2 ≤ k → LM p l e s m below meth c b G 184 (lwL y 1 k) [] h 182 sl := by
  intro j
  induction j with
  | zero =>
    intro k D w h hk H h1 h2
    obtain rfl : k = 4 := by omega
    refine lm_iload C rfl rfl ?_
    refine lm_iconst C (v := nI 4) rfl (by decide) ?_
    refine lm_n_ge C rfl (by omega) (by omega) (fun f1 => ?_) (fun f1 => ?_)
    · exact lm_locals rfl (law_end C H hsl)
    · omega
  | succ j ih =>
    intro k D w h hk H h1 h2
    refine lm_iload C rfl rfl ?_
    refine lm_iconst C (v := nI 4) rfl (by decide) ?_
    refine lm_n_ge C rfl (by omega) (by omega) (fun f1 => ?_) (fun f1 => ?_)
    · omega
    refine lm_iload C rfl rfl ?_
    refine lm_z_eq C rfl (by omega) (fun f2 => ?_) (fun f2 => ?_)
    · omega
    exact lm_locals rfl (law_turn C H hsl (by omega) h1 h2 (fun D' w' h' q1 q2 q3 => ih (k + 1) D' w' h' (by omega) q3 q1 q2))
end LAWQ
