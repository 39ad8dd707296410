/-! P30: the law's end, from 470 on -/
section LAWP
variable {p : Program} {l : Launch} {e : Env} {s : State} {m : MethodId} {below : List Frame} {meth : Method} {c : Code} {b Ln : Nat} {xs : Nat → Int32} {G : MG} {sl y k : Nat} {h : Nat → MC} {D : LD} {pl w : Nat → Nat}
abbrev lwL (y ok i : Nat) : List (Nat × Value) := [(1, .ref 0), (2, .ref 178), (3, .ref 179), (4, .ref 180), (5, .ref 181), (6, .int (nI y)), (7, .int (nI ok)), (8, .int (nI i))]
theorem lg_same (y : Int64) : lg_cmp y y = 0 := by
  unfold lg_cmp
  rw [if_neg (fun q => Int64.lt_irrefl q), if_pos rfl]
set_option maxRecDepth 20000 in
theorem law_end (C : LC p s m meth c b Ln xs G) (H : LaW D pl w h) (hsl : sl ≤ 7302250) : LM p l e s m below meth c b G 470 (lwL y 1 k) [] h 182 sl := by
  have hV := H.2.1
  have hok := hV.1
  have h1 := hok.1
  have h3 := hV.2.1
  have h8 := hok.2.2.2.1
  have h12 := hok.2.2.1
  obtain ⟨hF, -, w0, w1, w2, hpl⟩ := H
  have hJ : SJ D h h := ⟨hF.2.1, fun _ _ => rfl⟩
  have hP := hF.p
  have hW := hF.w
  have hW2 : ∀ {D' : LD} {h2 : Nat → MC}, SJ D' h h2 → h2 181 = .inl (.int, 3, .inl (vI w)) := fun q => (q.2 181 (by omega)).trans hW
  refine lm_aload_n C (i := 1) rfl rfl rfl ?_
  refine lm_ask C (ko_checksum hJ.1) hJ rfl ok_X9_checksum v_L_85 rfl rfl (Nat.le_of_ble_eq_true rfl) rfl (Nat.le_of_ble_eq_true rfl) (by omega) (by omega) (by omega) (fun r h hr hJ => ?_)
  obtain ⟨c0, e0, -⟩ := ck_uniq hok hr hr
  have hck := hr
  subst e0
  refine lm_lstore C rfl rfl ?_
  refine lm_iload C rfl rfl ?_
  refine lm_z_eq C rfl (by omega) (fun f1 => ?_) (fun f1 => ?_)
  · omega
  refine lm_aload_n C (i := 1) rfl rfl rfl ?_
  refine lm_iconst C (v := nI 0) rfl (by decide) ?_
  have hv0 : ∀ j, keepV D.1 D.2.2.2.2 (189 * 0) 189 (189 * 0 + j) = if j < 189 then D.1 j else D.2.2.2.2 j := fun j => by
    unfold keepV
    rw [show 189 * 0 + j = j by omega]
    by_cases q : j < 189
    · rw [if_pos ⟨by omega, by omega⟩, if_pos q, show j - 189 * 0 = j by omega]
    · rw [if_neg (by omega), if_neg q]
  refine lm_askI C (ko_save hok hJ.1 (i := 0) (by omega)) hJ rfl ok_X9_save v_L_105 rfl rfl (Nat.le_of_ble_eq_true rfl) rfl (Nat.le_of_ble_eq_true rfl) (by omega) (by omega) (by omega) (fun h hJ => ?_)
  refine lm_aload C rfl rfl ?_
  refine lm_iconst C (v := nI 1) rfl (by decide) ?_
  refine lm_iald_v C rfl (hW2 hJ) (by omega) (by omega) (vI_at w 1) ?_
  refine lm_n_ne C rfl (by omega) (by omega) (fun f2 => ?_) (fun f2 => ?_)
  · omega
  refine lm_aload_n C (i := 1) rfl rfl rfl ?_
  refine lm_aload C rfl rfl ?_
  refine lm_iconst C (v := nI 0) rfl (by decide) ?_
  refine lm_iald_v C rfl (hW2 hJ) (by omega) (by omega) (vI_at w 0) ?_
  refine lm_bipush C (v := nI 6) rfl (by decide) ?_
  refine lm_n_ne C rfl (by omega) (by omega) (fun f3 => ?_) (fun f3 => ?_)
  · refine lm_bipush C (v := nI 6) rfl (by decide) ?_
    refine lm_askI C (ko_v (z := nI (D.1 0)) (ko_begin hJ.1 (c := 6) (by omega) (by omega)) rfl) hJ rfl ok_X9_begin v_L_89 rfl rfl (Nat.le_of_ble_eq_true rfl) rfl (Nat.le_of_ble_eq_true rfl) (by omega) (by omega) (by omega) (fun h hJ => ?_)
    refine lm_aload C rfl rfl ?_
    refine lm_iconst C (v := nI 0) rfl (by decide) ?_
    refine lm_iald_v C rfl (hW2 hJ) (by omega) (by omega) (vI_at w 0) ?_
    refine lm_n_ne C rfl (by omega) (by omega) (fun f4 => ?_) (fun f4 => ?_)
    · exact absurd w0.symm f4
    have hok6 : OkN (anewV D.1 6) := ok_anew D.1 (by omega) (by omega)
    have a1 : anewV D.1 6 1 = 0 := by
      unfold anewV
      rw [if_neg (by omega), if_neg (by omega), if_pos (by omega)]
    have a2 : anewV D.1 6 2 = 0 := by
      unfold anewV
      rw [if_neg (by omega), if_neg (by omega), if_pos (by omega)]
    refine lm_aload_n C (i := 1) rfl rfl rfl ?_
    refine lm_askI C (ko_v (ko_facts hJ.1) (congrArg nI a1)) hJ rfl ok_X9_facts v_L_96 rfl rfl (Nat.le_of_ble_eq_true rfl) rfl (Nat.le_of_ble_eq_true rfl) (by omega) (by omega) (by omega) (fun h hJ => ?_)
    refine lm_z_ne C rfl (by omega) (fun f5 => ?_) (fun f5 => ?_)
    · omega
    refine lm_aload_n C (i := 1) rfl rfl rfl ?_
    refine lm_askI C (ko_v (ko_rules hJ.1) (congrArg nI a2)) hJ rfl ok_X9_rules v_L_79 rfl rfl (Nat.le_of_ble_eq_true rfl) rfl (Nat.le_of_ble_eq_true rfl) (by omega) (by omega) (by omega) (fun h hJ => ?_)
    refine lm_z_ne C rfl (by omega) (fun f6 => ?_) (fun f6 => ?_)
    · omega
    refine lm_aload_n C (i := 1) rfl rfl rfl ?_
    have es : okA (anewV D.1 6) (nI (cntM (mdl0 (anewV D.1 6)).1 0 216)) = nI 0 := by
      rw [okA_1 (str_no hok6 a2), mdl_no hok6 a1 a2]
    refine lm_askI C (ko_v (ko_size hJ.1) es) hJ rfl ok_X9_size v_L_39 rfl rfl (Nat.le_of_ble_eq_true rfl) rfl (Nat.le_of_ble_eq_true rfl) (by omega) (by omega) (by omega) (fun h hJ => ?_)
    refine lm_z_ne C rfl (by omega) (fun f7 => ?_) (fun f7 => ?_)
    · omega
    refine lm_iconst C (v := nI 1) rfl (by decide) ?_
    refine lm_goto C rfl ?_
    refine lm_istore C rfl rfl ?_
    refine lm_iload C rfl rfl ?_
    refine lm_z_eq C rfl (by omega) (fun f8 => ?_) (fun f8 => ?_)
    · omega
    refine lm_aload_n C (i := 1) rfl rfl rfl ?_
    refine lm_iconst C (v := nI 0) rfl (by decide) ?_
    obtain ⟨hokR, hR⟩ := ko_restore (n := 182) hJ.1 (i := 0) (by omega) rfl
    have eD : (fun j => if j < 189 then keepV D.1 D.2.2.2.2 (189 * 0) 189 (189 * 0 + j) else anewV D.1 6 j) = D.1 := by
      funext j
      rw [hv0]
      by_cases q : j < 189
      · rw [if_pos q, if_pos q]
      · rw [if_neg q]
        unfold anewV
        rw [if_neg (by omega), if_neg (by omega), if_neg q]
    have e2 : keepV D.1 D.2.2.2.2 (189 * 0) 189 (189 * 0 + 2) = D.1 2 := by
      rw [hv0, if_pos (by omega)]
    have hR : Sp M_X9_restore 8 0 0 [.ref 0, .int (nI 0)] h 182 (KRet (fun r => r = some (.int (nI (keepV D.1 D.2.2.2.2 (189 * 0) 189 (189 * 0 + 2))))) ((fun j => if j < 189 then keepV D.1 D.2.2.2.2 (189 * 0) 189 (189 * 0 + j) else anewV D.1 6 j), D.2.1, D.2.2.1, updN D.2.2.2.1 0 true, keepV D.1 D.2.2.2.2 (189 * 0) 189) h) := hR
    rw [eD, e2] at hR
    refine lm_askI C (hR) hJ rfl ok_X9_restore v_L_108 rfl rfl (Nat.le_of_ble_eq_true rfl) rfl (Nat.le_of_ble_eq_true rfl) (by omega) (by omega) (by omega) (fun h hJ => ?_)
    refine lm_aload C rfl rfl ?_
    refine lm_iconst C (v := nI 1) rfl (by decide) ?_
    refine lm_iald_v C rfl (hW2 hJ) (by omega) (by omega) (vI_at w 1) ?_
    refine lm_n_ne C rfl (by omega) (by omega) (fun f9 => ?_) (fun f9 => ?_)
    · exact absurd w1.symm f9
    refine lm_aload_n C (i := 1) rfl rfl rfl ?_
    refine lm_ask C (ko_checksum hJ.1) hJ rfl ok_X9_checksum v_L_85 rfl rfl (Nat.le_of_ble_eq_true rfl) rfl (Nat.le_of_ble_eq_true rfl) (by omega) (by omega) (by omega) (fun r h hr hJ => ?_)
    obtain ⟨c1, e1, e3⟩ := ck_uniq hok hr hck
    cases e3
    subst e1
    refine lm_lload C rfl rfl ?_
    refine lm_lcmp C rfl ?_
    rw [lg_same]
    refine lm_if_ne C rfl (fun g1 => ?_) (fun g1 => ?_)
    · exact absurd rfl g1
    refine lm_aload_n C (i := 1) rfl rfl rfl ?_
    refine lm_askI C (ko_v (z := nI (D.1 1)) (ko_facts hJ.1) rfl) hJ rfl ok_X9_facts v_L_96 rfl rfl (Nat.le_of_ble_eq_true rfl) rfl (Nat.le_of_ble_eq_true rfl) (by omega) (by omega) (by omega) (fun h hJ => ?_)
    refine lm_aload C rfl rfl ?_
    refine lm_iconst C (v := nI 2) rfl (by decide) ?_
    refine lm_iald_v C rfl (hW2 hJ) (by omega) (by omega) (vI_at w 2) ?_
    refine lm_n_ne C rfl (by omega) (by omega) (fun g2 => ?_) (fun g2 => ?_)
    · exact absurd w2.symm g2
    refine lm_iconst C (v := nI 1) rfl (by decide) ?_
    refine lm_goto C rfl ?_
    exact lw_end C (lt_ok LTw_ok (pc := 590) (nx := 591) (tg := 0) rfl).1 (by omega) hsl
  · omega
end LAWP
