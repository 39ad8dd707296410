/-! P30: facts, refuses -/
/-- the law's world: the object's state D, the rows r, b, p, w -/
def FW (D : LD) (pl w : Nat → Nat) (h : Nat → MC) : Prop := DOk D ∧ KSd D h ∧ (∃ rf, h 178 = .inl (.int, 64, .inl rf)) ∧ (∃ bf, h 179 = .inl (.int, 30, .inl bf)) ∧ h 180 = .inl (.int, 6, .inl (vI pl)) ∧ h 181 = .inl (.int, 3, .inl (vI w))
theorem FW.sj {D D' : LD} {pl w : Nat → Nat} {h0 h : Nat → MC} (H : FW D pl w h0) (hD : DOk D') (hJ : SJ D' h0 h) : FW D' pl w h := by
  obtain ⟨-, -, ⟨rf, h3⟩, ⟨bf, h4⟩, h5, h6⟩ := H
  exact ⟨hD, hJ.1, ⟨rf, (hJ.2 178 (by omega)).trans h3⟩, ⟨bf, (hJ.2 179 (by omega)).trans h4⟩, (hJ.2 180 (by omega)).trans h5, (hJ.2 181 (by omega)).trans h6⟩
/-- the fact that y asks for -/
def fyF (n : Nat) (pl : Nat → Nat) (y : Nat) : Nat := 36 * (y % 4) + 6 * (y / 2 ^ 3 % n) + (if pl (y % 4) = 2 then y / 2 ^ 6 % n else 0)
def fyV (v : Nat → Nat) (pl : Nat → Nat) (y : Nat) : Nat → Nat := addFactV v (fyF (v 0) pl y) (y / 2 ^ 9 % 100) (1 + y / 2 ^ 16 % 16)
theorem up3 (f : Nat → Int32) (m : Nat) (a b c : Int32) : upd (upd (upd f (3 * m) a) (3 * m + 1) b) (3 * m + 2) c (3 * (m + 1) - 2) = b ∧ upd (upd (upd f (3 * m) a) (3 * m + 1) b) (3 * m + 2) c (3 * (m + 1) - 1) = c := by
  rw [show 3 * (m + 1) - 2 = 3 * m + 1 by omega, show 3 * (m + 1) - 1 = 3 * m + 2 by omega]
  refine ⟨?_, ?_⟩
  · rw [pk_un (by omega), pk_us]
  · rw [pk_us]
theorem FW.at {D : LD} {pl w : Nat → Nat} {h : Nat → MC} (H : FW D pl w h) : ∃ bf, mov [(179, .inl (.int, 30, .inl bf)), (180, .inl (.int, 6, .inl (vI pl))), (181, .inl (.int, 3, .inl (vI w)))] h = h := by
  obtain ⟨-, -, -, ⟨bf, h4⟩, h5, h6⟩ := H
  exact ⟨bf, mov_self (by simp [h4, h5, h6])⟩
theorem FW.up {D : LD} {pl w w' : Nat → Nat} {bf : Nat → Int32} {h : Nat → MC} (H : FW D pl w h) : FW D pl w' (mov [(179, .inl (.int, 30, .inl bf)), (180, .inl (.int, 6, .inl (vI pl))), (181, .inl (.int, 3, .inl (vI w')))] h) := by
  obtain ⟨h1, h2, ⟨rf, h3⟩, -⟩ := H
  exact ⟨h1, h2.keep (fun j hj => mov_out rfl hj), ⟨rf, (show mov _ h 178 = h 178 from rfl).trans h3⟩, ⟨bf, rfl⟩, rfl, rfl⟩
theorem vI_at (f : Nat → Nat) (i : Nat) : vI f i = nI (f i) := rfl
theorem c_facts (n y : Nat) (D : LD) (pl w : Nat → Nat) (h : Nat → MC) (H : FW D pl w h) (hy : y < 2147483648) (h0 : w 0 = D.1 0) (h3 : D.1 0 ≤ 3) (h2 : w 2 = D.1 1) (h8 : D.1 1 < 9) (hpl : ∀ q, q < 6 → pl q = D.1 (3 + q)) : Sp M_L_facts 9 0 0 [.ref 0, .int (nI y), .ref 179, .ref 180, .ref 181] h n (fun r h1 => r = some (.int (nI 1)) ∧ FW (fyV D.1 pl y, D.2) pl (updN w 2 (w 2 + 1)) h1) := by
  refine Sp.of2 fun post hp => ?_
  obtain ⟨bf, hm⟩ := H.at
  have hok := H.1.1
  have h1 := hok.1
  have hsh : ∀ j, y / 2 ^ j < 2147483648 := fun j => Nat.lt_of_le_of_lt (Nat.div_le_self _ _) hy
  have hq6 : y % 4 < 6 := by omega
  have hpq : pl (y % 4) = 1 ∨ pl (y % 4) = 2 := by
    rw [hpl _ hq6]
    exact hok.2.2.2.2.1 _ hq6
  refine mw_over _ hm ?_
  refine mw_iload_n (i := 1) rfl rfl rfl ?_
  refine mw_iconst (v := nI 4) rfl (by decide) ?_
  refine mw_nrem rfl hy (by omega) (by omega) ?_
  refine mw_istore rfl (Nat.le_of_ble_eq_true rfl) ?_
  refine mw_iload_n (i := 1) rfl rfl rfl ?_
  refine mw_iconst (v := nI 3) rfl (by decide) ?_
  refine mw_nshr rfl hy (by omega) ?_
  refine mw_aload rfl rfl ?_
  refine mw_iconst (v := nI 0) rfl (by decide) ?_
  refine mw_iald rfl rfl (by omega) (by omega) ?_
  refine mw_nrem rfl (hsh 3) (by rw [h0]; omega) (by rw [h0]; omega) ?_
  refine mw_istore rfl (Nat.le_of_ble_eq_true rfl) ?_
  refine mw_aload_n (i := 3) rfl rfl rfl ?_
  refine mw_iload rfl rfl ?_
  refine mw_iald rfl rfl (by omega) (by omega) ?_
  refine mw_iconst (v := nI 2) rfl (by decide) ?_
  have key : ∀ b0, b0 = (if pl (y % 4) = 2 then y / 2 ^ 6 % w 0 else 0) → MW M_L_facts 9 0 0 n post 36 [(0, .ref 0), (1, .int (nI y)), (2, .ref 179), (3, .ref 180), (4, .ref 181), (5, .int (nI (y % 4))), (6, .int (nI (y / 2 ^ 3 % w 0)))] [.int (nI b0)] (mov [(179, .inl (.int, 30, .inl bf)), (180, .inl (.int, 6, .inl (vI pl))), (181, .inl (.int, 3, .inl (vI w)))] h) n 0 := by
    intro b0 hb0
    refine mw_istore rfl (Nat.le_of_ble_eq_true rfl) ?_
    refine mw_aload_n (i := 2) rfl rfl rfl ?_
    refine mw_iconst (v := nI 3) rfl (by decide) ?_
    refine mw_aload rfl rfl ?_
    refine mw_iconst (v := nI 2) rfl (by decide) ?_
    refine mw_iald_v rfl rfl (by omega) (by omega) (vI_at w 2) ?_
    first | refine mw_nmul rfl ?_ | refine mw_imul rfl ?_
    refine mw_bipush (v := nI 36) rfl (by decide) ?_
    refine mw_iload rfl rfl ?_
    first | refine mw_nmul rfl ?_ | refine mw_imul rfl ?_
    refine mw_bipush (v := nI 6) rfl (by decide) ?_
    refine mw_iload rfl rfl ?_
    first | refine mw_nmul rfl ?_ | refine mw_imul rfl ?_
    first | refine mw_nadd rfl ?_ | refine mw_iadd rfl ?_
    refine mw_iload rfl rfl ?_
    first | refine mw_nadd rfl ?_ | refine mw_iadd rfl ?_
    refine mw_iast_m rfl rfl (by omega) (by omega) ?_
    first | rw [vI_upd] | rw [vI_updv] | skip
    refine mw_aload_n (i := 2) rfl rfl rfl ?_
    refine mw_iconst (v := nI 3) rfl (by decide) ?_
    refine mw_aload rfl rfl ?_
    refine mw_iconst (v := nI 2) rfl (by decide) ?_
    refine mw_iald_v rfl rfl (by omega) (by omega) (vI_at w 2) ?_
    first | refine mw_nmul rfl ?_ | refine mw_imul rfl ?_
    refine mw_iconst (v := nI 1) rfl (by decide) ?_
    first | refine mw_nadd rfl ?_ | refine mw_iadd rfl ?_
    refine mw_iload_n (i := 1) rfl rfl rfl ?_
    refine mw_bipush (v := nI 9) rfl (by decide) ?_
    refine mw_nshr rfl hy (by omega) ?_
    refine mw_bipush (v := nI 100) rfl (by decide) ?_
    refine mw_nrem rfl (hsh 9) (by omega) (by omega) ?_
    refine mw_iast_m rfl rfl (by omega) (by omega) ?_
    first | rw [vI_upd] | rw [vI_updv] | skip
    refine mw_aload_n (i := 2) rfl rfl rfl ?_
    refine mw_iconst (v := nI 3) rfl (by decide) ?_
    refine mw_aload rfl rfl ?_
    refine mw_iconst (v := nI 2) rfl (by decide) ?_
    refine mw_iald_v rfl rfl (by omega) (by omega) (vI_at w 2) ?_
    first | refine mw_nmul rfl ?_ | refine mw_imul rfl ?_
    refine mw_iconst (v := nI 2) rfl (by decide) ?_
    first | refine mw_nadd rfl ?_ | refine mw_iadd rfl ?_
    refine mw_iconst (v := nI 1) rfl (by decide) ?_
    refine mw_iload_n (i := 1) rfl rfl rfl ?_
    refine mw_bipush (v := nI 16) rfl (by decide) ?_
    refine mw_nshr rfl hy (by omega) ?_
    refine mw_bipush (v := nI 16) rfl (by decide) ?_
    refine mw_nrem rfl (hsh 16) (by omega) (by omega) ?_
    first | refine mw_nadd rfl ?_ | refine mw_iadd rfl ?_
    refine mw_iast_m rfl rfl (by omega) (by omega) ?_
    first | rw [vI_upd] | rw [vI_updv] | skip
    refine mw_aload rfl rfl ?_
    refine mw_iconst (v := nI 2) rfl (by decide) ?_
    refine mw_dup2 rfl rfl rfl ?_
    refine mw_iald_v rfl rfl (by omega) (by omega) (vI_at w 2) ?_
    refine mw_iconst (v := nI 1) rfl (by decide) ?_
    first | refine mw_nadd rfl ?_ | refine mw_iadd rfl ?_
    refine mw_iast_m rfl rfl (by omega) (by omega) ?_
    first | rw [vI_upd] | rw [vI_updv] | skip
    refine mw_aload_n (i := 0) rfl rfl rfl ?_
    refine mw_iload rfl rfl ?_
    refine mw_iload rfl rfl ?_
    refine mw_iload rfl rfl ?_
    refine mw_aload_n (i := 2) rfl rfl rfl ?_
    refine mw_iconst (v := nI 3) rfl (by decide) ?_
    refine mw_aload rfl rfl ?_
    refine mw_iconst (v := nI 2) rfl (by decide) ?_
    refine mw_iald_v rfl rfl (by omega) (by omega) (congrArg nI (updN_same w 2 (w 2 + 1))) ?_
    first | refine mw_nmul rfl ?_ | refine mw_imul rfl ?_
    refine mw_iconst (v := nI 2) rfl (by decide) ?_
    first | refine mw_nsub rfl (by omega) ?_ | refine mw_isub rfl ?_
    refine mw_iald_v rfl rfl (by omega) (by omega) (up3 bf (w 2) _ _ _).1 ?_
    refine mw_aload_n (i := 2) rfl rfl rfl ?_
    refine mw_iconst (v := nI 3) rfl (by decide) ?_
    refine mw_aload rfl rfl ?_
    refine mw_iconst (v := nI 2) rfl (by decide) ?_
    refine mw_iald_v rfl rfl (by omega) (by omega) (congrArg nI (updN_same w 2 (w 2 + 1))) ?_
    first | refine mw_nmul rfl ?_ | refine mw_imul rfl ?_
    refine mw_iconst (v := nI 1) rfl (by decide) ?_
    first | refine mw_nsub rfl (by omega) ?_ | refine mw_isub rfl ?_
    refine mw_iald_v rfl rfl (by omega) (by omega) (up3 bf (w 2) _ _ _).2 ?_
    have hJ : SJ D (mov [(179, .inl (.int, 30, .inl (upd (upd (upd bf (3 * w 2) (nI (36 * (y % 4) + 6 * (y / 2 ^ 3 % w 0) + b0))) (3 * w 2 + 1) (nI (y / 2 ^ 9 % 100))) (3 * w 2 + 2) (nI (1 + y / 2 ^ 16 % 16))))), (180, .inl (.int, 6, .inl (vI pl))), (181, .inl (.int, 3, .inl (vI (updN w 2 (w 2 + 1)))))] h) (mov [(179, .inl (.int, 30, .inl (upd (upd (upd bf (3 * w 2) (nI (36 * (y % 4) + 6 * (y / 2 ^ 3 % w 0) + b0))) (3 * w 2 + 1) (nI (y / 2 ^ 9 % 100))) (3 * w 2 + 2) (nI (1 + y / 2 ^ 16 % 16))))), (180, .inl (.int, 6, .inl (vI pl))), (181, .inl (.int, 3, .inl (vI (updN w 2 (w 2 + 1)))))] h) := ⟨(FW.up H).2.1, fun _ _ => rfl⟩
    have hF := isF_of hok hq6 (show y / 2 ^ 3 % w 0 < D.1 0 by rw [← h0]; exact Nat.mod_lt _ (by omega)) (show b0 < D.1 0 by
      rw [hb0]
      split
      · rw [← h0]
        exact Nat.mod_lt _ (by omega)
      · omega) (fun e => by
      rw [hb0, if_neg (by rw [hpl _ hq6, e]; decide)])
    have hcs : (inI (nI (y / 2 ^ 9 % 100)) 100 && decide (nI 1 ≤ nI (1 + y / 2 ^ 16 % 16) ∧ nI (1 + y / 2 ^ 16 % 16) ≤ nI 16)) = true := by
      rw [inI_nI (Nat.mod_lt _ (by omega)) (by omega), decide_eq_true ⟨(nI_leI (by omega) (by omega)).mpr (by omega), (nI_leI (by omega) (by omega)).mpr (by omega)⟩]
      rfl
    have hA := ko_addFact (n := n) hJ.1 hF.1 hcs (by omega)
    refine mw_askI hA hJ rfl ok_X9_addFact v_L_35 rfl rfl (Nat.le_of_ble_eq_true rfl) rfl (Nat.le_of_ble_eq_true rfl) (by omega) (by omega) (by omega) (fun h2 hJ2 => ?_)
    have hb1 : fctN (nI (y % 4)) (nI (y / 2 ^ 3 % w 0)) (nI b0) = fyF (D.1 0) pl y := by
      rw [hF.2, hb0]
      unfold fyF
      rw [h0]
    rw [hb1, nI_clamp (show y / 2 ^ 9 % 100 < 2 ^ 31 by omega), nI_clamp (show 1 + y / 2 ^ 16 % 16 < 2 ^ 31 by omega)] at hJ2
    have hDok : DOk (fyV D.1 pl y, D.2) := by
      refine ⟨ok_addFact hok ?_ (by omega) (by omega) (by omega) (by omega), H.1.2⟩
      rw [← hb1]
      exact fctN_lt hok hF.1
    have hW := (FW.up (w' := updN w 2 (w 2 + 1)) (bf := upd (upd (upd bf (3 * w 2) (nI (36 * (y % 4) + 6 * (y / 2 ^ 3 % w 0) + b0))) (3 * w 2 + 1) (nI (y / 2 ^ 9 % 100))) (3 * w 2 + 2) (nI (1 + y / 2 ^ 16 % 16))) H).sj hDok hJ2
    have e181 : h2 181 = .inl (.int, 3, .inl (vI (updN w 2 (w 2 + 1)))) := hW.2.2.2.2.2
    refine mw_aload rfl rfl ?_
    refine mw_iconst (v := nI 2) rfl (by decide) ?_
    refine mw_iald_v rfl e181 (by omega) (by omega) (congrArg nI (updN_same w 2 (w 2 + 1))) ?_
    refine mw_iconst (v := nI 1) rfl (by decide) ?_
    first | refine mw_nsub rfl (by omega) ?_ | refine mw_isub rfl ?_
    refine mw_n_ne rfl (by omega) (by omega) (fun hc => ?_) (fun hc => ?_)
    · omega
    · refine mw_iconst (v := nI 1) rfl (by decide) ?_
      refine mw_goto rfl ?_
      first | exact mw_ireturn rfl rfl (bI_nar _) rfl (Nat.le_refl _) (hp _ _ ⟨rfl, hW⟩) | exact mw_ireturn rfl rfl rfl rfl (Nat.le_refl _) (hp _ _ ⟨rfl, hW⟩)
  refine mw_n_ne rfl (by omega) (by omega) (fun hc => ?_) (fun hc => ?_)
  · refine mw_iconst (v := nI 0) rfl (by decide) ?_
    exact mw_locals rfl (key 0 (if_neg hc).symm)
  · refine mw_iload_n (i := 1) rfl rfl rfl ?_
    refine mw_bipush (v := nI 6) rfl (by decide) ?_
    refine mw_nshr rfl hy (by omega) ?_
    refine mw_aload rfl rfl ?_
    refine mw_iconst (v := nI 0) rfl (by decide) ?_
    refine mw_iald rfl rfl (by omega) (by omega) ?_
    refine mw_nrem rfl (hsh 6) (by rw [h0]; omega) (by rw [h0]; omega) ?_
    refine mw_goto rfl ?_
    exact mw_locals rfl (key _ (if_pos hc).symm)
theorem c_refuses (n : Nat) (D : LD) (h0 : Nat → MC) (hD : DOk D) (hK : KSd D h0) (h3 : D.1 0 ≤ 3) : Sp M_L_refuses 9 0 0 [.ref 0, .int (nI (D.1 0))] h0 n (fun r h1 => r = some (.int (nI 1)) ∧ SJ D h0 h1) := by
  refine Sp.of2 fun post hp => ?_
  have hok := hD.1
  have h1 := hok.1
  have hJ : SJ D h0 h0 := ⟨hK, fun _ _ => rfl⟩
  have f0 := isF_of hok (p := 0) (a := 0) (b := 0) (by omega) (by omega) (by omega) (fun _ => rfl)
  have hm1 : ∀ m, inI (-1) m = false := fun m => decide_eq_false (fun q => absurd q.1 (by decide))
  have h66 : inI (nI 6) 6 = false := by decide
  refine mw_aload_n (i := 0) rfl rfl rfl ?_
  refine mw_ask (ko_checksum hJ.1) hJ rfl ok_X9_checksum v_L_85 rfl rfl (Nat.le_of_ble_eq_true rfl) rfl (Nat.le_of_ble_eq_true rfl) (by omega) (by omega) (by omega) (fun r h hr hJ => ?_)
  obtain ⟨c0, e0, -⟩ := ck_uniq hok hr hr
  have hck := hr
  subst e0
  refine mw_lstore_n (i := 2) rfl rfl (Nat.le_of_ble_eq_true rfl) ?_
  refine mw_aload_n (i := 0) rfl rfl rfl ?_
  refine mw_bipush (v := nI 7) rfl (by decide) ?_
  refine mw_askI (ko_begin_e hJ.1 (c := nI 7) (by decide)) hJ rfl ok_X9_begin v_L_89 rfl rfl (Nat.le_of_ble_eq_true rfl) rfl (Nat.le_of_ble_eq_true rfl) (by omega) (by omega) (by omega) (fun h hJ => ?_)
  refine mw_bipush (v := (-2)) rfl (by decide) ?_
  refine mw_icmp_ne rfl (fun hc => ?_) (fun hc => ?_)
  · exact absurd rfl hc
  refine mw_aload_n (i := 0) rfl rfl rfl ?_
  refine mw_bipush (v := nI 6) rfl (by decide) ?_
  refine mw_iconst (v := nI 1) rfl (by decide) ?_
  refine mw_askI (ko_places_e1 hJ.1 (y := nI 6) (z := nI 1) (by decide)) hJ rfl ok_X9_setPlaces v_L_92 rfl rfl (Nat.le_of_ble_eq_true rfl) rfl (Nat.le_of_ble_eq_true rfl) (by omega) (by omega) (by omega) (fun h hJ => ?_)
  refine mw_iconst (v := (-1)) rfl (by decide) ?_
  refine mw_icmp_ne rfl (fun hc => ?_) (fun hc => ?_)
  · exact absurd rfl hc
  refine mw_aload_n (i := 0) rfl rfl rfl ?_
  refine mw_iconst (v := nI 0) rfl (by decide) ?_
  refine mw_iconst (v := nI 3) rfl (by decide) ?_
  refine mw_askI (ko_places_e2 hJ.1 (y := nI 0) (z := nI 3) (by decide) (by decide)) hJ rfl ok_X9_setPlaces v_L_92 rfl rfl (Nat.le_of_ble_eq_true rfl) rfl (Nat.le_of_ble_eq_true rfl) (by omega) (by omega) (by omega) (fun h hJ => ?_)
  refine mw_bipush (v := (-2)) rfl (by decide) ?_
  refine mw_icmp_ne rfl (fun hc => ?_) (fun hc => ?_)
  · exact absurd rfl hc
  refine mw_aload_n (i := 0) rfl rfl rfl ?_
  refine mw_iconst (v := (-1)) rfl (by decide) ?_
  refine mw_iconst (v := nI 0) rfl (by decide) ?_
  refine mw_iconst (v := nI 0) rfl (by decide) ?_
  refine mw_iconst (v := nI 0) rfl (by decide) ?_
  refine mw_iconst (v := nI 1) rfl (by decide) ?_
  refine mw_askI (ko_addFact_e1 hJ.1 (p := -1) (a := nI 0) (b := nI 0) (c := nI 0) (s := nI 1) (by unfold isF; rw [hm1, Bool.false_and])) hJ rfl ok_X9_addFact v_L_35 rfl rfl (Nat.le_of_ble_eq_true rfl) rfl (Nat.le_of_ble_eq_true rfl) (by omega) (by omega) (by omega) (fun h hJ => ?_)
  refine mw_iconst (v := (-1)) rfl (by decide) ?_
  refine mw_icmp_ne rfl (fun hc => ?_) (fun hc => ?_)
  · exact absurd rfl hc
  refine mw_aload_n (i := 0) rfl rfl rfl ?_
  refine mw_iconst (v := nI 0) rfl (by decide) ?_
  refine mw_iconst (v := nI 0) rfl (by decide) ?_
  refine mw_iconst (v := nI 0) rfl (by decide) ?_
  refine mw_iconst (v := (-1)) rfl (by decide) ?_
  refine mw_iconst (v := nI 1) rfl (by decide) ?_
  refine mw_askI (ko_addFact_e2 hJ.1 (p := nI 0) (a := nI 0) (b := nI 0) (c := -1) (s := nI 1) f0.1 (by decide)) hJ rfl ok_X9_addFact v_L_35 rfl rfl (Nat.le_of_ble_eq_true rfl) rfl (Nat.le_of_ble_eq_true rfl) (by omega) (by omega) (by omega) (fun h hJ => ?_)
  refine mw_bipush (v := (-2)) rfl (by decide) ?_
  refine mw_icmp_ne rfl (fun hc => ?_) (fun hc => ?_)
  · exact absurd rfl hc
  refine mw_aload_n (i := 0) rfl rfl rfl ?_
  refine mw_aload_n (i := 0) rfl rfl rfl ?_
  refine mw_askI (ko_facts hJ.1) hJ rfl ok_X9_facts v_L_96 rfl rfl (Nat.le_of_ble_eq_true rfl) rfl (Nat.le_of_ble_eq_true rfl) (by omega) (by omega) (by omega) (fun h hJ => ?_)
  have hno : ∀ m, m < 2147483648 → inI (nI m) m = false := fun m hm => decide_eq_false (fun q => Int32.lt_irrefl q.2)
  refine mw_askI (ko_removeFact_e hJ.1 (y := nI (D.1 1)) (hno _ (by have := hok.2.2.1; omega))) hJ rfl ok_X9_removeFact v_L_99 rfl rfl (Nat.le_of_ble_eq_true rfl) rfl (Nat.le_of_ble_eq_true rfl) (by omega) (by omega) (by omega) (fun h hJ => ?_)
  refine mw_iconst (v := (-1)) rfl (by decide) ?_
  refine mw_icmp_ne rfl (fun hc => ?_) (fun hc => ?_)
  · exact absurd rfl hc
  refine mw_aload_n (i := 0) rfl rfl rfl ?_
  refine mw_iconst (v := (-1)) rfl (by decide) ?_
  refine mw_askI (ko_removeRule_e hJ.1 (y := -1) (hm1 _)) hJ rfl ok_X9_removeRule v_L_102 rfl rfl (Nat.le_of_ble_eq_true rfl) rfl (Nat.le_of_ble_eq_true rfl) (by omega) (by omega) (by omega) (fun h hJ => ?_)
  refine mw_iconst (v := (-1)) rfl (by decide) ?_
  refine mw_icmp_ne rfl (fun hc => ?_) (fun hc => ?_)
  · exact absurd rfl hc
  refine mw_aload_n (i := 0) rfl rfl rfl ?_
  refine mw_iconst (v := (-1)) rfl (by decide) ?_
  have hap : Sp M_X9_append 8 0 0 [.ref 0, .int (-1)] h n (KRet (fun r => r = some (.int (-2))) D h) := by
    obtain ⟨P, x, s, hk⟩ := hJ.1
    exact k_same hk (c_kappend_e 8 n (-1) h (hm1 _))
  refine mw_askI (hap) hJ rfl ok_X9_append v_L_9 rfl rfl (Nat.le_of_ble_eq_true rfl) rfl (Nat.le_of_ble_eq_true rfl) (by omega) (by omega) (by omega) (fun h hJ => ?_)
  refine mw_bipush (v := (-2)) rfl (by decide) ?_
  refine mw_icmp_ne rfl (fun hc => ?_) (fun hc => ?_)
  · exact absurd rfl hc
  refine mw_aload_n (i := 0) rfl rfl rfl ?_
  refine mw_bipush (v := nI 10) rfl (by decide) ?_
  have har : Sp M_X9_addRule 8 0 0 [.ref 0, .int (nI 10)] h n (KRet (fun r => r = some (.int (-2))) D h) := by
    obtain ⟨P, x, s, hk⟩ := hJ.1
    exact sp_imp (c_kaddRule 3 n D.2.1 (nI 10) D.1 smC.2 D.2.2.1 P x s h hk.1 hk.2.1 hD.2.2 hD.2.1) fun r h1 hq => by
      obtain ⟨rfl, rfl⟩ := hq.1 (by decide)
      exact hk.same rfl
  refine mw_askI (har) hJ rfl ok_X9_addRule v_L_32 rfl rfl (Nat.le_of_ble_eq_true rfl) rfl (Nat.le_of_ble_eq_true rfl) (by omega) (by omega) (by omega) (fun h hJ => ?_)
  refine mw_bipush (v := (-2)) rfl (by decide) ?_
  refine mw_icmp_ne rfl (fun hc => ?_) (fun hc => ?_)
  · exact absurd rfl hc
  refine mw_iconst (v := nI 1) rfl (by decide) ?_
  refine mw_goto rfl ?_
  refine mw_istore rfl (Nat.le_of_ble_eq_true rfl) ?_
  refine mw_iload rfl rfl ?_
  refine mw_if_eq rfl (fun hc => ?_) (fun hc => ?_)
  · exact absurd hc (by decide)
  refine mw_aload_n (i := 0) rfl rfl rfl ?_
  refine mw_iconst (v := (-1)) rfl (by decide) ?_
  refine mw_askI (ko_stratum_e hJ.1 (y := -1) (hm1 _)) hJ rfl ok_X9_stratum v_L_45 rfl rfl (Nat.le_of_ble_eq_true rfl) rfl (Nat.le_of_ble_eq_true rfl) (by omega) (by omega) (by omega) (fun h hJ => ?_)
  refine mw_iconst (v := (-1)) rfl (by decide) ?_
  refine mw_icmp_ne rfl (fun hc => ?_) (fun hc => ?_)
  · exact absurd rfl hc
  refine mw_aload_n (i := 0) rfl rfl rfl ?_
  refine mw_iconst (v := (-1)) rfl (by decide) ?_
  refine mw_askI (ko_count_e hJ.1 (y := -1) (hm1 _)) hJ rfl ok_X9_count v_L_82 rfl rfl (Nat.le_of_ble_eq_true rfl) rfl (Nat.le_of_ble_eq_true rfl) (by omega) (by omega) (by omega) (fun h hJ => ?_)
  refine mw_iconst (v := (-1)) rfl (by decide) ?_
  refine mw_icmp_ne rfl (fun hc => ?_) (fun hc => ?_)
  · exact absurd rfl hc
  refine mw_aload_n (i := 0) rfl rfl rfl ?_
  refine mw_iconst (v := nI 0) rfl (by decide) ?_
  refine mw_iload_n (i := 1) rfl rfl rfl ?_
  refine mw_iconst (v := nI 0) rfl (by decide) ?_
  have fr : isF D.1 (nI 0) (nI (D.1 0)) (nI 0) = false := by
    unfold isF
    rw [hno _ (show D.1 0 < 2147483648 by omega), Bool.false_and, Bool.and_false]
  have hrd : Sp M_X9_round 8 0 0 [.ref 0, .int (nI 0), .int (nI (D.1 0)), .int (nI 0)] h n (KRet (fun r => r = some (.int (-1))) D h) := by
    have q := ko_round (n := n) hJ.1 (nI 0) (nI (D.1 0)) (nI 0)
    rw [wA_lt (by rw [wrV_1 fr]; decide), wrV_1 fr] at q
    exact q
  refine mw_askI (hrd) hJ rfl ok_X9_round v_L_52 rfl rfl (Nat.le_of_ble_eq_true rfl) rfl (Nat.le_of_ble_eq_true rfl) (by omega) (by omega) (by omega) (fun h hJ => ?_)
  refine mw_iconst (v := (-1)) rfl (by decide) ?_
  refine mw_icmp_ne rfl (fun hc => ?_) (fun hc => ?_)
  · exact absurd rfl hc
  refine mw_aload_n (i := 0) rfl rfl rfl ?_
  refine mw_bipush (v := nI 6) rfl (by decide) ?_
  refine mw_iconst (v := nI 0) rfl (by decide) ?_
  refine mw_iconst (v := nI 0) rfl (by decide) ?_
  refine mw_askI (ko_inst_e hJ.1 (p := nI 6) (a := nI 0) (b := nI 0) (by unfold isF; rw [h66, Bool.false_and])) hJ rfl ok_X9_instances v_L_59 rfl rfl (Nat.le_of_ble_eq_true rfl) rfl (Nat.le_of_ble_eq_true rfl) (by omega) (by omega) (by omega) (fun h hJ => ?_)
  refine mw_iconst (v := (-1)) rfl (by decide) ?_
  refine mw_icmp_ne rfl (fun hc => ?_) (fun hc => ?_)
  · exact absurd rfl hc
  refine mw_aload_n (i := 0) rfl rfl rfl ?_
  refine mw_iconst (v := nI 0) rfl (by decide) ?_
  refine mw_iconst (v := (-1)) rfl (by decide) ?_
  refine mw_iconst (v := nI 0) rfl (by decide) ?_
  refine mw_iconst (v := nI 0) rfl (by decide) ?_
  refine mw_askI (ko_least_e hJ.1 (p := nI 0) (a := -1) (b := nI 0) (w := nI 0) (by unfold isF; rw [hm1, Bool.false_and, Bool.and_false])) hJ rfl ok_X9_least v_L_65 rfl rfl (Nat.le_of_ble_eq_true rfl) rfl (Nat.le_of_ble_eq_true rfl) (by omega) (by omega) (by omega) (fun h hJ => ?_)
  refine mw_iconst (v := (-1)) rfl (by decide) ?_
  refine mw_icmp_ne rfl (fun hc => ?_) (fun hc => ?_)
  · exact absurd rfl hc
  refine mw_aload_n (i := 0) rfl rfl rfl ?_
  refine mw_bipush (v := (-5)) rfl (by decide) ?_
  refine mw_askI (ko_sizeW_e hJ.1 (y := -5) (by decide)) hJ rfl ok_X9_sizeWithout v_L_56 rfl rfl (Nat.le_of_ble_eq_true rfl) rfl (Nat.le_of_ble_eq_true rfl) (by omega) (by omega) (by omega) (fun h hJ => ?_)
  refine mw_bipush (v := (-2)) rfl (by decide) ?_
  refine mw_icmp_ne rfl (fun hc => ?_) (fun hc => ?_)
  · exact absurd rfl hc
  refine mw_aload_n (i := 0) rfl rfl rfl ?_
  refine mw_iconst (v := (-1)) rfl (by decide) ?_
  refine mw_iconst (v := nI 0) rfl (by decide) ?_
  refine mw_iconst (v := nI 0) rfl (by decide) ?_
  refine mw_iconst (v := nI 0) rfl (by decide) ?_
  refine mw_askI (ko_holdsW_e2 hJ.1 (y := -1) (p := nI 0) (a := nI 0) (b := nI 0) f0.1 (by decide)) hJ rfl ok_X9_holdsWithout v_L_48 rfl rfl (Nat.le_of_ble_eq_true rfl) rfl (Nat.le_of_ble_eq_true rfl) (by omega) (by omega) (by omega) (fun h hJ => ?_)
  refine mw_bipush (v := (-2)) rfl (by decide) ?_
  refine mw_icmp_ne rfl (fun hc => ?_) (fun hc => ?_)
  · exact absurd rfl hc
  refine mw_aload_n (i := 0) rfl rfl rfl ?_
  refine mw_iconst (v := (-1)) rfl (by decide) ?_
  refine mw_bipush (v := nI 6) rfl (by decide) ?_
  refine mw_iconst (v := nI 0) rfl (by decide) ?_
  refine mw_iconst (v := nI 0) rfl (by decide) ?_
  refine mw_askI (ko_holdsW_e1 hJ.1 (y := -1) (p := nI 6) (a := nI 0) (b := nI 0) (by unfold isF; rw [h66, Bool.false_and])) hJ rfl ok_X9_holdsWithout v_L_48 rfl rfl (Nat.le_of_ble_eq_true rfl) rfl (Nat.le_of_ble_eq_true rfl) (by omega) (by omega) (by omega) (fun h hJ => ?_)
  refine mw_iconst (v := (-1)) rfl (by decide) ?_
  refine mw_icmp_ne rfl (fun hc => ?_) (fun hc => ?_)
  · exact absurd rfl hc
  refine mw_aload_n (i := 0) rfl rfl rfl ?_
  refine mw_iconst (v := nI 2) rfl (by decide) ?_
  have hsv : Sp M_X9_save 8 0 0 [.ref 0, .int (nI 2)] h n (KRet (fun r => r = some (.int (-1))) D h) := by
    obtain ⟨P, x, s, hk⟩ := hJ.1
    exact k_same hk (c_ksave_e 8 n (nI 2) h (by decide))
  refine mw_askI (hsv) hJ rfl ok_X9_save v_L_105 rfl rfl (Nat.le_of_ble_eq_true rfl) rfl (Nat.le_of_ble_eq_true rfl) (by omega) (by omega) (by omega) (fun h hJ => ?_)
  refine mw_iconst (v := (-1)) rfl (by decide) ?_
  refine mw_icmp_ne rfl (fun hc => ?_) (fun hc => ?_)
  · exact absurd rfl hc
  refine mw_aload_n (i := 0) rfl rfl rfl ?_
  refine mw_iconst (v := (-1)) rfl (by decide) ?_
  have hrs : Sp M_X9_restore 8 0 0 [.ref 0, .int (-1)] h n (KRet (fun r => r = some (.int (-1))) D h) := by
    obtain ⟨P, x, s, hk⟩ := hJ.1
    exact k_same hk (c_krestore_e 8 n (-1) h (hm1 _))
  refine mw_askI (hrs) hJ rfl ok_X9_restore v_L_108 rfl rfl (Nat.le_of_ble_eq_true rfl) rfl (Nat.le_of_ble_eq_true rfl) (by omega) (by omega) (by omega) (fun h hJ => ?_)
  refine mw_iconst (v := (-1)) rfl (by decide) ?_
  refine mw_icmp_ne rfl (fun hc => ?_) (fun hc => ?_)
  · exact absurd rfl hc
  refine mw_iconst (v := nI 1) rfl (by decide) ?_
  refine mw_goto rfl ?_
  refine mw_istore rfl (Nat.le_of_ble_eq_true rfl) ?_
  refine mw_iload rfl rfl ?_
  refine mw_if_eq rfl (fun hc => ?_) (fun hc => ?_)
  · exact absurd hc (by decide)
  refine mw_aload_n (i := 0) rfl rfl rfl ?_
  refine mw_ask (ko_checksum hJ.1) hJ rfl ok_X9_checksum v_L_85 rfl rfl (Nat.le_of_ble_eq_true rfl) rfl (Nat.le_of_ble_eq_true rfl) (by omega) (by omega) (by omega) (fun r h hr hJ => ?_)
  obtain ⟨c1, e1, e2⟩ := ck_uniq hok hr hck
  cases e2
  subst e1
  refine mw_lload_n (i := 2) rfl rfl rfl ?_
  refine mw_lcmp rfl ?_
  have e3 : lg_cmp c0 c0 = 0 := by
    unfold lg_cmp
    rw [if_neg (fun q => Int64.lt_irrefl q), if_pos rfl]
  rw [e3]
  refine mw_if_ne rfl (fun hc => ?_) (fun hc => ?_)
  · exact absurd rfl hc
  refine mw_iconst (v := nI 1) rfl (by decide) ?_
  refine mw_goto rfl ?_
  first | exact mw_ireturn rfl rfl (bI_nar _) rfl (Nat.le_refl _) (hp _ _ ⟨rfl, hJ⟩) | exact mw_ireturn rfl rfl rfl rfl (Nat.le_refl _) (hp _ _ ⟨rfl, hJ⟩)
