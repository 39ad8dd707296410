/-! P30: sound, a fact -/
/-- what is known of the model while it is looked at -/
def SQ (D : LD) (q : QD) : Prop := OkN D.1 ∧ D.1 0 ≤ 3 ∧ (strF D.1).2.2 = true ∧ QOk D.1 q ∧ ∀ f, f < 216 → ¬ (mdl0 D.1).1 f < 0 → VF D.1 f
abbrev soL (n size al la ok q : Nat) : List (Nat × Value) := [(0, .ref 0), (1, .ref 180), (2, .int (nI n)), (3, .int (nI size)), (4, .int (nI al)), (5, .int (nI la)), (6, .int (nI ok)), (7, .int (nI q))]
abbrev soI (n size al la ok q he i : Nat) : List (Nat × Value) := [(0, .ref 0), (1, .ref 180), (2, .int (nI n)), (3, .int (nI size)), (4, .int (nI al)), (5, .int (nI la)), (6, .int (nI ok)), (7, .int (nI q)), (8, .int (nI he)), (9, .int (nI i))]
abbrev soA (n size al la ok q he i a b : Nat) : List (Nat × Value) := [(0, .ref 0), (1, .ref 180), (2, .int (nI n)), (3, .int (nI size)), (4, .int (nI al)), (5, .int (nI la)), (6, .int (nI ok)), (7, .int (nI q)), (8, .int (nI he)), (9, .int (nI i)), (10, .int (nI a)), (11, .int (nI b))]
abbrev soP (n size al la ok q he i a b k ins : Nat) : List (Nat × Value) := [(0, .ref 0), (1, .ref 180), (2, .int (nI n)), (3, .int (nI size)), (4, .int (nI al)), (5, .int (nI la)), (6, .int (nI ok)), (7, .int (nI q)), (8, .int (nI he)), (9, .int (nI i)), (10, .int (nI a)), (11, .int (nI b)), (12, .int (nI k)), (13, .int (nI ins))]
abbrev soB (n size al la ok q he i a b k ins c : Nat) (ru : Int32) (ne : Nat) (us ct : Int32) (li : Nat) : List (Nat × Value) := [(0, .ref 0), (1, .ref 180), (2, .int (nI n)), (3, .int (nI size)), (4, .int (nI al)), (5, .int (nI la)), (6, .int (nI ok)), (7, .int (nI q)), (8, .int (nI he)), (9, .int (nI i)), (10, .int (nI a)), (11, .int (nI b)), (12, .int (nI k)), (13, .int (nI ins)), (14, .int (nI c)), (15, .int ru), (16, .int (nI ne)), (17, .int us), (18, .int ct), (19, .int (nI li))]
section SOUND
variable {D : LD} {qd : QD} {h0 h : Nat → MC} {post : Option Value → (Nat → MC) → Prop} {n0 n size al la q he i a b k ins c ne li : Nat}
set_option maxRecDepth 20000 in
/-- the last checks of a fact, from 519 on -/
theorem so_end {ru us ct : Int32} (hJ : SJ D h0 h) (hk : k ≤ 216) (hcc : c ≤ 1000001) (hne : ne < 4096) (hU : ru = -5 ∨ (∃ y u, ru = nI y ∧ y < 9 ∧ us = nI u ∧ ne &&& u = ne)) (hct : ¬ ct = 0) (hlow : ¬ ne = 0 → ct = nI ne &&& -(nI ne)) (hb : k = 0 → c ≤ 99)
    (kk : ∀ h1, SJ D h0 h1 → MW M_L_sound 9 0 0 n0 post 598 (soI n size al la 1 q he i) [] h1 n0 0) : MW M_L_sound 9 0 0 n0 post 519 (soB n size al la 1 q he i a b k ins c ru ne us ct li) [] h n0 0 := by
  have k3 : MW M_L_sound 9 0 0 n0 post 591 (soB n size al la 1 q he i a b k ins c ru ne us ct li) [] h n0 0 := by
    refine mw_iconst (v := nI 1) rfl (by decide) ?_
    refine mw_goto rfl ?_
    refine mw_istore rfl (Nat.le_of_ble_eq_true rfl) ?_
    exact mw_locals rfl (kk h hJ)
  have k2 : MW M_L_sound 9 0 0 n0 post 555 (soB n size al la 1 q he i a b k ins c ru ne us ct li) [] h n0 0 := by
    refine mw_iload rfl rfl ?_
    refine mw_if_eq rfl (fun e1 => ?_) (fun e1 => ?_)
    · exact absurd e1 hct
    refine mw_iconst (v := nI 1) rfl (by decide) ?_
    refine mw_goto rfl ?_
    refine mw_istore rfl (Nat.le_of_ble_eq_true rfl) ?_
    refine mw_iload rfl rfl ?_
    refine mw_z_eq rfl (by omega) (fun e2 => ?_) (fun e2 => ?_)
    · omega
    refine mw_locals (L2 := soB n size al la 1 q he i a b k ins c ru ne us ct li) rfl ?_
    refine mw_iload rfl rfl ?_
    refine mw_z_gt rfl (by omega) (fun e3 => ?_) (fun e3 => ?_)
    · exact k3
    · refine mw_iload rfl rfl ?_
      refine mw_bipush (v := nI 8) rfl (by decide) ?_
      refine mw_icmp_eq rfl (fun e4 => ?_) (fun e4 => ?_)
      · exact k3
      · refine mw_iload rfl rfl ?_
        refine mw_bipush (v := nI 100) rfl (by decide) ?_
        refine mw_n_ge rfl (by omega) (by omega) (fun e5 => ?_) (fun e5 => ?_)
        · have := hb e3
          omega
        · exact k3
  have k1 : MW M_L_sound 9 0 0 n0 post 539 (soB n size al la 1 q he i a b k ins c ru ne us ct li) [] h n0 0 := by
    refine mw_iload rfl rfl ?_
    refine mw_z_eq rfl (by omega) (fun e1 => ?_) (fun e1 => ?_)
    · exact k2
    · refine mw_iload rfl rfl ?_
      refine mw_iload rfl rfl ?_
      refine mw_iload rfl rfl ?_
      refine mw_ineg rfl ?_
      refine mw_iand rfl ?_
      refine mw_icmp_ne rfl (fun e2 => ?_) (fun e2 => ?_)
      · exact absurd (hlow e1) e2
      · exact k2
  refine mw_iload rfl rfl ?_
  refine mw_z_eq rfl (by omega) (fun e0 => ?_) (fun e0 => ?_)
  · omega
  refine mw_iload rfl rfl ?_
  refine mw_if_lt rfl (fun e1 => ?_) (fun e1 => ?_)
  · exact k1
  · rcases hU with rfl | ⟨y, u, rfl, hy, rfl, hu⟩
    · exact absurd (by decide) e1
    · refine mw_iload rfl rfl ?_
      refine mw_iload rfl rfl ?_
      refine mw_nand rfl ?_
      rw [hu]
      refine mw_iload rfl rfl ?_
      refine mw_icmp_ne rfl (fun e2 => ?_) (fun e2 => ?_)
      · exact absurd rfl e2
      · exact k1
/-- the least derivation's kinds -/
def RuK (v : Nat → Nat) (c ne : Nat) (ru : Int32) (z : Nat) (us : Int32) : Prop := (c = 1000001 ∧ ru = -5 ∧ us = -5) ∨ (c ≤ 1000000 ∧ ∃ y u, ru = nI y ∧ us = nI u ∧ u < 4096 ∧ ne &&& u = ne ∧ ((y = 8 ∧ z = 1 ∧ ∃ j, j < 12 ∧ u = 2 ^ j) ∨ (y < v 2 ∧ 0 < z ∧ z < 4000000 ∧ 0 < c)))
theorem pow_one : ∀ j, j < 12 → nI (2 ^ j) &&& nI (2 ^ j - 1) = 0 := by decide +kernel
set_option maxRecDepth 20000 in
/-- the middle checks of a fact, from 417 on -/
theorem so_mid {z : Nat} {ru us ct : Int32} (hok : OkN D.1) (hJ : SJ D h0 h) (hR : RuK D.1 c ne ru z us)
    (hz : c ≤ 1000000 → ∀ h n, KSd D h → Sp M_X9_least 8 0 0 [.ref 0, .int (nI q), .int (nI a), .int (nI b), .int (nI 1)] h n (KRet (fun r => r = some (.int (nI z))) D h))
    (kk : ∀ h1, SJ D h0 h1 → MW M_L_sound 9 0 0 n0 post 519 (soB n size al la 1 q he i a b k ins c ru ne us ct li) [] h1 n0 0) : MW M_L_sound 9 0 0 n0 post 417 (soB n size al la 1 q he i a b k ins c ru ne us ct li) [] h n0 0 := by
  have k1 : ∀ h1, SJ D h0 h1 → MW M_L_sound 9 0 0 n0 post 512 (soB n size al la 1 q he i a b k ins c ru ne us ct li) [] h1 n0 0 := fun h hJ => by
    refine mw_iconst (v := nI 1) rfl (by decide) ?_
    refine mw_goto rfl ?_
    refine mw_istore rfl (Nat.le_of_ble_eq_true rfl) ?_
    exact mw_locals rfl (kk h hJ)
  have h8 := hok.2.2.2.1
  refine mw_iload rfl rfl ?_
  refine mw_z_eq rfl (by omega) (fun e0 => ?_) (fun e0 => ?_)
  · omega
  refine mw_iload rfl rfl ?_
  rcases hR with ⟨hc1, rfl, rfl⟩ | ⟨hc1, y, u, rfl, rfl, hu, -, hY⟩
  · refine mw_if_ge rfl (fun e1 => ?_) (fun e1 => ?_)
    · exact absurd e1 (by decide)
    refine mw_iload rfl rfl ?_
    refine mw_bipush (v := (-5)) rfl (by decide) ?_
    refine mw_icmp_ne rfl (fun e2 => ?_) (fun e2 => ?_)
    · exact absurd rfl e2
    refine mw_iload rfl rfl ?_
    refine mw_bipush (v := (-5)) rfl (by decide) ?_
    refine mw_icmp_ne rfl (fun e3 => ?_) (fun e3 => ?_)
    · exact absurd rfl e3
    refine mw_goto rfl ?_
    exact k1 h hJ
  · have hy31 : y < 2147483648 := by
      rcases hY with ⟨rfl, -⟩ | ⟨hy, -⟩ <;> omega
    refine mw_z_ge rfl (by omega) (fun e1 => ?_) (fun e1 => ?_)
    · refine mw_iload rfl rfl ?_
      refine mw_bipush (v := nI 8) rfl (by decide) ?_
      refine mw_n_ne rfl (by omega) (by omega) (fun e2 => ?_) (fun e2 => ?_)
      · rcases hY with ⟨hy, -⟩ | ⟨hy, z0, z1, cp⟩
        · exact absurd hy e2
        · refine mw_iload rfl rfl ?_
          refine mw_aload_n (i := 0) rfl rfl rfl ?_
          refine mw_askI (ko_rules hJ.1) hJ rfl ok_X9_rules v_L_79 rfl rfl (Nat.le_of_ble_eq_true rfl) rfl (Nat.le_of_ble_eq_true rfl) (by omega) (by omega) (by omega) (fun h hJ => ?_)
          refine mw_n_ge rfl (by omega) (by omega) (fun e3 => ?_) (fun e3 => ?_)
          · omega
          refine mw_aload_n (i := 0) rfl rfl rfl ?_
          refine mw_iload rfl rfl ?_
          refine mw_iload rfl rfl ?_
          refine mw_iload rfl rfl ?_
          refine mw_iconst (v := nI 1) rfl (by decide) ?_
          refine mw_askI (hz hc1 h n0 hJ.1) hJ rfl ok_X9_least v_L_65 rfl rfl (Nat.le_of_ble_eq_true rfl) rfl (Nat.le_of_ble_eq_true rfl) (by omega) (by omega) (by omega) (fun h hJ => ?_)
          refine mw_z_le rfl (by omega) (fun e4 => ?_) (fun e4 => ?_)
          · omega
          refine mw_iload rfl rfl ?_
          refine mw_z_le rfl (by omega) (fun e5 => ?_) (fun e5 => ?_)
          · omega
          exact k1 h hJ
      · rcases hY with ⟨-, rfl, j, hj, rfl⟩ | ⟨hy, -⟩
        · have hp : 1 ≤ 2 ^ j := Nat.one_le_two_pow
          refine mw_aload_n (i := 0) rfl rfl rfl ?_
          refine mw_iload rfl rfl ?_
          refine mw_iload rfl rfl ?_
          refine mw_iload rfl rfl ?_
          refine mw_iconst (v := nI 1) rfl (by decide) ?_
          refine mw_askI (hz hc1 h n0 hJ.1) hJ rfl ok_X9_least v_L_65 rfl rfl (Nat.le_of_ble_eq_true rfl) rfl (Nat.le_of_ble_eq_true rfl) (by omega) (by omega) (by omega) (fun h hJ => ?_)
          refine mw_iconst (v := nI 1) rfl (by decide) ?_
          refine mw_icmp_ne rfl (fun e3 => ?_) (fun e3 => ?_)
          · exact absurd rfl e3
          refine mw_iload rfl rfl ?_
          refine mw_z_le rfl (by omega) (fun e4 => ?_) (fun e4 => ?_)
          · omega
          refine mw_iload rfl rfl ?_
          refine mw_iload rfl rfl ?_
          refine mw_iconst (v := nI 1) rfl (by decide) ?_
          first | refine mw_nsub rfl hp ?_ | refine mw_isub rfl ?_
          refine mw_iand rfl ?_
          rw [pow_one j hj]
          refine mw_if_ne rfl (fun e5 => ?_) (fun e5 => ?_)
          · exact absurd rfl e5
          refine mw_goto rfl ?_
          exact k1 h hJ
        · omega
    · exact e1.elim
set_option maxRecDepth 20000 in
/-- a fact of the model, from 275 on -/
theorem so_pos {f : Nat} (hS : SQ D qd) (hJ : SJ D h0 h) (hq : q < 6) (ha : a < D.1 0) (hb : b < D.1 0) (hb0 : D.1 (3 + q) = 1 → b = 0) (hf : f = 36 * q + 6 * a + b) (hk : k ≤ (mdl0 D.1).2) (hm : (mdl0 D.1).1 f = nI k)
    (kk : ∀ h1, SJ D h0 h1 → MW M_L_sound 9 0 0 n0 post 598 (soI n size al la 1 q he i) [] h1 n0 0) : MW M_L_sound 9 0 0 n0 post 275 (soP n size al la 1 q he i a b k (insN (hoV D.1) f (hoV D.1).1)) [] h n0 0 := by
  obtain ⟨hok, h3, hs, hQ, hVF⟩ := hS
  have hR := (mdl_MR D.1).2
  have hF := isF_of hok hq ha hb hb0
  rw [← hf] at hF
  have hf216 : f < 216 := by
    have := hok.2.1
    omega
  have hpos : ¬ (mdl0 D.1).1 f < 0 := by
    rw [hm]
    exact nI_pos (by omega)
  have hw : wrV D.1 (nI q) (nI a) (nI b) = 0 := wrV_0 hF.1 hs (by rw [hF.2]; exact hpos)
  have hins := insN_le (hoV D.1) f (hoV D.1).1
  have h1728 := (hoV_ok hok).1
  have hcF := coLim_F hQ.1 f
  have hL := le_cases hok hQ hf216
  have q_cost : ∀ h n, KSd D h → Sp M_X9_cost 8 0 0 [.ref 0, .int (nI q), .int (nI a), .int (nI b)] h n (KRet (fun r => r = some (.int (nI (qd.1 f)))) D h) := fun h n hK => by
    have := ko_wp (ko_cost (n := n) hok hK hQ (nI q) (nI a) (nI b)) hw
    rw [hF.2] at this
    exact this
  have q_least : ∀ w, w < 3 → ∀ h n, KSd D h → Sp M_X9_least 8 0 0 [.ref 0, .int (nI q), .int (nI a), .int (nI b), .int (nI w)] h n (KRet (fun r => r = some (.int (leN qd.2.1.1 qd.2.1.2.1 qd.2.1.2.2.1 f w))) D h) := fun w hw3 h n hK => by
    have := ko_wp (ko_least (n := n) hok hK hQ hF.1 hw3) hw
    rw [hF.2] at this
    exact this
  have q_needs : ∀ h n, KSd D h → Sp M_X9_needs 8 0 0 [.ref 0, .int (nI q), .int (nI a), .int (nI b)] h n (KRet (fun r => r = some (.int (nI (neN qd.2.2 f)))) D h) := fun h n hK => by
    have := ko_wp (ko_needs (n := n) hok hK hQ hF.1) hw
    rw [hF.2] at this
    exact this
  have q_cut : ∀ h n, KSd D h → Sp M_X9_cut 8 0 0 [.ref 0, .int (nI q), .int (nI a), .int (nI b)] h n (KRet (fun r => r = some (.int (ctN qd.2.2 f))) D h) := fun h n hK => by
    have := ko_wp (ko_cut (n := n) hok hK hQ hF.1) hw
    rw [hF.2] at this
    exact this
  have hz : ∃ z, RuK D.1 (qd.1 f) (neN qd.2.2 f) (leN qd.2.1.1 qd.2.1.2.1 qd.2.1.2.2.1 f 0) z (leN qd.2.1.1 qd.2.1.2.1 qd.2.1.2.2.1 f 2) ∧ (qd.1 f ≤ 1000000 → leN qd.2.1.1 qd.2.1.2.1 qd.2.1.2.2.1 f 1 = nI z) := by
    rcases hL with ⟨l1, l2, l3⟩ | ⟨l1, y, z, u, l2, l3, l4, l5, l6, l7⟩
    · exact ⟨0, Or.inl ⟨l1, l2, l3⟩, fun w => by omega⟩
    · exact ⟨z, Or.inr ⟨l1, y, u, l2, l4, l5, l6, l7⟩, fun _ => l3⟩
  obtain ⟨z, hRu, hz1⟩ := hz
  have hU : leN qd.2.1.1 qd.2.1.2.1 qd.2.1.2.2.1 f 0 = -5 ∨ (∃ y u, leN qd.2.1.1 qd.2.1.2.1 qd.2.1.2.2.1 f 0 = nI y ∧ y < 9 ∧ leN qd.2.1.1 qd.2.1.2.1 qd.2.1.2.2.1 f 2 = nI u ∧ neN qd.2.2 f &&& u = neN qd.2.2 f) := by
    have h8 := hok.2.2.2.1
    rcases hRu with ⟨-, r2, -⟩ | ⟨-, y, u, r2, r3, -, r5, r6⟩
    · exact Or.inl r2
    · refine Or.inr ⟨y, u, r2, ?_, r3, r5⟩
      rcases r6 with ⟨rfl, -⟩ | ⟨r6, -⟩ <;> omega
  refine mw_aload_n (i := 0) rfl rfl rfl ?_
  refine mw_iload rfl rfl ?_
  refine mw_iload rfl rfl ?_
  refine mw_iload rfl rfl ?_
  refine mw_askI (q_cost h n0 hJ.1) hJ rfl ok_X9_cost v_L_62 rfl rfl (Nat.le_of_ble_eq_true rfl) rfl (Nat.le_of_ble_eq_true rfl) (by omega) (by omega) (by omega) (fun h hJ => ?_)
  refine mw_istore rfl (Nat.le_of_ble_eq_true rfl) ?_
  refine mw_aload_n (i := 0) rfl rfl rfl ?_
  refine mw_iload rfl rfl ?_
  refine mw_iload rfl rfl ?_
  refine mw_iload rfl rfl ?_
  refine mw_iconst (v := nI 0) rfl (by decide) ?_
  refine mw_askI (q_least 0 (by omega) h n0 hJ.1) hJ rfl ok_X9_least v_L_65 rfl rfl (Nat.le_of_ble_eq_true rfl) rfl (Nat.le_of_ble_eq_true rfl) (by omega) (by omega) (by omega) (fun h hJ => ?_)
  refine mw_istore rfl (Nat.le_of_ble_eq_true rfl) ?_
  refine mw_aload_n (i := 0) rfl rfl rfl ?_
  refine mw_iload rfl rfl ?_
  refine mw_iload rfl rfl ?_
  refine mw_iload rfl rfl ?_
  refine mw_askI (q_needs h n0 hJ.1) hJ rfl ok_X9_needs v_L_68 rfl rfl (Nat.le_of_ble_eq_true rfl) rfl (Nat.le_of_ble_eq_true rfl) (by omega) (by omega) (by omega) (fun h hJ => ?_)
  refine mw_istore rfl (Nat.le_of_ble_eq_true rfl) ?_
  refine mw_aload_n (i := 0) rfl rfl rfl ?_
  refine mw_iload rfl rfl ?_
  refine mw_iload rfl rfl ?_
  refine mw_iload rfl rfl ?_
  refine mw_iconst (v := nI 2) rfl (by decide) ?_
  refine mw_askI (q_least 2 (by omega) h n0 hJ.1) hJ rfl ok_X9_least v_L_65 rfl rfl (Nat.le_of_ble_eq_true rfl) rfl (Nat.le_of_ble_eq_true rfl) (by omega) (by omega) (by omega) (fun h hJ => ?_)
  refine mw_istore rfl (Nat.le_of_ble_eq_true rfl) ?_
  refine mw_aload_n (i := 0) rfl rfl rfl ?_
  refine mw_iload rfl rfl ?_
  refine mw_iload rfl rfl ?_
  refine mw_iload rfl rfl ?_
  refine mw_askI (q_cut h n0 hJ.1) hJ rfl ok_X9_cut v_L_71 rfl rfl (Nat.le_of_ble_eq_true rfl) rfl (Nat.le_of_ble_eq_true rfl) (by omega) (by omega) (by omega) (fun h hJ => ?_)
  refine mw_istore rfl (Nat.le_of_ble_eq_true rfl) ?_
  refine mw_aload_n (i := 0) rfl rfl rfl ?_
  refine mw_iload rfl rfl ?_
  refine mw_iload rfl rfl ?_
  refine mw_iload rfl rfl ?_
  refine mw_ask (ko_likelihood hok hJ.1 (by rw [hw]; decide)) hJ rfl ok_X9_likelihood v_L_74 rfl rfl (Nat.le_of_ble_eq_true rfl) rfl (Nat.le_of_ble_eq_true rfl) (by omega) (by omega) (by omega) (fun r h hr hJ => ?_)
  obtain ⟨li, hli, rfl⟩ := hr
  refine mw_istore rfl (Nat.le_of_ble_eq_true rfl) ?_
  refine mw_iload rfl rfl ?_
  refine mw_aload_n (i := 0) rfl rfl rfl ?_
  have q_rounds := ko_rounds (n := n0) hJ.1
  rw [okA_1 hs] at q_rounds
  refine mw_askI (q_rounds) hJ rfl ok_X9_rounds v_L_42 rfl rfl (Nat.le_of_ble_eq_true rfl) rfl (Nat.le_of_ble_eq_true rfl) (by omega) (by omega) (by omega) (fun h hJ => ?_)
  generalize hne : neN qd.2.2 f = ne at *
  generalize hru : leN qd.2.1.1 qd.2.1.2.1 qd.2.1.2.2.1 f 0 = ru at *
  generalize hus : leN qd.2.1.1 qd.2.1.2.1 qd.2.1.2.2.1 f 2 = us at *
  generalize hct : ctN qd.2.2 f = ct at *
  have hins1 : 0 < k → 0 < insN (hoV D.1) f (hoV D.1).1 := fun hk0 => ins_some hok hs hf216 hk0 hk hm
  have hbase : k = 0 → qd.1 f ≤ 99 := fun hk0 => base_cost hok hs hQ.1 hf216 (by rw [hm, hk0])
  have hct0 : ¬ ct = 0 := by
    rw [← hct]
    exact ct_pos _ _
  have hlow : ¬ ne = 0 → ct = nI ne &&& -(nI ne) := by
    rw [← hct, ← hne]
    exact ct_low _ _
  have hne12 : ne < 4096 := by
    rw [← hne]
    exact ne_lt _ _
  generalize insN (hoV D.1) f (hoV D.1).1 = ins at *
  generalize hcc : qd.1 f = c at *
  have tail : ∀ h1, SJ D h0 h1 → MW M_L_sound 9 0 0 n0 post 410 (soB n size al la 1 q he i a b k ins c ru ne us ct li) [] h1 n0 0 := fun h hJ => by
    refine mw_iconst (v := nI 1) rfl (by decide) ?_
    refine mw_goto rfl ?_
    refine mw_istore rfl (Nat.le_of_ble_eq_true rfl) ?_
    refine mw_locals (L2 := soB n size al la 1 q he i a b k ins c ru ne us ct li) rfl ?_
    refine so_mid hok hJ hRu (fun w h n hK => ?_) (fun h hJ => so_end hJ (by omega) hcF hne12 hU hct0 hlow hbase kk)
    have := q_least 1 (by omega) h n hK
    rw [hz1 w] at this
    exact this
  have k2 : MW M_L_sound 9 0 0 n0 post 368 (soB n size al la 1 q he i a b k ins c ru ne us ct li) [] h n0 0 := by
    refine mw_iload rfl rfl ?_
    refine mw_z_lt rfl (by omega) (fun e1 => ?_) (fun e1 => ?_)
    · exact e1.elim
    refine mw_iload rfl rfl ?_
    refine mw_z_lt rfl (by omega) (fun e2 => ?_) (fun e2 => ?_)
    · exact e2.elim
    refine mw_iload rfl rfl ?_
    refine mw_ldc (v := nI 1065353216) rfl c_L_77 ?_
    refine mw_n_gt rfl (by omega) (by omega) (fun e3 => ?_) (fun e3 => ?_)
    · omega
    refine mw_iload rfl rfl ?_
    refine mw_ldc (v := nI 1000000) rfl c_L_78 ?_
    rcases hRu with ⟨r1, rfl, -⟩ | ⟨r1, y, u, rfl, -, -, -, r6⟩
    · refine mw_n_gt rfl (by omega) (by omega) (fun e4 => ?_) (fun e4 => ?_)
      · refine mw_iconst (v := nI 0) rfl (by decide) ?_
        refine mw_iload rfl rfl ?_
        refine mw_if_lt rfl (fun e5 => ?_) (fun e5 => ?_)
        · refine mw_iconst (v := nI 0) rfl (by decide) ?_
          refine mw_n_ne rfl (by omega) (by omega) (fun e6 => ?_) (fun e6 => ?_)
          · omega
          exact tail h hJ
        · exact absurd (by decide) e5
      · omega
    · have hy31 : y < 2147483648 := by
        have h8 := hok.2.2.2.1
        rcases r6 with ⟨rfl, -⟩ | ⟨r6, -⟩ <;> omega
      refine mw_n_gt rfl (by omega) (by omega) (fun e4 => ?_) (fun e4 => ?_)
      · omega
      · refine mw_iconst (v := nI 1) rfl (by decide) ?_
        refine mw_goto rfl ?_
        refine mw_iload rfl rfl ?_
        refine mw_z_lt rfl (by omega) (fun e5 => ?_) (fun e5 => ?_)
        · exact e5.elim
        · refine mw_iconst (v := nI 1) rfl (by decide) ?_
          refine mw_goto rfl ?_
          refine mw_n_ne rfl (by omega) (by omega) (fun e6 => ?_) (fun e6 => ?_)
          · omega
          exact tail h hJ
  refine mw_n_gt rfl (by omega) (by omega) (fun e0 => ?_) (fun e0 => ?_)
  · omega
  refine mw_locals (L2 := soB n size al la 1 q he i a b k ins c ru ne us ct li) rfl ?_
  refine mw_iload rfl rfl ?_
  refine mw_z_eq rfl (by omega) (fun e1 => ?_) (fun e1 => ?_)
  · exact k2
  · refine mw_iload rfl rfl ?_
    refine mw_z_le rfl (by omega) (fun e2 => ?_) (fun e2 => ?_)
    · have := hins1 (by omega)
      omega
    · exact k2
end SOUND
