/-! P30: THE LAW from its entry -/
theorem KSd_new {h1 : Nat → MC} (hN : KNew h1) : KSd (KV0, 0, fun _ => 0, fun _ => false, fun _ => 0) h1 := by
  obtain ⟨⟨P, x, k1⟩, k2, k3, k4, ⟨P1, k5⟩, P2, k6⟩ := hN
  refine ⟨P, x, _, k1, k2, k3, k4, fun i hi => ?_⟩
  rcases (show i = 0 ∨ i = 1 by omega) with rfl | rfl
  · exact ⟨P1, k5, fun q => by cases q⟩
  · exact ⟨P2, k6, fun q => by cases q⟩
section LAWE
variable {p : Program} {l : Launch} {e : Env} {s : State} {m : MethodId} {below : List Frame} {meth : Method} {c : Code} {b Ln : Nat} {xs : Nat → Int32} {G : MG} {sl y k : Nat} {h : Nat → MC} {D : LD} {pl w : Nat → Nat}
set_option maxRecDepth 20000 in
/-- behind the making of the object and the rows, from 29 on -/
theorem law_first (C : LC p s m meth c b Ln xs G) (hsl : sl ≤ 7302250) (hF : FW (KV0, 0, fun _ => 0, fun _ => false, fun _ => 0) (fun _ => 0) (fun _ => 0) h) : LM p l e s m below meth c b G 29 [(1, .ref 0), (2, .ref 178), (3, .ref 179), (4, .ref 180), (5, .ref 181)] [] h 182 sl := by
  refine lm_cell0 (k := 0) C rfl rfl (by decide) (by omega) rfl (Nat.le_of_ble_eq_true rfl) (by omega) hsl (fun y hy => ?_)
  refine lm_istore C rfl rfl ?_
  refine lm_aload C rfl rfl ?_
  refine lm_iconst C (v := nI 0) rfl (by decide) ?_
  refine lm_iconst C (v := nI 1) rfl (by decide) ?_
  refine lm_iload C rfl rfl ?_
  refine lm_iconst C (v := nI 3) rfl (by decide) ?_
  refine lm_nrem C rfl hy (by omega) (by omega) ?_
  first | refine lm_nadd C rfl ?_ | refine lm_iadd C rfl ?_
  have hW := hF.w
  refine lm_iast C rfl hW (by omega) (by omega) ?_
  rw [vI_upd]
  have hF2 := hF.setW (w' := updN (fun _ => 0) 0 (1 + y % 3))
  generalize hset h 181 (.inl (.int, 3, .inl (vI (updN (fun _ => 0) 0 (1 + y % 3))))) = h at hF2 ⊢
  have hJ : SJ (KV0, 0, fun _ => 0, fun _ => false, fun _ => 0) h h := ⟨hF2.2.1, fun _ _ => rfl⟩
  have hW2 : ∀ {D' : LD} {h2 : Nat → MC}, SJ D' h h2 → h2 181 = .inl (.int, 3, .inl (vI (updN (fun _ => 0) 0 (1 + y % 3)))) := fun q => (q.2 181 (by omega)).trans hF2.w
  have hF3 : ∀ {D' : LD} {h2 : Nat → MC}, DOk D' → SJ D' h h2 → FW D' (fun _ => 0) (updN (fun _ => 0) 0 (1 + y % 3)) h2 := fun q1 q2 => hF2.sj q1 q2
  have hw0 : vI (updN (fun _ => 0) 0 (1 + y % 3)) 0 = nI (1 + y % 3) := congrArg nI (updN_same _ _ _)
  refine lm_aload_n C (i := 1) rfl rfl rfl ?_
  refine lm_iconst C (v := nI 1) rfl (by decide) ?_
  refine lm_askI C (ko_restore_n hJ.1 (i := 1) (by omega) rfl) hJ rfl ok_X9_restore v_L_108 rfl rfl (Nat.le_of_ble_eq_true rfl) rfl (Nat.le_of_ble_eq_true rfl) (by omega) (by omega) (by omega) (fun h hJ => ?_)
  refine lm_bipush C (v := (-3)) rfl (by decide) ?_
  refine lm_icmp_ne C rfl (fun f1 => ?_) (fun f1 => ?_)
  · exact absurd rfl f1
  refine lm_aload_n C (i := 1) rfl rfl rfl ?_
  refine lm_aload C rfl rfl ?_
  refine lm_iconst C (v := nI 0) rfl (by decide) ?_
  refine lm_iald_v C rfl (hW2 hJ) (by omega) (by omega) hw0 ?_
  refine lm_askI C (ko_v (z := nI 4) (ko_begin hJ.1 (c := 1 + y % 3) (by omega) (by omega)) rfl) hJ rfl ok_X9_begin v_L_89 rfl rfl (Nat.le_of_ble_eq_true rfl) rfl (Nat.le_of_ble_eq_true rfl) (by omega) (by omega) (by omega) (fun h hJ => ?_)
  refine lm_iconst C (v := nI 4) rfl (by decide) ?_
  refine lm_icmp_ne C rfl (fun f2 => ?_) (fun f2 => ?_)
  · exact absurd rfl f2
  refine lm_iconst C (v := nI 1) rfl (by decide) ?_
  refine lm_goto C rfl ?_
  refine lm_istore C rfl rfl ?_
  refine lm_iconst C (v := nI 0) rfl (by decide) ?_
  refine lm_istore C rfl rfl ?_
  have hok : OkN (anewV KV0 (1 + y % 3)) := ok_anew _ (by omega) (by omega)
  have a0 : anewV KV0 (1 + y % 3) 0 = 1 + y % 3 := by
    unfold anewV
    rw [if_neg (by omega), if_pos rfl]
  have a1 : ∀ j, 1 ≤ j → j < 3 → anewV KV0 (1 + y % 3) j = 0 := fun j q1 q2 => by
    unfold anewV
    rw [if_neg (by omega), if_neg (by omega), if_pos (by omega)]
  have a3 : ∀ i, i < 6 → anewV KV0 (1 + y % 3) (3 + i) = 2 := fun i hi => by
    unfold anewV
    rw [if_pos (by omega)]
  refine lm_locals rfl (law_places C hsl hy 6 0 (anewV KV0 (1 + y % 3), 0, fun _ => 0, fun _ => false, fun _ => 0) (fun _ => 0) (updN (fun _ => 0) 0 (1 + y % 3)) h rfl ⟨hF3 ⟨hok, hF2.1.2⟩ hJ, hok, ?_, ?_, updN_ne _ _ (by omega), updN_ne _ _ (by omega), a1 1 (by omega) (by omega), a1 2 (by omega) (by omega), fun i hi => absurd hi (Nat.not_lt_zero i), fun i _ hi => a3 i hi⟩)
  · show anewV KV0 (1 + y % 3) 0 ≤ 3
    rw [a0]
    omega
  · show updN (fun _ => 0) 0 (1 + y % 3) 0 = anewV KV0 (1 + y % 3) 0
    rw [a0]
    exact updN_same _ _ _
set_option maxRecDepth 20000 in
set_option maxHeartbeats 4000000 in
/-- THE LAW, from its entry -/
theorem whole_start {p : Program} {e : Env} {s : State} {m : MethodId} {below : List Frame} {meth : Method} {c : Code} (l : Launch) (hflags : l.flags = flags0) {b L : Nat} {xs : Nat → Int32} (hL : L ≤ 260) (C0 : lw_At p s m meth c b L xs) : W p l e room_1 s m #[Value.ref b] below meth c s.heap [] 0 0 (lw_Z below #[Value.ref b] s) (entryFrame m ([Value.ref b] : List Value).toArray 12) := by
  obtain ⟨G, hK, hG⟩ := mK_start C0
  have C : LC p s m meth c b L xs G := ⟨C0, hK, hG, hL⟩
  have hl := lv_entry ([.ref b]) (n := 12) (Nat.le_of_ble_eq_true rfl)
  rw [lg_entry_eq]
  generalize (lg_sl ([.ref b]) ++ List.replicate (12 - (lg_sl ([.ref b])).length) Slot.unset).toArray = ls at hl ⊢
  have hl : lv_has ls 12 (cvL G.2.1 [] ++ [(0, .ref b)]) := hl
  have hW : mWd G (fun _ => dead) 0 s.heap := ⟨fun k _ => rfl, fun k q h => by simp [mws] at h⟩
  have hS : va_S (mA G) s.heap s.heap [] := va_S.rf
  suffices H : LM p l e s m below meth c b G 0 [] [] (fun _ => dead) 0 0 from H _ _ _ hW hS hl
  refine lm_new C rfl n_L_10 (Nat.le_of_ble_eq_true rfl) (Nat.le_of_ble_eq_true rfl) ?_
  refine lm_dup C rfl rfl ?_
  refine lm_callI C (c_X9_init 1 _ (hset_same _ _ _)) rfl ok_X9_init rfl v_L_111 (Nat.le_of_ble_eq_true rfl) (Nat.le_of_ble_eq_true rfl) (Nat.le_of_ble_eq_true rfl) (Nat.le_of_ble_eq_true rfl) (Nat.le_of_ble_eq_true rfl) (fun r h1 hq => ?_)
  obtain ⟨rfl, hN⟩ := hq
  have hKd := KSd_new hN
  show LM p l e s m below meth c b G 7 [] [.ref 0] h1 178 14801
  refine lm_astore_n C (i := 1) rfl rfl rfl ?_
  refine lm_bipush C (v := nI 64) rfl (by decide) ?_
  refine lm_newarray C (ti := 0) (x := .inl (fun _ => 0)) rfl rfl rfl ac_int (fun _ => rfl) (fun _ => rfl) (by omega) (by omega) (by omega) ?_
  refine lm_astore_n C (i := 2) rfl rfl rfl ?_
  refine lm_bipush C (v := nI 30) rfl (by decide) ?_
  refine lm_newarray C (ti := 0) (x := .inl (fun _ => 0)) rfl rfl rfl ac_int (fun _ => rfl) (fun _ => rfl) (by omega) (by omega) (by omega) ?_
  refine lm_astore_n C (i := 3) rfl rfl rfl ?_
  refine lm_bipush C (v := nI 6) rfl (by decide) ?_
  refine lm_newarray C (ti := 0) (x := .inl (fun _ => 0)) rfl rfl rfl ac_int (fun _ => rfl) (fun _ => rfl) (by omega) (by omega) (by omega) ?_
  refine lm_astore C rfl rfl ?_
  refine lm_iconst C (v := nI 3) rfl (by decide) ?_
  refine lm_newarray C (ti := 0) (x := .inl (fun _ => 0)) rfl rfl rfl ac_int (fun _ => rfl) (fun _ => rfl) (by omega) (by omega) (by omega) ?_
  refine lm_astore C rfl rfl ?_
  have ez : (fun _ : Nat => (0 : Int32)) = vI (fun _ => 0) := funext fun _ => nI_0.symm
  have hF : FW (KV0, 0, fun _ => 0, fun _ => false, fun _ => 0) (fun _ => 0) (fun _ => 0) (hset (hset (hset (hset h1 178 (.inl (.int, 64, .inl (fun _ => 0)))) 179 (.inl (.int, 30, .inl (fun _ => 0)))) 180 (.inl (.int, 6, .inl (fun _ => 0)))) 181 (.inl (.int, 3, .inl (fun _ => 0)))) := by
    refine ⟨⟨ok_anew _ (by omega) (by omega), Nat.zero_le _, fun i hi => absurd hi (Nat.not_lt_zero i)⟩, hKd.keep (fun j hj => ?_), ⟨fun _ => 0, ?_⟩, ⟨fun _ => 0, ?_⟩, ?_, ?_⟩
    · rw [hset_ne _ _ (by omega), hset_ne _ _ (by omega), hset_ne _ _ (by omega), hset_ne _ _ (by omega)]
    · rw [hset_ne _ _ (by omega), hset_ne _ _ (by omega), hset_ne _ _ (by omega), hset_same]
    · rw [hset_ne _ _ (by omega), hset_ne _ _ (by omega), hset_same]
    · rw [hset_ne _ _ (by omega), hset_same, ez]
    · rw [hset_same, ez]
  exact lm_locals rfl (law_first C (by omega) hF)
end LAWE
