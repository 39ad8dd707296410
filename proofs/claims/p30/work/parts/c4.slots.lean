/-! P30: save, restore; the law's world -/
theorem ko_save {D : LD} {h : Nat → MC} {n i : Nat} (hok : OkN D.1) (hK : KSd D h) (hi : i < 2) : Sp M_X9_save 8 0 0 [.ref 0, .int (nI i)] h n (KRet (fun r => r = some (.int (nI (D.1 2)))) (D.1, D.2.1, D.2.2.1, updN D.2.2.2.1 i true, keepV D.1 D.2.2.2.2 (189 * i) 189) h) := by
  obtain ⟨P, x, s, hk⟩ := hK
  obtain ⟨k1, k2, k3, k4, k5⟩ := hk
  obtain ⟨P', g1, -⟩ := k5 i hi
  have hrc : P.rc = D.1 2 := k1.2.2.1.2.2.2.2.1
  refine sp_imp (c_ksave 5 n i P P' x.1 D.2.2.2.1 h k1.1.c0 k1.2.1 k3 k4 g1 hi) fun r h1 hq => ?_
  obtain ⟨rfl, rfl⟩ := hq
  have e : ∀ (c : MC) (j : Nat), j ≠ 48 → (j < 86 + 46 * i ∨ 86 + 46 * i + 46 ≤ j) → hset (pgH (86 + 46 * i) P h) 48 c j = h j := fun c j q1 q2 => (hset_ne _ _ q1).trans (pgH_o (by omega))
  refine ⟨by rw [hrc], fun j hj => e _ j (by omega) (by omega), P, x, s, k1.keep (fun j hj => e _ j (by omega) (by omega)), k2.keep (fun j q1 q2 => e _ j (by omega) (by omega)), (e _ 47 (by omega) (by omega)).trans k3, hset_same _ _ _, fun i' hi' => ?_⟩
  by_cases q : i' = i
  · subst q
    refine ⟨P, (PgAt.of _ P h).keep (fun j q1 q2 => hset_ne _ _ (by omega)), fun _ => ⟨D.1, fun j hj => ?_, k1.2.2.1, k1.2.2.2.1, hok⟩⟩
    show D.1 j = if 189 * i' ≤ 189 * i' + j ∧ 189 * i' + j < 189 * i' + 189 then D.1 (189 * i' + j - 189 * i') else D.2.2.2.2 (189 * i' + j)
    rw [if_pos ⟨by omega, by omega⟩, Nat.add_sub_cancel_left]
  · obtain ⟨P2, g3, g4⟩ := k5 i' hi'
    refine ⟨P2, g3.keep (fun j q1 q2 => e _ j (by omega) (by omega)), fun w => ?_⟩
    have w2 : updN D.2.2.2.1 i true i' = true := w
    rw [updN_ne _ _ q] at w2
    obtain ⟨vs, b1, b2⟩ := g4 w2
    refine ⟨vs, fun j hj => ?_, b2⟩
    show vs j = if 189 * i ≤ 189 * i' + j ∧ 189 * i' + j < 189 * i + 189 then D.1 (189 * i' + j - 189 * i) else D.2.2.2.2 (189 * i' + j)
    rw [if_neg (by omega)]
    exact b1 j hj
theorem ko_restore {D : LD} {h : Nat → MC} {n i : Nat} (hK : KSd D h) (hi : i < 2) (hik : D.2.2.2.1 i = true) : OkN (fun j => if j < 189 then D.2.2.2.2 (189 * i + j) else D.1 j) ∧ Sp M_X9_restore 8 0 0 [.ref 0, .int (nI i)] h n (KRet (fun r => r = some (.int (nI (D.2.2.2.2 (189 * i + 2))))) ((fun j => if j < 189 then D.2.2.2.2 (189 * i + j) else D.1 j), D.2) h) := by
  obtain ⟨P, x, s, hk⟩ := hK
  obtain ⟨P', g1, g2⟩ := hk.2.2.2.2 i hi
  obtain ⟨vs, b1, b2, b3, b4⟩ := g2 hik
  have e : ∀ j, j < 189 → (fun j => if j < 189 then D.2.2.2.2 (189 * i + j) else D.1 j) j = vs j := fun j hj => by
    show (if j < 189 then D.2.2.2.2 (189 * i + j) else D.1 j) = vs j
    rw [if_pos hj, b1 j hj]
  obtain ⟨c1, c2⟩ := PgV_cg b4 b2 b3 e
  have c3 := ok_cg b4 e
  exact ⟨c3, sp_imp (c_krestore 5 n i D.1 (fun j => if j < 189 then D.2.2.2.2 (189 * i + j) else D.1 j) smC.2 P P' x D.2.2.2.1 h hk.1 hk.2.2.1 hk.2.2.2.1 g1 hi hik c1 c2 c3) fun r h1 hq => hk.change hq⟩
theorem ko_restore_n {D : LD} {h : Nat → MC} {n i : Nat} (hK : KSd D h) (hi : i < 2) (hik : D.2.2.2.1 i = false) : Sp M_X9_restore 8 0 0 [.ref 0, .int (nI i)] h n (KRet (fun r => r = some (.int (-3))) D h) := by
  obtain ⟨P, x, s, hk⟩ := hK
  exact k_same hk (c_krestore_n 8 n i x.1 D.2.2.2.1 h hk.1.1.c0 hk.2.2.2.1 hi hik)
/-- the law's world, numbers and rows together -/
def LaW (D : LD) (pl w : Nat → Nat) (h : Nat → MC) : Prop := FW D pl w h ∧ LV D.1 ∧ w 0 = D.1 0 ∧ w 1 = D.1 2 ∧ w 2 = D.1 1 ∧ ∀ q, q < 6 → pl q = D.1 (3 + q)
theorem FW.same {D : LD} {pl w : Nat → Nat} {h h1 : Nat → MC} (H : FW D pl w h) (hJ : SJ D h h1) : FW D pl w h1 := H.sj H.1 hJ
theorem LaW.same {D : LD} {pl w : Nat → Nat} {h h1 : Nat → MC} (H : LaW D pl w h) (hJ : SJ D h h1) : LaW D pl w h1 := ⟨H.1.same hJ, H.2⟩
theorem LaW.j {D : LD} {pl w : Nat → Nat} {h : Nat → MC} (H : LaW D pl w h) : SJ D h h := ⟨H.1.2.1, fun _ _ => rfl⟩
theorem fy_VF {v pl : Nat → Nat} (hok : OkN v) (hpl : ∀ q, q < 6 → pl q = v (3 + q)) (y : Nat) : VF v (fyF (v 0) pl y) := by
  have h1 := hok.1
  refine ⟨y % 4, y / 2 ^ 3 % v 0, if pl (y % 4) = 2 then y / 2 ^ 6 % v 0 else 0, by omega, Nat.mod_lt _ (by omega), ?_, fun e => ?_, rfl⟩
  · split
    · exact Nat.mod_lt _ (by omega)
    · omega
  · rw [if_neg (by rw [hpl _ (by omega), e]; decide)]
theorem fyV_1 (v pl : Nat → Nat) (y : Nat) : fyV v pl y 1 = v 1 + 1 := by
  unfold fyV addFactV
  exact if_pos rfl
theorem fyV_o (v pl : Nat → Nat) (y : Nat) {j : Nat} (h1 : j ≠ 1) (h2 : j ≠ 9 + 3 * v 1) (h3 : j ≠ 9 + 3 * v 1 + 1) (h4 : j ≠ 9 + 3 * v 1 + 2) : fyV v pl y j = v j := by
  unfold fyV
  exact addFactV_o h1 h2 h3 h4
theorem fyV_2 (v pl : Nat → Nat) (y : Nat) : fyV v pl y 2 = v 2 := fyV_o v pl y (by omega) (by omega) (by omega) (by omega)
theorem fyV_0 (v pl : Nat → Nat) (y : Nat) : fyV v pl y 0 = v 0 := fyV_o v pl y (by omega) (by omega) (by omega) (by omega)
theorem fyV_p (v pl : Nat → Nat) (y : Nat) {q : Nat} (hq : q < 6) : fyV v pl y (3 + q) = v (3 + q) := fyV_o v pl y (by omega) (by omega) (by omega) (by omega)
theorem LaW.fact {D : LD} {pl w : Nat → Nat} {h h1 : Nat → MC} (H : LaW D pl w h) {y : Nat} (h8 : D.1 1 < 12) (H1 : FW (fyV D.1 pl y, D.2) pl (updN w 2 (w 2 + 1)) h1) : LaW (fyV D.1 pl y, D.2) pl (updN w 2 (w 2 + 1)) h1 := by
  obtain ⟨-, hV, w0, w1, w2, hpl⟩ := H
  have hok := hV.1
  refine ⟨H1, hV.addFact (fy_VF hok hpl y) (by omega) (by omega) (by omega) h8, ?_, ?_, ?_, fun q hq => ?_⟩
  · rw [updN_ne _ _ (by omega), w0]
    exact (fyV_0 D.1 pl y).symm
  · rw [updN_ne _ _ (by omega), w1]
    exact (fyV_2 D.1 pl y).symm
  · rw [updN_same, w2]
    exact (fyV_1 D.1 pl y).symm
  · rw [hpl q hq]
    exact (fyV_p D.1 pl y hq).symm
theorem fyV_back (v pl : Nat → Nat) (y : Nat) : fyV (updN (fyV v pl y) 1 (fyV v pl y 1 - 1)) pl y = fyV v pl y := by
  have e0 : updN (fyV v pl y) 1 (fyV v pl y 1 - 1) 0 = v 0 := (updN_ne _ _ (by omega)).trans (fyV_0 v pl y)
  show addFactV (updN (fyV v pl y) 1 (fyV v pl y 1 - 1)) (fyF (updN (fyV v pl y) 1 (fyV v pl y 1 - 1) 0) pl y) (y / 2 ^ 9 % 100) (1 + y / 2 ^ 16 % 16) = fyV v pl y
  rw [e0]
  exact add_drop v _ _ _
/-- the row w is written -/
theorem FW.setW {D : LD} {pl w w' : Nat → Nat} {h : Nat → MC} (H : FW D pl w h) : FW D pl w' (hset h 181 (.inl (.int, 3, .inl (vI w')))) := by
  obtain ⟨h1, h2, ⟨rf, h3⟩, ⟨bf, h4⟩, h5, h6⟩ := H
  exact ⟨h1, h2.keep (fun j hj => hset_ne _ _ (by omega)), ⟨rf, (hset_ne _ _ (by omega)).trans h3⟩, ⟨bf, (hset_ne _ _ (by omega)).trans h4⟩, (hset_ne _ _ (by omega)).trans h5, hset_same _ _ _⟩
theorem FW.setP {D : LD} {pl pl' w : Nat → Nat} {h : Nat → MC} (H : FW D pl w h) : FW D pl' w (hset h 180 (.inl (.int, 6, .inl (vI pl')))) := by
  obtain ⟨h1, h2, ⟨rf, h3⟩, ⟨bf, h4⟩, h5, h6⟩ := H
  exact ⟨h1, h2.keep (fun j hj => hset_ne _ _ (by omega)), ⟨rf, (hset_ne _ _ (by omega)).trans h3⟩, ⟨bf, (hset_ne _ _ (by omega)).trans h4⟩, hset_same _ _ _, (hset_ne _ _ (by omega)).trans h6⟩
theorem FW.p {D : LD} {pl w : Nat → Nat} {h : Nat → MC} (H : FW D pl w h) : h 180 = .inl (.int, 6, .inl (vI pl)) := H.2.2.2.2.1
theorem FW.w {D : LD} {pl w : Nat → Nat} {h : Nat → MC} (H : FW D pl w h) : h 181 = .inl (.int, 3, .inl (vI w)) := H.2.2.2.2.2
theorem FW.to {D D' : LD} {pl w : Nat → Nat} {h : Nat → MC} (H : FW D pl w h) (e : D = D') : FW D' pl w h := e ▸ H
