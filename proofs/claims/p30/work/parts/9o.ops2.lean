/-! EACH CALL: text, rules from texts, slots -/
theorem op_mk2 {MK MR : MI} {as : List Value} {h : Nat → MC} {V : Value → Prop} {D D' : LD} {A B : Option Value → Prop} (hD : DOk D') (hK : KSd D h) (hR : RSd D h) (k : Sp MK 8 0 0 (.ref 0 :: as) h 199 (KRet A D' h)) (r : ∀ h1, (∀ j, 178 ≤ j → h1 j = h j) → Sp MR 8 0 0 (.ref 178 :: as) h1 199 (RRet B D' h1)) (e : ∀ r1 r2, A r1 → B r2 → r1 = r2 ∧ ∃ y, V y ∧ r1 = some y) : OpJ MK MR as h V := op_mk hD hK hR k (fun h1 e1 _ => r h1 e1) e
theorem RSr.keep {D : LD} {h h1 : Nat → MC} {w : Nat → Int32} {x : RD} {td : Nat → Int32} (H : RSr D h w x td) (e : ∀ j, 178 ≤ j → h1 j = h j) : RSr D h1 w x td := by
  obtain ⟨k1, k2, k3, k4, k5, k6, k7, k8⟩ := H
  exact ⟨k1.put ((e 178 (by omega)).trans k1.c0) (fun j hj => e j (by omega)), (e 179 (by omega)).trans k2, k3, (e 180 (by omega)).trans k4, (e 181 (by omega)).trans k5, (e 182 (by omega)).trans k6, (e 183 (by omega)).trans k7, k8⟩
theorem mov2_o {h : Nat → MC} {a b j : Nat} {c d : MC} (h1 : j ≠ a) (h2 : j ≠ b) : mov [(a, c), (b, d)] h j = h j := by
  simp only [mov, mlk, nbf (fun w => h1 w.symm), nbf (fun w => h2 w.symm), cond_false]
theorem TxA.put {h h1 : Nat → MC} {tl tl' : Nat} {t t' : Nat → Nat} {s : KS} (H : TxA h tl t s) (e49 : h1 49 = .inr (7, [.ref 50, .int (nI tl'), .ref 51, .int (nI s.1)])) (e50 : h1 50 = .inl (.int, 60, .inl (vI t'))) (e : ∀ j, 51 ≤ j → j < 56 → h1 j = h j) : TxA h1 tl' t' s := by
  refine ⟨mov_self fun q hq => ?_, e50⟩
  simp only [List.mem_cons, List.not_mem_nil, or_false] at hq
  rcases hq with rfl | rfl | rfl | rfl | rfl | rfl
  · exact e49
  · exact (e 51 (by omega) (by omega)).trans (congrFun H.1 51).symm
  · exact (e 52 (by omega) (by omega)).trans (congrFun H.1 52).symm
  · exact (e 53 (by omega) (by omega)).trans (congrFun H.1 53).symm
  · exact (e 54 (by omega) (by omega)).trans (congrFun H.1 54).symm
  · exact (e 55 (by omega) (by omega)).trans (congrFun H.1 55).symm
/-- the text's reader is elsewhere -/
theorem KSr.text {D : LD} {h : Nat → MC} {P : PgS} {x : KD} {s : KS} (H : KSr D h P x s) (tl : Nat) (s' : KS) : KSr (D.1, tl, D.2.2) (mov (txC tl s') h) P x s' := by
  obtain ⟨k1, k2, k3, k4, k5⟩ := H
  refine ⟨k1.keep (fun j hj => tx_o _ _ _ (by omega)), ⟨mov_idem _ _, (tx_o _ _ _ (by omega)).trans k2.2⟩, (tx_o _ _ _ (by omega)).trans k3, (tx_o _ _ _ (by omega)).trans k4, fun i hi => ?_⟩
  obtain ⟨P', g1, g2⟩ := k5 i hi
  exact ⟨P', g1.keep (fun j q1 q2 => tx_o _ _ _ (by omega)), g2⟩
/-- the reference's reader is elsewhere -/
theorem RSr.text {D : LD} {h : Nat → MC} {w : Nat → Int32} {x : RD} {td : Nat → Int32} (H : RSr D h w x td) (k : Nat) (st : PS) {B : Option Value → Prop} {r : Option Value} (hb : B r) : RRet B D h r (mov (ty w k st) h) := by
  obtain ⟨k1, k2, k3, k4, k5, k6, k7, k8⟩ := H
  exact ⟨hb, fun j hj => mov2_o (by omega) (by omega), updN (updN w 2 (nI k)) 1 (nI st.1), x, st.2, k1.put rfl (fun j hj => mov2_o (by omega) (by omega)), (mov2_o (by omega) (by omega)).trans k2, k3.w rfl rfl rfl rfl, (mov2_o (by omega) (by omega)).trans k4, (mov2_o (by omega) (by omega)).trans k5, (mov2_o (by omega) (by omega)).trans k6, rfl, k8⟩
theorem mov3_o {h : Nat → MC} {a b e j : Nat} {c d f : MC} (h1 : j ≠ a) (h2 : j ≠ b) (h3 : j ≠ e) : mov [(a, c), (b, d), (e, f)] h j = h j := by
  simp only [mov, mlk, nbf (fun w => h1 w.symm), nbf (fun w => h2 w.symm), nbf (fun w => h3 w.symm), cond_false]
