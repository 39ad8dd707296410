/-! EACH CALL: both sides answer the same and the world is as it should be -/
theorem op_const {MK MR : MI} {as : List Value} {h : Nat → MC} {D D' : LD} {z : Int32} (hD : DOk D') (hK : KSd D h) (hR : RSd D h) (k : Sp MK 8 0 0 (.ref 0 :: as) h 199 (KRet (fun r => r = some (.int z)) D' h)) (r : ∀ h1, RSd D h1 → Sp MR 8 0 0 (.ref 178 :: as) h1 199 (RRet (fun r => r = some (.int z)) D' h1)) : OpJ MK MR as h isI := op_mk hD hK hR k (fun h1 _ => r h1) eqI
theorem op_ask {MK MR : MI} {as : List Value} {h : Nat → MC} {V : Value → Prop} {D D' : LD} {A B : Option Value → Prop} (hD : DOk D') (hK : KSd D h) (hR : RSd D h) (k : Sp MK 8 0 0 (.ref 0 :: as) h 199 (KRet A D' h)) (r : ∀ (h1 : Nat → MC) (w : Nat → Int32) (xr : RD) (td : Nat → Int32), RSr D h1 w xr td → Sp MR 8 0 0 (.ref 178 :: as) h1 199 (RRet B D' h1)) (e : ∀ r1 r2, A r1 → B r2 → r1 = r2 ∧ ∃ y, V y ∧ r1 = some y) : OpJ MK MR as h V := op_mk hD hK hR k (fun h1 _ hR1 => by
  obtain ⟨w, xr, td, hr⟩ := hR1
  exact r h1 w xr td hr) e
theorem k_same {M : MI} {as : List Value} {D : LD} {h : Nat → MC} {P : PgS} {x : KD} {s : KS} {z : Int32} (hk : KSr D h P x s) (H : Fn M 8 0 0 (.ref 0 :: as) h 199 (some (.int z)) h) : Sp M 8 0 0 (.ref 0 :: as) h 199 (KRet (fun r => r = some (.int z)) D h) := sp_imp H fun r h1 hq => by
  obtain ⟨rfl, rfl⟩ := hq
  exact hk.same rfl
theorem r_same {M : MI} {as : List Value} {D : LD} {h : Nat → MC} {z : Int32} (hr : RSd D h) (H : Fn M 8 0 0 (.ref 178 :: as) h 199 (some (.int z)) h) : Sp M 8 0 0 (.ref 178 :: as) h 199 (RRet (fun r => r = some (.int z)) D h) := sp_imp H fun r h1 hq => by
  obtain ⟨rfl, rfl⟩ := hq
  exact ⟨rfl, fun _ _ => rfl, hr⟩
theorem nI_box {c : Int32} {a b : Nat} (ha : a < 2147483648) (hb : b < 2147483648) (h : nI a ≤ c ∧ c ≤ nI b) : ∃ k, a ≤ k ∧ k ≤ b ∧ c = nI k := by
  have h0 : (0 : Int32) ≤ c := Int32.le_trans (nI_pos' ha) h.1
  obtain ⟨k, hk, rfl⟩ := nI_of (Int32.not_lt.mpr h0)
  exact ⟨k, (nI_leI ha hk).mp h.1, (nI_leI hk hb).mp h.2, rfl⟩
theorem wQ_I {v : Nat → Nat} {p a b : Int32} {B : Int32 → Prop} {r : Option Value} (h : wQ v p a b B r) : ∃ y, isI y ∧ r = some y := by
  rcases wrV_cases v p a b with hw | ⟨hw, -⟩
  · exact ⟨_, ⟨_, rfl⟩, h.1 hw⟩
  · obtain ⟨z, -, e⟩ := h.2 (by rw [hw]; decide)
    exact ⟨_, ⟨_, rfl⟩, e⟩
theorem sub1_e {n : Nat} {y : Int32} (hn : n < 1000) (h : inI y n = false) : decide (nI 0 ≤ y ∧ y ≤ nI n - nI 1) = false := by
  cases q : decide (nI 0 ≤ y ∧ y ≤ nI n - nI 1)
  · rfl
  · exfalso
    obtain ⟨q1, q2⟩ := of_decide_eq_true q
    obtain ⟨k, hk, rfl⟩ := nI_of (Int32.not_lt.mpr (show (0 : Int32) ≤ y from q1))
    rcases Nat.eq_zero_or_pos n with e | e
    · subst e
      have q3 : nI k ≤ -1 := q2
      exact absurd (Int32.le_trans (nI_pos' hk) q3) (by decide)
    · rw [pk_sub e] at q2
      have := (nI_leI hk (by omega)).mp q2
      rw [inI_nI (by omega) (by omega)] at h
      cases h
theorem hset_o {h : Nat → MC} {k : Nat} {c : MC} {P : Nat → Prop} (hk : ¬ P k) : ∀ j, P j → hset h k c j = h j := fun j hj => hset_ne _ _ (fun e => hk (e ▸ hj))
