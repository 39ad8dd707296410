/-! BOTH SIDES TOGETHER: what the world holds between two calls of the law -/
theorem sp_imp {M : MI} {d mc ms : Nat} {av : List Value} {h : Nat → MC} {n : Nat} {post post' : Option Value → (Nat → MC) → Prop} (H : Sp M d mc ms av h n post) (hi : ∀ r h1, post r h1 → post' r h1) : Sp M d mc ms av h n post' := by
  intro G p lc e s m args below meth c X HH locs ls hn hW hS hl T hT X0
  obtain ⟨t, a, o, b1, b2, ⟨⟨r, h1, c1, c2, c3, c4⟩, c5⟩, b4⟩ := H G p lc e s m args below meth c X HH locs ls hn hW hS hl T hT X0
  exact ⟨t, a, o, b1, b2, ⟨⟨r, h1, c1, hi _ _ c2, c3, c4⟩, c5⟩, b4⟩
/-- v, the text's length, the text, which slots are filled, what the slots keep -/
abbrev LD : Type := (Nat → Nat) × Nat × (Nat → Nat) × (Nat → Bool) × (Nat → Nat)
def SlV (kp : Nat → Nat) (i : Nat) (P' : PgS) : Prop := ∃ vs : Nat → Nat, (∀ j, j < 189 → vs j = kp (189 * i + j)) ∧ PgV P' vs ∧ SafV vs P' ∧ OkN vs
def KSr (D : LD) (h : Nat → MC) (P : PgS) (x : KD) (s : KS) : Prop := KW D.1 smC.2 P h x ∧ TxA h D.2.1 D.2.2.1 s ∧ h 47 = SlO ∧ h 48 = .inl (.boolean, 2, .inl (bIf D.2.2.2.1)) ∧ ∀ i, i < 2 → ∃ P' : PgS, PgAt h (86 + 46 * i) P' ∧ (D.2.2.2.1 i = true → SlV D.2.2.2.2 i P')
def KSd (D : LD) (h : Nat → MC) : Prop := ∃ (P : PgS) (x : KD) (s : KS), KSr D h P x s
def RSr (D : LD) (h : Nat → MC) (w : Nat → Int32) (x : RD) (td : Nat → Int32) : Prop := RAt h w x ∧ h 179 = .inl (.int, 189, .inl (vI D.1)) ∧ FndI D.1 w x ∧ h 180 = .inl (.int, 378, .inl (vI D.2.2.2.2)) ∧ h 181 = .inl (.boolean, 2, .inl (bIf D.2.2.2.1)) ∧ h 182 = .inl (.int, 60, .inl (vI D.2.2.1)) ∧ h 183 = .inl (.int, 16, .inl td) ∧ w 0 = nI D.2.1
def RSd (D : LD) (h : Nat → MC) : Prop := ∃ (w : Nat → Int32) (x : RD) (td : Nat → Int32), RSr D h w x td
def DOk (D : LD) : Prop := OkN D.1 ∧ D.2.1 ≤ 60 ∧ ∀ i, i < D.2.1 → D.2.2.1 i < 128
def LJ (h : Nat → MC) : Prop := ∃ D : LD, DOk D ∧ KSd D h ∧ RSd D h
/-! frames -/
theorem KSd.keep {D : LD} {h h1 : Nat → MC} (H : KSd D h) (e : ∀ j, j < 178 → h1 j = h j) : KSd D h1 := by
  obtain ⟨P, x, s, k1, k2, k3, k4, k5⟩ := H
  refine ⟨P, x, s, k1.keep (fun j hj => e j (by omega)), k2.keep (fun j q1 q2 => e j (by omega)), (e 47 (by omega)).trans k3, (e 48 (by omega)).trans k4, fun i hi => ?_⟩
  obtain ⟨P', g1, g2⟩ := k5 i hi
  exact ⟨P', g1.keep (fun j q1 q2 => e j (by omega)), g2⟩
theorem rc_keys (w : Nat → Int32) (x : RD) : (rcL w x).tail.all (fun q => Nat.ble 184 q.1) = true := rfl
theorem rc_mem {w : Nat → Int32} {x : RD} {j : Nat} {c : MC} (h : mlk (rcL w x) j = some c) : j = 178 ∨ 184 ≤ j := by
  rcases List.mem_cons.mp (mlk_mem h) with e | hm
  · exact Or.inl (congrArg Prod.fst e)
  · exact Or.inr (Nat.le_of_ble_eq_true (List.all_eq_true.mp (rc_keys w x) _ hm))
theorem rc_o (w : Nat → Int32) (x : RD) (h : Nat → MC) {j : Nat} (h1 : j ≠ 178) (h2 : j < 184) : mov (rcL w x) h j = h j := by
  cases e : mlk (rcL w x) j with
  | none => simp only [mov, e]
  | some c =>
    rcases rc_mem e with q | q
    · exact absurd q h1
    · omega
/-- the reference's rows stay, its own cell may be another -/
theorem RAt.put {h h1 : Nat → MC} {w w' : Nat → Int32} {x : RD} (H : RAt h w x) (h0 : h1 178 = RO w') (e : ∀ j, 184 ≤ j → h1 j = h j) : RAt h1 w' x := by
  funext j
  by_cases hj : j = 178
  · rw [hj]
    exact h0.symm
  · have h2 := congrFun H j
    have e1 : Nat.beq 178 j = false := nbf (fun q => hj q.symm)
    have k1 : ∀ w : Nat → Int32, mlk (rcL w x) j = mlk (rcL w x).tail j := fun w => by
      show (bif Nat.beq 178 j then some (RO w) else mlk (rcL w x).tail j) = _
      rw [e1]
      rfl
    have k2 : mlk (rcL w' x) j = mlk (rcL w x) j := (k1 w').trans (k1 w).symm
    unfold mov at h2 ⊢
    rw [k2]
    cases q : mlk (rcL w x) j with
    | none => rfl
    | some c =>
      rw [q] at h2
      rcases rc_mem q with r | r
      · exact absurd r hj
      · rw [e j r]
        exact h2
theorem RAt.c0 {h : Nat → MC} {w : Nat → Int32} {x : RD} (H : RAt h w x) : h 178 = RO w := (congrFun H 178).symm
theorem FndI.w {v : Nat → Nat} {w w' : Nat → Int32} {x : RD} (H : FndI v w x) (h3 : w' 3 = w 3) (h4 : w' 4 = w 4) (h6 : w' 6 = w 6) (h7 : w' 7 = w 7) : FndI v w' x := by
  obtain ⟨a, b⟩ := H
  refine ⟨a, ?_⟩
  rcases b with b | ⟨b1, b2, b3, b4⟩
  · exact Or.inl (h3.trans b)
  · refine Or.inr ⟨h3.trans b1, h4.trans b2, b3, fun q => ?_⟩
    obtain ⟨S, m1, m2, m3, m4, m5⟩ := b4 q
    exact ⟨S, m1, h7.trans m2, m3, h6.trans m4, m5⟩
theorem FndI.stale {v v' : Nat → Nat} {w w' : Nat → Int32} {x : RD} (H : FndI v w x) (h3 : w' 3 = bI false) : FndI v' w' x := ⟨H.1, Or.inl h3⟩
theorem RSd.keep {D : LD} {h h1 : Nat → MC} (H : RSd D h) (e : ∀ j, 178 ≤ j → h1 j = h j) : RSd D h1 := by
  obtain ⟨w, x, td, k1, k2, k3, k4, k5, k6, k7, k8⟩ := H
  exact ⟨w, x, td, k1.put ((e 178 (by omega)).trans k1.c0) (fun j hj => e j (by omega)), (e 179 (by omega)).trans k2, k3, (e 180 (by omega)).trans k4, (e 181 (by omega)).trans k5, (e 182 (by omega)).trans k6, (e 183 (by omega)).trans k7, k8⟩
theorem kq_o (x : KD) (h : Nat → MC) {j : Nat} (h0 : j ≠ 0) (hj : j < 56 ∨ 85 < j) : mov (kqL x) h j = h j := by
  cases e : mlk (kqL x) j with
  | none => simp only [mov, e]
  | some c =>
    rcases List.mem_cons.mp (mlk_mem e) with q | hm
    · exact absurd (congrArg Prod.fst q) h0
    · have h3 := List.all_eq_true.mp (kq_keys x) _ hm
      rw [Bool.and_eq_true] at h3
      have a1 : 56 ≤ j := Nat.le_of_ble_eq_true h3.1
      have a2 : j ≤ 85 := Nat.le_of_ble_eq_true h3.2
      omega
/-! what a call leaves -/
def KRet (A : Option Value → Prop) (D : LD) (h : Nat → MC) : Option Value → (Nat → MC) → Prop := fun r h1 => A r ∧ (∀ j, 178 ≤ j → h1 j = h j) ∧ KSd D h1
def RRet (B : Option Value → Prop) (D : LD) (h : Nat → MC) : Option Value → (Nat → MC) → Prop := fun r h1 => B r ∧ (∀ j, j < 178 → h1 j = h j) ∧ RSd D h1
theorem KSr.same {D : LD} {h : Nat → MC} {P : PgS} {x : KD} {s : KS} (H : KSr D h P x s) {A : Option Value → Prop} {r : Option Value} (ha : A r) : KRet A D h r h := ⟨ha, fun _ _ => rfl, P, x, s, H⟩
theorem RSr.same {D : LD} {h : Nat → MC} {w : Nat → Int32} {x : RD} {td : Nat → Int32} (H : RSr D h w x td) {B : Option Value → Prop} {r : Option Value} (ha : B r) : RRet B D h r h := ⟨ha, fun _ _ => rfl, w, x, td, H⟩
theorem KSr.ask {D : LD} {h h1 : Nat → MC} {P : PgS} {x : KD} {s : KS} (H : KSr D h P x s) {A : KD → Option Value → Prop} {r : Option Value} (hq : KQ D.1 smC.2 h A r h1) : KRet (fun r => ∃ x', A x' r) D h r h1 := by
  obtain ⟨x', rfl, hI, hA⟩ := hq
  obtain ⟨k1, k2, k3, k4, k5⟩ := H
  refine ⟨⟨x', hA⟩, fun j hj => kq_o _ _ (by omega) (by omega), P, x', s, k1.mv hI, k2.keep (fun j q1 q2 => kq_o _ _ (by omega) (by omega)), (kq_o _ _ (by omega) (by omega)).trans k3, (kq_o _ _ (by omega) (by omega)).trans k4, fun i hi => ?_⟩
  obtain ⟨P', g1, g2⟩ := k5 i hi
  exact ⟨P', g1.keep (fun j q1 q2 => kq_o _ _ (by omega) (by omega)), g2⟩
theorem RSr.ask {D : LD} {h h1 : Nat → MC} {w : Nat → Int32} {x : RD} {td : Nat → Int32} (H : RSr D h w x td) {A : (Nat → Int32) → RD → Option Value → Prop} {r : Option Value} (hq : QR D.1 w h A r h1) : RRet (fun r => ∃ w' x', A w' x' r) D h r h1 := by
  obtain ⟨w', x', rfl, hT, hI, hA⟩ := hq
  obtain ⟨k1, k2, k3, k4, k5, k6, k7, k8⟩ := H
  exact ⟨⟨w', x', hA⟩, fun j hj => rc_o _ _ _ (by omega) (by omega), w', x', td, RAt.of w' x' h, (rc_o _ _ _ (by omega) (by omega)).trans k2, hI, (rc_o _ _ _ (by omega) (by omega)).trans k4, (rc_o _ _ _ (by omega) (by omega)).trans k5, (rc_o _ _ _ (by omega) (by omega)).trans k6, (rc_o _ _ _ (by omega) (by omega)).trans k7, hT.1.trans k8⟩
/-- the class's program is another -/
theorem KSr.change {v : Nat → Nat} {D : LD} {h h1 : Nat → MC} {P : PgS} {x : KD} {s : KS} (H : KSr D h P x s) {r0 : Int32} {r : Option Value} (hq : KZ v smC.2 h r0 r h1) : KRet (fun r => r = some (.int r0)) (v, D.2) h r h1 := by
  obtain ⟨hr, hF, P', x', hW⟩ := hq
  obtain ⟨k1, k2, k3, k4, k5⟩ := H
  refine ⟨hr, fun j hj => hF j (Or.inr (by omega)), P', x', s, hW, k2.keep (fun j q1 q2 => hF j (Or.inl (by omega))), (hF 47 (Or.inl (by omega))).trans k3, (hF 48 (Or.inl (by omega))).trans k4, fun i hi => ?_⟩
  obtain ⟨P2, g1, g2⟩ := k5 i hi
  exact ⟨P2, g1.keep (fun j q1 q2 => hF j (Or.inr (by omega))), g2⟩
/-- the reference's program is another -/
theorem RSr.change {v : Nat → Nat} {D : LD} {h : Nat → MC} {w : Nat → Int32} {x : RD} {td : Nat → Int32} (H : RSr D h w x td) {B : Option Value → Prop} {r : Option Value} (hr : B r) : RRet B (v, D.2) h r (mov [(179, .inl (.int, 189, .inl (vI v))), (178, RO (updN w 3 0))] h) := by
  obtain ⟨k1, k2, k3, k4, k5, k6, k7, k8⟩ := H
  have e : ∀ j, j ≠ 179 → j ≠ 178 → mov [(179, .inl (.int, 189, .inl (vI v))), (178, RO (updN w 3 0))] h j = h j := fun j q1 q2 => by
    simp only [mov, mlk, nbf (fun w => q1 w.symm), nbf (fun w => q2 w.symm), cond_false]
  exact ⟨hr, fun j hj => e j (by omega) (by omega), updN w 3 0, x, td, k1.put rfl (fun j hj => e j (by omega) (by omega)), rfl, k3.stale rfl, (e 180 (by omega) (by omega)).trans k4, (e 181 (by omega) (by omega)).trans k5, (e 182 (by omega) (by omega)).trans k6, (e 183 (by omega) (by omega)).trans k7, k8⟩
/-- a call of both sides -/
def isO (k ci : Nat) (h : Nat → MC) : Prop := ∃ fs : List Value, fs ≠ [] ∧ h k = .inr (ci, fs)
theorem KSd.c0 {D : LD} {h : Nat → MC} (H : KSd D h) : isO 0 9 h := by
  obtain ⟨P, x, s, hk⟩ := H
  exact ⟨_, (fun e => by cases e), hk.1.1.c0⟩
theorem RSd.c0 {D : LD} {h : Nat → MC} (H : RSd D h) : isO 178 10 h := by
  obtain ⟨w, x, td, hr⟩ := H
  exact ⟨_, (fun e => by cases e), hr.1.c0⟩
def OpJ (MK MR : MI) (as : List Value) (h : Nat → MC) (V : Value → Prop) : Prop := isO 0 9 h ∧ ∃ postK, Sp MK 8 0 0 (.ref 0 :: as) h 199 postK ∧ ∀ r1 h1, postK r1 h1 → isO 178 10 h1 ∧ ∃ postR, Sp MR 8 0 0 (.ref 178 :: as) h1 199 postR ∧ ∀ r2 h2, postR r2 h2 → r1 = r2 ∧ (∃ y, V y ∧ r1 = some y) ∧ LJ h2
def isI (y : Value) : Prop := ∃ z, y = .int z
def isL (y : Value) : Prop := ∃ z, y = .long z
theorem op_mk {MK MR : MI} {as : List Value} {h : Nat → MC} {V : Value → Prop} {D D' : LD} {A B : Option Value → Prop} (hD : DOk D') (hK : KSd D h) (hR : RSd D h) (k : Sp MK 8 0 0 (.ref 0 :: as) h 199 (KRet A D' h)) (r : ∀ h1, (∀ j, 178 ≤ j → h1 j = h j) → RSd D h1 → Sp MR 8 0 0 (.ref 178 :: as) h1 199 (RRet B D' h1)) (e : ∀ r1 r2, A r1 → B r2 → r1 = r2 ∧ ∃ y, V y ∧ r1 = some y) : OpJ MK MR as h V := by
  refine ⟨hK.c0, _, k, fun r1 h1 hq => ?_⟩
  obtain ⟨ha, hf, hk⟩ := hq
  refine ⟨(hR.keep hf).c0, _, r h1 hf (hR.keep hf), fun r2 h2 hq2 => ?_⟩
  obtain ⟨hb, hf2, hr⟩ := hq2
  obtain ⟨e1, e2⟩ := e r1 r2 ha hb
  exact ⟨e1, e2, D', hD, hk.keep hf2, hr⟩
theorem eqI {z : Int32} : ∀ r1 r2 : Option Value, r1 = some (.int z) → r2 = some (.int z) → r1 = r2 ∧ ∃ y, isI y ∧ r1 = some y := fun r1 r2 h1 h2 => ⟨h1.trans h2.symm, _, ⟨z, rfl⟩, h1⟩
