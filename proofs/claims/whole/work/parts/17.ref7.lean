theorem arrV_cg {cA : ClassId} {n : Nat} {f g : Nat → Value} (e : ∀ j, j < n → f j = g j) : arrV cA n f = arrV cA n g := by
  unfold arrV
  congr 2
  funext j
  exact e j j.isLt
/-- of a row only its places count -/
theorem mw_tail {M : MI} {d mc ms n0 : Nat} {post : Option Value → (Nat → MC) → Prop} {pc : Nat} {L : List (Nat × Value)} {S : List Value} {h : Nat → MC} {n sl K N : Nat} {ty : FieldType} {f : Nat → Int32} (g : Nat → Int32) (hK : h K = .inl (ty, N, .inl f)) (e : ∀ j, j < N → f j = g j) (k : MW M d mc ms n0 post pc L S (hset h K (.inl (ty, N, .inl g))) n sl) : MW M d mc ms n0 post pc L S h n sl := by
  intro G p lc en s m args below meth c X H locs ls hn hW hS hl
  refine k G p lc en s m args below meth c X H locs ls hn ?_ hS hl
  have hlt := hW.lt hK dead_l
  refine ⟨fun j hj => ?_, ?_⟩
  · have q : ¬ j = K := by omega
    show (if j = K then _ else h j) = dead
    rw [if_neg q]
    exact hW.1 j hj
  · intro i q hq
    obtain ⟨hi, rfl⟩ := mws_lt hq
    have h1 := hW.2 i _ (mws_get G h hi)
    by_cases q : i = K
    · subst q
      rw [hK] at h1
      rw [hset_same]
      show H[G.2.1 + i]? = some (vp_cell (G.2.2 ty) (N, .inl g))
      have h2 : H[G.2.1 + i]? = some (vp_cell (G.2.2 ty) (N, .inl f)) := h1
      rw [h2]
      congr 1
      rw [vp_cell_i, vp_cell_i]
      exact arrV_cg fun j hj => by rw [e j hj]
    · rw [hset_ne h _ q]
      exact h1
theorem tOf_b {b b' : Nat → Nat} (e : ∀ x, x < 3 → b x = b' x) {t : Nat} (ht : t < 9) : tOf b t = tOf b' t := by
  unfold tOf
  split
  · rfl
  · exact e _ (by omega)
theorem fA_b {v b b' : Nat → Nat} (hok : OkN v) (e : ∀ x, x < 3 → b x = b' x) {r a : Nat} (hr : r < v 2) (ha : a ≤ v (45 + 18 * r + 1)) : fA v b r a = fA v b' r a := by
  obtain ⟨-, -, -, -, hat⟩ := hok.2.2.2.2.2.2 r hr
  obtain ⟨-, h2, h3, -⟩ := hat a ha
  unfold fA
  rw [tOf_b e h2, tOf_b e h3]
theorem andN_cg {f g : Nat → Bool} : ∀ {n : Nat}, (∀ k, k < n → f k = g k) → andN f n = andN g n
  | 0, _ => rfl
  | n + 1, h => by simp only [andN]; rw [andN_cg (fun k hk => h k (by omega)), h n (by omega)]
theorem holdsR_b {v b b' : Nat → Nat} {m : Nat → Int32} (hok : OkN v) (e : ∀ x, x < 3 → b x = b' x) {r : Nat} (hr : r < v 2) : holdsR v b m r = holdsR v b' m r := by
  unfold holdsR
  refine andN_cg fun k hk => ?_
  unfold hLit
  rw [fA_b hok e hr (by omega)]
theorem bndU_e (b b' : Nat → Nat) (code : Nat) : ∀ x, x < 3 → bndU b code x = bndU b' code x := fun x hx => by rw [bndU_at b code hx, bndU_at b' code hx]
/-- relation of two scratch states -/
def goE (p q : (Nat → Bool) × (Nat → Nat)) : Prop := ∀ f, f < 216 → p.1 f = q.1 f
theorem goC_e {v : Nat → Nat} {m : Nat → Int32} (hok : OkN v) {r code : Nat} (hr : r < v 2) {p q : (Nat → Bool) × (Nat → Nat)} (e : goE p q) : goE (goC v m r code p) (goC v m r code q) := by
  intro f hf
  simp only [goC]
  rw [holdsR_b hok (bndU_e p.2 q.2 code) hr, fA_b hok (bndU_e p.2 q.2 code) hr (Nat.zero_le _)]
  split
  · simp only [updN]
    split
    · rfl
    · exact e f hf
  · exact e f hf
theorem itN_rel {α : Type} {R : α → α → Prop} {s : Nat → α → α} {N : Nat} (hs : ∀ k, k < N → ∀ a b, R a b → R (s k a) (s k b)) : ∀ n, n ≤ N → ∀ {a b : α}, R a b → R (itN s a n) (itN s b n)
  | 0, _, _, _, h => h
  | n + 1, hn, _, _, h => hs n (by omega) _ _ (itN_rel hs n (by omega) h)
theorem itN_inv {α : Type} {P : α → Prop} {s : Nat → α → α} {N : Nat} (hs : ∀ k, k < N → ∀ a, P a → P (s k a)) : ∀ n, n ≤ N → ∀ {a : α}, P a → P (itN s a n)
  | 0, _, _, h => h
  | n + 1, hn, _, h => hs n (by omega) _ (itN_inv hs n (by omega) h)
set_option maxRecDepth 100000 in
theorem goA_e {v st : Nat → Nat} {m : Nat → Int32} (hok : OkN v) (s : Nat) (nb : Nat → Bool) (b : Nat → Nat) : goE (goA v st m s nb b) (goA v st m s (fun _ => false) (fun _ => 0)) := by
  refine itN_rel (R := goE) (N := v 2) (fun r hr p q e => ?_) (v 2) (Nat.le_refl _) ?_
  · simp only [goR]
    split
    · exact itN_rel (R := goE) (s := goC v m r) (N := 216) (fun code _ p q e => goC_e hok hr e) 216 (Nat.le_refl _) (a := p) (b := q) e
    · exact e
  · intro f hf
    simp [clrB, hf]
/-- the new facts of a round -/
def newF (v st : Nat → Nat) (m : Nat → Int32) (s : Nat) : Nat → Bool := (goA v st m s (fun _ => false) (fun _ => 0)).1
set_option maxRecDepth 100000 in
theorem newF_neg {v st : Nat → Nat} {m : Nat → Int32} {s : Nat} : ∀ f, newF v st m s f = true → m f < 0 := by
  have h : ∀ (p : (Nat → Bool) × (Nat → Nat)), (∀ f, p.1 f = true → m f < 0) → ∀ r code f, (goC v m r code p).1 f = true → m f < 0 := by
    intro p hp r code f
    simp only [goC]
    split
    · simp only [updN]
      split
      · rename_i e
        intro h1
        rw [e]
        exact of_decide_eq_true h1
      · exact hp f
    · exact hp f
  refine itN_inv (P := fun p : (Nat → Bool) × (Nat → Nat) => ∀ f, p.1 f = true → m f < 0) (N := v 2) (fun r _ p hp => ?_) (v 2) (Nat.le_refl _) ?_
  · simp only [goR]
    split
    · exact itN_inv (P := fun p : (Nat → Bool) × (Nat → Nat) => ∀ f, p.1 f = true → m f < 0) (N := 216) (fun code _ p hp => h p hp r code) 216 (Nat.le_refl _) hp
    · exact hp
  · intro f hf
    simp only [clrB] at hf
    split at hf <;> cases hf
theorem cntB_cg {f g : Nat → Bool} : ∀ {n : Nat}, (∀ k, k < n → f k = g k) → cntB f n = cntB g n
  | 0, _ => rfl
  | n + 1, h => by simp only [cntB]; rw [cntB_cg (fun k hk => h k (by omega)), h n (by omega)]
theorem cntB_0 {f : Nat → Bool} : ∀ {n : Nat}, cntB f n = 0 → ∀ k, k < n → f k = false
  | 0, _, k, hk => absurd hk (Nat.not_lt_zero k)
  | n + 1, h, k, hk => by
    simp only [cntB] at h
    by_cases e : k = n
    · subst e
      cases q : f k
      · rfl
      · rw [q] at h; simp at h
    · exact cntB_0 (n := n) (by omega) k (by omega)
/-- model and number of rounds behind one more round of a stratum -/
def cntS (v st : Nat → Nat) (s : Nat) (X : (Nat → Int32) × Nat) : Nat := cntB (newF v st X.1 s) 216
def stepM (v st : Nat → Nat) (s : Nat) (X : (Nat → Int32) × Nat) : (Nat → Int32) × Nat :=
  (goM (newF v st X.1 s) X.1 (if 0 < cntS v st s X then X.2 + 1 else X.2) 216, if 0 < cntS v st s X then X.2 + 1 else X.2)
theorem stepM_0 {v st : Nat → Nat} {s : Nat} {X : (Nat → Int32) × Nat} (h : cntS v st s X = 0) : stepM v st s X = X := by
  have h1 : ¬ 0 < cntS v st s X := by omega
  simp only [stepM, if_neg h1]
  refine Prod.ext ?_ rfl
  funext f
  simp only [goM]
  split
  · rename_i hf
    rw [cntB_0 h f hf]
    rfl
  · rfl
/-- how many facts are not there -/
def absC (m : Nat → Int32) : Nat → Nat
  | 0 => 0
  | k + 1 => absC m k + (if m k < 0 then 1 else 0)
theorem absC_le (m : Nat → Int32) : ∀ k, absC m k ≤ k
  | 0 => Nat.le_refl _
  | k + 1 => by
    have := absC_le m k
    simp only [absC]
    split <;> omega
theorem absC_go {m : Nat → Int32} {nw : Nat → Bool} {k : Nat} (hk : k < 2147483648) (hn : ∀ f, nw f = true → m f < 0) : ∀ n, n ≤ 216 → absC (goM nw m k 216) n + cntB nw n = absC m n
  | 0, _ => rfl
  | n + 1, h => by
    have ih := absC_go hk hn n (by omega)
    have e1 : nw n = true → ¬ goM nw m k 216 n < 0 := fun q => by
      have : goM nw m k 216 n = nI k := by simp [goM, q, show n < 216 by omega]
      rw [this]
      exact nI_pos hk
    have e2 : nw n = false → goM nw m k 216 n = m n := fun q => by simp [goM, q]
    simp only [absC, cntB]
    by_cases q : nw n = true
    · rw [if_pos q, if_pos (hn n q), if_neg (e1 q)]
      omega
    · have q' : nw n = false := by simpa using q
      rw [if_neg q]
      by_cases h1 : m n < 0
      · rw [if_pos h1, if_pos (show goM nw m k 216 n < 0 by rw [e2 q']; exact h1)]
        omega
      · rw [if_neg h1, if_neg (show ¬ goM nw m k 216 n < 0 by rw [e2 q']; exact h1)]
        omega
theorem absC_step {v st : Nat → Nat} {s : Nat} {X : (Nat → Int32) × Nat} (hk : X.2 < 1000000) : absC (stepM v st s X).1 216 + cntS v st s X = absC X.1 216 := by
  refine absC_go ?_ newF_neg 216 (Nat.le_refl _)
  split <;> omega
def runS (v st : Nat → Nat) (s : Nat) (X : (Nat → Int32) × Nat) : (Nat → Int32) × Nat := itN (fun _ => stepM v st s) X 217
theorem itN_fix {α : Type} {f : α → α} {a : α} (h : f a = a) : ∀ n, itN (fun _ => f) a n = a
  | 0 => rfl
  | n + 1 => by simp only [itN]; rw [itN_fix h n, h]
theorem itN_add {α : Type} (f : α → α) (a : α) (m : Nat) : ∀ n, itN (fun _ => f) a (m + n) = itN (fun _ => f) (itN (fun _ => f) a m) n
  | 0 => rfl
  | n + 1 => by
    show f (itN (fun _ => f) a (m + n)) = f _
    rw [itN_add f a m n]
theorem itN_stay {α : Type} {f : α → α} {a : α} {i N : Nat} (hi : i ≤ N) (h : f (itN (fun _ => f) a i) = itN (fun _ => f) a i) : itN (fun _ => f) a N = itN (fun _ => f) a i := by
  obtain ⟨k, rfl⟩ := Nat.exists_eq_add_of_le hi
  rw [itN_add, itN_fix h]
theorem runS_done {v st : Nat → Nat} {s i : Nat} {X : (Nat → Int32) × Nat} (hi : i ≤ 217) (h : cntS v st s (itN (fun _ => stepM v st s) X i) = 0) : runS v st s X = itN (fun _ => stepM v st s) X i := itN_stay hi (stepM_0 h)
theorem itN_first {α : Type} (f : α → α) (a : α) : ∀ n, itN (fun _ => f) (f a) n = itN (fun _ => f) a (n + 1)
  | 0 => rfl
  | n + 1 => by
    show f (itN (fun _ => f) (f a) n) = f (itN (fun _ => f) a (n + 1))
    rw [itN_first f a n]
def InvX (X : (Nat → Int32) × Nat) : Prop := X.2 + absC X.1 216 ≤ 216
theorem InvX_step {v st : Nat → Nat} {s : Nat} {X : (Nat → Int32) × Nat} (h : InvX X) : InvX (stepM v st s X) := by
  have h1 := absC_step (v := v) (st := st) (s := s) (X := X) (by unfold InvX at h; omega)
  unfold InvX at h ⊢
  have h2 : (stepM v st s X).2 = if 0 < cntS v st s X then X.2 + 1 else X.2 := rfl
  rw [h2]
  split <;> omega
theorem cnt_zero {v st : Nat → Nat} {s : Nat} (a : Nat) : ∀ (X : (Nat → Int32) × Nat), absC X.1 216 ≤ a → InvX X → ∃ i, i ≤ a ∧ cntS v st s (itN (fun _ => stepM v st s) X i) = 0 := by
  induction a with
  | zero =>
    intro X ha hX
    have h1 := absC_step (v := v) (st := st) (s := s) (X := X) (by unfold InvX at hX; omega)
    exact ⟨0, Nat.le_refl _, by show cntS v st s X = 0; omega⟩
  | succ a ih =>
    intro X ha hX
    by_cases hz : cntS v st s X = 0
    · exact ⟨0, Nat.zero_le _, hz⟩
    · have h1 := absC_step (v := v) (st := st) (s := s) (X := X) (by unfold InvX at hX; omega)
      obtain ⟨i, hi, h2⟩ := ih (stepM v st s X) (by omega) (InvX_step hX)
      exact ⟨i + 1, by omega, by rw [← itN_first]; exact h2⟩
theorem mlk_app (l l2 : MLs) (j : Nat) : mlk (l ++ l2) j = match mlk l j with | some c => some c | none => mlk l2 j := by
  induction l with
  | nil => simp [mlk]
  | cons q t ih =>
    by_cases h : q.1 = j
    · have e : Nat.beq q.1 j = true := by simp [h]
      simp [mlk, e]
    · simp [mlk, nbf h, ih]
theorem mov_app {l l2 : MLs} {h : Nat → MC} (hs : ∀ q ∈ l2, h q.1 = q.2) : mov (l ++ l2) h = mov l h := by
  funext j
  simp only [mov, mlk_app]
  cases e : mlk l j with
  | some c => rfl
  | none =>
    cases e2 : mlk l2 j with
    | none => rfl
    | some c => exact (hs _ (mlk_mem e2)).symm
theorem runS_step {v st : Nat → Nat} {s : Nat} {X : (Nat → Int32) × Nat} (hX : InvX X) : runS v st s (stepM v st s X) = runS v st s X := by
  obtain ⟨i, hi, h⟩ := cnt_zero (v := v) (st := st) (s := s) 216 X (by unfold InvX at hX; omega) hX
  have e1 : runS v st s X = itN (fun _ => stepM v st s) X i := runS_done (by omega) h
  have e2 : runS v st s (stepM v st s X) = itN (fun _ => stepM v st s) X (217 + 1) := itN_first _ _ _
  rw [e1, e2]
  exact itN_stay (by omega) (stepM_0 h)
theorem InvX_run {v st : Nat → Nat} {s : Nat} {X : (Nat → Int32) × Nat} (hX : InvX X) : InvX (runS v st s X) := by
  unfold runS
  generalize 217 = k
  induction k with
  | zero => exact hX
  | succ k ih => exact InvX_step ih
def delB (x : Int32) (k : Nat) : Bool := decide ((x >>> (nI k &&& 31)) &&& nI 1 = 0)
def baseM (v : Nat → Nat) (x : Int32) : Nat → Int32 := itN (fun k m => if delB x k then upd m (v (9 + 3 * k)) (nI 0) else m) (fun _ => -1) (v 1)
def mdlV (v st : Nat → Nat) (x : Int32) : (Nat → Int32) × Nat := itN (runS v st) (baseM v x, 0) 6
theorem goM_cg {nw nw' : Nat → Bool} (e : ∀ f, f < 216 → nw f = nw' f) (m : Nat → Int32) (k : Nat) : goM nw m k 216 = goM nw' m k 216 := by
  funext f
  simp only [goM]
  split
  · rename_i hf
    rw [e f hf]
  · rfl
theorem c_goesXA (d n : Nat) (s rm : Nat) (w : Nat → Int32) (v st b : Nat → Nat) (nb : Nat → Bool) (m : Nat → Int32) (h : Nat → MC) (hO : h 178 = RO w) (hv : h 179 = .inl (.int, 189, .inl (vI v))) (hb : h 185 = .inl (.int, 3, .inl (vI b))) (hm : h 186 = .inl (.int, 216, .inl m)) (hst : h 184 = .inl (.int, 6, .inl (vI st))) (hn : h 188 = .inl (.boolean, 216, .inl (bIf nb))) (hok : OkN v) (hst6 : ∀ p, p < 6 → st p < 6) (hs : s < 6) (hrm : w 5 = nI rm) (hrm2 : rm < 1000000) :
    Fn M_X10_goes (d + 3) 0 0 [.ref 178, .int (nI s), .ref 186] h n (some (.int (nI (cntS v st s (m, rm))))) (mov [(185, .inl (.int, 3, .inl (vI (goA v st m s nb b).2))), (186, .inl (.int, 216, .inl (stepM v st s (m, rm)).1)), (188, .inl (.boolean, 216, .inl (bIf (goA v st m s nb b).1))), (178, RO (updN w 5 (nI (stepM v st s (m, rm)).2)))] h) := by
  have h1 := c_goesA d n s rm w v st b nb m h hO hv hb hm hst hn hok hst6 hs hrm hrm2
  have e1 : cntB (goA v st m s nb b).1 216 = cntS v st s (m, rm) := cntB_cg (goA_e hok s nb b)
  rw [e1, goM_cg (goA_e hok s nb b)] at h1
  exact h1
theorem c_buildsA (d n : Nat) (x : Int32) (w : Nat → Int32) (v st b : Nat → Nat) (nb : Nat → Bool) (m : Nat → Int32) (h : Nat → MC) (hO : h 178 = RO w) (hv : h 179 = .inl (.int, 189, .inl (vI v))) (hb : h 185 = .inl (.int, 3, .inl (vI b))) (hm : h 186 = .inl (.int, 216, .inl m)) (hst : h 184 = .inl (.int, 6, .inl (vI st))) (hn : h 188 = .inl (.boolean, 216, .inl (bIf nb))) (hok : OkN v) (hst6 : ∀ p, p < 6 → st p < 6) :
    Sp M_X10_builds (d + 4) 0 0 [.ref 178, .int x, .ref 186] h n (fun r h1 => r = none ∧ ∃ (nb' : Nat → Bool) (b' : Nat → Nat), h1 = mov [(186, .inl (.int, 216, .inl (mdlV v st x).1)), (178, RO (updN w 5 (nI (mdlV v st x).2))), (185, .inl (.int, 3, .inl (vI b'))), (188, .inl (.boolean, 216, .inl (bIf nb')))] h) := by
  show MW _ _ _ _ _ _ _ _ _ _ _ _
  generalize hpost : (fun (r : Option Value) (h1 : Nat → MC) => r = none ∧ ∃ (nb' : Nat → Bool) (b' : Nat → Nat), h1 = mov [(186, .inl (.int, 216, .inl (mdlV v st x).1)), (178, RO (updN w 5 (nI (mdlV v st x).2))), (185, .inl (.int, 3, .inl (vI b'))), (188, .inl (.boolean, 216, .inl (bIf nb')))] h) = post
  have hp : ∀ (nb' : Nat → Bool) (b' : Nat → Nat), post none (mov [(186, .inl (.int, 216, .inl (mdlV v st x).1)), (178, RO (updN w 5 (nI (mdlV v st x).2))), (185, .inl (.int, 3, .inl (vI b'))), (188, .inl (.boolean, 216, .inl (bIf nb')))] h) := by
    intro nb' b'
    rw [← hpost]
    exact ⟨rfl, nb', b', rfl⟩
  clear hpost
  have hf12 := hok.2.2.1
  -- one stratum's loop
  have loopW : ∀ s, s < 6 → ∀ a (X : (Nat → Int32) × Nat) (nb : Nat → Bool) (b : Nat → Nat), absC X.1 216 ≤ a → InvX X → (∀ (nb : Nat → Bool) (b : Nat → Nat), MW M_X10_builds (d + 4) 0 0 n post 66 [(0, .ref 178), (1, .int x), (2, .ref 186), (3, .int (nI (s + 1)))] [] (mov [(186, .inl (.int, 216, .inl (runS v st s X).1)), (178, RO (updN w 5 (nI (runS v st s X).2))), (185, .inl (.int, 3, .inl (vI b))), (188, .inl (.boolean, 216, .inl (bIf nb)))] h) n 0) → MW M_X10_builds (d + 4) 0 0 n post 80 [(0, .ref 178), (1, .int x), (2, .ref 186), (3, .int (nI s)), (4, .int (nI (cntS v st s X)))] [] (mov [(186, .inl (.int, 216, .inl (stepM v st s X).1)), (178, RO (updN w 5 (nI (stepM v st s X).2))), (185, .inl (.int, 3, .inl (vI b))), (188, .inl (.boolean, 216, .inl (bIf nb)))] h) n 0 := by
    intro s hs a
    induction a with
    | zero =>
      intro X nb b ha hX k
      have h1 := absC_step (v := v) (st := st) (s := s) (X := X) (by unfold InvX at hX; omega)
      have h0 : cntS v st s X = 0 := by omega
      rw [stepM_0 h0]
      have hr : runS v st s X = X := runS_done (i := 0) (by omega) h0
      rw [hr] at k
      refine mw_iload rfl rfl ?_
      refine mw_z_le rfl (by omega) (fun hz => ?_) (fun hz => ?_)
      · first | refine mw_ninc rfl rfl (Nat.le_of_ble_eq_true rfl) ?_ | refine mw_iinc rfl rfl rfl (Nat.le_of_ble_eq_true rfl) ?_
        refine mw_goto rfl ?_
        exact mw_locals rfl (k nb b)
      · omega
    | succ a ih =>
      intro X nb b ha hX k
      have h1 := absC_step (v := v) (st := st) (s := s) (X := X) (by unfold InvX at hX; omega)
      have h2 := InvX_step (v := v) (st := st) (s := s) hX
      have h216 : cntS v st s X ≤ 216 := cntB_le _ _
      refine mw_iload rfl rfl ?_
      refine mw_z_le rfl (by omega) (fun hz => ?_) (fun hz => ?_)
      · rw [stepM_0 hz]
        have hr : runS v st s X = X := runS_done (i := 0) (by omega) hz
        rw [hr] at k
        first | refine mw_ninc rfl rfl (Nat.le_of_ble_eq_true rfl) ?_ | refine mw_iinc rfl rfl rfl (Nat.le_of_ble_eq_true rfl) ?_
        refine mw_goto rfl ?_
        exact mw_locals rfl (k nb b)
      · generalize hY : stepM v st s X = Y at h1 h2 ⊢
        have hYr : runS v st s Y = runS v st s X := by rw [← hY]; exact runS_step hX
        have hYb : Y.2 < 1000000 := by unfold InvX at h2; omega
        refine mw_aload_n (i := 0) rfl rfl rfl ?_
        refine mw_iload_n (i := 3) rfl rfl rfl ?_
        refine mw_aload_n (i := 2) rfl rfl rfl ?_
        refine mw_callV_f (c_goesXA d n s Y.2 (updN w 5 (nI Y.2)) v st b nb Y.1 _ rfl hv rfl rfl hst rfl hok hst6 hs rfl hYb) rfl ok_X10_goes v_X10_153 rfl (by first | rfl | exact hO | exact hv | exact hb | exact hm | exact hst | exact hn) (by intro e; cases e) rfl (Nat.le_of_ble_eq_true rfl) rfl (Nat.le_of_ble_eq_true rfl) (by omega) (by omega) (by omega) ?_
        rw [← mov_puts]
        refine mw_istore rfl (Nat.le_of_ble_eq_true rfl) ?_
        refine mw_goto rfl ?_
        refine mw_locals (L2 := [(0, .ref 178), (1, .int x), (2, .ref 186), (3, .int (nI s)), (4, .int (nI (cntS v st s Y)))]) rfl ?_
        exact ih Y _ _ (by omega) h2 (by rw [hYr]; exact k)
  -- the strata
  have loopS : ∀ s, s ≤ 6 → ∀ (nb : Nat → Bool) (b : Nat → Nat), InvX (itN (runS v st) (baseM v x, 0) s) → MW M_X10_builds (d + 4) 0 0 n post 66 [(0, .ref 178), (1, .int x), (2, .ref 186), (3, .int (nI s))] [] (mov [(186, .inl (.int, 216, .inl (itN (runS v st) (baseM v x, 0) s).1)), (178, RO (updN w 5 (nI (itN (runS v st) (baseM v x, 0) s).2))), (185, .inl (.int, 3, .inl (vI b))), (188, .inl (.boolean, 216, .inl (bIf nb)))] h) n 0 := by
    refine loop_up 6 ?_ ?_
    · intro nb b _
      refine mw_iload_n (i := 3) rfl rfl rfl ?_
      refine mw_bipush (v := nI 6) rfl (by decide) ?_
      refine mw_n_ge rfl (by omega) (by omega) (fun hc => ?_) (fun hc => ?_)
      · exact mw_return rfl rfl rfl (Nat.le_refl _) (hp nb b)
      · omega
    · intro s hs ih nb b hX
      generalize hXe : itN (runS v st) (baseM v x, 0) s = X at hX ⊢
      have hXn : itN (runS v st) (baseM v x, 0) (s + 1) = runS v st s X := by rw [← hXe]; rfl
      rw [hXn] at ih
      have hXb : X.2 < 1000000 := by unfold InvX at hX; omega
      refine mw_iload_n (i := 3) rfl rfl rfl ?_
      refine mw_bipush (v := nI 6) rfl (by decide) ?_
      refine mw_n_ge rfl (by omega) (by omega) (fun hc => ?_) (fun hc => ?_)
      · omega
      · refine mw_aload_n (i := 0) rfl rfl rfl ?_
        refine mw_iload_n (i := 3) rfl rfl rfl ?_
        refine mw_aload_n (i := 2) rfl rfl rfl ?_
        refine mw_callV_f (c_goesXA d n s X.2 (updN w 5 (nI X.2)) v st b nb X.1 _ rfl hv rfl rfl hst rfl hok hst6 hs rfl hXb) rfl ok_X10_goes v_X10_153 rfl (by first | rfl | exact hO | exact hv | exact hb | exact hm | exact hst | exact hn) (by intro e; cases e) rfl (Nat.le_of_ble_eq_true rfl) rfl (Nat.le_of_ble_eq_true rfl) (by omega) (by omega) (by omega) ?_
        rw [← mov_puts]
        refine mw_istore rfl (Nat.le_of_ble_eq_true rfl) ?_
        refine mw_locals (L2 := [(0, .ref 178), (1, .int x), (2, .ref 186), (3, .int (nI s)), (4, .int (nI (cntS v st s X)))]) rfl ?_
        exact loopW s hs 216 X _ _ (absC_le _ _) hX (fun nb b => ih nb b (InvX_run hX))
  -- the base facts
  have loopF : ∀ k, k ≤ v 1 → MW M_X10_builds (d + 4) 0 0 n post 26 [(0, .ref 178), (1, .int x), (2, .ref 186), (3, .int (nI k))] [] (mov [(186, .inl (.int, 216, .inl (itN (fun k m => if delB x k then upd m (v (9 + 3 * k)) (nI 0) else m) (fun _ => -1) k))), (178, RO (updN w 5 (nI 0)))] h) n 0 := by
    refine loop_up (v 1) ?_ ?_
    · refine mw_iload_n (i := 3) rfl rfl rfl ?_
      refine mw_aload_n (i := 0) rfl rfl rfl ?_
      refine mw_getfield rfl f_X10_7 (by first | rfl | exact hO | exact hv | exact hb | exact hm | exact hst | exact hn) rfl ?_
      refine mw_iconst (v := nI 1) rfl (by decide) ?_
      refine mw_iald rfl (by first | rfl | exact hO | exact hv | exact hb | exact hm | exact hst | exact hn) (by omega) (by omega) ?_
      refine mw_n_ge rfl (by omega) (by omega) (fun hc => ?_) (fun hc => ?_)
      · refine mw_heap (h2 := mov [(186, .inl (.int, 216, .inl (baseM v x))), (178, RO (updN w 5 (nI 0))), (185, .inl (.int, 3, .inl (vI b))), (188, .inl (.boolean, 216, .inl (bIf nb)))] h) ?_ ?_
        · exact mov_app (l := [(186, .inl (.int, 216, .inl (baseM v x))), (178, RO (updN w 5 (nI 0)))]) (l2 := [(185, .inl (.int, 3, .inl (vI b))), (188, .inl (.boolean, 216, .inl (bIf nb)))]) (by simp [hb, hn])
        · refine mw_iconst (v := nI 0) rfl (by decide) ?_
          refine mw_istore_n (i := 3) rfl rfl (Nat.le_of_ble_eq_true rfl) ?_
          refine mw_locals rfl (loopS 0 (by omega) nb b ?_)
          show 0 + absC (baseM v x) 216 ≤ 216
          have := absC_le (baseM v x) 216
          omega
      · omega
    · intro k hk ih
      have hf := (hok.2.2.2.2.2.1 k hk).1
      generalize hP : itN (fun k m => if delB x k then upd m (v (9 + 3 * k)) (nI 0) else m) (fun _ => -1) k = P at ih ⊢
      have eP : itN (fun k m => if delB x k then upd m (v (9 + 3 * k)) (nI 0) else m) (fun _ => -1) (k + 1) = if delB x k then upd P (v (9 + 3 * k)) (nI 0) else P := by rw [← hP]; rfl
      rw [eP] at ih
      refine mw_iload_n (i := 3) rfl rfl rfl ?_
      refine mw_aload_n (i := 0) rfl rfl rfl ?_
      refine mw_getfield rfl f_X10_7 (by first | rfl | exact hO | exact hv | exact hb | exact hm | exact hst | exact hn) rfl ?_
      refine mw_iconst (v := nI 1) rfl (by decide) ?_
      refine mw_iald rfl (by first | rfl | exact hO | exact hv | exact hb | exact hm | exact hst | exact hn) (by omega) (by omega) ?_
      refine mw_n_ge rfl (by omega) (by omega) (fun hc => ?_) (fun hc => ?_)
      · omega
      · refine mw_iload_n (i := 1) rfl rfl rfl ?_
        refine mw_iload_n (i := 3) rfl rfl rfl ?_
        refine mw_ishr rfl ?_
        refine mw_iconst (v := nI 1) rfl (by decide) ?_
        refine mw_iand rfl ?_
        refine mw_if_ne rfl (fun hd => ?_) (fun hd => ?_)
        · rw [show delB x k = false by simp only [delB]; exact decide_eq_false hd] at ih
          first | refine mw_ninc rfl rfl (Nat.le_of_ble_eq_true rfl) ?_ | refine mw_iinc rfl rfl rfl (Nat.le_of_ble_eq_true rfl) ?_
          refine mw_goto rfl ?_
          exact mw_locals rfl ih
        · rw [show delB x k = true by simp only [delB]; exact decide_eq_true hd] at ih
          refine mw_aload_n (i := 2) rfl rfl rfl ?_
          refine mw_aload_n (i := 0) rfl rfl rfl ?_
          refine mw_getfield rfl f_X10_7 (by first | rfl | exact hO | exact hv | exact hb | exact hm | exact hst | exact hn) rfl ?_
          refine mw_bipush (v := nI 9) rfl (by decide) ?_
          refine mw_iconst (v := nI 3) rfl (by decide) ?_
          refine mw_iload_n (i := 3) rfl rfl rfl ?_
          first | refine mw_nmul rfl ?_ | refine mw_imul rfl ?_
          first | refine mw_nadd rfl ?_ | refine mw_iadd rfl ?_
          refine mw_iald rfl (by first | rfl | exact hO | exact hv | exact hb | exact hm | exact hst | exact hn) (by omega) (by omega) ?_
          refine mw_iconst (v := nI 0) rfl (by decide) ?_
          refine mw_iast_m rfl (by first | rfl | exact hO | exact hv | exact hb | exact hm | exact hst | exact hn) (by omega) (by omega) ?_
          first | rw [vI_upd] | rw [vI_updv] | skip
          first | refine mw_ninc rfl rfl (Nat.le_of_ble_eq_true rfl) ?_ | refine mw_iinc rfl rfl rfl (Nat.le_of_ble_eq_true rfl) ?_
          refine mw_goto rfl ?_
          exact mw_locals rfl ih
  -- all absent
  have loopA : ∀ k, k ≤ 216 → MW M_X10_builds (d + 4) 0 0 n post 7 [(0, .ref 178), (1, .int x), (2, .ref 186), (3, .int (nI k))] [] (mov [(186, .inl (.int, 216, .inl (fun j => if j < k ∨ 216 ≤ j then -1 else m j))), (178, RO (updN w 5 (nI 0)))] h) n 0 := by
    refine loop_up 216 ?_ ?_
    · refine mw_iload_n (i := 3) rfl rfl rfl ?_
      refine mw_sipush (v := nI 216) rfl (by decide) ?_
      refine mw_n_ge rfl (by omega) (by omega) (fun hc => ?_) (fun hc => ?_)
      · rw [show (fun j => if j < 216 ∨ 216 ≤ j then -1 else m j) = (fun _ => (-1 : Int32)) by funext j; rw [if_pos (by omega)]]
        refine mw_iconst (v := nI 0) rfl (by decide) ?_
        refine mw_istore_n (i := 3) rfl rfl (Nat.le_of_ble_eq_true rfl) ?_
        exact mw_locals rfl (loopF 0 (by omega))
      · omega
    · intro k hk ih
      have e : upd (fun j => if j < k ∨ 216 ≤ j then -1 else m j) k (-1) = (fun j => if j < k + 1 ∨ 216 ≤ j then (-1 : Int32) else m j) := by
        funext j
        simp only [upd]
        by_cases q : j = k
        · rw [if_pos q, if_pos (by omega)]
        · rw [if_neg q]
          have q3 : (j < k + 1 ∨ 216 ≤ j) ↔ (j < k ∨ 216 ≤ j) := by omega
          simp only [q3]
      refine mw_iload_n (i := 3) rfl rfl rfl ?_
      refine mw_sipush (v := nI 216) rfl (by decide) ?_
      refine mw_n_ge rfl (by omega) (by omega) (fun hc => ?_) (fun hc => ?_)
      · omega
      · refine mw_aload_n (i := 2) rfl rfl rfl ?_
        refine mw_iload_n (i := 3) rfl rfl rfl ?_
        refine mw_iconst (v := (-1)) rfl (by decide) ?_
        refine mw_iast_m rfl (by first | rfl | exact hO | exact hv | exact hb | exact hm | exact hst | exact hn) (by omega) (by omega) ?_
        first | rw [vI_upd] | rw [vI_updv] | skip
        rw [e]
        first | refine mw_ninc rfl rfl (Nat.le_of_ble_eq_true rfl) ?_ | refine mw_iinc rfl rfl rfl (Nat.le_of_ble_eq_true rfl) ?_
        refine mw_goto rfl ?_
        exact mw_locals rfl ih
  refine mw_tail (K := 186) (fun j => if j < 0 ∨ 216 ≤ j then -1 else m j) hm (fun j hj => by rw [if_neg (by omega)]) ?_
  rw [hset_1]
  refine mw_aload_n (i := 0) rfl rfl rfl ?_
  refine mw_iconst (v := nI 0) rfl (by decide) ?_
  refine mw_putfield_m rfl f_X10_150 (by first | rfl | exact hO | exact hv | exact hb | exact hm | exact hst | exact hn) (Nat.le_of_ble_eq_true rfl) (fun _ => rfl) (fun _ => rfl) ?_
  refine mw_iconst (v := nI 0) rfl (by decide) ?_
  refine mw_istore_n (i := 3) rfl rfl (Nat.le_of_ble_eq_true rfl) ?_
  exact mw_locals rfl (loopA 0 (by omega))
theorem c_goesXB (d n : Nat) (s rm : Nat) (w : Nat → Int32) (v st b : Nat → Nat) (nb : Nat → Bool) (m : Nat → Int32) (h : Nat → MC) (hO : h 178 = RO w) (hv : h 179 = .inl (.int, 189, .inl (vI v))) (hb : h 185 = .inl (.int, 3, .inl (vI b))) (hm : h 187 = .inl (.int, 216, .inl m)) (hst : h 184 = .inl (.int, 6, .inl (vI st))) (hn : h 188 = .inl (.boolean, 216, .inl (bIf nb))) (hok : OkN v) (hst6 : ∀ p, p < 6 → st p < 6) (hs : s < 6) (hrm : w 5 = nI rm) (hrm2 : rm < 1000000) :
    Fn M_X10_goes (d + 3) 0 0 [.ref 178, .int (nI s), .ref 187] h n (some (.int (nI (cntS v st s (m, rm))))) (mov [(185, .inl (.int, 3, .inl (vI (goA v st m s nb b).2))), (187, .inl (.int, 216, .inl (stepM v st s (m, rm)).1)), (188, .inl (.boolean, 216, .inl (bIf (goA v st m s nb b).1))), (178, RO (updN w 5 (nI (stepM v st s (m, rm)).2)))] h) := by
  have h1 := c_goesB d n s rm w v st b nb m h hO hv hb hm hst hn hok hst6 hs hrm hrm2
  have e1 : cntB (goA v st m s nb b).1 216 = cntS v st s (m, rm) := cntB_cg (goA_e hok s nb b)
  rw [e1, goM_cg (goA_e hok s nb b)] at h1
  exact h1
theorem c_buildsB (d n : Nat) (x : Int32) (w : Nat → Int32) (v st b : Nat → Nat) (nb : Nat → Bool) (m : Nat → Int32) (h : Nat → MC) (hO : h 178 = RO w) (hv : h 179 = .inl (.int, 189, .inl (vI v))) (hb : h 185 = .inl (.int, 3, .inl (vI b))) (hm : h 187 = .inl (.int, 216, .inl m)) (hst : h 184 = .inl (.int, 6, .inl (vI st))) (hn : h 188 = .inl (.boolean, 216, .inl (bIf nb))) (hok : OkN v) (hst6 : ∀ p, p < 6 → st p < 6) :
    Sp M_X10_builds (d + 4) 0 0 [.ref 178, .int x, .ref 187] h n (fun r h1 => r = none ∧ ∃ (nb' : Nat → Bool) (b' : Nat → Nat), h1 = mov [(187, .inl (.int, 216, .inl (mdlV v st x).1)), (178, RO (updN w 5 (nI (mdlV v st x).2))), (185, .inl (.int, 3, .inl (vI b'))), (188, .inl (.boolean, 216, .inl (bIf nb')))] h) := by
  show MW _ _ _ _ _ _ _ _ _ _ _ _
  generalize hpost : (fun (r : Option Value) (h1 : Nat → MC) => r = none ∧ ∃ (nb' : Nat → Bool) (b' : Nat → Nat), h1 = mov [(187, .inl (.int, 216, .inl (mdlV v st x).1)), (178, RO (updN w 5 (nI (mdlV v st x).2))), (185, .inl (.int, 3, .inl (vI b'))), (188, .inl (.boolean, 216, .inl (bIf nb')))] h) = post
  have hp : ∀ (nb' : Nat → Bool) (b' : Nat → Nat), post none (mov [(187, .inl (.int, 216, .inl (mdlV v st x).1)), (178, RO (updN w 5 (nI (mdlV v st x).2))), (185, .inl (.int, 3, .inl (vI b'))), (188, .inl (.boolean, 216, .inl (bIf nb')))] h) := by
    intro nb' b'
    rw [← hpost]
    exact ⟨rfl, nb', b', rfl⟩
  clear hpost
  have hf12 := hok.2.2.1
  -- one stratum's loop
  have loopW : ∀ s, s < 6 → ∀ a (X : (Nat → Int32) × Nat) (nb : Nat → Bool) (b : Nat → Nat), absC X.1 216 ≤ a → InvX X → (∀ (nb : Nat → Bool) (b : Nat → Nat), MW M_X10_builds (d + 4) 0 0 n post 66 [(0, .ref 178), (1, .int x), (2, .ref 187), (3, .int (nI (s + 1)))] [] (mov [(187, .inl (.int, 216, .inl (runS v st s X).1)), (178, RO (updN w 5 (nI (runS v st s X).2))), (185, .inl (.int, 3, .inl (vI b))), (188, .inl (.boolean, 216, .inl (bIf nb)))] h) n 0) → MW M_X10_builds (d + 4) 0 0 n post 80 [(0, .ref 178), (1, .int x), (2, .ref 187), (3, .int (nI s)), (4, .int (nI (cntS v st s X)))] [] (mov [(187, .inl (.int, 216, .inl (stepM v st s X).1)), (178, RO (updN w 5 (nI (stepM v st s X).2))), (185, .inl (.int, 3, .inl (vI b))), (188, .inl (.boolean, 216, .inl (bIf nb)))] h) n 0 := by
    intro s hs a
    induction a with
    | zero =>
      intro X nb b ha hX k
      have h1 := absC_step (v := v) (st := st) (s := s) (X := X) (by unfold InvX at hX; omega)
      have h0 : cntS v st s X = 0 := by omega
      rw [stepM_0 h0]
      have hr : runS v st s X = X := runS_done (i := 0) (by omega) h0
      rw [hr] at k
      refine mw_iload rfl rfl ?_
      refine mw_z_le rfl (by omega) (fun hz => ?_) (fun hz => ?_)
      · first | refine mw_ninc rfl rfl (Nat.le_of_ble_eq_true rfl) ?_ | refine mw_iinc rfl rfl rfl (Nat.le_of_ble_eq_true rfl) ?_
        refine mw_goto rfl ?_
        exact mw_locals rfl (k nb b)
      · omega
    | succ a ih =>
      intro X nb b ha hX k
      have h1 := absC_step (v := v) (st := st) (s := s) (X := X) (by unfold InvX at hX; omega)
      have h2 := InvX_step (v := v) (st := st) (s := s) hX
      have h216 : cntS v st s X ≤ 216 := cntB_le _ _
      refine mw_iload rfl rfl ?_
      refine mw_z_le rfl (by omega) (fun hz => ?_) (fun hz => ?_)
      · rw [stepM_0 hz]
        have hr : runS v st s X = X := runS_done (i := 0) (by omega) hz
        rw [hr] at k
        first | refine mw_ninc rfl rfl (Nat.le_of_ble_eq_true rfl) ?_ | refine mw_iinc rfl rfl rfl (Nat.le_of_ble_eq_true rfl) ?_
        refine mw_goto rfl ?_
        exact mw_locals rfl (k nb b)
      · generalize hY : stepM v st s X = Y at h1 h2 ⊢
        have hYr : runS v st s Y = runS v st s X := by rw [← hY]; exact runS_step hX
        have hYb : Y.2 < 1000000 := by unfold InvX at h2; omega
        refine mw_aload_n (i := 0) rfl rfl rfl ?_
        refine mw_iload_n (i := 3) rfl rfl rfl ?_
        refine mw_aload_n (i := 2) rfl rfl rfl ?_
        refine mw_callV_f (c_goesXB d n s Y.2 (updN w 5 (nI Y.2)) v st b nb Y.1 _ rfl hv rfl rfl hst rfl hok hst6 hs rfl hYb) rfl ok_X10_goes v_X10_153 rfl (by first | rfl | exact hO | exact hv | exact hb | exact hm | exact hst | exact hn) (by intro e; cases e) rfl (Nat.le_of_ble_eq_true rfl) rfl (Nat.le_of_ble_eq_true rfl) (by omega) (by omega) (by omega) ?_
        rw [← mov_puts]
        refine mw_istore rfl (Nat.le_of_ble_eq_true rfl) ?_
        refine mw_goto rfl ?_
        refine mw_locals (L2 := [(0, .ref 178), (1, .int x), (2, .ref 187), (3, .int (nI s)), (4, .int (nI (cntS v st s Y)))]) rfl ?_
        exact ih Y _ _ (by omega) h2 (by rw [hYr]; exact k)
  -- the strata
  have loopS : ∀ s, s ≤ 6 → ∀ (nb : Nat → Bool) (b : Nat → Nat), InvX (itN (runS v st) (baseM v x, 0) s) → MW M_X10_builds (d + 4) 0 0 n post 66 [(0, .ref 178), (1, .int x), (2, .ref 187), (3, .int (nI s))] [] (mov [(187, .inl (.int, 216, .inl (itN (runS v st) (baseM v x, 0) s).1)), (178, RO (updN w 5 (nI (itN (runS v st) (baseM v x, 0) s).2))), (185, .inl (.int, 3, .inl (vI b))), (188, .inl (.boolean, 216, .inl (bIf nb)))] h) n 0 := by
    refine loop_up 6 ?_ ?_
    · intro nb b _
      refine mw_iload_n (i := 3) rfl rfl rfl ?_
      refine mw_bipush (v := nI 6) rfl (by decide) ?_
      refine mw_n_ge rfl (by omega) (by omega) (fun hc => ?_) (fun hc => ?_)
      · exact mw_return rfl rfl rfl (Nat.le_refl _) (hp nb b)
      · omega
    · intro s hs ih nb b hX
      generalize hXe : itN (runS v st) (baseM v x, 0) s = X at hX ⊢
      have hXn : itN (runS v st) (baseM v x, 0) (s + 1) = runS v st s X := by rw [← hXe]; rfl
      rw [hXn] at ih
      have hXb : X.2 < 1000000 := by unfold InvX at hX; omega
      refine mw_iload_n (i := 3) rfl rfl rfl ?_
      refine mw_bipush (v := nI 6) rfl (by decide) ?_
      refine mw_n_ge rfl (by omega) (by omega) (fun hc => ?_) (fun hc => ?_)
      · omega
      · refine mw_aload_n (i := 0) rfl rfl rfl ?_
        refine mw_iload_n (i := 3) rfl rfl rfl ?_
        refine mw_aload_n (i := 2) rfl rfl rfl ?_
        refine mw_callV_f (c_goesXB d n s X.2 (updN w 5 (nI X.2)) v st b nb X.1 _ rfl hv rfl rfl hst rfl hok hst6 hs rfl hXb) rfl ok_X10_goes v_X10_153 rfl (by first | rfl | exact hO | exact hv | exact hb | exact hm | exact hst | exact hn) (by intro e; cases e) rfl (Nat.le_of_ble_eq_true rfl) rfl (Nat.le_of_ble_eq_true rfl) (by omega) (by omega) (by omega) ?_
        rw [← mov_puts]
        refine mw_istore rfl (Nat.le_of_ble_eq_true rfl) ?_
        refine mw_locals (L2 := [(0, .ref 178), (1, .int x), (2, .ref 187), (3, .int (nI s)), (4, .int (nI (cntS v st s X)))]) rfl ?_
        exact loopW s hs 216 X _ _ (absC_le _ _) hX (fun nb b => ih nb b (InvX_run hX))
  -- the base facts
  have loopF : ∀ k, k ≤ v 1 → MW M_X10_builds (d + 4) 0 0 n post 26 [(0, .ref 178), (1, .int x), (2, .ref 187), (3, .int (nI k))] [] (mov [(187, .inl (.int, 216, .inl (itN (fun k m => if delB x k then upd m (v (9 + 3 * k)) (nI 0) else m) (fun _ => -1) k))), (178, RO (updN w 5 (nI 0)))] h) n 0 := by
    refine loop_up (v 1) ?_ ?_
    · refine mw_iload_n (i := 3) rfl rfl rfl ?_
      refine mw_aload_n (i := 0) rfl rfl rfl ?_
      refine mw_getfield rfl f_X10_7 (by first | rfl | exact hO | exact hv | exact hb | exact hm | exact hst | exact hn) rfl ?_
      refine mw_iconst (v := nI 1) rfl (by decide) ?_
      refine mw_iald rfl (by first | rfl | exact hO | exact hv | exact hb | exact hm | exact hst | exact hn) (by omega) (by omega) ?_
      refine mw_n_ge rfl (by omega) (by omega) (fun hc => ?_) (fun hc => ?_)
      · refine mw_heap (h2 := mov [(187, .inl (.int, 216, .inl (baseM v x))), (178, RO (updN w 5 (nI 0))), (185, .inl (.int, 3, .inl (vI b))), (188, .inl (.boolean, 216, .inl (bIf nb)))] h) ?_ ?_
        · exact mov_app (l := [(187, .inl (.int, 216, .inl (baseM v x))), (178, RO (updN w 5 (nI 0)))]) (l2 := [(185, .inl (.int, 3, .inl (vI b))), (188, .inl (.boolean, 216, .inl (bIf nb)))]) (by simp [hb, hn])
        · refine mw_iconst (v := nI 0) rfl (by decide) ?_
          refine mw_istore_n (i := 3) rfl rfl (Nat.le_of_ble_eq_true rfl) ?_
          refine mw_locals rfl (loopS 0 (by omega) nb b ?_)
          show 0 + absC (baseM v x) 216 ≤ 216
          have := absC_le (baseM v x) 216
          omega
      · omega
    · intro k hk ih
      have hf := (hok.2.2.2.2.2.1 k hk).1
      generalize hP : itN (fun k m => if delB x k then upd m (v (9 + 3 * k)) (nI 0) else m) (fun _ => -1) k = P at ih ⊢
      have eP : itN (fun k m => if delB x k then upd m (v (9 + 3 * k)) (nI 0) else m) (fun _ => -1) (k + 1) = if delB x k then upd P (v (9 + 3 * k)) (nI 0) else P := by rw [← hP]; rfl
      rw [eP] at ih
      refine mw_iload_n (i := 3) rfl rfl rfl ?_
      refine mw_aload_n (i := 0) rfl rfl rfl ?_
      refine mw_getfield rfl f_X10_7 (by first | rfl | exact hO | exact hv | exact hb | exact hm | exact hst | exact hn) rfl ?_
      refine mw_iconst (v := nI 1) rfl (by decide) ?_
      refine mw_iald rfl (by first | rfl | exact hO | exact hv | exact hb | exact hm | exact hst | exact hn) (by omega) (by omega) ?_
      refine mw_n_ge rfl (by omega) (by omega) (fun hc => ?_) (fun hc => ?_)
      · omega
      · refine mw_iload_n (i := 1) rfl rfl rfl ?_
        refine mw_iload_n (i := 3) rfl rfl rfl ?_
        refine mw_ishr rfl ?_
        refine mw_iconst (v := nI 1) rfl (by decide) ?_
        refine mw_iand rfl ?_
        refine mw_if_ne rfl (fun hd => ?_) (fun hd => ?_)
        · rw [show delB x k = false by simp only [delB]; exact decide_eq_false hd] at ih
          first | refine mw_ninc rfl rfl (Nat.le_of_ble_eq_true rfl) ?_ | refine mw_iinc rfl rfl rfl (Nat.le_of_ble_eq_true rfl) ?_
          refine mw_goto rfl ?_
          exact mw_locals rfl ih
        · rw [show delB x k = true by simp only [delB]; exact decide_eq_true hd] at ih
          refine mw_aload_n (i := 2) rfl rfl rfl ?_
          refine mw_aload_n (i := 0) rfl rfl rfl ?_
          refine mw_getfield rfl f_X10_7 (by first | rfl | exact hO | exact hv | exact hb | exact hm | exact hst | exact hn) rfl ?_
          refine mw_bipush (v := nI 9) rfl (by decide) ?_
          refine mw_iconst (v := nI 3) rfl (by decide) ?_
          refine mw_iload_n (i := 3) rfl rfl rfl ?_
          first | refine mw_nmul rfl ?_ | refine mw_imul rfl ?_
          first | refine mw_nadd rfl ?_ | refine mw_iadd rfl ?_
          refine mw_iald rfl (by first | rfl | exact hO | exact hv | exact hb | exact hm | exact hst | exact hn) (by omega) (by omega) ?_
          refine mw_iconst (v := nI 0) rfl (by decide) ?_
          refine mw_iast_m rfl (by first | rfl | exact hO | exact hv | exact hb | exact hm | exact hst | exact hn) (by omega) (by omega) ?_
          first | rw [vI_upd] | rw [vI_updv] | skip
          first | refine mw_ninc rfl rfl (Nat.le_of_ble_eq_true rfl) ?_ | refine mw_iinc rfl rfl rfl (Nat.le_of_ble_eq_true rfl) ?_
          refine mw_goto rfl ?_
          exact mw_locals rfl ih
  -- all absent
  have loopA : ∀ k, k ≤ 216 → MW M_X10_builds (d + 4) 0 0 n post 7 [(0, .ref 178), (1, .int x), (2, .ref 187), (3, .int (nI k))] [] (mov [(187, .inl (.int, 216, .inl (fun j => if j < k ∨ 216 ≤ j then -1 else m j))), (178, RO (updN w 5 (nI 0)))] h) n 0 := by
    refine loop_up 216 ?_ ?_
    · refine mw_iload_n (i := 3) rfl rfl rfl ?_
      refine mw_sipush (v := nI 216) rfl (by decide) ?_
      refine mw_n_ge rfl (by omega) (by omega) (fun hc => ?_) (fun hc => ?_)
      · rw [show (fun j => if j < 216 ∨ 216 ≤ j then -1 else m j) = (fun _ => (-1 : Int32)) by funext j; rw [if_pos (by omega)]]
        refine mw_iconst (v := nI 0) rfl (by decide) ?_
        refine mw_istore_n (i := 3) rfl rfl (Nat.le_of_ble_eq_true rfl) ?_
        exact mw_locals rfl (loopF 0 (by omega))
      · omega
    · intro k hk ih
      have e : upd (fun j => if j < k ∨ 216 ≤ j then -1 else m j) k (-1) = (fun j => if j < k + 1 ∨ 216 ≤ j then (-1 : Int32) else m j) := by
        funext j
        simp only [upd]
        by_cases q : j = k
        · rw [if_pos q, if_pos (by omega)]
        · rw [if_neg q]
          have q3 : (j < k + 1 ∨ 216 ≤ j) ↔ (j < k ∨ 216 ≤ j) := by omega
          simp only [q3]
      refine mw_iload_n (i := 3) rfl rfl rfl ?_
      refine mw_sipush (v := nI 216) rfl (by decide) ?_
      refine mw_n_ge rfl (by omega) (by omega) (fun hc => ?_) (fun hc => ?_)
      · omega
      · refine mw_aload_n (i := 2) rfl rfl rfl ?_
        refine mw_iload_n (i := 3) rfl rfl rfl ?_
        refine mw_iconst (v := (-1)) rfl (by decide) ?_
        refine mw_iast_m rfl (by first | rfl | exact hO | exact hv | exact hb | exact hm | exact hst | exact hn) (by omega) (by omega) ?_
        first | rw [vI_upd] | rw [vI_updv] | skip
        rw [e]
        first | refine mw_ninc rfl rfl (Nat.le_of_ble_eq_true rfl) ?_ | refine mw_iinc rfl rfl rfl (Nat.le_of_ble_eq_true rfl) ?_
        refine mw_goto rfl ?_
        exact mw_locals rfl ih
  refine mw_tail (K := 187) (fun j => if j < 0 ∨ 216 ≤ j then -1 else m j) hm (fun j hj => by rw [if_neg (by omega)]) ?_
  rw [hset_1]
  refine mw_aload_n (i := 0) rfl rfl rfl ?_
  refine mw_iconst (v := nI 0) rfl (by decide) ?_
  refine mw_putfield_m rfl f_X10_150 (by first | rfl | exact hO | exact hv | exact hb | exact hm | exact hst | exact hn) (Nat.le_of_ble_eq_true rfl) (fun _ => rfl) (fun _ => rfl) ?_
  refine mw_iconst (v := nI 0) rfl (by decide) ?_
  refine mw_istore_n (i := 3) rfl rfl (Nat.le_of_ble_eq_true rfl) ?_
  exact mw_locals rfl (loopA 0 (by omega))
