theorem arrV_cg {cA : ClassId} {n : Nat} {f g : Nat → Value} (e : ∀ j, j < n → f j = g j) : arrV cA n f = arrV cA n g := by
  unfold arrV
  congr 2
  funext j
  exact e j j.isLt
/-- of a row only its places count -/
theorem mw_tail {M : MI} {d mc ms n0 : Nat} {post : Option Value → (Nat → MC) → Prop} {pc : Nat} {L : List (Nat × Value)} {S : List Value} {h : Nat → MC} {n sl K N : Nat} {ty : FieldType} {f : Nat → Int32} (g : Nat → Int32) (hK : h K = .inl (ty, N, .inl f)) (e : ∀ j, j < N → f j = g j) (k : MW M d mc ms n0 post pc L S (hset h K (.inl (ty, N, .inl g))) n sl) : MW M d mc ms n0 post pc L S h n sl := by
  intro G p lc en s m args below meth c X H locs ls hn hW hS hl
  refine k G p lc en s m args below meth c X H locs ls hn ?_ hS hl
  have hlt := hW.lt hK dead_l
  refine ⟨fun j hj => ?_, ?_⟩
  · have q : ¬ j = K := by omega
    show (if j = K then _ else h j) = dead
    rw [if_neg q]
    exact hW.1 j hj
  · intro i q hq
    obtain ⟨hi, rfl⟩ := mws_lt hq
    have h1 := hW.2 i _ (mws_get G h hi)
    by_cases q : i = K
    · subst q
      rw [hK] at h1
      rw [hset_same]
      show H[G.2.1 + i]? = some (vp_cell (G.2.2 ty) (N, .inl g))
      have h2 : H[G.2.1 + i]? = some (vp_cell (G.2.2 ty) (N, .inl f)) := h1
      rw [h2]
      congr 1
      rw [vp_cell_i, vp_cell_i]
      exact arrV_cg fun j hj => by rw [e j hj]
    · rw [hset_ne h _ q]
      exact h1
theorem tOf_b {b b' : Nat → Nat} (e : ∀ x, x < 3 → b x = b' x) {t : Nat} (ht : t < 9) : tOf b t = tOf b' t := by
  unfold tOf
  split
  · rfl
  · exact e _ (by omega)
theorem fA_b {v b b' : Nat → Nat} (hok : OkN v) (e : ∀ x, x < 3 → b x = b' x) {r a : Nat} (hr : r < v 2) (ha : a ≤ v (45 + 18 * r + 1)) : fA v b r a = fA v b' r a := by
  obtain ⟨-, -, -, -, hat⟩ := hok.2.2.2.2.2.2 r hr
  obtain ⟨-, h2, h3, -⟩ := hat a ha
  unfold fA
  rw [tOf_b e h2, tOf_b e h3]
theorem andN_cg {f g : Nat → Bool} : ∀ {n : Nat}, (∀ k, k < n → f k = g k) → andN f n = andN g n
  | 0, _ => rfl
  | n + 1, h => by simp only [andN]; rw [andN_cg (fun k hk => h k (by omega)), h n (by omega)]
theorem holdsR_b {v b b' : Nat → Nat} {m : Nat → Int32} (hok : OkN v) (e : ∀ x, x < 3 → b x = b' x) {r : Nat} (hr : r < v 2) : holdsR v b m r = holdsR v b' m r := by
  unfold holdsR
  refine andN_cg fun k hk => ?_
  unfold hLit
  rw [fA_b hok e hr (by omega)]
theorem bndU_e (b b' : Nat → Nat) (code : Nat) : ∀ x, x < 3 → bndU b code x = bndU b' code x := fun x hx => by rw [bndU_at b code hx, bndU_at b' code hx]
/-- relation of two scratch states -/
def goE (p q : (Nat → Bool) × (Nat → Nat)) : Prop := ∀ f, f < 216 → p.1 f = q.1 f
theorem goC_e {v : Nat → Nat} {m : Nat → Int32} (hok : OkN v) {r code : Nat} (hr : r < v 2) {p q : (Nat → Bool) × (Nat → Nat)} (e : goE p q) : goE (goC v m r code p) (goC v m r code q) := by
  intro f hf
  simp only [goC]
  rw [holdsR_b hok (bndU_e p.2 q.2 code) hr, fA_b hok (bndU_e p.2 q.2 code) hr (Nat.zero_le _)]
  split
  · simp only [updN]
    split
    · rfl
    · exact e f hf
  · exact e f hf
theorem itN_rel {α : Type} {R : α → α → Prop} {s : Nat → α → α} {N : Nat} (hs : ∀ k, k < N → ∀ a b, R a b → R (s k a) (s k b)) : ∀ n, n ≤ N → ∀ {a b : α}, R a b → R (itN s a n) (itN s b n)
  | 0, _, _, _, h => h
  | n + 1, hn, _, _, h => hs n (by omega) _ _ (itN_rel hs n (by omega) h)
theorem itN_inv {α : Type} {P : α → Prop} {s : Nat → α → α} {N : Nat} (hs : ∀ k, k < N → ∀ a, P a → P (s k a)) : ∀ n, n ≤ N → ∀ {a : α}, P a → P (itN s a n)
  | 0, _, _, h => h
  | n + 1, hn, _, h => hs n (by omega) _ (itN_inv hs n (by omega) h)
set_option maxRecDepth 100000 in
theorem goA_e {v st : Nat → Nat} {m : Nat → Int32} (hok : OkN v) (s : Nat) (nb : Nat → Bool) (b : Nat → Nat) : goE (goA v st m s nb b) (goA v st m s (fun _ => false) (fun _ => 0)) := by
  refine itN_rel (R := goE) (N := v 2) (fun r hr p q e => ?_) (v 2) (Nat.le_refl _) ?_
  · simp only [goR]
    split
    · exact itN_rel (R := goE) (s := goC v m r) (N := 216) (fun code _ p q e => goC_e hok hr e) 216 (Nat.le_refl _) (a := p) (b := q) e
    · exact e
  · intro f hf
    simp [clrB, hf]
/-- the new facts of a round -/
def newF (v st : Nat → Nat) (m : Nat → Int32) (s : Nat) : Nat → Bool := (goA v st m s (fun _ => false) (fun _ => 0)).1
set_option maxRecDepth 100000 in
theorem newF_neg {v st : Nat → Nat} {m : Nat → Int32} {s : Nat} : ∀ f, newF v st m s f = true → m f < 0 := by
  have h : ∀ (p : (Nat → Bool) × (Nat → Nat)), (∀ f, p.1 f = true → m f < 0) → ∀ r code f, (goC v m r code p).1 f = true → m f < 0 := by
    intro p hp r code f
    simp only [goC]
    split
    · simp only [updN]
      split
      · rename_i e
        intro h1
        rw [e]
        exact of_decide_eq_true h1
      · exact hp f
    · exact hp f
  refine itN_inv (P := fun p : (Nat → Bool) × (Nat → Nat) => ∀ f, p.1 f = true → m f < 0) (N := v 2) (fun r _ p hp => ?_) (v 2) (Nat.le_refl _) ?_
  · simp only [goR]
    split
    · exact itN_inv (P := fun p : (Nat → Bool) × (Nat → Nat) => ∀ f, p.1 f = true → m f < 0) (N := 216) (fun code _ p hp => h p hp r code) 216 (Nat.le_refl _) hp
    · exact hp
  · intro f hf
    simp only [clrB] at hf
    split at hf <;> cases hf
theorem cntB_cg {f g : Nat → Bool} : ∀ {n : Nat}, (∀ k, k < n → f k = g k) → cntB f n = cntB g n
  | 0, _ => rfl
  | n + 1, h => by simp only [cntB]; rw [cntB_cg (fun k hk => h k (by omega)), h n (by omega)]
theorem cntB_0 {f : Nat → Bool} : ∀ {n : Nat}, cntB f n = 0 → ∀ k, k < n → f k = false
  | 0, _, k, hk => absurd hk (Nat.not_lt_zero k)
  | n + 1, h, k, hk => by
    simp only [cntB] at h
    by_cases e : k = n
    · subst e
      cases q : f k
      · rfl
      · rw [q] at h; simp at h
    · exact cntB_0 (n := n) (by omega) k (by omega)
/-- model and number of rounds behind one more round of a stratum -/
def cntS (v st : Nat → Nat) (s : Nat) (X : (Nat → Int32) × Nat) : Nat := cntB (newF v st X.1 s) 216
def stepM (v st : Nat → Nat) (s : Nat) (X : (Nat → Int32) × Nat) : (Nat → Int32) × Nat :=
  (goM (newF v st X.1 s) X.1 (if 0 < cntS v st s X then X.2 + 1 else X.2) 216, if 0 < cntS v st s X then X.2 + 1 else X.2)
theorem stepM_0 {v st : Nat → Nat} {s : Nat} {X : (Nat → Int32) × Nat} (h : cntS v st s X = 0) : stepM v st s X = X := by
  have h1 : ¬ 0 < cntS v st s X := by omega
  simp only [stepM, if_neg h1]
  refine Prod.ext ?_ rfl
  funext f
  simp only [goM]
  split
  · rename_i hf
    rw [cntB_0 h f hf]
    rfl
  · rfl
/-- how many facts are not there -/
def absC (m : Nat → Int32) : Nat → Nat
  | 0 => 0
  | k + 1 => absC m k + (if m k < 0 then 1 else 0)
theorem absC_le (m : Nat → Int32) : ∀ k, absC m k ≤ k
  | 0 => Nat.le_refl _
  | k + 1 => by
    have := absC_le m k
    simp only [absC]
    split <;> omega
theorem absC_go {m : Nat → Int32} {nw : Nat → Bool} {k : Nat} (hk : k < 2147483648) (hn : ∀ f, nw f = true → m f < 0) : ∀ n, n ≤ 216 → absC (goM nw m k 216) n + cntB nw n = absC m n
  | 0, _ => rfl
  | n + 1, h => by
    have ih := absC_go hk hn n (by omega)
    have e1 : nw n = true → ¬ goM nw m k 216 n < 0 := fun q => by
      have : goM nw m k 216 n = nI k := by simp [goM, q, show n < 216 by omega]
      rw [this]
      exact nI_pos hk
    have e2 : nw n = false → goM nw m k 216 n = m n := fun q => by simp [goM, q]
    simp only [absC, cntB]
    by_cases q : nw n = true
    · rw [if_pos q, if_pos (hn n q), if_neg (e1 q)]
      omega
    · have q' : nw n = false := by simpa using q
      rw [if_neg q]
      by_cases h1 : m n < 0
      · rw [if_pos h1, if_pos (show goM nw m k 216 n < 0 by rw [e2 q']; exact h1)]
        omega
      · rw [if_neg h1, if_neg (show ¬ goM nw m k 216 n < 0 by rw [e2 q']; exact h1)]
        omega
theorem absC_step {v st : Nat → Nat} {s : Nat} {X : (Nat → Int32) × Nat} (hk : X.2 < 1000000) : absC (stepM v st s X).1 216 + cntS v st s X = absC X.1 216 := by
  refine absC_go ?_ newF_neg 216 (Nat.le_refl _)
  split <;> omega
def runS (v st : Nat → Nat) (s : Nat) (X : (Nat → Int32) × Nat) : (Nat → Int32) × Nat := itN (fun _ => stepM v st s) X 217
theorem itN_fix {α : Type} {f : α → α} {a : α} (h : f a = a) : ∀ n, itN (fun _ => f) a n = a
  | 0 => rfl
  | n + 1 => by simp only [itN]; rw [itN_fix h n, h]
theorem itN_add {α : Type} (f : α → α) (a : α) (m : Nat) : ∀ n, itN (fun _ => f) a (m + n) = itN (fun _ => f) (itN (fun _ => f) a m) n
  | 0 => rfl
  | n + 1 => by
    show f (itN (fun _ => f) a (m + n)) = f _
    rw [itN_add f a m n]
theorem itN_stay {α : Type} {f : α → α} {a : α} {i N : Nat} (hi : i ≤ N) (h : f (itN (fun _ => f) a i) = itN (fun _ => f) a i) : itN (fun _ => f) a N = itN (fun _ => f) a i := by
  obtain ⟨k, rfl⟩ := Nat.exists_eq_add_of_le hi
  rw [itN_add, itN_fix h]
theorem runS_done {v st : Nat → Nat} {s i : Nat} {X : (Nat → Int32) × Nat} (hi : i ≤ 217) (h : cntS v st s (itN (fun _ => stepM v st s) X i) = 0) : runS v st s X = itN (fun _ => stepM v st s) X i := itN_stay hi (stepM_0 h)
theorem itN_first {α : Type} (f : α → α) (a : α) : ∀ n, itN (fun _ => f) (f a) n = itN (fun _ => f) a (n + 1)
  | 0 => rfl
  | n + 1 => by
    show f (itN (fun _ => f) (f a) n) = f (itN (fun _ => f) a (n + 1))
    rw [itN_first f a n]
def InvX (X : (Nat → Int32) × Nat) : Prop := X.2 + absC X.1 216 ≤ 216
theorem InvX_step {v st : Nat → Nat} {s : Nat} {X : (Nat → Int32) × Nat} (h : InvX X) : InvX (stepM v st s X) := by
  have h1 := absC_step (v := v) (st := st) (s := s) (X := X) (by unfold InvX at h; omega)
  unfold InvX at h ⊢
  have h2 : (stepM v st s X).2 = if 0 < cntS v st s X then X.2 + 1 else X.2 := rfl
  rw [h2]
  split <;> omega
theorem cnt_zero {v st : Nat → Nat} {s : Nat} (a : Nat) : ∀ (X : (Nat → Int32) × Nat), absC X.1 216 ≤ a → InvX X → ∃ i, i ≤ a ∧ cntS v st s (itN (fun _ => stepM v st s) X i) = 0 := by
  induction a with
  | zero =>
    intro X ha hX
    have h1 := absC_step (v := v) (st := st) (s := s) (X := X) (by unfold InvX at hX; omega)
    exact ⟨0, Nat.le_refl _, by show cntS v st s X = 0; omega⟩
  | succ a ih =>
    intro X ha hX
    by_cases hz : cntS v st s X = 0
    · exact ⟨0, Nat.zero_le _, hz⟩
    · have h1 := absC_step (v := v) (st := st) (s := s) (X := X) (by unfold InvX at hX; omega)
      obtain ⟨i, hi, h2⟩ := ih (stepM v st s X) (by omega) (InvX_step hX)
      exact ⟨i + 1, by omega, by rw [← itN_first]; exact h2⟩
theorem mlk_app (l l2 : MLs) (j : Nat) : mlk (l ++ l2) j = match mlk l j with | some c => some c | none => mlk l2 j := by
  induction l with
  | nil => simp [mlk]
  | cons q t ih =>
    by_cases h : q.1 = j
    · have e : Nat.beq q.1 j = true := by simp [h]
      simp [mlk, e]
    · simp [mlk, nbf h, ih]
theorem mov_app {l l2 : MLs} {h : Nat → MC} (hs : ∀ q ∈ l2, h q.1 = q.2) : mov (l ++ l2) h = mov l h := by
  funext j
  simp only [mov, mlk_app]
  cases e : mlk l j with
  | some c => rfl
  | none =>
    cases e2 : mlk l2 j with
    | none => rfl
    | some c => exact (hs _ (mlk_mem e2)).symm
theorem runS_step {v st : Nat → Nat} {s : Nat} {X : (Nat → Int32) × Nat} (hX : InvX X) : runS v st s (stepM v st s X) = runS v st s X := by
  obtain ⟨i, hi, h⟩ := cnt_zero (v := v) (st := st) (s := s) 216 X (by unfold InvX at hX; omega) hX
  have e1 : runS v st s X = itN (fun _ => stepM v st s) X i := runS_done (by omega) h
  have e2 : runS v st s (stepM v st s X) = itN (fun _ => stepM v st s) X (217 + 1) := itN_first _ _ _
  rw [e1, e2]
  exact itN_stay (by omega) (stepM_0 h)
theorem InvX_run {v st : Nat → Nat} {s : Nat} {X : (Nat → Int32) × Nat} (hX : InvX X) : InvX (runS v st s X) := by
  unfold runS
  generalize 217 = k
  induction k with
  | zero => exact hX
  | succ k ih => exact InvX_step ih
def delB (x : Int32) (k : Nat) : Bool := decide ((x >>> (nI k &&& 31)) &&& nI 1 = 0)
def baseM (v : Nat → Nat) (x : Int32) : Nat → Int32 := itN (fun k m => if delB x k then upd m (v (9 + 3 * k)) (nI 0) else m) (fun _ => -1) (v 1)
def mdlV (v st : Nat → Nat) (x : Int32) : (Nat → Int32) × Nat := itN (runS v st) (baseM v x, 0) 6
theorem goM_cg {nw nw' : Nat → Bool} (e : ∀ f, f < 216 → nw f = nw' f) (m : Nat → Int32) (k : Nat) : goM nw m k 216 = goM nw' m k 216 := by
  funext f
  simp only [goM]
  split
  · rename_i hf
    rw [e f hf]
  · rfl
