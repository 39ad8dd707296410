/-! THE WORLD BY NUMBERS: every cell has a number; cell k lies at base + k. A value's '.ref k' is the cell k. -/
abbrev MC : Type := (FieldType × vp_A) ⊕ (Nat × List Value)
abbrev MLs : Type := List (Nat × MC)
abbrev MG : Type := va_G × Nat × (FieldType → ClassId)
def cvA (b : Nat) : vp_A → vp_A
  | (n, .inr (.inr (.inr (.inr f)))) => (n, .inr (.inr (.inr (.inr (fun j => (f j).map (fun k => b + k))))))
  | (n, .inl f) => (n, .inl f)
  | (n, .inr (.inl f)) => (n, .inr (.inl f))
  | (n, .inr (.inr (.inl f))) => (n, .inr (.inr (.inl f)))
  | (n, .inr (.inr (.inr (.inl f)))) => (n, .inr (.inr (.inr (.inl f))))
def cvC (b : Nat) (tyC : FieldType → ClassId) : MC → va_E
  | .inl a => .inl (tyC a.1, cvA b a.2)
  | .inr o => .inr (o.1, o.2.map (cvV b))
theorem nbf {a b : Nat} (h : ¬ a = b) : Nat.beq a b = false := by
  cases e : Nat.beq a b
  · rfl
  · exact absurd (Nat.eq_of_beq_eq_true e) h
def mlk : MLs → Nat → Option MC
  | [], _ => none
  | q :: t, k => bif Nat.beq q.1 k then some q.2 else mlk t k
def mov (l : MLs) (h : Nat → MC) (k : Nat) : MC := match mlk l k with
  | some c => c
  | none => h k
def mput : MLs → Nat → MC → MLs
  | [], k, c => [(k, c)]
  | q :: t, k, c => bif Nat.beq q.1 k then (k, c) :: t else q :: mput t k c
def mputs (l : MLs) : MLs → MLs
  | [] => l
  | q :: t => mput (mputs l t) q.1 q.2
def hset (h : Nat → MC) (k : Nat) (c : MC) : Nat → MC := fun j => if j = k then c else h j
def mws (G : MG) (h : Nat → MC) (n : Nat) : va_W := (List.range n).map (fun k => (G.2.1 + k, cvC G.2.1 G.2.2 (h k)))
def mtys : List FieldType := [.int, .boolean, .long, .float, .object RX5, .object RX6]
def mTT (G : MG) : List (ClassId × FieldType) := mtys.map (fun ty => (G.2.2 ty, ty))
def mlkv : List (Nat × Value) → Nat → Option Value
  | [], _ => none
  | q :: t, i => bif Nat.beq q.1 i then some q.2 else mlkv t i
def cvL (b : Nat) (L : List (Nat × Value)) : List (Nat × Value) := L.map (fun q => (q.1, cvV b q.2))
def mst (L : List (Nat × Value)) (i : Nat) (v : Value) : List (Nat × Value) := (i, v) :: L.filter (fun q => !(q.1 == i) && !(q.1 + 1 == i && q.2.category == 2))
def mst2 (L : List (Nat × Value)) (i : Nat) (v : Value) : List (Nat × Value) := (i, v) :: L.filter (fun q => !(q.1 == i) && (!(q.1 == i + 1) && !(q.1 + 1 == i && q.2.category == 2)))
theorem mlk_put (l : MLs) (k : Nat) (c : MC) (j : Nat) : mlk (mput l k c) j = if j = k then some c else mlk l j := by
  induction l with
  | nil =>
    by_cases h : j = k
    · subst h; simp [mput, mlk]
    · have : Nat.beq k j = false := nbf (fun e => h e.symm)
      simp [mput, mlk, this, h]
  | cons q t ih =>
    by_cases hq : q.1 = k
    · have e : Nat.beq q.1 k = true := by simp [hq]
      simp only [mput, e, cond_true, mlk]
      by_cases h : j = k
      · subst h; simp
      · have e2 : Nat.beq k j = false := nbf (fun e => h e.symm)
        have e3 : Nat.beq q.1 j = false := by rw [hq]; exact e2
        simp [e2, e3, h]
    · have e : Nat.beq q.1 k = false := nbf hq
      simp only [mput, e, cond_false, mlk, ih]
      by_cases h : j = k
      · subst h; simp [e]
      · simp [h]
theorem mlk_puts (l : MLs) (l1 : MLs) (j : Nat) : mlk (mputs l l1) j = match mlk l1 j with | some c => some c | none => mlk l j := by
  induction l1 with
  | nil => simp [mputs, mlk]
  | cons q t ih =>
    simp only [mputs, mlk_put, mlk]
    by_cases h : j = q.1
    · subst h; simp
    · have e : Nat.beq q.1 j = false := nbf (fun e => h e.symm)
      simp [e, h, ih]
theorem mov_put (l : MLs) (h : Nat → MC) (k : Nat) (c : MC) : mov (mput l k c) h = hset (mov l h) k c := by
  funext j
  simp only [mov, mlk_put, hset]
  by_cases e : j = k
  · simp [e]
  · simp [e]
theorem mov_puts (l : MLs) (h : Nat → MC) (l1 : MLs) : mov (mputs l l1) h = mov l1 (mov l h) := by
  funext j
  simp only [mov, mlk_puts]
  cases mlk l1 j <;> rfl
theorem mov_lk {l : MLs} {h : Nat → MC} {k : Nat} {c : MC} (e : mlk l k = some c) : mov l h k = c := by simp [mov, e]
/-- a part of a world, laid over it, is the world -/
theorem mov_sub {l lc : MLs} (h : Nat → MC) (hs : ∀ q ∈ lc, mlk l q.1 = some q.2) : mov lc (mov l h) = mov l h := by
  funext j
  have hm : ∀ (lc : MLs) (c : MC), mlk lc j = some c → (j, c) ∈ lc := by
    intro lc
    induction lc with
    | nil => intro c e; simp [mlk] at e
    | cons q t ih =>
      intro c e
      by_cases hq : q.1 = j
      · have e1 : Nat.beq q.1 j = true := by simp [hq]
        simp only [mlk, e1, cond_true] at e
        cases e
        rw [← hq]
        exact List.mem_cons_self
      · have e1 : Nat.beq q.1 j = false := nbf hq
        simp only [mlk, e1, cond_false] at e
        exact List.mem_cons_of_mem _ (ih c e)
  cases e : mlk lc j with
  | none => simp [mov, e]
  | some c =>
    have h1 := hs _ (hm lc c e)
    simp [mov, e, h1]
theorem mlk_mem {l : MLs} {j : Nat} {c : MC} (e : mlk l j = some c) : (j, c) ∈ l := by
  induction l with
  | nil => simp [mlk] at e
  | cons q t ih =>
    by_cases hq : q.1 = j
    · have e1 : Nat.beq q.1 j = true := by simp [hq]
      simp only [mlk, e1, cond_true] at e
      cases e
      rw [← hq]
      exact List.mem_cons_self
    · have e1 : Nat.beq q.1 j = false := nbf hq
      simp only [mlk, e1, cond_false] at e
      exact List.mem_cons_of_mem _ (ih e)
theorem mws_get (G : MG) (h : Nat → MC) {n k : Nat} (hk : k < n) : (mws G h n)[k]? = some (G.2.1 + k, cvC G.2.1 G.2.2 (h k)) := by simp [mws, hk]
theorem mws_lt {G : MG} {h : Nat → MC} {n k : Nat} {q : Nat × va_E} (e : (mws G h n)[k]? = some q) : k < n ∧ q = (G.2.1 + k, cvC G.2.1 G.2.2 (h k)) := by
  have hk : k < n := by
    have := (List.getElem?_eq_some_iff.mp e).1
    simpa [mws] using this
  rw [mws_get G h hk] at e
  exact ⟨hk, (Option.some.inj e).symm⟩
theorem mws_set (G : MG) (h : Nat → MC) (n k : Nat) (c : MC) : (mws G h n).set k (G.2.1 + k, cvC G.2.1 G.2.2 c) = mws G (hset h k c) n := by
  apply List.ext_getElem?
  intro i
  by_cases hi : i < n
  · rw [mws_get G _ hi]
    by_cases e : i = k
    · subst e
      rw [List.getElem?_set_self (by simpa [mws] using hi)]
      simp [hset]
    · rw [List.getElem?_set_ne (fun q => e q.symm), mws_get G _ hi]
      simp [hset, e]
  · rw [List.getElem?_eq_none (by simpa [mws] using hi), List.getElem?_eq_none (by simpa [mws] using hi)]
theorem mws_push (G : MG) (h : Nat → MC) (n : Nat) (c : MC) : mws G h n ++ [(G.2.1 + n, cvC G.2.1 G.2.2 c)] = mws G (hset h n c) (n + 1) := by
  apply List.ext_getElem?
  intro i
  by_cases hi : i < n
  · rw [List.getElem?_append_left (by simpa [mws] using hi), mws_get G _ hi, mws_get G _ (Nat.lt_succ_of_lt hi)]
    simp [hset, Nat.ne_of_lt hi]
  · by_cases e : i = n
    · subst e
      rw [List.getElem?_append_right (by simp [mws]), mws_get G _ (Nat.lt_succ_self _)]
      simp [mws, hset]
    · rw [List.getElem?_eq_none (by simp [mws]; omega), List.getElem?_eq_none (by simp [mws]; omega)]
theorem mws_D (G : MG) (h : Nat → MC) (n : Nat) : va_D (fun q => G.2.1 ≤ q) (mws G h n) := by
  refine ⟨fun i j p q hi hj e => ?_, fun k q hk => ?_⟩
  · obtain ⟨-, rfl⟩ := mws_lt hi
    obtain ⟨-, rfl⟩ := mws_lt hj
    exact Nat.add_left_cancel e
  · obtain ⟨-, rfl⟩ := mws_lt hk
    exact Nat.le_add_right _ _
theorem cvV_cat (b : Nat) (v : Value) : (cvV b v).category = v.category := by cases v <;> rfl
theorem cvV_rf (b : Nat) (r : Option Nat) : cvV b (va_rf r) = va_rf (r.map (fun k => b + k)) := by cases r <;> rfl
theorem mlkv_mem {L : List (Nat × Value)} {i : Nat} {v : Value} (e : mlkv L i = some v) : (i, v) ∈ L := by
  induction L with
  | nil => simp [mlkv] at e
  | cons q t ih =>
    by_cases hq : q.1 = i
    · have e1 : Nat.beq q.1 i = true := by simp [hq]
      simp only [mlkv, e1, cond_true] at e
      cases e
      rw [← hq]
      exact List.mem_cons_self
    · have e1 : Nat.beq q.1 i = false := nbf hq
      simp only [mlkv, e1, cond_false] at e
      exact List.mem_cons_of_mem _ (ih e)
theorem mat {ls : Array Slot} {n b : Nat} {L : List (Nat × Value)} (h : lv_has ls n (cvL b L)) {i : Nat} {v : Value} (e : mlkv L i = some v) : ls[i]? = some (.val (cvV b v)) :=
  h.2.2 (i, cvV b v) (List.mem_map.mpr ⟨(i, v), mlkv_mem e, rfl⟩)
theorem cvL_filter (b : Nat) (L : List (Nat × Value)) (f : Nat × Value → Bool) (hf : ∀ q, f (q.1, cvV b q.2) = f q) : (cvL b L).filter f = cvL b (L.filter f) := by
  induction L with
  | nil => rfl
  | cons q t ih =>
    show List.filter f ((q.1, cvV b q.2) :: cvL b t) = _
    by_cases h : f q = true
    · rw [List.filter_cons_of_pos (by rw [hf]; exact h), List.filter_cons_of_pos h, ih]
      rfl
    · rw [List.filter_cons_of_neg (by rw [hf]; exact h), List.filter_cons_of_neg h, ih]
theorem mst_cv (b : Nat) (L : List (Nat × Value)) (i : Nat) (v : Value) : (i, cvV b v) :: (cvL b L).filter (fun q => !(q.1 == i) && !(q.1 + 1 == i && q.2.category == 2)) = cvL b (mst L i v) := by
  rw [cvL_filter b L _ (fun q => by simp [cvV_cat])]
  rfl
theorem mst2_cv (b : Nat) (L : List (Nat × Value)) (i : Nat) (v : Value) : (i, cvV b v) :: (cvL b L).filter (fun q => !(q.1 == i) && (!(q.1 == i + 1) && !(q.1 + 1 == i && q.2.category == 2))) = cvL b (mst2 L i v) := by
  rw [cvL_filter b L _ (fun q => by simp [cvV_cat])]
  rfl
theorem cvL_has {ls : Array Slot} {n b : Nat} {L L2 : List (Nat × Value)} (h : lv_has ls n (cvL b L)) (hs : L2.map (fun q => mlkv L q.1) = L2.map (fun q => some q.2)) : lv_has ls n (cvL b L2) := by
  refine ⟨h.1, h.2.1, fun q hq => ?_⟩
  obtain ⟨q0, h0, rfl⟩ := List.mem_map.mp hq
  have e : mlkv L q0.1 = some q0.2 := by
    have := List.map_inj_left.mp hs q0 h0
    exact this
  exact mat h e
theorem lv_args_cv (b : Nat) : ∀ (vs : List Value) (i : Nat), lv_args i (vs.map (cvV b)) = cvL b (lv_args i vs)
  | [], _ => rfl
  | v :: vs, i => by
    show (i, cvV b v) :: lv_args (if (cvV b v).category = 2 then i + 2 else i + 1) (vs.map (cvV b)) = (i, cvV b v) :: cvL b (lv_args (if v.category = 2 then i + 2 else i + 1) vs)
    rw [cvV_cat, lv_args_cv b vs]
theorem lg_sl_cv (b : Nat) (vs : List Value) : (lg_sl (vs.map (cvV b))).length = (lg_sl vs).length := by
  induction vs with
  | nil => rfl
  | cons v vs ih =>
    have h : ∀ (a : Value) (t : List Value), lg_sl (a :: t) = lg_sl [a] ++ lg_sl t := fun a t => by simp [lg_sl]
    rw [List.map_cons, h, h v, List.length_append, List.length_append, ih]
    congr 1
    cases v <;> rfl
theorem cat_sum_cv (b : Nat) (vs : List Value) : ((vs.map (cvV b)).map fun v => v.category).sum = (vs.map fun v => v.category).sum := by
  rw [List.map_map]
  congr 1
  apply List.map_congr_left
  intro v _
  exact cvV_cat b v
/-- the base's length of the tables: what is known of the classes -/
def mK (G : MG) (U : State) : Prop := va_K G.1 vwCl (mTT G) U ∧ (∀ w ∈ lw_nest, va_Nw w U) ∧ va_AO RX5 U ∧ va_AO RX6 U
theorem mK.moved {G : MG} {u U : State} (hvm : u.WarmedH U.vm) (h : mK G u) : mK G U := by
  refine ⟨va_K.moved hvm.alike h.1, fun w hw => ?_, va_AO.moved hvm.alike h.2.2.1, va_AO.moved hvm.alike h.2.2.2⟩
  have h1 := h.2.1 w hw
  have h2 : isNest w = true := (List.mem_filter.mp hw).2
  cases w <;> first | (cases h2; done) | exact va_Nw.warmM hvm h1
theorem mK.same {G : MG} {u U : State} (hvm : u.vm = U.vm) (h : mK G u) : mK G U := mK.moved (by rw [← hvm]; exact State.WarmedH.refl u) h
/-- what stands at a number that no cell has yet -/
abbrev dead : MC := .inr (99, [])
/-- the world: the cells 0 .. n - 1 stand at base .. base + n - 1 -/
def mWd (G : MG) (h : Nat → MC) (n : Nat) (H : Heap) : Prop := (∀ k, n ≤ k → h k = dead) ∧ va_P G.1 vwCl (mws G h n) H
abbrev mA (G : MG) : Nat → Prop := fun q => G.2.1 ≤ q
def mroom (d mc ms : Nat) : Room := { frames := d, cells := mc, slots := ms, locals := 42 * d }
def fnd : List (Nat × Instr × Nat × Nat × Nat) → Nat → Option (Instr × Nat × Nat × Nat)
  | [], _ => none
  | q :: t, pc => bif Nat.beq q.1 pc then some q.2 else fnd t pc
def fch (M : MI) (pc : Nat) : Option (Instr × Nat × Nat × Nat) := fnd M.2.2.2.2 pc
theorem fnd_mem : ∀ {t : List (Nat × Instr × Nat × Nat × Nat)} {pc : Nat} {r : Instr × Nat × Nat × Nat}, fnd t pc = some r → (pc, r) ∈ t
  | [], _, _, e => by simp [fnd] at e
  | q :: t, pc, r, e => by
    by_cases hq : q.1 = pc
    · have e1 : Nat.beq q.1 pc = true := by simp [hq]
      simp only [fnd, e1, cond_true] at e
      cases e
      rw [← hq]
      exact List.mem_cons_self
    · have e1 : Nat.beq q.1 pc = false := nbf hq
      simp only [fnd, e1, cond_false] at e
      exact List.mem_cons_of_mem _ (fnd_mem e)
theorem fch_ok {M : MI} (hM : mi_ok M) {pc : Nat} {i : Instr} {len nx tg : Nat} (e : fch M pc = some (i, len, nx, tg)) : decode M.2.1 pc = .ok (i, len) ∧ nx = pc + len ∧ tgOk pc i tg = true := by
  have h := List.all_eq_true.mp hM.1 _ (fnd_mem e)
  simp only [entOk, Bool.and_eq_true, decide_eq_true_eq] at h
  exact h
/-- what stays the same through a method's run -/
def MX (M : MI) (G : MG) (n0 : Nat) (p : Program) (s : State) (m : MethodId) (args : Array Value) (meth : Method) (c : Code) : Prop :=
  mi_ok M ∧ p.tables.exec = Jvm.exec ∧ c.code = M.2.1 ∧ meth.sig.returnType = M.2.2.2.1 ∧ meth.locks = false ∧ c.maxLocals = M.2.2.1 ∧ s.vm.findClass M.1.cls = some m.cls ∧ meth.name = M.1.name ∧ (∀ w ∈ lw_gd, w.before args s = true) ∧ mK G s ∧ s.heap.size = G.2.1 + n0
theorem MX.hA {M : MI} {G : MG} {n0 : Nat} {p : Program} {s : State} {m : MethodId} {args : Array Value} {meth : Method} {c : Code} (X : MX M G n0 p s m args meth c) : ∀ q, s.heap.size ≤ q → mA G q := fun q h => by
  have := X.2.2.2.2.2.2.2.2.2.2
  show G.2.1 ≤ q
  omega
/-- a method's end: the answer and the cells are as 'post' says -/
def MQc (G : MG) (n1 : Nat) (post : Option Value → (Nat → MC) → Prop) : Array Value → State → Outcome → State → Prop := fun _ st o t =>
  (∃ (r : Option Value) (h1 : Nat → MC), o = .returned (r.map (cvV G.2.1)) ∧ post r h1 ∧ mWd G h1 n1 t.heap ∧ mK G t) ∧ va_F (mA G) st t
/-- THE JUDGEMENT: a method stands at pc with these locals, this stack and these cells; it comes to its end with 'post' -/
def MW (M : MI) (d mc ms n0 : Nat) (post : Option Value → (Nat → MC) → Prop) (pc : Nat) (L : List (Nat × Value)) (S : List Value) (h : Nat → MC) (n sl : Nat) : Prop :=
  ∀ (G : MG) (p : Program) (lc : Launch) (e : Env) (s : State) (m : MethodId) (args : Array Value) (below : List Frame) (meth : Method) (c : Code), MX M G n0 p s m args meth c →
  ∀ (H : Heap) (locs : List Loc) (ls : Array Slot), n0 ≤ n → mWd G h n H → va_S (mA G) s.heap H locs → lv_has ls M.2.2.1 (cvL G.2.1 L) →
    W p lc e (mroom d mc ms) s m args below meth c H locs (n - n0) sl (MQ below (MQc G (n0 + mc) post) args s mc ms (mA G)) (F0 m pc ls (S.map (cvV G.2.1)))
/-- a method's contract -/
def Sp (M : MI) (d mc ms : Nat) (av : List Value) (h : Nat → MC) (n : Nat) (post : Option Value → (Nat → MC) → Prop) : Prop := MW M d mc ms n post 0 (lv_args 0 av) [] h n 0
def wsM (M : MI) : List Cond := Cond.code M.1 M.2.1 M.2.2.1 M.2.2.2.1 :: lw_gd
theorem Sp.met {M : MI} {d mc ms : Nat} {av : List Value} {h : Nat → MC} {n : Nat} {post : Option Value → (Nat → MC) → Prop} (hsp : Sp M d mc ms av h n post) (hok : mi_ok M) (hlen : (lg_sl av).length ≤ M.2.2.1) (lc : Launch) (G : MG) :
    Met lc M.1 (wsM M) (mroom d mc ms) (va_Pc (av.map (cvV G.2.1)) (fun U => mK G U ∧ mWd G h n U.heap ∧ U.heap.size = G.2.1 + n)) (MQc G (n + mc) post) mc ms (mA G) := by
  refine Met.ofW (cc := M.2.1) (maxL := M.2.2.1) (ret := M.2.2.2.1) hok.2.1 rfl ?_
  intro p e s m args below meth c s₁ B hml hv
  obtain ⟨rfl, hK, hW, hz⟩ := hv
  have hts := atoms_spec (ws := wsM M) B.pre
  have hl := lv_entry (av.map (cvV G.2.1)) (n := M.2.2.1) (by rw [lg_sl_cv]; exact hlen)
  rw [lg_entry_eq]
  rw [lv_args_cv] at hl
  have X : MX M G n p s m (av.map (cvV G.2.1)).toArray meth c := ⟨hok, B.exec, B.bytes, B.returns, B.notSynchronized, hml, findClass_of_methodNamed B.named, (name_of_methodNamed B.named B.method).1, fun w hw => hts w (List.mem_cons_of_mem _ hw), hK, hz⟩
  have h1 := hsp G p lc e s m _ below meth c X s.heap [] _ (Nat.le_refl _) hW va_S.rf hl
  rw [Nat.sub_self] at h1
  exact h1
/-- at every state of a method's run: the heap's size is known -/
theorem mw_sz {M : MI} {G : MG} {n0 n sl : Nat} {p : Program} {lc : Launch} {e : Env} {R : Room} {s T : State} {m : MethodId} {args : Array Value} {below : List Frame} {meth : Method} {c : Code} {H : Heap} {locs : List Loc} {h : Nat → MC}
    (X : MX M G n0 p s m args meth c) (hn : n0 ≤ n) (hW : mWd G h n H) (hT : T.heap = H) (hX : Stand p lc e R s m args below meth c T locs (n - n0) sl) : H.size = G.2.1 + n := by
  have h1 : T.heap.size ≤ s.heap.size + (n - n0) := hX.same.2.2.1
  have h2 : s.heap.size ≤ T.heap.size := hX.same.2.1
  have h3 := X.2.2.2.2.2.2.2.2.2.2
  rw [hT] at h1 h2
  by_cases hz : n = 0
  · omega
  · have hlt := (hW.2 (n - 1) _ (mws_get G _ (by omega))).lt
    have h4 : G.2.1 + (n - 1) < H.size := hlt
    omega
theorem mWd.put {G : MG} {h : Nat → MC} {n : Nat} {H H1 : Heap} (hW : mWd G h n H) {a : Nat} (c1 : MC) (ha : a < n) (hP : va_P G.1 vwCl ((mws G h n).set a (G.2.1 + a, cvC G.2.1 G.2.2 c1)) H1) : mWd G (hset h a c1) n H1 := by
  refine ⟨fun k hk => ?_, by rw [← mws_set]; exact hP⟩
  have e : ¬ k = a := by omega
  show (if k = a then c1 else h k) = dead
  rw [if_neg e]
  exact hW.1 k hk
theorem mWd.lt {G : MG} {h : Nat → MC} {n : Nat} {H : Heap} (hW : mWd G h n H) {a : Nat} {c0 : MC} (hc : h a = c0) (hd : c0 ≠ dead) : a < n := by
  rcases Nat.lt_or_ge a n with q | q
  · exact q
  · exact absurd (hc.symm.trans (hW.1 a q)) hd
theorem mWd.at {G : MG} {h : Nat → MC} {n : Nat} {H : Heap} (hW : mWd G h n H) {a : Nat} {c0 : MC} (hc : h a = c0) (hd : c0 ≠ dead) : (mws G h n)[a]? = some (G.2.1 + a, cvC G.2.1 G.2.2 c0) := by
  have h1 := mws_get G h (hW.lt hc hd)
  rw [hc] at h1
  exact h1
theorem dead_l {x : FieldType × vp_A} : (.inl x : MC) ≠ dead := fun h => by cases h
theorem dead_r {ci kf : Nat} {fs : List Value} {v : Value} (hv : fs[kf]? = some v) : (.inr (ci, fs) : MC) ≠ dead := fun h => by
  cases h
  cases hv
theorem dead_k {ci kf : Nat} {fs : List Value} (hv : kf < fs.length) : (.inr (ci, fs) : MC) ≠ dead := fun h => by
  cases h
  cases hv
