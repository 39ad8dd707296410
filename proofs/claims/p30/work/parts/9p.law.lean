/-! THE CLAIM OUT OF ONE WALK OF THE LAW'S BODY. Your part is whole_start (and what it stands on); all else here is the same for every law, but numbers. -/
def R_law : String := "FactOriginsLaw"
def lw_P (b : Addr) (xs : List Int32) (args : Array Value) (s : State) : Prop := args = #[.ref b] ∧ s.IntsAt b xs ∧ xs.length ≤ 3072 ∧ (Jvm.Cond.and given_1 narrow_1).before args s = true
/-- what a walk over the start with the record d0 says of its end, said of the start itself -/
theorem lw_closed {s t : State} {o : Outcome} {d0 : Drawn} {L : List Loc} {k n : Nat} (hd0 : s.drawn.sameBut d0 lw_cs) (hv : ∃ v, o = .returned v) (hW : (s.setDrawn d0).WarmedH t.vm) (hs : (s.setDrawn d0).sameButNew ({ t with vm := s.vm } : State) L k n) : State.butDraws s t lw_cs (fun t1 => Framed s o t1 L k n) := by
  have h2 : t.drawn = d0 := congrArg State.drawn hs.1
  refine ⟨⟨hv, hW, State.sameButNew.setDrawn hs s.drawn⟩, ?_, by decide⟩
  rw [h2]
  exact hd0
def lw_Q (_ : Array Value) (s : State) (o : Outcome) (t : State) : Prop := o = .returned (some (.int 1)) ∧ State.butDraws s t lw_cs (fun t1 => Framed s o t1 [] 600000 7302250)
def lw_Z (below : List Frame) (a : Array Value) (s : State) : State → Prop := fun t => ∃ o, t.status = .running ∧ Ended t below o ∧ lw_Q a s o t
/-- the law's own end, with 1 on the stack, nothing written that was there before, its room as the claim has it; d0: the record of draws at this point (at the entry s.drawn: begin with 'refine W.base ?_' and 'have hd0 := Drawn.sameBut.refl s.drawn lw_cs') -/
theorem lw_ret {p : Program} {l : Launch} {e : Env} {s : State} {m : MethodId} {below : List Frame} {meth : Method} {c : Code} {b : Nat} {d0 : Drawn} (hd0 : s.drawn.sameBut d0 lw_cs) (hx : p.tables.exec = Jvm.exec) (hb : c.code = code) (hr : meth.sig.returnType = ret) (hlocks : meth.locks = false) {pc : Nat} {H : Heap} {ls : Array Slot} (hdg : decode code pc = .ok (.ireturn, 1)) : W p l e room_1 (s.setDrawn d0) m #[Value.ref b] below meth c H [] 600000 7302250 (lw_Z below #[Value.ref b] s) (F0 m pc ls [.int 1]) := by
  intro T hT X
  obtain ⟨fs, hret, hrun, hended, hW, hframe⟩ := X.leave (v := some (.int 1)) (hlocks := hlocks) (fun h => by rw [hr] at h; cases h)
  have hmeth' : T.vm.method? m = some meth := X.method'
  refine ⟨T.setFrames fs, ?_, .returned (some (.int 1)), hrun, hended, rfl, lw_closed hd0 ⟨_, rfl⟩ hW hframe⟩
  jvm_step X.here [X.here.top, hx, hb, hdg, hmeth', hr, ret, narrow_b1]
  (try refine ⟨rfl, ?_⟩); (try refine ⟨rfl, ?_⟩)
  first | (intro acts; rw [hret _ acts rfl rfl rfl]) | rw [hret _ _ rfl rfl rfl]
  exact Steps.refl _
/-- what holds at the law's entry: the machine, the code, the tables' words (any of lw_tbl by 'hts w (by decide +kernel)'), the script of L ints xs at the cell b, what the Statement gives of the start (any of its parts by flat_of_before) -/
def lw_At (p : Program) (s : State) (m : MethodId) (meth : Method) (c : Code) (b L : Nat) (xs : Nat → Int32) : Prop :=
  p.tables.exec = Jvm.exec ∧ c.code = code ∧ meth.sig.returnType = ret ∧ c.maxLocals = 4 ∧ s.vm.findClass R_law = some m.cls ∧ (∀ w ∈ lw_tbl, w.before #[Value.ref b] s = true) ∧ va_X b L xs s s.heap ∧ b < s.heap.size ∧ meth.locks = false ∧ (Jvm.Cond.and given_1 narrow_1).before #[Value.ref b] s = true
/-! THE LAW'S FRAME: the same judgement as for methods, over the law's own end -/
section LAWS
variable {p : Program} {l : Launch} {e : Env} {s : State} {m : MethodId} {below : List Frame} {meth : Method} {c : Code} {b L : Nat} {xs : Nat → Int32} {G : MG} {T : List (Nat × Instr × Nat × Nat × Nat)} {pc n sl nx tg : Nat} {Ls : List (Nat × Value)} {S : List Value} {h : Nat → MC}
def LC (p : Program) (s : State) (m : MethodId) (meth : Method) (c : Code) (b L : Nat) (xs : Nat → Int32) (G : MG) : Prop := lw_At p s m meth c b L xs ∧ mK G s ∧ s.heap.size = G.2.1 ∧ L ≤ 3072
def LwJ (p : Program) (l : Launch) (e : Env) (s : State) (m : MethodId) (below : List Frame) (meth : Method) (c : Code) (b : Nat) (G : MG) (pc : Nat) (Ls : List (Nat × Value)) (S : List Value) (h : Nat → MC) (n sl : Nat) : Prop :=
  ∀ (H : Heap) (locs : List Loc) (ls : Array Slot), mWd G h n H → va_S (mA G) s.heap H locs → lv_has ls 4 Ls → W p l e room_1 s m #[Value.ref b] below meth c H locs n sl (lw_Z below #[Value.ref b] s) (F0 m pc ls S)
theorem LC.w (C : LC p s m meth c b L xs G) : ∀ w ∈ lw_gd, w.before #[Value.ref b] s = true := fun w hw => C.1.2.2.2.2.2.1 w (List.mem_filter.mp hw).1
theorem LC.hbA (C : LC p s m meth c b L xs G) : ¬ mA G b := by
  have h1 := C.1.2.2.2.2.2.2.2.1
  have h2 := C.2.2.1
  show ¬ G.2.1 ≤ b
  omega
theorem lt_ok (hT : T.all (entOk code) = true) {i : Instr} {len : Nat} (he : fnd T pc = some (i, len, nx, tg)) : decode code pc = .ok (i, len) ∧ nx = pc + len ∧ tgOk pc i tg = true := by
  have h := List.all_eq_true.mp hT _ (fnd_mem he)
  simp only [entOk, Bool.and_eq_true, decide_eq_true_eq] at h
  exact h
theorem lw_aload (C : LC p s m meth c b L xs G) (hT : T.all (entOk code) = true) {q : Fin 4} {i r : Nat} (hf : fnd T pc = some (.aload_n q, 1, nx, tg)) (hi : (q : Nat) = i) (hv : mlkv Ls i = some (.ref r)) (k : LwJ p l e s m below meth c b G nx Ls (.ref r :: S) h n sl) : LwJ p l e s m below meth c b G pc Ls S h n sl := by
  intro H locs ls hW hS hl
  obtain ⟨hdg, rfl, htg⟩ := lt_ok hT hf
  exact lv_aload_n C.1.1 C.1.2.1 hdg hi (hl.2.2 _ (mlkv_mem hv)) (k H locs ls hW hS hl)
theorem lw_iload (C : LC p s m meth c b L xs G) (hT : T.all (entOk code) = true) {q : Fin 4} {i : Nat} {x : Int32} (hf : fnd T pc = some (.iload_n q, 1, nx, tg)) (hi : (q : Nat) = i) (hv : mlkv Ls i = some (.int x)) (k : LwJ p l e s m below meth c b G nx Ls (.int x :: S) h n sl) : LwJ p l e s m below meth c b G pc Ls S h n sl := by
  intro H locs ls hW hS hl
  obtain ⟨hdg, rfl, htg⟩ := lt_ok hT hf
  exact lv_iload_n C.1.1 C.1.2.1 hdg hi (hl.2.2 _ (mlkv_mem hv)) (k H locs ls hW hS hl)
theorem lw_iconst (C : LC p s m meth c b L xs G) (hT : T.all (entOk code) = true) {i : Int} {v : Int32} (hf : fnd T pc = some (.iconst i, 1, nx, tg)) (hv : Int32.ofInt i = v) (k : LwJ p l e s m below meth c b G nx Ls (.int v :: S) h n sl) : LwJ p l e s m below meth c b G pc Ls S h n sl := by
  intro H locs ls hW hS hl
  obtain ⟨hdg, rfl, htg⟩ := lt_ok hT hf
  exact lv_iconst C.1.1 C.1.2.1 hdg hv (k H locs ls hW hS hl)
theorem lw_bipush (C : LC p s m meth c b L xs G) (hT : T.all (entOk code) = true) {i : Int} {v : Int32} (hf : fnd T pc = some (.bipush i, 2, nx, tg)) (hv : (Int8.ofInt i).toInt32 = v) (k : LwJ p l e s m below meth c b G nx Ls (.int v :: S) h n sl) : LwJ p l e s m below meth c b G pc Ls S h n sl := by
  intro H locs ls hW hS hl
  obtain ⟨hdg, rfl, htg⟩ := lt_ok hT hf
  exact lv_bipush C.1.1 C.1.2.1 hdg hv (k H locs ls hW hS hl)
theorem lw_nadd (C : LC p s m meth c b L xs G) (hT : T.all (entOk code) = true) {x y : Nat} (hf : fnd T pc = some (.iadd, 1, nx, tg)) (k : LwJ p l e s m below meth c b G nx Ls (.int (nI (x + y)) :: S) h n sl) : LwJ p l e s m below meth c b G pc Ls (.int (nI y) :: .int (nI x) :: S) h n sl := by
  intro H locs ls hW hS hl
  obtain ⟨hdg, rfl, htg⟩ := lt_ok hT hf
  refine lv_iadd C.1.1 C.1.2.1 hdg ?_
  rw [nI_add]
  exact k H locs ls hW hS hl
theorem lw_isub (C : LC p s m meth c b L xs G) (hT : T.all (entOk code) = true) {x y : Int32} (hf : fnd T pc = some (.isub, 1, nx, tg)) (k : LwJ p l e s m below meth c b G nx Ls (.int (x - y) :: S) h n sl) : LwJ p l e s m below meth c b G pc Ls (.int y :: .int x :: S) h n sl := by
  intro H locs ls hW hS hl
  obtain ⟨hdg, rfl, htg⟩ := lt_ok hT hf
  exact lv_isub C.1.1 C.1.2.1 hdg (k H locs ls hW hS hl)
theorem lw_iand (C : LC p s m meth c b L xs G) (hT : T.all (entOk code) = true) {x y : Int32} (hf : fnd T pc = some (.iand, 1, nx, tg)) (k : LwJ p l e s m below meth c b G nx Ls (.int (x &&& y) :: S) h n sl) : LwJ p l e s m below meth c b G pc Ls (.int y :: .int x :: S) h n sl := by
  intro H locs ls hW hS hl
  obtain ⟨hdg, rfl, htg⟩ := lt_ok hT hf
  exact lv_iand C.1.1 C.1.2.1 hdg (k H locs ls hW hS hl)
theorem lw_sld (C : LC p s m meth c b L xs G) (hT : T.all (entOk code) = true) {i : Nat} (hf : fnd T pc = some (.iaload, 1, nx, tg)) (hi : i < L) (k : LwJ p l e s m below meth c b G nx Ls (.int (xs i) :: S) h n sl) : LwJ p l e s m below meth c b G pc Ls (.int (nI i) :: .ref b :: S) h n sl := by
  intro H locs ls hW hS hl
  obtain ⟨hdg, rfl, htg⟩ := lt_ok hT hf
  have hL := C.2.2.2
  refine va_sld (A := mA G) C.1.1 C.1.2.1 C.1.2.2.2.2.2.2.1 C.1.2.2.2.2.2.2.2.1 C.hbA hS (vp_in_nI hi (by omega)) hdg ?_
  rw [nI_clamp (by omega)]
  exact k H locs ls hW hS hl
theorem lw_slen (C : LC p s m meth c b L xs G) (hT : T.all (entOk code) = true) (hf : fnd T pc = some (.arraylength, 1, nx, tg)) (k : LwJ p l e s m below meth c b G nx Ls (.int (nI L) :: S) h n sl) : LwJ p l e s m below meth c b G pc Ls (.ref b :: S) h n sl := by
  intro H locs ls hW hS hl
  obtain ⟨hdg, rfl, htg⟩ := lt_ok hT hf
  exact va_slen (A := mA G) C.1.1 C.1.2.1 C.1.2.2.2.2.2.2.1 C.1.2.2.2.2.2.2.2.1 C.hbA hS hdg (k H locs ls hW hS hl)
theorem lw_same (C : LC p s m meth c b L xs G) (hT : T.all (entOk code) = true) {y : Int32} {off : Int} (hf : fnd T pc = some (.if_icmp .eq off, 3, nx, tg)) (k : LwJ p l e s m below meth c b G tg Ls S h n sl) : LwJ p l e s m below meth c b G pc Ls (.int y :: .int y :: S) h n sl := by
  intro H locs ls hW hS hl
  obtain ⟨hdg, rfl, htg⟩ := lt_ok hT hf
  exact lv_icmp_eq C.1.1 C.1.2.1 hdg (of_decide_eq_true htg) (fun _ => k H locs ls hW hS hl) (fun q => absurd rfl q)
theorem lg_cmp_same (y : Int64) : lg_cmp y y = 0 := by
  unfold lg_cmp
  rw [if_neg (fun q => Int64.lt_irrefl q), if_pos rfl]
theorem lw_lcmp (C : LC p s m meth c b L xs G) (hT : T.all (entOk code) = true) {y : Int64} (hf : fnd T pc = some (.lcmp, 1, nx, tg)) (k : LwJ p l e s m below meth c b G nx Ls (.int 0 :: S) h n sl) : LwJ p l e s m below meth c b G pc Ls (.long y :: .long y :: S) h n sl := by
  intro H locs ls hW hS hl
  obtain ⟨hdg, rfl, htg⟩ := lt_ok hT hf
  refine W.lcmp C.1.1 C.1.2.1 hdg ?_
  rw [lg_cmp_same]
  exact k H locs ls hW hS hl
theorem lw_ifeq0 (C : LC p s m meth c b L xs G) (hT : T.all (entOk code) = true) {off : Int} (hf : fnd T pc = some (.ifCond .eq off, 3, nx, tg)) (k : LwJ p l e s m below meth c b G tg Ls S h n sl) : LwJ p l e s m below meth c b G pc Ls (.int 0 :: S) h n sl := by
  intro H locs ls hW hS hl
  obtain ⟨hdg, rfl, htg⟩ := lt_ok hT hf
  exact lv_if_eq C.1.1 C.1.2.1 hdg (of_decide_eq_true htg) (fun _ => k H locs ls hW hS hl) (fun q => absurd rfl q)
theorem lw_gt (C : LC p s m meth c b L xs G) (hT : T.all (entOk code) = true) {x y : Int32} {off : Int} (hf : fnd T pc = some (.if_icmp .gt off, 3, nx, tg)) (kt : y < x → LwJ p l e s m below meth c b G tg Ls S h n sl) (kf : ¬ y < x → LwJ p l e s m below meth c b G nx Ls S h n sl) : LwJ p l e s m below meth c b G pc Ls (.int y :: .int x :: S) h n sl := by
  intro H locs ls hW hS hl
  obtain ⟨hdg, rfl, htg⟩ := lt_ok hT hf
  exact lv_icmp_gt C.1.1 C.1.2.1 hdg (of_decide_eq_true htg) (fun q => kt q H locs ls hW hS hl) (fun q => kf q H locs ls hW hS hl)
theorem lw_goto (C : LC p s m meth c b L xs G) (hT : T.all (entOk code) = true) {off : Int} (hf : fnd T pc = some (.goto off, 3, nx, tg)) (k : LwJ p l e s m below meth c b G tg Ls S h n sl) : LwJ p l e s m below meth c b G pc Ls S h n sl := by
  intro H locs ls hW hS hl
  obtain ⟨hdg, rfl, htg⟩ := lt_ok hT hf
  exact lv_goto C.1.1 C.1.2.1 hdg (of_decide_eq_true htg) (k H locs ls hW hS hl)
theorem lw_dup (C : LC p s m meth c b L xs G) (hT : T.all (entOk code) = true) {r : Nat} (hf : fnd T pc = some (.dup, 1, nx, tg)) (k : LwJ p l e s m below meth c b G nx Ls (.ref r :: .ref r :: S) h n sl) : LwJ p l e s m below meth c b G pc Ls (.ref r :: S) h n sl := by
  intro H locs ls hW hS hl
  obtain ⟨hdg, rfl, htg⟩ := lt_ok hT hf
  exact lv_dup C.1.1 C.1.2.1 hdg rfl (k H locs ls hW hS hl)
theorem lw_iinc (C : LC p s m meth c b L xs G) (hT : T.all (entOk code) = true) {i : Nat} {j : Int} {x v : Int32} (hf : fnd T pc = some (.iinc i j, 3, nx, tg)) (hv : mlkv Ls i = some (.int x)) (he : x + Int32.ofInt j = v) (hL : i < 4) (k : LwJ p l e s m below meth c b G nx (mst Ls i (.int v)) S h n sl) : LwJ p l e s m below meth c b G pc Ls S h n sl := by
  intro H locs ls hW hS hl
  obtain ⟨hdg, rfl, htg⟩ := lt_ok hT hf
  obtain ⟨kq, hkq⟩ := List.getElem?_of_mem (mlkv_mem hv)
  exact lv_iinc C.1.1 C.1.2.1 hdg hl hkq he hL rfl (fun ls1 hl1 => k H locs ls1 hW hS hl1)
theorem lw_istore (C : LC p s m meth c b L xs G) (hT : T.all (entOk code) = true) {q : Fin 4} {i : Nat} {x : Int32} (hf : fnd T pc = some (.istore_n q, 1, nx, tg)) (hi : (q : Nat) = i) (hL : i < 4) (k : LwJ p l e s m below meth c b G nx (mst Ls i (.int x)) S h n sl) : LwJ p l e s m below meth c b G pc Ls (.int x :: S) h n sl := by
  intro H locs ls hW hS hl
  obtain ⟨hdg, rfl, htg⟩ := lt_ok hT hf
  exact lv_istore_n C.1.1 C.1.2.1 hdg hi hl hL rfl (fun ls1 hl1 => k H locs ls1 hW hS hl1)
theorem lw_astore (C : LC p s m meth c b L xs G) (hT : T.all (entOk code) = true) {q : Fin 4} {i r : Nat} (hf : fnd T pc = some (.astore_n q, 1, nx, tg)) (hi : (q : Nat) = i) (hL : i < 4) (k : LwJ p l e s m below meth c b G nx (mst Ls i (.ref r)) S h n sl) : LwJ p l e s m below meth c b G pc Ls (.ref r :: S) h n sl := by
  intro H locs ls hW hS hl
  obtain ⟨hdg, rfl, htg⟩ := lt_ok hT hf
  exact lv_astore_n C.1.1 C.1.2.1 hdg hi hl hL rfl (fun ls1 hl1 => k H locs ls1 hW hS hl1)
theorem lw_locals {L2 : List (Nat × Value)} (hs : L2.map (fun q => mlkv Ls q.1) = L2.map (fun q => some q.2)) (k : LwJ p l e s m below meth c b G pc L2 S h n sl) : LwJ p l e s m below meth c b G pc Ls S h n sl := by
  intro H locs ls hW hS hl
  refine k H locs ls hW hS ⟨hl.1, hl.2.1, fun q hq => ?_⟩
  have e1 : mlkv Ls q.1 = some q.2 := List.map_inj_left.mp hs q hq
  exact hl.2.2 _ (mlkv_mem e1)
theorem lw_sz {R : Room} {T0 : State} {H : Heap} {locs : List Loc} {args : Array Value} (C : LC p s m meth c b L xs G) (hW : mWd G h n H) (hT : T0.heap = H) (hX : Stand p l e R s m args below meth c T0 locs n sl) : H.size = G.2.1 + n := by
  have h1 : T0.heap.size ≤ s.heap.size + n := hX.same.2.2.1
  have h2 : s.heap.size ≤ T0.heap.size := hX.same.2.1
  have h3 := C.2.2.1
  rw [hT] at h1 h2
  by_cases hz : n = 0
  · omega
  · have hlt := (hW.2 (n - 1) _ (mws_get G _ (by omega))).lt
    have h4 : G.2.1 + (n - 1) < H.size := hlt
    omega
theorem lw_goon {mc' ms' : Nat} {post' : Option Value → (Nat → MC) → Prop} {av : Array Value} {H : Heap} {locs : List Loc} {ls : Array Slot} {st0 St : List Value}
    (hS : va_S (mA G) s.heap H locs) (hl : lv_has ls 4 Ls)
    (hrun : va_Run p l e room_1 s m #[Value.ref b] below meth c H locs n sl mc' ms' (F0 m pc ls st0) St (MQc G (n + mc') post' av) (mA G))
    (k : ∀ r h1, post' r h1 → LwJ p l e s m below meth c b G (pc + 3) Ls ((r.map (cvV G.2.1)).toList ++ St) h1 (n + mc') (sl + ms')) :
    W p l e room_1 s m #[Value.ref b] below meth c H locs n sl (lw_Z below #[Value.ref b] s) (F0 m pc ls st0) := by
  intro T0 hT X0
  obtain ⟨v, st₀, t, T', Lo, e0, X', hL, e1, e2, ⟨⟨r, h1, hv, hp, hw, hk⟩, hz, hkp⟩, st⟩ := hrun T0 hT X0
  cases hv
  rw [e0] at hz hkp
  have hS2 : va_S (mA G) s.heap T'.heap (locs ++ Lo) := ⟨Nat.le_trans hS.1 (by rw [e1]; exact hz), fun q h1 h2 => by rw [e1, hkp q (Nat.lt_of_lt_of_le h1 hS.1) h2]; exact hS.2.1 q h1 h2, fun q hq => by
      rcases List.mem_append.mp hq with h | h
      · exact hS.2.2 q h
      · exact hL q h⟩
  have h5 := k r h1 hp T'.heap (locs ++ Lo) ls (by rw [e1]; exact hw) hS2 hl T' rfl X'
  obtain ⟨t2, a1, b1⟩ := h5
  exact ⟨t2, st t2 a1, b1⟩
theorem lw_callV {ix na a ci : Nat} {M' : MI} {as St : List Value} {post' : Option Value → (Nat → MC) → Prop} (hsp : Sp M' 8 0 0 (.ref a :: as) h n post') (C : LC p s m meth c b L xs G) (hT : T.all (entOk code) = true) (hf : fnd T pc = some (.invokevirtual ix, 3, nx, tg)) (hok : mi_ok M') (hv : mvOk RL ix M'.1 na) (has : as.map (cvV G.2.1) = as) (hst : St = as.reverse ++ .ref (G.2.1 + a) :: S) (hc : isO a ci h) (hq : vwCl[ci]?.map (fun q => q.1) = some M'.1.cls) (hlen : (lg_sl (.ref a :: as)).length ≤ M'.2.2.1) (hna : as.length = na) (hcat : (S.map fun v => v.category).sum ≤ 8) (hcs : n ≤ 600000) (hss : sl ≤ 7302250)
    (k : ∀ r h1, post' r h1 → LwJ p l e s m below meth c b G nx Ls ((r.map (cvV G.2.1)).toList ++ S) h1 n sl) : LwJ p l e s m below meth c b G pc Ls St h n sl := by
  intro H locs ls hW hS hl
  obtain ⟨hdg, rfl, htg⟩ := lt_ok hT hf
  subst hst
  have hts := C.w
  intro T0 hT0 X0
  have hz := lw_sz C hW hT0 X0
  obtain ⟨fs, hfd, hc⟩ := hc
  obtain ⟨q, hq1, hq2⟩ : ∃ q, vwCl[ci]? = some q ∧ q.1 = M'.1.cls := by
    cases h : vwCl[ci]? with
    | none => rw [h] at hq; cases hq
    | some q => rw [h] at hq; exact ⟨q, rfl, Option.some.inj hq⟩
  have hrecv := va_recv (D := G.1) C.2.1.1 hW.2 hq1 (hW.at hc (fun e => by cases e; exact hfd rfl))
  rw [hq2] at hrecv
  have hm := hok.2.2.1
  refine lw_goon (mc' := 0) (ms' := 0) hS hl (va_runV (As := as.map (cvV G.2.1)) ⟨C.1.1, C.1.2.1, C.1.2.2.2.1, C.1.2.2.2.2.1, hts⟩ (hsp.met hok hlen l G) (cwV na hts (mg_in hv.1 hok) rfl rfl rfl ⟨rfl, hv.2⟩ ⟨Nat.le_of_ble_eq_true rfl, ?_⟩) ⟨pc_blind G _ _ _, hrecv, fun U hU hWU => ⟨rfl, mK.moved hWU C.2.1, by rw [hU]; exact hW, by rw [hU]; exact hz⟩⟩ rfl (by rw [List.length_map]; exact hna) hl.1 (by show as.reverse ++ .ref (G.2.1 + a) :: S = _; rw [has]) (lv_room hcat) hdg ⟨hcs, hss⟩) k T0 hT0 X0
  show 8 + (M'.2.2.1 + 11) + 31 * 8 ≤ 382
  omega
theorem lw_callI {d ix a mc' ms' : Nat} {M' : MI} {post' : Option Value → (Nat → MC) → Prop} (hsp : Sp M' d mc' ms' [.ref a] h n post') (C : LC p s m meth c b L xs G) (hT : T.all (entOk code) = true) (hf : fnd T pc = some (.invokespecial ix, 3, nx, tg)) (hok : mi_ok M') (hret : M'.2.2.2.1 = none) (hv : miOk RL ix M'.1 0) (hlen : (lg_sl [.ref a]).length ≤ M'.2.2.1) (hcat : (S.map fun v => v.category).sum ≤ 8) (hd : d ≤ 8) (hcs : n + mc' ≤ 600000) (hss : sl + ms' ≤ 7302250)
    (k : ∀ r h1, post' r h1 → LwJ p l e s m below meth c b G nx Ls ((r.map (cvV G.2.1)).toList ++ S) h1 (n + mc') (sl + ms')) : LwJ p l e s m below meth c b G pc Ls (.ref (G.2.1 + a) :: S) h n sl := by
  intro H locs ls hW hS hl
  obtain ⟨hdg, rfl, htg⟩ := lt_ok hT hf
  have hts := C.w
  intro T0 hT0 X0
  have hz := lw_sz C hW hT0 X0
  have hm := hok.2.2.1
  have hcw := cwI (R := room_1) (s := s) (args := #[Value.ref b]) (own := RL) (index := ix) (y := M'.1) (bytes := M'.2.1) (maxL := M'.2.2.1) (ws := wsM M') (ws' := lw_gd) (rm := mroom d mc' ms') (mc := mc') (ms := ms') 0 hts (mg_ws hok) (by rw [← hret]; rfl) rfl rfl (hts _ (hv.1 _ (by simp))) (hts _ (hv.1 _ (by simp))) (hts _ (hv.1 _ (by simp))) hv.2.1 hv.2.2 ⟨by show d + 1 ≤ 10; omega, by show 8 + (M'.2.2.1 + 11) + 31 * d ≤ 382; omega⟩
  exact lw_goon hS hl (va_runI (As := []) (b := G.2.1 + a) ⟨C.1.1, C.1.2.1, C.1.2.2.2.1, C.1.2.2.2.2.1, hts⟩ (hsp.met hok hlen l G) hcw ⟨pc_blind G _ _ _, fun U hU hWU => ⟨rfl, mK.moved hWU C.2.1, by rw [hU]; exact hW, by rw [hU]; exact hz⟩⟩ rfl rfl hl.1 rfl (lv_room hcat) hdg ⟨hcs, hss⟩) k T0 hT0 X0
theorem lw_new {ix ci N : Nat} {fs : List Value} (C : LC p s m meth c b L xs G) (hT : T.all (entOk code) = true) (hf : fnd T pc = some (.new ix, 3, nx, tg)) (hno : newOk RL ix ci N fs) (hcs : n + 1 ≤ 600000) (hss : sl + N ≤ 7302250) (k : LwJ p l e s m below meth c b G nx Ls (.ref (G.2.1 + n) :: S) (hset h n (.inr (ci, fs))) (n + 1) (sl + N)) : LwJ p l e s m below meth c b G pc Ls S h n sl := by
  intro H locs ls hW hS hl
  obtain ⟨hdg, rfl, htg⟩ := lt_ok hT hf
  obtain ⟨C1, T1, ty, h1, h2, h3, h4, h5, h6⟩ := hno
  have hts := C.w
  intro T0 hT0 X0
  have hz := lw_sz C hW hT0 X0
  have hKn := C.2.1.1.1 ci _ h1
  have hw1 : Cond.classLink RL ix C1 ∈ lw_gd := h4 _ (by simp)
  have hw2 : Cond.instantiable C1 N ∈ lw_gd := h4 _ (by simp)
  have hw3 : Cond.initialized C1 ∈ lw_gd := h4 _ (by simp)
  refine W.newcK C.1.1 C.1.2.1 C.1.2.2.2.2.1 (hts _ hw1) (hts _ hw2) (hts _ hw3) (g := F0 m pc ls S) rfl hdg hcs hss hKn.2.1 hz (fun H1 kC hkC e1 z1 o1 => ?_) T0 hT0 X0
  have hat : va_at G.1 vwCl (G.2.1 + n, cvC G.2.1 G.2.2 (.inr (ci, fs))) H1 := ⟨_, h1, (u_born ty hts h2 hKn hkC e1 h3).to (fun j hj => by
    show defaultValue (ty j) = vp_V (fs.map (cvV G.2.1)) j
    rw [h6]
    exact h5 j hj)⟩
  have e3 := C.2.2.1
  exact k H1 locs ls (hW.push _ hz o1 hat) ⟨by have := hS.1; omega, fun x g1 g2 => (o1 x (by omega)).trans (hS.2.1 x g1 g2), hS.2.2⟩ hl
theorem lw_tab (C : LC p s m meth c b L xs G) {dflt lo hi : Int} {offs : Array Int} {len k : Nat} {off : Int} (hdg : decode code pc = .ok (.tableswitch dflt lo hi offs, len)) (hk : k < 100) (h1 : lo = 0) (h2 : (k : Int) ≤ hi) (ho : offs[k]? = some off) (ht : (pc : Int) + off = (tg : Int)) (kk : LwJ p l e s m below meth c b G tg Ls S h n sl) : LwJ p l e s m below meth c b G pc Ls (.int (nI k) :: S) h n sl := by
  intro H locs ls hW hS hl
  subst h1
  have e1 : (nI k).toInt = (k : Int) := nI_toInt (by omega)
  exact lv_tableIn C.1.1 C.1.2.1 hdg (by rw [e1]; omega) (by rw [e1]; omega) (by rw [e1]; exact ho) ht (kk H locs ls hW hS hl)
theorem lw_tabO (C : LC p s m meth c b L xs G) {dflt lo hi : Int} {offs : Array Int} {len k : Nat} (hdg : decode code pc = .ok (.tableswitch dflt lo hi offs, len)) (hk : k < 100) (h2 : hi < (k : Int)) (ht : (pc : Int) + dflt = (tg : Int)) (kk : LwJ p l e s m below meth c b G tg Ls S h n sl) : LwJ p l e s m below meth c b G pc Ls (.int (nI k) :: S) h n sl := by
  intro H locs ls hW hS hl
  have e1 : (nI k).toInt = (k : Int) := nI_toInt (by omega)
  exact lv_tableOut C.1.1 C.1.2.1 hdg (Or.inr (by rw [e1]; exact h2)) ht (kk H locs ls hW hS hl)
theorem lw_end (C : LC p s m meth c b L xs G) (hdg : decode code pc = .ok (.ireturn, 1)) (hcs : n ≤ 600000) (hss : sl ≤ 7302250) : LwJ p l e s m below meth c b G pc Ls [.int 1] h n sl := by
  intro H locs ls hW hS hl
  have e3 := C.2.2.1
  refine va_forget (fun q hq => by have h1 : G.2.1 ≤ q.base := hS.2.2 q hq; omega) ?_
  refine W.widen (k := 600000) (n := 7302250) hcs hss ?_
  exact W.base (lw_ret (Drawn.sameBut.refl s.drawn lw_cs) C.1.1 C.1.2.1 C.1.2.2.1 C.1.2.2.2.2.2.2.2.2.1 hdg)
theorem cat_le (f : Value → Value) (r : Option Value) : ((((r.map f).toList ++ ([] : List Value)).map fun v => v.category)).sum ≤ 8 := by
  cases r with
  | none => exact Nat.zero_le _
  | some v =>
    show (f v).category + 0 ≤ 8
    cases f v <;> exact Nat.le_of_ble_eq_true rfl
end LAWS
