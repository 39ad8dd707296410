/-! THE CLAIM OUT OF ONE WALK OF THE LAW'S BODY. Your part is whole_start (and what it stands on); all else here is the same for every law, but numbers. -/
def R_law : String := "FactOriginsLaw"
def lw_P (b : Addr) (xs : List Int32) (args : Array Value) (s : State) : Prop := args = #[.ref b] ∧ s.IntsAt b xs ∧ xs.length ≤ 260 ∧ (Jvm.Cond.and given_1 narrow_1).before args s = true
/-- what a walk over the start with the record d0 says of its end, said of the start itself -/
theorem lw_closed {s t : State} {o : Outcome} {d0 : Drawn} {L : List Loc} {k n : Nat} (hd0 : s.drawn.sameBut d0 lw_cs) (hv : ∃ v, o = .returned v) (hW : (s.setDrawn d0).WarmedH t.vm) (hs : (s.setDrawn d0).sameButNew ({ t with vm := s.vm } : State) L k n) : State.butDraws s t lw_cs (fun t1 => Framed s o t1 L k n) := by
  have h2 : t.drawn = d0 := congrArg State.drawn hs.1
  refine ⟨⟨hv, hW, State.sameButNew.setDrawn hs s.drawn⟩, ?_, by decide⟩
  rw [h2]
  exact hd0
def lw_Q (_ : Array Value) (s : State) (o : Outcome) (t : State) : Prop := o = .returned (some (.int 1)) ∧ State.butDraws s t lw_cs (fun t1 => Framed s o t1 [] 600000 7302250)
def lw_Z (below : List Frame) (a : Array Value) (s : State) : State → Prop := fun t => ∃ o, t.status = .running ∧ Ended t below o ∧ lw_Q a s o t
/-- the law's own end, with 1 on the stack, nothing written that was there before, its room as the claim has it; d0: the record of draws at this point (at the entry s.drawn: begin with 'refine W.base ?_' and 'have hd0 := Drawn.sameBut.refl s.drawn lw_cs') -/
theorem lw_ret {p : Program} {l : Launch} {e : Env} {s : State} {m : MethodId} {below : List Frame} {meth : Method} {c : Code} {b : Nat} {d0 : Drawn} (hd0 : s.drawn.sameBut d0 lw_cs) (hx : p.tables.exec = Jvm.exec) (hb : c.code = code) (hr : meth.sig.returnType = ret) (hlocks : meth.locks = false) {pc : Nat} {H : Heap} {ls : Array Slot} (hdg : decode code pc = .ok (.ireturn, 1)) : W p l e room_1 (s.setDrawn d0) m #[Value.ref b] below meth c H [] 600000 7302250 (lw_Z below #[Value.ref b] s) (F0 m pc ls [.int 1]) := by
  intro T hT X
  obtain ⟨fs, hret, hrun, hended, hW, hframe⟩ := X.leave (v := some (.int 1)) (hlocks := hlocks) (fun h => by rw [hr] at h; cases h)
  have hmeth' : T.vm.method? m = some meth := X.method'
  refine ⟨T.setFrames fs, ?_, .returned (some (.int 1)), hrun, hended, rfl, lw_closed hd0 ⟨_, rfl⟩ hW hframe⟩
  jvm_step X.here [X.here.top, hx, hb, hdg, hmeth', hr, ret, narrow_b1]
  (try refine ⟨rfl, ?_⟩); (try refine ⟨rfl, ?_⟩)
  first | (intro acts; rw [hret _ acts rfl rfl rfl]) | rw [hret _ _ rfl rfl rfl]
  exact Steps.refl _
/-- what holds at the law's entry: the machine, the code, the tables' words (any of lw_tbl by 'hts w (by decide +kernel)'), the script of L ints xs at the cell b, what the Statement gives of the start (any of its parts by flat_of_before) -/
def lw_At (p : Program) (s : State) (m : MethodId) (meth : Method) (c : Code) (b L : Nat) (xs : Nat → Int32) : Prop :=
  p.tables.exec = Jvm.exec ∧ c.code = code ∧ meth.sig.returnType = ret ∧ c.maxLocals = 12 ∧ s.vm.findClass R_law = some m.cls ∧ (∀ w ∈ lw_tbl, w.before #[Value.ref b] s = true) ∧ va_X b L xs s s.heap ∧ b < s.heap.size ∧ meth.locks = false ∧ (Jvm.Cond.and given_1 narrow_1).before #[Value.ref b] s = true
/-! THE LAW'S FRAME: the same judgement as for methods, over the law's own end; locals: the script at 0, the others by cell numbers -/
section LAWS
variable {p : Program} {l : Launch} {e : Env} {s : State} {m : MethodId} {below : List Frame} {meth : Method} {c : Code} {b Ln : Nat} {xs : Nat → Int32} {G : MG} {pc n sl nx tg : Nat} {h : Nat → MC} {Ls : List (Nat × Value)} {St : List Value} {L : List (Nat × Value)} {S : List Value}
def LC (p : Program) (s : State) (m : MethodId) (meth : Method) (c : Code) (b Ln : Nat) (xs : Nat → Int32) (G : MG) : Prop := lw_At p s m meth c b Ln xs ∧ mK G s ∧ s.heap.size = G.2.1 ∧ Ln ≤ 260
def LwJ (p : Program) (l : Launch) (e : Env) (s : State) (m : MethodId) (below : List Frame) (meth : Method) (c : Code) (b : Nat) (G : MG) (pc : Nat) (Ls : List (Nat × Value)) (St : List Value) (h : Nat → MC) (n sl : Nat) : Prop :=
  ∀ (H : Heap) (locs : List Loc) (ls : Array Slot), mWd G h n H → va_S (mA G) s.heap H locs → lv_has ls 12 Ls → W p l e room_1 s m #[Value.ref b] below meth c H locs n sl (lw_Z below #[Value.ref b] s) (F0 m pc ls St)
def LM (p : Program) (l : Launch) (e : Env) (s : State) (m : MethodId) (below : List Frame) (meth : Method) (c : Code) (b : Nat) (G : MG) (pc : Nat) (L : List (Nat × Value)) (S : List Value) (h : Nat → MC) (n sl : Nat) : Prop := LwJ p l e s m below meth c b G pc (cvL G.2.1 L ++ [(0, .ref b)]) (S.map (cvV G.2.1)) h n sl
theorem LC.w (C : LC p s m meth c b Ln xs G) : ∀ w ∈ lw_gd, w.before #[Value.ref b] s = true := fun w hw => C.1.2.2.2.2.2.1 w (List.mem_filter.mp hw).1
theorem LC.hbA (C : LC p s m meth c b Ln xs G) : ¬ mA G b := by
  have h1 := C.1.2.2.2.2.2.2.2.1
  have h2 := C.2.2.1
  show ¬ G.2.1 ≤ b
  omega
theorem lt_ok (hT : LTw.all (entOk code) = true) {i : Instr} {len : Nat} (he : fnd LTw pc = some (i, len, nx, tg)) : decode code pc = .ok (i, len) ∧ nx = pc + len ∧ tgOk pc i tg = true := by
  have h := List.all_eq_true.mp hT _ (fnd_mem he)
  simp only [entOk, Bool.and_eq_true, decide_eq_true_eq] at h
  exact h
theorem matL {ls : Array Slot} {n b b0 : Nat} {L : List (Nat × Value)} (h : lv_has ls n (cvL b L ++ [(0, .ref b0)])) {i : Nat} {v : Value} (e : mlkv L i = some v) : ls[i]? = some (.val (cvV b v)) :=
  h.2.2 (i, cvV b v) (List.mem_append_left _ (List.mem_map.mpr ⟨(i, v), mlkv_mem e, rfl⟩))
theorem lmL {i : Nat} {N : Nat} (h : (Nat.ble 1 i && Nat.ble (i + N) 12) = true) : 0 < i ∧ i + N ≤ 12 := by
  simp only [Bool.and_eq_true] at h
  exact ⟨Nat.le_of_ble_eq_true h.1, Nat.le_of_ble_eq_true h.2⟩
theorem fl_one (f : Nat × Value → Bool) (q : Nat × Value) (hf : f q = true) : List.filter f [q] = [q] := by
  rw [List.filter_cons_of_pos hf]
  rfl
theorem mst_cvL (b : Nat) (L : List (Nat × Value)) {i : Nat} (hi : 0 < i) (v : Value) (r : Nat) : (i, cvV b v) :: (cvL b L ++ [(0, Value.ref r)]).filter (fun q => !(q.1 == i) && !(q.1 + 1 == i && q.2.category == 2)) = cvL b (mst L i v) ++ [(0, Value.ref r)] := by
  rw [List.filter_append, ← List.cons_append, mst_cv]
  have e : (0 == i) = false := beq_eq_false_iff_ne.mpr (by omega)
  have e2 : ((Value.ref r).category == 2) = false := rfl
  rw [fl_one _ _ (show (!((0 : Nat) == i) && !((0 : Nat) + 1 == i && (Value.ref r).category == 2)) = true by rw [e, e2, Bool.and_false]; rfl)]
theorem mst2_cvL (b : Nat) (L : List (Nat × Value)) {i : Nat} (hi : 0 < i) (v : Value) (r : Nat) : (i, cvV b v) :: (cvL b L ++ [(0, Value.ref r)]).filter (fun q => !(q.1 == i) && (!(q.1 == i + 1) && !(q.1 + 1 == i && q.2.category == 2))) = cvL b (mst2 L i v) ++ [(0, Value.ref r)] := by
  rw [List.filter_append, ← List.cons_append, mst2_cv]
  have e : (0 == i) = false := beq_eq_false_iff_ne.mpr (by omega)
  have e2 : ((Value.ref r).category == 2) = false := rfl
  have e3 : (0 == i + 1) = false := beq_eq_false_iff_ne.mpr (by omega)
  rw [fl_one _ _ (show (!((0 : Nat) == i) && (!((0 : Nat) == i + 1) && !((0 : Nat) + 1 == i && (Value.ref r).category == 2))) = true by rw [e, e2, e3, Bool.and_false]; rfl)]
theorem lm_locals {L2 : List (Nat × Value)} (hs : L2.map (fun q => mlkv L q.1) = L2.map (fun q => some q.2)) (k : LM p l e s m below meth c b G pc L2 S h n sl) : LM p l e s m below meth c b G pc L S h n sl := by
  intro H locs ls hW hS hl
  refine k H locs ls hW hS ⟨hl.1, hl.2.1, fun q hq => ?_⟩
  rcases List.mem_append.mp hq with hq | hq
  · obtain ⟨q0, h0, rfl⟩ := List.mem_map.mp hq
    have e : mlkv L q0.1 = some q0.2 := List.map_inj_left.mp hs q0 h0
    exact hl.2.2 _ (List.mem_append_left _ (List.mem_map.mpr ⟨q0, mlkv_mem e, rfl⟩))
  · exact hl.2.2 _ (List.mem_append_right _ hq)
theorem lm_heap {h2 : Nat → MC} (eh : h2 = h) (k : LM p l e s m below meth c b G pc L S h2 n sl) : LM p l e s m below meth c b G pc L S h n sl := eh ▸ k
theorem lw_sz {R : Room} {T0 : State} {H : Heap} {locs : List Loc} {args : Array Value} (C : LC p s m meth c b Ln xs G) (hW : mWd G h n H) (hT : T0.heap = H) (hX : Stand p l e R s m args below meth c T0 locs n sl) : H.size = G.2.1 + n := by
  have h1 : T0.heap.size ≤ s.heap.size + n := hX.same.2.2.1
  have h2 : s.heap.size ≤ T0.heap.size := hX.same.2.1
  have h3 := C.2.2.1
  rw [hT] at h1 h2
  by_cases hz : n = 0
  · omega
  · have hlt := (hW.2 (n - 1) _ (mws_get G _ (by omega))).lt
    have h4 : G.2.1 + (n - 1) < H.size := hlt
    omega
theorem lw_goon {mc' ms' : Nat} {post' : Option Value → (Nat → MC) → Prop} {av : Array Value} {H : Heap} {locs : List Loc} {ls : Array Slot} {st0 : List Value}
    (hS : va_S (mA G) s.heap H locs) (hl : lv_has ls 12 (cvL G.2.1 L ++ [(0, .ref b)]))
    (hrun : va_Run p l e room_1 s m #[Value.ref b] below meth c H locs n sl mc' ms' (F0 m pc ls st0) (S.map (cvV G.2.1)) (MQc G (n + mc') post' av) (mA G))
    (k : ∀ r h1, post' r h1 → LM p l e s m below meth c b G (pc + 3) L (r.toList ++ S) h1 (n + mc') (sl + ms')) :
    W p l e room_1 s m #[Value.ref b] below meth c H locs n sl (lw_Z below #[Value.ref b] s) (F0 m pc ls st0) := by
  intro T0 hT X0
  obtain ⟨v, st₀, t, T', Lo, e0, X', hL, e1, e2, ⟨⟨r, h1, hv, hp, hw, hk⟩, hz, hkp⟩, st⟩ := hrun T0 hT X0
  cases hv
  rw [e0] at hz hkp
  have hS2 : va_S (mA G) s.heap T'.heap (locs ++ Lo) := ⟨Nat.le_trans hS.1 (by rw [e1]; exact hz), fun q h1 h2 => by rw [e1, hkp q (Nat.lt_of_lt_of_le h1 hS.1) h2]; exact hS.2.1 q h1 h2, fun q hq => by
      rcases List.mem_append.mp hq with h | h
      · exact hS.2.2 q h
      · exact hL q h⟩
  have h5 := k r h1 hp T'.heap (locs ++ Lo) ls (by rw [e1]; exact hw) hS2 hl T' rfl X'
  obtain ⟨t2, a1, b1⟩ := h5
  refine ⟨t2, st t2 ?_, b1⟩
  have hst : (Option.map (cvV G.2.1) r).toList ++ S.map (cvV G.2.1) = (r.toList ++ S).map (cvV G.2.1) := by cases r <;> rfl
  show Steps p.tables e below (T'.setTop (F0 m (pc + 3) ls ((Option.map (cvV G.2.1) r).toList ++ S.map (cvV G.2.1)))) t2
  rw [hst]
  exact a1
theorem lm_callV {ix na a ci dd : Nat} {M' : MI} {as Sa : List Value} {post' : Option Value → (Nat → MC) → Prop} (C : LC p s m meth c b Ln xs G) (hsp : Sp M' dd 0 0 (.ref a :: as) h n post') (hf : fnd LTw pc = some (.invokevirtual ix, 3, nx, tg)) (hok : mi_ok M') (hv : mvOk RL ix M'.1 na) (hst : Sa = as.reverse ++ .ref a :: S) (hc : isO a ci h) (hq : vwCl[ci]?.map (fun q => q.1) = some M'.1.cls) (hlen : (lg_sl (.ref a :: as)).length ≤ M'.2.2.1) (hna : as.length = na) (hcat : (S.map fun v => v.category).sum ≤ 8) (hd : dd ≤ 9) (hcs : n ≤ 600000) (hss : sl ≤ 7302250)
    (k : ∀ r h1, post' r h1 → LM p l e s m below meth c b G nx L (r.toList ++ S) h1 n sl) : LM p l e s m below meth c b G pc L Sa h n sl := by
  intro H locs ls hW hS hl
  obtain ⟨hdg, rfl, htg⟩ := lt_ok LTw_ok hf
  subst hst
  have hts := C.w
  intro T0 hT0 X0
  have hz := lw_sz C hW hT0 X0
  obtain ⟨fs, hfd, hc⟩ := hc
  obtain ⟨q, hq1, hq2⟩ : ∃ q, vwCl[ci]? = some q ∧ q.1 = M'.1.cls := by
    cases h : vwCl[ci]? with
    | none => rw [h] at hq; cases hq
    | some q => rw [h] at hq; exact ⟨q, rfl, Option.some.inj hq⟩
  have hrecv := va_recv (D := G.1) C.2.1.1 hW.2 hq1 (hW.at hc (fun e => by cases e; exact hfd rfl))
  rw [hq2] at hrecv
  have hm := hok.2.2.1
  refine lw_goon (mc' := 0) (ms' := 0) hS hl (va_runV (As := as.map (cvV G.2.1)) ⟨C.1.1, C.1.2.1, C.1.2.2.2.1, C.1.2.2.2.2.1, hts⟩ (hsp.met hok hlen l G) (cwV na hts (mg_in hv.1 hok) rfl rfl rfl ⟨rfl, hv.2⟩ ⟨show dd + 1 ≤ 10 by omega, ?_⟩) ⟨pc_blind G _ _ _, hrecv, fun U hU hWU => ⟨rfl, mK.moved hWU C.2.1, by rw [hU]; exact hW, by rw [hU]; exact hz⟩⟩ rfl (by rw [List.length_map]; exact hna) hl.1 (by show List.map (cvV G.2.1) (as.reverse ++ .ref a :: S) = _; simp [cvV]) (lv_room (by rw [cat_sum_cv]; exact hcat)) hdg ⟨hcs, hss⟩) k T0 hT0 X0
  show 8 + (M'.2.2.1 + 11) + 42 * dd ≤ 422
  omega
theorem lm_callS {ix na dd : Nat} {M' : MI} {as Sa : List Value} {post' : Option Value → (Nat → MC) → Prop} (C : LC p s m meth c b Ln xs G) (hsp : Sp M' dd 0 0 as h n post') (hf : fnd LTw pc = some (.invokestatic ix, 3, nx, tg)) (hok : mi_ok M') (hv : msOk RL ix M'.1 na) (hst : Sa = as.reverse ++ S) (hlen : (lg_sl as).length ≤ M'.2.2.1) (hna : as.length = na) (hcat : (S.map fun v => v.category).sum ≤ 8) (hd : dd ≤ 9) (hcs : n ≤ 600000) (hss : sl ≤ 7302250)
    (k : ∀ r h1, post' r h1 → LM p l e s m below meth c b G nx L (r.toList ++ S) h1 n sl) : LM p l e s m below meth c b G pc L Sa h n sl := by
  intro H locs ls hW hS hl
  obtain ⟨hdg, rfl, htg⟩ := lt_ok LTw_ok hf
  subst hst
  have hts := C.w
  intro T0 hT0 X0
  have hz := lw_sz C hW hT0 X0
  have hm := hok.2.2.1
  have hB : CallB room_1 s #[Value.ref b] RL ix M'.1 M'.2.1 M'.2.2.1 M'.2.2.2.1 (wsM M') (mroom dd 0 0) 0 0 na := callB_of na hts (mg_ws hok) rfl rfl rfl (hts _ (hv.1 _ (by simp))) (hts _ (hv.1 _ (by simp))) hv.2 ⟨show dd + 1 ≤ 10 by omega, by show 8 + (M'.2.2.1 + 11) + 42 * dd ≤ 422; omega⟩
  exact lw_goon (mc' := 0) (ms' := 0) hS hl (va_runS (As := as.map (cvV G.2.1)) ⟨C.1.1, C.1.2.1, C.1.2.2.2.1, C.1.2.2.2.2.1, hts⟩ (hsp.met hok hlen l G) ⟨hB, hts _ (hv.1 _ (by simp))⟩ ⟨pc_blind G _ _ _, fun U hU hWU => ⟨rfl, mK.moved hWU C.2.1, by rw [hU]; exact hW, by rw [hU]; exact hz⟩⟩ rfl (by rw [List.length_map]; exact hna) hl.1 (by show List.map (cvV G.2.1) (as.reverse ++ S) = _; simp) (lv_room (by rw [cat_sum_cv]; exact hcat)) hdg ⟨hcs, hss⟩) k T0 hT0 X0
theorem lm_callI {dd ix a mc' ms' : Nat} {M' : MI} {post' : Option Value → (Nat → MC) → Prop} (C : LC p s m meth c b Ln xs G) (hsp : Sp M' dd mc' ms' [.ref a] h n post') (hf : fnd LTw pc = some (.invokespecial ix, 3, nx, tg)) (hok : mi_ok M') (hret : M'.2.2.2.1 = none) (hv : miOk RL ix M'.1 0) (hlen : (lg_sl [.ref a]).length ≤ M'.2.2.1) (hcat : (S.map fun v => v.category).sum ≤ 8) (hd : dd ≤ 9) (hcs : n + mc' ≤ 600000) (hss : sl + ms' ≤ 7302250)
    (k : ∀ r h1, post' r h1 → LM p l e s m below meth c b G nx L (r.toList ++ S) h1 (n + mc') (sl + ms')) : LM p l e s m below meth c b G pc L (.ref a :: S) h n sl := by
  intro H locs ls hW hS hl
  obtain ⟨hdg, rfl, htg⟩ := lt_ok LTw_ok hf
  have hts := C.w
  intro T0 hT0 X0
  have hz := lw_sz C hW hT0 X0
  have hm := hok.2.2.1
  have hcw := cwI (R := room_1) (s := s) (args := #[Value.ref b]) (own := RL) (index := ix) (y := M'.1) (bytes := M'.2.1) (maxL := M'.2.2.1) (ws := wsM M') (ws' := lw_gd) (rm := mroom dd mc' ms') (mc := mc') (ms := ms') 0 hts (mg_ws hok) (by rw [← hret]; rfl) rfl rfl (hts _ (hv.1 _ (by simp))) (hts _ (hv.1 _ (by simp))) (hts _ (hv.1 _ (by simp))) hv.2.1 hv.2.2 ⟨by show dd + 1 ≤ 10; omega, by show 8 + (M'.2.2.1 + 11) + 42 * dd ≤ 422; omega⟩
  exact lw_goon hS hl (va_runI (As := []) (b := G.2.1 + a) ⟨C.1.1, C.1.2.1, C.1.2.2.2.1, C.1.2.2.2.2.1, hts⟩ (hsp.met hok hlen l G) hcw ⟨pc_blind G _ _ _, fun U hU hWU => ⟨rfl, mK.moved hWU C.2.1, by rw [hU]; exact hW, by rw [hU]; exact hz⟩⟩ rfl rfl hl.1 rfl (lv_room (by rw [cat_sum_cv]; exact hcat)) hdg ⟨hcs, hss⟩) k T0 hT0 X0
theorem lm_new {ix ci N : Nat} {fs : List Value} (C : LC p s m meth c b Ln xs G) (hf : fnd LTw pc = some (.new ix, 3, nx, tg)) (hno : newOk RL ix ci N fs) (hcs : n + 1 ≤ 600000) (hss : sl + N ≤ 7302250) (k : LM p l e s m below meth c b G nx L (.ref n :: S) (hset h n (.inr (ci, fs))) (n + 1) (sl + N)) : LM p l e s m below meth c b G pc L S h n sl := by
  intro H locs ls hW hS hl
  obtain ⟨hdg, rfl, htg⟩ := lt_ok LTw_ok hf
  obtain ⟨C1, T1, ty, h1, h2, h3, h4, h5, h6⟩ := hno
  have hts := C.w
  intro T0 hT0 X0
  have hz := lw_sz C hW hT0 X0
  have hKn := C.2.1.1.1 ci _ h1
  have hw1 : Cond.classLink RL ix C1 ∈ lw_gd := h4 _ (by simp)
  have hw2 : Cond.instantiable C1 N ∈ lw_gd := h4 _ (by simp)
  have hw3 : Cond.initialized C1 ∈ lw_gd := h4 _ (by simp)
  refine W.newcK C.1.1 C.1.2.1 C.1.2.2.2.2.1 (hts _ hw1) (hts _ hw2) (hts _ hw3) (g := F0 m pc ls (S.map (cvV G.2.1))) rfl hdg hcs hss hKn.2.1 hz (fun H1 kC hkC e1 z1 o1 => ?_) T0 hT0 X0
  have hat : va_at G.1 vwCl (G.2.1 + n, cvC G.2.1 G.2.2 (.inr (ci, fs))) H1 := ⟨_, h1, (u_born ty hts h2 hKn hkC e1 h3).to (fun j hj => by
    show defaultValue (ty j) = vp_V (fs.map (cvV G.2.1)) j
    rw [h6]
    exact h5 j hj)⟩
  have e3 := C.2.2.1
  exact k H1 locs ls (hW.push _ hz o1 hat) ⟨by have := hS.1; omega, fun x g1 g2 => (o1 x (by omega)).trans (hS.2.1 x g1 g2), hS.2.2⟩ hl
theorem lm_newarray {N ti : Nat} {aty : ArrayType} {ty : FieldType} {x : (Nat → Int32) ⊕ (Nat → Int64) ⊕ (Nat → UInt32) ⊕ (Nat → UInt64) ⊕ (Nat → Option Nat)} (C : LC p s m meth c b Ln xs G) (hf : fnd LTw pc = some (.newarray aty, 2, nx, tg)) (hty : newarray.typeOf aty = ty) (ht : mtys[ti]? = some ty) (hcls : Cond.arrayClass ty ∈ lw_gd) (ha : ∀ cA, vp_cell cA (N, x) = arrV cA N (fun _ => defaultValue ty)) (hcv : ∀ b, cvA b (N, x) = (N, x)) (hN : N ≤ 100000) (hcs : n + 1 ≤ 600000) (hss : sl + N ≤ 7302250)
    (k : LM p l e s m below meth c b G nx L (.ref n :: S) (hset h n (.inl (ty, N, x))) (n + 1) (sl + N)) : LM p l e s m below meth c b G pc L (.int (nI N) :: S) h n sl := by
  intro H locs ls hW hS hl
  obtain ⟨hdg, rfl, htg⟩ := lt_ok LTw_ok hf
  subst hty
  have hts := C.w
  intro T0 hT X0
  have hz := lw_sz C hW hT X0
  have ht2 : (mTT G)[ti]? = some (G.2.2 (newarray.typeOf aty), newarray.typeOf aty) := by rw [mTT, List.getElem?_map, ht]; rfl
  have hRA := (C.2.1.1.2 ti _ ht2).2
  have hfc : s.vm.findClass ("[" ++ (newarray.typeOf aty).toString) = some (G.2.2 (newarray.typeOf aty)) := by cases aty <;> exact hRA
  refine va_newaK C.1.1 C.1.2.1 (hts _ hcls) (g := F0 m pc ls (.int (nI N) :: S.map (cvV G.2.1))) rfl hdg rfl (nI_pos (by omega)) (nI_clamp (by omega)) (by cases aty <;> (simp [newarray.typeOf, componentBytes]; omega)) hcs hss hz (fun H1 cA e1 z1 o1 hAr hNm => ?_) T0 hT X0
  have hcA : cA = G.2.2 (newarray.typeOf aty) := Option.some.inj (hNm.symm.trans hfc)
  subst hcA
  have hat : va_at G.1 vwCl (G.2.1 + n, cvC G.2.1 G.2.2 (.inl (newarray.typeOf aty, N, x))) H1 := by
    show H1[G.2.1 + n]? = some (vp_cell (G.2.2 (newarray.typeOf aty)) (cvA G.2.1 (N, x)))
    rw [hcv, ha]
    exact e1
  have e3 := C.2.2.1
  exact k H1 locs ls (hW.push _ hz o1 hat) ⟨by have := hS.1; omega, fun x g1 g2 => (o1 x (by have := hS.1; omega)).trans (hS.2.1 x g1 g2), hS.2.2⟩ hl
theorem lw_end (C : LC p s m meth c b Ln xs G) (hdg : decode code pc = .ok (.ireturn, 1)) (hcs : n ≤ 600000) (hss : sl ≤ 7302250) : LwJ p l e s m below meth c b G pc Ls [.int 1] h n sl := by
  intro H locs ls hW hS hl
  have e3 := C.2.2.1
  refine va_forget (fun q hq => by have h1 : G.2.1 ≤ q.base := hS.2.2 q hq; omega) ?_
  refine W.widen (k := 600000) (n := 7302250) hcs hss ?_
  exact W.base (lw_ret (Drawn.sameBut.refl s.drawn lw_cs) C.1.1 C.1.2.1 C.1.2.2.1 C.1.2.2.2.2.2.2.2.2.1 hdg)
/-- a call of the object -/
theorem lm_ask {ix na dd : Nat} {M' : MI} {as Sa : List Value} {D D' : LD} {h0 : Nat → MC} {A : Option Value → Prop} (C : LC p s m meth c b Ln xs G) (hsp : Sp M' dd 0 0 (.ref 0 :: as) h n (KRet A D' h)) (hJ : SJ D h0 h) (hf : fnd LTw pc = some (.invokevirtual ix, 3, nx, tg)) (hok : mi_ok M') (hv : mvOk RL ix M'.1 na) (hst : Sa = as.reverse ++ .ref 0 :: S) (hq : vwCl[9]?.map (fun q => q.1) = some M'.1.cls) (hlen : (lg_sl (.ref 0 :: as)).length ≤ M'.2.2.1) (hna : as.length = na) (hcat : (S.map fun v => v.category).sum ≤ 8) (hd : dd ≤ 9) (hcs : n ≤ 600000) (hss : sl ≤ 7302250)
    (k : ∀ r h1, A r → SJ D' h0 h1 → LM p l e s m below meth c b G nx L (r.toList ++ S) h1 n sl) : LM p l e s m below meth c b G pc L Sa h n sl :=
  lm_callV C hsp hf hok hv hst hJ.1.c0 hq hlen hna hcat hd hcs hss (fun r h1 w => k r h1 w.1 (hJ.go w))
theorem lm_askI {ix na dd : Nat} {M' : MI} {as Sa : List Value} {D D' : LD} {h0 : Nat → MC} {y : Int32} (C : LC p s m meth c b Ln xs G) (hsp : Sp M' dd 0 0 (.ref 0 :: as) h n (KRet (fun r => r = some (.int y)) D' h)) (hJ : SJ D h0 h) (hf : fnd LTw pc = some (.invokevirtual ix, 3, nx, tg)) (hok : mi_ok M') (hv : mvOk RL ix M'.1 na) (hst : Sa = as.reverse ++ .ref 0 :: S) (hq : vwCl[9]?.map (fun q => q.1) = some M'.1.cls) (hlen : (lg_sl (.ref 0 :: as)).length ≤ M'.2.2.1) (hna : as.length = na) (hcat : (S.map fun v => v.category).sum ≤ 8) (hd : dd ≤ 9) (hcs : n ≤ 600000) (hss : sl ≤ 7302250)
    (k : ∀ h1, SJ D' h0 h1 → LM p l e s m below meth c b G nx L (.int y :: S) h1 n sl) : LM p l e s m below meth c b G pc L Sa h n sl :=
  lm_ask C hsp hJ hf hok hv hst hq hlen hna hcat hd hcs hss (fun r h1 hr hj => by
    subst hr
    exact k h1 hj)
end LAWS
