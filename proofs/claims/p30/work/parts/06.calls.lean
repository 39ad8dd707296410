section MWOPS2
variable {M : MI} {d mc ms n0 : Nat} {post : Option Value → (Nat → MC) → Prop} {pc : Nat} {L : List (Nat × Value)} {S : List Value} {h : Nat → MC} {n sl : Nat}
theorem mw_getfield {nx tg ix ci kf a : Nat} {ty : FieldType} {fin : Bool} {fs : List Value} {v : Value} (hf : fch M pc = some (.getfield ix, 3, nx, tg)) (hfo : fldOk M.1.cls ix ci kf ty fin) (hc : h a = (.inr (ci, fs))) (hv : fs[kf]? = some v) (k : MW M d mc ms n0 post nx L (v :: S) h n sl) : MW M d mc ms n0 post pc L (.ref a :: S) h n sl := by
  intro G p lc e s m args below meth c X H locs ls hn hW hS hl
  obtain ⟨hdg, rfl, htg⟩ := fch_ok X.1 hf
  obtain ⟨C, T, N, ty0, h1, h2, h3, h4, h5, h6, h7, h8, h9⟩ := hfo
  have hts := X.2.2.2.2.2.2.2.2.1
  have hge := hW.at hc (dead_r hv)
  have hv2 : (fs.map (cvV G.2.1))[kf]? = some (cvV G.2.1 v) := by rw [List.getElem?_map, hv]; rfl
  exact va_get (D := G.1) (tys := mTT G) (Ts := lw_gd) X.2.1 X.2.2.1 hts h3 X.2.2.2.2.2.2.1 X.2.2.2.2.2.2.2.2.2.1.1 hW.2 a hge h1 kf h2 (hts _ h4) (fun x hx => by rw [h5] at hx; exact hx) hv2 hdg (k G p lc e s m args below meth c X H locs ls hn hW hS hl)
theorem cvC_set (b : Nat) (tyC : FieldType → ClassId) (ci kf : Nat) (fs : List Value) (v : Value) : (.inr (ci, (fs.map (cvV b)).set kf (cvV b v)) : va_E) = cvC b tyC (.inr (ci, fs.set kf v)) := by
  show _ = (.inr (ci, (fs.set kf v).map (cvV b)) : va_E)
  rw [List.map_set]
theorem mw_putfield {nx tg ix ci kf a : Nat} {ty : FieldType} {fs : List Value} {v : Value} (hf : fch M pc = some (.putfield ix, 3, nx, tg)) (hfo : fldOk M.1.cls ix ci kf ty false) (hc : h a = (.inr (ci, fs))) (hk : kf < fs.length) (hn1 : ∀ b, narrow ty (cvV b v) = cvV b v) (hfit : ∀ b, fits ty (cvV b v) = true) (k : MW M d mc ms n0 post nx L S (hset h a (.inr (ci, fs.set kf v))) n sl) : MW M d mc ms n0 post pc L (v :: .ref a :: S) h n sl := by
  intro G p lc e s m args below meth c X H locs ls hn hW hS hl
  obtain ⟨hdg, rfl, htg⟩ := fch_ok X.1 hf
  obtain ⟨C, T, N, ty0, h1, h2, h3, h4, h5, h6, h7, h8, h9⟩ := hfo
  have hts := X.2.2.2.2.2.2.2.2.1
  have hge := hW.at hc (dead_k hk)
  refine va_put (D := G.1) (tys := mTT G) (Ts := lw_gd) (ty := ty) (A := mA G) X.2.1 X.2.2.1 hts h3 ty0 h6 h7 X.2.2.2.2.2.2.1 X.2.2.2.2.2.2.2.2.2.1.1 hW.2 (mws_D G _ n) hS a hge h1 kf h2 (hts _ h4) (fun x hx => by rw [h5] at hx; exact hx) h9 (by rw [h6 kf h2, h8]) (hn1 _) (hfit _) (by rw [List.length_map]; exact hk) hdg (fun H1 locs1 hP1 hD1 hS1 => ?_)
  rw [cvC_set _ G.2.2] at hP1
  exact k G p lc e s m args below meth c X H1 locs1 ls hn (hW.put _ (hW.lt hc (dead_k hk)) hP1) hS1 hl
theorem mw_putfieldF {nx tg ix ci kf a : Nat} {ty : FieldType} {fs : List Value} {v : Value} (hf : fch M pc = some (.putfield ix, 3, nx, tg)) (hfo : fldOk M.1.cls ix ci kf ty true) (hnm : M.1.name = "<init>") (hcl : (vwCl[ci]?.map (fun q => q.1)) = some M.1.cls) (hc : h a = (.inr (ci, fs))) (hk : kf < fs.length) (hn1 : ∀ b, narrow ty (cvV b v) = cvV b v) (hfit : ∀ b, fits ty (cvV b v) = true) (k : MW M d mc ms n0 post nx L S (hset h a (.inr (ci, fs.set kf v))) n sl) : MW M d mc ms n0 post pc L (v :: .ref a :: S) h n sl := by
  intro G p lc e s m args below meth c X H locs ls hn hW hS hl
  obtain ⟨hdg, rfl, htg⟩ := fch_ok X.1 hf
  obtain ⟨C, T, N, ty0, h1, h2, h3, h4, h5, h6, h7, h8, h9⟩ := hfo
  have hts := X.2.2.2.2.2.2.2.2.1
  have hge := hW.at hc (dead_k hk)
  have hown : (T kf).1 = M.1.cls := by
    rw [h5]
    rw [h1] at hcl
    exact Option.some.inj hcl
  refine va_putF (D := G.1) (tys := mTT G) (Ts := lw_gd) (ty := ty) (A := mA G) X.2.1 X.2.2.1 hts h3 ty0 h6 h7 X.2.2.2.2.2.2.1 X.2.2.2.2.2.2.2.2.2.1.1 hW.2 (mws_D G _ n) hS a hge h1 kf h2 (hts _ h4) (fun x hx => by rw [h5] at hx; exact hx) h9 (X.2.2.2.2.2.2.2.1.trans hnm) hown (by rw [h6 kf h2, h8]) (hn1 _) (hfit _) (by rw [List.length_map]; exact hk) hdg (fun H1 locs1 hP1 hD1 hS1 => ?_)
  rw [cvC_set _ G.2.2] at hP1
  exact k G p lc e s m args below meth c X H1 locs1 ls hn (hW.put _ (hW.lt hc (dead_k hk)) hP1) hS1 hl
theorem mw_aald {nx tg a N j : Nat} {C : String} {ti : Nat} {f : Nat → Option Nat} {r : Nat} (hf : fch M pc = some (.aaload, 1, nx, tg)) (hc : h a = (.inl (.object C, N, .inr (.inr (.inr (.inr f)))))) (ht : mtys[ti]? = some (.object C)) (hj : j < N) (hN : j < 2147483648) (hv : f j = some r) (k : MW M d mc ms n0 post nx L (.ref r :: S) h n sl) : MW M d mc ms n0 post pc L (.int (nI j) :: .ref a :: S) h n sl := by
  intro G p lc e s m args below meth c X H locs ls hn hW hS hl
  obtain ⟨hdg, rfl, htg⟩ := fch_ok X.1 hf
  have hge := hW.at hc dead_l
  have hk2 := k G p lc e s m args below meth c X H locs ls hn hW hS hl
  have hin : vp_in (nI j) N := by rw [vp_in, nI_clamp hN]; exact fun q => q.elim (fun q => nI_pos hN q) (fun q => by omega)
  have ht2 : (mTT G)[ti]? = some (G.2.2 (.object C), .object C) := by rw [mTT, List.getElem?_map, ht]; rfl
  refine va_aldq (D := G.1) (tys := mTT G) X.2.1 X.2.2.1 X.2.2.2.2.2.2.2.2.2.1.1 hW.2 a ti hge ht2 hin hdg ?_
  rw [nI_clamp hN, hv]
  exact hk2
theorem mw_aast {nx tg a N j : Nat} {C : String} {ti ci v : Nat} {vs : List Value} {q : vw_C} {f : Nat → Option Nat} (hf : fch M pc = some (.aastore, 1, nx, tg)) (hc : h a = (.inl (.object C, N, .inr (.inr (.inr (.inr f)))))) (ht : mtys[ti]? = some (.object C)) (hv : h v = (.inr (ci, vs))) (hvd : (.inr (ci, vs) : MC) ≠ dead) (hq : vwCl[ci]? = some q) (hqC : q.1 = C) (hj : j < N) (hN : j < 2147483648) (k : MW M d mc ms n0 post nx L S (hset h a (.inl (.object C, N, .inr (.inr (.inr (.inr (va_up f j (some v)))))))) n sl) : MW M d mc ms n0 post pc L (.ref v :: .int (nI j) :: .ref a :: S) h n sl := by
  intro G p lc e s m args below meth c X H locs ls hn hW hS hl
  obtain ⟨hdg, rfl, htg⟩ := fch_ok X.1 hf
  subst hqC
  have hge := hW.at hc dead_l
  have hin : vp_in (nI j) N := by rw [vp_in, nI_clamp hN]; exact fun q => q.elim (fun q => nI_pos hN q) (fun q => by omega)
  have ht2 : (mTT G)[ti]? = some (G.2.2 (.object q.1), .object q.1) := by rw [mTT, List.getElem?_map, ht]; rfl
  refine va_astq (D := G.1) (tys := mTT G) (A := mA G) X.2.1 X.2.2.1 X.2.2.2.2.2.2.2.2.2.1.1 hW.2 (mws_D G _ n) hS a ti v ci hge ht2 (hW.at hv hvd) hq hin hdg (fun H1 locs1 hP1 hD1 hS1 => ?_)
  rw [nI_clamp hN] at hP1
  have he : va_up (fun j => (f j).map (fun k => G.2.1 + k)) j (some (G.2.1 + v)) = fun i => (va_up f j (some v) i).map (fun k => G.2.1 + k) := by
    funext i
    by_cases h : i = j
    · simp [va_up, h]
    · simp [va_up, h]
  rw [he] at hP1
  exact k G p lc e s m args below meth c X H1 locs1 ls hn (hW.put _ (hW.lt hc dead_l) hP1) hS1 hl
theorem mw_alen {nx tg a N ti : Nat} {ty : FieldType} {x : (Nat → Int32) ⊕ (Nat → Int64) ⊕ (Nat → UInt32) ⊕ (Nat → UInt64) ⊕ (Nat → Option Nat)} (hf : fch M pc = some (.arraylength, 1, nx, tg)) (hc : h a = (.inl (ty, N, x))) (ht : mtys[ti]? = some ty) (k : MW M d mc ms n0 post nx L (.int (nI N) :: S) h n sl) : MW M d mc ms n0 post pc L (.ref a :: S) h n sl := by
  intro G p lc e s m args below meth c X H locs ls hn hW hS hl
  obtain ⟨hdg, rfl, htg⟩ := fch_ok X.1 hf
  have hge := hW.at hc dead_l
  have ht2 : (mTT G)[ti]? = some (G.2.2 ty, ty) := by rw [mTT, List.getElem?_map, ht]; rfl
  have h1 : (cvA G.2.1 (N, x)).1 = N := by
    obtain f | f | f | f | f := x <;> rfl
  exact va_alen (D := G.1) (tys := mTT G) X.2.1 X.2.2.1 X.2.2.2.2.2.2.2.2.2.1.1 hW.2 a ti (x := cvA G.2.1 (N, x)) hge ht2 (by rw [h1]; rfl) hdg (k G p lc e s m args below meth c X H locs ls hn hW hS hl)
-- returns
theorem mw_ireturn {nx tg : Nat} {v : Int32} {ty : FieldType} (hf : fch M pc = some (.ireturn, 1, nx, tg)) (hr : M.2.2.2.1 = some ty) (hnr : narrow ty (.int v) = .int v) (hn2 : n = n0 + mc) (hs : sl ≤ ms) (hp : post (some (.int v)) h) : MW M d mc ms n0 post pc L [.int v] h n sl := by
  intro G p lc e s m args below meth c X H locs ls hn hW hS hl
  obtain ⟨hdg, rfl, htg⟩ := fch_ok X.1 hf
  subst hn2
  refine W.widen (k := mc) (n := ms) (by omega) hs ?_
  exact W.zret (ty := ty) (v := v) X.2.1 X.2.2.1 (X.2.2.2.1.trans hr) hnr (fun t ht hWm => ⟨⟨some (.int v), h, rfl, hp, by rw [ht]; exact hW, mK.moved hWm X.2.2.2.2.2.2.2.2.2.1⟩, hS.F ht⟩) hS.2.2 hdg (hlocks := X.2.2.2.2.1)
theorem mw_lreturn {nx tg : Nat} {v : Int64} (hf : fch M pc = some (.lreturn, 1, nx, tg)) (hr : M.2.2.2.1 = some .long) (hn2 : n = n0 + mc) (hs : sl ≤ ms) (hp : post (some (.long v)) h) : MW M d mc ms n0 post pc L [.long v] h n sl := by
  intro G p lc e s m args below meth c X H locs ls hn hW hS hl
  obtain ⟨hdg, rfl, htg⟩ := fch_ok X.1 hf
  subst hn2
  refine W.widen (k := mc) (n := ms) (by omega) hs ?_
  exact W.lret (v := v) X.2.1 X.2.2.1 (X.2.2.2.1.trans hr) (fun t ht hWm => ⟨⟨some (.long v), h, rfl, hp, by rw [ht]; exact hW, mK.moved hWm X.2.2.2.2.2.2.2.2.2.1⟩, hS.F ht⟩) hS.2.2 hdg (hlocks := X.2.2.2.2.1)
theorem mw_freturn {nx tg : Nat} {v : UInt32} (hf : fch M pc = some (.freturn, 1, nx, tg)) (hr : M.2.2.2.1 = some .float) (hn2 : n = n0 + mc) (hs : sl ≤ ms) (hp : post (some (.float v)) h) : MW M d mc ms n0 post pc L [.float v] h n sl := by
  intro G p lc e s m args below meth c X H locs ls hn hW hS hl
  obtain ⟨hdg, rfl, htg⟩ := fch_ok X.1 hf
  subst hn2
  refine W.widen (k := mc) (n := ms) (by omega) hs ?_
  exact W.fret (v := v) X.2.1 X.2.2.1 (X.2.2.2.1.trans hr) (fun t ht hWm => ⟨⟨some (.float v), h, rfl, hp, by rw [ht]; exact hW, mK.moved hWm X.2.2.2.2.2.2.2.2.2.1⟩, hS.F ht⟩) hS.2.2 hdg (hlocks := X.2.2.2.2.1)
theorem mw_return {nx tg : Nat} (hf : fch M pc = some (.return_, 1, nx, tg)) (hr : M.2.2.2.1 = none) (hn2 : n = n0 + mc) (hs : sl ≤ ms) (hp : post none h) : MW M d mc ms n0 post pc L [] h n sl := by
  intro G p lc e s m args below meth c X H locs ls hn hW hS hl
  obtain ⟨hdg, rfl, htg⟩ := fch_ok X.1 hf
  subst hn2
  refine W.widen (k := mc) (n := ms) (by omega) hs ?_
  exact W.vret X.2.1 X.2.2.1 (X.2.2.2.1.trans hr) (fun t ht hWm => ⟨⟨none, h, rfl, hp, by rw [ht]; exact hW, mK.moved hWm X.2.2.2.2.2.2.2.2.2.1⟩, hS.F ht⟩) hS.2.2 hdg (hlocks := X.2.2.2.2.1)
/-- other locals: fewer, in another order -/
theorem mw_locals {L2 : List (Nat × Value)} (hs : L2.map (fun q => mlkv L q.1) = L2.map (fun q => some q.2)) (k : MW M d mc ms n0 post pc L2 S h n sl) : MW M d mc ms n0 post pc L S h n sl := by
  intro G p lc e s m args below meth c X H locs ls hn hW hS hl
  exact k G p lc e s m args below meth c X H locs ls hn hW hS (cvL_has hl hs)
theorem mw_heap {h2 : Nat → MC} (e : h2 = h) (k : MW M d mc ms n0 post pc L S h2 n sl) : MW M d mc ms n0 post pc L S h n sl := e ▸ k
-- calls
theorem mw_goon {mc' ms' : Nat} {post' : Option Value → (Nat → MC) → Prop} {G : MG} {p : Program} {lc : Launch} {e : Env} {s : State} {m : MethodId} {args av : Array Value} {below : List Frame} {meth : Method} {c : Code} {H : Heap} {locs : List Loc} {ls : Array Slot} {st0 : List Value}
    (X : MX M G n0 p s m args meth c) (hn : n0 ≤ n) (hS : va_S (mA G) s.heap H locs) (hl : lv_has ls M.2.2.1 (cvL G.2.1 L))
    (hrun : va_Run p lc e (mroom d mc ms) s m args below meth c H locs (n - n0) sl mc' ms' (F0 m pc ls st0) (S.map (cvV G.2.1)) (MQc G (n + mc') post' av) (mA G))
    (k : ∀ r h1, post' r h1 → MW M d mc ms n0 post (pc + 3) L (r.toList ++ S) h1 (n + mc') (sl + ms')) :
    W p lc e (mroom d mc ms) s m args below meth c H locs (n - n0) sl (MQ below (MQc G (n0 + mc) post) args s mc ms (mA G)) (F0 m pc ls st0) := by
  intro T hT X0
  obtain ⟨v, st₀, t, T', Lo, e0, X', hL, e1, e2, ⟨⟨r, h1, hv, hp, hw, hk⟩, hz, hkp⟩, st⟩ := hrun T hT X0
  cases hv
  rw [e0] at hz hkp
  have hS2 : va_S (mA G) s.heap T'.heap (locs ++ Lo) := ⟨Nat.le_trans hS.1 (by rw [e1]; exact hz), fun q h1 h2 => by rw [e1, hkp q (Nat.lt_of_lt_of_le h1 hS.1) h2]; exact hS.2.1 q h1 h2, fun q hq => by
      rcases List.mem_append.mp hq with h | h
      · exact hS.2.2 q h
      · exact hL q h⟩
  have h5 := k r h1 hp G p lc e s m args below meth c X T'.heap (locs ++ Lo) ls (by omega) (by rw [e1]; exact hw) hS2 hl T' rfl (by rw [show n + mc' - n0 = n - n0 + mc' by omega]; exact X')
  obtain ⟨t2, a1, b1⟩ := h5
  refine ⟨t2, st t2 ?_, b1⟩
  have hst : (Option.map (cvV G.2.1) r).toList ++ S.map (cvV G.2.1) = (r.toList ++ S).map (cvV G.2.1) := by cases r <;> rfl
  show Steps p.tables e below (T'.setTop (F0 m (pc + 3) ls ((Option.map (cvV G.2.1) r).toList ++ S.map (cvV G.2.1)))) t2
  rw [hst]
  exact a1
theorem mg_tbl : ∀ w ∈ lw_gd, goodWord w = true := fun w h => (List.mem_filter.mp h).2
theorem mg_ws {M' : MI} (hM : mi_ok M') : GoodIn lw_gd (wsM M') := fun w hw => by
  rcases List.mem_cons.mp hw with rfl | hw
  · exact ⟨gd_code hM.2.2.2, good_of_word (mg_tbl _ (gd_code hM.2.2.2))⟩
  · exact ⟨hw, good_of_word (mg_tbl _ hw)⟩
theorem mg_in {ws : List Cond} (h : ∀ w ∈ ws, w ∈ lw_gd) {M' : MI} (hM : mi_ok M') : GoodIn lw_gd (ws ++ wsM M') := fun w hw => by
  rcases List.mem_append.mp hw with hw | hw
  · exact ⟨h w hw, good_of_word (mg_tbl _ (h w hw))⟩
  · exact mg_ws hM w hw
theorem pc_blind (G : MG) (av : List Value) (h : Nat → MC) (n : Nat) : FrameBlind (va_Pc (av.map (cvV G.2.1)) (fun U => mK G U ∧ mWd G h n U.heap ∧ U.heap.size = G.2.1 + n)) := fun a U g mk q => by
  obtain ⟨q0, q1, q2, q3⟩ := q
  exact ⟨q0, mK.same (u := U) (U := U.calling g mk a) rfl q1, q2, q3⟩
theorem mw_callV {nx tg ix na d' mc' ms' a ci : Nat} {M' : MI} {as St : List Value} {fs : List Value} {post' : Option Value → (Nat → MC) → Prop} (hsp : Sp M' d' mc' ms' (.ref a :: as) h n post') (hf : fch M pc = some (.invokevirtual ix, 3, nx, tg)) (hok : mi_ok M') (hv : mvOk M.1.cls ix M'.1 na) (hst : St = as.reverse ++ .ref a :: S) (hc : h a = (.inr (ci, fs))) (hfd : fs ≠ []) (hq : vwCl[ci]?.map (fun q => q.1) = some M'.1.cls) (hlen : (lg_sl (.ref a :: as)).length ≤ M'.2.2.1) (hna : as.length = na) (hcat : (S.map fun v => v.category).sum ≤ 8) (hd : d' < d) (hmc : n - n0 + mc' ≤ mc) (hms : sl + ms' ≤ ms)
    (k : ∀ r h1, post' r h1 → MW M d mc ms n0 post nx L (r.toList ++ S) h1 (n + mc') (sl + ms')) : MW M d mc ms n0 post pc L St h n sl := by
  intro G p lch e s m args below meth c X H locs ls hn hW hS hl
  obtain ⟨hdg, rfl, htg⟩ := fch_ok X.1 hf
  subst hst
  have hts := X.2.2.2.2.2.2.2.2.1
  intro T hT X0
  have hz := mw_sz X hn hW hT X0
  obtain ⟨q, hq1, hq2⟩ : ∃ q, vwCl[ci]? = some q ∧ q.1 = M'.1.cls := by
    cases h : vwCl[ci]? with
    | none => rw [h] at hq; cases hq
    | some q => rw [h] at hq; exact ⟨q, rfl, Option.some.inj hq⟩
  have hrecv := va_recv (D := G.1) X.2.2.2.2.2.2.2.2.2.1.1 hW.2 hq1 (hW.at hc (fun e => by cases e; exact hfd rfl))
  rw [hq2] at hrecv
  have hm := hok.2.2.1
  refine mw_goon X hn hS hl (va_runV (As := as.map (cvV G.2.1)) ⟨X.2.1, X.2.2.1, X.2.2.2.2.2.1, X.2.2.2.2.2.2.1, hts⟩ (hsp.met hok hlen lch G) (cwV na hts (mg_in hv.1 hok) rfl rfl rfl ⟨rfl, hv.2⟩ ⟨hd, ?_⟩) ⟨pc_blind G _ _ _, hrecv, fun U hU hWU => ⟨rfl, mK.moved hWU X.2.2.2.2.2.2.2.2.2.1, by rw [hU]; exact hW, by rw [hU]; exact hz⟩⟩ rfl (by rw [List.length_map]; exact hna) hl.1 (by show List.map (cvV G.2.1) (as.reverse ++ .ref a :: S) = _; simp [cvV]) (lv_room (by rw [cat_sum_cv]; exact hcat)) hdg ⟨hmc, hms⟩) k T hT X0
  show 8 + (M'.2.2.1 + 11) + 42 * d' ≤ 42 * d
  omega
theorem mw_callS {nx tg ix na d' mc' ms' : Nat} {M' : MI} {as St : List Value} {post' : Option Value → (Nat → MC) → Prop} (hsp : Sp M' d' mc' ms' as h n post') (hf : fch M pc = some (.invokestatic ix, 3, nx, tg)) (hok : mi_ok M') (hv : msOk M.1.cls ix M'.1 na) (hst : St = as.reverse ++ S) (hlen : (lg_sl as).length ≤ M'.2.2.1) (hna : as.length = na) (hcat : (S.map fun v => v.category).sum ≤ 8) (hd : d' < d) (hmc : n - n0 + mc' ≤ mc) (hms : sl + ms' ≤ ms)
    (k : ∀ r h1, post' r h1 → MW M d mc ms n0 post nx L (r.toList ++ S) h1 (n + mc') (sl + ms')) : MW M d mc ms n0 post pc L St h n sl := by
  intro G p lch e s m args below meth c X H locs ls hn hW hS hl
  obtain ⟨hdg, rfl, htg⟩ := fch_ok X.1 hf
  subst hst
  have hts := X.2.2.2.2.2.2.2.2.1
  intro T hT X0
  have hz := mw_sz X hn hW hT X0
  have hm := hok.2.2.1
  have hB : CallB (mroom d mc ms) s args M.1.cls ix M'.1 M'.2.1 M'.2.2.1 M'.2.2.2.1 (wsM M') (mroom d' mc' ms') mc' ms' na := callB_of na hts (mg_ws hok) rfl rfl rfl (hts _ (hv.1 _ (by simp))) (hts _ (hv.1 _ (by simp))) hv.2 ⟨hd, by show 8 + (M'.2.2.1 + 11) + 42 * d' ≤ 42 * d; omega⟩
  exact mw_goon X hn hS hl (va_runS (As := as.map (cvV G.2.1)) ⟨X.2.1, X.2.2.1, X.2.2.2.2.2.1, X.2.2.2.2.2.2.1, hts⟩ (hsp.met hok hlen lch G) ⟨hB, hts _ (hv.1 _ (by simp))⟩ ⟨pc_blind G _ _ _, fun U hU hWU => ⟨rfl, mK.moved hWU X.2.2.2.2.2.2.2.2.2.1, by rw [hU]; exact hW, by rw [hU]; exact hz⟩⟩ rfl (by rw [List.length_map]; exact hna) hl.1 (by show List.map (cvV G.2.1) (as.reverse ++ S) = _; simp) (lv_room (by rw [cat_sum_cv]; exact hcat)) hdg ⟨hmc, hms⟩) k T hT X0
theorem mw_callI {nx tg ix na d' mc' ms' a : Nat} {M' : MI} {as St : List Value} {post' : Option Value → (Nat → MC) → Prop} (hsp : Sp M' d' mc' ms' (.ref a :: as) h n post') (hf : fch M pc = some (.invokespecial ix, 3, nx, tg)) (hok : mi_ok M') (hret : M'.2.2.2.1 = none) (hv : miOk M.1.cls ix M'.1 na) (hst : St = as.reverse ++ .ref a :: S) (hlen : (lg_sl (.ref a :: as)).length ≤ M'.2.2.1) (hna : as.length = na) (hcat : (S.map fun v => v.category).sum ≤ 8) (hd : d' < d) (hmc : n - n0 + mc' ≤ mc) (hms : sl + ms' ≤ ms)
    (k : ∀ r h1, post' r h1 → MW M d mc ms n0 post nx L (r.toList ++ S) h1 (n + mc') (sl + ms')) : MW M d mc ms n0 post pc L St h n sl := by
  intro G p lch e s m args below meth c X H locs ls hn hW hS hl
  obtain ⟨hdg, rfl, htg⟩ := fch_ok X.1 hf
  subst hst
  have hts := X.2.2.2.2.2.2.2.2.1
  intro T hT X0
  have hz := mw_sz X hn hW hT X0
  have hm := hok.2.2.1
  have hcw := cwI (R := mroom d mc ms) (s := s) (args := args) (own := M.1.cls) (index := ix) (y := M'.1) (bytes := M'.2.1) (maxL := M'.2.2.1) (ws := wsM M') (ws' := lw_gd) (rm := mroom d' mc' ms') (mc := mc') (ms := ms') na hts (mg_ws hok) (by rw [← hret]; rfl) rfl rfl (hts _ (hv.1 _ (by simp))) (hts _ (hv.1 _ (by simp))) (hts _ (hv.1 _ (by simp))) hv.2.1 hv.2.2 ⟨hd, by show 8 + (M'.2.2.1 + 11) + 42 * d' ≤ 42 * d; omega⟩
  exact mw_goon X hn hS hl (va_runI (As := as.map (cvV G.2.1)) (b := G.2.1 + a) ⟨X.2.1, X.2.2.1, X.2.2.2.2.2.1, X.2.2.2.2.2.2.1, hts⟩ (hsp.met hok hlen lch G) hcw ⟨pc_blind G _ _ _, fun U hU hWU => ⟨rfl, mK.moved hWU X.2.2.2.2.2.2.2.2.2.1, by rw [hU]; exact hW, by rw [hU]; exact hz⟩⟩ rfl (by rw [List.length_map]; exact hna) hl.1 (by show List.map (cvV G.2.1) (as.reverse ++ .ref a :: S) = _; simp [cvV]) (lv_room (by rw [cat_sum_cv]; exact hcat)) hdg ⟨hmc, hms⟩) k T hT X0
theorem mw_callN {nx tg ix na d' mc' ms' a : Nat} {host : String} {M' : MI} {as St : List Value} {post' : Option Value → (Nat → MC) → Prop} (hsp : Sp M' d' mc' ms' (.ref a :: as) h n post') (hf : fch M pc = some (.invokespecial ix, 3, nx, tg)) (hok : mi_ok M') (hret : M'.2.2.2.1 = none) (hv : mnOk M.1.cls host ix M'.1 na) (hst : St = as.reverse ++ .ref a :: S) (hlen : (lg_sl (.ref a :: as)).length ≤ M'.2.2.1) (hna : as.length = na) (hcat : (S.map fun v => v.category).sum ≤ 8) (hd : d' < d) (hmc : n - n0 + mc' ≤ mc) (hms : sl + ms' ≤ ms)
    (k : ∀ r h1, post' r h1 → MW M d mc ms n0 post nx L (r.toList ++ S) h1 (n + mc') (sl + ms')) : MW M d mc ms n0 post pc L St h n sl := by
  intro G p lch e s m args below meth c X H locs ls hn hW hS hl
  obtain ⟨hdg, rfl, htg⟩ := fch_ok X.1 hf
  subst hst
  have hts := X.2.2.2.2.2.2.2.2.1
  intro T hT X0
  have hz := mw_sz X hn hW hT X0
  have hm := hok.2.2.1
  have hnw : va_Nw (.methodLinkNest M.1.cls ix M'.1 host) s := X.2.2.2.2.2.2.2.2.2.1.2.1 _ hv.1
  have hcw := va_cnB (R := mroom d mc ms) (s := s) (args := args) (own := M.1.cls) (host := host) (index := ix) (y := M'.1) (bytes := M'.2.1) (maxL := M'.2.2.1) (ret := none) (ws := wsM M') (ws' := lw_gd) (rm := mroom d' mc' ms') (mc := mc') (ms := ms') na hts (mg_ws hok) (by rw [← hret]; rfl) rfl rfl hnw (hts _ (hv.2.1 _ (by simp))) hv.2.2.2 ⟨hd, by show 8 + (M'.2.2.1 + 11) + 42 * d' ≤ 42 * d; omega⟩
  exact mw_goon X hn hS hl (va_runIN (As := as.map (cvV G.2.1)) (b := G.2.1 + a) ⟨X.2.1, X.2.2.1, X.2.2.2.2.2.1, X.2.2.2.2.2.2.1, hts⟩ (hsp.met hok hlen lch G) ⟨hcw, hv.2.2.1, hts _ (hv.2.1 _ (by simp))⟩ ⟨pc_blind G _ _ _, fun U hU hWU => ⟨rfl, mK.moved hWU X.2.2.2.2.2.2.2.2.2.1, by rw [hU]; exact hW, by rw [hU]; exact hz⟩⟩ rfl (by rw [List.length_map]; exact hna) hl.1 (by show List.map (cvV G.2.1) (as.reverse ++ .ref a :: S) = _; simp [cvV]) (lv_room (by rw [cat_sum_cv]; exact hcat)) hdg ⟨hmc, hms⟩) k T hT X0
end MWOPS2
