section MWOPS3
variable {M : MI} {d mc ms n0 : Nat} {post : Option Value → (Nat → MC) → Prop} {pc : Nat} {L : List (Nat × Value)} {S : List Value} {h : Nat → MC} {n sl : Nat}
theorem mWd.push {G : MG} {H H1 : Heap} (hW : mWd G h n H) (c : MC) (hz : H.size = G.2.1 + n) (o1 : ∀ q, q < G.2.1 + n → H1[q]? = H[q]?) (hat : va_at G.1 vwCl (G.2.1 + n, cvC G.2.1 G.2.2 c) H1) : mWd G (hset h n c) (n + 1) H1 := by
  refine ⟨fun j h2 => ?_, ?_⟩
  · have e : ¬ j = n := by omega
    show (if j = n then c else h j) = dead
    rw [if_neg e]
    exact hW.1 j (by omega)
  · rw [← mws_push]
    refine (hW.2.kept (fun k x hx => o1 _ ?_)).app (fun k x hx => ?_)
    · have := (hW.2 k x hx).lt
      omega
    · have hz : k < 1 := (List.getElem?_eq_some_iff.mp hx).1
      rw [show k = 0 by omega] at hx
      cases hx
      exact hat
theorem mw_new {nx tg ix ci N : Nat} {fs : List Value} (hf : fch M pc = some (.new ix, 3, nx, tg)) (hno : newOk M.1.cls ix ci N fs) (hmc : n + 1 ≤ n0 + mc) (hms : sl + N ≤ ms) (k : MW M d mc ms n0 post nx L (.ref n :: S) (hset h n (.inr (ci, fs))) (n + 1) (sl + N)) : MW M d mc ms n0 post pc L S h n sl := by
  intro G p lc e s m args below meth c X H locs ls hn hW hS hl
  obtain ⟨hdg, rfl, htg⟩ := fch_ok X.1 hf
  obtain ⟨C, T, ty, h1, h2, h3, h4, h5, h6⟩ := hno
  have hts := X.2.2.2.2.2.2.2.2.1
  intro T0 hT X0
  have hz := mw_sz X hn hW hT X0
  have hKn := X.2.2.2.2.2.2.2.2.2.1.1.1 ci _ h1
  have hw1 : Cond.classLink M.1.cls ix C ∈ lw_gd := h4 _ (by simp)
  have hw2 : Cond.instantiable C N ∈ lw_gd := h4 _ (by simp)
  have hw3 : Cond.initialized C ∈ lw_gd := h4 _ (by simp)
  refine W.newcK X.2.1 X.2.2.1 X.2.2.2.2.2.2.1 (hts _ hw1) (hts _ hw2) (hts _ hw3) (g := F0 m pc ls (S.map (cvV G.2.1))) rfl hdg (show n - n0 + 1 ≤ mc by omega) hms hKn.2.1 hz (fun H1 kC hkC e1 z1 o1 => ?_) T0 hT X0
  have hat : va_at G.1 vwCl (G.2.1 + n, cvC G.2.1 G.2.2 (.inr (ci, fs))) H1 := ⟨_, h1, (u_born ty hts h2 hKn hkC e1 h3).to (fun j hj => by
    show defaultValue (ty j) = vp_V (fs.map (cvV G.2.1)) j
    rw [h6]
    exact h5 j hj)⟩
  have hk := k G p lc e s m args below meth c X H1 locs ls (by omega) (hW.push _ hz o1 hat) ⟨by have := hS.1; omega, fun x g1 g2 => (o1 x (by have := hS.1; omega)).trans (hS.2.1 x g1 g2), hS.2.2⟩ hl
  rw [show n + 1 - n0 = n - n0 + 1 by omega] at hk
  exact hk
theorem mw_newarray {nx tg N ti : Nat} {aty : ArrayType} {ty : FieldType} {x : (Nat → Int32) ⊕ (Nat → Int64) ⊕ (Nat → UInt32) ⊕ (Nat → UInt64) ⊕ (Nat → Option Nat)} (hf : fch M pc = some (.newarray aty, 2, nx, tg)) (hty : newarray.typeOf aty = ty) (ht : mtys[ti]? = some ty) (hcls : Cond.arrayClass ty ∈ lw_gd) (ha : ∀ cA, vp_cell cA (N, x) = arrV cA N (fun _ => defaultValue ty)) (hcv : ∀ b, cvA b (N, x) = (N, x)) (hN : N ≤ 100000) (hmc : n + 1 ≤ n0 + mc) (hms : sl + N ≤ ms)
    (k : MW M d mc ms n0 post nx L (.ref n :: S) (hset h n (.inl (ty, N, x))) (n + 1) (sl + N)) : MW M d mc ms n0 post pc L (.int (nI N) :: S) h n sl := by
  intro G p lc e s m args below meth c X H locs ls hn hW hS hl
  obtain ⟨hdg, rfl, htg⟩ := fch_ok X.1 hf
  subst hty
  have hts := X.2.2.2.2.2.2.2.2.1
  intro T0 hT X0
  have hz := mw_sz X hn hW hT X0
  have ht2 : (mTT G)[ti]? = some (G.2.2 (newarray.typeOf aty), newarray.typeOf aty) := by rw [mTT, List.getElem?_map, ht]; rfl
  have hRA := (X.2.2.2.2.2.2.2.2.2.1.1.2 ti _ ht2).2
  have hfc : s.vm.findClass ("[" ++ (newarray.typeOf aty).toString) = some (G.2.2 (newarray.typeOf aty)) := by cases aty <;> exact hRA
  refine va_newaK X.2.1 X.2.2.1 (hts _ hcls) (g := F0 m pc ls (.int (nI N) :: S.map (cvV G.2.1))) rfl hdg rfl (nI_pos (by omega)) (nI_clamp (by omega)) (by cases aty <;> (simp [newarray.typeOf, componentBytes]; omega)) (show n - n0 + 1 ≤ mc by omega) hms hz (fun H1 cA e1 z1 o1 hAr hNm => ?_) T0 hT X0
  have hcA : cA = G.2.2 (newarray.typeOf aty) := Option.some.inj (hNm.symm.trans hfc)
  subst hcA
  have hat : va_at G.1 vwCl (G.2.1 + n, cvC G.2.1 G.2.2 (.inl (newarray.typeOf aty, N, x))) H1 := by
    show H1[G.2.1 + n]? = some (vp_cell (G.2.2 (newarray.typeOf aty)) (cvA G.2.1 (N, x)))
    rw [hcv, ha]
    exact e1
  have hk := k G p lc e s m args below meth c X H1 locs ls (by omega) (hW.push _ hz o1 hat) ⟨by have := hS.1; omega, fun x g1 g2 => (o1 x (by have := hS.1; omega)).trans (hS.2.1 x g1 g2), hS.2.2⟩ hl
  rw [show n + 1 - n0 = n - n0 + 1 by omega] at hk
  exact hk
theorem mw_anewarray {nx tg ix N ti : Nat} {C : String} (hf : fch M pc = some (.anewarray ix, 3, nx, tg)) (hC : C = RX5 ∨ C = RX6) (ht : mtys[ti]? = some (.object C)) (hcl : Cond.classLink M.1.cls ix C ∈ lw_gd) (hN : N ≤ 100000) (hmc : n + 1 ≤ n0 + mc) (hms : sl + N ≤ ms)
    (k : MW M d mc ms n0 post nx L (.ref n :: S) (hset h n (.inl (.object C, N, .inr (.inr (.inr (.inr (fun _ => none))))))) (n + 1) (sl + N)) : MW M d mc ms n0 post pc L (.int (nI N) :: S) h n sl := by
  intro G p lc e s m args below meth c X H locs ls hn hW hS hl
  obtain ⟨hdg, rfl, htg⟩ := fch_ok X.1 hf
  have hts := X.2.2.2.2.2.2.2.2.1
  intro T0 hT X0
  have hz := mw_sz X hn hW hT X0
  have hover : va_AO C s := by
    rcases hC with rfl | rfl
    · exact X.2.2.2.2.2.2.2.2.2.1.2.2.1
    · exact X.2.2.2.2.2.2.2.2.2.1.2.2.2
  have ht2 : (mTT G)[ti]? = some (G.2.2 (.object C), .object C) := by rw [mTT, List.getElem?_map, ht]; rfl
  obtain ⟨kA0, comp0, r1, r2, r3, r4⟩ := (X.2.2.2.2.2.2.2.2.2.1.1.2 ti _ ht2).2
  refine W.anew X.2.1 X.2.2.1 X.2.2.2.2.2.2.1 (hts _ hcl) (va_AO.use hover) (g := F0 m pc ls (.int (nI N) :: S.map (cvV G.2.1))) rfl hdg rfl (nI_pos (by omega)) (by rw [nI_clamp (by omega)]; omega) (show n - n0 + 1 ≤ mc by omega) (by rw [nI_clamp (by omega)]; exact hms) (fun cA kA comp f1 f2 f3 f4 => ?_) T0 hT X0
  have hcA : cA = G.2.2 (.object C) := Option.some.inj (f1.symm.trans r4)
  subst hcA
  rw [nI_clamp (by omega)]
  generalize hH1 : H.push ({ cls := G.2.2 (.object C), slots := Array.replicate N .null, vm := .none } : Cell) = H1
  have z1 : H1.size = H.size + 1 := by rw [← hH1, Array.size_push]
  have e1 : H1[H.size]? = some (arrV (G.2.2 (.object C)) N (fun _ => .null)) := by rw [← hH1, Array.getElem?_push_size, ← arrV_new]
  have o1 : ∀ q : Nat, q < H.size → H1[q]? = H[q]? := fun q hq => by rw [← hH1, Array.getElem?_push, if_neg (Nat.ne_of_lt hq)]
  rw [hz] at z1 e1 o1
  have hat : va_at G.1 vwCl (G.2.1 + n, cvC G.2.1 G.2.2 (.inl (.object C, N, .inr (.inr (.inr (.inr (fun _ => none))))))) H1 := by
    show H1[G.2.1 + n]? = some (vp_cell _ _)
    exact e1
  have hk := k G p lc e s m args below meth c X H1 locs ls (by omega) (hW.push _ hz o1 hat) ⟨by have := hS.1; omega, fun x g1 g2 => (o1 x (by have := hS.1; omega)).trans (hS.2.1 x g1 g2), hS.2.2⟩ hl
  rw [show n + 1 - n0 = n - n0 + 1 by omega] at hk
  rw [hz]
  exact hk
theorem mw_objInit {nx tg ix a : Nat} (hf : fch M pc = some (.invokespecial ix, 3, nx, tg)) (hw : ∀ w ∈ ([.methodLink M.1.cls ix Lib.objectInit, .instanceMethod Lib.objectInit, .code Lib.objectInit ⟨#[0xb1]⟩ 1 none] : List Cond), w ∈ lw_gd) (hd : 1 ≤ d) (hcat : (S.map fun v => v.category).sum ≤ 8) (k : MW M d mc ms n0 post nx L S h n sl) : MW M d mc ms n0 post pc L (.ref a :: S) h n sl := by
  intro G p lc e s m args below meth c X H locs ls hn hW hS hl
  obtain ⟨hdg, rfl, htg⟩ := fch_ok X.1 hf
  have hts := X.2.2.2.2.2.2.2.2.1
  refine W.objInit X.2.1 X.2.2.1 X.2.2.2.2.2.2.1 (hts _ (hw _ (by simp))) (hts _ (hw _ (by simp))) (hts _ (hw (.code Lib.objectInit ⟨#[0xb1]⟩ 1 none) (by simp))) (g := F0 m pc ls ((Value.ref a :: S).map (cvV G.2.1))) rfl (by rw [X.2.2.2.2.2.1]; exact hl.1) rfl hdg hd ?_ (k G p lc e s m args below meth c X H locs ls hn hW hS hl)
  show 2 * 0 + ((S.map (cvV G.2.1)).map fun v => v.category).sum + 12 ≤ 42 * d
  rw [cat_sum_cv]
  omega
theorem mw_mmin {nx tg ix : Nat} {x y : Int32} (hf : fch M pc = some (.invokestatic ix, 3, nx, tg)) (hw : ∀ w ∈ ([.methodLink M.1.cls ix Lib.Math.min.name, .static Lib.Math.min.name, .initialized "java/lang/Math", .code Lib.Math.min.name Lib.Math.min.code 2 (some .int)] : List Cond), w ∈ lw_gd) (hd : 1 ≤ d) (hcat : (S.map fun v => v.category).sum ≤ 8) (hmc : n ≤ n0 + mc) (hms : sl ≤ ms) (k : MW M d mc ms n0 post nx L (.int (if y < x then y else x) :: S) h n sl) : MW M d mc ms n0 post pc L (.int y :: .int x :: S) h n sl := by
  intro G p lc e s m args below meth c X H locs ls hn hW hS hl
  obtain ⟨hdg, rfl, htg⟩ := fch_ok X.1 hf
  have hts := X.2.2.2.2.2.2.2.2.1
  refine va_mmin X.2.1 X.2.2.1 (by rw [X.2.2.2.2.2.1]; exact hl.1.symm) X.2.2.2.2.2.2.1 (hts _ (hw _ (by simp))) (hts _ (hw (.static Lib.Math.min.name) (by simp))) (hts _ (hw _ (by simp))) (hts _ (hw (.code Lib.Math.min.name Lib.Math.min.code 2 (some .int)) (by simp))) hd ?_ (show n - n0 ≤ mc by omega) hms hdg (k G p lc e s m args below meth c X H locs ls hn hW hS hl)
  show ((S.map (cvV G.2.1)).map fun v => v.category).sum + 13 ≤ 42 * d
  rw [cat_sum_cv]
  omega
theorem mw_mmax {nx tg ix : Nat} {x y : Int32} (hf : fch M pc = some (.invokestatic ix, 3, nx, tg)) (hw : ∀ w ∈ ([.methodLink M.1.cls ix Lib.Math.max.name, .static Lib.Math.max.name, .initialized "java/lang/Math", .code Lib.Math.max.name Lib.Math.max.code 2 (some .int)] : List Cond), w ∈ lw_gd) (hd : 1 ≤ d) (hcat : (S.map fun v => v.category).sum ≤ 8) (hmc : n ≤ n0 + mc) (hms : sl ≤ ms) (k : MW M d mc ms n0 post nx L (.int (if x < y then y else x) :: S) h n sl) : MW M d mc ms n0 post pc L (.int y :: .int x :: S) h n sl := by
  intro G p lc e s m args below meth c X H locs ls hn hW hS hl
  obtain ⟨hdg, rfl, htg⟩ := fch_ok X.1 hf
  have hts := X.2.2.2.2.2.2.2.2.1
  refine va_mmax X.2.1 X.2.2.1 (by rw [X.2.2.2.2.2.1]; exact hl.1.symm) X.2.2.2.2.2.2.1 (hts _ (hw _ (by simp))) (hts _ (hw (.static Lib.Math.max.name) (by simp))) (hts _ (hw _ (by simp))) (hts _ (hw (.code Lib.Math.max.name Lib.Math.max.code 2 (some .int)) (by simp))) hd ?_ (show n - n0 ≤ mc by omega) hms hdg (k G p lc e s m args below meth c X H locs ls hn hW hS hl)
  show ((S.map (cvV G.2.1)).map fun v => v.category).sum + 13 ≤ 42 * d
  rw [cat_sum_cv]
  omega
/-- System.arraycopy of a whole row of ints into another -/
theorem mw_acopy {nx tg ix a b N : Nat} {f g : Nat → Int32} (hf : fch M pc = some (.invokestatic ix, 3, nx, tg)) (hw : ∀ w ∈ ([.methodLink M.1.cls ix arraycopyName, .native arraycopyName, .static arraycopyName, .initialized "java/lang/System"] : List Cond), w ∈ lw_gd) (ha : h a = (.inl (.int, N, .inl f))) (hb2 : h b = (.inl (.int, N, .inl g))) (hN : N < 2147483648) (hd : 2 ≤ d) (hcat : (S.map fun v => v.category).sum ≤ 8) (k : MW M d mc ms n0 post nx L S (hset h b (.inl (.int, N, .inl (va_cpy f g 0 0 N)))) n sl) : MW M d mc ms n0 post pc L (.int (nI N) :: .int (nI 0) :: .ref b :: .int (nI 0) :: .ref a :: S) h n sl := by
  intro G p lc e s m args below meth c X H locs ls hn hW hS hl
  obtain ⟨hdg, rfl, htg⟩ := fch_ok X.1 hf
  have hts := X.2.2.2.2.2.2.2.2.1
  refine va_copyi (D := G.1) (tys := mTT G) (A := mA G) X.2.1 X.2.2.1 (by rw [X.2.2.2.2.2.1]; exact hl.1.symm) X.2.2.2.2.2.2.1 (hts _ (hw _ (by simp))) (hts _ (hw (.native arraycopyName) (by simp))) (hts _ (hw (.static arraycopyName) (by simp))) (hts _ (hw _ (by simp))) X.2.2.2.2.2.2.2.2.2.1.1 hW.2 (mws_D G _ n) hS a b 0 0 (hW.at ha dead_l) (hW.at hb2 dead_l) rfl rfl rfl (nI_pos (by omega)) (nI_pos (by omega)) (nI_pos hN) (by rw [nI_clamp hN, nI_clamp (by omega)]; omega) (by rw [nI_clamp hN, nI_clamp (by omega)]; omega) (fun i _ => rfl) (show 1 ≤ d by omega) ?_ hdg (fun H1 locs1 hP1 hD1 hS1 => ?_)
  · show ((S.map (cvV G.2.1)).map fun v => v.category).sum + (nativeFrameWords "java/lang/System" "arraycopy" 5 + 11) ≤ 42 * d
    rw [cat_sum_cv]
    have : nativeFrameWords "java/lang/System" "arraycopy" 5 ≤ 20 := by decide
    omega
  · rw [nI_clamp hN, nI_clamp (by omega)] at hP1
    exact k G p lc e s m args below meth c X H1 locs1 ls hn (hW.put _ (hW.lt hb2 dead_l) hP1) hS1 hl
end MWOPS3
