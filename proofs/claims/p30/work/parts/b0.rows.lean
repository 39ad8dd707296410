/-! P30: rows of the law's methods -/
section BROWS
variable {M : MI} {d mc ms n0 : Nat} {post : Option Value → (Nat → MC) → Prop} {pc : Nat} {L : List (Nat × Value)} {S : List Value} {h : Nat → MC} {n sl nx tg : Nat}
theorem mw_ineg {x : Int32} (hf : fch M pc = some (.ineg, 1, nx, tg)) (k : MW M d mc ms n0 post nx L (.int (-x) :: S) h n sl) : MW M d mc ms n0 post pc L (.int x :: S) h n sl := by
  intro G p lc e s m args below meth c X H locs ls hn hW hS hl
  obtain ⟨hdg, rfl, htg⟩ := fch_ok X.1 hf
  exact lv_ineg X.2.1 X.2.2.1 hdg (k G p lc e s m args below meth c X H locs ls hn hW hS hl)
theorem mw_nshr {a j : Nat} (hf : fch M pc = some (.ishr, 1, nx, tg)) (ha : a < 2147483648) (hj : j < 31) (k : MW M d mc ms n0 post nx L (.int (nI (a / 2 ^ j)) :: S) h n sl) : MW M d mc ms n0 post pc L (.int (nI j) :: .int (nI a) :: S) h n sl := mw_ishr hf (by rw [pk_shrN ha _ j (sh_amt j hj)]; exact k)
theorem mw_nshl {a j : Nat} (hf : fch M pc = some (.ishl, 1, nx, tg)) (hj : j < 31) (ha : a * 2 ^ j < 2 ^ 32) (k : MW M d mc ms n0 post nx L (.int (nI (a * 2 ^ j)) :: S) h n sl) : MW M d mc ms n0 post pc L (.int (nI j) :: .int (nI a) :: S) h n sl := mw_ishl hf (by rw [shlN hj ha]; exact k)
theorem mw_nand {a b : Nat} (hf : fch M pc = some (.iand, 1, nx, tg)) (k : MW M d mc ms n0 post nx L (.int (nI (a &&& b)) :: S) h n sl) : MW M d mc ms n0 post pc L (.int (nI b) :: .int (nI a) :: S) h n sl := mw_iand hf (by rw [nI_and12]; exact k)
/-- the object's state D, the law's own cells as in h0 -/
def SJ (D : LD) (h0 h : Nat → MC) : Prop := KSd D h ∧ ∀ j, 178 ≤ j → h j = h0 j
theorem SJ.go {D D' : LD} {h0 h h1 : Nat → MC} {A : Option Value → Prop} {r : Option Value} (H : SJ D h0 h) (q : KRet A D' h r h1) : SJ D' h0 h1 := ⟨q.2.2, fun j hj => (q.2.1 j hj).trans (H.2 j hj)⟩
theorem mw_ask {ix na dd : Nat} {M' : MI} {as St : List Value} {D D' : LD} {h0 : Nat → MC} {A : Option Value → Prop} (hsp : Sp M' dd 0 0 (.ref 0 :: as) h n (KRet A D' h)) (hJ : SJ D h0 h) (hf : fch M pc = some (.invokevirtual ix, 3, nx, tg)) (hok : mi_ok M') (hv : mvOk M.1.cls ix M'.1 na) (hst : St = as.reverse ++ .ref 0 :: S) (hq : vwCl[9]?.map (fun q => q.1) = some M'.1.cls) (hlen : (lg_sl (.ref 0 :: as)).length ≤ M'.2.2.1) (hna : as.length = na) (hcat : (S.map fun v => v.category).sum ≤ 8) (hd : dd < d) (hmc : n - n0 ≤ mc) (hms : sl ≤ ms)
    (k : ∀ r h1, A r → SJ D' h0 h1 → MW M d mc ms n0 post nx L (r.toList ++ S) h1 n sl) : MW M d mc ms n0 post pc L St h n sl := by
  obtain ⟨fs, hfd, hc⟩ := hJ.1.c0
  exact mw_callV hsp hf hok hv hst hc hfd hq hlen hna hcat hd hmc hms (fun r h1 w => k r h1 w.1 (hJ.go w))
theorem mw_askI {ix na dd : Nat} {M' : MI} {as St : List Value} {D D' : LD} {h0 : Nat → MC} {y : Int32} (hsp : Sp M' dd 0 0 (.ref 0 :: as) h n (KRet (fun r => r = some (.int y)) D' h)) (hJ : SJ D h0 h) (hf : fch M pc = some (.invokevirtual ix, 3, nx, tg)) (hok : mi_ok M') (hv : mvOk M.1.cls ix M'.1 na) (hst : St = as.reverse ++ .ref 0 :: S) (hq : vwCl[9]?.map (fun q => q.1) = some M'.1.cls) (hlen : (lg_sl (.ref 0 :: as)).length ≤ M'.2.2.1) (hna : as.length = na) (hcat : (S.map fun v => v.category).sum ≤ 8) (hd : dd < d) (hmc : n - n0 ≤ mc) (hms : sl ≤ ms)
    (k : ∀ h1, SJ D' h0 h1 → MW M d mc ms n0 post nx L (.int y :: S) h1 n sl) : MW M d mc ms n0 post pc L St h n sl :=
  mw_ask hsp hJ hf hok hv hst hq hlen hna hcat hd hmc hms (fun r h1 hr hj => by
    subst hr
    exact k h1 hj)
end BROWS
theorem isF_of {v : Nat → Nat} (hok : OkN v) {p a b : Nat} (hp : p < 6) (ha : a < v 0) (hb : b < v 0) (h1 : v (3 + p) = 1 → b = 0) : isF v (nI p) (nI a) (nI b) = true ∧ fctN (nI p) (nI a) (nI b) = 36 * p + 6 * a + b := by
  have h6 := hok.2.1
  refine ⟨?_, ?_⟩
  · unfold isF
    rw [inI_nI hp (by omega), inI_nI ha (by omega), inI_nI hb (by omega), nI_clamp (show p < 2 ^ 31 by omega)]
    rcases hok.2.2.2.2.1 p hp with q | q
    · rw [h1 q, decide_eq_true (show nI 0 = 0 from rfl), Bool.or_true]
      rfl
    · rw [q]
      rfl
  · unfold fctN
    rw [nI_clamp (show p < 2 ^ 31 by omega), nI_clamp (show a < 2 ^ 31 by omega), nI_clamp (show b < 2 ^ 31 by omega)]
theorem ko_wn {M : MI} {n : Nat} {as : List Value} {D : LD} {h : Nat → MC} {v : Nat → Nat} {p a b y : Int32} (H : Sp M 8 0 0 as h n (KRet (fun r => r = some (.int (wA v p a b y))) D h)) (hw : wrV v p a b = -5) : Sp M 8 0 0 as h n (KRet (fun r => r = some (.int (-5))) D h) := by
  rw [wA_lt (by rw [hw]; decide), hw] at H
  exact H
theorem ko_wp {M : MI} {n : Nat} {as : List Value} {D : LD} {h : Nat → MC} {v : Nat → Nat} {p a b y : Int32} (H : Sp M 8 0 0 as h n (KRet (fun r => r = some (.int (wA v p a b y))) D h)) (hw : wrV v p a b = 0) : Sp M 8 0 0 as h n (KRet (fun r => r = some (.int y)) D h) := by
  rw [wA_ge (by rw [hw]; decide)] at H
  exact H
theorem ko_v {M : MI} {n : Nat} {as : List Value} {D : LD} {h : Nat → MC} {y z : Int32} (H : Sp M 8 0 0 as h n (KRet (fun r => r = some (.int y)) D h)) (e : y = z) : Sp M 8 0 0 as h n (KRet (fun r => r = some (.int z)) D h) := e ▸ H
theorem Sp.of2 {M : MI} {d mc ms : Nat} {av : List Value} {h : Nat → MC} {n : Nat} {Q : Option Value → (Nat → MC) → Prop} (k : ∀ post : Option Value → (Nat → MC) → Prop, (∀ r h1, Q r h1 → post r h1) → MW M d mc ms n post 0 (lv_args 0 av) [] h n 0) : Sp M d mc ms av h n Q := k Q (fun _ _ q => q)
theorem mov_out {l : MLs} {h : Nat → MC} {j : Nat} (hl : l.all (fun q => Nat.ble 178 q.1) = true) (hj : j < 178) : mov l h j = h j := by
  cases e : mlk l j with
  | none => simp [mov, e]
  | some c =>
    have := Nat.le_of_ble_eq_true (List.all_eq_true.mp hl _ (mlk_mem e))
    have : 178 ≤ j := this
    omega
/-- the text, as a list -/
def TL (D : LD) (ls : List Nat) : Prop := D.2.1 = ls.length ∧ ∀ i, i < ls.length → D.2.2.1 i = ls.getD i 0
/-- a text is being written: ls so far -/
def TJ (D0 : LD) (ls : List Nat) (h0 h : Nat → MC) : Prop := ∃ D : LD, D.1 = D0.1 ∧ D.2.2.2 = D0.2.2.2 ∧ TL D ls ∧ DOk D ∧ SJ D h0 h
theorem TJ.c {D0 : LD} {ls : List Nat} {h0 h : Nat → MC} (hT : TJ D0 ls h0 h) {j : Nat} (hj : 178 ≤ j) : h j = h0 j := by
  obtain ⟨D, -, -, -, -, hJ⟩ := hT
  exact hJ.2 j hj
theorem TJ.c0 {D0 : LD} {ls : List Nat} {h0 h : Nat → MC} (hT : TJ D0 ls h0 h) : isO 0 9 h := by
  obtain ⟨D, -, -, -, -, hJ⟩ := hT
  exact hJ.1.c0
theorem TL.push {D : LD} {ls : List Nat} (H : TL D ls) (y : Nat) : TL (D.1, D.2.1 + 1, updN D.2.2.1 D.2.1 y, D.2.2.2) (ls ++ [y]) := by
  obtain ⟨h1, h2⟩ := H
  refine ⟨?_, fun i hi => ?_⟩
  · show D.2.1 + 1 = (ls ++ [y]).length
    rw [List.length_append, h1]
    rfl
  · rw [List.length_append] at hi
    have hi : i < ls.length + 1 := hi
    show updN D.2.2.1 D.2.1 y i = (ls ++ [y]).getD i 0
    by_cases e : i = ls.length
    · rw [h1, e, updN_same, List.getD_eq_getElem?_getD, List.getElem?_append_right (Nat.le_refl _), Nat.sub_self]
      rfl
    · rw [updN_ne _ _ (by omega), h2 i (by omega), List.getD_eq_getElem?_getD, List.getD_eq_getElem?_getD, List.getElem?_append_left (by omega)]
theorem mov2_o {h : Nat → MC} {a b j : Nat} {c d : MC} (h1 : j ≠ a) (h2 : j ≠ b) : mov [(a, c), (b, d)] h j = h j := by
  simp only [mov, mlk, nbf (fun w => h1 w.symm), nbf (fun w => h2 w.symm), cond_false]
theorem TxA.put {h h1 : Nat → MC} {tl tl' : Nat} {t t' : Nat → Nat} {s : KS} (H : TxA h tl t s) (e49 : h1 49 = .inr (7, [.ref 50, .int (nI tl'), .ref 51, .int (nI s.1)])) (e50 : h1 50 = .inl (.int, 60, .inl (vI t'))) (e : ∀ j, 51 ≤ j → j < 56 → h1 j = h j) : TxA h1 tl' t' s := by
  refine ⟨mov_self fun q hq => ?_, e50⟩
  simp only [List.mem_cons, List.not_mem_nil, or_false] at hq
  rcases hq with rfl | rfl | rfl | rfl | rfl | rfl
  · exact e49
  · exact (e 51 (by omega) (by omega)).trans (congrFun H.1 51).symm
  · exact (e 52 (by omega) (by omega)).trans (congrFun H.1 52).symm
  · exact (e 53 (by omega) (by omega)).trans (congrFun H.1 53).symm
  · exact (e 54 (by omega) (by omega)).trans (congrFun H.1 54).symm
  · exact (e 55 (by omega) (by omega)).trans (congrFun H.1 55).symm
theorem ko_append {D : LD} {h : Nat → MC} {n d c : Nat} (hD : DOk D) (hK : KSd D h) (hc : c < 128) (hl60 : D.2.1 < 60) : DOk (D.1, D.2.1 + 1, updN D.2.2.1 D.2.1 c, D.2.2.2) ∧ Sp M_X9_append (d + 1) 0 0 [.ref 0, .int (nI c)] h n (KRet (fun r => r = some (.int (nI (D.2.1 + 1)))) (D.1, D.2.1 + 1, updN D.2.2.1 D.2.1 c, D.2.2.2) h) := by
  obtain ⟨P, x, s, hk⟩ := hK
  refine ⟨⟨hD.1, hl60, fun i hi => ?_⟩, sp_imp (c_kappend d n c D.2.1 D.2.2.1 s x.1 h hk.1.1.c0 hk.2.1.c49 hk.2.1.2 hc hl60) fun r h1 hq => ?_⟩
  · have hi : i < D.2.1 + 1 := hi
    show updN D.2.2.1 D.2.1 c i < 128
    by_cases e : i = D.2.1
    · rw [e, updN_same]
      exact hc
    · rw [updN_ne _ _ e]
      exact hD.2.2 i (by omega)
  · obtain ⟨rfl, rfl⟩ := hq
    obtain ⟨k1, k2, k3, k4, k5⟩ := hk
    refine ⟨rfl, fun j hj => mov2_o (by omega) (by omega), P, x, s, k1.keep (fun j hj => mov2_o (by omega) (by omega)), k2.put rfl rfl (fun j q1 q2 => mov2_o (by omega) (by omega)), (mov2_o (by omega) (by omega)).trans k3, (mov2_o (by omega) (by omega)).trans k4, fun i hi => ?_⟩
    obtain ⟨P', g1, g2⟩ := k5 i hi
    exact ⟨P', g1.keep (fun j q1 q2 => mov2_o (by omega) (by omega)), g2⟩
section BROWS2
variable {M : MI} {d mc ms n0 : Nat} {post : Option Value → (Nat → MC) → Prop} {pc : Nat} {L : List (Nat × Value)} {S : List Value} {h : Nat → MC} {n sl nx tg : Nat}
/-- a letter is written -/
theorem mw_app {ix c : Nat} {D0 : LD} {ls : List Nat} {h0 : Nat → MC} (hT : TJ D0 ls h0 h) (hc : c < 128) (hl : ls.length < 60) (hf : fch M pc = some (.invokevirtual ix, 3, nx, tg)) (hv : mvOk M.1.cls ix M_X9_append.1 1) (hcat : (S.map fun v => v.category).sum ≤ 8) (hd : 6 < d) (hmc : n - n0 ≤ mc) (hms : sl ≤ ms)
    (k : ∀ h1, TJ D0 (ls ++ [c]) h0 h1 → MW M d mc ms n0 post nx L (.int (nI (ls.length + 1)) :: S) h1 n sl) : MW M d mc ms n0 post pc L (.int (nI c) :: .ref 0 :: S) h n sl := by
  obtain ⟨D, e1, e2, hL, hD, hJ⟩ := hT
  obtain ⟨g1, g2⟩ := ko_append (d := 5) (n := n) hD hJ.1 hc (by rw [hL.1]; exact hl)
  refine mw_askI g2 hJ hf ok_X9_append hv rfl rfl (Nat.le_of_ble_eq_true rfl) rfl hcat hd hmc hms (fun h1 hJ1 => ?_)
  rw [hL.1]
  rw [hL.1] at hJ1 g1
  refine k h1 ⟨(D.1, ls.length + 1, updN D.2.2.1 ls.length c, D.2.2.2), e1, e2, ?_, g1, hJ1⟩
  have := hL.push c
  rw [hL.1] at this
  exact this
end BROWS2
