/-! WHAT IS FOUND doesn't depend on the numbers of places; what the rules alone give doesn't depend on the base facts -/
def EqG (v v' : Nat → Nat) : Prop := v' 0 = v 0 ∧ v' 2 = v 2 ∧ ∀ j, 45 ≤ j → v' j = v j
def EqP (v v' : Nat → Nat) : Prop := EqG v v' ∧ v' 1 = v 1 ∧ ∀ j, 9 ≤ j → v' j = v j
section CG
variable {v v' : Nat → Nat}
theorem fA_g (h : EqG v v') : fA v' = fA v := by
  funext b r a
  unfold fA
  rw [h.2.2 (45 + 18 * r + 2 + 4 * a) (by omega), h.2.2 (45 + 18 * r + 2 + 4 * a + 1) (by omega), h.2.2 (45 + 18 * r + 2 + 4 * a + 2) (by omega)]
theorem hLit_g (h : EqG v v') : hLit v' = hLit v := by
  funext b m r a
  unfold hLit
  rw [fA_g h, h.2.2 (45 + 18 * r + 2 + 4 * (a + 1) + 3) (by omega)]
theorem holdsR_g (h : EqG v v') : holdsR v' = holdsR v := by
  funext b m r
  unfold holdsR
  rw [hLit_g h, h.2.2 (45 + 18 * r + 1) (by omega)]
theorem rowB_g (h : EqG v v') : rowB v' = rowB v := by
  funext r a
  unfold rowB
  rw [h.2.2 (45 + 18 * r + 2 + 4 * a + 1) (by omega), h.2.2 (45 + 18 * r + 2 + 4 * a + 2) (by omega)]
theorem varB_g (h : EqG v v') : varB v' = varB v := by
  funext r
  unfold varB
  rw [rowB_g h, h.2.2 (45 + 18 * r + 1) (by omega)]
theorem bLim_g (h : EqG v v') : bLim v' = bLim v := by
  funext r x
  unfold bLim
  rw [varB_g h, h.1]
theorem bOk_g (h : EqG v v') : bOk v' = bOk v := by
  funext r code
  unfold bOk
  rw [bLim_g h]
theorem goC_g (h : EqG v v') : goC v' = goC v := by
  funext m r code p
  unfold goC
  rw [bOk_g h, holdsR_g h, fA_g h]
theorem goR_g (h : EqG v v') : goR v' = goR v := by
  funext st m s r p
  unfold goR
  rw [goC_g h, h.2.2 (45 + 18 * r + 2 + 4 * 0) (by omega)]
theorem goA_g (h : EqG v v') : goA v' = goA v := by
  funext st m s nb b
  unfold goA
  rw [goR_g h, h.2.1]
theorem newF_g (h : EqG v v') : newF v' = newF v := by
  funext st m s
  unfold newF
  rw [goA_g h]
theorem cntS_g (h : EqG v v') : cntS v' = cntS v := by
  funext st s X
  unfold cntS
  rw [newF_g h]
theorem stepM_g (h : EqG v v') : stepM v' = stepM v := by
  funext st s X
  unfold stepM
  rw [newF_g h, cntS_g h]
theorem runS_g (h : EqG v v') : runS v' = runS v := by
  funext st s X
  unfold runS
  rw [stepM_g h]
theorem strA_g (h : EqG v v') : strA v' = strA v := by
  funext r a S
  unfold strA
  rw [h.2.2 (45 + 18 * r + 2 + 4 * 0) (by omega), h.2.2 (45 + 18 * r + 2 + 4 * (a + 1)) (by omega), h.2.2 (45 + 18 * r + 2 + 4 * (a + 1) + 3) (by omega)]
theorem strR_g (h : EqG v v') : strR v' = strR v := by
  funext r S
  unfold strR
  rw [strA_g h, h.2.2 (45 + 18 * r + 1) (by omega)]
theorem strP_g (h : EqG v v') : strP v' = strP v := by
  funext S
  unfold strP
  rw [strR_g h, h.2.1]
theorem strW_g (h : EqG v v') : strW v' = strW v := by
  funext S
  unfold strW
  rw [strP_g h]
theorem strF_g (h : EqG v v') : strF v' = strF v := by
  unfold strF
  rw [strW_g h]
theorem plA_g (h : EqG v v') : plA v' = plA v := by
  funext r a
  unfold plA
  rw [h.2.2 (45 + 18 * r + 1) (by omega), h.2.2 (45 + 18 * r + 2 + 4 * a + 3) (by omega)]
theorem liA_g (h : EqG v v') : liA v' = liA v := by
  funext b r a
  unfold liA
  rw [plA_g h, fA_g h]
theorem liU_g (h : EqG v v') : liU v' = liU v := by
  funext b r c a li
  unfold liU
  rw [liA_g h]
theorem hoC_g (h : EqG v v') : hoC v' = hoC v := by
  funext m r code S
  unfold hoC
  rw [bOk_g h, holdsR_g h, fA_g h, liU_g h]
theorem hoR_g (h : EqG v v') : hoR v' = hoR v := by
  funext m r S
  unfold hoR
  rw [hoC_g h]
theorem hoF_g (h : EqG v v') : hoF v' = hoF v := by
  funext m S
  unfold hoF
  rw [hoR_g h, h.2.1]
theorem coS_g (h : EqG v v') : coS v' = coS v := by
  funext S c i
  unfold coS
  rw [h.2.2 (45 + 18 * S.2.1 i) (by omega)]
theorem coB_g (h : EqG v v') : coB v' = coB v := by
  funext S c i
  unfold coB
  rw [coS_g h]
theorem coI_g (h : EqG v v') : coI v' = coI v := by
  funext S i p
  unfold coI
  rw [coB_g h]
theorem coP_g (h : EqG v v') : coP v' = coP v := by
  funext S c
  unfold coP
  rw [coI_g h]
theorem lsI_g (h : EqG v v') : lsI v' = lsI v := by
  funext S c i L
  unfold lsI
  rw [coB_g h]
theorem plN_g (h : EqG v v') : plN v' = plN v := by
  funext r a
  induction a with
  | zero => rfl
  | succ a ih =>
    simp only [plN]
    rw [ih, h.2.2 (45 + 18 * r + 2 + 4 * (a + 1) + 3) (by omega)]
theorem plT_g (h : EqG v v') : plT v' = plT v := by
  funext r
  unfold plT
  rw [plN_g h, h.2.2 (45 + 18 * r + 1) (by omega)]
theorem bdP_g (h : EqG v v') : bdP v' = bdP v := by
  funext r i a
  unfold bdP
  rw [plN_g h, plT_g h, h.2.2 (45 + 18 * r + 2 + 4 * (a + 1) + 3) (by omega)]
theorem dueV_g (h : EqG v v') : dueV v' = dueV v := by
  funext st r n
  unfold dueV
  refine itN_cg fun a _ x => ?_
  rw [h.2.2 (45 + 18 * r + 2 + 4 * (a + 1)) (by omega), h.2.2 (45 + 18 * r + 2 + 4 * (a + 1) + 3) (by omega)]
theorem raV_g (h : EqG v v') : raV v' = raV v := by
  funext r st
  unfold raV
  rw [dueV_g h, h.2.2 (45 + 18 * r + 1) (by omega), h.2.2 (45 + 18 * r + 2 + 4 * 0) (by omega)]
theorem gsR_g (h : EqG v v') : gsR v' = gsR v := by
  funext r S
  unfold gsR
  rw [raV_g h]
theorem gsP_g (h : EqG v v') : gsP v' = gsP v := by
  funext st
  unfold gsP
  rw [gsR_g h, h.2.1]
theorem gsW_g (h : EqG v v') : gsW v' = gsW v := by
  funext S
  unfold gsW
  rw [gsP_g h]
theorem grF_g (h : EqG v v') : grF v' = grF v := by
  unfold grF
  rw [gsW_g h]
theorem enC_g (h : EqG v v') : enC v' = enC v := by
  funext r code S
  unfold enC
  rw [bOk_g h]
theorem enR_g (h : EqG v v') : enR v' = enR v := by
  funext r S
  unfold enR
  rw [enC_g h]
theorem enF_g (h : EqG v v') : enF v' = enF v := by
  funext k
  unfold enF
  rw [enR_g h]
theorem GI_g (h : EqG v v') {S : EnS} {ru hd bd : Nat → Nat} (H : GI v S ru hd bd) : GI v' S ru hd bd := by
  intro i hi
  obtain ⟨h1, h2, h3, h4, h5⟩ := H i hi
  rw [fA_g h, bdP_g h, h.2.1, h.2.2 (45 + 18 * S.2.1 i + 1) (by omega)]
  exact ⟨h1, h2, h3, h4, h5⟩
theorem GrOk_g (h : EqG v v') {g : GD} (H : GrOk v g) : GrOk v' g := by
  obtain ⟨h1, h2, h3, h4, h5, h6, h7⟩ := H
  refine ⟨by rw [grF_g h]; exact h1, by rw [grF_g h]; exact h2, by rw [h.2.1]; exact h3, fun q hq => ?_, fun q hq => ?_, ?_, h7⟩
  · rw [h.2.1] at hq
    rw [plT_g h, h.2.2 (45 + 18 * q + 2 + 4 * 0) (by omega), h.2.2 (45 + 18 * q) (by omega), h.2.2 (45 + 18 * q + 1) (by omega)]
    exact h4 q hq
  · rw [h.2.1] at hq
    rw [enF_g h]
    exact h5 q hq
  · rw [enF_g h, h.2.1]
    exact GI_g h h6
theorem HdOk_g (h : EqG v v') {S : HoS} {tot : Nat} {hs oh : Nat → Nat} (H : HdOk v S tot hs oh) : HdOk v' S tot hs oh := by
  obtain ⟨h1, h2, h3⟩ := H
  refine ⟨h1, fun j hj => ?_, h3⟩
  rw [enF_g h, fA_g h, liA_g h, h.2.1]
  exact h2 j hj
theorem SafR_g (h : EqG v v') {R : RuS} {r : Nat} (H : SafR v R r) : SafR v' R r := fun x hx => by
  rw [varB_g h]
  exact H x hx
theorem EqP.f (h : EqP v v') (k : Nat) : v' (9 + 3 * k) = v (9 + 3 * k) := h.2.2 _ (by omega)
theorem EqP.f1 (h : EqP v v') (k : Nat) : v' (9 + 3 * k + 1) = v (9 + 3 * k + 1) := h.2.2 _ (by omega)
theorem EqP.f2 (h : EqP v v') (k : Nat) : v' (9 + 3 * k + 2) = v (9 + 3 * k + 2) := h.2.2 _ (by omega)
theorem coU_p (h : EqP v v') : coU v' = coU v := by
  funext k c
  unfold coU
  rw [h.f, h.f1]
theorem coBase_p (h : EqP v v') : coBase v' = coBase v := by
  unfold coBase
  rw [coU_p h, h.2.1]
theorem lkK_p (h : EqP v v') : lkK v' = lkK v := by
  funext k l
  unfold lkK
  rw [h.f, h.f2]
theorem lkBase_p (h : EqP v v') : lkBase v' = lkBase v := by
  unfold lkBase
  rw [lkK_p h, h.2.1]
theorem lsK_p (h : EqP v v') : lsK v' = lsK v := by
  funext c k L
  unfold lsK
  rw [h.f, h.f1]
theorem ls2_p (h : EqP v v') : ls2 v' = ls2 v := by
  funext S c lb
  unfold ls2
  rw [lsI_g h.1, lsK_p h, h.2.1]
theorem dvK_p (h : EqP v v') : dvK v' = dvK v := by
  funext x k D
  unfold dvK
  rw [h.f]
theorem dvBase_p (h : EqP v v') : dvBase v' = dvBase v := by
  funext x
  unfold dvBase
  rw [dvK_p h, h.2.1]
theorem baseM_p (h : EqP v v') : baseM v' = baseM v := by
  funext x
  unfold baseM
  rw [h.2.1]
  exact itN_cg fun k _ m => by rw [h.f]
theorem mdlV_p (h : EqP v v') : mdlV v' = mdlV v := by
  funext st x
  unfold mdlV
  rw [runS_g h.1, baseM_p h]
theorem KcOk_p (h : EqP v v') {S : HoS} {c kr z u : Nat → Nat} (H : KcOk v S c kr z u) : KcOk v' S c kr z u := by
  unfold KcOk at H ⊢
  rw [coP_g h.1, coBase_p h, ls2_p h]
  exact H
theorem KlOk_p (h : EqP v v') {S : HoS} {l : Nat → UInt32} (H : KlOk v S l) : KlOk v' S l := by
  unfold KlOk at H ⊢
  rw [lkBase_p h]
  exact H
theorem KsOk_p (h : EqP v v') {S : HoS} {sm : Nat → Nat} {rw' : Nat → Int64} (H : KsOk v S sm rw') : KsOk v' S sm rw' := by
  unfold KsOk at H ⊢
  rw [dvBase_p h]
  exact H
theorem FndM_p (h : EqP v v') {w : Nat → Int32} {x : RD} {S : HoS} (H : FndM v w x S) : FndM v' w x S := by
  unfold FndM at H ⊢
  rw [mdlV_p h, hoF_g h.1, coP_g h.1, coBase_p h, lkBase_p h, ls2_p h]
  exact H
theorem FndI_p (h : EqP v v') {w : Nat → Int32} {x : RD} (H : FndI v w x) : FndI v' w x := by
  refine ⟨H.1, H.2.imp id fun q => ?_⟩
  obtain ⟨h1, h2, h3, h4⟩ := q
  unfold Fnd
  rw [strF_g h.1]
  refine ⟨h1, h2, h3, fun q => ?_⟩
  obtain ⟨S, hS⟩ := h4 q
  exact ⟨S, FndM_p h hS⟩
end CG
theorem EqP_places (v : Nat → Nat) {p q : Nat} (hp : p < 6) : EqP v (updN v (3 + p) q) := by
  refine ⟨⟨updN_ne _ _ (by omega), updN_ne _ _ (by omega), fun j hj => updN_ne _ _ (by omega)⟩, updN_ne _ _ (by omega), fun j hj => updN_ne _ _ (by omega)⟩
theorem addFactV_o {v : Nat → Nat} {f c s j : Nat} (h1 : j ≠ 1) (h2 : j ≠ 9 + 3 * v 1) (h3 : j ≠ 9 + 3 * v 1 + 1) (h4 : j ≠ 9 + 3 * v 1 + 2) : addFactV v f c s j = v j := by
  show (if j = 1 then v 1 + 1 else if j = 9 + 3 * v 1 then f else if j = 9 + 3 * v 1 + 1 then c else if j = 9 + 3 * v 1 + 2 then s else v j) = v j
  rw [if_neg h1, if_neg h2, if_neg h3, if_neg h4]
theorem EqG_addFact (v : Nat → Nat) {f c s : Nat} (h : v 1 < 12) : EqG v (addFactV v f c s) :=
  ⟨addFactV_o (by omega) (by omega) (by omega) (by omega), addFactV_o (by omega) (by omega) (by omega) (by omega), fun j hj => addFactV_o (by omega) (by omega) (by omega) (by omega)⟩
theorem EqG_removeFact (v : Nat → Nat) {f : Nat} (h : v 1 ≤ 12) (hf : f < v 1) : EqG v (shV (updN v 1 (v 1 - 1)) 3 (9 + 3 * f) (9 + 3 * (v 1 - 1))) := by
  refine ⟨?_, ?_, fun j hj => ?_⟩
  · rw [shV_out (by omega), updN_ne _ _ (by omega)]
  · rw [shV_out (by omega), updN_ne _ _ (by omega)]
  · rw [shV_out (by omega), updN_ne _ _ (by omega)]
