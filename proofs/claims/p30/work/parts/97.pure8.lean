/-! COSTS AND LIKELIHOODS do not depend on garbage -/
theorem itN_same {α : Type} {f g : Nat → α → α} {s : α} : ∀ n, (∀ i, i < n → f i = g i) → itN f s n = itN g s n
  | 0, _ => rfl
  | n + 1, h => by
    show f n (itN f s n) = g n (itN g s n)
    rw [itN_same n (fun i hi => h i (by omega)), h n (by omega)]
theorem anyN_same {f g : Nat → Bool} : ∀ n, (∀ i, i < n → f i = g i) → anyN f n = anyN g n
  | 0, _ => rfl
  | n + 1, h => by
    show (anyN f n || f n) = (anyN g n || g n)
    rw [anyN_same n (fun i hi => h i (by omega)), h n (by omega)]
theorem coB_s {v : Nat → Nat} {S S' : HoS} (H : SEq S S') {i : Nat} (hi : i < S.1) (c : Nat → Nat) : coB v S' c i = coB v S c i := by
  have e : coS v S' c i = coS v S c i := by
    unfold coS
    rw [(H.2 i hi).1]
    refine itN_same 3 fun a ha => ?_
    funext s
    rw [(H.2 i hi).2.2 a ha]
  unfold coB
  rw [e]
theorem coP_s {v : Nat → Nat} {S S' : HoS} (H : SEq S S') : coP v S' = coP v S := by
  funext c
  unfold coP
  rw [H.1]
  refine itN_same _ fun i hi => ?_
  funext p
  unfold coI
  rw [coB_s H hi, (H.2 i hi).2.1]
theorem lkB_s {S S' : HoS} (H : SEq S S') {i : Nat} (hi : i < S.1) (l : Nat → UInt32) : lkB S' l i = lkB S l i := by
  have e1 : lkS S' l i 3 = lkS S l i 3 := by
    unfold lkS
    refine itN_same 3 fun a ha => ?_
    funext p
    rw [(H.2 i hi).2.2 a ha]
  have e2 : lkN S' l i 3 = lkN S l i 3 := by
    unfold lkN
    refine anyN_same 3 fun a ha => ?_
    rw [(H.2 i hi).2.2 a ha]
  unfold lkB
  rw [e1, e2]
theorem lkP_s {S S' : HoS} (H : SEq S S') : lkP S' = lkP S := by
  funext l
  unfold lkP
  rw [H.1]
  refine itN_same _ fun i hi => ?_
  funext p
  unfold lkI
  rw [lkB_s H hi, (H.2 i hi).2.1]
