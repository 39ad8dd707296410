/-! LEAST TREES do not depend on garbage -/
theorem itD_same {α : Type} {f g : Nat → α → α} : ∀ n (s : α), (∀ i, i < n → ∀ x, f i x = g i x) → itD f s n = itD g s n
  | 0, _, _ => rfl
  | n + 1, s, h => by
    show itD f (f n s) n = itD g (g n s) n
    rw [h n (by omega) s]
    exact itD_same n (g n s) (fun i hi => h i (by omega))
theorem ls2_s {v : Nat → Nat} {S S' : HoS} (H : SEq S S') (c lb : Nat → Nat) : ls2 v S' c lb = ls2 v S c lb := by
  unfold ls2
  rw [H.1]
  refine itD_same _ _ fun i hi L => ?_
  unfold lsI
  rw [coB_s H hi, (H.2 i hi).2.1, (H.2 i hi).1]
theorem andN_same {f g : Nat → Bool} : ∀ n, (∀ i, i < n → f i = g i) → andN f n = andN g n
  | 0, _ => rfl
  | n + 1, h => by
    unfold andN
    rw [andN_same n (fun i hi => h i (by omega)), h n (by omega)]
theorem allL_s {S S' : HoS} (H : SEq S S') {i : Nat} (hi : i < S.1) (f : Nat → Bool) : allL S' f i = allL S f i := by
  unfold allL
  refine andN_same 3 fun a ha => ?_
  rw [(H.2 i hi).2.2 a ha]
theorem szS_s {S S' : HoS} (H : SEq S S') {i : Nat} (hi : i < S.1) (z : Nat → Nat) : szS S' z i 3 = szS S z i 3 := by
  unfold szS
  refine itN_same 3 fun a ha => ?_
  funext s
  rw [(H.2 i hi).2.2 a ha]
theorem usS_s {S S' : HoS} (H : SEq S S') {i : Nat} (hi : i < S.1) (u : Nat → Nat) : usS S' u i 3 = usS S u i 3 := by
  unfold usS
  refine itN_same 3 fun a ha => ?_
  funext s
  rw [(H.2 i hi).2.2 a ha]
