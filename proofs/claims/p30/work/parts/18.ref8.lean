/-- strata: (strata, has a pass changed anything, is all below 6) -/
abbrev StS : Type := (Nat → Nat) × Bool × Bool
def strA (v : Nat → Nat) (r a : Nat) (S : StS) : StS :=
  if S.1 (v (45 + 18 * r + 2 + 4 * 0)) < S.1 (v (45 + 18 * r + 2 + 4 * (a + 1))) + v (45 + 18 * r + 2 + 4 * (a + 1) + 3) then
    (updN S.1 (v (45 + 18 * r + 2 + 4 * 0)) (S.1 (v (45 + 18 * r + 2 + 4 * (a + 1))) + v (45 + 18 * r + 2 + 4 * (a + 1) + 3)), true, S.2.2 && decide (S.1 (v (45 + 18 * r + 2 + 4 * (a + 1))) + v (45 + 18 * r + 2 + 4 * (a + 1) + 3) < 6))
  else S
def strR (v : Nat → Nat) (r : Nat) (S : StS) : StS := itN (strA v r) S (v (45 + 18 * r + 1))
def strP (v : Nat → Nat) (S : StS) : StS := itN (strR v) (S.1, false, S.2.2) (v 2)
def strW (v : Nat → Nat) (S : StS) : StS := if S.2.1 && S.2.2 then strP v S else S
def strF (v : Nat → Nat) : StS := itN (fun _ => strW v) (fun _ => 0, true, true) 40
def sumN (f : Nat → Nat) : Nat → Nat
  | 0 => 0
  | k + 1 => sumN f k + f k
theorem sumN_upd (f : Nat → Nat) (k x : Nat) : ∀ n, k < n → sumN (updN f k x) n + f k = sumN f n + x
  | 0, h => absurd h (Nat.not_lt_zero _)
  | n + 1, h => by
    simp only [sumN]
    by_cases e : k = n
    · subst e
      have h1 : sumN (updN f k x) k = sumN f k := by
        have : ∀ m, m ≤ k → sumN (updN f k x) m = sumN f m := by
          intro m
          induction m with
          | zero => intro _; rfl
          | succ m ih =>
            intro hm
            simp only [sumN]
            rw [ih (by omega), updN_ne _ _ (by omega)]
        exact this k (Nat.le_refl _)
      rw [h1, updN_same]
      omega
    · have := sumN_upd f k x n (by omega)
      rw [updN_ne _ _ (show n ≠ k by omega)]
      omega
theorem sumN_lt {f : Nat → Nat} {c : Nat} : ∀ n, (∀ k, k < n → f k ≤ c) → sumN f n ≤ n * c
  | 0, _ => Nat.zero_le _
  | n + 1, h => by
    have h1 := sumN_lt n (fun k hk => h k (by omega))
    have h2 := h n (by omega)
    simp only [sumN]
    rw [Nat.succ_mul]
    omega
/-- behind a part of a pass that began with s0 in all and values up to c -/
def StI (s0 : Nat) (b : Bool) (S : StS) : Prop := s0 ≤ sumN S.1 6 ∧ (S.2.1 = true → s0 + 1 ≤ sumN S.1 6) ∧ (S.2.2 = true → ∀ p, p < 6 → S.1 p < 6) ∧ (S.2.2 = true → b = true)
theorem strA_I {v : Nat → Nat} (hok : OkN v) {r a s0 : Nat} {b : Bool} (hr : r < v 2) (ha : a < v (45 + 18 * r + 1)) {S : StS} (h : StI s0 b S) : StI s0 b (strA v r a S) := by
  obtain ⟨-, -, -, -, hat⟩ := hok.2.2.2.2.2.2 r hr
  have h0 := (hat 0 (by omega)).1
  unfold strA
  split
  · rename_i hlt
    obtain ⟨h1, h2, h3, h4⟩ := h
    have h5 := sumN_upd S.1 (v (45 + 18 * r + 2 + 4 * 0)) (S.1 (v (45 + 18 * r + 2 + 4 * (a + 1))) + v (45 + 18 * r + 2 + 4 * (a + 1) + 3)) 6 h0
    refine ⟨by show s0 ≤ sumN (updN _ _ _) 6; omega, fun _ => by show s0 + 1 ≤ sumN (updN _ _ _) 6; omega, fun hb p hp => ?_, fun hb => ?_⟩
    · have hb : (S.2.2 && decide (S.1 (v (45 + 18 * r + 2 + 4 * (a + 1))) + v (45 + 18 * r + 2 + 4 * (a + 1) + 3) < 6)) = true := hb
      rw [Bool.and_eq_true] at hb
      show updN _ _ _ p < 6
      unfold updN
      split
      · exact of_decide_eq_true hb.2
      · exact h3 hb.1 p hp
    · have hb : (S.2.2 && decide (S.1 (v (45 + 18 * r + 2 + 4 * (a + 1))) + v (45 + 18 * r + 2 + 4 * (a + 1) + 3) < 6)) = true := hb
      rw [Bool.and_eq_true] at hb
      exact h4 hb.1
  · exact h
theorem strR_I {v : Nat → Nat} (hok : OkN v) {r s0 : Nat} {b : Bool} (hr : r < v 2) {S : StS} (h : StI s0 b S) : StI s0 b (strR v r S) :=
  itN_inv (P := StI s0 b) (N := v (45 + 18 * r + 1)) (fun a ha S hS => strA_I hok hr ha hS) _ (Nat.le_refl _) h
theorem strP_I {v : Nat → Nat} (hok : OkN v) {S : StS} (h : ∀ p, p < 6 → S.1 p < 6) (hi : S.2.2 = true) : StI (sumN S.1 6) true (strP v S) :=
  itN_inv (P := StI (sumN S.1 6) true) (N := v 2) (fun r hr S hS => strR_I hok hr hS) _ (Nat.le_refl _) ⟨Nat.le_refl _, fun q => absurd (show false = true from q) (by decide), fun _ => h, fun _ => rfl⟩
/-- what holds at the while's head -/
def StJ (k : Nat) (S : StS) : Prop := (S.2.2 = true → ∀ p, p < 6 → S.1 p < 6) ∧ ((S.2.1 && S.2.2) = true → k ≤ sumN S.1 6)
theorem strW_J {v : Nat → Nat} (hok : OkN v) {k : Nat} {S : StS} (h : StJ k S) : StJ (k + 1) (strW v S) := by
  unfold strW
  split
  · rename_i hc
    have hc2 := hc
    rw [Bool.and_eq_true] at hc
    have h1 := strP_I hok (h.1 hc.2) hc.2
    have h2 := h.2 hc2
    refine ⟨h1.2.2.1, fun hd => ?_⟩
    rw [Bool.and_eq_true] at hd
    have := h1.2.1 hd.1
    omega
  · rename_i hc
    exact ⟨h.1, fun hd => absurd hd hc⟩
theorem strI_J {v : Nat → Nat} (hok : OkN v) : ∀ k, StJ k (itN (fun _ => strW v) (fun _ => 0, true, true) k)
  | 0 => ⟨fun _ p _ => by show 0 < 6; omega, fun _ => Nat.zero_le _⟩
  | k + 1 => strW_J hok (strI_J hok k)
theorem strF_end {v : Nat → Nat} (hok : OkN v) {k : Nat} (hk : 31 ≤ k) : ((itN (fun _ => strW v) (fun _ => 0, true, true) k).2.1 && (itN (fun _ => strW v) (fun _ => 0, true, true) k).2.2) = false := by
  have h := strI_J hok k
  cases hc : ((itN (fun _ => strW v) (fun _ => 0, true, true) k).2.1 && (itN (fun _ => strW v) (fun _ => 0, true, true) k).2.2)
  · rfl
  · have h1 := h.2 hc
    rw [Bool.and_eq_true] at hc
    have h2 := sumN_lt (c := 5) 6 (fun p hp => Nat.le_of_lt_succ (h.1 hc.2 p hp))
    omega
theorem strF_stay {v : Nat → Nat} {k : Nat} (hk : k ≤ 40) (h : ((itN (fun _ => strW v) (fun _ => 0, true, true) k).2.1 && (itN (fun _ => strW v) (fun _ => 0, true, true) k).2.2) = false) : strF v = itN (fun _ => strW v) (fun _ => 0, true, true) k :=
  itN_stay hk (by
    generalize hS : itN (fun _ => strW v) (fun _ => 0, true, true) k = S at h ⊢
    show strW v S = S
    unfold strW
    rw [h]
    rfl)
/-- no value passes 6 + steps done -/
def StB (c : Nat) (S : StS) : Prop := ∀ p, p < 6 → S.1 p ≤ c
theorem strA_B {v : Nat → Nat} (hok : OkN v) {r a c : Nat} (hr : r < v 2) (ha : a < v (45 + 18 * r + 1)) {S : StS} (h : StB c S) : StB (c + 1) (strA v r a S) := by
  obtain ⟨-, -, -, -, hat⟩ := hok.2.2.2.2.2.2 r hr
  obtain ⟨h1, -, -, h4⟩ := hat (a + 1) (by omega)
  unfold strA
  split
  · intro p hp
    show updN _ _ _ p ≤ c + 1
    unfold updN
    split
    · have := h _ h1
      omega
    · have := h p hp
      omega
  · intro p hp
    have := h p hp
    omega
