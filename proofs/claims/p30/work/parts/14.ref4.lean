theorem nI_z {a : Nat} (ha : a < 2147483648) : nI a = 0 ↔ a = 0 := ⟨fun h => (nI_eq ha (by omega)).mp (h.trans nI_0.symm), fun h => by rw [h]; rfl⟩
theorem mw_z_eq {M : MI} {d mc ms n0 : Nat} {post : Option Value → (Nat → MC) → Prop} {pc : Nat} {L : List (Nat × Value)} {S : List Value} {h : Nat → MC} {n sl nx tg a : Nat} {off : Int} (hf : fch M pc = some (.ifCond .eq off, 3, nx, tg)) (ha : a < 2147483648) (kt : a = 0 → MW M d mc ms n0 post tg L S h n sl) (kf : a ≠ 0 → MW M d mc ms n0 post nx L S h n sl) : MW M d mc ms n0 post pc L (.int (nI a) :: S) h n sl := mw_if_eq hf (fun h => kt ((nI_z ha).mp h)) (fun h => kf (fun q => h ((nI_z ha).mpr q)))
theorem mw_z_ne {M : MI} {d mc ms n0 : Nat} {post : Option Value → (Nat → MC) → Prop} {pc : Nat} {L : List (Nat × Value)} {S : List Value} {h : Nat → MC} {n sl nx tg a : Nat} {off : Int} (hf : fch M pc = some (.ifCond .ne off, 3, nx, tg)) (ha : a < 2147483648) (kt : a ≠ 0 → MW M d mc ms n0 post tg L S h n sl) (kf : a = 0 → MW M d mc ms n0 post nx L S h n sl) : MW M d mc ms n0 post pc L (.int (nI a) :: S) h n sl := mw_if_ne hf (fun h => kt (fun q => h ((nI_z ha).mpr q))) (fun h => kf ((nI_z ha).mp h))
theorem mw_z_gt {M : MI} {d mc ms n0 : Nat} {post : Option Value → (Nat → MC) → Prop} {pc : Nat} {L : List (Nat × Value)} {S : List Value} {h : Nat → MC} {n sl nx tg a : Nat} {off : Int} (hf : fch M pc = some (.ifCond .gt off, 3, nx, tg)) (ha : a < 2147483648) (kt : 0 < a → MW M d mc ms n0 post tg L S h n sl) (kf : a = 0 → MW M d mc ms n0 post nx L S h n sl) : MW M d mc ms n0 post pc L (.int (nI a) :: S) h n sl := mw_if_gt hf (fun h => kt ((nI_ltI (by omega) ha).mp (show nI 0 < nI a from h))) (fun h => kf (Nat.eq_zero_of_not_pos fun q => h ((nI_ltI (a := 0) (by omega) ha).mpr q)))
theorem mw_z_le {M : MI} {d mc ms n0 : Nat} {post : Option Value → (Nat → MC) → Prop} {pc : Nat} {L : List (Nat × Value)} {S : List Value} {h : Nat → MC} {n sl nx tg a : Nat} {off : Int} (hf : fch M pc = some (.ifCond .le off, 3, nx, tg)) (ha : a < 2147483648) (kt : a = 0 → MW M d mc ms n0 post tg L S h n sl) (kf : 0 < a → MW M d mc ms n0 post nx L S h n sl) : MW M d mc ms n0 post pc L (.int (nI a) :: S) h n sl := mw_if_le hf (fun h => kt (Nat.le_zero.mp ((nI_leI ha (by omega)).mp (show nI a ≤ nI 0 from h)))) (fun h => kf (Nat.pos_of_ne_zero fun q => h ((nI_leI (b := 0) ha (by omega)).mpr (Nat.le_of_eq q))))
theorem mw_z_lt {M : MI} {d mc ms n0 : Nat} {post : Option Value → (Nat → MC) → Prop} {pc : Nat} {L : List (Nat × Value)} {S : List Value} {h : Nat → MC} {n sl nx tg a : Nat} {off : Int} (hf : fch M pc = some (.ifCond .lt off, 3, nx, tg)) (ha : a < 2147483648) (kt : False → MW M d mc ms n0 post tg L S h n sl) (kf : True → MW M d mc ms n0 post nx L S h n sl) : MW M d mc ms n0 post pc L (.int (nI a) :: S) h n sl := mw_if_lt hf (fun h => kt (absurd h (nI_pos ha))) (fun h => kf (trivial))
theorem mw_z_ge {M : MI} {d mc ms n0 : Nat} {post : Option Value → (Nat → MC) → Prop} {pc : Nat} {L : List (Nat × Value)} {S : List Value} {h : Nat → MC} {n sl nx tg a : Nat} {off : Int} (hf : fch M pc = some (.ifCond .ge off, 3, nx, tg)) (ha : a < 2147483648) (kt : True → MW M d mc ms n0 post tg L S h n sl) (kf : False → MW M d mc ms n0 post nx L S h n sl) : MW M d mc ms n0 post pc L (.int (nI a) :: S) h n sl := mw_if_ge hf (fun h => kt (trivial)) (fun h => kf (absurd (nI_pos' ha) h))
theorem mw_nior {M : MI} {d mc ms n0 : Nat} {post : Option Value → (Nat → MC) → Prop} {pc : Nat} {L : List (Nat × Value)} {S : List Value} {h : Nat → MC} {n sl nx tg a b : Nat} (hf : fch M pc = some (.ior, 1, nx, tg)) (k : MW M d mc ms n0 post nx L (.int (nI (a ||| b)) :: S) h n sl) : MW M d mc ms n0 post pc L (.int (nI b) :: .int (nI a) :: S) h n sl := mw_ior hf (by
  have e : nI a ||| nI b = nI (a ||| b) := by
    apply Int32.toBitVec_inj.mp
    simp only [Int32.toBitVec_or]
    show (BitVec.ofNat 32 a) ||| (BitVec.ofNat 32 b) = BitVec.ofNat 32 (a ||| b)
    apply BitVec.eq_of_toNat_eq
    simp [Nat.or_mod_two_pow]
  rw [e]; exact k)
/-- steps 0 .. n - 1, one after the other -/
def itN {α : Type} (step : Nat → α → α) (a : α) : Nat → α
  | 0 => a
  | k + 1 => step k (itN step a k)
def tOf (b : Nat → Nat) (t : Nat) : Nat := if t < 6 then t else b (t - 6)
def fA (v b : Nat → Nat) (r a : Nat) : Nat := 36 * v (45 + 18 * r + 2 + 4 * a) + 6 * tOf b (v (45 + 18 * r + 2 + 4 * a + 1)) + tOf b (v (45 + 18 * r + 2 + 4 * a + 2))
theorem tOf_lt {b : Nat → Nat} (hb : ∀ x, x < 3 → b x < 6) {t : Nat} (ht : t < 9) : tOf b t < 6 := by
  unfold tOf
  split
  · assumption
  · exact hb _ (by omega)
theorem fA_lt {v b : Nat → Nat} (hok : OkN v) (hb : ∀ x, x < 3 → b x < 6) {r a : Nat} (hr : r < v 2) (ha : a ≤ v (45 + 18 * r + 1)) : fA v b r a < 216 := by
  obtain ⟨-, -, -, -, hat⟩ := hok.2.2.2.2.2.2 r hr
  obtain ⟨h1, h2, h3, -⟩ := hat a ha
  have := tOf_lt hb h2
  have := tOf_lt hb h3
  unfold fA
  omega
/-- the body of an instance is as it has to be in a model: the literals 1 .. k -/
def hLit (v b : Nat → Nat) (m : Nat → Int32) (r a : Nat) : Bool := decide (0 ≤ m (fA v b r (a + 1))) == decide (v (45 + 18 * r + 2 + 4 * (a + 1) + 3) = 0)
def andN (f : Nat → Bool) : Nat → Bool
  | 0 => true
  | k + 1 => andN f k && f k
theorem andN_iff (f : Nat → Bool) : ∀ n, andN f n = true ↔ ∀ k, k < n → f k = true
  | 0 => by simp [andN]
  | n + 1 => by
    simp only [andN, Bool.and_eq_true, andN_iff f n]
    constructor
    · rintro ⟨h1, h2⟩ k hk
      by_cases e : k = n
      · subst e; exact h2
      · exact h1 k (by omega)
    · intro h
      exact ⟨fun k hk => h k (by omega), h n (by omega)⟩
def holdsR (v b : Nat → Nat) (m : Nat → Int32) (r : Nat) : Bool := andN (hLit v b m r) (v (45 + 18 * r + 1))
