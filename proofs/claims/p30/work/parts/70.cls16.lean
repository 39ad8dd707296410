/-! THE CLASS'S LIKELIHOODS -/
/-- a known likelihood as the class holds it: 0 for unknown -/
def zf (x : UInt32) : UInt32 := if x = fM1 then FP.fconst0 else x
def klB (S : HoS) (l : Nat → UInt32) (i : Nat) : UInt32 := itN (fun a y => litG (fun f y => FP.fmul y (l f)) (S.2.2.2.1 (3 * i + a)) y) FP.fconst1 3
def klR (l : Nat → UInt32) (f : Nat) (x : UInt32) : (Nat → UInt32) × Bool := if (l f).toNat < x.toNat then (updN l f x, true) else (l, false)
def klI (S : HoS) (i : Nat) (p : (Nat → UInt32) × Bool) : (Nat → UInt32) × Bool := ((klR p.1 (S.2.2.1 i) (klB S p.1 i)).1, p.2 || (klR p.1 (S.2.2.1 i) (klB S p.1 i)).2)
def klP (S : HoS) (l : Nat → UInt32) : (Nat → UInt32) × Bool := itN (klI S) (l, false) S.1
def klBase (v : Nat → Nat) : Nat → UInt32 := itN (fun k l => (klR l (v (9 + 3 * k)) (sixF (v (9 + 3 * k + 2)))).1) (fun _ => FP.fconst0) (v 1)
def UFa (l : Nat → UInt32) : Prop := ∀ f, UF (l f)
theorem fc0 : FP.fconst0.toNat = 0 := by decide
theorem klB_uf {S : HoS} {l : Nat → UInt32} (h : UFa l) (i : Nat) : ∀ n, UF (itN (fun a y => litG (fun f y => FP.fmul y (l f)) (S.2.2.2.1 (3 * i + a)) y) FP.fconst1 n)
  | 0 => uf_1
  | n + 1 => by
    have ih := klB_uf (S := S) h i n
    show UF (litG (fun f y => FP.fmul y (l f)) (S.2.2.2.1 (3 * i + n)) _)
    unfold litG
    split
    · exact ih
    · exact uf_m ih (h _)
theorem klR_uf {l : Nat → UInt32} {f : Nat} {x : UInt32} (h : UFa l) (hx : UF x) : UFa (klR l f x).1 := by
  intro g
  unfold klR
  split
  · show UF (updN l f x g)
    unfold updN
    split
    · exact hx
    · exact h g
  · exact h g
theorem klI_uf {S : HoS} {i : Nat} {p : (Nat → UInt32) × Bool} (h : UFa p.1) : UFa (klI S i p).1 := klR_uf h (klB_uf h i 3)
theorem klIs_uf {S : HoS} {p : (Nat → UInt32) × Bool} (h : UFa p.1) : ∀ n, UFa (itN (klI S) p n).1
  | 0 => h
  | n + 1 => klI_uf (klIs_uf h n)
theorem klBase_uf {v : Nat → Nat} (hok : OkN v) : ∀ n, n ≤ v 1 → UFa (itN (fun k l => (klR l (v (9 + 3 * k)) (sixF (v (9 + 3 * k + 2)))).1) (fun _ => FP.fconst0) n)
  | 0, _ => fun _ => uf_0
  | n + 1, hn => by
    obtain ⟨-, -, w3, w4⟩ := hok.2.2.2.2.2.1 n (by omega)
    exact klR_uf (klBase_uf hok n (by omega)) (sixF_uf w3 w4)
theorem klR_up {l : Nat → UInt32} {f : Nat} {x : UInt32} : ((klR l f x).2 = false → (klR l f x).1 = l) ∧ ((klR l f x).2 = true → ∃ g, (l g).toNat < ((klR l f x).1 g).toNat) ∧ ∀ g, (l g).toNat ≤ ((klR l f x).1 g).toNat := by
  unfold klR
  split
  · rename_i q
    refine ⟨fun w => (by cases w), fun _ => ⟨f, by show (l f).toNat < (updN l f x f).toNat; rw [updN_same]; exact q⟩, fun g => ?_⟩
    show (l g).toNat ≤ (updN l f x g).toNat
    unfold updN
    split
    · rename_i w; rw [w]; exact Nat.le_of_lt q
    · exact Nat.le_refl _
  · exact ⟨fun _ => rfl, fun w => (by cases w), fun _ => Nat.le_refl _⟩
theorem klP_up {S : HoS} {l : Nat → UInt32} : ∀ n, ((itN (klI S) (l, false) n).2 = false → (itN (klI S) (l, false) n).1 = l) ∧ ((itN (klI S) (l, false) n).2 = true → ∃ g, (l g).toNat < ((itN (klI S) (l, false) n).1 g).toNat) ∧ ∀ g, (l g).toNat ≤ ((itN (klI S) (l, false) n).1 g).toNat
  | 0 => ⟨fun _ => rfl, fun w => (by cases w), fun _ => Nat.le_refl _⟩
  | n + 1 => by
    obtain ⟨h1, h2, h3⟩ := klP_up (S := S) (l := l) n
    have eS : itN (klI S) (l, false) (n + 1) = klI S n (itN (klI S) (l, false) n) := rfl
    rw [eS]
    generalize itN (klI S) (l, false) n = p at h1 h2 h3 ⊢
    obtain ⟨g1, g2, g3⟩ := klR_up (l := p.1) (f := S.2.2.1 n) (x := klB S p.1 n)
    unfold klI
    refine ⟨fun w => ?_, fun w => ?_, fun g => Nat.le_trans (h3 g) (g3 g)⟩
    · rw [Bool.or_eq_false_iff] at w
      exact (g1 w.2).trans (h1 w.1)
    · rw [Bool.or_eq_true] at w
      rcases w with w | w
      · obtain ⟨g, hg⟩ := h2 w
        exact ⟨g, Nat.lt_of_lt_of_le hg (g3 g)⟩
      · obtain ⟨g, hg⟩ := g2 w
        exact ⟨g, Nat.lt_of_le_of_lt (h3 g) hg⟩
/-- both sides' likelihoods -/
def LkZ (l' l : Nat → UInt32) : Prop := ∀ f, l' f = zf (l f)
theorem zf_uf {x : UInt32} (h : UF x) : zf x = x := if_neg (uf_ne h)
theorem fmul_0 {x y : UInt32} (hx : UF x) (hy : UF y) (h : x.toNat = 0 ∨ y.toNat = 0) : (FP.fmul x y).toNat = 0 := by
  obtain ⟨h1, h2⟩ := uf_mul hx hy
  omega
theorem klB_Z {S : HoS} {l' l : Nat → UInt32} (hl : LkA l) (h : LkZ l' l) (i : Nat) : ∀ n, n ≤ 3 → (lkN S l i n = false → itN (fun a y => litG (fun f y => FP.fmul y (l' f)) (S.2.2.2.1 (3 * i + a)) y) FP.fconst1 n = lkS S l i n) ∧ (lkN S l i n = true → (itN (fun a y => litG (fun f y => FP.fmul y (l' f)) (S.2.2.2.1 (3 * i + a)) y) FP.fconst1 n).toNat = 0)
  | 0, _ => ⟨fun _ => rfl, fun w => (by cases w)⟩
  | n + 1, hn => by
    obtain ⟨h1, h2⟩ := klB_Z hl h i n (by omega)
    have hu : UFa l' := fun f => by
      rw [h f]
      rcases hl f with q | q
      · unfold zf; rw [if_pos q]; exact uf_0
      · rw [zf_uf q]; exact q
    have hy := klB_uf (S := S) hu i n
    have e1 : lkN S l i (n + 1) = (lkN S l i n || litU l (S.2.2.2.1 (3 * i + n))) := rfl
    have e2 : lkS S l i (n + 1) = litF l (S.2.2.2.1 (3 * i + n)) (lkS S l i n) := rfl
    have e3 : itN (fun a y => litG (fun f y => FP.fmul y (l' f)) (S.2.2.2.1 (3 * i + a)) y) FP.fconst1 (n + 1) = litG (fun f y => FP.fmul y (l' f)) (S.2.2.2.1 (3 * i + n)) (itN (fun a y => litG (fun f y => FP.fmul y (l' f)) (S.2.2.2.1 (3 * i + a)) y) FP.fconst1 n) := rfl
    rw [e1, e2, e3]
    generalize itN (fun a y => litG (fun f y => FP.fmul y (l' f)) (S.2.2.2.1 (3 * i + a)) y) FP.fconst1 n = Y at h1 h2 hy ⊢
    unfold litU litF litG
    by_cases q : S.2.2.2.1 (3 * i + n) < 0
    · rw [if_pos q, if_pos q, if_pos q, Bool.or_false]
      exact ⟨h1, h2⟩
    · rw [if_neg q, if_neg q, if_neg q]
      generalize (S.2.2.2.1 (3 * i + n)).toNatClampNeg = f
      rw [Bool.or_eq_false_iff, Bool.or_eq_true]
      refine ⟨fun w => ?_, fun w => ?_⟩
      · have : l' f = l f := (h f).trans (if_neg (of_decide_eq_false w.2))
        show FP.fmul Y (l' f) = FP.fmul (lkS S l i n) (l f)
        rw [h1 w.1, this]
      · rcases w with w | w
        · exact fmul_0 hy (hu f) (Or.inl (h2 w))
        · have : l' f = FP.fconst0 := (h f).trans (if_pos (of_decide_eq_true w))
          exact fmul_0 hy (hu f) (Or.inr (by rw [this]; exact fc0))
theorem lkE_uf {x : UInt32} (h : UF x) : lkE x = x.toNat + 1 := if_neg (uf_ne h)
theorem klI_Z {v : Nat → Nat} {S : HoS} (hS : HoOk v S) {i : Nat} (hi : i < S.1) {p' p : (Nat → UInt32) × Bool} (hl : LkA p.1) (h : LkZ p'.1 p.1) : LkZ (klI S i p').1 (lkI S i p).1 := by
  obtain ⟨b1, b2⟩ := klB_Z (S := S) hl h i 3 (Nat.le_refl _)
  have hf := hl (S.2.2.1 i)
  have hz := h (S.2.2.1 i)
  have eB : klB S p'.1 i = itN (fun a y => litG (fun f y => FP.fmul y (p'.1 f)) (S.2.2.2.1 (3 * i + a)) y) FP.fconst1 3 := rfl
  rw [← eB] at b1 b2
  intro f
  show (klR p'.1 (S.2.2.1 i) (klB S p'.1 i)).1 f = _
  unfold klR lkI lkB
  cases q : lkN S p.1 i 3
  · have hu := lkS_uf hS hl hi 3 (Nat.le_refl _) q
    rw [if_neg (show ¬ false = true by decide), b1 q, hz, lkE_uf hu]
    rcases hf with e | e
    · have e0 : lkE (p.1 (S.2.2.1 i)) = 0 := if_pos e
      have ez : zf (p.1 (S.2.2.1 i)) = FP.fconst0 := if_pos e
      rw [e0, if_pos (show 0 < (lkS S p.1 i 3).toNat + 1 by omega), ez, fc0]
      by_cases w : 0 < (lkS S p.1 i 3).toNat
      · rw [if_pos w]
        show updN p'.1 _ _ f = zf (updN p.1 _ _ f)
        unfold updN
        split
        · exact (zf_uf hu).symm
        · exact h f
      · rw [if_neg w]
        show p'.1 f = zf (updN p.1 _ _ f)
        unfold updN
        split
        · rename_i ef
          rw [ef, hz, ez, zf_uf hu]
          refine UInt32.toNat_inj.mp ?_
          rw [fc0]
          omega
        · exact h f
    · have ez : zf (p.1 (S.2.2.1 i)) = p.1 (S.2.2.1 i) := zf_uf e
      rw [lkE_uf e, ez]
      by_cases w : (p.1 (S.2.2.1 i)).toNat < (lkS S p.1 i 3).toNat
      · rw [if_pos w, if_pos (by omega)]
        show updN p'.1 _ _ f = zf (updN p.1 _ _ f)
        unfold updN
        split
        · exact (zf_uf hu).symm
        · exact h f
      · rw [if_neg w, if_neg (by omega)]
        exact h f
  · have e1 : lkE fM1 = 0 := rfl
    rw [if_pos rfl, e1, if_neg (show ¬ lkE (p.1 (S.2.2.1 i)) < 0 by omega), b2 q, if_neg (show ¬ (p'.1 (S.2.2.1 i)).toNat < 0 by omega)]
    exact h f
theorem klP_Z {v : Nat → Nat} {S : HoS} (hS : HoOk v S) {l' l : Nat → UInt32} (hl : LkA l) (h : LkZ l' l) : LkZ (klP S l').1 (lkP S l).1 := by
  have : ∀ n, n ≤ S.1 → LkZ (itN (klI S) (l', false) n).1 (itN (lkI S) (l, false) n).1 := by
    intro n
    induction n with
    | zero => exact fun _ => h
    | succ n ih => exact fun hn => klI_Z hS (by omega) (lkIs_A hS hl n (by omega)) (ih (by omega))
  exact this S.1 (Nat.le_refl _)
theorem klBase_Z {v : Nat → Nat} (hok : OkN v) : LkZ (klBase v) (lkBase v) := by
  have : ∀ n, n ≤ v 1 → LkZ (itN (fun k l => (klR l (v (9 + 3 * k)) (sixF (v (9 + 3 * k + 2)))).1) (fun _ => FP.fconst0) n) (itN (lkK v) (fun _ => fM1) n) := by
    intro n
    induction n with
    | zero => exact fun _ f => rfl
    | succ n ih =>
      intro hn
      have h := ih (by omega)
      have hl := lkKs_A hok n (by omega)
      obtain ⟨-, -, w3, w4⟩ := hok.2.2.2.2.2.1 n (by omega)
      have hu := sixF_uf w3 w4
      have hpos := (sixF_ok (v (9 + 3 * n + 2)) (by omega) w3).2
      show LkZ (klR (itN (fun k l => (klR l (v (9 + 3 * k)) (sixF (v (9 + 3 * k + 2)))).1) (fun _ => FP.fconst0) n) (v (9 + 3 * n)) (sixF (v (9 + 3 * n + 2)))).1 (lkK v n (itN (lkK v) (fun _ => fM1) n))
      generalize itN (fun k l => (klR l (v (9 + 3 * k)) (sixF (v (9 + 3 * k + 2)))).1) (fun _ => FP.fconst0) n = l' at h ⊢
      generalize itN (lkK v) (fun _ => fM1) n = l at h hl ⊢
      generalize hx : sixF (v (9 + 3 * n + 2)) = x at hu hpos ⊢
      have hz := h (v (9 + 3 * n))
      intro f
      unfold klR lkK
      rw [hx, hz, lkE_uf hu]
      rcases hl (v (9 + 3 * n)) with e | e
      · have e0 : lkE (l (v (9 + 3 * n))) = 0 := if_pos e
        have ez : zf (l (v (9 + 3 * n))) = FP.fconst0 := if_pos e
        rw [e0, if_pos (show 0 < x.toNat + 1 by omega), ez, fc0, if_pos hpos]
        show updN l' _ _ f = zf (updN l _ _ f)
        unfold updN
        split
        · exact (zf_uf hu).symm
        · exact h f
      · rw [lkE_uf e, zf_uf e]
        by_cases w : (l (v (9 + 3 * n))).toNat < x.toNat
        · rw [if_pos w, if_pos (by omega)]
          show updN l' _ _ f = zf (updN l _ _ f)
          unfold updN
          split
          · exact (zf_uf hu).symm
          · exact h f
        · rw [if_neg w, if_neg (by omega)]
          show l' f = zf (updN l _ _ f)
          unfold updN
          split
          · rename_i ef; rw [ef]; exact hz
          · exact h f
  exact this (v 1) (Nat.le_refl _)
theorem lkIt_A {v : Nat → Nat} (hok : OkN v) {S : HoS} (hS : HoOk v S) : ∀ k, LkA (itN (fun _ l => (lkP S l).1) (lkBase v) k)
  | 0 => lkKs_A hok (v 1) (Nat.le_refl _)
  | k + 1 => lkP_A hS (lkIt_A hok hS k)
theorem klIt_Z {v : Nat → Nat} (hok : OkN v) {S : HoS} (hS : HoOk v S) : ∀ k, LkZ (itN (fun _ l => (klP S l).1) (klBase v) k) (itN (fun _ l => (lkP S l).1) (lkBase v) k)
  | 0 => klBase_Z hok
  | k + 1 => klP_Z hS (lkIt_A hok hS k) (klIt_Z hok hS k)
theorem klIt_uf {v : Nat → Nat} (hok : OkN v) {S : HoS} : ∀ k, UFa (itN (fun _ l => (klP S l).1) (klBase v) k)
  | 0 => klBase_uf hok (v 1) (Nat.le_refl _)
  | k + 1 => klIs_uf (klIt_uf hok k) S.1
theorem kl_gl {S : HoS} {l : Nat → UInt32} {b : Bool} : ∀ n, (itN (klI S) (l, b) n).1 = itN (glS UInt32.toNat (fun i => S.2.2.1 i) (fun i l => klB S l i)) l n
  | 0 => rfl
  | n + 1 => by
    have ih := kl_gl (S := S) (l := l) (b := b) n
    show (klI S n (itN (klI S) (l, b) n)).1 = glS _ _ _ n (itN (glS UInt32.toNat (fun i => S.2.2.1 i) (fun i l => klB S l i)) l n)
    rw [← ih]
    generalize itN (klI S) (l, b) n = T
    show (klR T.1 (S.2.2.1 n) (klB S T.1 n)).1 = if (T.1 (S.2.2.1 n)).toNat < (klB S T.1 n).toNat then updN T.1 (S.2.2.1 n) (klB S T.1 n) else T.1
    unfold klR
    split <;> rfl
theorem klB_mono {S : HoS} {l l' : Nat → UInt32} (hl : UFa l) (hl' : UFa l') {i : Nat} (h : ∀ f, isLit S i f → (l f).toNat ≤ (l' f).toNat) : ∀ n, n ≤ 3 → (itN (fun a y => litG (fun f y => FP.fmul y (l f)) (S.2.2.2.1 (3 * i + a)) y) FP.fconst1 n).toNat ≤ (itN (fun a y => litG (fun f y => FP.fmul y (l' f)) (S.2.2.2.1 (3 * i + a)) y) FP.fconst1 n).toNat
  | 0, _ => Nat.le_refl _
  | n + 1, hn => by
    have ih := klB_mono hl hl' h n (by omega)
    have hy := klB_uf (S := S) hl' i n
    show (litG (fun f y => FP.fmul y (l f)) (S.2.2.2.1 (3 * i + n)) _).toNat ≤ (litG (fun f y => FP.fmul y (l' f)) (S.2.2.2.1 (3 * i + n)) _).toNat
    unfold litG
    split
    · exact ih
    · rename_i q
      exact uf_mul_mono hy (hl' _) ih (h _ ⟨n, by omega, q, rfl⟩)
theorem klB_le {S : HoS} {l : Nat → UInt32} (hl : UFa l) {i f : Nat} (h : isLit S i f) : (klB S l i).toNat ≤ (l f).toNat := by
  obtain ⟨a, ha, h1, h2⟩ := h
  have h3 : ∀ n, n ≤ 3 → a < n → (itN (fun a y => litG (fun f y => FP.fmul y (l f)) (S.2.2.2.1 (3 * i + a)) y) FP.fconst1 n).toNat ≤ (l f).toNat := by
    intro n
    induction n with
    | zero => exact fun _ q => absurd q (Nat.not_lt_zero a)
    | succ n ih =>
      intro hn hq
      have hy := klB_uf (S := S) hl i n
      show (litG (fun f y => FP.fmul y (l f)) (S.2.2.2.1 (3 * i + n)) _).toNat ≤ _
      unfold litG
      by_cases e : a = n
      · subst e
        rw [if_neg h1, h2]
        exact (uf_mul hy (hl f)).2
      · have := ih (by omega) (by omega)
        split
        · exact this
        · exact Nat.le_trans (uf_mul hy (hl _)).1 this
  exact h3 3 (Nat.le_refl _) ha
set_option maxRecDepth 20000 in
theorem kl_settle {v : Nat → Nat} (hok : OkN v) {S : HoS} (hS : HoOk v S) : ∃ K, K ≤ 216 ∧ (klP S (itN (fun _ l => (klP S l).1) (klBase v) K)).1 = itN (fun _ l => (klP S l).1) (klBase v) K := by
  obtain ⟨F, k, hk, hfix⟩ := lkLim hok hS
  have hit : ∀ K, itN (fun _ l => (klP S l).1) (klBase v) K = itN (fun _ => glP UInt32.toNat (fun i => S.2.2.1 i) (fun i l => klB S l i) S.1) (klBase v) K := by
    intro K
    induction K with
    | zero => rfl
    | succ K ih =>
      show (klP S (itN (fun _ l => (klP S l).1) (klBase v) K)).1 = glP UInt32.toNat (fun i => S.2.2.1 i) (fun i l => klB S l i) S.1 (itN (fun _ => glP UInt32.toNat (fun i => S.2.2.1 i) (fun i l => klB S l i) S.1) (klBase v) K)
      rw [← ih]
      exact kl_gl S.1
  have e : ∀ K, (klP S (itN (fun _ l => (klP S l).1) (klBase v) K)).1 = itN (fun _ => glP UInt32.toNat (fun i => S.2.2.1 i) (fun i l => klB S l i) S.1) (klBase v) (K + 1) := fun K => hit (K + 1)
  obtain ⟨K, h1, h2⟩ := gl_settles (α := UInt32) UInt32.toNat (fun i => S.2.2.1 i) (fun i l => klB S l i) (N := S.1) (M := 216) (I := UFa) (G := isLit S) (c0 := klBase v) (klBase_uf hok (v 1) (Nat.le_refl _))
    (fun i hi l hl f => by
      unfold glS
      split
      · unfold updN
        split
        · exact klB_uf hl i 3
        · exact hl f
      · exact hl f)
    (fun i hi => (hS.2 i hi).2.1)
    (fun i hi f hf => by
      obtain ⟨a, ha, h1, h2⟩ := hf
      rcases (hS.2 i hi).2.2 a ha with q | ⟨g, hg, q⟩
      · exact absurd q h1
      · rw [q, nI_clamp (by omega)] at h2
        omega)
    (fun i hi l l' hl hl' h => klB_mono hl hl' h 3 (Nat.le_refl _))
    (fun i hi l hl f hf => klB_le hl hf)
    ⟨k, by
      have h1 := klIt_Z hok hS k
      have h2 := klIt_Z hok hS (k + 1)
      have hk : F = itN (fun _ l => (lkP S l).1) (lkBase v) k := hk
      have h3 : itN (fun _ l => (lkP S l).1) (lkBase v) (k + 1) = itN (fun _ l => (lkP S l).1) (lkBase v) k := by
        show (lkP S (itN (fun _ l => (lkP S l).1) (lkBase v) k)).1 = _
        rw [← hk]
        exact hfix
      rw [h3] at h2
      have h4 : itN (fun _ l => (klP S l).1) (klBase v) (k + 1) = itN (fun _ l => (klP S l).1) (klBase v) k := funext fun f => (h2 f).trans (h1 f).symm
      rw [hit (k + 1), hit k] at h4
      exact h4⟩
  refine ⟨K, h1, ?_⟩
  rw [e K, hit K]
  exact h2
/-- the class's likelihoods are what they should be -/
def KlOk (v : Nat → Nat) (S : HoS) (l' : Nat → UInt32) : Prop := UFa l' ∧ ∀ F, IsLim (fun l => (lkP S l).1) (lkBase v) F → LkZ l' F
theorem kl_ok {v : Nat → Nat} (hok : OkN v) {S : HoS} (hS : HoOk v S) {k : Nat} (h : (klP S (itN (fun _ l => (klP S l).1) (klBase v) k)).1 = itN (fun _ l => (klP S l).1) (klBase v) k) : KlOk v S (itN (fun _ l => (klP S l).1) (klBase v) k) := by
  refine ⟨klIt_uf hok k, fun F hF => ?_⟩
  obtain ⟨m, rfl, hfix⟩ := hF
  have h1 := klIt_Z hok hS (k + m)
  have e1 : itN (fun _ l => (klP S l).1) (klBase v) (k + m) = itN (fun _ l => (klP S l).1) (klBase v) k := itN_stay (f := fun l => (klP S l).1) (Nat.le_add_right _ _) h
  have e2 : itN (fun _ l => (lkP S l).1) (lkBase v) (k + m) = itN (fun _ l => (lkP S l).1) (lkBase v) m := itN_stay (f := fun l => (lkP S l).1) (Nat.le_add_left _ _) hfix
  rw [e1, e2] at h1
  exact h1
