theorem while_lim {α : Type} {P : α → α × Bool} {H : Bool → α → Prop} {I : α → Prop} {c0 cf : α} (hlim : IsLim (fun c => (P c).1) c0 cf) (hI0 : I c0) (hI : ∀ c, I c → I (P c).1) (hf : ∀ c, I c → (P c).2 = false → (P c).1 = c) (ht : ∀ c, I c → (P c).2 = true → (P c).1 ≠ c) (hexit : H false cf) (hpass : ∀ c, I c → H (P c).2 (P c).1 → H true c) : H true c0 := by
  obtain ⟨k, rfl, e⟩ := hlim
  have hIk : ∀ j, I (itN (fun _ c => (P c).1) c0 j) := by
    intro j
    induction j with
    | zero => exact hI0
    | succ j ih => exact hI _ ih
  have loop : ∀ j, j ≤ k → H true (itN (fun _ c => (P c).1) c0 j) := by
    refine loop_up k ?_ ?_
    · refine hpass _ (hIk k) ?_
      cases q : (P (itN (fun _ c => (P c).1) c0 k)).2
      · rw [hf _ (hIk k) q]; exact hexit
      · exact absurd e (ht _ (hIk k) q)
    · intro j hj ih
      refine hpass _ (hIk j) ?_
      cases q : (P (itN (fun _ c => (P c).1) c0 j)).2
      · have e2 := hf _ (hIk j) q
        rw [e2, ← itN_stay (Nat.le_of_lt hj) e2]
        exact hexit
      · exact ih
  exact loop 0 (Nat.zero_le _)
/-- indices n - 1 .. 0 -/
def itD {α : Type} (step : Nat → α → α) : α → Nat → α
  | a, 0 => a
  | a, n + 1 => itD step (step n a) n
def dn (k : Nat) : Int32 := if k = 0 then -1 else nI (k - 1)
theorem dn_0 : dn 0 = -1 := rfl
theorem dn_s (k : Nat) : dn (k + 1) = nI k := by unfold dn; rw [if_neg (by omega)]; rfl
theorem dn_dec {k : Nat} (hk : k < 2147483648) : nI k + Int32.ofInt (-1) = dn k := by
  cases k with
  | zero => rfl
  | succ k =>
    rw [dn_s, show Int32.ofInt (-1) = -1 by decide]
    exact pk_m1 k
/-- least derivations: (rule, size, base facts, instance) -/
abbrev LeS : Type := (Nat → Int32) × (Nat → Nat) × (Nat → Nat) × (Nat → Nat)
def lsK (v c : Nat → Nat) (k : Nat) (L : LeS) : LeS :=
  if v (9 + 3 * k + 1) = c (v (9 + 3 * k)) then (upd L.1 (v (9 + 3 * k)) (nI 8), updN L.2.1 (v (9 + 3 * k)) 1, updN L.2.2.1 (v (9 + 3 * k)) (2 ^ k), L.2.2.2) else L
def lsI (v : Nat → Nat) (S : HoS) (c : Nat → Nat) (i : Nat) (L : LeS) : LeS :=
  if L.1 (S.2.2.1 i) ≠ nI 8 ∧ c (S.2.2.1 i) < 1000001 ∧ coB v S c i = c (S.2.2.1 i) then (upd L.1 (S.2.2.1 i) (nI (S.2.1 i)), L.2.1, L.2.2.1, updN L.2.2.2 (S.2.2.1 i) i) else L
def lsG (S : HoS) (f : Nat) (p : LeS × Bool) : LeS × Bool :=
  if p.1.2.1 f = 0 ∧ ¬ p.1.1 f < 0 ∧ allL S (fun g => decide (0 < p.1.2.1 g)) (p.1.2.2.2 f) = true then ((p.1.1, updN p.1.2.1 f (szS S p.1.2.1 (p.1.2.2.2 f) 3), updN p.1.2.2.1 f (usS S p.1.2.2.1 (p.1.2.2.2 f) 3), p.1.2.2.2), true) else p
def lsP (S : HoS) (N : Nat) (L : LeS) : LeS × Bool := itN (lsG S) (L, false) N
def ls0 (lb : Nat → Nat) : LeS := (fun _ => -1, fun _ => 0, fun _ => 0, lb)
def ls2 (v : Nat → Nat) (S : HoS) (c lb : Nat → Nat) : LeS := itD (lsI v S c) (itD (lsK v c) (ls0 lb) (v 1)) S.1
/-- what the state of findLeast keeps -/
def LeI (v : Nat → Nat) (S : HoS) (c : Nat → Nat) (L : LeS) : Prop := ∀ f, f < 216 → L.2.1 f ≤ 3 * c f + 1 ∧ (¬ L.1 f < 0 → L.2.1 f = 0 → L.2.2.2 f < S.1 ∧ coB v S c (L.2.2.2 f) = c f ∧ c f < 1000001)
theorem ls0_I (v : Nat → Nat) (S : HoS) (c lb : Nat → Nat) : LeI v S c (ls0 lb) := fun f _ => ⟨Nat.zero_le _, fun q => absurd (show (-1 : Int32) < 0 by decide) q⟩
theorem lsK_I {v : Nat → Nat} {S : HoS} {c : Nat → Nat} {k : Nat} {L : LeS} (h : LeI v S c L) : LeI v S c (lsK v c k L) := by
  unfold lsK
  split
  · intro f hf
    obtain ⟨h1, h2⟩ := h f hf
    by_cases e : f = v (9 + 3 * k)
    · subst e
      refine ⟨?_, fun _ q => ?_⟩
      · show updN _ _ _ _ ≤ _
        rw [updN_same]
        omega
      · have q : updN _ _ _ _ = 0 := q
        rw [updN_same] at q
        omega
    · refine ⟨?_, fun q1 q2 => ?_⟩
      · show updN _ _ _ _ ≤ _
        rw [updN_ne _ _ e]
        exact h1
      · have q2 : updN _ _ _ _ = 0 := q2
        rw [updN_ne _ _ e] at q2
        have q1 : ¬ upd L.1 (v (9 + 3 * k)) (nI 8) f < 0 := q1
        rw [pk_un e] at q1
        exact h2 q1 q2
  · exact h
theorem lsI_I {v : Nat → Nat} {S : HoS} {c : Nat → Nat} {i : Nat} (hi : i < S.1) {L : LeS} (h : LeI v S c L) : LeI v S c (lsI v S c i L) := by
  unfold lsI
  split
  · rename_i hc
    intro f hf
    obtain ⟨h1, h2⟩ := h f hf
    refine ⟨h1, fun q1 q2 => ?_⟩
    show updN _ _ _ f < _ ∧ coB v S c (updN _ _ _ f) = _ ∧ _
    by_cases e : f = S.2.2.1 i
    · rw [e, updN_same]
      exact ⟨hi, hc.2.2, hc.2.1⟩
    · rw [updN_ne _ _ e]
      have q1 : ¬ upd L.1 (S.2.2.1 i) (nI (S.2.1 i)) f < 0 := q1
      rw [pk_un e] at q1
      exact h2 q1 q2
  · exact h
theorem itD_inv {α : Type} {P : α → Prop} {s : Nat → α → α} : ∀ n {a : α}, (∀ k, k < n → ∀ a, P a → P (s k a)) → P a → P (itD s a n)
  | 0, _, _, h => h
  | n + 1, _, hs, h => itD_inv n (fun k hk => hs k (by omega)) (hs n (by omega) _ h)
theorem ls2_I (v : Nat → Nat) (S : HoS) (c lb : Nat → Nat) : LeI v S c (ls2 v S c lb) :=
  itD_inv S.1 (fun i hi L hL => lsI_I hi hL) (itD_inv (v 1) (fun k _ L hL => lsK_I hL) (ls0_I v S c lb))
theorem szS_le {v : Nat → Nat} {S : HoS} {c z : Nat → Nat} (hS : HoOk v S) {i : Nat} (hi : i < S.1) (hz : ∀ f, f < 216 → z f ≤ 3 * c f + 1) : ∀ a, a ≤ 3 → szS S z i a + 3 * v (45 + 18 * S.2.1 i) ≤ 1 + a + 3 * itN (fun a s => s + litN c (S.2.2.2.1 (3 * i + a))) (v (45 + 18 * S.2.1 i)) a
  | 0, _ => by show 1 + _ ≤ 1 + 0 + 3 * v (45 + 18 * S.2.1 i); omega
  | a + 1, ha => by
    have ih := szS_le (c := c) hS hi hz a (by omega)
    have hl := (hS.2 i hi).2.2 a (by omega)
    show szS S z i a + litN z (S.2.2.2.1 (3 * i + a)) + _ ≤ 1 + (a + 1) + 3 * (itN (fun a s => s + litN c (S.2.2.2.1 (3 * i + a))) (v (45 + 18 * S.2.1 i)) a + litN c (S.2.2.2.1 (3 * i + a)))
    have h1 : litN z (S.2.2.2.1 (3 * i + a)) ≤ 3 * litN c (S.2.2.2.1 (3 * i + a)) + 1 := by
      unfold litN
      split
      · omega
      · rename_i q
        obtain ⟨f, hf, e⟩ := hl.resolve_left q
        rw [e, nI_clamp (by omega)]
        exact hz f hf
    omega
theorem szS_pos (S : HoS) (z : Nat → Nat) (i : Nat) : ∀ a, 1 ≤ szS S z i a
  | 0 => Nat.le_refl _
  | a + 1 => Nat.le_trans (szS_pos S z i a) (Nat.le_add_right _ _)
theorem lsG_I {v : Nat → Nat} (hok : OkN v) {S : HoS} (hS : HoOk v S) {c : Nat → Nat} {f : Nat} (hf : f < 216) {p : LeS × Bool} (h : LeI v S c p.1) : LeI v S c (lsG S f p).1 := by
  unfold lsG
  split
  · rename_i hc
    obtain ⟨hl1, hl2, hl3⟩ := (h f hf).2 hc.2.1 hc.1
    have hpr := (hok.2.2.2.2.2.2 _ (hS.2 _ hl1).1).1
    intro g hg
    obtain ⟨h1, h2⟩ := h g hg
    by_cases e : g = f
    · subst e
      refine ⟨?_, fun _ q => ?_⟩
      · show updN _ _ _ _ ≤ _
        rw [updN_same]
        have h3 := szS_le (c := c) hS hl1 (fun f hf => (h f hf).1) 3 (Nat.le_refl _)
        have h4 : coS v S c (p.1.2.2.2 g) ≤ c g := by
          unfold coB at hl2
          split at hl2
          · omega
          · omega
        unfold coS at h4
        omega
      · have q : updN _ _ _ _ = 0 := q
        rw [updN_same] at q
        have := szS_pos S p.1.2.1 (p.1.2.2.2 g) 3
        omega
    · refine ⟨?_, fun q1 q2 => ?_⟩
      · show updN _ _ _ _ ≤ _
        rw [updN_ne _ _ e]
        exact h1
      · have q2 : updN _ _ _ _ = 0 := q2
        rw [updN_ne _ _ e] at q2
        exact h2 q1 q2
  · exact h
/-- how many are 0 -/
def zer (z : Nat → Nat) : Nat → Nat
  | 0 => 0
  | k + 1 => zer z k + (if z k = 0 then 1 else 0)
theorem zer_upd {z : Nat → Nat} {f x : Nat} (hz : z f = 0) (hx : 0 < x) : ∀ n, zer (updN z f x) n + (if f < n then 1 else 0) = zer z n
  | 0 => by simp [zer]
  | n + 1 => by
    have ih := zer_upd hz hx n
    simp only [zer]
    by_cases e : n = f
    · subst e
      rw [updN_same, if_neg (show ¬ x = 0 by omega), if_pos hz, if_pos (Nat.lt_succ_self _)]
      rw [if_neg (Nat.lt_irrefl _)] at ih
      omega
    · rw [updN_ne _ _ e]
      by_cases q : f < n
      · rw [if_pos q] at ih
        rw [if_pos (show f < n + 1 by omega)]
        omega
      · rw [if_neg q] at ih
        rw [if_neg (show ¬ f < n + 1 by omega)]
        omega
theorem lsG_z {S : HoS} {f s0 N : Nat} (hf : f < N) {p : LeS × Bool} (h : zer p.1.2.1 N ≤ s0 ∧ (p.2 = true → zer p.1.2.1 N < s0)) : zer (lsG S f p).1.2.1 N ≤ s0 ∧ ((lsG S f p).2 = true → zer (lsG S f p).1.2.1 N < s0) := by
  unfold lsG
  split
  · rename_i hc
    have h1 := zer_upd (x := szS S p.1.2.1 (p.1.2.2.2 f) 3) hc.1 (szS_pos _ _ _ 3) N
    rw [if_pos hf] at h1
    have h2 : zer (updN p.1.2.1 f (szS S p.1.2.1 (p.1.2.2.2 f) 3)) N < s0 := by omega
    exact ⟨Nat.le_of_lt h2, fun _ => h2⟩
  · exact h
theorem lsG_same {S : HoS} {f : Nat} {L : LeS} {p : LeS × Bool} (h : p.2 = true ∨ p.1 = L) : (lsG S f p).2 = true ∨ (lsG S f p).1 = L := by
  unfold lsG
  split
  · exact Or.inl rfl
  · exact h
theorem lsN_flag (S : HoS) (L : LeS) (N : Nat) : ((itN (lsG S) (L, false) N).2 = true → zer (itN (lsG S) (L, false) N).1.2.1 N < zer L.2.1 N) ∧ ((itN (lsG S) (L, false) N).2 = false → (itN (lsG S) (L, false) N).1 = L) := by
  have h1 := itN_inv (P := fun p : LeS × Bool => zer p.1.2.1 N ≤ zer L.2.1 N ∧ (p.2 = true → zer p.1.2.1 N < zer L.2.1 N)) (s := lsG S) (N := N) (fun f hf p hp => lsG_z hf hp) N (Nat.le_refl _) (a := (L, false)) ⟨Nat.le_refl _, fun q => absurd (show false = true from q) (by decide)⟩
  have h2 := itN_inv (P := fun p : LeS × Bool => p.2 = true ∨ p.1 = L) (s := lsG S) (N := N) (fun f _ p hp => lsG_same hp) N (Nat.le_refl _) (a := (L, false)) (Or.inr rfl)
  exact ⟨h1.2, fun q => h2.resolve_left (by rw [q]; decide)⟩
theorem lsN_I {v : Nat → Nat} (hok : OkN v) {S : HoS} (hS : HoOk v S) {c : Nat → Nat} {L : LeS} (h : LeI v S c L) (n : Nat) (hn : n ≤ 216) : LeI v S c (itN (lsG S) (L, false) n).1 :=
  itN_inv (P := fun p : LeS × Bool => LeI v S c p.1) (s := lsG S) (N := 216) (fun f hf p hp => lsG_I hok hS hf hp) n hn (a := (L, false)) h
theorem lsLimN (S : HoS) (N : Nat) (L0 : LeS) : ∃ L, IsLim (fun L => (itN (lsG S) (L, false) N).1) L0 L :=
  lim_ex (fun _ => True) (fun L => zer L.2.1 N) (fun _ _ => trivial) (fun L _ => by
    have h := lsN_flag S L N
    cases q : (itN (lsG S) (L, false) N).2
    · exact Or.inl (h.2 q)
    · exact Or.inr (h.1 q)) (zer L0.2.1 N) L0 (Nat.le_refl _) trivial
theorem lsP_flag (S : HoS) (N : Nat) (L : LeS) : ((lsP S N L).2 = true → zer (lsP S N L).1.2.1 N < zer L.2.1 N) ∧ ((lsP S N L).2 = false → (lsP S N L).1 = L) := lsN_flag S L N
theorem lsLim (S : HoS) (N : Nat) (L0 : LeS) : ∃ L, IsLim (fun L => (lsP S N L).1) L0 L := lsLimN S N L0
theorem lsP_I {v : Nat → Nat} (hok : OkN v) {S : HoS} (hS : HoOk v S) {c : Nat → Nat} {N : Nat} (hN : N = 216) {L : LeS} (h : LeI v S c L) : LeI v S c (lsP S N L).1 := lsN_I hok hS h N (Nat.le_of_eq hN)
theorem lsP_ne {S : HoS} {N : Nat} {L : LeS} (h : (lsP S N L).2 = true) : (lsP S N L).1 ≠ L := by
  intro e
  have h1 := (lsP_flag S N L).1 h
  rw [e] at h1
  omega
def HL (h : Nat → MC) (L : LeS) : Nat → MC := mov [(194, .inl (.int, 216, .inl L.1)), (196, .inl (.int, 216, .inl (vI L.2.1))), (197, .inl (.int, 216, .inl (vI L.2.2.1))), (195, .inl (.int, 216, .inl (vI L.2.2.2)))] h
set_option maxRecDepth 20000 in
theorem c_findLeast (d n : Nat) (w : Nat → Int32) (v c z0 u0 lb0 : Nat → Nat) (lr0 : Nat → Int32) (S : HoS) (F : LeS) (N : Nat) (hN : N = 216) (h : Nat → MC) (hO : h 178 = RO w) (hw : w 6 = nI S.1) (hv : h 179 = .inl (.int, 189, .inl (vI v))) (hcs : h 192 = .inl (.int, 216, .inl (vI c))) (hlr : h 194 = .inl (.int, 216, .inl lr0)) (hsz : h 196 = .inl (.int, 216, .inl (vI z0))) (hus : h 197 = .inl (.int, 216, .inl (vI u0))) (hlb : h 195 = .inl (.int, 216, .inl (vI lb0))) (hok : OkN v) (hS : HoOk v S) (hA : HoAt h S) (hcb : ∀ f, f < 216 → c f ≤ 1000001) (hl : IsLim (fun L => (lsP S N L).1) (ls2 v S c lb0) F) : Fn M_X10_findLeast (d + 1) 0 0 [.ref 178] h n none (HL h F) := by
  obtain ⟨hru, hhd, hli⟩ := hA
  have hf12 := hok.2.2.1
  have h1728 := hS.1
  refine Fn.of fun post hp => ?_
  -- the while's body
  have loopG : ∀ (L : LeS), LeI v S c L → MW M_X10_findLeast (d + 1) 0 0 n post 194 [(0, .ref 178), (1, .int (bI (lsP S N L).2))] [] (HL h (lsP S N L).1) n 0 → ∀ f, f ≤ N → MW M_X10_findLeast (d + 1) 0 0 n post 202 [(0, .ref 178), (1, .int (bI (itN (lsG S) (L, false) f).2)), (2, .int (nI f))] [] (HL h (itN (lsG S) (L, false) f).1) n 0 := by
    intro L hL k
    refine loop_up N ?_ ?_
    · refine mw_iload_n (i := 2) rfl rfl rfl ?_
      refine mw_sipush (v := nI 216) rfl (by decide) ?_
      refine mw_n_ge rfl (by omega) (by omega) (fun q => ?_) (fun q => ?_)
      · refine mw_goto rfl ?_
        exact mw_locals rfl k
      · omega
    · intro f hf ih
      have hQi := lsN_I hok hS hL f (by omega)
      generalize hQ : itN (lsG S) (L, false) f = Q at hQi ⊢
      have eQ : itN (lsG S) (L, false) (f + 1) = lsG S f Q := by rw [← hQ]; rfl
      rw [eQ] at ih
      have hf : f < 216 := by omega
      obtain ⟨b1, b2⟩ := hQi f hf
      have hcf := hcb f hf
      have hzb : ∀ g, g < 216 → Q.1.2.1 g < 2147483648 := fun g hg => by
        have := (hQi g hg).1
        have := hcb g hg
        omega
      have hz1 := hzb f hf
      unfold HL
      refine mw_iload_n (i := 2) rfl rfl rfl ?_
      refine mw_sipush (v := nI 216) rfl (by decide) ?_
      refine mw_n_ge rfl (by omega) (by omega) (fun q => ?_) (fun q => ?_)
      · omega
      · refine mw_aload_n (i := 0) rfl rfl rfl ?_
        refine mw_getfield rfl f_X10_63 (by first | rfl | exact hO | exact hv | exact hhd | exact hcs | exact hru) rfl ?_
        refine mw_iload_n (i := 2) rfl rfl rfl ?_
        refine mw_iald rfl (by first | rfl | exact hO | exact hv | exact hhd | exact hcs | exact hru) (by omega) (by omega) ?_
        refine mw_z_ne rfl (by omega) (fun hz => ?_) (fun hz => ?_)
        · rw [show lsG S f Q = Q by unfold lsG; rw [if_neg (by intro e; exact hz e.1)]] at ih
          first | refine mw_ninc rfl rfl (Nat.le_of_ble_eq_true rfl) ?_ | refine mw_iinc rfl rfl rfl (Nat.le_of_ble_eq_true rfl) ?_
          refine mw_goto rfl ?_
          exact mw_locals rfl ih
        · refine mw_aload_n (i := 0) rfl rfl rfl ?_
          refine mw_getfield rfl f_X10_57 (by first | rfl | exact hO | exact hv | exact hhd | exact hcs | exact hru) rfl ?_
          refine mw_iload_n (i := 2) rfl rfl rfl ?_
          refine mw_iald rfl (by first | rfl | exact hO | exact hv | exact hhd | exact hcs | exact hru) (by omega) (by omega) ?_
          refine mw_if_lt rfl (fun hlt => ?_) (fun hlt => ?_)
          · rw [show lsG S f Q = Q by unfold lsG; rw [if_neg (by intro e; exact e.2.1 hlt)]] at ih
            first | refine mw_ninc rfl rfl (Nat.le_of_ble_eq_true rfl) ?_ | refine mw_iinc rfl rfl rfl (Nat.le_of_ble_eq_true rfl) ?_
            refine mw_goto rfl ?_
            exact mw_locals rfl ih
          · obtain ⟨l1, l2, l3⟩ := b2 hlt hz
            refine mw_aload_n (i := 0) rfl rfl rfl ?_
            refine mw_aload_n (i := 0) rfl rfl rfl ?_
            refine mw_getfield rfl f_X10_60 (by first | rfl | exact hO | exact hv | exact hhd | exact hcs | exact hru) rfl ?_
            refine mw_iload_n (i := 2) rfl rfl rfl ?_
            refine mw_iald rfl (by first | rfl | exact hO | exact hv | exact hhd | exact hcs | exact hru) (by omega) (by omega) ?_
            refine mw_callV_f (c_areSized d n (Q.1.2.2.2 f) w v Q.1.2.1 S _ hO rfl hS ⟨hru, hhd, hli⟩ l1 hzb) rfl ok_X10_areSized v_X10_208 rfl (by first | rfl | exact hO | exact hv | exact hhd | exact hcs | exact hru) (by intro e; cases e) rfl (Nat.le_of_ble_eq_true rfl) rfl (Nat.le_of_ble_eq_true rfl) (by omega) (by omega) (by omega) ?_
            refine mw_b_eq rfl (fun ha => ?_) (fun ha => ?_)
            · rw [show lsG S f Q = Q by unfold lsG; rw [if_neg (by intro e; rw [ha] at e; exact absurd e.2.2 (by decide))]] at ih
              first | refine mw_ninc rfl rfl (Nat.le_of_ble_eq_true rfl) ?_ | refine mw_iinc rfl rfl rfl (Nat.le_of_ble_eq_true rfl) ?_
              refine mw_goto rfl ?_
              exact mw_locals rfl ih
            · rw [show lsG S f Q = ((Q.1.1, updN Q.1.2.1 f (szS S Q.1.2.1 (Q.1.2.2.2 f) 3), updN Q.1.2.2.1 f (usS S Q.1.2.2.1 (Q.1.2.2.2 f) 3), Q.1.2.2.2), true) by unfold lsG; rw [if_pos ⟨hz, hlt, ha⟩]] at ih
              refine mw_aload_n (i := 0) rfl rfl rfl ?_
              refine mw_iload_n (i := 2) rfl rfl rfl ?_
              refine mw_aload_n (i := 0) rfl rfl rfl ?_
              refine mw_getfield rfl f_X10_60 (by first | rfl | exact hO | exact hv | exact hhd | exact hcs | exact hru) rfl ?_
              refine mw_iload_n (i := 2) rfl rfl rfl ?_
              refine mw_iald rfl (by first | rfl | exact hO | exact hv | exact hhd | exact hcs | exact hru) (by omega) (by omega) ?_
              refine mw_callV_f (c_sizes d n f (Q.1.2.2.2 f) w v Q.1.2.1 Q.1.2.2.1 S _ hO rfl rfl hS ⟨hru, hhd, hli⟩ l1 hf) rfl ok_X10_sizes v_X10_211 rfl (by first | rfl | exact hO | exact hv | exact hhd | exact hcs | exact hru) (by intro e; cases e) rfl (Nat.le_of_ble_eq_true rfl) rfl (Nat.le_of_ble_eq_true rfl) (by omega) (by omega) (by omega) ?_
              rw [← mov_puts]
              refine mw_iconst (v := nI 1) rfl (by decide) ?_
              refine mw_istore_n (i := 1) rfl rfl (Nat.le_of_ble_eq_true rfl) ?_
              first | refine mw_ninc rfl rfl (Nat.le_of_ble_eq_true rfl) ?_ | refine mw_iinc rfl rfl rfl (Nat.le_of_ble_eq_true rfl) ?_
              refine mw_goto rfl ?_
              exact mw_locals rfl ih
  have hW : MW M_X10_findLeast (d + 1) 0 0 n post 194 [(0, .ref 178), (1, .int (bI true))] [] (HL h (ls2 v S c lb0)) n 0 := by
    refine while_lim (P := lsP S N) (H := fun fl L => MW M_X10_findLeast (d + 1) 0 0 n post 194 [(0, .ref 178), (1, .int (bI fl))] [] (HL h L) n 0) (I := LeI v S c) hl (ls2_I v S c lb0) (fun L hL => lsP_I hok hS hN hL) (fun L _ => (lsP_flag S N L).2) (fun L _ => lsP_ne) ?_ ?_
    · show MW M_X10_findLeast (d + 1) 0 0 n post 194 [(0, .ref 178), (1, .int (bI false))] [] (HL h F) n 0
      refine mw_iload_n (i := 1) rfl rfl rfl ?_
      refine mw_b_eq rfl (fun q => ?_) (fun q => ?_)
      · exact mw_return rfl rfl rfl (Nat.le_refl _) (hp)
      · cases q
    · intro L hL k
      show MW M_X10_findLeast (d + 1) 0 0 n post 194 [(0, .ref 178), (1, .int (bI true))] [] (HL h L) n 0
      refine mw_iload_n (i := 1) rfl rfl rfl ?_
      refine mw_b_eq rfl (fun q => ?_) (fun q => ?_)
      · cases q
      · refine mw_iconst (v := nI 0) rfl (by decide) ?_
        refine mw_istore_n (i := 1) rfl rfl (Nat.le_of_ble_eq_true rfl) ?_
        refine mw_iconst (v := nI 0) rfl (by decide) ?_
        refine mw_istore_n (i := 2) rfl rfl (Nat.le_of_ble_eq_true rfl) ?_
        exact mw_locals rfl (loopG L hL k 0 (Nat.zero_le _))
  -- the instances, from the last
  have loopI : ∀ k, k ≤ S.1 → ∀ L : LeS, LeI v S c L → itD (lsI v S c) L k = ls2 v S c lb0 → MW M_X10_findLeast (d + 1) 0 0 n post 120 [(0, .ref 178), (1, .int (dn k))] [] (HL h L) n 0 := by
    intro k
    induction k with
    | zero =>
      intro _ L _ e
      have e : L = ls2 v S c lb0 := e
      rw [dn_0, e]
      refine mw_iload_n (i := 1) rfl rfl rfl ?_
      refine mw_if_lt rfl (fun q => ?_) (fun q => ?_)
      · refine mw_iconst (v := nI 1) rfl (by decide) ?_
        refine mw_istore_n (i := 1) rfl rfl (Nat.le_of_ble_eq_true rfl) ?_
        exact mw_locals rfl hW
      · exact absurd (by decide) q
    | succ k ihk =>
      intro hk L hL e
      have ih := ihk (by omega) (lsI v S c k L) (lsI_I (by omega) hL) e
      have hhk := (hS.2 k (by omega)).2.1
      have hrk := (hS.2 k (by omega)).1
      have hck := hcb _ hhk
      have hcb2 := coB_le v S c k
      rw [dn_s]
      unfold HL
      refine mw_iload_n (i := 1) rfl rfl rfl ?_
      refine mw_if_lt rfl (fun q => ?_) (fun q => ?_)
      · exact absurd q (nI_pos (by omega))
      · refine mw_aload_n (i := 0) rfl rfl rfl ?_
        refine mw_getfield rfl f_X10_44 (by first | rfl | exact hO | exact hv | exact hhd | exact hcs | exact hru) rfl ?_
        refine mw_iload_n (i := 1) rfl rfl rfl ?_
        refine mw_iald rfl (by first | rfl | exact hO | exact hv | exact hhd | exact hcs | exact hru) (by omega) (by omega) ?_
        refine mw_istore_n (i := 2) rfl rfl (Nat.le_of_ble_eq_true rfl) ?_
        refine mw_aload_n (i := 0) rfl rfl rfl ?_
        refine mw_getfield rfl f_X10_57 (by first | rfl | exact hO | exact hv | exact hhd | exact hcs | exact hru) rfl ?_
        refine mw_iload_n (i := 2) rfl rfl rfl ?_
        refine mw_iald rfl (by first | rfl | exact hO | exact hv | exact hhd | exact hcs | exact hru) (by omega) (by omega) ?_
        refine mw_bipush (v := nI 8) rfl (by decide) ?_
        refine mw_icmp_eq rfl (fun h8 => ?_) (fun h8 => ?_)
        · rw [show lsI v S c k L = L by unfold lsI; rw [if_neg (by intro e; exact e.1 h8)]] at ih
          refine mw_iinc rfl rfl (dn_dec (by omega)) (Nat.le_of_ble_eq_true rfl) ?_
          refine mw_goto rfl ?_
          exact mw_locals rfl ih
        · refine mw_aload_n (i := 0) rfl rfl rfl ?_
          refine mw_getfield rfl f_X10_50 (by first | rfl | exact hO | exact hv | exact hhd | exact hcs | exact hru) rfl ?_
          refine mw_iload_n (i := 2) rfl rfl rfl ?_
          refine mw_iald rfl (by first | rfl | exact hO | exact hv | exact hhd | exact hcs | exact hru) (by omega) (by omega) ?_
          refine mw_ldc (v := nI 1000001) rfl c_X10_198 ?_
          refine mw_n_ge rfl (by omega) (by omega) (fun hfar => ?_) (fun hfar => ?_)
          · rw [show lsI v S c k L = L by unfold lsI; rw [if_neg (by intro e; have := e.2.1; omega)]] at ih
            refine mw_iinc rfl rfl (dn_dec (by omega)) (Nat.le_of_ble_eq_true rfl) ?_
            refine mw_goto rfl ?_
            exact mw_locals rfl ih
          · refine mw_aload_n (i := 0) rfl rfl rfl ?_
            refine mw_iload_n (i := 1) rfl rfl rfl ?_
            refine mw_callV_f (c_costBy d n k w v c S _ hO hv hcs hok hS ⟨hru, hhd, hli⟩ (by omega) hcb) rfl ok_X10_costBy v_X10_199 rfl (by first | rfl | exact hO | exact hv | exact hhd | exact hcs | exact hru) (by intro e; cases e) rfl (Nat.le_of_ble_eq_true rfl) rfl (Nat.le_of_ble_eq_true rfl) (by omega) (by omega) (by omega) ?_
            refine mw_aload_n (i := 0) rfl rfl rfl ?_
            refine mw_getfield rfl f_X10_50 (by first | rfl | exact hO | exact hv | exact hhd | exact hcs | exact hru) rfl ?_
            refine mw_iload_n (i := 2) rfl rfl rfl ?_
            refine mw_iald rfl (by first | rfl | exact hO | exact hv | exact hhd | exact hcs | exact hru) (by omega) (by omega) ?_
            refine mw_n_ne rfl (by omega) (by omega) (fun hne => ?_) (fun hne => ?_)
            · rw [show lsI v S c k L = L by unfold lsI; rw [if_neg (by intro e; exact hne e.2.2)]] at ih
              refine mw_iinc rfl rfl (dn_dec (by omega)) (Nat.le_of_ble_eq_true rfl) ?_
              refine mw_goto rfl ?_
              exact mw_locals rfl ih
            · rw [show lsI v S c k L = (upd L.1 (S.2.2.1 k) (nI (S.2.1 k)), L.2.1, L.2.2.1, updN L.2.2.2 (S.2.2.1 k) k) by unfold lsI; rw [if_pos ⟨h8, hfar, hne⟩]] at ih
              refine mw_aload_n (i := 0) rfl rfl rfl ?_
              refine mw_getfield rfl f_X10_57 (by first | rfl | exact hO | exact hv | exact hhd | exact hcs | exact hru) rfl ?_
              refine mw_iload_n (i := 2) rfl rfl rfl ?_
              refine mw_aload_n (i := 0) rfl rfl rfl ?_
              refine mw_getfield rfl f_X10_41 (by first | rfl | exact hO | exact hv | exact hhd | exact hcs | exact hru) rfl ?_
              refine mw_iload_n (i := 1) rfl rfl rfl ?_
              refine mw_iald rfl (by first | rfl | exact hO | exact hv | exact hhd | exact hcs | exact hru) (by omega) (by omega) ?_
              refine mw_iast_m rfl (by first | rfl | exact hO | exact hv | exact hhd | exact hcs | exact hru) (by omega) (by omega) ?_
              first | rw [vI_upd] | rw [vI_updv] | skip
              refine mw_aload_n (i := 0) rfl rfl rfl ?_
              refine mw_getfield rfl f_X10_60 (by first | rfl | exact hO | exact hv | exact hhd | exact hcs | exact hru) rfl ?_
              refine mw_iload_n (i := 2) rfl rfl rfl ?_
              refine mw_iload_n (i := 1) rfl rfl rfl ?_
              refine mw_iast_m rfl (by first | rfl | exact hO | exact hv | exact hhd | exact hcs | exact hru) (by omega) (by omega) ?_
              first | rw [vI_upd] | rw [vI_updv] | skip
              refine mw_iinc rfl rfl (dn_dec (by omega)) (Nat.le_of_ble_eq_true rfl) ?_
              refine mw_goto rfl ?_
              exact mw_locals rfl ih
  -- the base facts, from the last
  have loopK : ∀ k, k ≤ v 1 → ∀ L : LeS, LeI v S c L → itD (lsK v c) L k = itD (lsK v c) (ls0 lb0) (v 1) → MW M_X10_findLeast (d + 1) 0 0 n post 45 [(0, .ref 178), (1, .int (dn k))] [] (HL h L) n 0 := by
    intro k
    induction k with
    | zero =>
      intro _ L hL e
      have e : L = itD (lsK v c) (ls0 lb0) (v 1) := e
      rw [dn_0]
      refine mw_iload_n (i := 1) rfl rfl rfl ?_
      refine mw_if_lt rfl (fun q => ?_) (fun q => ?_)
      · refine mw_aload_n (i := 0) rfl rfl rfl ?_
        refine mw_getfield rfl f_X10_157 (by first | rfl | exact hO | exact hv | exact hhd | exact hcs | exact hru) rfl ?_
        rw [hw]
        refine mw_iconst (v := nI 1) rfl (by decide) ?_
        refine mw_isub rfl ?_
        rw [show nI S.1 - nI 1 = dn S.1 by
          cases hs : S.1 with
          | zero => decide
          | succ k => rw [dn_s]; exact nI_pred k]
        refine mw_istore_n (i := 1) rfl rfl (Nat.le_of_ble_eq_true rfl) ?_
        exact mw_locals rfl (loopI S.1 (Nat.le_refl _) L hL (by rw [e]; rfl))
      · exact absurd (by decide) q
    | succ k ihk =>
      intro hk L hL e
      have ih := ihk (by omega) (lsK v c k L) (lsK_I hL) e
      obtain ⟨hf1, hf2, -⟩ := hok.2.2.2.2.2.1 k (by omega)
      have hck := hcb _ hf1
      rw [dn_s]
      unfold HL
      refine mw_iload_n (i := 1) rfl rfl rfl ?_
      refine mw_if_lt rfl (fun q => ?_) (fun q => ?_)
      · exact absurd q (nI_pos (by omega))
      · refine mw_aload_n (i := 0) rfl rfl rfl ?_
        refine mw_getfield rfl f_X10_7 (by first | rfl | exact hO | exact hv | exact hhd | exact hcs | exact hru) rfl ?_
        refine mw_bipush (v := nI 9) rfl (by decide) ?_
        refine mw_iconst (v := nI 3) rfl (by decide) ?_
        refine mw_iload_n (i := 1) rfl rfl rfl ?_
        first | refine mw_nmul rfl ?_ | refine mw_imul rfl ?_
        first | refine mw_nadd rfl ?_ | refine mw_iadd rfl ?_
        refine mw_iald rfl (by first | rfl | exact hO | exact hv | exact hhd | exact hcs | exact hru) (by omega) (by omega) ?_
        refine mw_istore_n (i := 2) rfl rfl (Nat.le_of_ble_eq_true rfl) ?_
        refine mw_aload_n (i := 0) rfl rfl rfl ?_
        refine mw_getfield rfl f_X10_7 (by first | rfl | exact hO | exact hv | exact hhd | exact hcs | exact hru) rfl ?_
        refine mw_bipush (v := nI 9) rfl (by decide) ?_
        refine mw_iconst (v := nI 3) rfl (by decide) ?_
        refine mw_iload_n (i := 1) rfl rfl rfl ?_
        first | refine mw_nmul rfl ?_ | refine mw_imul rfl ?_
        first | refine mw_nadd rfl ?_ | refine mw_iadd rfl ?_
        refine mw_iconst (v := nI 1) rfl (by decide) ?_
        first | refine mw_nadd rfl ?_ | refine mw_iadd rfl ?_
        refine mw_iald rfl (by first | rfl | exact hO | exact hv | exact hhd | exact hcs | exact hru) (by omega) (by omega) ?_
        refine mw_aload_n (i := 0) rfl rfl rfl ?_
        refine mw_getfield rfl f_X10_50 (by first | rfl | exact hO | exact hv | exact hhd | exact hcs | exact hru) rfl ?_
        refine mw_iload_n (i := 2) rfl rfl rfl ?_
        refine mw_iald rfl (by first | rfl | exact hO | exact hv | exact hhd | exact hcs | exact hru) (by omega) (by omega) ?_
        refine mw_n_ne rfl (by omega) (by omega) (fun hne => ?_) (fun hne => ?_)
        · rw [show lsK v c k L = L by unfold lsK; rw [if_neg hne]] at ih
          refine mw_iinc rfl rfl (dn_dec (by omega)) (Nat.le_of_ble_eq_true rfl) ?_
          refine mw_goto rfl ?_
          exact mw_locals rfl ih
        · rw [show lsK v c k L = (upd L.1 (v (9 + 3 * k)) (nI 8), updN L.2.1 (v (9 + 3 * k)) 1, updN L.2.2.1 (v (9 + 3 * k)) (2 ^ k), L.2.2.2) by unfold lsK; rw [if_pos hne]] at ih
          refine mw_aload_n (i := 0) rfl rfl rfl ?_
          refine mw_getfield rfl f_X10_57 (by first | rfl | exact hO | exact hv | exact hhd | exact hcs | exact hru) rfl ?_
          refine mw_iload_n (i := 2) rfl rfl rfl ?_
          refine mw_bipush (v := nI 8) rfl (by decide) ?_
          refine mw_iast_m rfl (by first | rfl | exact hO | exact hv | exact hhd | exact hcs | exact hru) (by omega) (by omega) ?_
          first | rw [vI_upd] | rw [vI_updv] | skip
          refine mw_aload_n (i := 0) rfl rfl rfl ?_
          refine mw_getfield rfl f_X10_63 (by first | rfl | exact hO | exact hv | exact hhd | exact hcs | exact hru) rfl ?_
          refine mw_iload_n (i := 2) rfl rfl rfl ?_
          refine mw_iconst (v := nI 1) rfl (by decide) ?_
          refine mw_iast_m rfl (by first | rfl | exact hO | exact hv | exact hhd | exact hcs | exact hru) (by omega) (by omega) ?_
          first | rw [vI_upd] | rw [vI_updv] | skip
          refine mw_aload_n (i := 0) rfl rfl rfl ?_
          refine mw_getfield rfl f_X10_66 (by first | rfl | exact hO | exact hv | exact hhd | exact hcs | exact hru) rfl ?_
          refine mw_iload_n (i := 2) rfl rfl rfl ?_
          refine mw_iconst (v := nI 1) rfl (by decide) ?_
          refine mw_iload_n (i := 1) rfl rfl rfl ?_
          refine mw_ishl rfl ?_
          rw [shlN (a := 1) (k := k) (by omega) (by rw [Nat.one_mul]; exact Nat.pow_lt_pow_right (by omega) (by omega)), Nat.one_mul]
          refine mw_iast_m rfl (by first | rfl | exact hO | exact hv | exact hhd | exact hcs | exact hru) (by omega) (by omega) ?_
          first | rw [vI_upd] | rw [vI_updv] | skip
          refine mw_iinc rfl rfl (dn_dec (by omega)) (Nat.le_of_ble_eq_true rfl) ?_
          refine mw_goto rfl ?_
          exact mw_locals rfl ih
  -- all empty
  have loopA : ∀ k, k ≤ 216 → MW M_X10_findLeast (d + 1) 0 0 n post 2 [(0, .ref 178), (1, .int (nI k))] [] (mov [(194, .inl (.int, 216, .inl (fun j => if j < k ∨ 216 ≤ j then -1 else lr0 j))), (196, .inl (.int, 216, .inl (vI (fun j => if j < k ∨ 216 ≤ j then 0 else z0 j)))), (197, .inl (.int, 216, .inl (vI (fun j => if j < k ∨ 216 ≤ j then 0 else u0 j)))), (195, .inl (.int, 216, .inl (vI lb0)))] h) n 0 := by
    refine loop_up 216 ?_ ?_
    · refine mw_iload_n (i := 1) rfl rfl rfl ?_
      refine mw_sipush (v := nI 216) rfl (by decide) ?_
      refine mw_n_ge rfl (by omega) (by omega) (fun q => ?_) (fun q => ?_)
      · rw [show (fun j => if j < 216 ∨ 216 ≤ j then -1 else lr0 j) = (fun _ => (-1 : Int32)) by funext j; rw [if_pos (by omega)], show (fun j => if j < 216 ∨ 216 ≤ j then 0 else z0 j) = (fun _ => 0) by funext j; rw [if_pos (by omega)], show (fun j => if j < 216 ∨ 216 ≤ j then 0 else u0 j) = (fun _ => 0) by funext j; rw [if_pos (by omega)]]
        refine mw_aload_n (i := 0) rfl rfl rfl ?_
        refine mw_getfield rfl f_X10_7 (by first | rfl | exact hO | exact hv | exact hhd | exact hcs | exact hru) rfl ?_
        refine mw_iconst (v := nI 1) rfl (by decide) ?_
        refine mw_iald rfl (by first | rfl | exact hO | exact hv | exact hhd | exact hcs | exact hru) (by omega) (by omega) ?_
        refine mw_iconst (v := nI 1) rfl (by decide) ?_
        refine mw_isub rfl ?_
        refine mw_istore_n (i := 1) rfl rfl (Nat.le_of_ble_eq_true rfl) ?_
        refine mw_locals (L2 := [(0, .ref 178), (1, .int (dn (v 1)))]) ?_ (loopK (v 1) (Nat.le_refl _) (ls0 lb0) (ls0_I v S c lb0) rfl)
        rw [show dn (v 1) = nI (v 1) - nI 1 by
          cases hs : v 1 with
          | zero => decide
          | succ k => rw [dn_s]; exact (nI_pred k).symm]
        rfl
      · omega
    · intro k hk ih
      have e1 : upd (fun j => if j < k ∨ 216 ≤ j then -1 else lr0 j) k (-1) = (fun j => if j < k + 1 ∨ 216 ≤ j then (-1 : Int32) else lr0 j) := by
        funext j
        simp only [upd]
        by_cases q : j = k
        · rw [if_pos q, if_pos (by omega)]
        · rw [if_neg q]
          have q3 : (j < k + 1 ∨ 216 ≤ j) ↔ (j < k ∨ 216 ≤ j) := by omega
          simp only [q3]
      have e2 : ∀ z0 : Nat → Nat, updN (fun j => if j < k ∨ 216 ≤ j then 0 else z0 j) k 0 = (fun j => if j < k + 1 ∨ 216 ≤ j then 0 else z0 j) := by
        intro z0
        funext j
        simp only [updN]
        by_cases q : j = k
        · rw [if_pos q, if_pos (by omega)]
        · rw [if_neg q]
          have q3 : (j < k + 1 ∨ 216 ≤ j) ↔ (j < k ∨ 216 ≤ j) := by omega
          simp only [q3]
      rw [← e1, ← e2, ← e2] at ih
      refine mw_iload_n (i := 1) rfl rfl rfl ?_
      refine mw_sipush (v := nI 216) rfl (by decide) ?_
      refine mw_n_ge rfl (by omega) (by omega) (fun q => ?_) (fun q => ?_)
      · omega
      · refine mw_aload_n (i := 0) rfl rfl rfl ?_
        refine mw_getfield rfl f_X10_57 (by first | rfl | exact hO | exact hv | exact hhd | exact hcs | exact hru) rfl ?_
        refine mw_iload_n (i := 1) rfl rfl rfl ?_
        refine mw_iconst (v := (-1)) rfl (by decide) ?_
        refine mw_iast_m rfl (by first | rfl | exact hO | exact hv | exact hhd | exact hcs | exact hru) (by omega) (by omega) ?_
        first | rw [vI_upd] | rw [vI_updv] | skip
        refine mw_aload_n (i := 0) rfl rfl rfl ?_
        refine mw_getfield rfl f_X10_63 (by first | rfl | exact hO | exact hv | exact hhd | exact hcs | exact hru) rfl ?_
        refine mw_iload_n (i := 1) rfl rfl rfl ?_
        refine mw_iconst (v := nI 0) rfl (by decide) ?_
        refine mw_iast_m rfl (by first | rfl | exact hO | exact hv | exact hhd | exact hcs | exact hru) (by omega) (by omega) ?_
        first | rw [vI_upd] | rw [vI_updv] | skip
        refine mw_aload_n (i := 0) rfl rfl rfl ?_
        refine mw_getfield rfl f_X10_66 (by first | rfl | exact hO | exact hv | exact hhd | exact hcs | exact hru) rfl ?_
        refine mw_iload_n (i := 1) rfl rfl rfl ?_
        refine mw_iconst (v := nI 0) rfl (by decide) ?_
        refine mw_iast_m rfl (by first | rfl | exact hO | exact hv | exact hhd | exact hcs | exact hru) (by omega) (by omega) ?_
        first | rw [vI_upd] | rw [vI_updv] | skip
        first | refine mw_ninc rfl rfl (Nat.le_of_ble_eq_true rfl) ?_ | refine mw_iinc rfl rfl rfl (Nat.le_of_ble_eq_true rfl) ?_
        refine mw_goto rfl ?_
        exact mw_locals rfl ih
  refine mw_tail (K := 194) (fun j => if j < 0 ∨ 216 ≤ j then -1 else lr0 j) hlr (fun j hj => by rw [if_neg (by omega)]) ?_
  refine mw_tail (K := 196) (vI (fun j => if j < 0 ∨ 216 ≤ j then 0 else z0 j)) hsz (fun j hj => by simp only [vI]; rw [if_neg (by omega)]) ?_
  refine mw_tail (K := 197) (vI (fun j => if j < 0 ∨ 216 ≤ j then 0 else u0 j)) hus (fun j hj => by simp only [vI]; rw [if_neg (by omega)]) ?_
  rw [hset_1 h, hset_mov, hset_mov]
  refine mw_heap (h2 := mov [(194, .inl (.int, 216, .inl (fun j => if j < 0 ∨ 216 ≤ j then -1 else lr0 j))), (196, .inl (.int, 216, .inl (vI (fun j => if j < 0 ∨ 216 ≤ j then 0 else z0 j)))), (197, .inl (.int, 216, .inl (vI (fun j => if j < 0 ∨ 216 ≤ j then 0 else u0 j)))), (195, .inl (.int, 216, .inl (vI lb0)))] h) ?_ ?_
  · exact mov_app (l := [(194, .inl (.int, 216, .inl (fun j => if j < 0 ∨ 216 ≤ j then -1 else lr0 j))), (196, .inl (.int, 216, .inl (vI (fun j => if j < 0 ∨ 216 ≤ j then 0 else z0 j)))), (197, .inl (.int, 216, .inl (vI (fun j => if j < 0 ∨ 216 ≤ j then 0 else u0 j))))]) (l2 := [(195, .inl (.int, 216, .inl (vI lb0)))]) (by simp [hlb])
  · refine mw_iconst (v := nI 0) rfl (by decide) ?_
    refine mw_istore_n (i := 1) rfl rfl (Nat.le_of_ble_eq_true rfl) ?_
    exact mw_locals rfl (loopA 0 (by omega))
