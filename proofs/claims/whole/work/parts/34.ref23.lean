/-- the first that is there among P 0 .. P (n - 1) -/
def upTo {α : Type} (P : Nat → Option α) : Nat → Option α
  | 0 => none
  | k + 1 => (upTo P k).or (P k)
theorem upTo_miss {α : Type} {P : Nat → Option α} {k : Nat} (h0 : upTo P k = none) (h1 : P k = none) : upTo P (k + 1) = none := by
  show (upTo P k).or (P k) = none
  rw [h0, h1]
  rfl
theorem upTo_hit {α : Type} {P : Nat → Option α} {k : Nat} {c : α} (h0 : upTo P k = none) (h1 : P k = some c) : ∀ {N : Nat}, k < N → upTo P N = some c
  | 0, h => absurd h (Nat.not_lt_zero _)
  | N + 1, h => by
    show (upTo P N).or (P N) = some c
    by_cases e : k = N
    · subst e
      rw [h0, h1]
      rfl
    · rw [upTo_hit h0 h1 (show k < N by omega)]
      rfl
theorem upTo_none {α : Type} {P : Nat → Option α} : ∀ {N : Nat}, (∀ k, k < N → P k = none) → upTo P N = none
  | 0, _ => rfl
  | N + 1, h => upTo_miss (upTo_none (fun k hk => h k (by omega))) (h N (by omega))
def cutA (E : Int32 → Nat → Bool) (g i : Nat) : Option Int32 := if E (bitI i) g = true then none else some (bitI i)
def cutB (E : Int32 → Nat → Bool) (g i j : Nat) : Option Int32 := if i < j ∧ E (bitI i ||| bitI j) g = false then some (bitI i ||| bitI j) else none
def cutC (E : Int32 → Nat → Bool) (g n t : Nat) : Option Int32 := if t / n / n < t / n % n ∧ t / n % n < t % n ∧ E (bitI (t / n / n) ||| bitI (t / n % n) ||| bitI (t % n)) g = false then some (bitI (t / n / n) ||| bitI (t / n % n) ||| bitI (t % n)) else none
def cutV (E : Int32 → Nat → Bool) (g n : Nat) : Int32 := ((upTo (cutA E g) n).or ((upTo (fun i => upTo (cutB E g i) n) n).or (upTo (cutC E g n) (n * n * n)))).getD (-5)
theorem cutV_a {E : Int32 → Nat → Bool} {g n : Nat} {c : Int32} (h : upTo (cutA E g) n = some c) : cutV E g n = c := by
  unfold cutV
  rw [h]
  rfl
theorem cutV_b {E : Int32 → Nat → Bool} {g n : Nat} {c : Int32} (h0 : upTo (cutA E g) n = none) (h : upTo (fun i => upTo (cutB E g i) n) n = some c) : cutV E g n = c := by
  unfold cutV
  rw [h0, h]
  rfl
theorem cutV_c {E : Int32 → Nat → Bool} {g n : Nat} {c : Int32} (h0 : upTo (cutA E g) n = none) (h1 : upTo (fun i => upTo (cutB E g i) n) n = none) (h : upTo (cutC E g n) (n * n * n) = some c) : cutV E g n = c := by
  unfold cutV
  rw [h0, h1, h]
  rfl
theorem cutV_d {E : Int32 → Nat → Bool} {g n : Nat} (h0 : upTo (cutA E g) n = none) (h1 : upTo (fun i => upTo (cutB E g i) n) n = none) (h : upTo (cutC E g n) (n * n * n) = none) : cutV E g n = -5 := by
  unfold cutV
  rw [h0, h1, h]
  rfl
set_option maxRecDepth 20000 in
theorem c_cutOf (d n : Nat) (g : Nat) (w : Nat → Int32) (v : Nat → Nat) (x : RD) (E : Int32 → Nat → Bool) (S : HoS) (h : Nat → MC) (hv : h 179 = .inl (.int, 189, .inl (vI v))) (hok : OkN v) (hS : FndM v w x S) (hg : g < 216) (hE : DerE v S E) : Sp M_X10_cutOf (d + 2) 0 0 [.ref 178, .int (nI g)] (mov (rcL w x) h) n (fun r h1 => ∃ D' : Nat → Bool, r = some (.int (cutV E g (v 1))) ∧ h1 = mov (rcL w (x.uD D')) h) := by
  show MW _ _ _ _ _ _ _ _ _ _ _ _
  generalize hpost : (fun (r : Option Value) (h1 : Nat → MC) => ∃ D' : Nat → Bool, r = some (.int (cutV E g (v 1))) ∧ h1 = mov (rcL w (x.uD D')) h) = post
  have hp : ∀ (D' : Nat → Bool) (c : Int32), cutV E g (v 1) = c → post (some (.int c)) (mov (rcL w (x.uD D')) h) := by
    intro D' c e
    rw [← hpost, ← e]
    exact ⟨D', rfl, rfl⟩
  clear hpost
  have hf12 := hok.2.2.1
  have hcub : v 1 * v 1 * v 1 ≤ 12 * 12 * 12 := Nat.mul_le_mul (Nat.mul_le_mul hf12 hf12) hf12
  have hsq : v 1 * v 1 ≤ 12 * 12 := Nat.mul_le_mul hf12 hf12
  have loop3 : upTo (cutA E g) (v 1) = none → upTo (fun i => upTo (cutB E g i) (v 1)) (v 1) = none → ∀ t, t ≤ v 1 * v 1 * v 1 → ∀ D, upTo (cutC E g (v 1)) t = none → MW M_X10_cutOf (d + 2) 0 0 n post 92 [(0, .ref 178), (1, .int (nI g)), (2, .int (nI (v 1))), (3, .int (nI t))] [] (mov (rcL w (x.uD D)) h) n 0 := by
    intro hA hB
    refine loop_up (P := fun t => ∀ D, upTo (cutC E g (v 1)) t = none → MW M_X10_cutOf (d + 2) 0 0 n post 92 [(0, .ref 178), (1, .int (nI g)), (2, .int (nI (v 1))), (3, .int (nI t))] [] (mov (rcL w (x.uD D)) h) n 0) (v 1 * v 1 * v 1) ?_ ?_
    · intro D hC
      refine mw_iload_n (i := 3) rfl rfl rfl ?_
      refine mw_iload_n (i := 2) rfl rfl rfl ?_
      refine mw_iload_n (i := 2) rfl rfl rfl ?_
      first | refine mw_nmul rfl ?_ | refine mw_imul rfl ?_
      refine mw_iload_n (i := 2) rfl rfl rfl ?_
      first | refine mw_nmul rfl ?_ | refine mw_imul rfl ?_
      refine mw_n_ge rfl (by omega) (by omega) (fun hc => ?_) (fun hc => ?_)
      · refine mw_bipush (v := (-5)) rfl (by decide) ?_
        exact mw_ireturn rfl rfl rfl rfl (Nat.le_refl _) ((hp D _ (cutV_d hA hB hC)))
      · omega
    · intro t ht ih D hC
      have hn0 : 0 < v 1 := Nat.pos_of_ne_zero (fun e => by rw [e] at ht; omega)
      have d1 := Nat.div_le_self t (v 1)
      have d2 := Nat.div_le_self (t / v 1) (v 1)
      have d3 := Nat.mod_lt (t / v 1) hn0
      have d4 := Nat.mod_lt t hn0
      have eC : ∀ c, cutC E g (v 1) t = c → cutC E g (v 1) t = c := fun _ e => e
      unfold cutC at eC
      refine mw_iload_n (i := 3) rfl rfl rfl ?_
      refine mw_iload_n (i := 2) rfl rfl rfl ?_
      refine mw_iload_n (i := 2) rfl rfl rfl ?_
      first | refine mw_nmul rfl ?_ | refine mw_imul rfl ?_
      refine mw_iload_n (i := 2) rfl rfl rfl ?_
      first | refine mw_nmul rfl ?_ | refine mw_imul rfl ?_
      refine mw_n_ge rfl (by omega) (by omega) (fun hc => ?_) (fun hc => ?_)
      · omega
      · refine mw_iload_n (i := 3) rfl rfl rfl ?_
        refine mw_iload_n (i := 2) rfl rfl rfl ?_
        refine mw_ndiv rfl (by omega) (by omega) (by omega) ?_
        refine mw_iload_n (i := 2) rfl rfl rfl ?_
        refine mw_ndiv rfl (by omega) (by omega) (by omega) ?_
        refine mw_istore rfl (Nat.le_of_ble_eq_true rfl) ?_
        refine mw_iload_n (i := 3) rfl rfl rfl ?_
        refine mw_iload_n (i := 2) rfl rfl rfl ?_
        refine mw_ndiv rfl (by omega) (by omega) (by omega) ?_
        refine mw_iload_n (i := 2) rfl rfl rfl ?_
        refine mw_nrem rfl (by omega) (by omega) (by omega) ?_
        refine mw_istore rfl (Nat.le_of_ble_eq_true rfl) ?_
        refine mw_iload_n (i := 3) rfl rfl rfl ?_
        refine mw_iload_n (i := 2) rfl rfl rfl ?_
        refine mw_nrem rfl (by omega) (by omega) (by omega) ?_
        refine mw_istore rfl (Nat.le_of_ble_eq_true rfl) ?_
        refine mw_iload rfl rfl ?_
        refine mw_iload rfl rfl ?_
        refine mw_n_ge rfl (by omega) (by omega) (fun h1 => ?_) (fun h1 => ?_)
        · first | refine mw_ninc rfl rfl (Nat.le_of_ble_eq_true rfl) ?_ | refine mw_iinc rfl rfl rfl (Nat.le_of_ble_eq_true rfl) ?_
          refine mw_goto rfl ?_
          exact mw_locals rfl (ih D (upTo_miss hC (by unfold cutC; rw [if_neg (by omega)])))
        · refine mw_iload rfl rfl ?_
          refine mw_iload rfl rfl ?_
          refine mw_n_ge rfl (by omega) (by omega) (fun h2 => ?_) (fun h2 => ?_)
          · first | refine mw_ninc rfl rfl (Nat.le_of_ble_eq_true rfl) ?_ | refine mw_iinc rfl rfl rfl (Nat.le_of_ble_eq_true rfl) ?_
            refine mw_goto rfl ?_
            exact mw_locals rfl (ih D (upTo_miss hC (by unfold cutC; rw [if_neg (by omega)])))
          · have hbad : E (bitI (t / v 1 / v 1) ||| bitI (t / v 1 % v 1) ||| bitI (t % v 1)) g = true → cutC E g (v 1) t = none := fun q => by
              unfold cutC
              rw [if_neg (by rw [q]; intro r; exact absurd r.2.2 (by decide))]
            have hgood : E (bitI (t / v 1 / v 1) ||| bitI (t / v 1 % v 1) ||| bitI (t % v 1)) g = false → cutC E g (v 1) t = some (bitI (t / v 1 / v 1) ||| bitI (t / v 1 % v 1) ||| bitI (t % v 1)) := fun q => by
              unfold cutC
              rw [if_pos ⟨by omega, by omega, q⟩]
            refine mw_aload_n (i := 0) rfl rfl rfl ?_
            refine mw_iload_n (i := 1) rfl rfl rfl ?_
            refine mw_iconst (v := nI 1) rfl (by decide) ?_
            refine mw_iload rfl rfl ?_
            refine mw_ishl rfl ?_
            refine mw_iconst (v := nI 1) rfl (by decide) ?_
            refine mw_iload rfl rfl ?_
            refine mw_ishl rfl ?_
            refine mw_ior rfl ?_
            refine mw_iconst (v := nI 1) rfl (by decide) ?_
            refine mw_iload rfl rfl ?_
            refine mw_ishl rfl ?_
            refine mw_ior rfl ?_
            refine mw_callV (c_canDo d n g (bitI (t / v 1 / v 1) ||| bitI (t / v 1 % v 1) ||| bitI (t % v 1)) w v D (E (bitI (t / v 1 / v 1) ||| bitI (t / v 1 % v 1) ||| bitI (t % v 1))) S _ rfl hS.n hv rfl hok (hS.sok hok) (hS.sat w (x.uD D) h rfl rfl rfl) hg (hE _)) rfl ok_X10_canDo v_X10_227 rfl (by first | rfl | exact rfl | exact hv) (by intro e; cases e) rfl (Nat.le_of_ble_eq_true rfl) rfl (Nat.le_of_ble_eq_true rfl) (by omega) (by omega) (by omega) ?_
            intro r3 h3 hq3
            obtain ⟨rfl, D', rfl⟩ := hq3
            rw [← mov_puts]
            refine mw_heap (h2 := mov (rcL w (x.uD D')) h) rfl ?_
            refine mw_b_ne rfl (fun hb => ?_) (fun hb => ?_)
            · first | refine mw_ninc rfl rfl (Nat.le_of_ble_eq_true rfl) ?_ | refine mw_iinc rfl rfl rfl (Nat.le_of_ble_eq_true rfl) ?_
              refine mw_goto rfl ?_
              exact mw_locals rfl (ih D' (upTo_miss hC (hbad hb)))
            · refine mw_iconst (v := nI 1) rfl (by decide) ?_
              refine mw_iload rfl rfl ?_
              refine mw_ishl rfl ?_
              refine mw_iconst (v := nI 1) rfl (by decide) ?_
              refine mw_iload rfl rfl ?_
              refine mw_ishl rfl ?_
              refine mw_ior rfl ?_
              refine mw_iconst (v := nI 1) rfl (by decide) ?_
              refine mw_iload rfl rfl ?_
              refine mw_ishl rfl ?_
              refine mw_ior rfl ?_
              exact mw_ireturn rfl rfl rfl rfl (Nat.le_refl _) ((hp D' _ (cutV_c hA hB (upTo_hit hC (hgood hb) ht))))
  have loop2 : upTo (cutA E g) (v 1) = none → ∀ i, i ≤ v 1 → ∀ D, upTo (fun i => upTo (cutB E g i) (v 1)) i = none → MW M_X10_cutOf (d + 2) 0 0 n post 37 [(0, .ref 178), (1, .int (nI g)), (2, .int (nI (v 1))), (3, .int (nI i))] [] (mov (rcL w (x.uD D)) h) n 0 := by
    intro hA
    refine loop_up (P := fun i => ∀ D, upTo (fun i => upTo (cutB E g i) (v 1)) i = none → MW M_X10_cutOf (d + 2) 0 0 n post 37 [(0, .ref 178), (1, .int (nI g)), (2, .int (nI (v 1))), (3, .int (nI i))] [] (mov (rcL w (x.uD D)) h) n 0) (v 1) ?_ ?_
    · intro D hB
      refine mw_iload_n (i := 3) rfl rfl rfl ?_
      refine mw_iload_n (i := 2) rfl rfl rfl ?_
      refine mw_n_ge rfl (by omega) (by omega) (fun hc => ?_) (fun hc => ?_)
      · refine mw_iconst (v := nI 0) rfl (by decide) ?_
        refine mw_istore_n (i := 3) rfl rfl (Nat.le_of_ble_eq_true rfl) ?_
        exact mw_locals rfl (loop3 hA hB 0 (Nat.zero_le _) D rfl)
      · omega
    · intro i hi ih D hB
      have inner : ∀ j, j ≤ v 1 → ∀ D, i < j → upTo (cutB E g i) j = none → MW M_X10_cutOf (d + 2) 0 0 n post 47 [(0, .ref 178), (1, .int (nI g)), (2, .int (nI (v 1))), (3, .int (nI i)), (4, .int (nI j))] [] (mov (rcL w (x.uD D)) h) n 0 := by
        refine loop_up (P := fun j => ∀ D, i < j → upTo (cutB E g i) j = none → MW M_X10_cutOf (d + 2) 0 0 n post 47 [(0, .ref 178), (1, .int (nI g)), (2, .int (nI (v 1))), (3, .int (nI i)), (4, .int (nI j))] [] (mov (rcL w (x.uD D)) h) n 0) (v 1) ?_ ?_
        · intro D _ hJ
          refine mw_iload rfl rfl ?_
          refine mw_iload_n (i := 2) rfl rfl rfl ?_
          refine mw_n_ge rfl (by omega) (by omega) (fun hc => ?_) (fun hc => ?_)
          · first | refine mw_ninc rfl rfl (Nat.le_of_ble_eq_true rfl) ?_ | refine mw_iinc rfl rfl rfl (Nat.le_of_ble_eq_true rfl) ?_
            refine mw_goto rfl ?_
            exact mw_locals rfl (ih D (upTo_miss hB hJ))
          · omega
        · intro j hj ihj D hij hJ
          have hbad : E (bitI i ||| bitI j) g = true → cutB E g i j = none := fun q => by
            unfold cutB
            rw [if_neg (by rw [q]; intro r; exact absurd r.2 (by decide))]
          have hgood : E (bitI i ||| bitI j) g = false → cutB E g i j = some (bitI i ||| bitI j) := fun q => by
            unfold cutB
            rw [if_pos ⟨hij, q⟩]
          refine mw_iload rfl rfl ?_
          refine mw_iload_n (i := 2) rfl rfl rfl ?_
          refine mw_n_ge rfl (by omega) (by omega) (fun hc => ?_) (fun hc => ?_)
          · omega
          · refine mw_aload_n (i := 0) rfl rfl rfl ?_
            refine mw_iload_n (i := 1) rfl rfl rfl ?_
            refine mw_iconst (v := nI 1) rfl (by decide) ?_
            refine mw_iload_n (i := 3) rfl rfl rfl ?_
            refine mw_ishl rfl ?_
            refine mw_iconst (v := nI 1) rfl (by decide) ?_
            refine mw_iload rfl rfl ?_
            refine mw_ishl rfl ?_
            refine mw_ior rfl ?_
            refine mw_callV (c_canDo d n g (bitI i ||| bitI j) w v D (E (bitI i ||| bitI j)) S _ rfl hS.n hv rfl hok (hS.sok hok) (hS.sat w (x.uD D) h rfl rfl rfl) hg (hE _)) rfl ok_X10_canDo v_X10_227 rfl (by first | rfl | exact rfl | exact hv) (by intro e; cases e) rfl (Nat.le_of_ble_eq_true rfl) rfl (Nat.le_of_ble_eq_true rfl) (by omega) (by omega) (by omega) ?_
            intro r3 h3 hq3
            obtain ⟨rfl, D', rfl⟩ := hq3
            rw [← mov_puts]
            refine mw_heap (h2 := mov (rcL w (x.uD D')) h) rfl ?_
            refine mw_b_ne rfl (fun hb => ?_) (fun hb => ?_)
            · first | refine mw_ninc rfl rfl (Nat.le_of_ble_eq_true rfl) ?_ | refine mw_iinc rfl rfl rfl (Nat.le_of_ble_eq_true rfl) ?_
              refine mw_goto rfl ?_
              exact mw_locals rfl (ihj D' (by omega) (upTo_miss hJ (hbad hb)))
            · refine mw_iconst (v := nI 1) rfl (by decide) ?_
              refine mw_iload_n (i := 3) rfl rfl rfl ?_
              refine mw_ishl rfl ?_
              refine mw_iconst (v := nI 1) rfl (by decide) ?_
              refine mw_iload rfl rfl ?_
              refine mw_ishl rfl ?_
              refine mw_ior rfl ?_
              exact mw_ireturn rfl rfl rfl rfl (Nat.le_refl _) ((hp D' _ (cutV_b hA (upTo_hit hB (upTo_hit hJ (hgood hb) hj) hi))))
      refine mw_iload_n (i := 3) rfl rfl rfl ?_
      refine mw_iload_n (i := 2) rfl rfl rfl ?_
      refine mw_n_ge rfl (by omega) (by omega) (fun hc => ?_) (fun hc => ?_)
      · omega
      · refine mw_iload_n (i := 3) rfl rfl rfl ?_
        refine mw_iconst (v := nI 1) rfl (by decide) ?_
        first | refine mw_nadd rfl ?_ | refine mw_iadd rfl ?_
        refine mw_istore rfl (Nat.le_of_ble_eq_true rfl) ?_
        refine mw_locals rfl (inner (i + 1) (by omega) D (by omega) (upTo_none fun k hk => ?_))
        unfold cutB
        rw [if_neg (by omega)]
  have loop1 : ∀ i, i ≤ v 1 → ∀ D, upTo (cutA E g) i = none → MW M_X10_cutOf (d + 2) 0 0 n post 9 [(0, .ref 178), (1, .int (nI g)), (2, .int (nI (v 1))), (3, .int (nI i))] [] (mov (rcL w (x.uD D)) h) n 0 := by
    refine loop_up (P := fun i => ∀ D, upTo (cutA E g) i = none → MW M_X10_cutOf (d + 2) 0 0 n post 9 [(0, .ref 178), (1, .int (nI g)), (2, .int (nI (v 1))), (3, .int (nI i))] [] (mov (rcL w (x.uD D)) h) n 0) (v 1) ?_ ?_
    · intro D hA
      refine mw_iload_n (i := 3) rfl rfl rfl ?_
      refine mw_iload_n (i := 2) rfl rfl rfl ?_
      refine mw_n_ge rfl (by omega) (by omega) (fun hc => ?_) (fun hc => ?_)
      · refine mw_iconst (v := nI 0) rfl (by decide) ?_
        refine mw_istore_n (i := 3) rfl rfl (Nat.le_of_ble_eq_true rfl) ?_
        exact mw_locals rfl (loop2 hA 0 (Nat.zero_le _) D rfl)
      · omega
    · intro i hi ih D hA
      refine mw_iload_n (i := 3) rfl rfl rfl ?_
      refine mw_iload_n (i := 2) rfl rfl rfl ?_
      refine mw_n_ge rfl (by omega) (by omega) (fun hc => ?_) (fun hc => ?_)
      · omega
      · refine mw_aload_n (i := 0) rfl rfl rfl ?_
        refine mw_iload_n (i := 1) rfl rfl rfl ?_
        refine mw_iconst (v := nI 1) rfl (by decide) ?_
        refine mw_iload_n (i := 3) rfl rfl rfl ?_
        refine mw_ishl rfl ?_
        refine mw_callV (c_canDo d n g (bitI i) w v D (E (bitI i)) S _ rfl hS.n hv rfl hok (hS.sok hok) (hS.sat w (x.uD D) h rfl rfl rfl) hg (hE _)) rfl ok_X10_canDo v_X10_227 rfl (by first | rfl | exact rfl | exact hv) (by intro e; cases e) rfl (Nat.le_of_ble_eq_true rfl) rfl (Nat.le_of_ble_eq_true rfl) (by omega) (by omega) (by omega) ?_
        intro r3 h3 hq3
        obtain ⟨rfl, D', rfl⟩ := hq3
        rw [← mov_puts]
        refine mw_heap (h2 := mov (rcL w (x.uD D')) h) rfl ?_
        refine mw_b_ne rfl (fun hb => ?_) (fun hb => ?_)
        · first | refine mw_ninc rfl rfl (Nat.le_of_ble_eq_true rfl) ?_ | refine mw_iinc rfl rfl rfl (Nat.le_of_ble_eq_true rfl) ?_
          refine mw_goto rfl ?_
          exact mw_locals rfl (ih D' (upTo_miss hA (by unfold cutA; rw [if_pos hb])))
        · refine mw_iconst (v := nI 1) rfl (by decide) ?_
          refine mw_iload_n (i := 3) rfl rfl rfl ?_
          refine mw_ishl rfl ?_
          exact mw_ireturn rfl rfl rfl rfl (Nat.le_refl _) ((hp D' _ (cutV_a (upTo_hit hA (by unfold cutA; rw [if_neg (by rw [hb]; decide)]) hi))))
  refine mw_heap (h2 := mov (rcL w (x.uD x.D)) h) rfl ?_
  refine mw_aload_n (i := 0) rfl rfl rfl ?_
  refine mw_getfield rfl f_X10_7 (by first | rfl | exact rfl | exact hv) rfl ?_
  refine mw_iconst (v := nI 1) rfl (by decide) ?_
  refine mw_iald rfl (by first | rfl | exact rfl | exact hv) (by omega) (by omega) ?_
  refine mw_istore_n (i := 2) rfl rfl (Nat.le_of_ble_eq_true rfl) ?_
  refine mw_iconst (v := nI 0) rfl (by decide) ?_
  refine mw_istore_n (i := 3) rfl rfl (Nat.le_of_ble_eq_true rfl) ?_
  exact mw_locals rfl (loop1 0 (Nat.zero_le _) x.D rfl)
theorem c_cut (d n : Nat) (p a b : Int32) (w : Nat → Int32) (v : Nat → Nat) (x : RD) (h : Nat → MC) (hx : RAt h w x) (hv : h 179 = .inl (.int, 189, .inl (vI v))) (hok : OkN v) (hF : FndI v w x) : Sp M_X10_cut (d + 7) 0 0 [.ref 178, .int p, .int a, .int b] h n (QR v w h (ndQ v p a b (fun E f => cutV E f (v 1)))) := by
  show MW _ _ _ _ _ _ _ _ _ _ _ _
  generalize hpost : (QR v w h (ndQ v p a b (fun E f => cutV E f (v 1)))) = post
  refine mw_over (rcL w x) hx ?_
  refine mw_aload_n (i := 0) rfl rfl rfl ?_
  refine mw_iload_n (i := 1) rfl rfl rfl ?_
  refine mw_iload_n (i := 2) rfl rfl rfl ?_
  refine mw_iload_n (i := 3) rfl rfl rfl ?_
  refine mw_callV (c_wrong d n p a b w v x _ (RAt.of w x h) hv hok hF) rfl ok_X10_wrong v_X10_192 rfl rfl (by intro e; cases e) rfl (Nat.le_of_ble_eq_true rfl) rfl (Nat.le_of_ble_eq_true rfl) (by omega) (by omega) (by omega) ?_
  intro r2 h2 hq2
  obtain ⟨w', x', rfl, hT, hI, rfl, hFd⟩ := hq2
  rw [rc_over]
  refine mw_istore rfl (Nat.le_of_ble_eq_true rfl) ?_
  refine mw_iload rfl rfl ?_
  refine mw_if_ge rfl (fun hge => ?_) (fun hge => ?_)
  · obtain ⟨-, hf, ho, -⟩ := wrV_ok hge
    have hFd2 := hFd hf
    have hnl := Int32.not_lt.mpr hge
    obtain ⟨i, j, k, hi, hj, hk, rfl, rfl, rfl, e, h216⟩ := isF_nat hok hf
    obtain ⟨S, hS⟩ := hFd2.2.2.2 ho
    obtain ⟨E, hE⟩ := derE_ex (hS.sok hok)
    refine mw_aload_n (i := 0) rfl rfl rfl ?_
    refine mw_iload_n (i := 1) rfl rfl rfl ?_
    refine mw_iload_n (i := 2) rfl rfl rfl ?_
    refine mw_iload_n (i := 3) rfl rfl rfl ?_
    refine mw_callS_f (c_factOf (d + 6) n i j k _) rfl ok_X10_factOf v_X10_98 rfl (Nat.le_of_ble_eq_true rfl) rfl (Nat.le_of_ble_eq_true rfl) (by omega) (by omega) (by omega) ?_
    refine mw_callV (c_cutOf (d + 4) n (36 * i + 6 * j + k) w' v x' E S h hv hok hS h216 hE) rfl ok_X10_cutOf v_X10_230 rfl rfl (by intro e; cases e) rfl (Nat.le_of_ble_eq_true rfl) rfl (Nat.le_of_ble_eq_true rfl) (by omega) (by omega) (by omega) ?_
    intro r3 h3 hq3
    obtain ⟨D', rfl, rfl⟩ := hq3
    exact mw_ireturn rfl rfl rfl rfl (Nat.le_refl _) ((QR.mk hpost w' (x'.uD D') hT ⟨hI.1, Or.inr hFd2⟩ ⟨fun _ => hFd2, fun q => absurd q hnl, fun _ => ⟨S, E, hS, hE, by rw [e]⟩⟩))
  · refine mw_iload rfl rfl ?_
    refine mw_goto rfl ?_
    exact mw_ireturn rfl rfl rfl rfl (Nat.le_refl _) ((QR.mk hpost w' x' hT hI ⟨hFd, fun _ => rfl, fun q => absurd q hge⟩))
