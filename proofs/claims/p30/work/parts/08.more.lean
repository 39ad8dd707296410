section MWOPS4
variable {M : MI} {d mc ms n0 : Nat} {post : Option Value → (Nat → MC) → Prop} {pc : Nat} {L : List (Nat × Value)} {S : List Value} {h : Nat → MC} {n sl : Nat}
theorem mw_callSN {nx tg ix na d' mc' ms' : Nat} {host : String} {M' : MI} {as St : List Value} {post' : Option Value → (Nat → MC) → Prop} (hsp : Sp M' d' mc' ms' as h n post') (hf : fch M pc = some (.invokestatic ix, 3, nx, tg)) (hok : mi_ok M') (hv : mqOk M.1.cls host ix M'.1 na) (hst : St = as.reverse ++ S) (hlen : (lg_sl as).length ≤ M'.2.2.1) (hna : as.length = na) (hcat : (S.map fun v => v.category).sum ≤ 8) (hd : d' < d) (hmc : n - n0 + mc' ≤ mc) (hms : sl + ms' ≤ ms)
    (k : ∀ r h1, post' r h1 → MW M d mc ms n0 post nx L (r.toList ++ S) h1 (n + mc') (sl + ms')) : MW M d mc ms n0 post pc L St h n sl := by
  intro G p lch e s m args below meth c X H locs ls hn hW hS hl
  obtain ⟨hdg, rfl, htg⟩ := fch_ok X.1 hf
  subst hst
  have hts := X.2.2.2.2.2.2.2.2.1
  intro T hT X0
  have hz := mw_sz X hn hW hT X0
  have hm := hok.2.2.1
  have hnw : va_Nw (.methodLinkNest M.1.cls ix M'.1 host) s := X.2.2.2.2.2.2.2.2.2.1.2.1 _ hv.1
  have hcw := va_cnB (R := mroom d mc ms) (s := s) (args := args) (own := M.1.cls) (host := host) (index := ix) (y := M'.1) (bytes := M'.2.1) (maxL := M'.2.2.1) (ret := M'.2.2.2.1) (ws := wsM M') (ws' := lw_gd) (rm := mroom d' mc' ms') (mc := mc') (ms := ms') na hts (mg_ws hok) rfl rfl rfl hnw (hts _ (hv.2.1 _ (by simp))) hv.2.2 ⟨hd, by show 8 + (M'.2.2.1 + 11) + 42 * d' ≤ 42 * d; omega⟩
  exact mw_goon X hn hS hl (va_runSN (As := as.map (cvV G.2.1)) ⟨X.2.1, X.2.2.1, X.2.2.2.2.2.1, X.2.2.2.2.2.2.1, hts⟩ (hsp.met hok hlen lch G) ⟨hcw, hts _ (hv.2.1 _ (by simp)), trivial⟩ ⟨pc_blind G _ _ _, fun U hU hWU => ⟨rfl, mK.moved hWU X.2.2.2.2.2.2.2.2.2.1, by rw [hU]; exact hW, by rw [hU]; exact hz⟩⟩ rfl (by rw [List.length_map]; exact hna) hl.1 (by show List.map (cvV G.2.1) (as.reverse ++ S) = _; simp) (lv_room (by rw [cat_sum_cv]; exact hcat)) hdg ⟨hmc, hms⟩) k T hT X0
-- comparisons of numbers
theorem mw_n_ge {nx tg a b : Nat} {off : Int} (hf : fch M pc = some (.if_icmp .ge off, 3, nx, tg)) (ha : a < 2147483648) (hb : b < 2147483648) (kt : b ≤ a → MW M d mc ms n0 post tg L S h n sl) (kf : a < b → MW M d mc ms n0 post nx L S h n sl) : MW M d mc ms n0 post pc L (.int (nI b) :: .int (nI a) :: S) h n sl :=
  mw_icmp_ge hf (fun h => kt ((nI_leI hb ha).mp h)) (fun h => kf (Nat.lt_of_not_le fun q => h ((nI_leI hb ha).mpr q)))
theorem mw_n_lt {nx tg a b : Nat} {off : Int} (hf : fch M pc = some (.if_icmp .lt off, 3, nx, tg)) (ha : a < 2147483648) (hb : b < 2147483648) (kt : a < b → MW M d mc ms n0 post tg L S h n sl) (kf : b ≤ a → MW M d mc ms n0 post nx L S h n sl) : MW M d mc ms n0 post pc L (.int (nI b) :: .int (nI a) :: S) h n sl :=
  mw_icmp_lt hf (fun h => kt ((nI_ltI ha hb).mp h)) (fun h => kf (Nat.le_of_not_lt fun q => h ((nI_ltI ha hb).mpr q)))
theorem mw_n_gt {nx tg a b : Nat} {off : Int} (hf : fch M pc = some (.if_icmp .gt off, 3, nx, tg)) (ha : a < 2147483648) (hb : b < 2147483648) (kt : b < a → MW M d mc ms n0 post tg L S h n sl) (kf : a ≤ b → MW M d mc ms n0 post nx L S h n sl) : MW M d mc ms n0 post pc L (.int (nI b) :: .int (nI a) :: S) h n sl :=
  mw_icmp_gt hf (fun h => kt ((nI_ltI hb ha).mp h)) (fun h => kf (Nat.le_of_not_lt fun q => h ((nI_ltI hb ha).mpr q)))
theorem mw_n_le {nx tg a b : Nat} {off : Int} (hf : fch M pc = some (.if_icmp .le off, 3, nx, tg)) (ha : a < 2147483648) (hb : b < 2147483648) (kt : a ≤ b → MW M d mc ms n0 post tg L S h n sl) (kf : b < a → MW M d mc ms n0 post nx L S h n sl) : MW M d mc ms n0 post pc L (.int (nI b) :: .int (nI a) :: S) h n sl :=
  mw_icmp_le hf (fun h => kt ((nI_leI ha hb).mp h)) (fun h => kf (Nat.lt_of_not_le fun q => h ((nI_leI ha hb).mpr q)))
theorem mw_n_eq {nx tg a b : Nat} {off : Int} (hf : fch M pc = some (.if_icmp .eq off, 3, nx, tg)) (ha : a < 2147483648) (hb : b < 2147483648) (kt : a = b → MW M d mc ms n0 post tg L S h n sl) (kf : a ≠ b → MW M d mc ms n0 post nx L S h n sl) : MW M d mc ms n0 post pc L (.int (nI b) :: .int (nI a) :: S) h n sl :=
  mw_icmp_eq hf (fun h => kt ((nI_eq ha hb).mp h)) (fun h => kf (fun q => h ((nI_eq ha hb).mpr q)))
theorem mw_n_ne {nx tg a b : Nat} {off : Int} (hf : fch M pc = some (.if_icmp .ne off, 3, nx, tg)) (ha : a < 2147483648) (hb : b < 2147483648) (kt : a ≠ b → MW M d mc ms n0 post tg L S h n sl) (kf : a = b → MW M d mc ms n0 post nx L S h n sl) : MW M d mc ms n0 post pc L (.int (nI b) :: .int (nI a) :: S) h n sl :=
  mw_icmp_ne hf (fun h => kt (fun q => h ((nI_eq ha hb).mpr q))) (fun h => kf ((nI_eq ha hb).mp h))
/-- a truth as an int -/
def bI (b : Bool) : Int32 := if b then 1 else 0
theorem bI_nar (b : Bool) : narrow .boolean (.int (bI b)) = .int (bI b) := by cases b <;> rfl
theorem bI_fit (b : Bool) : fits .boolean (.int (bI b)) = true := by cases b <;> rfl
theorem bI_z (b : Bool) : vp_nar .boolean (bI b) = bI b := by cases b <;> rfl
theorem bI_0 (b : Bool) : bI b = 0 ↔ b = false := by cases b <;> decide
theorem mw_b_eq {nx tg : Nat} {b : Bool} {off : Int} (hf : fch M pc = some (.ifCond .eq off, 3, nx, tg)) (kt : b = false → MW M d mc ms n0 post tg L S h n sl) (kf : b = true → MW M d mc ms n0 post nx L S h n sl) : MW M d mc ms n0 post pc L (.int (bI b) :: S) h n sl :=
  mw_if_eq hf (fun h => kt ((bI_0 b).mp h)) (fun h => kf (by cases b; exact absurd rfl h; rfl))
theorem mw_b_ne {nx tg : Nat} {b : Bool} {off : Int} (hf : fch M pc = some (.ifCond .ne off, 3, nx, tg)) (kt : b = true → MW M d mc ms n0 post tg L S h n sl) (kf : b = false → MW M d mc ms n0 post nx L S h n sl) : MW M d mc ms n0 post pc L (.int (bI b) :: S) h n sl :=
  mw_if_ne hf (fun h => kt (by cases b; exact absurd rfl h; rfl)) (fun h => kf ((bI_0 b).mp h))
-- numbers
theorem mw_nadd {nx tg a b : Nat} (hf : fch M pc = some (.iadd, 1, nx, tg)) (k : MW M d mc ms n0 post nx L (.int (nI (a + b)) :: S) h n sl) : MW M d mc ms n0 post pc L (.int (nI b) :: .int (nI a) :: S) h n sl := mw_iadd hf (by rw [nI_add]; exact k)
theorem mw_nmul {nx tg a b : Nat} (hf : fch M pc = some (.imul, 1, nx, tg)) (k : MW M d mc ms n0 post nx L (.int (nI (a * b)) :: S) h n sl) : MW M d mc ms n0 post pc L (.int (nI b) :: .int (nI a) :: S) h n sl := mw_imul hf (by rw [pk_mul]; exact k)
theorem mw_nsub {nx tg a b : Nat} (hf : fch M pc = some (.isub, 1, nx, tg)) (hab : b ≤ a) (k : MW M d mc ms n0 post nx L (.int (nI (a - b)) :: S) h n sl) : MW M d mc ms n0 post pc L (.int (nI b) :: .int (nI a) :: S) h n sl := mw_isub hf (by rw [pk_sub hab]; exact k)
theorem mw_ndiv {nx tg a b : Nat} (hf : fch M pc = some (.idiv, 1, nx, tg)) (ha : a < 2147483648) (h0b : 0 < b) (hb : b < 2147483648) (k : MW M d mc ms n0 post nx L (.int (nI (a / b)) :: S) h n sl) : MW M d mc ms n0 post pc L (.int (nI b) :: .int (nI a) :: S) h n sl := mw_idiv hf (nI_ne0 h0b hb) (by rw [pk_div ha h0b hb]; exact k)
theorem mw_nrem {nx tg a b : Nat} (hf : fch M pc = some (.irem, 1, nx, tg)) (ha : a < 2147483648) (h0b : 0 < b) (hb : b < 2147483648) (k : MW M d mc ms n0 post nx L (.int (nI (a % b)) :: S) h n sl) : MW M d mc ms n0 post pc L (.int (nI b) :: .int (nI a) :: S) h n sl := mw_irem hf (nI_ne0 h0b hb) (by rw [pk_rem ha h0b hb]; exact k)
theorem mw_ninc {nx tg i a : Nat} (hf : fch M pc = some (.iinc i 1, 3, nx, tg)) (hv : mlkv L i = some (.int (nI a))) (hL : i < M.2.2.1) (k : MW M d mc ms n0 post nx (mst L i (.int (nI (a + 1)))) S h n sl) : MW M d mc ms n0 post pc L S h n sl := mw_iinc hf hv (nI_1 a) hL k
/-- a loop that counts up -/
theorem loop_up {P : Nat → Prop} (N : Nat) (hend : P N) (hstep : ∀ j, j < N → P (j + 1) → P j) : ∀ j, j ≤ N → P j := by
  intro j hj
  obtain ⟨k, rfl⟩ : ∃ k, N = j + k := ⟨N - j, by omega⟩
  induction k generalizing j with
  | zero => exact hend
  | succ k ih =>
    refine hstep j (by omega) (ih (j + 1) ?_ ?_ (by omega))
    · rw [show j + 1 + k = j + (k + 1) by omega]; exact hend
    · intro i hi; exact hstep i (by omega)
end MWOPS4
