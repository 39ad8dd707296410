section MWM
variable {M : MI} {d mc ms n0 : Nat} {post : Option Value → (Nat → MC) → Prop} {pc : Nat} {L : List (Nat × Value)} {S : List Value} {h0 : Nat → MC} {l : MLs} {n sl : Nat}
theorem hset_mov (l : MLs) (h : Nat → MC) (k : Nat) (c : MC) : hset (mov l h) k c = mov (mput l k c) h := (mov_put l h k c).symm
theorem mw_iast_m {nx tg a N j : Nat} {f : Nat → Int32} {x : Int32} (hf : fch M pc = some (.iastore, 1, nx, tg)) (hc : mov l h0 a = (.inl (.int, N, .inl f))) (hj : j < N) (hN : j < 2147483648) (k : MW M d mc ms n0 post nx L S (mov (mput l a (.inl (.int, N, .inl (upd f j x)))) h0) n sl) : MW M d mc ms n0 post pc L (.int x :: .int (nI j) :: .ref a :: S) (mov l h0) n sl := mw_iast hf hc hj hN (by rw [hset_mov]; exact k)
theorem mw_zast_m {nx tg a N j : Nat} {f : Nat → Int32} {x : Int32} (hf : fch M pc = some (.bastore, 1, nx, tg)) (hc : mov l h0 a = (.inl (.boolean, N, .inl f))) (hj : j < N) (hN : j < 2147483648) (hz : vp_nar .boolean x = x) (k : MW M d mc ms n0 post nx L S (mov (mput l a (.inl (.boolean, N, .inl (upd f j x)))) h0) n sl) : MW M d mc ms n0 post pc L (.int x :: .int (nI j) :: .ref a :: S) (mov l h0) n sl := mw_zast hf hc hj hN hz (by rw [hset_mov]; exact k)
theorem mw_last_m {nx tg a N j : Nat} {f : Nat → Int64} {x : Int64} (hf : fch M pc = some (.lastore, 1, nx, tg)) (hc : mov l h0 a = (.inl (.long, N, .inr (.inl f)))) (hj : j < N) (hN : j < 2147483648) (k : MW M d mc ms n0 post nx L S (mov (mput l a (.inl (.long, N, .inr (.inl (vp_updL f j x))))) h0) n sl) : MW M d mc ms n0 post pc L (.long x :: .int (nI j) :: .ref a :: S) (mov l h0) n sl := mw_last hf hc hj hN (by rw [hset_mov]; exact k)
theorem mw_fast_m {nx tg a N j : Nat} {f : Nat → UInt32} {x : UInt32} (hf : fch M pc = some (.fastore, 1, nx, tg)) (hc : mov l h0 a = (.inl (.float, N, .inr (.inr (.inl f))))) (hj : j < N) (hN : j < 2147483648) (k : MW M d mc ms n0 post nx L S (mov (mput l a (.inl (.float, N, .inr (.inr (.inl (vf_upd f j x)))))) h0) n sl) : MW M d mc ms n0 post pc L (.float x :: .int (nI j) :: .ref a :: S) (mov l h0) n sl := mw_fast hf hc hj hN (by rw [hset_mov]; exact k)
theorem mw_putfield_m {nx tg ix ci kf a : Nat} {ty : FieldType} {fs : List Value} {v : Value} (hf : fch M pc = some (.putfield ix, 3, nx, tg)) (hfo : fldOk M.1.cls ix ci kf ty false) (hc : mov l h0 a = (.inr (ci, fs))) (hk : kf < fs.length) (hn1 : ∀ b, narrow ty (cvV b v) = cvV b v) (hfit : ∀ b, fits ty (cvV b v) = true) (k : MW M d mc ms n0 post nx L S (mov (mput l a (.inr (ci, fs.set kf v))) h0) n sl) : MW M d mc ms n0 post pc L (v :: .ref a :: S) (mov l h0) n sl := mw_putfield hf hfo hc hk hn1 hfit (by rw [hset_mov]; exact k)
theorem mw_acopy_m {nx tg ix a b N : Nat} {f g : Nat → Int32} (hf : fch M pc = some (.invokestatic ix, 3, nx, tg)) (hw : ∀ w ∈ ([.methodLink M.1.cls ix arraycopyName, .native arraycopyName, .static arraycopyName, .initialized "java/lang/System"] : List Cond), w ∈ lw_gd) (ha : mov l h0 a = (.inl (.int, N, .inl f))) (hb2 : mov l h0 b = (.inl (.int, N, .inl g))) (hN : N < 2147483648) (hd : 2 ≤ d) (hcat : (S.map fun v => v.category).sum ≤ 8) (k : MW M d mc ms n0 post nx L S (mov (mput l b (.inl (.int, N, .inl (va_cpy f g 0 0 N)))) h0) n sl) : MW M d mc ms n0 post pc L (.int (nI N) :: .int (nI 0) :: .ref b :: .int (nI 0) :: .ref a :: S) (mov l h0) n sl := mw_acopy hf hw ha hb2 hN hd hcat (by rw [hset_mov]; exact k)
theorem mov_self {l : MLs} {h : Nat → MC} (hs : ∀ q ∈ l, h q.1 = q.2) : mov l h = h := by
  funext j
  cases e : mlk l j with
  | none => simp [mov, e]
  | some c => simp only [mov, e]; exact (hs _ (mlk_mem e)).symm
/-- the heap with some of its cells written out -/
theorem mw_over (l : MLs) (hs : mov l h0 = h0) (k : MW M d mc ms n0 post pc L S (mov l h0) n sl) : MW M d mc ms n0 post pc L S h0 n sl := mw_heap hs k
end MWM
theorem hset_1 (h : Nat → MC) (k : Nat) (c : MC) : hset h k c = mov [(k, c)] h := by
  funext j
  by_cases e : j = k
  · subst e; simp [hset, mov, mlk]
  · simp [hset, mov, mlk, e, nbf (fun q => e q.symm)]
theorem hset_hset (h : Nat → MC) (k : Nat) (c c2 : MC) : hset (hset h k c) k c2 = hset h k c2 := by
  funext j
  by_cases e : j = k <;> simp [hset, e]
theorem hset_same (h : Nat → MC) (k : Nat) (c : MC) : hset h k c k = c := by simp [hset]
theorem hset_ne (h : Nat → MC) {k j : Nat} (c : MC) (e : j ≠ k) : hset h k c j = h j := by simp [hset, e]
theorem hset_id {h : Nat → MC} {k : Nat} {c : MC} (e : h k = c) : hset h k c = h := by
  funext j
  by_cases q : j = k
  · subst q; simp [hset, e]
  · simp [hset, q]
abbrev Fn (M : MI) (d mc ms : Nat) (av : List Value) (h : Nat → MC) (n : Nat) (r0 : Option Value) (h1 : Nat → MC) : Prop := Sp M d mc ms av h n (fun r h2 => r = r0 ∧ h2 = h1)
theorem Fn.of {M : MI} {d mc ms : Nat} {av : List Value} {h : Nat → MC} {n : Nat} {r0 : Option Value} {h1 : Nat → MC} (k : ∀ post : Option Value → (Nat → MC) → Prop, post r0 h1 → MW M d mc ms n post 0 (lv_args 0 av) [] h n 0) : Fn M d mc ms av h n r0 h1 := k _ ⟨rfl, rfl⟩
section MWF
variable {M : MI} {d mc ms n0 : Nat} {post : Option Value → (Nat → MC) → Prop} {pc : Nat} {L : List (Nat × Value)} {S : List Value} {h : Nat → MC} {n sl : Nat}
theorem mw_callV_f {nx tg ix na d' mc' ms' a ci : Nat} {M' : MI} {as St : List Value} {fs : List Value} {r0 : Option Value} {h1 : Nat → MC} (hsp : Fn M' d' mc' ms' (.ref a :: as) h n r0 h1) (hf : fch M pc = some (.invokevirtual ix, 3, nx, tg)) (hok : mi_ok M') (hv : mvOk M.1.cls ix M'.1 na) (hst : St = as.reverse ++ .ref a :: S) (hc : h a = (.inr (ci, fs))) (hfd : fs ≠ []) (hq : vwCl[ci]?.map (fun q => q.1) = some M'.1.cls) (hlen : (lg_sl (.ref a :: as)).length ≤ M'.2.2.1) (hna : as.length = na) (hcat : (S.map fun v => v.category).sum ≤ 8) (hd : d' < d) (hmc : n - n0 + mc' ≤ mc) (hms : sl + ms' ≤ ms)
    (k : MW M d mc ms n0 post nx L (r0.toList ++ S) h1 (n + mc') (sl + ms')) : MW M d mc ms n0 post pc L St h n sl := mw_callV hsp hf hok hv hst hc hfd hq hlen hna hcat hd hmc hms (fun r h2 hq => by rw [hq.1, hq.2]; exact k)
theorem mw_callS_f {nx tg ix na d' mc' ms' : Nat} {M' : MI} {as St : List Value} {r0 : Option Value} {h1 : Nat → MC} (hsp : Fn M' d' mc' ms' as h n r0 h1) (hf : fch M pc = some (.invokestatic ix, 3, nx, tg)) (hok : mi_ok M') (hv : msOk M.1.cls ix M'.1 na) (hst : St = as.reverse ++ S) (hlen : (lg_sl as).length ≤ M'.2.2.1) (hna : as.length = na) (hcat : (S.map fun v => v.category).sum ≤ 8) (hd : d' < d) (hmc : n - n0 + mc' ≤ mc) (hms : sl + ms' ≤ ms)
    (k : MW M d mc ms n0 post nx L (r0.toList ++ S) h1 (n + mc') (sl + ms')) : MW M d mc ms n0 post pc L St h n sl := mw_callS hsp hf hok hv hst hlen hna hcat hd hmc hms (fun r h2 hq => by rw [hq.1, hq.2]; exact k)
theorem mw_callI_f {nx tg ix na d' mc' ms' a : Nat} {M' : MI} {as St : List Value} {r0 : Option Value} {h1 : Nat → MC} (hsp : Fn M' d' mc' ms' (.ref a :: as) h n r0 h1) (hf : fch M pc = some (.invokespecial ix, 3, nx, tg)) (hok : mi_ok M') (hret : M'.2.2.2.1 = none) (hv : miOk M.1.cls ix M'.1 na) (hst : St = as.reverse ++ .ref a :: S) (hlen : (lg_sl (.ref a :: as)).length ≤ M'.2.2.1) (hna : as.length = na) (hcat : (S.map fun v => v.category).sum ≤ 8) (hd : d' < d) (hmc : n - n0 + mc' ≤ mc) (hms : sl + ms' ≤ ms)
    (k : MW M d mc ms n0 post nx L (r0.toList ++ S) h1 (n + mc') (sl + ms')) : MW M d mc ms n0 post pc L St h n sl := mw_callI hsp hf hok hret hv hst hlen hna hcat hd hmc hms (fun r h2 hq => by rw [hq.1, hq.2]; exact k)
theorem mw_callN_f {nx tg ix na d' mc' ms' a : Nat} {host : String} {M' : MI} {as St : List Value} {r0 : Option Value} {h1 : Nat → MC} (hsp : Fn M' d' mc' ms' (.ref a :: as) h n r0 h1) (hf : fch M pc = some (.invokespecial ix, 3, nx, tg)) (hok : mi_ok M') (hret : M'.2.2.2.1 = none) (hv : mnOk M.1.cls host ix M'.1 na) (hst : St = as.reverse ++ .ref a :: S) (hlen : (lg_sl (.ref a :: as)).length ≤ M'.2.2.1) (hna : as.length = na) (hcat : (S.map fun v => v.category).sum ≤ 8) (hd : d' < d) (hmc : n - n0 + mc' ≤ mc) (hms : sl + ms' ≤ ms)
    (k : MW M d mc ms n0 post nx L (r0.toList ++ S) h1 (n + mc') (sl + ms')) : MW M d mc ms n0 post pc L St h n sl := mw_callN hsp hf hok hret hv hst hlen hna hcat hd hmc hms (fun r h2 hq => by rw [hq.1, hq.2]; exact k)
theorem mw_callSN_f {nx tg ix na d' mc' ms' : Nat} {host : String} {M' : MI} {as St : List Value} {r0 : Option Value} {h1 : Nat → MC} (hsp : Fn M' d' mc' ms' as h n r0 h1) (hf : fch M pc = some (.invokestatic ix, 3, nx, tg)) (hok : mi_ok M') (hv : mqOk M.1.cls host ix M'.1 na) (hst : St = as.reverse ++ S) (hlen : (lg_sl as).length ≤ M'.2.2.1) (hna : as.length = na) (hcat : (S.map fun v => v.category).sum ≤ 8) (hd : d' < d) (hmc : n - n0 + mc' ≤ mc) (hms : sl + ms' ≤ ms)
    (k : MW M d mc ms n0 post nx L (r0.toList ++ S) h1 (n + mc') (sl + ms')) : MW M d mc ms n0 post pc L St h n sl := mw_callSN hsp hf hok hv hst hlen hna hcat hd hmc hms (fun r h2 hq => by rw [hq.1, hq.2]; exact k)
end MWF
/-- a row with its first i places set to v -/
def flr {α : Type} (f : Nat → α) (v : α) (i : Nat) : Nat → α := fun j => if j < i then v else f j
theorem flr_0 {α : Type} (f : Nat → α) (v : α) : flr f v 0 = f := by funext j; simp [flr]
theorem flr_upd (f : Nat → Int32) (v : Int32) (i : Nat) : upd (flr f v i) i v = flr f v (i + 1) := by
  funext j
  by_cases h : j = i
  · simp [upd, flr, h]
  · have : j < i + 1 ↔ j < i := by omega
    simp [upd, flr, h, this]
theorem flr_updL (f : Nat → Int64) (v : Int64) (i : Nat) : vp_updL (flr f v i) i v = flr f v (i + 1) := by
  funext j
  by_cases h : j = i
  · simp [vp_updL, flr, h]
  · have : j < i + 1 ↔ j < i := by omega
    simp [vp_updL, flr, h, this]
/-- whole numbers as a row -/
def vI (v : Nat → Nat) : Nat → Int32 := fun j => nI (v j)
def updN {α : Type} (v : Nat → α) (k : Nat) (x : α) : Nat → α := fun j => if j = k then x else v j
theorem vI_upd (v : Nat → Nat) (k x : Nat) : upd (vI v) k (nI x) = vI (updN v k x) := by
  funext j
  by_cases h : j = k <;> simp [upd, vI, updN, h]
theorem vI_updv (v u : Nat → Nat) (k i : Nat) : upd (vI v) k (vI u i) = vI (updN v k (u i)) := vI_upd v k (u i)
theorem updN_same {α : Type} (v : Nat → α) (k : Nat) (x : α) : updN v k x k = x := by simp [updN]
theorem updN_ne {α : Type} (v : Nat → α) {k j : Nat} (x : α) (e : j ≠ k) : updN v k x j = v j := by simp [updN, e]
/-- x is one of 0 .. n - 1 -/
def inI (x : Int32) (n : Nat) : Bool := decide (0 ≤ x ∧ x < nI n)
theorem inI_of {x : Int32} {n : Nat} (h : inI x n = true) (hn : n < 2147483648) : ∃ j, j < n ∧ x = nI j := by
  have h1 := of_decide_eq_true h
  obtain ⟨j, hj, rfl⟩ := nI_of (Int32.not_lt.mpr h1.1)
  exact ⟨j, (nI_ltI hj hn).mp h1.2, rfl⟩
theorem inI_nI {j n : Nat} (h : j < n) (hn : n < 2147483648) : inI (nI j) n = true := decide_eq_true ⟨nI_pos' (by omega), (nI_ltI (by omega) hn).mpr h⟩
theorem inI_in {x : Int32} {n : Nat} (hn : n + 1 < 2147483648) : decide (0 ≤ x ∧ x ≤ nI n) = inI x (n + 1) := by
  unfold inI
  congr 1
  apply propext
  constructor
  · rintro ⟨h1, h2⟩
    obtain ⟨j, hj, rfl⟩ := nI_of (Int32.not_lt.mpr h1)
    exact ⟨h1, (nI_ltI hj (by omega)).mpr (Nat.lt_succ_of_le ((nI_leI hj (by omega)).mp h2))⟩
  · rintro ⟨h1, h2⟩
    obtain ⟨j, hj, rfl⟩ := nI_of (Int32.not_lt.mpr h1)
    exact ⟨h1, (nI_leI hj (by omega)).mpr (Nat.le_of_lt_succ ((nI_ltI hj (by omega)).mp h2))⟩
/-- Arrays.fill(int[], int) -/
theorem c_fill (d n : Nat) (a N : Nat) (f : Nat → Int32) (v : Int32) (h : Nat → MC) (ha : h a = .inl (.int, N, .inl f)) (hN : N < 2147483648) : Fn M_J7_fill_53178 d 0 0 [.ref a, .int v] h n none (hset h a (.inl (.int, N, .inl (flr f v N)))) := by
  refine Fn.of fun post hp => ?_
  refine mw_iconst (v := nI 0) rfl (by decide) ?_
  refine mw_istore_n (i := 2) rfl rfl (Nat.le_of_ble_eq_true rfl) ?_
  refine mw_aload_n (i := 0) rfl rfl rfl ?_
  refine mw_alen (ti := 0) rfl ha rfl ?_
  refine mw_istore_n (i := 3) rfl rfl (Nat.le_of_ble_eq_true rfl) ?_
  have loop : ∀ j, j ≤ N → MW M_J7_fill_53178 d 0 0 n post 5 [(0, .ref a), (1, .int v), (2, .int (nI j)), (3, .int (nI N))] [] (hset h a (.inl (.int, N, .inl (flr f v j)))) n 0 := by
    refine loop_up N ?_ ?_
    · refine mw_iload_n (i := 2) rfl rfl rfl ?_
      refine mw_iload_n (i := 3) rfl rfl rfl ?_
      refine mw_n_ge rfl (by omega) (by omega) (fun hc => ?_) (fun hc => ?_)
      · exact mw_return rfl rfl rfl (Nat.le_refl _) (hp)
      · omega
    · intro j hj ih
      refine mw_iload_n (i := 2) rfl rfl rfl ?_
      refine mw_iload_n (i := 3) rfl rfl rfl ?_
      refine mw_n_ge rfl (by omega) (by omega) (fun hc => ?_) (fun hc => ?_)
      · omega
      · refine mw_aload_n (i := 0) rfl rfl rfl ?_
        refine mw_iload_n (i := 2) rfl rfl rfl ?_
        refine mw_iload_n (i := 1) rfl rfl rfl ?_
        refine mw_iast rfl (hset_same _ _ _) (by omega) (by omega) ?_
        rw [hset_hset, flr_upd]
        first | refine mw_ninc rfl rfl (Nat.le_of_ble_eq_true rfl) ?_ | refine mw_iinc rfl rfl rfl (Nat.le_of_ble_eq_true rfl) ?_
        refine mw_goto rfl ?_
        exact mw_locals rfl ih
  refine mw_locals (L2 := [(0, .ref a), (1, .int v), (2, .int (nI 0)), (3, .int (nI N))]) rfl ?_
  refine mw_heap ?_ (loop 0 (Nat.zero_le _))
  rw [flr_0, hset_id ha]
/-- Arrays.fill(long[], long) -/
theorem c_fillL (d n : Nat) (a N : Nat) (f : Nat → Int64) (v : Int64) (h : Nat → MC) (ha : h a = .inl (.long, N, .inr (.inl f))) (hN : N < 2147483648) : Fn M_J7_fill_d0a16 d 0 0 [.ref a, .long v] h n none (hset h a (.inl (.long, N, .inr (.inl (flr f v N))))) := by
  refine Fn.of fun post hp => ?_
  refine mw_iconst (v := nI 0) rfl (by decide) ?_
  refine mw_istore_n (i := 3) rfl rfl (Nat.le_of_ble_eq_true rfl) ?_
  refine mw_aload_n (i := 0) rfl rfl rfl ?_
  refine mw_alen (ti := 2) rfl ha rfl ?_
  refine mw_istore rfl (Nat.le_of_ble_eq_true rfl) ?_
  have loop : ∀ j, j ≤ N → MW M_J7_fill_d0a16 d 0 0 n post 6 [(0, .ref a), (1, .long v), (3, .int (nI j)), (4, .int (nI N))] [] (hset h a (.inl (.long, N, .inr (.inl (flr f v j))))) n 0 := by
    refine loop_up N ?_ ?_
    · refine mw_iload_n (i := 3) rfl rfl rfl ?_
      refine mw_iload rfl rfl ?_
      refine mw_n_ge rfl (by omega) (by omega) (fun hc => ?_) (fun hc => ?_)
      · exact mw_return rfl rfl rfl (Nat.le_refl _) (hp)
      · omega
    · intro j hj ih
      refine mw_iload_n (i := 3) rfl rfl rfl ?_
      refine mw_iload rfl rfl ?_
      refine mw_n_ge rfl (by omega) (by omega) (fun hc => ?_) (fun hc => ?_)
      · omega
      · refine mw_aload_n (i := 0) rfl rfl rfl ?_
        refine mw_iload_n (i := 3) rfl rfl rfl ?_
        refine mw_lload_n (i := 1) rfl rfl rfl ?_
        refine mw_last rfl (hset_same _ _ _) (by omega) (by omega) ?_
        rw [hset_hset, flr_updL]
        first | refine mw_ninc rfl rfl (Nat.le_of_ble_eq_true rfl) ?_ | refine mw_iinc rfl rfl rfl (Nat.le_of_ble_eq_true rfl) ?_
        refine mw_goto rfl ?_
        exact mw_locals rfl ih
  refine mw_locals (L2 := [(0, .ref a), (1, .long v), (3, .int (nI 0)), (4, .int (nI N))]) rfl ?_
  refine mw_heap ?_ (loop 0 (Nat.zero_le _))
  rw [flr_0, hset_id ha]
