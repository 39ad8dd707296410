abbrev RD.uD (x : RD) (D : Nat → Bool) : RD := mkR x.st x.b x.nb x.m x.o x.ru x.hd x.li x.c x.l x.lr x.lb x.z x.u D
/-- E y: what can be derived without the base facts of y -/
def DerE (v : Nat → Nat) (S : HoS) (E : Int32 → Nat → Bool) : Prop := ∀ y, IsLim (fun D => (dvP S D).1) (dvBase v y) (E y)
theorem derE_ex {v : Nat → Nat} {S : HoS} (hS : HoOk v S) : ∃ E, DerE v S E := by
  obtain ⟨E, hE⟩ := Classical.axiomOfChoice (r := fun (y : Int32) (D : Nat → Bool) => IsLim (fun D => (dvP S D).1) (dvBase v y) D) (fun y => dvLim hS (dvBase v y))
  exact ⟨E, hE⟩
abbrev bitI (i : Nat) : Int32 := nI 1 <<< (nI i &&& 31)
def ndA (E : Int32 → Nat → Bool) (f : Nat) : Nat → Int32
  | 0 => nI 0
  | i + 1 => ndA E f i ||| (if E (bitI i) f then nI 0 else bitI i)
def ndQ (v : Nat → Nat) (p a b : Int32) (g : (Int32 → Nat → Bool) → Nat → Int32) (w' : Nat → Int32) (x' : RD) (r : Option Value) : Prop := (isF v p a b = true → Fnd v w' x') ∧ (wrV v p a b < 0 → r = some (.int (wrV v p a b))) ∧ (0 ≤ wrV v p a b → ∃ S E, FndM v w' x' S ∧ DerE v S E ∧ r = some (.int (g E (fctN p a b))))
theorem c_needs (d n : Nat) (p a b : Int32) (w : Nat → Int32) (v : Nat → Nat) (x : RD) (h : Nat → MC) (hx : RAt h w x) (hv : h 179 = .inl (.int, 189, .inl (vI v))) (hok : OkN v) (hF : FndI v w x) : Sp M_X10_needs (d + 7) 0 0 [.ref 178, .int p, .int a, .int b] h n (QR v w h (ndQ v p a b (fun E f => ndA E f (v 1)))) := by
  show MW _ _ _ _ _ _ _ _ _ _ _ _
  generalize hpost : (QR v w h (ndQ v p a b (fun E f => ndA E f (v 1)))) = post
  refine mw_over (rcL w x) hx ?_
  refine mw_aload_n (i := 0) rfl rfl rfl ?_
  refine mw_iload_n (i := 1) rfl rfl rfl ?_
  refine mw_iload_n (i := 2) rfl rfl rfl ?_
  refine mw_iload_n (i := 3) rfl rfl rfl ?_
  refine mw_callV (c_wrong d n p a b w v x _ (RAt.of w x h) hv hok hF) rfl ok_X10_wrong v_X10_192 rfl (by first | rfl | exact rfl | exact hv) (by intro e; cases e) rfl (Nat.le_of_ble_eq_true rfl) rfl (Nat.le_of_ble_eq_true rfl) (by omega) (by omega) (by omega) ?_
  intro r2 h2 hq2
  obtain ⟨w', x', rfl, hT, hI, rfl, hFd⟩ := hq2
  rw [rc_over]
  refine mw_istore rfl (Nat.le_of_ble_eq_true rfl) ?_
  refine mw_iload rfl rfl ?_
  refine mw_if_ge rfl (fun hge => ?_) (fun hge => ?_)
  · obtain ⟨-, hf, ho, -⟩ := wrV_ok hge
    have hFd2 := hFd hf
    have hnl := Int32.not_lt.mpr hge
    have hf12 := hok.2.2.1
    generalize hW : wrV v p a b = W at *
    obtain ⟨i, j, k, hi, hj, hk, rfl, rfl, rfl, e, h216⟩ := isF_nat hok hf
    obtain ⟨S, hS⟩ := hFd2.2.2.2 ho
    obtain ⟨E, hE⟩ := derE_ex (hS.sok hok)
    refine mw_iload_n (i := 1) rfl rfl rfl ?_
    refine mw_iload_n (i := 2) rfl rfl rfl ?_
    refine mw_iload_n (i := 3) rfl rfl rfl ?_
    refine mw_callS_f (c_factOf (d + 6) n i j k _) rfl ok_X10_factOf v_X10_98 rfl (Nat.le_of_ble_eq_true rfl) rfl (Nat.le_of_ble_eq_true rfl) (by omega) (by omega) (by omega) ?_
    refine mw_istore rfl (Nat.le_of_ble_eq_true rfl) ?_
    refine mw_iconst (v := nI 0) rfl (by decide) ?_
    refine mw_istore rfl (Nat.le_of_ble_eq_true rfl) ?_
    refine mw_iconst (v := nI 0) rfl (by decide) ?_
    refine mw_istore rfl (Nat.le_of_ble_eq_true rfl) ?_
    have loop : ∀ q, q ≤ v 1 → ∀ D, MW M_X10_needs (d + 7) 0 0 n post 31 [(0, .ref 178), (1, .int (nI i)), (2, .int (nI j)), (3, .int (nI k)), (4, .int W), (5, .int (nI (36 * i + 6 * j + k))), (6, .int (ndA E (36 * i + 6 * j + k) q)), (7, .int (nI q))] [] (mov (rcL w' (x'.uD D)) h) n 0 := by
      refine loop_up (P := fun q => ∀ D, MW M_X10_needs (d + 7) 0 0 n post 31 [(0, .ref 178), (1, .int (nI i)), (2, .int (nI j)), (3, .int (nI k)), (4, .int W), (5, .int (nI (36 * i + 6 * j + k))), (6, .int (ndA E (36 * i + 6 * j + k) q)), (7, .int (nI q))] [] (mov (rcL w' (x'.uD D)) h) n 0) (v 1) ?_ ?_
      · intro D
        refine mw_iload rfl rfl ?_
        refine mw_aload_n (i := 0) rfl rfl rfl ?_
        refine mw_getfield rfl f_X10_7 (by first | rfl | exact rfl | exact hv) rfl ?_
        refine mw_iconst (v := nI 1) rfl (by decide) ?_
        refine mw_iald rfl (by first | rfl | exact rfl | exact hv) (by omega) (by omega) ?_
        refine mw_n_ge rfl (by omega) (by omega) (fun hc => ?_) (fun hc => ?_)
        · refine mw_iload rfl rfl ?_
          exact mw_ireturn rfl rfl rfl rfl (Nat.le_refl _) ((QR.mk hpost w' (x'.uD D) hT ⟨hI.1, Or.inr hFd2⟩ ⟨fun _ => hFd2, fun q => absurd (hW ▸ q) hnl, fun _ => ⟨S, E, hS, hE, by rw [e]⟩⟩))
        · omega
      · intro q hq ih D
        have eA : ndA E (36 * i + 6 * j + k) (q + 1) = ndA E (36 * i + 6 * j + k) q ||| (if E (bitI q) (36 * i + 6 * j + k) then nI 0 else bitI q) := rfl
        rw [eA] at ih
        generalize ndA E (36 * i + 6 * j + k) q = acc at ih ⊢
        refine mw_iload rfl rfl ?_
        refine mw_aload_n (i := 0) rfl rfl rfl ?_
        refine mw_getfield rfl f_X10_7 (by first | rfl | exact rfl | exact hv) rfl ?_
        refine mw_iconst (v := nI 1) rfl (by decide) ?_
        refine mw_iald rfl (by first | rfl | exact rfl | exact hv) (by omega) (by omega) ?_
        refine mw_n_ge rfl (by omega) (by omega) (fun hc => ?_) (fun hc => ?_)
        · omega
        · refine mw_iload rfl rfl ?_
          refine mw_aload_n (i := 0) rfl rfl rfl ?_
          refine mw_iload rfl rfl ?_
          refine mw_iconst (v := nI 1) rfl (by decide) ?_
          refine mw_iload rfl rfl ?_
          refine mw_ishl rfl ?_
          refine mw_callV (c_canDo (d + 5) n (36 * i + 6 * j + k) (bitI q) w' v D (E (bitI q)) S _ rfl hS.n hv rfl hok (hS.sok hok) (hS.sat w' (x'.uD D) h rfl rfl rfl) h216 (hE (bitI q))) rfl ok_X10_canDo v_X10_227 rfl (by first | rfl | exact rfl | exact hv) (by intro e; cases e) rfl (Nat.le_of_ble_eq_true rfl) rfl (Nat.le_of_ble_eq_true rfl) (by omega) (by omega) (by omega) ?_
          intro r3 h3 hq3
          obtain ⟨rfl, D', rfl⟩ := hq3
          rw [← mov_puts]
          refine mw_heap (h2 := mov (rcL w' (x'.uD D')) h) rfl ?_
          have ih := ih D'
          refine mw_b_eq rfl (fun hb => ?_) (fun hb => ?_)
          · rw [hb, if_neg (by decide)] at ih
            refine mw_iconst (v := nI 1) rfl (by decide) ?_
            refine mw_iload rfl rfl ?_
            refine mw_ishl rfl ?_
            first | refine mw_nior rfl ?_ | refine mw_ior rfl ?_
            refine mw_istore rfl (Nat.le_of_ble_eq_true rfl) ?_
            first | refine mw_ninc rfl rfl (Nat.le_of_ble_eq_true rfl) ?_ | refine mw_iinc rfl rfl rfl (Nat.le_of_ble_eq_true rfl) ?_
            refine mw_goto rfl ?_
            exact mw_locals rfl ih
          · rw [hb, if_pos rfl] at ih
            refine mw_iconst (v := nI 0) rfl (by decide) ?_
            refine mw_goto rfl ?_
            first | refine mw_nior rfl ?_ | refine mw_ior rfl ?_
            refine mw_istore rfl (Nat.le_of_ble_eq_true rfl) ?_
            first | refine mw_ninc rfl rfl (Nat.le_of_ble_eq_true rfl) ?_ | refine mw_iinc rfl rfl rfl (Nat.le_of_ble_eq_true rfl) ?_
            refine mw_goto rfl ?_
            exact mw_locals rfl ih
    exact mw_locals rfl (loop 0 (Nat.zero_le _) x'.D)
  · refine mw_iload rfl rfl ?_
    exact mw_ireturn rfl rfl rfl rfl (Nat.le_refl _) ((QR.mk hpost w' x' hT hI ⟨hFd, fun _ => rfl, fun q => absurd q hge⟩))
