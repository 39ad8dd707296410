def mdlX (v : Nat → Nat) (y : Int32) : Nat → Int32 := (mdlV v (strF v).1 y).1
theorem c_sizeWithout_e (d n : Nat) (y : Int32) (h : Nat → MC) (hy : y < 0) : Fn M_X10_sizeWithout d 0 0 [.ref 178, .int y] h n (some (.int (-2))) h := by
  refine Fn.of fun post hp => ?_
  refine mw_iload_n (i := 1) rfl rfl rfl ?_
  refine mw_if_ge rfl (fun hge => ?_) (fun hge => ?_)
  · exact absurd hy (Int32.not_lt.mpr hge)
  · refine mw_bipush (v := (-2)) rfl (by decide) ?_
    exact mw_ireturn rfl rfl rfl rfl (Nat.le_refl _) (hp)
theorem c_sizeWithout (d n : Nat) (y : Int32) (w : Nat → Int32) (v : Nat → Nat) (x : RD) (h : Nat → MC) (hx : RAt h w x) (hv : h 179 = .inl (.int, 189, .inl (vI v))) (hok : OkN v) (hF : FndI v w x) (hy : 0 ≤ y) : Sp M_X10_sizeWithout (d + 6) 0 0 [.ref 178, .int y] h n (QR v w h (fun w' x' r => r = some (.int (okA v (nI (cntM (mdlX v y) 0 216)))))) := by
  show MW _ _ _ _ _ _ _ _ _ _ _ _
  generalize hpost : (QR v w h (fun w' x' r => r = some (.int (okA v (nI (cntM (mdlX v y) 0 216)))))) = post
  refine mw_over (rcL w x) hx ?_
  refine mw_iload_n (i := 1) rfl rfl rfl ?_
  refine mw_if_ge rfl (fun hge => ?_) (fun hge => ?_)
  · refine mw_aload_n (i := 0) rfl rfl rfl ?_
    refine mw_callV (c_finds d n w v x _ (RAt.of w x h) hv hok hF) rfl ok_X10_finds v_X10_185 rfl (by first | rfl | exact rfl | exact hv) (by intro e; cases e) rfl (Nat.le_of_ble_eq_true rfl) rfl (Nat.le_of_ble_eq_true rfl) (by omega) (by omega) (by omega) ?_
    intro r2 h2 hq2
    obtain ⟨rfl, w', x', rfl, hT, hFd, hI⟩ := hq2
    rw [rc_over]
    refine mw_b_ne rfl (fun ho => ?_) (fun ho => ?_)
    · have hst6 : ∀ p, p < 6 → x'.st p < 6 := by rw [hFd.2.2.1]; exact strF_lt hok ho
      refine mw_aload_n (i := 0) rfl rfl rfl ?_
      refine mw_iload_n (i := 1) rfl rfl rfl ?_
      refine mw_aload_n (i := 0) rfl rfl rfl ?_
      refine mw_getfield rfl f_X10_35 (by first | rfl | exact rfl | exact hv) rfl ?_
      refine mw_callV (c_buildsB (d + 1) n y w' v x'.st x'.b x'.nb x'.o _ rfl hv rfl rfl rfl rfl hok hst6) rfl ok_X10_builds v_X10_166 rfl (by first | rfl | exact rfl | exact hv) (by intro e; cases e) rfl (Nat.le_of_ble_eq_true rfl) rfl (Nat.le_of_ble_eq_true rfl) (by omega) (by omega) (by omega) ?_
      intro r3 h3 hq3
      obtain ⟨rfl, nb2, b2, rfl⟩ := hq3
      rw [← mov_puts]
      refine mw_heap (h2 := mov (rcL (updN w' 5 (nI (mdlV v x'.st y).2)) (mkR x'.st b2 nb2 x'.m (mdlV v x'.st y).1 x'.ru x'.hd x'.li x'.c x'.l x'.lr x'.lb x'.z x'.u x'.D)) h) rfl ?_
      refine mw_aload_n (i := 0) rfl rfl rfl ?_
      refine mw_getfield rfl f_X10_35 (by first | rfl | exact rfl | exact hv) rfl ?_
      refine mw_iconst (v := nI 0) rfl (by decide) ?_
      refine mw_sipush (v := nI 216) rfl (by decide) ?_
      refine mw_callS_f (c_tally (d + 5) n 187 0 216 (mdlV v x'.st y).1 _ rfl (by omega)) rfl ok_X10_tally v_X10_188 rfl (Nat.le_of_ble_eq_true rfl) rfl (Nat.le_of_ble_eq_true rfl) (by omega) (by omega) (by omega) ?_
      exact mw_ireturn rfl rfl rfl rfl (Nat.le_refl _) ((QR.mk hpost (updN w' 5 (nI (mdlV v x'.st y).2)) (mkR x'.st b2 nb2 x'.m (mdlV v x'.st y).1 x'.ru x'.hd x'.li x'.c x'.l x'.lr x'.lb x'.z x'.u x'.D) hT ⟨hI.1, Or.inr hFd⟩ (by rw [okA_1 ho, hFd.2.2.1]; rfl)))
    · refine mw_bipush (v := (-6)) rfl (by decide) ?_
      exact mw_ireturn rfl rfl rfl rfl (Nat.le_refl _) ((QR.mk hpost w' x' hT hI (by rw [okA_0 ho])))
  · exact absurd hy hge
theorem c_holdsWithout_e1 (d n : Nat) (y p a b : Int32) (w : Nat → Int32) (v : Nat → Nat) (h : Nat → MC) (hO : h 178 = RO w) (hv : h 179 = .inl (.int, 189, .inl (vI v))) (hok : OkN v) (hf : isF v p a b = false) : Fn M_X10_holdsWithout (d + 6) 0 0 [.ref 178, .int y, .int p, .int a, .int b] h n (some (.int (-1))) h := by
  refine Fn.of fun post hp => ?_
  refine mw_aload_n (i := 0) rfl rfl rfl ?_
  refine mw_iload_n (i := 2) rfl rfl rfl ?_
  refine mw_iload_n (i := 3) rfl rfl rfl ?_
  refine mw_iload rfl rfl ?_
  refine mw_callV_f (c_isFact (d + 3) n p a b w v h hO hv hok.1 hok.2.1 hok.2.2.2.2.1) rfl ok_X10_isFact v_X10_95 rfl (by first | rfl | exact hO | exact hv) (by intro e; cases e) rfl (Nat.le_of_ble_eq_true rfl) rfl (Nat.le_of_ble_eq_true rfl) (by omega) (by omega) (by omega) ?_
  refine mw_b_ne rfl (fun hq => ?_) (fun hq => ?_)
  · rw [hf] at hq; cases hq
  · refine mw_iconst (v := (-1)) rfl (by decide) ?_
    exact mw_ireturn rfl rfl rfl rfl (Nat.le_refl _) (hp)
theorem c_holdsWithout_e2 (d n : Nat) (y p a b : Int32) (w : Nat → Int32) (v : Nat → Nat) (h : Nat → MC) (hO : h 178 = RO w) (hv : h 179 = .inl (.int, 189, .inl (vI v))) (hok : OkN v) (hf : isF v p a b = true) (hy : y < 0) : Fn M_X10_holdsWithout (d + 6) 0 0 [.ref 178, .int y, .int p, .int a, .int b] h n (some (.int (-2))) h := by
  refine Fn.of fun post hp => ?_
  refine mw_aload_n (i := 0) rfl rfl rfl ?_
  refine mw_iload_n (i := 2) rfl rfl rfl ?_
  refine mw_iload_n (i := 3) rfl rfl rfl ?_
  refine mw_iload rfl rfl ?_
  refine mw_callV_f (c_isFact (d + 3) n p a b w v h hO hv hok.1 hok.2.1 hok.2.2.2.2.1) rfl ok_X10_isFact v_X10_95 rfl (by first | rfl | exact hO | exact hv) (by intro e; cases e) rfl (Nat.le_of_ble_eq_true rfl) rfl (Nat.le_of_ble_eq_true rfl) (by omega) (by omega) (by omega) ?_
  refine mw_b_ne rfl (fun hq => ?_) (fun hq => ?_)
  · refine mw_iload_n (i := 1) rfl rfl rfl ?_
    refine mw_if_ge rfl (fun hge => ?_) (fun hge => ?_)
    · exact absurd hy (Int32.not_lt.mpr hge)
    · refine mw_bipush (v := (-2)) rfl (by decide) ?_
      exact mw_ireturn rfl rfl rfl rfl (Nat.le_refl _) (hp)
  · rw [hf] at hq; cases hq
theorem c_holdsWithout (d n : Nat) (y p a b : Int32) (w : Nat → Int32) (v : Nat → Nat) (x : RD) (h : Nat → MC) (hx : RAt h w x) (hv : h 179 = .inl (.int, 189, .inl (vI v))) (hok : OkN v) (hF : FndI v w x) (hf : isF v p a b = true) (hy : 0 ≤ y) : Sp M_X10_holdsWithout (d + 6) 0 0 [.ref 178, .int y, .int p, .int a, .int b] h n (QR v w h (fun w' x' r => r = some (.int (okA v (bI (decide (0 ≤ mdlX v y (fctN p a b)))))))) := by
  show MW _ _ _ _ _ _ _ _ _ _ _ _
  generalize hpost : (QR v w h (fun w' x' r => r = some (.int (okA v (bI (decide (0 ≤ mdlX v y (fctN p a b)))))))) = post
  refine mw_over (rcL w x) hx ?_
  refine mw_aload_n (i := 0) rfl rfl rfl ?_
  refine mw_iload_n (i := 2) rfl rfl rfl ?_
  refine mw_iload_n (i := 3) rfl rfl rfl ?_
  refine mw_iload rfl rfl ?_
  refine mw_callV_f (c_isFact (d + 3) n p a b w v _ rfl hv hok.1 hok.2.1 hok.2.2.2.2.1) rfl ok_X10_isFact v_X10_95 rfl (by first | rfl | exact rfl | exact hv) (by intro e; cases e) rfl (Nat.le_of_ble_eq_true rfl) rfl (Nat.le_of_ble_eq_true rfl) (by omega) (by omega) (by omega) ?_
  refine mw_b_ne rfl (fun hq => ?_) (fun hq => ?_)
  · refine mw_iload_n (i := 1) rfl rfl rfl ?_
    refine mw_if_ge rfl (fun hge => ?_) (fun hge => ?_)
    · refine mw_aload_n (i := 0) rfl rfl rfl ?_
      refine mw_callV (c_finds d n w v x _ (RAt.of w x h) hv hok hF) rfl ok_X10_finds v_X10_185 rfl (by first | rfl | exact rfl | exact hv) (by intro e; cases e) rfl (Nat.le_of_ble_eq_true rfl) rfl (Nat.le_of_ble_eq_true rfl) (by omega) (by omega) (by omega) ?_
      intro r2 h2 hq2
      obtain ⟨rfl, w', x', rfl, hT, hFd, hI⟩ := hq2
      rw [rc_over]
      refine mw_b_ne rfl (fun ho => ?_) (fun ho => ?_)
      · have hst6 : ∀ p, p < 6 → x'.st p < 6 := by rw [hFd.2.2.1]; exact strF_lt hok ho
        have hst := hFd.2.2.1
        obtain ⟨i, j, k, hi, hj, hk, rfl, rfl, rfl, e, h216⟩ := isF_nat hok hf
        rw [e] at hpost
        refine mw_aload_n (i := 0) rfl rfl rfl ?_
        refine mw_iload_n (i := 1) rfl rfl rfl ?_
        refine mw_aload_n (i := 0) rfl rfl rfl ?_
        refine mw_getfield rfl f_X10_35 (by first | rfl | exact rfl | exact hv) rfl ?_
        refine mw_callV (c_buildsB (d + 1) n y w' v x'.st x'.b x'.nb x'.o _ rfl hv rfl rfl rfl rfl hok hst6) rfl ok_X10_builds v_X10_166 rfl (by first | rfl | exact rfl | exact hv) (by intro e; cases e) rfl (Nat.le_of_ble_eq_true rfl) rfl (Nat.le_of_ble_eq_true rfl) (by omega) (by omega) (by omega) ?_
        intro r3 h3 hq3
        obtain ⟨rfl, nb2, b2, rfl⟩ := hq3
        rw [← mov_puts]
        refine mw_heap (h2 := mov (rcL (updN w' 5 (nI (mdlV v x'.st y).2)) (mkR x'.st b2 nb2 x'.m (mdlV v x'.st y).1 x'.ru x'.hd x'.li x'.c x'.l x'.lr x'.lb x'.z x'.u x'.D)) h) rfl ?_
        refine mw_aload_n (i := 0) rfl rfl rfl ?_
        refine mw_getfield rfl f_X10_35 (by first | rfl | exact rfl | exact hv) rfl ?_
        refine mw_iload_n (i := 2) rfl rfl rfl ?_
        refine mw_iload_n (i := 3) rfl rfl rfl ?_
        refine mw_iload rfl rfl ?_
        refine mw_callS_f (c_factOf (d + 5) n i j k _) rfl ok_X10_factOf v_X10_98 rfl (Nat.le_of_ble_eq_true rfl) rfl (Nat.le_of_ble_eq_true rfl) (by omega) (by omega) (by omega) ?_
        refine mw_iald_v (v := mdlX v y (36 * i + 6 * j + k)) rfl rfl (by omega) (by omega) (show (mdlV v x'.st y).1 (36 * i + 6 * j + k) = (mdlV v (strF v).1 y).1 (36 * i + 6 * j + k) by rw [hst]) ?_
        refine mw_if_ge rfl (fun h0 => ?_) (fun h0 => ?_)
        · refine mw_iconst (v := nI 1) rfl (by decide) ?_
          exact mw_ireturn rfl rfl rfl rfl (Nat.le_refl _) ((QR.mk hpost (updN w' 5 (nI (mdlV v x'.st y).2)) (mkR x'.st b2 nb2 x'.m (mdlV v x'.st y).1 x'.ru x'.hd x'.li x'.c x'.l x'.lr x'.lb x'.z x'.u x'.D) hT ⟨hI.1, Or.inr hFd⟩ (by rw [okA_1 ho, decide_eq_true h0]; rfl)))
        · refine mw_iconst (v := nI 0) rfl (by decide) ?_
          refine mw_goto rfl ?_
          exact mw_ireturn rfl rfl rfl rfl (Nat.le_refl _) ((QR.mk hpost (updN w' 5 (nI (mdlV v x'.st y).2)) (mkR x'.st b2 nb2 x'.m (mdlV v x'.st y).1 x'.ru x'.hd x'.li x'.c x'.l x'.lr x'.lb x'.z x'.u x'.D) hT ⟨hI.1, Or.inr hFd⟩ (by rw [okA_1 ho, decide_eq_false h0]; rfl)))
      · refine mw_bipush (v := (-6)) rfl (by decide) ?_
        exact mw_ireturn rfl rfl rfl rfl (Nat.le_refl _) ((QR.mk hpost w' x' hT hI (by rw [okA_0 ho])))
    · exact absurd hy hge
  · rw [hf] at hq; cases hq
