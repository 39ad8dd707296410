/-! THE LAW'S ROWS: those of the methods, over the law's judgement -/
section LAWR
variable {p : Program} {l : Launch} {e : Env} {s : State} {m : MethodId} {below : List Frame} {meth : Method} {c : Code} {b Ln : Nat} {xs : Nat → Int32} {G : MG} {pc n sl nx tg : Nat} {h : Nat → MC} {L : List (Nat × Value)} {S : List Value}
theorem lm_iconst (C : LC p s m meth c b Ln xs G) {nx tg : Nat} {i : Int} {v : Int32} (hf : fnd LTw pc = some (.iconst i, 1, nx, tg)) (hv : Int32.ofInt i = v) (k : LM p l e s m below meth c b G nx L (.int v :: S) (h) (n) (sl)) : LM p l e s m below meth c b G pc L (S) (h) (n) (sl) := by
  intro H locs ls hW hS hl
  obtain ⟨hdg, rfl, htg⟩ := lt_ok LTw_ok hf
  have hx := C.1.1
  have hb := C.1.2.1
  exact lv_iconst hx hb hdg hv (k H locs ls hW hS hl)
theorem lm_bipush (C : LC p s m meth c b Ln xs G) {nx tg : Nat} {i : Int} {v : Int32} (hf : fnd LTw pc = some (.bipush i, 2, nx, tg)) (hv : (Int8.ofInt i).toInt32 = v) (k : LM p l e s m below meth c b G nx L (.int v :: S) (h) (n) (sl)) : LM p l e s m below meth c b G pc L (S) (h) (n) (sl) := by
  intro H locs ls hW hS hl
  obtain ⟨hdg, rfl, htg⟩ := lt_ok LTw_ok hf
  have hx := C.1.1
  have hb := C.1.2.1
  exact lv_bipush hx hb hdg hv (k H locs ls hW hS hl)
theorem lm_iload_n (C : LC p s m meth c b Ln xs G) {nx tg : Nat} {q : Fin 4} {i : Nat} {x : Int32} (hf : fnd LTw pc = some (.iload_n q, 1, nx, tg)) (hi : (q : Nat) = i) (hv : mlkv L i = some (.int x)) (k : LM p l e s m below meth c b G nx L (.int x :: S) (h) (n) (sl)) : LM p l e s m below meth c b G pc L (S) (h) (n) (sl) := by
  intro H locs ls hW hS hl
  obtain ⟨hdg, rfl, htg⟩ := lt_ok LTw_ok hf
  have hx := C.1.1
  have hb := C.1.2.1
  exact lv_iload_n hx hb hdg hi (matL hl hv) (k H locs ls hW hS hl)
theorem lm_iload (C : LC p s m meth c b Ln xs G) {nx tg : Nat} {i : Nat} {x : Int32} (hf : fnd LTw pc = some (.iload i, 2, nx, tg)) (hv : mlkv L i = some (.int x)) (k : LM p l e s m below meth c b G nx L (.int x :: S) (h) (n) (sl)) : LM p l e s m below meth c b G pc L (S) (h) (n) (sl) := by
  intro H locs ls hW hS hl
  obtain ⟨hdg, rfl, htg⟩ := lt_ok LTw_ok hf
  have hx := C.1.1
  have hb := C.1.2.1
  exact lv_iload hx hb hdg (matL hl hv) (k H locs ls hW hS hl)
theorem lm_istore_n (C : LC p s m meth c b Ln xs G) {nx tg : Nat} {q : Fin 4} {i : Nat} {x : Int32} (hf : fnd LTw pc = some (.istore_n q, 1, nx, tg)) (hi : (q : Nat) = i) (hL : (Nat.ble 1 i && Nat.ble (i + 1) 12) = true) (k : LM p l e s m below meth c b G nx (mst L i (.int x)) (S) (h) (n) (sl)) : LM p l e s m below meth c b G pc L (.int x :: S) (h) (n) (sl) := by
  intro H locs ls hW hS hl
  obtain ⟨hdg, rfl, htg⟩ := lt_ok LTw_ok hf
  have hx := C.1.1
  have hb := C.1.2.1
  exact lv_istore_n hx hb hdg hi hl (lmL hL).2 (mst_cvL G.2.1 L (lmL hL).1 (.int x) b) (fun ls1 hl1 => k H locs ls1 hW hS hl1)
theorem lm_istore (C : LC p s m meth c b Ln xs G) {nx tg : Nat} {i : Nat} {x : Int32} (hf : fnd LTw pc = some (.istore i, 2, nx, tg)) (hL : (Nat.ble 1 i && Nat.ble (i + 1) 12) = true) (k : LM p l e s m below meth c b G nx (mst L i (.int x)) (S) (h) (n) (sl)) : LM p l e s m below meth c b G pc L (.int x :: S) (h) (n) (sl) := by
  intro H locs ls hW hS hl
  obtain ⟨hdg, rfl, htg⟩ := lt_ok LTw_ok hf
  have hx := C.1.1
  have hb := C.1.2.1
  exact lv_istore hx hb hdg hl (lmL hL).2 (mst_cvL G.2.1 L (lmL hL).1 (.int x) b) (fun ls1 hl1 => k H locs ls1 hW hS hl1)
theorem lm_lload (C : LC p s m meth c b Ln xs G) {nx tg : Nat} {i : Nat} {x : Int64} (hf : fnd LTw pc = some (.lload i, 2, nx, tg)) (hv : mlkv L i = some (.long x)) (k : LM p l e s m below meth c b G nx L (.long x :: S) (h) (n) (sl)) : LM p l e s m below meth c b G pc L (S) (h) (n) (sl) := by
  intro H locs ls hW hS hl
  obtain ⟨hdg, rfl, htg⟩ := lt_ok LTw_ok hf
  have hx := C.1.1
  have hb := C.1.2.1
  exact lv_lload hx hb hdg (matL hl hv) (k H locs ls hW hS hl)
theorem lm_lstore (C : LC p s m meth c b Ln xs G) {nx tg : Nat} {i : Nat} {x : Int64} (hf : fnd LTw pc = some (.lstore i, 2, nx, tg)) (hL : (Nat.ble 1 i && Nat.ble (i + 2) 12) = true) (k : LM p l e s m below meth c b G nx (mst2 L i (.long x)) (S) (h) (n) (sl)) : LM p l e s m below meth c b G pc L (.long x :: S) (h) (n) (sl) := by
  intro H locs ls hW hS hl
  obtain ⟨hdg, rfl, htg⟩ := lt_ok LTw_ok hf
  have hx := C.1.1
  have hb := C.1.2.1
  exact lv_lstore hx hb hdg hl (lmL hL).2 (mst2_cvL G.2.1 L (lmL hL).1 (.long x) b) (fun ls1 hl1 => k H locs ls1 hW hS hl1)
theorem lm_aload_n (C : LC p s m meth c b Ln xs G) {nx tg : Nat} {q : Fin 4} {i : Nat} {x : Nat} (hf : fnd LTw pc = some (.aload_n q, 1, nx, tg)) (hi : (q : Nat) = i) (hv : mlkv L i = some (.ref x)) (k : LM p l e s m below meth c b G nx L (.ref x :: S) (h) (n) (sl)) : LM p l e s m below meth c b G pc L (S) (h) (n) (sl) := by
  intro H locs ls hW hS hl
  obtain ⟨hdg, rfl, htg⟩ := lt_ok LTw_ok hf
  have hx := C.1.1
  have hb := C.1.2.1
  exact lv_aload_n hx hb hdg hi (matL hl hv) (k H locs ls hW hS hl)
theorem lm_aload (C : LC p s m meth c b Ln xs G) {nx tg : Nat} {i : Nat} {x : Nat} (hf : fnd LTw pc = some (.aload i, 2, nx, tg)) (hv : mlkv L i = some (.ref x)) (k : LM p l e s m below meth c b G nx L (.ref x :: S) (h) (n) (sl)) : LM p l e s m below meth c b G pc L (S) (h) (n) (sl) := by
  intro H locs ls hW hS hl
  obtain ⟨hdg, rfl, htg⟩ := lt_ok LTw_ok hf
  have hx := C.1.1
  have hb := C.1.2.1
  exact lv_aload hx hb hdg (matL hl hv) (k H locs ls hW hS hl)
theorem lm_astore_n (C : LC p s m meth c b Ln xs G) {nx tg : Nat} {q : Fin 4} {i : Nat} {x : Nat} (hf : fnd LTw pc = some (.astore_n q, 1, nx, tg)) (hi : (q : Nat) = i) (hL : (Nat.ble 1 i && Nat.ble (i + 1) 12) = true) (k : LM p l e s m below meth c b G nx (mst L i (.ref x)) (S) (h) (n) (sl)) : LM p l e s m below meth c b G pc L (.ref x :: S) (h) (n) (sl) := by
  intro H locs ls hW hS hl
  obtain ⟨hdg, rfl, htg⟩ := lt_ok LTw_ok hf
  have hx := C.1.1
  have hb := C.1.2.1
  exact lv_astore_n hx hb hdg hi hl (lmL hL).2 (mst_cvL G.2.1 L (lmL hL).1 (.ref x) b) (fun ls1 hl1 => k H locs ls1 hW hS hl1)
theorem lm_astore (C : LC p s m meth c b Ln xs G) {nx tg : Nat} {i : Nat} {x : Nat} (hf : fnd LTw pc = some (.astore i, 2, nx, tg)) (hL : (Nat.ble 1 i && Nat.ble (i + 1) 12) = true) (k : LM p l e s m below meth c b G nx (mst L i (.ref x)) (S) (h) (n) (sl)) : LM p l e s m below meth c b G pc L (.ref x :: S) (h) (n) (sl) := by
  intro H locs ls hW hS hl
  obtain ⟨hdg, rfl, htg⟩ := lt_ok LTw_ok hf
  have hx := C.1.1
  have hb := C.1.2.1
  exact lv_astore hx hb hdg hl (lmL hL).2 (mst_cvL G.2.1 L (lmL hL).1 (.ref x) b) (fun ls1 hl1 => k H locs ls1 hW hS hl1)
theorem lm_iadd (C : LC p s m meth c b Ln xs G) {nx tg : Nat} {x y : Int32} (hf : fnd LTw pc = some (.iadd, 1, nx, tg))  (k : LM p l e s m below meth c b G nx L (.int (x + y) :: S) (h) (n) (sl)) : LM p l e s m below meth c b G pc L (.int y :: .int x :: S) (h) (n) (sl) := by
  intro H locs ls hW hS hl
  obtain ⟨hdg, rfl, htg⟩ := lt_ok LTw_ok hf
  have hx := C.1.1
  have hb := C.1.2.1
  exact lv_iadd hx hb hdg (k H locs ls hW hS hl)
theorem lm_isub (C : LC p s m meth c b Ln xs G) {nx tg : Nat} {x y : Int32} (hf : fnd LTw pc = some (.isub, 1, nx, tg))  (k : LM p l e s m below meth c b G nx L (.int (x - y) :: S) (h) (n) (sl)) : LM p l e s m below meth c b G pc L (.int y :: .int x :: S) (h) (n) (sl) := by
  intro H locs ls hW hS hl
  obtain ⟨hdg, rfl, htg⟩ := lt_ok LTw_ok hf
  have hx := C.1.1
  have hb := C.1.2.1
  exact lv_isub hx hb hdg (k H locs ls hW hS hl)
theorem lm_imul (C : LC p s m meth c b Ln xs G) {nx tg : Nat} {x y : Int32} (hf : fnd LTw pc = some (.imul, 1, nx, tg))  (k : LM p l e s m below meth c b G nx L (.int (x * y) :: S) (h) (n) (sl)) : LM p l e s m below meth c b G pc L (.int y :: .int x :: S) (h) (n) (sl) := by
  intro H locs ls hW hS hl
  obtain ⟨hdg, rfl, htg⟩ := lt_ok LTw_ok hf
  have hx := C.1.1
  have hb := C.1.2.1
  exact lv_imul hx hb hdg (k H locs ls hW hS hl)
theorem lm_ishr (C : LC p s m meth c b Ln xs G) {nx tg : Nat} {x y : Int32} (hf : fnd LTw pc = some (.ishr, 1, nx, tg))  (k : LM p l e s m below meth c b G nx L (.int (x >>> (y &&& 31)) :: S) (h) (n) (sl)) : LM p l e s m below meth c b G pc L (.int y :: .int x :: S) (h) (n) (sl) := by
  intro H locs ls hW hS hl
  obtain ⟨hdg, rfl, htg⟩ := lt_ok LTw_ok hf
  have hx := C.1.1
  have hb := C.1.2.1
  exact lv_ishr hx hb hdg (k H locs ls hW hS hl)
theorem lm_irem (C : LC p s m meth c b Ln xs G) {nx tg : Nat} {x y : Int32} (hf : fnd LTw pc = some (.irem, 1, nx, tg)) (hne : ¬ y = 0) (k : LM p l e s m below meth c b G nx L (.int (x - x / y * y) :: S) (h) (n) (sl)) : LM p l e s m below meth c b G pc L (.int y :: .int x :: S) (h) (n) (sl) := by
  intro H locs ls hW hS hl
  obtain ⟨hdg, rfl, htg⟩ := lt_ok LTw_ok hf
  have hx := C.1.1
  have hb := C.1.2.1
  exact lv_irem hx hb hdg hne (k H locs ls hW hS hl)
theorem lm_lcmp (C : LC p s m meth c b Ln xs G) {nx tg : Nat} {x y : Int64} (hf : fnd LTw pc = some (.lcmp, 1, nx, tg))  (k : LM p l e s m below meth c b G nx L (.int (lg_cmp x y) :: S) (h) (n) (sl)) : LM p l e s m below meth c b G pc L (.long y :: .long x :: S) (h) (n) (sl) := by
  intro H locs ls hW hS hl
  obtain ⟨hdg, rfl, htg⟩ := lt_ok LTw_ok hf
  have hx := C.1.1
  have hb := C.1.2.1
  exact W.lcmp hx hb hdg (k H locs ls hW hS hl)
theorem lm_dup (C : LC p s m meth c b Ln xs G) {nx tg : Nat} {v : Value} (hf : fnd LTw pc = some (.dup, 1, nx, tg)) (hc : v.category = 1) (k : LM p l e s m below meth c b G nx L (v :: v :: S) (h) (n) (sl)) : LM p l e s m below meth c b G pc L (v :: S) (h) (n) (sl) := by
  intro H locs ls hW hS hl
  obtain ⟨hdg, rfl, htg⟩ := lt_ok LTw_ok hf
  have hx := C.1.1
  have hb := C.1.2.1
  exact lv_dup hx hb hdg ((cvV_cat _ _).trans hc) (k H locs ls hW hS hl)
theorem lm_pop (C : LC p s m meth c b Ln xs G) {nx tg : Nat} {v : Value} (hf : fnd LTw pc = some (.pop, 1, nx, tg)) (hc : v.category = 1) (k : LM p l e s m below meth c b G nx L (S) (h) (n) (sl)) : LM p l e s m below meth c b G pc L (v :: S) (h) (n) (sl) := by
  intro H locs ls hW hS hl
  obtain ⟨hdg, rfl, htg⟩ := lt_ok LTw_ok hf
  have hx := C.1.1
  have hb := C.1.2.1
  exact lv_pop hx hb hdg ((cvV_cat _ _).trans hc) (k H locs ls hW hS hl)
theorem lm_dup2 (C : LC p s m meth c b Ln xs G) {nx tg : Nat} {v w : Value} (hf : fnd LTw pc = some (.dup2, 1, nx, tg)) (hc : v.category = 1) (hc2 : w.category = 1) (k : LM p l e s m below meth c b G nx L (v :: w :: v :: w :: S) (h) (n) (sl)) : LM p l e s m below meth c b G pc L (v :: w :: S) (h) (n) (sl) := by
  intro H locs ls hW hS hl
  obtain ⟨hdg, rfl, htg⟩ := lt_ok LTw_ok hf
  have hx := C.1.1
  have hb := C.1.2.1
  exact lv_dup2_11 hx hb hdg ((cvV_cat _ _).trans hc) ((cvV_cat _ _).trans hc2) (k H locs ls hW hS hl)
theorem lm_icmp_eq (C : LC p s m meth c b Ln xs G) {nx tg : Nat} {x y : Int32} {off : Int} (hf : fnd LTw pc = some (.if_icmp .eq off, 3, nx, tg))  (kt : x = y → LM p l e s m below meth c b G tg L (S) (h) (n) (sl)) (kf : ¬ x = y → LM p l e s m below meth c b G nx L (S) (h) (n) (sl)) : LM p l e s m below meth c b G pc L (.int y :: .int x :: S) (h) (n) (sl) := by
  intro H locs ls hW hS hl
  obtain ⟨hdg, rfl, htg⟩ := lt_ok LTw_ok hf
  have hx := C.1.1
  have hb := C.1.2.1
  exact lv_icmp_eq hx hb hdg (of_decide_eq_true htg) (fun hc => kt hc H locs ls hW hS hl) (fun hc => kf hc H locs ls hW hS hl)
theorem lm_icmp_ne (C : LC p s m meth c b Ln xs G) {nx tg : Nat} {x y : Int32} {off : Int} (hf : fnd LTw pc = some (.if_icmp .ne off, 3, nx, tg))  (kt : ¬ x = y → LM p l e s m below meth c b G tg L (S) (h) (n) (sl)) (kf : x = y → LM p l e s m below meth c b G nx L (S) (h) (n) (sl)) : LM p l e s m below meth c b G pc L (.int y :: .int x :: S) (h) (n) (sl) := by
  intro H locs ls hW hS hl
  obtain ⟨hdg, rfl, htg⟩ := lt_ok LTw_ok hf
  have hx := C.1.1
  have hb := C.1.2.1
  exact lv_icmp_ne hx hb hdg (of_decide_eq_true htg) (fun hc => kt hc H locs ls hW hS hl) (fun hc => kf hc H locs ls hW hS hl)
theorem lm_icmp_lt (C : LC p s m meth c b Ln xs G) {nx tg : Nat} {x y : Int32} {off : Int} (hf : fnd LTw pc = some (.if_icmp .lt off, 3, nx, tg))  (kt : x < y → LM p l e s m below meth c b G tg L (S) (h) (n) (sl)) (kf : ¬ x < y → LM p l e s m below meth c b G nx L (S) (h) (n) (sl)) : LM p l e s m below meth c b G pc L (.int y :: .int x :: S) (h) (n) (sl) := by
  intro H locs ls hW hS hl
  obtain ⟨hdg, rfl, htg⟩ := lt_ok LTw_ok hf
  have hx := C.1.1
  have hb := C.1.2.1
  exact lv_icmp_lt hx hb hdg (of_decide_eq_true htg) (fun hc => kt hc H locs ls hW hS hl) (fun hc => kf hc H locs ls hW hS hl)
theorem lm_icmp_ge (C : LC p s m meth c b Ln xs G) {nx tg : Nat} {x y : Int32} {off : Int} (hf : fnd LTw pc = some (.if_icmp .ge off, 3, nx, tg))  (kt : y ≤ x → LM p l e s m below meth c b G tg L (S) (h) (n) (sl)) (kf : ¬ y ≤ x → LM p l e s m below meth c b G nx L (S) (h) (n) (sl)) : LM p l e s m below meth c b G pc L (.int y :: .int x :: S) (h) (n) (sl) := by
  intro H locs ls hW hS hl
  obtain ⟨hdg, rfl, htg⟩ := lt_ok LTw_ok hf
  have hx := C.1.1
  have hb := C.1.2.1
  exact lv_icmp_ge hx hb hdg (of_decide_eq_true htg) (fun hc => kt hc H locs ls hW hS hl) (fun hc => kf hc H locs ls hW hS hl)
theorem lm_icmp_gt (C : LC p s m meth c b Ln xs G) {nx tg : Nat} {x y : Int32} {off : Int} (hf : fnd LTw pc = some (.if_icmp .gt off, 3, nx, tg))  (kt : y < x → LM p l e s m below meth c b G tg L (S) (h) (n) (sl)) (kf : ¬ y < x → LM p l e s m below meth c b G nx L (S) (h) (n) (sl)) : LM p l e s m below meth c b G pc L (.int y :: .int x :: S) (h) (n) (sl) := by
  intro H locs ls hW hS hl
  obtain ⟨hdg, rfl, htg⟩ := lt_ok LTw_ok hf
  have hx := C.1.1
  have hb := C.1.2.1
  exact lv_icmp_gt hx hb hdg (of_decide_eq_true htg) (fun hc => kt hc H locs ls hW hS hl) (fun hc => kf hc H locs ls hW hS hl)
theorem lm_icmp_le (C : LC p s m meth c b Ln xs G) {nx tg : Nat} {x y : Int32} {off : Int} (hf : fnd LTw pc = some (.if_icmp .le off, 3, nx, tg))  (kt : x ≤ y → LM p l e s m below meth c b G tg L (S) (h) (n) (sl)) (kf : ¬ x ≤ y → LM p l e s m below meth c b G nx L (S) (h) (n) (sl)) : LM p l e s m below meth c b G pc L (.int y :: .int x :: S) (h) (n) (sl) := by
  intro H locs ls hW hS hl
  obtain ⟨hdg, rfl, htg⟩ := lt_ok LTw_ok hf
  have hx := C.1.1
  have hb := C.1.2.1
  exact lv_icmp_le hx hb hdg (of_decide_eq_true htg) (fun hc => kt hc H locs ls hW hS hl) (fun hc => kf hc H locs ls hW hS hl)
theorem lm_if_eq (C : LC p s m meth c b Ln xs G) {nx tg : Nat} {x : Int32} {off : Int} (hf : fnd LTw pc = some (.ifCond .eq off, 3, nx, tg))  (kt : x = 0 → LM p l e s m below meth c b G tg L (S) (h) (n) (sl)) (kf : ¬ x = 0 → LM p l e s m below meth c b G nx L (S) (h) (n) (sl)) : LM p l e s m below meth c b G pc L (.int x :: S) (h) (n) (sl) := by
  intro H locs ls hW hS hl
  obtain ⟨hdg, rfl, htg⟩ := lt_ok LTw_ok hf
  have hx := C.1.1
  have hb := C.1.2.1
  exact lv_if_eq hx hb hdg (of_decide_eq_true htg) (fun hc => kt hc H locs ls hW hS hl) (fun hc => kf hc H locs ls hW hS hl)
theorem lm_if_ne (C : LC p s m meth c b Ln xs G) {nx tg : Nat} {x : Int32} {off : Int} (hf : fnd LTw pc = some (.ifCond .ne off, 3, nx, tg))  (kt : ¬ x = 0 → LM p l e s m below meth c b G tg L (S) (h) (n) (sl)) (kf : x = 0 → LM p l e s m below meth c b G nx L (S) (h) (n) (sl)) : LM p l e s m below meth c b G pc L (.int x :: S) (h) (n) (sl) := by
  intro H locs ls hW hS hl
  obtain ⟨hdg, rfl, htg⟩ := lt_ok LTw_ok hf
  have hx := C.1.1
  have hb := C.1.2.1
  exact lv_if_ne hx hb hdg (of_decide_eq_true htg) (fun hc => kt hc H locs ls hW hS hl) (fun hc => kf hc H locs ls hW hS hl)
theorem lm_if_lt (C : LC p s m meth c b Ln xs G) {nx tg : Nat} {x : Int32} {off : Int} (hf : fnd LTw pc = some (.ifCond .lt off, 3, nx, tg))  (kt : x < 0 → LM p l e s m below meth c b G tg L (S) (h) (n) (sl)) (kf : ¬ x < 0 → LM p l e s m below meth c b G nx L (S) (h) (n) (sl)) : LM p l e s m below meth c b G pc L (.int x :: S) (h) (n) (sl) := by
  intro H locs ls hW hS hl
  obtain ⟨hdg, rfl, htg⟩ := lt_ok LTw_ok hf
  have hx := C.1.1
  have hb := C.1.2.1
  exact lv_if_lt hx hb hdg (of_decide_eq_true htg) (fun hc => kt hc H locs ls hW hS hl) (fun hc => kf hc H locs ls hW hS hl)
theorem lm_if_ge (C : LC p s m meth c b Ln xs G) {nx tg : Nat} {x : Int32} {off : Int} (hf : fnd LTw pc = some (.ifCond .ge off, 3, nx, tg))  (kt : 0 ≤ x → LM p l e s m below meth c b G tg L (S) (h) (n) (sl)) (kf : ¬ 0 ≤ x → LM p l e s m below meth c b G nx L (S) (h) (n) (sl)) : LM p l e s m below meth c b G pc L (.int x :: S) (h) (n) (sl) := by
  intro H locs ls hW hS hl
  obtain ⟨hdg, rfl, htg⟩ := lt_ok LTw_ok hf
  have hx := C.1.1
  have hb := C.1.2.1
  exact lv_if_ge hx hb hdg (of_decide_eq_true htg) (fun hc => kt hc H locs ls hW hS hl) (fun hc => kf hc H locs ls hW hS hl)
theorem lm_if_gt (C : LC p s m meth c b Ln xs G) {nx tg : Nat} {x : Int32} {off : Int} (hf : fnd LTw pc = some (.ifCond .gt off, 3, nx, tg))  (kt : 0 < x → LM p l e s m below meth c b G tg L (S) (h) (n) (sl)) (kf : ¬ 0 < x → LM p l e s m below meth c b G nx L (S) (h) (n) (sl)) : LM p l e s m below meth c b G pc L (.int x :: S) (h) (n) (sl) := by
  intro H locs ls hW hS hl
  obtain ⟨hdg, rfl, htg⟩ := lt_ok LTw_ok hf
  have hx := C.1.1
  have hb := C.1.2.1
  exact lv_if_gt hx hb hdg (of_decide_eq_true htg) (fun hc => kt hc H locs ls hW hS hl) (fun hc => kf hc H locs ls hW hS hl)
theorem lm_if_le (C : LC p s m meth c b Ln xs G) {nx tg : Nat} {x : Int32} {off : Int} (hf : fnd LTw pc = some (.ifCond .le off, 3, nx, tg))  (kt : x ≤ 0 → LM p l e s m below meth c b G tg L (S) (h) (n) (sl)) (kf : ¬ x ≤ 0 → LM p l e s m below meth c b G nx L (S) (h) (n) (sl)) : LM p l e s m below meth c b G pc L (.int x :: S) (h) (n) (sl) := by
  intro H locs ls hW hS hl
  obtain ⟨hdg, rfl, htg⟩ := lt_ok LTw_ok hf
  have hx := C.1.1
  have hb := C.1.2.1
  exact lv_if_le hx hb hdg (of_decide_eq_true htg) (fun hc => kt hc H locs ls hW hS hl) (fun hc => kf hc H locs ls hW hS hl)
theorem lm_goto (C : LC p s m meth c b Ln xs G) {nx tg : Nat} {off : Int} (hf : fnd LTw pc = some (.goto off, 3, nx, tg))  (k : LM p l e s m below meth c b G tg L (S) (h) (n) (sl)) : LM p l e s m below meth c b G pc L (S) (h) (n) (sl) := by
  intro H locs ls hW hS hl
  obtain ⟨hdg, rfl, htg⟩ := lt_ok LTw_ok hf
  have hx := C.1.1
  have hb := C.1.2.1
  exact lv_goto hx hb hdg (of_decide_eq_true htg) (k H locs ls hW hS hl)
theorem lm_iald (C : LC p s m meth c b Ln xs G) {nx tg : Nat} {a N j : Nat} {f : Nat → Int32} (hf : fnd LTw pc = some (.iaload, 1, nx, tg)) (hc : h a = (.inl (.int, N, .inl f))) (hj : j < N) (hN : j < 2147483648) (k : LM p l e s m below meth c b G nx L (.int (f j) :: S) (h) (n) (sl)) : LM p l e s m below meth c b G pc L (.int (nI j) :: .ref a :: S) (h) (n) (sl) := by
  intro H locs ls hW hS hl
  obtain ⟨hdg, rfl, htg⟩ := lt_ok LTw_ok hf
  have hx := C.1.1
  have hb := C.1.2.1
  have hge := hW.at hc dead_l
  have hk2 := k H locs ls hW hS hl
  have hin : vp_in (nI j) N := by rw [vp_in, nI_clamp hN]; exact fun q => q.elim (fun q => nI_pos hN q) (fun q => by omega)
  rw [← nI_clamp hN] at hk2
  exact va_iald (D := G.1) (tys := mTT G) hx hb C.2.1.1 hW.2 a 0 hge rfl hin hdg hk2
theorem lm_iald_v (C : LC p s m meth c b Ln xs G) {nx tg : Nat} {a N j : Nat} {f : Nat → Int32} {v : Int32} (hf : fnd LTw pc = some (.iaload, 1, nx, tg)) (hc : h a = (.inl (.int, N, .inl f))) (hj : j < N) (hN : j < 2147483648) (hv : f j = v) (k : LM p l e s m below meth c b G nx L (.int v :: S) (h) (n) (sl)) : LM p l e s m below meth c b G pc L (.int (nI j) :: .ref a :: S) (h) (n) (sl) := by
  intro H locs ls hW hS hl
  obtain ⟨hdg, rfl, htg⟩ := lt_ok LTw_ok hf
  have hx := C.1.1
  have hb := C.1.2.1
  subst hv
  exact lm_iald C hf hc hj hN k H locs ls hW hS hl
theorem lm_iast (C : LC p s m meth c b Ln xs G) {nx tg : Nat} {a N j : Nat} {f : Nat → Int32} {x : Int32} (hf : fnd LTw pc = some (.iastore, 1, nx, tg)) (hc : h a = (.inl (.int, N, .inl f))) (hj : j < N) (hN : j < 2147483648)  (k : LM p l e s m below meth c b G nx L (S) (hset h a (.inl (.int, N, .inl (upd f j x)))) (n) (sl)) : LM p l e s m below meth c b G pc L (.int x :: .int (nI j) :: .ref a :: S) (h) (n) (sl) := by
  intro H locs ls hW hS hl
  obtain ⟨hdg, rfl, htg⟩ := lt_ok LTw_ok hf
  have hx := C.1.1
  have hb := C.1.2.1
  have hge := hW.at hc dead_l
  have hin : vp_in (nI j) N := by rw [vp_in, nI_clamp hN]; exact fun q => q.elim (fun q => nI_pos hN q) (fun q => by omega)
  refine va_iast (D := G.1) (tys := mTT G) hx hb C.2.1.1 hW.2 (mws_D G _ n) hS a 0 hge rfl hin hdg (fun H1 locs1 hP1 hD1 hS1 => ?_)
  rw [nI_clamp hN] at hP1
  exact k H1 locs1 ls (hW.put _ (hW.lt hc dead_l) hP1) hS1 hl
theorem lm_iinc (C : LC p s m meth c b Ln xs G) {nx tg : Nat} {i : Nat} {j : Int} {x v : Int32} (hf : fnd LTw pc = some (.iinc i j, 3, nx, tg)) (hv : mlkv L i = some (.int x)) (he : x + Int32.ofInt j = v) (hL : (Nat.ble 1 i && Nat.ble (i + 1) 12) = true) (k : LM p l e s m below meth c b G nx (mst L i (.int v)) S h n sl) : LM p l e s m below meth c b G pc L S h n sl := by
  intro H locs ls hW hS hl
  obtain ⟨hdg, rfl, htg⟩ := lt_ok LTw_ok hf
  have hm : (i, Value.int x) ∈ cvL G.2.1 L ++ [(0, .ref b)] := List.mem_append_left _ (List.mem_map.mpr ⟨(i, .int x), mlkv_mem hv, rfl⟩)
  obtain ⟨kq, hkq⟩ := List.getElem?_of_mem hm
  exact lv_iinc C.1.1 C.1.2.1 hdg hl hkq he (lmL hL).2 (mst_cvL G.2.1 L (lmL hL).1 (.int v) b) (fun ls1 hl1 => k H locs ls1 hW hS hl1)
theorem lm_n_ge (C : LC p s m meth c b Ln xs G) {nx tg a b9 : Nat} {off : Int} (hf : fnd LTw pc = some (.if_icmp .ge off, 3, nx, tg)) (ha : a < 2147483648) (hb : b9 < 2147483648) (kt : b9 ≤ a → LM p l e s m below meth c b G tg L S h n sl) (kf : a < b9 → LM p l e s m below meth c b G nx L S h n sl) : LM p l e s m below meth c b G pc L (.int (nI b9) :: .int (nI a) :: S) h n sl :=
  lm_icmp_ge C hf (fun h => kt ((nI_leI hb ha).mp h)) (fun h => kf (Nat.lt_of_not_le fun q => h ((nI_leI hb ha).mpr q)))
theorem lm_n_lt (C : LC p s m meth c b Ln xs G) {nx tg a b9 : Nat} {off : Int} (hf : fnd LTw pc = some (.if_icmp .lt off, 3, nx, tg)) (ha : a < 2147483648) (hb : b9 < 2147483648) (kt : a < b9 → LM p l e s m below meth c b G tg L S h n sl) (kf : b9 ≤ a → LM p l e s m below meth c b G nx L S h n sl) : LM p l e s m below meth c b G pc L (.int (nI b9) :: .int (nI a) :: S) h n sl :=
  lm_icmp_lt C hf (fun h => kt ((nI_ltI ha hb).mp h)) (fun h => kf (Nat.le_of_not_lt fun q => h ((nI_ltI ha hb).mpr q)))
theorem lm_n_gt (C : LC p s m meth c b Ln xs G) {nx tg a b9 : Nat} {off : Int} (hf : fnd LTw pc = some (.if_icmp .gt off, 3, nx, tg)) (ha : a < 2147483648) (hb : b9 < 2147483648) (kt : b9 < a → LM p l e s m below meth c b G tg L S h n sl) (kf : a ≤ b9 → LM p l e s m below meth c b G nx L S h n sl) : LM p l e s m below meth c b G pc L (.int (nI b9) :: .int (nI a) :: S) h n sl :=
  lm_icmp_gt C hf (fun h => kt ((nI_ltI hb ha).mp h)) (fun h => kf (Nat.le_of_not_lt fun q => h ((nI_ltI hb ha).mpr q)))
theorem lm_n_le (C : LC p s m meth c b Ln xs G) {nx tg a b9 : Nat} {off : Int} (hf : fnd LTw pc = some (.if_icmp .le off, 3, nx, tg)) (ha : a < 2147483648) (hb : b9 < 2147483648) (kt : a ≤ b9 → LM p l e s m below meth c b G tg L S h n sl) (kf : b9 < a → LM p l e s m below meth c b G nx L S h n sl) : LM p l e s m below meth c b G pc L (.int (nI b9) :: .int (nI a) :: S) h n sl :=
  lm_icmp_le C hf (fun h => kt ((nI_leI ha hb).mp h)) (fun h => kf (Nat.lt_of_not_le fun q => h ((nI_leI ha hb).mpr q)))
theorem lm_n_eq (C : LC p s m meth c b Ln xs G) {nx tg a b9 : Nat} {off : Int} (hf : fnd LTw pc = some (.if_icmp .eq off, 3, nx, tg)) (ha : a < 2147483648) (hb : b9 < 2147483648) (kt : a = b9 → LM p l e s m below meth c b G tg L S h n sl) (kf : a ≠ b9 → LM p l e s m below meth c b G nx L S h n sl) : LM p l e s m below meth c b G pc L (.int (nI b9) :: .int (nI a) :: S) h n sl :=
  lm_icmp_eq C hf (fun h => kt ((nI_eq ha hb).mp h)) (fun h => kf (fun q => h ((nI_eq ha hb).mpr q)))
theorem lm_n_ne (C : LC p s m meth c b Ln xs G) {nx tg a b9 : Nat} {off : Int} (hf : fnd LTw pc = some (.if_icmp .ne off, 3, nx, tg)) (ha : a < 2147483648) (hb : b9 < 2147483648) (kt : a ≠ b9 → LM p l e s m below meth c b G tg L S h n sl) (kf : a = b9 → LM p l e s m below meth c b G nx L S h n sl) : LM p l e s m below meth c b G pc L (.int (nI b9) :: .int (nI a) :: S) h n sl :=
  lm_icmp_ne C hf (fun h => kt (fun q => h ((nI_eq ha hb).mpr q))) (fun h => kf ((nI_eq ha hb).mp h))
theorem lm_b_eq (C : LC p s m meth c b Ln xs G) {nx tg : Nat} {b9 : Bool} {off : Int} (hf : fnd LTw pc = some (.ifCond .eq off, 3, nx, tg)) (kt : b9 = false → LM p l e s m below meth c b G tg L S h n sl) (kf : b9 = true → LM p l e s m below meth c b G nx L S h n sl) : LM p l e s m below meth c b G pc L (.int (bI b9) :: S) h n sl :=
  lm_if_eq C hf (fun h => kt ((bI_0 b9).mp h)) (fun h => kf (by cases b9; exact absurd rfl h; rfl))
theorem lm_b_ne (C : LC p s m meth c b Ln xs G) {nx tg : Nat} {b9 : Bool} {off : Int} (hf : fnd LTw pc = some (.ifCond .ne off, 3, nx, tg)) (kt : b9 = true → LM p l e s m below meth c b G tg L S h n sl) (kf : b9 = false → LM p l e s m below meth c b G nx L S h n sl) : LM p l e s m below meth c b G pc L (.int (bI b9) :: S) h n sl :=
  lm_if_ne C hf (fun h => kt (by cases b9; exact absurd rfl h; rfl)) (fun h => kf ((bI_0 b9).mp h))
theorem lm_nadd (C : LC p s m meth c b Ln xs G) {nx tg a b9 : Nat} (hf : fnd LTw pc = some (.iadd, 1, nx, tg)) (k : LM p l e s m below meth c b G nx L (.int (nI (a + b9)) :: S) h n sl) : LM p l e s m below meth c b G pc L (.int (nI b9) :: .int (nI a) :: S) h n sl := lm_iadd C hf (by rw [nI_add]; exact k)
theorem lm_nmul (C : LC p s m meth c b Ln xs G) {nx tg a b9 : Nat} (hf : fnd LTw pc = some (.imul, 1, nx, tg)) (k : LM p l e s m below meth c b G nx L (.int (nI (a * b9)) :: S) h n sl) : LM p l e s m below meth c b G pc L (.int (nI b9) :: .int (nI a) :: S) h n sl := lm_imul C hf (by rw [pk_mul]; exact k)
theorem lm_nsub (C : LC p s m meth c b Ln xs G) {nx tg a b9 : Nat} (hf : fnd LTw pc = some (.isub, 1, nx, tg)) (hab : b9 ≤ a) (k : LM p l e s m below meth c b G nx L (.int (nI (a - b9)) :: S) h n sl) : LM p l e s m below meth c b G pc L (.int (nI b9) :: .int (nI a) :: S) h n sl := lm_isub C hf (by rw [pk_sub hab]; exact k)
theorem lm_nrem (C : LC p s m meth c b Ln xs G) {nx tg a b9 : Nat} (hf : fnd LTw pc = some (.irem, 1, nx, tg)) (ha : a < 2147483648) (h0b : 0 < b9) (hb : b9 < 2147483648) (k : LM p l e s m below meth c b G nx L (.int (nI (a % b9)) :: S) h n sl) : LM p l e s m below meth c b G pc L (.int (nI b9) :: .int (nI a) :: S) h n sl := lm_irem C hf (nI_ne0 h0b hb) (by rw [pk_rem ha h0b hb]; exact k)
theorem lm_ninc (C : LC p s m meth c b Ln xs G) {nx tg i a : Nat} (hf : fnd LTw pc = some (.iinc i 1, 3, nx, tg)) (hv : mlkv L i = some (.int (nI a))) (hL : (Nat.ble 1 i && Nat.ble (i + 1) 12) = true) (k : LM p l e s m below meth c b G nx (mst L i (.int (nI (a + 1)))) S h n sl) : LM p l e s m below meth c b G pc L S h n sl := lm_iinc C hf hv (nI_1 a) hL k
theorem lm_z_eq (C : LC p s m meth c b Ln xs G) {a : Nat} {off : Int} (hf : fnd LTw pc = some (.ifCond .eq off, 3, nx, tg)) (ha : a < 2147483648) (kt : a = 0 → LM p l e s m below meth c b G tg L S h n sl) (kf : a ≠ 0 → LM p l e s m below meth c b G nx L S h n sl) : LM p l e s m below meth c b G pc L (.int (nI a) :: S) h n sl := lm_if_eq C hf (fun h => kt ((nI_z ha).mp h)) (fun h => kf (fun q => h ((nI_z ha).mpr q)))
theorem lm_z_ne (C : LC p s m meth c b Ln xs G) {a : Nat} {off : Int} (hf : fnd LTw pc = some (.ifCond .ne off, 3, nx, tg)) (ha : a < 2147483648) (kt : a ≠ 0 → LM p l e s m below meth c b G tg L S h n sl) (kf : a = 0 → LM p l e s m below meth c b G nx L S h n sl) : LM p l e s m below meth c b G pc L (.int (nI a) :: S) h n sl := lm_if_ne C hf (fun h => kt (fun q => h ((nI_z ha).mpr q))) (fun h => kf ((nI_z ha).mp h))
theorem lm_z_gt (C : LC p s m meth c b Ln xs G) {a : Nat} {off : Int} (hf : fnd LTw pc = some (.ifCond .gt off, 3, nx, tg)) (ha : a < 2147483648) (kt : 0 < a → LM p l e s m below meth c b G tg L S h n sl) (kf : a = 0 → LM p l e s m below meth c b G nx L S h n sl) : LM p l e s m below meth c b G pc L (.int (nI a) :: S) h n sl := lm_if_gt C hf (fun h => kt ((nI_ltI (by omega) ha).mp (show nI 0 < nI a from h))) (fun h => kf (Nat.eq_zero_of_not_pos fun q => h ((nI_ltI (a := 0) (by omega) ha).mpr q)))
theorem lm_z_le (C : LC p s m meth c b Ln xs G) {a : Nat} {off : Int} (hf : fnd LTw pc = some (.ifCond .le off, 3, nx, tg)) (ha : a < 2147483648) (kt : a = 0 → LM p l e s m below meth c b G tg L S h n sl) (kf : 0 < a → LM p l e s m below meth c b G nx L S h n sl) : LM p l e s m below meth c b G pc L (.int (nI a) :: S) h n sl := lm_if_le C hf (fun h => kt (Nat.le_zero.mp ((nI_leI ha (by omega)).mp (show nI a ≤ nI 0 from h)))) (fun h => kf (Nat.pos_of_ne_zero fun q => h ((nI_leI (b := 0) ha (by omega)).mpr (Nat.le_of_eq q))))
theorem lm_z_lt (C : LC p s m meth c b Ln xs G) {a : Nat} {off : Int} (hf : fnd LTw pc = some (.ifCond .lt off, 3, nx, tg)) (ha : a < 2147483648) (kt : False → LM p l e s m below meth c b G tg L S h n sl) (kf : True → LM p l e s m below meth c b G nx L S h n sl) : LM p l e s m below meth c b G pc L (.int (nI a) :: S) h n sl := lm_if_lt C hf (fun h => kt (absurd h (nI_pos ha))) (fun h => kf (trivial))
theorem lm_z_ge (C : LC p s m meth c b Ln xs G) {a : Nat} {off : Int} (hf : fnd LTw pc = some (.ifCond .ge off, 3, nx, tg)) (ha : a < 2147483648) (kt : True → LM p l e s m below meth c b G tg L S h n sl) (kf : False → LM p l e s m below meth c b G nx L S h n sl) : LM p l e s m below meth c b G pc L (.int (nI a) :: S) h n sl := lm_if_ge C hf (fun h => kt (trivial)) (fun h => kf (absurd (nI_pos' ha) h))
theorem lm_nshr (C : LC p s m meth c b Ln xs G) {a j : Nat} (hf : fnd LTw pc = some (.ishr, 1, nx, tg)) (ha : a < 2147483648) (hj : j < 31) (k : LM p l e s m below meth c b G nx L (.int (nI (a / 2 ^ j)) :: S) h n sl) : LM p l e s m below meth c b G pc L (.int (nI j) :: .int (nI a) :: S) h n sl := lm_ishr C hf (by rw [pk_shrN ha _ j (sh_amt j hj)]; exact k)
end LAWR
