section MWOPS
variable {M : MI} {d mc ms n0 : Nat} {post : Option Value → (Nat → MC) → Prop} {pc : Nat} {L : List (Nat × Value)} {S : List Value} {h : Nat → MC} {n sl : Nat}
theorem mw_iconst {nx tg : Nat} {i : Int} {v : Int32} (hf : fch M pc = some (.iconst i, 1, nx, tg)) (hv : Int32.ofInt i = v) (k : MW M d mc ms n0 post nx L (.int v :: S) (h) (n) (sl)) : MW M d mc ms n0 post pc L (S) (h) (n) (sl) := by
  intro G p lc e s m args below meth c X H locs ls hn hW hS hl
  obtain ⟨hdg, rfl, htg⟩ := fch_ok X.1 hf
  have hx := X.2.1
  have hb := X.2.2.1
  exact lv_iconst hx hb hdg hv (k G p lc e s m args below meth c X H locs ls hn hW hS hl)
theorem mw_bipush {nx tg : Nat} {i : Int} {v : Int32} (hf : fch M pc = some (.bipush i, 2, nx, tg)) (hv : (Int8.ofInt i).toInt32 = v) (k : MW M d mc ms n0 post nx L (.int v :: S) (h) (n) (sl)) : MW M d mc ms n0 post pc L (S) (h) (n) (sl) := by
  intro G p lc e s m args below meth c X H locs ls hn hW hS hl
  obtain ⟨hdg, rfl, htg⟩ := fch_ok X.1 hf
  have hx := X.2.1
  have hb := X.2.2.1
  exact lv_bipush hx hb hdg hv (k G p lc e s m args below meth c X H locs ls hn hW hS hl)
theorem mw_sipush {nx tg : Nat} {i : Int} {v : Int32} (hf : fch M pc = some (.sipush i, 3, nx, tg)) (hv : (Int16.ofInt i).toInt32 = v) (k : MW M d mc ms n0 post nx L (.int v :: S) (h) (n) (sl)) : MW M d mc ms n0 post pc L (S) (h) (n) (sl) := by
  intro G p lc e s m args below meth c X H locs ls hn hW hS hl
  obtain ⟨hdg, rfl, htg⟩ := fch_ok X.1 hf
  have hx := X.2.1
  have hb := X.2.2.1
  exact lv_sipush hx hb hdg hv (k G p lc e s m args below meth c X H locs ls hn hW hS hl)
theorem mw_lconst {nx tg : Nat} {i : Fin 2} {v : Int64} (hf : fch M pc = some (.lconst i, 1, nx, tg)) (hv : Int64.ofNat (i : Nat) = v) (k : MW M d mc ms n0 post nx L (.long v :: S) (h) (n) (sl)) : MW M d mc ms n0 post pc L (S) (h) (n) (sl) := by
  intro G p lc e s m args below meth c X H locs ls hn hW hS hl
  obtain ⟨hdg, rfl, htg⟩ := fch_ok X.1 hf
  have hx := X.2.1
  have hb := X.2.2.1
  exact lv_lconst hx hb hdg hv (k G p lc e s m args below meth c X H locs ls hn hW hS hl)
theorem mw_fconst0 {nx tg : Nat}  (hf : fch M pc = some (.fconst 0, 1, nx, tg))  (k : MW M d mc ms n0 post nx L (.float FP.fconst0 :: S) (h) (n) (sl)) : MW M d mc ms n0 post pc L (S) (h) (n) (sl) := by
  intro G p lc e s m args below meth c X H locs ls hn hW hS hl
  obtain ⟨hdg, rfl, htg⟩ := fch_ok X.1 hf
  have hx := X.2.1
  have hb := X.2.2.1
  exact lv_fconst0 hx hb hdg (k G p lc e s m args below meth c X H locs ls hn hW hS hl)
theorem mw_fconst1 {nx tg : Nat}  (hf : fch M pc = some (.fconst 1, 1, nx, tg))  (k : MW M d mc ms n0 post nx L (.float FP.fconst1 :: S) (h) (n) (sl)) : MW M d mc ms n0 post pc L (S) (h) (n) (sl) := by
  intro G p lc e s m args below meth c X H locs ls hn hW hS hl
  obtain ⟨hdg, rfl, htg⟩ := fch_ok X.1 hf
  have hx := X.2.1
  have hb := X.2.2.1
  exact lv_fconst1 hx hb hdg (k G p lc e s m args below meth c X H locs ls hn hW hS hl)
theorem mw_fconst2 {nx tg : Nat}  (hf : fch M pc = some (.fconst 2, 1, nx, tg))  (k : MW M d mc ms n0 post nx L (.float FP.fconst2 :: S) (h) (n) (sl)) : MW M d mc ms n0 post pc L (S) (h) (n) (sl) := by
  intro G p lc e s m args below meth c X H locs ls hn hW hS hl
  obtain ⟨hdg, rfl, htg⟩ := fch_ok X.1 hf
  have hx := X.2.1
  have hb := X.2.2.1
  exact lv_fconst2 hx hb hdg (k G p lc e s m args below meth c X H locs ls hn hW hS hl)
theorem mw_iload_n {nx tg : Nat} {q : Fin 4} {i : Nat} {x : Int32} (hf : fch M pc = some (.iload_n q, 1, nx, tg)) (hi : (q : Nat) = i) (hv : mlkv L i = some (.int x)) (k : MW M d mc ms n0 post nx L (.int x :: S) (h) (n) (sl)) : MW M d mc ms n0 post pc L (S) (h) (n) (sl) := by
  intro G p lc e s m args below meth c X H locs ls hn hW hS hl
  obtain ⟨hdg, rfl, htg⟩ := fch_ok X.1 hf
  have hx := X.2.1
  have hb := X.2.2.1
  exact lv_iload_n hx hb hdg hi (mat hl hv) (k G p lc e s m args below meth c X H locs ls hn hW hS hl)
theorem mw_iload {nx tg : Nat} {i : Nat} {x : Int32} (hf : fch M pc = some (.iload i, 2, nx, tg)) (hv : mlkv L i = some (.int x)) (k : MW M d mc ms n0 post nx L (.int x :: S) (h) (n) (sl)) : MW M d mc ms n0 post pc L (S) (h) (n) (sl) := by
  intro G p lc e s m args below meth c X H locs ls hn hW hS hl
  obtain ⟨hdg, rfl, htg⟩ := fch_ok X.1 hf
  have hx := X.2.1
  have hb := X.2.2.1
  exact lv_iload hx hb hdg (mat hl hv) (k G p lc e s m args below meth c X H locs ls hn hW hS hl)
theorem mw_istore_n {nx tg : Nat} {q : Fin 4} {i : Nat} {x : Int32} (hf : fch M pc = some (.istore_n q, 1, nx, tg)) (hi : (q : Nat) = i) (hL : i < M.2.2.1) (k : MW M d mc ms n0 post nx (mst L i (.int x)) (S) (h) (n) (sl)) : MW M d mc ms n0 post pc L (.int x :: S) (h) (n) (sl) := by
  intro G p lc e s m args below meth c X H locs ls hn hW hS hl
  obtain ⟨hdg, rfl, htg⟩ := fch_ok X.1 hf
  have hx := X.2.1
  have hb := X.2.2.1
  exact lv_istore_n hx hb hdg hi hl hL (mst_cv G.2.1 L i (.int x)) (fun ls1 hl1 => k G p lc e s m args below meth c X H locs ls1 hn hW hS hl1)
theorem mw_istore {nx tg : Nat} {i : Nat} {x : Int32} (hf : fch M pc = some (.istore i, 2, nx, tg)) (hL : i < M.2.2.1) (k : MW M d mc ms n0 post nx (mst L i (.int x)) (S) (h) (n) (sl)) : MW M d mc ms n0 post pc L (.int x :: S) (h) (n) (sl) := by
  intro G p lc e s m args below meth c X H locs ls hn hW hS hl
  obtain ⟨hdg, rfl, htg⟩ := fch_ok X.1 hf
  have hx := X.2.1
  have hb := X.2.2.1
  exact lv_istore hx hb hdg hl hL (mst_cv G.2.1 L i (.int x)) (fun ls1 hl1 => k G p lc e s m args below meth c X H locs ls1 hn hW hS hl1)
theorem mw_lload_n {nx tg : Nat} {q : Fin 4} {i : Nat} {x : Int64} (hf : fch M pc = some (.lload_n q, 1, nx, tg)) (hi : (q : Nat) = i) (hv : mlkv L i = some (.long x)) (k : MW M d mc ms n0 post nx L (.long x :: S) (h) (n) (sl)) : MW M d mc ms n0 post pc L (S) (h) (n) (sl) := by
  intro G p lc e s m args below meth c X H locs ls hn hW hS hl
  obtain ⟨hdg, rfl, htg⟩ := fch_ok X.1 hf
  have hx := X.2.1
  have hb := X.2.2.1
  exact lv_lload_n hx hb hdg hi (mat hl hv) (k G p lc e s m args below meth c X H locs ls hn hW hS hl)
theorem mw_lload {nx tg : Nat} {i : Nat} {x : Int64} (hf : fch M pc = some (.lload i, 2, nx, tg)) (hv : mlkv L i = some (.long x)) (k : MW M d mc ms n0 post nx L (.long x :: S) (h) (n) (sl)) : MW M d mc ms n0 post pc L (S) (h) (n) (sl) := by
  intro G p lc e s m args below meth c X H locs ls hn hW hS hl
  obtain ⟨hdg, rfl, htg⟩ := fch_ok X.1 hf
  have hx := X.2.1
  have hb := X.2.2.1
  exact lv_lload hx hb hdg (mat hl hv) (k G p lc e s m args below meth c X H locs ls hn hW hS hl)
theorem mw_lstore_n {nx tg : Nat} {q : Fin 4} {i : Nat} {x : Int64} (hf : fch M pc = some (.lstore_n q, 1, nx, tg)) (hi : (q : Nat) = i) (hL : i + 1 < M.2.2.1) (k : MW M d mc ms n0 post nx (mst2 L i (.long x)) (S) (h) (n) (sl)) : MW M d mc ms n0 post pc L (.long x :: S) (h) (n) (sl) := by
  intro G p lc e s m args below meth c X H locs ls hn hW hS hl
  obtain ⟨hdg, rfl, htg⟩ := fch_ok X.1 hf
  have hx := X.2.1
  have hb := X.2.2.1
  exact lv_lstore_n hx hb hdg hi hl hL (mst2_cv G.2.1 L i (.long x)) (fun ls1 hl1 => k G p lc e s m args below meth c X H locs ls1 hn hW hS hl1)
theorem mw_lstore {nx tg : Nat} {i : Nat} {x : Int64} (hf : fch M pc = some (.lstore i, 2, nx, tg)) (hL : i + 1 < M.2.2.1) (k : MW M d mc ms n0 post nx (mst2 L i (.long x)) (S) (h) (n) (sl)) : MW M d mc ms n0 post pc L (.long x :: S) (h) (n) (sl) := by
  intro G p lc e s m args below meth c X H locs ls hn hW hS hl
  obtain ⟨hdg, rfl, htg⟩ := fch_ok X.1 hf
  have hx := X.2.1
  have hb := X.2.2.1
  exact lv_lstore hx hb hdg hl hL (mst2_cv G.2.1 L i (.long x)) (fun ls1 hl1 => k G p lc e s m args below meth c X H locs ls1 hn hW hS hl1)
theorem mw_fload_n {nx tg : Nat} {q : Fin 4} {i : Nat} {x : UInt32} (hf : fch M pc = some (.fload_n q, 1, nx, tg)) (hi : (q : Nat) = i) (hv : mlkv L i = some (.float x)) (k : MW M d mc ms n0 post nx L (.float x :: S) (h) (n) (sl)) : MW M d mc ms n0 post pc L (S) (h) (n) (sl) := by
  intro G p lc e s m args below meth c X H locs ls hn hW hS hl
  obtain ⟨hdg, rfl, htg⟩ := fch_ok X.1 hf
  have hx := X.2.1
  have hb := X.2.2.1
  exact lv_fload_n hx hb hdg hi (mat hl hv) (k G p lc e s m args below meth c X H locs ls hn hW hS hl)
theorem mw_fload {nx tg : Nat} {i : Nat} {x : UInt32} (hf : fch M pc = some (.fload i, 2, nx, tg)) (hv : mlkv L i = some (.float x)) (k : MW M d mc ms n0 post nx L (.float x :: S) (h) (n) (sl)) : MW M d mc ms n0 post pc L (S) (h) (n) (sl) := by
  intro G p lc e s m args below meth c X H locs ls hn hW hS hl
  obtain ⟨hdg, rfl, htg⟩ := fch_ok X.1 hf
  have hx := X.2.1
  have hb := X.2.2.1
  exact lv_fload hx hb hdg (mat hl hv) (k G p lc e s m args below meth c X H locs ls hn hW hS hl)
theorem mw_fstore_n {nx tg : Nat} {q : Fin 4} {i : Nat} {x : UInt32} (hf : fch M pc = some (.fstore_n q, 1, nx, tg)) (hi : (q : Nat) = i) (hL : i < M.2.2.1) (k : MW M d mc ms n0 post nx (mst L i (.float x)) (S) (h) (n) (sl)) : MW M d mc ms n0 post pc L (.float x :: S) (h) (n) (sl) := by
  intro G p lc e s m args below meth c X H locs ls hn hW hS hl
  obtain ⟨hdg, rfl, htg⟩ := fch_ok X.1 hf
  have hx := X.2.1
  have hb := X.2.2.1
  exact lv_fstore_n hx hb hdg hi hl hL (mst_cv G.2.1 L i (.float x)) (fun ls1 hl1 => k G p lc e s m args below meth c X H locs ls1 hn hW hS hl1)
theorem mw_fstore {nx tg : Nat} {i : Nat} {x : UInt32} (hf : fch M pc = some (.fstore i, 2, nx, tg)) (hL : i < M.2.2.1) (k : MW M d mc ms n0 post nx (mst L i (.float x)) (S) (h) (n) (sl)) : MW M d mc ms n0 post pc L (.float x :: S) (h) (n) (sl) := by
  intro G p lc e s m args below meth c X H locs ls hn hW hS hl
  obtain ⟨hdg, rfl, htg⟩ := fch_ok X.1 hf
  have hx := X.2.1
  have hb := X.2.2.1
  exact lv_fstore hx hb hdg hl hL (mst_cv G.2.1 L i (.float x)) (fun ls1 hl1 => k G p lc e s m args below meth c X H locs ls1 hn hW hS hl1)
theorem mw_aload_n {nx tg : Nat} {q : Fin 4} {i : Nat} {x : Nat} (hf : fch M pc = some (.aload_n q, 1, nx, tg)) (hi : (q : Nat) = i) (hv : mlkv L i = some (.ref x)) (k : MW M d mc ms n0 post nx L (.ref x :: S) (h) (n) (sl)) : MW M d mc ms n0 post pc L (S) (h) (n) (sl) := by
  intro G p lc e s m args below meth c X H locs ls hn hW hS hl
  obtain ⟨hdg, rfl, htg⟩ := fch_ok X.1 hf
  have hx := X.2.1
  have hb := X.2.2.1
  exact lv_aload_n hx hb hdg hi (mat hl hv) (k G p lc e s m args below meth c X H locs ls hn hW hS hl)
theorem mw_aload {nx tg : Nat} {i : Nat} {x : Nat} (hf : fch M pc = some (.aload i, 2, nx, tg)) (hv : mlkv L i = some (.ref x)) (k : MW M d mc ms n0 post nx L (.ref x :: S) (h) (n) (sl)) : MW M d mc ms n0 post pc L (S) (h) (n) (sl) := by
  intro G p lc e s m args below meth c X H locs ls hn hW hS hl
  obtain ⟨hdg, rfl, htg⟩ := fch_ok X.1 hf
  have hx := X.2.1
  have hb := X.2.2.1
  exact lv_aload hx hb hdg (mat hl hv) (k G p lc e s m args below meth c X H locs ls hn hW hS hl)
theorem mw_astore_n {nx tg : Nat} {q : Fin 4} {i : Nat} {x : Nat} (hf : fch M pc = some (.astore_n q, 1, nx, tg)) (hi : (q : Nat) = i) (hL : i < M.2.2.1) (k : MW M d mc ms n0 post nx (mst L i (.ref x)) (S) (h) (n) (sl)) : MW M d mc ms n0 post pc L (.ref x :: S) (h) (n) (sl) := by
  intro G p lc e s m args below meth c X H locs ls hn hW hS hl
  obtain ⟨hdg, rfl, htg⟩ := fch_ok X.1 hf
  have hx := X.2.1
  have hb := X.2.2.1
  exact lv_astore_n hx hb hdg hi hl hL (mst_cv G.2.1 L i (.ref x)) (fun ls1 hl1 => k G p lc e s m args below meth c X H locs ls1 hn hW hS hl1)
theorem mw_astore {nx tg : Nat} {i : Nat} {x : Nat} (hf : fch M pc = some (.astore i, 2, nx, tg)) (hL : i < M.2.2.1) (k : MW M d mc ms n0 post nx (mst L i (.ref x)) (S) (h) (n) (sl)) : MW M d mc ms n0 post pc L (.ref x :: S) (h) (n) (sl) := by
  intro G p lc e s m args below meth c X H locs ls hn hW hS hl
  obtain ⟨hdg, rfl, htg⟩ := fch_ok X.1 hf
  have hx := X.2.1
  have hb := X.2.2.1
  exact lv_astore hx hb hdg hl hL (mst_cv G.2.1 L i (.ref x)) (fun ls1 hl1 => k G p lc e s m args below meth c X H locs ls1 hn hW hS hl1)
theorem mw_iinc {nx tg : Nat} {i : Nat} {j : Int} {x v : Int32} (hf : fch M pc = some (.iinc i j, 3, nx, tg)) (hv : mlkv L i = some (.int x)) (he : x + Int32.ofInt j = v) (hL : i < M.2.2.1) (k : MW M d mc ms n0 post nx (mst L i (.int v)) (S) (h) (n) (sl)) : MW M d mc ms n0 post pc L (S) (h) (n) (sl) := by
  intro G p lc e s m args below meth c X H locs ls hn hW hS hl
  obtain ⟨hdg, rfl, htg⟩ := fch_ok X.1 hf
  have hx := X.2.1
  have hb := X.2.2.1
  obtain ⟨kq, hkq⟩ := List.getElem?_of_mem (mlkv_mem hv)
  have hkq : (cvL G.2.1 L)[kq]? = some (i, .int x) := by rw [cvL, List.getElem?_map, hkq]; rfl
  exact lv_iinc hx hb hdg hl hkq he hL (mst_cv G.2.1 L i (.int v)) (fun ls1 hl1 => k G p lc e s m args below meth c X H locs ls1 hn hW hS hl1)
theorem mw_iadd {nx tg : Nat} {x y : Int32} (hf : fch M pc = some (.iadd, 1, nx, tg))  (k : MW M d mc ms n0 post nx L (.int (x + y) :: S) (h) (n) (sl)) : MW M d mc ms n0 post pc L (.int y :: .int x :: S) (h) (n) (sl) := by
  intro G p lc e s m args below meth c X H locs ls hn hW hS hl
  obtain ⟨hdg, rfl, htg⟩ := fch_ok X.1 hf
  have hx := X.2.1
  have hb := X.2.2.1
  exact lv_iadd hx hb hdg (k G p lc e s m args below meth c X H locs ls hn hW hS hl)
theorem mw_isub {nx tg : Nat} {x y : Int32} (hf : fch M pc = some (.isub, 1, nx, tg))  (k : MW M d mc ms n0 post nx L (.int (x - y) :: S) (h) (n) (sl)) : MW M d mc ms n0 post pc L (.int y :: .int x :: S) (h) (n) (sl) := by
  intro G p lc e s m args below meth c X H locs ls hn hW hS hl
  obtain ⟨hdg, rfl, htg⟩ := fch_ok X.1 hf
  have hx := X.2.1
  have hb := X.2.2.1
  exact lv_isub hx hb hdg (k G p lc e s m args below meth c X H locs ls hn hW hS hl)
theorem mw_imul {nx tg : Nat} {x y : Int32} (hf : fch M pc = some (.imul, 1, nx, tg))  (k : MW M d mc ms n0 post nx L (.int (x * y) :: S) (h) (n) (sl)) : MW M d mc ms n0 post pc L (.int y :: .int x :: S) (h) (n) (sl) := by
  intro G p lc e s m args below meth c X H locs ls hn hW hS hl
  obtain ⟨hdg, rfl, htg⟩ := fch_ok X.1 hf
  have hx := X.2.1
  have hb := X.2.2.1
  exact lv_imul hx hb hdg (k G p lc e s m args below meth c X H locs ls hn hW hS hl)
theorem mw_iand {nx tg : Nat} {x y : Int32} (hf : fch M pc = some (.iand, 1, nx, tg))  (k : MW M d mc ms n0 post nx L (.int (x &&& y) :: S) (h) (n) (sl)) : MW M d mc ms n0 post pc L (.int y :: .int x :: S) (h) (n) (sl) := by
  intro G p lc e s m args below meth c X H locs ls hn hW hS hl
  obtain ⟨hdg, rfl, htg⟩ := fch_ok X.1 hf
  have hx := X.2.1
  have hb := X.2.2.1
  exact lv_iand hx hb hdg (k G p lc e s m args below meth c X H locs ls hn hW hS hl)
theorem mw_ior {nx tg : Nat} {x y : Int32} (hf : fch M pc = some (.ior, 1, nx, tg))  (k : MW M d mc ms n0 post nx L (.int (x ||| y) :: S) (h) (n) (sl)) : MW M d mc ms n0 post pc L (.int y :: .int x :: S) (h) (n) (sl) := by
  intro G p lc e s m args below meth c X H locs ls hn hW hS hl
  obtain ⟨hdg, rfl, htg⟩ := fch_ok X.1 hf
  have hx := X.2.1
  have hb := X.2.2.1
  exact lv_ior hx hb hdg (k G p lc e s m args below meth c X H locs ls hn hW hS hl)
theorem mw_ixor {nx tg : Nat} {x y : Int32} (hf : fch M pc = some (.ixor, 1, nx, tg))  (k : MW M d mc ms n0 post nx L (.int (x ^^^ y) :: S) (h) (n) (sl)) : MW M d mc ms n0 post pc L (.int y :: .int x :: S) (h) (n) (sl) := by
  intro G p lc e s m args below meth c X H locs ls hn hW hS hl
  obtain ⟨hdg, rfl, htg⟩ := fch_ok X.1 hf
  have hx := X.2.1
  have hb := X.2.2.1
  exact lv_ixor hx hb hdg (k G p lc e s m args below meth c X H locs ls hn hW hS hl)
theorem mw_ishl {nx tg : Nat} {x y : Int32} (hf : fch M pc = some (.ishl, 1, nx, tg))  (k : MW M d mc ms n0 post nx L (.int (x <<< (y &&& 31)) :: S) (h) (n) (sl)) : MW M d mc ms n0 post pc L (.int y :: .int x :: S) (h) (n) (sl) := by
  intro G p lc e s m args below meth c X H locs ls hn hW hS hl
  obtain ⟨hdg, rfl, htg⟩ := fch_ok X.1 hf
  have hx := X.2.1
  have hb := X.2.2.1
  exact lv_ishl hx hb hdg (k G p lc e s m args below meth c X H locs ls hn hW hS hl)
theorem mw_ishr {nx tg : Nat} {x y : Int32} (hf : fch M pc = some (.ishr, 1, nx, tg))  (k : MW M d mc ms n0 post nx L (.int (x >>> (y &&& 31)) :: S) (h) (n) (sl)) : MW M d mc ms n0 post pc L (.int y :: .int x :: S) (h) (n) (sl) := by
  intro G p lc e s m args below meth c X H locs ls hn hW hS hl
  obtain ⟨hdg, rfl, htg⟩ := fch_ok X.1 hf
  have hx := X.2.1
  have hb := X.2.2.1
  exact lv_ishr hx hb hdg (k G p lc e s m args below meth c X H locs ls hn hW hS hl)
theorem mw_ladd {nx tg : Nat} {x y : Int64} (hf : fch M pc = some (.ladd, 1, nx, tg))  (k : MW M d mc ms n0 post nx L (.long (x + y) :: S) (h) (n) (sl)) : MW M d mc ms n0 post pc L (.long y :: .long x :: S) (h) (n) (sl) := by
  intro G p lc e s m args below meth c X H locs ls hn hW hS hl
  obtain ⟨hdg, rfl, htg⟩ := fch_ok X.1 hf
  have hx := X.2.1
  have hb := X.2.2.1
  exact lv_ladd hx hb hdg (k G p lc e s m args below meth c X H locs ls hn hW hS hl)
theorem mw_lmul {nx tg : Nat} {x y : Int64} (hf : fch M pc = some (.lmul, 1, nx, tg))  (k : MW M d mc ms n0 post nx L (.long (x * y) :: S) (h) (n) (sl)) : MW M d mc ms n0 post pc L (.long y :: .long x :: S) (h) (n) (sl) := by
  intro G p lc e s m args below meth c X H locs ls hn hW hS hl
  obtain ⟨hdg, rfl, htg⟩ := fch_ok X.1 hf
  have hx := X.2.1
  have hb := X.2.2.1
  exact lv_lmul hx hb hdg (k G p lc e s m args below meth c X H locs ls hn hW hS hl)
theorem mw_land {nx tg : Nat} {x y : Int64} (hf : fch M pc = some (.land, 1, nx, tg))  (k : MW M d mc ms n0 post nx L (.long (x &&& y) :: S) (h) (n) (sl)) : MW M d mc ms n0 post pc L (.long y :: .long x :: S) (h) (n) (sl) := by
  intro G p lc e s m args below meth c X H locs ls hn hW hS hl
  obtain ⟨hdg, rfl, htg⟩ := fch_ok X.1 hf
  have hx := X.2.1
  have hb := X.2.2.1
  exact lv_land hx hb hdg (k G p lc e s m args below meth c X H locs ls hn hW hS hl)
theorem mw_lor {nx tg : Nat} {x y : Int64} (hf : fch M pc = some (.lor, 1, nx, tg))  (k : MW M d mc ms n0 post nx L (.long (x ||| y) :: S) (h) (n) (sl)) : MW M d mc ms n0 post pc L (.long y :: .long x :: S) (h) (n) (sl) := by
  intro G p lc e s m args below meth c X H locs ls hn hW hS hl
  obtain ⟨hdg, rfl, htg⟩ := fch_ok X.1 hf
  have hx := X.2.1
  have hb := X.2.2.1
  exact lv_lor hx hb hdg (k G p lc e s m args below meth c X H locs ls hn hW hS hl)
theorem mw_idiv {nx tg : Nat} {x y : Int32} (hf : fch M pc = some (.idiv, 1, nx, tg)) (hne : ¬ y = 0) (k : MW M d mc ms n0 post nx L (.int (x / y) :: S) (h) (n) (sl)) : MW M d mc ms n0 post pc L (.int y :: .int x :: S) (h) (n) (sl) := by
  intro G p lc e s m args below meth c X H locs ls hn hW hS hl
  obtain ⟨hdg, rfl, htg⟩ := fch_ok X.1 hf
  have hx := X.2.1
  have hb := X.2.2.1
  exact lv_idiv hx hb hdg hne (k G p lc e s m args below meth c X H locs ls hn hW hS hl)
theorem mw_irem {nx tg : Nat} {x y : Int32} (hf : fch M pc = some (.irem, 1, nx, tg)) (hne : ¬ y = 0) (k : MW M d mc ms n0 post nx L (.int (x - x / y * y) :: S) (h) (n) (sl)) : MW M d mc ms n0 post pc L (.int y :: .int x :: S) (h) (n) (sl) := by
  intro G p lc e s m args below meth c X H locs ls hn hW hS hl
  obtain ⟨hdg, rfl, htg⟩ := fch_ok X.1 hf
  have hx := X.2.1
  have hb := X.2.2.1
  exact lv_irem hx hb hdg hne (k G p lc e s m args below meth c X H locs ls hn hW hS hl)
theorem mw_fmul {nx tg : Nat} {x y : UInt32} (hf : fch M pc = some (.fmul, 1, nx, tg)) (hne : vf_n32 (FP.fmul x y)) (k : MW M d mc ms n0 post nx L (.float (FP.fmul x y) :: S) (h) (n) (sl)) : MW M d mc ms n0 post pc L (.float y :: .float x :: S) (h) (n) (sl) := by
  intro G p lc e s m args below meth c X H locs ls hn hW hS hl
  obtain ⟨hdg, rfl, htg⟩ := fch_ok X.1 hf
  have hx := X.2.1
  have hb := X.2.2.1
  exact lv_fmul hx hb hdg hne (k G p lc e s m args below meth c X H locs ls hn hW hS hl)
theorem mw_fdiv {nx tg : Nat} {x y : UInt32} (hf : fch M pc = some (.fdiv, 1, nx, tg)) (hne : vf_n32 (FP.fdiv x y)) (k : MW M d mc ms n0 post nx L (.float (FP.fdiv x y) :: S) (h) (n) (sl)) : MW M d mc ms n0 post pc L (.float y :: .float x :: S) (h) (n) (sl) := by
  intro G p lc e s m args below meth c X H locs ls hn hW hS hl
  obtain ⟨hdg, rfl, htg⟩ := fch_ok X.1 hf
  have hx := X.2.1
  have hb := X.2.2.1
  exact lv_fdiv hx hb hdg hne (k G p lc e s m args below meth c X H locs ls hn hW hS hl)
theorem mw_fsub {nx tg : Nat} {x y : UInt32} (hf : fch M pc = some (.fsub, 1, nx, tg)) (hne : vf_n32 (FP.fsub x y)) (k : MW M d mc ms n0 post nx L (.float (FP.fsub x y) :: S) (h) (n) (sl)) : MW M d mc ms n0 post pc L (.float y :: .float x :: S) (h) (n) (sl) := by
  intro G p lc e s m args below meth c X H locs ls hn hW hS hl
  obtain ⟨hdg, rfl, htg⟩ := fch_ok X.1 hf
  have hx := X.2.1
  have hb := X.2.2.1
  exact lv_fsub hx hb hdg hne (k G p lc e s m args below meth c X H locs ls hn hW hS hl)
theorem mw_fcmp {nx tg : Nat} {x y : UInt32} {op : CmpOp} (hf : fch M pc = some (.fcmp op, 1, nx, tg))  (k : MW M d mc ms n0 post nx L (.int (Op.cmpValue (FP.fcmp x y) op) :: S) (h) (n) (sl)) : MW M d mc ms n0 post pc L (.float y :: .float x :: S) (h) (n) (sl) := by
  intro G p lc e s m args below meth c X H locs ls hn hW hS hl
  obtain ⟨hdg, rfl, htg⟩ := fch_ok X.1 hf
  have hx := X.2.1
  have hb := X.2.2.1
  exact lv_fcmp hx hb hdg (k G p lc e s m args below meth c X H locs ls hn hW hS hl)
theorem mw_lcmp {nx tg : Nat} {x y : Int64} (hf : fch M pc = some (.lcmp, 1, nx, tg))  (k : MW M d mc ms n0 post nx L (.int (lg_cmp x y) :: S) (h) (n) (sl)) : MW M d mc ms n0 post pc L (.long y :: .long x :: S) (h) (n) (sl) := by
  intro G p lc e s m args below meth c X H locs ls hn hW hS hl
  obtain ⟨hdg, rfl, htg⟩ := fch_ok X.1 hf
  have hx := X.2.1
  have hb := X.2.2.1
  exact W.lcmp hx hb hdg (k G p lc e s m args below meth c X H locs ls hn hW hS hl)
theorem mw_i2f {nx tg : Nat} {x : Int32} (hf : fch M pc = some (.i2f, 1, nx, tg))  (k : MW M d mc ms n0 post nx L (.float (FP.i2f x) :: S) (h) (n) (sl)) : MW M d mc ms n0 post pc L (.int x :: S) (h) (n) (sl) := by
  intro G p lc e s m args below meth c X H locs ls hn hW hS hl
  obtain ⟨hdg, rfl, htg⟩ := fch_ok X.1 hf
  have hx := X.2.1
  have hb := X.2.2.1
  exact lv_i2f hx hb hdg (k G p lc e s m args below meth c X H locs ls hn hW hS hl)
theorem mw_f2i {nx tg : Nat} {x : UInt32} (hf : fch M pc = some (.f2i, 1, nx, tg))  (k : MW M d mc ms n0 post nx L (.int (FP.f2i x) :: S) (h) (n) (sl)) : MW M d mc ms n0 post pc L (.float x :: S) (h) (n) (sl) := by
  intro G p lc e s m args below meth c X H locs ls hn hW hS hl
  obtain ⟨hdg, rfl, htg⟩ := fch_ok X.1 hf
  have hx := X.2.1
  have hb := X.2.2.1
  exact lv_f2i hx hb hdg (k G p lc e s m args below meth c X H locs ls hn hW hS hl)
theorem mw_i2l {nx tg : Nat} {x : Int32} (hf : fch M pc = some (.i2l, 1, nx, tg))  (k : MW M d mc ms n0 post nx L (.long x.toInt64 :: S) (h) (n) (sl)) : MW M d mc ms n0 post pc L (.int x :: S) (h) (n) (sl) := by
  intro G p lc e s m args below meth c X H locs ls hn hW hS hl
  obtain ⟨hdg, rfl, htg⟩ := fch_ok X.1 hf
  have hx := X.2.1
  have hb := X.2.2.1
  exact lv_i2l hx hb hdg rfl (k G p lc e s m args below meth c X H locs ls hn hW hS hl)
theorem mw_lushr {nx tg : Nat} {x : Int64} {y : Int32} (hf : fch M pc = some (.lushr, 1, nx, tg))  (k : MW M d mc ms n0 post nx L (.long (x.toUInt64 >>> (y.toInt64.toUInt64 &&& Int64.toUInt64 63)).toInt64 :: S) (h) (n) (sl)) : MW M d mc ms n0 post pc L (.int y :: .long x :: S) (h) (n) (sl) := by
  intro G p lc e s m args below meth c X H locs ls hn hW hS hl
  obtain ⟨hdg, rfl, htg⟩ := fch_ok X.1 hf
  have hx := X.2.1
  have hb := X.2.2.1
  exact lv_lushr hx hb hdg rfl (k G p lc e s m args below meth c X H locs ls hn hW hS hl)
theorem mw_lshl {nx tg : Nat} {x : Int64} {y : Int32} (hf : fch M pc = some (.lshl, 1, nx, tg))  (k : MW M d mc ms n0 post nx L (.long (x <<< (y.toInt64 &&& 63)) :: S) (h) (n) (sl)) : MW M d mc ms n0 post pc L (.int y :: .long x :: S) (h) (n) (sl) := by
  intro G p lc e s m args below meth c X H locs ls hn hW hS hl
  obtain ⟨hdg, rfl, htg⟩ := fch_ok X.1 hf
  have hx := X.2.1
  have hb := X.2.2.1
  exact lv_lshl hx hb hdg rfl (k G p lc e s m args below meth c X H locs ls hn hW hS hl)
theorem mw_dup {nx tg : Nat} {v : Value} (hf : fch M pc = some (.dup, 1, nx, tg)) (hc : v.category = 1) (k : MW M d mc ms n0 post nx L (v :: v :: S) (h) (n) (sl)) : MW M d mc ms n0 post pc L (v :: S) (h) (n) (sl) := by
  intro G p lc e s m args below meth c X H locs ls hn hW hS hl
  obtain ⟨hdg, rfl, htg⟩ := fch_ok X.1 hf
  have hx := X.2.1
  have hb := X.2.2.1
  exact lv_dup hx hb hdg ((cvV_cat _ _).trans hc) (k G p lc e s m args below meth c X H locs ls hn hW hS hl)
theorem mw_pop {nx tg : Nat} {v : Value} (hf : fch M pc = some (.pop, 1, nx, tg)) (hc : v.category = 1) (k : MW M d mc ms n0 post nx L (S) (h) (n) (sl)) : MW M d mc ms n0 post pc L (v :: S) (h) (n) (sl) := by
  intro G p lc e s m args below meth c X H locs ls hn hW hS hl
  obtain ⟨hdg, rfl, htg⟩ := fch_ok X.1 hf
  have hx := X.2.1
  have hb := X.2.2.1
  exact lv_pop hx hb hdg ((cvV_cat _ _).trans hc) (k G p lc e s m args below meth c X H locs ls hn hW hS hl)
theorem mw_dup2 {nx tg : Nat} {v w : Value} (hf : fch M pc = some (.dup2, 1, nx, tg)) (hc : v.category = 1) (hc2 : w.category = 1) (k : MW M d mc ms n0 post nx L (v :: w :: v :: w :: S) (h) (n) (sl)) : MW M d mc ms n0 post pc L (v :: w :: S) (h) (n) (sl) := by
  intro G p lc e s m args below meth c X H locs ls hn hW hS hl
  obtain ⟨hdg, rfl, htg⟩ := fch_ok X.1 hf
  have hx := X.2.1
  have hb := X.2.2.1
  exact lv_dup2_11 hx hb hdg ((cvV_cat _ _).trans hc) ((cvV_cat _ _).trans hc2) (k G p lc e s m args below meth c X H locs ls hn hW hS hl)
theorem mw_icmp_eq {nx tg : Nat} {x y : Int32} {off : Int} (hf : fch M pc = some (.if_icmp .eq off, 3, nx, tg))  (kt : x = y → MW M d mc ms n0 post tg L (S) (h) (n) (sl)) (kf : ¬ x = y → MW M d mc ms n0 post nx L (S) (h) (n) (sl)) : MW M d mc ms n0 post pc L (.int y :: .int x :: S) (h) (n) (sl) := by
  intro G p lc e s m args below meth c X H locs ls hn hW hS hl
  obtain ⟨hdg, rfl, htg⟩ := fch_ok X.1 hf
  have hx := X.2.1
  have hb := X.2.2.1
  exact lv_icmp_eq hx hb hdg (of_decide_eq_true htg) (fun hc => kt hc G p lc e s m args below meth c X H locs ls hn hW hS hl) (fun hc => kf hc G p lc e s m args below meth c X H locs ls hn hW hS hl)
theorem mw_icmp_ne {nx tg : Nat} {x y : Int32} {off : Int} (hf : fch M pc = some (.if_icmp .ne off, 3, nx, tg))  (kt : ¬ x = y → MW M d mc ms n0 post tg L (S) (h) (n) (sl)) (kf : x = y → MW M d mc ms n0 post nx L (S) (h) (n) (sl)) : MW M d mc ms n0 post pc L (.int y :: .int x :: S) (h) (n) (sl) := by
  intro G p lc e s m args below meth c X H locs ls hn hW hS hl
  obtain ⟨hdg, rfl, htg⟩ := fch_ok X.1 hf
  have hx := X.2.1
  have hb := X.2.2.1
  exact lv_icmp_ne hx hb hdg (of_decide_eq_true htg) (fun hc => kt hc G p lc e s m args below meth c X H locs ls hn hW hS hl) (fun hc => kf hc G p lc e s m args below meth c X H locs ls hn hW hS hl)
theorem mw_icmp_lt {nx tg : Nat} {x y : Int32} {off : Int} (hf : fch M pc = some (.if_icmp .lt off, 3, nx, tg))  (kt : x < y → MW M d mc ms n0 post tg L (S) (h) (n) (sl)) (kf : ¬ x < y → MW M d mc ms n0 post nx L (S) (h) (n) (sl)) : MW M d mc ms n0 post pc L (.int y :: .int x :: S) (h) (n) (sl) := by
  intro G p lc e s m args below meth c X H locs ls hn hW hS hl
  obtain ⟨hdg, rfl, htg⟩ := fch_ok X.1 hf
  have hx := X.2.1
  have hb := X.2.2.1
  exact lv_icmp_lt hx hb hdg (of_decide_eq_true htg) (fun hc => kt hc G p lc e s m args below meth c X H locs ls hn hW hS hl) (fun hc => kf hc G p lc e s m args below meth c X H locs ls hn hW hS hl)
theorem mw_icmp_ge {nx tg : Nat} {x y : Int32} {off : Int} (hf : fch M pc = some (.if_icmp .ge off, 3, nx, tg))  (kt : y ≤ x → MW M d mc ms n0 post tg L (S) (h) (n) (sl)) (kf : ¬ y ≤ x → MW M d mc ms n0 post nx L (S) (h) (n) (sl)) : MW M d mc ms n0 post pc L (.int y :: .int x :: S) (h) (n) (sl) := by
  intro G p lc e s m args below meth c X H locs ls hn hW hS hl
  obtain ⟨hdg, rfl, htg⟩ := fch_ok X.1 hf
  have hx := X.2.1
  have hb := X.2.2.1
  exact lv_icmp_ge hx hb hdg (of_decide_eq_true htg) (fun hc => kt hc G p lc e s m args below meth c X H locs ls hn hW hS hl) (fun hc => kf hc G p lc e s m args below meth c X H locs ls hn hW hS hl)
theorem mw_icmp_gt {nx tg : Nat} {x y : Int32} {off : Int} (hf : fch M pc = some (.if_icmp .gt off, 3, nx, tg))  (kt : y < x → MW M d mc ms n0 post tg L (S) (h) (n) (sl)) (kf : ¬ y < x → MW M d mc ms n0 post nx L (S) (h) (n) (sl)) : MW M d mc ms n0 post pc L (.int y :: .int x :: S) (h) (n) (sl) := by
  intro G p lc e s m args below meth c X H locs ls hn hW hS hl
  obtain ⟨hdg, rfl, htg⟩ := fch_ok X.1 hf
  have hx := X.2.1
  have hb := X.2.2.1
  exact lv_icmp_gt hx hb hdg (of_decide_eq_true htg) (fun hc => kt hc G p lc e s m args below meth c X H locs ls hn hW hS hl) (fun hc => kf hc G p lc e s m args below meth c X H locs ls hn hW hS hl)
theorem mw_icmp_le {nx tg : Nat} {x y : Int32} {off : Int} (hf : fch M pc = some (.if_icmp .le off, 3, nx, tg))  (kt : x ≤ y → MW M d mc ms n0 post tg L (S) (h) (n) (sl)) (kf : ¬ x ≤ y → MW M d mc ms n0 post nx L (S) (h) (n) (sl)) : MW M d mc ms n0 post pc L (.int y :: .int x :: S) (h) (n) (sl) := by
  intro G p lc e s m args below meth c X H locs ls hn hW hS hl
  obtain ⟨hdg, rfl, htg⟩ := fch_ok X.1 hf
  have hx := X.2.1
  have hb := X.2.2.1
  exact lv_icmp_le hx hb hdg (of_decide_eq_true htg) (fun hc => kt hc G p lc e s m args below meth c X H locs ls hn hW hS hl) (fun hc => kf hc G p lc e s m args below meth c X H locs ls hn hW hS hl)
theorem mw_if_eq {nx tg : Nat} {x : Int32} {off : Int} (hf : fch M pc = some (.ifCond .eq off, 3, nx, tg))  (kt : x = 0 → MW M d mc ms n0 post tg L (S) (h) (n) (sl)) (kf : ¬ x = 0 → MW M d mc ms n0 post nx L (S) (h) (n) (sl)) : MW M d mc ms n0 post pc L (.int x :: S) (h) (n) (sl) := by
  intro G p lc e s m args below meth c X H locs ls hn hW hS hl
  obtain ⟨hdg, rfl, htg⟩ := fch_ok X.1 hf
  have hx := X.2.1
  have hb := X.2.2.1
  exact lv_if_eq hx hb hdg (of_decide_eq_true htg) (fun hc => kt hc G p lc e s m args below meth c X H locs ls hn hW hS hl) (fun hc => kf hc G p lc e s m args below meth c X H locs ls hn hW hS hl)
theorem mw_if_ne {nx tg : Nat} {x : Int32} {off : Int} (hf : fch M pc = some (.ifCond .ne off, 3, nx, tg))  (kt : ¬ x = 0 → MW M d mc ms n0 post tg L (S) (h) (n) (sl)) (kf : x = 0 → MW M d mc ms n0 post nx L (S) (h) (n) (sl)) : MW M d mc ms n0 post pc L (.int x :: S) (h) (n) (sl) := by
  intro G p lc e s m args below meth c X H locs ls hn hW hS hl
  obtain ⟨hdg, rfl, htg⟩ := fch_ok X.1 hf
  have hx := X.2.1
  have hb := X.2.2.1
  exact lv_if_ne hx hb hdg (of_decide_eq_true htg) (fun hc => kt hc G p lc e s m args below meth c X H locs ls hn hW hS hl) (fun hc => kf hc G p lc e s m args below meth c X H locs ls hn hW hS hl)
theorem mw_if_lt {nx tg : Nat} {x : Int32} {off : Int} (hf : fch M pc = some (.ifCond .lt off, 3, nx, tg))  (kt : x < 0 → MW M d mc ms n0 post tg L (S) (h) (n) (sl)) (kf : ¬ x < 0 → MW M d mc ms n0 post nx L (S) (h) (n) (sl)) : MW M d mc ms n0 post pc L (.int x :: S) (h) (n) (sl) := by
  intro G p lc e s m args below meth c X H locs ls hn hW hS hl
  obtain ⟨hdg, rfl, htg⟩ := fch_ok X.1 hf
  have hx := X.2.1
  have hb := X.2.2.1
  exact lv_if_lt hx hb hdg (of_decide_eq_true htg) (fun hc => kt hc G p lc e s m args below meth c X H locs ls hn hW hS hl) (fun hc => kf hc G p lc e s m args below meth c X H locs ls hn hW hS hl)
theorem mw_if_ge {nx tg : Nat} {x : Int32} {off : Int} (hf : fch M pc = some (.ifCond .ge off, 3, nx, tg))  (kt : 0 ≤ x → MW M d mc ms n0 post tg L (S) (h) (n) (sl)) (kf : ¬ 0 ≤ x → MW M d mc ms n0 post nx L (S) (h) (n) (sl)) : MW M d mc ms n0 post pc L (.int x :: S) (h) (n) (sl) := by
  intro G p lc e s m args below meth c X H locs ls hn hW hS hl
  obtain ⟨hdg, rfl, htg⟩ := fch_ok X.1 hf
  have hx := X.2.1
  have hb := X.2.2.1
  exact lv_if_ge hx hb hdg (of_decide_eq_true htg) (fun hc => kt hc G p lc e s m args below meth c X H locs ls hn hW hS hl) (fun hc => kf hc G p lc e s m args below meth c X H locs ls hn hW hS hl)
theorem mw_if_gt {nx tg : Nat} {x : Int32} {off : Int} (hf : fch M pc = some (.ifCond .gt off, 3, nx, tg))  (kt : 0 < x → MW M d mc ms n0 post tg L (S) (h) (n) (sl)) (kf : ¬ 0 < x → MW M d mc ms n0 post nx L (S) (h) (n) (sl)) : MW M d mc ms n0 post pc L (.int x :: S) (h) (n) (sl) := by
  intro G p lc e s m args below meth c X H locs ls hn hW hS hl
  obtain ⟨hdg, rfl, htg⟩ := fch_ok X.1 hf
  have hx := X.2.1
  have hb := X.2.2.1
  exact lv_if_gt hx hb hdg (of_decide_eq_true htg) (fun hc => kt hc G p lc e s m args below meth c X H locs ls hn hW hS hl) (fun hc => kf hc G p lc e s m args below meth c X H locs ls hn hW hS hl)
theorem mw_if_le {nx tg : Nat} {x : Int32} {off : Int} (hf : fch M pc = some (.ifCond .le off, 3, nx, tg))  (kt : x ≤ 0 → MW M d mc ms n0 post tg L (S) (h) (n) (sl)) (kf : ¬ x ≤ 0 → MW M d mc ms n0 post nx L (S) (h) (n) (sl)) : MW M d mc ms n0 post pc L (.int x :: S) (h) (n) (sl) := by
  intro G p lc e s m args below meth c X H locs ls hn hW hS hl
  obtain ⟨hdg, rfl, htg⟩ := fch_ok X.1 hf
  have hx := X.2.1
  have hb := X.2.2.1
  exact lv_if_le hx hb hdg (of_decide_eq_true htg) (fun hc => kt hc G p lc e s m args below meth c X H locs ls hn hW hS hl) (fun hc => kf hc G p lc e s m args below meth c X H locs ls hn hW hS hl)
theorem mw_goto {nx tg : Nat} {off : Int} (hf : fch M pc = some (.goto off, 3, nx, tg))  (k : MW M d mc ms n0 post tg L (S) (h) (n) (sl)) : MW M d mc ms n0 post pc L (S) (h) (n) (sl) := by
  intro G p lc e s m args below meth c X H locs ls hn hW hS hl
  obtain ⟨hdg, rfl, htg⟩ := fch_ok X.1 hf
  have hx := X.2.1
  have hb := X.2.2.1
  exact lv_goto hx hb hdg (of_decide_eq_true htg) (k G p lc e s m args below meth c X H locs ls hn hW hS hl)
theorem mw_ldc {nx tg : Nat} {ix : Nat} {v : Int32} (hf : fch M pc = some (.ldc ix, 2, nx, tg)) (hw : Cond.constant M.1.cls ix v ∈ lw_gd) (k : MW M d mc ms n0 post nx L (.int v :: S) (h) (n) (sl)) : MW M d mc ms n0 post pc L (S) (h) (n) (sl) := by
  intro G p lc e s m args below meth c X H locs ls hn hW hS hl
  obtain ⟨hdg, rfl, htg⟩ := fch_ok X.1 hf
  have hx := X.2.1
  have hb := X.2.2.1
  exact lv_ldc hx hb X.2.2.2.2.2.2.1 (X.2.2.2.2.2.2.2.2.1 _ hw) hdg (k G p lc e s m args below meth c X H locs ls hn hW hS hl)
theorem mw_ldcf {nx tg : Nat} {ix : Nat} {v : UInt32} (hf : fch M pc = some (.ldc ix, 2, nx, tg)) (hw : Cond.constantFloat M.1.cls ix v ∈ lw_gd) (k : MW M d mc ms n0 post nx L (.float v :: S) (h) (n) (sl)) : MW M d mc ms n0 post pc L (S) (h) (n) (sl) := by
  intro G p lc e s m args below meth c X H locs ls hn hW hS hl
  obtain ⟨hdg, rfl, htg⟩ := fch_ok X.1 hf
  have hx := X.2.1
  have hb := X.2.2.1
  exact lv_ldcf hx hb X.2.2.2.2.2.2.1 (X.2.2.2.2.2.2.2.2.1 _ hw) hdg (k G p lc e s m args below meth c X H locs ls hn hW hS hl)
theorem mw_ldc2 {nx tg : Nat} {ix : Nat} {v : Int64} (hf : fch M pc = some (.ldc2_w ix, 3, nx, tg)) (hw : Cond.constantLong M.1.cls ix v ∈ lw_gd) (k : MW M d mc ms n0 post nx L (.long v :: S) (h) (n) (sl)) : MW M d mc ms n0 post pc L (S) (h) (n) (sl) := by
  intro G p lc e s m args below meth c X H locs ls hn hW hS hl
  obtain ⟨hdg, rfl, htg⟩ := fch_ok X.1 hf
  have hx := X.2.1
  have hb := X.2.2.1
  exact lv_ldc2 hx hb X.2.2.2.2.2.2.1 (X.2.2.2.2.2.2.2.2.1 _ hw) hdg (k G p lc e s m args below meth c X H locs ls hn hW hS hl)
theorem mw_ldcw {nx tg : Nat} {ix : Nat} {v : Int32} (hf : fch M pc = some (.ldc_w ix, 3, nx, tg)) (hw : Cond.constant M.1.cls ix v ∈ lw_gd) (k : MW M d mc ms n0 post nx L (.int v :: S) (h) (n) (sl)) : MW M d mc ms n0 post pc L (S) (h) (n) (sl) := by
  intro G p lc e s m args below meth c X H locs ls hn hW hS hl
  obtain ⟨hdg, rfl, htg⟩ := fch_ok X.1 hf
  have hx := X.2.1
  have hb := X.2.2.1
  exact lv_ldcw hx hb X.2.2.2.2.2.2.1 (X.2.2.2.2.2.2.2.2.1 _ hw) hdg (k G p lc e s m args below meth c X H locs ls hn hW hS hl)
theorem mw_iald {nx tg : Nat} {a N j : Nat} {f : Nat → Int32} (hf : fch M pc = some (.iaload, 1, nx, tg)) (hc : h a = (.inl (.int, N, .inl f))) (hj : j < N) (hN : j < 2147483648) (k : MW M d mc ms n0 post nx L (.int (f j) :: S) (h) (n) (sl)) : MW M d mc ms n0 post pc L (.int (nI j) :: .ref a :: S) (h) (n) (sl) := by
  intro G p lc e s m args below meth c X H locs ls hn hW hS hl
  obtain ⟨hdg, rfl, htg⟩ := fch_ok X.1 hf
  have hx := X.2.1
  have hb := X.2.2.1
  have hge := hW.at hc dead_l
  have hk2 := k G p lc e s m args below meth c X H locs ls hn hW hS hl
  have hin : vp_in (nI j) N := by rw [vp_in, nI_clamp hN]; exact fun q => q.elim (fun q => nI_pos hN q) (fun q => by omega)
  rw [← nI_clamp hN] at hk2
  exact va_iald (D := G.1) (tys := mTT G) hx hb X.2.2.2.2.2.2.2.2.2.1.1 hW.2 a 0 hge rfl hin hdg hk2
theorem mw_iald_v {nx tg : Nat} {a N j : Nat} {f : Nat → Int32} {v : Int32} (hf : fch M pc = some (.iaload, 1, nx, tg)) (hc : h a = (.inl (.int, N, .inl f))) (hj : j < N) (hN : j < 2147483648) (hv : f j = v) (k : MW M d mc ms n0 post nx L (.int v :: S) (h) (n) (sl)) : MW M d mc ms n0 post pc L (.int (nI j) :: .ref a :: S) (h) (n) (sl) := by
  intro G p lc e s m args below meth c X H locs ls hn hW hS hl
  obtain ⟨hdg, rfl, htg⟩ := fch_ok X.1 hf
  have hx := X.2.1
  have hb := X.2.2.1
  subst hv
  exact mw_iald hf hc hj hN k G p lc e s m args below meth c X H locs ls hn hW hS hl
theorem mw_zald {nx tg : Nat} {a N j : Nat} {f : Nat → Int32} (hf : fch M pc = some (.baload, 1, nx, tg)) (hc : h a = (.inl (.boolean, N, .inl f))) (hj : j < N) (hN : j < 2147483648) (k : MW M d mc ms n0 post nx L (.int (f j) :: S) (h) (n) (sl)) : MW M d mc ms n0 post pc L (.int (nI j) :: .ref a :: S) (h) (n) (sl) := by
  intro G p lc e s m args below meth c X H locs ls hn hW hS hl
  obtain ⟨hdg, rfl, htg⟩ := fch_ok X.1 hf
  have hx := X.2.1
  have hb := X.2.2.1
  have hge := hW.at hc dead_l
  have hk2 := k G p lc e s m args below meth c X H locs ls hn hW hS hl
  have hin : vp_in (nI j) N := by rw [vp_in, nI_clamp hN]; exact fun q => q.elim (fun q => nI_pos hN q) (fun q => by omega)
  rw [← nI_clamp hN] at hk2
  exact va_zald (D := G.1) (tys := mTT G) hx hb X.2.2.2.2.2.2.2.2.2.1.1 hW.2 a 1 hge rfl hin hdg hk2
theorem mw_zald_v {nx tg : Nat} {a N j : Nat} {f : Nat → Int32} {v : Int32} (hf : fch M pc = some (.baload, 1, nx, tg)) (hc : h a = (.inl (.boolean, N, .inl f))) (hj : j < N) (hN : j < 2147483648) (hv : f j = v) (k : MW M d mc ms n0 post nx L (.int v :: S) (h) (n) (sl)) : MW M d mc ms n0 post pc L (.int (nI j) :: .ref a :: S) (h) (n) (sl) := by
  intro G p lc e s m args below meth c X H locs ls hn hW hS hl
  obtain ⟨hdg, rfl, htg⟩ := fch_ok X.1 hf
  have hx := X.2.1
  have hb := X.2.2.1
  subst hv
  exact mw_zald hf hc hj hN k G p lc e s m args below meth c X H locs ls hn hW hS hl
theorem mw_lald {nx tg : Nat} {a N j : Nat} {f : Nat → Int64} (hf : fch M pc = some (.laload, 1, nx, tg)) (hc : h a = (.inl (.long, N, .inr (.inl f)))) (hj : j < N) (hN : j < 2147483648) (k : MW M d mc ms n0 post nx L (.long (f j) :: S) (h) (n) (sl)) : MW M d mc ms n0 post pc L (.int (nI j) :: .ref a :: S) (h) (n) (sl) := by
  intro G p lc e s m args below meth c X H locs ls hn hW hS hl
  obtain ⟨hdg, rfl, htg⟩ := fch_ok X.1 hf
  have hx := X.2.1
  have hb := X.2.2.1
  have hge := hW.at hc dead_l
  have hk2 := k G p lc e s m args below meth c X H locs ls hn hW hS hl
  have hin : vp_in (nI j) N := by rw [vp_in, nI_clamp hN]; exact fun q => q.elim (fun q => nI_pos hN q) (fun q => by omega)
  rw [← nI_clamp hN] at hk2
  exact va_lald (D := G.1) (tys := mTT G) hx hb X.2.2.2.2.2.2.2.2.2.1.1 hW.2 a 2 hge rfl hin hdg hk2
theorem mw_lald_v {nx tg : Nat} {a N j : Nat} {f : Nat → Int64} {v : Int64} (hf : fch M pc = some (.laload, 1, nx, tg)) (hc : h a = (.inl (.long, N, .inr (.inl f)))) (hj : j < N) (hN : j < 2147483648) (hv : f j = v) (k : MW M d mc ms n0 post nx L (.long v :: S) (h) (n) (sl)) : MW M d mc ms n0 post pc L (.int (nI j) :: .ref a :: S) (h) (n) (sl) := by
  intro G p lc e s m args below meth c X H locs ls hn hW hS hl
  obtain ⟨hdg, rfl, htg⟩ := fch_ok X.1 hf
  have hx := X.2.1
  have hb := X.2.2.1
  subst hv
  exact mw_lald hf hc hj hN k G p lc e s m args below meth c X H locs ls hn hW hS hl
theorem mw_fald {nx tg : Nat} {a N j : Nat} {f : Nat → UInt32} (hf : fch M pc = some (.faload, 1, nx, tg)) (hc : h a = (.inl (.float, N, .inr (.inr (.inl f))))) (hj : j < N) (hN : j < 2147483648) (k : MW M d mc ms n0 post nx L (.float (f j) :: S) (h) (n) (sl)) : MW M d mc ms n0 post pc L (.int (nI j) :: .ref a :: S) (h) (n) (sl) := by
  intro G p lc e s m args below meth c X H locs ls hn hW hS hl
  obtain ⟨hdg, rfl, htg⟩ := fch_ok X.1 hf
  have hx := X.2.1
  have hb := X.2.2.1
  have hge := hW.at hc dead_l
  have hk2 := k G p lc e s m args below meth c X H locs ls hn hW hS hl
  have hin : vp_in (nI j) N := by rw [vp_in, nI_clamp hN]; exact fun q => q.elim (fun q => nI_pos hN q) (fun q => by omega)
  rw [← nI_clamp hN] at hk2
  exact va_fald (D := G.1) (tys := mTT G) hx hb X.2.2.2.2.2.2.2.2.2.1.1 hW.2 a 3 hge rfl hin hdg hk2
theorem mw_fald_v {nx tg : Nat} {a N j : Nat} {f : Nat → UInt32} {v : UInt32} (hf : fch M pc = some (.faload, 1, nx, tg)) (hc : h a = (.inl (.float, N, .inr (.inr (.inl f))))) (hj : j < N) (hN : j < 2147483648) (hv : f j = v) (k : MW M d mc ms n0 post nx L (.float v :: S) (h) (n) (sl)) : MW M d mc ms n0 post pc L (.int (nI j) :: .ref a :: S) (h) (n) (sl) := by
  intro G p lc e s m args below meth c X H locs ls hn hW hS hl
  obtain ⟨hdg, rfl, htg⟩ := fch_ok X.1 hf
  have hx := X.2.1
  have hb := X.2.2.1
  subst hv
  exact mw_fald hf hc hj hN k G p lc e s m args below meth c X H locs ls hn hW hS hl
theorem mw_iast {nx tg : Nat} {a N j : Nat} {f : Nat → Int32} {x : Int32} (hf : fch M pc = some (.iastore, 1, nx, tg)) (hc : h a = (.inl (.int, N, .inl f))) (hj : j < N) (hN : j < 2147483648)  (k : MW M d mc ms n0 post nx L (S) (hset h a (.inl (.int, N, .inl (upd f j x)))) (n) (sl)) : MW M d mc ms n0 post pc L (.int x :: .int (nI j) :: .ref a :: S) (h) (n) (sl) := by
  intro G p lc e s m args below meth c X H locs ls hn hW hS hl
  obtain ⟨hdg, rfl, htg⟩ := fch_ok X.1 hf
  have hx := X.2.1
  have hb := X.2.2.1
  have hge := hW.at hc dead_l
  have hin : vp_in (nI j) N := by rw [vp_in, nI_clamp hN]; exact fun q => q.elim (fun q => nI_pos hN q) (fun q => by omega)
  refine va_iast (D := G.1) (tys := mTT G) hx hb X.2.2.2.2.2.2.2.2.2.1.1 hW.2 (mws_D G _ n) hS a 0 hge rfl hin hdg (fun H1 locs1 hP1 hD1 hS1 => ?_)
  rw [nI_clamp hN] at hP1
  exact k G p lc e s m args below meth c X H1 locs1 ls hn (hW.put _ (hW.lt hc dead_l) hP1) hS1 hl
theorem mw_zast {nx tg : Nat} {a N j : Nat} {f : Nat → Int32} {x : Int32} (hf : fch M pc = some (.bastore, 1, nx, tg)) (hc : h a = (.inl (.boolean, N, .inl f))) (hj : j < N) (hN : j < 2147483648) (hz : vp_nar .boolean x = x) (k : MW M d mc ms n0 post nx L (S) (hset h a (.inl (.boolean, N, .inl (upd f j x)))) (n) (sl)) : MW M d mc ms n0 post pc L (.int x :: .int (nI j) :: .ref a :: S) (h) (n) (sl) := by
  intro G p lc e s m args below meth c X H locs ls hn hW hS hl
  obtain ⟨hdg, rfl, htg⟩ := fch_ok X.1 hf
  have hx := X.2.1
  have hb := X.2.2.1
  have hge := hW.at hc dead_l
  have hin : vp_in (nI j) N := by rw [vp_in, nI_clamp hN]; exact fun q => q.elim (fun q => nI_pos hN q) (fun q => by omega)
  refine va_zast (D := G.1) (tys := mTT G) hx hb X.2.2.2.2.2.2.2.2.2.1.1 hW.2 (mws_D G _ n) hS a 1 hge rfl hin hdg (fun H1 locs1 hP1 hD1 hS1 => ?_)
  rw [nI_clamp hN] at hP1
  rw [hz] at hP1
  exact k G p lc e s m args below meth c X H1 locs1 ls hn (hW.put _ (hW.lt hc dead_l) hP1) hS1 hl
theorem mw_last {nx tg : Nat} {a N j : Nat} {f : Nat → Int64} {x : Int64} (hf : fch M pc = some (.lastore, 1, nx, tg)) (hc : h a = (.inl (.long, N, .inr (.inl f)))) (hj : j < N) (hN : j < 2147483648)  (k : MW M d mc ms n0 post nx L (S) (hset h a (.inl (.long, N, .inr (.inl (vp_updL f j x))))) (n) (sl)) : MW M d mc ms n0 post pc L (.long x :: .int (nI j) :: .ref a :: S) (h) (n) (sl) := by
  intro G p lc e s m args below meth c X H locs ls hn hW hS hl
  obtain ⟨hdg, rfl, htg⟩ := fch_ok X.1 hf
  have hx := X.2.1
  have hb := X.2.2.1
  have hge := hW.at hc dead_l
  have hin : vp_in (nI j) N := by rw [vp_in, nI_clamp hN]; exact fun q => q.elim (fun q => nI_pos hN q) (fun q => by omega)
  refine va_last (D := G.1) (tys := mTT G) hx hb X.2.2.2.2.2.2.2.2.2.1.1 hW.2 (mws_D G _ n) hS a 2 hge rfl hin hdg (fun H1 locs1 hP1 hD1 hS1 => ?_)
  rw [nI_clamp hN] at hP1
  exact k G p lc e s m args below meth c X H1 locs1 ls hn (hW.put _ (hW.lt hc dead_l) hP1) hS1 hl
theorem mw_fast {nx tg : Nat} {a N j : Nat} {f : Nat → UInt32} {x : UInt32} (hf : fch M pc = some (.fastore, 1, nx, tg)) (hc : h a = (.inl (.float, N, .inr (.inr (.inl f))))) (hj : j < N) (hN : j < 2147483648)  (k : MW M d mc ms n0 post nx L (S) (hset h a (.inl (.float, N, .inr (.inr (.inl (vf_upd f j x)))))) (n) (sl)) : MW M d mc ms n0 post pc L (.float x :: .int (nI j) :: .ref a :: S) (h) (n) (sl) := by
  intro G p lc e s m args below meth c X H locs ls hn hW hS hl
  obtain ⟨hdg, rfl, htg⟩ := fch_ok X.1 hf
  have hx := X.2.1
  have hb := X.2.2.1
  have hge := hW.at hc dead_l
  have hin : vp_in (nI j) N := by rw [vp_in, nI_clamp hN]; exact fun q => q.elim (fun q => nI_pos hN q) (fun q => by omega)
  refine va_fast (D := G.1) (tys := mTT G) hx hb X.2.2.2.2.2.2.2.2.2.1.1 hW.2 (mws_D G _ n) hS a 3 hge rfl hin hdg (fun H1 locs1 hP1 hD1 hS1 => ?_)
  rw [nI_clamp hN] at hP1
  exact k G p lc e s m args below meth c X H1 locs1 ls hn (hW.put _ (hW.lt hc dead_l) hP1) hS1 hl
end MWOPS
