/-! CUT: the class's order of the small sets and the reference's loops find the same -/
def fo {α : Type} : List (Option α) → Option α
  | [] => none
  | a :: t => a.or (fo t)
theorem fo_app {α : Type} : ∀ (l m : List (Option α)), fo (l ++ m) = (fo l).or (fo m)
  | [], _ => rfl
  | a :: t, m => by
    show a.or (fo (t ++ m)) = (a.or (fo t)).or (fo m)
    rw [fo_app t m, Option.or_assoc]
theorem upTo_fo {α : Type} (P : Nat → Option α) : ∀ n, upTo P n = fo ((List.range n).map P)
  | 0 => rfl
  | n + 1 => by
    rw [List.range_succ, List.map_append, fo_app]
    show (upTo P n).or (P n) = (fo ((List.range n).map P)).or ((P n).or none)
    rw [upTo_fo P n, Option.or_none]
theorem fo_flat {α β : Type} (M : β → List (Option α)) : ∀ L : List β, fo (L.map (fun i => fo (M i))) = fo (L.flatMap M)
  | [] => rfl
  | i :: t => by
    show (fo (M i)).or (fo (t.map (fun i => fo (M i)))) = _
    rw [fo_flat M t, List.flatMap_cons, fo_app]
theorem fo_skip {α β : Type} (q : β → Option α) : ∀ L : List (Option β), fo (L.map (fun o => o.bind q)) = fo ((L.filterMap id).map q)
  | [] => rfl
  | none :: t => fo_skip q t
  | some b :: t => by
    show (q b).or (fo (t.map (fun o => o.bind q))) = (q b).or (fo ((t.filterMap id).map q))
    rw [fo_skip q t]
/-- the sets of a row, as a list -/
def lst (s : SmS) : List Nat := (List.range s.1).map s.2
theorem lst_put (s : SmS) (x : Nat) : lst (putS s x) = lst s ++ [x] := by
  show (List.range (s.1 + 1)).map (updN s.2 s.1 x) = (List.range s.1).map s.2 ++ [x]
  rw [List.range_succ, List.map_append]
  show _ ++ [updN s.2 s.1 x s.1] = _
  rw [updN_same, List.map_congr_left (g := s.2)]
  intro i hi
  have := List.mem_range.mp hi
  exact updN_ne _ _ (by omega)
theorem lst_it {f : Nat → SmS → SmS} {g : Nat → List Nat} (h : ∀ i s, lst (f i s) = lst s ++ g i) (s : SmS) : ∀ n, lst (itN f s n) = lst s ++ (List.range n).flatMap g
  | 0 => (List.append_nil _).symm
  | n + 1 => by
    show lst (f n (itN f s n)) = _
    rw [h, lst_it h s n, List.range_succ, List.flatMap_append, List.append_assoc, show [n].flatMap g = g n by simp]
def L12 : List Nat := ((List.range 12).flatMap (fun i => [2 ^ i]) ++ (List.range 12).flatMap (fun i => (List.range (11 - i)).flatMap (fun j => [2 ^ i ||| 2 ^ (i + 1 + j)]))) ++ (List.range 12).flatMap (fun i => (List.range (11 - i)).flatMap (fun j => (List.range (12 - (i + 1 + j + 1))).flatMap (fun k => [2 ^ i ||| 2 ^ (i + 1 + j) ||| 2 ^ (i + 1 + j + 1 + k)])))
theorem lst_smC : lst smC = L12 := by
  have hA : lst smA = (List.range 12).flatMap (fun i => [2 ^ i]) := lst_it (f := smF) (g := fun i => [2 ^ i]) (fun i s => lst_put s (2 ^ i)) (0, fun _ => 0) 12
  have hB : lst smB = lst smA ++ (List.range 12).flatMap (fun i => (List.range (11 - i)).flatMap (fun j => [2 ^ i ||| 2 ^ (i + 1 + j)])) :=
    lst_it (f := smBr) (g := fun i => (List.range (11 - i)).flatMap (fun j => [2 ^ i ||| 2 ^ (i + 1 + j)])) (fun i s => lst_it (f := smE i) (g := fun j => [2 ^ i ||| 2 ^ (i + 1 + j)]) (fun j s => lst_put s (2 ^ i ||| 2 ^ (i + 1 + j))) s (11 - i)) smA 12
  have hC : lst smC = lst smB ++ (List.range 12).flatMap (fun i => (List.range (11 - i)).flatMap (fun j => (List.range (12 - (i + 1 + j + 1))).flatMap (fun k => [2 ^ i ||| 2 ^ (i + 1 + j) ||| 2 ^ (i + 1 + j + 1 + k)]))) :=
    lst_it (f := smCr) (g := fun i => (List.range (11 - i)).flatMap (fun j => (List.range (12 - (i + 1 + j + 1))).flatMap (fun k => [2 ^ i ||| 2 ^ (i + 1 + j) ||| 2 ^ (i + 1 + j + 1 + k)]))) (fun i s => lst_it (f := smCq i) (g := fun j => (List.range (12 - (i + 1 + j + 1))).flatMap (fun k => [2 ^ i ||| 2 ^ (i + 1 + j) ||| 2 ^ (i + 1 + j + 1 + k)])) (fun j s => lst_it (f := smG i j) (g := fun k => [2 ^ i ||| 2 ^ (i + 1 + j) ||| 2 ^ (i + 1 + j + 1 + k)]) (fun k s => lst_put s (2 ^ i ||| 2 ^ (i + 1 + j) ||| 2 ^ (i + 1 + j + 1 + k))) s (12 - (i + 1 + j + 1))) s (11 - i)) smB 12
  rw [hC, hB, hA]
  rfl
theorem cCn_12 : cCn 12 = 298 := by decide +kernel
theorem smC_1 : smC.1 = 298 := (nC 12).trans cCn_12
def refL (n : Nat) : List (Option Nat) := (List.range n).map (fun i => some (2 ^ i)) ++ ((List.range n).flatMap (fun i => (List.range n).map (fun j => if i < j then some (2 ^ i ||| 2 ^ j) else none)) ++ (List.range (n * n * n)).map (fun t => if t / n / n < t / n % n ∧ t / n % n < t % n then some (2 ^ (t / n / n) ||| 2 ^ (t / n % n) ||| 2 ^ (t % n)) else none))
set_option maxRecDepth 100000 in
theorem refL_12 : ∀ n, n < 13 → (refL n).filterMap id = L12.filter (fun m => decide (m < 2 ^ n)) := by decide +kernel
def clos (n : Nat) : List Nat → List Nat → Bool
  | _, [] => true
  | pre, m :: t => (decide (m < 4096) && (decide (m < 2 ^ n) || (decide (m % 2 ^ n = 0) || pre.contains (m % 2 ^ n)))) && clos n (m :: pre) t
set_option maxRecDepth 100000 in
theorem clos_12 : ∀ n, n < 13 → clos n [] L12 = true := by decide +kernel
def qF (F : Nat → Bool) (m : Nat) : Option Int32 := if F m = true then none else some (nI m)
theorem fo_clos {F : Nat → Bool} {n : Nat} (h0 : F 0 = true) (hF : ∀ m, m < 4096 → F m = F (m % 2 ^ n)) : ∀ (L pre : List Nat), (∀ m, m ∈ pre → F m = true) → clos n pre L = true → fo (L.map (qF F)) = fo ((L.filter (fun m => decide (m < 2 ^ n))).map (qF F))
  | [], _, _, _ => rfl
  | m :: t, pre, hp, hc => by
    have hc' : ((decide (m < 4096) && (decide (m < 2 ^ n) || (decide (m % 2 ^ n = 0) || pre.contains (m % 2 ^ n)))) && clos n (m :: pre) t) = true := hc
    rw [Bool.and_eq_true, Bool.and_eq_true] at hc'
    obtain ⟨⟨c1, c2⟩, c3⟩ := hc'
    have c1 := of_decide_eq_true c1
    by_cases q : F m = true
    · have ih := fo_clos h0 hF t (m :: pre) (fun x hx => by
        rcases List.mem_cons.mp hx with rfl | hx
        · exact q
        · exact hp x hx) c3
      have qm : qF F m = none := if_pos q
      have e1 : fo ((m :: t).map (qF F)) = fo (t.map (qF F)) := by
        show (qF F m).or _ = _
        rw [qm, Option.none_or]
      rw [e1, ih]
      by_cases hm : m < 2 ^ n
      · rw [List.filter_cons_of_pos (p := fun m => decide (m < 2 ^ n)) (decide_eq_true hm)]
        show _ = (qF F m).or _
        rw [qm, Option.none_or]
      · rw [List.filter_cons_of_neg (p := fun m => decide (m < 2 ^ n)) (fun w => hm (of_decide_eq_true w))]
    · have hm : m < 2 ^ n := by
        rw [Bool.or_eq_true, Bool.or_eq_true] at c2
        rcases c2 with w | w | w
        · exact of_decide_eq_true w
        · refine absurd ?_ q
          rw [hF m c1, of_decide_eq_true w]
          exact h0
        · refine absurd ?_ q
          rw [hF m c1]
          exact hp _ (List.contains_iff_mem.mp w)
      have qm : qF F m = some (nI m) := if_neg q
      rw [List.filter_cons_of_pos (p := fun m => decide (m < 2 ^ n)) (decide_eq_true hm)]
      show (qF F m).or _ = (qF F m).or _
      rw [qm]
      rfl
theorem E_cg {v : Nat → Nat} {S : HoS} {E : Int32 → Nat → Bool} (hE : DerE v S E) {x y : Int32} (h : ∀ k, k < v 1 → delB x k = delB y k) : E x = E y := by
  have e : dvBase v x = dvBase v y := itN_cg fun k hk D => by
    unfold dvK
    rw [h k hk]
  have hx := hE x
  rw [e] at hx
  exact hx.uniq (hE y)
theorem del_0 : ∀ k, k < 12 → delB (nI 0) k = true := by decide +kernel
theorem cut_eq {v : Nat → Nat} {rw' : Nat → Int64} {E : Int32 → Nat → Bool} (hok : OkN v) (hst : StC v (strF v).1) (h : KsOk v (hoV v) smC.2 rw') (hE : DerE v (hoV v) E) {f : Nat} (hf : f < 216) (hm : ¬ (mdl0 v).1 f < 0) : (upTo (cutF smC.2 rw' f) 298).getD (-5) = cutV E f (v 1) := by
  have h12 := hok.2.2.1
  obtain ⟨F, hFd⟩ : ∃ F : Nat → Bool, F = fun m => E (nI m) f := ⟨_, rfl⟩
  have h0 : F 0 = true := by
    rw [hFd]
    exact E_all hok hst hE (fun k hk => del_0 k (by omega)) f hf hm
  have hF : ∀ m, m < 4096 → F m = F (m % 2 ^ v 1) := fun m hm => by
    rw [hFd]
    exact congrFun (E_cg hE (fun k hk => (delB_mask (by omega) h12 hk).symm)) f
  have e1 : (List.range 298).map (cutF smC.2 rw' f) = L12.map (qF F) := by
    rw [← lst_smC]
    unfold lst
    rw [smC_1, List.map_map]
    refine List.map_congr_left fun i hi => ?_
    show (if Dv rw' i f = true then none else some (nI (smC.2 i))) = if F (smC.2 i) = true then none else some (nI (smC.2 i))
    rw [KsOk_E h hE i (List.mem_range.mp hi) f hf, hFd]
  have b1 : ∀ i, i < 12 → bitI i = nI (2 ^ i) := fun i hi => bit_nI i hi
  have a1 : upTo (cutA E f) (v 1) = fo (((List.range (v 1)).map (fun i => some (2 ^ i))).map (fun o => o.bind (qF F))) := by
    rw [upTo_fo, List.map_map, List.map_congr_left]
    intro i hi
    have := List.mem_range.mp hi
    show (if E (bitI i) f = true then none else some (bitI i)) = if F (2 ^ i) = true then none else some (nI (2 ^ i))
    rw [b1 i (by omega), hFd]
  have a2 : upTo (fun i => upTo (cutB E f i) (v 1)) (v 1) = fo (((List.range (v 1)).flatMap (fun i => (List.range (v 1)).map (fun j => if i < j then some (2 ^ i ||| 2 ^ j) else none))).map (fun o => o.bind (qF F))) := by
    rw [upTo_fo, List.map_flatMap, ← fo_flat, List.map_congr_left]
    intro i hi
    have hi := List.mem_range.mp hi
    rw [upTo_fo, List.map_map, List.map_congr_left]
    intro j hj
    have hj := List.mem_range.mp hj
    show (if i < j ∧ E (bitI i ||| bitI j) f = false then some (bitI i ||| bitI j) else none) = (if i < j then some (2 ^ i ||| 2 ^ j) else none).bind (qF F)
    rw [b1 i (by omega), b1 j (by omega), nI_or]
    by_cases hij : i < j
    · rw [if_pos hij]
      show _ = if F (2 ^ i ||| 2 ^ j) = true then none else some (nI (2 ^ i ||| 2 ^ j))
      rw [hFd]
      by_cases q : E (nI (2 ^ i ||| 2 ^ j)) f = true
      · rw [if_pos q, if_neg (fun w => by rw [q] at w; exact absurd w.2 (by decide))]
      · rw [if_neg q, if_pos ⟨hij, by simpa using q⟩]
    · rw [if_neg hij, if_neg (fun w => hij w.1)]
      rfl
  have a3 : upTo (cutC E f (v 1)) (v 1 * v 1 * v 1) = fo (((List.range (v 1 * v 1 * v 1)).map (fun t => if t / v 1 / v 1 < t / v 1 % v 1 ∧ t / v 1 % v 1 < t % v 1 then some (2 ^ (t / v 1 / v 1) ||| 2 ^ (t / v 1 % v 1) ||| 2 ^ (t % v 1)) else none)).map (fun o => o.bind (qF F))) := by
    rw [upTo_fo, List.map_map, List.map_congr_left]
    intro t ht
    have ht := List.mem_range.mp ht
    have hpos : 0 < v 1 := by
      rcases Nat.eq_zero_or_pos (v 1) with z | z
      · rw [z] at ht
        exact absurd ht (Nat.not_lt_zero t)
      · exact z
    have k2 : t / v 1 % v 1 < v 1 := Nat.mod_lt _ hpos
    have k3 : t % v 1 < v 1 := Nat.mod_lt _ hpos
    show (if t / v 1 / v 1 < t / v 1 % v 1 ∧ t / v 1 % v 1 < t % v 1 ∧ E (bitI (t / v 1 / v 1) ||| bitI (t / v 1 % v 1) ||| bitI (t % v 1)) f = false then some (bitI (t / v 1 / v 1) ||| bitI (t / v 1 % v 1) ||| bitI (t % v 1)) else none) = (if t / v 1 / v 1 < t / v 1 % v 1 ∧ t / v 1 % v 1 < t % v 1 then some (2 ^ (t / v 1 / v 1) ||| 2 ^ (t / v 1 % v 1) ||| 2 ^ (t % v 1)) else none).bind (qF F)
    generalize t / v 1 / v 1 = i
    generalize t / v 1 % v 1 = j at k2 ⊢
    generalize t % v 1 = k at k3 ⊢
    by_cases hij : i < j ∧ j < k
    · rw [if_pos hij, b1 i (by omega), b1 j (by omega), b1 k (by omega), nI_or, nI_or]
      show _ = if F (2 ^ i ||| 2 ^ j ||| 2 ^ k) = true then none else some (nI (2 ^ i ||| 2 ^ j ||| 2 ^ k))
      rw [hFd]
      by_cases q : E (nI (2 ^ i ||| 2 ^ j ||| 2 ^ k)) f = true
      · rw [if_pos q, if_neg (fun w => by rw [q] at w; exact absurd w.2.2 (by decide))]
      · rw [if_neg q, if_pos ⟨hij.1, hij.2, by simpa using q⟩]
    · rw [if_neg hij, if_neg (fun w => hij ⟨w.1, w.2.1⟩)]
      rfl
  have e2 : (upTo (cutA E f) (v 1)).or ((upTo (fun i => upTo (cutB E f i) (v 1)) (v 1)).or (upTo (cutC E f (v 1)) (v 1 * v 1 * v 1))) = fo ((refL (v 1)).map (fun o => o.bind (qF F))) := by
    rw [a1, a2, a3, ← fo_app, ← fo_app, ← List.map_append, ← List.map_append]
    rfl
  unfold cutV
  rw [e2, fo_skip, refL_12 (v 1) (by omega), ← fo_clos h0 hF L12 [] (fun m q => absurd q List.not_mem_nil) (clos_12 (v 1) (by omega)), upTo_fo, e1]
