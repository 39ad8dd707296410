abbrev RD.uD (x : RD) (D : Nat → Bool) : RD := mkR x.st x.b x.nb x.m x.o x.ru x.hd x.li x.c x.l x.lr x.lb x.z x.u D
/-- E y: what can be derived without the base facts of y -/
def DerE (v : Nat → Nat) (S : HoS) (E : Int32 → Nat → Bool) : Prop := ∀ y, IsLim (fun D => (dvP S D).1) (dvBase v y) (E y)
theorem derE_ex {v : Nat → Nat} {S : HoS} (hS : HoOk v S) : ∃ E, DerE v S E := by
  obtain ⟨E, hE⟩ := Classical.axiomOfChoice (r := fun (y : Int32) (D : Nat → Bool) => IsLim (fun D => (dvP S D).1) (dvBase v y) D) (fun y => dvLim hS (dvBase v y))
  exact ⟨E, hE⟩
abbrev bitI (i : Nat) : Int32 := nI 1 <<< (nI i &&& 31)
def ndA (E : Int32 → Nat → Bool) (f : Nat) : Nat → Int32
  | 0 => nI 0
  | i + 1 => ndA E f i ||| (if E (bitI i) f then nI 0 else bitI i)
def ndQ (v : Nat → Nat) (p a b : Int32) (g : (Int32 → Nat → Bool) → Nat → Int32) (w' : Nat → Int32) (x' : RD) (r : Option Value) : Prop := (isF v p a b = true → Fnd v w' x') ∧ (wrV v p a b < 0 → r = some (.int (wrV v p a b))) ∧ (0 ≤ wrV v p a b → ∃ S E, FndM v w' x' S ∧ DerE v S E ∧ r = some (.int (g E (fctN p a b))))
