/-- the cell of a reference just made -/
def RO0 : MC := .inr (10, [.null, .null, .null, .null, .int 0, .int 0, .null, .int 0, .int 0, .int 0, .null, .null, .null, .null, .null, .int 0, .null, .null, .null, .int 0, .int 0, .null, .null, .null, .null, .null, .null, .null])
def lk0 : Nat → UInt32 := fun j => if j < 216 then 0 else fM1
def rd0 : RD := mkR (fun _ => 0) (fun _ => 0) (fun _ => false) (fun _ => 0) (fun _ => 0) (fun _ => 0) (fun _ => 0) (fun _ => 0) (fun _ => 0) lk0 (fun _ => 0) (fun _ => 0) (fun _ => 0) (fun _ => 0) (fun _ => false)
/-- the world with a new reference -/
def RefNew (h h1 : Nat → MC) : Prop := (∀ j, j < 178 → h1 j = h j) ∧ RAt h1 (updN (fun _ => 0) 3 0) rd0 ∧ h1 179 = .inl (.int, 189, .inl (vI (anewV (fun _ => 0) 4))) ∧ h1 180 = .inl (.int, 378, .inl (vI (fun _ => 0))) ∧ h1 181 = .inl (.boolean, 2, .inl (bIf (fun _ => false))) ∧ h1 182 = .inl (.int, 60, .inl (vI (fun _ => 0))) ∧ h1 183 = .inl (.int, 16, .inl (fun _ => 0))
