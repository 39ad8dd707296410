/-! THE LAW'S CALLS -/
abbrev lwL (b i : Nat) (G : MG) : List (Nat × Value) := [(0, .ref b), (1, .ref (G.2.1 + 0)), (2, .ref (G.2.1 + 178)), (3, .int (nI i))]
section LAWC
variable {p : Program} {l : Launch} {e : Env} {s : State} {m : MethodId} {below : List Frame} {meth : Method} {c : Code} {b L : Nat} {xs : Nat → Int32} {G : MG}
end LAWC
