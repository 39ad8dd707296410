/-! LEAST TREES: the start is sound -/
theorem LsQ_of {v : Nat → Nat} {S : HoS} {c : Nat → Nat} {L : LeS} (h : LeI v S c L) : LsQ S L := fun f hf hn => by
  by_cases z : L.2.1 f = 0
  · exact Or.inl ((h f hf).2 hn z).1
  · exact Or.inr z
