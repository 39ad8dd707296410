theorem fw_i : Cond.initialized "java/lang/Float" ∈ lw_gd := by decide +kernel
theorem fw_n : Cond.native ⟨"java/lang/Float", "floatToRawIntBits", "(F)I"⟩ ∈ lw_gd := by decide +kernel
theorem fw_sR : Cond.static ⟨"java/lang/Float", "floatToRawIntBits", "(F)I"⟩ ∈ lw_gd := by decide +kernel
theorem mg_wsF {w0 : Cond} (h0 : w0 ∈ lw_gd) : GoodIn lw_gd (w0 :: lw_gd) := fun w hw => by
  rcases List.mem_cons.mp hw with rfl | hw
  · exact ⟨h0, good_of_word (mg_tbl _ h0)⟩
  · exact ⟨hw, good_of_word (mg_tbl _ hw)⟩
