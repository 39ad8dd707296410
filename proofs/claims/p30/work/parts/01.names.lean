-- ===== PART A: goes FIRST, ahead of the names: the tables' words, and 'selects' of the private methods out of them =====
/-- a private method of a class that the tables say can be made, by its rows of tables_1 -/
def lw_okq (q : MethodName × Nat) : Prop := (q.1.cls ≠ "java/lang/invoke/MethodHandle" ∧ q.1.cls ≠ "java/lang/invoke/VarHandle") ∧ Cond.instantiable q.1.cls q.2 ∈ tables_1 ∧ Cond.privateMethod q.1 ∈ tables_1 ∧ Cond.instanceMethod q.1 ∈ tables_1
theorem lw_p0 : lw_okq (⟨"FactOrigins", "rulesChanged", "()V"⟩, 17) := ⟨⟨by decide +kernel, by decide +kernel⟩, List.mem_of_getElem? (i := 15) (by decide +kernel), List.mem_of_getElem? (i := 367) (by decide +kernel), List.mem_of_getElem? (i := 368) (by decide +kernel)⟩
theorem lw_p1 : lw_okq (⟨"FactOrigins", "factsChanged", "()V"⟩, 17) := ⟨⟨by decide +kernel, by decide +kernel⟩, List.mem_of_getElem? (i := 15) (by decide +kernel), List.mem_of_getElem? (i := 371) (by decide +kernel), List.mem_of_getElem? (i := 372) (by decide +kernel)⟩
theorem lw_p2 : lw_okq (⟨"FactOrigins", "hasModel", "()Z"⟩, 17) := ⟨⟨by decide +kernel, by decide +kernel⟩, List.mem_of_getElem? (i := 15) (by decide +kernel), List.mem_of_getElem? (i := 422) (by decide +kernel), List.mem_of_getElem? (i := 423) (by decide +kernel)⟩
theorem lw_p3 : lw_okq (⟨"FactOrigins$Grounding", "findStrata", "(LFactOrigins$Program;)V"⟩, 12) := ⟨⟨by decide +kernel, by decide +kernel⟩, List.mem_of_getElem? (i := 140) (by decide +kernel), List.mem_of_getElem? (i := 430) (by decide +kernel), List.mem_of_getElem? (i := 431) (by decide +kernel)⟩
theorem lw_p4 : lw_okq (⟨"FactOrigins$Grounding", "raiseHead", "(LFactOrigins$Rule;)Z"⟩, 12) := ⟨⟨by decide +kernel, by decide +kernel⟩, List.mem_of_getElem? (i := 140) (by decide +kernel), List.mem_of_getElem? (i := 435) (by decide +kernel), List.mem_of_getElem? (i := 436) (by decide +kernel)⟩
theorem lw_p5 : lw_okq (⟨"FactOrigins$Grounding", "fillInstances", "(LFactOrigins$Rule;II)I"⟩, 12) := ⟨⟨by decide +kernel, by decide +kernel⟩, List.mem_of_getElem? (i := 140) (by decide +kernel), List.mem_of_getElem? (i := 442) (by decide +kernel), List.mem_of_getElem? (i := 443) (by decide +kernel)⟩
theorem lw_p6 : lw_okq (⟨"FactOrigins$Grounding", "fillInstance", "(LFactOrigins$Rule;II)V"⟩, 12) := ⟨⟨by decide +kernel, by decide +kernel⟩, List.mem_of_getElem? (i := 140) (by decide +kernel), List.mem_of_getElem? (i := 450) (by decide +kernel), List.mem_of_getElem? (i := 451) (by decide +kernel)⟩
theorem lw_p7 : lw_okq (⟨"FactOrigins$Model", "buildStratum", "(LFactOrigins$Grounding;I)V"⟩, 3) := ⟨⟨by decide +kernel, by decide +kernel⟩, List.mem_of_getElem? (i := 209) (by decide +kernel), List.mem_of_getElem? (i := 462) (by decide +kernel), List.mem_of_getElem? (i := 463) (by decide +kernel)⟩
theorem lw_p8 : lw_okq (⟨"FactOrigins$Model", "takeHeads", "(LFactOrigins$Grounding;II)Z"⟩, 3) := ⟨⟨by decide +kernel, by decide +kernel⟩, List.mem_of_getElem? (i := 209) (by decide +kernel), List.mem_of_getElem? (i := 466) (by decide +kernel), List.mem_of_getElem? (i := 467) (by decide +kernel)⟩
theorem lw_p9 : lw_okq (⟨"FactOrigins", "computeCosts", "()V"⟩, 17) := ⟨⟨by decide +kernel, by decide +kernel⟩, List.mem_of_getElem? (i := 15) (by decide +kernel), List.mem_of_getElem? (i := 506) (by decide +kernel), List.mem_of_getElem? (i := 507) (by decide +kernel)⟩
theorem lw_p10 : lw_okq (⟨"FactOrigins$Costs", "startWithBaseFacts", "(LFactOrigins$Program;)V"⟩, 6) := ⟨⟨by decide +kernel, by decide +kernel⟩, List.mem_of_getElem? (i := 252) (by decide +kernel), List.mem_of_getElem? (i := 514) (by decide +kernel), List.mem_of_getElem? (i := 515) (by decide +kernel)⟩
theorem lw_p11 : lw_okq (⟨"FactOrigins$Costs", "lower", "(LFactOrigins$Grounding;LFactOrigins$Holding;)Z"⟩, 6) := ⟨⟨by decide +kernel, by decide +kernel⟩, List.mem_of_getElem? (i := 252) (by decide +kernel), List.mem_of_getElem? (i := 520) (by decide +kernel), List.mem_of_getElem? (i := 521) (by decide +kernel)⟩
theorem lw_p12 : lw_okq (⟨"FactOrigins$Costs", "costBy", "(LFactOrigins$Grounding;I)I"⟩, 6) := ⟨⟨by decide +kernel, by decide +kernel⟩, List.mem_of_getElem? (i := 252) (by decide +kernel), List.mem_of_getElem? (i := 524) (by decide +kernel), List.mem_of_getElem? (i := 525) (by decide +kernel)⟩
theorem lw_p13 : lw_okq (⟨"FactOrigins$Costs", "choose", "(LFactOrigins$Program;LFactOrigins$Grounding;LFactOrigins$Holding;)V"⟩, 6) := ⟨⟨by decide +kernel, by decide +kernel⟩, List.mem_of_getElem? (i := 252) (by decide +kernel), List.mem_of_getElem? (i := 531) (by decide +kernel), List.mem_of_getElem? (i := 532) (by decide +kernel)⟩
theorem lw_p14 : lw_okq (⟨"FactOrigins$Costs", "grow", "(LFactOrigins$Grounding;)Z"⟩, 6) := ⟨⟨by decide +kernel, by decide +kernel⟩, List.mem_of_getElem? (i := 252) (by decide +kernel), List.mem_of_getElem? (i := 535) (by decide +kernel), List.mem_of_getElem? (i := 536) (by decide +kernel)⟩
theorem lw_p15 : lw_okq (⟨"FactOrigins$Costs", "partsAreKnown", "(LFactOrigins$Grounding;I)Z"⟩, 6) := ⟨⟨by decide +kernel, by decide +kernel⟩, List.mem_of_getElem? (i := 252) (by decide +kernel), List.mem_of_getElem? (i := 539) (by decide +kernel), List.mem_of_getElem? (i := 540) (by decide +kernel)⟩
def lw_privs_1 : List (MethodName × Nat) := [(⟨"FactOrigins", "rulesChanged", "()V"⟩, 17), (⟨"FactOrigins", "factsChanged", "()V"⟩, 17), (⟨"FactOrigins", "hasModel", "()Z"⟩, 17), (⟨"FactOrigins$Grounding", "findStrata", "(LFactOrigins$Program;)V"⟩, 12), (⟨"FactOrigins$Grounding", "raiseHead", "(LFactOrigins$Rule;)Z"⟩, 12), (⟨"FactOrigins$Grounding", "fillInstances", "(LFactOrigins$Rule;II)I"⟩, 12), (⟨"FactOrigins$Grounding", "fillInstance", "(LFactOrigins$Rule;II)V"⟩, 12), (⟨"FactOrigins$Model", "buildStratum", "(LFactOrigins$Grounding;I)V"⟩, 3), (⟨"FactOrigins$Model", "takeHeads", "(LFactOrigins$Grounding;II)Z"⟩, 3), (⟨"FactOrigins", "computeCosts", "()V"⟩, 17), (⟨"FactOrigins$Costs", "startWithBaseFacts", "(LFactOrigins$Program;)V"⟩, 6), (⟨"FactOrigins$Costs", "lower", "(LFactOrigins$Grounding;LFactOrigins$Holding;)Z"⟩, 6), (⟨"FactOrigins$Costs", "costBy", "(LFactOrigins$Grounding;I)I"⟩, 6), (⟨"FactOrigins$Costs", "choose", "(LFactOrigins$Program;LFactOrigins$Grounding;LFactOrigins$Holding;)V"⟩, 6), (⟨"FactOrigins$Costs", "grow", "(LFactOrigins$Grounding;)Z"⟩, 6), (⟨"FactOrigins$Costs", "partsAreKnown", "(LFactOrigins$Grounding;I)Z"⟩, 6)]
theorem lw_r1 : ∀ q ∈ lw_privs_1, lw_okq q := List.forall_mem_cons.mpr ⟨lw_p0, List.forall_mem_cons.mpr ⟨lw_p1, List.forall_mem_cons.mpr ⟨lw_p2, List.forall_mem_cons.mpr ⟨lw_p3, List.forall_mem_cons.mpr ⟨lw_p4, List.forall_mem_cons.mpr ⟨lw_p5, List.forall_mem_cons.mpr ⟨lw_p6, List.forall_mem_cons.mpr ⟨lw_p7, List.forall_mem_cons.mpr ⟨lw_p8, List.forall_mem_cons.mpr ⟨lw_p9, List.forall_mem_cons.mpr ⟨lw_p10, List.forall_mem_cons.mpr ⟨lw_p11, List.forall_mem_cons.mpr ⟨lw_p12, List.forall_mem_cons.mpr ⟨lw_p13, List.forall_mem_cons.mpr ⟨lw_p14, List.forall_mem_cons.mpr ⟨lw_p15, fun _ h => absurd h List.not_mem_nil⟩⟩⟩⟩⟩⟩⟩⟩⟩⟩⟩⟩⟩⟩⟩⟩
theorem lw_p16 : lw_okq (⟨"FactOrigins$Costs", "putTogether", "(LFactOrigins$Grounding;I)V"⟩, 6) := ⟨⟨by decide +kernel, by decide +kernel⟩, List.mem_of_getElem? (i := 252) (by decide +kernel), List.mem_of_getElem? (i := 543) (by decide +kernel), List.mem_of_getElem? (i := 544) (by decide +kernel)⟩
theorem lw_p17 : lw_okq (⟨"FactOrigins", "computeLikelihoods", "()V"⟩, 17) := ⟨⟨by decide +kernel, by decide +kernel⟩, List.mem_of_getElem? (i := 15) (by decide +kernel), List.mem_of_getElem? (i := 547) (by decide +kernel), List.mem_of_getElem? (i := 548) (by decide +kernel)⟩
theorem lw_p18 : lw_okq (⟨"FactOrigins$Likelihoods", "raise", "(IF)Z"⟩, 1) := ⟨⟨by decide +kernel, by decide +kernel⟩, List.mem_of_getElem? (i := 281) (by decide +kernel), List.mem_of_getElem? (i := 556) (by decide +kernel), List.mem_of_getElem? (i := 557) (by decide +kernel)⟩
theorem lw_p19 : lw_okq (⟨"FactOrigins$Likelihoods", "likelihoodBy", "(LFactOrigins$Grounding;I)F"⟩, 1) := ⟨⟨by decide +kernel, by decide +kernel⟩, List.mem_of_getElem? (i := 281) (by decide +kernel), List.mem_of_getElem? (i := 560) (by decide +kernel), List.mem_of_getElem? (i := 561) (by decide +kernel)⟩
theorem lw_p20 : lw_okq (⟨"FactOrigins", "withAtom", "(JI)J"⟩, 17) := ⟨⟨by decide +kernel, by decide +kernel⟩, List.mem_of_getElem? (i := 15) (by decide +kernel), List.mem_of_getElem? (i := 564) (by decide +kernel), List.mem_of_getElem? (i := 565) (by decide +kernel)⟩
theorem lw_p21 : lw_okq (⟨"FactOrigins", "leastOf", "(II)I"⟩, 17) := ⟨⟨by decide +kernel, by decide +kernel⟩, List.mem_of_getElem? (i := 15) (by decide +kernel), List.mem_of_getElem? (i := 572) (by decide +kernel), List.mem_of_getElem? (i := 573) (by decide +kernel)⟩
theorem lw_p22 : lw_okq (⟨"FactOrigins$RuleText", "readRule", "(LFactOrigins$Program;)Z"⟩, 4) := ⟨⟨by decide +kernel, by decide +kernel⟩, List.mem_of_getElem? (i := 117) (by decide +kernel), List.mem_of_getElem? (i := 611) (by decide +kernel), List.mem_of_getElem? (i := 612) (by decide +kernel)⟩
theorem lw_p23 : lw_okq (⟨"FactOrigins$RuleText", "readAtom", "(LFactOrigins$Program;I)Z"⟩, 4) := ⟨⟨by decide +kernel, by decide +kernel⟩, List.mem_of_getElem? (i := 117) (by decide +kernel), List.mem_of_getElem? (i := 615) (by decide +kernel), List.mem_of_getElem? (i := 616) (by decide +kernel)⟩
theorem lw_p24 : lw_okq (⟨"FactOrigins$RuleText", "next", "()I"⟩, 4) := ⟨⟨by decide +kernel, by decide +kernel⟩, List.mem_of_getElem? (i := 117) (by decide +kernel), List.mem_of_getElem? (i := 619) (by decide +kernel), List.mem_of_getElem? (i := 620) (by decide +kernel)⟩
theorem lw_p25 : lw_okq (⟨"FactOrigins$RuleText", "take", "(I)Z"⟩, 4) := ⟨⟨by decide +kernel, by decide +kernel⟩, List.mem_of_getElem? (i := 117) (by decide +kernel), List.mem_of_getElem? (i := 624) (by decide +kernel), List.mem_of_getElem? (i := 625) (by decide +kernel)⟩
theorem lw_p26 : lw_okq (⟨"FactOrigins$RuleText", "takeTerm", "()I"⟩, 4) := ⟨⟨by decide +kernel, by decide +kernel⟩, List.mem_of_getElem? (i := 117) (by decide +kernel), List.mem_of_getElem? (i := 634) (by decide +kernel), List.mem_of_getElem? (i := 635) (by decide +kernel)⟩
theorem lw_p27 : lw_okq (⟨"FactOrigins$RuleText", "unboundVariable", "()I"⟩, 4) := ⟨⟨by decide +kernel, by decide +kernel⟩, List.mem_of_getElem? (i := 117) (by decide +kernel), List.mem_of_getElem? (i := 638) (by decide +kernel), List.mem_of_getElem? (i := 639) (by decide +kernel)⟩
theorem lw_p28 : lw_okq (⟨"FactOrigins", "buildLesserModel", "(I)V"⟩, 17) := ⟨⟨by decide +kernel, by decide +kernel⟩, List.mem_of_getElem? (i := 15) (by decide +kernel), List.mem_of_getElem? (i := 683) (by decide +kernel), List.mem_of_getElem? (i := 684) (by decide +kernel)⟩
theorem lw_p29 : lw_okq (⟨"FactOrigins", "atomOfModel", "(III)I"⟩, 17) := ⟨⟨by decide +kernel, by decide +kernel⟩, List.mem_of_getElem? (i := 15) (by decide +kernel), List.mem_of_getElem? (i := 691) (by decide +kernel), List.mem_of_getElem? (i := 692) (by decide +kernel)⟩
theorem lw_p30 : lw_okq (⟨"FactOrigins", "computeSurvivals", "()V"⟩, 17) := ⟨⟨by decide +kernel, by decide +kernel⟩, List.mem_of_getElem? (i := 15) (by decide +kernel), List.mem_of_getElem? (i := 715) (by decide +kernel), List.mem_of_getElem? (i := 716) (by decide +kernel)⟩
theorem lw_p31 : lw_okq (⟨"FactOrigins$Survivals", "enterBaseFact", "(II)V"⟩, 2) := ⟨⟨by decide +kernel, by decide +kernel⟩, List.mem_of_getElem? (i := 293) (by decide +kernel), List.mem_of_getElem? (i := 726) (by decide +kernel), List.mem_of_getElem? (i := 727) (by decide +kernel)⟩
def lw_privs_2 : List (MethodName × Nat) := [(⟨"FactOrigins$Costs", "putTogether", "(LFactOrigins$Grounding;I)V"⟩, 6), (⟨"FactOrigins", "computeLikelihoods", "()V"⟩, 17), (⟨"FactOrigins$Likelihoods", "raise", "(IF)Z"⟩, 1), (⟨"FactOrigins$Likelihoods", "likelihoodBy", "(LFactOrigins$Grounding;I)F"⟩, 1), (⟨"FactOrigins", "withAtom", "(JI)J"⟩, 17), (⟨"FactOrigins", "leastOf", "(II)I"⟩, 17), (⟨"FactOrigins$RuleText", "readRule", "(LFactOrigins$Program;)Z"⟩, 4), (⟨"FactOrigins$RuleText", "readAtom", "(LFactOrigins$Program;I)Z"⟩, 4), (⟨"FactOrigins$RuleText", "next", "()I"⟩, 4), (⟨"FactOrigins$RuleText", "take", "(I)Z"⟩, 4), (⟨"FactOrigins$RuleText", "takeTerm", "()I"⟩, 4), (⟨"FactOrigins$RuleText", "unboundVariable", "()I"⟩, 4), (⟨"FactOrigins", "buildLesserModel", "(I)V"⟩, 17), (⟨"FactOrigins", "atomOfModel", "(III)I"⟩, 17), (⟨"FactOrigins", "computeSurvivals", "()V"⟩, 17), (⟨"FactOrigins$Survivals", "enterBaseFact", "(II)V"⟩, 2)]
theorem lw_r2 : ∀ q ∈ lw_privs_2, lw_okq q := List.forall_mem_cons.mpr ⟨lw_p16, List.forall_mem_cons.mpr ⟨lw_p17, List.forall_mem_cons.mpr ⟨lw_p18, List.forall_mem_cons.mpr ⟨lw_p19, List.forall_mem_cons.mpr ⟨lw_p20, List.forall_mem_cons.mpr ⟨lw_p21, List.forall_mem_cons.mpr ⟨lw_p22, List.forall_mem_cons.mpr ⟨lw_p23, List.forall_mem_cons.mpr ⟨lw_p24, List.forall_mem_cons.mpr ⟨lw_p25, List.forall_mem_cons.mpr ⟨lw_p26, List.forall_mem_cons.mpr ⟨lw_p27, List.forall_mem_cons.mpr ⟨lw_p28, List.forall_mem_cons.mpr ⟨lw_p29, List.forall_mem_cons.mpr ⟨lw_p30, List.forall_mem_cons.mpr ⟨lw_p31, fun _ h => absurd h List.not_mem_nil⟩⟩⟩⟩⟩⟩⟩⟩⟩⟩⟩⟩⟩⟩⟩⟩
theorem lw_p32 : lw_okq (⟨"FactOrigins$Survivals", "widen", "(LFactOrigins$Grounding;I)Z"⟩, 2) := ⟨⟨by decide +kernel, by decide +kernel⟩, List.mem_of_getElem? (i := 293) (by decide +kernel), List.mem_of_getElem? (i := 730) (by decide +kernel), List.mem_of_getElem? (i := 731) (by decide +kernel)⟩
theorem lw_p33 : lw_okq (⟨"FactOrigins$Survivals", "survives", "(II)Z"⟩, 2) := ⟨⟨by decide +kernel, by decide +kernel⟩, List.mem_of_getElem? (i := 293) (by decide +kernel), List.mem_of_getElem? (i := 739) (by decide +kernel), List.mem_of_getElem? (i := 740) (by decide +kernel)⟩
def lw_privs_3 : List (MethodName × Nat) := [(⟨"FactOrigins$Survivals", "widen", "(LFactOrigins$Grounding;I)Z"⟩, 2), (⟨"FactOrigins$Survivals", "survives", "(II)Z"⟩, 2)]
theorem lw_r3 : ∀ q ∈ lw_privs_3, lw_okq q := List.forall_mem_cons.mpr ⟨lw_p32, List.forall_mem_cons.mpr ⟨lw_p33, fun _ h => absurd h List.not_mem_nil⟩⟩
def lw_privs : List (MethodName × Nat) := lw_privs_1 ++ (lw_privs_2 ++ (lw_privs_3))
def lw_tbl : List Cond := k2_sels lw_privs ++ tables_1
theorem lw_privs_ok : ∀ q ∈ lw_privs, lw_okq q := by
  show ∀ q ∈ lw_privs_1 ++ (lw_privs_2 ++ (lw_privs_3)), lw_okq q
  exact List.forall_mem_append.mpr ⟨lw_r1, List.forall_mem_append.mpr ⟨lw_r2, lw_r3⟩⟩
/-- the streams that the claim lets the run draw from -/
abbrev lw_cs : List Choice := [Jvm.Choice.named "NaN.bits"]
theorem lw_bits : nanBits ∈ lw_cs := by first | decide | exact List.mem_cons_self | simp [lw_cs, nanBits]
def RX0 : String := "FactOrigins$Costs"
def TX0 : u_T := fun k => match k with
  | 0 => ("FactOrigins$Costs", "costOf", "[I", true)
  | 1 => ("FactOrigins$Costs", "ruleOf", "[I", true)
  | 2 => ("FactOrigins$Costs", "nodesOf", "[I", true)
  | 3 => ("FactOrigins$Costs", "basesOf", "[I", true)
  | 4 => ("FactOrigins$Costs", "base", "[I", true)
  | _ => ("FactOrigins$Costs", "chosen", "[I", true)
def tyX0 : Nat → FieldType := fun k => match k with
  | 0 => .array .int
  | 1 => .array .int
  | 2 => .array .int
  | 3 => .array .int
  | 4 => .array .int
  | _ => .array .int
abbrev wsX00 : List Cond := u_ws RX0 TX0 6
theorem nmX0 : ∀ a, a < 6 → ∀ b, b < 6 → a ≠ b → (TX0 a).2.1 ≠ (TX0 b).2.1 := by decide +kernel
theorem tyX0_ok : ∀ k, k < 6 → parseFieldDescriptor (TX0 k).2.2.1 = some (tyX0 k) := by decide +kernel
abbrev cX0_init : ByteArray := prog_2_method_1_code
def yX0_init : MethodName := ⟨RX0, "<init>", "()V"⟩
abbrev cX0_compute : ByteArray := prog_2_method_2_code
def yX0_compute : MethodName := ⟨RX0, "compute", "(LFactOrigins$Program;LFactOrigins$Grounding;LFactOrigins$Holding;)V"⟩
abbrev cX0_startWithBaseFacts : ByteArray := prog_2_method_3_code
def yX0_startWithBaseFacts : MethodName := ⟨RX0, "startWithBaseFacts", "(LFactOrigins$Program;)V"⟩
abbrev cX0_lower : ByteArray := prog_2_method_4_code
def yX0_lower : MethodName := ⟨RX0, "lower", "(LFactOrigins$Grounding;LFactOrigins$Holding;)Z"⟩
abbrev cX0_costBy : ByteArray := prog_2_method_5_code
def yX0_costBy : MethodName := ⟨RX0, "costBy", "(LFactOrigins$Grounding;I)I"⟩
abbrev cX0_choose : ByteArray := prog_2_method_6_code
def yX0_choose : MethodName := ⟨RX0, "choose", "(LFactOrigins$Program;LFactOrigins$Grounding;LFactOrigins$Holding;)V"⟩
abbrev cX0_grow : ByteArray := prog_2_method_7_code
def yX0_grow : MethodName := ⟨RX0, "grow", "(LFactOrigins$Grounding;)Z"⟩
abbrev cX0_partsAreKnown : ByteArray := prog_2_method_8_code
def yX0_partsAreKnown : MethodName := ⟨RX0, "partsAreKnown", "(LFactOrigins$Grounding;I)Z"⟩
abbrev cX0_putTogether : ByteArray := prog_2_method_9_code
def yX0_putTogether : MethodName := ⟨RX0, "putTogether", "(LFactOrigins$Grounding;I)V"⟩
def RX1 : String := "FactOrigins$Grounding"
def TX1 : u_T := fun k => match k with
  | 0 => ("FactOrigins$Grounding", "stratumOf", "[I", true)
  | 1 => ("FactOrigins$Grounding", "stratified", "Z", false)
  | 2 => ("FactOrigins$Grounding", "ruleCount", "I", false)
  | 3 => ("FactOrigins$Grounding", "headStratum", "[I", true)
  | 4 => ("FactOrigins$Grounding", "price", "[I", true)
  | 5 => ("FactOrigins$Grounding", "plainCount", "[I", true)
  | 6 => ("FactOrigins$Grounding", "literalCount", "[I", true)
  | 7 => ("FactOrigins$Grounding", "start", "[I", true)
  | 8 => ("FactOrigins$Grounding", "ruleOf", "[I", true)
  | 9 => ("FactOrigins$Grounding", "head", "[I", true)
  | 10 => ("FactOrigins$Grounding", "body", "[I", true)
  | _ => ("FactOrigins$Grounding", "meaning", "[I", true)
def tyX1 : Nat → FieldType := fun k => match k with
  | 0 => .array .int
  | 1 => .boolean
  | 2 => .int
  | 3 => .array .int
  | 4 => .array .int
  | 5 => .array .int
  | 6 => .array .int
  | 7 => .array .int
  | 8 => .array .int
  | 9 => .array .int
  | 10 => .array .int
  | _ => .array .int
abbrev wsX10 : List Cond := u_ws RX1 TX1 12
theorem nmX1 : ∀ a, a < 12 → ∀ b, b < 12 → a ≠ b → (TX1 a).2.1 ≠ (TX1 b).2.1 := by decide +kernel
theorem tyX1_ok : ∀ k, k < 12 → parseFieldDescriptor (TX1 k).2.2.1 = some (tyX1 k) := by decide +kernel
abbrev cX1_init : ByteArray := prog_3_method_1_code
def yX1_init : MethodName := ⟨RX1, "<init>", "()V"⟩
abbrev cX1_fill : ByteArray := prog_3_method_2_code
def yX1_fill : MethodName := ⟨RX1, "fill", "(LFactOrigins$Program;)V"⟩
abbrev cX1_findStrata : ByteArray := prog_3_method_3_code
def yX1_findStrata : MethodName := ⟨RX1, "findStrata", "(LFactOrigins$Program;)V"⟩
abbrev cX1_raiseHead : ByteArray := prog_3_method_4_code
def yX1_raiseHead : MethodName := ⟨RX1, "raiseHead", "(LFactOrigins$Rule;)Z"⟩
abbrev cX1_fillInstances : ByteArray := prog_3_method_5_code
def yX1_fillInstances : MethodName := ⟨RX1, "fillInstances", "(LFactOrigins$Rule;II)I"⟩
abbrev cX1_fillInstance : ByteArray := prog_3_method_6_code
def yX1_fillInstance : MethodName := ⟨RX1, "fillInstance", "(LFactOrigins$Rule;II)V"⟩
def RX2 : String := "FactOrigins$Holding"
def TX2 : u_T := fun k => match k with
  | 0 => ("FactOrigins$Holding", "instance", "[I", true)
  | 1 => ("FactOrigins$Holding", "total", "I", false)
  | _ => ("FactOrigins$Holding", "ofHead", "[I", true)
def tyX2 : Nat → FieldType := fun k => match k with
  | 0 => .array .int
  | 1 => .int
  | _ => .array .int
abbrev wsX20 : List Cond := u_ws RX2 TX2 3
theorem nmX2 : ∀ a, a < 3 → ∀ b, b < 3 → a ≠ b → (TX2 a).2.1 ≠ (TX2 b).2.1 := by decide +kernel
theorem tyX2_ok : ∀ k, k < 3 → parseFieldDescriptor (TX2 k).2.2.1 = some (tyX2 k) := by decide +kernel
abbrev cX2_init : ByteArray := prog_4_method_1_code
def yX2_init : MethodName := ⟨RX2, "<init>", "()V"⟩
abbrev cX2_collect : ByteArray := prog_4_method_2_code
def yX2_collect : MethodName := ⟨RX2, "collect", "(LFactOrigins$Grounding;LFactOrigins$Model;)V"⟩
def RX3 : String := "FactOrigins$Likelihoods"
def TX3 : u_T := fun k => match k with
  | _ => ("FactOrigins$Likelihoods", "likelihoodOf", "[F", true)
def tyX3 : Nat → FieldType := fun k => match k with
  | _ => .array .float
abbrev wsX30 : List Cond := u_ws RX3 TX3 1
theorem nmX3 : ∀ a, a < 1 → ∀ b, b < 1 → a ≠ b → (TX3 a).2.1 ≠ (TX3 b).2.1 := by decide +kernel
theorem tyX3_ok : ∀ k, k < 1 → parseFieldDescriptor (TX3 k).2.2.1 = some (tyX3 k) := by decide +kernel
abbrev cX3_init : ByteArray := prog_5_method_1_code
def yX3_init : MethodName := ⟨RX3, "<init>", "()V"⟩
abbrev cX3_compute : ByteArray := prog_5_method_2_code
def yX3_compute : MethodName := ⟨RX3, "compute", "(LFactOrigins$Program;LFactOrigins$Grounding;LFactOrigins$Holding;)V"⟩
abbrev cX3_raise : ByteArray := prog_5_method_3_code
def yX3_raise : MethodName := ⟨RX3, "raise", "(IF)Z"⟩
abbrev cX3_likelihoodBy : ByteArray := prog_5_method_4_code
def yX3_likelihoodBy : MethodName := ⟨RX3, "likelihoodBy", "(LFactOrigins$Grounding;I)F"⟩
def RX4 : String := "FactOrigins$Model"
def TX4 : u_T := fun k => match k with
  | 0 => ("FactOrigins$Model", "roundOf", "[I", true)
  | 1 => ("FactOrigins$Model", "lastRound", "I", false)
  | _ => ("FactOrigins$Model", "atoms", "I", false)
def tyX4 : Nat → FieldType := fun k => match k with
  | 0 => .array .int
  | 1 => .int
  | _ => .int
abbrev wsX40 : List Cond := u_ws RX4 TX4 3
theorem nmX4 : ∀ a, a < 3 → ∀ b, b < 3 → a ≠ b → (TX4 a).2.1 ≠ (TX4 b).2.1 := by decide +kernel
theorem tyX4_ok : ∀ k, k < 3 → parseFieldDescriptor (TX4 k).2.2.1 = some (tyX4 k) := by decide +kernel
abbrev cX4_init : ByteArray := prog_6_method_1_code
def yX4_init : MethodName := ⟨RX4, "<init>", "()V"⟩
abbrev cX4_build : ByteArray := prog_6_method_2_code
def yX4_build : MethodName := ⟨RX4, "build", "(LFactOrigins$Program;LFactOrigins$Grounding;I)V"⟩
abbrev cX4_atomsOf : ByteArray := prog_6_method_3_code
def yX4_atomsOf : MethodName := ⟨RX4, "atomsOf", "(I)I"⟩
abbrev cX4_buildStratum : ByteArray := prog_6_method_4_code
def yX4_buildStratum : MethodName := ⟨RX4, "buildStratum", "(LFactOrigins$Grounding;I)V"⟩
abbrev cX4_takeHeads : ByteArray := prog_6_method_5_code
def yX4_takeHeads : MethodName := ⟨RX4, "takeHeads", "(LFactOrigins$Grounding;II)Z"⟩
abbrev cX4_holdsBefore : ByteArray := prog_6_method_6_code
def yX4_holdsBefore : MethodName := ⟨RX4, "holdsBefore", "(LFactOrigins$Grounding;II)Z"⟩
def RX5 : String := "FactOrigins$Program"
def TX5 : u_T := fun k => match k with
  | 0 => ("FactOrigins$Program", "constants", "I", false)
  | 1 => ("FactOrigins$Program", "places", "[I", true)
  | 2 => ("FactOrigins$Program", "factCount", "I", false)
  | 3 => ("FactOrigins$Program", "factAtom", "[I", true)
  | 4 => ("FactOrigins$Program", "factCost", "[I", true)
  | 5 => ("FactOrigins$Program", "factSixteenths", "[I", true)
  | 6 => ("FactOrigins$Program", "ruleCount", "I", false)
  | _ => ("FactOrigins$Program", "ruleList", "[LFactOrigins$Rule;", true)
def tyX5 : Nat → FieldType := fun k => match k with
  | 0 => .int
  | 1 => .array .int
  | 2 => .int
  | 3 => .array .int
  | 4 => .array .int
  | 5 => .array .int
  | 6 => .int
  | _ => .array (.object "FactOrigins$Rule")
abbrev wsX50 : List Cond := u_ws RX5 TX5 8
theorem nmX5 : ∀ a, a < 8 → ∀ b, b < 8 → a ≠ b → (TX5 a).2.1 ≠ (TX5 b).2.1 := by decide +kernel
theorem tyX5_ok : ∀ k, k < 8 → parseFieldDescriptor (TX5 k).2.2.1 = some (tyX5 k) := by decide +kernel
abbrev cX5_init : ByteArray := prog_7_method_1_code
def yX5_init : MethodName := ⟨RX5, "<init>", "()V"⟩
abbrev cX5_clear : ByteArray := prog_7_method_2_code
def yX5_clear : MethodName := ⟨RX5, "clear", "(I)V"⟩
abbrev cX5_become : ByteArray := prog_7_method_3_code
def yX5_become : MethodName := ⟨RX5, "become", "(LFactOrigins$Program;)V"⟩
abbrev cX5_hasAtom : ByteArray := prog_7_method_4_code
def yX5_hasAtom : MethodName := ⟨RX5, "hasAtom", "(III)Z"⟩
abbrev cX5_uses : ByteArray := prog_7_method_5_code
def yX5_uses : MethodName := ⟨RX5, "uses", "(I)Z"⟩
abbrev cX5_enterFact : ByteArray := prog_7_method_6_code
def yX5_enterFact : MethodName := ⟨RX5, "enterFact", "(III)I"⟩
abbrev cX5_dropFact : ByteArray := prog_7_method_7_code
def yX5_dropFact : MethodName := ⟨RX5, "dropFact", "(I)V"⟩
abbrev cX5_enterRule : ByteArray := prog_7_method_8_code
def yX5_enterRule : MethodName := ⟨RX5, "enterRule", "(LFactOrigins$Rule;I)I"⟩
abbrev cX5_dropRule : ByteArray := prog_7_method_9_code
def yX5_dropRule : MethodName := ⟨RX5, "dropRule", "(I)V"⟩
def RX6 : String := "FactOrigins$Rule"
def TX6 : u_T := fun k => match k with
  | 0 => ("FactOrigins$Rule", "predicate", "[I", true)
  | 1 => ("FactOrigins$Rule", "first", "[I", true)
  | 2 => ("FactOrigins$Rule", "second", "[I", true)
  | 3 => ("FactOrigins$Rule", "negated", "[Z", true)
  | 4 => ("FactOrigins$Rule", "literals", "I", false)
  | _ => ("FactOrigins$Rule", "price", "I", false)
def tyX6 : Nat → FieldType := fun k => match k with
  | 0 => .array .int
  | 1 => .array .int
  | 2 => .array .int
  | 3 => .array .boolean
  | 4 => .int
  | _ => .int
abbrev wsX60 : List Cond := u_ws RX6 TX6 6
theorem nmX6 : ∀ a, a < 6 → ∀ b, b < 6 → a ≠ b → (TX6 a).2.1 ≠ (TX6 b).2.1 := by decide +kernel
theorem tyX6_ok : ∀ k, k < 6 → parseFieldDescriptor (TX6 k).2.2.1 = some (tyX6 k) := by decide +kernel
abbrev cX6_init : ByteArray := prog_8_method_1_code
def yX6_init : MethodName := ⟨RX6, "<init>", "()V"⟩
abbrev cX6_become : ByteArray := prog_8_method_2_code
def yX6_become : MethodName := ⟨RX6, "become", "(LFactOrigins$Rule;)V"⟩
abbrev cX6_mentions : ByteArray := prog_8_method_3_code
def yX6_mentions : MethodName := ⟨RX6, "mentions", "(I)Z"⟩
abbrev cX6_hasVariable : ByteArray := prog_8_method_4_code
def yX6_hasVariable : MethodName := ⟨RX6, "hasVariable", "(I)Z"⟩
def RX7 : String := "FactOrigins$RuleText"
def TX7 : u_T := fun k => match k with
  | 0 => ("FactOrigins$RuleText", "letters", "[I", true)
  | 1 => ("FactOrigins$RuleText", "length", "I", false)
  | 2 => ("FactOrigins$RuleText", "rule", "LFactOrigins$Rule;", true)
  | _ => ("FactOrigins$RuleText", "at", "I", false)
def tyX7 : Nat → FieldType := fun k => match k with
  | 0 => .array .int
  | 1 => .int
  | 2 => .object "FactOrigins$Rule"
  | _ => .int
abbrev wsX70 : List Cond := u_ws RX7 TX7 4
theorem nmX7 : ∀ a, a < 4 → ∀ b, b < 4 → a ≠ b → (TX7 a).2.1 ≠ (TX7 b).2.1 := by decide +kernel
theorem tyX7_ok : ∀ k, k < 4 → parseFieldDescriptor (TX7 k).2.2.1 = some (tyX7 k) := by decide +kernel
abbrev cX7_init : ByteArray := prog_9_method_1_code
def yX7_init : MethodName := ⟨RX7, "<init>", "()V"⟩
abbrev cX7_put : ByteArray := prog_9_method_2_code
def yX7_put : MethodName := ⟨RX7, "put", "(I)V"⟩
abbrev cX7_findFault : ByteArray := prog_9_method_3_code
def yX7_findFault : MethodName := ⟨RX7, "findFault", "(LFactOrigins$Program;)I"⟩
abbrev cX7_readRule : ByteArray := prog_9_method_4_code
def yX7_readRule : MethodName := ⟨RX7, "readRule", "(LFactOrigins$Program;)Z"⟩
abbrev cX7_readAtom : ByteArray := prog_9_method_5_code
def yX7_readAtom : MethodName := ⟨RX7, "readAtom", "(LFactOrigins$Program;I)Z"⟩
abbrev cX7_isTerm : ByteArray := prog_9_method_6_code
def yX7_isTerm : MethodName := ⟨RX7, "isTerm", "(II)Z"⟩
abbrev cX7_isVariable : ByteArray := prog_9_method_7_code
def yX7_isVariable : MethodName := ⟨RX7, "isVariable", "(I)Z"⟩
abbrev cX7_takeTerm : ByteArray := prog_9_method_8_code
def yX7_takeTerm : MethodName := ⟨RX7, "takeTerm", "()I"⟩
abbrev cX7_take : ByteArray := prog_9_method_9_code
def yX7_take : MethodName := ⟨RX7, "take", "(I)Z"⟩
abbrev cX7_next : ByteArray := prog_9_method_10_code
def yX7_next : MethodName := ⟨RX7, "next", "()I"⟩
abbrev cX7_unboundVariable : ByteArray := prog_9_method_11_code
def yX7_unboundVariable : MethodName := ⟨RX7, "unboundVariable", "()I"⟩
def RX8 : String := "FactOrigins$Survivals"
def TX8 : u_T := fun k => match k with
  | 0 => ("FactOrigins$Survivals", "smallSets", "[I", true)
  | _ => ("FactOrigins$Survivals", "rows", "[J", true)
def tyX8 : Nat → FieldType := fun k => match k with
  | 0 => .array .int
  | _ => .array .long
abbrev wsX80 : List Cond := u_ws RX8 TX8 2
theorem nmX8 : ∀ a, a < 2 → ∀ b, b < 2 → a ≠ b → (TX8 a).2.1 ≠ (TX8 b).2.1 := by decide +kernel
theorem tyX8_ok : ∀ k, k < 2 → parseFieldDescriptor (TX8 k).2.2.1 = some (tyX8 k) := by decide +kernel
abbrev cX8_init : ByteArray := prog_10_method_1_code
def yX8_init : MethodName := ⟨RX8, "<init>", "()V"⟩
abbrev cX8_compute : ByteArray := prog_10_method_2_code
def yX8_compute : MethodName := ⟨RX8, "compute", "(LFactOrigins$Program;LFactOrigins$Grounding;LFactOrigins$Holding;)V"⟩
abbrev cX8_neededBy : ByteArray := prog_10_method_3_code
def yX8_neededBy : MethodName := ⟨RX8, "neededBy", "(I)I"⟩
abbrev cX8_firstCut : ByteArray := prog_10_method_4_code
def yX8_firstCut : MethodName := ⟨RX8, "firstCut", "(I)I"⟩
abbrev cX8_survives : ByteArray := prog_10_method_5_code
def yX8_survives : MethodName := ⟨RX8, "survives", "(II)Z"⟩
abbrev cX8_enterBaseFact : ByteArray := prog_10_method_6_code
def yX8_enterBaseFact : MethodName := ⟨RX8, "enterBaseFact", "(II)V"⟩
abbrev cX8_widen : ByteArray := prog_10_method_7_code
def yX8_widen : MethodName := ⟨RX8, "widen", "(LFactOrigins$Grounding;I)Z"⟩
def RX9 : String := "FactOrigins"
def TX9 : u_T := fun k => match k with
  | 0 => ("FactOrigins", "program", "LFactOrigins$Program;", true)
  | 1 => ("FactOrigins", "slots", "[LFactOrigins$Program;", true)
  | 2 => ("FactOrigins", "slotFilled", "[Z", true)
  | 3 => ("FactOrigins", "text", "LFactOrigins$RuleText;", true)
  | 4 => ("FactOrigins", "grounding", "LFactOrigins$Grounding;", true)
  | 5 => ("FactOrigins", "model", "LFactOrigins$Model;", true)
  | 6 => ("FactOrigins", "holding", "LFactOrigins$Holding;", true)
  | 7 => ("FactOrigins", "costs", "LFactOrigins$Costs;", true)
  | 8 => ("FactOrigins", "likelihoods", "LFactOrigins$Likelihoods;", true)
  | 9 => ("FactOrigins", "survivals", "LFactOrigins$Survivals;", true)
  | 10 => ("FactOrigins", "lesserModel", "LFactOrigins$Model;", true)
  | 11 => ("FactOrigins", "groundingFresh", "Z", false)
  | 12 => ("FactOrigins", "modelFresh", "Z", false)
  | 13 => ("FactOrigins", "costsFresh", "Z", false)
  | 14 => ("FactOrigins", "likelihoodsFresh", "Z", false)
  | 15 => ("FactOrigins", "survivalsFresh", "Z", false)
  | _ => ("FactOrigins", "lesserWithout", "I", false)
def tyX9 : Nat → FieldType := fun k => match k with
  | 0 => .object "FactOrigins$Program"
  | 1 => .array (.object "FactOrigins$Program")
  | 2 => .array .boolean
  | 3 => .object "FactOrigins$RuleText"
  | 4 => .object "FactOrigins$Grounding"
  | 5 => .object "FactOrigins$Model"
  | 6 => .object "FactOrigins$Holding"
  | 7 => .object "FactOrigins$Costs"
  | 8 => .object "FactOrigins$Likelihoods"
  | 9 => .object "FactOrigins$Survivals"
  | 10 => .object "FactOrigins$Model"
  | 11 => .boolean
  | 12 => .boolean
  | 13 => .boolean
  | 14 => .boolean
  | 15 => .boolean
  | _ => .int
abbrev wsX90 : List Cond := u_ws RX9 TX9 17
theorem nmX9 : ∀ a, a < 17 → ∀ b, b < 17 → a ≠ b → (TX9 a).2.1 ≠ (TX9 b).2.1 := by decide +kernel
theorem tyX9_ok : ∀ k, k < 17 → parseFieldDescriptor (TX9 k).2.2.1 = some (tyX9 k) := by decide +kernel
abbrev cX9_init : ByteArray := prog_1_method_1_code
def yX9_init : MethodName := ⟨RX9, "<init>", "()V"⟩
abbrev cX9_begin : ByteArray := prog_1_method_2_code
def yX9_begin : MethodName := ⟨RX9, "begin", "(I)I"⟩
abbrev cX9_setPlaces : ByteArray := prog_1_method_3_code
def yX9_setPlaces : MethodName := ⟨RX9, "setPlaces", "(II)I"⟩
abbrev cX9_addFact : ByteArray := prog_1_method_4_code
def yX9_addFact : MethodName := ⟨RX9, "addFact", "(IIIII)I"⟩
abbrev cX9_removeFact : ByteArray := prog_1_method_5_code
def yX9_removeFact : MethodName := ⟨RX9, "removeFact", "(I)I"⟩
abbrev cX9_facts : ByteArray := prog_1_method_6_code
def yX9_facts : MethodName := ⟨RX9, "facts", "()I"⟩
abbrev cX9_removeRule : ByteArray := prog_1_method_7_code
def yX9_removeRule : MethodName := ⟨RX9, "removeRule", "(I)I"⟩
abbrev cX9_rules : ByteArray := prog_1_method_8_code
def yX9_rules : MethodName := ⟨RX9, "rules", "()I"⟩
abbrev cX9_append : ByteArray := prog_1_method_9_code
def yX9_append : MethodName := ⟨RX9, "append", "(I)I"⟩
abbrev cX9_clearText : ByteArray := prog_1_method_10_code
def yX9_clearText : MethodName := ⟨RX9, "clearText", "()I"⟩
abbrev cX9_faultPosition : ByteArray := prog_1_method_11_code
def yX9_faultPosition : MethodName := ⟨RX9, "faultPosition", "()I"⟩
abbrev cX9_addRule : ByteArray := prog_1_method_12_code
def yX9_addRule : MethodName := ⟨RX9, "addRule", "(I)I"⟩
abbrev cX9_stratum : ByteArray := prog_1_method_13_code
def yX9_stratum : MethodName := ⟨RX9, "stratum", "(I)I"⟩
abbrev cX9_size : ByteArray := prog_1_method_14_code
def yX9_size : MethodName := ⟨RX9, "size", "()I"⟩
abbrev cX9_count : ByteArray := prog_1_method_15_code
def yX9_count : MethodName := ⟨RX9, "count", "(I)I"⟩
abbrev cX9_rounds : ByteArray := prog_1_method_16_code
def yX9_rounds : MethodName := ⟨RX9, "rounds", "()I"⟩
abbrev cX9_round : ByteArray := prog_1_method_17_code
def yX9_round : MethodName := ⟨RX9, "round", "(III)I"⟩
abbrev cX9_instances : ByteArray := prog_1_method_18_code
def yX9_instances : MethodName := ⟨RX9, "instances", "(III)I"⟩
abbrev cX9_cost : ByteArray := prog_1_method_19_code
def yX9_cost : MethodName := ⟨RX9, "cost", "(III)I"⟩
abbrev cX9_likelihood : ByteArray := prog_1_method_20_code
def yX9_likelihood : MethodName := ⟨RX9, "likelihood", "(III)I"⟩
abbrev cX9_least : ByteArray := prog_1_method_21_code
def yX9_least : MethodName := ⟨RX9, "least", "(IIII)I"⟩
abbrev cX9_needs : ByteArray := prog_1_method_22_code
def yX9_needs : MethodName := ⟨RX9, "needs", "(III)I"⟩
abbrev cX9_cut : ByteArray := prog_1_method_23_code
def yX9_cut : MethodName := ⟨RX9, "cut", "(III)I"⟩
abbrev cX9_sizeWithout : ByteArray := prog_1_method_24_code
def yX9_sizeWithout : MethodName := ⟨RX9, "sizeWithout", "(I)I"⟩
abbrev cX9_holdsWithout : ByteArray := prog_1_method_25_code
def yX9_holdsWithout : MethodName := ⟨RX9, "holdsWithout", "(IIII)I"⟩
abbrev cX9_save : ByteArray := prog_1_method_26_code
def yX9_save : MethodName := ⟨RX9, "save", "(I)I"⟩
abbrev cX9_restore : ByteArray := prog_1_method_27_code
def yX9_restore : MethodName := ⟨RX9, "restore", "(I)I"⟩
abbrev cX9_checksum : ByteArray := prog_1_method_28_code
def yX9_checksum : MethodName := ⟨RX9, "checksum", "()J"⟩
abbrev cX9_isPredicate : ByteArray := prog_1_method_29_code
def yX9_isPredicate : MethodName := ⟨RX9, "isPredicate", "(I)Z"⟩
abbrev cX9_atomNumber : ByteArray := prog_1_method_30_code
def yX9_atomNumber : MethodName := ⟨RX9, "atomNumber", "(III)I"⟩
abbrev cX9_atomOfModel : ByteArray := prog_1_method_31_code
def yX9_atomOfModel : MethodName := ⟨RX9, "atomOfModel", "(III)I"⟩
abbrev cX9_leastOf : ByteArray := prog_1_method_32_code
def yX9_leastOf : MethodName := ⟨RX9, "leastOf", "(II)I"⟩
abbrev cX9_withAtom : ByteArray := prog_1_method_33_code
def yX9_withAtom : MethodName := ⟨RX9, "withAtom", "(JI)J"⟩
abbrev cX9_rulesChanged : ByteArray := prog_1_method_34_code
def yX9_rulesChanged : MethodName := ⟨RX9, "rulesChanged", "()V"⟩
abbrev cX9_factsChanged : ByteArray := prog_1_method_35_code
def yX9_factsChanged : MethodName := ⟨RX9, "factsChanged", "()V"⟩
abbrev cX9_hasModel : ByteArray := prog_1_method_36_code
def yX9_hasModel : MethodName := ⟨RX9, "hasModel", "()Z"⟩
abbrev cX9_computeCosts : ByteArray := prog_1_method_37_code
def yX9_computeCosts : MethodName := ⟨RX9, "computeCosts", "()V"⟩
abbrev cX9_computeLikelihoods : ByteArray := prog_1_method_38_code
def yX9_computeLikelihoods : MethodName := ⟨RX9, "computeLikelihoods", "()V"⟩
abbrev cX9_computeSurvivals : ByteArray := prog_1_method_39_code
def yX9_computeSurvivals : MethodName := ⟨RX9, "computeSurvivals", "()V"⟩
abbrev cX9_buildLesserModel : ByteArray := prog_1_method_40_code
def yX9_buildLesserModel : MethodName := ⟨RX9, "buildLesserModel", "(I)V"⟩
abbrev cX9_floatBits : ByteArray := prog_1_method_41_code
def yX9_floatBits : MethodName := ⟨RX9, "floatBits", "(F)I"⟩
def RX10 : String := "FactOriginsModel"
def TX10 : u_T := fun k => match k with
  | _ => ("", "", "", false)
def tyX10 : Nat → FieldType := fun k => match k with
  | _ => .int
abbrev wsX100 : List Cond := u_ws RX10 TX10 0
theorem nmX10 : ∀ a, a < 0 → ∀ b, b < 0 → a ≠ b → (TX10 a).2.1 ≠ (TX10 b).2.1 := by decide +kernel
theorem tyX10_ok : ∀ k, k < 0 → parseFieldDescriptor (TX10 k).2.2.1 = some (tyX10 k) := by decide +kernel
def RJ9 : String := "java/lang/Math"
def TJ9 : u_T := fun k => match k with
  | _ => ("", "", "", false)
def tyJ9 : Nat → FieldType := fun k => match k with
  | _ => .int
abbrev wsJ90 : List Cond := u_ws RJ9 TJ9 0
theorem nmJ9 : ∀ a, a < 0 → ∀ b, b < 0 → a ≠ b → (TJ9 a).2.1 ≠ (TJ9 b).2.1 := by decide +kernel
theorem tyJ9_ok : ∀ k, k < 0 → parseFieldDescriptor (TJ9 k).2.2.1 = some (tyJ9 k) := by decide +kernel
abbrev cJ9_max_7cf53 : ByteArray := prog_13_method_65_code
def yJ9_max_7cf53 : MethodName := ⟨RJ9, "max", "(II)I"⟩
abbrev cJ9_min_7cf53 : ByteArray := prog_13_method_69_code
def yJ9_min_7cf53 : MethodName := ⟨RJ9, "min", "(II)I"⟩
def RJ10 : String := "java/lang/System"
def TJ10 : u_T := fun k => match k with
  | _ => ("", "", "", false)
def tyJ10 : Nat → FieldType := fun k => match k with
  | _ => .int
abbrev wsJ100 : List Cond := u_ws RJ10 TJ10 0
theorem nmJ10 : ∀ a, a < 0 → ∀ b, b < 0 → a ≠ b → (TJ10 a).2.1 ≠ (TJ10 b).2.1 := by decide +kernel
theorem tyJ10_ok : ∀ k, k < 0 → parseFieldDescriptor (TJ10 k).2.2.1 = some (tyJ10 k) := by decide +kernel
def RJ7 : String := "java/util/Arrays"
def TJ7 : u_T := fun k => match k with
  | _ => ("", "", "", false)
def tyJ7 : Nat → FieldType := fun k => match k with
  | _ => .int
abbrev wsJ70 : List Cond := u_ws RJ7 TJ7 0
theorem nmJ7 : ∀ a, a < 0 → ∀ b, b < 0 → a ≠ b → (TJ7 a).2.1 ≠ (TJ7 b).2.1 := by decide +kernel
theorem tyJ7_ok : ∀ k, k < 0 → parseFieldDescriptor (TJ7 k).2.2.1 = some (tyJ7 k) := by decide +kernel
abbrev cJ7_fill_d0a16 : ByteArray := prog_15_method_101_code
def yJ7_fill_d0a16 : MethodName := ⟨RJ7, "fill", "([JJ)V"⟩
abbrev cJ7_fill_53178 : ByteArray := prog_15_method_103_code
def yJ7_fill_53178 : MethodName := ⟨RJ7, "fill", "([II)V"⟩
def RL : String := "FactOriginsLaw"
abbrev cL_cell : ByteArray := method_2_code
def yL_cell : MethodName := ⟨RL, "cell", "([II)I"⟩
abbrev cL_term : ByteArray := method_3_code
def yL_term : MethodName := ⟨RL, "term", "(LFactOrigins;I)V"⟩
abbrev cL_atom : ByteArray := method_4_code
def yL_atom : MethodName := ⟨RL, "atom", "(LFactOrigins;[II[I)V"⟩
abbrev cL_rules : ByteArray := method_5_code
def yL_rules : MethodName := ⟨RL, "rules", "(LFactOrigins;II[I[I[I)Z"⟩
abbrev cL_facts : ByteArray := method_6_code
def yL_facts : MethodName := ⟨RL, "facts", "(LFactOrigins;I[I[I[I)Z"⟩
abbrev cL_sound : ByteArray := method_7_code
def yL_sound : MethodName := ⟨RL, "sound", "(LFactOrigins;[II)Z"⟩
abbrev cL_refuses : ByteArray := method_8_code
def yL_refuses : MethodName := ⟨RL, "refuses", "(LFactOrigins;I)Z"⟩
abbrev cL_law : ByteArray := code
def yL_law : MethodName := ⟨RL, "law", "([I)Z"⟩
abbrev vwCl : List vw_C := [(RX0, TX0, 6), (RX1, TX1, 12), (RX2, TX2, 3), (RX3, TX3, 1), (RX4, TX4, 3), (RX5, TX5, 8), (RX6, TX6, 6), (RX7, TX7, 4), (RX8, TX8, 2), (RX9, TX9, 17)]
set_option maxRecDepth 20000 in
theorem inT0 : ∀ w ∈ wsX00, w ∈ lw_tbl := by decide +kernel
set_option maxRecDepth 20000 in
theorem inT1 : ∀ w ∈ wsX10, w ∈ lw_tbl := by decide +kernel
set_option maxRecDepth 20000 in
theorem inT2 : ∀ w ∈ wsX20, w ∈ lw_tbl := by decide +kernel
set_option maxRecDepth 20000 in
theorem inT3 : ∀ w ∈ wsX30, w ∈ lw_tbl := by decide +kernel
set_option maxRecDepth 20000 in
theorem inT4 : ∀ w ∈ wsX40, w ∈ lw_tbl := by decide +kernel
set_option maxRecDepth 20000 in
theorem inT5 : ∀ w ∈ wsX50, w ∈ lw_tbl := by decide +kernel
set_option maxRecDepth 20000 in
theorem inT6 : ∀ w ∈ wsX60, w ∈ lw_tbl := by decide +kernel
set_option maxRecDepth 20000 in
theorem inT7 : ∀ w ∈ wsX70, w ∈ lw_tbl := by decide +kernel
set_option maxRecDepth 20000 in
theorem inT8 : ∀ w ∈ wsX80, w ∈ lw_tbl := by decide +kernel
set_option maxRecDepth 20000 in
theorem inT9 : ∀ w ∈ wsX90, w ∈ lw_tbl := by decide +kernel
set_option maxRecDepth 20000 in
theorem inT10 : ∀ w ∈ wsX100, w ∈ lw_tbl := by decide +kernel
