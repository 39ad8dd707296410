section
-- ===== PART A: goes FIRST, ahead of the names: the tables' words, and 'selects' of the private methods out of them =====
/-- a private method of a class that the tables say can be made, by its rows of tables_1 -/
def lw_okq (q : MethodName × Nat) : Prop := (q.1.cls ≠ "java/lang/invoke/MethodHandle" ∧ q.1.cls ≠ "java/lang/invoke/VarHandle") ∧ Cond.instantiable q.1.cls q.2 ∈ tables_1 ∧ Cond.privateMethod q.1 ∈ tables_1 ∧ Cond.instanceMethod q.1 ∈ tables_1
theorem lw_p0 : lw_okq (⟨"FactOrigins", "rulesChanged", "()V"⟩, 17) := ⟨⟨by decide +kernel, by decide +kernel⟩, List.mem_of_getElem? (i := 18) (by decide +kernel), List.mem_of_getElem? (i := 370) (by decide +kernel), List.mem_of_getElem? (i := 371) (by decide +kernel)⟩
theorem lw_p1 : lw_okq (⟨"FactOrigins", "factsChanged", "()V"⟩, 17) := ⟨⟨by decide +kernel, by decide +kernel⟩, List.mem_of_getElem? (i := 18) (by decide +kernel), List.mem_of_getElem? (i := 374) (by decide +kernel), List.mem_of_getElem? (i := 375) (by decide +kernel)⟩
theorem lw_p2 : lw_okq (⟨"FactOrigins$RuleText", "readRule", "(LFactOrigins$Program;)Z"⟩, 4) := ⟨⟨by decide +kernel, by decide +kernel⟩, List.mem_of_getElem? (i := 120) (by decide +kernel), List.mem_of_getElem? (i := 457) (by decide +kernel), List.mem_of_getElem? (i := 458) (by decide +kernel)⟩
theorem lw_p3 : lw_okq (⟨"FactOrigins$RuleText", "readAtom", "(LFactOrigins$Program;I)Z"⟩, 4) := ⟨⟨by decide +kernel, by decide +kernel⟩, List.mem_of_getElem? (i := 120) (by decide +kernel), List.mem_of_getElem? (i := 461) (by decide +kernel), List.mem_of_getElem? (i := 462) (by decide +kernel)⟩
theorem lw_p4 : lw_okq (⟨"FactOrigins$RuleText", "next", "()I"⟩, 4) := ⟨⟨by decide +kernel, by decide +kernel⟩, List.mem_of_getElem? (i := 120) (by decide +kernel), List.mem_of_getElem? (i := 465) (by decide +kernel), List.mem_of_getElem? (i := 466) (by decide +kernel)⟩
theorem lw_p5 : lw_okq (⟨"FactOrigins$RuleText", "take", "(I)Z"⟩, 4) := ⟨⟨by decide +kernel, by decide +kernel⟩, List.mem_of_getElem? (i := 120) (by decide +kernel), List.mem_of_getElem? (i := 470) (by decide +kernel), List.mem_of_getElem? (i := 471) (by decide +kernel)⟩
theorem lw_p6 : lw_okq (⟨"FactOrigins$RuleText", "takeTerm", "()I"⟩, 4) := ⟨⟨by decide +kernel, by decide +kernel⟩, List.mem_of_getElem? (i := 120) (by decide +kernel), List.mem_of_getElem? (i := 480) (by decide +kernel), List.mem_of_getElem? (i := 481) (by decide +kernel)⟩
theorem lw_p7 : lw_okq (⟨"FactOrigins$RuleText", "unboundVariable", "()I"⟩, 4) := ⟨⟨by decide +kernel, by decide +kernel⟩, List.mem_of_getElem? (i := 120) (by decide +kernel), List.mem_of_getElem? (i := 484) (by decide +kernel), List.mem_of_getElem? (i := 485) (by decide +kernel)⟩
theorem lw_p8 : lw_okq (⟨"FactOrigins", "hasModel", "()Z"⟩, 17) := ⟨⟨by decide +kernel, by decide +kernel⟩, List.mem_of_getElem? (i := 18) (by decide +kernel), List.mem_of_getElem? (i := 504) (by decide +kernel), List.mem_of_getElem? (i := 505) (by decide +kernel)⟩
theorem lw_p9 : lw_okq (⟨"FactOrigins$Grounding", "findStrata", "(LFactOrigins$Program;)V"⟩, 12) := ⟨⟨by decide +kernel, by decide +kernel⟩, List.mem_of_getElem? (i := 143) (by decide +kernel), List.mem_of_getElem? (i := 512) (by decide +kernel), List.mem_of_getElem? (i := 513) (by decide +kernel)⟩
theorem lw_p10 : lw_okq (⟨"FactOrigins$Grounding", "raiseHead", "(LFactOrigins$Rule;)Z"⟩, 12) := ⟨⟨by decide +kernel, by decide +kernel⟩, List.mem_of_getElem? (i := 143) (by decide +kernel), List.mem_of_getElem? (i := 517) (by decide +kernel), List.mem_of_getElem? (i := 518) (by decide +kernel)⟩
theorem lw_p11 : lw_okq (⟨"FactOrigins$Grounding", "fillInstances", "(LFactOrigins$Rule;II)I"⟩, 12) := ⟨⟨by decide +kernel, by decide +kernel⟩, List.mem_of_getElem? (i := 143) (by decide +kernel), List.mem_of_getElem? (i := 524) (by decide +kernel), List.mem_of_getElem? (i := 525) (by decide +kernel)⟩
theorem lw_p12 : lw_okq (⟨"FactOrigins$Grounding", "fillInstance", "(LFactOrigins$Rule;II)V"⟩, 12) := ⟨⟨by decide +kernel, by decide +kernel⟩, List.mem_of_getElem? (i := 143) (by decide +kernel), List.mem_of_getElem? (i := 529) (by decide +kernel), List.mem_of_getElem? (i := 530) (by decide +kernel)⟩
theorem lw_p13 : lw_okq (⟨"FactOrigins$Model", "buildStratum", "(LFactOrigins$Grounding;I)V"⟩, 3) := ⟨⟨by decide +kernel, by decide +kernel⟩, List.mem_of_getElem? (i := 212) (by decide +kernel), List.mem_of_getElem? (i := 539) (by decide +kernel), List.mem_of_getElem? (i := 540) (by decide +kernel)⟩
theorem lw_p14 : lw_okq (⟨"FactOrigins$Model", "takeHeads", "(LFactOrigins$Grounding;II)Z"⟩, 3) := ⟨⟨by decide +kernel, by decide +kernel⟩, List.mem_of_getElem? (i := 212) (by decide +kernel), List.mem_of_getElem? (i := 543) (by decide +kernel), List.mem_of_getElem? (i := 544) (by decide +kernel)⟩
theorem lw_p15 : lw_okq (⟨"FactOrigins", "atomOfModel", "(III)I"⟩, 17) := ⟨⟨by decide +kernel, by decide +kernel⟩, List.mem_of_getElem? (i := 18) (by decide +kernel), List.mem_of_getElem? (i := 578) (by decide +kernel), List.mem_of_getElem? (i := 579) (by decide +kernel)⟩
def lw_privs_1 : List (MethodName × Nat) := [(⟨"FactOrigins", "rulesChanged", "()V"⟩, 17), (⟨"FactOrigins", "factsChanged", "()V"⟩, 17), (⟨"FactOrigins$RuleText", "readRule", "(LFactOrigins$Program;)Z"⟩, 4), (⟨"FactOrigins$RuleText", "readAtom", "(LFactOrigins$Program;I)Z"⟩, 4), (⟨"FactOrigins$RuleText", "next", "()I"⟩, 4), (⟨"FactOrigins$RuleText", "take", "(I)Z"⟩, 4), (⟨"FactOrigins$RuleText", "takeTerm", "()I"⟩, 4), (⟨"FactOrigins$RuleText", "unboundVariable", "()I"⟩, 4), (⟨"FactOrigins", "hasModel", "()Z"⟩, 17), (⟨"FactOrigins$Grounding", "findStrata", "(LFactOrigins$Program;)V"⟩, 12), (⟨"FactOrigins$Grounding", "raiseHead", "(LFactOrigins$Rule;)Z"⟩, 12), (⟨"FactOrigins$Grounding", "fillInstances", "(LFactOrigins$Rule;II)I"⟩, 12), (⟨"FactOrigins$Grounding", "fillInstance", "(LFactOrigins$Rule;II)V"⟩, 12), (⟨"FactOrigins$Model", "buildStratum", "(LFactOrigins$Grounding;I)V"⟩, 3), (⟨"FactOrigins$Model", "takeHeads", "(LFactOrigins$Grounding;II)Z"⟩, 3), (⟨"FactOrigins", "atomOfModel", "(III)I"⟩, 17)]
theorem lw_r1 : ∀ q ∈ lw_privs_1, lw_okq q := List.forall_mem_cons.mpr ⟨lw_p0, List.forall_mem_cons.mpr ⟨lw_p1, List.forall_mem_cons.mpr ⟨lw_p2, List.forall_mem_cons.mpr ⟨lw_p3, List.forall_mem_cons.mpr ⟨lw_p4, List.forall_mem_cons.mpr ⟨lw_p5, List.forall_mem_cons.mpr ⟨lw_p6, List.forall_mem_cons.mpr ⟨lw_p7, List.forall_mem_cons.mpr ⟨lw_p8, List.forall_mem_cons.mpr ⟨lw_p9, List.forall_mem_cons.mpr ⟨lw_p10, List.forall_mem_cons.mpr ⟨lw_p11, List.forall_mem_cons.mpr ⟨lw_p12, List.forall_mem_cons.mpr ⟨lw_p13, List.forall_mem_cons.mpr ⟨lw_p14, List.forall_mem_cons.mpr ⟨lw_p15, fun _ h => absurd h List.not_mem_nil⟩⟩⟩⟩⟩⟩⟩⟩⟩⟩⟩⟩⟩⟩⟩⟩
theorem lw_p16 : lw_okq (⟨"FactOrigins", "computeCosts", "()V"⟩, 17) := ⟨⟨by decide +kernel, by decide +kernel⟩, List.mem_of_getElem? (i := 18) (by decide +kernel), List.mem_of_getElem? (i := 590) (by decide +kernel), List.mem_of_getElem? (i := 591) (by decide +kernel)⟩
theorem lw_p17 : lw_okq (⟨"FactOrigins$Costs", "startWithBaseFacts", "(LFactOrigins$Program;)V"⟩, 6) := ⟨⟨by decide +kernel, by decide +kernel⟩, List.mem_of_getElem? (i := 255) (by decide +kernel), List.mem_of_getElem? (i := 598) (by decide +kernel), List.mem_of_getElem? (i := 599) (by decide +kernel)⟩
theorem lw_p18 : lw_okq (⟨"FactOrigins$Costs", "lower", "(LFactOrigins$Grounding;LFactOrigins$Holding;)Z"⟩, 6) := ⟨⟨by decide +kernel, by decide +kernel⟩, List.mem_of_getElem? (i := 255) (by decide +kernel), List.mem_of_getElem? (i := 604) (by decide +kernel), List.mem_of_getElem? (i := 605) (by decide +kernel)⟩
theorem lw_p19 : lw_okq (⟨"FactOrigins$Costs", "costBy", "(LFactOrigins$Grounding;I)I"⟩, 6) := ⟨⟨by decide +kernel, by decide +kernel⟩, List.mem_of_getElem? (i := 255) (by decide +kernel), List.mem_of_getElem? (i := 608) (by decide +kernel), List.mem_of_getElem? (i := 609) (by decide +kernel)⟩
theorem lw_p20 : lw_okq (⟨"FactOrigins$Costs", "choose", "(LFactOrigins$Program;LFactOrigins$Grounding;LFactOrigins$Holding;)V"⟩, 6) := ⟨⟨by decide +kernel, by decide +kernel⟩, List.mem_of_getElem? (i := 255) (by decide +kernel), List.mem_of_getElem? (i := 615) (by decide +kernel), List.mem_of_getElem? (i := 616) (by decide +kernel)⟩
theorem lw_p21 : lw_okq (⟨"FactOrigins$Costs", "grow", "(LFactOrigins$Grounding;)Z"⟩, 6) := ⟨⟨by decide +kernel, by decide +kernel⟩, List.mem_of_getElem? (i := 255) (by decide +kernel), List.mem_of_getElem? (i := 619) (by decide +kernel), List.mem_of_getElem? (i := 620) (by decide +kernel)⟩
theorem lw_p22 : lw_okq (⟨"FactOrigins$Costs", "partsAreKnown", "(LFactOrigins$Grounding;I)Z"⟩, 6) := ⟨⟨by decide +kernel, by decide +kernel⟩, List.mem_of_getElem? (i := 255) (by decide +kernel), List.mem_of_getElem? (i := 623) (by decide +kernel), List.mem_of_getElem? (i := 624) (by decide +kernel)⟩
theorem lw_p23 : lw_okq (⟨"FactOrigins$Costs", "putTogether", "(LFactOrigins$Grounding;I)V"⟩, 6) := ⟨⟨by decide +kernel, by decide +kernel⟩, List.mem_of_getElem? (i := 255) (by decide +kernel), List.mem_of_getElem? (i := 627) (by decide +kernel), List.mem_of_getElem? (i := 628) (by decide +kernel)⟩
theorem lw_p24 : lw_okq (⟨"FactOrigins", "computeLikelihoods", "()V"⟩, 17) := ⟨⟨by decide +kernel, by decide +kernel⟩, List.mem_of_getElem? (i := 18) (by decide +kernel), List.mem_of_getElem? (i := 635) (by decide +kernel), List.mem_of_getElem? (i := 636) (by decide +kernel)⟩
theorem lw_p25 : lw_okq (⟨"FactOrigins$Likelihoods", "raise", "(IF)Z"⟩, 1) := ⟨⟨by decide +kernel, by decide +kernel⟩, List.mem_of_getElem? (i := 284) (by decide +kernel), List.mem_of_getElem? (i := 644) (by decide +kernel), List.mem_of_getElem? (i := 645) (by decide +kernel)⟩
theorem lw_p26 : lw_okq (⟨"FactOrigins$Likelihoods", "likelihoodBy", "(LFactOrigins$Grounding;I)F"⟩, 1) := ⟨⟨by decide +kernel, by decide +kernel⟩, List.mem_of_getElem? (i := 284) (by decide +kernel), List.mem_of_getElem? (i := 648) (by decide +kernel), List.mem_of_getElem? (i := 649) (by decide +kernel)⟩
theorem lw_p27 : lw_okq (⟨"FactOrigins", "leastOf", "(II)I"⟩, 17) := ⟨⟨by decide +kernel, by decide +kernel⟩, List.mem_of_getElem? (i := 18) (by decide +kernel), List.mem_of_getElem? (i := 660) (by decide +kernel), List.mem_of_getElem? (i := 661) (by decide +kernel)⟩
theorem lw_p28 : lw_okq (⟨"FactOrigins", "computeSurvivals", "()V"⟩, 17) := ⟨⟨by decide +kernel, by decide +kernel⟩, List.mem_of_getElem? (i := 18) (by decide +kernel), List.mem_of_getElem? (i := 669) (by decide +kernel), List.mem_of_getElem? (i := 670) (by decide +kernel)⟩
theorem lw_p29 : lw_okq (⟨"FactOrigins$Survivals", "enterBaseFact", "(II)V"⟩, 2) := ⟨⟨by decide +kernel, by decide +kernel⟩, List.mem_of_getElem? (i := 296) (by decide +kernel), List.mem_of_getElem? (i := 680) (by decide +kernel), List.mem_of_getElem? (i := 681) (by decide +kernel)⟩
theorem lw_p30 : lw_okq (⟨"FactOrigins$Survivals", "widen", "(LFactOrigins$Grounding;I)Z"⟩, 2) := ⟨⟨by decide +kernel, by decide +kernel⟩, List.mem_of_getElem? (i := 296) (by decide +kernel), List.mem_of_getElem? (i := 684) (by decide +kernel), List.mem_of_getElem? (i := 685) (by decide +kernel)⟩
theorem lw_p31 : lw_okq (⟨"FactOrigins$Survivals", "survives", "(II)Z"⟩, 2) := ⟨⟨by decide +kernel, by decide +kernel⟩, List.mem_of_getElem? (i := 296) (by decide +kernel), List.mem_of_getElem? (i := 693) (by decide +kernel), List.mem_of_getElem? (i := 694) (by decide +kernel)⟩
def lw_privs_2 : List (MethodName × Nat) := [(⟨"FactOrigins", "computeCosts", "()V"⟩, 17), (⟨"FactOrigins$Costs", "startWithBaseFacts", "(LFactOrigins$Program;)V"⟩, 6), (⟨"FactOrigins$Costs", "lower", "(LFactOrigins$Grounding;LFactOrigins$Holding;)Z"⟩, 6), (⟨"FactOrigins$Costs", "costBy", "(LFactOrigins$Grounding;I)I"⟩, 6), (⟨"FactOrigins$Costs", "choose", "(LFactOrigins$Program;LFactOrigins$Grounding;LFactOrigins$Holding;)V"⟩, 6), (⟨"FactOrigins$Costs", "grow", "(LFactOrigins$Grounding;)Z"⟩, 6), (⟨"FactOrigins$Costs", "partsAreKnown", "(LFactOrigins$Grounding;I)Z"⟩, 6), (⟨"FactOrigins$Costs", "putTogether", "(LFactOrigins$Grounding;I)V"⟩, 6), (⟨"FactOrigins", "computeLikelihoods", "()V"⟩, 17), (⟨"FactOrigins$Likelihoods", "raise", "(IF)Z"⟩, 1), (⟨"FactOrigins$Likelihoods", "likelihoodBy", "(LFactOrigins$Grounding;I)F"⟩, 1), (⟨"FactOrigins", "leastOf", "(II)I"⟩, 17), (⟨"FactOrigins", "computeSurvivals", "()V"⟩, 17), (⟨"FactOrigins$Survivals", "enterBaseFact", "(II)V"⟩, 2), (⟨"FactOrigins$Survivals", "widen", "(LFactOrigins$Grounding;I)Z"⟩, 2), (⟨"FactOrigins$Survivals", "survives", "(II)Z"⟩, 2)]
theorem lw_r2 : ∀ q ∈ lw_privs_2, lw_okq q := List.forall_mem_cons.mpr ⟨lw_p16, List.forall_mem_cons.mpr ⟨lw_p17, List.forall_mem_cons.mpr ⟨lw_p18, List.forall_mem_cons.mpr ⟨lw_p19, List.forall_mem_cons.mpr ⟨lw_p20, List.forall_mem_cons.mpr ⟨lw_p21, List.forall_mem_cons.mpr ⟨lw_p22, List.forall_mem_cons.mpr ⟨lw_p23, List.forall_mem_cons.mpr ⟨lw_p24, List.forall_mem_cons.mpr ⟨lw_p25, List.forall_mem_cons.mpr ⟨lw_p26, List.forall_mem_cons.mpr ⟨lw_p27, List.forall_mem_cons.mpr ⟨lw_p28, List.forall_mem_cons.mpr ⟨lw_p29, List.forall_mem_cons.mpr ⟨lw_p30, List.forall_mem_cons.mpr ⟨lw_p31, fun _ h => absurd h List.not_mem_nil⟩⟩⟩⟩⟩⟩⟩⟩⟩⟩⟩⟩⟩⟩⟩⟩
theorem lw_p32 : lw_okq (⟨"FactOrigins", "buildLesserModel", "(I)V"⟩, 17) := ⟨⟨by decide +kernel, by decide +kernel⟩, List.mem_of_getElem? (i := 18) (by decide +kernel), List.mem_of_getElem? (i := 709) (by decide +kernel), List.mem_of_getElem? (i := 710) (by decide +kernel)⟩
theorem lw_p33 : lw_okq (⟨"FactOrigins", "withAtom", "(JI)J"⟩, 17) := ⟨⟨by decide +kernel, by decide +kernel⟩, List.mem_of_getElem? (i := 18) (by decide +kernel), List.mem_of_getElem? (i := 739) (by decide +kernel), List.mem_of_getElem? (i := 740) (by decide +kernel)⟩
theorem lw_p34 : lw_okq (⟨"FactOriginsModel", "anew", "(I)V"⟩, 28) := ⟨⟨by decide +kernel, by decide +kernel⟩, List.mem_of_getElem? (i := 743) (by decide +kernel), List.mem_of_getElem? (i := 749) (by decide +kernel), List.mem_of_getElem? (i := 750) (by decide +kernel)⟩
theorem lw_p35 : lw_okq (⟨"FactOriginsModel", "isUsed", "(I)Z"⟩, 28) := ⟨⟨by decide +kernel, by decide +kernel⟩, List.mem_of_getElem? (i := 743) (by decide +kernel), List.mem_of_getElem? (i := 849) (by decide +kernel), List.mem_of_getElem? (i := 850) (by decide +kernel)⟩
theorem lw_p36 : lw_okq (⟨"FactOriginsModel", "isFact", "(III)Z"⟩, 28) := ⟨⟨by decide +kernel, by decide +kernel⟩, List.mem_of_getElem? (i := 743) (by decide +kernel), List.mem_of_getElem? (i := 860) (by decide +kernel), List.mem_of_getElem? (i := 861) (by decide +kernel)⟩
theorem lw_p37 : lw_okq (⟨"FactOriginsModel", "isConstant", "(I)Z"⟩, 28) := ⟨⟨by decide +kernel, by decide +kernel⟩, List.mem_of_getElem? (i := 743) (by decide +kernel), List.mem_of_getElem? (i := 864) (by decide +kernel), List.mem_of_getElem? (i := 865) (by decide +kernel)⟩
theorem lw_p38 : lw_okq (⟨"FactOriginsModel", "isText", "()Z"⟩, 28) := ⟨⟨by decide +kernel, by decide +kernel⟩, List.mem_of_getElem? (i := 743) (by decide +kernel), List.mem_of_getElem? (i := 899) (by decide +kernel), List.mem_of_getElem? (i := 900) (by decide +kernel)⟩
theorem lw_p39 : lw_okq (⟨"FactOriginsModel", "isForm", "()Z"⟩, 28) := ⟨⟨by decide +kernel, by decide +kernel⟩, List.mem_of_getElem? (i := 743) (by decide +kernel), List.mem_of_getElem? (i := 903) (by decide +kernel), List.mem_of_getElem? (i := 904) (by decide +kernel)⟩
theorem lw_p40 : lw_okq (⟨"FactOriginsModel", "isAtom", "(I)Z"⟩, 28) := ⟨⟨by decide +kernel, by decide +kernel⟩, List.mem_of_getElem? (i := 743) (by decide +kernel), List.mem_of_getElem? (i := 907) (by decide +kernel), List.mem_of_getElem? (i := 908) (by decide +kernel)⟩
theorem lw_p41 : lw_okq (⟨"FactOriginsModel", "here", "()I"⟩, 28) := ⟨⟨by decide +kernel, by decide +kernel⟩, List.mem_of_getElem? (i := 743) (by decide +kernel), List.mem_of_getElem? (i := 911) (by decide +kernel), List.mem_of_getElem? (i := 912) (by decide +kernel)⟩
theorem lw_p42 : lw_okq (⟨"FactOriginsModel", "takes", "(I)Z"⟩, 28) := ⟨⟨by decide +kernel, by decide +kernel⟩, List.mem_of_getElem? (i := 743) (by decide +kernel), List.mem_of_getElem? (i := 915) (by decide +kernel), List.mem_of_getElem? (i := 916) (by decide +kernel)⟩
theorem lw_p43 : lw_okq (⟨"FactOriginsModel", "isTerm", "(I)Z"⟩, 28) := ⟨⟨by decide +kernel, by decide +kernel⟩, List.mem_of_getElem? (i := 743) (by decide +kernel), List.mem_of_getElem? (i := 919) (by decide +kernel), List.mem_of_getElem? (i := 920) (by decide +kernel)⟩
theorem lw_p44 : lw_okq (⟨"FactOriginsModel", "loose", "()I"⟩, 28) := ⟨⟨by decide +kernel, by decide +kernel⟩, List.mem_of_getElem? (i := 743) (by decide +kernel), List.mem_of_getElem? (i := 923) (by decide +kernel), List.mem_of_getElem? (i := 924) (by decide +kernel)⟩
theorem lw_p45 : lw_okq (⟨"FactOriginsModel", "finds", "()Z"⟩, 28) := ⟨⟨by decide +kernel, by decide +kernel⟩, List.mem_of_getElem? (i := 743) (by decide +kernel), List.mem_of_getElem? (i := 935) (by decide +kernel), List.mem_of_getElem? (i := 936) (by decide +kernel)⟩
theorem lw_p46 : lw_okq (⟨"FactOriginsModel", "findStrata", "()Z"⟩, 28) := ⟨⟨by decide +kernel, by decide +kernel⟩, List.mem_of_getElem? (i := 743) (by decide +kernel), List.mem_of_getElem? (i := 939) (by decide +kernel), List.mem_of_getElem? (i := 940) (by decide +kernel)⟩
theorem lw_p47 : lw_okq (⟨"FactOriginsModel", "builds", "(I[I)V"⟩, 28) := ⟨⟨by decide +kernel, by decide +kernel⟩, List.mem_of_getElem? (i := 743) (by decide +kernel), List.mem_of_getElem? (i := 943) (by decide +kernel), List.mem_of_getElem? (i := 944) (by decide +kernel)⟩
def lw_privs_3 : List (MethodName × Nat) := [(⟨"FactOrigins", "buildLesserModel", "(I)V"⟩, 17), (⟨"FactOrigins", "withAtom", "(JI)J"⟩, 17), (⟨"FactOriginsModel", "anew", "(I)V"⟩, 28), (⟨"FactOriginsModel", "isUsed", "(I)Z"⟩, 28), (⟨"FactOriginsModel", "isFact", "(III)Z"⟩, 28), (⟨"FactOriginsModel", "isConstant", "(I)Z"⟩, 28), (⟨"FactOriginsModel", "isText", "()Z"⟩, 28), (⟨"FactOriginsModel", "isForm", "()Z"⟩, 28), (⟨"FactOriginsModel", "isAtom", "(I)Z"⟩, 28), (⟨"FactOriginsModel", "here", "()I"⟩, 28), (⟨"FactOriginsModel", "takes", "(I)Z"⟩, 28), (⟨"FactOriginsModel", "isTerm", "(I)Z"⟩, 28), (⟨"FactOriginsModel", "loose", "()I"⟩, 28), (⟨"FactOriginsModel", "finds", "()Z"⟩, 28), (⟨"FactOriginsModel", "findStrata", "()Z"⟩, 28), (⟨"FactOriginsModel", "builds", "(I[I)V"⟩, 28)]
theorem lw_r3 : ∀ q ∈ lw_privs_3, lw_okq q := List.forall_mem_cons.mpr ⟨lw_p32, List.forall_mem_cons.mpr ⟨lw_p33, List.forall_mem_cons.mpr ⟨lw_p34, List.forall_mem_cons.mpr ⟨lw_p35, List.forall_mem_cons.mpr ⟨lw_p36, List.forall_mem_cons.mpr ⟨lw_p37, List.forall_mem_cons.mpr ⟨lw_p38, List.forall_mem_cons.mpr ⟨lw_p39, List.forall_mem_cons.mpr ⟨lw_p40, List.forall_mem_cons.mpr ⟨lw_p41, List.forall_mem_cons.mpr ⟨lw_p42, List.forall_mem_cons.mpr ⟨lw_p43, List.forall_mem_cons.mpr ⟨lw_p44, List.forall_mem_cons.mpr ⟨lw_p45, List.forall_mem_cons.mpr ⟨lw_p46, List.forall_mem_cons.mpr ⟨lw_p47, fun _ h => absurd h List.not_mem_nil⟩⟩⟩⟩⟩⟩⟩⟩⟩⟩⟩⟩⟩⟩⟩⟩
theorem lw_p48 : lw_okq (⟨"FactOriginsModel", "goes", "(I[I)I"⟩, 28) := ⟨⟨by decide +kernel, by decide +kernel⟩, List.mem_of_getElem? (i := 743) (by decide +kernel), List.mem_of_getElem? (i := 947) (by decide +kernel), List.mem_of_getElem? (i := 948) (by decide +kernel)⟩
theorem lw_p49 : lw_okq (⟨"FactOriginsModel", "isBinding", "(II)Z"⟩, 28) := ⟨⟨by decide +kernel, by decide +kernel⟩, List.mem_of_getElem? (i := 743) (by decide +kernel), List.mem_of_getElem? (i := 951) (by decide +kernel), List.mem_of_getElem? (i := 952) (by decide +kernel)⟩
theorem lw_p50 : lw_okq (⟨"FactOriginsModel", "holds", "(I[I)Z"⟩, 28) := ⟨⟨by decide +kernel, by decide +kernel⟩, List.mem_of_getElem? (i := 743) (by decide +kernel), List.mem_of_getElem? (i := 955) (by decide +kernel), List.mem_of_getElem? (i := 956) (by decide +kernel)⟩
theorem lw_p51 : lw_okq (⟨"FactOriginsModel", "factAt", "(II)I"⟩, 28) := ⟨⟨by decide +kernel, by decide +kernel⟩, List.mem_of_getElem? (i := 743) (by decide +kernel), List.mem_of_getElem? (i := 959) (by decide +kernel), List.mem_of_getElem? (i := 960) (by decide +kernel)⟩
theorem lw_p52 : lw_okq (⟨"FactOriginsModel", "termOf", "(I)I"⟩, 28) := ⟨⟨by decide +kernel, by decide +kernel⟩, List.mem_of_getElem? (i := 743) (by decide +kernel), List.mem_of_getElem? (i := 963) (by decide +kernel), List.mem_of_getElem? (i := 964) (by decide +kernel)⟩
theorem lw_p53 : lw_okq (⟨"FactOriginsModel", "findHolding", "()V"⟩, 28) := ⟨⟨by decide +kernel, by decide +kernel⟩, List.mem_of_getElem? (i := 743) (by decide +kernel), List.mem_of_getElem? (i := 967) (by decide +kernel), List.mem_of_getElem? (i := 968) (by decide +kernel)⟩
theorem lw_p54 : lw_okq (⟨"FactOriginsModel", "findCosts", "()V"⟩, 28) := ⟨⟨by decide +kernel, by decide +kernel⟩, List.mem_of_getElem? (i := 743) (by decide +kernel), List.mem_of_getElem? (i := 971) (by decide +kernel), List.mem_of_getElem? (i := 972) (by decide +kernel)⟩
theorem lw_p55 : lw_okq (⟨"FactOriginsModel", "costBy", "(I)I"⟩, 28) := ⟨⟨by decide +kernel, by decide +kernel⟩, List.mem_of_getElem? (i := 743) (by decide +kernel), List.mem_of_getElem? (i := 976) (by decide +kernel), List.mem_of_getElem? (i := 977) (by decide +kernel)⟩
theorem lw_p56 : lw_okq (⟨"FactOriginsModel", "findLikelihoods", "()V"⟩, 28) := ⟨⟨by decide +kernel, by decide +kernel⟩, List.mem_of_getElem? (i := 743) (by decide +kernel), List.mem_of_getElem? (i := 980) (by decide +kernel), List.mem_of_getElem? (i := 981) (by decide +kernel)⟩
theorem lw_p57 : lw_okq (⟨"FactOriginsModel", "likelyBy", "(I)F"⟩, 28) := ⟨⟨by decide +kernel, by decide +kernel⟩, List.mem_of_getElem? (i := 743) (by decide +kernel), List.mem_of_getElem? (i := 986) (by decide +kernel), List.mem_of_getElem? (i := 987) (by decide +kernel)⟩
theorem lw_p58 : lw_okq (⟨"FactOriginsModel", "findLeast", "()V"⟩, 28) := ⟨⟨by decide +kernel, by decide +kernel⟩, List.mem_of_getElem? (i := 743) (by decide +kernel), List.mem_of_getElem? (i := 990) (by decide +kernel), List.mem_of_getElem? (i := 991) (by decide +kernel)⟩
theorem lw_p59 : lw_okq (⟨"FactOriginsModel", "areSized", "(I)Z"⟩, 28) := ⟨⟨by decide +kernel, by decide +kernel⟩, List.mem_of_getElem? (i := 743) (by decide +kernel), List.mem_of_getElem? (i := 994) (by decide +kernel), List.mem_of_getElem? (i := 995) (by decide +kernel)⟩
theorem lw_p60 : lw_okq (⟨"FactOriginsModel", "sizes", "(II)V"⟩, 28) := ⟨⟨by decide +kernel, by decide +kernel⟩, List.mem_of_getElem? (i := 743) (by decide +kernel), List.mem_of_getElem? (i := 998) (by decide +kernel), List.mem_of_getElem? (i := 999) (by decide +kernel)⟩
theorem lw_p61 : lw_okq (⟨"FactOriginsModel", "wrong", "(III)I"⟩, 28) := ⟨⟨by decide +kernel, by decide +kernel⟩, List.mem_of_getElem? (i := 743) (by decide +kernel), List.mem_of_getElem? (i := 1021) (by decide +kernel), List.mem_of_getElem? (i := 1022) (by decide +kernel)⟩
theorem lw_p62 : lw_okq (⟨"FactOriginsModel", "instancesOf", "(I)I"⟩, 28) := ⟨⟨by decide +kernel, by decide +kernel⟩, List.mem_of_getElem? (i := 743) (by decide +kernel), List.mem_of_getElem? (i := 1029) (by decide +kernel), List.mem_of_getElem? (i := 1030) (by decide +kernel)⟩
theorem lw_p63 : lw_okq (⟨"FactOriginsModel", "leastNow", "(II)I"⟩, 28) := ⟨⟨by decide +kernel, by decide +kernel⟩, List.mem_of_getElem? (i := 743) (by decide +kernel), List.mem_of_getElem? (i := 1055) (by decide +kernel), List.mem_of_getElem? (i := 1056) (by decide +kernel)⟩
def lw_privs_4 : List (MethodName × Nat) := [(⟨"FactOriginsModel", "goes", "(I[I)I"⟩, 28), (⟨"FactOriginsModel", "isBinding", "(II)Z"⟩, 28), (⟨"FactOriginsModel", "holds", "(I[I)Z"⟩, 28), (⟨"FactOriginsModel", "factAt", "(II)I"⟩, 28), (⟨"FactOriginsModel", "termOf", "(I)I"⟩, 28), (⟨"FactOriginsModel", "findHolding", "()V"⟩, 28), (⟨"FactOriginsModel", "findCosts", "()V"⟩, 28), (⟨"FactOriginsModel", "costBy", "(I)I"⟩, 28), (⟨"FactOriginsModel", "findLikelihoods", "()V"⟩, 28), (⟨"FactOriginsModel", "likelyBy", "(I)F"⟩, 28), (⟨"FactOriginsModel", "findLeast", "()V"⟩, 28), (⟨"FactOriginsModel", "areSized", "(I)Z"⟩, 28), (⟨"FactOriginsModel", "sizes", "(II)V"⟩, 28), (⟨"FactOriginsModel", "wrong", "(III)I"⟩, 28), (⟨"FactOriginsModel", "instancesOf", "(I)I"⟩, 28), (⟨"FactOriginsModel", "leastNow", "(II)I"⟩, 28)]
theorem lw_r4 : ∀ q ∈ lw_privs_4, lw_okq q := List.forall_mem_cons.mpr ⟨lw_p48, List.forall_mem_cons.mpr ⟨lw_p49, List.forall_mem_cons.mpr ⟨lw_p50, List.forall_mem_cons.mpr ⟨lw_p51, List.forall_mem_cons.mpr ⟨lw_p52, List.forall_mem_cons.mpr ⟨lw_p53, List.forall_mem_cons.mpr ⟨lw_p54, List.forall_mem_cons.mpr ⟨lw_p55, List.forall_mem_cons.mpr ⟨lw_p56, List.forall_mem_cons.mpr ⟨lw_p57, List.forall_mem_cons.mpr ⟨lw_p58, List.forall_mem_cons.mpr ⟨lw_p59, List.forall_mem_cons.mpr ⟨lw_p60, List.forall_mem_cons.mpr ⟨lw_p61, List.forall_mem_cons.mpr ⟨lw_p62, List.forall_mem_cons.mpr ⟨lw_p63, fun _ h => absurd h List.not_mem_nil⟩⟩⟩⟩⟩⟩⟩⟩⟩⟩⟩⟩⟩⟩⟩⟩
theorem lw_p64 : lw_okq (⟨"FactOriginsModel", "canDo", "(II)Z"⟩, 28) := ⟨⟨by decide +kernel, by decide +kernel⟩, List.mem_of_getElem? (i := 743) (by decide +kernel), List.mem_of_getElem? (i := 1063) (by decide +kernel), List.mem_of_getElem? (i := 1064) (by decide +kernel)⟩
theorem lw_p65 : lw_okq (⟨"FactOriginsModel", "areDerived", "(I)Z"⟩, 28) := ⟨⟨by decide +kernel, by decide +kernel⟩, List.mem_of_getElem? (i := 743) (by decide +kernel), List.mem_of_getElem? (i := 1067) (by decide +kernel), List.mem_of_getElem? (i := 1068) (by decide +kernel)⟩
theorem lw_p66 : lw_okq (⟨"FactOriginsModel", "cutOf", "(I)I"⟩, 28) := ⟨⟨by decide +kernel, by decide +kernel⟩, List.mem_of_getElem? (i := 743) (by decide +kernel), List.mem_of_getElem? (i := 1075) (by decide +kernel), List.mem_of_getElem? (i := 1076) (by decide +kernel)⟩
def lw_privs_5 : List (MethodName × Nat) := [(⟨"FactOriginsModel", "canDo", "(II)Z"⟩, 28), (⟨"FactOriginsModel", "areDerived", "(I)Z"⟩, 28), (⟨"FactOriginsModel", "cutOf", "(I)I"⟩, 28)]
theorem lw_r5 : ∀ q ∈ lw_privs_5, lw_okq q := List.forall_mem_cons.mpr ⟨lw_p64, List.forall_mem_cons.mpr ⟨lw_p65, List.forall_mem_cons.mpr ⟨lw_p66, fun _ h => absurd h List.not_mem_nil⟩⟩⟩
def lw_privs : List (MethodName × Nat) := lw_privs_1 ++ (lw_privs_2 ++ (lw_privs_3 ++ (lw_privs_4 ++ (lw_privs_5))))
def lw_tbl : List Cond := k2_sels lw_privs ++ tables_1
theorem lw_privs_ok : ∀ q ∈ lw_privs, lw_okq q := by
  show ∀ q ∈ lw_privs_1 ++ (lw_privs_2 ++ (lw_privs_3 ++ (lw_privs_4 ++ (lw_privs_5)))), lw_okq q
  exact List.forall_mem_append.mpr ⟨lw_r1, List.forall_mem_append.mpr ⟨lw_r2, List.forall_mem_append.mpr ⟨lw_r3, List.forall_mem_append.mpr ⟨lw_r4, lw_r5⟩⟩⟩⟩
/-- the streams that the claim lets the run draw from -/
abbrev lw_cs : List Choice := [Jvm.Choice.named "NaN.bits"]
theorem lw_bits : nanBits ∈ lw_cs := by first | decide | exact List.mem_cons_self | simp [lw_cs, nanBits]
def RX0 : String := "FactOrigins$Costs"
def TX0 : u_T := fun k => match k with
  | 0 => ("FactOrigins$Costs", "costOf", "[I", true)
  | 1 => ("FactOrigins$Costs", "ruleOf", "[I", true)
  | 2 => ("FactOrigins$Costs", "nodesOf", "[I", true)
  | 3 => ("FactOrigins$Costs", "basesOf", "[I", true)
  | 4 => ("FactOrigins$Costs", "base", "[I", true)
  | _ => ("FactOrigins$Costs", "chosen", "[I", true)
def tyX0 : Nat → FieldType := fun k => match k with
  | 0 => .array .int
  | 1 => .array .int
  | 2 => .array .int
  | 3 => .array .int
  | 4 => .array .int
  | _ => .array .int
abbrev wsX00 : List Cond := u_ws RX0 TX0 6
theorem nmX0 : ∀ a, a < 6 → ∀ b, b < 6 → a ≠ b → (TX0 a).2.1 ≠ (TX0 b).2.1 := by decide +kernel
theorem tyX0_ok : ∀ k, k < 6 → parseFieldDescriptor (TX0 k).2.2.1 = some (tyX0 k) := by decide +kernel
abbrev cX0_init : ByteArray := prog_2_method_1_code
def yX0_init : MethodName := ⟨RX0, "<init>", "()V"⟩
abbrev cX0_compute : ByteArray := prog_2_method_2_code
def yX0_compute : MethodName := ⟨RX0, "compute", "(LFactOrigins$Program;LFactOrigins$Grounding;LFactOrigins$Holding;)V"⟩
abbrev cX0_startWithBaseFacts : ByteArray := prog_2_method_3_code
def yX0_startWithBaseFacts : MethodName := ⟨RX0, "startWithBaseFacts", "(LFactOrigins$Program;)V"⟩
abbrev cX0_lower : ByteArray := prog_2_method_4_code
def yX0_lower : MethodName := ⟨RX0, "lower", "(LFactOrigins$Grounding;LFactOrigins$Holding;)Z"⟩
abbrev cX0_costBy : ByteArray := prog_2_method_5_code
def yX0_costBy : MethodName := ⟨RX0, "costBy", "(LFactOrigins$Grounding;I)I"⟩
abbrev cX0_choose : ByteArray := prog_2_method_6_code
def yX0_choose : MethodName := ⟨RX0, "choose", "(LFactOrigins$Program;LFactOrigins$Grounding;LFactOrigins$Holding;)V"⟩
abbrev cX0_grow : ByteArray := prog_2_method_7_code
def yX0_grow : MethodName := ⟨RX0, "grow", "(LFactOrigins$Grounding;)Z"⟩
abbrev cX0_partsAreKnown : ByteArray := prog_2_method_8_code
def yX0_partsAreKnown : MethodName := ⟨RX0, "partsAreKnown", "(LFactOrigins$Grounding;I)Z"⟩
abbrev cX0_putTogether : ByteArray := prog_2_method_9_code
def yX0_putTogether : MethodName := ⟨RX0, "putTogether", "(LFactOrigins$Grounding;I)V"⟩
def RX1 : String := "FactOrigins$Grounding"
def TX1 : u_T := fun k => match k with
  | 0 => ("FactOrigins$Grounding", "stratumOf", "[I", true)
  | 1 => ("FactOrigins$Grounding", "stratified", "Z", false)
  | 2 => ("FactOrigins$Grounding", "ruleCount", "I", false)
  | 3 => ("FactOrigins$Grounding", "headStratum", "[I", true)
  | 4 => ("FactOrigins$Grounding", "price", "[I", true)
  | 5 => ("FactOrigins$Grounding", "plainCount", "[I", true)
  | 6 => ("FactOrigins$Grounding", "literalCount", "[I", true)
  | 7 => ("FactOrigins$Grounding", "start", "[I", true)
  | 8 => ("FactOrigins$Grounding", "ruleOf", "[I", true)
  | 9 => ("FactOrigins$Grounding", "head", "[I", true)
  | 10 => ("FactOrigins$Grounding", "body", "[I", true)
  | _ => ("FactOrigins$Grounding", "meaning", "[I", true)
def tyX1 : Nat → FieldType := fun k => match k with
  | 0 => .array .int
  | 1 => .boolean
  | 2 => .int
  | 3 => .array .int
  | 4 => .array .int
  | 5 => .array .int
  | 6 => .array .int
  | 7 => .array .int
  | 8 => .array .int
  | 9 => .array .int
  | 10 => .array .int
  | _ => .array .int
abbrev wsX10 : List Cond := u_ws RX1 TX1 12
theorem nmX1 : ∀ a, a < 12 → ∀ b, b < 12 → a ≠ b → (TX1 a).2.1 ≠ (TX1 b).2.1 := by decide +kernel
theorem tyX1_ok : ∀ k, k < 12 → parseFieldDescriptor (TX1 k).2.2.1 = some (tyX1 k) := by decide +kernel
abbrev cX1_init : ByteArray := prog_3_method_1_code
def yX1_init : MethodName := ⟨RX1, "<init>", "()V"⟩
abbrev cX1_fill : ByteArray := prog_3_method_2_code
def yX1_fill : MethodName := ⟨RX1, "fill", "(LFactOrigins$Program;)V"⟩
abbrev cX1_findStrata : ByteArray := prog_3_method_3_code
def yX1_findStrata : MethodName := ⟨RX1, "findStrata", "(LFactOrigins$Program;)V"⟩
abbrev cX1_raiseHead : ByteArray := prog_3_method_4_code
def yX1_raiseHead : MethodName := ⟨RX1, "raiseHead", "(LFactOrigins$Rule;)Z"⟩
abbrev cX1_fillInstances : ByteArray := prog_3_method_5_code
def yX1_fillInstances : MethodName := ⟨RX1, "fillInstances", "(LFactOrigins$Rule;II)I"⟩
abbrev cX1_fillInstance : ByteArray := prog_3_method_6_code
def yX1_fillInstance : MethodName := ⟨RX1, "fillInstance", "(LFactOrigins$Rule;II)V"⟩
def RX2 : String := "FactOrigins$Holding"
def TX2 : u_T := fun k => match k with
  | 0 => ("FactOrigins$Holding", "instance", "[I", true)
  | 1 => ("FactOrigins$Holding", "total", "I", false)
  | _ => ("FactOrigins$Holding", "ofHead", "[I", true)
def tyX2 : Nat → FieldType := fun k => match k with
  | 0 => .array .int
  | 1 => .int
  | _ => .array .int
abbrev wsX20 : List Cond := u_ws RX2 TX2 3
theorem nmX2 : ∀ a, a < 3 → ∀ b, b < 3 → a ≠ b → (TX2 a).2.1 ≠ (TX2 b).2.1 := by decide +kernel
theorem tyX2_ok : ∀ k, k < 3 → parseFieldDescriptor (TX2 k).2.2.1 = some (tyX2 k) := by decide +kernel
abbrev cX2_init : ByteArray := prog_4_method_1_code
def yX2_init : MethodName := ⟨RX2, "<init>", "()V"⟩
abbrev cX2_collect : ByteArray := prog_4_method_2_code
def yX2_collect : MethodName := ⟨RX2, "collect", "(LFactOrigins$Grounding;LFactOrigins$Model;)V"⟩
def RX3 : String := "FactOrigins$Likelihoods"
def TX3 : u_T := fun k => match k with
  | _ => ("FactOrigins$Likelihoods", "likelihoodOf", "[F", true)
def tyX3 : Nat → FieldType := fun k => match k with
  | _ => .array .float
abbrev wsX30 : List Cond := u_ws RX3 TX3 1
theorem nmX3 : ∀ a, a < 1 → ∀ b, b < 1 → a ≠ b → (TX3 a).2.1 ≠ (TX3 b).2.1 := by decide +kernel
theorem tyX3_ok : ∀ k, k < 1 → parseFieldDescriptor (TX3 k).2.2.1 = some (tyX3 k) := by decide +kernel
abbrev cX3_init : ByteArray := prog_5_method_1_code
def yX3_init : MethodName := ⟨RX3, "<init>", "()V"⟩
abbrev cX3_compute : ByteArray := prog_5_method_2_code
def yX3_compute : MethodName := ⟨RX3, "compute", "(LFactOrigins$Program;LFactOrigins$Grounding;LFactOrigins$Holding;)V"⟩
abbrev cX3_raise : ByteArray := prog_5_method_3_code
def yX3_raise : MethodName := ⟨RX3, "raise", "(IF)Z"⟩
abbrev cX3_likelihoodBy : ByteArray := prog_5_method_4_code
def yX3_likelihoodBy : MethodName := ⟨RX3, "likelihoodBy", "(LFactOrigins$Grounding;I)F"⟩
def RX4 : String := "FactOrigins$Model"
def TX4 : u_T := fun k => match k with
  | 0 => ("FactOrigins$Model", "roundOf", "[I", true)
  | 1 => ("FactOrigins$Model", "lastRound", "I", false)
  | _ => ("FactOrigins$Model", "atoms", "I", false)
def tyX4 : Nat → FieldType := fun k => match k with
  | 0 => .array .int
  | 1 => .int
  | _ => .int
abbrev wsX40 : List Cond := u_ws RX4 TX4 3
theorem nmX4 : ∀ a, a < 3 → ∀ b, b < 3 → a ≠ b → (TX4 a).2.1 ≠ (TX4 b).2.1 := by decide +kernel
theorem tyX4_ok : ∀ k, k < 3 → parseFieldDescriptor (TX4 k).2.2.1 = some (tyX4 k) := by decide +kernel
abbrev cX4_init : ByteArray := prog_6_method_1_code
def yX4_init : MethodName := ⟨RX4, "<init>", "()V"⟩
abbrev cX4_build : ByteArray := prog_6_method_2_code
def yX4_build : MethodName := ⟨RX4, "build", "(LFactOrigins$Program;LFactOrigins$Grounding;I)V"⟩
abbrev cX4_atomsOf : ByteArray := prog_6_method_3_code
def yX4_atomsOf : MethodName := ⟨RX4, "atomsOf", "(I)I"⟩
abbrev cX4_buildStratum : ByteArray := prog_6_method_4_code
def yX4_buildStratum : MethodName := ⟨RX4, "buildStratum", "(LFactOrigins$Grounding;I)V"⟩
abbrev cX4_takeHeads : ByteArray := prog_6_method_5_code
def yX4_takeHeads : MethodName := ⟨RX4, "takeHeads", "(LFactOrigins$Grounding;II)Z"⟩
abbrev cX4_holdsBefore : ByteArray := prog_6_method_6_code
def yX4_holdsBefore : MethodName := ⟨RX4, "holdsBefore", "(LFactOrigins$Grounding;II)Z"⟩
def RX5 : String := "FactOrigins$Program"
def TX5 : u_T := fun k => match k with
  | 0 => ("FactOrigins$Program", "constants", "I", false)
  | 1 => ("FactOrigins$Program", "places", "[I", true)
  | 2 => ("FactOrigins$Program", "factCount", "I", false)
  | 3 => ("FactOrigins$Program", "factAtom", "[I", true)
  | 4 => ("FactOrigins$Program", "factCost", "[I", true)
  | 5 => ("FactOrigins$Program", "factSixteenths", "[I", true)
  | 6 => ("FactOrigins$Program", "ruleCount", "I", false)
  | _ => ("FactOrigins$Program", "ruleList", "[LFactOrigins$Rule;", true)
def tyX5 : Nat → FieldType := fun k => match k with
  | 0 => .int
  | 1 => .array .int
  | 2 => .int
  | 3 => .array .int
  | 4 => .array .int
  | 5 => .array .int
  | 6 => .int
  | _ => .array (.object "FactOrigins$Rule")
abbrev wsX50 : List Cond := u_ws RX5 TX5 8
theorem nmX5 : ∀ a, a < 8 → ∀ b, b < 8 → a ≠ b → (TX5 a).2.1 ≠ (TX5 b).2.1 := by decide +kernel
theorem tyX5_ok : ∀ k, k < 8 → parseFieldDescriptor (TX5 k).2.2.1 = some (tyX5 k) := by decide +kernel
abbrev cX5_init : ByteArray := prog_7_method_1_code
def yX5_init : MethodName := ⟨RX5, "<init>", "()V"⟩
abbrev cX5_clear : ByteArray := prog_7_method_2_code
def yX5_clear : MethodName := ⟨RX5, "clear", "(I)V"⟩
abbrev cX5_become : ByteArray := prog_7_method_3_code
def yX5_become : MethodName := ⟨RX5, "become", "(LFactOrigins$Program;)V"⟩
abbrev cX5_hasAtom : ByteArray := prog_7_method_4_code
def yX5_hasAtom : MethodName := ⟨RX5, "hasAtom", "(III)Z"⟩
abbrev cX5_uses : ByteArray := prog_7_method_5_code
def yX5_uses : MethodName := ⟨RX5, "uses", "(I)Z"⟩
abbrev cX5_enterFact : ByteArray := prog_7_method_6_code
def yX5_enterFact : MethodName := ⟨RX5, "enterFact", "(III)I"⟩
abbrev cX5_dropFact : ByteArray := prog_7_method_7_code
def yX5_dropFact : MethodName := ⟨RX5, "dropFact", "(I)V"⟩
abbrev cX5_enterRule : ByteArray := prog_7_method_8_code
def yX5_enterRule : MethodName := ⟨RX5, "enterRule", "(LFactOrigins$Rule;I)I"⟩
abbrev cX5_dropRule : ByteArray := prog_7_method_9_code
def yX5_dropRule : MethodName := ⟨RX5, "dropRule", "(I)V"⟩
def RX6 : String := "FactOrigins$Rule"
def TX6 : u_T := fun k => match k with
  | 0 => ("FactOrigins$Rule", "predicate", "[I", true)
  | 1 => ("FactOrigins$Rule", "first", "[I", true)
  | 2 => ("FactOrigins$Rule", "second", "[I", true)
  | 3 => ("FactOrigins$Rule", "negated", "[Z", true)
  | 4 => ("FactOrigins$Rule", "literals", "I", false)
  | _ => ("FactOrigins$Rule", "price", "I", false)
def tyX6 : Nat → FieldType := fun k => match k with
  | 0 => .array .int
  | 1 => .array .int
  | 2 => .array .int
  | 3 => .array .boolean
  | 4 => .int
  | _ => .int
abbrev wsX60 : List Cond := u_ws RX6 TX6 6
theorem nmX6 : ∀ a, a < 6 → ∀ b, b < 6 → a ≠ b → (TX6 a).2.1 ≠ (TX6 b).2.1 := by decide +kernel
theorem tyX6_ok : ∀ k, k < 6 → parseFieldDescriptor (TX6 k).2.2.1 = some (tyX6 k) := by decide +kernel
abbrev cX6_init : ByteArray := prog_8_method_1_code
def yX6_init : MethodName := ⟨RX6, "<init>", "()V"⟩
abbrev cX6_become : ByteArray := prog_8_method_2_code
def yX6_become : MethodName := ⟨RX6, "become", "(LFactOrigins$Rule;)V"⟩
abbrev cX6_mentions : ByteArray := prog_8_method_3_code
def yX6_mentions : MethodName := ⟨RX6, "mentions", "(I)Z"⟩
abbrev cX6_hasVariable : ByteArray := prog_8_method_4_code
def yX6_hasVariable : MethodName := ⟨RX6, "hasVariable", "(I)Z"⟩
def RX7 : String := "FactOrigins$RuleText"
def TX7 : u_T := fun k => match k with
  | 0 => ("FactOrigins$RuleText", "letters", "[I", true)
  | 1 => ("FactOrigins$RuleText", "length", "I", false)
  | 2 => ("FactOrigins$RuleText", "rule", "LFactOrigins$Rule;", true)
  | _ => ("FactOrigins$RuleText", "at", "I", false)
def tyX7 : Nat → FieldType := fun k => match k with
  | 0 => .array .int
  | 1 => .int
  | 2 => .object "FactOrigins$Rule"
  | _ => .int
abbrev wsX70 : List Cond := u_ws RX7 TX7 4
theorem nmX7 : ∀ a, a < 4 → ∀ b, b < 4 → a ≠ b → (TX7 a).2.1 ≠ (TX7 b).2.1 := by decide +kernel
theorem tyX7_ok : ∀ k, k < 4 → parseFieldDescriptor (TX7 k).2.2.1 = some (tyX7 k) := by decide +kernel
abbrev cX7_init : ByteArray := prog_9_method_1_code
def yX7_init : MethodName := ⟨RX7, "<init>", "()V"⟩
abbrev cX7_put : ByteArray := prog_9_method_2_code
def yX7_put : MethodName := ⟨RX7, "put", "(I)V"⟩
abbrev cX7_findFault : ByteArray := prog_9_method_3_code
def yX7_findFault : MethodName := ⟨RX7, "findFault", "(LFactOrigins$Program;)I"⟩
abbrev cX7_readRule : ByteArray := prog_9_method_4_code
def yX7_readRule : MethodName := ⟨RX7, "readRule", "(LFactOrigins$Program;)Z"⟩
abbrev cX7_readAtom : ByteArray := prog_9_method_5_code
def yX7_readAtom : MethodName := ⟨RX7, "readAtom", "(LFactOrigins$Program;I)Z"⟩
abbrev cX7_isTerm : ByteArray := prog_9_method_6_code
def yX7_isTerm : MethodName := ⟨RX7, "isTerm", "(II)Z"⟩
abbrev cX7_isVariable : ByteArray := prog_9_method_7_code
def yX7_isVariable : MethodName := ⟨RX7, "isVariable", "(I)Z"⟩
abbrev cX7_takeTerm : ByteArray := prog_9_method_8_code
def yX7_takeTerm : MethodName := ⟨RX7, "takeTerm", "()I"⟩
abbrev cX7_take : ByteArray := prog_9_method_9_code
def yX7_take : MethodName := ⟨RX7, "take", "(I)Z"⟩
abbrev cX7_next : ByteArray := prog_9_method_10_code
def yX7_next : MethodName := ⟨RX7, "next", "()I"⟩
abbrev cX7_unboundVariable : ByteArray := prog_9_method_11_code
def yX7_unboundVariable : MethodName := ⟨RX7, "unboundVariable", "()I"⟩
def RX8 : String := "FactOrigins$Survivals"
def TX8 : u_T := fun k => match k with
  | 0 => ("FactOrigins$Survivals", "smallSets", "[I", true)
  | _ => ("FactOrigins$Survivals", "rows", "[J", true)
def tyX8 : Nat → FieldType := fun k => match k with
  | 0 => .array .int
  | _ => .array .long
abbrev wsX80 : List Cond := u_ws RX8 TX8 2
theorem nmX8 : ∀ a, a < 2 → ∀ b, b < 2 → a ≠ b → (TX8 a).2.1 ≠ (TX8 b).2.1 := by decide +kernel
theorem tyX8_ok : ∀ k, k < 2 → parseFieldDescriptor (TX8 k).2.2.1 = some (tyX8 k) := by decide +kernel
abbrev cX8_init : ByteArray := prog_10_method_1_code
def yX8_init : MethodName := ⟨RX8, "<init>", "()V"⟩
abbrev cX8_compute : ByteArray := prog_10_method_2_code
def yX8_compute : MethodName := ⟨RX8, "compute", "(LFactOrigins$Program;LFactOrigins$Grounding;LFactOrigins$Holding;)V"⟩
abbrev cX8_neededBy : ByteArray := prog_10_method_3_code
def yX8_neededBy : MethodName := ⟨RX8, "neededBy", "(I)I"⟩
abbrev cX8_firstCut : ByteArray := prog_10_method_4_code
def yX8_firstCut : MethodName := ⟨RX8, "firstCut", "(I)I"⟩
abbrev cX8_survives : ByteArray := prog_10_method_5_code
def yX8_survives : MethodName := ⟨RX8, "survives", "(II)Z"⟩
abbrev cX8_enterBaseFact : ByteArray := prog_10_method_6_code
def yX8_enterBaseFact : MethodName := ⟨RX8, "enterBaseFact", "(II)V"⟩
abbrev cX8_widen : ByteArray := prog_10_method_7_code
def yX8_widen : MethodName := ⟨RX8, "widen", "(LFactOrigins$Grounding;I)Z"⟩
def RX9 : String := "FactOrigins"
def TX9 : u_T := fun k => match k with
  | 0 => ("FactOrigins", "program", "LFactOrigins$Program;", true)
  | 1 => ("FactOrigins", "slots", "[LFactOrigins$Program;", true)
  | 2 => ("FactOrigins", "slotFilled", "[Z", true)
  | 3 => ("FactOrigins", "text", "LFactOrigins$RuleText;", true)
  | 4 => ("FactOrigins", "grounding", "LFactOrigins$Grounding;", true)
  | 5 => ("FactOrigins", "model", "LFactOrigins$Model;", true)
  | 6 => ("FactOrigins", "holding", "LFactOrigins$Holding;", true)
  | 7 => ("FactOrigins", "costs", "LFactOrigins$Costs;", true)
  | 8 => ("FactOrigins", "likelihoods", "LFactOrigins$Likelihoods;", true)
  | 9 => ("FactOrigins", "survivals", "LFactOrigins$Survivals;", true)
  | 10 => ("FactOrigins", "lesserModel", "LFactOrigins$Model;", true)
  | 11 => ("FactOrigins", "groundingFresh", "Z", false)
  | 12 => ("FactOrigins", "modelFresh", "Z", false)
  | 13 => ("FactOrigins", "costsFresh", "Z", false)
  | 14 => ("FactOrigins", "likelihoodsFresh", "Z", false)
  | 15 => ("FactOrigins", "survivalsFresh", "Z", false)
  | _ => ("FactOrigins", "lesserWithout", "I", false)
def tyX9 : Nat → FieldType := fun k => match k with
  | 0 => .object "FactOrigins$Program"
  | 1 => .array (.object "FactOrigins$Program")
  | 2 => .array .boolean
  | 3 => .object "FactOrigins$RuleText"
  | 4 => .object "FactOrigins$Grounding"
  | 5 => .object "FactOrigins$Model"
  | 6 => .object "FactOrigins$Holding"
  | 7 => .object "FactOrigins$Costs"
  | 8 => .object "FactOrigins$Likelihoods"
  | 9 => .object "FactOrigins$Survivals"
  | 10 => .object "FactOrigins$Model"
  | 11 => .boolean
  | 12 => .boolean
  | 13 => .boolean
  | 14 => .boolean
  | 15 => .boolean
  | _ => .int
abbrev wsX90 : List Cond := u_ws RX9 TX9 17
theorem nmX9 : ∀ a, a < 17 → ∀ b, b < 17 → a ≠ b → (TX9 a).2.1 ≠ (TX9 b).2.1 := by decide +kernel
theorem tyX9_ok : ∀ k, k < 17 → parseFieldDescriptor (TX9 k).2.2.1 = some (tyX9 k) := by decide +kernel
abbrev cX9_init : ByteArray := prog_1_method_1_code
def yX9_init : MethodName := ⟨RX9, "<init>", "()V"⟩
abbrev cX9_begin : ByteArray := prog_1_method_2_code
def yX9_begin : MethodName := ⟨RX9, "begin", "(I)I"⟩
abbrev cX9_setPlaces : ByteArray := prog_1_method_3_code
def yX9_setPlaces : MethodName := ⟨RX9, "setPlaces", "(II)I"⟩
abbrev cX9_addFact : ByteArray := prog_1_method_4_code
def yX9_addFact : MethodName := ⟨RX9, "addFact", "(IIIII)I"⟩
abbrev cX9_removeFact : ByteArray := prog_1_method_5_code
def yX9_removeFact : MethodName := ⟨RX9, "removeFact", "(I)I"⟩
abbrev cX9_facts : ByteArray := prog_1_method_6_code
def yX9_facts : MethodName := ⟨RX9, "facts", "()I"⟩
abbrev cX9_removeRule : ByteArray := prog_1_method_7_code
def yX9_removeRule : MethodName := ⟨RX9, "removeRule", "(I)I"⟩
abbrev cX9_rules : ByteArray := prog_1_method_8_code
def yX9_rules : MethodName := ⟨RX9, "rules", "()I"⟩
abbrev cX9_append : ByteArray := prog_1_method_9_code
def yX9_append : MethodName := ⟨RX9, "append", "(I)I"⟩
abbrev cX9_clearText : ByteArray := prog_1_method_10_code
def yX9_clearText : MethodName := ⟨RX9, "clearText", "()I"⟩
abbrev cX9_faultPosition : ByteArray := prog_1_method_11_code
def yX9_faultPosition : MethodName := ⟨RX9, "faultPosition", "()I"⟩
abbrev cX9_addRule : ByteArray := prog_1_method_12_code
def yX9_addRule : MethodName := ⟨RX9, "addRule", "(I)I"⟩
abbrev cX9_stratum : ByteArray := prog_1_method_13_code
def yX9_stratum : MethodName := ⟨RX9, "stratum", "(I)I"⟩
abbrev cX9_size : ByteArray := prog_1_method_14_code
def yX9_size : MethodName := ⟨RX9, "size", "()I"⟩
abbrev cX9_count : ByteArray := prog_1_method_15_code
def yX9_count : MethodName := ⟨RX9, "count", "(I)I"⟩
abbrev cX9_rounds : ByteArray := prog_1_method_16_code
def yX9_rounds : MethodName := ⟨RX9, "rounds", "()I"⟩
abbrev cX9_round : ByteArray := prog_1_method_17_code
def yX9_round : MethodName := ⟨RX9, "round", "(III)I"⟩
abbrev cX9_instances : ByteArray := prog_1_method_18_code
def yX9_instances : MethodName := ⟨RX9, "instances", "(III)I"⟩
abbrev cX9_cost : ByteArray := prog_1_method_19_code
def yX9_cost : MethodName := ⟨RX9, "cost", "(III)I"⟩
abbrev cX9_likelihood : ByteArray := prog_1_method_20_code
def yX9_likelihood : MethodName := ⟨RX9, "likelihood", "(III)I"⟩
abbrev cX9_least : ByteArray := prog_1_method_21_code
def yX9_least : MethodName := ⟨RX9, "least", "(IIII)I"⟩
abbrev cX9_needs : ByteArray := prog_1_method_22_code
def yX9_needs : MethodName := ⟨RX9, "needs", "(III)I"⟩
abbrev cX9_cut : ByteArray := prog_1_method_23_code
def yX9_cut : MethodName := ⟨RX9, "cut", "(III)I"⟩
abbrev cX9_sizeWithout : ByteArray := prog_1_method_24_code
def yX9_sizeWithout : MethodName := ⟨RX9, "sizeWithout", "(I)I"⟩
abbrev cX9_holdsWithout : ByteArray := prog_1_method_25_code
def yX9_holdsWithout : MethodName := ⟨RX9, "holdsWithout", "(IIII)I"⟩
abbrev cX9_save : ByteArray := prog_1_method_26_code
def yX9_save : MethodName := ⟨RX9, "save", "(I)I"⟩
abbrev cX9_restore : ByteArray := prog_1_method_27_code
def yX9_restore : MethodName := ⟨RX9, "restore", "(I)I"⟩
abbrev cX9_checksum : ByteArray := prog_1_method_28_code
def yX9_checksum : MethodName := ⟨RX9, "checksum", "()J"⟩
abbrev cX9_isPredicate : ByteArray := prog_1_method_29_code
def yX9_isPredicate : MethodName := ⟨RX9, "isPredicate", "(I)Z"⟩
abbrev cX9_atomNumber : ByteArray := prog_1_method_30_code
def yX9_atomNumber : MethodName := ⟨RX9, "atomNumber", "(III)I"⟩
abbrev cX9_atomOfModel : ByteArray := prog_1_method_31_code
def yX9_atomOfModel : MethodName := ⟨RX9, "atomOfModel", "(III)I"⟩
abbrev cX9_leastOf : ByteArray := prog_1_method_32_code
def yX9_leastOf : MethodName := ⟨RX9, "leastOf", "(II)I"⟩
abbrev cX9_withAtom : ByteArray := prog_1_method_33_code
def yX9_withAtom : MethodName := ⟨RX9, "withAtom", "(JI)J"⟩
abbrev cX9_rulesChanged : ByteArray := prog_1_method_34_code
def yX9_rulesChanged : MethodName := ⟨RX9, "rulesChanged", "()V"⟩
abbrev cX9_factsChanged : ByteArray := prog_1_method_35_code
def yX9_factsChanged : MethodName := ⟨RX9, "factsChanged", "()V"⟩
abbrev cX9_hasModel : ByteArray := prog_1_method_36_code
def yX9_hasModel : MethodName := ⟨RX9, "hasModel", "()Z"⟩
abbrev cX9_computeCosts : ByteArray := prog_1_method_37_code
def yX9_computeCosts : MethodName := ⟨RX9, "computeCosts", "()V"⟩
abbrev cX9_computeLikelihoods : ByteArray := prog_1_method_38_code
def yX9_computeLikelihoods : MethodName := ⟨RX9, "computeLikelihoods", "()V"⟩
abbrev cX9_computeSurvivals : ByteArray := prog_1_method_39_code
def yX9_computeSurvivals : MethodName := ⟨RX9, "computeSurvivals", "()V"⟩
abbrev cX9_buildLesserModel : ByteArray := prog_1_method_40_code
def yX9_buildLesserModel : MethodName := ⟨RX9, "buildLesserModel", "(I)V"⟩
abbrev cX9_floatBits : ByteArray := prog_1_method_41_code
def yX9_floatBits : MethodName := ⟨RX9, "floatBits", "(F)I"⟩
def RX10 : String := "FactOriginsModel"
def TX10 : u_T := fun k => match k with
  | 0 => ("FactOriginsModel", "v", "[I", true)
  | 1 => ("FactOriginsModel", "kept", "[I", true)
  | 2 => ("FactOriginsModel", "isKept", "[Z", true)
  | 3 => ("FactOriginsModel", "text", "[I", true)
  | 4 => ("FactOriginsModel", "length", "I", false)
  | 5 => ("FactOriginsModel", "place", "I", false)
  | 6 => ("FactOriginsModel", "told", "[I", true)
  | 7 => ("FactOriginsModel", "literals", "I", false)
  | 8 => ("FactOriginsModel", "isFound", "Z", false)
  | 9 => ("FactOriginsModel", "isModel", "Z", false)
  | 10 => ("FactOriginsModel", "strata", "[I", true)
  | 11 => ("FactOriginsModel", "binding", "[I", true)
  | 12 => ("FactOriginsModel", "roundOf", "[I", true)
  | 13 => ("FactOriginsModel", "other", "[I", true)
  | 14 => ("FactOriginsModel", "isNew", "[Z", true)
  | 15 => ("FactOriginsModel", "roundMany", "I", false)
  | 16 => ("FactOriginsModel", "rule", "[I", true)
  | 17 => ("FactOriginsModel", "head", "[I", true)
  | 18 => ("FactOriginsModel", "literal", "[I", true)
  | 19 => ("FactOriginsModel", "holding", "I", false)
  | 20 => ("FactOriginsModel", "rounds", "I", false)
  | 21 => ("FactOriginsModel", "costs", "[I", true)
  | 22 => ("FactOriginsModel", "likely", "[F", true)
  | 23 => ("FactOriginsModel", "leastRule", "[I", true)
  | 24 => ("FactOriginsModel", "leastBy", "[I", true)
  | 25 => ("FactOriginsModel", "leastSize", "[I", true)
  | 26 => ("FactOriginsModel", "leastUse", "[I", true)
  | _ => ("FactOriginsModel", "isDerived", "[Z", true)
def tyX10 : Nat → FieldType := fun k => match k with
  | 0 => .array .int
  | 1 => .array .int
  | 2 => .array .boolean
  | 3 => .array .int
  | 4 => .int
  | 5 => .int
  | 6 => .array .int
  | 7 => .int
  | 8 => .boolean
  | 9 => .boolean
  | 10 => .array .int
  | 11 => .array .int
  | 12 => .array .int
  | 13 => .array .int
  | 14 => .array .boolean
  | 15 => .int
  | 16 => .array .int
  | 17 => .array .int
  | 18 => .array .int
  | 19 => .int
  | 20 => .int
  | 21 => .array .int
  | 22 => .array .float
  | 23 => .array .int
  | 24 => .array .int
  | 25 => .array .int
  | 26 => .array .int
  | _ => .array .boolean
abbrev wsX100 : List Cond := u_ws RX10 TX10 28
theorem nmX10 : ∀ a, a < 28 → ∀ b, b < 28 → a ≠ b → (TX10 a).2.1 ≠ (TX10 b).2.1 := by decide +kernel
theorem tyX10_ok : ∀ k, k < 28 → parseFieldDescriptor (TX10 k).2.2.1 = some (tyX10 k) := by decide +kernel
abbrev cX10_init : ByteArray := prog_12_method_1_code
def yX10_init : MethodName := ⟨RX10, "<init>", "()V"⟩
abbrev cX10_in : ByteArray := prog_12_method_3_code
def yX10_in : MethodName := ⟨RX10, "in", "(III)Z"⟩
abbrev cX10_anew : ByteArray := prog_12_method_4_code
def yX10_anew : MethodName := ⟨RX10, "anew", "(I)V"⟩
abbrev cX10_isConstant : ByteArray := prog_12_method_5_code
def yX10_isConstant : MethodName := ⟨RX10, "isConstant", "(I)Z"⟩
abbrev cX10_isFact : ByteArray := prog_12_method_6_code
def yX10_isFact : MethodName := ⟨RX10, "isFact", "(III)Z"⟩
abbrev cX10_factOf : ByteArray := prog_12_method_7_code
def yX10_factOf : MethodName := ⟨RX10, "factOf", "(III)I"⟩
abbrev cX10_atomAt : ByteArray := prog_12_method_8_code
def yX10_atomAt : MethodName := ⟨RX10, "atomAt", "(II)I"⟩
abbrev cX10_begin : ByteArray := prog_12_method_9_code
def yX10_begin : MethodName := ⟨RX10, "begin", "(I)I"⟩
abbrev cX10_isUsed : ByteArray := prog_12_method_10_code
def yX10_isUsed : MethodName := ⟨RX10, "isUsed", "(I)Z"⟩
abbrev cX10_setPlaces : ByteArray := prog_12_method_11_code
def yX10_setPlaces : MethodName := ⟨RX10, "setPlaces", "(II)I"⟩
abbrev cX10_addFact : ByteArray := prog_12_method_12_code
def yX10_addFact : MethodName := ⟨RX10, "addFact", "(IIIII)I"⟩
abbrev cX10_removeFact : ByteArray := prog_12_method_13_code
def yX10_removeFact : MethodName := ⟨RX10, "removeFact", "(I)I"⟩
abbrev cX10_facts : ByteArray := prog_12_method_14_code
def yX10_facts : MethodName := ⟨RX10, "facts", "()I"⟩
abbrev cX10_removeRule : ByteArray := prog_12_method_15_code
def yX10_removeRule : MethodName := ⟨RX10, "removeRule", "(I)I"⟩
abbrev cX10_rules : ByteArray := prog_12_method_16_code
def yX10_rules : MethodName := ⟨RX10, "rules", "()I"⟩
abbrev cX10_append : ByteArray := prog_12_method_17_code
def yX10_append : MethodName := ⟨RX10, "append", "(I)I"⟩
abbrev cX10_clearText : ByteArray := prog_12_method_18_code
def yX10_clearText : MethodName := ⟨RX10, "clearText", "()I"⟩
abbrev cX10_here : ByteArray := prog_12_method_19_code
def yX10_here : MethodName := ⟨RX10, "here", "()I"⟩
abbrev cX10_takes : ByteArray := prog_12_method_20_code
def yX10_takes : MethodName := ⟨RX10, "takes", "(I)Z"⟩
abbrev cX10_isTerm : ByteArray := prog_12_method_21_code
def yX10_isTerm : MethodName := ⟨RX10, "isTerm", "(I)Z"⟩
abbrev cX10_isAtom : ByteArray := prog_12_method_22_code
def yX10_isAtom : MethodName := ⟨RX10, "isAtom", "(I)Z"⟩
abbrev cX10_isForm : ByteArray := prog_12_method_23_code
def yX10_isForm : MethodName := ⟨RX10, "isForm", "()Z"⟩
abbrev cX10_loose : ByteArray := prog_12_method_24_code
def yX10_loose : MethodName := ⟨RX10, "loose", "()I"⟩
abbrev cX10_isText : ByteArray := prog_12_method_25_code
def yX10_isText : MethodName := ⟨RX10, "isText", "()Z"⟩
abbrev cX10_faultPosition : ByteArray := prog_12_method_26_code
def yX10_faultPosition : MethodName := ⟨RX10, "faultPosition", "()I"⟩
abbrev cX10_addRule : ByteArray := prog_12_method_27_code
def yX10_addRule : MethodName := ⟨RX10, "addRule", "(I)I"⟩
abbrev cX10_findStrata : ByteArray := prog_12_method_28_code
def yX10_findStrata : MethodName := ⟨RX10, "findStrata", "()Z"⟩
abbrev cX10_termOf : ByteArray := prog_12_method_29_code
def yX10_termOf : MethodName := ⟨RX10, "termOf", "(I)I"⟩
abbrev cX10_factAt : ByteArray := prog_12_method_30_code
def yX10_factAt : MethodName := ⟨RX10, "factAt", "(II)I"⟩
abbrev cX10_isBinding : ByteArray := prog_12_method_31_code
def yX10_isBinding : MethodName := ⟨RX10, "isBinding", "(II)Z"⟩
abbrev cX10_holds : ByteArray := prog_12_method_32_code
def yX10_holds : MethodName := ⟨RX10, "holds", "(I[I)Z"⟩
abbrev cX10_goes : ByteArray := prog_12_method_33_code
def yX10_goes : MethodName := ⟨RX10, "goes", "(I[I)I"⟩
abbrev cX10_builds : ByteArray := prog_12_method_34_code
def yX10_builds : MethodName := ⟨RX10, "builds", "(I[I)V"⟩
abbrev cX10_findHolding : ByteArray := prog_12_method_35_code
def yX10_findHolding : MethodName := ⟨RX10, "findHolding", "()V"⟩
abbrev cX10_finds : ByteArray := prog_12_method_36_code
def yX10_finds : MethodName := ⟨RX10, "finds", "()Z"⟩
abbrev cX10_stratum : ByteArray := prog_12_method_37_code
def yX10_stratum : MethodName := ⟨RX10, "stratum", "(I)I"⟩
abbrev cX10_tally : ByteArray := prog_12_method_38_code
def yX10_tally : MethodName := ⟨RX10, "tally", "([III)I"⟩
abbrev cX10_size : ByteArray := prog_12_method_39_code
def yX10_size : MethodName := ⟨RX10, "size", "()I"⟩
abbrev cX10_count : ByteArray := prog_12_method_40_code
def yX10_count : MethodName := ⟨RX10, "count", "(I)I"⟩
abbrev cX10_rounds : ByteArray := prog_12_method_41_code
def yX10_rounds : MethodName := ⟨RX10, "rounds", "()I"⟩
abbrev cX10_wrong : ByteArray := prog_12_method_42_code
def yX10_wrong : MethodName := ⟨RX10, "wrong", "(III)I"⟩
abbrev cX10_round : ByteArray := prog_12_method_43_code
def yX10_round : MethodName := ⟨RX10, "round", "(III)I"⟩
abbrev cX10_instancesOf : ByteArray := prog_12_method_44_code
def yX10_instancesOf : MethodName := ⟨RX10, "instancesOf", "(I)I"⟩
abbrev cX10_instances : ByteArray := prog_12_method_45_code
def yX10_instances : MethodName := ⟨RX10, "instances", "(III)I"⟩
abbrev cX10_costBy : ByteArray := prog_12_method_46_code
def yX10_costBy : MethodName := ⟨RX10, "costBy", "(I)I"⟩
abbrev cX10_findCosts : ByteArray := prog_12_method_47_code
def yX10_findCosts : MethodName := ⟨RX10, "findCosts", "()V"⟩
abbrev cX10_likelyBy : ByteArray := prog_12_method_48_code
def yX10_likelyBy : MethodName := ⟨RX10, "likelyBy", "(I)F"⟩
abbrev cX10_findLikelihoods : ByteArray := prog_12_method_49_code
def yX10_findLikelihoods : MethodName := ⟨RX10, "findLikelihoods", "()V"⟩
abbrev cX10_findLeast : ByteArray := prog_12_method_50_code
def yX10_findLeast : MethodName := ⟨RX10, "findLeast", "()V"⟩
abbrev cX10_areSized : ByteArray := prog_12_method_51_code
def yX10_areSized : MethodName := ⟨RX10, "areSized", "(I)Z"⟩
abbrev cX10_sizes : ByteArray := prog_12_method_52_code
def yX10_sizes : MethodName := ⟨RX10, "sizes", "(II)V"⟩
abbrev cX10_leastNow : ByteArray := prog_12_method_53_code
def yX10_leastNow : MethodName := ⟨RX10, "leastNow", "(II)I"⟩
abbrev cX10_cost : ByteArray := prog_12_method_54_code
def yX10_cost : MethodName := ⟨RX10, "cost", "(III)I"⟩
abbrev cX10_likelihood : ByteArray := prog_12_method_55_code
def yX10_likelihood : MethodName := ⟨RX10, "likelihood", "(III)I"⟩
abbrev cX10_least : ByteArray := prog_12_method_56_code
def yX10_least : MethodName := ⟨RX10, "least", "(IIII)I"⟩
abbrev cX10_canDo : ByteArray := prog_12_method_57_code
def yX10_canDo : MethodName := ⟨RX10, "canDo", "(II)Z"⟩
abbrev cX10_areDerived : ByteArray := prog_12_method_58_code
def yX10_areDerived : MethodName := ⟨RX10, "areDerived", "(I)Z"⟩
abbrev cX10_needs : ByteArray := prog_12_method_59_code
def yX10_needs : MethodName := ⟨RX10, "needs", "(III)I"⟩
abbrev cX10_cutOf : ByteArray := prog_12_method_60_code
def yX10_cutOf : MethodName := ⟨RX10, "cutOf", "(I)I"⟩
abbrev cX10_cut : ByteArray := prog_12_method_61_code
def yX10_cut : MethodName := ⟨RX10, "cut", "(III)I"⟩
abbrev cX10_sizeWithout : ByteArray := prog_12_method_62_code
def yX10_sizeWithout : MethodName := ⟨RX10, "sizeWithout", "(I)I"⟩
abbrev cX10_holdsWithout : ByteArray := prog_12_method_63_code
def yX10_holdsWithout : MethodName := ⟨RX10, "holdsWithout", "(IIII)I"⟩
abbrev cX10_save : ByteArray := prog_12_method_64_code
def yX10_save : MethodName := ⟨RX10, "save", "(I)I"⟩
abbrev cX10_restore : ByteArray := prog_12_method_65_code
def yX10_restore : MethodName := ⟨RX10, "restore", "(I)I"⟩
abbrev cX10_more : ByteArray := prog_12_method_66_code
def yX10_more : MethodName := ⟨RX10, "more", "(JI)J"⟩
abbrev cX10_checksum : ByteArray := prog_12_method_67_code
def yX10_checksum : MethodName := ⟨RX10, "checksum", "()J"⟩
def RJx145de : String := "java/io/Serializable"
def TJx145de : u_T := fun k => match k with
  | _ => ("", "", "", false)
def tyJx145de : Nat → FieldType := fun k => match k with
  | _ => .int
abbrev wsJx145de0 : List Cond := u_ws RJx145de TJx145de 0
theorem nmJx145de : ∀ a, a < 0 → ∀ b, b < 0 → a ≠ b → (TJx145de a).2.1 ≠ (TJx145de b).2.1 := by decide +kernel
theorem tyJx145de_ok : ∀ k, k < 0 → parseFieldDescriptor (TJx145de k).2.2.1 = some (tyJx145de k) := by decide +kernel
def RJxb160c : String := "java/lang/Comparable"
def TJxb160c : u_T := fun k => match k with
  | _ => ("", "", "", false)
def tyJxb160c : Nat → FieldType := fun k => match k with
  | _ => .int
abbrev wsJxb160c0 : List Cond := u_ws RJxb160c TJxb160c 0
theorem nmJxb160c : ∀ a, a < 0 → ∀ b, b < 0 → a ≠ b → (TJxb160c a).2.1 ≠ (TJxb160c b).2.1 := by decide +kernel
theorem tyJxb160c_ok : ∀ k, k < 0 → parseFieldDescriptor (TJxb160c k).2.2.1 = some (tyJxb160c k) := by decide +kernel
def RJxf58ca : String := "java/lang/Float"
def TJxf58ca : u_T := fun k => match k with
  | _ => ("", "", "", false)
def tyJxf58ca : Nat → FieldType := fun k => match k with
  | _ => .int
abbrev wsJxf58ca0 : List Cond := u_ws RJxf58ca TJxf58ca 0
theorem nmJxf58ca : ∀ a, a < 0 → ∀ b, b < 0 → a ≠ b → (TJxf58ca a).2.1 ≠ (TJxf58ca b).2.1 := by decide +kernel
theorem tyJxf58ca_ok : ∀ k, k < 0 → parseFieldDescriptor (TJxf58ca k).2.2.1 = some (tyJxf58ca k) := by decide +kernel
abbrev cJxf58ca_isNaN_12338 : ByteArray := prog_13_method_6_code
def yJxf58ca_isNaN_12338 : MethodName := ⟨RJxf58ca, "isNaN", "(F)Z"⟩
abbrev cJxf58ca_floatToIntBits_5c35a : ByteArray := prog_13_method_24_code
def yJxf58ca_floatToIntBits_5c35a : MethodName := ⟨RJxf58ca, "floatToIntBits", "(F)I"⟩
def RJ9 : String := "java/lang/Math"
def TJ9 : u_T := fun k => match k with
  | _ => ("", "", "", false)
def tyJ9 : Nat → FieldType := fun k => match k with
  | _ => .int
abbrev wsJ90 : List Cond := u_ws RJ9 TJ9 0
theorem nmJ9 : ∀ a, a < 0 → ∀ b, b < 0 → a ≠ b → (TJ9 a).2.1 ≠ (TJ9 b).2.1 := by decide +kernel
theorem tyJ9_ok : ∀ k, k < 0 → parseFieldDescriptor (TJ9 k).2.2.1 = some (tyJ9 k) := by decide +kernel
abbrev cJ9_max_7cf53 : ByteArray := prog_14_method_65_code
def yJ9_max_7cf53 : MethodName := ⟨RJ9, "max", "(II)I"⟩
abbrev cJ9_min_7cf53 : ByteArray := prog_14_method_69_code
def yJ9_min_7cf53 : MethodName := ⟨RJ9, "min", "(II)I"⟩
def RJxd2413 : String := "java/lang/Number"
def TJxd2413 : u_T := fun k => match k with
  | _ => ("", "", "", false)
def tyJxd2413 : Nat → FieldType := fun k => match k with
  | _ => .int
abbrev wsJxd24130 : List Cond := u_ws RJxd2413 TJxd2413 0
theorem nmJxd2413 : ∀ a, a < 0 → ∀ b, b < 0 → a ≠ b → (TJxd2413 a).2.1 ≠ (TJxd2413 b).2.1 := by decide +kernel
theorem tyJxd2413_ok : ∀ k, k < 0 → parseFieldDescriptor (TJxd2413 k).2.2.1 = some (tyJxd2413 k) := by decide +kernel
def RJ10 : String := "java/lang/System"
def TJ10 : u_T := fun k => match k with
  | _ => ("", "", "", false)
def tyJ10 : Nat → FieldType := fun k => match k with
  | _ => .int
abbrev wsJ100 : List Cond := u_ws RJ10 TJ10 0
theorem nmJ10 : ∀ a, a < 0 → ∀ b, b < 0 → a ≠ b → (TJ10 a).2.1 ≠ (TJ10 b).2.1 := by decide +kernel
theorem tyJ10_ok : ∀ k, k < 0 → parseFieldDescriptor (TJ10 k).2.2.1 = some (tyJ10 k) := by decide +kernel
def RJxfd54e : String := "java/lang/constant/Constable"
def TJxfd54e : u_T := fun k => match k with
  | _ => ("", "", "", false)
def tyJxfd54e : Nat → FieldType := fun k => match k with
  | _ => .int
abbrev wsJxfd54e0 : List Cond := u_ws RJxfd54e TJxfd54e 0
theorem nmJxfd54e : ∀ a, a < 0 → ∀ b, b < 0 → a ≠ b → (TJxfd54e a).2.1 ≠ (TJxfd54e b).2.1 := by decide +kernel
theorem tyJxfd54e_ok : ∀ k, k < 0 → parseFieldDescriptor (TJxfd54e k).2.2.1 = some (tyJxfd54e k) := by decide +kernel
def RJx3cf43 : String := "java/lang/constant/ConstantDesc"
def TJx3cf43 : u_T := fun k => match k with
  | _ => ("", "", "", false)
def tyJx3cf43 : Nat → FieldType := fun k => match k with
  | _ => .int
abbrev wsJx3cf430 : List Cond := u_ws RJx3cf43 TJx3cf43 0
theorem nmJx3cf43 : ∀ a, a < 0 → ∀ b, b < 0 → a ≠ b → (TJx3cf43 a).2.1 ≠ (TJx3cf43 b).2.1 := by decide +kernel
theorem tyJx3cf43_ok : ∀ k, k < 0 → parseFieldDescriptor (TJx3cf43 k).2.2.1 = some (tyJx3cf43 k) := by decide +kernel
def RJ7 : String := "java/util/Arrays"
def TJ7 : u_T := fun k => match k with
  | _ => ("", "", "", false)
def tyJ7 : Nat → FieldType := fun k => match k with
  | _ => .int
abbrev wsJ70 : List Cond := u_ws RJ7 TJ7 0
theorem nmJ7 : ∀ a, a < 0 → ∀ b, b < 0 → a ≠ b → (TJ7 a).2.1 ≠ (TJ7 b).2.1 := by decide +kernel
theorem tyJ7_ok : ∀ k, k < 0 → parseFieldDescriptor (TJ7 k).2.2.1 = some (tyJ7 k) := by decide +kernel
abbrev cJ7_fill_d0a16 : ByteArray := prog_17_method_101_code
def yJ7_fill_d0a16 : MethodName := ⟨RJ7, "fill", "([JJ)V"⟩
abbrev cJ7_fill_53178 : ByteArray := prog_17_method_103_code
def yJ7_fill_53178 : MethodName := ⟨RJ7, "fill", "([II)V"⟩
def RL : String := "FactOriginsLaw"
abbrev cL_law : ByteArray := code
def yL_law : MethodName := ⟨RL, "law", "([I)Z"⟩
abbrev vwCl : List vw_C := [(RX0, TX0, 6), (RX1, TX1, 12), (RX2, TX2, 3), (RX3, TX3, 1), (RX4, TX4, 3), (RX5, TX5, 8), (RX6, TX6, 6), (RX7, TX7, 4), (RX8, TX8, 2), (RX9, TX9, 17), (RX10, TX10, 28)]
set_option maxRecDepth 20000 in
theorem inT0 : ∀ w ∈ wsX00, w ∈ lw_tbl := by decide +kernel
set_option maxRecDepth 20000 in
theorem inT1 : ∀ w ∈ wsX10, w ∈ lw_tbl := by decide +kernel
set_option maxRecDepth 20000 in
theorem inT2 : ∀ w ∈ wsX20, w ∈ lw_tbl := by decide +kernel
set_option maxRecDepth 20000 in
theorem inT3 : ∀ w ∈ wsX30, w ∈ lw_tbl := by decide +kernel
set_option maxRecDepth 20000 in
theorem inT4 : ∀ w ∈ wsX40, w ∈ lw_tbl := by decide +kernel
set_option maxRecDepth 20000 in
theorem inT5 : ∀ w ∈ wsX50, w ∈ lw_tbl := by decide +kernel
set_option maxRecDepth 20000 in
theorem inT6 : ∀ w ∈ wsX60, w ∈ lw_tbl := by decide +kernel
set_option maxRecDepth 20000 in
theorem inT7 : ∀ w ∈ wsX70, w ∈ lw_tbl := by decide +kernel
set_option maxRecDepth 20000 in
theorem inT8 : ∀ w ∈ wsX80, w ∈ lw_tbl := by decide +kernel
set_option maxRecDepth 20000 in
theorem inT9 : ∀ w ∈ wsX90, w ∈ lw_tbl := by decide +kernel
set_option maxRecDepth 20000 in
theorem inT10 : ∀ w ∈ wsX100, w ∈ lw_tbl := by decide +kernel
end
section
/-- a method: name, code, locals, result, its instructions: (pc, (instruction, length, next, target)) -/
abbrev MI : Type := MethodName × ByteArray × Nat × Option FieldType × List (Nat × Instr × Nat × Nat × Nat)
def tgOk (pc : Nat) (i : Instr) (tg : Nat) : Bool := match i with
  | .goto off => decide ((pc : Int) + off = (tg : Int))
  | .ifCond _ off => decide ((pc : Int) + off = (tg : Int))
  | .if_icmp _ off => decide ((pc : Int) + off = (tg : Int))
  | _ => true
def entOk (b : ByteArray) (q : Nat × Instr × Nat × Nat × Nat) : Bool := decide (decode b q.1 = .ok (q.2.1, q.2.2.1)) && (decide (q.2.2.2.1 = q.1 + q.2.2.1) && tgOk q.1 q.2.1 q.2.2.2.2)
def mi_ok (M : MI) : Prop := (M.2.2.2.2.all (entOk M.2.1) = true) ∧ plainName M.1.cls = true ∧ M.2.2.1 ≤ 12 ∧ Cond.code M.1 M.2.1 M.2.2.1 M.2.2.2.1 ∈ lw_tbl
def M_X0_init : MI := (yX0_init, cX0_init, 1, none, [(0, .aload_n 0, 1, 1, 0), (1, .invokespecial 3, 3, 4, 0), (4, .aload_n 0, 1, 5, 0), (5, .sipush 216, 3, 8, 0), (8, .newarray .int, 2, 10, 0), (10, .putfield 9, 3, 13, 0), (13, .aload_n 0, 1, 14, 0), (14, .sipush 216, 3, 17, 0), (17, .newarray .int, 2, 19, 0), (19, .putfield 15, 3, 22, 0), (22, .aload_n 0, 1, 23, 0), (23, .sipush 216, 3, 26, 0), (26, .newarray .int, 2, 28, 0), (28, .putfield 18, 3, 31, 0), (31, .aload_n 0, 1, 32, 0), (32, .sipush 216, 3, 35, 0), (35, .newarray .int, 2, 37, 0), (37, .putfield 21, 3, 40, 0), (40, .aload_n 0, 1, 41, 0), (41, .sipush 216, 3, 44, 0), (44, .newarray .int, 2, 46, 0), (46, .putfield 24, 3, 49, 0), (49, .aload_n 0, 1, 50, 0), (50, .sipush 216, 3, 53, 0), (53, .newarray .int, 2, 55, 0), (55, .putfield 27, 3, 58, 0), (58, .return_, 1, 59, 0)])
set_option maxRecDepth 20000 in
theorem ok_X0_init : mi_ok M_X0_init := ⟨by decide +kernel, by decide +kernel, by decide +kernel, by decide +kernel⟩
def M_X0_compute : MI := (yX0_compute, cX0_compute, 7, none, [(0, .aload_n 0, 1, 1, 0), (1, .aload_n 1, 1, 2, 0), (2, .invokevirtual 30, 3, 5, 0), (5, .iconst 1, 1, 6, 0), (6, .istore 4, 2, 8, 0), (8, .iconst 0, 1, 9, 0), (9, .istore 5, 2, 11, 0), (11, .iload 4, 2, 13, 0), (13, .ifCond .eq 25, 3, 16, 38), (16, .iload 5, 2, 18, 0), (18, .sipush 218, 3, 21, 0), (21, .if_icmp .ge 17, 3, 24, 38), (24, .aload_n 0, 1, 25, 0), (25, .aload_n 2, 1, 26, 0), (26, .aload_n 3, 1, 27, 0), (27, .invokevirtual 34, 3, 30, 0), (30, .istore 4, 2, 32, 0), (32, .iinc 5 1, 3, 35, 0), (35, .goto (-24), 3, 38, 11), (38, .aload_n 0, 1, 39, 0), (39, .aload_n 1, 1, 40, 0), (40, .aload_n 2, 1, 41, 0), (41, .aload_n 3, 1, 42, 0), (42, .invokevirtual 38, 3, 45, 0), (45, .iconst 1, 1, 46, 0), (46, .istore 5, 2, 48, 0), (48, .iconst 0, 1, 49, 0), (49, .istore 6, 2, 51, 0), (51, .iload 5, 2, 53, 0), (53, .ifCond .eq 24, 3, 56, 77), (56, .iload 6, 2, 58, 0), (58, .sipush 218, 3, 61, 0), (61, .if_icmp .ge 16, 3, 64, 77), (64, .aload_n 0, 1, 65, 0), (65, .aload_n 2, 1, 66, 0), (66, .invokevirtual 42, 3, 69, 0), (69, .istore 5, 2, 71, 0), (71, .iinc 6 1, 3, 74, 0), (74, .goto (-23), 3, 77, 51), (77, .return_, 1, 78, 0)])
set_option maxRecDepth 20000 in
theorem ok_X0_compute : mi_ok M_X0_compute := ⟨by decide +kernel, by decide +kernel, by decide +kernel, by decide +kernel⟩
def M_X0_startWithBaseFacts : MI := (yX0_startWithBaseFacts, cX0_startWithBaseFacts, 4, none, [(0, .aload_n 0, 1, 1, 0), (1, .getfield 9, 3, 4, 0), (4, .ldc 46, 2, 6, 0), (6, .invokestatic 47, 3, 9, 0), (9, .aload_n 0, 1, 10, 0), (10, .getfield 24, 3, 13, 0), (13, .iconst (-1), 1, 14, 0), (14, .invokestatic 47, 3, 17, 0), (17, .iconst 0, 1, 18, 0), (18, .istore_n 2, 1, 19, 0), (19, .iload_n 2, 1, 20, 0), (20, .aload_n 1, 1, 21, 0), (21, .getfield 53, 3, 24, 0), (24, .if_icmp .ge 50, 3, 27, 74), (27, .aload_n 1, 1, 28, 0), (28, .getfield 59, 3, 31, 0), (31, .iload_n 2, 1, 32, 0), (32, .iaload, 1, 33, 0), (33, .istore_n 3, 1, 34, 0), (34, .aload_n 1, 1, 35, 0), (35, .getfield 62, 3, 38, 0), (38, .iload_n 2, 1, 39, 0), (39, .iaload, 1, 40, 0), (40, .aload_n 0, 1, 41, 0), (41, .getfield 9, 3, 44, 0), (44, .iload_n 3, 1, 45, 0), (45, .iaload, 1, 46, 0), (46, .if_icmp .ge 22, 3, 49, 68), (49, .aload_n 0, 1, 50, 0), (50, .getfield 9, 3, 53, 0), (53, .iload_n 3, 1, 54, 0), (54, .aload_n 1, 1, 55, 0), (55, .getfield 62, 3, 58, 0), (58, .iload_n 2, 1, 59, 0), (59, .iaload, 1, 60, 0), (60, .iastore, 1, 61, 0), (61, .aload_n 0, 1, 62, 0), (62, .getfield 24, 3, 65, 0), (65, .iload_n 3, 1, 66, 0), (66, .iload_n 2, 1, 67, 0), (67, .iastore, 1, 68, 0), (68, .iinc 2 1, 3, 71, 0), (71, .goto (-52), 3, 74, 19), (74, .return_, 1, 75, 0)])
set_option maxRecDepth 20000 in
theorem ok_X0_startWithBaseFacts : mi_ok M_X0_startWithBaseFacts := ⟨by decide +kernel, by decide +kernel, by decide +kernel, by decide +kernel⟩
def M_X0_lower : MI := (yX0_lower, cX0_lower, 8, (some .boolean), [(0, .iconst 0, 1, 1, 0), (1, .istore_n 3, 1, 2, 0), (2, .iconst 0, 1, 3, 0), (3, .istore 4, 2, 5, 0), (5, .iload 4, 2, 7, 0), (7, .aload_n 2, 1, 8, 0), (8, .getfield 65, 3, 11, 0), (11, .if_icmp .ge 59, 3, 14, 70), (14, .aload_n 2, 1, 15, 0), (15, .getfield 70, 3, 18, 0), (18, .iload 4, 2, 20, 0), (20, .iaload, 1, 21, 0), (21, .istore 5, 2, 23, 0), (23, .aload_n 1, 1, 24, 0), (24, .getfield 73, 3, 27, 0), (27, .iload 5, 2, 29, 0), (29, .iaload, 1, 30, 0), (30, .istore 6, 2, 32, 0), (32, .aload_n 0, 1, 33, 0), (33, .aload_n 1, 1, 34, 0), (34, .iload 5, 2, 36, 0), (36, .invokevirtual 78, 3, 39, 0), (39, .istore 7, 2, 41, 0), (41, .iload 7, 2, 43, 0), (43, .aload_n 0, 1, 44, 0), (44, .getfield 9, 3, 47, 0), (47, .iload 6, 2, 49, 0), (49, .iaload, 1, 50, 0), (50, .if_icmp .ge 14, 3, 53, 64), (53, .aload_n 0, 1, 54, 0), (54, .getfield 9, 3, 57, 0), (57, .iload 6, 2, 59, 0), (59, .iload 7, 2, 61, 0), (61, .iastore, 1, 62, 0), (62, .iconst 1, 1, 63, 0), (63, .istore_n 3, 1, 64, 0), (64, .iinc 4 1, 3, 67, 0), (67, .goto (-62), 3, 70, 5), (70, .iload_n 3, 1, 71, 0), (71, .ireturn, 1, 72, 0)])
set_option maxRecDepth 20000 in
theorem ok_X0_lower : mi_ok M_X0_lower := ⟨by decide +kernel, by decide +kernel, by decide +kernel, by decide +kernel⟩
def M_X0_costBy : MI := (yX0_costBy, cX0_costBy, 7, (some .int), [(0, .aload_n 1, 1, 1, 0), (1, .getfield 82, 3, 4, 0), (4, .iload_n 2, 1, 5, 0), (5, .iaload, 1, 6, 0), (6, .istore_n 3, 1, 7, 0), (7, .iload_n 2, 1, 8, 0), (8, .iconst 3, 1, 9, 0), (9, .imul, 1, 10, 0), (10, .istore 4, 2, 12, 0), (12, .aload_n 1, 1, 13, 0), (13, .getfield 83, 3, 16, 0), (16, .iload_n 3, 1, 17, 0), (17, .iaload, 1, 18, 0), (18, .istore 5, 2, 20, 0), (20, .iload 4, 2, 22, 0), (22, .istore 6, 2, 24, 0), (24, .iload 6, 2, 26, 0), (26, .iload 4, 2, 28, 0), (28, .aload_n 1, 1, 29, 0), (29, .getfield 86, 3, 32, 0), (32, .iload_n 3, 1, 33, 0), (33, .iaload, 1, 34, 0), (34, .iadd, 1, 35, 0), (35, .if_icmp .ge 26, 3, 38, 61), (38, .iload 5, 2, 40, 0), (40, .aload_n 0, 1, 41, 0), (41, .getfield 9, 3, 44, 0), (44, .aload_n 1, 1, 45, 0), (45, .getfield 89, 3, 48, 0), (48, .iload 6, 2, 50, 0), (50, .iaload, 1, 51, 0), (51, .iaload, 1, 52, 0), (52, .iadd, 1, 53, 0), (53, .istore 5, 2, 55, 0), (55, .iinc 6 1, 3, 58, 0), (58, .goto (-34), 3, 61, 24), (61, .iload 5, 2, 63, 0), (63, .ldc 46, 2, 65, 0), (65, .invokestatic 92, 3, 68, 0), (68, .ireturn, 1, 69, 0)])
set_option maxRecDepth 20000 in
theorem ok_X0_costBy : mi_ok M_X0_costBy := ⟨by decide +kernel, by decide +kernel, by decide +kernel, by decide +kernel⟩
def M_X0_choose : MI := (yX0_choose, cX0_choose, 7, none, [(0, .aload_n 0, 1, 1, 0), (1, .getfield 27, 3, 4, 0), (4, .iconst (-1), 1, 5, 0), (5, .invokestatic 47, 3, 8, 0), (8, .iconst 0, 1, 9, 0), (9, .istore 4, 2, 11, 0), (11, .iload 4, 2, 13, 0), (13, .aload_n 3, 1, 14, 0), (14, .getfield 65, 3, 17, 0), (17, .if_icmp .ge 64, 3, 20, 81), (20, .aload_n 3, 1, 21, 0), (21, .getfield 70, 3, 24, 0), (24, .iload 4, 2, 26, 0), (26, .iaload, 1, 27, 0), (27, .istore 5, 2, 29, 0), (29, .aload_n 2, 1, 30, 0), (30, .getfield 73, 3, 33, 0), (33, .iload 5, 2, 35, 0), (35, .iaload, 1, 36, 0), (36, .istore 6, 2, 38, 0), (38, .aload_n 0, 1, 39, 0), (39, .getfield 27, 3, 42, 0), (42, .iload 6, 2, 44, 0), (44, .iaload, 1, 45, 0), (45, .iconst (-1), 1, 46, 0), (46, .if_icmp .ne 29, 3, 49, 75), (49, .aload_n 0, 1, 50, 0), (50, .aload_n 2, 1, 51, 0), (51, .iload 5, 2, 53, 0), (53, .invokevirtual 78, 3, 56, 0), (56, .aload_n 0, 1, 57, 0), (57, .getfield 9, 3, 60, 0), (60, .iload 6, 2, 62, 0), (62, .iaload, 1, 63, 0), (63, .if_icmp .ne 12, 3, 66, 75), (66, .aload_n 0, 1, 67, 0), (67, .getfield 27, 3, 70, 0), (70, .iload 6, 2, 72, 0), (72, .iload 5, 2, 74, 0), (74, .iastore, 1, 75, 0), (75, .iinc 4 1, 3, 78, 0), (78, .goto (-67), 3, 81, 11), (81, .iconst 0, 1, 82, 0), (82, .istore 4, 2, 84, 0), (84, .iload 4, 2, 86, 0), (86, .sipush 216, 3, 89, 0), (89, .if_icmp .ge 129, 3, 92, 218), (92, .aload_n 0, 1, 93, 0), (93, .getfield 24, 3, 96, 0), (96, .iload 4, 2, 98, 0), (98, .iaload, 1, 99, 0), (99, .istore 5, 2, 101, 0), (101, .iload 5, 2, 103, 0), (103, .iconst (-1), 1, 104, 0), (104, .if_icmp .eq 24, 3, 107, 128), (107, .aload_n 1, 1, 108, 0), (108, .getfield 62, 3, 111, 0), (111, .iload 5, 2, 113, 0), (113, .iaload, 1, 114, 0), (114, .aload_n 0, 1, 115, 0), (115, .getfield 9, 3, 118, 0), (118, .iload 4, 2, 120, 0), (120, .iaload, 1, 121, 0), (121, .if_icmp .ne 7, 3, 124, 128), (124, .iconst 1, 1, 125, 0), (125, .goto 4, 3, 128, 129), (128, .iconst 0, 1, 129, 0), (129, .istore 6, 2, 131, 0), (131, .aload_n 0, 1, 132, 0), (132, .getfield 15, 3, 135, 0), (135, .iload 4, 2, 137, 0), (137, .bipush 8, 2, 139, 0), (139, .iastore, 1, 140, 0), (140, .aload_n 0, 1, 141, 0), (141, .getfield 18, 3, 144, 0), (144, .iload 4, 2, 146, 0), (146, .iload 6, 2, 148, 0), (148, .ifCond .eq 7, 3, 151, 155), (151, .iconst 1, 1, 152, 0), (152, .goto 4, 3, 155, 156), (155, .iconst 0, 1, 156, 0), (156, .iastore, 1, 157, 0), (157, .aload_n 0, 1, 158, 0), (158, .getfield 21, 3, 161, 0), (161, .iload 4, 2, 163, 0), (163, .iload 6, 2, 165, 0), (165, .ifCond .eq 10, 3, 168, 175), (168, .iconst 1, 1, 169, 0), (169, .iload 5, 2, 171, 0), (171, .ishl, 1, 172, 0), (172, .goto 4, 3, 175, 176), (175, .iconst 0, 1, 176, 0), (176, .iastore, 1, 177, 0), (177, .iload 6, 2, 179, 0), (179, .ifCond .ne 33, 3, 182, 212), (182, .aload_n 0, 1, 183, 0), (183, .getfield 27, 3, 186, 0), (186, .iload 4, 2, 188, 0), (188, .iaload, 1, 189, 0), (189, .iconst (-1), 1, 190, 0), (190, .if_icmp .eq 22, 3, 193, 212), (193, .aload_n 0, 1, 194, 0), (194, .getfield 15, 3, 197, 0), (197, .iload 4, 2, 199, 0), (199, .aload_n 2, 1, 200, 0), (200, .getfield 82, 3, 203, 0), (203, .aload_n 0, 1, 204, 0), (204, .getfield 27, 3, 207, 0), (207, .iload 4, 2, 209, 0), (209, .iaload, 1, 210, 0), (210, .iaload, 1, 211, 0), (211, .iastore, 1, 212, 0), (212, .iinc 4 1, 3, 215, 0), (215, .goto (-131), 3, 218, 84), (218, .return_, 1, 219, 0)])
set_option maxRecDepth 20000 in
theorem ok_X0_choose : mi_ok M_X0_choose := ⟨by decide +kernel, by decide +kernel, by decide +kernel, by decide +kernel⟩
def M_X0_grow : MI := (yX0_grow, cX0_grow, 5, (some .boolean), [(0, .iconst 0, 1, 1, 0), (1, .istore_n 2, 1, 2, 0), (2, .iconst 0, 1, 3, 0), (3, .istore_n 3, 1, 4, 0), (4, .iload_n 3, 1, 5, 0), (5, .sipush 216, 3, 8, 0), (8, .if_icmp .ge 73, 3, 11, 81), (11, .aload_n 0, 1, 12, 0), (12, .getfield 18, 3, 15, 0), (15, .iload_n 3, 1, 16, 0), (16, .iaload, 1, 17, 0), (17, .ifCond .ne 28, 3, 20, 45), (20, .aload_n 0, 1, 21, 0), (21, .getfield 27, 3, 24, 0), (24, .iload_n 3, 1, 25, 0), (25, .iaload, 1, 26, 0), (26, .iconst (-1), 1, 27, 0), (27, .if_icmp .eq 18, 3, 30, 45), (30, .aload_n 0, 1, 31, 0), (31, .getfield 9, 3, 34, 0), (34, .iload_n 3, 1, 35, 0), (35, .iaload, 1, 36, 0), (36, .ldc 46, 2, 38, 0), (38, .if_icmp .ge 7, 3, 41, 45), (41, .iconst 1, 1, 42, 0), (42, .goto 4, 3, 45, 46), (45, .iconst 0, 1, 46, 0), (46, .istore 4, 2, 48, 0), (48, .iload 4, 2, 50, 0), (50, .ifCond .eq 25, 3, 53, 75), (53, .aload_n 0, 1, 54, 0), (54, .aload_n 1, 1, 55, 0), (55, .aload_n 0, 1, 56, 0), (56, .getfield 27, 3, 59, 0), (59, .iload_n 3, 1, 60, 0), (60, .iaload, 1, 61, 0), (61, .invokevirtual 98, 3, 64, 0), (64, .ifCond .eq 11, 3, 67, 75), (67, .aload_n 0, 1, 68, 0), (68, .aload_n 1, 1, 69, 0), (69, .iload_n 3, 1, 70, 0), (70, .invokevirtual 102, 3, 73, 0), (73, .iconst 1, 1, 74, 0), (74, .istore_n 2, 1, 75, 0), (75, .iinc 3 1, 3, 78, 0), (78, .goto (-74), 3, 81, 4), (81, .iload_n 2, 1, 82, 0), (82, .ireturn, 1, 83, 0)])
set_option maxRecDepth 20000 in
theorem ok_X0_grow : mi_ok M_X0_grow := ⟨by decide +kernel, by decide +kernel, by decide +kernel, by decide +kernel⟩
def M_X0_partsAreKnown : MI := (yX0_partsAreKnown, cX0_partsAreKnown, 6, (some .boolean), [(0, .iload_n 2, 1, 1, 0), (1, .iconst 3, 1, 2, 0), (2, .imul, 1, 3, 0), (3, .istore_n 3, 1, 4, 0), (4, .aload_n 1, 1, 5, 0), (5, .getfield 86, 3, 8, 0), (8, .aload_n 1, 1, 9, 0), (9, .getfield 82, 3, 12, 0), (12, .iload_n 2, 1, 13, 0), (13, .iaload, 1, 14, 0), (14, .iaload, 1, 15, 0), (15, .istore 4, 2, 17, 0), (17, .iload_n 3, 1, 18, 0), (18, .istore 5, 2, 20, 0), (20, .iload 5, 2, 22, 0), (22, .iload_n 3, 1, 23, 0), (23, .iload 4, 2, 25, 0), (25, .iadd, 1, 26, 0), (26, .if_icmp .ge 26, 3, 29, 52), (29, .aload_n 0, 1, 30, 0), (30, .getfield 18, 3, 33, 0), (33, .aload_n 1, 1, 34, 0), (34, .getfield 89, 3, 37, 0), (37, .iload 5, 2, 39, 0), (39, .iaload, 1, 40, 0), (40, .iaload, 1, 41, 0), (41, .ifCond .ne 5, 3, 44, 46), (44, .iconst 0, 1, 45, 0), (45, .ireturn, 1, 46, 0), (46, .iinc 5 1, 3, 49, 0), (49, .goto (-29), 3, 52, 20), (52, .iconst 1, 1, 53, 0), (53, .ireturn, 1, 54, 0)])
set_option maxRecDepth 20000 in
theorem ok_X0_partsAreKnown : mi_ok M_X0_partsAreKnown := ⟨by decide +kernel, by decide +kernel, by decide +kernel, by decide +kernel⟩
def M_X0_putTogether : MI := (yX0_putTogether, cX0_putTogether, 8, none, [(0, .aload_n 0, 1, 1, 0), (1, .getfield 27, 3, 4, 0), (4, .iload_n 2, 1, 5, 0), (5, .iaload, 1, 6, 0), (6, .iconst 3, 1, 7, 0), (7, .imul, 1, 8, 0), (8, .istore_n 3, 1, 9, 0), (9, .iconst 1, 1, 10, 0), (10, .istore 4, 2, 12, 0), (12, .iconst 0, 1, 13, 0), (13, .istore 5, 2, 15, 0), (15, .iload_n 3, 1, 16, 0), (16, .istore 6, 2, 18, 0), (18, .iload 6, 2, 20, 0), (20, .iload_n 3, 1, 21, 0), (21, .aload_n 1, 1, 22, 0), (22, .getfield 86, 3, 25, 0), (25, .aload_n 0, 1, 26, 0), (26, .getfield 15, 3, 29, 0), (29, .iload_n 2, 1, 30, 0), (30, .iaload, 1, 31, 0), (31, .iaload, 1, 32, 0), (32, .iadd, 1, 33, 0), (33, .if_icmp .ge 42, 3, 36, 75), (36, .aload_n 1, 1, 37, 0), (37, .getfield 89, 3, 40, 0), (40, .iload 6, 2, 42, 0), (42, .iaload, 1, 43, 0), (43, .istore 7, 2, 45, 0), (45, .iload 4, 2, 47, 0), (47, .aload_n 0, 1, 48, 0), (48, .getfield 18, 3, 51, 0), (51, .iload 7, 2, 53, 0), (53, .iaload, 1, 54, 0), (54, .iadd, 1, 55, 0), (55, .istore 4, 2, 57, 0), (57, .iload 5, 2, 59, 0), (59, .aload_n 0, 1, 60, 0), (60, .getfield 21, 3, 63, 0), (63, .iload 7, 2, 65, 0), (65, .iaload, 1, 66, 0), (66, .ior, 1, 67, 0), (67, .istore 5, 2, 69, 0), (69, .iinc 6 1, 3, 72, 0), (72, .goto (-54), 3, 75, 18), (75, .aload_n 0, 1, 76, 0), (76, .getfield 18, 3, 79, 0), (79, .iload_n 2, 1, 80, 0), (80, .iload 4, 2, 82, 0), (82, .iastore, 1, 83, 0), (83, .aload_n 0, 1, 84, 0), (84, .getfield 21, 3, 87, 0), (87, .iload_n 2, 1, 88, 0), (88, .iload 5, 2, 90, 0), (90, .iastore, 1, 91, 0), (91, .return_, 1, 92, 0)])
set_option maxRecDepth 20000 in
theorem ok_X0_putTogether : mi_ok M_X0_putTogether := ⟨by decide +kernel, by decide +kernel, by decide +kernel, by decide +kernel⟩
def M_X1_init : MI := (yX1_init, cX1_init, 1, none, [(0, .aload_n 0, 1, 1, 0), (1, .invokespecial 3, 3, 4, 0), (4, .aload_n 0, 1, 5, 0), (5, .bipush 6, 2, 7, 0), (7, .newarray .int, 2, 9, 0), (9, .putfield 9, 3, 12, 0), (12, .aload_n 0, 1, 13, 0), (13, .bipush 8, 2, 15, 0), (15, .newarray .int, 2, 17, 0), (17, .putfield 15, 3, 20, 0), (20, .aload_n 0, 1, 21, 0), (21, .bipush 8, 2, 23, 0), (23, .newarray .int, 2, 25, 0), (25, .putfield 18, 3, 28, 0), (28, .aload_n 0, 1, 29, 0), (29, .bipush 8, 2, 31, 0), (31, .newarray .int, 2, 33, 0), (33, .putfield 21, 3, 36, 0), (36, .aload_n 0, 1, 37, 0), (37, .bipush 8, 2, 39, 0), (39, .newarray .int, 2, 41, 0), (41, .putfield 24, 3, 44, 0), (44, .aload_n 0, 1, 45, 0), (45, .bipush 9, 2, 47, 0), (47, .newarray .int, 2, 49, 0), (49, .putfield 27, 3, 52, 0), (52, .aload_n 0, 1, 53, 0), (53, .sipush 1728, 3, 56, 0), (56, .newarray .int, 2, 58, 0), (58, .putfield 30, 3, 61, 0), (61, .aload_n 0, 1, 62, 0), (62, .sipush 1728, 3, 65, 0), (65, .newarray .int, 2, 67, 0), (67, .putfield 33, 3, 70, 0), (70, .aload_n 0, 1, 71, 0), (71, .sipush 5184, 3, 74, 0), (74, .newarray .int, 2, 76, 0), (76, .putfield 36, 3, 79, 0), (79, .aload_n 0, 1, 80, 0), (80, .bipush 9, 2, 82, 0), (82, .newarray .int, 2, 84, 0), (84, .putfield 39, 3, 87, 0), (87, .return_, 1, 88, 0)])
set_option maxRecDepth 20000 in
theorem ok_X1_init : mi_ok M_X1_init := ⟨by decide +kernel, by decide +kernel, by decide +kernel, by decide +kernel⟩
def M_X1_fill : MI := (yX1_fill, cX1_fill, 5, none, [(0, .aload_n 0, 1, 1, 0), (1, .aload_n 1, 1, 2, 0), (2, .getfield 42, 3, 5, 0), (5, .putfield 48, 3, 8, 0), (8, .aload_n 0, 1, 9, 0), (9, .aload_n 1, 1, 10, 0), (10, .invokevirtual 49, 3, 13, 0), (13, .iconst 0, 1, 14, 0), (14, .istore_n 2, 1, 15, 0), (15, .iload_n 2, 1, 16, 0), (16, .bipush 6, 2, 18, 0), (18, .if_icmp .ge 16, 3, 21, 34), (21, .aload_n 0, 1, 22, 0), (22, .getfield 39, 3, 25, 0), (25, .iload_n 2, 1, 26, 0), (26, .iload_n 2, 1, 27, 0), (27, .iastore, 1, 28, 0), (28, .iinc 2 1, 3, 31, 0), (31, .goto (-16), 3, 34, 15), (34, .aload_n 0, 1, 35, 0), (35, .getfield 27, 3, 38, 0), (38, .iconst 0, 1, 39, 0), (39, .iconst 0, 1, 40, 0), (40, .iastore, 1, 41, 0), (41, .iconst 0, 1, 42, 0), (42, .istore_n 2, 1, 43, 0), (43, .iload_n 2, 1, 44, 0), (44, .aload_n 0, 1, 45, 0), (45, .getfield 48, 3, 48, 0), (48, .if_icmp .ge 120, 3, 51, 168), (51, .aload_n 1, 1, 52, 0), (52, .getfield 53, 3, 55, 0), (55, .iload_n 2, 1, 56, 0), (56, .aaload, 1, 57, 0), (57, .astore_n 3, 1, 58, 0), (58, .aload_n 0, 1, 59, 0), (59, .getfield 15, 3, 62, 0), (62, .iload_n 2, 1, 63, 0), (63, .aload_n 0, 1, 64, 0), (64, .getfield 9, 3, 67, 0), (67, .aload_n 3, 1, 68, 0), (68, .getfield 57, 3, 71, 0), (71, .iconst 0, 1, 72, 0), (72, .iaload, 1, 73, 0), (73, .iaload, 1, 74, 0), (74, .iastore, 1, 75, 0), (75, .aload_n 0, 1, 76, 0), (76, .getfield 18, 3, 79, 0), (79, .iload_n 2, 1, 80, 0), (80, .aload_n 3, 1, 81, 0), (81, .getfield 62, 3, 84, 0), (84, .iastore, 1, 85, 0), (85, .aload_n 0, 1, 86, 0), (86, .getfield 24, 3, 89, 0), (89, .iload_n 2, 1, 90, 0), (90, .aload_n 3, 1, 91, 0), (91, .getfield 64, 3, 94, 0), (94, .iastore, 1, 95, 0), (95, .aload_n 0, 1, 96, 0), (96, .getfield 21, 3, 99, 0), (99, .iload_n 2, 1, 100, 0), (100, .iconst 0, 1, 101, 0), (101, .iastore, 1, 102, 0), (102, .iconst 1, 1, 103, 0), (103, .istore 4, 2, 105, 0), (105, .iload 4, 2, 107, 0), (107, .aload_n 3, 1, 108, 0), (108, .getfield 64, 3, 111, 0), (111, .if_icmp .gt 33, 3, 114, 144), (114, .aload_n 0, 1, 115, 0), (115, .getfield 21, 3, 118, 0), (118, .iload_n 2, 1, 119, 0), (119, .dup2, 1, 120, 0), (120, .iaload, 1, 121, 0), (121, .aload_n 3, 1, 122, 0), (122, .getfield 67, 3, 125, 0), (125, .iload 4, 2, 127, 0), (127, .baload, 1, 128, 0), (128, .ifCond .eq 7, 3, 131, 135), (131, .iconst 0, 1, 132, 0), (132, .goto 4, 3, 135, 136), (135, .iconst 1, 1, 136, 0), (136, .iadd, 1, 137, 0), (137, .iastore, 1, 138, 0), (138, .iinc 4 1, 3, 141, 0), (141, .goto (-36), 3, 144, 105), (144, .aload_n 0, 1, 145, 0), (145, .getfield 27, 3, 148, 0), (148, .iload_n 2, 1, 149, 0), (149, .iconst 1, 1, 150, 0), (150, .iadd, 1, 151, 0), (151, .aload_n 0, 1, 152, 0), (152, .aload_n 3, 1, 153, 0), (153, .iload_n 2, 1, 154, 0), (154, .aload_n 1, 1, 155, 0), (155, .getfield 71, 3, 158, 0), (158, .invokevirtual 74, 3, 161, 0), (161, .iastore, 1, 162, 0), (162, .iinc 2 1, 3, 165, 0), (165, .goto (-122), 3, 168, 43), (168, .return_, 1, 169, 0)])
set_option maxRecDepth 20000 in
theorem ok_X1_fill : mi_ok M_X1_fill := ⟨by decide +kernel, by decide +kernel, by decide +kernel, by decide +kernel⟩
def M_X1_findStrata : MI := (yX1_findStrata, cX1_findStrata, 5, none, [(0, .aload_n 0, 1, 1, 0), (1, .getfield 9, 3, 4, 0), (4, .iconst 0, 1, 5, 0), (5, .invokestatic 78, 3, 8, 0), (8, .iconst 1, 1, 9, 0), (9, .istore_n 2, 1, 10, 0), (10, .iconst 0, 1, 11, 0), (11, .istore_n 3, 1, 12, 0), (12, .iload_n 2, 1, 13, 0), (13, .ifCond .eq 49, 3, 16, 62), (16, .iload_n 3, 1, 17, 0), (17, .bipush 6, 2, 19, 0), (19, .if_icmp .gt 43, 3, 22, 62), (22, .iconst 0, 1, 23, 0), (23, .istore_n 2, 1, 24, 0), (24, .iconst 0, 1, 25, 0), (25, .istore 4, 2, 27, 0), (27, .iload 4, 2, 29, 0), (29, .aload_n 1, 1, 30, 0), (30, .getfield 42, 3, 33, 0), (33, .if_icmp .ge 23, 3, 36, 56), (36, .iload_n 2, 1, 37, 0), (37, .aload_n 0, 1, 38, 0), (38, .aload_n 1, 1, 39, 0), (39, .getfield 53, 3, 42, 0), (42, .iload 4, 2, 44, 0), (44, .aaload, 1, 45, 0), (45, .invokevirtual 84, 3, 48, 0), (48, .ior, 1, 49, 0), (49, .istore_n 2, 1, 50, 0), (50, .iinc 4 1, 3, 53, 0), (53, .goto (-26), 3, 56, 27), (56, .iinc 3 1, 3, 59, 0), (59, .goto (-47), 3, 62, 12), (62, .aload_n 0, 1, 63, 0), (63, .iload_n 2, 1, 64, 0), (64, .ifCond .ne 7, 3, 67, 71), (67, .iconst 1, 1, 68, 0), (68, .goto 4, 3, 71, 72), (71, .iconst 0, 1, 72, 0), (72, .putfield 88, 3, 75, 0), (75, .return_, 1, 76, 0)])
set_option maxRecDepth 20000 in
theorem ok_X1_findStrata : mi_ok M_X1_findStrata := ⟨by decide +kernel, by decide +kernel, by decide +kernel, by decide +kernel⟩
def M_X1_raiseHead : MI := (yX1_raiseHead, cX1_raiseHead, 4, (some .boolean), [(0, .iconst 0, 1, 1, 0), (1, .istore_n 2, 1, 2, 0), (2, .iconst 1, 1, 3, 0), (3, .istore_n 3, 1, 4, 0), (4, .iload_n 3, 1, 5, 0), (5, .aload_n 1, 1, 6, 0), (6, .getfield 64, 3, 9, 0), (9, .if_icmp .gt 40, 3, 12, 49), (12, .iload_n 2, 1, 13, 0), (13, .aload_n 0, 1, 14, 0), (14, .getfield 9, 3, 17, 0), (17, .aload_n 1, 1, 18, 0), (18, .getfield 57, 3, 21, 0), (21, .iload_n 3, 1, 22, 0), (22, .iaload, 1, 23, 0), (23, .iaload, 1, 24, 0), (24, .aload_n 1, 1, 25, 0), (25, .getfield 67, 3, 28, 0), (28, .iload_n 3, 1, 29, 0), (29, .baload, 1, 30, 0), (30, .ifCond .eq 7, 3, 33, 37), (33, .iconst 1, 1, 34, 0), (34, .goto 4, 3, 37, 38), (37, .iconst 0, 1, 38, 0), (38, .iadd, 1, 39, 0), (39, .invokestatic 92, 3, 42, 0), (42, .istore_n 2, 1, 43, 0), (43, .iinc 3 1, 3, 46, 0), (46, .goto (-42), 3, 49, 4), (49, .aload_n 0, 1, 50, 0), (50, .getfield 9, 3, 53, 0), (53, .aload_n 1, 1, 54, 0), (54, .getfield 57, 3, 57, 0), (57, .iconst 0, 1, 58, 0), (58, .iaload, 1, 59, 0), (59, .iaload, 1, 60, 0), (60, .iload_n 2, 1, 61, 0), (61, .if_icmp .lt 5, 3, 64, 66), (64, .iconst 0, 1, 65, 0), (65, .ireturn, 1, 66, 0), (66, .aload_n 0, 1, 67, 0), (67, .getfield 9, 3, 70, 0), (70, .aload_n 1, 1, 71, 0), (71, .getfield 57, 3, 74, 0), (74, .iconst 0, 1, 75, 0), (75, .iaload, 1, 76, 0), (76, .iload_n 2, 1, 77, 0), (77, .iastore, 1, 78, 0), (78, .iconst 1, 1, 79, 0), (79, .ireturn, 1, 80, 0)])
set_option maxRecDepth 20000 in
theorem ok_X1_raiseHead : mi_ok M_X1_raiseHead := ⟨by decide +kernel, by decide +kernel, by decide +kernel, by decide +kernel⟩
def M_X1_fillInstances : MI := (yX1_fillInstances, cX1_fillInstances, 11, (some .int), [(0, .aload_n 0, 1, 1, 0), (1, .getfield 27, 3, 4, 0), (4, .iload_n 2, 1, 5, 0), (5, .iaload, 1, 6, 0), (6, .istore 4, 2, 8, 0), (8, .aload_n 1, 1, 9, 0), (9, .iconst 0, 1, 10, 0), (10, .invokevirtual 98, 3, 13, 0), (13, .ifCond .eq 7, 3, 16, 20), (16, .iload_n 3, 1, 17, 0), (17, .goto 4, 3, 20, 21), (20, .iconst 1, 1, 21, 0), (21, .istore 5, 2, 23, 0), (23, .aload_n 1, 1, 24, 0), (24, .iconst 1, 1, 25, 0), (25, .invokevirtual 98, 3, 28, 0), (28, .ifCond .eq 7, 3, 31, 35), (31, .iload_n 3, 1, 32, 0), (32, .goto 4, 3, 35, 36), (35, .iconst 1, 1, 36, 0), (36, .istore 6, 2, 38, 0), (38, .aload_n 1, 1, 39, 0), (39, .iconst 2, 1, 40, 0), (40, .invokevirtual 98, 3, 43, 0), (43, .ifCond .eq 7, 3, 46, 50), (46, .iload_n 3, 1, 47, 0), (47, .goto 4, 3, 50, 51), (50, .iconst 1, 1, 51, 0), (51, .istore 7, 2, 53, 0), (53, .iconst 0, 1, 54, 0), (54, .istore 8, 2, 56, 0), (56, .iload 8, 2, 58, 0), (58, .iload 5, 2, 60, 0), (60, .if_icmp .ge 79, 3, 63, 139), (63, .iconst 0, 1, 64, 0), (64, .istore 9, 2, 66, 0), (66, .iload 9, 2, 68, 0), (68, .iload 6, 2, 70, 0), (70, .if_icmp .ge 63, 3, 73, 133), (73, .iconst 0, 1, 74, 0), (74, .istore 10, 2, 76, 0), (76, .iload 10, 2, 78, 0), (78, .iload 7, 2, 80, 0), (80, .if_icmp .ge 47, 3, 83, 127), (83, .aload_n 0, 1, 84, 0), (84, .getfield 39, 3, 87, 0), (87, .bipush 6, 2, 89, 0), (89, .iload 8, 2, 91, 0), (91, .iastore, 1, 92, 0), (92, .aload_n 0, 1, 93, 0), (93, .getfield 39, 3, 96, 0), (96, .bipush 7, 2, 98, 0), (98, .iload 9, 2, 100, 0), (100, .iastore, 1, 101, 0), (101, .aload_n 0, 1, 102, 0), (102, .getfield 39, 3, 105, 0), (105, .bipush 8, 2, 107, 0), (107, .iload 10, 2, 109, 0), (109, .iastore, 1, 110, 0), (110, .aload_n 0, 1, 111, 0), (111, .aload_n 1, 1, 112, 0), (112, .iload_n 2, 1, 113, 0), (113, .iload 4, 2, 115, 0), (115, .invokevirtual 102, 3, 118, 0), (118, .iinc 4 1, 3, 121, 0), (121, .iinc 10 1, 3, 124, 0), (124, .goto (-48), 3, 127, 76), (127, .iinc 9 1, 3, 130, 0), (130, .goto (-64), 3, 133, 66), (133, .iinc 8 1, 3, 136, 0), (136, .goto (-80), 3, 139, 56), (139, .iload 4, 2, 141, 0), (141, .ireturn, 1, 142, 0)])
set_option maxRecDepth 20000 in
theorem ok_X1_fillInstances : mi_ok M_X1_fillInstances := ⟨by decide +kernel, by decide +kernel, by decide +kernel, by decide +kernel⟩
def M_X1_fillInstance : MI := (yX1_fillInstance, cX1_fillInstance, 8, none, [(0, .aload_n 0, 1, 1, 0), (1, .getfield 30, 3, 4, 0), (4, .iload_n 3, 1, 5, 0), (5, .iload_n 2, 1, 6, 0), (6, .iastore, 1, 7, 0), (7, .iload_n 3, 1, 8, 0), (8, .iconst 3, 1, 9, 0), (9, .imul, 1, 10, 0), (10, .istore 4, 2, 12, 0), (12, .iload 4, 2, 14, 0), (14, .aload_n 0, 1, 15, 0), (15, .getfield 21, 3, 18, 0), (18, .iload_n 2, 1, 19, 0), (19, .iaload, 1, 20, 0), (20, .iadd, 1, 21, 0), (21, .istore 5, 2, 23, 0), (23, .iconst 0, 1, 24, 0), (24, .istore 6, 2, 26, 0), (26, .iload 6, 2, 28, 0), (28, .aload_n 1, 1, 29, 0), (29, .getfield 64, 3, 32, 0), (32, .if_icmp .gt 98, 3, 35, 130), (35, .aload_n 1, 1, 36, 0), (36, .getfield 57, 3, 39, 0), (39, .iload 6, 2, 41, 0), (41, .iaload, 1, 42, 0), (42, .aload_n 0, 1, 43, 0), (43, .getfield 39, 3, 46, 0), (46, .aload_n 1, 1, 47, 0), (47, .getfield 106, 3, 50, 0), (50, .iload 6, 2, 52, 0), (52, .iaload, 1, 53, 0), (53, .iaload, 1, 54, 0), (54, .aload_n 0, 1, 55, 0), (55, .getfield 39, 3, 58, 0), (58, .aload_n 1, 1, 59, 0), (59, .getfield 109, 3, 62, 0), (62, .iload 6, 2, 64, 0), (64, .iaload, 1, 65, 0), (65, .iaload, 1, 66, 0), (66, .invokestatic 112, 3, 69, 0), (69, .istore 7, 2, 71, 0), (71, .iload 6, 2, 73, 0), (73, .ifCond .ne 14, 3, 76, 87), (76, .aload_n 0, 1, 77, 0), (77, .getfield 33, 3, 80, 0), (80, .iload_n 3, 1, 81, 0), (81, .iload 7, 2, 83, 0), (83, .iastore, 1, 84, 0), (84, .goto 40, 3, 87, 124), (87, .aload_n 1, 1, 88, 0), (88, .getfield 67, 3, 91, 0), (91, .iload 6, 2, 93, 0), (93, .baload, 1, 94, 0), (94, .ifCond .eq 18, 3, 97, 112), (97, .aload_n 0, 1, 98, 0), (98, .getfield 36, 3, 101, 0), (101, .iload 5, 2, 103, 0), (103, .iload 7, 2, 105, 0), (105, .iastore, 1, 106, 0), (106, .iinc 5 1, 3, 109, 0), (109, .goto 15, 3, 112, 124), (112, .aload_n 0, 1, 113, 0), (113, .getfield 36, 3, 116, 0), (116, .iload 4, 2, 118, 0), (118, .iload 7, 2, 120, 0), (120, .iastore, 1, 121, 0), (121, .iinc 4 1, 3, 124, 0), (124, .iinc 6 1, 3, 127, 0), (127, .goto (-101), 3, 130, 26), (130, .return_, 1, 131, 0)])
set_option maxRecDepth 20000 in
theorem ok_X1_fillInstance : mi_ok M_X1_fillInstance := ⟨by decide +kernel, by decide +kernel, by decide +kernel, by decide +kernel⟩
def M_X2_init : MI := (yX2_init, cX2_init, 1, none, [(0, .aload_n 0, 1, 1, 0), (1, .invokespecial 3, 3, 4, 0), (4, .aload_n 0, 1, 5, 0), (5, .sipush 1728, 3, 8, 0), (8, .newarray .int, 2, 10, 0), (10, .putfield 9, 3, 13, 0), (13, .aload_n 0, 1, 14, 0), (14, .sipush 216, 3, 17, 0), (17, .newarray .int, 2, 19, 0), (19, .putfield 15, 3, 22, 0), (22, .return_, 1, 23, 0)])
set_option maxRecDepth 20000 in
theorem ok_X2_init : mi_ok M_X2_init := ⟨by decide +kernel, by decide +kernel, by decide +kernel, by decide +kernel⟩
def M_X2_collect : MI := (yX2_collect, cX2_collect, 4, none, [(0, .aload_n 0, 1, 1, 0), (1, .iconst 0, 1, 2, 0), (2, .putfield 18, 3, 5, 0), (5, .aload_n 0, 1, 6, 0), (6, .getfield 15, 3, 9, 0), (9, .iconst 0, 1, 10, 0), (10, .invokestatic 22, 3, 13, 0), (13, .iconst 0, 1, 14, 0), (14, .istore_n 3, 1, 15, 0), (15, .iload_n 3, 1, 16, 0), (16, .aload_n 1, 1, 17, 0), (17, .getfield 28, 3, 20, 0), (20, .aload_n 1, 1, 21, 0), (21, .getfield 33, 3, 24, 0), (24, .iaload, 1, 25, 0), (25, .if_icmp .ge 59, 3, 28, 84), (28, .aload_n 2, 1, 29, 0), (29, .aload_n 1, 1, 30, 0), (30, .iload_n 3, 1, 31, 0), (31, .aload_n 2, 1, 32, 0), (32, .getfield 36, 3, 35, 0), (35, .iconst 1, 1, 36, 0), (36, .iadd, 1, 37, 0), (37, .invokevirtual 41, 3, 40, 0), (40, .ifCond .eq 38, 3, 43, 78), (43, .aload_n 0, 1, 44, 0), (44, .getfield 9, 3, 47, 0), (47, .aload_n 0, 1, 48, 0), (48, .getfield 18, 3, 51, 0), (51, .iload_n 3, 1, 52, 0), (52, .iastore, 1, 53, 0), (53, .aload_n 0, 1, 54, 0), (54, .dup, 1, 55, 0), (55, .getfield 18, 3, 58, 0), (58, .iconst 1, 1, 59, 0), (59, .iadd, 1, 60, 0), (60, .putfield 18, 3, 63, 0), (63, .aload_n 0, 1, 64, 0), (64, .getfield 15, 3, 67, 0), (67, .aload_n 1, 1, 68, 0), (68, .getfield 45, 3, 71, 0), (71, .iload_n 3, 1, 72, 0), (72, .iaload, 1, 73, 0), (73, .dup2, 1, 74, 0), (74, .iaload, 1, 75, 0), (75, .iconst 1, 1, 76, 0), (76, .iadd, 1, 77, 0), (77, .iastore, 1, 78, 0), (78, .iinc 3 1, 3, 81, 0), (81, .goto (-66), 3, 84, 15), (84, .return_, 1, 85, 0)])
set_option maxRecDepth 20000 in
theorem ok_X2_collect : mi_ok M_X2_collect := ⟨by decide +kernel, by decide +kernel, by decide +kernel, by decide +kernel⟩
def M_X3_init : MI := (yX3_init, cX3_init, 1, none, [(0, .aload_n 0, 1, 1, 0), (1, .invokespecial 3, 3, 4, 0), (4, .aload_n 0, 1, 5, 0), (5, .sipush 216, 3, 8, 0), (8, .newarray .float, 2, 10, 0), (10, .putfield 9, 3, 13, 0), (13, .return_, 1, 14, 0)])
set_option maxRecDepth 20000 in
theorem ok_X3_init : mi_ok M_X3_init := ⟨by decide +kernel, by decide +kernel, by decide +kernel, by decide +kernel⟩
def M_X3_compute : MI := (yX3_compute, cX3_compute, 8, none, [(0, .iconst 0, 1, 1, 0), (1, .istore 4, 2, 3, 0), (3, .iload 4, 2, 5, 0), (5, .sipush 216, 3, 8, 0), (8, .if_icmp .ge 17, 3, 11, 25), (11, .aload_n 0, 1, 12, 0), (12, .getfield 9, 3, 15, 0), (15, .iload 4, 2, 17, 0), (17, .fconst 0, 1, 18, 0), (18, .fastore, 1, 19, 0), (19, .iinc 4 1, 3, 22, 0), (22, .goto (-19), 3, 25, 3), (25, .iconst 0, 1, 26, 0), (26, .istore 4, 2, 28, 0), (28, .iload 4, 2, 30, 0), (30, .aload_n 1, 1, 31, 0), (31, .getfield 15, 3, 34, 0), (34, .if_icmp .ge 32, 3, 37, 66), (37, .aload_n 0, 1, 38, 0), (38, .aload_n 1, 1, 39, 0), (39, .getfield 21, 3, 42, 0), (42, .iload 4, 2, 44, 0), (44, .iaload, 1, 45, 0), (45, .aload_n 1, 1, 46, 0), (46, .getfield 25, 3, 49, 0), (49, .iload 4, 2, 51, 0), (51, .iaload, 1, 52, 0), (52, .i2f, 1, 53, 0), (53, .ldc 28, 2, 55, 0), (55, .fdiv, 1, 56, 0), (56, .invokevirtual 29, 3, 59, 0), (59, .pop, 1, 60, 0), (60, .iinc 4 1, 3, 63, 0), (63, .goto (-35), 3, 66, 28), (66, .iconst 1, 1, 67, 0), (67, .istore 4, 2, 69, 0), (69, .iconst 0, 1, 70, 0), (70, .istore 5, 2, 72, 0), (72, .iload 4, 2, 74, 0), (74, .ifCond .eq 70, 3, 77, 144), (77, .iload 5, 2, 79, 0), (79, .sipush 218, 3, 82, 0), (82, .if_icmp .ge 62, 3, 85, 144), (85, .iconst 0, 1, 86, 0), (86, .istore 4, 2, 88, 0), (88, .iconst 0, 1, 89, 0), (89, .istore 6, 2, 91, 0), (91, .iload 6, 2, 93, 0), (93, .aload_n 3, 1, 94, 0), (94, .getfield 33, 3, 97, 0), (97, .if_icmp .ge 41, 3, 100, 138), (100, .aload_n 3, 1, 101, 0), (101, .getfield 38, 3, 104, 0), (104, .iload 6, 2, 106, 0), (106, .iaload, 1, 107, 0), (107, .istore 7, 2, 109, 0), (109, .iload 4, 2, 111, 0), (111, .aload_n 0, 1, 112, 0), (112, .aload_n 2, 1, 113, 0), (113, .getfield 41, 3, 116, 0), (116, .iload 7, 2, 118, 0), (118, .iaload, 1, 119, 0), (119, .aload_n 0, 1, 120, 0), (120, .aload_n 2, 1, 121, 0), (121, .iload 7, 2, 123, 0), (123, .invokevirtual 46, 3, 126, 0), (126, .invokevirtual 29, 3, 129, 0), (129, .ior, 1, 130, 0), (130, .istore 4, 2, 132, 0), (132, .iinc 6 1, 3, 135, 0), (135, .goto (-44), 3, 138, 91), (138, .iinc 5 1, 3, 141, 0), (141, .goto (-69), 3, 144, 72), (144, .return_, 1, 145, 0)])
set_option maxRecDepth 20000 in
theorem ok_X3_compute : mi_ok M_X3_compute := ⟨by decide +kernel, by decide +kernel, by decide +kernel, by decide +kernel⟩
def M_X3_raise : MI := (yX3_raise, cX3_raise, 3, (some .boolean), [(0, .fload_n 2, 1, 1, 0), (1, .aload_n 0, 1, 2, 0), (2, .getfield 9, 3, 5, 0), (5, .iload_n 1, 1, 6, 0), (6, .faload, 1, 7, 0), (7, .fcmp .g, 1, 8, 0), (8, .ifCond .gt 5, 3, 11, 13), (11, .iconst 0, 1, 12, 0), (12, .ireturn, 1, 13, 0), (13, .aload_n 0, 1, 14, 0), (14, .getfield 9, 3, 17, 0), (17, .iload_n 1, 1, 18, 0), (18, .fload_n 2, 1, 19, 0), (19, .fastore, 1, 20, 0), (20, .iconst 1, 1, 21, 0), (21, .ireturn, 1, 22, 0)])
set_option maxRecDepth 20000 in
theorem ok_X3_raise : mi_ok M_X3_raise := ⟨by decide +kernel, by decide +kernel, by decide +kernel, by decide +kernel⟩
def M_X3_likelihoodBy : MI := (yX3_likelihoodBy, cX3_likelihoodBy, 7, (some .float), [(0, .iload_n 2, 1, 1, 0), (1, .iconst 3, 1, 2, 0), (2, .imul, 1, 3, 0), (3, .istore_n 3, 1, 4, 0), (4, .aload_n 1, 1, 5, 0), (5, .getfield 50, 3, 8, 0), (8, .aload_n 1, 1, 9, 0), (9, .getfield 53, 3, 12, 0), (12, .iload_n 2, 1, 13, 0), (13, .iaload, 1, 14, 0), (14, .iaload, 1, 15, 0), (15, .istore 4, 2, 17, 0), (17, .fconst 1, 1, 18, 0), (18, .fstore 5, 2, 20, 0), (20, .iload_n 3, 1, 21, 0), (21, .istore 6, 2, 23, 0), (23, .iload 6, 2, 25, 0), (25, .iload_n 3, 1, 26, 0), (26, .iload 4, 2, 28, 0), (28, .iadd, 1, 29, 0), (29, .if_icmp .ge 26, 3, 32, 55), (32, .fload 5, 2, 34, 0), (34, .aload_n 0, 1, 35, 0), (35, .getfield 9, 3, 38, 0), (38, .aload_n 1, 1, 39, 0), (39, .getfield 56, 3, 42, 0), (42, .iload 6, 2, 44, 0), (44, .iaload, 1, 45, 0), (45, .faload, 1, 46, 0), (46, .fmul, 1, 47, 0), (47, .fstore 5, 2, 49, 0), (49, .iinc 6 1, 3, 52, 0), (52, .goto (-29), 3, 55, 23), (55, .fload 5, 2, 57, 0), (57, .freturn, 1, 58, 0)])
set_option maxRecDepth 20000 in
theorem ok_X3_likelihoodBy : mi_ok M_X3_likelihoodBy := ⟨by decide +kernel, by decide +kernel, by decide +kernel, by decide +kernel⟩
def M_X4_init : MI := (yX4_init, cX4_init, 1, none, [(0, .aload_n 0, 1, 1, 0), (1, .invokespecial 3, 3, 4, 0), (4, .aload_n 0, 1, 5, 0), (5, .sipush 216, 3, 8, 0), (8, .newarray .int, 2, 10, 0), (10, .putfield 9, 3, 13, 0), (13, .return_, 1, 14, 0)])
set_option maxRecDepth 20000 in
theorem ok_X4_init : mi_ok M_X4_init := ⟨by decide +kernel, by decide +kernel, by decide +kernel, by decide +kernel⟩
def M_X4_build : MI := (yX4_build, cX4_build, 5, none, [(0, .aload_n 0, 1, 1, 0), (1, .getfield 9, 3, 4, 0), (4, .iconst (-1), 1, 5, 0), (5, .invokestatic 15, 3, 8, 0), (8, .aload_n 0, 1, 9, 0), (9, .iconst 0, 1, 10, 0), (10, .putfield 21, 3, 13, 0), (13, .iconst 0, 1, 14, 0), (14, .istore 4, 2, 16, 0), (16, .iload 4, 2, 18, 0), (18, .aload_n 1, 1, 19, 0), (19, .getfield 25, 3, 22, 0), (22, .if_icmp .ge 31, 3, 25, 53), (25, .iload_n 3, 1, 26, 0), (26, .iload 4, 2, 28, 0), (28, .ishr, 1, 29, 0), (29, .iconst 1, 1, 30, 0), (30, .iand, 1, 31, 0), (31, .ifCond .ne 16, 3, 34, 47), (34, .aload_n 0, 1, 35, 0), (35, .getfield 9, 3, 38, 0), (38, .aload_n 1, 1, 39, 0), (39, .getfield 30, 3, 42, 0), (42, .iload 4, 2, 44, 0), (44, .iaload, 1, 45, 0), (45, .iconst 0, 1, 46, 0), (46, .iastore, 1, 47, 0), (47, .iinc 4 1, 3, 50, 0), (50, .goto (-34), 3, 53, 16), (53, .iconst 0, 1, 54, 0), (54, .istore 4, 2, 56, 0), (56, .iload 4, 2, 58, 0), (58, .bipush 6, 2, 60, 0), (60, .if_icmp .ge 16, 3, 63, 76), (63, .aload_n 0, 1, 64, 0), (64, .aload_n 2, 1, 65, 0), (65, .iload 4, 2, 67, 0), (67, .invokevirtual 33, 3, 70, 0), (70, .iinc 4 1, 3, 73, 0), (73, .goto (-17), 3, 76, 56), (76, .aload_n 0, 1, 77, 0), (77, .iconst 0, 1, 78, 0), (78, .putfield 37, 3, 81, 0), (81, .iconst 0, 1, 82, 0), (82, .istore 4, 2, 84, 0), (84, .iload 4, 2, 86, 0), (86, .bipush 6, 2, 88, 0), (88, .if_icmp .ge 24, 3, 91, 112), (91, .aload_n 0, 1, 92, 0), (92, .dup, 1, 93, 0), (93, .getfield 37, 3, 96, 0), (96, .aload_n 0, 1, 97, 0), (97, .iload 4, 2, 99, 0), (99, .invokevirtual 40, 3, 102, 0), (102, .iadd, 1, 103, 0), (103, .putfield 37, 3, 106, 0), (106, .iinc 4 1, 3, 109, 0), (109, .goto (-25), 3, 112, 84), (112, .return_, 1, 113, 0)])
set_option maxRecDepth 20000 in
theorem ok_X4_build : mi_ok M_X4_build := ⟨by decide +kernel, by decide +kernel, by decide +kernel, by decide +kernel⟩
def M_X4_atomsOf : MI := (yX4_atomsOf, cX4_atomsOf, 5, (some .int), [(0, .iconst 0, 1, 1, 0), (1, .istore_n 2, 1, 2, 0), (2, .iload_n 1, 1, 3, 0), (3, .bipush 36, 2, 5, 0), (5, .imul, 1, 6, 0), (6, .istore_n 3, 1, 7, 0), (7, .iload_n 3, 1, 8, 0), (8, .istore 4, 2, 10, 0), (10, .iload 4, 2, 12, 0), (12, .iload_n 3, 1, 13, 0), (13, .bipush 36, 2, 15, 0), (15, .iadd, 1, 16, 0), (16, .if_icmp .ge 23, 3, 19, 39), (19, .aload_n 0, 1, 20, 0), (20, .getfield 9, 3, 23, 0), (23, .iload 4, 2, 25, 0), (25, .iaload, 1, 26, 0), (26, .iconst (-1), 1, 27, 0), (27, .if_icmp .eq 6, 3, 30, 33), (30, .iinc 2 1, 3, 33, 0), (33, .iinc 4 1, 3, 36, 0), (36, .goto (-26), 3, 39, 10), (39, .iload_n 2, 1, 40, 0), (40, .ireturn, 1, 41, 0)])
set_option maxRecDepth 20000 in
theorem ok_X4_atomsOf : mi_ok M_X4_atomsOf := ⟨by decide +kernel, by decide +kernel, by decide +kernel, by decide +kernel⟩
def M_X4_buildStratum : MI := (yX4_buildStratum, cX4_buildStratum, 6, none, [(0, .iconst 1, 1, 1, 0), (1, .istore_n 3, 1, 2, 0), (2, .iconst 0, 1, 3, 0), (3, .istore 4, 2, 5, 0), (5, .iload_n 3, 1, 6, 0), (6, .ifCond .eq 78, 3, 9, 84), (9, .iload 4, 2, 11, 0), (11, .sipush 218, 3, 14, 0), (14, .if_icmp .ge 70, 3, 17, 84), (17, .iconst 0, 1, 18, 0), (18, .istore_n 3, 1, 19, 0), (19, .iconst 0, 1, 20, 0), (20, .istore 5, 2, 22, 0), (22, .iload 5, 2, 24, 0), (24, .aload_n 1, 1, 25, 0), (25, .getfield 44, 3, 28, 0), (28, .if_icmp .ge 36, 3, 31, 64), (31, .aload_n 1, 1, 32, 0), (32, .getfield 49, 3, 35, 0), (35, .iload 5, 2, 37, 0), (37, .iaload, 1, 38, 0), (38, .iload_n 2, 1, 39, 0), (39, .if_icmp .ne 19, 3, 42, 58), (42, .iload_n 3, 1, 43, 0), (43, .aload_n 0, 1, 44, 0), (44, .aload_n 1, 1, 45, 0), (45, .iload 5, 2, 47, 0), (47, .aload_n 0, 1, 48, 0), (48, .getfield 21, 3, 51, 0), (51, .iconst 1, 1, 52, 0), (52, .iadd, 1, 53, 0), (53, .invokevirtual 52, 3, 56, 0), (56, .ior, 1, 57, 0), (57, .istore_n 3, 1, 58, 0), (58, .iinc 5 1, 3, 61, 0), (61, .goto (-39), 3, 64, 22), (64, .iload_n 3, 1, 65, 0), (65, .ifCond .eq 13, 3, 68, 78), (68, .aload_n 0, 1, 69, 0), (69, .dup, 1, 70, 0), (70, .getfield 21, 3, 73, 0), (73, .iconst 1, 1, 74, 0), (74, .iadd, 1, 75, 0), (75, .putfield 21, 3, 78, 0), (78, .iinc 4 1, 3, 81, 0), (81, .goto (-76), 3, 84, 5), (84, .return_, 1, 85, 0)])
set_option maxRecDepth 20000 in
theorem ok_X4_buildStratum : mi_ok M_X4_buildStratum := ⟨by decide +kernel, by decide +kernel, by decide +kernel, by decide +kernel⟩
def M_X4_takeHeads : MI := (yX4_takeHeads, cX4_takeHeads, 7, (some .boolean), [(0, .iconst 0, 1, 1, 0), (1, .istore 4, 2, 3, 0), (3, .aload_n 1, 1, 4, 0), (4, .getfield 56, 3, 7, 0), (7, .iload_n 2, 1, 8, 0), (8, .iaload, 1, 9, 0), (9, .istore 5, 2, 11, 0), (11, .iload 5, 2, 13, 0), (13, .aload_n 1, 1, 14, 0), (14, .getfield 56, 3, 17, 0), (17, .iload_n 2, 1, 18, 0), (18, .iconst 1, 1, 19, 0), (19, .iadd, 1, 20, 0), (20, .iaload, 1, 21, 0), (21, .if_icmp .ge 51, 3, 24, 72), (24, .aload_n 1, 1, 25, 0), (25, .getfield 59, 3, 28, 0), (28, .iload 5, 2, 30, 0), (30, .iaload, 1, 31, 0), (31, .istore 6, 2, 33, 0), (33, .aload_n 0, 1, 34, 0), (34, .getfield 9, 3, 37, 0), (37, .iload 6, 2, 39, 0), (39, .iaload, 1, 40, 0), (40, .iconst (-1), 1, 41, 0), (41, .if_icmp .ne 25, 3, 44, 66), (44, .aload_n 0, 1, 45, 0), (45, .aload_n 1, 1, 46, 0), (46, .iload 5, 2, 48, 0), (48, .iload_n 3, 1, 49, 0), (49, .invokevirtual 62, 3, 52, 0), (52, .ifCond .eq 14, 3, 55, 66), (55, .aload_n 0, 1, 56, 0), (56, .getfield 9, 3, 59, 0), (59, .iload 6, 2, 61, 0), (61, .iload_n 3, 1, 62, 0), (62, .iastore, 1, 63, 0), (63, .iconst 1, 1, 64, 0), (64, .istore 4, 2, 66, 0), (66, .iinc 5 1, 3, 69, 0), (69, .goto (-58), 3, 72, 11), (72, .iload 4, 2, 74, 0), (74, .ireturn, 1, 75, 0)])
set_option maxRecDepth 20000 in
theorem ok_X4_takeHeads : mi_ok M_X4_takeHeads := ⟨by decide +kernel, by decide +kernel, by decide +kernel, by decide +kernel⟩
def M_X4_holdsBefore : MI := (yX4_holdsBefore, cX4_holdsBefore, 9, (some .boolean), [(0, .aload_n 1, 1, 1, 0), (1, .getfield 65, 3, 4, 0), (4, .iload_n 2, 1, 5, 0), (5, .iaload, 1, 6, 0), (6, .istore 4, 2, 8, 0), (8, .iload_n 2, 1, 9, 0), (9, .iconst 3, 1, 10, 0), (10, .imul, 1, 11, 0), (11, .istore 5, 2, 13, 0), (13, .iload 5, 2, 15, 0), (15, .aload_n 1, 1, 16, 0), (16, .getfield 68, 3, 19, 0), (19, .iload 4, 2, 21, 0), (21, .iaload, 1, 22, 0), (22, .iadd, 1, 23, 0), (23, .istore 6, 2, 25, 0), (25, .iload 5, 2, 27, 0), (27, .istore 7, 2, 29, 0), (29, .iload 7, 2, 31, 0), (31, .iload 6, 2, 33, 0), (33, .if_icmp .ge 37, 3, 36, 70), (36, .aload_n 0, 1, 37, 0), (37, .getfield 9, 3, 40, 0), (40, .aload_n 1, 1, 41, 0), (41, .getfield 71, 3, 44, 0), (44, .iload 7, 2, 46, 0), (46, .iaload, 1, 47, 0), (47, .iaload, 1, 48, 0), (48, .istore 8, 2, 50, 0), (50, .iload 8, 2, 52, 0), (52, .iconst (-1), 1, 53, 0), (53, .if_icmp .eq 9, 3, 56, 62), (56, .iload 8, 2, 58, 0), (58, .iload_n 3, 1, 59, 0), (59, .if_icmp .lt 5, 3, 62, 64), (62, .iconst 0, 1, 63, 0), (63, .ireturn, 1, 64, 0), (64, .iinc 7 1, 3, 67, 0), (67, .goto (-38), 3, 70, 29), (70, .iload 6, 2, 72, 0), (72, .istore 7, 2, 74, 0), (74, .iload 7, 2, 76, 0), (76, .iload 5, 2, 78, 0), (78, .aload_n 1, 1, 79, 0), (79, .getfield 74, 3, 82, 0), (82, .iload 4, 2, 84, 0), (84, .iaload, 1, 85, 0), (85, .iadd, 1, 86, 0), (86, .if_icmp .ge 27, 3, 89, 113), (89, .aload_n 0, 1, 90, 0), (90, .getfield 9, 3, 93, 0), (93, .aload_n 1, 1, 94, 0), (94, .getfield 71, 3, 97, 0), (97, .iload 7, 2, 99, 0), (99, .iaload, 1, 100, 0), (100, .iaload, 1, 101, 0), (101, .iconst (-1), 1, 102, 0), (102, .if_icmp .eq 5, 3, 105, 107), (105, .iconst 0, 1, 106, 0), (106, .ireturn, 1, 107, 0), (107, .iinc 7 1, 3, 110, 0), (110, .goto (-36), 3, 113, 74), (113, .iconst 1, 1, 114, 0), (114, .ireturn, 1, 115, 0)])
set_option maxRecDepth 20000 in
theorem ok_X4_holdsBefore : mi_ok M_X4_holdsBefore := ⟨by decide +kernel, by decide +kernel, by decide +kernel, by decide +kernel⟩
def M_X5_init : MI := (yX5_init, cX5_init, 2, none, [(0, .aload_n 0, 1, 1, 0), (1, .invokespecial 3, 3, 4, 0), (4, .aload_n 0, 1, 5, 0), (5, .iconst 4, 1, 6, 0), (6, .putfield 9, 3, 9, 0), (9, .aload_n 0, 1, 10, 0), (10, .bipush 6, 2, 12, 0), (12, .newarray .int, 2, 14, 0), (14, .putfield 15, 3, 17, 0), (17, .aload_n 0, 1, 18, 0), (18, .bipush 12, 2, 20, 0), (20, .newarray .int, 2, 22, 0), (22, .putfield 19, 3, 25, 0), (25, .aload_n 0, 1, 26, 0), (26, .bipush 12, 2, 28, 0), (28, .newarray .int, 2, 30, 0), (30, .putfield 22, 3, 33, 0), (33, .aload_n 0, 1, 34, 0), (34, .bipush 12, 2, 36, 0), (36, .newarray .int, 2, 38, 0), (38, .putfield 25, 3, 41, 0), (41, .aload_n 0, 1, 42, 0), (42, .bipush 8, 2, 44, 0), (44, .anewarray 28, 3, 47, 0), (47, .putfield 30, 3, 50, 0), (50, .aload_n 0, 1, 51, 0), (51, .getfield 15, 3, 54, 0), (54, .iconst 2, 1, 55, 0), (55, .invokestatic 34, 3, 58, 0), (58, .iconst 0, 1, 59, 0), (59, .istore_n 1, 1, 60, 0), (60, .iload_n 1, 1, 61, 0), (61, .bipush 8, 2, 63, 0), (63, .if_icmp .ge 22, 3, 66, 85), (66, .aload_n 0, 1, 67, 0), (67, .getfield 30, 3, 70, 0), (70, .iload_n 1, 1, 71, 0), (71, .new 28, 3, 74, 0), (74, .dup, 1, 75, 0), (75, .invokespecial 40, 3, 78, 0), (78, .aastore, 1, 79, 0), (79, .iinc 1 1, 3, 82, 0), (82, .goto (-22), 3, 85, 60), (85, .return_, 1, 86, 0)])
set_option maxRecDepth 20000 in
theorem ok_X5_init : mi_ok M_X5_init := ⟨by decide +kernel, by decide +kernel, by decide +kernel, by decide +kernel⟩
def M_X5_clear : MI := (yX5_clear, cX5_clear, 2, none, [(0, .aload_n 0, 1, 1, 0), (1, .iload_n 1, 1, 2, 0), (2, .putfield 9, 3, 5, 0), (5, .aload_n 0, 1, 6, 0), (6, .getfield 15, 3, 9, 0), (9, .iconst 2, 1, 10, 0), (10, .invokestatic 34, 3, 13, 0), (13, .aload_n 0, 1, 14, 0), (14, .iconst 0, 1, 15, 0), (15, .putfield 41, 3, 18, 0), (18, .aload_n 0, 1, 19, 0), (19, .iconst 0, 1, 20, 0), (20, .putfield 44, 3, 23, 0), (23, .return_, 1, 24, 0)])
set_option maxRecDepth 20000 in
theorem ok_X5_clear : mi_ok M_X5_clear := ⟨by decide +kernel, by decide +kernel, by decide +kernel, by decide +kernel⟩
def M_X5_become : MI := (yX5_become, cX5_become, 3, none, [(0, .aload_n 0, 1, 1, 0), (1, .aload_n 1, 1, 2, 0), (2, .getfield 9, 3, 5, 0), (5, .putfield 9, 3, 8, 0), (8, .aload_n 1, 1, 9, 0), (9, .getfield 15, 3, 12, 0), (12, .iconst 0, 1, 13, 0), (13, .aload_n 0, 1, 14, 0), (14, .getfield 15, 3, 17, 0), (17, .iconst 0, 1, 18, 0), (18, .bipush 6, 2, 20, 0), (20, .invokestatic 47, 3, 23, 0), (23, .aload_n 0, 1, 24, 0), (24, .aload_n 1, 1, 25, 0), (25, .getfield 41, 3, 28, 0), (28, .putfield 41, 3, 31, 0), (31, .aload_n 1, 1, 32, 0), (32, .getfield 19, 3, 35, 0), (35, .iconst 0, 1, 36, 0), (36, .aload_n 0, 1, 37, 0), (37, .getfield 19, 3, 40, 0), (40, .iconst 0, 1, 41, 0), (41, .bipush 12, 2, 43, 0), (43, .invokestatic 47, 3, 46, 0), (46, .aload_n 1, 1, 47, 0), (47, .getfield 22, 3, 50, 0), (50, .iconst 0, 1, 51, 0), (51, .aload_n 0, 1, 52, 0), (52, .getfield 22, 3, 55, 0), (55, .iconst 0, 1, 56, 0), (56, .bipush 12, 2, 58, 0), (58, .invokestatic 47, 3, 61, 0), (61, .aload_n 1, 1, 62, 0), (62, .getfield 25, 3, 65, 0), (65, .iconst 0, 1, 66, 0), (66, .aload_n 0, 1, 67, 0), (67, .getfield 25, 3, 70, 0), (70, .iconst 0, 1, 71, 0), (71, .bipush 12, 2, 73, 0), (73, .invokestatic 47, 3, 76, 0), (76, .aload_n 0, 1, 77, 0), (77, .aload_n 1, 1, 78, 0), (78, .getfield 44, 3, 81, 0), (81, .putfield 44, 3, 84, 0), (84, .iconst 0, 1, 85, 0), (85, .istore_n 2, 1, 86, 0), (86, .iload_n 2, 1, 87, 0), (87, .bipush 8, 2, 89, 0), (89, .if_icmp .ge 24, 3, 92, 113), (92, .aload_n 0, 1, 93, 0), (93, .getfield 30, 3, 96, 0), (96, .iload_n 2, 1, 97, 0), (97, .aaload, 1, 98, 0), (98, .aload_n 1, 1, 99, 0), (99, .getfield 30, 3, 102, 0), (102, .iload_n 2, 1, 103, 0), (103, .aaload, 1, 104, 0), (104, .invokevirtual 53, 3, 107, 0), (107, .iinc 2 1, 3, 110, 0), (110, .goto (-24), 3, 113, 86), (113, .return_, 1, 114, 0)])
set_option maxRecDepth 20000 in
theorem ok_X5_become : mi_ok M_X5_become := ⟨by decide +kernel, by decide +kernel, by decide +kernel, by decide +kernel⟩
def M_X5_hasAtom : MI := (yX5_hasAtom, cX5_hasAtom, 4, (some .boolean), [(0, .iload_n 1, 1, 1, 0), (1, .invokestatic 57, 3, 4, 0), (4, .ifCond .eq 19, 3, 7, 23), (7, .iload_n 2, 1, 8, 0), (8, .ifCond .lt 15, 3, 11, 23), (11, .iload_n 2, 1, 12, 0), (12, .aload_n 0, 1, 13, 0), (13, .getfield 9, 3, 16, 0), (16, .if_icmp .ge 7, 3, 19, 23), (19, .iload_n 3, 1, 20, 0), (20, .ifCond .ge 5, 3, 23, 25), (23, .iconst 0, 1, 24, 0), (24, .ireturn, 1, 25, 0), (25, .aload_n 0, 1, 26, 0), (26, .getfield 15, 3, 29, 0), (29, .iload_n 1, 1, 30, 0), (30, .iaload, 1, 31, 0), (31, .iconst 1, 1, 32, 0), (32, .if_icmp .ne 15, 3, 35, 47), (35, .iload_n 3, 1, 36, 0), (36, .ifCond .ne 7, 3, 39, 43), (39, .iconst 1, 1, 40, 0), (40, .goto 20, 3, 43, 60), (43, .iconst 0, 1, 44, 0), (44, .goto 16, 3, 47, 60), (47, .iload_n 3, 1, 48, 0), (48, .aload_n 0, 1, 49, 0), (49, .getfield 9, 3, 52, 0), (52, .if_icmp .ge 7, 3, 55, 59), (55, .iconst 1, 1, 56, 0), (56, .goto 4, 3, 59, 60), (59, .iconst 0, 1, 60, 0), (60, .ireturn, 1, 61, 0)])
set_option maxRecDepth 20000 in
theorem ok_X5_hasAtom : mi_ok M_X5_hasAtom := ⟨by decide +kernel, by decide +kernel, by decide +kernel, by decide +kernel⟩
def M_X5_uses : MI := (yX5_uses, cX5_uses, 3, (some .boolean), [(0, .iconst 0, 1, 1, 0), (1, .istore_n 2, 1, 2, 0), (2, .iload_n 2, 1, 3, 0), (3, .aload_n 0, 1, 4, 0), (4, .getfield 41, 3, 7, 0), (7, .if_icmp .ge 24, 3, 10, 31), (10, .aload_n 0, 1, 11, 0), (11, .getfield 19, 3, 14, 0), (14, .iload_n 2, 1, 15, 0), (15, .iaload, 1, 16, 0), (16, .bipush 36, 2, 18, 0), (18, .idiv, 1, 19, 0), (19, .iload_n 1, 1, 20, 0), (20, .if_icmp .ne 5, 3, 23, 25), (23, .iconst 1, 1, 24, 0), (24, .ireturn, 1, 25, 0), (25, .iinc 2 1, 3, 28, 0), (28, .goto (-26), 3, 31, 2), (31, .iconst 0, 1, 32, 0), (32, .istore_n 2, 1, 33, 0), (33, .iload_n 2, 1, 34, 0), (34, .aload_n 0, 1, 35, 0), (35, .getfield 44, 3, 38, 0), (38, .if_icmp .ge 24, 3, 41, 62), (41, .aload_n 0, 1, 42, 0), (42, .getfield 30, 3, 45, 0), (45, .iload_n 2, 1, 46, 0), (46, .aaload, 1, 47, 0), (47, .iload_n 1, 1, 48, 0), (48, .invokevirtual 61, 3, 51, 0), (51, .ifCond .eq 5, 3, 54, 56), (54, .iconst 1, 1, 55, 0), (55, .ireturn, 1, 56, 0), (56, .iinc 2 1, 3, 59, 0), (59, .goto (-26), 3, 62, 33), (62, .iconst 0, 1, 63, 0), (63, .ireturn, 1, 64, 0)])
set_option maxRecDepth 20000 in
theorem ok_X5_uses : mi_ok M_X5_uses := ⟨by decide +kernel, by decide +kernel, by decide +kernel, by decide +kernel⟩
def M_X5_enterFact : MI := (yX5_enterFact, cX5_enterFact, 5, (some .int), [(0, .aload_n 0, 1, 1, 0), (1, .getfield 41, 3, 4, 0), (4, .istore 4, 2, 6, 0), (6, .aload_n 0, 1, 7, 0), (7, .getfield 19, 3, 10, 0), (10, .iload 4, 2, 12, 0), (12, .iload_n 1, 1, 13, 0), (13, .iastore, 1, 14, 0), (14, .aload_n 0, 1, 15, 0), (15, .getfield 22, 3, 18, 0), (18, .iload 4, 2, 20, 0), (20, .iload_n 2, 1, 21, 0), (21, .iastore, 1, 22, 0), (22, .aload_n 0, 1, 23, 0), (23, .getfield 25, 3, 26, 0), (26, .iload 4, 2, 28, 0), (28, .iload_n 3, 1, 29, 0), (29, .iastore, 1, 30, 0), (30, .aload_n 0, 1, 31, 0), (31, .dup, 1, 32, 0), (32, .getfield 41, 3, 35, 0), (35, .iconst 1, 1, 36, 0), (36, .iadd, 1, 37, 0), (37, .putfield 41, 3, 40, 0), (40, .iload 4, 2, 42, 0), (42, .ireturn, 1, 43, 0)])
set_option maxRecDepth 20000 in
theorem ok_X5_enterFact : mi_ok M_X5_enterFact := ⟨by decide +kernel, by decide +kernel, by decide +kernel, by decide +kernel⟩
def M_X5_dropFact : MI := (yX5_dropFact, cX5_dropFact, 3, none, [(0, .iload_n 1, 1, 1, 0), (1, .istore_n 2, 1, 2, 0), (2, .iload_n 2, 1, 3, 0), (3, .iconst 1, 1, 4, 0), (4, .iadd, 1, 5, 0), (5, .aload_n 0, 1, 6, 0), (6, .getfield 41, 3, 9, 0), (9, .if_icmp .ge 51, 3, 12, 60), (12, .aload_n 0, 1, 13, 0), (13, .getfield 19, 3, 16, 0), (16, .iload_n 2, 1, 17, 0), (17, .aload_n 0, 1, 18, 0), (18, .getfield 19, 3, 21, 0), (21, .iload_n 2, 1, 22, 0), (22, .iconst 1, 1, 23, 0), (23, .iadd, 1, 24, 0), (24, .iaload, 1, 25, 0), (25, .iastore, 1, 26, 0), (26, .aload_n 0, 1, 27, 0), (27, .getfield 22, 3, 30, 0), (30, .iload_n 2, 1, 31, 0), (31, .aload_n 0, 1, 32, 0), (32, .getfield 22, 3, 35, 0), (35, .iload_n 2, 1, 36, 0), (36, .iconst 1, 1, 37, 0), (37, .iadd, 1, 38, 0), (38, .iaload, 1, 39, 0), (39, .iastore, 1, 40, 0), (40, .aload_n 0, 1, 41, 0), (41, .getfield 25, 3, 44, 0), (44, .iload_n 2, 1, 45, 0), (45, .aload_n 0, 1, 46, 0), (46, .getfield 25, 3, 49, 0), (49, .iload_n 2, 1, 50, 0), (50, .iconst 1, 1, 51, 0), (51, .iadd, 1, 52, 0), (52, .iaload, 1, 53, 0), (53, .iastore, 1, 54, 0), (54, .iinc 2 1, 3, 57, 0), (57, .goto (-55), 3, 60, 2), (60, .aload_n 0, 1, 61, 0), (61, .dup, 1, 62, 0), (62, .getfield 41, 3, 65, 0), (65, .iconst 1, 1, 66, 0), (66, .isub, 1, 67, 0), (67, .putfield 41, 3, 70, 0), (70, .return_, 1, 71, 0)])
set_option maxRecDepth 20000 in
theorem ok_X5_dropFact : mi_ok M_X5_dropFact := ⟨by decide +kernel, by decide +kernel, by decide +kernel, by decide +kernel⟩
def M_X5_enterRule : MI := (yX5_enterRule, cX5_enterRule, 4, (some .int), [(0, .aload_n 0, 1, 1, 0), (1, .getfield 44, 3, 4, 0), (4, .istore_n 3, 1, 5, 0), (5, .aload_n 0, 1, 6, 0), (6, .getfield 30, 3, 9, 0), (9, .iload_n 3, 1, 10, 0), (10, .aaload, 1, 11, 0), (11, .aload_n 1, 1, 12, 0), (12, .invokevirtual 53, 3, 15, 0), (15, .aload_n 0, 1, 16, 0), (16, .getfield 30, 3, 19, 0), (19, .iload_n 3, 1, 20, 0), (20, .aaload, 1, 21, 0), (21, .iload_n 2, 1, 22, 0), (22, .putfield 64, 3, 25, 0), (25, .aload_n 0, 1, 26, 0), (26, .dup, 1, 27, 0), (27, .getfield 44, 3, 30, 0), (30, .iconst 1, 1, 31, 0), (31, .iadd, 1, 32, 0), (32, .putfield 44, 3, 35, 0), (35, .iload_n 3, 1, 36, 0), (36, .ireturn, 1, 37, 0)])
set_option maxRecDepth 20000 in
theorem ok_X5_enterRule : mi_ok M_X5_enterRule := ⟨by decide +kernel, by decide +kernel, by decide +kernel, by decide +kernel⟩
def M_X5_dropRule : MI := (yX5_dropRule, cX5_dropRule, 3, none, [(0, .iload_n 1, 1, 1, 0), (1, .istore_n 2, 1, 2, 0), (2, .iload_n 2, 1, 3, 0), (3, .iconst 1, 1, 4, 0), (4, .iadd, 1, 5, 0), (5, .aload_n 0, 1, 6, 0), (6, .getfield 44, 3, 9, 0), (9, .if_icmp .ge 26, 3, 12, 35), (12, .aload_n 0, 1, 13, 0), (13, .getfield 30, 3, 16, 0), (16, .iload_n 2, 1, 17, 0), (17, .aaload, 1, 18, 0), (18, .aload_n 0, 1, 19, 0), (19, .getfield 30, 3, 22, 0), (22, .iload_n 2, 1, 23, 0), (23, .iconst 1, 1, 24, 0), (24, .iadd, 1, 25, 0), (25, .aaload, 1, 26, 0), (26, .invokevirtual 53, 3, 29, 0), (29, .iinc 2 1, 3, 32, 0), (32, .goto (-30), 3, 35, 2), (35, .aload_n 0, 1, 36, 0), (36, .dup, 1, 37, 0), (37, .getfield 44, 3, 40, 0), (40, .iconst 1, 1, 41, 0), (41, .isub, 1, 42, 0), (42, .putfield 44, 3, 45, 0), (45, .return_, 1, 46, 0)])
set_option maxRecDepth 20000 in
theorem ok_X5_dropRule : mi_ok M_X5_dropRule := ⟨by decide +kernel, by decide +kernel, by decide +kernel, by decide +kernel⟩
def M_X6_init : MI := (yX6_init, cX6_init, 1, none, [(0, .aload_n 0, 1, 1, 0), (1, .invokespecial 3, 3, 4, 0), (4, .aload_n 0, 1, 5, 0), (5, .iconst 4, 1, 6, 0), (6, .newarray .int, 2, 8, 0), (8, .putfield 9, 3, 11, 0), (11, .aload_n 0, 1, 12, 0), (12, .iconst 4, 1, 13, 0), (13, .newarray .int, 2, 15, 0), (15, .putfield 15, 3, 18, 0), (18, .aload_n 0, 1, 19, 0), (19, .iconst 4, 1, 20, 0), (20, .newarray .int, 2, 22, 0), (22, .putfield 18, 3, 25, 0), (25, .aload_n 0, 1, 26, 0), (26, .iconst 4, 1, 27, 0), (27, .newarray .boolean, 2, 29, 0), (29, .putfield 21, 3, 32, 0), (32, .return_, 1, 33, 0)])
set_option maxRecDepth 20000 in
theorem ok_X6_init : mi_ok M_X6_init := ⟨by decide +kernel, by decide +kernel, by decide +kernel, by decide +kernel⟩
def M_X6_become : MI := (yX6_become, cX6_become, 3, none, [(0, .iconst 0, 1, 1, 0), (1, .istore_n 2, 1, 2, 0), (2, .iload_n 2, 1, 3, 0), (3, .iconst 3, 1, 4, 0), (4, .if_icmp .gt 57, 3, 7, 61), (7, .aload_n 0, 1, 8, 0), (8, .getfield 9, 3, 11, 0), (11, .iload_n 2, 1, 12, 0), (12, .aload_n 1, 1, 13, 0), (13, .getfield 9, 3, 16, 0), (16, .iload_n 2, 1, 17, 0), (17, .iaload, 1, 18, 0), (18, .iastore, 1, 19, 0), (19, .aload_n 0, 1, 20, 0), (20, .getfield 15, 3, 23, 0), (23, .iload_n 2, 1, 24, 0), (24, .aload_n 1, 1, 25, 0), (25, .getfield 15, 3, 28, 0), (28, .iload_n 2, 1, 29, 0), (29, .iaload, 1, 30, 0), (30, .iastore, 1, 31, 0), (31, .aload_n 0, 1, 32, 0), (32, .getfield 18, 3, 35, 0), (35, .iload_n 2, 1, 36, 0), (36, .aload_n 1, 1, 37, 0), (37, .getfield 18, 3, 40, 0), (40, .iload_n 2, 1, 41, 0), (41, .iaload, 1, 42, 0), (42, .iastore, 1, 43, 0), (43, .aload_n 0, 1, 44, 0), (44, .getfield 21, 3, 47, 0), (47, .iload_n 2, 1, 48, 0), (48, .aload_n 1, 1, 49, 0), (49, .getfield 21, 3, 52, 0), (52, .iload_n 2, 1, 53, 0), (53, .baload, 1, 54, 0), (54, .bastore, 1, 55, 0), (55, .iinc 2 1, 3, 58, 0), (58, .goto (-56), 3, 61, 2), (61, .aload_n 0, 1, 62, 0), (62, .aload_n 1, 1, 63, 0), (63, .getfield 25, 3, 66, 0), (66, .putfield 25, 3, 69, 0), (69, .aload_n 0, 1, 70, 0), (70, .aload_n 1, 1, 71, 0), (71, .getfield 29, 3, 74, 0), (74, .putfield 29, 3, 77, 0), (77, .return_, 1, 78, 0)])
set_option maxRecDepth 20000 in
theorem ok_X6_become : mi_ok M_X6_become := ⟨by decide +kernel, by decide +kernel, by decide +kernel, by decide +kernel⟩
def M_X6_mentions : MI := (yX6_mentions, cX6_mentions, 3, (some .boolean), [(0, .iconst 0, 1, 1, 0), (1, .istore_n 2, 1, 2, 0), (2, .iload_n 2, 1, 3, 0), (3, .aload_n 0, 1, 4, 0), (4, .getfield 25, 3, 7, 0), (7, .if_icmp .gt 21, 3, 10, 28), (10, .aload_n 0, 1, 11, 0), (11, .getfield 9, 3, 14, 0), (14, .iload_n 2, 1, 15, 0), (15, .iaload, 1, 16, 0), (16, .iload_n 1, 1, 17, 0), (17, .if_icmp .ne 5, 3, 20, 22), (20, .iconst 1, 1, 21, 0), (21, .ireturn, 1, 22, 0), (22, .iinc 2 1, 3, 25, 0), (25, .goto (-23), 3, 28, 2), (28, .iconst 0, 1, 29, 0), (29, .ireturn, 1, 30, 0)])
set_option maxRecDepth 20000 in
theorem ok_X6_mentions : mi_ok M_X6_mentions := ⟨by decide +kernel, by decide +kernel, by decide +kernel, by decide +kernel⟩
def M_X6_hasVariable : MI := (yX6_hasVariable, cX6_hasVariable, 4, (some .boolean), [(0, .bipush 6, 2, 2, 0), (2, .iload_n 1, 1, 3, 0), (3, .iadd, 1, 4, 0), (4, .istore_n 2, 1, 5, 0), (5, .iconst 1, 1, 6, 0), (6, .istore_n 3, 1, 7, 0), (7, .iload_n 3, 1, 8, 0), (8, .aload_n 0, 1, 9, 0), (9, .getfield 25, 3, 12, 0), (12, .if_icmp .gt 40, 3, 15, 52), (15, .aload_n 0, 1, 16, 0), (16, .getfield 21, 3, 19, 0), (19, .iload_n 3, 1, 20, 0), (20, .baload, 1, 21, 0), (21, .ifCond .ne 25, 3, 24, 46), (24, .aload_n 0, 1, 25, 0), (25, .getfield 15, 3, 28, 0), (28, .iload_n 3, 1, 29, 0), (29, .iaload, 1, 30, 0), (30, .iload_n 2, 1, 31, 0), (31, .if_icmp .eq 13, 3, 34, 44), (34, .aload_n 0, 1, 35, 0), (35, .getfield 18, 3, 38, 0), (38, .iload_n 3, 1, 39, 0), (39, .iaload, 1, 40, 0), (40, .iload_n 2, 1, 41, 0), (41, .if_icmp .ne 5, 3, 44, 46), (44, .iconst 1, 1, 45, 0), (45, .ireturn, 1, 46, 0), (46, .iinc 3 1, 3, 49, 0), (49, .goto (-42), 3, 52, 7), (52, .iconst 0, 1, 53, 0), (53, .ireturn, 1, 54, 0)])
set_option maxRecDepth 20000 in
theorem ok_X6_hasVariable : mi_ok M_X6_hasVariable := ⟨by decide +kernel, by decide +kernel, by decide +kernel, by decide +kernel⟩
def M_X7_init : MI := (yX7_init, cX7_init, 1, none, [(0, .aload_n 0, 1, 1, 0), (1, .invokespecial 3, 3, 4, 0), (4, .aload_n 0, 1, 5, 0), (5, .bipush 60, 2, 7, 0), (7, .newarray .int, 2, 9, 0), (9, .putfield 9, 3, 12, 0), (12, .aload_n 0, 1, 13, 0), (13, .new 15, 3, 16, 0), (16, .dup, 1, 17, 0), (17, .invokespecial 17, 3, 20, 0), (20, .putfield 18, 3, 23, 0), (23, .return_, 1, 24, 0)])
set_option maxRecDepth 20000 in
theorem ok_X7_init : mi_ok M_X7_init := ⟨by decide +kernel, by decide +kernel, by decide +kernel, by decide +kernel⟩
def M_X7_put : MI := (yX7_put, cX7_put, 2, none, [(0, .aload_n 0, 1, 1, 0), (1, .getfield 9, 3, 4, 0), (4, .aload_n 0, 1, 5, 0), (5, .getfield 22, 3, 8, 0), (8, .iload_n 1, 1, 9, 0), (9, .iastore, 1, 10, 0), (10, .aload_n 0, 1, 11, 0), (11, .dup, 1, 12, 0), (12, .getfield 22, 3, 15, 0), (15, .iconst 1, 1, 16, 0), (16, .iadd, 1, 17, 0), (17, .putfield 22, 3, 20, 0), (20, .return_, 1, 21, 0)])
set_option maxRecDepth 20000 in
theorem ok_X7_put : mi_ok M_X7_put := ⟨by decide +kernel, by decide +kernel, by decide +kernel, by decide +kernel⟩
def M_X7_findFault : MI := (yX7_findFault, cX7_findFault, 2, (some .int), [(0, .aload_n 0, 1, 1, 0), (1, .iconst 0, 1, 2, 0), (2, .putfield 26, 3, 5, 0), (5, .aload_n 0, 1, 6, 0), (6, .aload_n 1, 1, 7, 0), (7, .invokevirtual 29, 3, 10, 0), (10, .ifCond .eq 10, 3, 13, 20), (13, .aload_n 0, 1, 14, 0), (14, .invokevirtual 33, 3, 17, 0), (17, .goto 7, 3, 20, 24), (20, .aload_n 0, 1, 21, 0), (21, .getfield 26, 3, 24, 0), (24, .ireturn, 1, 25, 0)])
set_option maxRecDepth 20000 in
theorem ok_X7_findFault : mi_ok M_X7_findFault := ⟨by decide +kernel, by decide +kernel, by decide +kernel, by decide +kernel⟩
def M_X7_readRule : MI := (yX7_readRule, cX7_readRule, 4, (some .boolean), [(0, .aload_n 0, 1, 1, 0), (1, .aload_n 1, 1, 2, 0), (2, .iconst 0, 1, 3, 0), (3, .invokevirtual 37, 3, 6, 0), (6, .ifCond .eq 12, 3, 9, 18), (9, .aload_n 0, 1, 10, 0), (10, .bipush 60, 2, 12, 0), (12, .invokevirtual 41, 3, 15, 0), (15, .ifCond .ne 5, 3, 18, 20), (18, .iconst 0, 1, 19, 0), (19, .ireturn, 1, 20, 0), (20, .iconst 1, 1, 21, 0), (21, .istore_n 2, 1, 22, 0), (22, .iconst 1, 1, 23, 0), (23, .istore_n 3, 1, 24, 0), (24, .iload_n 2, 1, 25, 0), (25, .ifCond .eq 68, 3, 28, 93), (28, .iload_n 3, 1, 29, 0), (29, .iconst 3, 1, 30, 0), (30, .if_icmp .gt 63, 3, 33, 93), (33, .aload_n 0, 1, 34, 0), (34, .getfield 18, 3, 37, 0), (37, .getfield 45, 3, 40, 0), (40, .iload_n 3, 1, 41, 0), (41, .aload_n 0, 1, 42, 0), (42, .bipush 33, 2, 44, 0), (44, .invokevirtual 41, 3, 47, 0), (47, .bastore, 1, 48, 0), (48, .aload_n 0, 1, 49, 0), (49, .aload_n 1, 1, 50, 0), (50, .iload_n 3, 1, 51, 0), (51, .invokevirtual 37, 3, 54, 0), (54, .ifCond .ne 5, 3, 57, 59), (57, .iconst 0, 1, 58, 0), (58, .ireturn, 1, 59, 0), (59, .aload_n 0, 1, 60, 0), (60, .getfield 18, 3, 63, 0), (63, .iload_n 3, 1, 64, 0), (64, .putfield 49, 3, 67, 0), (67, .iload_n 3, 1, 68, 0), (68, .iconst 3, 1, 69, 0), (69, .if_icmp .ge 16, 3, 72, 85), (72, .aload_n 0, 1, 73, 0), (73, .bipush 44, 2, 75, 0), (75, .invokevirtual 41, 3, 78, 0), (78, .ifCond .eq 7, 3, 81, 85), (81, .iconst 1, 1, 82, 0), (82, .goto 4, 3, 85, 86), (85, .iconst 0, 1, 86, 0), (86, .istore_n 2, 1, 87, 0), (87, .iinc 3 1, 3, 90, 0), (90, .goto (-66), 3, 93, 24), (93, .aload_n 0, 1, 94, 0), (94, .getfield 26, 3, 97, 0), (97, .aload_n 0, 1, 98, 0), (98, .getfield 22, 3, 101, 0), (101, .if_icmp .ne 7, 3, 104, 108), (104, .iconst 1, 1, 105, 0), (105, .goto 4, 3, 108, 109), (108, .iconst 0, 1, 109, 0), (109, .ireturn, 1, 110, 0)])
set_option maxRecDepth 20000 in
theorem ok_X7_readRule : mi_ok M_X7_readRule := ⟨by decide +kernel, by decide +kernel, by decide +kernel, by decide +kernel⟩
def M_X7_readAtom : MI := (yX7_readAtom, cX7_readAtom, 4, (some .boolean), [(0, .aload_n 0, 1, 1, 0), (1, .invokevirtual 52, 3, 4, 0), (4, .bipush 112, 2, 6, 0), (6, .isub, 1, 7, 0), (7, .istore_n 3, 1, 8, 0), (8, .iload_n 3, 1, 9, 0), (9, .invokestatic 55, 3, 12, 0), (12, .ifCond .ne 5, 3, 15, 17), (15, .iconst 0, 1, 16, 0), (16, .ireturn, 1, 17, 0), (17, .aload_n 0, 1, 18, 0), (18, .dup, 1, 19, 0), (19, .getfield 26, 3, 22, 0), (22, .iconst 1, 1, 23, 0), (23, .iadd, 1, 24, 0), (24, .putfield 26, 3, 27, 0), (27, .aload_n 0, 1, 28, 0), (28, .bipush 40, 2, 30, 0), (30, .invokevirtual 41, 3, 33, 0), (33, .ifCond .eq 17, 3, 36, 50), (36, .aload_n 0, 1, 37, 0), (37, .invokevirtual 52, 3, 40, 0), (40, .aload_n 1, 1, 41, 0), (41, .getfield 58, 3, 44, 0), (44, .invokestatic 63, 3, 47, 0), (47, .ifCond .ne 5, 3, 50, 52), (50, .iconst 0, 1, 51, 0), (51, .ireturn, 1, 52, 0), (52, .aload_n 0, 1, 53, 0), (53, .getfield 18, 3, 56, 0), (56, .getfield 67, 3, 59, 0), (59, .iload_n 2, 1, 60, 0), (60, .iload_n 3, 1, 61, 0), (61, .iastore, 1, 62, 0), (62, .aload_n 0, 1, 63, 0), (63, .getfield 18, 3, 66, 0), (66, .getfield 70, 3, 69, 0), (69, .iload_n 2, 1, 70, 0), (70, .aload_n 0, 1, 71, 0), (71, .invokevirtual 73, 3, 74, 0), (74, .iastore, 1, 75, 0), (75, .aload_n 0, 1, 76, 0), (76, .getfield 18, 3, 79, 0), (79, .getfield 76, 3, 82, 0), (82, .iload_n 2, 1, 83, 0), (83, .iconst 0, 1, 84, 0), (84, .iastore, 1, 85, 0), (85, .aload_n 1, 1, 86, 0), (86, .getfield 79, 3, 89, 0), (89, .iload_n 3, 1, 90, 0), (90, .iaload, 1, 91, 0), (91, .iconst 2, 1, 92, 0), (92, .if_icmp .ne 41, 3, 95, 133), (95, .aload_n 0, 1, 96, 0), (96, .bipush 44, 2, 98, 0), (98, .invokevirtual 41, 3, 101, 0), (101, .ifCond .eq 17, 3, 104, 118), (104, .aload_n 0, 1, 105, 0), (105, .invokevirtual 52, 3, 108, 0), (108, .aload_n 1, 1, 109, 0), (109, .getfield 58, 3, 112, 0), (112, .invokestatic 63, 3, 115, 0), (115, .ifCond .ne 5, 3, 118, 120), (118, .iconst 0, 1, 119, 0), (119, .ireturn, 1, 120, 0), (120, .aload_n 0, 1, 121, 0), (121, .getfield 18, 3, 124, 0), (124, .getfield 76, 3, 127, 0), (127, .iload_n 2, 1, 128, 0), (128, .aload_n 0, 1, 129, 0), (129, .invokevirtual 73, 3, 132, 0), (132, .iastore, 1, 133, 0), (133, .aload_n 0, 1, 134, 0), (134, .bipush 41, 2, 136, 0), (136, .invokevirtual 41, 3, 139, 0), (139, .ireturn, 1, 140, 0)])
set_option maxRecDepth 20000 in
theorem ok_X7_readAtom : mi_ok M_X7_readAtom := ⟨by decide +kernel, by decide +kernel, by decide +kernel, by decide +kernel⟩
def M_X7_isTerm : MI := (yX7_isTerm, cX7_isTerm, 2, (some .boolean), [(0, .iload_n 0, 1, 1, 0), (1, .bipush 48, 2, 3, 0), (3, .if_icmp .lt 11, 3, 6, 14), (6, .iload_n 0, 1, 7, 0), (7, .bipush 48, 2, 9, 0), (9, .iload_n 1, 1, 10, 0), (10, .iadd, 1, 11, 0), (11, .if_icmp .lt 10, 3, 14, 21), (14, .iload_n 0, 1, 15, 0), (15, .invokestatic 82, 3, 18, 0), (18, .ifCond .eq 7, 3, 21, 25), (21, .iconst 1, 1, 22, 0), (22, .goto 4, 3, 25, 26), (25, .iconst 0, 1, 26, 0), (26, .ireturn, 1, 27, 0)])
set_option maxRecDepth 20000 in
theorem ok_X7_isTerm : mi_ok M_X7_isTerm := ⟨by decide +kernel, by decide +kernel, by decide +kernel, by decide +kernel⟩
def M_X7_isVariable : MI := (yX7_isVariable, cX7_isVariable, 1, (some .boolean), [(0, .iload_n 0, 1, 1, 0), (1, .bipush 88, 2, 3, 0), (3, .if_icmp .lt 13, 3, 6, 16), (6, .iload_n 0, 1, 7, 0), (7, .bipush 90, 2, 9, 0), (9, .if_icmp .gt 7, 3, 12, 16), (12, .iconst 1, 1, 13, 0), (13, .goto 4, 3, 16, 17), (16, .iconst 0, 1, 17, 0), (17, .ireturn, 1, 18, 0)])
set_option maxRecDepth 20000 in
theorem ok_X7_isVariable : mi_ok M_X7_isVariable := ⟨by decide +kernel, by decide +kernel, by decide +kernel, by decide +kernel⟩
def M_X7_takeTerm : MI := (yX7_takeTerm, cX7_takeTerm, 2, (some .int), [(0, .aload_n 0, 1, 1, 0), (1, .invokevirtual 52, 3, 4, 0), (4, .istore_n 1, 1, 5, 0), (5, .aload_n 0, 1, 6, 0), (6, .dup, 1, 7, 0), (7, .getfield 26, 3, 10, 0), (10, .iconst 1, 1, 11, 0), (11, .iadd, 1, 12, 0), (12, .putfield 26, 3, 15, 0), (15, .iload_n 1, 1, 16, 0), (16, .invokestatic 82, 3, 19, 0), (19, .ifCond .eq 13, 3, 22, 32), (22, .bipush 6, 2, 24, 0), (24, .iload_n 1, 1, 25, 0), (25, .iadd, 1, 26, 0), (26, .bipush 88, 2, 28, 0), (28, .isub, 1, 29, 0), (29, .goto 7, 3, 32, 36), (32, .iload_n 1, 1, 33, 0), (33, .bipush 48, 2, 35, 0), (35, .isub, 1, 36, 0), (36, .ireturn, 1, 37, 0)])
set_option maxRecDepth 20000 in
theorem ok_X7_takeTerm : mi_ok M_X7_takeTerm := ⟨by decide +kernel, by decide +kernel, by decide +kernel, by decide +kernel⟩
def M_X7_take : MI := (yX7_take, cX7_take, 2, (some .boolean), [(0, .aload_n 0, 1, 1, 0), (1, .invokevirtual 52, 3, 4, 0), (4, .iload_n 1, 1, 5, 0), (5, .if_icmp .eq 5, 3, 8, 10), (8, .iconst 0, 1, 9, 0), (9, .ireturn, 1, 10, 0), (10, .aload_n 0, 1, 11, 0), (11, .dup, 1, 12, 0), (12, .getfield 26, 3, 15, 0), (15, .iconst 1, 1, 16, 0), (16, .iadd, 1, 17, 0), (17, .putfield 26, 3, 20, 0), (20, .iconst 1, 1, 21, 0), (21, .ireturn, 1, 22, 0)])
set_option maxRecDepth 20000 in
theorem ok_X7_take : mi_ok M_X7_take := ⟨by decide +kernel, by decide +kernel, by decide +kernel, by decide +kernel⟩
def M_X7_next : MI := (yX7_next, cX7_next, 1, (some .int), [(0, .aload_n 0, 1, 1, 0), (1, .getfield 26, 3, 4, 0), (4, .aload_n 0, 1, 5, 0), (5, .getfield 22, 3, 8, 0), (8, .if_icmp .ge 15, 3, 11, 23), (11, .aload_n 0, 1, 12, 0), (12, .getfield 9, 3, 15, 0), (15, .aload_n 0, 1, 16, 0), (16, .getfield 26, 3, 19, 0), (19, .iaload, 1, 20, 0), (20, .goto 4, 3, 23, 24), (23, .iconst (-1), 1, 24, 0), (24, .ireturn, 1, 25, 0)])
set_option maxRecDepth 20000 in
theorem ok_X7_next : mi_ok M_X7_next := ⟨by decide +kernel, by decide +kernel, by decide +kernel, by decide +kernel⟩
def M_X7_unboundVariable : MI := (yX7_unboundVariable, cX7_unboundVariable, 2, (some .int), [(0, .iconst 0, 1, 1, 0), (1, .istore_n 1, 1, 2, 0), (2, .iload_n 1, 1, 3, 0), (3, .aload_n 0, 1, 4, 0), (4, .getfield 22, 3, 7, 0), (7, .if_icmp .ge 42, 3, 10, 49), (10, .aload_n 0, 1, 11, 0), (11, .getfield 9, 3, 14, 0), (14, .iload_n 1, 1, 15, 0), (15, .iaload, 1, 16, 0), (16, .invokestatic 82, 3, 19, 0), (19, .ifCond .eq 24, 3, 22, 43), (22, .aload_n 0, 1, 23, 0), (23, .getfield 18, 3, 26, 0), (26, .aload_n 0, 1, 27, 0), (27, .getfield 9, 3, 30, 0), (30, .iload_n 1, 1, 31, 0), (31, .iaload, 1, 32, 0), (32, .bipush 88, 2, 34, 0), (34, .isub, 1, 35, 0), (35, .invokevirtual 85, 3, 38, 0), (38, .ifCond .ne 5, 3, 41, 43), (41, .iload_n 1, 1, 42, 0), (42, .ireturn, 1, 43, 0), (43, .iinc 1 1, 3, 46, 0), (46, .goto (-44), 3, 49, 2), (49, .bipush (-5), 2, 51, 0), (51, .ireturn, 1, 52, 0)])
set_option maxRecDepth 20000 in
theorem ok_X7_unboundVariable : mi_ok M_X7_unboundVariable := ⟨by decide +kernel, by decide +kernel, by decide +kernel, by decide +kernel⟩
def M_X8_init : MI := (yX8_init, cX8_init, 5, none, [(0, .aload_n 0, 1, 1, 0), (1, .invokespecial 3, 3, 4, 0), (4, .aload_n 0, 1, 5, 0), (5, .sipush 298, 3, 8, 0), (8, .newarray .int, 2, 10, 0), (10, .putfield 9, 3, 13, 0), (13, .aload_n 0, 1, 14, 0), (14, .sipush 1080, 3, 17, 0), (17, .newarray .long, 2, 19, 0), (19, .putfield 15, 3, 22, 0), (22, .iconst 0, 1, 23, 0), (23, .istore_n 1, 1, 24, 0), (24, .iconst 0, 1, 25, 0), (25, .istore_n 2, 1, 26, 0), (26, .iload_n 2, 1, 27, 0), (27, .bipush 12, 2, 29, 0), (29, .if_icmp .ge 21, 3, 32, 50), (32, .aload_n 0, 1, 33, 0), (33, .getfield 9, 3, 36, 0), (36, .iload_n 1, 1, 37, 0), (37, .iinc 1 1, 3, 40, 0), (40, .iconst 1, 1, 41, 0), (41, .iload_n 2, 1, 42, 0), (42, .ishl, 1, 43, 0), (43, .iastore, 1, 44, 0), (44, .iinc 2 1, 3, 47, 0), (47, .goto (-21), 3, 50, 26), (50, .iconst 0, 1, 51, 0), (51, .istore_n 2, 1, 52, 0), (52, .iload_n 2, 1, 53, 0), (53, .bipush 12, 2, 55, 0), (55, .if_icmp .ge 41, 3, 58, 96), (58, .iload_n 2, 1, 59, 0), (59, .iconst 1, 1, 60, 0), (60, .iadd, 1, 61, 0), (61, .istore_n 3, 1, 62, 0), (62, .iload_n 3, 1, 63, 0), (63, .bipush 12, 2, 65, 0), (65, .if_icmp .ge 25, 3, 68, 90), (68, .aload_n 0, 1, 69, 0), (69, .getfield 9, 3, 72, 0), (72, .iload_n 1, 1, 73, 0), (73, .iinc 1 1, 3, 76, 0), (76, .iconst 1, 1, 77, 0), (77, .iload_n 2, 1, 78, 0), (78, .ishl, 1, 79, 0), (79, .iconst 1, 1, 80, 0), (80, .iload_n 3, 1, 81, 0), (81, .ishl, 1, 82, 0), (82, .ior, 1, 83, 0), (83, .iastore, 1, 84, 0), (84, .iinc 3 1, 3, 87, 0), (87, .goto (-25), 3, 90, 62), (90, .iinc 2 1, 3, 93, 0), (93, .goto (-41), 3, 96, 52), (96, .iconst 0, 1, 97, 0), (97, .istore_n 2, 1, 98, 0), (98, .iload_n 2, 1, 99, 0), (99, .bipush 12, 2, 101, 0), (101, .if_icmp .ge 64, 3, 104, 165), (104, .iload_n 2, 1, 105, 0), (105, .iconst 1, 1, 106, 0), (106, .iadd, 1, 107, 0), (107, .istore_n 3, 1, 108, 0), (108, .iload_n 3, 1, 109, 0), (109, .bipush 12, 2, 111, 0), (111, .if_icmp .ge 48, 3, 114, 159), (114, .iload_n 3, 1, 115, 0), (115, .iconst 1, 1, 116, 0), (116, .iadd, 1, 117, 0), (117, .istore 4, 2, 119, 0), (119, .iload 4, 2, 121, 0), (121, .bipush 12, 2, 123, 0), (123, .if_icmp .ge 30, 3, 126, 153), (126, .aload_n 0, 1, 127, 0), (127, .getfield 9, 3, 130, 0), (130, .iload_n 1, 1, 131, 0), (131, .iinc 1 1, 3, 134, 0), (134, .iconst 1, 1, 135, 0), (135, .iload_n 2, 1, 136, 0), (136, .ishl, 1, 137, 0), (137, .iconst 1, 1, 138, 0), (138, .iload_n 3, 1, 139, 0), (139, .ishl, 1, 140, 0), (140, .ior, 1, 141, 0), (141, .iconst 1, 1, 142, 0), (142, .iload 4, 2, 144, 0), (144, .ishl, 1, 145, 0), (145, .ior, 1, 146, 0), (146, .iastore, 1, 147, 0), (147, .iinc 4 1, 3, 150, 0), (150, .goto (-31), 3, 153, 119), (153, .iinc 3 1, 3, 156, 0), (156, .goto (-48), 3, 159, 108), (159, .iinc 2 1, 3, 162, 0), (162, .goto (-64), 3, 165, 98), (165, .return_, 1, 166, 0)])
set_option maxRecDepth 20000 in
theorem ok_X8_init : mi_ok M_X8_init := ⟨by decide +kernel, by decide +kernel, by decide +kernel, by decide +kernel⟩
def M_X8_compute : MI := (yX8_compute, cX8_compute, 7, none, [(0, .aload_n 0, 1, 1, 0), (1, .getfield 15, 3, 4, 0), (4, .lconst 0, 1, 5, 0), (5, .invokestatic 19, 3, 8, 0), (8, .iconst 0, 1, 9, 0), (9, .istore 4, 2, 11, 0), (11, .iload 4, 2, 13, 0), (13, .aload_n 1, 1, 14, 0), (14, .getfield 25, 3, 17, 0), (17, .if_icmp .ge 24, 3, 20, 41), (20, .aload_n 0, 1, 21, 0), (21, .aload_n 1, 1, 22, 0), (22, .getfield 31, 3, 25, 0), (25, .iload 4, 2, 27, 0), (27, .iaload, 1, 28, 0), (28, .iconst 5, 1, 29, 0), (29, .imul, 1, 30, 0), (30, .iload 4, 2, 32, 0), (32, .invokevirtual 34, 3, 35, 0), (35, .iinc 4 1, 3, 38, 0), (38, .goto (-27), 3, 41, 11), (41, .iconst 1, 1, 42, 0), (42, .istore 4, 2, 44, 0), (44, .iconst 0, 1, 45, 0), (45, .istore 5, 2, 47, 0), (47, .iload 4, 2, 49, 0), (49, .ifCond .eq 55, 3, 52, 104), (52, .iload 5, 2, 54, 0), (54, .sipush 218, 3, 57, 0), (57, .if_icmp .ge 47, 3, 60, 104), (60, .iconst 0, 1, 61, 0), (61, .istore 4, 2, 63, 0), (63, .iconst 0, 1, 64, 0), (64, .istore 6, 2, 66, 0), (66, .iload 6, 2, 68, 0), (68, .aload_n 3, 1, 69, 0), (69, .getfield 38, 3, 72, 0), (72, .if_icmp .ge 26, 3, 75, 98), (75, .iload 4, 2, 77, 0), (77, .aload_n 0, 1, 78, 0), (78, .aload_n 2, 1, 79, 0), (79, .aload_n 3, 1, 80, 0), (80, .getfield 43, 3, 83, 0), (83, .iload 6, 2, 85, 0), (85, .iaload, 1, 86, 0), (86, .invokevirtual 46, 3, 89, 0), (89, .ior, 1, 90, 0), (90, .istore 4, 2, 92, 0), (92, .iinc 6 1, 3, 95, 0), (95, .goto (-29), 3, 98, 66), (98, .iinc 5 1, 3, 101, 0), (101, .goto (-54), 3, 104, 47), (104, .return_, 1, 105, 0)])
set_option maxRecDepth 20000 in
theorem ok_X8_compute : mi_ok M_X8_compute := ⟨by decide +kernel, by decide +kernel, by decide +kernel, by decide +kernel⟩
def M_X8_neededBy : MI := (yX8_neededBy, cX8_neededBy, 4, (some .int), [(0, .iconst 0, 1, 1, 0), (1, .istore_n 2, 1, 2, 0), (2, .iconst 0, 1, 3, 0), (3, .istore_n 3, 1, 4, 0), (4, .iload_n 3, 1, 5, 0), (5, .bipush 12, 2, 7, 0), (7, .if_icmp .ge 27, 3, 10, 34), (10, .aload_n 0, 1, 11, 0), (11, .iload_n 1, 1, 12, 0), (12, .iload_n 3, 1, 13, 0), (13, .invokevirtual 50, 3, 16, 0), (16, .ifCond .ne 12, 3, 19, 28), (19, .iload_n 2, 1, 20, 0), (20, .aload_n 0, 1, 21, 0), (21, .getfield 9, 3, 24, 0), (24, .iload_n 3, 1, 25, 0), (25, .iaload, 1, 26, 0), (26, .ior, 1, 27, 0), (27, .istore_n 2, 1, 28, 0), (28, .iinc 3 1, 3, 31, 0), (31, .goto (-27), 3, 34, 4), (34, .iload_n 2, 1, 35, 0), (35, .ireturn, 1, 36, 0)])
set_option maxRecDepth 20000 in
theorem ok_X8_neededBy : mi_ok M_X8_neededBy := ⟨by decide +kernel, by decide +kernel, by decide +kernel, by decide +kernel⟩
def M_X8_firstCut : MI := (yX8_firstCut, cX8_firstCut, 3, (some .int), [(0, .iconst 0, 1, 1, 0), (1, .istore_n 2, 1, 2, 0), (2, .iload_n 2, 1, 3, 0), (3, .sipush 298, 3, 6, 0), (6, .if_icmp .ge 25, 3, 9, 31), (9, .aload_n 0, 1, 10, 0), (10, .iload_n 1, 1, 11, 0), (11, .iload_n 2, 1, 12, 0), (12, .invokevirtual 50, 3, 15, 0), (15, .ifCond .ne 10, 3, 18, 25), (18, .aload_n 0, 1, 19, 0), (19, .getfield 9, 3, 22, 0), (22, .iload_n 2, 1, 23, 0), (23, .iaload, 1, 24, 0), (24, .ireturn, 1, 25, 0), (25, .iinc 2 1, 3, 28, 0), (28, .goto (-26), 3, 31, 2), (31, .bipush (-5), 2, 33, 0), (33, .ireturn, 1, 34, 0)])
set_option maxRecDepth 20000 in
theorem ok_X8_firstCut : mi_ok M_X8_firstCut := ⟨by decide +kernel, by decide +kernel, by decide +kernel, by decide +kernel⟩
def M_X8_survives : MI := (yX8_survives, cX8_survives, 5, (some .boolean), [(0, .aload_n 0, 1, 1, 0), (1, .getfield 15, 3, 4, 0), (4, .iload_n 1, 1, 5, 0), (5, .iconst 5, 1, 6, 0), (6, .imul, 1, 7, 0), (7, .iload_n 2, 1, 8, 0), (8, .bipush 64, 2, 10, 0), (10, .idiv, 1, 11, 0), (11, .iadd, 1, 12, 0), (12, .laload, 1, 13, 0), (13, .lstore_n 3, 1, 14, 0), (14, .lload_n 3, 1, 15, 0), (15, .iload_n 2, 1, 16, 0), (16, .bipush 64, 2, 18, 0), (18, .irem, 1, 19, 0), (19, .lushr, 1, 20, 0), (20, .lconst 1, 1, 21, 0), (21, .land, 1, 22, 0), (22, .lconst 0, 1, 23, 0), (23, .lcmp, 1, 24, 0), (24, .ifCond .eq 7, 3, 27, 31), (27, .iconst 1, 1, 28, 0), (28, .goto 4, 3, 31, 32), (31, .iconst 0, 1, 32, 0), (32, .ireturn, 1, 33, 0)])
set_option maxRecDepth 20000 in
theorem ok_X8_survives : mi_ok M_X8_survives := ⟨by decide +kernel, by decide +kernel, by decide +kernel, by decide +kernel⟩
def M_X8_enterBaseFact : MI := (yX8_enterBaseFact, cX8_enterBaseFact, 4, none, [(0, .iconst 0, 1, 1, 0), (1, .istore_n 3, 1, 2, 0), (2, .iload_n 3, 1, 3, 0), (3, .sipush 298, 3, 6, 0), (6, .if_icmp .ge 42, 3, 9, 48), (9, .aload_n 0, 1, 10, 0), (10, .getfield 9, 3, 13, 0), (13, .iload_n 3, 1, 14, 0), (14, .iaload, 1, 15, 0), (15, .iload_n 2, 1, 16, 0), (16, .ishr, 1, 17, 0), (17, .iconst 1, 1, 18, 0), (18, .iand, 1, 19, 0), (19, .ifCond .ne 23, 3, 22, 42), (22, .aload_n 0, 1, 23, 0), (23, .getfield 15, 3, 26, 0), (26, .iload_n 1, 1, 27, 0), (27, .iload_n 3, 1, 28, 0), (28, .bipush 64, 2, 30, 0), (30, .idiv, 1, 31, 0), (31, .iadd, 1, 32, 0), (32, .dup2, 1, 33, 0), (33, .laload, 1, 34, 0), (34, .lconst 1, 1, 35, 0), (35, .iload_n 3, 1, 36, 0), (36, .bipush 64, 2, 38, 0), (38, .irem, 1, 39, 0), (39, .lshl, 1, 40, 0), (40, .lor, 1, 41, 0), (41, .lastore, 1, 42, 0), (42, .iinc 3 1, 3, 45, 0), (45, .goto (-43), 3, 48, 2), (48, .return_, 1, 49, 0)])
set_option maxRecDepth 20000 in
theorem ok_X8_enterBaseFact : mi_ok M_X8_enterBaseFact := ⟨by decide +kernel, by decide +kernel, by decide +kernel, by decide +kernel⟩
def M_X8_widen : MI := (yX8_widen, cX8_widen, 12, (some .boolean), [(0, .iload_n 2, 1, 1, 0), (1, .iconst 3, 1, 2, 0), (2, .imul, 1, 3, 0), (3, .istore_n 3, 1, 4, 0), (4, .aload_n 1, 1, 5, 0), (5, .getfield 54, 3, 8, 0), (8, .aload_n 1, 1, 9, 0), (9, .getfield 59, 3, 12, 0), (12, .iload_n 2, 1, 13, 0), (13, .iaload, 1, 14, 0), (14, .iaload, 1, 15, 0), (15, .istore 4, 2, 17, 0), (17, .aload_n 1, 1, 18, 0), (18, .getfield 62, 3, 21, 0), (21, .iload_n 2, 1, 22, 0), (22, .iaload, 1, 23, 0), (23, .iconst 5, 1, 24, 0), (24, .imul, 1, 25, 0), (25, .istore 5, 2, 27, 0), (27, .iconst 0, 1, 28, 0), (28, .istore 6, 2, 30, 0), (30, .iconst 0, 1, 31, 0), (31, .istore 7, 2, 33, 0), (33, .iload 7, 2, 35, 0), (35, .iconst 5, 1, 36, 0), (36, .if_icmp .ge 100, 3, 39, 136), (39, .ldc2_w 65, 3, 42, 0), (42, .lstore 8, 2, 44, 0), (44, .iload_n 3, 1, 45, 0), (45, .istore 10, 2, 47, 0), (47, .iload 10, 2, 49, 0), (49, .iload_n 3, 1, 50, 0), (50, .iload 4, 2, 52, 0), (52, .iadd, 1, 53, 0), (53, .if_icmp .ge 31, 3, 56, 84), (56, .lload 8, 2, 58, 0), (58, .aload_n 0, 1, 59, 0), (59, .getfield 15, 3, 62, 0), (62, .aload_n 1, 1, 63, 0), (63, .getfield 67, 3, 66, 0), (66, .iload 10, 2, 68, 0), (68, .iaload, 1, 69, 0), (69, .iconst 5, 1, 70, 0), (70, .imul, 1, 71, 0), (71, .iload 7, 2, 73, 0), (73, .iadd, 1, 74, 0), (74, .laload, 1, 75, 0), (75, .land, 1, 76, 0), (76, .lstore 8, 2, 78, 0), (78, .iinc 10 1, 3, 81, 0), (81, .goto (-34), 3, 84, 47), (84, .aload_n 0, 1, 85, 0), (85, .getfield 15, 3, 88, 0), (88, .iload 5, 2, 90, 0), (90, .iload 7, 2, 92, 0), (92, .iadd, 1, 93, 0), (93, .laload, 1, 94, 0), (94, .lload 8, 2, 96, 0), (96, .lor, 1, 97, 0), (97, .lstore 10, 2, 99, 0), (99, .lload 10, 2, 101, 0), (101, .aload_n 0, 1, 102, 0), (102, .getfield 15, 3, 105, 0), (105, .iload 5, 2, 107, 0), (107, .iload 7, 2, 109, 0), (109, .iadd, 1, 110, 0), (110, .laload, 1, 111, 0), (111, .lcmp, 1, 112, 0), (112, .ifCond .eq 18, 3, 115, 130), (115, .aload_n 0, 1, 116, 0), (116, .getfield 15, 3, 119, 0), (119, .iload 5, 2, 121, 0), (121, .iload 7, 2, 123, 0), (123, .iadd, 1, 124, 0), (124, .lload 10, 2, 126, 0), (126, .lastore, 1, 127, 0), (127, .iconst 1, 1, 128, 0), (128, .istore 6, 2, 130, 0), (130, .iinc 7 1, 3, 133, 0), (133, .goto (-100), 3, 136, 33), (136, .iload 6, 2, 138, 0), (138, .ireturn, 1, 139, 0)])
set_option maxRecDepth 20000 in
theorem ok_X8_widen : mi_ok M_X8_widen := ⟨by decide +kernel, by decide +kernel, by decide +kernel, by decide +kernel⟩
def M_X9_init : MI := (yX9_init, cX9_init, 2, none, [(0, .aload_n 0, 1, 1, 0), (1, .invokespecial 3, 3, 4, 0), (4, .aload_n 0, 1, 5, 0), (5, .new 9, 3, 8, 0), (8, .dup, 1, 9, 0), (9, .invokespecial 11, 3, 12, 0), (12, .putfield 12, 3, 15, 0), (15, .aload_n 0, 1, 16, 0), (16, .iconst 2, 1, 17, 0), (17, .anewarray 9, 3, 20, 0), (20, .putfield 16, 3, 23, 0), (23, .aload_n 0, 1, 24, 0), (24, .iconst 2, 1, 25, 0), (25, .newarray .boolean, 2, 27, 0), (27, .putfield 20, 3, 30, 0), (30, .aload_n 0, 1, 31, 0), (31, .new 24, 3, 34, 0), (34, .dup, 1, 35, 0), (35, .invokespecial 26, 3, 38, 0), (38, .putfield 27, 3, 41, 0), (41, .aload_n 0, 1, 42, 0), (42, .new 31, 3, 45, 0), (45, .dup, 1, 46, 0), (46, .invokespecial 33, 3, 49, 0), (49, .putfield 34, 3, 52, 0), (52, .aload_n 0, 1, 53, 0), (53, .new 38, 3, 56, 0), (56, .dup, 1, 57, 0), (57, .invokespecial 40, 3, 60, 0), (60, .putfield 41, 3, 63, 0), (63, .aload_n 0, 1, 64, 0), (64, .new 45, 3, 67, 0), (67, .dup, 1, 68, 0), (68, .invokespecial 47, 3, 71, 0), (71, .putfield 48, 3, 74, 0), (74, .aload_n 0, 1, 75, 0), (75, .new 52, 3, 78, 0), (78, .dup, 1, 79, 0), (79, .invokespecial 54, 3, 82, 0), (82, .putfield 55, 3, 85, 0), (85, .aload_n 0, 1, 86, 0), (86, .new 59, 3, 89, 0), (89, .dup, 1, 90, 0), (90, .invokespecial 61, 3, 93, 0), (93, .putfield 62, 3, 96, 0), (96, .aload_n 0, 1, 97, 0), (97, .new 66, 3, 100, 0), (100, .dup, 1, 101, 0), (101, .invokespecial 68, 3, 104, 0), (104, .putfield 69, 3, 107, 0), (107, .aload_n 0, 1, 108, 0), (108, .new 38, 3, 111, 0), (111, .dup, 1, 112, 0), (112, .invokespecial 40, 3, 115, 0), (115, .putfield 73, 3, 118, 0), (118, .aload_n 0, 1, 119, 0), (119, .iconst (-1), 1, 120, 0), (120, .putfield 76, 3, 123, 0), (123, .iconst 0, 1, 124, 0), (124, .istore_n 1, 1, 125, 0), (125, .iload_n 1, 1, 126, 0), (126, .iconst 2, 1, 127, 0), (127, .if_icmp .ge 22, 3, 130, 149), (130, .aload_n 0, 1, 131, 0), (131, .getfield 16, 3, 134, 0), (134, .iload_n 1, 1, 135, 0), (135, .new 9, 3, 138, 0), (138, .dup, 1, 139, 0), (139, .invokespecial 11, 3, 142, 0), (142, .aastore, 1, 143, 0), (143, .iinc 1 1, 3, 146, 0), (146, .goto (-21), 3, 149, 125), (149, .return_, 1, 150, 0)])
set_option maxRecDepth 20000 in
theorem ok_X9_init : mi_ok M_X9_init := ⟨by decide +kernel, by decide +kernel, by decide +kernel, by decide +kernel⟩
def M_X9_begin : MI := (yX9_begin, cX9_begin, 3, (some .int), [(0, .iload_n 1, 1, 1, 0), (1, .iconst 1, 1, 2, 0), (2, .if_icmp .lt 9, 3, 5, 11), (5, .iload_n 1, 1, 6, 0), (6, .bipush 6, 2, 8, 0), (8, .if_icmp .le 6, 3, 11, 14), (11, .bipush (-2), 2, 13, 0), (13, .ireturn, 1, 14, 0), (14, .aload_n 0, 1, 15, 0), (15, .getfield 12, 3, 18, 0), (18, .getfield 80, 3, 21, 0), (21, .istore_n 2, 1, 22, 0), (22, .aload_n 0, 1, 23, 0), (23, .getfield 12, 3, 26, 0), (26, .iload_n 1, 1, 27, 0), (27, .invokevirtual 83, 3, 30, 0), (30, .aload_n 0, 1, 31, 0), (31, .invokevirtual 87, 3, 34, 0), (34, .iload_n 2, 1, 35, 0), (35, .ireturn, 1, 36, 0)])
set_option maxRecDepth 20000 in
theorem ok_X9_begin : mi_ok M_X9_begin := ⟨by decide +kernel, by decide +kernel, by decide +kernel, by decide +kernel⟩
def M_X9_setPlaces : MI := (yX9_setPlaces, cX9_setPlaces, 4, (some .int), [(0, .iload_n 1, 1, 1, 0), (1, .invokestatic 90, 3, 4, 0), (4, .ifCond .ne 5, 3, 7, 9), (7, .iconst (-1), 1, 8, 0), (8, .ireturn, 1, 9, 0), (9, .iload_n 2, 1, 10, 0), (10, .iconst 1, 1, 11, 0), (11, .if_icmp .lt 8, 3, 14, 19), (14, .iload_n 2, 1, 15, 0), (15, .iconst 2, 1, 16, 0), (16, .if_icmp .le 6, 3, 19, 22), (19, .bipush (-2), 2, 21, 0), (21, .ireturn, 1, 22, 0), (22, .aload_n 0, 1, 23, 0), (23, .getfield 12, 3, 26, 0), (26, .iload_n 1, 1, 27, 0), (27, .invokevirtual 94, 3, 30, 0), (30, .ifCond .eq 6, 3, 33, 36), (33, .bipush (-3), 2, 35, 0), (35, .ireturn, 1, 36, 0), (36, .aload_n 0, 1, 37, 0), (37, .getfield 12, 3, 40, 0), (40, .getfield 97, 3, 43, 0), (43, .iload_n 1, 1, 44, 0), (44, .iaload, 1, 45, 0), (45, .istore_n 3, 1, 46, 0), (46, .aload_n 0, 1, 47, 0), (47, .getfield 12, 3, 50, 0), (50, .getfield 97, 3, 53, 0), (53, .iload_n 1, 1, 54, 0), (54, .iload_n 2, 1, 55, 0), (55, .iastore, 1, 56, 0), (56, .iload_n 3, 1, 57, 0), (57, .ireturn, 1, 58, 0)])
set_option maxRecDepth 20000 in
theorem ok_X9_setPlaces : mi_ok M_X9_setPlaces := ⟨by decide +kernel, by decide +kernel, by decide +kernel, by decide +kernel⟩
def M_X9_addFact : MI := (yX9_addFact, cX9_addFact, 7, (some .int), [(0, .aload_n 0, 1, 1, 0), (1, .getfield 12, 3, 4, 0), (4, .iload_n 1, 1, 5, 0), (5, .iload_n 2, 1, 6, 0), (6, .iload_n 3, 1, 7, 0), (7, .invokevirtual 101, 3, 10, 0), (10, .ifCond .ne 5, 3, 13, 15), (13, .iconst (-1), 1, 14, 0), (14, .ireturn, 1, 15, 0), (15, .iload 4, 2, 17, 0), (17, .ifCond .lt 23, 3, 20, 40), (20, .iload 4, 2, 22, 0), (22, .bipush 99, 2, 24, 0), (24, .if_icmp .gt 16, 3, 27, 40), (27, .iload 5, 2, 29, 0), (29, .iconst 1, 1, 30, 0), (30, .if_icmp .lt 10, 3, 33, 40), (33, .iload 5, 2, 35, 0), (35, .bipush 16, 2, 37, 0), (37, .if_icmp .le 6, 3, 40, 43), (40, .bipush (-2), 2, 42, 0), (42, .ireturn, 1, 43, 0), (43, .aload_n 0, 1, 44, 0), (44, .getfield 12, 3, 47, 0), (47, .getfield 105, 3, 50, 0), (50, .bipush 12, 2, 52, 0), (52, .if_icmp .lt 6, 3, 55, 58), (55, .bipush (-4), 2, 57, 0), (57, .ireturn, 1, 58, 0), (58, .aload_n 0, 1, 59, 0), (59, .getfield 12, 3, 62, 0), (62, .iload_n 1, 1, 63, 0), (63, .iload_n 2, 1, 64, 0), (64, .iload_n 3, 1, 65, 0), (65, .invokestatic 108, 3, 68, 0), (68, .iload 4, 2, 70, 0), (70, .iload 5, 2, 72, 0), (72, .invokevirtual 112, 3, 75, 0), (75, .istore 6, 2, 77, 0), (77, .aload_n 0, 1, 78, 0), (78, .invokevirtual 115, 3, 81, 0), (81, .iload 6, 2, 83, 0), (83, .ireturn, 1, 84, 0)])
set_option maxRecDepth 20000 in
theorem ok_X9_addFact : mi_ok M_X9_addFact := ⟨by decide +kernel, by decide +kernel, by decide +kernel, by decide +kernel⟩
def M_X9_removeFact : MI := (yX9_removeFact, cX9_removeFact, 2, (some .int), [(0, .iload_n 1, 1, 1, 0), (1, .ifCond .lt 14, 3, 4, 15), (4, .iload_n 1, 1, 5, 0), (5, .aload_n 0, 1, 6, 0), (6, .getfield 12, 3, 9, 0), (9, .getfield 105, 3, 12, 0), (12, .if_icmp .lt 5, 3, 15, 17), (15, .iconst (-1), 1, 16, 0), (16, .ireturn, 1, 17, 0), (17, .aload_n 0, 1, 18, 0), (18, .getfield 12, 3, 21, 0), (21, .iload_n 1, 1, 22, 0), (22, .invokevirtual 118, 3, 25, 0), (25, .aload_n 0, 1, 26, 0), (26, .invokevirtual 115, 3, 29, 0), (29, .aload_n 0, 1, 30, 0), (30, .getfield 12, 3, 33, 0), (33, .getfield 105, 3, 36, 0), (36, .ireturn, 1, 37, 0)])
set_option maxRecDepth 20000 in
theorem ok_X9_removeFact : mi_ok M_X9_removeFact := ⟨by decide +kernel, by decide +kernel, by decide +kernel, by decide +kernel⟩
def M_X9_facts : MI := (yX9_facts, cX9_facts, 1, (some .int), [(0, .aload_n 0, 1, 1, 0), (1, .getfield 12, 3, 4, 0), (4, .getfield 105, 3, 7, 0), (7, .ireturn, 1, 8, 0)])
set_option maxRecDepth 20000 in
theorem ok_X9_facts : mi_ok M_X9_facts := ⟨by decide +kernel, by decide +kernel, by decide +kernel, by decide +kernel⟩
def M_X9_removeRule : MI := (yX9_removeRule, cX9_removeRule, 2, (some .int), [(0, .iload_n 1, 1, 1, 0), (1, .ifCond .lt 14, 3, 4, 15), (4, .iload_n 1, 1, 5, 0), (5, .aload_n 0, 1, 6, 0), (6, .getfield 12, 3, 9, 0), (9, .getfield 121, 3, 12, 0), (12, .if_icmp .lt 5, 3, 15, 17), (15, .iconst (-1), 1, 16, 0), (16, .ireturn, 1, 17, 0), (17, .aload_n 0, 1, 18, 0), (18, .getfield 12, 3, 21, 0), (21, .iload_n 1, 1, 22, 0), (22, .invokevirtual 124, 3, 25, 0), (25, .aload_n 0, 1, 26, 0), (26, .invokevirtual 87, 3, 29, 0), (29, .aload_n 0, 1, 30, 0), (30, .getfield 12, 3, 33, 0), (33, .getfield 121, 3, 36, 0), (36, .ireturn, 1, 37, 0)])
set_option maxRecDepth 20000 in
theorem ok_X9_removeRule : mi_ok M_X9_removeRule := ⟨by decide +kernel, by decide +kernel, by decide +kernel, by decide +kernel⟩
def M_X9_rules : MI := (yX9_rules, cX9_rules, 1, (some .int), [(0, .aload_n 0, 1, 1, 0), (1, .getfield 12, 3, 4, 0), (4, .getfield 121, 3, 7, 0), (7, .ireturn, 1, 8, 0)])
set_option maxRecDepth 20000 in
theorem ok_X9_rules : mi_ok M_X9_rules := ⟨by decide +kernel, by decide +kernel, by decide +kernel, by decide +kernel⟩
def M_X9_append : MI := (yX9_append, cX9_append, 2, (some .int), [(0, .iload_n 1, 1, 1, 0), (1, .ifCond .lt 9, 3, 4, 10), (4, .iload_n 1, 1, 5, 0), (5, .bipush 127, 2, 7, 0), (7, .if_icmp .le 6, 3, 10, 13), (10, .bipush (-2), 2, 12, 0), (12, .ireturn, 1, 13, 0), (13, .aload_n 0, 1, 14, 0), (14, .getfield 27, 3, 17, 0), (17, .getfield 127, 3, 20, 0), (20, .bipush 60, 2, 22, 0), (22, .if_icmp .lt 6, 3, 25, 28), (25, .bipush (-4), 2, 27, 0), (27, .ireturn, 1, 28, 0), (28, .aload_n 0, 1, 29, 0), (29, .getfield 27, 3, 32, 0), (32, .iload_n 1, 1, 33, 0), (33, .invokevirtual 130, 3, 36, 0), (36, .aload_n 0, 1, 37, 0), (37, .getfield 27, 3, 40, 0), (40, .getfield 127, 3, 43, 0), (43, .ireturn, 1, 44, 0)])
set_option maxRecDepth 20000 in
theorem ok_X9_append : mi_ok M_X9_append := ⟨by decide +kernel, by decide +kernel, by decide +kernel, by decide +kernel⟩
def M_X9_clearText : MI := (yX9_clearText, cX9_clearText, 2, (some .int), [(0, .aload_n 0, 1, 1, 0), (1, .getfield 27, 3, 4, 0), (4, .getfield 127, 3, 7, 0), (7, .istore_n 1, 1, 8, 0), (8, .aload_n 0, 1, 9, 0), (9, .getfield 27, 3, 12, 0), (12, .iconst 0, 1, 13, 0), (13, .putfield 127, 3, 16, 0), (16, .iload_n 1, 1, 17, 0), (17, .ireturn, 1, 18, 0)])
set_option maxRecDepth 20000 in
theorem ok_X9_clearText : mi_ok M_X9_clearText := ⟨by decide +kernel, by decide +kernel, by decide +kernel, by decide +kernel⟩
def M_X9_faultPosition : MI := (yX9_faultPosition, cX9_faultPosition, 1, (some .int), [(0, .aload_n 0, 1, 1, 0), (1, .getfield 27, 3, 4, 0), (4, .aload_n 0, 1, 5, 0), (5, .getfield 12, 3, 8, 0), (8, .invokevirtual 133, 3, 11, 0), (11, .ireturn, 1, 12, 0)])
set_option maxRecDepth 20000 in
theorem ok_X9_faultPosition : mi_ok M_X9_faultPosition := ⟨by decide +kernel, by decide +kernel, by decide +kernel, by decide +kernel⟩
def M_X9_addRule : MI := (yX9_addRule, cX9_addRule, 3, (some .int), [(0, .iload_n 1, 1, 1, 0), (1, .iconst 1, 1, 2, 0), (2, .if_icmp .lt 9, 3, 5, 11), (5, .iload_n 1, 1, 6, 0), (6, .bipush 9, 2, 8, 0), (8, .if_icmp .le 6, 3, 11, 14), (11, .bipush (-2), 2, 13, 0), (13, .ireturn, 1, 14, 0), (14, .aload_n 0, 1, 15, 0), (15, .getfield 27, 3, 18, 0), (18, .aload_n 0, 1, 19, 0), (19, .getfield 12, 3, 22, 0), (22, .invokevirtual 133, 3, 25, 0), (25, .bipush (-5), 2, 27, 0), (27, .if_icmp .eq 6, 3, 30, 33), (30, .bipush (-3), 2, 32, 0), (32, .ireturn, 1, 33, 0), (33, .aload_n 0, 1, 34, 0), (34, .getfield 12, 3, 37, 0), (37, .getfield 121, 3, 40, 0), (40, .bipush 8, 2, 42, 0), (42, .if_icmp .lt 6, 3, 45, 48), (45, .bipush (-4), 2, 47, 0), (47, .ireturn, 1, 48, 0), (48, .aload_n 0, 1, 49, 0), (49, .getfield 12, 3, 52, 0), (52, .aload_n 0, 1, 53, 0), (53, .getfield 27, 3, 56, 0), (56, .getfield 137, 3, 59, 0), (59, .iload_n 1, 1, 60, 0), (60, .invokevirtual 141, 3, 63, 0), (63, .istore_n 2, 1, 64, 0), (64, .aload_n 0, 1, 65, 0), (65, .invokevirtual 87, 3, 68, 0), (68, .iload_n 2, 1, 69, 0), (69, .ireturn, 1, 70, 0)])
set_option maxRecDepth 20000 in
theorem ok_X9_addRule : mi_ok M_X9_addRule := ⟨by decide +kernel, by decide +kernel, by decide +kernel, by decide +kernel⟩
def M_X9_stratum : MI := (yX9_stratum, cX9_stratum, 2, (some .int), [(0, .iload_n 1, 1, 1, 0), (1, .invokestatic 90, 3, 4, 0), (4, .ifCond .ne 5, 3, 7, 9), (7, .iconst (-1), 1, 8, 0), (8, .ireturn, 1, 9, 0), (9, .aload_n 0, 1, 10, 0), (10, .invokevirtual 145, 3, 13, 0), (13, .ifCond .ne 6, 3, 16, 19), (16, .bipush (-6), 2, 18, 0), (18, .ireturn, 1, 19, 0), (19, .aload_n 0, 1, 20, 0), (20, .getfield 34, 3, 23, 0), (23, .getfield 149, 3, 26, 0), (26, .iload_n 1, 1, 27, 0), (27, .iaload, 1, 28, 0), (28, .ireturn, 1, 29, 0)])
set_option maxRecDepth 20000 in
theorem ok_X9_stratum : mi_ok M_X9_stratum := ⟨by decide +kernel, by decide +kernel, by decide +kernel, by decide +kernel⟩
def M_X9_size : MI := (yX9_size, cX9_size, 1, (some .int), [(0, .aload_n 0, 1, 1, 0), (1, .invokevirtual 145, 3, 4, 0), (4, .ifCond .ne 6, 3, 7, 10), (7, .bipush (-6), 2, 9, 0), (9, .ireturn, 1, 10, 0), (10, .aload_n 0, 1, 11, 0), (11, .getfield 41, 3, 14, 0), (14, .getfield 152, 3, 17, 0), (17, .ireturn, 1, 18, 0)])
set_option maxRecDepth 20000 in
theorem ok_X9_size : mi_ok M_X9_size := ⟨by decide +kernel, by decide +kernel, by decide +kernel, by decide +kernel⟩
def M_X9_count : MI := (yX9_count, cX9_count, 2, (some .int), [(0, .iload_n 1, 1, 1, 0), (1, .invokestatic 90, 3, 4, 0), (4, .ifCond .ne 5, 3, 7, 9), (7, .iconst (-1), 1, 8, 0), (8, .ireturn, 1, 9, 0), (9, .aload_n 0, 1, 10, 0), (10, .invokevirtual 145, 3, 13, 0), (13, .ifCond .ne 6, 3, 16, 19), (16, .bipush (-6), 2, 18, 0), (18, .ireturn, 1, 19, 0), (19, .aload_n 0, 1, 20, 0), (20, .getfield 41, 3, 23, 0), (23, .iload_n 1, 1, 24, 0), (24, .invokevirtual 155, 3, 27, 0), (27, .ireturn, 1, 28, 0)])
set_option maxRecDepth 20000 in
theorem ok_X9_count : mi_ok M_X9_count := ⟨by decide +kernel, by decide +kernel, by decide +kernel, by decide +kernel⟩
def M_X9_rounds : MI := (yX9_rounds, cX9_rounds, 1, (some .int), [(0, .aload_n 0, 1, 1, 0), (1, .invokevirtual 145, 3, 4, 0), (4, .ifCond .ne 6, 3, 7, 10), (7, .bipush (-6), 2, 9, 0), (9, .ireturn, 1, 10, 0), (10, .aload_n 0, 1, 11, 0), (11, .getfield 41, 3, 14, 0), (14, .getfield 159, 3, 17, 0), (17, .ireturn, 1, 18, 0)])
set_option maxRecDepth 20000 in
theorem ok_X9_rounds : mi_ok M_X9_rounds := ⟨by decide +kernel, by decide +kernel, by decide +kernel, by decide +kernel⟩
def M_X9_round : MI := (yX9_round, cX9_round, 5, (some .int), [(0, .aload_n 0, 1, 1, 0), (1, .iload_n 1, 1, 2, 0), (2, .iload_n 2, 1, 3, 0), (3, .iload_n 3, 1, 4, 0), (4, .invokevirtual 162, 3, 7, 0), (7, .istore 4, 2, 9, 0), (9, .iload 4, 2, 11, 0), (11, .ifCond .ge 8, 3, 14, 19), (14, .iload 4, 2, 16, 0), (16, .goto 13, 3, 19, 29), (19, .aload_n 0, 1, 20, 0), (20, .getfield 41, 3, 23, 0), (23, .getfield 165, 3, 26, 0), (26, .iload 4, 2, 28, 0), (28, .iaload, 1, 29, 0), (29, .ireturn, 1, 30, 0)])
set_option maxRecDepth 20000 in
theorem ok_X9_round : mi_ok M_X9_round := ⟨by decide +kernel, by decide +kernel, by decide +kernel, by decide +kernel⟩
def M_X9_instances : MI := (yX9_instances, cX9_instances, 4, (some .int), [(0, .aload_n 0, 1, 1, 0), (1, .getfield 12, 3, 4, 0), (4, .iload_n 1, 1, 5, 0), (5, .iload_n 2, 1, 6, 0), (6, .iload_n 3, 1, 7, 0), (7, .invokevirtual 101, 3, 10, 0), (10, .ifCond .ne 5, 3, 13, 15), (13, .iconst (-1), 1, 14, 0), (14, .ireturn, 1, 15, 0), (15, .aload_n 0, 1, 16, 0), (16, .invokevirtual 145, 3, 19, 0), (19, .ifCond .ne 6, 3, 22, 25), (22, .bipush (-6), 2, 24, 0), (24, .ireturn, 1, 25, 0), (25, .aload_n 0, 1, 26, 0), (26, .getfield 48, 3, 29, 0), (29, .getfield 168, 3, 32, 0), (32, .iload_n 1, 1, 33, 0), (33, .iload_n 2, 1, 34, 0), (34, .iload_n 3, 1, 35, 0), (35, .invokestatic 108, 3, 38, 0), (38, .iaload, 1, 39, 0), (39, .ireturn, 1, 40, 0)])
set_option maxRecDepth 20000 in
theorem ok_X9_instances : mi_ok M_X9_instances := ⟨by decide +kernel, by decide +kernel, by decide +kernel, by decide +kernel⟩
def M_X9_cost : MI := (yX9_cost, cX9_cost, 5, (some .int), [(0, .aload_n 0, 1, 1, 0), (1, .iload_n 1, 1, 2, 0), (2, .iload_n 2, 1, 3, 0), (3, .iload_n 3, 1, 4, 0), (4, .invokevirtual 162, 3, 7, 0), (7, .istore 4, 2, 9, 0), (9, .iload 4, 2, 11, 0), (11, .ifCond .ge 6, 3, 14, 17), (14, .iload 4, 2, 16, 0), (16, .ireturn, 1, 17, 0), (17, .aload_n 0, 1, 18, 0), (18, .invokevirtual 171, 3, 21, 0), (21, .aload_n 0, 1, 22, 0), (22, .getfield 55, 3, 25, 0), (25, .getfield 174, 3, 28, 0), (28, .iload 4, 2, 30, 0), (30, .iaload, 1, 31, 0), (31, .ireturn, 1, 32, 0)])
set_option maxRecDepth 20000 in
theorem ok_X9_cost : mi_ok M_X9_cost := ⟨by decide +kernel, by decide +kernel, by decide +kernel, by decide +kernel⟩
def M_X9_likelihood : MI := (yX9_likelihood, cX9_likelihood, 5, (some .int), [(0, .aload_n 0, 1, 1, 0), (1, .iload_n 1, 1, 2, 0), (2, .iload_n 2, 1, 3, 0), (3, .iload_n 3, 1, 4, 0), (4, .invokevirtual 162, 3, 7, 0), (7, .istore 4, 2, 9, 0), (9, .iload 4, 2, 11, 0), (11, .ifCond .ge 6, 3, 14, 17), (14, .iload 4, 2, 16, 0), (16, .ireturn, 1, 17, 0), (17, .aload_n 0, 1, 18, 0), (18, .invokevirtual 177, 3, 21, 0), (21, .aload_n 0, 1, 22, 0), (22, .getfield 62, 3, 25, 0), (25, .getfield 180, 3, 28, 0), (28, .iload 4, 2, 30, 0), (30, .faload, 1, 31, 0), (31, .invokestatic 184, 3, 34, 0), (34, .ireturn, 1, 35, 0)])
set_option maxRecDepth 20000 in
theorem ok_X9_likelihood : mi_ok M_X9_likelihood := ⟨by decide +kernel, by decide +kernel, by decide +kernel, by decide +kernel⟩
def M_X9_least : MI := (yX9_least, cX9_least, 6, (some .int), [(0, .aload_n 0, 1, 1, 0), (1, .getfield 12, 3, 4, 0), (4, .iload_n 1, 1, 5, 0), (5, .iload_n 2, 1, 6, 0), (6, .iload_n 3, 1, 7, 0), (7, .invokevirtual 101, 3, 10, 0), (10, .ifCond .ne 5, 3, 13, 15), (13, .iconst (-1), 1, 14, 0), (14, .ireturn, 1, 15, 0), (15, .iload 4, 2, 17, 0), (17, .ifCond .lt 9, 3, 20, 26), (20, .iload 4, 2, 22, 0), (22, .iconst 2, 1, 23, 0), (23, .if_icmp .le 6, 3, 26, 29), (26, .bipush (-2), 2, 28, 0), (28, .ireturn, 1, 29, 0), (29, .aload_n 0, 1, 30, 0), (30, .iload_n 1, 1, 31, 0), (31, .iload_n 2, 1, 32, 0), (32, .iload_n 3, 1, 33, 0), (33, .invokevirtual 162, 3, 36, 0), (36, .istore 5, 2, 38, 0), (38, .iload 5, 2, 40, 0), (40, .ifCond .ge 6, 3, 43, 46), (43, .iload 5, 2, 45, 0), (45, .ireturn, 1, 46, 0), (46, .aload_n 0, 1, 47, 0), (47, .invokevirtual 171, 3, 50, 0), (50, .aload_n 0, 1, 51, 0), (51, .iload 5, 2, 53, 0), (53, .iload 4, 2, 55, 0), (55, .invokevirtual 188, 3, 58, 0), (58, .ireturn, 1, 59, 0)])
set_option maxRecDepth 20000 in
theorem ok_X9_least : mi_ok M_X9_least := ⟨by decide +kernel, by decide +kernel, by decide +kernel, by decide +kernel⟩
def M_X9_needs : MI := (yX9_needs, cX9_needs, 5, (some .int), [(0, .aload_n 0, 1, 1, 0), (1, .iload_n 1, 1, 2, 0), (2, .iload_n 2, 1, 3, 0), (3, .iload_n 3, 1, 4, 0), (4, .invokevirtual 162, 3, 7, 0), (7, .istore 4, 2, 9, 0), (9, .iload 4, 2, 11, 0), (11, .ifCond .ge 6, 3, 14, 17), (14, .iload 4, 2, 16, 0), (16, .ireturn, 1, 17, 0), (17, .aload_n 0, 1, 18, 0), (18, .invokevirtual 192, 3, 21, 0), (21, .aload_n 0, 1, 22, 0), (22, .getfield 69, 3, 25, 0), (25, .iload 4, 2, 27, 0), (27, .invokevirtual 195, 3, 30, 0), (30, .ireturn, 1, 31, 0)])
set_option maxRecDepth 20000 in
theorem ok_X9_needs : mi_ok M_X9_needs := ⟨by decide +kernel, by decide +kernel, by decide +kernel, by decide +kernel⟩
def M_X9_cut : MI := (yX9_cut, cX9_cut, 5, (some .int), [(0, .aload_n 0, 1, 1, 0), (1, .iload_n 1, 1, 2, 0), (2, .iload_n 2, 1, 3, 0), (3, .iload_n 3, 1, 4, 0), (4, .invokevirtual 162, 3, 7, 0), (7, .istore 4, 2, 9, 0), (9, .iload 4, 2, 11, 0), (11, .ifCond .ge 6, 3, 14, 17), (14, .iload 4, 2, 16, 0), (16, .ireturn, 1, 17, 0), (17, .aload_n 0, 1, 18, 0), (18, .invokevirtual 192, 3, 21, 0), (21, .aload_n 0, 1, 22, 0), (22, .getfield 69, 3, 25, 0), (25, .iload 4, 2, 27, 0), (27, .invokevirtual 198, 3, 30, 0), (30, .ireturn, 1, 31, 0)])
set_option maxRecDepth 20000 in
theorem ok_X9_cut : mi_ok M_X9_cut := ⟨by decide +kernel, by decide +kernel, by decide +kernel, by decide +kernel⟩
def M_X9_sizeWithout : MI := (yX9_sizeWithout, cX9_sizeWithout, 2, (some .int), [(0, .iload_n 1, 1, 1, 0), (1, .ifCond .ge 6, 3, 4, 7), (4, .bipush (-2), 2, 6, 0), (6, .ireturn, 1, 7, 0), (7, .aload_n 0, 1, 8, 0), (8, .invokevirtual 145, 3, 11, 0), (11, .ifCond .ne 6, 3, 14, 17), (14, .bipush (-6), 2, 16, 0), (16, .ireturn, 1, 17, 0), (17, .aload_n 0, 1, 18, 0), (18, .iload_n 1, 1, 19, 0), (19, .invokevirtual 201, 3, 22, 0), (22, .aload_n 0, 1, 23, 0), (23, .getfield 73, 3, 26, 0), (26, .getfield 152, 3, 29, 0), (29, .ireturn, 1, 30, 0)])
set_option maxRecDepth 20000 in
theorem ok_X9_sizeWithout : mi_ok M_X9_sizeWithout := ⟨by decide +kernel, by decide +kernel, by decide +kernel, by decide +kernel⟩
def M_X9_holdsWithout : MI := (yX9_holdsWithout, cX9_holdsWithout, 5, (some .int), [(0, .aload_n 0, 1, 1, 0), (1, .getfield 12, 3, 4, 0), (4, .iload_n 2, 1, 5, 0), (5, .iload_n 3, 1, 6, 0), (6, .iload 4, 2, 8, 0), (8, .invokevirtual 101, 3, 11, 0), (11, .ifCond .ne 5, 3, 14, 16), (14, .iconst (-1), 1, 15, 0), (15, .ireturn, 1, 16, 0), (16, .iload_n 1, 1, 17, 0), (17, .ifCond .ge 6, 3, 20, 23), (20, .bipush (-2), 2, 22, 0), (22, .ireturn, 1, 23, 0), (23, .aload_n 0, 1, 24, 0), (24, .invokevirtual 145, 3, 27, 0), (27, .ifCond .ne 6, 3, 30, 33), (30, .bipush (-6), 2, 32, 0), (32, .ireturn, 1, 33, 0), (33, .aload_n 0, 1, 34, 0), (34, .iload_n 1, 1, 35, 0), (35, .invokevirtual 201, 3, 38, 0), (38, .aload_n 0, 1, 39, 0), (39, .getfield 73, 3, 42, 0), (42, .getfield 165, 3, 45, 0), (45, .iload_n 2, 1, 46, 0), (46, .iload_n 3, 1, 47, 0), (47, .iload 4, 2, 49, 0), (49, .invokestatic 108, 3, 52, 0), (52, .iaload, 1, 53, 0), (53, .iconst (-1), 1, 54, 0), (54, .if_icmp .ne 7, 3, 57, 61), (57, .iconst 0, 1, 58, 0), (58, .goto 4, 3, 61, 62), (61, .iconst 1, 1, 62, 0), (62, .ireturn, 1, 63, 0)])
set_option maxRecDepth 20000 in
theorem ok_X9_holdsWithout : mi_ok M_X9_holdsWithout := ⟨by decide +kernel, by decide +kernel, by decide +kernel, by decide +kernel⟩
def M_X9_save : MI := (yX9_save, cX9_save, 2, (some .int), [(0, .iload_n 1, 1, 1, 0), (1, .ifCond .lt 8, 3, 4, 9), (4, .iload_n 1, 1, 5, 0), (5, .iconst 2, 1, 6, 0), (6, .if_icmp .lt 5, 3, 9, 11), (9, .iconst (-1), 1, 10, 0), (10, .ireturn, 1, 11, 0), (11, .aload_n 0, 1, 12, 0), (12, .getfield 16, 3, 15, 0), (15, .iload_n 1, 1, 16, 0), (16, .aaload, 1, 17, 0), (17, .aload_n 0, 1, 18, 0), (18, .getfield 12, 3, 21, 0), (21, .invokevirtual 204, 3, 24, 0), (24, .aload_n 0, 1, 25, 0), (25, .getfield 20, 3, 28, 0), (28, .iload_n 1, 1, 29, 0), (29, .iconst 1, 1, 30, 0), (30, .bastore, 1, 31, 0), (31, .aload_n 0, 1, 32, 0), (32, .getfield 12, 3, 35, 0), (35, .getfield 121, 3, 38, 0), (38, .ireturn, 1, 39, 0)])
set_option maxRecDepth 20000 in
theorem ok_X9_save : mi_ok M_X9_save := ⟨by decide +kernel, by decide +kernel, by decide +kernel, by decide +kernel⟩
def M_X9_restore : MI := (yX9_restore, cX9_restore, 2, (some .int), [(0, .iload_n 1, 1, 1, 0), (1, .ifCond .lt 8, 3, 4, 9), (4, .iload_n 1, 1, 5, 0), (5, .iconst 2, 1, 6, 0), (6, .if_icmp .lt 5, 3, 9, 11), (9, .iconst (-1), 1, 10, 0), (10, .ireturn, 1, 11, 0), (11, .aload_n 0, 1, 12, 0), (12, .getfield 20, 3, 15, 0), (15, .iload_n 1, 1, 16, 0), (16, .baload, 1, 17, 0), (17, .ifCond .ne 6, 3, 20, 23), (20, .bipush (-3), 2, 22, 0), (22, .ireturn, 1, 23, 0), (23, .aload_n 0, 1, 24, 0), (24, .getfield 12, 3, 27, 0), (27, .aload_n 0, 1, 28, 0), (28, .getfield 16, 3, 31, 0), (31, .iload_n 1, 1, 32, 0), (32, .aaload, 1, 33, 0), (33, .invokevirtual 204, 3, 36, 0), (36, .aload_n 0, 1, 37, 0), (37, .invokevirtual 87, 3, 40, 0), (40, .aload_n 0, 1, 41, 0), (41, .getfield 12, 3, 44, 0), (44, .getfield 121, 3, 47, 0), (47, .ireturn, 1, 48, 0)])
set_option maxRecDepth 20000 in
theorem ok_X9_restore : mi_ok M_X9_restore := ⟨by decide +kernel, by decide +kernel, by decide +kernel, by decide +kernel⟩
def M_X9_checksum : MI := (yX9_checksum, cX9_checksum, 4, (some .long), [(0, .ldc2_w 208, 3, 3, 0), (3, .lstore_n 1, 1, 4, 0), (4, .ldc2_w 210, 3, 7, 0), (7, .lload_n 1, 1, 8, 0), (8, .lmul, 1, 9, 0), (9, .aload_n 0, 1, 10, 0), (10, .getfield 12, 3, 13, 0), (13, .getfield 80, 3, 16, 0), (16, .i2l, 1, 17, 0), (17, .ladd, 1, 18, 0), (18, .lstore_n 1, 1, 19, 0), (19, .ldc2_w 210, 3, 22, 0), (22, .lload_n 1, 1, 23, 0), (23, .lmul, 1, 24, 0), (24, .aload_n 0, 1, 25, 0), (25, .getfield 12, 3, 28, 0), (28, .getfield 105, 3, 31, 0), (31, .i2l, 1, 32, 0), (32, .ladd, 1, 33, 0), (33, .lstore_n 1, 1, 34, 0), (34, .ldc2_w 210, 3, 37, 0), (37, .lload_n 1, 1, 38, 0), (38, .lmul, 1, 39, 0), (39, .aload_n 0, 1, 40, 0), (40, .getfield 12, 3, 43, 0), (43, .getfield 121, 3, 46, 0), (46, .i2l, 1, 47, 0), (47, .ladd, 1, 48, 0), (48, .lstore_n 1, 1, 49, 0), (49, .ldc2_w 210, 3, 52, 0), (52, .lload_n 1, 1, 53, 0), (53, .lmul, 1, 54, 0), (54, .aload_n 0, 1, 55, 0), (55, .invokevirtual 212, 3, 58, 0), (58, .i2l, 1, 59, 0), (59, .ladd, 1, 60, 0), (60, .lstore_n 1, 1, 61, 0), (61, .aload_n 0, 1, 62, 0), (62, .invokevirtual 145, 3, 65, 0), (65, .ifCond .ne 5, 3, 68, 70), (68, .lload_n 1, 1, 69, 0), (69, .lreturn, 1, 70, 0), (70, .ldc2_w 210, 3, 73, 0), (73, .lload_n 1, 1, 74, 0), (74, .lmul, 1, 75, 0), (75, .aload_n 0, 1, 76, 0), (76, .getfield 41, 3, 79, 0), (79, .getfield 159, 3, 82, 0), (82, .i2l, 1, 83, 0), (83, .ladd, 1, 84, 0), (84, .lstore_n 1, 1, 85, 0), (85, .iconst 0, 1, 86, 0), (86, .istore_n 3, 1, 87, 0), (87, .iload_n 3, 1, 88, 0), (88, .bipush 6, 2, 90, 0), (90, .if_icmp .ge 26, 3, 93, 116), (93, .ldc2_w 210, 3, 96, 0), (96, .lload_n 1, 1, 97, 0), (97, .lmul, 1, 98, 0), (98, .aload_n 0, 1, 99, 0), (99, .getfield 34, 3, 102, 0), (102, .getfield 149, 3, 105, 0), (105, .iload_n 3, 1, 106, 0), (106, .iaload, 1, 107, 0), (107, .i2l, 1, 108, 0), (108, .ladd, 1, 109, 0), (109, .lstore_n 1, 1, 110, 0), (110, .iinc 3 1, 3, 113, 0), (113, .goto (-26), 3, 116, 87), (116, .aload_n 0, 1, 117, 0), (117, .invokevirtual 171, 3, 120, 0), (120, .aload_n 0, 1, 121, 0), (121, .invokevirtual 177, 3, 124, 0), (124, .iconst 0, 1, 125, 0), (125, .istore_n 3, 1, 126, 0), (126, .iload_n 3, 1, 127, 0), (127, .sipush 216, 3, 130, 0), (130, .if_icmp .ge 29, 3, 133, 159), (133, .aload_n 0, 1, 134, 0), (134, .getfield 41, 3, 137, 0), (137, .getfield 165, 3, 140, 0), (140, .iload_n 3, 1, 141, 0), (141, .iaload, 1, 142, 0), (142, .iconst (-1), 1, 143, 0), (143, .if_icmp .eq 10, 3, 146, 153), (146, .aload_n 0, 1, 147, 0), (147, .lload_n 1, 1, 148, 0), (148, .iload_n 3, 1, 149, 0), (149, .invokevirtual 216, 3, 152, 0), (152, .lstore_n 1, 1, 153, 0), (153, .iinc 3 1, 3, 156, 0), (156, .goto (-30), 3, 159, 126), (159, .lload_n 1, 1, 160, 0), (160, .lreturn, 1, 161, 0)])
set_option maxRecDepth 20000 in
theorem ok_X9_checksum : mi_ok M_X9_checksum := ⟨by decide +kernel, by decide +kernel, by decide +kernel, by decide +kernel⟩
def M_X9_isPredicate : MI := (yX9_isPredicate, cX9_isPredicate, 1, (some .boolean), [(0, .iload_n 0, 1, 1, 0), (1, .ifCond .lt 13, 3, 4, 14), (4, .iload_n 0, 1, 5, 0), (5, .bipush 6, 2, 7, 0), (7, .if_icmp .ge 7, 3, 10, 14), (10, .iconst 1, 1, 11, 0), (11, .goto 4, 3, 14, 15), (14, .iconst 0, 1, 15, 0), (15, .ireturn, 1, 16, 0)])
set_option maxRecDepth 20000 in
theorem ok_X9_isPredicate : mi_ok M_X9_isPredicate := ⟨by decide +kernel, by decide +kernel, by decide +kernel, by decide +kernel⟩
def M_X9_atomNumber : MI := (yX9_atomNumber, cX9_atomNumber, 3, (some .int), [(0, .iload_n 0, 1, 1, 0), (1, .bipush 36, 2, 3, 0), (3, .imul, 1, 4, 0), (4, .iload_n 1, 1, 5, 0), (5, .bipush 6, 2, 7, 0), (7, .imul, 1, 8, 0), (8, .iadd, 1, 9, 0), (9, .iload_n 2, 1, 10, 0), (10, .iadd, 1, 11, 0), (11, .ireturn, 1, 12, 0)])
set_option maxRecDepth 20000 in
theorem ok_X9_atomNumber : mi_ok M_X9_atomNumber := ⟨by decide +kernel, by decide +kernel, by decide +kernel, by decide +kernel⟩
def M_X9_atomOfModel : MI := (yX9_atomOfModel, cX9_atomOfModel, 5, (some .int), [(0, .aload_n 0, 1, 1, 0), (1, .getfield 12, 3, 4, 0), (4, .iload_n 1, 1, 5, 0), (5, .iload_n 2, 1, 6, 0), (6, .iload_n 3, 1, 7, 0), (7, .invokevirtual 101, 3, 10, 0), (10, .ifCond .ne 5, 3, 13, 15), (13, .iconst (-1), 1, 14, 0), (14, .ireturn, 1, 15, 0), (15, .aload_n 0, 1, 16, 0), (16, .invokevirtual 145, 3, 19, 0), (19, .ifCond .ne 6, 3, 22, 25), (22, .bipush (-6), 2, 24, 0), (24, .ireturn, 1, 25, 0), (25, .iload_n 1, 1, 26, 0), (26, .iload_n 2, 1, 27, 0), (27, .iload_n 3, 1, 28, 0), (28, .invokestatic 108, 3, 31, 0), (31, .istore 4, 2, 33, 0), (33, .aload_n 0, 1, 34, 0), (34, .getfield 41, 3, 37, 0), (37, .getfield 165, 3, 40, 0), (40, .iload 4, 2, 42, 0), (42, .iaload, 1, 43, 0), (43, .iconst (-1), 1, 44, 0), (44, .if_icmp .ne 8, 3, 47, 52), (47, .bipush (-5), 2, 49, 0), (49, .goto 5, 3, 52, 54), (52, .iload 4, 2, 54, 0), (54, .ireturn, 1, 55, 0)])
set_option maxRecDepth 20000 in
theorem ok_X9_atomOfModel : mi_ok M_X9_atomOfModel := ⟨by decide +kernel, by decide +kernel, by decide +kernel, by decide +kernel⟩
def M_X9_leastOf : MI := (yX9_leastOf, cX9_leastOf, 3, (some .int), [(0, .aload_n 0, 1, 1, 0), (1, .getfield 55, 3, 4, 0), (4, .getfield 174, 3, 7, 0), (7, .iload_n 1, 1, 8, 0), (8, .iaload, 1, 9, 0), (9, .ldc 220, 2, 11, 0), (11, .if_icmp .lt 6, 3, 14, 17), (14, .bipush (-5), 2, 16, 0), (16, .ireturn, 1, 17, 0), (17, .iload_n 2, 1, 18, 0), (18, .ifCond .ne 13, 3, 21, 31), (21, .aload_n 0, 1, 22, 0), (22, .getfield 55, 3, 25, 0), (25, .getfield 221, 3, 28, 0), (28, .iload_n 1, 1, 29, 0), (29, .iaload, 1, 30, 0), (30, .ireturn, 1, 31, 0), (31, .iload_n 2, 1, 32, 0), (32, .iconst 1, 1, 33, 0), (33, .if_icmp .ne 15, 3, 36, 48), (36, .aload_n 0, 1, 37, 0), (37, .getfield 55, 3, 40, 0), (40, .getfield 224, 3, 43, 0), (43, .iload_n 1, 1, 44, 0), (44, .iaload, 1, 45, 0), (45, .goto 12, 3, 48, 57), (48, .aload_n 0, 1, 49, 0), (49, .getfield 55, 3, 52, 0), (52, .getfield 227, 3, 55, 0), (55, .iload_n 1, 1, 56, 0), (56, .iaload, 1, 57, 0), (57, .ireturn, 1, 58, 0)])
set_option maxRecDepth 20000 in
theorem ok_X9_leastOf : mi_ok M_X9_leastOf := ⟨by decide +kernel, by decide +kernel, by decide +kernel, by decide +kernel⟩
def M_X9_withAtom : MI := (yX9_withAtom, cX9_withAtom, 7, (some .long), [(0, .lload_n 1, 1, 1, 0), (1, .lstore 4, 2, 3, 0), (3, .ldc2_w 210, 3, 6, 0), (6, .lload 4, 2, 8, 0), (8, .lmul, 1, 9, 0), (9, .aload_n 0, 1, 10, 0), (10, .getfield 41, 3, 13, 0), (13, .getfield 165, 3, 16, 0), (16, .iload_n 3, 1, 17, 0), (17, .iaload, 1, 18, 0), (18, .i2l, 1, 19, 0), (19, .ladd, 1, 20, 0), (20, .lstore 4, 2, 22, 0), (22, .ldc2_w 210, 3, 25, 0), (25, .lload 4, 2, 27, 0), (27, .lmul, 1, 28, 0), (28, .aload_n 0, 1, 29, 0), (29, .getfield 48, 3, 32, 0), (32, .getfield 168, 3, 35, 0), (35, .iload_n 3, 1, 36, 0), (36, .iaload, 1, 37, 0), (37, .i2l, 1, 38, 0), (38, .ladd, 1, 39, 0), (39, .lstore 4, 2, 41, 0), (41, .ldc2_w 210, 3, 44, 0), (44, .lload 4, 2, 46, 0), (46, .lmul, 1, 47, 0), (47, .aload_n 0, 1, 48, 0), (48, .getfield 55, 3, 51, 0), (51, .getfield 174, 3, 54, 0), (54, .iload_n 3, 1, 55, 0), (55, .iaload, 1, 56, 0), (56, .i2l, 1, 57, 0), (57, .ladd, 1, 58, 0), (58, .lstore 4, 2, 60, 0), (60, .ldc2_w 210, 3, 63, 0), (63, .lload 4, 2, 65, 0), (65, .lmul, 1, 66, 0), (66, .aload_n 0, 1, 67, 0), (67, .getfield 62, 3, 70, 0), (70, .getfield 180, 3, 73, 0), (73, .iload_n 3, 1, 74, 0), (74, .faload, 1, 75, 0), (75, .invokestatic 184, 3, 78, 0), (78, .i2l, 1, 79, 0), (79, .ladd, 1, 80, 0), (80, .lstore 4, 2, 82, 0), (82, .iconst 0, 1, 83, 0), (83, .istore 6, 2, 85, 0), (85, .iload 6, 2, 87, 0), (87, .iconst 2, 1, 88, 0), (88, .if_icmp .gt 26, 3, 91, 114), (91, .ldc2_w 210, 3, 94, 0), (94, .lload 4, 2, 96, 0), (96, .lmul, 1, 97, 0), (97, .aload_n 0, 1, 98, 0), (98, .iload_n 3, 1, 99, 0), (99, .iload 6, 2, 101, 0), (101, .invokevirtual 188, 3, 104, 0), (104, .i2l, 1, 105, 0), (105, .ladd, 1, 106, 0), (106, .lstore 4, 2, 108, 0), (108, .iinc 6 1, 3, 111, 0), (111, .goto (-26), 3, 114, 85), (114, .lload 4, 2, 116, 0), (116, .lreturn, 1, 117, 0)])
set_option maxRecDepth 20000 in
theorem ok_X9_withAtom : mi_ok M_X9_withAtom := ⟨by decide +kernel, by decide +kernel, by decide +kernel, by decide +kernel⟩
def M_X9_rulesChanged : MI := (yX9_rulesChanged, cX9_rulesChanged, 1, none, [(0, .aload_n 0, 1, 1, 0), (1, .iconst 0, 1, 2, 0), (2, .putfield 230, 3, 5, 0), (5, .aload_n 0, 1, 6, 0), (6, .invokevirtual 115, 3, 9, 0), (9, .return_, 1, 10, 0)])
set_option maxRecDepth 20000 in
theorem ok_X9_rulesChanged : mi_ok M_X9_rulesChanged := ⟨by decide +kernel, by decide +kernel, by decide +kernel, by decide +kernel⟩
def M_X9_factsChanged : MI := (yX9_factsChanged, cX9_factsChanged, 1, none, [(0, .aload_n 0, 1, 1, 0), (1, .iconst 0, 1, 2, 0), (2, .putfield 234, 3, 5, 0), (5, .aload_n 0, 1, 6, 0), (6, .iconst 0, 1, 7, 0), (7, .putfield 237, 3, 10, 0), (10, .aload_n 0, 1, 11, 0), (11, .iconst 0, 1, 12, 0), (12, .putfield 240, 3, 15, 0), (15, .aload_n 0, 1, 16, 0), (16, .iconst 0, 1, 17, 0), (17, .putfield 243, 3, 20, 0), (20, .aload_n 0, 1, 21, 0), (21, .iconst (-1), 1, 22, 0), (22, .putfield 76, 3, 25, 0), (25, .return_, 1, 26, 0)])
set_option maxRecDepth 20000 in
theorem ok_X9_factsChanged : mi_ok M_X9_factsChanged := ⟨by decide +kernel, by decide +kernel, by decide +kernel, by decide +kernel⟩
def M_X9_hasModel : MI := (yX9_hasModel, cX9_hasModel, 1, (some .boolean), [(0, .aload_n 0, 1, 1, 0), (1, .getfield 230, 3, 4, 0), (4, .ifCond .ne 19, 3, 7, 23), (7, .aload_n 0, 1, 8, 0), (8, .getfield 34, 3, 11, 0), (11, .aload_n 0, 1, 12, 0), (12, .getfield 12, 3, 15, 0), (15, .invokevirtual 246, 3, 18, 0), (18, .aload_n 0, 1, 19, 0), (19, .iconst 1, 1, 20, 0), (20, .putfield 230, 3, 23, 0), (23, .aload_n 0, 1, 24, 0), (24, .getfield 34, 3, 27, 0), (27, .getfield 249, 3, 30, 0), (30, .ifCond .ne 5, 3, 33, 35), (33, .iconst 0, 1, 34, 0), (34, .ireturn, 1, 35, 0), (35, .aload_n 0, 1, 36, 0), (36, .getfield 234, 3, 39, 0), (39, .ifCond .ne 39, 3, 42, 78), (42, .aload_n 0, 1, 43, 0), (43, .getfield 41, 3, 46, 0), (46, .aload_n 0, 1, 47, 0), (47, .getfield 12, 3, 50, 0), (50, .aload_n 0, 1, 51, 0), (51, .getfield 34, 3, 54, 0), (54, .iconst 0, 1, 55, 0), (55, .invokevirtual 252, 3, 58, 0), (58, .aload_n 0, 1, 59, 0), (59, .getfield 48, 3, 62, 0), (62, .aload_n 0, 1, 63, 0), (63, .getfield 34, 3, 66, 0), (66, .aload_n 0, 1, 67, 0), (67, .getfield 41, 3, 70, 0), (70, .invokevirtual 256, 3, 73, 0), (73, .aload_n 0, 1, 74, 0), (74, .iconst 1, 1, 75, 0), (75, .putfield 234, 3, 78, 0), (78, .iconst 1, 1, 79, 0), (79, .ireturn, 1, 80, 0)])
set_option maxRecDepth 20000 in
theorem ok_X9_hasModel : mi_ok M_X9_hasModel := ⟨by decide +kernel, by decide +kernel, by decide +kernel, by decide +kernel⟩
def M_X9_computeCosts : MI := (yX9_computeCosts, cX9_computeCosts, 1, none, [(0, .aload_n 0, 1, 1, 0), (1, .getfield 237, 3, 4, 0), (4, .ifCond .ne 27, 3, 7, 31), (7, .aload_n 0, 1, 8, 0), (8, .getfield 55, 3, 11, 0), (11, .aload_n 0, 1, 12, 0), (12, .getfield 12, 3, 15, 0), (15, .aload_n 0, 1, 16, 0), (16, .getfield 34, 3, 19, 0), (19, .aload_n 0, 1, 20, 0), (20, .getfield 48, 3, 23, 0), (23, .invokevirtual 260, 3, 26, 0), (26, .aload_n 0, 1, 27, 0), (27, .iconst 1, 1, 28, 0), (28, .putfield 237, 3, 31, 0), (31, .return_, 1, 32, 0)])
set_option maxRecDepth 20000 in
theorem ok_X9_computeCosts : mi_ok M_X9_computeCosts := ⟨by decide +kernel, by decide +kernel, by decide +kernel, by decide +kernel⟩
def M_X9_computeLikelihoods : MI := (yX9_computeLikelihoods, cX9_computeLikelihoods, 1, none, [(0, .aload_n 0, 1, 1, 0), (1, .getfield 240, 3, 4, 0), (4, .ifCond .ne 27, 3, 7, 31), (7, .aload_n 0, 1, 8, 0), (8, .getfield 62, 3, 11, 0), (11, .aload_n 0, 1, 12, 0), (12, .getfield 12, 3, 15, 0), (15, .aload_n 0, 1, 16, 0), (16, .getfield 34, 3, 19, 0), (19, .aload_n 0, 1, 20, 0), (20, .getfield 48, 3, 23, 0), (23, .invokevirtual 264, 3, 26, 0), (26, .aload_n 0, 1, 27, 0), (27, .iconst 1, 1, 28, 0), (28, .putfield 240, 3, 31, 0), (31, .return_, 1, 32, 0)])
set_option maxRecDepth 20000 in
theorem ok_X9_computeLikelihoods : mi_ok M_X9_computeLikelihoods := ⟨by decide +kernel, by decide +kernel, by decide +kernel, by decide +kernel⟩
def M_X9_computeSurvivals : MI := (yX9_computeSurvivals, cX9_computeSurvivals, 1, none, [(0, .aload_n 0, 1, 1, 0), (1, .getfield 243, 3, 4, 0), (4, .ifCond .ne 27, 3, 7, 31), (7, .aload_n 0, 1, 8, 0), (8, .getfield 69, 3, 11, 0), (11, .aload_n 0, 1, 12, 0), (12, .getfield 12, 3, 15, 0), (15, .aload_n 0, 1, 16, 0), (16, .getfield 34, 3, 19, 0), (19, .aload_n 0, 1, 20, 0), (20, .getfield 48, 3, 23, 0), (23, .invokevirtual 265, 3, 26, 0), (26, .aload_n 0, 1, 27, 0), (27, .iconst 1, 1, 28, 0), (28, .putfield 243, 3, 31, 0), (31, .return_, 1, 32, 0)])
set_option maxRecDepth 20000 in
theorem ok_X9_computeSurvivals : mi_ok M_X9_computeSurvivals := ⟨by decide +kernel, by decide +kernel, by decide +kernel, by decide +kernel⟩
def M_X9_buildLesserModel : MI := (yX9_buildLesserModel, cX9_buildLesserModel, 3, none, [(0, .iload_n 1, 1, 1, 0), (1, .iconst 1, 1, 2, 0), (2, .aload_n 0, 1, 3, 0), (3, .getfield 12, 3, 6, 0), (6, .getfield 105, 3, 9, 0), (9, .ishl, 1, 10, 0), (10, .iconst 1, 1, 11, 0), (11, .isub, 1, 12, 0), (12, .iand, 1, 13, 0), (13, .istore_n 2, 1, 14, 0), (14, .aload_n 0, 1, 15, 0), (15, .getfield 76, 3, 18, 0), (18, .iload_n 2, 1, 19, 0), (19, .if_icmp .eq 24, 3, 22, 43), (22, .aload_n 0, 1, 23, 0), (23, .getfield 73, 3, 26, 0), (26, .aload_n 0, 1, 27, 0), (27, .getfield 12, 3, 30, 0), (30, .aload_n 0, 1, 31, 0), (31, .getfield 34, 3, 34, 0), (34, .iload_n 2, 1, 35, 0), (35, .invokevirtual 252, 3, 38, 0), (38, .aload_n 0, 1, 39, 0), (39, .iload_n 2, 1, 40, 0), (40, .putfield 76, 3, 43, 0), (43, .return_, 1, 44, 0)])
set_option maxRecDepth 20000 in
theorem ok_X9_buildLesserModel : mi_ok M_X9_buildLesserModel := ⟨by decide +kernel, by decide +kernel, by decide +kernel, by decide +kernel⟩
def M_X9_floatBits : MI := (yX9_floatBits, cX9_floatBits, 4, (some .int), [(0, .fload_n 0, 1, 1, 0), (1, .fconst 0, 1, 2, 0), (2, .fcmp .l, 1, 3, 0), (3, .ifCond .gt 5, 3, 6, 8), (6, .iconst 0, 1, 7, 0), (7, .ireturn, 1, 8, 0), (8, .fload_n 0, 1, 9, 0), (9, .fstore_n 1, 1, 10, 0), (10, .bipush 127, 2, 12, 0), (12, .istore_n 2, 1, 13, 0), (13, .iconst 1, 1, 14, 0), (14, .istore_n 3, 1, 15, 0), (15, .fload_n 1, 1, 16, 0), (16, .fconst 1, 1, 17, 0), (17, .fcmp .g, 1, 18, 0), (18, .ifCond .ge 22, 3, 21, 40), (21, .iload_n 3, 1, 22, 0), (22, .bipush 127, 2, 24, 0), (24, .if_icmp .ge 16, 3, 27, 40), (27, .fload_n 1, 1, 28, 0), (28, .fconst 2, 1, 29, 0), (29, .fmul, 1, 30, 0), (30, .fstore_n 1, 1, 31, 0), (31, .iinc 2 (-1), 3, 34, 0), (34, .iinc 3 1, 3, 37, 0), (37, .goto (-22), 3, 40, 15), (40, .fload_n 1, 1, 41, 0), (41, .fconst 1, 1, 42, 0), (42, .fcmp .g, 1, 43, 0), (43, .ifCond .ge 10, 3, 46, 53), (46, .fload_n 1, 1, 47, 0), (47, .ldc_w 266, 3, 50, 0), (50, .fmul, 1, 51, 0), (51, .f2i, 1, 52, 0), (52, .ireturn, 1, 53, 0), (53, .iload_n 2, 1, 54, 0), (54, .bipush 23, 2, 56, 0), (56, .ishl, 1, 57, 0), (57, .fload_n 1, 1, 58, 0), (58, .fconst 1, 1, 59, 0), (59, .fsub, 1, 60, 0), (60, .ldc_w 266, 3, 63, 0), (63, .fmul, 1, 64, 0), (64, .f2i, 1, 65, 0), (65, .ior, 1, 66, 0), (66, .ireturn, 1, 67, 0)])
set_option maxRecDepth 20000 in
theorem ok_X9_floatBits : mi_ok M_X9_floatBits := ⟨by decide +kernel, by decide +kernel, by decide +kernel, by decide +kernel⟩
def M_X10_init : MI := (yX10_init, cX10_init, 1, none, [(0, .aload_n 0, 1, 1, 0), (1, .invokespecial 1, 3, 4, 0), (4, .aload_n 0, 1, 5, 0), (5, .sipush 189, 3, 8, 0), (8, .newarray .int, 2, 10, 0), (10, .putfield 7, 3, 13, 0), (13, .aload_n 0, 1, 14, 0), (14, .sipush 378, 3, 17, 0), (17, .newarray .int, 2, 19, 0), (19, .putfield 13, 3, 22, 0), (22, .aload_n 0, 1, 23, 0), (23, .iconst 2, 1, 24, 0), (24, .newarray .boolean, 2, 26, 0), (26, .putfield 16, 3, 29, 0), (29, .aload_n 0, 1, 30, 0), (30, .bipush 60, 2, 32, 0), (32, .newarray .int, 2, 34, 0), (34, .putfield 20, 3, 37, 0), (37, .aload_n 0, 1, 38, 0), (38, .bipush 16, 2, 40, 0), (40, .newarray .int, 2, 42, 0), (42, .putfield 23, 3, 45, 0), (45, .aload_n 0, 1, 46, 0), (46, .bipush 6, 2, 48, 0), (48, .newarray .int, 2, 50, 0), (50, .putfield 26, 3, 53, 0), (53, .aload_n 0, 1, 54, 0), (54, .iconst 3, 1, 55, 0), (55, .newarray .int, 2, 57, 0), (57, .putfield 29, 3, 60, 0), (60, .aload_n 0, 1, 61, 0), (61, .sipush 216, 3, 64, 0), (64, .newarray .int, 2, 66, 0), (66, .putfield 32, 3, 69, 0), (69, .aload_n 0, 1, 70, 0), (70, .sipush 216, 3, 73, 0), (73, .newarray .int, 2, 75, 0), (75, .putfield 35, 3, 78, 0), (78, .aload_n 0, 1, 79, 0), (79, .sipush 216, 3, 82, 0), (82, .newarray .boolean, 2, 84, 0), (84, .putfield 38, 3, 87, 0), (87, .aload_n 0, 1, 88, 0), (88, .sipush 1728, 3, 91, 0), (91, .newarray .int, 2, 93, 0), (93, .putfield 41, 3, 96, 0), (96, .aload_n 0, 1, 97, 0), (97, .sipush 1728, 3, 100, 0), (100, .newarray .int, 2, 102, 0), (102, .putfield 44, 3, 105, 0), (105, .aload_n 0, 1, 106, 0), (106, .sipush 5184, 3, 109, 0), (109, .newarray .int, 2, 111, 0), (111, .putfield 47, 3, 114, 0), (114, .aload_n 0, 1, 115, 0), (115, .sipush 216, 3, 118, 0), (118, .newarray .int, 2, 120, 0), (120, .putfield 50, 3, 123, 0), (123, .aload_n 0, 1, 124, 0), (124, .sipush 216, 3, 127, 0), (127, .newarray .float, 2, 129, 0), (129, .putfield 53, 3, 132, 0), (132, .aload_n 0, 1, 133, 0), (133, .sipush 216, 3, 136, 0), (136, .newarray .int, 2, 138, 0), (138, .putfield 57, 3, 141, 0), (141, .aload_n 0, 1, 142, 0), (142, .sipush 216, 3, 145, 0), (145, .newarray .int, 2, 147, 0), (147, .putfield 60, 3, 150, 0), (150, .aload_n 0, 1, 151, 0), (151, .sipush 216, 3, 154, 0), (154, .newarray .int, 2, 156, 0), (156, .putfield 63, 3, 159, 0), (159, .aload_n 0, 1, 160, 0), (160, .sipush 216, 3, 163, 0), (163, .newarray .int, 2, 165, 0), (165, .putfield 66, 3, 168, 0), (168, .aload_n 0, 1, 169, 0), (169, .sipush 216, 3, 172, 0), (172, .newarray .boolean, 2, 174, 0), (174, .putfield 69, 3, 177, 0), (177, .aload_n 0, 1, 178, 0), (178, .iconst 4, 1, 179, 0), (179, .invokevirtual 72, 3, 182, 0), (182, .return_, 1, 183, 0)])
set_option maxRecDepth 20000 in
theorem ok_X10_init : mi_ok M_X10_init := ⟨by decide +kernel, by decide +kernel, by decide +kernel, by decide +kernel⟩
def M_X10_in : MI := (yX10_in, cX10_in, 3, (some .boolean), [(0, .iload_n 0, 1, 1, 0), (1, .iload_n 1, 1, 2, 0), (2, .if_icmp .lt 12, 3, 5, 14), (5, .iload_n 0, 1, 6, 0), (6, .iload_n 2, 1, 7, 0), (7, .if_icmp .gt 7, 3, 10, 14), (10, .iconst 1, 1, 11, 0), (11, .goto 4, 3, 14, 15), (14, .iconst 0, 1, 15, 0), (15, .ireturn, 1, 16, 0)])
set_option maxRecDepth 20000 in
theorem ok_X10_in : mi_ok M_X10_in := ⟨by decide +kernel, by decide +kernel, by decide +kernel, by decide +kernel⟩
def M_X10_anew : MI := (yX10_anew, cX10_anew, 3, none, [(0, .iconst 0, 1, 1, 0), (1, .istore_n 2, 1, 2, 0), (2, .iload_n 2, 1, 3, 0), (3, .sipush 189, 3, 6, 0), (6, .if_icmp .ge 16, 3, 9, 22), (9, .aload_n 0, 1, 10, 0), (10, .getfield 7, 3, 13, 0), (13, .iload_n 2, 1, 14, 0), (14, .iconst 0, 1, 15, 0), (15, .iastore, 1, 16, 0), (16, .iinc 2 1, 3, 19, 0), (19, .goto (-17), 3, 22, 2), (22, .aload_n 0, 1, 23, 0), (23, .getfield 7, 3, 26, 0), (26, .iconst 0, 1, 27, 0), (27, .iload_n 1, 1, 28, 0), (28, .iastore, 1, 29, 0), (29, .iconst 0, 1, 30, 0), (30, .istore_n 2, 1, 31, 0), (31, .iload_n 2, 1, 32, 0), (32, .bipush 6, 2, 34, 0), (34, .if_icmp .ge 18, 3, 37, 52), (37, .aload_n 0, 1, 38, 0), (38, .getfield 7, 3, 41, 0), (41, .iconst 3, 1, 42, 0), (42, .iload_n 2, 1, 43, 0), (43, .iadd, 1, 44, 0), (44, .iconst 2, 1, 45, 0), (45, .iastore, 1, 46, 0), (46, .iinc 2 1, 3, 49, 0), (49, .goto (-18), 3, 52, 31), (52, .aload_n 0, 1, 53, 0), (53, .iconst 0, 1, 54, 0), (54, .putfield 76, 3, 57, 0), (57, .return_, 1, 58, 0)])
set_option maxRecDepth 20000 in
theorem ok_X10_anew : mi_ok M_X10_anew := ⟨by decide +kernel, by decide +kernel, by decide +kernel, by decide +kernel⟩
def M_X10_isConstant : MI := (yX10_isConstant, cX10_isConstant, 2, (some .boolean), [(0, .iload_n 1, 1, 1, 0), (1, .iconst 0, 1, 2, 0), (2, .aload_n 0, 1, 3, 0), (3, .getfield 7, 3, 6, 0), (6, .iconst 0, 1, 7, 0), (7, .iaload, 1, 8, 0), (8, .iconst 1, 1, 9, 0), (9, .isub, 1, 10, 0), (10, .invokestatic 80, 3, 13, 0), (13, .ireturn, 1, 14, 0)])
set_option maxRecDepth 20000 in
theorem ok_X10_isConstant : mi_ok M_X10_isConstant := ⟨by decide +kernel, by decide +kernel, by decide +kernel, by decide +kernel⟩
def M_X10_isFact : MI := (yX10_isFact, cX10_isFact, 4, (some .boolean), [(0, .iload_n 1, 1, 1, 0), (1, .iconst 0, 1, 2, 0), (2, .iconst 5, 1, 3, 0), (3, .invokestatic 80, 3, 6, 0), (6, .ifCond .eq 39, 3, 9, 45), (9, .aload_n 0, 1, 10, 0), (10, .iload_n 2, 1, 11, 0), (11, .invokevirtual 84, 3, 14, 0), (14, .ifCond .eq 31, 3, 17, 45), (17, .aload_n 0, 1, 18, 0), (18, .iload_n 3, 1, 19, 0), (19, .invokevirtual 84, 3, 22, 0), (22, .ifCond .eq 23, 3, 25, 45), (25, .aload_n 0, 1, 26, 0), (26, .getfield 7, 3, 29, 0), (29, .iconst 3, 1, 30, 0), (30, .iload_n 1, 1, 31, 0), (31, .iadd, 1, 32, 0), (32, .iaload, 1, 33, 0), (33, .iconst 2, 1, 34, 0), (34, .if_icmp .eq 7, 3, 37, 41), (37, .iload_n 3, 1, 38, 0), (38, .ifCond .ne 7, 3, 41, 45), (41, .iconst 1, 1, 42, 0), (42, .goto 4, 3, 45, 46), (45, .iconst 0, 1, 46, 0), (46, .ireturn, 1, 47, 0)])
set_option maxRecDepth 20000 in
theorem ok_X10_isFact : mi_ok M_X10_isFact := ⟨by decide +kernel, by decide +kernel, by decide +kernel, by decide +kernel⟩
def M_X10_factOf : MI := (yX10_factOf, cX10_factOf, 3, (some .int), [(0, .bipush 36, 2, 2, 0), (2, .iload_n 0, 1, 3, 0), (3, .imul, 1, 4, 0), (4, .bipush 6, 2, 6, 0), (6, .iload_n 1, 1, 7, 0), (7, .imul, 1, 8, 0), (8, .iadd, 1, 9, 0), (9, .iload_n 2, 1, 10, 0), (10, .iadd, 1, 11, 0), (11, .ireturn, 1, 12, 0)])
set_option maxRecDepth 20000 in
theorem ok_X10_factOf : mi_ok M_X10_factOf := ⟨by decide +kernel, by decide +kernel, by decide +kernel, by decide +kernel⟩
def M_X10_atomAt : MI := (yX10_atomAt, cX10_atomAt, 2, (some .int), [(0, .bipush 45, 2, 2, 0), (2, .bipush 18, 2, 4, 0), (4, .iload_n 0, 1, 5, 0), (5, .imul, 1, 6, 0), (6, .iadd, 1, 7, 0), (7, .iconst 2, 1, 8, 0), (8, .iadd, 1, 9, 0), (9, .iconst 4, 1, 10, 0), (10, .iload_n 1, 1, 11, 0), (11, .imul, 1, 12, 0), (12, .iadd, 1, 13, 0), (13, .ireturn, 1, 14, 0)])
set_option maxRecDepth 20000 in
theorem ok_X10_atomAt : mi_ok M_X10_atomAt := ⟨by decide +kernel, by decide +kernel, by decide +kernel, by decide +kernel⟩
def M_X10_begin : MI := (yX10_begin, cX10_begin, 3, (some .int), [(0, .iload_n 1, 1, 1, 0), (1, .iconst 1, 1, 2, 0), (2, .bipush 6, 2, 4, 0), (4, .invokestatic 80, 3, 7, 0), (7, .ifCond .ne 6, 3, 10, 13), (10, .bipush (-2), 2, 12, 0), (12, .ireturn, 1, 13, 0), (13, .aload_n 0, 1, 14, 0), (14, .getfield 7, 3, 17, 0), (17, .iconst 0, 1, 18, 0), (18, .iaload, 1, 19, 0), (19, .istore_n 2, 1, 20, 0), (20, .aload_n 0, 1, 21, 0), (21, .iload_n 1, 1, 22, 0), (22, .invokevirtual 72, 3, 25, 0), (25, .iload_n 2, 1, 26, 0), (26, .ireturn, 1, 27, 0)])
set_option maxRecDepth 20000 in
theorem ok_X10_begin : mi_ok M_X10_begin := ⟨by decide +kernel, by decide +kernel, by decide +kernel, by decide +kernel⟩
def M_X10_isUsed : MI := (yX10_isUsed, cX10_isUsed, 5, (some .boolean), [(0, .iconst 0, 1, 1, 0), (1, .istore_n 2, 1, 2, 0), (2, .iconst 0, 1, 3, 0), (3, .istore_n 3, 1, 4, 0), (4, .iload_n 3, 1, 5, 0), (5, .aload_n 0, 1, 6, 0), (6, .getfield 7, 3, 9, 0), (9, .iconst 1, 1, 10, 0), (10, .iaload, 1, 11, 0), (11, .if_icmp .ge 37, 3, 14, 48), (14, .iload_n 2, 1, 15, 0), (15, .ifCond .ne 21, 3, 18, 36), (18, .aload_n 0, 1, 19, 0), (19, .getfield 7, 3, 22, 0), (22, .bipush 9, 2, 24, 0), (24, .iconst 3, 1, 25, 0), (25, .iload_n 3, 1, 26, 0), (26, .imul, 1, 27, 0), (27, .iadd, 1, 28, 0), (28, .iaload, 1, 29, 0), (29, .bipush 36, 2, 31, 0), (31, .idiv, 1, 32, 0), (32, .iload_n 1, 1, 33, 0), (33, .if_icmp .ne 7, 3, 36, 40), (36, .iconst 1, 1, 37, 0), (37, .goto 4, 3, 40, 41), (40, .iconst 0, 1, 41, 0), (41, .istore_n 2, 1, 42, 0), (42, .iinc 3 1, 3, 45, 0), (45, .goto (-41), 3, 48, 4), (48, .iconst 0, 1, 49, 0), (49, .istore_n 3, 1, 50, 0), (50, .iload_n 3, 1, 51, 0), (51, .aload_n 0, 1, 52, 0), (52, .getfield 7, 3, 55, 0), (55, .iconst 2, 1, 56, 0), (56, .iaload, 1, 57, 0), (57, .if_icmp .ge 62, 3, 60, 119), (60, .iconst 0, 1, 61, 0), (61, .istore 4, 2, 63, 0), (63, .iload 4, 2, 65, 0), (65, .aload_n 0, 1, 66, 0), (66, .getfield 7, 3, 69, 0), (69, .bipush 45, 2, 71, 0), (71, .bipush 18, 2, 73, 0), (73, .iload_n 3, 1, 74, 0), (74, .imul, 1, 75, 0), (75, .iadd, 1, 76, 0), (76, .iconst 1, 1, 77, 0), (77, .iadd, 1, 78, 0), (78, .iaload, 1, 79, 0), (79, .if_icmp .gt 34, 3, 82, 113), (82, .iload_n 2, 1, 83, 0), (83, .ifCond .ne 18, 3, 86, 101), (86, .aload_n 0, 1, 87, 0), (87, .getfield 7, 3, 90, 0), (90, .iload_n 3, 1, 91, 0), (91, .iload 4, 2, 93, 0), (93, .invokestatic 88, 3, 96, 0), (96, .iaload, 1, 97, 0), (97, .iload_n 1, 1, 98, 0), (98, .if_icmp .ne 7, 3, 101, 105), (101, .iconst 1, 1, 102, 0), (102, .goto 4, 3, 105, 106), (105, .iconst 0, 1, 106, 0), (106, .istore_n 2, 1, 107, 0), (107, .iinc 4 1, 3, 110, 0), (110, .goto (-47), 3, 113, 63), (113, .iinc 3 1, 3, 116, 0), (116, .goto (-66), 3, 119, 50), (119, .iload_n 2, 1, 120, 0), (120, .ireturn, 1, 121, 0)])
set_option maxRecDepth 20000 in
theorem ok_X10_isUsed : mi_ok M_X10_isUsed := ⟨by decide +kernel, by decide +kernel, by decide +kernel, by decide +kernel⟩
def M_X10_setPlaces : MI := (yX10_setPlaces, cX10_setPlaces, 4, (some .int), [(0, .iload_n 1, 1, 1, 0), (1, .iconst 0, 1, 2, 0), (2, .iconst 5, 1, 3, 0), (3, .invokestatic 80, 3, 6, 0), (6, .ifCond .ne 5, 3, 9, 11), (9, .iconst (-1), 1, 10, 0), (10, .ireturn, 1, 11, 0), (11, .iload_n 2, 1, 12, 0), (12, .iconst 1, 1, 13, 0), (13, .iconst 2, 1, 14, 0), (14, .invokestatic 80, 3, 17, 0), (17, .ifCond .ne 6, 3, 20, 23), (20, .bipush (-2), 2, 22, 0), (22, .ireturn, 1, 23, 0), (23, .aload_n 0, 1, 24, 0), (24, .iload_n 1, 1, 25, 0), (25, .invokevirtual 92, 3, 28, 0), (28, .ifCond .eq 6, 3, 31, 34), (31, .bipush (-3), 2, 33, 0), (33, .ireturn, 1, 34, 0), (34, .aload_n 0, 1, 35, 0), (35, .getfield 7, 3, 38, 0), (38, .iconst 3, 1, 39, 0), (39, .iload_n 1, 1, 40, 0), (40, .iadd, 1, 41, 0), (41, .iaload, 1, 42, 0), (42, .istore_n 3, 1, 43, 0), (43, .aload_n 0, 1, 44, 0), (44, .getfield 7, 3, 47, 0), (47, .iconst 3, 1, 48, 0), (48, .iload_n 1, 1, 49, 0), (49, .iadd, 1, 50, 0), (50, .iload_n 2, 1, 51, 0), (51, .iastore, 1, 52, 0), (52, .iload_n 3, 1, 53, 0), (53, .ireturn, 1, 54, 0)])
set_option maxRecDepth 20000 in
theorem ok_X10_setPlaces : mi_ok M_X10_setPlaces := ⟨by decide +kernel, by decide +kernel, by decide +kernel, by decide +kernel⟩
def M_X10_addFact : MI := (yX10_addFact, cX10_addFact, 7, (some .int), [(0, .aload_n 0, 1, 1, 0), (1, .iload_n 1, 1, 2, 0), (2, .iload_n 2, 1, 3, 0), (3, .iload_n 3, 1, 4, 0), (4, .invokevirtual 95, 3, 7, 0), (7, .ifCond .ne 5, 3, 10, 12), (10, .iconst (-1), 1, 11, 0), (11, .ireturn, 1, 12, 0), (12, .iload 4, 2, 14, 0), (14, .iconst 0, 1, 15, 0), (15, .bipush 99, 2, 17, 0), (17, .invokestatic 80, 3, 20, 0), (20, .ifCond .eq 14, 3, 23, 34), (23, .iload 5, 2, 25, 0), (25, .iconst 1, 1, 26, 0), (26, .bipush 16, 2, 28, 0), (28, .invokestatic 80, 3, 31, 0), (31, .ifCond .ne 6, 3, 34, 37), (34, .bipush (-2), 2, 36, 0), (36, .ireturn, 1, 37, 0), (37, .aload_n 0, 1, 38, 0), (38, .getfield 7, 3, 41, 0), (41, .iconst 1, 1, 42, 0), (42, .iaload, 1, 43, 0), (43, .bipush 12, 2, 45, 0), (45, .if_icmp .ne 6, 3, 48, 51), (48, .bipush (-4), 2, 50, 0), (50, .ireturn, 1, 51, 0), (51, .bipush 9, 2, 53, 0), (53, .iconst 3, 1, 54, 0), (54, .aload_n 0, 1, 55, 0), (55, .getfield 7, 3, 58, 0), (58, .iconst 1, 1, 59, 0), (59, .iaload, 1, 60, 0), (60, .imul, 1, 61, 0), (61, .iadd, 1, 62, 0), (62, .istore 6, 2, 64, 0), (64, .aload_n 0, 1, 65, 0), (65, .getfield 7, 3, 68, 0), (68, .iload 6, 2, 70, 0), (70, .iload_n 1, 1, 71, 0), (71, .iload_n 2, 1, 72, 0), (72, .iload_n 3, 1, 73, 0), (73, .invokestatic 98, 3, 76, 0), (76, .iastore, 1, 77, 0), (77, .aload_n 0, 1, 78, 0), (78, .getfield 7, 3, 81, 0), (81, .iload 6, 2, 83, 0), (83, .iconst 1, 1, 84, 0), (84, .iadd, 1, 85, 0), (85, .iload 4, 2, 87, 0), (87, .iastore, 1, 88, 0), (88, .aload_n 0, 1, 89, 0), (89, .getfield 7, 3, 92, 0), (92, .iload 6, 2, 94, 0), (94, .iconst 2, 1, 95, 0), (95, .iadd, 1, 96, 0), (96, .iload 5, 2, 98, 0), (98, .iastore, 1, 99, 0), (99, .aload_n 0, 1, 100, 0), (100, .getfield 7, 3, 103, 0), (103, .iconst 1, 1, 104, 0), (104, .dup2, 1, 105, 0), (105, .iaload, 1, 106, 0), (106, .iconst 1, 1, 107, 0), (107, .iadd, 1, 108, 0), (108, .iastore, 1, 109, 0), (109, .aload_n 0, 1, 110, 0), (110, .iconst 0, 1, 111, 0), (111, .putfield 76, 3, 114, 0), (114, .aload_n 0, 1, 115, 0), (115, .getfield 7, 3, 118, 0), (118, .iconst 1, 1, 119, 0), (119, .iaload, 1, 120, 0), (120, .iconst 1, 1, 121, 0), (121, .isub, 1, 122, 0), (122, .ireturn, 1, 123, 0)])
set_option maxRecDepth 20000 in
theorem ok_X10_addFact : mi_ok M_X10_addFact := ⟨by decide +kernel, by decide +kernel, by decide +kernel, by decide +kernel⟩
def M_X10_removeFact : MI := (yX10_removeFact, cX10_removeFact, 3, (some .int), [(0, .iload_n 1, 1, 1, 0), (1, .iconst 0, 1, 2, 0), (2, .aload_n 0, 1, 3, 0), (3, .getfield 7, 3, 6, 0), (6, .iconst 1, 1, 7, 0), (7, .iaload, 1, 8, 0), (8, .iconst 1, 1, 9, 0), (9, .isub, 1, 10, 0), (10, .invokestatic 80, 3, 13, 0), (13, .ifCond .ne 5, 3, 16, 18), (16, .iconst (-1), 1, 17, 0), (17, .ireturn, 1, 18, 0), (18, .aload_n 0, 1, 19, 0), (19, .getfield 7, 3, 22, 0), (22, .iconst 1, 1, 23, 0), (23, .dup2, 1, 24, 0), (24, .iaload, 1, 25, 0), (25, .iconst 1, 1, 26, 0), (26, .isub, 1, 27, 0), (27, .iastore, 1, 28, 0), (28, .bipush 9, 2, 30, 0), (30, .iconst 3, 1, 31, 0), (31, .iload_n 1, 1, 32, 0), (32, .imul, 1, 33, 0), (33, .iadd, 1, 34, 0), (34, .istore_n 2, 1, 35, 0), (35, .iload_n 2, 1, 36, 0), (36, .bipush 9, 2, 38, 0), (38, .iconst 3, 1, 39, 0), (39, .aload_n 0, 1, 40, 0), (40, .getfield 7, 3, 43, 0), (43, .iconst 1, 1, 44, 0), (44, .iaload, 1, 45, 0), (45, .imul, 1, 46, 0), (46, .iadd, 1, 47, 0), (47, .if_icmp .ge 23, 3, 50, 70), (50, .aload_n 0, 1, 51, 0), (51, .getfield 7, 3, 54, 0), (54, .iload_n 2, 1, 55, 0), (55, .aload_n 0, 1, 56, 0), (56, .getfield 7, 3, 59, 0), (59, .iload_n 2, 1, 60, 0), (60, .iconst 3, 1, 61, 0), (61, .iadd, 1, 62, 0), (62, .iaload, 1, 63, 0), (63, .iastore, 1, 64, 0), (64, .iinc 2 1, 3, 67, 0), (67, .goto (-32), 3, 70, 35), (70, .aload_n 0, 1, 71, 0), (71, .iconst 0, 1, 72, 0), (72, .putfield 76, 3, 75, 0), (75, .aload_n 0, 1, 76, 0), (76, .getfield 7, 3, 79, 0), (79, .iconst 1, 1, 80, 0), (80, .iaload, 1, 81, 0), (81, .ireturn, 1, 82, 0)])
set_option maxRecDepth 20000 in
theorem ok_X10_removeFact : mi_ok M_X10_removeFact := ⟨by decide +kernel, by decide +kernel, by decide +kernel, by decide +kernel⟩
def M_X10_facts : MI := (yX10_facts, cX10_facts, 1, (some .int), [(0, .aload_n 0, 1, 1, 0), (1, .getfield 7, 3, 4, 0), (4, .iconst 1, 1, 5, 0), (5, .iaload, 1, 6, 0), (6, .ireturn, 1, 7, 0)])
set_option maxRecDepth 20000 in
theorem ok_X10_facts : mi_ok M_X10_facts := ⟨by decide +kernel, by decide +kernel, by decide +kernel, by decide +kernel⟩
def M_X10_removeRule : MI := (yX10_removeRule, cX10_removeRule, 3, (some .int), [(0, .iload_n 1, 1, 1, 0), (1, .iconst 0, 1, 2, 0), (2, .aload_n 0, 1, 3, 0), (3, .getfield 7, 3, 6, 0), (6, .iconst 2, 1, 7, 0), (7, .iaload, 1, 8, 0), (8, .iconst 1, 1, 9, 0), (9, .isub, 1, 10, 0), (10, .invokestatic 80, 3, 13, 0), (13, .ifCond .ne 5, 3, 16, 18), (16, .iconst (-1), 1, 17, 0), (17, .ireturn, 1, 18, 0), (18, .aload_n 0, 1, 19, 0), (19, .getfield 7, 3, 22, 0), (22, .iconst 2, 1, 23, 0), (23, .dup2, 1, 24, 0), (24, .iaload, 1, 25, 0), (25, .iconst 1, 1, 26, 0), (26, .isub, 1, 27, 0), (27, .iastore, 1, 28, 0), (28, .bipush 45, 2, 30, 0), (30, .bipush 18, 2, 32, 0), (32, .iload_n 1, 1, 33, 0), (33, .imul, 1, 34, 0), (34, .iadd, 1, 35, 0), (35, .istore_n 2, 1, 36, 0), (36, .iload_n 2, 1, 37, 0), (37, .bipush 45, 2, 39, 0), (39, .bipush 18, 2, 41, 0), (41, .aload_n 0, 1, 42, 0), (42, .getfield 7, 3, 45, 0), (45, .iconst 2, 1, 46, 0), (46, .iaload, 1, 47, 0), (47, .imul, 1, 48, 0), (48, .iadd, 1, 49, 0), (49, .if_icmp .ge 24, 3, 52, 73), (52, .aload_n 0, 1, 53, 0), (53, .getfield 7, 3, 56, 0), (56, .iload_n 2, 1, 57, 0), (57, .aload_n 0, 1, 58, 0), (58, .getfield 7, 3, 61, 0), (61, .iload_n 2, 1, 62, 0), (62, .bipush 18, 2, 64, 0), (64, .iadd, 1, 65, 0), (65, .iaload, 1, 66, 0), (66, .iastore, 1, 67, 0), (67, .iinc 2 1, 3, 70, 0), (70, .goto (-34), 3, 73, 36), (73, .aload_n 0, 1, 74, 0), (74, .iconst 0, 1, 75, 0), (75, .putfield 76, 3, 78, 0), (78, .aload_n 0, 1, 79, 0), (79, .getfield 7, 3, 82, 0), (82, .iconst 2, 1, 83, 0), (83, .iaload, 1, 84, 0), (84, .ireturn, 1, 85, 0)])
set_option maxRecDepth 20000 in
theorem ok_X10_removeRule : mi_ok M_X10_removeRule := ⟨by decide +kernel, by decide +kernel, by decide +kernel, by decide +kernel⟩
def M_X10_rules : MI := (yX10_rules, cX10_rules, 1, (some .int), [(0, .aload_n 0, 1, 1, 0), (1, .getfield 7, 3, 4, 0), (4, .iconst 2, 1, 5, 0), (5, .iaload, 1, 6, 0), (6, .ireturn, 1, 7, 0)])
set_option maxRecDepth 20000 in
theorem ok_X10_rules : mi_ok M_X10_rules := ⟨by decide +kernel, by decide +kernel, by decide +kernel, by decide +kernel⟩
def M_X10_append : MI := (yX10_append, cX10_append, 2, (some .int), [(0, .iload_n 1, 1, 1, 0), (1, .iconst 0, 1, 2, 0), (2, .bipush 127, 2, 4, 0), (4, .invokestatic 80, 3, 7, 0), (7, .ifCond .ne 6, 3, 10, 13), (10, .bipush (-2), 2, 12, 0), (12, .ireturn, 1, 13, 0), (13, .aload_n 0, 1, 14, 0), (14, .getfield 102, 3, 17, 0), (17, .bipush 60, 2, 19, 0), (19, .if_icmp .ne 6, 3, 22, 25), (22, .bipush (-4), 2, 24, 0), (24, .ireturn, 1, 25, 0), (25, .aload_n 0, 1, 26, 0), (26, .getfield 20, 3, 29, 0), (29, .aload_n 0, 1, 30, 0), (30, .getfield 102, 3, 33, 0), (33, .iload_n 1, 1, 34, 0), (34, .iastore, 1, 35, 0), (35, .aload_n 0, 1, 36, 0), (36, .dup, 1, 37, 0), (37, .getfield 102, 3, 40, 0), (40, .iconst 1, 1, 41, 0), (41, .iadd, 1, 42, 0), (42, .putfield 102, 3, 45, 0), (45, .aload_n 0, 1, 46, 0), (46, .getfield 102, 3, 49, 0), (49, .ireturn, 1, 50, 0)])
set_option maxRecDepth 20000 in
theorem ok_X10_append : mi_ok M_X10_append := ⟨by decide +kernel, by decide +kernel, by decide +kernel, by decide +kernel⟩
def M_X10_clearText : MI := (yX10_clearText, cX10_clearText, 2, (some .int), [(0, .aload_n 0, 1, 1, 0), (1, .getfield 102, 3, 4, 0), (4, .istore_n 1, 1, 5, 0), (5, .aload_n 0, 1, 6, 0), (6, .iconst 0, 1, 7, 0), (7, .putfield 102, 3, 10, 0), (10, .iload_n 1, 1, 11, 0), (11, .ireturn, 1, 12, 0)])
set_option maxRecDepth 20000 in
theorem ok_X10_clearText : mi_ok M_X10_clearText := ⟨by decide +kernel, by decide +kernel, by decide +kernel, by decide +kernel⟩
def M_X10_here : MI := (yX10_here, cX10_here, 1, (some .int), [(0, .aload_n 0, 1, 1, 0), (1, .getfield 106, 3, 4, 0), (4, .aload_n 0, 1, 5, 0), (5, .getfield 102, 3, 8, 0), (8, .if_icmp .ge 15, 3, 11, 23), (11, .aload_n 0, 1, 12, 0), (12, .getfield 20, 3, 15, 0), (15, .aload_n 0, 1, 16, 0), (16, .getfield 106, 3, 19, 0), (19, .iaload, 1, 20, 0), (20, .goto 4, 3, 23, 24), (23, .iconst (-1), 1, 24, 0), (24, .ireturn, 1, 25, 0)])
set_option maxRecDepth 20000 in
theorem ok_X10_here : mi_ok M_X10_here := ⟨by decide +kernel, by decide +kernel, by decide +kernel, by decide +kernel⟩
def M_X10_takes : MI := (yX10_takes, cX10_takes, 3, (some .boolean), [(0, .aload_n 0, 1, 1, 0), (1, .invokevirtual 109, 3, 4, 0), (4, .iload_n 1, 1, 5, 0), (5, .if_icmp .ne 7, 3, 8, 12), (8, .iconst 1, 1, 9, 0), (9, .goto 4, 3, 12, 13), (12, .iconst 0, 1, 13, 0), (13, .istore_n 2, 1, 14, 0), (14, .aload_n 0, 1, 15, 0), (15, .dup, 1, 16, 0), (16, .getfield 106, 3, 19, 0), (19, .iload_n 2, 1, 20, 0), (20, .ifCond .eq 7, 3, 23, 27), (23, .iconst 1, 1, 24, 0), (24, .goto 4, 3, 27, 28), (27, .iconst 0, 1, 28, 0), (28, .iadd, 1, 29, 0), (29, .putfield 106, 3, 32, 0), (32, .iload_n 2, 1, 33, 0), (33, .ireturn, 1, 34, 0)])
set_option maxRecDepth 20000 in
theorem ok_X10_takes : mi_ok M_X10_takes := ⟨by decide +kernel, by decide +kernel, by decide +kernel, by decide +kernel⟩
def M_X10_isTerm : MI := (yX10_isTerm, cX10_isTerm, 4, (some .boolean), [(0, .aload_n 0, 1, 1, 0), (1, .invokevirtual 109, 3, 4, 0), (4, .istore_n 2, 1, 5, 0), (5, .aload_n 0, 1, 6, 0), (6, .iload_n 2, 1, 7, 0), (7, .bipush 48, 2, 9, 0), (9, .isub, 1, 10, 0), (10, .invokevirtual 84, 3, 13, 0), (13, .ifCond .ne 14, 3, 16, 27), (16, .iload_n 2, 1, 17, 0), (17, .bipush 88, 2, 19, 0), (19, .bipush 90, 2, 21, 0), (21, .invokestatic 80, 3, 24, 0), (24, .ifCond .eq 7, 3, 27, 31), (27, .iconst 1, 1, 28, 0), (28, .goto 4, 3, 31, 32), (31, .iconst 0, 1, 32, 0), (32, .istore_n 3, 1, 33, 0), (33, .aload_n 0, 1, 34, 0), (34, .getfield 23, 3, 37, 0), (37, .iload_n 1, 1, 38, 0), (38, .iload_n 2, 1, 39, 0), (39, .bipush 88, 2, 41, 0), (41, .if_icmp .lt 13, 3, 44, 54), (44, .iload_n 2, 1, 45, 0), (45, .bipush 88, 2, 47, 0), (47, .isub, 1, 48, 0), (48, .bipush 6, 2, 50, 0), (50, .iadd, 1, 51, 0), (51, .goto 7, 3, 54, 58), (54, .iload_n 2, 1, 55, 0), (55, .bipush 48, 2, 57, 0), (57, .isub, 1, 58, 0), (58, .iastore, 1, 59, 0), (59, .aload_n 0, 1, 60, 0), (60, .dup, 1, 61, 0), (61, .getfield 106, 3, 64, 0), (64, .iload_n 3, 1, 65, 0), (65, .ifCond .eq 7, 3, 68, 72), (68, .iconst 1, 1, 69, 0), (69, .goto 4, 3, 72, 73), (72, .iconst 0, 1, 73, 0), (73, .iadd, 1, 74, 0), (74, .putfield 106, 3, 77, 0), (77, .iload_n 3, 1, 78, 0), (78, .ireturn, 1, 79, 0)])
set_option maxRecDepth 20000 in
theorem ok_X10_isTerm : mi_ok M_X10_isTerm := ⟨by decide +kernel, by decide +kernel, by decide +kernel, by decide +kernel⟩
def M_X10_isAtom : MI := (yX10_isAtom, cX10_isAtom, 3, (some .boolean), [(0, .aload_n 0, 1, 1, 0), (1, .invokevirtual 109, 3, 4, 0), (4, .bipush 112, 2, 6, 0), (6, .isub, 1, 7, 0), (7, .istore_n 2, 1, 8, 0), (8, .iload_n 2, 1, 9, 0), (9, .iconst 0, 1, 10, 0), (10, .iconst 5, 1, 11, 0), (11, .invokestatic 80, 3, 14, 0), (14, .ifCond .ne 5, 3, 17, 19), (17, .iconst 0, 1, 18, 0), (18, .ireturn, 1, 19, 0), (19, .aload_n 0, 1, 20, 0), (20, .dup, 1, 21, 0), (21, .getfield 106, 3, 24, 0), (24, .iconst 1, 1, 25, 0), (25, .iadd, 1, 26, 0), (26, .putfield 106, 3, 29, 0), (29, .aload_n 0, 1, 30, 0), (30, .getfield 23, 3, 33, 0), (33, .iconst 4, 1, 34, 0), (34, .iload_n 1, 1, 35, 0), (35, .imul, 1, 36, 0), (36, .iload_n 2, 1, 37, 0), (37, .iastore, 1, 38, 0), (38, .aload_n 0, 1, 39, 0), (39, .getfield 23, 3, 42, 0), (42, .iconst 4, 1, 43, 0), (43, .iload_n 1, 1, 44, 0), (44, .imul, 1, 45, 0), (45, .iconst 2, 1, 46, 0), (46, .iadd, 1, 47, 0), (47, .iconst 0, 1, 48, 0), (48, .iastore, 1, 49, 0), (49, .aload_n 0, 1, 50, 0), (50, .bipush 40, 2, 52, 0), (52, .invokevirtual 113, 3, 55, 0), (55, .ifCond .eq 15, 3, 58, 70), (58, .aload_n 0, 1, 59, 0), (59, .iconst 4, 1, 60, 0), (60, .iload_n 1, 1, 61, 0), (61, .imul, 1, 62, 0), (62, .iconst 1, 1, 63, 0), (63, .iadd, 1, 64, 0), (64, .invokevirtual 116, 3, 67, 0), (67, .ifCond .ne 5, 3, 70, 72), (70, .iconst 0, 1, 71, 0), (71, .ireturn, 1, 72, 0), (72, .aload_n 0, 1, 73, 0), (73, .getfield 7, 3, 76, 0), (76, .iconst 3, 1, 77, 0), (77, .iload_n 2, 1, 78, 0), (78, .iadd, 1, 79, 0), (79, .iaload, 1, 80, 0), (80, .iconst 2, 1, 81, 0), (81, .if_icmp .ne 26, 3, 84, 107), (84, .aload_n 0, 1, 85, 0), (85, .bipush 44, 2, 87, 0), (87, .invokevirtual 113, 3, 90, 0), (90, .ifCond .eq 15, 3, 93, 105), (93, .aload_n 0, 1, 94, 0), (94, .iconst 4, 1, 95, 0), (95, .iload_n 1, 1, 96, 0), (96, .imul, 1, 97, 0), (97, .iconst 2, 1, 98, 0), (98, .iadd, 1, 99, 0), (99, .invokevirtual 116, 3, 102, 0), (102, .ifCond .ne 5, 3, 105, 107), (105, .iconst 0, 1, 106, 0), (106, .ireturn, 1, 107, 0), (107, .aload_n 0, 1, 108, 0), (108, .bipush 41, 2, 110, 0), (110, .invokevirtual 113, 3, 113, 0), (113, .ireturn, 1, 114, 0)])
set_option maxRecDepth 20000 in
theorem ok_X10_isAtom : mi_ok M_X10_isAtom := ⟨by decide +kernel, by decide +kernel, by decide +kernel, by decide +kernel⟩
def M_X10_isForm : MI := (yX10_isForm, cX10_isForm, 3, (some .boolean), [(0, .aload_n 0, 1, 1, 0), (1, .iconst 0, 1, 2, 0), (2, .putfield 106, 3, 5, 0), (5, .aload_n 0, 1, 6, 0), (6, .iconst 0, 1, 7, 0), (7, .putfield 119, 3, 10, 0), (10, .aload_n 0, 1, 11, 0), (11, .getfield 23, 3, 14, 0), (14, .iconst 3, 1, 15, 0), (15, .iconst 0, 1, 16, 0), (16, .iastore, 1, 17, 0), (17, .aload_n 0, 1, 18, 0), (18, .iconst 0, 1, 19, 0), (19, .invokevirtual 122, 3, 22, 0), (22, .ifCond .eq 12, 3, 25, 34), (25, .aload_n 0, 1, 26, 0), (26, .bipush 60, 2, 28, 0), (28, .invokevirtual 113, 3, 31, 0), (31, .ifCond .ne 5, 3, 34, 36), (34, .iconst 0, 1, 35, 0), (35, .ireturn, 1, 36, 0), (36, .iconst 1, 1, 37, 0), (37, .istore_n 1, 1, 38, 0), (38, .iload_n 1, 1, 39, 0), (39, .ifCond .eq 80, 3, 42, 119), (42, .aload_n 0, 1, 43, 0), (43, .getfield 119, 3, 46, 0), (46, .iconst 1, 1, 47, 0), (47, .iadd, 1, 48, 0), (48, .istore_n 2, 1, 49, 0), (49, .aload_n 0, 1, 50, 0), (50, .getfield 23, 3, 53, 0), (53, .iconst 4, 1, 54, 0), (54, .iload_n 2, 1, 55, 0), (55, .imul, 1, 56, 0), (56, .iconst 3, 1, 57, 0), (57, .iadd, 1, 58, 0), (58, .aload_n 0, 1, 59, 0), (59, .bipush 33, 2, 61, 0), (61, .invokevirtual 113, 3, 64, 0), (64, .ifCond .eq 7, 3, 67, 71), (67, .iconst 1, 1, 68, 0), (68, .goto 4, 3, 71, 72), (71, .iconst 0, 1, 72, 0), (72, .iastore, 1, 73, 0), (73, .aload_n 0, 1, 74, 0), (74, .iload_n 2, 1, 75, 0), (75, .invokevirtual 122, 3, 78, 0), (78, .ifCond .ne 5, 3, 81, 83), (81, .iconst 0, 1, 82, 0), (82, .ireturn, 1, 83, 0), (83, .aload_n 0, 1, 84, 0), (84, .dup, 1, 85, 0), (85, .getfield 119, 3, 88, 0), (88, .iconst 1, 1, 89, 0), (89, .iadd, 1, 90, 0), (90, .putfield 119, 3, 93, 0), (93, .aload_n 0, 1, 94, 0), (94, .getfield 119, 3, 97, 0), (97, .iconst 3, 1, 98, 0), (98, .if_icmp .ge 16, 3, 101, 114), (101, .aload_n 0, 1, 102, 0), (102, .bipush 44, 2, 104, 0), (104, .invokevirtual 113, 3, 107, 0), (107, .ifCond .eq 7, 3, 110, 114), (110, .iconst 1, 1, 111, 0), (111, .goto 4, 3, 114, 115), (114, .iconst 0, 1, 115, 0), (115, .istore_n 1, 1, 116, 0), (116, .goto (-78), 3, 119, 38), (119, .aload_n 0, 1, 120, 0), (120, .getfield 106, 3, 123, 0), (123, .aload_n 0, 1, 124, 0), (124, .getfield 102, 3, 127, 0), (127, .if_icmp .ne 7, 3, 130, 134), (130, .iconst 1, 1, 131, 0), (131, .goto 4, 3, 134, 135), (134, .iconst 0, 1, 135, 0), (135, .ireturn, 1, 136, 0)])
set_option maxRecDepth 20000 in
theorem ok_X10_isForm : mi_ok M_X10_isForm := ⟨by decide +kernel, by decide +kernel, by decide +kernel, by decide +kernel⟩
def M_X10_loose : MI := (yX10_loose, cX10_loose, 7, (some .int), [(0, .iconst 0, 1, 1, 0), (1, .istore_n 1, 1, 2, 0), (2, .iconst 0, 1, 3, 0), (3, .istore_n 2, 1, 4, 0), (4, .iconst 0, 1, 5, 0), (5, .istore_n 3, 1, 6, 0), (6, .iload_n 3, 1, 7, 0), (7, .aload_n 0, 1, 8, 0), (8, .getfield 119, 3, 11, 0), (11, .if_icmp .gt 87, 3, 14, 98), (14, .iconst 1, 1, 15, 0), (15, .istore 4, 2, 17, 0), (17, .iload 4, 2, 19, 0), (19, .iconst 3, 1, 20, 0), (20, .if_icmp .ge 72, 3, 23, 92), (23, .aload_n 0, 1, 24, 0), (24, .getfield 23, 3, 27, 0), (27, .iconst 4, 1, 28, 0), (28, .iload_n 3, 1, 29, 0), (29, .imul, 1, 30, 0), (30, .iload 4, 2, 32, 0), (32, .iadd, 1, 33, 0), (33, .iaload, 1, 34, 0), (34, .istore 5, 2, 36, 0), (36, .iload 5, 2, 38, 0), (38, .iconst 5, 1, 39, 0), (39, .if_icmp .le 13, 3, 42, 52), (42, .iconst 1, 1, 43, 0), (43, .iload 5, 2, 45, 0), (45, .bipush 6, 2, 47, 0), (47, .isub, 1, 48, 0), (48, .ishl, 1, 49, 0), (49, .goto 4, 3, 52, 53), (52, .iconst 0, 1, 53, 0), (53, .istore 6, 2, 55, 0), (55, .iload_n 1, 1, 56, 0), (56, .iload 6, 2, 58, 0), (58, .ior, 1, 59, 0), (59, .istore_n 1, 1, 60, 0), (60, .iload_n 2, 1, 61, 0), (61, .iload_n 3, 1, 62, 0), (62, .ifCond .le 21, 3, 65, 83), (65, .aload_n 0, 1, 66, 0), (66, .getfield 23, 3, 69, 0), (69, .iconst 4, 1, 70, 0), (70, .iload_n 3, 1, 71, 0), (71, .imul, 1, 72, 0), (72, .iconst 3, 1, 73, 0), (73, .iadd, 1, 74, 0), (74, .iaload, 1, 75, 0), (75, .ifCond .ne 8, 3, 78, 83), (78, .iload 6, 2, 80, 0), (80, .goto 4, 3, 83, 84), (83, .iconst 0, 1, 84, 0), (84, .ior, 1, 85, 0), (85, .istore_n 2, 1, 86, 0), (86, .iinc 4 1, 3, 89, 0), (89, .goto (-72), 3, 92, 17), (92, .iinc 3 1, 3, 95, 0), (95, .goto (-89), 3, 98, 6), (98, .iload_n 1, 1, 99, 0), (99, .iload_n 2, 1, 100, 0), (100, .iconst (-1), 1, 101, 0), (101, .ixor, 1, 102, 0), (102, .iand, 1, 103, 0), (103, .ireturn, 1, 104, 0)])
set_option maxRecDepth 20000 in
theorem ok_X10_loose : mi_ok M_X10_loose := ⟨by decide +kernel, by decide +kernel, by decide +kernel, by decide +kernel⟩
def M_X10_isText : MI := (yX10_isText, cX10_isText, 2, (some .boolean), [(0, .aload_n 0, 1, 1, 0), (1, .invokevirtual 125, 3, 4, 0), (4, .ifCond .ne 5, 3, 7, 9), (7, .iconst 0, 1, 8, 0), (8, .ireturn, 1, 9, 0), (9, .aload_n 0, 1, 10, 0), (10, .invokevirtual 129, 3, 13, 0), (13, .istore_n 1, 1, 14, 0), (14, .aload_n 0, 1, 15, 0), (15, .iconst 0, 1, 16, 0), (16, .putfield 106, 3, 19, 0), (19, .aload_n 0, 1, 20, 0), (20, .getfield 106, 3, 23, 0), (23, .aload_n 0, 1, 24, 0), (24, .getfield 102, 3, 27, 0), (27, .if_icmp .ge 55, 3, 30, 82), (30, .aload_n 0, 1, 31, 0), (31, .getfield 20, 3, 34, 0), (34, .aload_n 0, 1, 35, 0), (35, .getfield 106, 3, 38, 0), (38, .iaload, 1, 39, 0), (39, .bipush 88, 2, 41, 0), (41, .bipush 90, 2, 43, 0), (43, .invokestatic 80, 3, 46, 0), (46, .ifCond .eq 23, 3, 49, 69), (49, .iload_n 1, 1, 50, 0), (50, .aload_n 0, 1, 51, 0), (51, .getfield 20, 3, 54, 0), (54, .aload_n 0, 1, 55, 0), (55, .getfield 106, 3, 58, 0), (58, .iaload, 1, 59, 0), (59, .bipush 88, 2, 61, 0), (61, .isub, 1, 62, 0), (62, .ishr, 1, 63, 0), (63, .iconst 1, 1, 64, 0), (64, .iand, 1, 65, 0), (65, .iconst 1, 1, 66, 0), (66, .if_icmp .eq 16, 3, 69, 82), (69, .aload_n 0, 1, 70, 0), (70, .dup, 1, 71, 0), (71, .getfield 106, 3, 74, 0), (74, .iconst 1, 1, 75, 0), (75, .iadd, 1, 76, 0), (76, .putfield 106, 3, 79, 0), (79, .goto (-60), 3, 82, 19), (82, .aload_n 0, 1, 83, 0), (83, .getfield 106, 3, 86, 0), (86, .aload_n 0, 1, 87, 0), (87, .getfield 102, 3, 90, 0), (90, .if_icmp .ne 7, 3, 93, 97), (93, .iconst 1, 1, 94, 0), (94, .goto 4, 3, 97, 98), (97, .iconst 0, 1, 98, 0), (98, .ireturn, 1, 99, 0)])
set_option maxRecDepth 20000 in
theorem ok_X10_isText : mi_ok M_X10_isText := ⟨by decide +kernel, by decide +kernel, by decide +kernel, by decide +kernel⟩
def M_X10_faultPosition : MI := (yX10_faultPosition, cX10_faultPosition, 1, (some .int), [(0, .aload_n 0, 1, 1, 0), (1, .invokevirtual 132, 3, 4, 0), (4, .ifCond .eq 8, 3, 7, 12), (7, .bipush (-5), 2, 9, 0), (9, .goto 7, 3, 12, 16), (12, .aload_n 0, 1, 13, 0), (13, .getfield 106, 3, 16, 0), (16, .ireturn, 1, 17, 0)])
set_option maxRecDepth 20000 in
theorem ok_X10_faultPosition : mi_ok M_X10_faultPosition := ⟨by decide +kernel, by decide +kernel, by decide +kernel, by decide +kernel⟩
def M_X10_addRule : MI := (yX10_addRule, cX10_addRule, 4, (some .int), [(0, .iload_n 1, 1, 1, 0), (1, .iconst 1, 1, 2, 0), (2, .bipush 9, 2, 4, 0), (4, .invokestatic 80, 3, 7, 0), (7, .ifCond .ne 6, 3, 10, 13), (10, .bipush (-2), 2, 12, 0), (12, .ireturn, 1, 13, 0), (13, .aload_n 0, 1, 14, 0), (14, .invokevirtual 132, 3, 17, 0), (17, .ifCond .ne 6, 3, 20, 23), (20, .bipush (-3), 2, 22, 0), (22, .ireturn, 1, 23, 0), (23, .aload_n 0, 1, 24, 0), (24, .getfield 7, 3, 27, 0), (27, .iconst 2, 1, 28, 0), (28, .iaload, 1, 29, 0), (29, .bipush 8, 2, 31, 0), (31, .if_icmp .ne 6, 3, 34, 37), (34, .bipush (-4), 2, 36, 0), (36, .ireturn, 1, 37, 0), (37, .aload_n 0, 1, 38, 0), (38, .getfield 7, 3, 41, 0), (41, .iconst 2, 1, 42, 0), (42, .iaload, 1, 43, 0), (43, .istore_n 2, 1, 44, 0), (44, .aload_n 0, 1, 45, 0), (45, .getfield 7, 3, 48, 0), (48, .bipush 45, 2, 50, 0), (50, .bipush 18, 2, 52, 0), (52, .iload_n 2, 1, 53, 0), (53, .imul, 1, 54, 0), (54, .iadd, 1, 55, 0), (55, .iload_n 1, 1, 56, 0), (56, .iastore, 1, 57, 0), (57, .aload_n 0, 1, 58, 0), (58, .getfield 7, 3, 61, 0), (61, .bipush 45, 2, 63, 0), (63, .bipush 18, 2, 65, 0), (65, .iload_n 2, 1, 66, 0), (66, .imul, 1, 67, 0), (67, .iadd, 1, 68, 0), (68, .iconst 1, 1, 69, 0), (69, .iadd, 1, 70, 0), (70, .aload_n 0, 1, 71, 0), (71, .getfield 119, 3, 74, 0), (74, .iastore, 1, 75, 0), (75, .iconst 0, 1, 76, 0), (76, .istore_n 3, 1, 77, 0), (77, .iload_n 3, 1, 78, 0), (78, .bipush 16, 2, 80, 0), (80, .if_icmp .ge 27, 3, 83, 107), (83, .aload_n 0, 1, 84, 0), (84, .getfield 7, 3, 87, 0), (87, .iload_n 2, 1, 88, 0), (88, .iconst 0, 1, 89, 0), (89, .invokestatic 88, 3, 92, 0), (92, .iload_n 3, 1, 93, 0), (93, .iadd, 1, 94, 0), (94, .aload_n 0, 1, 95, 0), (95, .getfield 23, 3, 98, 0), (98, .iload_n 3, 1, 99, 0), (99, .iaload, 1, 100, 0), (100, .iastore, 1, 101, 0), (101, .iinc 3 1, 3, 104, 0), (104, .goto (-27), 3, 107, 77), (107, .aload_n 0, 1, 108, 0), (108, .getfield 7, 3, 111, 0), (111, .iconst 2, 1, 112, 0), (112, .dup2, 1, 113, 0), (113, .iaload, 1, 114, 0), (114, .iconst 1, 1, 115, 0), (115, .iadd, 1, 116, 0), (116, .iastore, 1, 117, 0), (117, .aload_n 0, 1, 118, 0), (118, .iconst 0, 1, 119, 0), (119, .putfield 76, 3, 122, 0), (122, .iload_n 2, 1, 123, 0), (123, .ireturn, 1, 124, 0)])
set_option maxRecDepth 20000 in
theorem ok_X10_addRule : mi_ok M_X10_addRule := ⟨by decide +kernel, by decide +kernel, by decide +kernel, by decide +kernel⟩
def M_X10_findStrata : MI := (yX10_findStrata, cX10_findStrata, 7, (some .boolean), [(0, .iconst 0, 1, 1, 0), (1, .istore_n 1, 1, 2, 0), (2, .iload_n 1, 1, 3, 0), (3, .bipush 6, 2, 5, 0), (5, .if_icmp .ge 16, 3, 8, 21), (8, .aload_n 0, 1, 9, 0), (9, .getfield 26, 3, 12, 0), (12, .iload_n 1, 1, 13, 0), (13, .iconst 0, 1, 14, 0), (14, .iastore, 1, 15, 0), (15, .iinc 1 1, 3, 18, 0), (18, .goto (-16), 3, 21, 2), (21, .iconst 1, 1, 22, 0), (22, .istore_n 1, 1, 23, 0), (23, .iconst 1, 1, 24, 0), (24, .istore_n 2, 1, 25, 0), (25, .iload_n 1, 1, 26, 0), (26, .ifCond .eq 142, 3, 29, 168), (29, .iload_n 2, 1, 30, 0), (30, .ifCond .eq 138, 3, 33, 168), (33, .iconst 0, 1, 34, 0), (34, .istore_n 1, 1, 35, 0), (35, .iconst 0, 1, 36, 0), (36, .istore_n 3, 1, 37, 0), (37, .iload_n 3, 1, 38, 0), (38, .aload_n 0, 1, 39, 0), (39, .getfield 7, 3, 42, 0), (42, .iconst 2, 1, 43, 0), (43, .iaload, 1, 44, 0), (44, .if_icmp .ge 121, 3, 47, 165), (47, .aload_n 0, 1, 48, 0), (48, .getfield 7, 3, 51, 0), (51, .iload_n 3, 1, 52, 0), (52, .iconst 0, 1, 53, 0), (53, .invokestatic 88, 3, 56, 0), (56, .iaload, 1, 57, 0), (57, .istore 4, 2, 59, 0), (59, .iconst 1, 1, 60, 0), (60, .istore 5, 2, 62, 0), (62, .iload 5, 2, 64, 0), (64, .aload_n 0, 1, 65, 0), (65, .getfield 7, 3, 68, 0), (68, .bipush 45, 2, 70, 0), (70, .bipush 18, 2, 72, 0), (72, .iload_n 3, 1, 73, 0), (73, .imul, 1, 74, 0), (74, .iadd, 1, 75, 0), (75, .iconst 1, 1, 76, 0), (76, .iadd, 1, 77, 0), (77, .iaload, 1, 78, 0), (78, .if_icmp .gt 81, 3, 81, 159), (81, .aload_n 0, 1, 82, 0), (82, .getfield 26, 3, 85, 0), (85, .aload_n 0, 1, 86, 0), (86, .getfield 7, 3, 89, 0), (89, .iload_n 3, 1, 90, 0), (90, .iload 5, 2, 92, 0), (92, .invokestatic 88, 3, 95, 0), (95, .iaload, 1, 96, 0), (96, .iaload, 1, 97, 0), (97, .aload_n 0, 1, 98, 0), (98, .getfield 7, 3, 101, 0), (101, .iload_n 3, 1, 102, 0), (102, .iload 5, 2, 104, 0), (104, .invokestatic 88, 3, 107, 0), (107, .iconst 3, 1, 108, 0), (108, .iadd, 1, 109, 0), (109, .iaload, 1, 110, 0), (110, .iadd, 1, 111, 0), (111, .istore 6, 2, 113, 0), (113, .aload_n 0, 1, 114, 0), (114, .getfield 26, 3, 117, 0), (117, .iload 4, 2, 119, 0), (119, .iaload, 1, 120, 0), (120, .iload 6, 2, 122, 0), (122, .if_icmp .ge 31, 3, 125, 153), (125, .aload_n 0, 1, 126, 0), (126, .getfield 26, 3, 129, 0), (129, .iload 4, 2, 131, 0), (131, .iload 6, 2, 133, 0), (133, .iastore, 1, 134, 0), (134, .iconst 1, 1, 135, 0), (135, .istore_n 1, 1, 136, 0), (136, .iload_n 2, 1, 137, 0), (137, .ifCond .eq 14, 3, 140, 151), (140, .iload 6, 2, 142, 0), (142, .bipush 6, 2, 144, 0), (144, .if_icmp .ge 7, 3, 147, 151), (147, .iconst 1, 1, 148, 0), (148, .goto 4, 3, 151, 152), (151, .iconst 0, 1, 152, 0), (152, .istore_n 2, 1, 153, 0), (153, .iinc 5 1, 3, 156, 0), (156, .goto (-94), 3, 159, 62), (159, .iinc 3 1, 3, 162, 0), (162, .goto (-125), 3, 165, 37), (165, .goto (-140), 3, 168, 25), (168, .iload_n 2, 1, 169, 0), (169, .ireturn, 1, 170, 0)])
set_option maxRecDepth 20000 in
theorem ok_X10_findStrata : mi_ok M_X10_findStrata := ⟨by decide +kernel, by decide +kernel, by decide +kernel, by decide +kernel⟩
def M_X10_termOf : MI := (yX10_termOf, cX10_termOf, 2, (some .int), [(0, .iload_n 1, 1, 1, 0), (1, .bipush 6, 2, 3, 0), (3, .if_icmp .ge 7, 3, 6, 10), (6, .iload_n 1, 1, 7, 0), (7, .goto 12, 3, 10, 19), (10, .aload_n 0, 1, 11, 0), (11, .getfield 29, 3, 14, 0), (14, .iload_n 1, 1, 15, 0), (15, .bipush 6, 2, 17, 0), (17, .isub, 1, 18, 0), (18, .iaload, 1, 19, 0), (19, .ireturn, 1, 20, 0)])
set_option maxRecDepth 20000 in
theorem ok_X10_termOf : mi_ok M_X10_termOf := ⟨by decide +kernel, by decide +kernel, by decide +kernel, by decide +kernel⟩
def M_X10_factAt : MI := (yX10_factAt, cX10_factAt, 4, (some .int), [(0, .iload_n 1, 1, 1, 0), (1, .iload_n 2, 1, 2, 0), (2, .invokestatic 88, 3, 5, 0), (5, .istore_n 3, 1, 6, 0), (6, .aload_n 0, 1, 7, 0), (7, .getfield 7, 3, 10, 0), (10, .iload_n 3, 1, 11, 0), (11, .iaload, 1, 12, 0), (12, .aload_n 0, 1, 13, 0), (13, .aload_n 0, 1, 14, 0), (14, .getfield 7, 3, 17, 0), (17, .iload_n 3, 1, 18, 0), (18, .iconst 1, 1, 19, 0), (19, .iadd, 1, 20, 0), (20, .iaload, 1, 21, 0), (21, .invokevirtual 135, 3, 24, 0), (24, .aload_n 0, 1, 25, 0), (25, .aload_n 0, 1, 26, 0), (26, .getfield 7, 3, 29, 0), (29, .iload_n 3, 1, 30, 0), (30, .iconst 2, 1, 31, 0), (31, .iadd, 1, 32, 0), (32, .iaload, 1, 33, 0), (33, .invokevirtual 135, 3, 36, 0), (36, .invokestatic 98, 3, 39, 0), (39, .ireturn, 1, 40, 0)])
set_option maxRecDepth 20000 in
theorem ok_X10_factAt : mi_ok M_X10_factAt := ⟨by decide +kernel, by decide +kernel, by decide +kernel, by decide +kernel⟩
def M_X10_isBinding : MI := (yX10_isBinding, cX10_isBinding, 7, (some .boolean), [(0, .aload_n 0, 1, 1, 0), (1, .getfield 29, 3, 4, 0), (4, .iconst 0, 1, 5, 0), (5, .iload_n 2, 1, 6, 0), (6, .bipush 36, 2, 8, 0), (8, .idiv, 1, 9, 0), (9, .iastore, 1, 10, 0), (10, .aload_n 0, 1, 11, 0), (11, .getfield 29, 3, 14, 0), (14, .iconst 1, 1, 15, 0), (15, .iload_n 2, 1, 16, 0), (16, .bipush 6, 2, 18, 0), (18, .idiv, 1, 19, 0), (19, .bipush 6, 2, 21, 0), (21, .irem, 1, 22, 0), (22, .iastore, 1, 23, 0), (23, .aload_n 0, 1, 24, 0), (24, .getfield 29, 3, 27, 0), (27, .iconst 2, 1, 28, 0), (28, .iload_n 2, 1, 29, 0), (29, .bipush 6, 2, 31, 0), (31, .irem, 1, 32, 0), (32, .iastore, 1, 33, 0), (33, .iconst 0, 1, 34, 0), (34, .istore_n 3, 1, 35, 0), (35, .iconst 0, 1, 36, 0), (36, .istore 4, 2, 38, 0), (38, .iload 4, 2, 40, 0), (40, .aload_n 0, 1, 41, 0), (41, .getfield 7, 3, 44, 0), (44, .bipush 45, 2, 46, 0), (46, .bipush 18, 2, 48, 0), (48, .iload_n 1, 1, 49, 0), (49, .imul, 1, 50, 0), (50, .iadd, 1, 51, 0), (51, .iconst 1, 1, 52, 0), (52, .iadd, 1, 53, 0), (53, .iaload, 1, 54, 0), (54, .if_icmp .gt 60, 3, 57, 114), (57, .iconst 1, 1, 58, 0), (58, .istore 5, 2, 60, 0), (60, .iload 5, 2, 62, 0), (62, .iconst 3, 1, 63, 0), (63, .if_icmp .ge 45, 3, 66, 108), (66, .aload_n 0, 1, 67, 0), (67, .getfield 7, 3, 70, 0), (70, .iload_n 1, 1, 71, 0), (71, .iload 4, 2, 73, 0), (73, .invokestatic 88, 3, 76, 0), (76, .iload 5, 2, 78, 0), (78, .iadd, 1, 79, 0), (79, .iaload, 1, 80, 0), (80, .istore 6, 2, 82, 0), (82, .iload_n 3, 1, 83, 0), (83, .iload 6, 2, 85, 0), (85, .iconst 5, 1, 86, 0), (86, .if_icmp .le 13, 3, 89, 99), (89, .iconst 1, 1, 90, 0), (90, .iload 6, 2, 92, 0), (92, .bipush 6, 2, 94, 0), (94, .isub, 1, 95, 0), (95, .ishl, 1, 96, 0), (96, .goto 4, 3, 99, 100), (99, .iconst 0, 1, 100, 0), (100, .ior, 1, 101, 0), (101, .istore_n 3, 1, 102, 0), (102, .iinc 5 1, 3, 105, 0), (105, .goto (-45), 3, 108, 60), (108, .iinc 4 1, 3, 111, 0), (111, .goto (-73), 3, 114, 38), (114, .iconst 1, 1, 115, 0), (115, .istore 4, 2, 117, 0), (117, .iconst 0, 1, 118, 0), (118, .istore 5, 2, 120, 0), (120, .iload 5, 2, 122, 0), (122, .iconst 3, 1, 123, 0), (123, .if_icmp .ge 51, 3, 126, 174), (126, .iload 4, 2, 128, 0), (128, .ifCond .eq 37, 3, 131, 165), (131, .aload_n 0, 1, 132, 0), (132, .getfield 29, 3, 135, 0), (135, .iload 5, 2, 137, 0), (137, .iaload, 1, 138, 0), (138, .iload_n 3, 1, 139, 0), (139, .iload 5, 2, 141, 0), (141, .ishr, 1, 142, 0), (142, .iconst 1, 1, 143, 0), (143, .iand, 1, 144, 0), (144, .iconst 1, 1, 145, 0), (145, .if_icmp .ne 12, 3, 148, 157), (148, .aload_n 0, 1, 149, 0), (149, .getfield 7, 3, 152, 0), (152, .iconst 0, 1, 153, 0), (153, .iaload, 1, 154, 0), (154, .goto 4, 3, 157, 158), (157, .iconst 1, 1, 158, 0), (158, .if_icmp .ge 7, 3, 161, 165), (161, .iconst 1, 1, 162, 0), (162, .goto 4, 3, 165, 166), (165, .iconst 0, 1, 166, 0), (166, .istore 4, 2, 168, 0), (168, .iinc 5 1, 3, 171, 0), (171, .goto (-51), 3, 174, 120), (174, .iload 4, 2, 176, 0), (176, .ireturn, 1, 177, 0)])
set_option maxRecDepth 20000 in
theorem ok_X10_isBinding : mi_ok M_X10_isBinding := ⟨by decide +kernel, by decide +kernel, by decide +kernel, by decide +kernel⟩
def M_X10_holds : MI := (yX10_holds, cX10_holds, 6, (some .boolean), [(0, .iconst 1, 1, 1, 0), (1, .istore_n 3, 1, 2, 0), (2, .iconst 1, 1, 3, 0), (3, .istore 4, 2, 5, 0), (5, .iload 4, 2, 7, 0), (7, .aload_n 0, 1, 8, 0), (8, .getfield 7, 3, 11, 0), (11, .bipush 45, 2, 13, 0), (13, .bipush 18, 2, 15, 0), (15, .iload_n 1, 1, 16, 0), (16, .imul, 1, 17, 0), (17, .iadd, 1, 18, 0), (18, .iconst 1, 1, 19, 0), (19, .iadd, 1, 20, 0), (20, .iaload, 1, 21, 0), (21, .if_icmp .gt 64, 3, 24, 85), (24, .aload_n 2, 1, 25, 0), (25, .aload_n 0, 1, 26, 0), (26, .iload_n 1, 1, 27, 0), (27, .iload 4, 2, 29, 0), (29, .invokevirtual 139, 3, 32, 0), (32, .iaload, 1, 33, 0), (33, .ifCond .lt 7, 3, 36, 40), (36, .iconst 1, 1, 37, 0), (37, .goto 4, 3, 40, 41), (40, .iconst 0, 1, 41, 0), (41, .istore 5, 2, 43, 0), (43, .iload_n 3, 1, 44, 0), (44, .ifCond .eq 33, 3, 47, 77), (47, .iload 5, 2, 49, 0), (49, .aload_n 0, 1, 50, 0), (50, .getfield 7, 3, 53, 0), (53, .iload_n 1, 1, 54, 0), (54, .iload 4, 2, 56, 0), (56, .invokestatic 88, 3, 59, 0), (59, .iconst 3, 1, 60, 0), (60, .iadd, 1, 61, 0), (61, .iaload, 1, 62, 0), (62, .ifCond .ne 7, 3, 65, 69), (65, .iconst 1, 1, 66, 0), (66, .goto 4, 3, 69, 70), (69, .iconst 0, 1, 70, 0), (70, .if_icmp .ne 7, 3, 73, 77), (73, .iconst 1, 1, 74, 0), (74, .goto 4, 3, 77, 78), (77, .iconst 0, 1, 78, 0), (78, .istore_n 3, 1, 79, 0), (79, .iinc 4 1, 3, 82, 0), (82, .goto (-77), 3, 85, 5), (85, .iload_n 3, 1, 86, 0), (86, .ireturn, 1, 87, 0)])
set_option maxRecDepth 20000 in
theorem ok_X10_holds : mi_ok M_X10_holds := ⟨by decide +kernel, by decide +kernel, by decide +kernel, by decide +kernel⟩
def M_X10_goes : MI := (yX10_goes, cX10_goes, 7, (some .int), [(0, .iconst 0, 1, 1, 0), (1, .istore_n 3, 1, 2, 0), (2, .iconst 0, 1, 3, 0), (3, .istore 4, 2, 5, 0), (5, .iload 4, 2, 7, 0), (7, .sipush 216, 3, 10, 0), (10, .if_icmp .ge 17, 3, 13, 27), (13, .aload_n 0, 1, 14, 0), (14, .getfield 38, 3, 17, 0), (17, .iload 4, 2, 19, 0), (19, .iconst 0, 1, 20, 0), (20, .bastore, 1, 21, 0), (21, .iinc 4 1, 3, 24, 0), (24, .goto (-19), 3, 27, 5), (27, .iconst 0, 1, 28, 0), (28, .istore 4, 2, 30, 0), (30, .iload 4, 2, 32, 0), (32, .aload_n 0, 1, 33, 0), (33, .getfield 7, 3, 36, 0), (36, .iconst 2, 1, 37, 0), (37, .iaload, 1, 38, 0), (38, .if_icmp .ge 95, 3, 41, 133), (41, .iconst 0, 1, 42, 0), (42, .istore 5, 2, 44, 0), (44, .iload 5, 2, 46, 0), (46, .sipush 216, 3, 49, 0), (49, .if_icmp .ge 78, 3, 52, 127), (52, .aload_n 0, 1, 53, 0), (53, .getfield 26, 3, 56, 0), (56, .aload_n 0, 1, 57, 0), (57, .getfield 7, 3, 60, 0), (60, .iload 4, 2, 62, 0), (62, .iconst 0, 1, 63, 0), (63, .invokestatic 88, 3, 66, 0), (66, .iaload, 1, 67, 0), (67, .iaload, 1, 68, 0), (68, .iload_n 1, 1, 69, 0), (69, .if_icmp .ne 58, 3, 72, 127), (72, .aload_n 0, 1, 73, 0), (73, .iload 4, 2, 75, 0), (75, .iload 5, 2, 77, 0), (77, .invokevirtual 142, 3, 80, 0), (80, .ifCond .eq 41, 3, 83, 121), (83, .aload_n 0, 1, 84, 0), (84, .iload 4, 2, 86, 0), (86, .aload_n 2, 1, 87, 0), (87, .invokevirtual 146, 3, 90, 0), (90, .ifCond .eq 31, 3, 93, 121), (93, .aload_n 0, 1, 94, 0), (94, .iload 4, 2, 96, 0), (96, .iconst 0, 1, 97, 0), (97, .invokevirtual 139, 3, 100, 0), (100, .istore 6, 2, 102, 0), (102, .aload_n 0, 1, 103, 0), (103, .getfield 38, 3, 106, 0), (106, .iload 6, 2, 108, 0), (108, .aload_n 2, 1, 109, 0), (109, .iload 6, 2, 111, 0), (111, .iaload, 1, 112, 0), (112, .ifCond .ge 7, 3, 115, 119), (115, .iconst 1, 1, 116, 0), (116, .goto 4, 3, 119, 120), (119, .iconst 0, 1, 120, 0), (120, .bastore, 1, 121, 0), (121, .iinc 5 1, 3, 124, 0), (124, .goto (-80), 3, 127, 44), (127, .iinc 4 1, 3, 130, 0), (130, .goto (-100), 3, 133, 30), (133, .iconst 0, 1, 134, 0), (134, .istore 4, 2, 136, 0), (136, .iload 4, 2, 138, 0), (138, .sipush 216, 3, 141, 0), (141, .if_icmp .ge 27, 3, 144, 168), (144, .iload_n 3, 1, 145, 0), (145, .aload_n 0, 1, 146, 0), (146, .getfield 38, 3, 149, 0), (149, .iload 4, 2, 151, 0), (151, .baload, 1, 152, 0), (152, .ifCond .eq 7, 3, 155, 159), (155, .iconst 1, 1, 156, 0), (156, .goto 4, 3, 159, 160), (159, .iconst 0, 1, 160, 0), (160, .iadd, 1, 161, 0), (161, .istore_n 3, 1, 162, 0), (162, .iinc 4 1, 3, 165, 0), (165, .goto (-29), 3, 168, 136), (168, .aload_n 0, 1, 169, 0), (169, .dup, 1, 170, 0), (170, .getfield 150, 3, 173, 0), (173, .iload_n 3, 1, 174, 0), (174, .ifCond .le 7, 3, 177, 181), (177, .iconst 1, 1, 178, 0), (178, .goto 4, 3, 181, 182), (181, .iconst 0, 1, 182, 0), (182, .iadd, 1, 183, 0), (183, .putfield 150, 3, 186, 0), (186, .iconst 0, 1, 187, 0), (187, .istore 4, 2, 189, 0), (189, .iload 4, 2, 191, 0), (191, .sipush 216, 3, 194, 0), (194, .if_icmp .ge 34, 3, 197, 228), (197, .aload_n 2, 1, 198, 0), (198, .iload 4, 2, 200, 0), (200, .aload_n 0, 1, 201, 0), (201, .getfield 38, 3, 204, 0), (204, .iload 4, 2, 206, 0), (206, .baload, 1, 207, 0), (207, .ifCond .eq 10, 3, 210, 217), (210, .aload_n 0, 1, 211, 0), (211, .getfield 150, 3, 214, 0), (214, .goto 7, 3, 217, 221), (217, .aload_n 2, 1, 218, 0), (218, .iload 4, 2, 220, 0), (220, .iaload, 1, 221, 0), (221, .iastore, 1, 222, 0), (222, .iinc 4 1, 3, 225, 0), (225, .goto (-36), 3, 228, 189), (228, .iload_n 3, 1, 229, 0), (229, .ireturn, 1, 230, 0)])
set_option maxRecDepth 20000 in
theorem ok_X10_goes : mi_ok M_X10_goes := ⟨by decide +kernel, by decide +kernel, by decide +kernel, by decide +kernel⟩
def M_X10_builds : MI := (yX10_builds, cX10_builds, 5, none, [(0, .aload_n 0, 1, 1, 0), (1, .iconst 0, 1, 2, 0), (2, .putfield 150, 3, 5, 0), (5, .iconst 0, 1, 6, 0), (6, .istore_n 3, 1, 7, 0), (7, .iload_n 3, 1, 8, 0), (8, .sipush 216, 3, 11, 0), (11, .if_icmp .ge 13, 3, 14, 24), (14, .aload_n 2, 1, 15, 0), (15, .iload_n 3, 1, 16, 0), (16, .iconst (-1), 1, 17, 0), (17, .iastore, 1, 18, 0), (18, .iinc 3 1, 3, 21, 0), (21, .goto (-14), 3, 24, 7), (24, .iconst 0, 1, 25, 0), (25, .istore_n 3, 1, 26, 0), (26, .iload_n 3, 1, 27, 0), (27, .aload_n 0, 1, 28, 0), (28, .getfield 7, 3, 31, 0), (31, .iconst 1, 1, 32, 0), (32, .iaload, 1, 33, 0), (33, .if_icmp .ge 31, 3, 36, 64), (36, .iload_n 1, 1, 37, 0), (37, .iload_n 3, 1, 38, 0), (38, .ishr, 1, 39, 0), (39, .iconst 1, 1, 40, 0), (40, .iand, 1, 41, 0), (41, .ifCond .ne 17, 3, 44, 58), (44, .aload_n 2, 1, 45, 0), (45, .aload_n 0, 1, 46, 0), (46, .getfield 7, 3, 49, 0), (49, .bipush 9, 2, 51, 0), (51, .iconst 3, 1, 52, 0), (52, .iload_n 3, 1, 53, 0), (53, .imul, 1, 54, 0), (54, .iadd, 1, 55, 0), (55, .iaload, 1, 56, 0), (56, .iconst 0, 1, 57, 0), (57, .iastore, 1, 58, 0), (58, .iinc 3 1, 3, 61, 0), (61, .goto (-35), 3, 64, 26), (64, .iconst 0, 1, 65, 0), (65, .istore_n 3, 1, 66, 0), (66, .iload_n 3, 1, 67, 0), (67, .bipush 6, 2, 69, 0), (69, .if_icmp .ge 33, 3, 72, 102), (72, .aload_n 0, 1, 73, 0), (73, .iload_n 3, 1, 74, 0), (74, .aload_n 2, 1, 75, 0), (75, .invokevirtual 153, 3, 78, 0), (78, .istore 4, 2, 80, 0), (80, .iload 4, 2, 82, 0), (82, .ifCond .le 14, 3, 85, 96), (85, .aload_n 0, 1, 86, 0), (86, .iload_n 3, 1, 87, 0), (87, .aload_n 2, 1, 88, 0), (88, .invokevirtual 153, 3, 91, 0), (91, .istore 4, 2, 93, 0), (93, .goto (-13), 3, 96, 80), (96, .iinc 3 1, 3, 99, 0), (99, .goto (-33), 3, 102, 66), (102, .return_, 1, 103, 0)])
set_option maxRecDepth 20000 in
theorem ok_X10_builds : mi_ok M_X10_builds := ⟨by decide +kernel, by decide +kernel, by decide +kernel, by decide +kernel⟩
def M_X10_findHolding : MI := (yX10_findHolding, cX10_findHolding, 5, none, [(0, .aload_n 0, 1, 1, 0), (1, .iconst 0, 1, 2, 0), (2, .putfield 157, 3, 5, 0), (5, .iconst 0, 1, 6, 0), (6, .istore_n 1, 1, 7, 0), (7, .iload_n 1, 1, 8, 0), (8, .aload_n 0, 1, 9, 0), (9, .getfield 7, 3, 12, 0), (12, .iconst 2, 1, 13, 0), (13, .iaload, 1, 14, 0), (14, .if_icmp .ge 163, 3, 17, 177), (17, .iconst 0, 1, 18, 0), (18, .istore_n 2, 1, 19, 0), (19, .iload_n 2, 1, 20, 0), (20, .sipush 216, 3, 23, 0), (23, .if_icmp .ge 148, 3, 26, 171), (26, .aload_n 0, 1, 27, 0), (27, .iload_n 1, 1, 28, 0), (28, .iload_n 2, 1, 29, 0), (29, .invokevirtual 142, 3, 32, 0), (32, .ifCond .eq 133, 3, 35, 165), (35, .aload_n 0, 1, 36, 0), (36, .iload_n 1, 1, 37, 0), (37, .aload_n 0, 1, 38, 0), (38, .getfield 32, 3, 41, 0), (41, .invokevirtual 146, 3, 44, 0), (44, .ifCond .eq 121, 3, 47, 165), (47, .aload_n 0, 1, 48, 0), (48, .getfield 41, 3, 51, 0), (51, .aload_n 0, 1, 52, 0), (52, .getfield 157, 3, 55, 0), (55, .iload_n 1, 1, 56, 0), (56, .iastore, 1, 57, 0), (57, .aload_n 0, 1, 58, 0), (58, .getfield 44, 3, 61, 0), (61, .aload_n 0, 1, 62, 0), (62, .getfield 157, 3, 65, 0), (65, .aload_n 0, 1, 66, 0), (66, .iload_n 1, 1, 67, 0), (67, .iconst 0, 1, 68, 0), (68, .invokevirtual 139, 3, 71, 0), (71, .iastore, 1, 72, 0), (72, .iconst 1, 1, 73, 0), (73, .istore_n 3, 1, 74, 0), (74, .iload_n 3, 1, 75, 0), (75, .iconst 4, 1, 76, 0), (76, .if_icmp .ge 79, 3, 79, 155), (79, .iload_n 3, 1, 80, 0), (80, .aload_n 0, 1, 81, 0), (81, .getfield 7, 3, 84, 0), (84, .bipush 45, 2, 86, 0), (86, .bipush 18, 2, 88, 0), (88, .iload_n 1, 1, 89, 0), (89, .imul, 1, 90, 0), (90, .iadd, 1, 91, 0), (91, .iconst 1, 1, 92, 0), (92, .iadd, 1, 93, 0), (93, .iaload, 1, 94, 0), (94, .if_icmp .gt 22, 3, 97, 116), (97, .aload_n 0, 1, 98, 0), (98, .getfield 7, 3, 101, 0), (101, .iload_n 1, 1, 102, 0), (102, .iload_n 3, 1, 103, 0), (103, .invokestatic 88, 3, 106, 0), (106, .iconst 3, 1, 107, 0), (107, .iadd, 1, 108, 0), (108, .iaload, 1, 109, 0), (109, .ifCond .ne 7, 3, 112, 116), (112, .iconst 1, 1, 113, 0), (113, .goto 4, 3, 116, 117), (116, .iconst 0, 1, 117, 0), (117, .istore 4, 2, 119, 0), (119, .aload_n 0, 1, 120, 0), (120, .getfield 47, 3, 123, 0), (123, .iconst 3, 1, 124, 0), (124, .aload_n 0, 1, 125, 0), (125, .getfield 157, 3, 128, 0), (128, .imul, 1, 129, 0), (129, .iload_n 3, 1, 130, 0), (130, .iadd, 1, 131, 0), (131, .iconst 1, 1, 132, 0), (132, .isub, 1, 133, 0), (133, .iload 4, 2, 135, 0), (135, .ifCond .eq 12, 3, 138, 147), (138, .aload_n 0, 1, 139, 0), (139, .iload_n 1, 1, 140, 0), (140, .iload_n 3, 1, 141, 0), (141, .invokevirtual 139, 3, 144, 0), (144, .goto 4, 3, 147, 148), (147, .iconst (-1), 1, 148, 0), (148, .iastore, 1, 149, 0), (149, .iinc 3 1, 3, 152, 0), (152, .goto (-78), 3, 155, 74), (155, .aload_n 0, 1, 156, 0), (156, .dup, 1, 157, 0), (157, .getfield 157, 3, 160, 0), (160, .iconst 1, 1, 161, 0), (161, .iadd, 1, 162, 0), (162, .putfield 157, 3, 165, 0), (165, .iinc 2 1, 3, 168, 0), (168, .goto (-149), 3, 171, 19), (171, .iinc 1 1, 3, 174, 0), (174, .goto (-167), 3, 177, 7), (177, .return_, 1, 178, 0)])
set_option maxRecDepth 20000 in
theorem ok_X10_findHolding : mi_ok M_X10_findHolding := ⟨by decide +kernel, by decide +kernel, by decide +kernel, by decide +kernel⟩
def M_X10_finds : MI := (yX10_finds, cX10_finds, 1, (some .boolean), [(0, .aload_n 0, 1, 1, 0), (1, .getfield 76, 3, 4, 0), (4, .ifCond .ne 56, 3, 7, 60), (7, .aload_n 0, 1, 8, 0), (8, .iconst 1, 1, 9, 0), (9, .putfield 76, 3, 12, 0), (12, .aload_n 0, 1, 13, 0), (13, .aload_n 0, 1, 14, 0), (14, .invokevirtual 160, 3, 17, 0), (17, .putfield 163, 3, 20, 0), (20, .aload_n 0, 1, 21, 0), (21, .getfield 163, 3, 24, 0), (24, .ifCond .eq 36, 3, 27, 60), (27, .aload_n 0, 1, 28, 0), (28, .iconst 0, 1, 29, 0), (29, .aload_n 0, 1, 30, 0), (30, .getfield 32, 3, 33, 0), (33, .invokevirtual 166, 3, 36, 0), (36, .aload_n 0, 1, 37, 0), (37, .aload_n 0, 1, 38, 0), (38, .getfield 150, 3, 41, 0), (41, .putfield 170, 3, 44, 0), (44, .aload_n 0, 1, 45, 0), (45, .invokevirtual 173, 3, 48, 0), (48, .aload_n 0, 1, 49, 0), (49, .invokevirtual 176, 3, 52, 0), (52, .aload_n 0, 1, 53, 0), (53, .invokevirtual 179, 3, 56, 0), (56, .aload_n 0, 1, 57, 0), (57, .invokevirtual 182, 3, 60, 0), (60, .aload_n 0, 1, 61, 0), (61, .getfield 163, 3, 64, 0), (64, .ireturn, 1, 65, 0)])
set_option maxRecDepth 20000 in
theorem ok_X10_finds : mi_ok M_X10_finds := ⟨by decide +kernel, by decide +kernel, by decide +kernel, by decide +kernel⟩
def M_X10_stratum : MI := (yX10_stratum, cX10_stratum, 2, (some .int), [(0, .iload_n 1, 1, 1, 0), (1, .iconst 0, 1, 2, 0), (2, .iconst 5, 1, 3, 0), (3, .invokestatic 80, 3, 6, 0), (6, .ifCond .ne 5, 3, 9, 11), (9, .iconst (-1), 1, 10, 0), (10, .ireturn, 1, 11, 0), (11, .aload_n 0, 1, 12, 0), (12, .invokevirtual 185, 3, 15, 0), (15, .ifCond .eq 12, 3, 18, 27), (18, .aload_n 0, 1, 19, 0), (19, .getfield 26, 3, 22, 0), (22, .iload_n 1, 1, 23, 0), (23, .iaload, 1, 24, 0), (24, .goto 5, 3, 27, 29), (27, .bipush (-6), 2, 29, 0), (29, .ireturn, 1, 30, 0)])
set_option maxRecDepth 20000 in
theorem ok_X10_stratum : mi_ok M_X10_stratum := ⟨by decide +kernel, by decide +kernel, by decide +kernel, by decide +kernel⟩
def M_X10_tally : MI := (yX10_tally, cX10_tally, 5, (some .int), [(0, .iconst 0, 1, 1, 0), (1, .istore_n 3, 1, 2, 0), (2, .iload_n 1, 1, 3, 0), (3, .istore 4, 2, 5, 0), (5, .iload 4, 2, 7, 0), (7, .iload_n 2, 1, 8, 0), (8, .if_icmp .ge 24, 3, 11, 32), (11, .iload_n 3, 1, 12, 0), (12, .aload_n 0, 1, 13, 0), (13, .iload 4, 2, 15, 0), (15, .iaload, 1, 16, 0), (16, .ifCond .ge 7, 3, 19, 23), (19, .iconst 0, 1, 20, 0), (20, .goto 4, 3, 23, 24), (23, .iconst 1, 1, 24, 0), (24, .iadd, 1, 25, 0), (25, .istore_n 3, 1, 26, 0), (26, .iinc 4 1, 3, 29, 0), (29, .goto (-24), 3, 32, 5), (32, .iload_n 3, 1, 33, 0), (33, .ireturn, 1, 34, 0)])
set_option maxRecDepth 20000 in
theorem ok_X10_tally : mi_ok M_X10_tally := ⟨by decide +kernel, by decide +kernel, by decide +kernel, by decide +kernel⟩
def M_X10_size : MI := (yX10_size, cX10_size, 1, (some .int), [(0, .aload_n 0, 1, 1, 0), (1, .invokevirtual 185, 3, 4, 0), (4, .ifCond .eq 17, 3, 7, 21), (7, .aload_n 0, 1, 8, 0), (8, .getfield 32, 3, 11, 0), (11, .iconst 0, 1, 12, 0), (12, .sipush 216, 3, 15, 0), (15, .invokestatic 188, 3, 18, 0), (18, .goto 5, 3, 21, 23), (21, .bipush (-6), 2, 23, 0), (23, .ireturn, 1, 24, 0)])
set_option maxRecDepth 20000 in
theorem ok_X10_size : mi_ok M_X10_size := ⟨by decide +kernel, by decide +kernel, by decide +kernel, by decide +kernel⟩
def M_X10_count : MI := (yX10_count, cX10_count, 2, (some .int), [(0, .iload_n 1, 1, 1, 0), (1, .iconst 0, 1, 2, 0), (2, .iconst 5, 1, 3, 0), (3, .invokestatic 80, 3, 6, 0), (6, .ifCond .ne 5, 3, 9, 11), (9, .iconst (-1), 1, 10, 0), (10, .ireturn, 1, 11, 0), (11, .aload_n 0, 1, 12, 0), (12, .invokevirtual 185, 3, 15, 0), (15, .ifCond .eq 24, 3, 18, 39), (18, .aload_n 0, 1, 19, 0), (19, .getfield 32, 3, 22, 0), (22, .bipush 36, 2, 24, 0), (24, .iload_n 1, 1, 25, 0), (25, .imul, 1, 26, 0), (26, .bipush 36, 2, 28, 0), (28, .iload_n 1, 1, 29, 0), (29, .imul, 1, 30, 0), (30, .bipush 36, 2, 32, 0), (32, .iadd, 1, 33, 0), (33, .invokestatic 188, 3, 36, 0), (36, .goto 5, 3, 39, 41), (39, .bipush (-6), 2, 41, 0), (41, .ireturn, 1, 42, 0)])
set_option maxRecDepth 20000 in
theorem ok_X10_count : mi_ok M_X10_count := ⟨by decide +kernel, by decide +kernel, by decide +kernel, by decide +kernel⟩
def M_X10_rounds : MI := (yX10_rounds, cX10_rounds, 1, (some .int), [(0, .aload_n 0, 1, 1, 0), (1, .invokevirtual 185, 3, 4, 0), (4, .ifCond .eq 10, 3, 7, 14), (7, .aload_n 0, 1, 8, 0), (8, .getfield 170, 3, 11, 0), (11, .goto 5, 3, 14, 16), (14, .bipush (-6), 2, 16, 0), (16, .ireturn, 1, 17, 0)])
set_option maxRecDepth 20000 in
theorem ok_X10_rounds : mi_ok M_X10_rounds := ⟨by decide +kernel, by decide +kernel, by decide +kernel, by decide +kernel⟩
def M_X10_wrong : MI := (yX10_wrong, cX10_wrong, 4, (some .int), [(0, .aload_n 0, 1, 1, 0), (1, .iload_n 1, 1, 2, 0), (2, .iload_n 2, 1, 3, 0), (3, .iload_n 3, 1, 4, 0), (4, .invokevirtual 95, 3, 7, 0), (7, .ifCond .ne 5, 3, 10, 12), (10, .iconst (-1), 1, 11, 0), (11, .ireturn, 1, 12, 0), (12, .aload_n 0, 1, 13, 0), (13, .invokevirtual 185, 3, 16, 0), (16, .ifCond .ne 6, 3, 19, 22), (19, .bipush (-6), 2, 21, 0), (21, .ireturn, 1, 22, 0), (22, .aload_n 0, 1, 23, 0), (23, .getfield 32, 3, 26, 0), (26, .iload_n 1, 1, 27, 0), (27, .iload_n 2, 1, 28, 0), (28, .iload_n 3, 1, 29, 0), (29, .invokestatic 98, 3, 32, 0), (32, .iaload, 1, 33, 0), (33, .ifCond .ge 8, 3, 36, 41), (36, .bipush (-5), 2, 38, 0), (38, .goto 4, 3, 41, 42), (41, .iconst 0, 1, 42, 0), (42, .ireturn, 1, 43, 0)])
set_option maxRecDepth 20000 in
theorem ok_X10_wrong : mi_ok M_X10_wrong := ⟨by decide +kernel, by decide +kernel, by decide +kernel, by decide +kernel⟩
def M_X10_round : MI := (yX10_round, cX10_round, 5, (some .int), [(0, .aload_n 0, 1, 1, 0), (1, .iload_n 1, 1, 2, 0), (2, .iload_n 2, 1, 3, 0), (3, .iload_n 3, 1, 4, 0), (4, .invokevirtual 192, 3, 7, 0), (7, .istore 4, 2, 9, 0), (9, .iload 4, 2, 11, 0), (11, .ifCond .ge 8, 3, 14, 19), (14, .iload 4, 2, 16, 0), (16, .goto 14, 3, 19, 30), (19, .aload_n 0, 1, 20, 0), (20, .getfield 32, 3, 23, 0), (23, .iload_n 1, 1, 24, 0), (24, .iload_n 2, 1, 25, 0), (25, .iload_n 3, 1, 26, 0), (26, .invokestatic 98, 3, 29, 0), (29, .iaload, 1, 30, 0), (30, .ireturn, 1, 31, 0)])
set_option maxRecDepth 20000 in
theorem ok_X10_round : mi_ok M_X10_round := ⟨by decide +kernel, by decide +kernel, by decide +kernel, by decide +kernel⟩
def M_X10_instancesOf : MI := (yX10_instancesOf, cX10_instancesOf, 4, (some .int), [(0, .iconst 0, 1, 1, 0), (1, .istore_n 2, 1, 2, 0), (2, .iconst 0, 1, 3, 0), (3, .istore_n 3, 1, 4, 0), (4, .iload_n 3, 1, 5, 0), (5, .aload_n 0, 1, 6, 0), (6, .getfield 157, 3, 9, 0), (9, .if_icmp .ge 27, 3, 12, 36), (12, .iload_n 2, 1, 13, 0), (13, .aload_n 0, 1, 14, 0), (14, .getfield 44, 3, 17, 0), (17, .iload_n 3, 1, 18, 0), (18, .iaload, 1, 19, 0), (19, .iload_n 1, 1, 20, 0), (20, .if_icmp .ne 7, 3, 23, 27), (23, .iconst 1, 1, 24, 0), (24, .goto 4, 3, 27, 28), (27, .iconst 0, 1, 28, 0), (28, .iadd, 1, 29, 0), (29, .istore_n 2, 1, 30, 0), (30, .iinc 3 1, 3, 33, 0), (33, .goto (-29), 3, 36, 4), (36, .iload_n 2, 1, 37, 0), (37, .ireturn, 1, 38, 0)])
set_option maxRecDepth 20000 in
theorem ok_X10_instancesOf : mi_ok M_X10_instancesOf := ⟨by decide +kernel, by decide +kernel, by decide +kernel, by decide +kernel⟩
def M_X10_instances : MI := (yX10_instances, cX10_instances, 5, (some .int), [(0, .aload_n 0, 1, 1, 0), (1, .iload_n 1, 1, 2, 0), (2, .iload_n 2, 1, 3, 0), (3, .iload_n 3, 1, 4, 0), (4, .invokevirtual 192, 3, 7, 0), (7, .istore 4, 2, 9, 0), (9, .iload 4, 2, 11, 0), (11, .bipush (-5), 2, 13, 0), (13, .if_icmp .ne 7, 3, 16, 20), (16, .iconst 0, 1, 17, 0), (17, .goto 23, 3, 20, 40), (20, .iload 4, 2, 22, 0), (22, .ifCond .ge 8, 3, 25, 30), (25, .iload 4, 2, 27, 0), (27, .goto 13, 3, 30, 40), (30, .aload_n 0, 1, 31, 0), (31, .iload_n 1, 1, 32, 0), (32, .iload_n 2, 1, 33, 0), (33, .iload_n 3, 1, 34, 0), (34, .invokestatic 98, 3, 37, 0), (37, .invokevirtual 195, 3, 40, 0), (40, .ireturn, 1, 41, 0)])
set_option maxRecDepth 20000 in
theorem ok_X10_instances : mi_ok M_X10_instances := ⟨by decide +kernel, by decide +kernel, by decide +kernel, by decide +kernel⟩
def M_X10_costBy : MI := (yX10_costBy, cX10_costBy, 5, (some .int), [(0, .aload_n 0, 1, 1, 0), (1, .getfield 7, 3, 4, 0), (4, .bipush 45, 2, 6, 0), (6, .bipush 18, 2, 8, 0), (8, .aload_n 0, 1, 9, 0), (9, .getfield 41, 3, 12, 0), (12, .iload_n 1, 1, 13, 0), (13, .iaload, 1, 14, 0), (14, .imul, 1, 15, 0), (15, .iadd, 1, 16, 0), (16, .iaload, 1, 17, 0), (17, .istore_n 2, 1, 18, 0), (18, .iconst 0, 1, 19, 0), (19, .istore_n 3, 1, 20, 0), (20, .iload_n 3, 1, 21, 0), (21, .iconst 3, 1, 22, 0), (22, .if_icmp .ge 40, 3, 25, 62), (25, .aload_n 0, 1, 26, 0), (26, .getfield 47, 3, 29, 0), (29, .iconst 3, 1, 30, 0), (30, .iload_n 1, 1, 31, 0), (31, .imul, 1, 32, 0), (32, .iload_n 3, 1, 33, 0), (33, .iadd, 1, 34, 0), (34, .iaload, 1, 35, 0), (35, .istore 4, 2, 37, 0), (37, .iload_n 2, 1, 38, 0), (38, .iload 4, 2, 40, 0), (40, .ifCond .ge 7, 3, 43, 47), (43, .iconst 0, 1, 44, 0), (44, .goto 10, 3, 47, 54), (47, .aload_n 0, 1, 48, 0), (48, .getfield 50, 3, 51, 0), (51, .iload 4, 2, 53, 0), (53, .iaload, 1, 54, 0), (54, .iadd, 1, 55, 0), (55, .istore_n 2, 1, 56, 0), (56, .iinc 3 1, 3, 59, 0), (59, .goto (-39), 3, 62, 20), (62, .iload_n 2, 1, 63, 0), (63, .ldc 198, 2, 65, 0), (65, .if_icmp .le 8, 3, 68, 73), (68, .ldc 198, 2, 70, 0), (70, .goto 4, 3, 73, 74), (73, .iload_n 2, 1, 74, 0), (74, .ireturn, 1, 75, 0)])
set_option maxRecDepth 20000 in
theorem ok_X10_costBy : mi_ok M_X10_costBy := ⟨by decide +kernel, by decide +kernel, by decide +kernel, by decide +kernel⟩
def M_X10_findCosts : MI := (yX10_findCosts, cX10_findCosts, 4, none, [(0, .iconst 0, 1, 1, 0), (1, .istore_n 1, 1, 2, 0), (2, .iload_n 1, 1, 3, 0), (3, .sipush 216, 3, 6, 0), (6, .if_icmp .ge 17, 3, 9, 23), (9, .aload_n 0, 1, 10, 0), (10, .getfield 50, 3, 13, 0), (13, .iload_n 1, 1, 14, 0), (14, .ldc 198, 2, 16, 0), (16, .iastore, 1, 17, 0), (17, .iinc 1 1, 3, 20, 0), (20, .goto (-18), 3, 23, 2), (23, .iconst 0, 1, 24, 0), (24, .istore_n 1, 1, 25, 0), (25, .iload_n 1, 1, 26, 0), (26, .aload_n 0, 1, 27, 0), (27, .getfield 7, 3, 30, 0), (30, .iconst 1, 1, 31, 0), (31, .iaload, 1, 32, 0), (32, .if_icmp .ge 71, 3, 35, 103), (35, .aload_n 0, 1, 36, 0), (36, .getfield 7, 3, 39, 0), (39, .bipush 9, 2, 41, 0), (41, .iconst 3, 1, 42, 0), (42, .iload_n 1, 1, 43, 0), (43, .imul, 1, 44, 0), (44, .iadd, 1, 45, 0), (45, .iaload, 1, 46, 0), (46, .istore_n 2, 1, 47, 0), (47, .aload_n 0, 1, 48, 0), (48, .getfield 50, 3, 51, 0), (51, .iload_n 2, 1, 52, 0), (52, .aload_n 0, 1, 53, 0), (53, .getfield 7, 3, 56, 0), (56, .bipush 9, 2, 58, 0), (58, .iconst 3, 1, 59, 0), (59, .iload_n 1, 1, 60, 0), (60, .imul, 1, 61, 0), (61, .iadd, 1, 62, 0), (62, .iconst 1, 1, 63, 0), (63, .iadd, 1, 64, 0), (64, .iaload, 1, 65, 0), (65, .aload_n 0, 1, 66, 0), (66, .getfield 50, 3, 69, 0), (69, .iload_n 2, 1, 70, 0), (70, .iaload, 1, 71, 0), (71, .if_icmp .ge 19, 3, 74, 90), (74, .aload_n 0, 1, 75, 0), (75, .getfield 7, 3, 78, 0), (78, .bipush 9, 2, 80, 0), (80, .iconst 3, 1, 81, 0), (81, .iload_n 1, 1, 82, 0), (82, .imul, 1, 83, 0), (83, .iadd, 1, 84, 0), (84, .iconst 1, 1, 85, 0), (85, .iadd, 1, 86, 0), (86, .iaload, 1, 87, 0), (87, .goto 9, 3, 90, 96), (90, .aload_n 0, 1, 91, 0), (91, .getfield 50, 3, 94, 0), (94, .iload_n 2, 1, 95, 0), (95, .iaload, 1, 96, 0), (96, .iastore, 1, 97, 0), (97, .iinc 1 1, 3, 100, 0), (100, .goto (-75), 3, 103, 25), (103, .iconst 1, 1, 104, 0), (104, .istore_n 1, 1, 105, 0), (105, .iload_n 1, 1, 106, 0), (106, .ifCond .eq 59, 3, 109, 165), (109, .iconst 0, 1, 110, 0), (110, .istore_n 1, 1, 111, 0), (111, .iconst 0, 1, 112, 0), (112, .istore_n 2, 1, 113, 0), (113, .iload_n 2, 1, 114, 0), (114, .aload_n 0, 1, 115, 0), (115, .getfield 157, 3, 118, 0), (118, .if_icmp .ge 44, 3, 121, 162), (121, .aload_n 0, 1, 122, 0), (122, .iload_n 2, 1, 123, 0), (123, .invokevirtual 199, 3, 126, 0), (126, .istore_n 3, 1, 127, 0), (127, .iload_n 3, 1, 128, 0), (128, .aload_n 0, 1, 129, 0), (129, .getfield 50, 3, 132, 0), (132, .aload_n 0, 1, 133, 0), (133, .getfield 44, 3, 136, 0), (136, .iload_n 2, 1, 137, 0), (137, .iaload, 1, 138, 0), (138, .iaload, 1, 139, 0), (139, .if_icmp .ge 17, 3, 142, 156), (142, .aload_n 0, 1, 143, 0), (143, .getfield 50, 3, 146, 0), (146, .aload_n 0, 1, 147, 0), (147, .getfield 44, 3, 150, 0), (150, .iload_n 2, 1, 151, 0), (151, .iaload, 1, 152, 0), (152, .iload_n 3, 1, 153, 0), (153, .iastore, 1, 154, 0), (154, .iconst 1, 1, 155, 0), (155, .istore_n 1, 1, 156, 0), (156, .iinc 2 1, 3, 159, 0), (159, .goto (-46), 3, 162, 113), (162, .goto (-57), 3, 165, 105), (165, .return_, 1, 166, 0)])
set_option maxRecDepth 20000 in
theorem ok_X10_findCosts : mi_ok M_X10_findCosts := ⟨by decide +kernel, by decide +kernel, by decide +kernel, by decide +kernel⟩
def M_X10_likelyBy : MI := (yX10_likelyBy, cX10_likelyBy, 5, (some .float), [(0, .fconst 1, 1, 1, 0), (1, .fstore_n 2, 1, 2, 0), (2, .iconst 0, 1, 3, 0), (3, .istore_n 3, 1, 4, 0), (4, .iload_n 3, 1, 5, 0), (5, .iconst 3, 1, 6, 0), (6, .if_icmp .ge 60, 3, 9, 66), (9, .aload_n 0, 1, 10, 0), (10, .getfield 47, 3, 13, 0), (13, .iconst 3, 1, 14, 0), (14, .iload_n 1, 1, 15, 0), (15, .imul, 1, 16, 0), (16, .iload_n 3, 1, 17, 0), (17, .iadd, 1, 18, 0), (18, .iaload, 1, 19, 0), (19, .istore 4, 2, 21, 0), (21, .iload 4, 2, 23, 0), (23, .ifCond .lt 18, 3, 26, 41), (26, .aload_n 0, 1, 27, 0), (27, .getfield 53, 3, 30, 0), (30, .iload 4, 2, 32, 0), (32, .faload, 1, 33, 0), (33, .fconst 0, 1, 34, 0), (34, .fcmp .g, 1, 35, 0), (35, .ifCond .ge 6, 3, 38, 41), (38, .ldc 202, 2, 40, 0), (40, .freturn, 1, 41, 0), (41, .iload 4, 2, 43, 0), (43, .ifCond .ge 7, 3, 46, 50), (46, .fload_n 2, 1, 47, 0), (47, .goto 12, 3, 50, 59), (50, .fload_n 2, 1, 51, 0), (51, .aload_n 0, 1, 52, 0), (52, .getfield 53, 3, 55, 0), (55, .iload 4, 2, 57, 0), (57, .faload, 1, 58, 0), (58, .fmul, 1, 59, 0), (59, .fstore_n 2, 1, 60, 0), (60, .iinc 3 1, 3, 63, 0), (63, .goto (-59), 3, 66, 4), (66, .fload_n 2, 1, 67, 0), (67, .freturn, 1, 68, 0)])
set_option maxRecDepth 20000 in
theorem ok_X10_likelyBy : mi_ok M_X10_likelyBy := ⟨by decide +kernel, by decide +kernel, by decide +kernel, by decide +kernel⟩
def M_X10_findLikelihoods : MI := (yX10_findLikelihoods, cX10_findLikelihoods, 4, none, [(0, .iconst 0, 1, 1, 0), (1, .istore_n 1, 1, 2, 0), (2, .iload_n 1, 1, 3, 0), (3, .sipush 216, 3, 6, 0), (6, .if_icmp .ge 17, 3, 9, 23), (9, .aload_n 0, 1, 10, 0), (10, .getfield 53, 3, 13, 0), (13, .iload_n 1, 1, 14, 0), (14, .ldc 202, 2, 16, 0), (16, .fastore, 1, 17, 0), (17, .iinc 1 1, 3, 20, 0), (20, .goto (-18), 3, 23, 2), (23, .iconst 0, 1, 24, 0), (24, .istore_n 1, 1, 25, 0), (25, .iload_n 1, 1, 26, 0), (26, .aload_n 0, 1, 27, 0), (27, .getfield 7, 3, 30, 0), (30, .iconst 1, 1, 31, 0), (31, .iaload, 1, 32, 0), (32, .if_icmp .ge 66, 3, 35, 98), (35, .aload_n 0, 1, 36, 0), (36, .getfield 7, 3, 39, 0), (39, .bipush 9, 2, 41, 0), (41, .iconst 3, 1, 42, 0), (42, .iload_n 1, 1, 43, 0), (43, .imul, 1, 44, 0), (44, .iadd, 1, 45, 0), (45, .iaload, 1, 46, 0), (46, .istore_n 2, 1, 47, 0), (47, .aload_n 0, 1, 48, 0), (48, .getfield 7, 3, 51, 0), (51, .bipush 9, 2, 53, 0), (53, .iconst 3, 1, 54, 0), (54, .iload_n 1, 1, 55, 0), (55, .imul, 1, 56, 0), (56, .iadd, 1, 57, 0), (57, .iconst 2, 1, 58, 0), (58, .iadd, 1, 59, 0), (59, .iaload, 1, 60, 0), (60, .i2f, 1, 61, 0), (61, .ldc 203, 2, 63, 0), (63, .fdiv, 1, 64, 0), (64, .fstore_n 3, 1, 65, 0), (65, .aload_n 0, 1, 66, 0), (66, .getfield 53, 3, 69, 0), (69, .iload_n 2, 1, 70, 0), (70, .fload_n 3, 1, 71, 0), (71, .aload_n 0, 1, 72, 0), (72, .getfield 53, 3, 75, 0), (75, .iload_n 2, 1, 76, 0), (76, .faload, 1, 77, 0), (77, .fcmp .l, 1, 78, 0), (78, .ifCond .le 7, 3, 81, 85), (81, .fload_n 3, 1, 82, 0), (82, .goto 9, 3, 85, 91), (85, .aload_n 0, 1, 86, 0), (86, .getfield 53, 3, 89, 0), (89, .iload_n 2, 1, 90, 0), (90, .faload, 1, 91, 0), (91, .fastore, 1, 92, 0), (92, .iinc 1 1, 3, 95, 0), (95, .goto (-70), 3, 98, 25), (98, .iconst 1, 1, 99, 0), (99, .istore_n 1, 1, 100, 0), (100, .iload_n 1, 1, 101, 0), (101, .ifCond .eq 60, 3, 104, 161), (104, .iconst 0, 1, 105, 0), (105, .istore_n 1, 1, 106, 0), (106, .iconst 0, 1, 107, 0), (107, .istore_n 2, 1, 108, 0), (108, .iload_n 2, 1, 109, 0), (109, .aload_n 0, 1, 110, 0), (110, .getfield 157, 3, 113, 0), (113, .if_icmp .ge 45, 3, 116, 158), (116, .aload_n 0, 1, 117, 0), (117, .iload_n 2, 1, 118, 0), (118, .invokevirtual 204, 3, 121, 0), (121, .fstore_n 3, 1, 122, 0), (122, .fload_n 3, 1, 123, 0), (123, .aload_n 0, 1, 124, 0), (124, .getfield 53, 3, 127, 0), (127, .aload_n 0, 1, 128, 0), (128, .getfield 44, 3, 131, 0), (131, .iload_n 2, 1, 132, 0), (132, .iaload, 1, 133, 0), (133, .faload, 1, 134, 0), (134, .fcmp .l, 1, 135, 0), (135, .ifCond .le 17, 3, 138, 152), (138, .aload_n 0, 1, 139, 0), (139, .getfield 53, 3, 142, 0), (142, .aload_n 0, 1, 143, 0), (143, .getfield 44, 3, 146, 0), (146, .iload_n 2, 1, 147, 0), (147, .iaload, 1, 148, 0), (148, .fload_n 3, 1, 149, 0), (149, .fastore, 1, 150, 0), (150, .iconst 1, 1, 151, 0), (151, .istore_n 1, 1, 152, 0), (152, .iinc 2 1, 3, 155, 0), (155, .goto (-47), 3, 158, 108), (158, .goto (-58), 3, 161, 100), (161, .return_, 1, 162, 0)])
set_option maxRecDepth 20000 in
theorem ok_X10_findLikelihoods : mi_ok M_X10_findLikelihoods := ⟨by decide +kernel, by decide +kernel, by decide +kernel, by decide +kernel⟩
def M_X10_findLeast : MI := (yX10_findLeast, cX10_findLeast, 3, none, [(0, .iconst 0, 1, 1, 0), (1, .istore_n 1, 1, 2, 0), (2, .iload_n 1, 1, 3, 0), (3, .sipush 216, 3, 6, 0), (6, .if_icmp .ge 30, 3, 9, 36), (9, .aload_n 0, 1, 10, 0), (10, .getfield 57, 3, 13, 0), (13, .iload_n 1, 1, 14, 0), (14, .iconst (-1), 1, 15, 0), (15, .iastore, 1, 16, 0), (16, .aload_n 0, 1, 17, 0), (17, .getfield 63, 3, 20, 0), (20, .iload_n 1, 1, 21, 0), (21, .iconst 0, 1, 22, 0), (22, .iastore, 1, 23, 0), (23, .aload_n 0, 1, 24, 0), (24, .getfield 66, 3, 27, 0), (27, .iload_n 1, 1, 28, 0), (28, .iconst 0, 1, 29, 0), (29, .iastore, 1, 30, 0), (30, .iinc 1 1, 3, 33, 0), (33, .goto (-31), 3, 36, 2), (36, .aload_n 0, 1, 37, 0), (37, .getfield 7, 3, 40, 0), (40, .iconst 1, 1, 41, 0), (41, .iaload, 1, 42, 0), (42, .iconst 1, 1, 43, 0), (43, .isub, 1, 44, 0), (44, .istore_n 1, 1, 45, 0), (45, .iload_n 1, 1, 46, 0), (46, .ifCond .lt 67, 3, 49, 113), (49, .aload_n 0, 1, 50, 0), (50, .getfield 7, 3, 53, 0), (53, .bipush 9, 2, 55, 0), (55, .iconst 3, 1, 56, 0), (56, .iload_n 1, 1, 57, 0), (57, .imul, 1, 58, 0), (58, .iadd, 1, 59, 0), (59, .iaload, 1, 60, 0), (60, .istore_n 2, 1, 61, 0), (61, .aload_n 0, 1, 62, 0), (62, .getfield 7, 3, 65, 0), (65, .bipush 9, 2, 67, 0), (67, .iconst 3, 1, 68, 0), (68, .iload_n 1, 1, 69, 0), (69, .imul, 1, 70, 0), (70, .iadd, 1, 71, 0), (71, .iconst 1, 1, 72, 0), (72, .iadd, 1, 73, 0), (73, .iaload, 1, 74, 0), (74, .aload_n 0, 1, 75, 0), (75, .getfield 50, 3, 78, 0), (78, .iload_n 2, 1, 79, 0), (79, .iaload, 1, 80, 0), (80, .if_icmp .ne 27, 3, 83, 107), (83, .aload_n 0, 1, 84, 0), (84, .getfield 57, 3, 87, 0), (87, .iload_n 2, 1, 88, 0), (88, .bipush 8, 2, 90, 0), (90, .iastore, 1, 91, 0), (91, .aload_n 0, 1, 92, 0), (92, .getfield 63, 3, 95, 0), (95, .iload_n 2, 1, 96, 0), (96, .iconst 1, 1, 97, 0), (97, .iastore, 1, 98, 0), (98, .aload_n 0, 1, 99, 0), (99, .getfield 66, 3, 102, 0), (102, .iload_n 2, 1, 103, 0), (103, .iconst 1, 1, 104, 0), (104, .iload_n 1, 1, 105, 0), (105, .ishl, 1, 106, 0), (106, .iastore, 1, 107, 0), (107, .iinc 1 (-1), 3, 110, 0), (110, .goto (-65), 3, 113, 45), (113, .aload_n 0, 1, 114, 0), (114, .getfield 157, 3, 117, 0), (117, .iconst 1, 1, 118, 0), (118, .isub, 1, 119, 0), (119, .istore_n 1, 1, 120, 0), (120, .iload_n 1, 1, 121, 0), (121, .ifCond .lt 71, 3, 124, 192), (124, .aload_n 0, 1, 125, 0), (125, .getfield 44, 3, 128, 0), (128, .iload_n 1, 1, 129, 0), (129, .iaload, 1, 130, 0), (130, .istore_n 2, 1, 131, 0), (131, .aload_n 0, 1, 132, 0), (132, .getfield 57, 3, 135, 0), (135, .iload_n 2, 1, 136, 0), (136, .iaload, 1, 137, 0), (137, .bipush 8, 2, 139, 0), (139, .if_icmp .eq 47, 3, 142, 186), (142, .aload_n 0, 1, 143, 0), (143, .getfield 50, 3, 146, 0), (146, .iload_n 2, 1, 147, 0), (147, .iaload, 1, 148, 0), (148, .ldc 198, 2, 150, 0), (150, .if_icmp .ge 36, 3, 153, 186), (153, .aload_n 0, 1, 154, 0), (154, .iload_n 1, 1, 155, 0), (155, .invokevirtual 199, 3, 158, 0), (158, .aload_n 0, 1, 159, 0), (159, .getfield 50, 3, 162, 0), (162, .iload_n 2, 1, 163, 0), (163, .iaload, 1, 164, 0), (164, .if_icmp .ne 22, 3, 167, 186), (167, .aload_n 0, 1, 168, 0), (168, .getfield 57, 3, 171, 0), (171, .iload_n 2, 1, 172, 0), (172, .aload_n 0, 1, 173, 0), (173, .getfield 41, 3, 176, 0), (176, .iload_n 1, 1, 177, 0), (177, .iaload, 1, 178, 0), (178, .iastore, 1, 179, 0), (179, .aload_n 0, 1, 180, 0), (180, .getfield 60, 3, 183, 0), (183, .iload_n 2, 1, 184, 0), (184, .iload_n 1, 1, 185, 0), (185, .iastore, 1, 186, 0), (186, .iinc 1 (-1), 3, 189, 0), (189, .goto (-69), 3, 192, 120), (192, .iconst 1, 1, 193, 0), (193, .istore_n 1, 1, 194, 0), (194, .iload_n 1, 1, 195, 0), (195, .ifCond .eq 67, 3, 198, 262), (198, .iconst 0, 1, 199, 0), (199, .istore_n 1, 1, 200, 0), (200, .iconst 0, 1, 201, 0), (201, .istore_n 2, 1, 202, 0), (202, .iload_n 2, 1, 203, 0), (203, .sipush 216, 3, 206, 0), (206, .if_icmp .ge 53, 3, 209, 259), (209, .aload_n 0, 1, 210, 0), (210, .getfield 63, 3, 213, 0), (213, .iload_n 2, 1, 214, 0), (214, .iaload, 1, 215, 0), (215, .ifCond .ne 38, 3, 218, 253), (218, .aload_n 0, 1, 219, 0), (219, .getfield 57, 3, 222, 0), (222, .iload_n 2, 1, 223, 0), (223, .iaload, 1, 224, 0), (224, .ifCond .lt 29, 3, 227, 253), (227, .aload_n 0, 1, 228, 0), (228, .aload_n 0, 1, 229, 0), (229, .getfield 60, 3, 232, 0), (232, .iload_n 2, 1, 233, 0), (233, .iaload, 1, 234, 0), (234, .invokevirtual 208, 3, 237, 0), (237, .ifCond .eq 16, 3, 240, 253), (240, .aload_n 0, 1, 241, 0), (241, .iload_n 2, 1, 242, 0), (242, .aload_n 0, 1, 243, 0), (243, .getfield 60, 3, 246, 0), (246, .iload_n 2, 1, 247, 0), (247, .iaload, 1, 248, 0), (248, .invokevirtual 211, 3, 251, 0), (251, .iconst 1, 1, 252, 0), (252, .istore_n 1, 1, 253, 0), (253, .iinc 2 1, 3, 256, 0), (256, .goto (-54), 3, 259, 202), (259, .goto (-65), 3, 262, 194), (262, .return_, 1, 263, 0)])
set_option maxRecDepth 20000 in
theorem ok_X10_findLeast : mi_ok M_X10_findLeast := ⟨by decide +kernel, by decide +kernel, by decide +kernel, by decide +kernel⟩
def M_X10_areSized : MI := (yX10_areSized, cX10_areSized, 5, (some .boolean), [(0, .iconst 1, 1, 1, 0), (1, .istore_n 2, 1, 2, 0), (2, .iconst 0, 1, 3, 0), (3, .istore_n 3, 1, 4, 0), (4, .iload_n 3, 1, 5, 0), (5, .iconst 3, 1, 6, 0), (6, .if_icmp .ge 46, 3, 9, 52), (9, .aload_n 0, 1, 10, 0), (10, .getfield 47, 3, 13, 0), (13, .iconst 3, 1, 14, 0), (14, .iload_n 1, 1, 15, 0), (15, .imul, 1, 16, 0), (16, .iload_n 3, 1, 17, 0), (17, .iadd, 1, 18, 0), (18, .iaload, 1, 19, 0), (19, .istore 4, 2, 21, 0), (21, .iload_n 2, 1, 22, 0), (22, .ifCond .eq 22, 3, 25, 44), (25, .iload 4, 2, 27, 0), (27, .ifCond .lt 13, 3, 30, 40), (30, .aload_n 0, 1, 31, 0), (31, .getfield 63, 3, 34, 0), (34, .iload 4, 2, 36, 0), (36, .iaload, 1, 37, 0), (37, .ifCond .le 7, 3, 40, 44), (40, .iconst 1, 1, 41, 0), (41, .goto 4, 3, 44, 45), (44, .iconst 0, 1, 45, 0), (45, .istore_n 2, 1, 46, 0), (46, .iinc 3 1, 3, 49, 0), (49, .goto (-45), 3, 52, 4), (52, .iload_n 2, 1, 53, 0), (53, .ireturn, 1, 54, 0)])
set_option maxRecDepth 20000 in
theorem ok_X10_areSized : mi_ok M_X10_areSized := ⟨by decide +kernel, by decide +kernel, by decide +kernel, by decide +kernel⟩
def M_X10_sizes : MI := (yX10_sizes, cX10_sizes, 7, none, [(0, .iconst 1, 1, 1, 0), (1, .istore_n 3, 1, 2, 0), (2, .iconst 0, 1, 3, 0), (3, .istore 4, 2, 5, 0), (5, .iconst 0, 1, 6, 0), (6, .istore 5, 2, 8, 0), (8, .iload 5, 2, 10, 0), (10, .iconst 3, 1, 11, 0), (11, .if_icmp .ge 62, 3, 14, 73), (14, .aload_n 0, 1, 15, 0), (15, .getfield 47, 3, 18, 0), (18, .iconst 3, 1, 19, 0), (19, .iload_n 2, 1, 20, 0), (20, .imul, 1, 21, 0), (21, .iload 5, 2, 23, 0), (23, .iadd, 1, 24, 0), (24, .iaload, 1, 25, 0), (25, .istore 6, 2, 27, 0), (27, .iload_n 3, 1, 28, 0), (28, .iload 6, 2, 30, 0), (30, .ifCond .ge 7, 3, 33, 37), (33, .iconst 0, 1, 34, 0), (34, .goto 10, 3, 37, 44), (37, .aload_n 0, 1, 38, 0), (38, .getfield 63, 3, 41, 0), (41, .iload 6, 2, 43, 0), (43, .iaload, 1, 44, 0), (44, .iadd, 1, 45, 0), (45, .istore_n 3, 1, 46, 0), (46, .iload 4, 2, 48, 0), (48, .iload 6, 2, 50, 0), (50, .ifCond .ge 7, 3, 53, 57), (53, .iconst 0, 1, 54, 0), (54, .goto 10, 3, 57, 64), (57, .aload_n 0, 1, 58, 0), (58, .getfield 66, 3, 61, 0), (61, .iload 6, 2, 63, 0), (63, .iaload, 1, 64, 0), (64, .ior, 1, 65, 0), (65, .istore 4, 2, 67, 0), (67, .iinc 5 1, 3, 70, 0), (70, .goto (-62), 3, 73, 8), (73, .aload_n 0, 1, 74, 0), (74, .getfield 63, 3, 77, 0), (77, .iload_n 1, 1, 78, 0), (78, .iload_n 3, 1, 79, 0), (79, .iastore, 1, 80, 0), (80, .aload_n 0, 1, 81, 0), (81, .getfield 66, 3, 84, 0), (84, .iload_n 1, 1, 85, 0), (85, .iload 4, 2, 87, 0), (87, .iastore, 1, 88, 0), (88, .return_, 1, 89, 0)])
set_option maxRecDepth 20000 in
theorem ok_X10_sizes : mi_ok M_X10_sizes := ⟨by decide +kernel, by decide +kernel, by decide +kernel, by decide +kernel⟩
def M_X10_leastNow : MI := (yX10_leastNow, cX10_leastNow, 3, (some .int), [(0, .aload_n 0, 1, 1, 0), (1, .getfield 57, 3, 4, 0), (4, .iload_n 1, 1, 5, 0), (5, .iaload, 1, 6, 0), (6, .ifCond .ge 8, 3, 9, 14), (9, .bipush (-5), 2, 11, 0), (11, .goto 36, 3, 14, 47), (14, .iload_n 2, 1, 15, 0), (15, .ifCond .ne 12, 3, 18, 27), (18, .aload_n 0, 1, 19, 0), (19, .getfield 57, 3, 22, 0), (22, .iload_n 1, 1, 23, 0), (23, .iaload, 1, 24, 0), (24, .goto 23, 3, 27, 47), (27, .iload_n 2, 1, 28, 0), (28, .iconst 1, 1, 29, 0), (29, .if_icmp .ne 12, 3, 32, 41), (32, .aload_n 0, 1, 33, 0), (33, .getfield 63, 3, 36, 0), (36, .iload_n 1, 1, 37, 0), (37, .iaload, 1, 38, 0), (38, .goto 9, 3, 41, 47), (41, .aload_n 0, 1, 42, 0), (42, .getfield 66, 3, 45, 0), (45, .iload_n 1, 1, 46, 0), (46, .iaload, 1, 47, 0), (47, .ireturn, 1, 48, 0)])
set_option maxRecDepth 20000 in
theorem ok_X10_leastNow : mi_ok M_X10_leastNow := ⟨by decide +kernel, by decide +kernel, by decide +kernel, by decide +kernel⟩
def M_X10_cost : MI := (yX10_cost, cX10_cost, 5, (some .int), [(0, .aload_n 0, 1, 1, 0), (1, .iload_n 1, 1, 2, 0), (2, .iload_n 2, 1, 3, 0), (3, .iload_n 3, 1, 4, 0), (4, .invokevirtual 192, 3, 7, 0), (7, .istore 4, 2, 9, 0), (9, .iload 4, 2, 11, 0), (11, .ifCond .ge 8, 3, 14, 19), (14, .iload 4, 2, 16, 0), (16, .goto 14, 3, 19, 30), (19, .aload_n 0, 1, 20, 0), (20, .getfield 50, 3, 23, 0), (23, .iload_n 1, 1, 24, 0), (24, .iload_n 2, 1, 25, 0), (25, .iload_n 3, 1, 26, 0), (26, .invokestatic 98, 3, 29, 0), (29, .iaload, 1, 30, 0), (30, .ireturn, 1, 31, 0)])
set_option maxRecDepth 20000 in
theorem ok_X10_cost : mi_ok M_X10_cost := ⟨by decide +kernel, by decide +kernel, by decide +kernel, by decide +kernel⟩
def M_X10_likelihood : MI := (yX10_likelihood, cX10_likelihood, 5, (some .int), [(0, .aload_n 0, 1, 1, 0), (1, .iload_n 1, 1, 2, 0), (2, .iload_n 2, 1, 3, 0), (3, .iload_n 3, 1, 4, 0), (4, .invokevirtual 192, 3, 7, 0), (7, .istore 4, 2, 9, 0), (9, .iload 4, 2, 11, 0), (11, .ifCond .ge 8, 3, 14, 19), (14, .iload 4, 2, 16, 0), (16, .goto 17, 3, 19, 33), (19, .aload_n 0, 1, 20, 0), (20, .getfield 53, 3, 23, 0), (23, .iload_n 1, 1, 24, 0), (24, .iload_n 2, 1, 25, 0), (25, .iload_n 3, 1, 26, 0), (26, .invokestatic 98, 3, 29, 0), (29, .faload, 1, 30, 0), (30, .invokestatic 215, 3, 33, 0), (33, .ireturn, 1, 34, 0)])
set_option maxRecDepth 20000 in
theorem ok_X10_likelihood : mi_ok M_X10_likelihood := ⟨by decide +kernel, by decide +kernel, by decide +kernel, by decide +kernel⟩
def M_X10_least : MI := (yX10_least, cX10_least, 6, (some .int), [(0, .aload_n 0, 1, 1, 0), (1, .iload_n 1, 1, 2, 0), (2, .iload_n 2, 1, 3, 0), (3, .iload_n 3, 1, 4, 0), (4, .invokevirtual 192, 3, 7, 0), (7, .istore 5, 2, 9, 0), (9, .iload 5, 2, 11, 0), (11, .iconst (-1), 1, 12, 0), (12, .if_icmp .ne 5, 3, 15, 17), (15, .iconst (-1), 1, 16, 0), (16, .ireturn, 1, 17, 0), (17, .iload 4, 2, 19, 0), (19, .iconst 0, 1, 20, 0), (20, .iconst 2, 1, 21, 0), (21, .invokestatic 80, 3, 24, 0), (24, .ifCond .ne 6, 3, 27, 30), (27, .bipush (-2), 2, 29, 0), (29, .ireturn, 1, 30, 0), (30, .iload 5, 2, 32, 0), (32, .ifCond .ge 8, 3, 35, 40), (35, .iload 5, 2, 37, 0), (37, .goto 15, 3, 40, 52), (40, .aload_n 0, 1, 41, 0), (41, .iload_n 1, 1, 42, 0), (42, .iload_n 2, 1, 43, 0), (43, .iload_n 3, 1, 44, 0), (44, .invokestatic 98, 3, 47, 0), (47, .iload 4, 2, 49, 0), (49, .invokevirtual 221, 3, 52, 0), (52, .ireturn, 1, 53, 0)])
set_option maxRecDepth 20000 in
theorem ok_X10_least : mi_ok M_X10_least := ⟨by decide +kernel, by decide +kernel, by decide +kernel, by decide +kernel⟩
def M_X10_canDo : MI := (yX10_canDo, cX10_canDo, 5, (some .boolean), [(0, .iconst 0, 1, 1, 0), (1, .istore_n 3, 1, 2, 0), (2, .iload_n 3, 1, 3, 0), (3, .sipush 216, 3, 6, 0), (6, .if_icmp .ge 16, 3, 9, 22), (9, .aload_n 0, 1, 10, 0), (10, .getfield 69, 3, 13, 0), (13, .iload_n 3, 1, 14, 0), (14, .iconst 0, 1, 15, 0), (15, .bastore, 1, 16, 0), (16, .iinc 3 1, 3, 19, 0), (19, .goto (-17), 3, 22, 2), (22, .iconst 0, 1, 23, 0), (23, .istore_n 3, 1, 24, 0), (24, .iload_n 3, 1, 25, 0), (25, .aload_n 0, 1, 26, 0), (26, .getfield 7, 3, 29, 0), (29, .iconst 1, 1, 30, 0), (30, .iaload, 1, 31, 0), (31, .if_icmp .ge 57, 3, 34, 88), (34, .aload_n 0, 1, 35, 0), (35, .getfield 69, 3, 38, 0), (38, .aload_n 0, 1, 39, 0), (39, .getfield 7, 3, 42, 0), (42, .bipush 9, 2, 44, 0), (44, .iconst 3, 1, 45, 0), (45, .iload_n 3, 1, 46, 0), (46, .imul, 1, 47, 0), (47, .iadd, 1, 48, 0), (48, .iaload, 1, 49, 0), (49, .aload_n 0, 1, 50, 0), (50, .getfield 69, 3, 53, 0), (53, .aload_n 0, 1, 54, 0), (54, .getfield 7, 3, 57, 0), (57, .bipush 9, 2, 59, 0), (59, .iconst 3, 1, 60, 0), (60, .iload_n 3, 1, 61, 0), (61, .imul, 1, 62, 0), (62, .iadd, 1, 63, 0), (63, .iaload, 1, 64, 0), (64, .baload, 1, 65, 0), (65, .ifCond .ne 11, 3, 68, 76), (68, .iload_n 2, 1, 69, 0), (69, .iload_n 3, 1, 70, 0), (70, .ishr, 1, 71, 0), (71, .iconst 1, 1, 72, 0), (72, .iand, 1, 73, 0), (73, .ifCond .ne 7, 3, 76, 80), (76, .iconst 1, 1, 77, 0), (77, .goto 4, 3, 80, 81), (80, .iconst 0, 1, 81, 0), (81, .bastore, 1, 82, 0), (82, .iinc 3 1, 3, 85, 0), (85, .goto (-61), 3, 88, 24), (88, .iconst 1, 1, 89, 0), (89, .istore_n 3, 1, 90, 0), (90, .iload_n 3, 1, 91, 0), (91, .ifCond .eq 74, 3, 94, 165), (94, .aload_n 0, 1, 95, 0), (95, .getfield 69, 3, 98, 0), (98, .iload_n 1, 1, 99, 0), (99, .baload, 1, 100, 0), (100, .ifCond .ne 65, 3, 103, 165), (103, .iconst 0, 1, 104, 0), (104, .istore_n 3, 1, 105, 0), (105, .iconst 0, 1, 106, 0), (106, .istore 4, 2, 108, 0), (108, .iload 4, 2, 110, 0), (110, .aload_n 0, 1, 111, 0), (111, .getfield 157, 3, 114, 0), (114, .if_icmp .ge 48, 3, 117, 162), (117, .aload_n 0, 1, 118, 0), (118, .getfield 69, 3, 121, 0), (121, .aload_n 0, 1, 122, 0), (122, .getfield 44, 3, 125, 0), (125, .iload 4, 2, 127, 0), (127, .iaload, 1, 128, 0), (128, .baload, 1, 129, 0), (129, .ifCond .ne 27, 3, 132, 156), (132, .aload_n 0, 1, 133, 0), (133, .iload 4, 2, 135, 0), (135, .invokevirtual 224, 3, 138, 0), (138, .ifCond .eq 18, 3, 141, 156), (141, .aload_n 0, 1, 142, 0), (142, .getfield 69, 3, 145, 0), (145, .aload_n 0, 1, 146, 0), (146, .getfield 44, 3, 149, 0), (149, .iload 4, 2, 151, 0), (151, .iaload, 1, 152, 0), (152, .iconst 1, 1, 153, 0), (153, .bastore, 1, 154, 0), (154, .iconst 1, 1, 155, 0), (155, .istore_n 3, 1, 156, 0), (156, .iinc 4 1, 3, 159, 0), (159, .goto (-51), 3, 162, 108), (162, .goto (-72), 3, 165, 90), (165, .aload_n 0, 1, 166, 0), (166, .getfield 69, 3, 169, 0), (169, .iload_n 1, 1, 170, 0), (170, .baload, 1, 171, 0), (171, .ireturn, 1, 172, 0)])
set_option maxRecDepth 20000 in
theorem ok_X10_canDo : mi_ok M_X10_canDo := ⟨by decide +kernel, by decide +kernel, by decide +kernel, by decide +kernel⟩
def M_X10_areDerived : MI := (yX10_areDerived, cX10_areDerived, 5, (some .boolean), [(0, .iconst 1, 1, 1, 0), (1, .istore_n 2, 1, 2, 0), (2, .iconst 0, 1, 3, 0), (3, .istore_n 3, 1, 4, 0), (4, .iload_n 3, 1, 5, 0), (5, .iconst 3, 1, 6, 0), (6, .if_icmp .ge 46, 3, 9, 52), (9, .aload_n 0, 1, 10, 0), (10, .getfield 47, 3, 13, 0), (13, .iconst 3, 1, 14, 0), (14, .iload_n 1, 1, 15, 0), (15, .imul, 1, 16, 0), (16, .iload_n 3, 1, 17, 0), (17, .iadd, 1, 18, 0), (18, .iaload, 1, 19, 0), (19, .istore 4, 2, 21, 0), (21, .iload_n 2, 1, 22, 0), (22, .ifCond .eq 22, 3, 25, 44), (25, .iload 4, 2, 27, 0), (27, .ifCond .lt 13, 3, 30, 40), (30, .aload_n 0, 1, 31, 0), (31, .getfield 69, 3, 34, 0), (34, .iload 4, 2, 36, 0), (36, .baload, 1, 37, 0), (37, .ifCond .eq 7, 3, 40, 44), (40, .iconst 1, 1, 41, 0), (41, .goto 4, 3, 44, 45), (44, .iconst 0, 1, 45, 0), (45, .istore_n 2, 1, 46, 0), (46, .iinc 3 1, 3, 49, 0), (49, .goto (-45), 3, 52, 4), (52, .iload_n 2, 1, 53, 0), (53, .ireturn, 1, 54, 0)])
set_option maxRecDepth 20000 in
theorem ok_X10_areDerived : mi_ok M_X10_areDerived := ⟨by decide +kernel, by decide +kernel, by decide +kernel, by decide +kernel⟩
def M_X10_needs : MI := (yX10_needs, cX10_needs, 8, (some .int), [(0, .aload_n 0, 1, 1, 0), (1, .iload_n 1, 1, 2, 0), (2, .iload_n 2, 1, 3, 0), (3, .iload_n 3, 1, 4, 0), (4, .invokevirtual 192, 3, 7, 0), (7, .istore 4, 2, 9, 0), (9, .iload 4, 2, 11, 0), (11, .ifCond .ge 6, 3, 14, 17), (14, .iload 4, 2, 16, 0), (16, .ireturn, 1, 17, 0), (17, .iload_n 1, 1, 18, 0), (18, .iload_n 2, 1, 19, 0), (19, .iload_n 3, 1, 20, 0), (20, .invokestatic 98, 3, 23, 0), (23, .istore 5, 2, 25, 0), (25, .iconst 0, 1, 26, 0), (26, .istore 6, 2, 28, 0), (28, .iconst 0, 1, 29, 0), (29, .istore 7, 2, 31, 0), (31, .iload 7, 2, 33, 0), (33, .aload_n 0, 1, 34, 0), (34, .getfield 7, 3, 37, 0), (37, .iconst 1, 1, 38, 0), (38, .iaload, 1, 39, 0), (39, .if_icmp .ge 35, 3, 42, 74), (42, .iload 6, 2, 44, 0), (44, .aload_n 0, 1, 45, 0), (45, .iload 5, 2, 47, 0), (47, .iconst 1, 1, 48, 0), (48, .iload 7, 2, 50, 0), (50, .ishl, 1, 51, 0), (51, .invokevirtual 227, 3, 54, 0), (54, .ifCond .eq 7, 3, 57, 61), (57, .iconst 0, 1, 58, 0), (58, .goto 7, 3, 61, 65), (61, .iconst 1, 1, 62, 0), (62, .iload 7, 2, 64, 0), (64, .ishl, 1, 65, 0), (65, .ior, 1, 66, 0), (66, .istore 6, 2, 68, 0), (68, .iinc 7 1, 3, 71, 0), (71, .goto (-40), 3, 74, 31), (74, .iload 6, 2, 76, 0), (76, .ireturn, 1, 77, 0)])
set_option maxRecDepth 20000 in
theorem ok_X10_needs : mi_ok M_X10_needs := ⟨by decide +kernel, by decide +kernel, by decide +kernel, by decide +kernel⟩
def M_X10_cutOf : MI := (yX10_cutOf, cX10_cutOf, 7, (some .int), [(0, .aload_n 0, 1, 1, 0), (1, .getfield 7, 3, 4, 0), (4, .iconst 1, 1, 5, 0), (5, .iaload, 1, 6, 0), (6, .istore_n 2, 1, 7, 0), (7, .iconst 0, 1, 8, 0), (8, .istore_n 3, 1, 9, 0), (9, .iload_n 3, 1, 10, 0), (10, .iload_n 2, 1, 11, 0), (11, .if_icmp .ge 24, 3, 14, 35), (14, .aload_n 0, 1, 15, 0), (15, .iload_n 1, 1, 16, 0), (16, .iconst 1, 1, 17, 0), (17, .iload_n 3, 1, 18, 0), (18, .ishl, 1, 19, 0), (19, .invokevirtual 227, 3, 22, 0), (22, .ifCond .ne 7, 3, 25, 29), (25, .iconst 1, 1, 26, 0), (26, .iload_n 3, 1, 27, 0), (27, .ishl, 1, 28, 0), (28, .ireturn, 1, 29, 0), (29, .iinc 3 1, 3, 32, 0), (32, .goto (-23), 3, 35, 9), (35, .iconst 0, 1, 36, 0), (36, .istore_n 3, 1, 37, 0), (37, .iload_n 3, 1, 38, 0), (38, .iload_n 2, 1, 39, 0), (39, .if_icmp .ge 51, 3, 42, 90), (42, .iload_n 3, 1, 43, 0), (43, .iconst 1, 1, 44, 0), (44, .iadd, 1, 45, 0), (45, .istore 4, 2, 47, 0), (47, .iload 4, 2, 49, 0), (49, .iload_n 2, 1, 50, 0), (50, .if_icmp .ge 34, 3, 53, 84), (53, .aload_n 0, 1, 54, 0), (54, .iload_n 1, 1, 55, 0), (55, .iconst 1, 1, 56, 0), (56, .iload_n 3, 1, 57, 0), (57, .ishl, 1, 58, 0), (58, .iconst 1, 1, 59, 0), (59, .iload 4, 2, 61, 0), (61, .ishl, 1, 62, 0), (62, .ior, 1, 63, 0), (63, .invokevirtual 227, 3, 66, 0), (66, .ifCond .ne 12, 3, 69, 78), (69, .iconst 1, 1, 70, 0), (70, .iload_n 3, 1, 71, 0), (71, .ishl, 1, 72, 0), (72, .iconst 1, 1, 73, 0), (73, .iload 4, 2, 75, 0), (75, .ishl, 1, 76, 0), (76, .ior, 1, 77, 0), (77, .ireturn, 1, 78, 0), (78, .iinc 4 1, 3, 81, 0), (81, .goto (-34), 3, 84, 47), (84, .iinc 3 1, 3, 87, 0), (87, .goto (-50), 3, 90, 37), (90, .iconst 0, 1, 91, 0), (91, .istore_n 3, 1, 92, 0), (92, .iload_n 3, 1, 93, 0), (93, .iload_n 2, 1, 94, 0), (94, .iload_n 2, 1, 95, 0), (95, .imul, 1, 96, 0), (96, .iload_n 2, 1, 97, 0), (97, .imul, 1, 98, 0), (98, .if_icmp .ge 79, 3, 101, 177), (101, .iload_n 3, 1, 102, 0), (102, .iload_n 2, 1, 103, 0), (103, .idiv, 1, 104, 0), (104, .iload_n 2, 1, 105, 0), (105, .idiv, 1, 106, 0), (106, .istore 4, 2, 108, 0), (108, .iload_n 3, 1, 109, 0), (109, .iload_n 2, 1, 110, 0), (110, .idiv, 1, 111, 0), (111, .iload_n 2, 1, 112, 0), (112, .irem, 1, 113, 0), (113, .istore 5, 2, 115, 0), (115, .iload_n 3, 1, 116, 0), (116, .iload_n 2, 1, 117, 0), (117, .irem, 1, 118, 0), (118, .istore 6, 2, 120, 0), (120, .iload 4, 2, 122, 0), (122, .iload 5, 2, 124, 0), (124, .if_icmp .ge 47, 3, 127, 171), (127, .iload 5, 2, 129, 0), (129, .iload 6, 2, 131, 0), (131, .if_icmp .ge 40, 3, 134, 171), (134, .aload_n 0, 1, 135, 0), (135, .iload_n 1, 1, 136, 0), (136, .iconst 1, 1, 137, 0), (137, .iload 4, 2, 139, 0), (139, .ishl, 1, 140, 0), (140, .iconst 1, 1, 141, 0), (141, .iload 5, 2, 143, 0), (143, .ishl, 1, 144, 0), (144, .ior, 1, 145, 0), (145, .iconst 1, 1, 146, 0), (146, .iload 6, 2, 148, 0), (148, .ishl, 1, 149, 0), (149, .ior, 1, 150, 0), (150, .invokevirtual 227, 3, 153, 0), (153, .ifCond .ne 18, 3, 156, 171), (156, .iconst 1, 1, 157, 0), (157, .iload 4, 2, 159, 0), (159, .ishl, 1, 160, 0), (160, .iconst 1, 1, 161, 0), (161, .iload 5, 2, 163, 0), (163, .ishl, 1, 164, 0), (164, .ior, 1, 165, 0), (165, .iconst 1, 1, 166, 0), (166, .iload 6, 2, 168, 0), (168, .ishl, 1, 169, 0), (169, .ior, 1, 170, 0), (170, .ireturn, 1, 171, 0), (171, .iinc 3 1, 3, 174, 0), (174, .goto (-82), 3, 177, 92), (177, .bipush (-5), 2, 179, 0), (179, .ireturn, 1, 180, 0)])
set_option maxRecDepth 20000 in
theorem ok_X10_cutOf : mi_ok M_X10_cutOf := ⟨by decide +kernel, by decide +kernel, by decide +kernel, by decide +kernel⟩
def M_X10_cut : MI := (yX10_cut, cX10_cut, 5, (some .int), [(0, .aload_n 0, 1, 1, 0), (1, .iload_n 1, 1, 2, 0), (2, .iload_n 2, 1, 3, 0), (3, .iload_n 3, 1, 4, 0), (4, .invokevirtual 192, 3, 7, 0), (7, .istore 4, 2, 9, 0), (9, .iload 4, 2, 11, 0), (11, .ifCond .ge 8, 3, 14, 19), (14, .iload 4, 2, 16, 0), (16, .goto 13, 3, 19, 29), (19, .aload_n 0, 1, 20, 0), (20, .iload_n 1, 1, 21, 0), (21, .iload_n 2, 1, 22, 0), (22, .iload_n 3, 1, 23, 0), (23, .invokestatic 98, 3, 26, 0), (26, .invokevirtual 230, 3, 29, 0), (29, .ireturn, 1, 30, 0)])
set_option maxRecDepth 20000 in
theorem ok_X10_cut : mi_ok M_X10_cut := ⟨by decide +kernel, by decide +kernel, by decide +kernel, by decide +kernel⟩
def M_X10_sizeWithout : MI := (yX10_sizeWithout, cX10_sizeWithout, 2, (some .int), [(0, .iload_n 1, 1, 1, 0), (1, .ifCond .ge 6, 3, 4, 7), (4, .bipush (-2), 2, 6, 0), (6, .ireturn, 1, 7, 0), (7, .aload_n 0, 1, 8, 0), (8, .invokevirtual 185, 3, 11, 0), (11, .ifCond .ne 6, 3, 14, 17), (14, .bipush (-6), 2, 16, 0), (16, .ireturn, 1, 17, 0), (17, .aload_n 0, 1, 18, 0), (18, .iload_n 1, 1, 19, 0), (19, .aload_n 0, 1, 20, 0), (20, .getfield 35, 3, 23, 0), (23, .invokevirtual 166, 3, 26, 0), (26, .aload_n 0, 1, 27, 0), (27, .getfield 35, 3, 30, 0), (30, .iconst 0, 1, 31, 0), (31, .sipush 216, 3, 34, 0), (34, .invokestatic 188, 3, 37, 0), (37, .ireturn, 1, 38, 0)])
set_option maxRecDepth 20000 in
theorem ok_X10_sizeWithout : mi_ok M_X10_sizeWithout := ⟨by decide +kernel, by decide +kernel, by decide +kernel, by decide +kernel⟩
def M_X10_holdsWithout : MI := (yX10_holdsWithout, cX10_holdsWithout, 5, (some .int), [(0, .aload_n 0, 1, 1, 0), (1, .iload_n 2, 1, 2, 0), (2, .iload_n 3, 1, 3, 0), (3, .iload 4, 2, 5, 0), (5, .invokevirtual 95, 3, 8, 0), (8, .ifCond .ne 5, 3, 11, 13), (11, .iconst (-1), 1, 12, 0), (12, .ireturn, 1, 13, 0), (13, .iload_n 1, 1, 14, 0), (14, .ifCond .ge 6, 3, 17, 20), (17, .bipush (-2), 2, 19, 0), (19, .ireturn, 1, 20, 0), (20, .aload_n 0, 1, 21, 0), (21, .invokevirtual 185, 3, 24, 0), (24, .ifCond .ne 6, 3, 27, 30), (27, .bipush (-6), 2, 29, 0), (29, .ireturn, 1, 30, 0), (30, .aload_n 0, 1, 31, 0), (31, .iload_n 1, 1, 32, 0), (32, .aload_n 0, 1, 33, 0), (33, .getfield 35, 3, 36, 0), (36, .invokevirtual 166, 3, 39, 0), (39, .aload_n 0, 1, 40, 0), (40, .getfield 35, 3, 43, 0), (43, .iload_n 2, 1, 44, 0), (44, .iload_n 3, 1, 45, 0), (45, .iload 4, 2, 47, 0), (47, .invokestatic 98, 3, 50, 0), (50, .iaload, 1, 51, 0), (51, .ifCond .ge 7, 3, 54, 58), (54, .iconst 0, 1, 55, 0), (55, .goto 4, 3, 58, 59), (58, .iconst 1, 1, 59, 0), (59, .ireturn, 1, 60, 0)])
set_option maxRecDepth 20000 in
theorem ok_X10_holdsWithout : mi_ok M_X10_holdsWithout := ⟨by decide +kernel, by decide +kernel, by decide +kernel, by decide +kernel⟩
def M_X10_save : MI := (yX10_save, cX10_save, 3, (some .int), [(0, .iload_n 1, 1, 1, 0), (1, .iconst 0, 1, 2, 0), (2, .iconst 1, 1, 3, 0), (3, .invokestatic 80, 3, 6, 0), (6, .ifCond .ne 5, 3, 9, 11), (9, .iconst (-1), 1, 10, 0), (10, .ireturn, 1, 11, 0), (11, .iconst 0, 1, 12, 0), (12, .istore_n 2, 1, 13, 0), (13, .iload_n 2, 1, 14, 0), (14, .sipush 189, 3, 17, 0), (17, .if_icmp .ge 27, 3, 20, 44), (20, .aload_n 0, 1, 21, 0), (21, .getfield 13, 3, 24, 0), (24, .sipush 189, 3, 27, 0), (27, .iload_n 1, 1, 28, 0), (28, .imul, 1, 29, 0), (29, .iload_n 2, 1, 30, 0), (30, .iadd, 1, 31, 0), (31, .aload_n 0, 1, 32, 0), (32, .getfield 7, 3, 35, 0), (35, .iload_n 2, 1, 36, 0), (36, .iaload, 1, 37, 0), (37, .iastore, 1, 38, 0), (38, .iinc 2 1, 3, 41, 0), (41, .goto (-28), 3, 44, 13), (44, .aload_n 0, 1, 45, 0), (45, .getfield 16, 3, 48, 0), (48, .iload_n 1, 1, 49, 0), (49, .iconst 1, 1, 50, 0), (50, .bastore, 1, 51, 0), (51, .aload_n 0, 1, 52, 0), (52, .getfield 7, 3, 55, 0), (55, .iconst 2, 1, 56, 0), (56, .iaload, 1, 57, 0), (57, .ireturn, 1, 58, 0)])
set_option maxRecDepth 20000 in
theorem ok_X10_save : mi_ok M_X10_save := ⟨by decide +kernel, by decide +kernel, by decide +kernel, by decide +kernel⟩
def M_X10_restore : MI := (yX10_restore, cX10_restore, 3, (some .int), [(0, .iload_n 1, 1, 1, 0), (1, .iconst 0, 1, 2, 0), (2, .iconst 1, 1, 3, 0), (3, .invokestatic 80, 3, 6, 0), (6, .ifCond .ne 5, 3, 9, 11), (9, .iconst (-1), 1, 10, 0), (10, .ireturn, 1, 11, 0), (11, .aload_n 0, 1, 12, 0), (12, .getfield 16, 3, 15, 0), (15, .iload_n 1, 1, 16, 0), (16, .baload, 1, 17, 0), (17, .ifCond .ne 6, 3, 20, 23), (20, .bipush (-3), 2, 22, 0), (22, .ireturn, 1, 23, 0), (23, .iconst 0, 1, 24, 0), (24, .istore_n 2, 1, 25, 0), (25, .iload_n 2, 1, 26, 0), (26, .sipush 189, 3, 29, 0), (29, .if_icmp .ge 27, 3, 32, 56), (32, .aload_n 0, 1, 33, 0), (33, .getfield 7, 3, 36, 0), (36, .iload_n 2, 1, 37, 0), (37, .aload_n 0, 1, 38, 0), (38, .getfield 13, 3, 41, 0), (41, .sipush 189, 3, 44, 0), (44, .iload_n 1, 1, 45, 0), (45, .imul, 1, 46, 0), (46, .iload_n 2, 1, 47, 0), (47, .iadd, 1, 48, 0), (48, .iaload, 1, 49, 0), (49, .iastore, 1, 50, 0), (50, .iinc 2 1, 3, 53, 0), (53, .goto (-28), 3, 56, 25), (56, .aload_n 0, 1, 57, 0), (57, .iconst 0, 1, 58, 0), (58, .putfield 76, 3, 61, 0), (61, .aload_n 0, 1, 62, 0), (62, .getfield 7, 3, 65, 0), (65, .iconst 2, 1, 66, 0), (66, .iaload, 1, 67, 0), (67, .ireturn, 1, 68, 0)])
set_option maxRecDepth 20000 in
theorem ok_X10_restore : mi_ok M_X10_restore := ⟨by decide +kernel, by decide +kernel, by decide +kernel, by decide +kernel⟩
def M_X10_more : MI := (yX10_more, cX10_more, 3, (some .long), [(0, .ldc2_w 233, 3, 3, 0), (3, .lload_n 0, 1, 4, 0), (4, .lmul, 1, 5, 0), (5, .iload_n 2, 1, 6, 0), (6, .i2l, 1, 7, 0), (7, .ladd, 1, 8, 0), (8, .lreturn, 1, 9, 0)])
set_option maxRecDepth 20000 in
theorem ok_X10_more : mi_ok M_X10_more := ⟨by decide +kernel, by decide +kernel, by decide +kernel, by decide +kernel⟩
def M_X10_checksum : MI := (yX10_checksum, cX10_checksum, 5, (some .long), [(0, .aload_n 0, 1, 1, 0), (1, .invokevirtual 185, 3, 4, 0), (4, .istore_n 1, 1, 5, 0), (5, .ldc2_w 235, 3, 8, 0), (8, .aload_n 0, 1, 9, 0), (9, .getfield 7, 3, 12, 0), (12, .iconst 0, 1, 13, 0), (13, .iaload, 1, 14, 0), (14, .invokestatic 237, 3, 17, 0), (17, .aload_n 0, 1, 18, 0), (18, .getfield 7, 3, 21, 0), (21, .iconst 1, 1, 22, 0), (22, .iaload, 1, 23, 0), (23, .invokestatic 237, 3, 26, 0), (26, .aload_n 0, 1, 27, 0), (27, .getfield 7, 3, 30, 0), (30, .iconst 2, 1, 31, 0), (31, .iaload, 1, 32, 0), (32, .invokestatic 237, 3, 35, 0), (35, .lstore_n 2, 1, 36, 0), (36, .lload_n 2, 1, 37, 0), (37, .iload_n 1, 1, 38, 0), (38, .ifCond .eq 17, 3, 41, 55), (41, .aload_n 0, 1, 42, 0), (42, .getfield 32, 3, 45, 0), (45, .iconst 0, 1, 46, 0), (46, .sipush 216, 3, 49, 0), (49, .invokestatic 188, 3, 52, 0), (52, .goto 5, 3, 55, 57), (55, .bipush (-6), 2, 57, 0), (57, .invokestatic 237, 3, 60, 0), (60, .lstore_n 2, 1, 61, 0), (61, .iload_n 1, 1, 62, 0), (62, .ifCond .ne 5, 3, 65, 67), (65, .lload_n 2, 1, 66, 0), (66, .lreturn, 1, 67, 0), (67, .lload_n 2, 1, 68, 0), (68, .aload_n 0, 1, 69, 0), (69, .getfield 170, 3, 72, 0), (72, .invokestatic 237, 3, 75, 0), (75, .lstore_n 2, 1, 76, 0), (76, .iconst 0, 1, 77, 0), (77, .istore 4, 2, 79, 0), (79, .iload 4, 2, 81, 0), (81, .bipush 6, 2, 83, 0), (83, .if_icmp .ge 21, 3, 86, 104), (86, .lload_n 2, 1, 87, 0), (87, .aload_n 0, 1, 88, 0), (88, .getfield 26, 3, 91, 0), (91, .iload 4, 2, 93, 0), (93, .iaload, 1, 94, 0), (94, .invokestatic 237, 3, 97, 0), (97, .lstore_n 2, 1, 98, 0), (98, .iinc 4 1, 3, 101, 0), (101, .goto (-22), 3, 104, 79), (104, .iconst 0, 1, 105, 0), (105, .istore 4, 2, 107, 0), (107, .iload 4, 2, 109, 0), (109, .sipush 216, 3, 112, 0), (112, .if_icmp .ge 97, 3, 115, 209), (115, .aload_n 0, 1, 116, 0), (116, .getfield 32, 3, 119, 0), (119, .iload 4, 2, 121, 0), (121, .iaload, 1, 122, 0), (122, .ifCond .lt 81, 3, 125, 203), (125, .lload_n 2, 1, 126, 0), (126, .aload_n 0, 1, 127, 0), (127, .getfield 32, 3, 130, 0), (130, .iload 4, 2, 132, 0), (132, .iaload, 1, 133, 0), (133, .invokestatic 237, 3, 136, 0), (136, .aload_n 0, 1, 137, 0), (137, .iload 4, 2, 139, 0), (139, .invokevirtual 195, 3, 142, 0), (142, .invokestatic 237, 3, 145, 0), (145, .lstore_n 2, 1, 146, 0), (146, .lload_n 2, 1, 147, 0), (147, .aload_n 0, 1, 148, 0), (148, .getfield 50, 3, 151, 0), (151, .iload 4, 2, 153, 0), (153, .iaload, 1, 154, 0), (154, .invokestatic 237, 3, 157, 0), (157, .aload_n 0, 1, 158, 0), (158, .getfield 53, 3, 161, 0), (161, .iload 4, 2, 163, 0), (163, .faload, 1, 164, 0), (164, .invokestatic 215, 3, 167, 0), (167, .invokestatic 237, 3, 170, 0), (170, .lstore_n 2, 1, 171, 0), (171, .lload_n 2, 1, 172, 0), (172, .aload_n 0, 1, 173, 0), (173, .iload 4, 2, 175, 0), (175, .iconst 0, 1, 176, 0), (176, .invokevirtual 221, 3, 179, 0), (179, .invokestatic 237, 3, 182, 0), (182, .aload_n 0, 1, 183, 0), (183, .iload 4, 2, 185, 0), (185, .iconst 1, 1, 186, 0), (186, .invokevirtual 221, 3, 189, 0), (189, .invokestatic 237, 3, 192, 0), (192, .aload_n 0, 1, 193, 0), (193, .iload 4, 2, 195, 0), (195, .iconst 2, 1, 196, 0), (196, .invokevirtual 221, 3, 199, 0), (199, .invokestatic 237, 3, 202, 0), (202, .lstore_n 2, 1, 203, 0), (203, .iinc 4 1, 3, 206, 0), (206, .goto (-99), 3, 209, 107), (209, .lload_n 2, 1, 210, 0), (210, .lreturn, 1, 211, 0)])
set_option maxRecDepth 20000 in
theorem ok_X10_checksum : mi_ok M_X10_checksum := ⟨by decide +kernel, by decide +kernel, by decide +kernel, by decide +kernel⟩
def M_J7_fill_d0a16 : MI := (yJ7_fill_d0a16, cJ7_fill_d0a16, 5, none, [(0, .iconst 0, 1, 1, 0), (1, .istore_n 3, 1, 2, 0), (2, .aload_n 0, 1, 3, 0), (3, .arraylength, 1, 4, 0), (4, .istore 4, 2, 6, 0), (6, .iload_n 3, 1, 7, 0), (7, .iload 4, 2, 9, 0), (9, .if_icmp .ge 13, 3, 12, 22), (12, .aload_n 0, 1, 13, 0), (13, .iload_n 3, 1, 14, 0), (14, .lload_n 1, 1, 15, 0), (15, .lastore, 1, 16, 0), (16, .iinc 3 1, 3, 19, 0), (19, .goto (-13), 3, 22, 6), (22, .return_, 1, 23, 0)])
set_option maxRecDepth 20000 in
theorem ok_J7_fill_d0a16 : mi_ok M_J7_fill_d0a16 := ⟨by decide +kernel, by decide +kernel, by decide +kernel, by decide +kernel⟩
def M_J7_fill_53178 : MI := (yJ7_fill_53178, cJ7_fill_53178, 4, none, [(0, .iconst 0, 1, 1, 0), (1, .istore_n 2, 1, 2, 0), (2, .aload_n 0, 1, 3, 0), (3, .arraylength, 1, 4, 0), (4, .istore_n 3, 1, 5, 0), (5, .iload_n 2, 1, 6, 0), (6, .iload_n 3, 1, 7, 0), (7, .if_icmp .ge 13, 3, 10, 20), (10, .aload_n 0, 1, 11, 0), (11, .iload_n 2, 1, 12, 0), (12, .iload_n 1, 1, 13, 0), (13, .iastore, 1, 14, 0), (14, .iinc 2 1, 3, 17, 0), (17, .goto (-12), 3, 20, 5), (20, .return_, 1, 21, 0)])
set_option maxRecDepth 20000 in
theorem ok_J7_fill_53178 : mi_ok M_J7_fill_53178 := ⟨by decide +kernel, by decide +kernel, by decide +kernel, by decide +kernel⟩
end
section
/-! WORDS: what the tables say, as far as a callee may be handed them, and of each pool entry that an instruction names -/
def cvV (b : Nat) : Value → Value
  | .ref k => .ref (b + k)
  | v => v
def lw_gd : List Cond := lw_tbl.filter goodWord
def isNest : Cond → Bool
  | .methodLinkNest .. => true
  | _ => false
def lw_nest : List Cond := lw_tbl.filter isNest
theorem gd_code {y : MethodName} {b : ByteArray} {k : Nat} {r : Option FieldType} (h : Cond.code y b k r ∈ lw_tbl) : Cond.code y b k r ∈ lw_gd := List.mem_filter.mpr ⟨h, rfl⟩
theorem gd_ws {C : String} {T : u_T} {N : Nat} (h : ∀ w ∈ u_ws C T N, w ∈ lw_tbl) : ∀ w ∈ u_ws C T N, w ∈ lw_gd := fun w hw => List.mem_filter.mpr ⟨h w hw, by
  obtain ⟨k, -, rfl⟩ := List.mem_map.mp hw
  unfold u_lay
  split <;> rfl⟩
/-- a field of a class's pool: which class, which place, its type, whether it is final -/
def fldOk (own : String) (ix ci k : Nat) (ty : FieldType) (fin : Bool) : Prop := ∃ (C : String) (T : u_T) (N : Nat) (ty0 : Nat → FieldType), vwCl[ci]? = some (C, T, N) ∧ k < N ∧ (∀ w ∈ u_ws C T N, w ∈ lw_gd) ∧ Cond.fieldLink own ix C (T k).2.1 (T k).2.2.1 ∈ lw_gd ∧ (T k).1 = C ∧ (∀ k, k < N → parseFieldDescriptor (T k).2.2.1 = some (ty0 k)) ∧ (∀ a, a < N → ∀ b, b < N → a ≠ b → (T a).2.1 ≠ (T b).2.1) ∧ ty0 k = ty ∧ (T k).2.2.2 = fin
def mvOk (own : String) (ix : Nat) (y : MethodName) (na : Nat) : Prop := (∀ w ∈ ([.methodLink own ix y, .instanceMethod y, .selects y.cls y y, .initialized y.cls] : List Cond), w ∈ lw_gd) ∧ y.cls ≠ "java/lang/invoke/MethodHandle" ∧ y.cls ≠ "java/lang/invoke/VarHandle" ∧ (parseMethodDescriptor y.desc).map (fun d => d.parameters.length) = some na
def msOk (own : String) (ix : Nat) (y : MethodName) (na : Nat) : Prop := (∀ w ∈ ([.methodLink own ix y, .static y, .initialized y.cls] : List Cond), w ∈ lw_gd) ∧ y.cls ≠ "java/lang/invoke/MethodHandle" ∧ y.cls ≠ "java/lang/invoke/VarHandle" ∧ (parseMethodDescriptor y.desc).map (fun d => d.parameters.length) = some na
def miOk (own : String) (ix : Nat) (y : MethodName) (na : Nat) : Prop := (∀ w ∈ ([.methodLink own ix y, .instanceMethod y, .initialized y.cls] : List Cond), w ∈ lw_gd) ∧ y.name = "<init>" ∧ y.cls ≠ "java/lang/invoke/MethodHandle" ∧ y.cls ≠ "java/lang/invoke/VarHandle" ∧ (parseMethodDescriptor y.desc).map (fun d => d.parameters.length) = some na
def mnOk (own host : String) (ix : Nat) (y : MethodName) (na : Nat) : Prop := Cond.methodLinkNest own ix y host ∈ lw_nest ∧ (∀ w ∈ ([.instanceMethod y, .initialized y.cls] : List Cond), w ∈ lw_gd) ∧ y.name = "<init>" ∧ y.cls ≠ "java/lang/invoke/MethodHandle" ∧ y.cls ≠ "java/lang/invoke/VarHandle" ∧ (parseMethodDescriptor y.desc).map (fun d => d.parameters.length) = some na
def newOk (own : String) (ix ci N : Nat) (fs : List Value) : Prop := ∃ (C : String) (T : u_T) (ty : Nat → FieldType), vwCl[ci]? = some (C, T, N) ∧ (∀ w ∈ u_ws C T N, w ∈ lw_gd) ∧ (∀ k, k < N → parseFieldDescriptor (T k).2.2.1 = some (ty k)) ∧ (∀ w ∈ ([.classLink own ix C, .instantiable C N, .initialized C] : List Cond), w ∈ lw_gd) ∧ (∀ j, j < N → defaultValue (ty j) = vp_V fs j) ∧ ∀ b, fs.map (cvV b) = fs
def mqOk (own host : String) (ix : Nat) (y : MethodName) (na : Nat) : Prop := Cond.methodLinkNest own ix y host ∈ lw_nest ∧ (∀ w ∈ ([.static y, .initialized y.cls] : List Cond), w ∈ lw_gd) ∧ y.cls ≠ "java/lang/invoke/MethodHandle" ∧ y.cls ≠ "java/lang/invoke/VarHandle" ∧ (parseMethodDescriptor y.desc).map (fun d => d.parameters.length) = some na
theorem ac_int : Cond.arrayClass .int ∈ lw_gd := by decide +kernel
theorem ac_boolean : Cond.arrayClass .boolean ∈ lw_gd := by decide +kernel
theorem ac_long : Cond.arrayClass .long ∈ lw_gd := by decide +kernel
theorem ac_float : Cond.arrayClass .float ∈ lw_gd := by decide +kernel
theorem v_X0_3 : ∀ w ∈ ([.methodLink RX0 3 Lib.objectInit, .instanceMethod Lib.objectInit, .code Lib.objectInit ⟨#[0xb1]⟩ 1 none] : List Cond), w ∈ lw_gd := by decide +kernel
theorem f_X0_9 : fldOk RX0 9 0 0 (.array .int) true := ⟨RX0, TX0, 6, tyX0, rfl, by decide, gd_ws inT0, by decide +kernel, rfl, tyX0_ok, nmX0, rfl, rfl⟩
theorem f_X0_15 : fldOk RX0 15 0 1 (.array .int) true := ⟨RX0, TX0, 6, tyX0, rfl, by decide, gd_ws inT0, by decide +kernel, rfl, tyX0_ok, nmX0, rfl, rfl⟩
theorem f_X0_18 : fldOk RX0 18 0 2 (.array .int) true := ⟨RX0, TX0, 6, tyX0, rfl, by decide, gd_ws inT0, by decide +kernel, rfl, tyX0_ok, nmX0, rfl, rfl⟩
theorem f_X0_21 : fldOk RX0 21 0 3 (.array .int) true := ⟨RX0, TX0, 6, tyX0, rfl, by decide, gd_ws inT0, by decide +kernel, rfl, tyX0_ok, nmX0, rfl, rfl⟩
theorem f_X0_24 : fldOk RX0 24 0 4 (.array .int) true := ⟨RX0, TX0, 6, tyX0, rfl, by decide, gd_ws inT0, by decide +kernel, rfl, tyX0_ok, nmX0, rfl, rfl⟩
theorem f_X0_27 : fldOk RX0 27 0 5 (.array .int) true := ⟨RX0, TX0, 6, tyX0, rfl, by decide, gd_ws inT0, by decide +kernel, rfl, tyX0_ok, nmX0, rfl, rfl⟩
theorem v_X0_30 : mvOk RX0 30 yX0_startWithBaseFacts 1 := ⟨by decide +kernel, by decide +kernel, by decide +kernel, by decide +kernel⟩
theorem v_X0_34 : mvOk RX0 34 yX0_lower 2 := ⟨by decide +kernel, by decide +kernel, by decide +kernel, by decide +kernel⟩
theorem v_X0_38 : mvOk RX0 38 yX0_choose 3 := ⟨by decide +kernel, by decide +kernel, by decide +kernel, by decide +kernel⟩
theorem v_X0_42 : mvOk RX0 42 yX0_grow 1 := ⟨by decide +kernel, by decide +kernel, by decide +kernel, by decide +kernel⟩
theorem c_X0_46 : Cond.constant RX0 46 (1000001) ∈ lw_gd := by decide +kernel
theorem v_X0_47 : msOk RX0 47 yJ7_fill_53178 2 := ⟨by decide +kernel, by decide +kernel, by decide +kernel, by decide +kernel⟩
theorem f_X0_53 : fldOk RX0 53 5 2 .int false := ⟨RX5, TX5, 8, tyX5, rfl, by decide, gd_ws inT5, by decide +kernel, rfl, tyX5_ok, nmX5, rfl, rfl⟩
theorem f_X0_59 : fldOk RX0 59 5 3 (.array .int) true := ⟨RX5, TX5, 8, tyX5, rfl, by decide, gd_ws inT5, by decide +kernel, rfl, tyX5_ok, nmX5, rfl, rfl⟩
theorem f_X0_62 : fldOk RX0 62 5 4 (.array .int) true := ⟨RX5, TX5, 8, tyX5, rfl, by decide, gd_ws inT5, by decide +kernel, rfl, tyX5_ok, nmX5, rfl, rfl⟩
theorem f_X0_65 : fldOk RX0 65 2 1 .int false := ⟨RX2, TX2, 3, tyX2, rfl, by decide, gd_ws inT2, by decide +kernel, rfl, tyX2_ok, nmX2, rfl, rfl⟩
theorem f_X0_70 : fldOk RX0 70 2 0 (.array .int) true := ⟨RX2, TX2, 3, tyX2, rfl, by decide, gd_ws inT2, by decide +kernel, rfl, tyX2_ok, nmX2, rfl, rfl⟩
theorem f_X0_73 : fldOk RX0 73 1 9 (.array .int) true := ⟨RX1, TX1, 12, tyX1, rfl, by decide, gd_ws inT1, by decide +kernel, rfl, tyX1_ok, nmX1, rfl, rfl⟩
theorem v_X0_78 : mvOk RX0 78 yX0_costBy 2 := ⟨by decide +kernel, by decide +kernel, by decide +kernel, by decide +kernel⟩
theorem f_X0_82 : fldOk RX0 82 1 8 (.array .int) true := ⟨RX1, TX1, 12, tyX1, rfl, by decide, gd_ws inT1, by decide +kernel, rfl, tyX1_ok, nmX1, rfl, rfl⟩
theorem f_X0_83 : fldOk RX0 83 1 4 (.array .int) true := ⟨RX1, TX1, 12, tyX1, rfl, by decide, gd_ws inT1, by decide +kernel, rfl, tyX1_ok, nmX1, rfl, rfl⟩
theorem f_X0_86 : fldOk RX0 86 1 5 (.array .int) true := ⟨RX1, TX1, 12, tyX1, rfl, by decide, gd_ws inT1, by decide +kernel, rfl, tyX1_ok, nmX1, rfl, rfl⟩
theorem f_X0_89 : fldOk RX0 89 1 10 (.array .int) true := ⟨RX1, TX1, 12, tyX1, rfl, by decide, gd_ws inT1, by decide +kernel, rfl, tyX1_ok, nmX1, rfl, rfl⟩
theorem v_X0_92 : ∀ w ∈ ([.methodLink RX0 92 Lib.Math.min.name, .static Lib.Math.min.name, .initialized "java/lang/Math", .code Lib.Math.min.name Lib.Math.min.code 2 (some .int)] : List Cond), w ∈ lw_gd := by decide +kernel
theorem v_X0_98 : mvOk RX0 98 yX0_partsAreKnown 2 := ⟨by decide +kernel, by decide +kernel, by decide +kernel, by decide +kernel⟩
theorem v_X0_102 : mvOk RX0 102 yX0_putTogether 2 := ⟨by decide +kernel, by decide +kernel, by decide +kernel, by decide +kernel⟩
theorem v_X1_3 : ∀ w ∈ ([.methodLink RX1 3 Lib.objectInit, .instanceMethod Lib.objectInit, .code Lib.objectInit ⟨#[0xb1]⟩ 1 none] : List Cond), w ∈ lw_gd := by decide +kernel
theorem f_X1_9 : fldOk RX1 9 1 0 (.array .int) true := ⟨RX1, TX1, 12, tyX1, rfl, by decide, gd_ws inT1, by decide +kernel, rfl, tyX1_ok, nmX1, rfl, rfl⟩
theorem f_X1_15 : fldOk RX1 15 1 3 (.array .int) true := ⟨RX1, TX1, 12, tyX1, rfl, by decide, gd_ws inT1, by decide +kernel, rfl, tyX1_ok, nmX1, rfl, rfl⟩
theorem f_X1_18 : fldOk RX1 18 1 4 (.array .int) true := ⟨RX1, TX1, 12, tyX1, rfl, by decide, gd_ws inT1, by decide +kernel, rfl, tyX1_ok, nmX1, rfl, rfl⟩
theorem f_X1_21 : fldOk RX1 21 1 5 (.array .int) true := ⟨RX1, TX1, 12, tyX1, rfl, by decide, gd_ws inT1, by decide +kernel, rfl, tyX1_ok, nmX1, rfl, rfl⟩
theorem f_X1_24 : fldOk RX1 24 1 6 (.array .int) true := ⟨RX1, TX1, 12, tyX1, rfl, by decide, gd_ws inT1, by decide +kernel, rfl, tyX1_ok, nmX1, rfl, rfl⟩
theorem f_X1_27 : fldOk RX1 27 1 7 (.array .int) true := ⟨RX1, TX1, 12, tyX1, rfl, by decide, gd_ws inT1, by decide +kernel, rfl, tyX1_ok, nmX1, rfl, rfl⟩
theorem f_X1_30 : fldOk RX1 30 1 8 (.array .int) true := ⟨RX1, TX1, 12, tyX1, rfl, by decide, gd_ws inT1, by decide +kernel, rfl, tyX1_ok, nmX1, rfl, rfl⟩
theorem f_X1_33 : fldOk RX1 33 1 9 (.array .int) true := ⟨RX1, TX1, 12, tyX1, rfl, by decide, gd_ws inT1, by decide +kernel, rfl, tyX1_ok, nmX1, rfl, rfl⟩
theorem f_X1_36 : fldOk RX1 36 1 10 (.array .int) true := ⟨RX1, TX1, 12, tyX1, rfl, by decide, gd_ws inT1, by decide +kernel, rfl, tyX1_ok, nmX1, rfl, rfl⟩
theorem f_X1_39 : fldOk RX1 39 1 11 (.array .int) true := ⟨RX1, TX1, 12, tyX1, rfl, by decide, gd_ws inT1, by decide +kernel, rfl, tyX1_ok, nmX1, rfl, rfl⟩
theorem f_X1_42 : fldOk RX1 42 5 6 .int false := ⟨RX5, TX5, 8, tyX5, rfl, by decide, gd_ws inT5, by decide +kernel, rfl, tyX5_ok, nmX5, rfl, rfl⟩
theorem f_X1_48 : fldOk RX1 48 1 2 .int false := ⟨RX1, TX1, 12, tyX1, rfl, by decide, gd_ws inT1, by decide +kernel, rfl, tyX1_ok, nmX1, rfl, rfl⟩
theorem v_X1_49 : mvOk RX1 49 yX1_findStrata 1 := ⟨by decide +kernel, by decide +kernel, by decide +kernel, by decide +kernel⟩
theorem f_X1_53 : fldOk RX1 53 5 7 (.array (.object "FactOrigins$Rule")) true := ⟨RX5, TX5, 8, tyX5, rfl, by decide, gd_ws inT5, by decide +kernel, rfl, tyX5_ok, nmX5, rfl, rfl⟩
theorem f_X1_57 : fldOk RX1 57 6 0 (.array .int) true := ⟨RX6, TX6, 6, tyX6, rfl, by decide, gd_ws inT6, by decide +kernel, rfl, tyX6_ok, nmX6, rfl, rfl⟩
theorem f_X1_62 : fldOk RX1 62 6 5 .int false := ⟨RX6, TX6, 6, tyX6, rfl, by decide, gd_ws inT6, by decide +kernel, rfl, tyX6_ok, nmX6, rfl, rfl⟩
theorem f_X1_64 : fldOk RX1 64 6 4 .int false := ⟨RX6, TX6, 6, tyX6, rfl, by decide, gd_ws inT6, by decide +kernel, rfl, tyX6_ok, nmX6, rfl, rfl⟩
theorem f_X1_67 : fldOk RX1 67 6 3 (.array .boolean) true := ⟨RX6, TX6, 6, tyX6, rfl, by decide, gd_ws inT6, by decide +kernel, rfl, tyX6_ok, nmX6, rfl, rfl⟩
theorem f_X1_71 : fldOk RX1 71 5 0 .int false := ⟨RX5, TX5, 8, tyX5, rfl, by decide, gd_ws inT5, by decide +kernel, rfl, tyX5_ok, nmX5, rfl, rfl⟩
theorem v_X1_74 : mvOk RX1 74 yX1_fillInstances 3 := ⟨by decide +kernel, by decide +kernel, by decide +kernel, by decide +kernel⟩
theorem v_X1_78 : msOk RX1 78 yJ7_fill_53178 2 := ⟨by decide +kernel, by decide +kernel, by decide +kernel, by decide +kernel⟩
theorem v_X1_84 : mvOk RX1 84 yX1_raiseHead 1 := ⟨by decide +kernel, by decide +kernel, by decide +kernel, by decide +kernel⟩
theorem f_X1_88 : fldOk RX1 88 1 1 .boolean false := ⟨RX1, TX1, 12, tyX1, rfl, by decide, gd_ws inT1, by decide +kernel, rfl, tyX1_ok, nmX1, rfl, rfl⟩
theorem v_X1_92 : ∀ w ∈ ([.methodLink RX1 92 Lib.Math.max.name, .static Lib.Math.max.name, .initialized "java/lang/Math", .code Lib.Math.max.name Lib.Math.max.code 2 (some .int)] : List Cond), w ∈ lw_gd := by decide +kernel
theorem v_X1_98 : mvOk RX1 98 yX6_hasVariable 1 := ⟨by decide +kernel, by decide +kernel, by decide +kernel, by decide +kernel⟩
theorem v_X1_102 : mvOk RX1 102 yX1_fillInstance 3 := ⟨by decide +kernel, by decide +kernel, by decide +kernel, by decide +kernel⟩
theorem f_X1_106 : fldOk RX1 106 6 1 (.array .int) true := ⟨RX6, TX6, 6, tyX6, rfl, by decide, gd_ws inT6, by decide +kernel, rfl, tyX6_ok, nmX6, rfl, rfl⟩
theorem f_X1_109 : fldOk RX1 109 6 2 (.array .int) true := ⟨RX6, TX6, 6, tyX6, rfl, by decide, gd_ws inT6, by decide +kernel, rfl, tyX6_ok, nmX6, rfl, rfl⟩
theorem v_X2_3 : ∀ w ∈ ([.methodLink RX2 3 Lib.objectInit, .instanceMethod Lib.objectInit, .code Lib.objectInit ⟨#[0xb1]⟩ 1 none] : List Cond), w ∈ lw_gd := by decide +kernel
theorem f_X2_9 : fldOk RX2 9 2 0 (.array .int) true := ⟨RX2, TX2, 3, tyX2, rfl, by decide, gd_ws inT2, by decide +kernel, rfl, tyX2_ok, nmX2, rfl, rfl⟩
theorem f_X2_15 : fldOk RX2 15 2 2 (.array .int) true := ⟨RX2, TX2, 3, tyX2, rfl, by decide, gd_ws inT2, by decide +kernel, rfl, tyX2_ok, nmX2, rfl, rfl⟩
theorem f_X2_18 : fldOk RX2 18 2 1 .int false := ⟨RX2, TX2, 3, tyX2, rfl, by decide, gd_ws inT2, by decide +kernel, rfl, tyX2_ok, nmX2, rfl, rfl⟩
theorem v_X2_22 : msOk RX2 22 yJ7_fill_53178 2 := ⟨by decide +kernel, by decide +kernel, by decide +kernel, by decide +kernel⟩
theorem f_X2_28 : fldOk RX2 28 1 7 (.array .int) true := ⟨RX1, TX1, 12, tyX1, rfl, by decide, gd_ws inT1, by decide +kernel, rfl, tyX1_ok, nmX1, rfl, rfl⟩
theorem f_X2_33 : fldOk RX2 33 1 2 .int false := ⟨RX1, TX1, 12, tyX1, rfl, by decide, gd_ws inT1, by decide +kernel, rfl, tyX1_ok, nmX1, rfl, rfl⟩
theorem f_X2_36 : fldOk RX2 36 4 1 .int false := ⟨RX4, TX4, 3, tyX4, rfl, by decide, gd_ws inT4, by decide +kernel, rfl, tyX4_ok, nmX4, rfl, rfl⟩
theorem v_X2_41 : mvOk RX2 41 yX4_holdsBefore 3 := ⟨by decide +kernel, by decide +kernel, by decide +kernel, by decide +kernel⟩
theorem f_X2_45 : fldOk RX2 45 1 9 (.array .int) true := ⟨RX1, TX1, 12, tyX1, rfl, by decide, gd_ws inT1, by decide +kernel, rfl, tyX1_ok, nmX1, rfl, rfl⟩
theorem v_X3_3 : ∀ w ∈ ([.methodLink RX3 3 Lib.objectInit, .instanceMethod Lib.objectInit, .code Lib.objectInit ⟨#[0xb1]⟩ 1 none] : List Cond), w ∈ lw_gd := by decide +kernel
theorem f_X3_9 : fldOk RX3 9 3 0 (.array .float) true := ⟨RX3, TX3, 1, tyX3, rfl, by decide, gd_ws inT3, by decide +kernel, rfl, tyX3_ok, nmX3, rfl, rfl⟩
theorem f_X3_15 : fldOk RX3 15 5 2 .int false := ⟨RX5, TX5, 8, tyX5, rfl, by decide, gd_ws inT5, by decide +kernel, rfl, tyX5_ok, nmX5, rfl, rfl⟩
theorem f_X3_21 : fldOk RX3 21 5 3 (.array .int) true := ⟨RX5, TX5, 8, tyX5, rfl, by decide, gd_ws inT5, by decide +kernel, rfl, tyX5_ok, nmX5, rfl, rfl⟩
theorem f_X3_25 : fldOk RX3 25 5 5 (.array .int) true := ⟨RX5, TX5, 8, tyX5, rfl, by decide, gd_ws inT5, by decide +kernel, rfl, tyX5_ok, nmX5, rfl, rfl⟩
theorem c_X3_28 : Cond.constantFloat RX3 28 (1098907648) ∈ lw_gd := by decide +kernel
theorem v_X3_29 : mvOk RX3 29 yX3_raise 2 := ⟨by decide +kernel, by decide +kernel, by decide +kernel, by decide +kernel⟩
theorem f_X3_33 : fldOk RX3 33 2 1 .int false := ⟨RX2, TX2, 3, tyX2, rfl, by decide, gd_ws inT2, by decide +kernel, rfl, tyX2_ok, nmX2, rfl, rfl⟩
theorem f_X3_38 : fldOk RX3 38 2 0 (.array .int) true := ⟨RX2, TX2, 3, tyX2, rfl, by decide, gd_ws inT2, by decide +kernel, rfl, tyX2_ok, nmX2, rfl, rfl⟩
theorem f_X3_41 : fldOk RX3 41 1 9 (.array .int) true := ⟨RX1, TX1, 12, tyX1, rfl, by decide, gd_ws inT1, by decide +kernel, rfl, tyX1_ok, nmX1, rfl, rfl⟩
theorem v_X3_46 : mvOk RX3 46 yX3_likelihoodBy 2 := ⟨by decide +kernel, by decide +kernel, by decide +kernel, by decide +kernel⟩
theorem f_X3_50 : fldOk RX3 50 1 5 (.array .int) true := ⟨RX1, TX1, 12, tyX1, rfl, by decide, gd_ws inT1, by decide +kernel, rfl, tyX1_ok, nmX1, rfl, rfl⟩
theorem f_X3_53 : fldOk RX3 53 1 8 (.array .int) true := ⟨RX1, TX1, 12, tyX1, rfl, by decide, gd_ws inT1, by decide +kernel, rfl, tyX1_ok, nmX1, rfl, rfl⟩
theorem f_X3_56 : fldOk RX3 56 1 10 (.array .int) true := ⟨RX1, TX1, 12, tyX1, rfl, by decide, gd_ws inT1, by decide +kernel, rfl, tyX1_ok, nmX1, rfl, rfl⟩
theorem v_X4_3 : ∀ w ∈ ([.methodLink RX4 3 Lib.objectInit, .instanceMethod Lib.objectInit, .code Lib.objectInit ⟨#[0xb1]⟩ 1 none] : List Cond), w ∈ lw_gd := by decide +kernel
theorem f_X4_9 : fldOk RX4 9 4 0 (.array .int) true := ⟨RX4, TX4, 3, tyX4, rfl, by decide, gd_ws inT4, by decide +kernel, rfl, tyX4_ok, nmX4, rfl, rfl⟩
theorem v_X4_15 : msOk RX4 15 yJ7_fill_53178 2 := ⟨by decide +kernel, by decide +kernel, by decide +kernel, by decide +kernel⟩
theorem f_X4_21 : fldOk RX4 21 4 1 .int false := ⟨RX4, TX4, 3, tyX4, rfl, by decide, gd_ws inT4, by decide +kernel, rfl, tyX4_ok, nmX4, rfl, rfl⟩
theorem f_X4_25 : fldOk RX4 25 5 2 .int false := ⟨RX5, TX5, 8, tyX5, rfl, by decide, gd_ws inT5, by decide +kernel, rfl, tyX5_ok, nmX5, rfl, rfl⟩
theorem f_X4_30 : fldOk RX4 30 5 3 (.array .int) true := ⟨RX5, TX5, 8, tyX5, rfl, by decide, gd_ws inT5, by decide +kernel, rfl, tyX5_ok, nmX5, rfl, rfl⟩
theorem v_X4_33 : mvOk RX4 33 yX4_buildStratum 2 := ⟨by decide +kernel, by decide +kernel, by decide +kernel, by decide +kernel⟩
theorem f_X4_37 : fldOk RX4 37 4 2 .int false := ⟨RX4, TX4, 3, tyX4, rfl, by decide, gd_ws inT4, by decide +kernel, rfl, tyX4_ok, nmX4, rfl, rfl⟩
theorem v_X4_40 : mvOk RX4 40 yX4_atomsOf 1 := ⟨by decide +kernel, by decide +kernel, by decide +kernel, by decide +kernel⟩
theorem f_X4_44 : fldOk RX4 44 1 2 .int false := ⟨RX1, TX1, 12, tyX1, rfl, by decide, gd_ws inT1, by decide +kernel, rfl, tyX1_ok, nmX1, rfl, rfl⟩
theorem f_X4_49 : fldOk RX4 49 1 3 (.array .int) true := ⟨RX1, TX1, 12, tyX1, rfl, by decide, gd_ws inT1, by decide +kernel, rfl, tyX1_ok, nmX1, rfl, rfl⟩
theorem v_X4_52 : mvOk RX4 52 yX4_takeHeads 3 := ⟨by decide +kernel, by decide +kernel, by decide +kernel, by decide +kernel⟩
theorem f_X4_56 : fldOk RX4 56 1 7 (.array .int) true := ⟨RX1, TX1, 12, tyX1, rfl, by decide, gd_ws inT1, by decide +kernel, rfl, tyX1_ok, nmX1, rfl, rfl⟩
theorem f_X4_59 : fldOk RX4 59 1 9 (.array .int) true := ⟨RX1, TX1, 12, tyX1, rfl, by decide, gd_ws inT1, by decide +kernel, rfl, tyX1_ok, nmX1, rfl, rfl⟩
theorem v_X4_62 : mvOk RX4 62 yX4_holdsBefore 3 := ⟨by decide +kernel, by decide +kernel, by decide +kernel, by decide +kernel⟩
theorem f_X4_65 : fldOk RX4 65 1 8 (.array .int) true := ⟨RX1, TX1, 12, tyX1, rfl, by decide, gd_ws inT1, by decide +kernel, rfl, tyX1_ok, nmX1, rfl, rfl⟩
theorem f_X4_68 : fldOk RX4 68 1 5 (.array .int) true := ⟨RX1, TX1, 12, tyX1, rfl, by decide, gd_ws inT1, by decide +kernel, rfl, tyX1_ok, nmX1, rfl, rfl⟩
theorem f_X4_71 : fldOk RX4 71 1 10 (.array .int) true := ⟨RX1, TX1, 12, tyX1, rfl, by decide, gd_ws inT1, by decide +kernel, rfl, tyX1_ok, nmX1, rfl, rfl⟩
theorem f_X4_74 : fldOk RX4 74 1 6 (.array .int) true := ⟨RX1, TX1, 12, tyX1, rfl, by decide, gd_ws inT1, by decide +kernel, rfl, tyX1_ok, nmX1, rfl, rfl⟩
theorem v_X5_3 : ∀ w ∈ ([.methodLink RX5 3 Lib.objectInit, .instanceMethod Lib.objectInit, .code Lib.objectInit ⟨#[0xb1]⟩ 1 none] : List Cond), w ∈ lw_gd := by decide +kernel
theorem f_X5_9 : fldOk RX5 9 5 0 .int false := ⟨RX5, TX5, 8, tyX5, rfl, by decide, gd_ws inT5, by decide +kernel, rfl, tyX5_ok, nmX5, rfl, rfl⟩
theorem f_X5_15 : fldOk RX5 15 5 1 (.array .int) true := ⟨RX5, TX5, 8, tyX5, rfl, by decide, gd_ws inT5, by decide +kernel, rfl, tyX5_ok, nmX5, rfl, rfl⟩
theorem f_X5_19 : fldOk RX5 19 5 3 (.array .int) true := ⟨RX5, TX5, 8, tyX5, rfl, by decide, gd_ws inT5, by decide +kernel, rfl, tyX5_ok, nmX5, rfl, rfl⟩
theorem f_X5_22 : fldOk RX5 22 5 4 (.array .int) true := ⟨RX5, TX5, 8, tyX5, rfl, by decide, gd_ws inT5, by decide +kernel, rfl, tyX5_ok, nmX5, rfl, rfl⟩
theorem f_X5_25 : fldOk RX5 25 5 5 (.array .int) true := ⟨RX5, TX5, 8, tyX5, rfl, by decide, gd_ws inT5, by decide +kernel, rfl, tyX5_ok, nmX5, rfl, rfl⟩
theorem k_X5_28 : Cond.classLink RX5 28 RX6 ∈ lw_gd := by decide +kernel
theorem f_X5_30 : fldOk RX5 30 5 7 (.array (.object "FactOrigins$Rule")) true := ⟨RX5, TX5, 8, tyX5, rfl, by decide, gd_ws inT5, by decide +kernel, rfl, tyX5_ok, nmX5, rfl, rfl⟩
theorem v_X5_34 : msOk RX5 34 yJ7_fill_53178 2 := ⟨by decide +kernel, by decide +kernel, by decide +kernel, by decide +kernel⟩
theorem n_X5_28 : newOk RX5 28 6 6 [.null, .null, .null, .null, .int 0, .int 0] := ⟨RX6, TX6, tyX6, rfl, gd_ws inT6, tyX6_ok, by decide +kernel, by intro j hj; rcases (show j = 0 ∨ j = 1 ∨ j = 2 ∨ j = 3 ∨ j = 4 ∨ j = 5 by omega) with rfl | rfl | rfl | rfl | rfl | rfl <;> rfl, fun _ => rfl⟩
theorem f_X5_41 : fldOk RX5 41 5 2 .int false := ⟨RX5, TX5, 8, tyX5, rfl, by decide, gd_ws inT5, by decide +kernel, rfl, tyX5_ok, nmX5, rfl, rfl⟩
theorem f_X5_44 : fldOk RX5 44 5 6 .int false := ⟨RX5, TX5, 8, tyX5, rfl, by decide, gd_ws inT5, by decide +kernel, rfl, tyX5_ok, nmX5, rfl, rfl⟩
theorem v_X5_47 : ∀ w ∈ ([.methodLink RX5 47 arraycopyName, .native arraycopyName, .static arraycopyName, .initialized "java/lang/System"] : List Cond), w ∈ lw_gd := by decide +kernel
theorem v_X5_53 : mvOk RX5 53 yX6_become 1 := ⟨by decide +kernel, by decide +kernel, by decide +kernel, by decide +kernel⟩
theorem v_X5_61 : mvOk RX5 61 yX6_mentions 1 := ⟨by decide +kernel, by decide +kernel, by decide +kernel, by decide +kernel⟩
theorem f_X5_64 : fldOk RX5 64 6 5 .int false := ⟨RX6, TX6, 6, tyX6, rfl, by decide, gd_ws inT6, by decide +kernel, rfl, tyX6_ok, nmX6, rfl, rfl⟩
theorem v_X6_3 : ∀ w ∈ ([.methodLink RX6 3 Lib.objectInit, .instanceMethod Lib.objectInit, .code Lib.objectInit ⟨#[0xb1]⟩ 1 none] : List Cond), w ∈ lw_gd := by decide +kernel
theorem f_X6_9 : fldOk RX6 9 6 0 (.array .int) true := ⟨RX6, TX6, 6, tyX6, rfl, by decide, gd_ws inT6, by decide +kernel, rfl, tyX6_ok, nmX6, rfl, rfl⟩
theorem f_X6_15 : fldOk RX6 15 6 1 (.array .int) true := ⟨RX6, TX6, 6, tyX6, rfl, by decide, gd_ws inT6, by decide +kernel, rfl, tyX6_ok, nmX6, rfl, rfl⟩
theorem f_X6_18 : fldOk RX6 18 6 2 (.array .int) true := ⟨RX6, TX6, 6, tyX6, rfl, by decide, gd_ws inT6, by decide +kernel, rfl, tyX6_ok, nmX6, rfl, rfl⟩
theorem f_X6_21 : fldOk RX6 21 6 3 (.array .boolean) true := ⟨RX6, TX6, 6, tyX6, rfl, by decide, gd_ws inT6, by decide +kernel, rfl, tyX6_ok, nmX6, rfl, rfl⟩
theorem f_X6_25 : fldOk RX6 25 6 4 .int false := ⟨RX6, TX6, 6, tyX6, rfl, by decide, gd_ws inT6, by decide +kernel, rfl, tyX6_ok, nmX6, rfl, rfl⟩
theorem f_X6_29 : fldOk RX6 29 6 5 .int false := ⟨RX6, TX6, 6, tyX6, rfl, by decide, gd_ws inT6, by decide +kernel, rfl, tyX6_ok, nmX6, rfl, rfl⟩
theorem v_X7_3 : ∀ w ∈ ([.methodLink RX7 3 Lib.objectInit, .instanceMethod Lib.objectInit, .code Lib.objectInit ⟨#[0xb1]⟩ 1 none] : List Cond), w ∈ lw_gd := by decide +kernel
theorem f_X7_9 : fldOk RX7 9 7 0 (.array .int) true := ⟨RX7, TX7, 4, tyX7, rfl, by decide, gd_ws inT7, by decide +kernel, rfl, tyX7_ok, nmX7, rfl, rfl⟩
theorem n_X7_15 : newOk RX7 15 6 6 [.null, .null, .null, .null, .int 0, .int 0] := ⟨RX6, TX6, tyX6, rfl, gd_ws inT6, tyX6_ok, by decide +kernel, by intro j hj; rcases (show j = 0 ∨ j = 1 ∨ j = 2 ∨ j = 3 ∨ j = 4 ∨ j = 5 by omega) with rfl | rfl | rfl | rfl | rfl | rfl <;> rfl, fun _ => rfl⟩
theorem f_X7_18 : fldOk RX7 18 7 2 (.object "FactOrigins$Rule") true := ⟨RX7, TX7, 4, tyX7, rfl, by decide, gd_ws inT7, by decide +kernel, rfl, tyX7_ok, nmX7, rfl, rfl⟩
theorem f_X7_22 : fldOk RX7 22 7 1 .int false := ⟨RX7, TX7, 4, tyX7, rfl, by decide, gd_ws inT7, by decide +kernel, rfl, tyX7_ok, nmX7, rfl, rfl⟩
theorem f_X7_26 : fldOk RX7 26 7 3 .int false := ⟨RX7, TX7, 4, tyX7, rfl, by decide, gd_ws inT7, by decide +kernel, rfl, tyX7_ok, nmX7, rfl, rfl⟩
theorem v_X7_29 : mvOk RX7 29 yX7_readRule 1 := ⟨by decide +kernel, by decide +kernel, by decide +kernel, by decide +kernel⟩
theorem v_X7_33 : mvOk RX7 33 yX7_unboundVariable 0 := ⟨by decide +kernel, by decide +kernel, by decide +kernel, by decide +kernel⟩
theorem v_X7_37 : mvOk RX7 37 yX7_readAtom 2 := ⟨by decide +kernel, by decide +kernel, by decide +kernel, by decide +kernel⟩
theorem v_X7_41 : mvOk RX7 41 yX7_take 1 := ⟨by decide +kernel, by decide +kernel, by decide +kernel, by decide +kernel⟩
theorem f_X7_45 : fldOk RX7 45 6 3 (.array .boolean) true := ⟨RX6, TX6, 6, tyX6, rfl, by decide, gd_ws inT6, by decide +kernel, rfl, tyX6_ok, nmX6, rfl, rfl⟩
theorem f_X7_49 : fldOk RX7 49 6 4 .int false := ⟨RX6, TX6, 6, tyX6, rfl, by decide, gd_ws inT6, by decide +kernel, rfl, tyX6_ok, nmX6, rfl, rfl⟩
theorem v_X7_52 : mvOk RX7 52 yX7_next 0 := ⟨by decide +kernel, by decide +kernel, by decide +kernel, by decide +kernel⟩
theorem f_X7_58 : fldOk RX7 58 5 0 .int false := ⟨RX5, TX5, 8, tyX5, rfl, by decide, gd_ws inT5, by decide +kernel, rfl, tyX5_ok, nmX5, rfl, rfl⟩
theorem v_X7_63 : msOk RX7 63 yX7_isTerm 2 := ⟨by decide +kernel, by decide +kernel, by decide +kernel, by decide +kernel⟩
theorem f_X7_67 : fldOk RX7 67 6 0 (.array .int) true := ⟨RX6, TX6, 6, tyX6, rfl, by decide, gd_ws inT6, by decide +kernel, rfl, tyX6_ok, nmX6, rfl, rfl⟩
theorem f_X7_70 : fldOk RX7 70 6 1 (.array .int) true := ⟨RX6, TX6, 6, tyX6, rfl, by decide, gd_ws inT6, by decide +kernel, rfl, tyX6_ok, nmX6, rfl, rfl⟩
theorem v_X7_73 : mvOk RX7 73 yX7_takeTerm 0 := ⟨by decide +kernel, by decide +kernel, by decide +kernel, by decide +kernel⟩
theorem f_X7_76 : fldOk RX7 76 6 2 (.array .int) true := ⟨RX6, TX6, 6, tyX6, rfl, by decide, gd_ws inT6, by decide +kernel, rfl, tyX6_ok, nmX6, rfl, rfl⟩
theorem f_X7_79 : fldOk RX7 79 5 1 (.array .int) true := ⟨RX5, TX5, 8, tyX5, rfl, by decide, gd_ws inT5, by decide +kernel, rfl, tyX5_ok, nmX5, rfl, rfl⟩
theorem v_X7_82 : msOk RX7 82 yX7_isVariable 1 := ⟨by decide +kernel, by decide +kernel, by decide +kernel, by decide +kernel⟩
theorem v_X7_85 : mvOk RX7 85 yX6_hasVariable 1 := ⟨by decide +kernel, by decide +kernel, by decide +kernel, by decide +kernel⟩
theorem v_X8_3 : ∀ w ∈ ([.methodLink RX8 3 Lib.objectInit, .instanceMethod Lib.objectInit, .code Lib.objectInit ⟨#[0xb1]⟩ 1 none] : List Cond), w ∈ lw_gd := by decide +kernel
theorem f_X8_9 : fldOk RX8 9 8 0 (.array .int) true := ⟨RX8, TX8, 2, tyX8, rfl, by decide, gd_ws inT8, by decide +kernel, rfl, tyX8_ok, nmX8, rfl, rfl⟩
theorem f_X8_15 : fldOk RX8 15 8 1 (.array .long) true := ⟨RX8, TX8, 2, tyX8, rfl, by decide, gd_ws inT8, by decide +kernel, rfl, tyX8_ok, nmX8, rfl, rfl⟩
theorem v_X8_19 : msOk RX8 19 yJ7_fill_d0a16 2 := ⟨by decide +kernel, by decide +kernel, by decide +kernel, by decide +kernel⟩
theorem f_X8_25 : fldOk RX8 25 5 2 .int false := ⟨RX5, TX5, 8, tyX5, rfl, by decide, gd_ws inT5, by decide +kernel, rfl, tyX5_ok, nmX5, rfl, rfl⟩
theorem f_X8_31 : fldOk RX8 31 5 3 (.array .int) true := ⟨RX5, TX5, 8, tyX5, rfl, by decide, gd_ws inT5, by decide +kernel, rfl, tyX5_ok, nmX5, rfl, rfl⟩
theorem v_X8_34 : mvOk RX8 34 yX8_enterBaseFact 2 := ⟨by decide +kernel, by decide +kernel, by decide +kernel, by decide +kernel⟩
theorem f_X8_38 : fldOk RX8 38 2 1 .int false := ⟨RX2, TX2, 3, tyX2, rfl, by decide, gd_ws inT2, by decide +kernel, rfl, tyX2_ok, nmX2, rfl, rfl⟩
theorem f_X8_43 : fldOk RX8 43 2 0 (.array .int) true := ⟨RX2, TX2, 3, tyX2, rfl, by decide, gd_ws inT2, by decide +kernel, rfl, tyX2_ok, nmX2, rfl, rfl⟩
theorem v_X8_46 : mvOk RX8 46 yX8_widen 2 := ⟨by decide +kernel, by decide +kernel, by decide +kernel, by decide +kernel⟩
theorem v_X8_50 : mvOk RX8 50 yX8_survives 2 := ⟨by decide +kernel, by decide +kernel, by decide +kernel, by decide +kernel⟩
theorem f_X8_54 : fldOk RX8 54 1 5 (.array .int) true := ⟨RX1, TX1, 12, tyX1, rfl, by decide, gd_ws inT1, by decide +kernel, rfl, tyX1_ok, nmX1, rfl, rfl⟩
theorem f_X8_59 : fldOk RX8 59 1 8 (.array .int) true := ⟨RX1, TX1, 12, tyX1, rfl, by decide, gd_ws inT1, by decide +kernel, rfl, tyX1_ok, nmX1, rfl, rfl⟩
theorem f_X8_62 : fldOk RX8 62 1 9 (.array .int) true := ⟨RX1, TX1, 12, tyX1, rfl, by decide, gd_ws inT1, by decide +kernel, rfl, tyX1_ok, nmX1, rfl, rfl⟩
theorem c_X8_65 : Cond.constantLong RX8 65 (-1) ∈ lw_gd := by decide +kernel
theorem f_X8_67 : fldOk RX8 67 1 10 (.array .int) true := ⟨RX1, TX1, 12, tyX1, rfl, by decide, gd_ws inT1, by decide +kernel, rfl, tyX1_ok, nmX1, rfl, rfl⟩
theorem v_X9_3 : ∀ w ∈ ([.methodLink RX9 3 Lib.objectInit, .instanceMethod Lib.objectInit, .code Lib.objectInit ⟨#[0xb1]⟩ 1 none] : List Cond), w ∈ lw_gd := by decide +kernel
theorem n_X9_9 : newOk RX9 9 5 8 [.int 0, .null, .int 0, .null, .null, .null, .int 0, .null] := ⟨RX5, TX5, tyX5, rfl, gd_ws inT5, tyX5_ok, by decide +kernel, by intro j hj; rcases (show j = 0 ∨ j = 1 ∨ j = 2 ∨ j = 3 ∨ j = 4 ∨ j = 5 ∨ j = 6 ∨ j = 7 by omega) with rfl | rfl | rfl | rfl | rfl | rfl | rfl | rfl <;> rfl, fun _ => rfl⟩
theorem v_X9_11 : miOk RX9 11 yX5_init 0 := ⟨by decide +kernel, by decide +kernel, by decide +kernel, by decide +kernel, by decide +kernel⟩
theorem f_X9_12 : fldOk RX9 12 9 0 (.object "FactOrigins$Program") true := ⟨RX9, TX9, 17, tyX9, rfl, by decide, gd_ws inT9, by decide +kernel, rfl, tyX9_ok, nmX9, rfl, rfl⟩
theorem k_X9_9 : Cond.classLink RX9 9 RX5 ∈ lw_gd := by decide +kernel
theorem f_X9_16 : fldOk RX9 16 9 1 (.array (.object "FactOrigins$Program")) true := ⟨RX9, TX9, 17, tyX9, rfl, by decide, gd_ws inT9, by decide +kernel, rfl, tyX9_ok, nmX9, rfl, rfl⟩
theorem f_X9_20 : fldOk RX9 20 9 2 (.array .boolean) true := ⟨RX9, TX9, 17, tyX9, rfl, by decide, gd_ws inT9, by decide +kernel, rfl, tyX9_ok, nmX9, rfl, rfl⟩
theorem n_X9_24 : newOk RX9 24 7 4 [.null, .int 0, .null, .int 0] := ⟨RX7, TX7, tyX7, rfl, gd_ws inT7, tyX7_ok, by decide +kernel, by intro j hj; rcases (show j = 0 ∨ j = 1 ∨ j = 2 ∨ j = 3 by omega) with rfl | rfl | rfl | rfl <;> rfl, fun _ => rfl⟩
theorem f_X9_27 : fldOk RX9 27 9 3 (.object "FactOrigins$RuleText") true := ⟨RX9, TX9, 17, tyX9, rfl, by decide, gd_ws inT9, by decide +kernel, rfl, tyX9_ok, nmX9, rfl, rfl⟩
theorem n_X9_31 : newOk RX9 31 1 12 [.null, .int 0, .int 0, .null, .null, .null, .null, .null, .null, .null, .null, .null] := ⟨RX1, TX1, tyX1, rfl, gd_ws inT1, tyX1_ok, by decide +kernel, by intro j hj; rcases (show j = 0 ∨ j = 1 ∨ j = 2 ∨ j = 3 ∨ j = 4 ∨ j = 5 ∨ j = 6 ∨ j = 7 ∨ j = 8 ∨ j = 9 ∨ j = 10 ∨ j = 11 by omega) with rfl | rfl | rfl | rfl | rfl | rfl | rfl | rfl | rfl | rfl | rfl | rfl <;> rfl, fun _ => rfl⟩
theorem f_X9_34 : fldOk RX9 34 9 4 (.object "FactOrigins$Grounding") true := ⟨RX9, TX9, 17, tyX9, rfl, by decide, gd_ws inT9, by decide +kernel, rfl, tyX9_ok, nmX9, rfl, rfl⟩
theorem n_X9_38 : newOk RX9 38 4 3 [.null, .int 0, .int 0] := ⟨RX4, TX4, tyX4, rfl, gd_ws inT4, tyX4_ok, by decide +kernel, by intro j hj; rcases (show j = 0 ∨ j = 1 ∨ j = 2 by omega) with rfl | rfl | rfl <;> rfl, fun _ => rfl⟩
theorem f_X9_41 : fldOk RX9 41 9 5 (.object "FactOrigins$Model") true := ⟨RX9, TX9, 17, tyX9, rfl, by decide, gd_ws inT9, by decide +kernel, rfl, tyX9_ok, nmX9, rfl, rfl⟩
theorem n_X9_45 : newOk RX9 45 2 3 [.null, .int 0, .null] := ⟨RX2, TX2, tyX2, rfl, gd_ws inT2, tyX2_ok, by decide +kernel, by intro j hj; rcases (show j = 0 ∨ j = 1 ∨ j = 2 by omega) with rfl | rfl | rfl <;> rfl, fun _ => rfl⟩
theorem f_X9_48 : fldOk RX9 48 9 6 (.object "FactOrigins$Holding") true := ⟨RX9, TX9, 17, tyX9, rfl, by decide, gd_ws inT9, by decide +kernel, rfl, tyX9_ok, nmX9, rfl, rfl⟩
theorem n_X9_52 : newOk RX9 52 0 6 [.null, .null, .null, .null, .null, .null] := ⟨RX0, TX0, tyX0, rfl, gd_ws inT0, tyX0_ok, by decide +kernel, by intro j hj; rcases (show j = 0 ∨ j = 1 ∨ j = 2 ∨ j = 3 ∨ j = 4 ∨ j = 5 by omega) with rfl | rfl | rfl | rfl | rfl | rfl <;> rfl, fun _ => rfl⟩
theorem f_X9_55 : fldOk RX9 55 9 7 (.object "FactOrigins$Costs") true := ⟨RX9, TX9, 17, tyX9, rfl, by decide, gd_ws inT9, by decide +kernel, rfl, tyX9_ok, nmX9, rfl, rfl⟩
theorem n_X9_59 : newOk RX9 59 3 1 [.null] := ⟨RX3, TX3, tyX3, rfl, gd_ws inT3, tyX3_ok, by decide +kernel, by intro j hj; rcases (show j = 0 by omega) with rfl <;> rfl, fun _ => rfl⟩
theorem f_X9_62 : fldOk RX9 62 9 8 (.object "FactOrigins$Likelihoods") true := ⟨RX9, TX9, 17, tyX9, rfl, by decide, gd_ws inT9, by decide +kernel, rfl, tyX9_ok, nmX9, rfl, rfl⟩
theorem n_X9_66 : newOk RX9 66 8 2 [.null, .null] := ⟨RX8, TX8, tyX8, rfl, gd_ws inT8, tyX8_ok, by decide +kernel, by intro j hj; rcases (show j = 0 ∨ j = 1 by omega) with rfl | rfl <;> rfl, fun _ => rfl⟩
theorem v_X9_68 : miOk RX9 68 yX8_init 0 := ⟨by decide +kernel, by decide +kernel, by decide +kernel, by decide +kernel, by decide +kernel⟩
theorem f_X9_69 : fldOk RX9 69 9 9 (.object "FactOrigins$Survivals") true := ⟨RX9, TX9, 17, tyX9, rfl, by decide, gd_ws inT9, by decide +kernel, rfl, tyX9_ok, nmX9, rfl, rfl⟩
theorem f_X9_73 : fldOk RX9 73 9 10 (.object "FactOrigins$Model") true := ⟨RX9, TX9, 17, tyX9, rfl, by decide, gd_ws inT9, by decide +kernel, rfl, tyX9_ok, nmX9, rfl, rfl⟩
theorem f_X9_76 : fldOk RX9 76 9 16 .int false := ⟨RX9, TX9, 17, tyX9, rfl, by decide, gd_ws inT9, by decide +kernel, rfl, tyX9_ok, nmX9, rfl, rfl⟩
theorem f_X9_80 : fldOk RX9 80 5 0 .int false := ⟨RX5, TX5, 8, tyX5, rfl, by decide, gd_ws inT5, by decide +kernel, rfl, tyX5_ok, nmX5, rfl, rfl⟩
theorem v_X9_83 : mvOk RX9 83 yX5_clear 1 := ⟨by decide +kernel, by decide +kernel, by decide +kernel, by decide +kernel⟩
theorem v_X9_87 : mvOk RX9 87 yX9_rulesChanged 0 := ⟨by decide +kernel, by decide +kernel, by decide +kernel, by decide +kernel⟩
theorem v_X9_90 : msOk RX9 90 yX9_isPredicate 1 := ⟨by decide +kernel, by decide +kernel, by decide +kernel, by decide +kernel⟩
theorem v_X9_94 : mvOk RX9 94 yX5_uses 1 := ⟨by decide +kernel, by decide +kernel, by decide +kernel, by decide +kernel⟩
theorem f_X9_97 : fldOk RX9 97 5 1 (.array .int) true := ⟨RX5, TX5, 8, tyX5, rfl, by decide, gd_ws inT5, by decide +kernel, rfl, tyX5_ok, nmX5, rfl, rfl⟩
theorem v_X9_101 : mvOk RX9 101 yX5_hasAtom 3 := ⟨by decide +kernel, by decide +kernel, by decide +kernel, by decide +kernel⟩
theorem f_X9_105 : fldOk RX9 105 5 2 .int false := ⟨RX5, TX5, 8, tyX5, rfl, by decide, gd_ws inT5, by decide +kernel, rfl, tyX5_ok, nmX5, rfl, rfl⟩
theorem v_X9_108 : msOk RX9 108 yX9_atomNumber 3 := ⟨by decide +kernel, by decide +kernel, by decide +kernel, by decide +kernel⟩
theorem v_X9_112 : mvOk RX9 112 yX5_enterFact 3 := ⟨by decide +kernel, by decide +kernel, by decide +kernel, by decide +kernel⟩
theorem v_X9_115 : mvOk RX9 115 yX9_factsChanged 0 := ⟨by decide +kernel, by decide +kernel, by decide +kernel, by decide +kernel⟩
theorem v_X9_118 : mvOk RX9 118 yX5_dropFact 1 := ⟨by decide +kernel, by decide +kernel, by decide +kernel, by decide +kernel⟩
theorem f_X9_121 : fldOk RX9 121 5 6 .int false := ⟨RX5, TX5, 8, tyX5, rfl, by decide, gd_ws inT5, by decide +kernel, rfl, tyX5_ok, nmX5, rfl, rfl⟩
theorem v_X9_124 : mvOk RX9 124 yX5_dropRule 1 := ⟨by decide +kernel, by decide +kernel, by decide +kernel, by decide +kernel⟩
theorem f_X9_127 : fldOk RX9 127 7 1 .int false := ⟨RX7, TX7, 4, tyX7, rfl, by decide, gd_ws inT7, by decide +kernel, rfl, tyX7_ok, nmX7, rfl, rfl⟩
theorem v_X9_130 : mvOk RX9 130 yX7_put 1 := ⟨by decide +kernel, by decide +kernel, by decide +kernel, by decide +kernel⟩
theorem v_X9_133 : mvOk RX9 133 yX7_findFault 1 := ⟨by decide +kernel, by decide +kernel, by decide +kernel, by decide +kernel⟩
theorem f_X9_137 : fldOk RX9 137 7 2 (.object "FactOrigins$Rule") true := ⟨RX7, TX7, 4, tyX7, rfl, by decide, gd_ws inT7, by decide +kernel, rfl, tyX7_ok, nmX7, rfl, rfl⟩
theorem v_X9_141 : mvOk RX9 141 yX5_enterRule 2 := ⟨by decide +kernel, by decide +kernel, by decide +kernel, by decide +kernel⟩
theorem v_X9_145 : mvOk RX9 145 yX9_hasModel 0 := ⟨by decide +kernel, by decide +kernel, by decide +kernel, by decide +kernel⟩
theorem f_X9_149 : fldOk RX9 149 1 0 (.array .int) true := ⟨RX1, TX1, 12, tyX1, rfl, by decide, gd_ws inT1, by decide +kernel, rfl, tyX1_ok, nmX1, rfl, rfl⟩
theorem f_X9_152 : fldOk RX9 152 4 2 .int false := ⟨RX4, TX4, 3, tyX4, rfl, by decide, gd_ws inT4, by decide +kernel, rfl, tyX4_ok, nmX4, rfl, rfl⟩
theorem v_X9_155 : mvOk RX9 155 yX4_atomsOf 1 := ⟨by decide +kernel, by decide +kernel, by decide +kernel, by decide +kernel⟩
theorem f_X9_159 : fldOk RX9 159 4 1 .int false := ⟨RX4, TX4, 3, tyX4, rfl, by decide, gd_ws inT4, by decide +kernel, rfl, tyX4_ok, nmX4, rfl, rfl⟩
theorem v_X9_162 : mvOk RX9 162 yX9_atomOfModel 3 := ⟨by decide +kernel, by decide +kernel, by decide +kernel, by decide +kernel⟩
theorem f_X9_165 : fldOk RX9 165 4 0 (.array .int) true := ⟨RX4, TX4, 3, tyX4, rfl, by decide, gd_ws inT4, by decide +kernel, rfl, tyX4_ok, nmX4, rfl, rfl⟩
theorem f_X9_168 : fldOk RX9 168 2 2 (.array .int) true := ⟨RX2, TX2, 3, tyX2, rfl, by decide, gd_ws inT2, by decide +kernel, rfl, tyX2_ok, nmX2, rfl, rfl⟩
theorem v_X9_171 : mvOk RX9 171 yX9_computeCosts 0 := ⟨by decide +kernel, by decide +kernel, by decide +kernel, by decide +kernel⟩
theorem f_X9_174 : fldOk RX9 174 0 0 (.array .int) true := ⟨RX0, TX0, 6, tyX0, rfl, by decide, gd_ws inT0, by decide +kernel, rfl, tyX0_ok, nmX0, rfl, rfl⟩
theorem v_X9_177 : mvOk RX9 177 yX9_computeLikelihoods 0 := ⟨by decide +kernel, by decide +kernel, by decide +kernel, by decide +kernel⟩
theorem f_X9_180 : fldOk RX9 180 3 0 (.array .float) true := ⟨RX3, TX3, 1, tyX3, rfl, by decide, gd_ws inT3, by decide +kernel, rfl, tyX3_ok, nmX3, rfl, rfl⟩
theorem v_X9_184 : msOk RX9 184 yX9_floatBits 1 := ⟨by decide +kernel, by decide +kernel, by decide +kernel, by decide +kernel⟩
theorem v_X9_188 : mvOk RX9 188 yX9_leastOf 2 := ⟨by decide +kernel, by decide +kernel, by decide +kernel, by decide +kernel⟩
theorem v_X9_192 : mvOk RX9 192 yX9_computeSurvivals 0 := ⟨by decide +kernel, by decide +kernel, by decide +kernel, by decide +kernel⟩
theorem v_X9_195 : mvOk RX9 195 yX8_neededBy 1 := ⟨by decide +kernel, by decide +kernel, by decide +kernel, by decide +kernel⟩
theorem v_X9_198 : mvOk RX9 198 yX8_firstCut 1 := ⟨by decide +kernel, by decide +kernel, by decide +kernel, by decide +kernel⟩
theorem v_X9_201 : mvOk RX9 201 yX9_buildLesserModel 1 := ⟨by decide +kernel, by decide +kernel, by decide +kernel, by decide +kernel⟩
theorem v_X9_204 : mvOk RX9 204 yX5_become 1 := ⟨by decide +kernel, by decide +kernel, by decide +kernel, by decide +kernel⟩
theorem c_X9_208 : Cond.constantLong RX9 208 (89) ∈ lw_gd := by decide +kernel
theorem c_X9_210 : Cond.constantLong RX9 210 (31) ∈ lw_gd := by decide +kernel
theorem v_X9_212 : mvOk RX9 212 yX9_size 0 := ⟨by decide +kernel, by decide +kernel, by decide +kernel, by decide +kernel⟩
theorem v_X9_216 : mvOk RX9 216 yX9_withAtom 2 := ⟨by decide +kernel, by decide +kernel, by decide +kernel, by decide +kernel⟩
theorem c_X9_220 : Cond.constant RX9 220 (1000001) ∈ lw_gd := by decide +kernel
theorem f_X9_221 : fldOk RX9 221 0 1 (.array .int) true := ⟨RX0, TX0, 6, tyX0, rfl, by decide, gd_ws inT0, by decide +kernel, rfl, tyX0_ok, nmX0, rfl, rfl⟩
theorem f_X9_224 : fldOk RX9 224 0 2 (.array .int) true := ⟨RX0, TX0, 6, tyX0, rfl, by decide, gd_ws inT0, by decide +kernel, rfl, tyX0_ok, nmX0, rfl, rfl⟩
theorem f_X9_227 : fldOk RX9 227 0 3 (.array .int) true := ⟨RX0, TX0, 6, tyX0, rfl, by decide, gd_ws inT0, by decide +kernel, rfl, tyX0_ok, nmX0, rfl, rfl⟩
theorem f_X9_230 : fldOk RX9 230 9 11 .boolean false := ⟨RX9, TX9, 17, tyX9, rfl, by decide, gd_ws inT9, by decide +kernel, rfl, tyX9_ok, nmX9, rfl, rfl⟩
theorem f_X9_234 : fldOk RX9 234 9 12 .boolean false := ⟨RX9, TX9, 17, tyX9, rfl, by decide, gd_ws inT9, by decide +kernel, rfl, tyX9_ok, nmX9, rfl, rfl⟩
theorem f_X9_237 : fldOk RX9 237 9 13 .boolean false := ⟨RX9, TX9, 17, tyX9, rfl, by decide, gd_ws inT9, by decide +kernel, rfl, tyX9_ok, nmX9, rfl, rfl⟩
theorem f_X9_240 : fldOk RX9 240 9 14 .boolean false := ⟨RX9, TX9, 17, tyX9, rfl, by decide, gd_ws inT9, by decide +kernel, rfl, tyX9_ok, nmX9, rfl, rfl⟩
theorem f_X9_243 : fldOk RX9 243 9 15 .boolean false := ⟨RX9, TX9, 17, tyX9, rfl, by decide, gd_ws inT9, by decide +kernel, rfl, tyX9_ok, nmX9, rfl, rfl⟩
theorem v_X9_246 : mvOk RX9 246 yX1_fill 1 := ⟨by decide +kernel, by decide +kernel, by decide +kernel, by decide +kernel⟩
theorem f_X9_249 : fldOk RX9 249 1 1 .boolean false := ⟨RX1, TX1, 12, tyX1, rfl, by decide, gd_ws inT1, by decide +kernel, rfl, tyX1_ok, nmX1, rfl, rfl⟩
theorem v_X9_252 : mvOk RX9 252 yX4_build 3 := ⟨by decide +kernel, by decide +kernel, by decide +kernel, by decide +kernel⟩
theorem v_X9_256 : mvOk RX9 256 yX2_collect 2 := ⟨by decide +kernel, by decide +kernel, by decide +kernel, by decide +kernel⟩
theorem v_X9_260 : mvOk RX9 260 yX0_compute 3 := ⟨by decide +kernel, by decide +kernel, by decide +kernel, by decide +kernel⟩
theorem v_X9_264 : mvOk RX9 264 yX3_compute 3 := ⟨by decide +kernel, by decide +kernel, by decide +kernel, by decide +kernel⟩
theorem v_X9_265 : mvOk RX9 265 yX8_compute 3 := ⟨by decide +kernel, by decide +kernel, by decide +kernel, by decide +kernel⟩
theorem c_X9_266 : Cond.constantFloat RX9 266 (1258291200) ∈ lw_gd := by decide +kernel
theorem v_X10_1 : ∀ w ∈ ([.methodLink RX10 1 Lib.objectInit, .instanceMethod Lib.objectInit, .code Lib.objectInit ⟨#[0xb1]⟩ 1 none] : List Cond), w ∈ lw_gd := by decide +kernel
theorem f_X10_7 : fldOk RX10 7 10 0 (.array .int) true := ⟨RX10, TX10, 28, tyX10, rfl, by decide, gd_ws inT10, by decide +kernel, rfl, tyX10_ok, nmX10, rfl, rfl⟩
theorem f_X10_13 : fldOk RX10 13 10 1 (.array .int) true := ⟨RX10, TX10, 28, tyX10, rfl, by decide, gd_ws inT10, by decide +kernel, rfl, tyX10_ok, nmX10, rfl, rfl⟩
theorem f_X10_16 : fldOk RX10 16 10 2 (.array .boolean) true := ⟨RX10, TX10, 28, tyX10, rfl, by decide, gd_ws inT10, by decide +kernel, rfl, tyX10_ok, nmX10, rfl, rfl⟩
theorem f_X10_20 : fldOk RX10 20 10 3 (.array .int) true := ⟨RX10, TX10, 28, tyX10, rfl, by decide, gd_ws inT10, by decide +kernel, rfl, tyX10_ok, nmX10, rfl, rfl⟩
theorem f_X10_23 : fldOk RX10 23 10 6 (.array .int) true := ⟨RX10, TX10, 28, tyX10, rfl, by decide, gd_ws inT10, by decide +kernel, rfl, tyX10_ok, nmX10, rfl, rfl⟩
theorem f_X10_26 : fldOk RX10 26 10 10 (.array .int) true := ⟨RX10, TX10, 28, tyX10, rfl, by decide, gd_ws inT10, by decide +kernel, rfl, tyX10_ok, nmX10, rfl, rfl⟩
theorem f_X10_29 : fldOk RX10 29 10 11 (.array .int) true := ⟨RX10, TX10, 28, tyX10, rfl, by decide, gd_ws inT10, by decide +kernel, rfl, tyX10_ok, nmX10, rfl, rfl⟩
theorem f_X10_32 : fldOk RX10 32 10 12 (.array .int) true := ⟨RX10, TX10, 28, tyX10, rfl, by decide, gd_ws inT10, by decide +kernel, rfl, tyX10_ok, nmX10, rfl, rfl⟩
theorem f_X10_35 : fldOk RX10 35 10 13 (.array .int) true := ⟨RX10, TX10, 28, tyX10, rfl, by decide, gd_ws inT10, by decide +kernel, rfl, tyX10_ok, nmX10, rfl, rfl⟩
theorem f_X10_38 : fldOk RX10 38 10 14 (.array .boolean) true := ⟨RX10, TX10, 28, tyX10, rfl, by decide, gd_ws inT10, by decide +kernel, rfl, tyX10_ok, nmX10, rfl, rfl⟩
theorem f_X10_41 : fldOk RX10 41 10 16 (.array .int) true := ⟨RX10, TX10, 28, tyX10, rfl, by decide, gd_ws inT10, by decide +kernel, rfl, tyX10_ok, nmX10, rfl, rfl⟩
theorem f_X10_44 : fldOk RX10 44 10 17 (.array .int) true := ⟨RX10, TX10, 28, tyX10, rfl, by decide, gd_ws inT10, by decide +kernel, rfl, tyX10_ok, nmX10, rfl, rfl⟩
theorem f_X10_47 : fldOk RX10 47 10 18 (.array .int) true := ⟨RX10, TX10, 28, tyX10, rfl, by decide, gd_ws inT10, by decide +kernel, rfl, tyX10_ok, nmX10, rfl, rfl⟩
theorem f_X10_50 : fldOk RX10 50 10 21 (.array .int) true := ⟨RX10, TX10, 28, tyX10, rfl, by decide, gd_ws inT10, by decide +kernel, rfl, tyX10_ok, nmX10, rfl, rfl⟩
theorem f_X10_53 : fldOk RX10 53 10 22 (.array .float) true := ⟨RX10, TX10, 28, tyX10, rfl, by decide, gd_ws inT10, by decide +kernel, rfl, tyX10_ok, nmX10, rfl, rfl⟩
theorem f_X10_57 : fldOk RX10 57 10 23 (.array .int) true := ⟨RX10, TX10, 28, tyX10, rfl, by decide, gd_ws inT10, by decide +kernel, rfl, tyX10_ok, nmX10, rfl, rfl⟩
theorem f_X10_60 : fldOk RX10 60 10 24 (.array .int) true := ⟨RX10, TX10, 28, tyX10, rfl, by decide, gd_ws inT10, by decide +kernel, rfl, tyX10_ok, nmX10, rfl, rfl⟩
theorem f_X10_63 : fldOk RX10 63 10 25 (.array .int) true := ⟨RX10, TX10, 28, tyX10, rfl, by decide, gd_ws inT10, by decide +kernel, rfl, tyX10_ok, nmX10, rfl, rfl⟩
theorem f_X10_66 : fldOk RX10 66 10 26 (.array .int) true := ⟨RX10, TX10, 28, tyX10, rfl, by decide, gd_ws inT10, by decide +kernel, rfl, tyX10_ok, nmX10, rfl, rfl⟩
theorem f_X10_69 : fldOk RX10 69 10 27 (.array .boolean) true := ⟨RX10, TX10, 28, tyX10, rfl, by decide, gd_ws inT10, by decide +kernel, rfl, tyX10_ok, nmX10, rfl, rfl⟩
theorem v_X10_72 : mvOk RX10 72 yX10_anew 1 := ⟨by decide +kernel, by decide +kernel, by decide +kernel, by decide +kernel⟩
theorem f_X10_76 : fldOk RX10 76 10 8 .boolean false := ⟨RX10, TX10, 28, tyX10, rfl, by decide, gd_ws inT10, by decide +kernel, rfl, tyX10_ok, nmX10, rfl, rfl⟩
theorem v_X10_80 : msOk RX10 80 yX10_in 3 := ⟨by decide +kernel, by decide +kernel, by decide +kernel, by decide +kernel⟩
theorem v_X10_84 : mvOk RX10 84 yX10_isConstant 1 := ⟨by decide +kernel, by decide +kernel, by decide +kernel, by decide +kernel⟩
theorem v_X10_88 : msOk RX10 88 yX10_atomAt 2 := ⟨by decide +kernel, by decide +kernel, by decide +kernel, by decide +kernel⟩
theorem v_X10_92 : mvOk RX10 92 yX10_isUsed 1 := ⟨by decide +kernel, by decide +kernel, by decide +kernel, by decide +kernel⟩
theorem v_X10_95 : mvOk RX10 95 yX10_isFact 3 := ⟨by decide +kernel, by decide +kernel, by decide +kernel, by decide +kernel⟩
theorem v_X10_98 : msOk RX10 98 yX10_factOf 3 := ⟨by decide +kernel, by decide +kernel, by decide +kernel, by decide +kernel⟩
theorem f_X10_102 : fldOk RX10 102 10 4 .int false := ⟨RX10, TX10, 28, tyX10, rfl, by decide, gd_ws inT10, by decide +kernel, rfl, tyX10_ok, nmX10, rfl, rfl⟩
theorem f_X10_106 : fldOk RX10 106 10 5 .int false := ⟨RX10, TX10, 28, tyX10, rfl, by decide, gd_ws inT10, by decide +kernel, rfl, tyX10_ok, nmX10, rfl, rfl⟩
theorem v_X10_109 : mvOk RX10 109 yX10_here 0 := ⟨by decide +kernel, by decide +kernel, by decide +kernel, by decide +kernel⟩
theorem v_X10_113 : mvOk RX10 113 yX10_takes 1 := ⟨by decide +kernel, by decide +kernel, by decide +kernel, by decide +kernel⟩
theorem v_X10_116 : mvOk RX10 116 yX10_isTerm 1 := ⟨by decide +kernel, by decide +kernel, by decide +kernel, by decide +kernel⟩
theorem f_X10_119 : fldOk RX10 119 10 7 .int false := ⟨RX10, TX10, 28, tyX10, rfl, by decide, gd_ws inT10, by decide +kernel, rfl, tyX10_ok, nmX10, rfl, rfl⟩
theorem v_X10_122 : mvOk RX10 122 yX10_isAtom 1 := ⟨by decide +kernel, by decide +kernel, by decide +kernel, by decide +kernel⟩
theorem v_X10_125 : mvOk RX10 125 yX10_isForm 0 := ⟨by decide +kernel, by decide +kernel, by decide +kernel, by decide +kernel⟩
theorem v_X10_129 : mvOk RX10 129 yX10_loose 0 := ⟨by decide +kernel, by decide +kernel, by decide +kernel, by decide +kernel⟩
theorem v_X10_132 : mvOk RX10 132 yX10_isText 0 := ⟨by decide +kernel, by decide +kernel, by decide +kernel, by decide +kernel⟩
theorem v_X10_135 : mvOk RX10 135 yX10_termOf 1 := ⟨by decide +kernel, by decide +kernel, by decide +kernel, by decide +kernel⟩
theorem v_X10_139 : mvOk RX10 139 yX10_factAt 2 := ⟨by decide +kernel, by decide +kernel, by decide +kernel, by decide +kernel⟩
theorem v_X10_142 : mvOk RX10 142 yX10_isBinding 2 := ⟨by decide +kernel, by decide +kernel, by decide +kernel, by decide +kernel⟩
theorem v_X10_146 : mvOk RX10 146 yX10_holds 2 := ⟨by decide +kernel, by decide +kernel, by decide +kernel, by decide +kernel⟩
theorem f_X10_150 : fldOk RX10 150 10 15 .int false := ⟨RX10, TX10, 28, tyX10, rfl, by decide, gd_ws inT10, by decide +kernel, rfl, tyX10_ok, nmX10, rfl, rfl⟩
theorem v_X10_153 : mvOk RX10 153 yX10_goes 2 := ⟨by decide +kernel, by decide +kernel, by decide +kernel, by decide +kernel⟩
theorem f_X10_157 : fldOk RX10 157 10 19 .int false := ⟨RX10, TX10, 28, tyX10, rfl, by decide, gd_ws inT10, by decide +kernel, rfl, tyX10_ok, nmX10, rfl, rfl⟩
theorem v_X10_160 : mvOk RX10 160 yX10_findStrata 0 := ⟨by decide +kernel, by decide +kernel, by decide +kernel, by decide +kernel⟩
theorem f_X10_163 : fldOk RX10 163 10 9 .boolean false := ⟨RX10, TX10, 28, tyX10, rfl, by decide, gd_ws inT10, by decide +kernel, rfl, tyX10_ok, nmX10, rfl, rfl⟩
theorem v_X10_166 : mvOk RX10 166 yX10_builds 2 := ⟨by decide +kernel, by decide +kernel, by decide +kernel, by decide +kernel⟩
theorem f_X10_170 : fldOk RX10 170 10 20 .int false := ⟨RX10, TX10, 28, tyX10, rfl, by decide, gd_ws inT10, by decide +kernel, rfl, tyX10_ok, nmX10, rfl, rfl⟩
theorem v_X10_173 : mvOk RX10 173 yX10_findHolding 0 := ⟨by decide +kernel, by decide +kernel, by decide +kernel, by decide +kernel⟩
theorem v_X10_176 : mvOk RX10 176 yX10_findCosts 0 := ⟨by decide +kernel, by decide +kernel, by decide +kernel, by decide +kernel⟩
theorem v_X10_179 : mvOk RX10 179 yX10_findLikelihoods 0 := ⟨by decide +kernel, by decide +kernel, by decide +kernel, by decide +kernel⟩
theorem v_X10_182 : mvOk RX10 182 yX10_findLeast 0 := ⟨by decide +kernel, by decide +kernel, by decide +kernel, by decide +kernel⟩
theorem v_X10_185 : mvOk RX10 185 yX10_finds 0 := ⟨by decide +kernel, by decide +kernel, by decide +kernel, by decide +kernel⟩
theorem v_X10_188 : msOk RX10 188 yX10_tally 3 := ⟨by decide +kernel, by decide +kernel, by decide +kernel, by decide +kernel⟩
theorem v_X10_192 : mvOk RX10 192 yX10_wrong 3 := ⟨by decide +kernel, by decide +kernel, by decide +kernel, by decide +kernel⟩
theorem v_X10_195 : mvOk RX10 195 yX10_instancesOf 1 := ⟨by decide +kernel, by decide +kernel, by decide +kernel, by decide +kernel⟩
theorem c_X10_198 : Cond.constant RX10 198 (1000001) ∈ lw_gd := by decide +kernel
theorem v_X10_199 : mvOk RX10 199 yX10_costBy 1 := ⟨by decide +kernel, by decide +kernel, by decide +kernel, by decide +kernel⟩
theorem c_X10_202 : Cond.constantFloat RX10 202 (3212836864) ∈ lw_gd := by decide +kernel
theorem c_X10_203 : Cond.constantFloat RX10 203 (1098907648) ∈ lw_gd := by decide +kernel
theorem v_X10_204 : mvOk RX10 204 yX10_likelyBy 1 := ⟨by decide +kernel, by decide +kernel, by decide +kernel, by decide +kernel⟩
theorem v_X10_208 : mvOk RX10 208 yX10_areSized 1 := ⟨by decide +kernel, by decide +kernel, by decide +kernel, by decide +kernel⟩
theorem v_X10_211 : mvOk RX10 211 yX10_sizes 2 := ⟨by decide +kernel, by decide +kernel, by decide +kernel, by decide +kernel⟩
theorem v_X10_221 : mvOk RX10 221 yX10_leastNow 2 := ⟨by decide +kernel, by decide +kernel, by decide +kernel, by decide +kernel⟩
theorem v_X10_224 : mvOk RX10 224 yX10_areDerived 1 := ⟨by decide +kernel, by decide +kernel, by decide +kernel, by decide +kernel⟩
theorem v_X10_227 : mvOk RX10 227 yX10_canDo 2 := ⟨by decide +kernel, by decide +kernel, by decide +kernel, by decide +kernel⟩
theorem v_X10_230 : mvOk RX10 230 yX10_cutOf 1 := ⟨by decide +kernel, by decide +kernel, by decide +kernel, by decide +kernel⟩
theorem c_X10_233 : Cond.constantLong RX10 233 (31) ∈ lw_gd := by decide +kernel
theorem c_X10_235 : Cond.constantLong RX10 235 (89) ∈ lw_gd := by decide +kernel
theorem v_X10_237 : msOk RX10 237 yX10_more 2 := ⟨by decide +kernel, by decide +kernel, by decide +kernel, by decide +kernel⟩


theorem v_X9_26 : mnOk RX9 "FactOrigins" 26 yX7_init 0 := ⟨by decide +kernel, by decide +kernel, by decide +kernel, by decide +kernel, by decide +kernel, by decide +kernel⟩
theorem v_X9_33 : mnOk RX9 "FactOrigins" 33 yX1_init 0 := ⟨by decide +kernel, by decide +kernel, by decide +kernel, by decide +kernel, by decide +kernel, by decide +kernel⟩
theorem v_X9_40 : mnOk RX9 "FactOrigins" 40 yX4_init 0 := ⟨by decide +kernel, by decide +kernel, by decide +kernel, by decide +kernel, by decide +kernel, by decide +kernel⟩
theorem v_X9_47 : mnOk RX9 "FactOrigins" 47 yX2_init 0 := ⟨by decide +kernel, by decide +kernel, by decide +kernel, by decide +kernel, by decide +kernel, by decide +kernel⟩
theorem v_X9_54 : mnOk RX9 "FactOrigins" 54 yX0_init 0 := ⟨by decide +kernel, by decide +kernel, by decide +kernel, by decide +kernel, by decide +kernel, by decide +kernel⟩
theorem v_X9_61 : mnOk RX9 "FactOrigins" 61 yX3_init 0 := ⟨by decide +kernel, by decide +kernel, by decide +kernel, by decide +kernel, by decide +kernel, by decide +kernel⟩
theorem v_X1_112 : mqOk RX1 "FactOrigins" 112 yX9_atomNumber 3 := ⟨by decide +kernel, by decide +kernel, by decide +kernel, by decide +kernel, by decide +kernel⟩
theorem v_X5_40 : mnOk RX5 "FactOrigins" 40 yX6_init 0 := ⟨by decide +kernel, by decide +kernel, by decide +kernel, by decide +kernel, by decide +kernel, by decide +kernel⟩
theorem v_X5_57 : mqOk RX5 "FactOrigins" 57 yX9_isPredicate 1 := ⟨by decide +kernel, by decide +kernel, by decide +kernel, by decide +kernel, by decide +kernel⟩
theorem v_X7_17 : mnOk RX7 "FactOrigins" 17 yX6_init 0 := ⟨by decide +kernel, by decide +kernel, by decide +kernel, by decide +kernel, by decide +kernel, by decide +kernel⟩
theorem v_X7_55 : mqOk RX7 "FactOrigins" 55 yX9_isPredicate 1 := ⟨by decide +kernel, by decide +kernel, by decide +kernel, by decide +kernel, by decide +kernel⟩
end
section
/-! THE WORLD BY NUMBERS: every cell has a number; cell k lies at base + k. A value's '.ref k' is the cell k. -/
abbrev MC : Type := (FieldType × vp_A) ⊕ (Nat × List Value)
abbrev MLs : Type := List (Nat × MC)
abbrev MG : Type := va_G × Nat × (FieldType → ClassId)
def cvA (b : Nat) : vp_A → vp_A
  | (n, .inr (.inr (.inr (.inr f)))) => (n, .inr (.inr (.inr (.inr (fun j => (f j).map (fun k => b + k))))))
  | (n, .inl f) => (n, .inl f)
  | (n, .inr (.inl f)) => (n, .inr (.inl f))
  | (n, .inr (.inr (.inl f))) => (n, .inr (.inr (.inl f)))
  | (n, .inr (.inr (.inr (.inl f)))) => (n, .inr (.inr (.inr (.inl f))))
def cvC (b : Nat) (tyC : FieldType → ClassId) : MC → va_E
  | .inl a => .inl (tyC a.1, cvA b a.2)
  | .inr o => .inr (o.1, o.2.map (cvV b))
theorem nbf {a b : Nat} (h : ¬ a = b) : Nat.beq a b = false := by
  cases e : Nat.beq a b
  · rfl
  · exact absurd (Nat.eq_of_beq_eq_true e) h
def mlk : MLs → Nat → Option MC
  | [], _ => none
  | q :: t, k => bif Nat.beq q.1 k then some q.2 else mlk t k
def mov (l : MLs) (h : Nat → MC) (k : Nat) : MC := match mlk l k with
  | some c => c
  | none => h k
def mput : MLs → Nat → MC → MLs
  | [], k, c => [(k, c)]
  | q :: t, k, c => bif Nat.beq q.1 k then (k, c) :: t else q :: mput t k c
def mputs (l : MLs) : MLs → MLs
  | [] => l
  | q :: t => mput (mputs l t) q.1 q.2
def hset (h : Nat → MC) (k : Nat) (c : MC) : Nat → MC := fun j => if j = k then c else h j
def mws (G : MG) (h : Nat → MC) (n : Nat) : va_W := (List.range n).map (fun k => (G.2.1 + k, cvC G.2.1 G.2.2 (h k)))
def mtys : List FieldType := [.int, .boolean, .long, .float, .object RX5, .object RX6]
def mTT (G : MG) : List (ClassId × FieldType) := mtys.map (fun ty => (G.2.2 ty, ty))
def mlkv : List (Nat × Value) → Nat → Option Value
  | [], _ => none
  | q :: t, i => bif Nat.beq q.1 i then some q.2 else mlkv t i
def cvL (b : Nat) (L : List (Nat × Value)) : List (Nat × Value) := L.map (fun q => (q.1, cvV b q.2))
def mst (L : List (Nat × Value)) (i : Nat) (v : Value) : List (Nat × Value) := (i, v) :: L.filter (fun q => !(q.1 == i) && !(q.1 + 1 == i && q.2.category == 2))
def mst2 (L : List (Nat × Value)) (i : Nat) (v : Value) : List (Nat × Value) := (i, v) :: L.filter (fun q => !(q.1 == i) && (!(q.1 == i + 1) && !(q.1 + 1 == i && q.2.category == 2)))
theorem mlk_put (l : MLs) (k : Nat) (c : MC) (j : Nat) : mlk (mput l k c) j = if j = k then some c else mlk l j := by
  induction l with
  | nil =>
    by_cases h : j = k
    · subst h; simp [mput, mlk]
    · have : Nat.beq k j = false := nbf (fun e => h e.symm)
      simp [mput, mlk, this, h]
  | cons q t ih =>
    by_cases hq : q.1 = k
    · have e : Nat.beq q.1 k = true := by simp [hq]
      simp only [mput, e, cond_true, mlk]
      by_cases h : j = k
      · subst h; simp
      · have e2 : Nat.beq k j = false := nbf (fun e => h e.symm)
        have e3 : Nat.beq q.1 j = false := by rw [hq]; exact e2
        simp [e2, e3, h]
    · have e : Nat.beq q.1 k = false := nbf hq
      simp only [mput, e, cond_false, mlk, ih]
      by_cases h : j = k
      · subst h; simp [e]
      · simp [h]
theorem mlk_puts (l : MLs) (l1 : MLs) (j : Nat) : mlk (mputs l l1) j = match mlk l1 j with | some c => some c | none => mlk l j := by
  induction l1 with
  | nil => simp [mputs, mlk]
  | cons q t ih =>
    simp only [mputs, mlk_put, mlk]
    by_cases h : j = q.1
    · subst h; simp
    · have e : Nat.beq q.1 j = false := nbf (fun e => h e.symm)
      simp [e, h, ih]
theorem mov_put (l : MLs) (h : Nat → MC) (k : Nat) (c : MC) : mov (mput l k c) h = hset (mov l h) k c := by
  funext j
  simp only [mov, mlk_put, hset]
  by_cases e : j = k
  · simp [e]
  · simp [e]
theorem mov_puts (l : MLs) (h : Nat → MC) (l1 : MLs) : mov (mputs l l1) h = mov l1 (mov l h) := by
  funext j
  simp only [mov, mlk_puts]
  cases mlk l1 j <;> rfl
theorem mov_lk {l : MLs} {h : Nat → MC} {k : Nat} {c : MC} (e : mlk l k = some c) : mov l h k = c := by simp [mov, e]
/-- a part of a world, laid over it, is the world -/
theorem mov_sub {l lc : MLs} (h : Nat → MC) (hs : ∀ q ∈ lc, mlk l q.1 = some q.2) : mov lc (mov l h) = mov l h := by
  funext j
  have hm : ∀ (lc : MLs) (c : MC), mlk lc j = some c → (j, c) ∈ lc := by
    intro lc
    induction lc with
    | nil => intro c e; simp [mlk] at e
    | cons q t ih =>
      intro c e
      by_cases hq : q.1 = j
      · have e1 : Nat.beq q.1 j = true := by simp [hq]
        simp only [mlk, e1, cond_true] at e
        cases e
        rw [← hq]
        exact List.mem_cons_self
      · have e1 : Nat.beq q.1 j = false := nbf hq
        simp only [mlk, e1, cond_false] at e
        exact List.mem_cons_of_mem _ (ih c e)
  cases e : mlk lc j with
  | none => simp [mov, e]
  | some c =>
    have h1 := hs _ (hm lc c e)
    simp [mov, e, h1]
theorem mlk_mem {l : MLs} {j : Nat} {c : MC} (e : mlk l j = some c) : (j, c) ∈ l := by
  induction l with
  | nil => simp [mlk] at e
  | cons q t ih =>
    by_cases hq : q.1 = j
    · have e1 : Nat.beq q.1 j = true := by simp [hq]
      simp only [mlk, e1, cond_true] at e
      cases e
      rw [← hq]
      exact List.mem_cons_self
    · have e1 : Nat.beq q.1 j = false := nbf hq
      simp only [mlk, e1, cond_false] at e
      exact List.mem_cons_of_mem _ (ih e)
theorem mws_get (G : MG) (h : Nat → MC) {n k : Nat} (hk : k < n) : (mws G h n)[k]? = some (G.2.1 + k, cvC G.2.1 G.2.2 (h k)) := by simp [mws, hk]
theorem mws_lt {G : MG} {h : Nat → MC} {n k : Nat} {q : Nat × va_E} (e : (mws G h n)[k]? = some q) : k < n ∧ q = (G.2.1 + k, cvC G.2.1 G.2.2 (h k)) := by
  have hk : k < n := by
    have := (List.getElem?_eq_some_iff.mp e).1
    simpa [mws] using this
  rw [mws_get G h hk] at e
  exact ⟨hk, (Option.some.inj e).symm⟩
theorem mws_set (G : MG) (h : Nat → MC) (n k : Nat) (c : MC) : (mws G h n).set k (G.2.1 + k, cvC G.2.1 G.2.2 c) = mws G (hset h k c) n := by
  apply List.ext_getElem?
  intro i
  by_cases hi : i < n
  · rw [mws_get G _ hi]
    by_cases e : i = k
    · subst e
      rw [List.getElem?_set_self (by simpa [mws] using hi)]
      simp [hset]
    · rw [List.getElem?_set_ne (fun q => e q.symm), mws_get G _ hi]
      simp [hset, e]
  · rw [List.getElem?_eq_none (by simpa [mws] using hi), List.getElem?_eq_none (by simpa [mws] using hi)]
theorem mws_push (G : MG) (h : Nat → MC) (n : Nat) (c : MC) : mws G h n ++ [(G.2.1 + n, cvC G.2.1 G.2.2 c)] = mws G (hset h n c) (n + 1) := by
  apply List.ext_getElem?
  intro i
  by_cases hi : i < n
  · rw [List.getElem?_append_left (by simpa [mws] using hi), mws_get G _ hi, mws_get G _ (Nat.lt_succ_of_lt hi)]
    simp [hset, Nat.ne_of_lt hi]
  · by_cases e : i = n
    · subst e
      rw [List.getElem?_append_right (by simp [mws]), mws_get G _ (Nat.lt_succ_self _)]
      simp [mws, hset]
    · rw [List.getElem?_eq_none (by simp [mws]; omega), List.getElem?_eq_none (by simp [mws]; omega)]
theorem mws_D (G : MG) (h : Nat → MC) (n : Nat) : va_D (fun q => G.2.1 ≤ q) (mws G h n) := by
  refine ⟨fun i j p q hi hj e => ?_, fun k q hk => ?_⟩
  · obtain ⟨-, rfl⟩ := mws_lt hi
    obtain ⟨-, rfl⟩ := mws_lt hj
    exact Nat.add_left_cancel e
  · obtain ⟨-, rfl⟩ := mws_lt hk
    exact Nat.le_add_right _ _
theorem cvV_cat (b : Nat) (v : Value) : (cvV b v).category = v.category := by cases v <;> rfl
theorem cvV_rf (b : Nat) (r : Option Nat) : cvV b (va_rf r) = va_rf (r.map (fun k => b + k)) := by cases r <;> rfl
theorem mlkv_mem {L : List (Nat × Value)} {i : Nat} {v : Value} (e : mlkv L i = some v) : (i, v) ∈ L := by
  induction L with
  | nil => simp [mlkv] at e
  | cons q t ih =>
    by_cases hq : q.1 = i
    · have e1 : Nat.beq q.1 i = true := by simp [hq]
      simp only [mlkv, e1, cond_true] at e
      cases e
      rw [← hq]
      exact List.mem_cons_self
    · have e1 : Nat.beq q.1 i = false := nbf hq
      simp only [mlkv, e1, cond_false] at e
      exact List.mem_cons_of_mem _ (ih e)
theorem mat {ls : Array Slot} {n b : Nat} {L : List (Nat × Value)} (h : lv_has ls n (cvL b L)) {i : Nat} {v : Value} (e : mlkv L i = some v) : ls[i]? = some (.val (cvV b v)) :=
  h.2.2 (i, cvV b v) (List.mem_map.mpr ⟨(i, v), mlkv_mem e, rfl⟩)
theorem cvL_filter (b : Nat) (L : List (Nat × Value)) (f : Nat × Value → Bool) (hf : ∀ q, f (q.1, cvV b q.2) = f q) : (cvL b L).filter f = cvL b (L.filter f) := by
  induction L with
  | nil => rfl
  | cons q t ih =>
    show List.filter f ((q.1, cvV b q.2) :: cvL b t) = _
    by_cases h : f q = true
    · rw [List.filter_cons_of_pos (by rw [hf]; exact h), List.filter_cons_of_pos h, ih]
      rfl
    · rw [List.filter_cons_of_neg (by rw [hf]; exact h), List.filter_cons_of_neg h, ih]
theorem mst_cv (b : Nat) (L : List (Nat × Value)) (i : Nat) (v : Value) : (i, cvV b v) :: (cvL b L).filter (fun q => !(q.1 == i) && !(q.1 + 1 == i && q.2.category == 2)) = cvL b (mst L i v) := by
  rw [cvL_filter b L _ (fun q => by simp [cvV_cat])]
  rfl
theorem mst2_cv (b : Nat) (L : List (Nat × Value)) (i : Nat) (v : Value) : (i, cvV b v) :: (cvL b L).filter (fun q => !(q.1 == i) && (!(q.1 == i + 1) && !(q.1 + 1 == i && q.2.category == 2))) = cvL b (mst2 L i v) := by
  rw [cvL_filter b L _ (fun q => by simp [cvV_cat])]
  rfl
theorem cvL_has {ls : Array Slot} {n b : Nat} {L L2 : List (Nat × Value)} (h : lv_has ls n (cvL b L)) (hs : L2.map (fun q => mlkv L q.1) = L2.map (fun q => some q.2)) : lv_has ls n (cvL b L2) := by
  refine ⟨h.1, h.2.1, fun q hq => ?_⟩
  obtain ⟨q0, h0, rfl⟩ := List.mem_map.mp hq
  have e : mlkv L q0.1 = some q0.2 := by
    have := List.map_inj_left.mp hs q0 h0
    exact this
  exact mat h e
theorem lv_args_cv (b : Nat) : ∀ (vs : List Value) (i : Nat), lv_args i (vs.map (cvV b)) = cvL b (lv_args i vs)
  | [], _ => rfl
  | v :: vs, i => by
    show (i, cvV b v) :: lv_args (if (cvV b v).category = 2 then i + 2 else i + 1) (vs.map (cvV b)) = (i, cvV b v) :: cvL b (lv_args (if v.category = 2 then i + 2 else i + 1) vs)
    rw [cvV_cat, lv_args_cv b vs]
theorem lg_sl_cv (b : Nat) (vs : List Value) : (lg_sl (vs.map (cvV b))).length = (lg_sl vs).length := by
  induction vs with
  | nil => rfl
  | cons v vs ih =>
    have h : ∀ (a : Value) (t : List Value), lg_sl (a :: t) = lg_sl [a] ++ lg_sl t := fun a t => by simp [lg_sl]
    rw [List.map_cons, h, h v, List.length_append, List.length_append, ih]
    congr 1
    cases v <;> rfl
theorem cat_sum_cv (b : Nat) (vs : List Value) : ((vs.map (cvV b)).map fun v => v.category).sum = (vs.map fun v => v.category).sum := by
  rw [List.map_map]
  congr 1
  apply List.map_congr_left
  intro v _
  exact cvV_cat b v
/-- the base's length of the tables: what is known of the classes -/
def mK (G : MG) (U : State) : Prop := va_K G.1 vwCl (mTT G) U ∧ (∀ w ∈ lw_nest, va_Nw w U) ∧ va_AO RX5 U ∧ va_AO RX6 U
theorem mK.moved {G : MG} {u U : State} (hvm : u.WarmedH U.vm) (h : mK G u) : mK G U := by
  refine ⟨va_K.moved hvm.alike h.1, fun w hw => ?_, va_AO.moved hvm.alike h.2.2.1, va_AO.moved hvm.alike h.2.2.2⟩
  have h1 := h.2.1 w hw
  have h2 : isNest w = true := (List.mem_filter.mp hw).2
  cases w <;> first | (cases h2; done) | exact va_Nw.warmM hvm h1
theorem mK.same {G : MG} {u U : State} (hvm : u.vm = U.vm) (h : mK G u) : mK G U := mK.moved (by rw [← hvm]; exact State.WarmedH.refl u) h
/-- what stands at a number that no cell has yet -/
abbrev dead : MC := .inr (99, [])
/-- the world: the cells 0 .. n - 1 stand at base .. base + n - 1 -/
def mWd (G : MG) (h : Nat → MC) (n : Nat) (H : Heap) : Prop := (∀ k, n ≤ k → h k = dead) ∧ va_P G.1 vwCl (mws G h n) H
abbrev mA (G : MG) : Nat → Prop := fun q => G.2.1 ≤ q
def mroom (d mc ms : Nat) : Room := { frames := d, cells := mc, slots := ms, locals := 31 * d }
def fnd : List (Nat × Instr × Nat × Nat × Nat) → Nat → Option (Instr × Nat × Nat × Nat)
  | [], _ => none
  | q :: t, pc => bif Nat.beq q.1 pc then some q.2 else fnd t pc
def fch (M : MI) (pc : Nat) : Option (Instr × Nat × Nat × Nat) := fnd M.2.2.2.2 pc
theorem fnd_mem : ∀ {t : List (Nat × Instr × Nat × Nat × Nat)} {pc : Nat} {r : Instr × Nat × Nat × Nat}, fnd t pc = some r → (pc, r) ∈ t
  | [], _, _, e => by simp [fnd] at e
  | q :: t, pc, r, e => by
    by_cases hq : q.1 = pc
    · have e1 : Nat.beq q.1 pc = true := by simp [hq]
      simp only [fnd, e1, cond_true] at e
      cases e
      rw [← hq]
      exact List.mem_cons_self
    · have e1 : Nat.beq q.1 pc = false := nbf hq
      simp only [fnd, e1, cond_false] at e
      exact List.mem_cons_of_mem _ (fnd_mem e)
theorem fch_ok {M : MI} (hM : mi_ok M) {pc : Nat} {i : Instr} {len nx tg : Nat} (e : fch M pc = some (i, len, nx, tg)) : decode M.2.1 pc = .ok (i, len) ∧ nx = pc + len ∧ tgOk pc i tg = true := by
  have h := List.all_eq_true.mp hM.1 _ (fnd_mem e)
  simp only [entOk, Bool.and_eq_true, decide_eq_true_eq] at h
  exact h
/-- what stays the same through a method's run -/
def MX (M : MI) (G : MG) (n0 : Nat) (p : Program) (s : State) (m : MethodId) (args : Array Value) (meth : Method) (c : Code) : Prop :=
  mi_ok M ∧ p.tables.exec = Jvm.exec ∧ c.code = M.2.1 ∧ meth.sig.returnType = M.2.2.2.1 ∧ meth.locks = false ∧ c.maxLocals = M.2.2.1 ∧ s.vm.findClass M.1.cls = some m.cls ∧ meth.name = M.1.name ∧ (∀ w ∈ lw_gd, w.before args s = true) ∧ mK G s ∧ s.heap.size = G.2.1 + n0
theorem MX.hA {M : MI} {G : MG} {n0 : Nat} {p : Program} {s : State} {m : MethodId} {args : Array Value} {meth : Method} {c : Code} (X : MX M G n0 p s m args meth c) : ∀ q, s.heap.size ≤ q → mA G q := fun q h => by
  have := X.2.2.2.2.2.2.2.2.2.2
  show G.2.1 ≤ q
  omega
/-- a method's end: the answer and the cells are as 'post' says -/
def MQc (G : MG) (n1 : Nat) (post : Option Value → (Nat → MC) → Prop) : Array Value → State → Outcome → State → Prop := fun _ st o t =>
  (∃ (r : Option Value) (h1 : Nat → MC), o = .returned (r.map (cvV G.2.1)) ∧ post r h1 ∧ mWd G h1 n1 t.heap ∧ mK G t) ∧ va_F (mA G) st t
/-- THE JUDGEMENT: a method stands at pc with these locals, this stack and these cells; it comes to its end with 'post' -/
def MW (M : MI) (d mc ms n0 : Nat) (post : Option Value → (Nat → MC) → Prop) (pc : Nat) (L : List (Nat × Value)) (S : List Value) (h : Nat → MC) (n sl : Nat) : Prop :=
  ∀ (G : MG) (p : Program) (lc : Launch) (e : Env) (s : State) (m : MethodId) (args : Array Value) (below : List Frame) (meth : Method) (c : Code), MX M G n0 p s m args meth c →
  ∀ (H : Heap) (locs : List Loc) (ls : Array Slot), n0 ≤ n → mWd G h n H → va_S (mA G) s.heap H locs → lv_has ls M.2.2.1 (cvL G.2.1 L) →
    W p lc e (mroom d mc ms) s m args below meth c H locs (n - n0) sl (MQ below (MQc G (n0 + mc) post) args s mc ms (mA G)) (F0 m pc ls (S.map (cvV G.2.1)))
/-- a method's contract -/
def Sp (M : MI) (d mc ms : Nat) (av : List Value) (h : Nat → MC) (n : Nat) (post : Option Value → (Nat → MC) → Prop) : Prop := MW M d mc ms n post 0 (lv_args 0 av) [] h n 0
def wsM (M : MI) : List Cond := Cond.code M.1 M.2.1 M.2.2.1 M.2.2.2.1 :: lw_gd
theorem Sp.met {M : MI} {d mc ms : Nat} {av : List Value} {h : Nat → MC} {n : Nat} {post : Option Value → (Nat → MC) → Prop} (hsp : Sp M d mc ms av h n post) (hok : mi_ok M) (hlen : (lg_sl av).length ≤ M.2.2.1) (lc : Launch) (G : MG) :
    Met lc M.1 (wsM M) (mroom d mc ms) (va_Pc (av.map (cvV G.2.1)) (fun U => mK G U ∧ mWd G h n U.heap ∧ U.heap.size = G.2.1 + n)) (MQc G (n + mc) post) mc ms (mA G) := by
  refine Met.ofW (cc := M.2.1) (maxL := M.2.2.1) (ret := M.2.2.2.1) hok.2.1 rfl ?_
  intro p e s m args below meth c s₁ B hml hv
  obtain ⟨rfl, hK, hW, hz⟩ := hv
  have hts := atoms_spec (ws := wsM M) B.pre
  have hl := lv_entry (av.map (cvV G.2.1)) (n := M.2.2.1) (by rw [lg_sl_cv]; exact hlen)
  rw [lg_entry_eq]
  rw [lv_args_cv] at hl
  have X : MX M G n p s m (av.map (cvV G.2.1)).toArray meth c := ⟨hok, B.exec, B.bytes, B.returns, B.notSynchronized, hml, findClass_of_methodNamed B.named, (name_of_methodNamed B.named B.method).1, fun w hw => hts w (List.mem_cons_of_mem _ hw), hK, hz⟩
  have h1 := hsp G p lc e s m _ below meth c X s.heap [] _ (Nat.le_refl _) hW va_S.rf hl
  rw [Nat.sub_self] at h1
  exact h1
/-- at every state of a method's run: the heap's size is known -/
theorem mw_sz {M : MI} {G : MG} {n0 n sl : Nat} {p : Program} {lc : Launch} {e : Env} {R : Room} {s T : State} {m : MethodId} {args : Array Value} {below : List Frame} {meth : Method} {c : Code} {H : Heap} {locs : List Loc} {h : Nat → MC}
    (X : MX M G n0 p s m args meth c) (hn : n0 ≤ n) (hW : mWd G h n H) (hT : T.heap = H) (hX : Stand p lc e R s m args below meth c T locs (n - n0) sl) : H.size = G.2.1 + n := by
  have h1 : T.heap.size ≤ s.heap.size + (n - n0) := hX.same.2.2.1
  have h2 : s.heap.size ≤ T.heap.size := hX.same.2.1
  have h3 := X.2.2.2.2.2.2.2.2.2.2
  rw [hT] at h1 h2
  by_cases hz : n = 0
  · omega
  · have hlt := (hW.2 (n - 1) _ (mws_get G _ (by omega))).lt
    have h4 : G.2.1 + (n - 1) < H.size := hlt
    omega
theorem mWd.put {G : MG} {h : Nat → MC} {n : Nat} {H H1 : Heap} (hW : mWd G h n H) {a : Nat} (c1 : MC) (ha : a < n) (hP : va_P G.1 vwCl ((mws G h n).set a (G.2.1 + a, cvC G.2.1 G.2.2 c1)) H1) : mWd G (hset h a c1) n H1 := by
  refine ⟨fun k hk => ?_, by rw [← mws_set]; exact hP⟩
  have e : ¬ k = a := by omega
  show (if k = a then c1 else h k) = dead
  rw [if_neg e]
  exact hW.1 k hk
theorem mWd.lt {G : MG} {h : Nat → MC} {n : Nat} {H : Heap} (hW : mWd G h n H) {a : Nat} {c0 : MC} (hc : h a = c0) (hd : c0 ≠ dead) : a < n := by
  rcases Nat.lt_or_ge a n with q | q
  · exact q
  · exact absurd (hc.symm.trans (hW.1 a q)) hd
theorem mWd.at {G : MG} {h : Nat → MC} {n : Nat} {H : Heap} (hW : mWd G h n H) {a : Nat} {c0 : MC} (hc : h a = c0) (hd : c0 ≠ dead) : (mws G h n)[a]? = some (G.2.1 + a, cvC G.2.1 G.2.2 c0) := by
  have h1 := mws_get G h (hW.lt hc hd)
  rw [hc] at h1
  exact h1
theorem dead_l {x : FieldType × vp_A} : (.inl x : MC) ≠ dead := fun h => by cases h
theorem dead_r {ci kf : Nat} {fs : List Value} {v : Value} (hv : fs[kf]? = some v) : (.inr (ci, fs) : MC) ≠ dead := fun h => by
  cases h
  cases hv
theorem dead_k {ci kf : Nat} {fs : List Value} (hv : kf < fs.length) : (.inr (ci, fs) : MC) ≠ dead := fun h => by
  cases h
  cases hv
end
section
section MWOPS
variable {M : MI} {d mc ms n0 : Nat} {post : Option Value → (Nat → MC) → Prop} {pc : Nat} {L : List (Nat × Value)} {S : List Value} {h : Nat → MC} {n sl : Nat}

theorem mw_iconst {nx tg : Nat} {i : Int} {v : Int32} (hf : fch M pc = some (.iconst i, 1, nx, tg)) (hv : Int32.ofInt i = v) (k : MW M d mc ms n0 post nx L (.int v :: S) (h) (n) (sl)) : MW M d mc ms n0 post pc L (S) (h) (n) (sl) := by
  intro G p lc e s m args below meth c X H locs ls hn hW hS hl
  obtain ⟨hdg, rfl, htg⟩ := fch_ok X.1 hf
  have hx := X.2.1
  have hb := X.2.2.1
  exact lv_iconst hx hb hdg hv (k G p lc e s m args below meth c X H locs ls hn hW hS hl)

theorem mw_bipush {nx tg : Nat} {i : Int} {v : Int32} (hf : fch M pc = some (.bipush i, 2, nx, tg)) (hv : (Int8.ofInt i).toInt32 = v) (k : MW M d mc ms n0 post nx L (.int v :: S) (h) (n) (sl)) : MW M d mc ms n0 post pc L (S) (h) (n) (sl) := by
  intro G p lc e s m args below meth c X H locs ls hn hW hS hl
  obtain ⟨hdg, rfl, htg⟩ := fch_ok X.1 hf
  have hx := X.2.1
  have hb := X.2.2.1
  exact lv_bipush hx hb hdg hv (k G p lc e s m args below meth c X H locs ls hn hW hS hl)

theorem mw_sipush {nx tg : Nat} {i : Int} {v : Int32} (hf : fch M pc = some (.sipush i, 3, nx, tg)) (hv : (Int16.ofInt i).toInt32 = v) (k : MW M d mc ms n0 post nx L (.int v :: S) (h) (n) (sl)) : MW M d mc ms n0 post pc L (S) (h) (n) (sl) := by
  intro G p lc e s m args below meth c X H locs ls hn hW hS hl
  obtain ⟨hdg, rfl, htg⟩ := fch_ok X.1 hf
  have hx := X.2.1
  have hb := X.2.2.1
  exact lv_sipush hx hb hdg hv (k G p lc e s m args below meth c X H locs ls hn hW hS hl)

theorem mw_lconst {nx tg : Nat} {i : Fin 2} {v : Int64} (hf : fch M pc = some (.lconst i, 1, nx, tg)) (hv : Int64.ofNat (i : Nat) = v) (k : MW M d mc ms n0 post nx L (.long v :: S) (h) (n) (sl)) : MW M d mc ms n0 post pc L (S) (h) (n) (sl) := by
  intro G p lc e s m args below meth c X H locs ls hn hW hS hl
  obtain ⟨hdg, rfl, htg⟩ := fch_ok X.1 hf
  have hx := X.2.1
  have hb := X.2.2.1
  exact lv_lconst hx hb hdg hv (k G p lc e s m args below meth c X H locs ls hn hW hS hl)

theorem mw_fconst0 {nx tg : Nat}  (hf : fch M pc = some (.fconst 0, 1, nx, tg))  (k : MW M d mc ms n0 post nx L (.float FP.fconst0 :: S) (h) (n) (sl)) : MW M d mc ms n0 post pc L (S) (h) (n) (sl) := by
  intro G p lc e s m args below meth c X H locs ls hn hW hS hl
  obtain ⟨hdg, rfl, htg⟩ := fch_ok X.1 hf
  have hx := X.2.1
  have hb := X.2.2.1
  exact lv_fconst0 hx hb hdg (k G p lc e s m args below meth c X H locs ls hn hW hS hl)

theorem mw_fconst1 {nx tg : Nat}  (hf : fch M pc = some (.fconst 1, 1, nx, tg))  (k : MW M d mc ms n0 post nx L (.float FP.fconst1 :: S) (h) (n) (sl)) : MW M d mc ms n0 post pc L (S) (h) (n) (sl) := by
  intro G p lc e s m args below meth c X H locs ls hn hW hS hl
  obtain ⟨hdg, rfl, htg⟩ := fch_ok X.1 hf
  have hx := X.2.1
  have hb := X.2.2.1
  exact lv_fconst1 hx hb hdg (k G p lc e s m args below meth c X H locs ls hn hW hS hl)

theorem mw_fconst2 {nx tg : Nat}  (hf : fch M pc = some (.fconst 2, 1, nx, tg))  (k : MW M d mc ms n0 post nx L (.float FP.fconst2 :: S) (h) (n) (sl)) : MW M d mc ms n0 post pc L (S) (h) (n) (sl) := by
  intro G p lc e s m args below meth c X H locs ls hn hW hS hl
  obtain ⟨hdg, rfl, htg⟩ := fch_ok X.1 hf
  have hx := X.2.1
  have hb := X.2.2.1
  exact lv_fconst2 hx hb hdg (k G p lc e s m args below meth c X H locs ls hn hW hS hl)

theorem mw_iload_n {nx tg : Nat} {q : Fin 4} {i : Nat} {x : Int32} (hf : fch M pc = some (.iload_n q, 1, nx, tg)) (hi : (q : Nat) = i) (hv : mlkv L i = some (.int x)) (k : MW M d mc ms n0 post nx L (.int x :: S) (h) (n) (sl)) : MW M d mc ms n0 post pc L (S) (h) (n) (sl) := by
  intro G p lc e s m args below meth c X H locs ls hn hW hS hl
  obtain ⟨hdg, rfl, htg⟩ := fch_ok X.1 hf
  have hx := X.2.1
  have hb := X.2.2.1
  exact lv_iload_n hx hb hdg hi (mat hl hv) (k G p lc e s m args below meth c X H locs ls hn hW hS hl)

theorem mw_iload {nx tg : Nat} {i : Nat} {x : Int32} (hf : fch M pc = some (.iload i, 2, nx, tg)) (hv : mlkv L i = some (.int x)) (k : MW M d mc ms n0 post nx L (.int x :: S) (h) (n) (sl)) : MW M d mc ms n0 post pc L (S) (h) (n) (sl) := by
  intro G p lc e s m args below meth c X H locs ls hn hW hS hl
  obtain ⟨hdg, rfl, htg⟩ := fch_ok X.1 hf
  have hx := X.2.1
  have hb := X.2.2.1
  exact lv_iload hx hb hdg (mat hl hv) (k G p lc e s m args below meth c X H locs ls hn hW hS hl)

theorem mw_istore_n {nx tg : Nat} {q : Fin 4} {i : Nat} {x : Int32} (hf : fch M pc = some (.istore_n q, 1, nx, tg)) (hi : (q : Nat) = i) (hL : i < M.2.2.1) (k : MW M d mc ms n0 post nx (mst L i (.int x)) (S) (h) (n) (sl)) : MW M d mc ms n0 post pc L (.int x :: S) (h) (n) (sl) := by
  intro G p lc e s m args below meth c X H locs ls hn hW hS hl
  obtain ⟨hdg, rfl, htg⟩ := fch_ok X.1 hf
  have hx := X.2.1
  have hb := X.2.2.1
  exact lv_istore_n hx hb hdg hi hl hL (mst_cv G.2.1 L i (.int x)) (fun ls1 hl1 => k G p lc e s m args below meth c X H locs ls1 hn hW hS hl1)

theorem mw_istore {nx tg : Nat} {i : Nat} {x : Int32} (hf : fch M pc = some (.istore i, 2, nx, tg)) (hL : i < M.2.2.1) (k : MW M d mc ms n0 post nx (mst L i (.int x)) (S) (h) (n) (sl)) : MW M d mc ms n0 post pc L (.int x :: S) (h) (n) (sl) := by
  intro G p lc e s m args below meth c X H locs ls hn hW hS hl
  obtain ⟨hdg, rfl, htg⟩ := fch_ok X.1 hf
  have hx := X.2.1
  have hb := X.2.2.1
  exact lv_istore hx hb hdg hl hL (mst_cv G.2.1 L i (.int x)) (fun ls1 hl1 => k G p lc e s m args below meth c X H locs ls1 hn hW hS hl1)

theorem mw_lload_n {nx tg : Nat} {q : Fin 4} {i : Nat} {x : Int64} (hf : fch M pc = some (.lload_n q, 1, nx, tg)) (hi : (q : Nat) = i) (hv : mlkv L i = some (.long x)) (k : MW M d mc ms n0 post nx L (.long x :: S) (h) (n) (sl)) : MW M d mc ms n0 post pc L (S) (h) (n) (sl) := by
  intro G p lc e s m args below meth c X H locs ls hn hW hS hl
  obtain ⟨hdg, rfl, htg⟩ := fch_ok X.1 hf
  have hx := X.2.1
  have hb := X.2.2.1
  exact lv_lload_n hx hb hdg hi (mat hl hv) (k G p lc e s m args below meth c X H locs ls hn hW hS hl)

theorem mw_lload {nx tg : Nat} {i : Nat} {x : Int64} (hf : fch M pc = some (.lload i, 2, nx, tg)) (hv : mlkv L i = some (.long x)) (k : MW M d mc ms n0 post nx L (.long x :: S) (h) (n) (sl)) : MW M d mc ms n0 post pc L (S) (h) (n) (sl) := by
  intro G p lc e s m args below meth c X H locs ls hn hW hS hl
  obtain ⟨hdg, rfl, htg⟩ := fch_ok X.1 hf
  have hx := X.2.1
  have hb := X.2.2.1
  exact lv_lload hx hb hdg (mat hl hv) (k G p lc e s m args below meth c X H locs ls hn hW hS hl)

theorem mw_lstore_n {nx tg : Nat} {q : Fin 4} {i : Nat} {x : Int64} (hf : fch M pc = some (.lstore_n q, 1, nx, tg)) (hi : (q : Nat) = i) (hL : i + 1 < M.2.2.1) (k : MW M d mc ms n0 post nx (mst2 L i (.long x)) (S) (h) (n) (sl)) : MW M d mc ms n0 post pc L (.long x :: S) (h) (n) (sl) := by
  intro G p lc e s m args below meth c X H locs ls hn hW hS hl
  obtain ⟨hdg, rfl, htg⟩ := fch_ok X.1 hf
  have hx := X.2.1
  have hb := X.2.2.1
  exact lv_lstore_n hx hb hdg hi hl hL (mst2_cv G.2.1 L i (.long x)) (fun ls1 hl1 => k G p lc e s m args below meth c X H locs ls1 hn hW hS hl1)

theorem mw_lstore {nx tg : Nat} {i : Nat} {x : Int64} (hf : fch M pc = some (.lstore i, 2, nx, tg)) (hL : i + 1 < M.2.2.1) (k : MW M d mc ms n0 post nx (mst2 L i (.long x)) (S) (h) (n) (sl)) : MW M d mc ms n0 post pc L (.long x :: S) (h) (n) (sl) := by
  intro G p lc e s m args below meth c X H locs ls hn hW hS hl
  obtain ⟨hdg, rfl, htg⟩ := fch_ok X.1 hf
  have hx := X.2.1
  have hb := X.2.2.1
  exact lv_lstore hx hb hdg hl hL (mst2_cv G.2.1 L i (.long x)) (fun ls1 hl1 => k G p lc e s m args below meth c X H locs ls1 hn hW hS hl1)

theorem mw_fload_n {nx tg : Nat} {q : Fin 4} {i : Nat} {x : UInt32} (hf : fch M pc = some (.fload_n q, 1, nx, tg)) (hi : (q : Nat) = i) (hv : mlkv L i = some (.float x)) (k : MW M d mc ms n0 post nx L (.float x :: S) (h) (n) (sl)) : MW M d mc ms n0 post pc L (S) (h) (n) (sl) := by
  intro G p lc e s m args below meth c X H locs ls hn hW hS hl
  obtain ⟨hdg, rfl, htg⟩ := fch_ok X.1 hf
  have hx := X.2.1
  have hb := X.2.2.1
  exact lv_fload_n hx hb hdg hi (mat hl hv) (k G p lc e s m args below meth c X H locs ls hn hW hS hl)

theorem mw_fload {nx tg : Nat} {i : Nat} {x : UInt32} (hf : fch M pc = some (.fload i, 2, nx, tg)) (hv : mlkv L i = some (.float x)) (k : MW M d mc ms n0 post nx L (.float x :: S) (h) (n) (sl)) : MW M d mc ms n0 post pc L (S) (h) (n) (sl) := by
  intro G p lc e s m args below meth c X H locs ls hn hW hS hl
  obtain ⟨hdg, rfl, htg⟩ := fch_ok X.1 hf
  have hx := X.2.1
  have hb := X.2.2.1
  exact lv_fload hx hb hdg (mat hl hv) (k G p lc e s m args below meth c X H locs ls hn hW hS hl)

theorem mw_fstore_n {nx tg : Nat} {q : Fin 4} {i : Nat} {x : UInt32} (hf : fch M pc = some (.fstore_n q, 1, nx, tg)) (hi : (q : Nat) = i) (hL : i < M.2.2.1) (k : MW M d mc ms n0 post nx (mst L i (.float x)) (S) (h) (n) (sl)) : MW M d mc ms n0 post pc L (.float x :: S) (h) (n) (sl) := by
  intro G p lc e s m args below meth c X H locs ls hn hW hS hl
  obtain ⟨hdg, rfl, htg⟩ := fch_ok X.1 hf
  have hx := X.2.1
  have hb := X.2.2.1
  exact lv_fstore_n hx hb hdg hi hl hL (mst_cv G.2.1 L i (.float x)) (fun ls1 hl1 => k G p lc e s m args below meth c X H locs ls1 hn hW hS hl1)

theorem mw_fstore {nx tg : Nat} {i : Nat} {x : UInt32} (hf : fch M pc = some (.fstore i, 2, nx, tg)) (hL : i < M.2.2.1) (k : MW M d mc ms n0 post nx (mst L i (.float x)) (S) (h) (n) (sl)) : MW M d mc ms n0 post pc L (.float x :: S) (h) (n) (sl) := by
  intro G p lc e s m args below meth c X H locs ls hn hW hS hl
  obtain ⟨hdg, rfl, htg⟩ := fch_ok X.1 hf
  have hx := X.2.1
  have hb := X.2.2.1
  exact lv_fstore hx hb hdg hl hL (mst_cv G.2.1 L i (.float x)) (fun ls1 hl1 => k G p lc e s m args below meth c X H locs ls1 hn hW hS hl1)

theorem mw_aload_n {nx tg : Nat} {q : Fin 4} {i : Nat} {x : Nat} (hf : fch M pc = some (.aload_n q, 1, nx, tg)) (hi : (q : Nat) = i) (hv : mlkv L i = some (.ref x)) (k : MW M d mc ms n0 post nx L (.ref x :: S) (h) (n) (sl)) : MW M d mc ms n0 post pc L (S) (h) (n) (sl) := by
  intro G p lc e s m args below meth c X H locs ls hn hW hS hl
  obtain ⟨hdg, rfl, htg⟩ := fch_ok X.1 hf
  have hx := X.2.1
  have hb := X.2.2.1
  exact lv_aload_n hx hb hdg hi (mat hl hv) (k G p lc e s m args below meth c X H locs ls hn hW hS hl)

theorem mw_aload {nx tg : Nat} {i : Nat} {x : Nat} (hf : fch M pc = some (.aload i, 2, nx, tg)) (hv : mlkv L i = some (.ref x)) (k : MW M d mc ms n0 post nx L (.ref x :: S) (h) (n) (sl)) : MW M d mc ms n0 post pc L (S) (h) (n) (sl) := by
  intro G p lc e s m args below meth c X H locs ls hn hW hS hl
  obtain ⟨hdg, rfl, htg⟩ := fch_ok X.1 hf
  have hx := X.2.1
  have hb := X.2.2.1
  exact lv_aload hx hb hdg (mat hl hv) (k G p lc e s m args below meth c X H locs ls hn hW hS hl)

theorem mw_astore_n {nx tg : Nat} {q : Fin 4} {i : Nat} {x : Nat} (hf : fch M pc = some (.astore_n q, 1, nx, tg)) (hi : (q : Nat) = i) (hL : i < M.2.2.1) (k : MW M d mc ms n0 post nx (mst L i (.ref x)) (S) (h) (n) (sl)) : MW M d mc ms n0 post pc L (.ref x :: S) (h) (n) (sl) := by
  intro G p lc e s m args below meth c X H locs ls hn hW hS hl
  obtain ⟨hdg, rfl, htg⟩ := fch_ok X.1 hf
  have hx := X.2.1
  have hb := X.2.2.1
  exact lv_astore_n hx hb hdg hi hl hL (mst_cv G.2.1 L i (.ref x)) (fun ls1 hl1 => k G p lc e s m args below meth c X H locs ls1 hn hW hS hl1)

theorem mw_astore {nx tg : Nat} {i : Nat} {x : Nat} (hf : fch M pc = some (.astore i, 2, nx, tg)) (hL : i < M.2.2.1) (k : MW M d mc ms n0 post nx (mst L i (.ref x)) (S) (h) (n) (sl)) : MW M d mc ms n0 post pc L (.ref x :: S) (h) (n) (sl) := by
  intro G p lc e s m args below meth c X H locs ls hn hW hS hl
  obtain ⟨hdg, rfl, htg⟩ := fch_ok X.1 hf
  have hx := X.2.1
  have hb := X.2.2.1
  exact lv_astore hx hb hdg hl hL (mst_cv G.2.1 L i (.ref x)) (fun ls1 hl1 => k G p lc e s m args below meth c X H locs ls1 hn hW hS hl1)

theorem mw_iinc {nx tg : Nat} {i : Nat} {j : Int} {x v : Int32} (hf : fch M pc = some (.iinc i j, 3, nx, tg)) (hv : mlkv L i = some (.int x)) (he : x + Int32.ofInt j = v) (hL : i < M.2.2.1) (k : MW M d mc ms n0 post nx (mst L i (.int v)) (S) (h) (n) (sl)) : MW M d mc ms n0 post pc L (S) (h) (n) (sl) := by
  intro G p lc e s m args below meth c X H locs ls hn hW hS hl
  obtain ⟨hdg, rfl, htg⟩ := fch_ok X.1 hf
  have hx := X.2.1
  have hb := X.2.2.1
  obtain ⟨kq, hkq⟩ := List.getElem?_of_mem (mlkv_mem hv)
  have hkq : (cvL G.2.1 L)[kq]? = some (i, .int x) := by rw [cvL, List.getElem?_map, hkq]; rfl
  exact lv_iinc hx hb hdg hl hkq he hL (mst_cv G.2.1 L i (.int v)) (fun ls1 hl1 => k G p lc e s m args below meth c X H locs ls1 hn hW hS hl1)

theorem mw_iadd {nx tg : Nat} {x y : Int32} (hf : fch M pc = some (.iadd, 1, nx, tg))  (k : MW M d mc ms n0 post nx L (.int (x + y) :: S) (h) (n) (sl)) : MW M d mc ms n0 post pc L (.int y :: .int x :: S) (h) (n) (sl) := by
  intro G p lc e s m args below meth c X H locs ls hn hW hS hl
  obtain ⟨hdg, rfl, htg⟩ := fch_ok X.1 hf
  have hx := X.2.1
  have hb := X.2.2.1
  exact lv_iadd hx hb hdg (k G p lc e s m args below meth c X H locs ls hn hW hS hl)

theorem mw_isub {nx tg : Nat} {x y : Int32} (hf : fch M pc = some (.isub, 1, nx, tg))  (k : MW M d mc ms n0 post nx L (.int (x - y) :: S) (h) (n) (sl)) : MW M d mc ms n0 post pc L (.int y :: .int x :: S) (h) (n) (sl) := by
  intro G p lc e s m args below meth c X H locs ls hn hW hS hl
  obtain ⟨hdg, rfl, htg⟩ := fch_ok X.1 hf
  have hx := X.2.1
  have hb := X.2.2.1
  exact lv_isub hx hb hdg (k G p lc e s m args below meth c X H locs ls hn hW hS hl)

theorem mw_imul {nx tg : Nat} {x y : Int32} (hf : fch M pc = some (.imul, 1, nx, tg))  (k : MW M d mc ms n0 post nx L (.int (x * y) :: S) (h) (n) (sl)) : MW M d mc ms n0 post pc L (.int y :: .int x :: S) (h) (n) (sl) := by
  intro G p lc e s m args below meth c X H locs ls hn hW hS hl
  obtain ⟨hdg, rfl, htg⟩ := fch_ok X.1 hf
  have hx := X.2.1
  have hb := X.2.2.1
  exact lv_imul hx hb hdg (k G p lc e s m args below meth c X H locs ls hn hW hS hl)

theorem mw_iand {nx tg : Nat} {x y : Int32} (hf : fch M pc = some (.iand, 1, nx, tg))  (k : MW M d mc ms n0 post nx L (.int (x &&& y) :: S) (h) (n) (sl)) : MW M d mc ms n0 post pc L (.int y :: .int x :: S) (h) (n) (sl) := by
  intro G p lc e s m args below meth c X H locs ls hn hW hS hl
  obtain ⟨hdg, rfl, htg⟩ := fch_ok X.1 hf
  have hx := X.2.1
  have hb := X.2.2.1
  exact lv_iand hx hb hdg (k G p lc e s m args below meth c X H locs ls hn hW hS hl)

theorem mw_ior {nx tg : Nat} {x y : Int32} (hf : fch M pc = some (.ior, 1, nx, tg))  (k : MW M d mc ms n0 post nx L (.int (x ||| y) :: S) (h) (n) (sl)) : MW M d mc ms n0 post pc L (.int y :: .int x :: S) (h) (n) (sl) := by
  intro G p lc e s m args below meth c X H locs ls hn hW hS hl
  obtain ⟨hdg, rfl, htg⟩ := fch_ok X.1 hf
  have hx := X.2.1
  have hb := X.2.2.1
  exact lv_ior hx hb hdg (k G p lc e s m args below meth c X H locs ls hn hW hS hl)

theorem mw_ixor {nx tg : Nat} {x y : Int32} (hf : fch M pc = some (.ixor, 1, nx, tg))  (k : MW M d mc ms n0 post nx L (.int (x ^^^ y) :: S) (h) (n) (sl)) : MW M d mc ms n0 post pc L (.int y :: .int x :: S) (h) (n) (sl) := by
  intro G p lc e s m args below meth c X H locs ls hn hW hS hl
  obtain ⟨hdg, rfl, htg⟩ := fch_ok X.1 hf
  have hx := X.2.1
  have hb := X.2.2.1
  exact lv_ixor hx hb hdg (k G p lc e s m args below meth c X H locs ls hn hW hS hl)

theorem mw_ishl {nx tg : Nat} {x y : Int32} (hf : fch M pc = some (.ishl, 1, nx, tg))  (k : MW M d mc ms n0 post nx L (.int (x <<< (y &&& 31)) :: S) (h) (n) (sl)) : MW M d mc ms n0 post pc L (.int y :: .int x :: S) (h) (n) (sl) := by
  intro G p lc e s m args below meth c X H locs ls hn hW hS hl
  obtain ⟨hdg, rfl, htg⟩ := fch_ok X.1 hf
  have hx := X.2.1
  have hb := X.2.2.1
  exact lv_ishl hx hb hdg (k G p lc e s m args below meth c X H locs ls hn hW hS hl)

theorem mw_ishr {nx tg : Nat} {x y : Int32} (hf : fch M pc = some (.ishr, 1, nx, tg))  (k : MW M d mc ms n0 post nx L (.int (x >>> (y &&& 31)) :: S) (h) (n) (sl)) : MW M d mc ms n0 post pc L (.int y :: .int x :: S) (h) (n) (sl) := by
  intro G p lc e s m args below meth c X H locs ls hn hW hS hl
  obtain ⟨hdg, rfl, htg⟩ := fch_ok X.1 hf
  have hx := X.2.1
  have hb := X.2.2.1
  exact lv_ishr hx hb hdg (k G p lc e s m args below meth c X H locs ls hn hW hS hl)

theorem mw_ladd {nx tg : Nat} {x y : Int64} (hf : fch M pc = some (.ladd, 1, nx, tg))  (k : MW M d mc ms n0 post nx L (.long (x + y) :: S) (h) (n) (sl)) : MW M d mc ms n0 post pc L (.long y :: .long x :: S) (h) (n) (sl) := by
  intro G p lc e s m args below meth c X H locs ls hn hW hS hl
  obtain ⟨hdg, rfl, htg⟩ := fch_ok X.1 hf
  have hx := X.2.1
  have hb := X.2.2.1
  exact lv_ladd hx hb hdg (k G p lc e s m args below meth c X H locs ls hn hW hS hl)

theorem mw_lmul {nx tg : Nat} {x y : Int64} (hf : fch M pc = some (.lmul, 1, nx, tg))  (k : MW M d mc ms n0 post nx L (.long (x * y) :: S) (h) (n) (sl)) : MW M d mc ms n0 post pc L (.long y :: .long x :: S) (h) (n) (sl) := by
  intro G p lc e s m args below meth c X H locs ls hn hW hS hl
  obtain ⟨hdg, rfl, htg⟩ := fch_ok X.1 hf
  have hx := X.2.1
  have hb := X.2.2.1
  exact lv_lmul hx hb hdg (k G p lc e s m args below meth c X H locs ls hn hW hS hl)

theorem mw_land {nx tg : Nat} {x y : Int64} (hf : fch M pc = some (.land, 1, nx, tg))  (k : MW M d mc ms n0 post nx L (.long (x &&& y) :: S) (h) (n) (sl)) : MW M d mc ms n0 post pc L (.long y :: .long x :: S) (h) (n) (sl) := by
  intro G p lc e s m args below meth c X H locs ls hn hW hS hl
  obtain ⟨hdg, rfl, htg⟩ := fch_ok X.1 hf
  have hx := X.2.1
  have hb := X.2.2.1
  exact lv_land hx hb hdg (k G p lc e s m args below meth c X H locs ls hn hW hS hl)

theorem mw_lor {nx tg : Nat} {x y : Int64} (hf : fch M pc = some (.lor, 1, nx, tg))  (k : MW M d mc ms n0 post nx L (.long (x ||| y) :: S) (h) (n) (sl)) : MW M d mc ms n0 post pc L (.long y :: .long x :: S) (h) (n) (sl) := by
  intro G p lc e s m args below meth c X H locs ls hn hW hS hl
  obtain ⟨hdg, rfl, htg⟩ := fch_ok X.1 hf
  have hx := X.2.1
  have hb := X.2.2.1
  exact lv_lor hx hb hdg (k G p lc e s m args below meth c X H locs ls hn hW hS hl)

theorem mw_idiv {nx tg : Nat} {x y : Int32} (hf : fch M pc = some (.idiv, 1, nx, tg)) (hne : ¬ y = 0) (k : MW M d mc ms n0 post nx L (.int (x / y) :: S) (h) (n) (sl)) : MW M d mc ms n0 post pc L (.int y :: .int x :: S) (h) (n) (sl) := by
  intro G p lc e s m args below meth c X H locs ls hn hW hS hl
  obtain ⟨hdg, rfl, htg⟩ := fch_ok X.1 hf
  have hx := X.2.1
  have hb := X.2.2.1
  exact lv_idiv hx hb hdg hne (k G p lc e s m args below meth c X H locs ls hn hW hS hl)

theorem mw_irem {nx tg : Nat} {x y : Int32} (hf : fch M pc = some (.irem, 1, nx, tg)) (hne : ¬ y = 0) (k : MW M d mc ms n0 post nx L (.int (x - x / y * y) :: S) (h) (n) (sl)) : MW M d mc ms n0 post pc L (.int y :: .int x :: S) (h) (n) (sl) := by
  intro G p lc e s m args below meth c X H locs ls hn hW hS hl
  obtain ⟨hdg, rfl, htg⟩ := fch_ok X.1 hf
  have hx := X.2.1
  have hb := X.2.2.1
  exact lv_irem hx hb hdg hne (k G p lc e s m args below meth c X H locs ls hn hW hS hl)

theorem mw_fmul {nx tg : Nat} {x y : UInt32} (hf : fch M pc = some (.fmul, 1, nx, tg)) (hne : vf_n32 (FP.fmul x y)) (k : MW M d mc ms n0 post nx L (.float (FP.fmul x y) :: S) (h) (n) (sl)) : MW M d mc ms n0 post pc L (.float y :: .float x :: S) (h) (n) (sl) := by
  intro G p lc e s m args below meth c X H locs ls hn hW hS hl
  obtain ⟨hdg, rfl, htg⟩ := fch_ok X.1 hf
  have hx := X.2.1
  have hb := X.2.2.1
  exact lv_fmul hx hb hdg hne (k G p lc e s m args below meth c X H locs ls hn hW hS hl)

theorem mw_fdiv {nx tg : Nat} {x y : UInt32} (hf : fch M pc = some (.fdiv, 1, nx, tg)) (hne : vf_n32 (FP.fdiv x y)) (k : MW M d mc ms n0 post nx L (.float (FP.fdiv x y) :: S) (h) (n) (sl)) : MW M d mc ms n0 post pc L (.float y :: .float x :: S) (h) (n) (sl) := by
  intro G p lc e s m args below meth c X H locs ls hn hW hS hl
  obtain ⟨hdg, rfl, htg⟩ := fch_ok X.1 hf
  have hx := X.2.1
  have hb := X.2.2.1
  exact lv_fdiv hx hb hdg hne (k G p lc e s m args below meth c X H locs ls hn hW hS hl)

theorem mw_fsub {nx tg : Nat} {x y : UInt32} (hf : fch M pc = some (.fsub, 1, nx, tg)) (hne : vf_n32 (FP.fsub x y)) (k : MW M d mc ms n0 post nx L (.float (FP.fsub x y) :: S) (h) (n) (sl)) : MW M d mc ms n0 post pc L (.float y :: .float x :: S) (h) (n) (sl) := by
  intro G p lc e s m args below meth c X H locs ls hn hW hS hl
  obtain ⟨hdg, rfl, htg⟩ := fch_ok X.1 hf
  have hx := X.2.1
  have hb := X.2.2.1
  exact lv_fsub hx hb hdg hne (k G p lc e s m args below meth c X H locs ls hn hW hS hl)

theorem mw_fcmp {nx tg : Nat} {x y : UInt32} {op : CmpOp} (hf : fch M pc = some (.fcmp op, 1, nx, tg))  (k : MW M d mc ms n0 post nx L (.int (Op.cmpValue (FP.fcmp x y) op) :: S) (h) (n) (sl)) : MW M d mc ms n0 post pc L (.float y :: .float x :: S) (h) (n) (sl) := by
  intro G p lc e s m args below meth c X H locs ls hn hW hS hl
  obtain ⟨hdg, rfl, htg⟩ := fch_ok X.1 hf
  have hx := X.2.1
  have hb := X.2.2.1
  exact lv_fcmp hx hb hdg (k G p lc e s m args below meth c X H locs ls hn hW hS hl)

theorem mw_lcmp {nx tg : Nat} {x y : Int64} (hf : fch M pc = some (.lcmp, 1, nx, tg))  (k : MW M d mc ms n0 post nx L (.int (lg_cmp x y) :: S) (h) (n) (sl)) : MW M d mc ms n0 post pc L (.long y :: .long x :: S) (h) (n) (sl) := by
  intro G p lc e s m args below meth c X H locs ls hn hW hS hl
  obtain ⟨hdg, rfl, htg⟩ := fch_ok X.1 hf
  have hx := X.2.1
  have hb := X.2.2.1
  exact W.lcmp hx hb hdg (k G p lc e s m args below meth c X H locs ls hn hW hS hl)

theorem mw_i2f {nx tg : Nat} {x : Int32} (hf : fch M pc = some (.i2f, 1, nx, tg))  (k : MW M d mc ms n0 post nx L (.float (FP.i2f x) :: S) (h) (n) (sl)) : MW M d mc ms n0 post pc L (.int x :: S) (h) (n) (sl) := by
  intro G p lc e s m args below meth c X H locs ls hn hW hS hl
  obtain ⟨hdg, rfl, htg⟩ := fch_ok X.1 hf
  have hx := X.2.1
  have hb := X.2.2.1
  exact lv_i2f hx hb hdg (k G p lc e s m args below meth c X H locs ls hn hW hS hl)

theorem mw_f2i {nx tg : Nat} {x : UInt32} (hf : fch M pc = some (.f2i, 1, nx, tg))  (k : MW M d mc ms n0 post nx L (.int (FP.f2i x) :: S) (h) (n) (sl)) : MW M d mc ms n0 post pc L (.float x :: S) (h) (n) (sl) := by
  intro G p lc e s m args below meth c X H locs ls hn hW hS hl
  obtain ⟨hdg, rfl, htg⟩ := fch_ok X.1 hf
  have hx := X.2.1
  have hb := X.2.2.1
  exact lv_f2i hx hb hdg (k G p lc e s m args below meth c X H locs ls hn hW hS hl)

theorem mw_i2l {nx tg : Nat} {x : Int32} (hf : fch M pc = some (.i2l, 1, nx, tg))  (k : MW M d mc ms n0 post nx L (.long x.toInt64 :: S) (h) (n) (sl)) : MW M d mc ms n0 post pc L (.int x :: S) (h) (n) (sl) := by
  intro G p lc e s m args below meth c X H locs ls hn hW hS hl
  obtain ⟨hdg, rfl, htg⟩ := fch_ok X.1 hf
  have hx := X.2.1
  have hb := X.2.2.1
  exact lv_i2l hx hb hdg rfl (k G p lc e s m args below meth c X H locs ls hn hW hS hl)

theorem mw_lushr {nx tg : Nat} {x : Int64} {y : Int32} (hf : fch M pc = some (.lushr, 1, nx, tg))  (k : MW M d mc ms n0 post nx L (.long (x.toUInt64 >>> (y.toInt64.toUInt64 &&& Int64.toUInt64 63)).toInt64 :: S) (h) (n) (sl)) : MW M d mc ms n0 post pc L (.int y :: .long x :: S) (h) (n) (sl) := by
  intro G p lc e s m args below meth c X H locs ls hn hW hS hl
  obtain ⟨hdg, rfl, htg⟩ := fch_ok X.1 hf
  have hx := X.2.1
  have hb := X.2.2.1
  exact lv_lushr hx hb hdg rfl (k G p lc e s m args below meth c X H locs ls hn hW hS hl)

theorem mw_lshl {nx tg : Nat} {x : Int64} {y : Int32} (hf : fch M pc = some (.lshl, 1, nx, tg))  (k : MW M d mc ms n0 post nx L (.long (x <<< (y.toInt64 &&& 63)) :: S) (h) (n) (sl)) : MW M d mc ms n0 post pc L (.int y :: .long x :: S) (h) (n) (sl) := by
  intro G p lc e s m args below meth c X H locs ls hn hW hS hl
  obtain ⟨hdg, rfl, htg⟩ := fch_ok X.1 hf
  have hx := X.2.1
  have hb := X.2.2.1
  exact lv_lshl hx hb hdg rfl (k G p lc e s m args below meth c X H locs ls hn hW hS hl)

theorem mw_dup {nx tg : Nat} {v : Value} (hf : fch M pc = some (.dup, 1, nx, tg)) (hc : v.category = 1) (k : MW M d mc ms n0 post nx L (v :: v :: S) (h) (n) (sl)) : MW M d mc ms n0 post pc L (v :: S) (h) (n) (sl) := by
  intro G p lc e s m args below meth c X H locs ls hn hW hS hl
  obtain ⟨hdg, rfl, htg⟩ := fch_ok X.1 hf
  have hx := X.2.1
  have hb := X.2.2.1
  exact lv_dup hx hb hdg ((cvV_cat _ _).trans hc) (k G p lc e s m args below meth c X H locs ls hn hW hS hl)

theorem mw_pop {nx tg : Nat} {v : Value} (hf : fch M pc = some (.pop, 1, nx, tg)) (hc : v.category = 1) (k : MW M d mc ms n0 post nx L (S) (h) (n) (sl)) : MW M d mc ms n0 post pc L (v :: S) (h) (n) (sl) := by
  intro G p lc e s m args below meth c X H locs ls hn hW hS hl
  obtain ⟨hdg, rfl, htg⟩ := fch_ok X.1 hf
  have hx := X.2.1
  have hb := X.2.2.1
  exact lv_pop hx hb hdg ((cvV_cat _ _).trans hc) (k G p lc e s m args below meth c X H locs ls hn hW hS hl)

theorem mw_dup2 {nx tg : Nat} {v w : Value} (hf : fch M pc = some (.dup2, 1, nx, tg)) (hc : v.category = 1) (hc2 : w.category = 1) (k : MW M d mc ms n0 post nx L (v :: w :: v :: w :: S) (h) (n) (sl)) : MW M d mc ms n0 post pc L (v :: w :: S) (h) (n) (sl) := by
  intro G p lc e s m args below meth c X H locs ls hn hW hS hl
  obtain ⟨hdg, rfl, htg⟩ := fch_ok X.1 hf
  have hx := X.2.1
  have hb := X.2.2.1
  exact lv_dup2_11 hx hb hdg ((cvV_cat _ _).trans hc) ((cvV_cat _ _).trans hc2) (k G p lc e s m args below meth c X H locs ls hn hW hS hl)

theorem mw_icmp_eq {nx tg : Nat} {x y : Int32} {off : Int} (hf : fch M pc = some (.if_icmp .eq off, 3, nx, tg))  (kt : x = y → MW M d mc ms n0 post tg L (S) (h) (n) (sl)) (kf : ¬ x = y → MW M d mc ms n0 post nx L (S) (h) (n) (sl)) : MW M d mc ms n0 post pc L (.int y :: .int x :: S) (h) (n) (sl) := by
  intro G p lc e s m args below meth c X H locs ls hn hW hS hl
  obtain ⟨hdg, rfl, htg⟩ := fch_ok X.1 hf
  have hx := X.2.1
  have hb := X.2.2.1
  exact lv_icmp_eq hx hb hdg (of_decide_eq_true htg) (fun hc => kt hc G p lc e s m args below meth c X H locs ls hn hW hS hl) (fun hc => kf hc G p lc e s m args below meth c X H locs ls hn hW hS hl)

theorem mw_icmp_ne {nx tg : Nat} {x y : Int32} {off : Int} (hf : fch M pc = some (.if_icmp .ne off, 3, nx, tg))  (kt : ¬ x = y → MW M d mc ms n0 post tg L (S) (h) (n) (sl)) (kf : x = y → MW M d mc ms n0 post nx L (S) (h) (n) (sl)) : MW M d mc ms n0 post pc L (.int y :: .int x :: S) (h) (n) (sl) := by
  intro G p lc e s m args below meth c X H locs ls hn hW hS hl
  obtain ⟨hdg, rfl, htg⟩ := fch_ok X.1 hf
  have hx := X.2.1
  have hb := X.2.2.1
  exact lv_icmp_ne hx hb hdg (of_decide_eq_true htg) (fun hc => kt hc G p lc e s m args below meth c X H locs ls hn hW hS hl) (fun hc => kf hc G p lc e s m args below meth c X H locs ls hn hW hS hl)

theorem mw_icmp_lt {nx tg : Nat} {x y : Int32} {off : Int} (hf : fch M pc = some (.if_icmp .lt off, 3, nx, tg))  (kt : x < y → MW M d mc ms n0 post tg L (S) (h) (n) (sl)) (kf : ¬ x < y → MW M d mc ms n0 post nx L (S) (h) (n) (sl)) : MW M d mc ms n0 post pc L (.int y :: .int x :: S) (h) (n) (sl) := by
  intro G p lc e s m args below meth c X H locs ls hn hW hS hl
  obtain ⟨hdg, rfl, htg⟩ := fch_ok X.1 hf
  have hx := X.2.1
  have hb := X.2.2.1
  exact lv_icmp_lt hx hb hdg (of_decide_eq_true htg) (fun hc => kt hc G p lc e s m args below meth c X H locs ls hn hW hS hl) (fun hc => kf hc G p lc e s m args below meth c X H locs ls hn hW hS hl)

theorem mw_icmp_ge {nx tg : Nat} {x y : Int32} {off : Int} (hf : fch M pc = some (.if_icmp .ge off, 3, nx, tg))  (kt : y ≤ x → MW M d mc ms n0 post tg L (S) (h) (n) (sl)) (kf : ¬ y ≤ x → MW M d mc ms n0 post nx L (S) (h) (n) (sl)) : MW M d mc ms n0 post pc L (.int y :: .int x :: S) (h) (n) (sl) := by
  intro G p lc e s m args below meth c X H locs ls hn hW hS hl
  obtain ⟨hdg, rfl, htg⟩ := fch_ok X.1 hf
  have hx := X.2.1
  have hb := X.2.2.1
  exact lv_icmp_ge hx hb hdg (of_decide_eq_true htg) (fun hc => kt hc G p lc e s m args below meth c X H locs ls hn hW hS hl) (fun hc => kf hc G p lc e s m args below meth c X H locs ls hn hW hS hl)

theorem mw_icmp_gt {nx tg : Nat} {x y : Int32} {off : Int} (hf : fch M pc = some (.if_icmp .gt off, 3, nx, tg))  (kt : y < x → MW M d mc ms n0 post tg L (S) (h) (n) (sl)) (kf : ¬ y < x → MW M d mc ms n0 post nx L (S) (h) (n) (sl)) : MW M d mc ms n0 post pc L (.int y :: .int x :: S) (h) (n) (sl) := by
  intro G p lc e s m args below meth c X H locs ls hn hW hS hl
  obtain ⟨hdg, rfl, htg⟩ := fch_ok X.1 hf
  have hx := X.2.1
  have hb := X.2.2.1
  exact lv_icmp_gt hx hb hdg (of_decide_eq_true htg) (fun hc => kt hc G p lc e s m args below meth c X H locs ls hn hW hS hl) (fun hc => kf hc G p lc e s m args below meth c X H locs ls hn hW hS hl)

theorem mw_icmp_le {nx tg : Nat} {x y : Int32} {off : Int} (hf : fch M pc = some (.if_icmp .le off, 3, nx, tg))  (kt : x ≤ y → MW M d mc ms n0 post tg L (S) (h) (n) (sl)) (kf : ¬ x ≤ y → MW M d mc ms n0 post nx L (S) (h) (n) (sl)) : MW M d mc ms n0 post pc L (.int y :: .int x :: S) (h) (n) (sl) := by
  intro G p lc e s m args below meth c X H locs ls hn hW hS hl
  obtain ⟨hdg, rfl, htg⟩ := fch_ok X.1 hf
  have hx := X.2.1
  have hb := X.2.2.1
  exact lv_icmp_le hx hb hdg (of_decide_eq_true htg) (fun hc => kt hc G p lc e s m args below meth c X H locs ls hn hW hS hl) (fun hc => kf hc G p lc e s m args below meth c X H locs ls hn hW hS hl)

theorem mw_if_eq {nx tg : Nat} {x : Int32} {off : Int} (hf : fch M pc = some (.ifCond .eq off, 3, nx, tg))  (kt : x = 0 → MW M d mc ms n0 post tg L (S) (h) (n) (sl)) (kf : ¬ x = 0 → MW M d mc ms n0 post nx L (S) (h) (n) (sl)) : MW M d mc ms n0 post pc L (.int x :: S) (h) (n) (sl) := by
  intro G p lc e s m args below meth c X H locs ls hn hW hS hl
  obtain ⟨hdg, rfl, htg⟩ := fch_ok X.1 hf
  have hx := X.2.1
  have hb := X.2.2.1
  exact lv_if_eq hx hb hdg (of_decide_eq_true htg) (fun hc => kt hc G p lc e s m args below meth c X H locs ls hn hW hS hl) (fun hc => kf hc G p lc e s m args below meth c X H locs ls hn hW hS hl)

theorem mw_if_ne {nx tg : Nat} {x : Int32} {off : Int} (hf : fch M pc = some (.ifCond .ne off, 3, nx, tg))  (kt : ¬ x = 0 → MW M d mc ms n0 post tg L (S) (h) (n) (sl)) (kf : x = 0 → MW M d mc ms n0 post nx L (S) (h) (n) (sl)) : MW M d mc ms n0 post pc L (.int x :: S) (h) (n) (sl) := by
  intro G p lc e s m args below meth c X H locs ls hn hW hS hl
  obtain ⟨hdg, rfl, htg⟩ := fch_ok X.1 hf
  have hx := X.2.1
  have hb := X.2.2.1
  exact lv_if_ne hx hb hdg (of_decide_eq_true htg) (fun hc => kt hc G p lc e s m args below meth c X H locs ls hn hW hS hl) (fun hc => kf hc G p lc e s m args below meth c X H locs ls hn hW hS hl)

theorem mw_if_lt {nx tg : Nat} {x : Int32} {off : Int} (hf : fch M pc = some (.ifCond .lt off, 3, nx, tg))  (kt : x < 0 → MW M d mc ms n0 post tg L (S) (h) (n) (sl)) (kf : ¬ x < 0 → MW M d mc ms n0 post nx L (S) (h) (n) (sl)) : MW M d mc ms n0 post pc L (.int x :: S) (h) (n) (sl) := by
  intro G p lc e s m args below meth c X H locs ls hn hW hS hl
  obtain ⟨hdg, rfl, htg⟩ := fch_ok X.1 hf
  have hx := X.2.1
  have hb := X.2.2.1
  exact lv_if_lt hx hb hdg (of_decide_eq_true htg) (fun hc => kt hc G p lc e s m args below meth c X H locs ls hn hW hS hl) (fun hc => kf hc G p lc e s m args below meth c X H locs ls hn hW hS hl)

theorem mw_if_ge {nx tg : Nat} {x : Int32} {off : Int} (hf : fch M pc = some (.ifCond .ge off, 3, nx, tg))  (kt : 0 ≤ x → MW M d mc ms n0 post tg L (S) (h) (n) (sl)) (kf : ¬ 0 ≤ x → MW M d mc ms n0 post nx L (S) (h) (n) (sl)) : MW M d mc ms n0 post pc L (.int x :: S) (h) (n) (sl) := by
  intro G p lc e s m args below meth c X H locs ls hn hW hS hl
  obtain ⟨hdg, rfl, htg⟩ := fch_ok X.1 hf
  have hx := X.2.1
  have hb := X.2.2.1
  exact lv_if_ge hx hb hdg (of_decide_eq_true htg) (fun hc => kt hc G p lc e s m args below meth c X H locs ls hn hW hS hl) (fun hc => kf hc G p lc e s m args below meth c X H locs ls hn hW hS hl)

theorem mw_if_gt {nx tg : Nat} {x : Int32} {off : Int} (hf : fch M pc = some (.ifCond .gt off, 3, nx, tg))  (kt : 0 < x → MW M d mc ms n0 post tg L (S) (h) (n) (sl)) (kf : ¬ 0 < x → MW M d mc ms n0 post nx L (S) (h) (n) (sl)) : MW M d mc ms n0 post pc L (.int x :: S) (h) (n) (sl) := by
  intro G p lc e s m args below meth c X H locs ls hn hW hS hl
  obtain ⟨hdg, rfl, htg⟩ := fch_ok X.1 hf
  have hx := X.2.1
  have hb := X.2.2.1
  exact lv_if_gt hx hb hdg (of_decide_eq_true htg) (fun hc => kt hc G p lc e s m args below meth c X H locs ls hn hW hS hl) (fun hc => kf hc G p lc e s m args below meth c X H locs ls hn hW hS hl)

theorem mw_if_le {nx tg : Nat} {x : Int32} {off : Int} (hf : fch M pc = some (.ifCond .le off, 3, nx, tg))  (kt : x ≤ 0 → MW M d mc ms n0 post tg L (S) (h) (n) (sl)) (kf : ¬ x ≤ 0 → MW M d mc ms n0 post nx L (S) (h) (n) (sl)) : MW M d mc ms n0 post pc L (.int x :: S) (h) (n) (sl) := by
  intro G p lc e s m args below meth c X H locs ls hn hW hS hl
  obtain ⟨hdg, rfl, htg⟩ := fch_ok X.1 hf
  have hx := X.2.1
  have hb := X.2.2.1
  exact lv_if_le hx hb hdg (of_decide_eq_true htg) (fun hc => kt hc G p lc e s m args below meth c X H locs ls hn hW hS hl) (fun hc => kf hc G p lc e s m args below meth c X H locs ls hn hW hS hl)

theorem mw_goto {nx tg : Nat} {off : Int} (hf : fch M pc = some (.goto off, 3, nx, tg))  (k : MW M d mc ms n0 post tg L (S) (h) (n) (sl)) : MW M d mc ms n0 post pc L (S) (h) (n) (sl) := by
  intro G p lc e s m args below meth c X H locs ls hn hW hS hl
  obtain ⟨hdg, rfl, htg⟩ := fch_ok X.1 hf
  have hx := X.2.1
  have hb := X.2.2.1
  exact lv_goto hx hb hdg (of_decide_eq_true htg) (k G p lc e s m args below meth c X H locs ls hn hW hS hl)

theorem mw_ldc {nx tg : Nat} {ix : Nat} {v : Int32} (hf : fch M pc = some (.ldc ix, 2, nx, tg)) (hw : Cond.constant M.1.cls ix v ∈ lw_gd) (k : MW M d mc ms n0 post nx L (.int v :: S) (h) (n) (sl)) : MW M d mc ms n0 post pc L (S) (h) (n) (sl) := by
  intro G p lc e s m args below meth c X H locs ls hn hW hS hl
  obtain ⟨hdg, rfl, htg⟩ := fch_ok X.1 hf
  have hx := X.2.1
  have hb := X.2.2.1
  exact lv_ldc hx hb X.2.2.2.2.2.2.1 (X.2.2.2.2.2.2.2.2.1 _ hw) hdg (k G p lc e s m args below meth c X H locs ls hn hW hS hl)

theorem mw_ldcf {nx tg : Nat} {ix : Nat} {v : UInt32} (hf : fch M pc = some (.ldc ix, 2, nx, tg)) (hw : Cond.constantFloat M.1.cls ix v ∈ lw_gd) (k : MW M d mc ms n0 post nx L (.float v :: S) (h) (n) (sl)) : MW M d mc ms n0 post pc L (S) (h) (n) (sl) := by
  intro G p lc e s m args below meth c X H locs ls hn hW hS hl
  obtain ⟨hdg, rfl, htg⟩ := fch_ok X.1 hf
  have hx := X.2.1
  have hb := X.2.2.1
  exact lv_ldcf hx hb X.2.2.2.2.2.2.1 (X.2.2.2.2.2.2.2.2.1 _ hw) hdg (k G p lc e s m args below meth c X H locs ls hn hW hS hl)

theorem mw_ldc2 {nx tg : Nat} {ix : Nat} {v : Int64} (hf : fch M pc = some (.ldc2_w ix, 3, nx, tg)) (hw : Cond.constantLong M.1.cls ix v ∈ lw_gd) (k : MW M d mc ms n0 post nx L (.long v :: S) (h) (n) (sl)) : MW M d mc ms n0 post pc L (S) (h) (n) (sl) := by
  intro G p lc e s m args below meth c X H locs ls hn hW hS hl
  obtain ⟨hdg, rfl, htg⟩ := fch_ok X.1 hf
  have hx := X.2.1
  have hb := X.2.2.1
  exact lv_ldc2 hx hb X.2.2.2.2.2.2.1 (X.2.2.2.2.2.2.2.2.1 _ hw) hdg (k G p lc e s m args below meth c X H locs ls hn hW hS hl)

theorem mw_ldcw {nx tg : Nat} {ix : Nat} {v : Int32} (hf : fch M pc = some (.ldc_w ix, 3, nx, tg)) (hw : Cond.constant M.1.cls ix v ∈ lw_gd) (k : MW M d mc ms n0 post nx L (.int v :: S) (h) (n) (sl)) : MW M d mc ms n0 post pc L (S) (h) (n) (sl) := by
  intro G p lc e s m args below meth c X H locs ls hn hW hS hl
  obtain ⟨hdg, rfl, htg⟩ := fch_ok X.1 hf
  have hx := X.2.1
  have hb := X.2.2.1
  exact lv_ldcw hx hb X.2.2.2.2.2.2.1 (X.2.2.2.2.2.2.2.2.1 _ hw) hdg (k G p lc e s m args below meth c X H locs ls hn hW hS hl)

theorem mw_iald {nx tg : Nat} {a N j : Nat} {f : Nat → Int32} (hf : fch M pc = some (.iaload, 1, nx, tg)) (hc : h a = (.inl (.int, N, .inl f))) (hj : j < N) (hN : j < 2147483648) (k : MW M d mc ms n0 post nx L (.int (f j) :: S) (h) (n) (sl)) : MW M d mc ms n0 post pc L (.int (nI j) :: .ref a :: S) (h) (n) (sl) := by
  intro G p lc e s m args below meth c X H locs ls hn hW hS hl
  obtain ⟨hdg, rfl, htg⟩ := fch_ok X.1 hf
  have hx := X.2.1
  have hb := X.2.2.1
  have hge := hW.at hc dead_l
  have hk2 := k G p lc e s m args below meth c X H locs ls hn hW hS hl
  have hin : vp_in (nI j) N := by rw [vp_in, nI_clamp hN]; exact fun q => q.elim (fun q => nI_pos hN q) (fun q => by omega)
  rw [← nI_clamp hN] at hk2
  exact va_iald (D := G.1) (tys := mTT G) hx hb X.2.2.2.2.2.2.2.2.2.1.1 hW.2 a 0 hge rfl hin hdg hk2

theorem mw_iald_v {nx tg : Nat} {a N j : Nat} {f : Nat → Int32} {v : Int32} (hf : fch M pc = some (.iaload, 1, nx, tg)) (hc : h a = (.inl (.int, N, .inl f))) (hj : j < N) (hN : j < 2147483648) (hv : f j = v) (k : MW M d mc ms n0 post nx L (.int v :: S) (h) (n) (sl)) : MW M d mc ms n0 post pc L (.int (nI j) :: .ref a :: S) (h) (n) (sl) := by
  intro G p lc e s m args below meth c X H locs ls hn hW hS hl
  obtain ⟨hdg, rfl, htg⟩ := fch_ok X.1 hf
  have hx := X.2.1
  have hb := X.2.2.1
  subst hv
  exact mw_iald hf hc hj hN k G p lc e s m args below meth c X H locs ls hn hW hS hl

theorem mw_zald {nx tg : Nat} {a N j : Nat} {f : Nat → Int32} (hf : fch M pc = some (.baload, 1, nx, tg)) (hc : h a = (.inl (.boolean, N, .inl f))) (hj : j < N) (hN : j < 2147483648) (k : MW M d mc ms n0 post nx L (.int (f j) :: S) (h) (n) (sl)) : MW M d mc ms n0 post pc L (.int (nI j) :: .ref a :: S) (h) (n) (sl) := by
  intro G p lc e s m args below meth c X H locs ls hn hW hS hl
  obtain ⟨hdg, rfl, htg⟩ := fch_ok X.1 hf
  have hx := X.2.1
  have hb := X.2.2.1
  have hge := hW.at hc dead_l
  have hk2 := k G p lc e s m args below meth c X H locs ls hn hW hS hl
  have hin : vp_in (nI j) N := by rw [vp_in, nI_clamp hN]; exact fun q => q.elim (fun q => nI_pos hN q) (fun q => by omega)
  rw [← nI_clamp hN] at hk2
  exact va_zald (D := G.1) (tys := mTT G) hx hb X.2.2.2.2.2.2.2.2.2.1.1 hW.2 a 1 hge rfl hin hdg hk2

theorem mw_zald_v {nx tg : Nat} {a N j : Nat} {f : Nat → Int32} {v : Int32} (hf : fch M pc = some (.baload, 1, nx, tg)) (hc : h a = (.inl (.boolean, N, .inl f))) (hj : j < N) (hN : j < 2147483648) (hv : f j = v) (k : MW M d mc ms n0 post nx L (.int v :: S) (h) (n) (sl)) : MW M d mc ms n0 post pc L (.int (nI j) :: .ref a :: S) (h) (n) (sl) := by
  intro G p lc e s m args below meth c X H locs ls hn hW hS hl
  obtain ⟨hdg, rfl, htg⟩ := fch_ok X.1 hf
  have hx := X.2.1
  have hb := X.2.2.1
  subst hv
  exact mw_zald hf hc hj hN k G p lc e s m args below meth c X H locs ls hn hW hS hl

theorem mw_lald {nx tg : Nat} {a N j : Nat} {f : Nat → Int64} (hf : fch M pc = some (.laload, 1, nx, tg)) (hc : h a = (.inl (.long, N, .inr (.inl f)))) (hj : j < N) (hN : j < 2147483648) (k : MW M d mc ms n0 post nx L (.long (f j) :: S) (h) (n) (sl)) : MW M d mc ms n0 post pc L (.int (nI j) :: .ref a :: S) (h) (n) (sl) := by
  intro G p lc e s m args below meth c X H locs ls hn hW hS hl
  obtain ⟨hdg, rfl, htg⟩ := fch_ok X.1 hf
  have hx := X.2.1
  have hb := X.2.2.1
  have hge := hW.at hc dead_l
  have hk2 := k G p lc e s m args below meth c X H locs ls hn hW hS hl
  have hin : vp_in (nI j) N := by rw [vp_in, nI_clamp hN]; exact fun q => q.elim (fun q => nI_pos hN q) (fun q => by omega)
  rw [← nI_clamp hN] at hk2
  exact va_lald (D := G.1) (tys := mTT G) hx hb X.2.2.2.2.2.2.2.2.2.1.1 hW.2 a 2 hge rfl hin hdg hk2

theorem mw_lald_v {nx tg : Nat} {a N j : Nat} {f : Nat → Int64} {v : Int64} (hf : fch M pc = some (.laload, 1, nx, tg)) (hc : h a = (.inl (.long, N, .inr (.inl f)))) (hj : j < N) (hN : j < 2147483648) (hv : f j = v) (k : MW M d mc ms n0 post nx L (.long v :: S) (h) (n) (sl)) : MW M d mc ms n0 post pc L (.int (nI j) :: .ref a :: S) (h) (n) (sl) := by
  intro G p lc e s m args below meth c X H locs ls hn hW hS hl
  obtain ⟨hdg, rfl, htg⟩ := fch_ok X.1 hf
  have hx := X.2.1
  have hb := X.2.2.1
  subst hv
  exact mw_lald hf hc hj hN k G p lc e s m args below meth c X H locs ls hn hW hS hl

theorem mw_fald {nx tg : Nat} {a N j : Nat} {f : Nat → UInt32} (hf : fch M pc = some (.faload, 1, nx, tg)) (hc : h a = (.inl (.float, N, .inr (.inr (.inl f))))) (hj : j < N) (hN : j < 2147483648) (k : MW M d mc ms n0 post nx L (.float (f j) :: S) (h) (n) (sl)) : MW M d mc ms n0 post pc L (.int (nI j) :: .ref a :: S) (h) (n) (sl) := by
  intro G p lc e s m args below meth c X H locs ls hn hW hS hl
  obtain ⟨hdg, rfl, htg⟩ := fch_ok X.1 hf
  have hx := X.2.1
  have hb := X.2.2.1
  have hge := hW.at hc dead_l
  have hk2 := k G p lc e s m args below meth c X H locs ls hn hW hS hl
  have hin : vp_in (nI j) N := by rw [vp_in, nI_clamp hN]; exact fun q => q.elim (fun q => nI_pos hN q) (fun q => by omega)
  rw [← nI_clamp hN] at hk2
  exact va_fald (D := G.1) (tys := mTT G) hx hb X.2.2.2.2.2.2.2.2.2.1.1 hW.2 a 3 hge rfl hin hdg hk2

theorem mw_fald_v {nx tg : Nat} {a N j : Nat} {f : Nat → UInt32} {v : UInt32} (hf : fch M pc = some (.faload, 1, nx, tg)) (hc : h a = (.inl (.float, N, .inr (.inr (.inl f))))) (hj : j < N) (hN : j < 2147483648) (hv : f j = v) (k : MW M d mc ms n0 post nx L (.float v :: S) (h) (n) (sl)) : MW M d mc ms n0 post pc L (.int (nI j) :: .ref a :: S) (h) (n) (sl) := by
  intro G p lc e s m args below meth c X H locs ls hn hW hS hl
  obtain ⟨hdg, rfl, htg⟩ := fch_ok X.1 hf
  have hx := X.2.1
  have hb := X.2.2.1
  subst hv
  exact mw_fald hf hc hj hN k G p lc e s m args below meth c X H locs ls hn hW hS hl

theorem mw_iast {nx tg : Nat} {a N j : Nat} {f : Nat → Int32} {x : Int32} (hf : fch M pc = some (.iastore, 1, nx, tg)) (hc : h a = (.inl (.int, N, .inl f))) (hj : j < N) (hN : j < 2147483648)  (k : MW M d mc ms n0 post nx L (S) (hset h a (.inl (.int, N, .inl (upd f j x)))) (n) (sl)) : MW M d mc ms n0 post pc L (.int x :: .int (nI j) :: .ref a :: S) (h) (n) (sl) := by
  intro G p lc e s m args below meth c X H locs ls hn hW hS hl
  obtain ⟨hdg, rfl, htg⟩ := fch_ok X.1 hf
  have hx := X.2.1
  have hb := X.2.2.1
  have hge := hW.at hc dead_l
  have hin : vp_in (nI j) N := by rw [vp_in, nI_clamp hN]; exact fun q => q.elim (fun q => nI_pos hN q) (fun q => by omega)
  refine va_iast (D := G.1) (tys := mTT G) hx hb X.2.2.2.2.2.2.2.2.2.1.1 hW.2 (mws_D G _ n) hS a 0 hge rfl hin hdg (fun H1 locs1 hP1 hD1 hS1 => ?_)
  rw [nI_clamp hN] at hP1
  exact k G p lc e s m args below meth c X H1 locs1 ls hn (hW.put _ (hW.lt hc dead_l) hP1) hS1 hl

theorem mw_zast {nx tg : Nat} {a N j : Nat} {f : Nat → Int32} {x : Int32} (hf : fch M pc = some (.bastore, 1, nx, tg)) (hc : h a = (.inl (.boolean, N, .inl f))) (hj : j < N) (hN : j < 2147483648) (hz : vp_nar .boolean x = x) (k : MW M d mc ms n0 post nx L (S) (hset h a (.inl (.boolean, N, .inl (upd f j x)))) (n) (sl)) : MW M d mc ms n0 post pc L (.int x :: .int (nI j) :: .ref a :: S) (h) (n) (sl) := by
  intro G p lc e s m args below meth c X H locs ls hn hW hS hl
  obtain ⟨hdg, rfl, htg⟩ := fch_ok X.1 hf
  have hx := X.2.1
  have hb := X.2.2.1
  have hge := hW.at hc dead_l
  have hin : vp_in (nI j) N := by rw [vp_in, nI_clamp hN]; exact fun q => q.elim (fun q => nI_pos hN q) (fun q => by omega)
  refine va_zast (D := G.1) (tys := mTT G) hx hb X.2.2.2.2.2.2.2.2.2.1.1 hW.2 (mws_D G _ n) hS a 1 hge rfl hin hdg (fun H1 locs1 hP1 hD1 hS1 => ?_)
  rw [nI_clamp hN] at hP1
  rw [hz] at hP1
  exact k G p lc e s m args below meth c X H1 locs1 ls hn (hW.put _ (hW.lt hc dead_l) hP1) hS1 hl

theorem mw_last {nx tg : Nat} {a N j : Nat} {f : Nat → Int64} {x : Int64} (hf : fch M pc = some (.lastore, 1, nx, tg)) (hc : h a = (.inl (.long, N, .inr (.inl f)))) (hj : j < N) (hN : j < 2147483648)  (k : MW M d mc ms n0 post nx L (S) (hset h a (.inl (.long, N, .inr (.inl (vp_updL f j x))))) (n) (sl)) : MW M d mc ms n0 post pc L (.long x :: .int (nI j) :: .ref a :: S) (h) (n) (sl) := by
  intro G p lc e s m args below meth c X H locs ls hn hW hS hl
  obtain ⟨hdg, rfl, htg⟩ := fch_ok X.1 hf
  have hx := X.2.1
  have hb := X.2.2.1
  have hge := hW.at hc dead_l
  have hin : vp_in (nI j) N := by rw [vp_in, nI_clamp hN]; exact fun q => q.elim (fun q => nI_pos hN q) (fun q => by omega)
  refine va_last (D := G.1) (tys := mTT G) hx hb X.2.2.2.2.2.2.2.2.2.1.1 hW.2 (mws_D G _ n) hS a 2 hge rfl hin hdg (fun H1 locs1 hP1 hD1 hS1 => ?_)
  rw [nI_clamp hN] at hP1
  exact k G p lc e s m args below meth c X H1 locs1 ls hn (hW.put _ (hW.lt hc dead_l) hP1) hS1 hl

theorem mw_fast {nx tg : Nat} {a N j : Nat} {f : Nat → UInt32} {x : UInt32} (hf : fch M pc = some (.fastore, 1, nx, tg)) (hc : h a = (.inl (.float, N, .inr (.inr (.inl f))))) (hj : j < N) (hN : j < 2147483648)  (k : MW M d mc ms n0 post nx L (S) (hset h a (.inl (.float, N, .inr (.inr (.inl (vf_upd f j x)))))) (n) (sl)) : MW M d mc ms n0 post pc L (.float x :: .int (nI j) :: .ref a :: S) (h) (n) (sl) := by
  intro G p lc e s m args below meth c X H locs ls hn hW hS hl
  obtain ⟨hdg, rfl, htg⟩ := fch_ok X.1 hf
  have hx := X.2.1
  have hb := X.2.2.1
  have hge := hW.at hc dead_l
  have hin : vp_in (nI j) N := by rw [vp_in, nI_clamp hN]; exact fun q => q.elim (fun q => nI_pos hN q) (fun q => by omega)
  refine va_fast (D := G.1) (tys := mTT G) hx hb X.2.2.2.2.2.2.2.2.2.1.1 hW.2 (mws_D G _ n) hS a 3 hge rfl hin hdg (fun H1 locs1 hP1 hD1 hS1 => ?_)
  rw [nI_clamp hN] at hP1
  exact k G p lc e s m args below meth c X H1 locs1 ls hn (hW.put _ (hW.lt hc dead_l) hP1) hS1 hl

end MWOPS
end
section
section MWOPS2
variable {M : MI} {d mc ms n0 : Nat} {post : Option Value → (Nat → MC) → Prop} {pc : Nat} {L : List (Nat × Value)} {S : List Value} {h : Nat → MC} {n sl : Nat}
theorem mw_getfield {nx tg ix ci kf a : Nat} {ty : FieldType} {fin : Bool} {fs : List Value} {v : Value} (hf : fch M pc = some (.getfield ix, 3, nx, tg)) (hfo : fldOk M.1.cls ix ci kf ty fin) (hc : h a = (.inr (ci, fs))) (hv : fs[kf]? = some v) (k : MW M d mc ms n0 post nx L (v :: S) h n sl) : MW M d mc ms n0 post pc L (.ref a :: S) h n sl := by
  intro G p lc e s m args below meth c X H locs ls hn hW hS hl
  obtain ⟨hdg, rfl, htg⟩ := fch_ok X.1 hf
  obtain ⟨C, T, N, ty0, h1, h2, h3, h4, h5, h6, h7, h8, h9⟩ := hfo
  have hts := X.2.2.2.2.2.2.2.2.1
  have hge := hW.at hc (dead_r hv)
  have hv2 : (fs.map (cvV G.2.1))[kf]? = some (cvV G.2.1 v) := by rw [List.getElem?_map, hv]; rfl
  exact va_get (D := G.1) (tys := mTT G) (Ts := lw_gd) X.2.1 X.2.2.1 hts h3 X.2.2.2.2.2.2.1 X.2.2.2.2.2.2.2.2.2.1.1 hW.2 a hge h1 kf h2 (hts _ h4) (fun x hx => by rw [h5] at hx; exact hx) hv2 hdg (k G p lc e s m args below meth c X H locs ls hn hW hS hl)
theorem cvC_set (b : Nat) (tyC : FieldType → ClassId) (ci kf : Nat) (fs : List Value) (v : Value) : (.inr (ci, (fs.map (cvV b)).set kf (cvV b v)) : va_E) = cvC b tyC (.inr (ci, fs.set kf v)) := by
  show _ = (.inr (ci, (fs.set kf v).map (cvV b)) : va_E)
  rw [List.map_set]
theorem mw_putfield {nx tg ix ci kf a : Nat} {ty : FieldType} {fs : List Value} {v : Value} (hf : fch M pc = some (.putfield ix, 3, nx, tg)) (hfo : fldOk M.1.cls ix ci kf ty false) (hc : h a = (.inr (ci, fs))) (hk : kf < fs.length) (hn1 : ∀ b, narrow ty (cvV b v) = cvV b v) (hfit : ∀ b, fits ty (cvV b v) = true) (k : MW M d mc ms n0 post nx L S (hset h a (.inr (ci, fs.set kf v))) n sl) : MW M d mc ms n0 post pc L (v :: .ref a :: S) h n sl := by
  intro G p lc e s m args below meth c X H locs ls hn hW hS hl
  obtain ⟨hdg, rfl, htg⟩ := fch_ok X.1 hf
  obtain ⟨C, T, N, ty0, h1, h2, h3, h4, h5, h6, h7, h8, h9⟩ := hfo
  have hts := X.2.2.2.2.2.2.2.2.1
  have hge := hW.at hc (dead_k hk)
  refine va_put (D := G.1) (tys := mTT G) (Ts := lw_gd) (ty := ty) (A := mA G) X.2.1 X.2.2.1 hts h3 ty0 h6 h7 X.2.2.2.2.2.2.1 X.2.2.2.2.2.2.2.2.2.1.1 hW.2 (mws_D G _ n) hS a hge h1 kf h2 (hts _ h4) (fun x hx => by rw [h5] at hx; exact hx) h9 (by rw [h6 kf h2, h8]) (hn1 _) (hfit _) (by rw [List.length_map]; exact hk) hdg (fun H1 locs1 hP1 hD1 hS1 => ?_)
  rw [cvC_set _ G.2.2] at hP1
  exact k G p lc e s m args below meth c X H1 locs1 ls hn (hW.put _ (hW.lt hc (dead_k hk)) hP1) hS1 hl
theorem mw_putfieldF {nx tg ix ci kf a : Nat} {ty : FieldType} {fs : List Value} {v : Value} (hf : fch M pc = some (.putfield ix, 3, nx, tg)) (hfo : fldOk M.1.cls ix ci kf ty true) (hnm : M.1.name = "<init>") (hcl : (vwCl[ci]?.map (fun q => q.1)) = some M.1.cls) (hc : h a = (.inr (ci, fs))) (hk : kf < fs.length) (hn1 : ∀ b, narrow ty (cvV b v) = cvV b v) (hfit : ∀ b, fits ty (cvV b v) = true) (k : MW M d mc ms n0 post nx L S (hset h a (.inr (ci, fs.set kf v))) n sl) : MW M d mc ms n0 post pc L (v :: .ref a :: S) h n sl := by
  intro G p lc e s m args below meth c X H locs ls hn hW hS hl
  obtain ⟨hdg, rfl, htg⟩ := fch_ok X.1 hf
  obtain ⟨C, T, N, ty0, h1, h2, h3, h4, h5, h6, h7, h8, h9⟩ := hfo
  have hts := X.2.2.2.2.2.2.2.2.1
  have hge := hW.at hc (dead_k hk)
  have hown : (T kf).1 = M.1.cls := by
    rw [h5]
    rw [h1] at hcl
    exact Option.some.inj hcl
  refine va_putF (D := G.1) (tys := mTT G) (Ts := lw_gd) (ty := ty) (A := mA G) X.2.1 X.2.2.1 hts h3 ty0 h6 h7 X.2.2.2.2.2.2.1 X.2.2.2.2.2.2.2.2.2.1.1 hW.2 (mws_D G _ n) hS a hge h1 kf h2 (hts _ h4) (fun x hx => by rw [h5] at hx; exact hx) h9 (X.2.2.2.2.2.2.2.1.trans hnm) hown (by rw [h6 kf h2, h8]) (hn1 _) (hfit _) (by rw [List.length_map]; exact hk) hdg (fun H1 locs1 hP1 hD1 hS1 => ?_)
  rw [cvC_set _ G.2.2] at hP1
  exact k G p lc e s m args below meth c X H1 locs1 ls hn (hW.put _ (hW.lt hc (dead_k hk)) hP1) hS1 hl
theorem mw_aald {nx tg a N j : Nat} {C : String} {ti : Nat} {f : Nat → Option Nat} {r : Nat} (hf : fch M pc = some (.aaload, 1, nx, tg)) (hc : h a = (.inl (.object C, N, .inr (.inr (.inr (.inr f)))))) (ht : mtys[ti]? = some (.object C)) (hj : j < N) (hN : j < 2147483648) (hv : f j = some r) (k : MW M d mc ms n0 post nx L (.ref r :: S) h n sl) : MW M d mc ms n0 post pc L (.int (nI j) :: .ref a :: S) h n sl := by
  intro G p lc e s m args below meth c X H locs ls hn hW hS hl
  obtain ⟨hdg, rfl, htg⟩ := fch_ok X.1 hf
  have hge := hW.at hc dead_l
  have hk2 := k G p lc e s m args below meth c X H locs ls hn hW hS hl
  have hin : vp_in (nI j) N := by rw [vp_in, nI_clamp hN]; exact fun q => q.elim (fun q => nI_pos hN q) (fun q => by omega)
  have ht2 : (mTT G)[ti]? = some (G.2.2 (.object C), .object C) := by rw [mTT, List.getElem?_map, ht]; rfl
  refine va_aldq (D := G.1) (tys := mTT G) X.2.1 X.2.2.1 X.2.2.2.2.2.2.2.2.2.1.1 hW.2 a ti hge ht2 hin hdg ?_
  rw [nI_clamp hN, hv]
  exact hk2
theorem mw_aast {nx tg a N j : Nat} {C : String} {ti ci v : Nat} {vs : List Value} {q : vw_C} {f : Nat → Option Nat} (hf : fch M pc = some (.aastore, 1, nx, tg)) (hc : h a = (.inl (.object C, N, .inr (.inr (.inr (.inr f)))))) (ht : mtys[ti]? = some (.object C)) (hv : h v = (.inr (ci, vs))) (hvd : (.inr (ci, vs) : MC) ≠ dead) (hq : vwCl[ci]? = some q) (hqC : q.1 = C) (hj : j < N) (hN : j < 2147483648) (k : MW M d mc ms n0 post nx L S (hset h a (.inl (.object C, N, .inr (.inr (.inr (.inr (va_up f j (some v)))))))) n sl) : MW M d mc ms n0 post pc L (.ref v :: .int (nI j) :: .ref a :: S) h n sl := by
  intro G p lc e s m args below meth c X H locs ls hn hW hS hl
  obtain ⟨hdg, rfl, htg⟩ := fch_ok X.1 hf
  subst hqC
  have hge := hW.at hc dead_l
  have hin : vp_in (nI j) N := by rw [vp_in, nI_clamp hN]; exact fun q => q.elim (fun q => nI_pos hN q) (fun q => by omega)
  have ht2 : (mTT G)[ti]? = some (G.2.2 (.object q.1), .object q.1) := by rw [mTT, List.getElem?_map, ht]; rfl
  refine va_astq (D := G.1) (tys := mTT G) (A := mA G) X.2.1 X.2.2.1 X.2.2.2.2.2.2.2.2.2.1.1 hW.2 (mws_D G _ n) hS a ti v ci hge ht2 (hW.at hv hvd) hq hin hdg (fun H1 locs1 hP1 hD1 hS1 => ?_)
  rw [nI_clamp hN] at hP1
  have he : va_up (fun j => (f j).map (fun k => G.2.1 + k)) j (some (G.2.1 + v)) = fun i => (va_up f j (some v) i).map (fun k => G.2.1 + k) := by
    funext i
    by_cases h : i = j
    · simp [va_up, h]
    · simp [va_up, h]
  rw [he] at hP1
  exact k G p lc e s m args below meth c X H1 locs1 ls hn (hW.put _ (hW.lt hc dead_l) hP1) hS1 hl
theorem mw_alen {nx tg a N ti : Nat} {ty : FieldType} {x : (Nat → Int32) ⊕ (Nat → Int64) ⊕ (Nat → UInt32) ⊕ (Nat → UInt64) ⊕ (Nat → Option Nat)} (hf : fch M pc = some (.arraylength, 1, nx, tg)) (hc : h a = (.inl (ty, N, x))) (ht : mtys[ti]? = some ty) (k : MW M d mc ms n0 post nx L (.int (nI N) :: S) h n sl) : MW M d mc ms n0 post pc L (.ref a :: S) h n sl := by
  intro G p lc e s m args below meth c X H locs ls hn hW hS hl
  obtain ⟨hdg, rfl, htg⟩ := fch_ok X.1 hf
  have hge := hW.at hc dead_l
  have ht2 : (mTT G)[ti]? = some (G.2.2 ty, ty) := by rw [mTT, List.getElem?_map, ht]; rfl
  have h1 : (cvA G.2.1 (N, x)).1 = N := by
    obtain f | f | f | f | f := x <;> rfl
  exact va_alen (D := G.1) (tys := mTT G) X.2.1 X.2.2.1 X.2.2.2.2.2.2.2.2.2.1.1 hW.2 a ti (x := cvA G.2.1 (N, x)) hge ht2 (by rw [h1]; rfl) hdg (k G p lc e s m args below meth c X H locs ls hn hW hS hl)
-- returns
theorem mw_ireturn {nx tg : Nat} {v : Int32} {ty : FieldType} (hf : fch M pc = some (.ireturn, 1, nx, tg)) (hr : M.2.2.2.1 = some ty) (hnr : narrow ty (.int v) = .int v) (hn2 : n = n0 + mc) (hs : sl ≤ ms) (hp : post (some (.int v)) h) : MW M d mc ms n0 post pc L [.int v] h n sl := by
  intro G p lc e s m args below meth c X H locs ls hn hW hS hl
  obtain ⟨hdg, rfl, htg⟩ := fch_ok X.1 hf
  subst hn2
  refine W.widen (k := mc) (n := ms) (by omega) hs ?_
  exact W.zret (ty := ty) (v := v) X.2.1 X.2.2.1 (X.2.2.2.1.trans hr) hnr (fun t ht hWm => ⟨⟨some (.int v), h, rfl, hp, by rw [ht]; exact hW, mK.moved hWm X.2.2.2.2.2.2.2.2.2.1⟩, hS.F ht⟩) hS.2.2 hdg (hlocks := X.2.2.2.2.1)
theorem mw_lreturn {nx tg : Nat} {v : Int64} (hf : fch M pc = some (.lreturn, 1, nx, tg)) (hr : M.2.2.2.1 = some .long) (hn2 : n = n0 + mc) (hs : sl ≤ ms) (hp : post (some (.long v)) h) : MW M d mc ms n0 post pc L [.long v] h n sl := by
  intro G p lc e s m args below meth c X H locs ls hn hW hS hl
  obtain ⟨hdg, rfl, htg⟩ := fch_ok X.1 hf
  subst hn2
  refine W.widen (k := mc) (n := ms) (by omega) hs ?_
  exact W.lret (v := v) X.2.1 X.2.2.1 (X.2.2.2.1.trans hr) (fun t ht hWm => ⟨⟨some (.long v), h, rfl, hp, by rw [ht]; exact hW, mK.moved hWm X.2.2.2.2.2.2.2.2.2.1⟩, hS.F ht⟩) hS.2.2 hdg (hlocks := X.2.2.2.2.1)
theorem mw_freturn {nx tg : Nat} {v : UInt32} (hf : fch M pc = some (.freturn, 1, nx, tg)) (hr : M.2.2.2.1 = some .float) (hn2 : n = n0 + mc) (hs : sl ≤ ms) (hp : post (some (.float v)) h) : MW M d mc ms n0 post pc L [.float v] h n sl := by
  intro G p lc e s m args below meth c X H locs ls hn hW hS hl
  obtain ⟨hdg, rfl, htg⟩ := fch_ok X.1 hf
  subst hn2
  refine W.widen (k := mc) (n := ms) (by omega) hs ?_
  exact W.fret (v := v) X.2.1 X.2.2.1 (X.2.2.2.1.trans hr) (fun t ht hWm => ⟨⟨some (.float v), h, rfl, hp, by rw [ht]; exact hW, mK.moved hWm X.2.2.2.2.2.2.2.2.2.1⟩, hS.F ht⟩) hS.2.2 hdg (hlocks := X.2.2.2.2.1)
theorem mw_return {nx tg : Nat} (hf : fch M pc = some (.return_, 1, nx, tg)) (hr : M.2.2.2.1 = none) (hn2 : n = n0 + mc) (hs : sl ≤ ms) (hp : post none h) : MW M d mc ms n0 post pc L [] h n sl := by
  intro G p lc e s m args below meth c X H locs ls hn hW hS hl
  obtain ⟨hdg, rfl, htg⟩ := fch_ok X.1 hf
  subst hn2
  refine W.widen (k := mc) (n := ms) (by omega) hs ?_
  exact W.vret X.2.1 X.2.2.1 (X.2.2.2.1.trans hr) (fun t ht hWm => ⟨⟨none, h, rfl, hp, by rw [ht]; exact hW, mK.moved hWm X.2.2.2.2.2.2.2.2.2.1⟩, hS.F ht⟩) hS.2.2 hdg (hlocks := X.2.2.2.2.1)
/-- other locals: fewer, in another order -/
theorem mw_locals {L2 : List (Nat × Value)} (hs : L2.map (fun q => mlkv L q.1) = L2.map (fun q => some q.2)) (k : MW M d mc ms n0 post pc L2 S h n sl) : MW M d mc ms n0 post pc L S h n sl := by
  intro G p lc e s m args below meth c X H locs ls hn hW hS hl
  exact k G p lc e s m args below meth c X H locs ls hn hW hS (cvL_has hl hs)
theorem mw_heap {h2 : Nat → MC} (e : h2 = h) (k : MW M d mc ms n0 post pc L S h2 n sl) : MW M d mc ms n0 post pc L S h n sl := e ▸ k
-- calls
theorem mw_goon {mc' ms' : Nat} {post' : Option Value → (Nat → MC) → Prop} {G : MG} {p : Program} {lc : Launch} {e : Env} {s : State} {m : MethodId} {args av : Array Value} {below : List Frame} {meth : Method} {c : Code} {H : Heap} {locs : List Loc} {ls : Array Slot} {st0 : List Value}
    (X : MX M G n0 p s m args meth c) (hn : n0 ≤ n) (hS : va_S (mA G) s.heap H locs) (hl : lv_has ls M.2.2.1 (cvL G.2.1 L))
    (hrun : va_Run p lc e (mroom d mc ms) s m args below meth c H locs (n - n0) sl mc' ms' (F0 m pc ls st0) (S.map (cvV G.2.1)) (MQc G (n + mc') post' av) (mA G))
    (k : ∀ r h1, post' r h1 → MW M d mc ms n0 post (pc + 3) L (r.toList ++ S) h1 (n + mc') (sl + ms')) :
    W p lc e (mroom d mc ms) s m args below meth c H locs (n - n0) sl (MQ below (MQc G (n0 + mc) post) args s mc ms (mA G)) (F0 m pc ls st0) := by
  intro T hT X0
  obtain ⟨v, st₀, t, T', Lo, e0, X', hL, e1, e2, ⟨⟨r, h1, hv, hp, hw, hk⟩, hz, hkp⟩, st⟩ := hrun T hT X0
  cases hv
  rw [e0] at hz hkp
  have hS2 : va_S (mA G) s.heap T'.heap (locs ++ Lo) := ⟨Nat.le_trans hS.1 (by rw [e1]; exact hz), fun q h1 h2 => by rw [e1, hkp q (Nat.lt_of_lt_of_le h1 hS.1) h2]; exact hS.2.1 q h1 h2, fun q hq => by
      rcases List.mem_append.mp hq with h | h
      · exact hS.2.2 q h
      · exact hL q h⟩
  have h5 := k r h1 hp G p lc e s m args below meth c X T'.heap (locs ++ Lo) ls (by omega) (by rw [e1]; exact hw) hS2 hl T' rfl (by rw [show n + mc' - n0 = n - n0 + mc' by omega]; exact X')
  obtain ⟨t2, a1, b1⟩ := h5
  refine ⟨t2, st t2 ?_, b1⟩
  have hst : (Option.map (cvV G.2.1) r).toList ++ S.map (cvV G.2.1) = (r.toList ++ S).map (cvV G.2.1) := by cases r <;> rfl
  show Steps p.tables e below (T'.setTop (F0 m (pc + 3) ls ((Option.map (cvV G.2.1) r).toList ++ S.map (cvV G.2.1)))) t2
  rw [hst]
  exact a1
theorem mg_tbl : ∀ w ∈ lw_gd, goodWord w = true := fun w h => (List.mem_filter.mp h).2
theorem mg_ws {M' : MI} (hM : mi_ok M') : GoodIn lw_gd (wsM M') := fun w hw => by
  rcases List.mem_cons.mp hw with rfl | hw
  · exact ⟨gd_code hM.2.2.2, good_of_word (mg_tbl _ (gd_code hM.2.2.2))⟩
  · exact ⟨hw, good_of_word (mg_tbl _ hw)⟩
theorem mg_in {ws : List Cond} (h : ∀ w ∈ ws, w ∈ lw_gd) {M' : MI} (hM : mi_ok M') : GoodIn lw_gd (ws ++ wsM M') := fun w hw => by
  rcases List.mem_append.mp hw with hw | hw
  · exact ⟨h w hw, good_of_word (mg_tbl _ (h w hw))⟩
  · exact mg_ws hM w hw
theorem pc_blind (G : MG) (av : List Value) (h : Nat → MC) (n : Nat) : FrameBlind (va_Pc (av.map (cvV G.2.1)) (fun U => mK G U ∧ mWd G h n U.heap ∧ U.heap.size = G.2.1 + n)) := fun a U g mk q => by
  obtain ⟨q0, q1, q2, q3⟩ := q
  exact ⟨q0, mK.same (u := U) (U := U.calling g mk a) rfl q1, q2, q3⟩
theorem mw_callV {nx tg ix na d' mc' ms' a ci : Nat} {M' : MI} {as St : List Value} {fs : List Value} {post' : Option Value → (Nat → MC) → Prop} (hsp : Sp M' d' mc' ms' (.ref a :: as) h n post') (hf : fch M pc = some (.invokevirtual ix, 3, nx, tg)) (hok : mi_ok M') (hv : mvOk M.1.cls ix M'.1 na) (hst : St = as.reverse ++ .ref a :: S) (hc : h a = (.inr (ci, fs))) (hfd : fs ≠ []) (hq : vwCl[ci]?.map (fun q => q.1) = some M'.1.cls) (hlen : (lg_sl (.ref a :: as)).length ≤ M'.2.2.1) (hna : as.length = na) (hcat : (S.map fun v => v.category).sum ≤ 8) (hd : d' < d) (hmc : n - n0 + mc' ≤ mc) (hms : sl + ms' ≤ ms)
    (k : ∀ r h1, post' r h1 → MW M d mc ms n0 post nx L (r.toList ++ S) h1 (n + mc') (sl + ms')) : MW M d mc ms n0 post pc L St h n sl := by
  intro G p lch e s m args below meth c X H locs ls hn hW hS hl
  obtain ⟨hdg, rfl, htg⟩ := fch_ok X.1 hf
  subst hst
  have hts := X.2.2.2.2.2.2.2.2.1
  intro T hT X0
  have hz := mw_sz X hn hW hT X0
  obtain ⟨q, hq1, hq2⟩ : ∃ q, vwCl[ci]? = some q ∧ q.1 = M'.1.cls := by
    cases h : vwCl[ci]? with
    | none => rw [h] at hq; cases hq
    | some q => rw [h] at hq; exact ⟨q, rfl, Option.some.inj hq⟩
  have hrecv := va_recv (D := G.1) X.2.2.2.2.2.2.2.2.2.1.1 hW.2 hq1 (hW.at hc (fun e => by cases e; exact hfd rfl))
  rw [hq2] at hrecv
  have hm := hok.2.2.1
  refine mw_goon X hn hS hl (va_runV (As := as.map (cvV G.2.1)) ⟨X.2.1, X.2.2.1, X.2.2.2.2.2.1, X.2.2.2.2.2.2.1, hts⟩ (hsp.met hok hlen lch G) (cwV na hts (mg_in hv.1 hok) rfl rfl rfl ⟨rfl, hv.2⟩ ⟨hd, ?_⟩) ⟨pc_blind G _ _ _, hrecv, fun U hU hWU => ⟨rfl, mK.moved hWU X.2.2.2.2.2.2.2.2.2.1, by rw [hU]; exact hW, by rw [hU]; exact hz⟩⟩ rfl (by rw [List.length_map]; exact hna) hl.1 (by show List.map (cvV G.2.1) (as.reverse ++ .ref a :: S) = _; simp [cvV]) (lv_room (by rw [cat_sum_cv]; exact hcat)) hdg ⟨hmc, hms⟩) k T hT X0
  show 8 + (M'.2.2.1 + 11) + 31 * d' ≤ 31 * d
  omega
theorem mw_callS {nx tg ix na d' mc' ms' : Nat} {M' : MI} {as St : List Value} {post' : Option Value → (Nat → MC) → Prop} (hsp : Sp M' d' mc' ms' as h n post') (hf : fch M pc = some (.invokestatic ix, 3, nx, tg)) (hok : mi_ok M') (hv : msOk M.1.cls ix M'.1 na) (hst : St = as.reverse ++ S) (hlen : (lg_sl as).length ≤ M'.2.2.1) (hna : as.length = na) (hcat : (S.map fun v => v.category).sum ≤ 8) (hd : d' < d) (hmc : n - n0 + mc' ≤ mc) (hms : sl + ms' ≤ ms)
    (k : ∀ r h1, post' r h1 → MW M d mc ms n0 post nx L (r.toList ++ S) h1 (n + mc') (sl + ms')) : MW M d mc ms n0 post pc L St h n sl := by
  intro G p lch e s m args below meth c X H locs ls hn hW hS hl
  obtain ⟨hdg, rfl, htg⟩ := fch_ok X.1 hf
  subst hst
  have hts := X.2.2.2.2.2.2.2.2.1
  intro T hT X0
  have hz := mw_sz X hn hW hT X0
  have hm := hok.2.2.1
  have hB : CallB (mroom d mc ms) s args M.1.cls ix M'.1 M'.2.1 M'.2.2.1 M'.2.2.2.1 (wsM M') (mroom d' mc' ms') mc' ms' na := callB_of na hts (mg_ws hok) rfl rfl rfl (hts _ (hv.1 _ (by simp))) (hts _ (hv.1 _ (by simp))) hv.2 ⟨hd, by show 8 + (M'.2.2.1 + 11) + 31 * d' ≤ 31 * d; omega⟩
  exact mw_goon X hn hS hl (va_runS (As := as.map (cvV G.2.1)) ⟨X.2.1, X.2.2.1, X.2.2.2.2.2.1, X.2.2.2.2.2.2.1, hts⟩ (hsp.met hok hlen lch G) ⟨hB, hts _ (hv.1 _ (by simp))⟩ ⟨pc_blind G _ _ _, fun U hU hWU => ⟨rfl, mK.moved hWU X.2.2.2.2.2.2.2.2.2.1, by rw [hU]; exact hW, by rw [hU]; exact hz⟩⟩ rfl (by rw [List.length_map]; exact hna) hl.1 (by show List.map (cvV G.2.1) (as.reverse ++ S) = _; simp) (lv_room (by rw [cat_sum_cv]; exact hcat)) hdg ⟨hmc, hms⟩) k T hT X0
theorem mw_callI {nx tg ix na d' mc' ms' a : Nat} {M' : MI} {as St : List Value} {post' : Option Value → (Nat → MC) → Prop} (hsp : Sp M' d' mc' ms' (.ref a :: as) h n post') (hf : fch M pc = some (.invokespecial ix, 3, nx, tg)) (hok : mi_ok M') (hret : M'.2.2.2.1 = none) (hv : miOk M.1.cls ix M'.1 na) (hst : St = as.reverse ++ .ref a :: S) (hlen : (lg_sl (.ref a :: as)).length ≤ M'.2.2.1) (hna : as.length = na) (hcat : (S.map fun v => v.category).sum ≤ 8) (hd : d' < d) (hmc : n - n0 + mc' ≤ mc) (hms : sl + ms' ≤ ms)
    (k : ∀ r h1, post' r h1 → MW M d mc ms n0 post nx L (r.toList ++ S) h1 (n + mc') (sl + ms')) : MW M d mc ms n0 post pc L St h n sl := by
  intro G p lch e s m args below meth c X H locs ls hn hW hS hl
  obtain ⟨hdg, rfl, htg⟩ := fch_ok X.1 hf
  subst hst
  have hts := X.2.2.2.2.2.2.2.2.1
  intro T hT X0
  have hz := mw_sz X hn hW hT X0
  have hm := hok.2.2.1
  have hcw := cwI (R := mroom d mc ms) (s := s) (args := args) (own := M.1.cls) (index := ix) (y := M'.1) (bytes := M'.2.1) (maxL := M'.2.2.1) (ws := wsM M') (ws' := lw_gd) (rm := mroom d' mc' ms') (mc := mc') (ms := ms') na hts (mg_ws hok) (by rw [← hret]; rfl) rfl rfl (hts _ (hv.1 _ (by simp))) (hts _ (hv.1 _ (by simp))) (hts _ (hv.1 _ (by simp))) hv.2.1 hv.2.2 ⟨hd, by show 8 + (M'.2.2.1 + 11) + 31 * d' ≤ 31 * d; omega⟩
  exact mw_goon X hn hS hl (va_runI (As := as.map (cvV G.2.1)) (b := G.2.1 + a) ⟨X.2.1, X.2.2.1, X.2.2.2.2.2.1, X.2.2.2.2.2.2.1, hts⟩ (hsp.met hok hlen lch G) hcw ⟨pc_blind G _ _ _, fun U hU hWU => ⟨rfl, mK.moved hWU X.2.2.2.2.2.2.2.2.2.1, by rw [hU]; exact hW, by rw [hU]; exact hz⟩⟩ rfl (by rw [List.length_map]; exact hna) hl.1 (by show List.map (cvV G.2.1) (as.reverse ++ .ref a :: S) = _; simp [cvV]) (lv_room (by rw [cat_sum_cv]; exact hcat)) hdg ⟨hmc, hms⟩) k T hT X0
theorem mw_callN {nx tg ix na d' mc' ms' a : Nat} {host : String} {M' : MI} {as St : List Value} {post' : Option Value → (Nat → MC) → Prop} (hsp : Sp M' d' mc' ms' (.ref a :: as) h n post') (hf : fch M pc = some (.invokespecial ix, 3, nx, tg)) (hok : mi_ok M') (hret : M'.2.2.2.1 = none) (hv : mnOk M.1.cls host ix M'.1 na) (hst : St = as.reverse ++ .ref a :: S) (hlen : (lg_sl (.ref a :: as)).length ≤ M'.2.2.1) (hna : as.length = na) (hcat : (S.map fun v => v.category).sum ≤ 8) (hd : d' < d) (hmc : n - n0 + mc' ≤ mc) (hms : sl + ms' ≤ ms)
    (k : ∀ r h1, post' r h1 → MW M d mc ms n0 post nx L (r.toList ++ S) h1 (n + mc') (sl + ms')) : MW M d mc ms n0 post pc L St h n sl := by
  intro G p lch e s m args below meth c X H locs ls hn hW hS hl
  obtain ⟨hdg, rfl, htg⟩ := fch_ok X.1 hf
  subst hst
  have hts := X.2.2.2.2.2.2.2.2.1
  intro T hT X0
  have hz := mw_sz X hn hW hT X0
  have hm := hok.2.2.1
  have hnw : va_Nw (.methodLinkNest M.1.cls ix M'.1 host) s := X.2.2.2.2.2.2.2.2.2.1.2.1 _ hv.1
  have hcw := va_cnB (R := mroom d mc ms) (s := s) (args := args) (own := M.1.cls) (host := host) (index := ix) (y := M'.1) (bytes := M'.2.1) (maxL := M'.2.2.1) (ret := none) (ws := wsM M') (ws' := lw_gd) (rm := mroom d' mc' ms') (mc := mc') (ms := ms') na hts (mg_ws hok) (by rw [← hret]; rfl) rfl rfl hnw (hts _ (hv.2.1 _ (by simp))) hv.2.2.2 ⟨hd, by show 8 + (M'.2.2.1 + 11) + 31 * d' ≤ 31 * d; omega⟩
  exact mw_goon X hn hS hl (va_runIN (As := as.map (cvV G.2.1)) (b := G.2.1 + a) ⟨X.2.1, X.2.2.1, X.2.2.2.2.2.1, X.2.2.2.2.2.2.1, hts⟩ (hsp.met hok hlen lch G) ⟨hcw, hv.2.2.1, hts _ (hv.2.1 _ (by simp))⟩ ⟨pc_blind G _ _ _, fun U hU hWU => ⟨rfl, mK.moved hWU X.2.2.2.2.2.2.2.2.2.1, by rw [hU]; exact hW, by rw [hU]; exact hz⟩⟩ rfl (by rw [List.length_map]; exact hna) hl.1 (by show List.map (cvV G.2.1) (as.reverse ++ .ref a :: S) = _; simp [cvV]) (lv_room (by rw [cat_sum_cv]; exact hcat)) hdg ⟨hmc, hms⟩) k T hT X0
end MWOPS2
end
section
section MWOPS3
variable {M : MI} {d mc ms n0 : Nat} {post : Option Value → (Nat → MC) → Prop} {pc : Nat} {L : List (Nat × Value)} {S : List Value} {h : Nat → MC} {n sl : Nat}
theorem mWd.push {G : MG} {H H1 : Heap} (hW : mWd G h n H) (c : MC) (hz : H.size = G.2.1 + n) (o1 : ∀ q, q < G.2.1 + n → H1[q]? = H[q]?) (hat : va_at G.1 vwCl (G.2.1 + n, cvC G.2.1 G.2.2 c) H1) : mWd G (hset h n c) (n + 1) H1 := by
  refine ⟨fun j h2 => ?_, ?_⟩
  · have e : ¬ j = n := by omega
    show (if j = n then c else h j) = dead
    rw [if_neg e]
    exact hW.1 j (by omega)
  · rw [← mws_push]
    refine (hW.2.kept (fun k x hx => o1 _ ?_)).app (fun k x hx => ?_)
    · have := (hW.2 k x hx).lt
      omega
    · have hz : k < 1 := (List.getElem?_eq_some_iff.mp hx).1
      rw [show k = 0 by omega] at hx
      cases hx
      exact hat
theorem mw_new {nx tg ix ci N : Nat} {fs : List Value} (hf : fch M pc = some (.new ix, 3, nx, tg)) (hno : newOk M.1.cls ix ci N fs) (hmc : n + 1 ≤ n0 + mc) (hms : sl + N ≤ ms) (k : MW M d mc ms n0 post nx L (.ref n :: S) (hset h n (.inr (ci, fs))) (n + 1) (sl + N)) : MW M d mc ms n0 post pc L S h n sl := by
  intro G p lc e s m args below meth c X H locs ls hn hW hS hl
  obtain ⟨hdg, rfl, htg⟩ := fch_ok X.1 hf
  obtain ⟨C, T, ty, h1, h2, h3, h4, h5, h6⟩ := hno
  have hts := X.2.2.2.2.2.2.2.2.1
  intro T0 hT X0
  have hz := mw_sz X hn hW hT X0
  have hKn := X.2.2.2.2.2.2.2.2.2.1.1.1 ci _ h1
  have hw1 : Cond.classLink M.1.cls ix C ∈ lw_gd := h4 _ (by simp)
  have hw2 : Cond.instantiable C N ∈ lw_gd := h4 _ (by simp)
  have hw3 : Cond.initialized C ∈ lw_gd := h4 _ (by simp)
  refine W.newcK X.2.1 X.2.2.1 X.2.2.2.2.2.2.1 (hts _ hw1) (hts _ hw2) (hts _ hw3) (g := F0 m pc ls (S.map (cvV G.2.1))) rfl hdg (show n - n0 + 1 ≤ mc by omega) hms hKn.2.1 hz (fun H1 kC hkC e1 z1 o1 => ?_) T0 hT X0
  have hat : va_at G.1 vwCl (G.2.1 + n, cvC G.2.1 G.2.2 (.inr (ci, fs))) H1 := ⟨_, h1, (u_born ty hts h2 hKn hkC e1 h3).to (fun j hj => by
    show defaultValue (ty j) = vp_V (fs.map (cvV G.2.1)) j
    rw [h6]
    exact h5 j hj)⟩
  have hk := k G p lc e s m args below meth c X H1 locs ls (by omega) (hW.push _ hz o1 hat) ⟨by have := hS.1; omega, fun x g1 g2 => (o1 x (by have := hS.1; omega)).trans (hS.2.1 x g1 g2), hS.2.2⟩ hl
  rw [show n + 1 - n0 = n - n0 + 1 by omega] at hk
  exact hk
theorem mw_newarray {nx tg N ti : Nat} {aty : ArrayType} {ty : FieldType} {x : (Nat → Int32) ⊕ (Nat → Int64) ⊕ (Nat → UInt32) ⊕ (Nat → UInt64) ⊕ (Nat → Option Nat)} (hf : fch M pc = some (.newarray aty, 2, nx, tg)) (hty : newarray.typeOf aty = ty) (ht : mtys[ti]? = some ty) (hcls : Cond.arrayClass ty ∈ lw_gd) (ha : ∀ cA, vp_cell cA (N, x) = arrV cA N (fun _ => defaultValue ty)) (hcv : ∀ b, cvA b (N, x) = (N, x)) (hN : N ≤ 100000) (hmc : n + 1 ≤ n0 + mc) (hms : sl + N ≤ ms)
    (k : MW M d mc ms n0 post nx L (.ref n :: S) (hset h n (.inl (ty, N, x))) (n + 1) (sl + N)) : MW M d mc ms n0 post pc L (.int (nI N) :: S) h n sl := by
  intro G p lc e s m args below meth c X H locs ls hn hW hS hl
  obtain ⟨hdg, rfl, htg⟩ := fch_ok X.1 hf
  subst hty
  have hts := X.2.2.2.2.2.2.2.2.1
  intro T0 hT X0
  have hz := mw_sz X hn hW hT X0
  have ht2 : (mTT G)[ti]? = some (G.2.2 (newarray.typeOf aty), newarray.typeOf aty) := by rw [mTT, List.getElem?_map, ht]; rfl
  have hRA := (X.2.2.2.2.2.2.2.2.2.1.1.2 ti _ ht2).2
  have hfc : s.vm.findClass ("[" ++ (newarray.typeOf aty).toString) = some (G.2.2 (newarray.typeOf aty)) := by cases aty <;> exact hRA
  refine va_newaK X.2.1 X.2.2.1 (hts _ hcls) (g := F0 m pc ls (.int (nI N) :: S.map (cvV G.2.1))) rfl hdg rfl (nI_pos (by omega)) (nI_clamp (by omega)) (by cases aty <;> (simp [newarray.typeOf, componentBytes]; omega)) (show n - n0 + 1 ≤ mc by omega) hms hz (fun H1 cA e1 z1 o1 hAr hNm => ?_) T0 hT X0
  have hcA : cA = G.2.2 (newarray.typeOf aty) := Option.some.inj (hNm.symm.trans hfc)
  subst hcA
  have hat : va_at G.1 vwCl (G.2.1 + n, cvC G.2.1 G.2.2 (.inl (newarray.typeOf aty, N, x))) H1 := by
    show H1[G.2.1 + n]? = some (vp_cell (G.2.2 (newarray.typeOf aty)) (cvA G.2.1 (N, x)))
    rw [hcv, ha]
    exact e1
  have hk := k G p lc e s m args below meth c X H1 locs ls (by omega) (hW.push _ hz o1 hat) ⟨by have := hS.1; omega, fun x g1 g2 => (o1 x (by have := hS.1; omega)).trans (hS.2.1 x g1 g2), hS.2.2⟩ hl
  rw [show n + 1 - n0 = n - n0 + 1 by omega] at hk
  exact hk
theorem mw_anewarray {nx tg ix N ti : Nat} {C : String} (hf : fch M pc = some (.anewarray ix, 3, nx, tg)) (hC : C = RX5 ∨ C = RX6) (ht : mtys[ti]? = some (.object C)) (hcl : Cond.classLink M.1.cls ix C ∈ lw_gd) (hN : N ≤ 100000) (hmc : n + 1 ≤ n0 + mc) (hms : sl + N ≤ ms)
    (k : MW M d mc ms n0 post nx L (.ref n :: S) (hset h n (.inl (.object C, N, .inr (.inr (.inr (.inr (fun _ => none))))))) (n + 1) (sl + N)) : MW M d mc ms n0 post pc L (.int (nI N) :: S) h n sl := by
  intro G p lc e s m args below meth c X H locs ls hn hW hS hl
  obtain ⟨hdg, rfl, htg⟩ := fch_ok X.1 hf
  have hts := X.2.2.2.2.2.2.2.2.1
  intro T0 hT X0
  have hz := mw_sz X hn hW hT X0
  have hover : va_AO C s := by
    rcases hC with rfl | rfl
    · exact X.2.2.2.2.2.2.2.2.2.1.2.2.1
    · exact X.2.2.2.2.2.2.2.2.2.1.2.2.2
  have ht2 : (mTT G)[ti]? = some (G.2.2 (.object C), .object C) := by rw [mTT, List.getElem?_map, ht]; rfl
  obtain ⟨kA0, comp0, r1, r2, r3, r4⟩ := (X.2.2.2.2.2.2.2.2.2.1.1.2 ti _ ht2).2
  refine W.anew X.2.1 X.2.2.1 X.2.2.2.2.2.2.1 (hts _ hcl) (va_AO.use hover) (g := F0 m pc ls (.int (nI N) :: S.map (cvV G.2.1))) rfl hdg rfl (nI_pos (by omega)) (by rw [nI_clamp (by omega)]; omega) (show n - n0 + 1 ≤ mc by omega) (by rw [nI_clamp (by omega)]; exact hms) (fun cA kA comp f1 f2 f3 f4 => ?_) T0 hT X0
  have hcA : cA = G.2.2 (.object C) := Option.some.inj (f1.symm.trans r4)
  subst hcA
  rw [nI_clamp (by omega)]
  generalize hH1 : H.push ({ cls := G.2.2 (.object C), slots := Array.replicate N .null, vm := .none } : Cell) = H1
  have z1 : H1.size = H.size + 1 := by rw [← hH1, Array.size_push]
  have e1 : H1[H.size]? = some (arrV (G.2.2 (.object C)) N (fun _ => .null)) := by rw [← hH1, Array.getElem?_push_size, ← arrV_new]
  have o1 : ∀ q : Nat, q < H.size → H1[q]? = H[q]? := fun q hq => by rw [← hH1, Array.getElem?_push, if_neg (Nat.ne_of_lt hq)]
  rw [hz] at z1 e1 o1
  have hat : va_at G.1 vwCl (G.2.1 + n, cvC G.2.1 G.2.2 (.inl (.object C, N, .inr (.inr (.inr (.inr (fun _ => none))))))) H1 := by
    show H1[G.2.1 + n]? = some (vp_cell _ _)
    exact e1
  have hk := k G p lc e s m args below meth c X H1 locs ls (by omega) (hW.push _ hz o1 hat) ⟨by have := hS.1; omega, fun x g1 g2 => (o1 x (by have := hS.1; omega)).trans (hS.2.1 x g1 g2), hS.2.2⟩ hl
  rw [show n + 1 - n0 = n - n0 + 1 by omega] at hk
  rw [hz]
  exact hk
theorem mw_objInit {nx tg ix a : Nat} (hf : fch M pc = some (.invokespecial ix, 3, nx, tg)) (hw : ∀ w ∈ ([.methodLink M.1.cls ix Lib.objectInit, .instanceMethod Lib.objectInit, .code Lib.objectInit ⟨#[0xb1]⟩ 1 none] : List Cond), w ∈ lw_gd) (hd : 1 ≤ d) (hcat : (S.map fun v => v.category).sum ≤ 8) (k : MW M d mc ms n0 post nx L S h n sl) : MW M d mc ms n0 post pc L (.ref a :: S) h n sl := by
  intro G p lc e s m args below meth c X H locs ls hn hW hS hl
  obtain ⟨hdg, rfl, htg⟩ := fch_ok X.1 hf
  have hts := X.2.2.2.2.2.2.2.2.1
  refine W.objInit X.2.1 X.2.2.1 X.2.2.2.2.2.2.1 (hts _ (hw _ (by simp))) (hts _ (hw _ (by simp))) (hts _ (hw (.code Lib.objectInit ⟨#[0xb1]⟩ 1 none) (by simp))) (g := F0 m pc ls ((Value.ref a :: S).map (cvV G.2.1))) rfl (by rw [X.2.2.2.2.2.1]; exact hl.1) rfl hdg hd ?_ (k G p lc e s m args below meth c X H locs ls hn hW hS hl)
  show 2 * 0 + ((S.map (cvV G.2.1)).map fun v => v.category).sum + 12 ≤ 31 * d
  rw [cat_sum_cv]
  omega
theorem mw_mmin {nx tg ix : Nat} {x y : Int32} (hf : fch M pc = some (.invokestatic ix, 3, nx, tg)) (hw : ∀ w ∈ ([.methodLink M.1.cls ix Lib.Math.min.name, .static Lib.Math.min.name, .initialized "java/lang/Math", .code Lib.Math.min.name Lib.Math.min.code 2 (some .int)] : List Cond), w ∈ lw_gd) (hd : 1 ≤ d) (hcat : (S.map fun v => v.category).sum ≤ 8) (hmc : n ≤ n0 + mc) (hms : sl ≤ ms) (k : MW M d mc ms n0 post nx L (.int (if y < x then y else x) :: S) h n sl) : MW M d mc ms n0 post pc L (.int y :: .int x :: S) h n sl := by
  intro G p lc e s m args below meth c X H locs ls hn hW hS hl
  obtain ⟨hdg, rfl, htg⟩ := fch_ok X.1 hf
  have hts := X.2.2.2.2.2.2.2.2.1
  refine va_mmin X.2.1 X.2.2.1 (by rw [X.2.2.2.2.2.1]; exact hl.1.symm) X.2.2.2.2.2.2.1 (hts _ (hw _ (by simp))) (hts _ (hw (.static Lib.Math.min.name) (by simp))) (hts _ (hw _ (by simp))) (hts _ (hw (.code Lib.Math.min.name Lib.Math.min.code 2 (some .int)) (by simp))) hd ?_ (show n - n0 ≤ mc by omega) hms hdg (k G p lc e s m args below meth c X H locs ls hn hW hS hl)
  show ((S.map (cvV G.2.1)).map fun v => v.category).sum + 13 ≤ 31 * d
  rw [cat_sum_cv]
  omega
theorem mw_mmax {nx tg ix : Nat} {x y : Int32} (hf : fch M pc = some (.invokestatic ix, 3, nx, tg)) (hw : ∀ w ∈ ([.methodLink M.1.cls ix Lib.Math.max.name, .static Lib.Math.max.name, .initialized "java/lang/Math", .code Lib.Math.max.name Lib.Math.max.code 2 (some .int)] : List Cond), w ∈ lw_gd) (hd : 1 ≤ d) (hcat : (S.map fun v => v.category).sum ≤ 8) (hmc : n ≤ n0 + mc) (hms : sl ≤ ms) (k : MW M d mc ms n0 post nx L (.int (if x < y then y else x) :: S) h n sl) : MW M d mc ms n0 post pc L (.int y :: .int x :: S) h n sl := by
  intro G p lc e s m args below meth c X H locs ls hn hW hS hl
  obtain ⟨hdg, rfl, htg⟩ := fch_ok X.1 hf
  have hts := X.2.2.2.2.2.2.2.2.1
  refine va_mmax X.2.1 X.2.2.1 (by rw [X.2.2.2.2.2.1]; exact hl.1.symm) X.2.2.2.2.2.2.1 (hts _ (hw _ (by simp))) (hts _ (hw (.static Lib.Math.max.name) (by simp))) (hts _ (hw _ (by simp))) (hts _ (hw (.code Lib.Math.max.name Lib.Math.max.code 2 (some .int)) (by simp))) hd ?_ (show n - n0 ≤ mc by omega) hms hdg (k G p lc e s m args below meth c X H locs ls hn hW hS hl)
  show ((S.map (cvV G.2.1)).map fun v => v.category).sum + 13 ≤ 31 * d
  rw [cat_sum_cv]
  omega
/-- System.arraycopy of a whole row of ints into another -/
theorem mw_acopy {nx tg ix a b N : Nat} {f g : Nat → Int32} (hf : fch M pc = some (.invokestatic ix, 3, nx, tg)) (hw : ∀ w ∈ ([.methodLink M.1.cls ix arraycopyName, .native arraycopyName, .static arraycopyName, .initialized "java/lang/System"] : List Cond), w ∈ lw_gd) (ha : h a = (.inl (.int, N, .inl f))) (hb2 : h b = (.inl (.int, N, .inl g))) (hN : N < 2147483648) (hd : 2 ≤ d) (hcat : (S.map fun v => v.category).sum ≤ 8) (k : MW M d mc ms n0 post nx L S (hset h b (.inl (.int, N, .inl (va_cpy f g 0 0 N)))) n sl) : MW M d mc ms n0 post pc L (.int (nI N) :: .int (nI 0) :: .ref b :: .int (nI 0) :: .ref a :: S) h n sl := by
  intro G p lc e s m args below meth c X H locs ls hn hW hS hl
  obtain ⟨hdg, rfl, htg⟩ := fch_ok X.1 hf
  have hts := X.2.2.2.2.2.2.2.2.1
  refine va_copyi (D := G.1) (tys := mTT G) (A := mA G) X.2.1 X.2.2.1 (by rw [X.2.2.2.2.2.1]; exact hl.1.symm) X.2.2.2.2.2.2.1 (hts _ (hw _ (by simp))) (hts _ (hw (.native arraycopyName) (by simp))) (hts _ (hw (.static arraycopyName) (by simp))) (hts _ (hw _ (by simp))) X.2.2.2.2.2.2.2.2.2.1.1 hW.2 (mws_D G _ n) hS a b 0 0 (hW.at ha dead_l) (hW.at hb2 dead_l) rfl rfl rfl (nI_pos (by omega)) (nI_pos (by omega)) (nI_pos hN) (by rw [nI_clamp hN, nI_clamp (by omega)]; omega) (by rw [nI_clamp hN, nI_clamp (by omega)]; omega) (fun i _ => rfl) (show 1 ≤ d by omega) ?_ hdg (fun H1 locs1 hP1 hD1 hS1 => ?_)
  · show ((S.map (cvV G.2.1)).map fun v => v.category).sum + (nativeFrameWords "java/lang/System" "arraycopy" 5 + 11) ≤ 31 * d
    rw [cat_sum_cv]
    have : nativeFrameWords "java/lang/System" "arraycopy" 5 ≤ 20 := by decide
    omega
  · rw [nI_clamp hN, nI_clamp (by omega)] at hP1
    exact k G p lc e s m args below meth c X H1 locs1 ls hn (hW.put _ (hW.lt hb2 dead_l) hP1) hS1 hl
end MWOPS3
end
section
section MWOPS4
variable {M : MI} {d mc ms n0 : Nat} {post : Option Value → (Nat → MC) → Prop} {pc : Nat} {L : List (Nat × Value)} {S : List Value} {h : Nat → MC} {n sl : Nat}
theorem mw_callSN {nx tg ix na d' mc' ms' : Nat} {host : String} {M' : MI} {as St : List Value} {post' : Option Value → (Nat → MC) → Prop} (hsp : Sp M' d' mc' ms' as h n post') (hf : fch M pc = some (.invokestatic ix, 3, nx, tg)) (hok : mi_ok M') (hv : mqOk M.1.cls host ix M'.1 na) (hst : St = as.reverse ++ S) (hlen : (lg_sl as).length ≤ M'.2.2.1) (hna : as.length = na) (hcat : (S.map fun v => v.category).sum ≤ 8) (hd : d' < d) (hmc : n - n0 + mc' ≤ mc) (hms : sl + ms' ≤ ms)
    (k : ∀ r h1, post' r h1 → MW M d mc ms n0 post nx L (r.toList ++ S) h1 (n + mc') (sl + ms')) : MW M d mc ms n0 post pc L St h n sl := by
  intro G p lch e s m args below meth c X H locs ls hn hW hS hl
  obtain ⟨hdg, rfl, htg⟩ := fch_ok X.1 hf
  subst hst
  have hts := X.2.2.2.2.2.2.2.2.1
  intro T hT X0
  have hz := mw_sz X hn hW hT X0
  have hm := hok.2.2.1
  have hnw : va_Nw (.methodLinkNest M.1.cls ix M'.1 host) s := X.2.2.2.2.2.2.2.2.2.1.2.1 _ hv.1
  have hcw := va_cnB (R := mroom d mc ms) (s := s) (args := args) (own := M.1.cls) (host := host) (index := ix) (y := M'.1) (bytes := M'.2.1) (maxL := M'.2.2.1) (ret := M'.2.2.2.1) (ws := wsM M') (ws' := lw_gd) (rm := mroom d' mc' ms') (mc := mc') (ms := ms') na hts (mg_ws hok) rfl rfl rfl hnw (hts _ (hv.2.1 _ (by simp))) hv.2.2 ⟨hd, by show 8 + (M'.2.2.1 + 11) + 31 * d' ≤ 31 * d; omega⟩
  exact mw_goon X hn hS hl (va_runSN (As := as.map (cvV G.2.1)) ⟨X.2.1, X.2.2.1, X.2.2.2.2.2.1, X.2.2.2.2.2.2.1, hts⟩ (hsp.met hok hlen lch G) ⟨hcw, hts _ (hv.2.1 _ (by simp)), trivial⟩ ⟨pc_blind G _ _ _, fun U hU hWU => ⟨rfl, mK.moved hWU X.2.2.2.2.2.2.2.2.2.1, by rw [hU]; exact hW, by rw [hU]; exact hz⟩⟩ rfl (by rw [List.length_map]; exact hna) hl.1 (by show List.map (cvV G.2.1) (as.reverse ++ S) = _; simp) (lv_room (by rw [cat_sum_cv]; exact hcat)) hdg ⟨hmc, hms⟩) k T hT X0
-- comparisons of numbers
theorem mw_n_ge {nx tg a b : Nat} {off : Int} (hf : fch M pc = some (.if_icmp .ge off, 3, nx, tg)) (ha : a < 2147483648) (hb : b < 2147483648) (kt : b ≤ a → MW M d mc ms n0 post tg L S h n sl) (kf : a < b → MW M d mc ms n0 post nx L S h n sl) : MW M d mc ms n0 post pc L (.int (nI b) :: .int (nI a) :: S) h n sl :=
  mw_icmp_ge hf (fun h => kt ((nI_leI hb ha).mp h)) (fun h => kf (Nat.lt_of_not_le fun q => h ((nI_leI hb ha).mpr q)))
theorem mw_n_lt {nx tg a b : Nat} {off : Int} (hf : fch M pc = some (.if_icmp .lt off, 3, nx, tg)) (ha : a < 2147483648) (hb : b < 2147483648) (kt : a < b → MW M d mc ms n0 post tg L S h n sl) (kf : b ≤ a → MW M d mc ms n0 post nx L S h n sl) : MW M d mc ms n0 post pc L (.int (nI b) :: .int (nI a) :: S) h n sl :=
  mw_icmp_lt hf (fun h => kt ((nI_ltI ha hb).mp h)) (fun h => kf (Nat.le_of_not_lt fun q => h ((nI_ltI ha hb).mpr q)))
theorem mw_n_gt {nx tg a b : Nat} {off : Int} (hf : fch M pc = some (.if_icmp .gt off, 3, nx, tg)) (ha : a < 2147483648) (hb : b < 2147483648) (kt : b < a → MW M d mc ms n0 post tg L S h n sl) (kf : a ≤ b → MW M d mc ms n0 post nx L S h n sl) : MW M d mc ms n0 post pc L (.int (nI b) :: .int (nI a) :: S) h n sl :=
  mw_icmp_gt hf (fun h => kt ((nI_ltI hb ha).mp h)) (fun h => kf (Nat.le_of_not_lt fun q => h ((nI_ltI hb ha).mpr q)))
theorem mw_n_le {nx tg a b : Nat} {off : Int} (hf : fch M pc = some (.if_icmp .le off, 3, nx, tg)) (ha : a < 2147483648) (hb : b < 2147483648) (kt : a ≤ b → MW M d mc ms n0 post tg L S h n sl) (kf : b < a → MW M d mc ms n0 post nx L S h n sl) : MW M d mc ms n0 post pc L (.int (nI b) :: .int (nI a) :: S) h n sl :=
  mw_icmp_le hf (fun h => kt ((nI_leI ha hb).mp h)) (fun h => kf (Nat.lt_of_not_le fun q => h ((nI_leI ha hb).mpr q)))
theorem mw_n_eq {nx tg a b : Nat} {off : Int} (hf : fch M pc = some (.if_icmp .eq off, 3, nx, tg)) (ha : a < 2147483648) (hb : b < 2147483648) (kt : a = b → MW M d mc ms n0 post tg L S h n sl) (kf : a ≠ b → MW M d mc ms n0 post nx L S h n sl) : MW M d mc ms n0 post pc L (.int (nI b) :: .int (nI a) :: S) h n sl :=
  mw_icmp_eq hf (fun h => kt ((nI_eq ha hb).mp h)) (fun h => kf (fun q => h ((nI_eq ha hb).mpr q)))
theorem mw_n_ne {nx tg a b : Nat} {off : Int} (hf : fch M pc = some (.if_icmp .ne off, 3, nx, tg)) (ha : a < 2147483648) (hb : b < 2147483648) (kt : a ≠ b → MW M d mc ms n0 post tg L S h n sl) (kf : a = b → MW M d mc ms n0 post nx L S h n sl) : MW M d mc ms n0 post pc L (.int (nI b) :: .int (nI a) :: S) h n sl :=
  mw_icmp_ne hf (fun h => kt (fun q => h ((nI_eq ha hb).mpr q))) (fun h => kf ((nI_eq ha hb).mp h))
/-- a truth as an int -/
def bI (b : Bool) : Int32 := if b then 1 else 0
theorem bI_nar (b : Bool) : narrow .boolean (.int (bI b)) = .int (bI b) := by cases b <;> rfl
theorem bI_fit (b : Bool) : fits .boolean (.int (bI b)) = true := by cases b <;> rfl
theorem bI_z (b : Bool) : vp_nar .boolean (bI b) = bI b := by cases b <;> rfl
theorem bI_0 (b : Bool) : bI b = 0 ↔ b = false := by cases b <;> decide
theorem mw_b_eq {nx tg : Nat} {b : Bool} {off : Int} (hf : fch M pc = some (.ifCond .eq off, 3, nx, tg)) (kt : b = false → MW M d mc ms n0 post tg L S h n sl) (kf : b = true → MW M d mc ms n0 post nx L S h n sl) : MW M d mc ms n0 post pc L (.int (bI b) :: S) h n sl :=
  mw_if_eq hf (fun h => kt ((bI_0 b).mp h)) (fun h => kf (by cases b; exact absurd rfl h; rfl))
theorem mw_b_ne {nx tg : Nat} {b : Bool} {off : Int} (hf : fch M pc = some (.ifCond .ne off, 3, nx, tg)) (kt : b = true → MW M d mc ms n0 post tg L S h n sl) (kf : b = false → MW M d mc ms n0 post nx L S h n sl) : MW M d mc ms n0 post pc L (.int (bI b) :: S) h n sl :=
  mw_if_ne hf (fun h => kt (by cases b; exact absurd rfl h; rfl)) (fun h => kf ((bI_0 b).mp h))
-- numbers
theorem mw_nadd {nx tg a b : Nat} (hf : fch M pc = some (.iadd, 1, nx, tg)) (k : MW M d mc ms n0 post nx L (.int (nI (a + b)) :: S) h n sl) : MW M d mc ms n0 post pc L (.int (nI b) :: .int (nI a) :: S) h n sl := mw_iadd hf (by rw [nI_add]; exact k)
theorem mw_nmul {nx tg a b : Nat} (hf : fch M pc = some (.imul, 1, nx, tg)) (k : MW M d mc ms n0 post nx L (.int (nI (a * b)) :: S) h n sl) : MW M d mc ms n0 post pc L (.int (nI b) :: .int (nI a) :: S) h n sl := mw_imul hf (by rw [pk_mul]; exact k)
theorem mw_nsub {nx tg a b : Nat} (hf : fch M pc = some (.isub, 1, nx, tg)) (hab : b ≤ a) (k : MW M d mc ms n0 post nx L (.int (nI (a - b)) :: S) h n sl) : MW M d mc ms n0 post pc L (.int (nI b) :: .int (nI a) :: S) h n sl := mw_isub hf (by rw [pk_sub hab]; exact k)
theorem mw_ndiv {nx tg a b : Nat} (hf : fch M pc = some (.idiv, 1, nx, tg)) (ha : a < 2147483648) (h0b : 0 < b) (hb : b < 2147483648) (k : MW M d mc ms n0 post nx L (.int (nI (a / b)) :: S) h n sl) : MW M d mc ms n0 post pc L (.int (nI b) :: .int (nI a) :: S) h n sl := mw_idiv hf (nI_ne0 h0b hb) (by rw [pk_div ha h0b hb]; exact k)
theorem mw_nrem {nx tg a b : Nat} (hf : fch M pc = some (.irem, 1, nx, tg)) (ha : a < 2147483648) (h0b : 0 < b) (hb : b < 2147483648) (k : MW M d mc ms n0 post nx L (.int (nI (a % b)) :: S) h n sl) : MW M d mc ms n0 post pc L (.int (nI b) :: .int (nI a) :: S) h n sl := mw_irem hf (nI_ne0 h0b hb) (by rw [pk_rem ha h0b hb]; exact k)
theorem mw_ninc {nx tg i a : Nat} (hf : fch M pc = some (.iinc i 1, 3, nx, tg)) (hv : mlkv L i = some (.int (nI a))) (hL : i < M.2.2.1) (k : MW M d mc ms n0 post nx (mst L i (.int (nI (a + 1)))) S h n sl) : MW M d mc ms n0 post pc L S h n sl := mw_iinc hf hv (nI_1 a) hL k
/-- a loop that counts up -/
theorem loop_up {P : Nat → Prop} (N : Nat) (hend : P N) (hstep : ∀ j, j < N → P (j + 1) → P j) : ∀ j, j ≤ N → P j := by
  intro j hj
  obtain ⟨k, rfl⟩ : ∃ k, N = j + k := ⟨N - j, by omega⟩
  induction k generalizing j with
  | zero => exact hend
  | succ k ih =>
    refine hstep j (by omega) (ih (j + 1) ?_ ?_ (by omega))
    · rw [show j + 1 + k = j + (k + 1) by omega]; exact hend
    · intro i hi; exact hstep i (by omega)
end MWOPS4
end
section
section MWM
variable {M : MI} {d mc ms n0 : Nat} {post : Option Value → (Nat → MC) → Prop} {pc : Nat} {L : List (Nat × Value)} {S : List Value} {h0 : Nat → MC} {l : MLs} {n sl : Nat}
theorem hset_mov (l : MLs) (h : Nat → MC) (k : Nat) (c : MC) : hset (mov l h) k c = mov (mput l k c) h := (mov_put l h k c).symm
theorem mw_iast_m {nx tg a N j : Nat} {f : Nat → Int32} {x : Int32} (hf : fch M pc = some (.iastore, 1, nx, tg)) (hc : mov l h0 a = (.inl (.int, N, .inl f))) (hj : j < N) (hN : j < 2147483648) (k : MW M d mc ms n0 post nx L S (mov (mput l a (.inl (.int, N, .inl (upd f j x)))) h0) n sl) : MW M d mc ms n0 post pc L (.int x :: .int (nI j) :: .ref a :: S) (mov l h0) n sl := mw_iast hf hc hj hN (by rw [hset_mov]; exact k)
theorem mw_zast_m {nx tg a N j : Nat} {f : Nat → Int32} {x : Int32} (hf : fch M pc = some (.bastore, 1, nx, tg)) (hc : mov l h0 a = (.inl (.boolean, N, .inl f))) (hj : j < N) (hN : j < 2147483648) (hz : vp_nar .boolean x = x) (k : MW M d mc ms n0 post nx L S (mov (mput l a (.inl (.boolean, N, .inl (upd f j x)))) h0) n sl) : MW M d mc ms n0 post pc L (.int x :: .int (nI j) :: .ref a :: S) (mov l h0) n sl := mw_zast hf hc hj hN hz (by rw [hset_mov]; exact k)
theorem mw_last_m {nx tg a N j : Nat} {f : Nat → Int64} {x : Int64} (hf : fch M pc = some (.lastore, 1, nx, tg)) (hc : mov l h0 a = (.inl (.long, N, .inr (.inl f)))) (hj : j < N) (hN : j < 2147483648) (k : MW M d mc ms n0 post nx L S (mov (mput l a (.inl (.long, N, .inr (.inl (vp_updL f j x))))) h0) n sl) : MW M d mc ms n0 post pc L (.long x :: .int (nI j) :: .ref a :: S) (mov l h0) n sl := mw_last hf hc hj hN (by rw [hset_mov]; exact k)
theorem mw_fast_m {nx tg a N j : Nat} {f : Nat → UInt32} {x : UInt32} (hf : fch M pc = some (.fastore, 1, nx, tg)) (hc : mov l h0 a = (.inl (.float, N, .inr (.inr (.inl f))))) (hj : j < N) (hN : j < 2147483648) (k : MW M d mc ms n0 post nx L S (mov (mput l a (.inl (.float, N, .inr (.inr (.inl (vf_upd f j x)))))) h0) n sl) : MW M d mc ms n0 post pc L (.float x :: .int (nI j) :: .ref a :: S) (mov l h0) n sl := mw_fast hf hc hj hN (by rw [hset_mov]; exact k)
theorem mw_putfield_m {nx tg ix ci kf a : Nat} {ty : FieldType} {fs : List Value} {v : Value} (hf : fch M pc = some (.putfield ix, 3, nx, tg)) (hfo : fldOk M.1.cls ix ci kf ty false) (hc : mov l h0 a = (.inr (ci, fs))) (hk : kf < fs.length) (hn1 : ∀ b, narrow ty (cvV b v) = cvV b v) (hfit : ∀ b, fits ty (cvV b v) = true) (k : MW M d mc ms n0 post nx L S (mov (mput l a (.inr (ci, fs.set kf v))) h0) n sl) : MW M d mc ms n0 post pc L (v :: .ref a :: S) (mov l h0) n sl := mw_putfield hf hfo hc hk hn1 hfit (by rw [hset_mov]; exact k)
theorem mw_acopy_m {nx tg ix a b N : Nat} {f g : Nat → Int32} (hf : fch M pc = some (.invokestatic ix, 3, nx, tg)) (hw : ∀ w ∈ ([.methodLink M.1.cls ix arraycopyName, .native arraycopyName, .static arraycopyName, .initialized "java/lang/System"] : List Cond), w ∈ lw_gd) (ha : mov l h0 a = (.inl (.int, N, .inl f))) (hb2 : mov l h0 b = (.inl (.int, N, .inl g))) (hN : N < 2147483648) (hd : 2 ≤ d) (hcat : (S.map fun v => v.category).sum ≤ 8) (k : MW M d mc ms n0 post nx L S (mov (mput l b (.inl (.int, N, .inl (va_cpy f g 0 0 N)))) h0) n sl) : MW M d mc ms n0 post pc L (.int (nI N) :: .int (nI 0) :: .ref b :: .int (nI 0) :: .ref a :: S) (mov l h0) n sl := mw_acopy hf hw ha hb2 hN hd hcat (by rw [hset_mov]; exact k)
theorem mov_self {l : MLs} {h : Nat → MC} (hs : ∀ q ∈ l, h q.1 = q.2) : mov l h = h := by
  funext j
  cases e : mlk l j with
  | none => simp [mov, e]
  | some c => simp only [mov, e]; exact (hs _ (mlk_mem e)).symm
/-- the heap with some of its cells written out -/
theorem mw_over (l : MLs) (hs : mov l h0 = h0) (k : MW M d mc ms n0 post pc L S (mov l h0) n sl) : MW M d mc ms n0 post pc L S h0 n sl := mw_heap hs k
end MWM
theorem hset_1 (h : Nat → MC) (k : Nat) (c : MC) : hset h k c = mov [(k, c)] h := by
  funext j
  by_cases e : j = k
  · subst e; simp [hset, mov, mlk]
  · simp [hset, mov, mlk, e, nbf (fun q => e q.symm)]
theorem hset_hset (h : Nat → MC) (k : Nat) (c c2 : MC) : hset (hset h k c) k c2 = hset h k c2 := by
  funext j
  by_cases e : j = k <;> simp [hset, e]
theorem hset_same (h : Nat → MC) (k : Nat) (c : MC) : hset h k c k = c := by simp [hset]
theorem hset_ne (h : Nat → MC) {k j : Nat} (c : MC) (e : j ≠ k) : hset h k c j = h j := by simp [hset, e]
theorem hset_id {h : Nat → MC} {k : Nat} {c : MC} (e : h k = c) : hset h k c = h := by
  funext j
  by_cases q : j = k
  · subst q; simp [hset, e]
  · simp [hset, q]
abbrev Fn (M : MI) (d mc ms : Nat) (av : List Value) (h : Nat → MC) (n : Nat) (r0 : Option Value) (h1 : Nat → MC) : Prop := Sp M d mc ms av h n (fun r h2 => r = r0 ∧ h2 = h1)
theorem Fn.of {M : MI} {d mc ms : Nat} {av : List Value} {h : Nat → MC} {n : Nat} {r0 : Option Value} {h1 : Nat → MC} (k : ∀ post : Option Value → (Nat → MC) → Prop, post r0 h1 → MW M d mc ms n post 0 (lv_args 0 av) [] h n 0) : Fn M d mc ms av h n r0 h1 := k _ ⟨rfl, rfl⟩
section MWF
variable {M : MI} {d mc ms n0 : Nat} {post : Option Value → (Nat → MC) → Prop} {pc : Nat} {L : List (Nat × Value)} {S : List Value} {h : Nat → MC} {n sl : Nat}
theorem mw_callV_f {nx tg ix na d' mc' ms' a ci : Nat} {M' : MI} {as St : List Value} {fs : List Value} {r0 : Option Value} {h1 : Nat → MC} (hsp : Fn M' d' mc' ms' (.ref a :: as) h n r0 h1) (hf : fch M pc = some (.invokevirtual ix, 3, nx, tg)) (hok : mi_ok M') (hv : mvOk M.1.cls ix M'.1 na) (hst : St = as.reverse ++ .ref a :: S) (hc : h a = (.inr (ci, fs))) (hfd : fs ≠ []) (hq : vwCl[ci]?.map (fun q => q.1) = some M'.1.cls) (hlen : (lg_sl (.ref a :: as)).length ≤ M'.2.2.1) (hna : as.length = na) (hcat : (S.map fun v => v.category).sum ≤ 8) (hd : d' < d) (hmc : n - n0 + mc' ≤ mc) (hms : sl + ms' ≤ ms)
    (k : MW M d mc ms n0 post nx L (r0.toList ++ S) h1 (n + mc') (sl + ms')) : MW M d mc ms n0 post pc L St h n sl := mw_callV hsp hf hok hv hst hc hfd hq hlen hna hcat hd hmc hms (fun r h2 hq => by rw [hq.1, hq.2]; exact k)
theorem mw_callS_f {nx tg ix na d' mc' ms' : Nat} {M' : MI} {as St : List Value} {r0 : Option Value} {h1 : Nat → MC} (hsp : Fn M' d' mc' ms' as h n r0 h1) (hf : fch M pc = some (.invokestatic ix, 3, nx, tg)) (hok : mi_ok M') (hv : msOk M.1.cls ix M'.1 na) (hst : St = as.reverse ++ S) (hlen : (lg_sl as).length ≤ M'.2.2.1) (hna : as.length = na) (hcat : (S.map fun v => v.category).sum ≤ 8) (hd : d' < d) (hmc : n - n0 + mc' ≤ mc) (hms : sl + ms' ≤ ms)
    (k : MW M d mc ms n0 post nx L (r0.toList ++ S) h1 (n + mc') (sl + ms')) : MW M d mc ms n0 post pc L St h n sl := mw_callS hsp hf hok hv hst hlen hna hcat hd hmc hms (fun r h2 hq => by rw [hq.1, hq.2]; exact k)
theorem mw_callI_f {nx tg ix na d' mc' ms' a : Nat} {M' : MI} {as St : List Value} {r0 : Option Value} {h1 : Nat → MC} (hsp : Fn M' d' mc' ms' (.ref a :: as) h n r0 h1) (hf : fch M pc = some (.invokespecial ix, 3, nx, tg)) (hok : mi_ok M') (hret : M'.2.2.2.1 = none) (hv : miOk M.1.cls ix M'.1 na) (hst : St = as.reverse ++ .ref a :: S) (hlen : (lg_sl (.ref a :: as)).length ≤ M'.2.2.1) (hna : as.length = na) (hcat : (S.map fun v => v.category).sum ≤ 8) (hd : d' < d) (hmc : n - n0 + mc' ≤ mc) (hms : sl + ms' ≤ ms)
    (k : MW M d mc ms n0 post nx L (r0.toList ++ S) h1 (n + mc') (sl + ms')) : MW M d mc ms n0 post pc L St h n sl := mw_callI hsp hf hok hret hv hst hlen hna hcat hd hmc hms (fun r h2 hq => by rw [hq.1, hq.2]; exact k)
theorem mw_callN_f {nx tg ix na d' mc' ms' a : Nat} {host : String} {M' : MI} {as St : List Value} {r0 : Option Value} {h1 : Nat → MC} (hsp : Fn M' d' mc' ms' (.ref a :: as) h n r0 h1) (hf : fch M pc = some (.invokespecial ix, 3, nx, tg)) (hok : mi_ok M') (hret : M'.2.2.2.1 = none) (hv : mnOk M.1.cls host ix M'.1 na) (hst : St = as.reverse ++ .ref a :: S) (hlen : (lg_sl (.ref a :: as)).length ≤ M'.2.2.1) (hna : as.length = na) (hcat : (S.map fun v => v.category).sum ≤ 8) (hd : d' < d) (hmc : n - n0 + mc' ≤ mc) (hms : sl + ms' ≤ ms)
    (k : MW M d mc ms n0 post nx L (r0.toList ++ S) h1 (n + mc') (sl + ms')) : MW M d mc ms n0 post pc L St h n sl := mw_callN hsp hf hok hret hv hst hlen hna hcat hd hmc hms (fun r h2 hq => by rw [hq.1, hq.2]; exact k)
theorem mw_callSN_f {nx tg ix na d' mc' ms' : Nat} {host : String} {M' : MI} {as St : List Value} {r0 : Option Value} {h1 : Nat → MC} (hsp : Fn M' d' mc' ms' as h n r0 h1) (hf : fch M pc = some (.invokestatic ix, 3, nx, tg)) (hok : mi_ok M') (hv : mqOk M.1.cls host ix M'.1 na) (hst : St = as.reverse ++ S) (hlen : (lg_sl as).length ≤ M'.2.2.1) (hna : as.length = na) (hcat : (S.map fun v => v.category).sum ≤ 8) (hd : d' < d) (hmc : n - n0 + mc' ≤ mc) (hms : sl + ms' ≤ ms)
    (k : MW M d mc ms n0 post nx L (r0.toList ++ S) h1 (n + mc') (sl + ms')) : MW M d mc ms n0 post pc L St h n sl := mw_callSN hsp hf hok hv hst hlen hna hcat hd hmc hms (fun r h2 hq => by rw [hq.1, hq.2]; exact k)
end MWF
/-- a row with its first i places set to v -/
def flr {α : Type} (f : Nat → α) (v : α) (i : Nat) : Nat → α := fun j => if j < i then v else f j
theorem flr_0 {α : Type} (f : Nat → α) (v : α) : flr f v 0 = f := by funext j; simp [flr]
theorem flr_upd (f : Nat → Int32) (v : Int32) (i : Nat) : upd (flr f v i) i v = flr f v (i + 1) := by
  funext j
  by_cases h : j = i
  · simp [upd, flr, h]
  · have : j < i + 1 ↔ j < i := by omega
    simp [upd, flr, h, this]
theorem flr_updL (f : Nat → Int64) (v : Int64) (i : Nat) : vp_updL (flr f v i) i v = flr f v (i + 1) := by
  funext j
  by_cases h : j = i
  · simp [vp_updL, flr, h]
  · have : j < i + 1 ↔ j < i := by omega
    simp [vp_updL, flr, h, this]
/-- whole numbers as a row -/
def vI (v : Nat → Nat) : Nat → Int32 := fun j => nI (v j)
def updN {α : Type} (v : Nat → α) (k : Nat) (x : α) : Nat → α := fun j => if j = k then x else v j
theorem vI_upd (v : Nat → Nat) (k x : Nat) : upd (vI v) k (nI x) = vI (updN v k x) := by
  funext j
  by_cases h : j = k <;> simp [upd, vI, updN, h]
theorem vI_updv (v u : Nat → Nat) (k i : Nat) : upd (vI v) k (vI u i) = vI (updN v k (u i)) := vI_upd v k (u i)
theorem updN_same {α : Type} (v : Nat → α) (k : Nat) (x : α) : updN v k x k = x := by simp [updN]
theorem updN_ne {α : Type} (v : Nat → α) {k j : Nat} (x : α) (e : j ≠ k) : updN v k x j = v j := by simp [updN, e]
/-- x is one of 0 .. n - 1 -/
def inI (x : Int32) (n : Nat) : Bool := decide (0 ≤ x ∧ x < nI n)
theorem inI_of {x : Int32} {n : Nat} (h : inI x n = true) (hn : n < 2147483648) : ∃ j, j < n ∧ x = nI j := by
  have h1 := of_decide_eq_true h
  obtain ⟨j, hj, rfl⟩ := nI_of (Int32.not_lt.mpr h1.1)
  exact ⟨j, (nI_ltI hj hn).mp h1.2, rfl⟩
theorem inI_nI {j n : Nat} (h : j < n) (hn : n < 2147483648) : inI (nI j) n = true := decide_eq_true ⟨nI_pos' (by omega), (nI_ltI (by omega) hn).mpr h⟩
theorem inI_in {x : Int32} {n : Nat} (hn : n + 1 < 2147483648) : decide (0 ≤ x ∧ x ≤ nI n) = inI x (n + 1) := by
  unfold inI
  congr 1
  apply propext
  constructor
  · rintro ⟨h1, h2⟩
    obtain ⟨j, hj, rfl⟩ := nI_of (Int32.not_lt.mpr h1)
    exact ⟨h1, (nI_ltI hj (by omega)).mpr (Nat.lt_succ_of_le ((nI_leI hj (by omega)).mp h2))⟩
  · rintro ⟨h1, h2⟩
    obtain ⟨j, hj, rfl⟩ := nI_of (Int32.not_lt.mpr h1)
    exact ⟨h1, (nI_leI hj (by omega)).mpr (Nat.le_of_lt_succ ((nI_ltI hj (by omega)).mp h2))⟩
/-- Arrays.fill(int[], int) -/
theorem c_fill (d n : Nat) (a N : Nat) (f : Nat → Int32) (v : Int32) (h : Nat → MC) (ha : h a = .inl (.int, N, .inl f)) (hN : N < 2147483648) : Fn M_J7_fill_53178 d 0 0 [.ref a, .int v] h n none (hset h a (.inl (.int, N, .inl (flr f v N)))) := by
  refine Fn.of fun post hp => ?_
  refine mw_iconst (v := nI 0) rfl (by decide) ?_
  refine mw_istore_n (i := 2) rfl rfl (Nat.le_of_ble_eq_true rfl) ?_
  refine mw_aload_n (i := 0) rfl rfl rfl ?_
  refine mw_alen (ti := 0) rfl ha rfl ?_
  refine mw_istore_n (i := 3) rfl rfl (Nat.le_of_ble_eq_true rfl) ?_
  have loop : ∀ j, j ≤ N → MW M_J7_fill_53178 d 0 0 n post 5 [(0, .ref a), (1, .int v), (2, .int (nI j)), (3, .int (nI N))] [] (hset h a (.inl (.int, N, .inl (flr f v j)))) n 0 := by
    refine loop_up N ?_ ?_
    · refine mw_iload_n (i := 2) rfl rfl rfl ?_
      refine mw_iload_n (i := 3) rfl rfl rfl ?_
      refine mw_n_ge rfl (by omega) (by omega) (fun hc => ?_) (fun hc => ?_)
      · exact mw_return rfl rfl rfl (Nat.le_refl _) (hp)
      · omega
    · intro j hj ih
      refine mw_iload_n (i := 2) rfl rfl rfl ?_
      refine mw_iload_n (i := 3) rfl rfl rfl ?_
      refine mw_n_ge rfl (by omega) (by omega) (fun hc => ?_) (fun hc => ?_)
      · omega
      · refine mw_aload_n (i := 0) rfl rfl rfl ?_
        refine mw_iload_n (i := 2) rfl rfl rfl ?_
        refine mw_iload_n (i := 1) rfl rfl rfl ?_
        refine mw_iast rfl (hset_same _ _ _) (by omega) (by omega) ?_
        rw [hset_hset, flr_upd]
        first | refine mw_ninc rfl rfl (Nat.le_of_ble_eq_true rfl) ?_ | refine mw_iinc rfl rfl rfl (Nat.le_of_ble_eq_true rfl) ?_
        refine mw_goto rfl ?_
        exact mw_locals rfl ih
  refine mw_locals (L2 := [(0, .ref a), (1, .int v), (2, .int (nI 0)), (3, .int (nI N))]) rfl ?_
  refine mw_heap ?_ (loop 0 (Nat.zero_le _))
  rw [flr_0, hset_id ha]
/-- Arrays.fill(long[], long) -/
theorem c_fillL (d n : Nat) (a N : Nat) (f : Nat → Int64) (v : Int64) (h : Nat → MC) (ha : h a = .inl (.long, N, .inr (.inl f))) (hN : N < 2147483648) : Fn M_J7_fill_d0a16 d 0 0 [.ref a, .long v] h n none (hset h a (.inl (.long, N, .inr (.inl (flr f v N))))) := by
  refine Fn.of fun post hp => ?_
  refine mw_iconst (v := nI 0) rfl (by decide) ?_
  refine mw_istore_n (i := 3) rfl rfl (Nat.le_of_ble_eq_true rfl) ?_
  refine mw_aload_n (i := 0) rfl rfl rfl ?_
  refine mw_alen (ti := 2) rfl ha rfl ?_
  refine mw_istore rfl (Nat.le_of_ble_eq_true rfl) ?_
  have loop : ∀ j, j ≤ N → MW M_J7_fill_d0a16 d 0 0 n post 6 [(0, .ref a), (1, .long v), (3, .int (nI j)), (4, .int (nI N))] [] (hset h a (.inl (.long, N, .inr (.inl (flr f v j))))) n 0 := by
    refine loop_up N ?_ ?_
    · refine mw_iload_n (i := 3) rfl rfl rfl ?_
      refine mw_iload rfl rfl ?_
      refine mw_n_ge rfl (by omega) (by omega) (fun hc => ?_) (fun hc => ?_)
      · exact mw_return rfl rfl rfl (Nat.le_refl _) (hp)
      · omega
    · intro j hj ih
      refine mw_iload_n (i := 3) rfl rfl rfl ?_
      refine mw_iload rfl rfl ?_
      refine mw_n_ge rfl (by omega) (by omega) (fun hc => ?_) (fun hc => ?_)
      · omega
      · refine mw_aload_n (i := 0) rfl rfl rfl ?_
        refine mw_iload_n (i := 3) rfl rfl rfl ?_
        refine mw_lload_n (i := 1) rfl rfl rfl ?_
        refine mw_last rfl (hset_same _ _ _) (by omega) (by omega) ?_
        rw [hset_hset, flr_updL]
        first | refine mw_ninc rfl rfl (Nat.le_of_ble_eq_true rfl) ?_ | refine mw_iinc rfl rfl rfl (Nat.le_of_ble_eq_true rfl) ?_
        refine mw_goto rfl ?_
        exact mw_locals rfl ih
  refine mw_locals (L2 := [(0, .ref a), (1, .long v), (3, .int (nI 0)), (4, .int (nI N))]) rfl ?_
  refine mw_heap ?_ (loop 0 (Nat.zero_le _))
  rw [flr_0, hset_id ha]
end
section
theorem heap1N {h : Nat → MC} {k N : Nat} {ty : FieldType} {a b : Nat → Nat} (e : ∀ i, a i = b i) : mov [(k, .inl (ty, N, .inl (vI a)))] h = mov [(k, .inl (ty, N, .inl (vI b)))] h := by rw [show a = b from funext e]
theorem heap1 {h : Nat → MC} {k N : Nat} {ty : FieldType} {a b : Nat → Int32} (e : ∀ i, a i = b i) : mov [(k, .inl (ty, N, .inl a))] h = mov [(k, .inl (ty, N, .inl b))] h := by rw [show a = b from funext e]
/-- the reference's own cell; its numbers: 0 length, 1 place, 2 literals, 3 isFound, 4 isModel, 5 roundMany, 6 holding, 7 rounds -/
def RO (w : Nat → Int32) : MC := .inr (10, [.ref 179, .ref 180, .ref 181, .ref 182, .int (w 0), .int (w 1), .ref 183, .int (w 2), .int (w 3), .int (w 4), .ref 184, .ref 185, .ref 186, .ref 187, .ref 188, .int (w 5), .ref 189, .ref 190, .ref 191, .int (w 6), .int (w 7), .ref 192, .ref 193, .ref 194, .ref 195, .ref 196, .ref 197, .ref 198])
theorem c_in (d n : Nat) (x lo hi : Int32) (h : Nat → MC) : Fn M_X10_in d 0 0 [.int x, .int lo, .int hi] h n (some (.int (bI (decide (lo ≤ x ∧ x ≤ hi))))) h := by
  refine Fn.of fun post hp => ?_
  refine mw_iload_n (i := 0) rfl rfl rfl ?_
  refine mw_iload_n (i := 1) rfl rfl rfl ?_
  refine mw_icmp_lt rfl (fun hc => ?_) (fun hc => ?_)
  · have e : decide (lo ≤ x ∧ x ≤ hi) = false := by simp; intro h1; exact absurd hc (Int32.not_lt.mpr h1)
    rw [e] at hp
    refine mw_iconst (v := nI 0) rfl (by decide) ?_
    first | exact mw_ireturn rfl rfl (bI_nar _) rfl (Nat.le_refl _) (hp) | exact mw_ireturn rfl rfl rfl rfl (Nat.le_refl _) (hp)
  · refine mw_iload_n (i := 0) rfl rfl rfl ?_
    refine mw_iload_n (i := 2) rfl rfl rfl ?_
    refine mw_icmp_gt rfl (fun hc => ?_) (fun hc => ?_)
    · have e : decide (lo ≤ x ∧ x ≤ hi) = false := by simp; intro _; exact hc
      rw [e] at hp
      refine mw_iconst (v := nI 0) rfl (by decide) ?_
      first | exact mw_ireturn rfl rfl (bI_nar _) rfl (Nat.le_refl _) (hp) | exact mw_ireturn rfl rfl rfl rfl (Nat.le_refl _) (hp)
    · have e : decide (lo ≤ x ∧ x ≤ hi) = true := by simp; exact ⟨Int32.not_lt.mp (by assumption), Int32.not_lt.mp hc⟩
      rw [e] at hp
      refine mw_iconst (v := nI 1) rfl (by decide) ?_
      refine mw_goto rfl ?_
      first | exact mw_ireturn rfl rfl (bI_nar _) rfl (Nat.le_refl _) (hp) | exact mw_ireturn rfl rfl rfl rfl (Nat.le_refl _) (hp)
theorem c_in0 (d n : Nat) (x : Int32) (m : Nat) (hm : m + 1 < 2147483648) (h : Nat → MC) : Fn M_X10_in d 0 0 [.int x, .int (nI 0), .int (nI m)] h n (some (.int (bI (inI x (m + 1))))) h := by
  have := c_in d n x (nI 0) (nI m) h
  rw [show (nI 0 : Int32) = 0 from rfl, inI_in hm] at this
  exact this
theorem c_factOf (d n : Nat) (p a b : Nat) (h : Nat → MC) : Fn M_X10_factOf d 0 0 [.int (nI p), .int (nI a), .int (nI b)] h n (some (.int (nI (36 * p + 6 * a + b)))) h := by
  refine Fn.of fun post hp => ?_
  refine mw_bipush (v := nI 36) rfl (by decide) ?_
  refine mw_iload_n (i := 0) rfl rfl rfl ?_
  first | refine mw_nmul rfl ?_ | refine mw_imul rfl ?_
  refine mw_bipush (v := nI 6) rfl (by decide) ?_
  refine mw_iload_n (i := 1) rfl rfl rfl ?_
  first | refine mw_nmul rfl ?_ | refine mw_imul rfl ?_
  first | refine mw_nadd rfl ?_ | refine mw_iadd rfl ?_
  refine mw_iload_n (i := 2) rfl rfl rfl ?_
  first | refine mw_nadd rfl ?_ | refine mw_iadd rfl ?_
  exact mw_ireturn rfl rfl rfl rfl (Nat.le_refl _) (hp)
theorem c_atomAt (d n : Nat) (r a : Nat) (h : Nat → MC) : Fn M_X10_atomAt d 0 0 [.int (nI r), .int (nI a)] h n (some (.int (nI (45 + 18 * r + 2 + 4 * a)))) h := by
  refine Fn.of fun post hp => ?_
  refine mw_bipush (v := nI 45) rfl (by decide) ?_
  refine mw_bipush (v := nI 18) rfl (by decide) ?_
  refine mw_iload_n (i := 0) rfl rfl rfl ?_
  first | refine mw_nmul rfl ?_ | refine mw_imul rfl ?_
  first | refine mw_nadd rfl ?_ | refine mw_iadd rfl ?_
  refine mw_iconst (v := nI 2) rfl (by decide) ?_
  first | refine mw_nadd rfl ?_ | refine mw_iadd rfl ?_
  refine mw_iconst (v := nI 4) rfl (by decide) ?_
  refine mw_iload_n (i := 1) rfl rfl rfl ?_
  first | refine mw_nmul rfl ?_ | refine mw_imul rfl ?_
  first | refine mw_nadd rfl ?_ | refine mw_iadd rfl ?_
  exact mw_ireturn rfl rfl rfl rfl (Nat.le_refl _) (hp)
theorem c_isConstant (d n : Nat) (c : Int32) (w : Nat → Int32) (v : Nat → Nat) (h : Nat → MC) (hO : h 178 = RO w) (hv : h 179 = .inl (.int, 189, .inl (vI v))) (h1 : 1 ≤ v 0) (h6 : v 0 ≤ 6) : Fn M_X10_isConstant (d + 1) 0 0 [.ref 178, .int c] h n (some (.int (bI (inI c (v 0))))) h := by
  refine Fn.of fun post hp => ?_
  refine mw_iload_n (i := 1) rfl rfl rfl ?_
  refine mw_iconst (v := nI 0) rfl (by decide) ?_
  refine mw_aload_n (i := 0) rfl rfl rfl ?_
  refine mw_getfield rfl f_X10_7 (by first | rfl | exact hO | exact hv) rfl ?_
  refine mw_iconst (v := nI 0) rfl (by decide) ?_
  refine mw_iald rfl (by first | rfl | exact hO | exact hv) (by omega) (by omega) ?_
  refine mw_iconst (v := nI 1) rfl (by decide) ?_
  refine mw_nsub (b := 1) rfl h1 ?_
  refine mw_callS_f (c_in0 d n c (v 0 - 1) (by omega) h) rfl ok_X10_in v_X10_80 rfl (Nat.le_of_ble_eq_true rfl) rfl (Nat.le_of_ble_eq_true rfl) (by omega) (by omega) (by omega) ?_
  rw [Nat.sub_add_cancel h1]
  first | exact mw_ireturn rfl rfl (bI_nar _) rfl (Nat.le_refl _) (hp) | exact mw_ireturn rfl rfl rfl rfl (Nat.le_refl _) (hp)
def isF (v : Nat → Nat) (p a b : Int32) : Bool := inI p 6 && (inI a (v 0) && (inI b (v 0) && (v (3 + p.toNatClampNeg) == 2 || decide (b = 0))))
theorem c_isFact (d n : Nat) (p a b : Int32) (w : Nat → Int32) (v : Nat → Nat) (h : Nat → MC) (hO : h 178 = RO w) (hv : h 179 = .inl (.int, 189, .inl (vI v))) (h1 : 1 ≤ v 0) (h6 : v 0 ≤ 6) (hpl : ∀ p, p < 6 → v (3 + p) = 1 ∨ v (3 + p) = 2) : Fn M_X10_isFact (d + 2) 0 0 [.ref 178, .int p, .int a, .int b] h n (some (.int (bI (isF v p a b)))) h := by
  refine Fn.of fun post hp => ?_
  refine mw_iload_n (i := 1) rfl rfl rfl ?_
  refine mw_iconst (v := nI 0) rfl (by decide) ?_
  refine mw_iconst (v := nI 5) rfl (by decide) ?_
  refine mw_callS_f (c_in0 (d + 1) n p 5 (by omega) h) rfl ok_X10_in v_X10_80 rfl (Nat.le_of_ble_eq_true rfl) rfl (Nat.le_of_ble_eq_true rfl) (by omega) (by omega) (by omega) ?_
  refine mw_b_eq rfl (fun hc => ?_) (fun hc => ?_)
  · have e : isF v p a b = false := by simp [isF, hc]
    rw [e] at hp
    refine mw_iconst (v := nI 0) rfl (by decide) ?_
    first | exact mw_ireturn rfl rfl (bI_nar _) rfl (Nat.le_refl _) (hp) | exact mw_ireturn rfl rfl rfl rfl (Nat.le_refl _) (hp)
  · have hc1 := hc
    obtain ⟨q, hq, rfl⟩ := inI_of hc (by omega)
    refine mw_aload_n (i := 0) rfl rfl rfl ?_
    refine mw_iload_n (i := 2) rfl rfl rfl ?_
    refine mw_callV_f (c_isConstant d n a w v h hO hv h1 h6) rfl ok_X10_isConstant v_X10_84 rfl (by first | rfl | exact hO | exact hv) (by intro e; cases e) rfl (Nat.le_of_ble_eq_true rfl) rfl (Nat.le_of_ble_eq_true rfl) (by omega) (by omega) (by omega) ?_
    refine mw_b_eq rfl (fun hc => ?_) (fun hc => ?_)
    · have e : isF v (nI q) a b = false := by simp [isF, hc]
      rw [e] at hp
      refine mw_iconst (v := nI 0) rfl (by decide) ?_
      first | exact mw_ireturn rfl rfl (bI_nar _) rfl (Nat.le_refl _) (hp) | exact mw_ireturn rfl rfl rfl rfl (Nat.le_refl _) (hp)
    · have hc2 := hc
      refine mw_aload_n (i := 0) rfl rfl rfl ?_
      refine mw_iload_n (i := 3) rfl rfl rfl ?_
      refine mw_callV_f (c_isConstant d n b w v h hO hv h1 h6) rfl ok_X10_isConstant v_X10_84 rfl (by first | rfl | exact hO | exact hv) (by intro e; cases e) rfl (Nat.le_of_ble_eq_true rfl) rfl (Nat.le_of_ble_eq_true rfl) (by omega) (by omega) (by omega) ?_
      refine mw_b_eq rfl (fun hc => ?_) (fun hc => ?_)
      · have e : isF v (nI q) a b = false := by simp [isF, hc]
        rw [e] at hp
        refine mw_iconst (v := nI 0) rfl (by decide) ?_
        first | exact mw_ireturn rfl rfl (bI_nar _) rfl (Nat.le_refl _) (hp) | exact mw_ireturn rfl rfl rfl rfl (Nat.le_refl _) (hp)
      · have hc3 := hc
        have hq2 := hpl q hq
        refine mw_aload_n (i := 0) rfl rfl rfl ?_
        refine mw_getfield rfl f_X10_7 (by first | rfl | exact hO | exact hv) rfl ?_
        refine mw_iconst (v := nI 3) rfl (by decide) ?_
        refine mw_iload_n (i := 1) rfl rfl rfl ?_
        first | refine mw_nadd rfl ?_ | refine mw_iadd rfl ?_
        refine mw_iald rfl (by first | rfl | exact hO | exact hv) (by omega) (by omega) ?_
        refine mw_iconst (v := nI 2) rfl (by decide) ?_
        refine mw_n_eq rfl (by omega) (by omega) (fun hc => ?_) (fun hc => ?_)
        · have e : isF v (nI q) a b = true := by simp [isF, hc1, hc2, hc3, nI_clamp (show q < 2 ^ 31 by omega), hc]
          rw [e] at hp
          refine mw_iconst (v := nI 1) rfl (by decide) ?_
          refine mw_goto rfl ?_
          first | exact mw_ireturn rfl rfl (bI_nar _) rfl (Nat.le_refl _) (hp) | exact mw_ireturn rfl rfl rfl rfl (Nat.le_refl _) (hp)
        · refine mw_iload_n (i := 3) rfl rfl rfl ?_
          refine mw_if_ne rfl (fun hd => ?_) (fun hd => ?_)
          · have e : isF v (nI q) a b = false := by simp [isF, hc1, hc2, hc3, nI_clamp (show q < 2 ^ 31 by omega), hc, hd]
            rw [e] at hp
            refine mw_iconst (v := nI 0) rfl (by decide) ?_
            first | exact mw_ireturn rfl rfl (bI_nar _) rfl (Nat.le_refl _) (hp) | exact mw_ireturn rfl rfl rfl rfl (Nat.le_refl _) (hp)
          · have e : isF v (nI q) a b = true := by subst hd; simp [isF, hc1, hc2, hc3]
            rw [e] at hp
            refine mw_iconst (v := nI 1) rfl (by decide) ?_
            refine mw_goto rfl ?_
            first | exact mw_ireturn rfl rfl (bI_nar _) rfl (Nat.le_refl _) (hp) | exact mw_ireturn rfl rfl rfl rfl (Nat.le_refl _) (hp)
def anewV (v : Nat → Nat) (c : Nat) : Nat → Nat := fun j => if 3 ≤ j ∧ j < 9 then 2 else if j = 0 then c else if j < 189 then 0 else v j
theorem c_anew (d n : Nat) (c : Nat) (w : Nat → Int32) (v : Nat → Nat) (h : Nat → MC) (hO : h 178 = RO w) (hv : h 179 = .inl (.int, 189, .inl (vI v))) : Fn M_X10_anew d 0 0 [.ref 178, .int (nI c)] h n none (mov [(179, .inl (.int, 189, .inl (vI (anewV v c)))), (178, RO (updN w 3 0))] h) := by
  refine Fn.of fun post hp => ?_
  refine mw_over [(179, .inl (.int, 189, .inl (vI v)))] (mov_self (by simp [hv])) ?_
  refine mw_iconst (v := nI 0) rfl (by decide) ?_
  refine mw_istore_n (i := 2) rfl rfl (Nat.le_of_ble_eq_true rfl) ?_
  have loop2 : ∀ j, j ≤ 6 → MW M_X10_anew d 0 0 n post 31 [(0, .ref 178), (1, .int (nI c)), (2, .int (nI j))] [] (mov [(179, .inl (.int, 189, .inl (vI (fun i => if 3 ≤ i ∧ i < 3 + j then 2 else if i = 0 then c else if i < 189 then 0 else v i))))] h) n 0 := by
    refine loop_up 6 ?_ ?_
    · refine mw_iload_n (i := 2) rfl rfl rfl ?_
      refine mw_bipush (v := nI 6) rfl (by decide) ?_
      refine mw_n_ge rfl (by omega) (by omega) (fun hc => ?_) (fun hc => ?_)
      · refine mw_aload_n (i := 0) rfl rfl rfl ?_
        refine mw_iconst (v := nI 0) rfl (by decide) ?_
        first | refine mw_putfield_m rfl f_X10_76 (by first | rfl | exact hO | exact hv) (Nat.le_of_ble_eq_true rfl) (fun _ => bI_nar _) (fun _ => bI_fit _) ?_ | refine mw_putfield_m rfl f_X10_76 (by first | rfl | exact hO | exact hv) (Nat.le_of_ble_eq_true rfl) (fun _ => rfl) (fun _ => rfl) ?_
        exact mw_return rfl rfl rfl (Nat.le_refl _) (hp)
      · omega
    · intro j hj ih
      refine mw_iload_n (i := 2) rfl rfl rfl ?_
      refine mw_bipush (v := nI 6) rfl (by decide) ?_
      refine mw_n_ge rfl (by omega) (by omega) (fun hc => ?_) (fun hc => ?_)
      · omega
      · refine mw_aload_n (i := 0) rfl rfl rfl ?_
        refine mw_getfield rfl f_X10_7 (by first | rfl | exact hO | exact hv) rfl ?_
        refine mw_iconst (v := nI 3) rfl (by decide) ?_
        refine mw_iload_n (i := 2) rfl rfl rfl ?_
        first | refine mw_nadd rfl ?_ | refine mw_iadd rfl ?_
        refine mw_iconst (v := nI 2) rfl (by decide) ?_
        refine mw_iast_m rfl (by first | rfl | exact hO | exact hv) (by omega) (by omega) ?_
        first | rw [vI_upd] | rw [vI_updv] | skip
        first | refine mw_ninc rfl rfl (Nat.le_of_ble_eq_true rfl) ?_ | refine mw_iinc rfl rfl rfl (Nat.le_of_ble_eq_true rfl) ?_
        refine mw_goto rfl ?_
        refine mw_locals rfl (mw_heap (heap1N fun i => ?_) ih)
        simp only [updN]
        repeat' split
        all_goals omega
  have loop : ∀ j, j ≤ 189 → MW M_X10_anew d 0 0 n post 2 [(0, .ref 178), (1, .int (nI c)), (2, .int (nI j))] [] (mov [(179, .inl (.int, 189, .inl (vI (fun i => if i < j then 0 else v i))))] h) n 0 := by
    refine loop_up 189 ?_ ?_
    · refine mw_iload_n (i := 2) rfl rfl rfl ?_
      refine mw_sipush (v := nI 189) rfl (by decide) ?_
      refine mw_n_ge rfl (by omega) (by omega) (fun hc => ?_) (fun hc => ?_)
      · refine mw_aload_n (i := 0) rfl rfl rfl ?_
        refine mw_getfield rfl f_X10_7 (by first | rfl | exact hO | exact hv) rfl ?_
        refine mw_iconst (v := nI 0) rfl (by decide) ?_
        refine mw_iload_n (i := 1) rfl rfl rfl ?_
        refine mw_iast_m rfl (by first | rfl | exact hO | exact hv) (by omega) (by omega) ?_
        first | rw [vI_upd] | rw [vI_updv] | skip
        refine mw_iconst (v := nI 0) rfl (by decide) ?_
        refine mw_istore_n (i := 2) rfl rfl (Nat.le_of_ble_eq_true rfl) ?_
        refine mw_locals (L2 := [(0, .ref 178), (1, .int (nI c)), (2, .int (nI 0))]) rfl (mw_heap (heap1N fun i => ?_) (loop2 0 (by omega)))
        simp only [updN]
        repeat' split
        all_goals omega
      · omega
    · intro j hj ih
      refine mw_iload_n (i := 2) rfl rfl rfl ?_
      refine mw_sipush (v := nI 189) rfl (by decide) ?_
      refine mw_n_ge rfl (by omega) (by omega) (fun hc => ?_) (fun hc => ?_)
      · omega
      · refine mw_aload_n (i := 0) rfl rfl rfl ?_
        refine mw_getfield rfl f_X10_7 (by first | rfl | exact hO | exact hv) rfl ?_
        refine mw_iload_n (i := 2) rfl rfl rfl ?_
        refine mw_iconst (v := nI 0) rfl (by decide) ?_
        refine mw_iast_m rfl (by first | rfl | exact hO | exact hv) (by omega) (by omega) ?_
        first | rw [vI_upd] | rw [vI_updv] | skip
        first | refine mw_ninc rfl rfl (Nat.le_of_ble_eq_true rfl) ?_ | refine mw_iinc rfl rfl rfl (Nat.le_of_ble_eq_true rfl) ?_
        refine mw_goto rfl ?_
        refine mw_locals rfl (mw_heap (heap1N fun i => ?_) ih)
        simp only [updN]
        repeat' split
        all_goals omega
  refine mw_locals (L2 := [(0, .ref 178), (1, .int (nI c)), (2, .int (nI 0))]) rfl (mw_heap ?_ (loop 0 (by omega)))
  simp
theorem c_begin_e (d n : Nat) (c : Int32) (h : Nat → MC) (hc : ¬ (1 ≤ c ∧ c ≤ 6)) : Fn M_X10_begin (d + 1) 0 0 [.ref 178, .int c] h n (some (.int (-2))) h := by
  refine Fn.of fun post hp => ?_
  refine mw_iload_n (i := 1) rfl rfl rfl ?_
  refine mw_iconst (v := nI 1) rfl (by decide) ?_
  refine mw_bipush (v := nI 6) rfl (by decide) ?_
  refine mw_callS_f (c_in d n c (nI 1) (nI 6) h) rfl ok_X10_in v_X10_80 rfl (Nat.le_of_ble_eq_true rfl) rfl (Nat.le_of_ble_eq_true rfl) (by omega) (by omega) (by omega) ?_
  refine mw_b_ne rfl (fun hd => ?_) (fun hd => ?_)
  · exact absurd (of_decide_eq_true hd) hc
  · refine mw_bipush (v := (-2)) rfl (by decide) ?_
    exact mw_ireturn rfl rfl rfl rfl (Nat.le_refl _) (hp)
theorem c_begin (d n : Nat) (c : Nat) (w : Nat → Int32) (v : Nat → Nat) (h : Nat → MC) (hO : h 178 = RO w) (hv : h 179 = .inl (.int, 189, .inl (vI v))) (hc1 : 1 ≤ c) (hc6 : c ≤ 6) : Fn M_X10_begin (d + 1) 0 0 [.ref 178, .int (nI c)] h n (some (.int (nI (v 0)))) (mov [(179, .inl (.int, 189, .inl (vI (anewV v c)))), (178, RO (updN w 3 0))] h) := by
  refine Fn.of fun post hp => ?_
  refine mw_iload_n (i := 1) rfl rfl rfl ?_
  refine mw_iconst (v := nI 1) rfl (by decide) ?_
  refine mw_bipush (v := nI 6) rfl (by decide) ?_
  refine mw_callS_f (c_in d n (nI c) (nI 1) (nI 6) h) rfl ok_X10_in v_X10_80 rfl (Nat.le_of_ble_eq_true rfl) rfl (Nat.le_of_ble_eq_true rfl) (by omega) (by omega) (by omega) ?_
  refine mw_b_ne rfl (fun hd => ?_) (fun hd => ?_)
  · refine mw_aload_n (i := 0) rfl rfl rfl ?_
    refine mw_getfield rfl f_X10_7 (by first | rfl | exact hO | exact hv) rfl ?_
    refine mw_iconst (v := nI 0) rfl (by decide) ?_
    refine mw_iald rfl (by first | rfl | exact hO | exact hv) (by omega) (by omega) ?_
    refine mw_istore_n (i := 2) rfl rfl (Nat.le_of_ble_eq_true rfl) ?_
    refine mw_aload_n (i := 0) rfl rfl rfl ?_
    refine mw_iload_n (i := 1) rfl rfl rfl ?_
    refine mw_callV_f (c_anew d n c w v h hO hv) rfl ok_X10_anew v_X10_72 rfl (by first | rfl | exact hO | exact hv) (by intro e; cases e) rfl (Nat.le_of_ble_eq_true rfl) rfl (Nat.le_of_ble_eq_true rfl) (by omega) (by omega) (by omega) ?_
    refine mw_iload_n (i := 2) rfl rfl rfl ?_
    exact mw_ireturn rfl rfl rfl rfl (Nat.le_refl _) (hp)
  · exact absurd ⟨(nI_leI (by omega) (by omega)).mpr hc1, (nI_leI (by omega) (by omega)).mpr hc6⟩ (of_decide_eq_false hd)
end
section
def anyN (f : Nat → Bool) : Nat → Bool
  | 0 => false
  | k + 1 => anyN f k || f k
theorem anyN_iff (f : Nat → Bool) : ∀ n, anyN f n = true ↔ ∃ k, k < n ∧ f k = true
  | 0 => by simp [anyN]
  | n + 1 => by
    simp only [anyN, Bool.or_eq_true, anyN_iff f n]
    constructor
    · rintro (⟨k, h1, h2⟩ | h)
      · exact ⟨k, by omega, h2⟩
      · exact ⟨n, by omega, h⟩
    · rintro ⟨k, h1, h2⟩
      by_cases e : k = n
      · subst e; exact Or.inr h2
      · exact Or.inl ⟨k, by omega, h2⟩
/-- what the kept numbers are: sizes, places, base facts, rules -/
def OkN (v : Nat → Nat) : Prop := 1 ≤ v 0 ∧ v 0 ≤ 6 ∧ v 1 ≤ 12 ∧ v 2 ≤ 8 ∧ (∀ p, p < 6 → v (3 + p) = 1 ∨ v (3 + p) = 2) ∧
  (∀ k, k < v 1 → v (9 + 3 * k) < 216 ∧ v (9 + 3 * k + 1) ≤ 99 ∧ 1 ≤ v (9 + 3 * k + 2) ∧ v (9 + 3 * k + 2) ≤ 16) ∧
  (∀ r, r < v 2 → 1 ≤ v (45 + 18 * r) ∧ v (45 + 18 * r) ≤ 9 ∧ 1 ≤ v (45 + 18 * r + 1) ∧ v (45 + 18 * r + 1) ≤ 3 ∧
    ∀ a, a ≤ v (45 + 18 * r + 1) → v (45 + 18 * r + 2 + 4 * a) < 6 ∧ v (45 + 18 * r + 2 + 4 * a + 1) < 9 ∧ v (45 + 18 * r + 2 + 4 * a + 2) < 9 ∧ v (45 + 18 * r + 2 + 4 * a + 3) ≤ 1)
def usedF (v : Nat → Nat) (p : Nat) (k : Nat) : Bool := decide (v (9 + 3 * k) / 36 = p)
def usedA (v : Nat → Nat) (p r a : Nat) : Bool := decide (v (45 + 18 * r + 2 + 4 * a) = p)
def usedR (v : Nat → Nat) (p r : Nat) : Bool := anyN (usedA v p r) (v (45 + 18 * r + 1) + 1)
def isUsedV (v : Nat → Nat) (p : Nat) : Bool := anyN (usedF v p) (v 1) || anyN (usedR v p) (v 2)
def orN (b : Bool) (f : Nat → Bool) : Nat → Bool
  | 0 => b
  | k + 1 => orN b f k || f k
theorem orN_eq (b : Bool) (f : Nat → Bool) : ∀ n, orN b f n = (b || anyN f n)
  | 0 => by simp [orN, anyN]
  | n + 1 => by simp [orN, anyN, orN_eq b f n, Bool.or_assoc]
theorem c_isUsed (d n : Nat) (p : Nat) (w : Nat → Int32) (v : Nat → Nat) (h : Nat → MC) (hO : h 178 = RO w) (hv : h 179 = .inl (.int, 189, .inl (vI v))) (hok : OkN v) (hp6 : p < 6) : Fn M_X10_isUsed (d + 1) 0 0 [.ref 178, .int (nI p)] h n (some (.int (bI (isUsedV v p)))) h := by
  obtain ⟨hn1, hn6, hf12, hr8, hpl, hfa, hru⟩ := hok
  refine Fn.of fun post hp => ?_
  have hp : post (some (.int (bI (orN (anyN (usedF v p) (v 1)) (usedR v p) (v 2))))) h := by rw [orN_eq]; exact hp
  generalize hB : anyN (usedF v p) (v 1) = B at hp
  refine mw_iconst (v := nI 0) rfl (by decide) ?_
  refine mw_istore_n (i := 2) rfl rfl (Nat.le_of_ble_eq_true rfl) ?_
  refine mw_iconst (v := nI 0) rfl (by decide) ?_
  refine mw_istore_n (i := 3) rfl rfl (Nat.le_of_ble_eq_true rfl) ?_
  have loop2 : ∀ r, r ≤ v 2 → MW M_X10_isUsed (d + 1) 0 0 n post 50 [(0, .ref 178), (1, .int (nI p)), (2, .int (bI (orN B (usedR v p) r))), (3, .int (nI r))] [] h n 0 := by
    refine loop_up (v 2) ?_ ?_
    · refine mw_iload_n (i := 3) rfl rfl rfl ?_
      refine mw_aload_n (i := 0) rfl rfl rfl ?_
      refine mw_getfield rfl f_X10_7 (by first | rfl | exact hO | exact hv) rfl ?_
      refine mw_iconst (v := nI 2) rfl (by decide) ?_
      refine mw_iald rfl (by first | rfl | exact hO | exact hv) (by omega) (by omega) ?_
      refine mw_n_ge rfl (by omega) (by omega) (fun hc => ?_) (fun hc => ?_)
      · refine mw_iload_n (i := 2) rfl rfl rfl ?_
        first | exact mw_ireturn rfl rfl (bI_nar _) rfl (Nat.le_refl _) (hp) | exact mw_ireturn rfl rfl rfl rfl (Nat.le_refl _) (hp)
      · omega
    · intro r hr ih
      obtain ⟨-, -, hl1, hl3, hat⟩ := hru r hr
      refine mw_iload_n (i := 3) rfl rfl rfl ?_
      refine mw_aload_n (i := 0) rfl rfl rfl ?_
      refine mw_getfield rfl f_X10_7 (by first | rfl | exact hO | exact hv) rfl ?_
      refine mw_iconst (v := nI 2) rfl (by decide) ?_
      refine mw_iald rfl (by first | rfl | exact hO | exact hv) (by omega) (by omega) ?_
      refine mw_n_ge rfl (by omega) (by omega) (fun hc => ?_) (fun hc => ?_)
      · omega
      · refine mw_iconst (v := nI 0) rfl (by decide) ?_
        refine mw_istore rfl (Nat.le_of_ble_eq_true rfl) ?_
        have loop3 : ∀ a, a ≤ v (45 + 18 * r + 1) + 1 → MW M_X10_isUsed (d + 1) 0 0 n post 63 [(0, .ref 178), (1, .int (nI p)), (2, .int (bI (orN (orN B (usedR v p) r) (usedA v p r) a))), (3, .int (nI r)), (4, .int (nI a))] [] h n 0 := by
          refine loop_up (v (45 + 18 * r + 1) + 1) ?_ ?_
          · refine mw_iload rfl rfl ?_
            refine mw_aload_n (i := 0) rfl rfl rfl ?_
            refine mw_getfield rfl f_X10_7 (by first | rfl | exact hO | exact hv) rfl ?_
            refine mw_bipush (v := nI 45) rfl (by decide) ?_
            refine mw_bipush (v := nI 18) rfl (by decide) ?_
            refine mw_iload_n (i := 3) rfl rfl rfl ?_
            first | refine mw_nmul rfl ?_ | refine mw_imul rfl ?_
            first | refine mw_nadd rfl ?_ | refine mw_iadd rfl ?_
            refine mw_iconst (v := nI 1) rfl (by decide) ?_
            first | refine mw_nadd rfl ?_ | refine mw_iadd rfl ?_
            refine mw_iald rfl (by first | rfl | exact hO | exact hv) (by omega) (by omega) ?_
            refine mw_n_gt rfl (by omega) (by omega) (fun hc => ?_) (fun hc => ?_)
            · first | refine mw_ninc rfl rfl (Nat.le_of_ble_eq_true rfl) ?_ | refine mw_iinc rfl rfl rfl (Nat.le_of_ble_eq_true rfl) ?_
              refine mw_goto rfl ?_
              refine mw_locals ?_ ih
              rw [show orN B (usedR v p) (r + 1) = orN (orN B (usedR v p) r) (usedA v p r) (v (45 + 18 * r + 1) + 1) by rw [orN_eq (orN B (usedR v p) r)]; rfl]
              rfl
            · omega
          · intro a ha ih3
            refine mw_iload rfl rfl ?_
            refine mw_aload_n (i := 0) rfl rfl rfl ?_
            refine mw_getfield rfl f_X10_7 (by first | rfl | exact hO | exact hv) rfl ?_
            refine mw_bipush (v := nI 45) rfl (by decide) ?_
            refine mw_bipush (v := nI 18) rfl (by decide) ?_
            refine mw_iload_n (i := 3) rfl rfl rfl ?_
            first | refine mw_nmul rfl ?_ | refine mw_imul rfl ?_
            first | refine mw_nadd rfl ?_ | refine mw_iadd rfl ?_
            refine mw_iconst (v := nI 1) rfl (by decide) ?_
            first | refine mw_nadd rfl ?_ | refine mw_iadd rfl ?_
            refine mw_iald rfl (by first | rfl | exact hO | exact hv) (by omega) (by omega) ?_
            refine mw_n_gt rfl (by omega) (by omega) (fun hc => ?_) (fun hc => ?_)
            · omega
            · refine mw_iload_n (i := 2) rfl rfl rfl ?_
              refine mw_b_ne rfl (fun hb => ?_) (fun hb => ?_)
              · refine mw_iconst (v := nI 1) rfl (by decide) ?_
                refine mw_goto rfl ?_
                refine mw_istore_n (i := 2) rfl rfl (Nat.le_of_ble_eq_true rfl) ?_
                first | refine mw_ninc rfl rfl (Nat.le_of_ble_eq_true rfl) ?_ | refine mw_iinc rfl rfl rfl (Nat.le_of_ble_eq_true rfl) ?_
                refine mw_goto rfl ?_
                refine mw_locals ?_ ih3
                rw [show orN (orN B (usedR v p) r) (usedA v p r) (a + 1) = true by simp [orN, hb]]
                rfl
              · refine mw_aload_n (i := 0) rfl rfl rfl ?_
                refine mw_getfield rfl f_X10_7 (by first | rfl | exact hO | exact hv) rfl ?_
                refine mw_iload_n (i := 3) rfl rfl rfl ?_
                refine mw_iload rfl rfl ?_
                refine mw_callS_f (c_atomAt d n r a h) rfl ok_X10_atomAt v_X10_88 rfl (Nat.le_of_ble_eq_true rfl) rfl (Nat.le_of_ble_eq_true rfl) (by omega) (by omega) (by omega) ?_
                have := (hat a (by omega)).1
                refine mw_iald rfl (by first | rfl | exact hO | exact hv) (by omega) (by omega) ?_
                refine mw_iload_n (i := 1) rfl rfl rfl ?_
                refine mw_n_ne rfl (by omega) (by omega) (fun he => ?_) (fun he => ?_)
                · refine mw_iconst (v := nI 0) rfl (by decide) ?_
                  refine mw_istore_n (i := 2) rfl rfl (Nat.le_of_ble_eq_true rfl) ?_
                  first | refine mw_ninc rfl rfl (Nat.le_of_ble_eq_true rfl) ?_ | refine mw_iinc rfl rfl rfl (Nat.le_of_ble_eq_true rfl) ?_
                  refine mw_goto rfl ?_
                  refine mw_locals ?_ ih3
                  rw [show orN (orN B (usedR v p) r) (usedA v p r) (a + 1) = false by simp [orN, hb, usedA, he]]
                  rfl
                · refine mw_iconst (v := nI 1) rfl (by decide) ?_
                  refine mw_goto rfl ?_
                  refine mw_istore_n (i := 2) rfl rfl (Nat.le_of_ble_eq_true rfl) ?_
                  first | refine mw_ninc rfl rfl (Nat.le_of_ble_eq_true rfl) ?_ | refine mw_iinc rfl rfl rfl (Nat.le_of_ble_eq_true rfl) ?_
                  refine mw_goto rfl ?_
                  refine mw_locals ?_ ih3
                  rw [show orN (orN B (usedR v p) r) (usedA v p r) (a + 1) = true by simp [orN, usedA, he]]
                  rfl
        exact mw_locals rfl (loop3 0 (Nat.zero_le _))
  have loop : ∀ j, j ≤ v 1 → MW M_X10_isUsed (d + 1) 0 0 n post 4 [(0, .ref 178), (1, .int (nI p)), (2, .int (bI (anyN (usedF v p) j))), (3, .int (nI j))] [] h n 0 := by
    refine loop_up (v 1) ?_ ?_
    · refine mw_iload_n (i := 3) rfl rfl rfl ?_
      refine mw_aload_n (i := 0) rfl rfl rfl ?_
      refine mw_getfield rfl f_X10_7 (by first | rfl | exact hO | exact hv) rfl ?_
      refine mw_iconst (v := nI 1) rfl (by decide) ?_
      refine mw_iald rfl (by first | rfl | exact hO | exact hv) (by omega) (by omega) ?_
      refine mw_n_ge rfl (by omega) (by omega) (fun hc => ?_) (fun hc => ?_)
      · rw [hB]
        refine mw_iconst (v := nI 0) rfl (by decide) ?_
        refine mw_istore_n (i := 3) rfl rfl (Nat.le_of_ble_eq_true rfl) ?_
        exact mw_locals rfl (loop2 0 (Nat.zero_le _))
      · omega
    · intro j hj ih
      have hj2 := (hfa j hj).1
      refine mw_iload_n (i := 3) rfl rfl rfl ?_
      refine mw_aload_n (i := 0) rfl rfl rfl ?_
      refine mw_getfield rfl f_X10_7 (by first | rfl | exact hO | exact hv) rfl ?_
      refine mw_iconst (v := nI 1) rfl (by decide) ?_
      refine mw_iald rfl (by first | rfl | exact hO | exact hv) (by omega) (by omega) ?_
      refine mw_n_ge rfl (by omega) (by omega) (fun hc => ?_) (fun hc => ?_)
      · omega
      · refine mw_iload_n (i := 2) rfl rfl rfl ?_
        refine mw_b_ne rfl (fun hb => ?_) (fun hb => ?_)
        · refine mw_iconst (v := nI 1) rfl (by decide) ?_
          refine mw_goto rfl ?_
          refine mw_istore_n (i := 2) rfl rfl (Nat.le_of_ble_eq_true rfl) ?_
          first | refine mw_ninc rfl rfl (Nat.le_of_ble_eq_true rfl) ?_ | refine mw_iinc rfl rfl rfl (Nat.le_of_ble_eq_true rfl) ?_
          refine mw_goto rfl ?_
          refine mw_locals ?_ ih
          rw [show anyN (usedF v p) (j + 1) = true by simp [anyN, hb]]
          rfl
        · refine mw_aload_n (i := 0) rfl rfl rfl ?_
          refine mw_getfield rfl f_X10_7 (by first | rfl | exact hO | exact hv) rfl ?_
          refine mw_bipush (v := nI 9) rfl (by decide) ?_
          refine mw_iconst (v := nI 3) rfl (by decide) ?_
          refine mw_iload_n (i := 3) rfl rfl rfl ?_
          first | refine mw_nmul rfl ?_ | refine mw_imul rfl ?_
          first | refine mw_nadd rfl ?_ | refine mw_iadd rfl ?_
          refine mw_iald rfl (by first | rfl | exact hO | exact hv) (by omega) (by omega) ?_
          refine mw_bipush (v := nI 36) rfl (by decide) ?_
          refine mw_ndiv rfl (by omega) (by omega) (by omega) ?_
          refine mw_iload_n (i := 1) rfl rfl rfl ?_
          refine mw_n_ne rfl (by omega) (by omega) (fun he => ?_) (fun he => ?_)
          · refine mw_iconst (v := nI 0) rfl (by decide) ?_
            refine mw_istore_n (i := 2) rfl rfl (Nat.le_of_ble_eq_true rfl) ?_
            first | refine mw_ninc rfl rfl (Nat.le_of_ble_eq_true rfl) ?_ | refine mw_iinc rfl rfl rfl (Nat.le_of_ble_eq_true rfl) ?_
            refine mw_goto rfl ?_
            refine mw_locals ?_ ih
            rw [show anyN (usedF v p) (j + 1) = false by simp [anyN, hb, usedF, he]]
            rfl
          · refine mw_iconst (v := nI 1) rfl (by decide) ?_
            refine mw_goto rfl ?_
            refine mw_istore_n (i := 2) rfl rfl (Nat.le_of_ble_eq_true rfl) ?_
            first | refine mw_ninc rfl rfl (Nat.le_of_ble_eq_true rfl) ?_ | refine mw_iinc rfl rfl rfl (Nat.le_of_ble_eq_true rfl) ?_
            refine mw_goto rfl ?_
            refine mw_locals ?_ ih
            rw [show anyN (usedF v p) (j + 1) = true by simp [anyN, usedF, he]]
            rfl
  exact mw_locals rfl (loop 0 (Nat.zero_le _))
theorem c_setPlaces_e1 (d n : Nat) (x y : Int32) (h : Nat → MC) (hx : inI x 6 = false) : Fn M_X10_setPlaces (d + 2) 0 0 [.ref 178, .int x, .int y] h n (some (.int (-1))) h := by
  refine Fn.of fun post hp => ?_
  refine mw_iload_n (i := 1) rfl rfl rfl ?_
  refine mw_iconst (v := nI 0) rfl (by decide) ?_
  refine mw_iconst (v := nI 5) rfl (by decide) ?_
  refine mw_callS_f (c_in0 (d + 1) n x 5 (by omega) h) rfl ok_X10_in v_X10_80 rfl (Nat.le_of_ble_eq_true rfl) rfl (Nat.le_of_ble_eq_true rfl) (by omega) (by omega) (by omega) ?_
  rw [hx]
  refine mw_b_ne rfl (fun hd => ?_) (fun hd => ?_)
  · cases hd
  · refine mw_iconst (v := (-1)) rfl (by decide) ?_
    exact mw_ireturn rfl rfl rfl rfl (Nat.le_refl _) (hp)
theorem c_setPlaces_e2 (d n : Nat) (p : Nat) (y : Int32) (h : Nat → MC) (hx : p < 6) (hy : ¬ (nI 1 ≤ y ∧ y ≤ nI 2)) : Fn M_X10_setPlaces (d + 2) 0 0 [.ref 178, .int (nI p), .int y] h n (some (.int (-2))) h := by
  refine Fn.of fun post hp => ?_
  refine mw_iload_n (i := 1) rfl rfl rfl ?_
  refine mw_iconst (v := nI 0) rfl (by decide) ?_
  refine mw_iconst (v := nI 5) rfl (by decide) ?_
  refine mw_callS_f (c_in0 (d + 1) n (nI p) 5 (by omega) h) rfl ok_X10_in v_X10_80 rfl (Nat.le_of_ble_eq_true rfl) rfl (Nat.le_of_ble_eq_true rfl) (by omega) (by omega) (by omega) ?_
  rw [inI_nI hx (by omega)]
  refine mw_b_ne rfl (fun hd => ?_) (fun hd => ?_)
  · refine mw_iload_n (i := 2) rfl rfl rfl ?_
    refine mw_iconst (v := nI 1) rfl (by decide) ?_
    refine mw_iconst (v := nI 2) rfl (by decide) ?_
    refine mw_callS_f (c_in (d + 1) n y (nI 1) (nI 2) h) rfl ok_X10_in v_X10_80 rfl (Nat.le_of_ble_eq_true rfl) rfl (Nat.le_of_ble_eq_true rfl) (by omega) (by omega) (by omega) ?_
    rw [decide_eq_false hy]
    refine mw_b_ne rfl (fun he => ?_) (fun he => ?_)
    · cases he
    · refine mw_bipush (v := (-2)) rfl (by decide) ?_
      exact mw_ireturn rfl rfl rfl rfl (Nat.le_refl _) (hp)
  · cases hd
theorem c_setPlaces_e3 (d n : Nat) (p q : Nat) (w : Nat → Int32) (v : Nat → Nat) (h : Nat → MC) (hO : h 178 = RO w) (hv : h 179 = .inl (.int, 189, .inl (vI v))) (hok : OkN v) (hx : p < 6) (hy : 1 ≤ q ∧ q ≤ 2) (hu : isUsedV v p = true) : Fn M_X10_setPlaces (d + 2) 0 0 [.ref 178, .int (nI p), .int (nI q)] h n (some (.int (-3))) h := by
  refine Fn.of fun post hp => ?_
  refine mw_iload_n (i := 1) rfl rfl rfl ?_
  refine mw_iconst (v := nI 0) rfl (by decide) ?_
  refine mw_iconst (v := nI 5) rfl (by decide) ?_
  refine mw_callS_f (c_in0 (d + 1) n (nI p) 5 (by omega) h) rfl ok_X10_in v_X10_80 rfl (Nat.le_of_ble_eq_true rfl) rfl (Nat.le_of_ble_eq_true rfl) (by omega) (by omega) (by omega) ?_
  rw [inI_nI hx (by omega)]
  refine mw_b_ne rfl (fun hd => ?_) (fun hd => ?_)
  · refine mw_iload_n (i := 2) rfl rfl rfl ?_
    refine mw_iconst (v := nI 1) rfl (by decide) ?_
    refine mw_iconst (v := nI 2) rfl (by decide) ?_
    refine mw_callS_f (c_in (d + 1) n (nI q) (nI 1) (nI 2) h) rfl ok_X10_in v_X10_80 rfl (Nat.le_of_ble_eq_true rfl) rfl (Nat.le_of_ble_eq_true rfl) (by omega) (by omega) (by omega) ?_
    rw [decide_eq_true (show nI 1 ≤ nI q ∧ nI q ≤ nI 2 from ⟨(nI_leI (by omega) (by omega)).mpr hy.1, (nI_leI (by omega) (by omega)).mpr hy.2⟩)]
    refine mw_b_ne rfl (fun he => ?_) (fun he => ?_)
    · refine mw_aload_n (i := 0) rfl rfl rfl ?_
      refine mw_iload_n (i := 1) rfl rfl rfl ?_
      refine mw_callV_f (c_isUsed d n p w v h hO hv hok hx) rfl ok_X10_isUsed v_X10_92 rfl (by first | rfl | exact hO | exact hv) (by intro e; cases e) rfl (Nat.le_of_ble_eq_true rfl) rfl (Nat.le_of_ble_eq_true rfl) (by omega) (by omega) (by omega) ?_
      rw [hu]
      refine mw_b_eq rfl (fun hg => ?_) (fun hg => ?_)
      · cases hg
      · refine mw_bipush (v := (-3)) rfl (by decide) ?_
        exact mw_ireturn rfl rfl rfl rfl (Nat.le_refl _) (hp)
    · cases he
  · cases hd
theorem c_setPlaces (d n : Nat) (p q : Nat) (w : Nat → Int32) (v : Nat → Nat) (h : Nat → MC) (hO : h 178 = RO w) (hv : h 179 = .inl (.int, 189, .inl (vI v))) (hok : OkN v) (hx : p < 6) (hy : 1 ≤ q ∧ q ≤ 2) (hu : isUsedV v p = false) : Fn M_X10_setPlaces (d + 2) 0 0 [.ref 178, .int (nI p), .int (nI q)] h n (some (.int (nI (v (3 + p))))) (hset h 179 (.inl (.int, 189, .inl (vI (updN v (3 + p) q))))) := by
  refine Fn.of fun post hp => ?_
  refine mw_iload_n (i := 1) rfl rfl rfl ?_
  refine mw_iconst (v := nI 0) rfl (by decide) ?_
  refine mw_iconst (v := nI 5) rfl (by decide) ?_
  refine mw_callS_f (c_in0 (d + 1) n (nI p) 5 (by omega) h) rfl ok_X10_in v_X10_80 rfl (Nat.le_of_ble_eq_true rfl) rfl (Nat.le_of_ble_eq_true rfl) (by omega) (by omega) (by omega) ?_
  rw [inI_nI hx (by omega)]
  refine mw_b_ne rfl (fun hd => ?_) (fun hd => ?_)
  · refine mw_iload_n (i := 2) rfl rfl rfl ?_
    refine mw_iconst (v := nI 1) rfl (by decide) ?_
    refine mw_iconst (v := nI 2) rfl (by decide) ?_
    refine mw_callS_f (c_in (d + 1) n (nI q) (nI 1) (nI 2) h) rfl ok_X10_in v_X10_80 rfl (Nat.le_of_ble_eq_true rfl) rfl (Nat.le_of_ble_eq_true rfl) (by omega) (by omega) (by omega) ?_
    rw [decide_eq_true (show nI 1 ≤ nI q ∧ nI q ≤ nI 2 from ⟨(nI_leI (by omega) (by omega)).mpr hy.1, (nI_leI (by omega) (by omega)).mpr hy.2⟩)]
    refine mw_b_ne rfl (fun he => ?_) (fun he => ?_)
    · refine mw_aload_n (i := 0) rfl rfl rfl ?_
      refine mw_iload_n (i := 1) rfl rfl rfl ?_
      refine mw_callV_f (c_isUsed d n p w v h hO hv hok hx) rfl ok_X10_isUsed v_X10_92 rfl (by first | rfl | exact hO | exact hv) (by intro e; cases e) rfl (Nat.le_of_ble_eq_true rfl) rfl (Nat.le_of_ble_eq_true rfl) (by omega) (by omega) (by omega) ?_
      rw [hu]
      refine mw_b_eq rfl (fun hg => ?_) (fun hg => ?_)
      · refine mw_aload_n (i := 0) rfl rfl rfl ?_
        refine mw_getfield rfl f_X10_7 (by first | rfl | exact hO | exact hv) rfl ?_
        refine mw_iconst (v := nI 3) rfl (by decide) ?_
        refine mw_iload_n (i := 1) rfl rfl rfl ?_
        first | refine mw_nadd rfl ?_ | refine mw_iadd rfl ?_
        refine mw_iald rfl (by first | rfl | exact hO | exact hv) (by omega) (by omega) ?_
        refine mw_istore_n (i := 3) rfl rfl (Nat.le_of_ble_eq_true rfl) ?_
        refine mw_aload_n (i := 0) rfl rfl rfl ?_
        refine mw_getfield rfl f_X10_7 (by first | rfl | exact hO | exact hv) rfl ?_
        refine mw_iconst (v := nI 3) rfl (by decide) ?_
        refine mw_iload_n (i := 1) rfl rfl rfl ?_
        first | refine mw_nadd rfl ?_ | refine mw_iadd rfl ?_
        refine mw_iload_n (i := 2) rfl rfl rfl ?_
        refine mw_iast rfl (by first | rfl | exact hO | exact hv) (by omega) (by omega) ?_
        first | rw [vI_upd] | rw [vI_updv] | skip
        refine mw_iload_n (i := 3) rfl rfl rfl ?_
        exact mw_ireturn rfl rfl rfl rfl (Nat.le_refl _) (hp)
      · cases hg
    · cases he
  · cases hd
theorem c_facts (d n : Nat) (w : Nat → Int32) (v : Nat → Nat) (h : Nat → MC) (hO : h 178 = RO w) (hv : h 179 = .inl (.int, 189, .inl (vI v))) : Fn M_X10_facts d 0 0 [.ref 178] h n (some (.int (nI (v 1)))) h := by
  refine Fn.of fun post hp => ?_
  refine mw_aload_n (i := 0) rfl rfl rfl ?_
  refine mw_getfield rfl f_X10_7 (by first | rfl | exact hO | exact hv) rfl ?_
  refine mw_iconst (v := nI 1) rfl (by decide) ?_
  refine mw_iald rfl (by first | rfl | exact hO | exact hv) (by omega) (by omega) ?_
  exact mw_ireturn rfl rfl rfl rfl (Nat.le_refl _) (hp)
theorem c_rules (d n : Nat) (w : Nat → Int32) (v : Nat → Nat) (h : Nat → MC) (hO : h 178 = RO w) (hv : h 179 = .inl (.int, 189, .inl (vI v))) : Fn M_X10_rules d 0 0 [.ref 178] h n (some (.int (nI (v 2)))) h := by
  refine Fn.of fun post hp => ?_
  refine mw_aload_n (i := 0) rfl rfl rfl ?_
  refine mw_getfield rfl f_X10_7 (by first | rfl | exact hO | exact hv) rfl ?_
  refine mw_iconst (v := nI 2) rfl (by decide) ?_
  refine mw_iald rfl (by first | rfl | exact hO | exact hv) (by omega) (by omega) ?_
  exact mw_ireturn rfl rfl rfl rfl (Nat.le_refl _) (hp)
end
section
def addFactV (v : Nat → Nat) (f c s : Nat) : Nat → Nat := fun j => if j = 1 then v 1 + 1 else if j = 9 + 3 * v 1 then f else if j = 9 + 3 * v 1 + 1 then c else if j = 9 + 3 * v 1 + 2 then s else v j
theorem c_addFact_e1 (d n : Nat) (p a b c s : Int32) (w : Nat → Int32) (v : Nat → Nat) (h : Nat → MC) (hO : h 178 = RO w) (hv : h 179 = .inl (.int, 189, .inl (vI v))) (hok : OkN v) (hx : isF v p a b = false) : Fn M_X10_addFact (d + 3) 0 0 [.ref 178, .int p, .int a, .int b, .int c, .int s] h n (some (.int (-1))) h := by
  refine Fn.of fun post hp => ?_
  refine mw_aload_n (i := 0) rfl rfl rfl ?_
  refine mw_iload_n (i := 1) rfl rfl rfl ?_
  refine mw_iload_n (i := 2) rfl rfl rfl ?_
  refine mw_iload_n (i := 3) rfl rfl rfl ?_
  refine mw_callV_f (c_isFact d n p a b w v h hO hv hok.1 hok.2.1 hok.2.2.2.2.1) rfl ok_X10_isFact v_X10_95 rfl (by first | rfl | exact hO | exact hv) (by intro e; cases e) rfl (Nat.le_of_ble_eq_true rfl) rfl (Nat.le_of_ble_eq_true rfl) (by omega) (by omega) (by omega) ?_
  rw [hx]
  refine mw_b_ne rfl (fun hd => ?_) (fun hd => ?_)
  · cases hd
  · refine mw_iconst (v := (-1)) rfl (by decide) ?_
    exact mw_ireturn rfl rfl rfl rfl (Nat.le_refl _) (hp)
theorem c_addFact_e2 (d n : Nat) (p a b c s : Int32) (w : Nat → Int32) (v : Nat → Nat) (h : Nat → MC) (hO : h 178 = RO w) (hv : h 179 = .inl (.int, 189, .inl (vI v))) (hok : OkN v) (hx : isF v p a b = true) (hy : (inI c 100 && decide (nI 1 ≤ s ∧ s ≤ nI 16)) = false) : Fn M_X10_addFact (d + 3) 0 0 [.ref 178, .int p, .int a, .int b, .int c, .int s] h n (some (.int (-2))) h := by
  refine Fn.of fun post hp => ?_
  refine mw_aload_n (i := 0) rfl rfl rfl ?_
  refine mw_iload_n (i := 1) rfl rfl rfl ?_
  refine mw_iload_n (i := 2) rfl rfl rfl ?_
  refine mw_iload_n (i := 3) rfl rfl rfl ?_
  refine mw_callV_f (c_isFact d n p a b w v h hO hv hok.1 hok.2.1 hok.2.2.2.2.1) rfl ok_X10_isFact v_X10_95 rfl (by first | rfl | exact hO | exact hv) (by intro e; cases e) rfl (Nat.le_of_ble_eq_true rfl) rfl (Nat.le_of_ble_eq_true rfl) (by omega) (by omega) (by omega) ?_
  rw [hx]
  refine mw_b_ne rfl (fun hd => ?_) (fun hd => ?_)
  · refine mw_iload rfl rfl ?_
    refine mw_iconst (v := nI 0) rfl (by decide) ?_
    refine mw_bipush (v := nI 99) rfl (by decide) ?_
    refine mw_callS_f (c_in0 (d + 2) n c 99 (by omega) h) rfl ok_X10_in v_X10_80 rfl (Nat.le_of_ble_eq_true rfl) rfl (Nat.le_of_ble_eq_true rfl) (by omega) (by omega) (by omega) ?_
    refine mw_b_eq rfl (fun he => ?_) (fun he => ?_)
    · refine mw_bipush (v := (-2)) rfl (by decide) ?_
      exact mw_ireturn rfl rfl rfl rfl (Nat.le_refl _) (hp)
    · rw [he, Bool.true_and] at hy
      refine mw_iload rfl rfl ?_
      refine mw_iconst (v := nI 1) rfl (by decide) ?_
      refine mw_bipush (v := nI 16) rfl (by decide) ?_
      refine mw_callS_f (c_in (d + 2) n s (nI 1) (nI 16) h) rfl ok_X10_in v_X10_80 rfl (Nat.le_of_ble_eq_true rfl) rfl (Nat.le_of_ble_eq_true rfl) (by omega) (by omega) (by omega) ?_
      rw [hy]
      refine mw_b_ne rfl (fun hg => ?_) (fun hg => ?_)
      · cases hg
      · refine mw_bipush (v := (-2)) rfl (by decide) ?_
        exact mw_ireturn rfl rfl rfl rfl (Nat.le_refl _) (hp)
  · cases hd
theorem c_addFact_e3 (d n : Nat) (p a b c s : Int32) (w : Nat → Int32) (v : Nat → Nat) (h : Nat → MC) (hO : h 178 = RO w) (hv : h 179 = .inl (.int, 189, .inl (vI v))) (hok : OkN v) (hx : isF v p a b = true) (hy : (inI c 100 && decide (nI 1 ≤ s ∧ s ≤ nI 16)) = true) (hz : v 1 = 12) : Fn M_X10_addFact (d + 3) 0 0 [.ref 178, .int p, .int a, .int b, .int c, .int s] h n (some (.int (-4))) h := by
  refine Fn.of fun post hp => ?_
  rw [Bool.and_eq_true] at hy
  refine mw_aload_n (i := 0) rfl rfl rfl ?_
  refine mw_iload_n (i := 1) rfl rfl rfl ?_
  refine mw_iload_n (i := 2) rfl rfl rfl ?_
  refine mw_iload_n (i := 3) rfl rfl rfl ?_
  refine mw_callV_f (c_isFact d n p a b w v h hO hv hok.1 hok.2.1 hok.2.2.2.2.1) rfl ok_X10_isFact v_X10_95 rfl (by first | rfl | exact hO | exact hv) (by intro e; cases e) rfl (Nat.le_of_ble_eq_true rfl) rfl (Nat.le_of_ble_eq_true rfl) (by omega) (by omega) (by omega) ?_
  rw [hx]
  refine mw_b_ne rfl (fun hd => ?_) (fun hd => ?_)
  · refine mw_iload rfl rfl ?_
    refine mw_iconst (v := nI 0) rfl (by decide) ?_
    refine mw_bipush (v := nI 99) rfl (by decide) ?_
    refine mw_callS_f (c_in0 (d + 2) n c 99 (by omega) h) rfl ok_X10_in v_X10_80 rfl (Nat.le_of_ble_eq_true rfl) rfl (Nat.le_of_ble_eq_true rfl) (by omega) (by omega) (by omega) ?_
    rw [hy.1]
    refine mw_b_eq rfl (fun he => ?_) (fun he => ?_)
    · cases he
    · refine mw_iload rfl rfl ?_
      refine mw_iconst (v := nI 1) rfl (by decide) ?_
      refine mw_bipush (v := nI 16) rfl (by decide) ?_
      refine mw_callS_f (c_in (d + 2) n s (nI 1) (nI 16) h) rfl ok_X10_in v_X10_80 rfl (Nat.le_of_ble_eq_true rfl) rfl (Nat.le_of_ble_eq_true rfl) (by omega) (by omega) (by omega) ?_
      rw [hy.2]
      refine mw_b_ne rfl (fun hg => ?_) (fun hg => ?_)
      · refine mw_aload_n (i := 0) rfl rfl rfl ?_
        refine mw_getfield rfl f_X10_7 (by first | rfl | exact hO | exact hv) rfl ?_
        refine mw_iconst (v := nI 1) rfl (by decide) ?_
        refine mw_iald rfl (by first | rfl | exact hO | exact hv) (by omega) (by omega) ?_
        refine mw_bipush (v := nI 12) rfl (by decide) ?_
        refine mw_n_ne rfl (by omega) (by omega) (fun hc => ?_) (fun hc => ?_)
        · omega
        · refine mw_bipush (v := (-4)) rfl (by decide) ?_
          exact mw_ireturn rfl rfl rfl rfl (Nat.le_refl _) (hp)
      · cases hg
  · cases hd
theorem c_addFact (d n : Nat) (p a b c s : Nat) (w : Nat → Int32) (v : Nat → Nat) (h : Nat → MC) (hO : h 178 = RO w) (hv : h 179 = .inl (.int, 189, .inl (vI v))) (hok : OkN v) (hx : isF v (nI p) (nI a) (nI b) = true) (hy : (inI (nI c) 100 && decide (nI 1 ≤ nI s ∧ nI s ≤ nI 16)) = true) (hz : v 1 ≠ 12) : Fn M_X10_addFact (d + 3) 0 0 [.ref 178, .int (nI p), .int (nI a), .int (nI b), .int (nI c), .int (nI s)] h n (some (.int (nI (v 1)))) (mov [(179, .inl (.int, 189, .inl (vI (addFactV v (36 * p + 6 * a + b) c s)))), (178, RO (updN w 3 0))] h) := by
  refine Fn.of fun post hp => ?_
  have h12 := hok.2.2.1
  rw [Bool.and_eq_true] at hy
  refine mw_aload_n (i := 0) rfl rfl rfl ?_
  refine mw_iload_n (i := 1) rfl rfl rfl ?_
  refine mw_iload_n (i := 2) rfl rfl rfl ?_
  refine mw_iload_n (i := 3) rfl rfl rfl ?_
  refine mw_callV_f (c_isFact d n (nI p) (nI a) (nI b) w v h hO hv hok.1 hok.2.1 hok.2.2.2.2.1) rfl ok_X10_isFact v_X10_95 rfl (by first | rfl | exact hO | exact hv) (by intro e; cases e) rfl (Nat.le_of_ble_eq_true rfl) rfl (Nat.le_of_ble_eq_true rfl) (by omega) (by omega) (by omega) ?_
  rw [hx]
  refine mw_b_ne rfl (fun hd => ?_) (fun hd => ?_)
  · refine mw_iload rfl rfl ?_
    refine mw_iconst (v := nI 0) rfl (by decide) ?_
    refine mw_bipush (v := nI 99) rfl (by decide) ?_
    refine mw_callS_f (c_in0 (d + 2) n (nI c) 99 (by omega) h) rfl ok_X10_in v_X10_80 rfl (Nat.le_of_ble_eq_true rfl) rfl (Nat.le_of_ble_eq_true rfl) (by omega) (by omega) (by omega) ?_
    rw [hy.1]
    refine mw_b_eq rfl (fun he => ?_) (fun he => ?_)
    · cases he
    · refine mw_iload rfl rfl ?_
      refine mw_iconst (v := nI 1) rfl (by decide) ?_
      refine mw_bipush (v := nI 16) rfl (by decide) ?_
      refine mw_callS_f (c_in (d + 2) n (nI s) (nI 1) (nI 16) h) rfl ok_X10_in v_X10_80 rfl (Nat.le_of_ble_eq_true rfl) rfl (Nat.le_of_ble_eq_true rfl) (by omega) (by omega) (by omega) ?_
      rw [hy.2]
      refine mw_b_ne rfl (fun hg => ?_) (fun hg => ?_)
      · refine mw_aload_n (i := 0) rfl rfl rfl ?_
        refine mw_getfield rfl f_X10_7 (by first | rfl | exact hO | exact hv) rfl ?_
        refine mw_iconst (v := nI 1) rfl (by decide) ?_
        refine mw_iald rfl (by first | rfl | exact hO | exact hv) (by omega) (by omega) ?_
        refine mw_bipush (v := nI 12) rfl (by decide) ?_
        refine mw_n_ne rfl (by omega) (by omega) (fun hc => ?_) (fun hc => ?_)
        · refine mw_bipush (v := nI 9) rfl (by decide) ?_
          refine mw_iconst (v := nI 3) rfl (by decide) ?_
          refine mw_aload_n (i := 0) rfl rfl rfl ?_
          refine mw_getfield rfl f_X10_7 (by first | rfl | exact hO | exact hv) rfl ?_
          refine mw_iconst (v := nI 1) rfl (by decide) ?_
          refine mw_iald rfl (by first | rfl | exact hO | exact hv) (by omega) (by omega) ?_
          first | refine mw_nmul rfl ?_ | refine mw_imul rfl ?_
          first | refine mw_nadd rfl ?_ | refine mw_iadd rfl ?_
          refine mw_istore rfl (Nat.le_of_ble_eq_true rfl) ?_
          refine mw_aload_n (i := 0) rfl rfl rfl ?_
          refine mw_getfield rfl f_X10_7 (by first | rfl | exact hO | exact hv) rfl ?_
          refine mw_iload rfl rfl ?_
          refine mw_iload_n (i := 1) rfl rfl rfl ?_
          refine mw_iload_n (i := 2) rfl rfl rfl ?_
          refine mw_iload_n (i := 3) rfl rfl rfl ?_
          refine mw_callS_f (c_factOf (d + 2) n p a b h) rfl ok_X10_factOf v_X10_98 rfl (Nat.le_of_ble_eq_true rfl) rfl (Nat.le_of_ble_eq_true rfl) (by omega) (by omega) (by omega) ?_
          refine mw_over [(179, .inl (.int, 189, .inl (vI v)))] (mov_self (by simp [hv])) ?_
          refine mw_iast_m rfl (by first | rfl | exact hO | exact hv) (by omega) (by omega) ?_
          first | rw [vI_upd] | rw [vI_updv] | skip
          refine mw_aload_n (i := 0) rfl rfl rfl ?_
          refine mw_getfield rfl f_X10_7 (by first | rfl | exact hO | exact hv) rfl ?_
          refine mw_iload rfl rfl ?_
          refine mw_iconst (v := nI 1) rfl (by decide) ?_
          first | refine mw_nadd rfl ?_ | refine mw_iadd rfl ?_
          refine mw_iload rfl rfl ?_
          refine mw_iast_m rfl (by first | rfl | exact hO | exact hv) (by omega) (by omega) ?_
          first | rw [vI_upd] | rw [vI_updv] | skip
          refine mw_aload_n (i := 0) rfl rfl rfl ?_
          refine mw_getfield rfl f_X10_7 (by first | rfl | exact hO | exact hv) rfl ?_
          refine mw_iload rfl rfl ?_
          refine mw_iconst (v := nI 2) rfl (by decide) ?_
          first | refine mw_nadd rfl ?_ | refine mw_iadd rfl ?_
          refine mw_iload rfl rfl ?_
          refine mw_iast_m rfl (by first | rfl | exact hO | exact hv) (by omega) (by omega) ?_
          first | rw [vI_upd] | rw [vI_updv] | skip
          refine mw_aload_n (i := 0) rfl rfl rfl ?_
          refine mw_getfield rfl f_X10_7 (by first | rfl | exact hO | exact hv) rfl ?_
          refine mw_iconst (v := nI 1) rfl (by decide) ?_
          refine mw_dup2 rfl rfl rfl ?_
          refine mw_iald rfl (by first | rfl | exact hO | exact hv) (by omega) (by omega) ?_
          refine mw_iconst (v := nI 1) rfl (by decide) ?_
          first | refine mw_nadd rfl ?_ | refine mw_iadd rfl ?_
          refine mw_iast_m rfl (by first | rfl | exact hO | exact hv) (by omega) (by omega) ?_
          first | rw [vI_upd] | rw [vI_updv] | skip
          have e : updN (updN (updN (updN v (9 + 3 * v 1) (36 * p + 6 * a + b)) (9 + 3 * v 1 + 1) c) (9 + 3 * v 1 + 2) s) 1 (updN (updN (updN v (9 + 3 * v 1) (36 * p + 6 * a + b)) (9 + 3 * v 1 + 1) c) (9 + 3 * v 1 + 2) s 1 + 1) = addFactV v (36 * p + 6 * a + b) c s := by
            funext j
            simp only [updN, addFactV]
            repeat' split
            all_goals first | rfl | omega | (exfalso; omega)
          rw [e]
          refine mw_aload_n (i := 0) rfl rfl rfl ?_
          refine mw_iconst (v := nI 0) rfl (by decide) ?_
          first | refine mw_putfield_m rfl f_X10_76 (by first | rfl | exact hO | exact hv) (Nat.le_of_ble_eq_true rfl) (fun _ => bI_nar _) (fun _ => bI_fit _) ?_ | refine mw_putfield_m rfl f_X10_76 (by first | rfl | exact hO | exact hv) (Nat.le_of_ble_eq_true rfl) (fun _ => rfl) (fun _ => rfl) ?_
          refine mw_aload_n (i := 0) rfl rfl rfl ?_
          refine mw_getfield rfl f_X10_7 (by first | rfl | exact hO | exact hv) rfl ?_
          refine mw_iconst (v := nI 1) rfl (by decide) ?_
          refine mw_iald rfl (by first | rfl | exact hO | exact hv) (by omega) (by omega) ?_
          refine mw_iconst (v := nI 1) rfl (by decide) ?_
          refine mw_nsub (b := 1) rfl (show 1 ≤ addFactV v (36 * p + 6 * a + b) c s 1 by simp [addFactV]) ?_
          have e2 : addFactV v (36 * p + 6 * a + b) c s 1 - 1 = v 1 := by simp [addFactV]
          rw [e2]
          exact mw_ireturn rfl rfl rfl rfl (Nat.le_refl _) (hp)
        · omega
      · cases hg
  · cases hd
/-- one is taken out: those behind it move up by k places -/
def shV (v : Nat → Nat) (k lo hi : Nat) : Nat → Nat := fun j => if lo ≤ j ∧ j < hi then v (j + k) else v j
theorem c_removeFact_e (d n : Nat) (x : Int32) (w : Nat → Int32) (v : Nat → Nat) (h : Nat → MC) (hO : h 178 = RO w) (hv : h 179 = .inl (.int, 189, .inl (vI v))) (hx : decide (nI 0 ≤ x ∧ x ≤ nI (v 1) - nI 1) = false) : Fn M_X10_removeFact (d + 1) 0 0 [.ref 178, .int x] h n (some (.int (-1))) h := by
  refine Fn.of fun post hp => ?_
  refine mw_iload_n (i := 1) rfl rfl rfl ?_
  refine mw_iconst (v := nI 0) rfl (by decide) ?_
  refine mw_aload_n (i := 0) rfl rfl rfl ?_
  refine mw_getfield rfl f_X10_7 (by first | rfl | exact hO | exact hv) rfl ?_
  refine mw_iconst (v := nI 1) rfl (by decide) ?_
  refine mw_iald rfl (by first | rfl | exact hO | exact hv) (by omega) (by omega) ?_
  refine mw_iconst (v := nI 1) rfl (by decide) ?_
  refine mw_isub rfl ?_
  refine mw_callS_f (c_in d n x (nI 0) (nI (v 1) - nI 1) h) rfl ok_X10_in v_X10_80 rfl (Nat.le_of_ble_eq_true rfl) rfl (Nat.le_of_ble_eq_true rfl) (by omega) (by omega) (by omega) ?_
  rw [hx]
  refine mw_b_ne rfl (fun hd => ?_) (fun hd => ?_)
  · cases hd
  · refine mw_iconst (v := (-1)) rfl (by decide) ?_
    exact mw_ireturn rfl rfl rfl rfl (Nat.le_refl _) (hp)
theorem c_removeFact (d n : Nat) (f : Nat) (w : Nat → Int32) (v : Nat → Nat) (h : Nat → MC) (hO : h 178 = RO w) (hv : h 179 = .inl (.int, 189, .inl (vI v))) (hok : OkN v) (hx : f < v 1) : Fn M_X10_removeFact (d + 1) 0 0 [.ref 178, .int (nI f)] h n (some (.int (nI (v 1 - 1)))) (mov [(179, .inl (.int, 189, .inl (vI (shV (updN v 1 (v 1 - 1)) 3 (9 + 3 * f) (9 + 3 * (v 1 - 1)))))), (178, RO (updN w 3 0))] h) := by
  refine Fn.of fun post hp => ?_
  have h12 := hok.2.2.1
  refine mw_iload_n (i := 1) rfl rfl rfl ?_
  refine mw_iconst (v := nI 0) rfl (by decide) ?_
  refine mw_aload_n (i := 0) rfl rfl rfl ?_
  refine mw_getfield rfl f_X10_7 (by first | rfl | exact hO | exact hv) rfl ?_
  refine mw_iconst (v := nI 1) rfl (by decide) ?_
  refine mw_iald rfl (by first | rfl | exact hO | exact hv) (by omega) (by omega) ?_
  refine mw_iconst (v := nI 1) rfl (by decide) ?_
  refine mw_nsub (b := 1) rfl (by omega) ?_
  refine mw_callS_f (c_in0 d n (nI f) (v 1 - 1) (by omega) h) rfl ok_X10_in v_X10_80 rfl (Nat.le_of_ble_eq_true rfl) rfl (Nat.le_of_ble_eq_true rfl) (by omega) (by omega) (by omega) ?_
  rw [inI_nI (show f < v 1 - 1 + 1 by omega) (by omega)]
  refine mw_b_ne rfl (fun hd => ?_) (fun hd => ?_)
  · refine mw_over [(179, .inl (.int, 189, .inl (vI v)))] (mov_self (by simp [hv])) ?_
    refine mw_aload_n (i := 0) rfl rfl rfl ?_
    refine mw_getfield rfl f_X10_7 (by first | rfl | exact hO | exact hv) rfl ?_
    refine mw_iconst (v := nI 1) rfl (by decide) ?_
    refine mw_dup2 rfl rfl rfl ?_
    refine mw_iald rfl (by first | rfl | exact hO | exact hv) (by omega) (by omega) ?_
    refine mw_iconst (v := nI 1) rfl (by decide) ?_
    refine mw_nsub (b := 1) rfl (by omega) ?_
    refine mw_iast_m rfl (by first | rfl | exact hO | exact hv) (by omega) (by omega) ?_
    first | rw [vI_upd] | rw [vI_updv] | skip
    refine mw_bipush (v := nI 9) rfl (by decide) ?_
    refine mw_iconst (v := nI 3) rfl (by decide) ?_
    refine mw_iload_n (i := 1) rfl rfl rfl ?_
    first | refine mw_nmul rfl ?_ | refine mw_imul rfl ?_
    first | refine mw_nadd rfl ?_ | refine mw_iadd rfl ?_
    refine mw_istore_n (i := 2) rfl rfl (Nat.le_of_ble_eq_true rfl) ?_
    have e1 : ∀ j, shV (updN v 1 (v 1 - 1)) 3 (9 + 3 * f) j 1 = v 1 - 1 := by
      intro j
      simp only [shV, updN]
      rw [if_neg (by omega)]
      rfl
    have loop : ∀ j, j ≤ 9 + 3 * (v 1 - 1) → 9 + 3 * f ≤ j → MW M_X10_removeFact (d + 1) 0 0 n post 35 [(0, .ref 178), (1, .int (nI f)), (2, .int (nI j))] [] (mov [(179, .inl (.int, 189, .inl (vI (shV (updN v 1 (v 1 - 1)) 3 (9 + 3 * f) j))))] h) n 0 := by
      refine loop_up (P := fun j => 9 + 3 * f ≤ j → MW M_X10_removeFact (d + 1) 0 0 n post 35 [(0, .ref 178), (1, .int (nI f)), (2, .int (nI j))] [] (mov [(179, .inl (.int, 189, .inl (vI (shV (updN v 1 (v 1 - 1)) 3 (9 + 3 * f) j))))] h) n 0) (9 + 3 * (v 1 - 1)) ?_ ?_
      · intro _
        refine mw_iload_n (i := 2) rfl rfl rfl ?_
        refine mw_bipush (v := nI 9) rfl (by decide) ?_
        refine mw_iconst (v := nI 3) rfl (by decide) ?_
        refine mw_aload_n (i := 0) rfl rfl rfl ?_
        refine mw_getfield rfl f_X10_7 (by first | rfl | exact hO | exact hv) rfl ?_
        refine mw_iconst (v := nI 1) rfl (by decide) ?_
        refine mw_iald_v (v := nI (v 1 - 1)) rfl rfl (by omega) (by omega) (congrArg nI (e1 _)) ?_
        first | refine mw_nmul rfl ?_ | refine mw_imul rfl ?_
        first | refine mw_nadd rfl ?_ | refine mw_iadd rfl ?_
        refine mw_n_ge rfl (by omega) (by omega) (fun hc => ?_) (fun hc => ?_)
        · refine mw_aload_n (i := 0) rfl rfl rfl ?_
          refine mw_iconst (v := nI 0) rfl (by decide) ?_
          first | refine mw_putfield_m rfl f_X10_76 (by first | rfl | exact hO | exact hv) (Nat.le_of_ble_eq_true rfl) (fun _ => bI_nar _) (fun _ => bI_fit _) ?_ | refine mw_putfield_m rfl f_X10_76 (by first | rfl | exact hO | exact hv) (Nat.le_of_ble_eq_true rfl) (fun _ => rfl) (fun _ => rfl) ?_
          refine mw_aload_n (i := 0) rfl rfl rfl ?_
          refine mw_getfield rfl f_X10_7 (by first | rfl | exact hO | exact hv) rfl ?_
          refine mw_iconst (v := nI 1) rfl (by decide) ?_
          refine mw_iald_v (v := nI (v 1 - 1)) rfl rfl (by omega) (by omega) (congrArg nI (e1 _)) ?_
          exact mw_ireturn rfl rfl rfl rfl (Nat.le_refl _) (hp)
        · omega
      · intro j hj ih hj2
        refine mw_iload_n (i := 2) rfl rfl rfl ?_
        refine mw_bipush (v := nI 9) rfl (by decide) ?_
        refine mw_iconst (v := nI 3) rfl (by decide) ?_
        refine mw_aload_n (i := 0) rfl rfl rfl ?_
        refine mw_getfield rfl f_X10_7 (by first | rfl | exact hO | exact hv) rfl ?_
        refine mw_iconst (v := nI 1) rfl (by decide) ?_
        refine mw_iald_v (v := nI (v 1 - 1)) rfl rfl (by omega) (by omega) (congrArg nI (e1 _)) ?_
        first | refine mw_nmul rfl ?_ | refine mw_imul rfl ?_
        first | refine mw_nadd rfl ?_ | refine mw_iadd rfl ?_
        refine mw_n_ge rfl (by omega) (by omega) (fun hc => ?_) (fun hc => ?_)
        · omega
        · refine mw_aload_n (i := 0) rfl rfl rfl ?_
          refine mw_getfield rfl f_X10_7 (by first | rfl | exact hO | exact hv) rfl ?_
          refine mw_iload_n (i := 2) rfl rfl rfl ?_
          refine mw_aload_n (i := 0) rfl rfl rfl ?_
          refine mw_getfield rfl f_X10_7 (by first | rfl | exact hO | exact hv) rfl ?_
          refine mw_iload_n (i := 2) rfl rfl rfl ?_
          refine mw_iconst (v := nI 3) rfl (by decide) ?_
          first | refine mw_nadd rfl ?_ | refine mw_iadd rfl ?_
          refine mw_iald rfl (by first | rfl | exact hO | exact hv) (by omega) (by omega) ?_
          refine mw_iast_m rfl (by first | rfl | exact hO | exact hv) (by omega) (by omega) ?_
          first | rw [vI_upd] | rw [vI_updv] | skip
          first | refine mw_ninc rfl rfl (Nat.le_of_ble_eq_true rfl) ?_ | refine mw_iinc rfl rfl rfl (Nat.le_of_ble_eq_true rfl) ?_
          refine mw_goto rfl ?_
          refine mw_locals rfl (mw_heap (heap1N fun i => ?_) (ih (by omega)))
          simp only [updN, shV]
          by_cases q1 : i = j
          · subst q1
            rw [if_pos (by omega), if_pos rfl, if_neg (by omega), if_neg (by omega)]
          · rw [if_neg q1]
            by_cases q2 : 9 + 3 * f ≤ i ∧ i < j
            · rw [if_pos q2, if_pos (by omega)]
            · rw [if_neg q2, if_neg (by omega)]
    refine mw_locals (L2 := [(0, .ref 178), (1, .int (nI f)), (2, .int (nI (9 + 3 * f)))]) rfl (mw_heap (heap1N fun i => ?_) (loop (9 + 3 * f) (by omega) (Nat.le_refl _)))
    simp only [shV]
    rw [if_neg (by omega)]
  · cases hd
theorem c_removeRule_e (d n : Nat) (x : Int32) (w : Nat → Int32) (v : Nat → Nat) (h : Nat → MC) (hO : h 178 = RO w) (hv : h 179 = .inl (.int, 189, .inl (vI v))) (hx : decide (nI 0 ≤ x ∧ x ≤ nI (v 2) - nI 1) = false) : Fn M_X10_removeRule (d + 1) 0 0 [.ref 178, .int x] h n (some (.int (-1))) h := by
  refine Fn.of fun post hp => ?_
  refine mw_iload_n (i := 1) rfl rfl rfl ?_
  refine mw_iconst (v := nI 0) rfl (by decide) ?_
  refine mw_aload_n (i := 0) rfl rfl rfl ?_
  refine mw_getfield rfl f_X10_7 (by first | rfl | exact hO | exact hv) rfl ?_
  refine mw_iconst (v := nI 2) rfl (by decide) ?_
  refine mw_iald rfl (by first | rfl | exact hO | exact hv) (by omega) (by omega) ?_
  refine mw_iconst (v := nI 1) rfl (by decide) ?_
  refine mw_isub rfl ?_
  refine mw_callS_f (c_in d n x (nI 0) (nI (v 2) - nI 1) h) rfl ok_X10_in v_X10_80 rfl (Nat.le_of_ble_eq_true rfl) rfl (Nat.le_of_ble_eq_true rfl) (by omega) (by omega) (by omega) ?_
  rw [hx]
  refine mw_b_ne rfl (fun hd => ?_) (fun hd => ?_)
  · cases hd
  · refine mw_iconst (v := (-1)) rfl (by decide) ?_
    exact mw_ireturn rfl rfl rfl rfl (Nat.le_refl _) (hp)
theorem c_removeRule (d n : Nat) (f : Nat) (w : Nat → Int32) (v : Nat → Nat) (h : Nat → MC) (hO : h 178 = RO w) (hv : h 179 = .inl (.int, 189, .inl (vI v))) (hok : OkN v) (hx : f < v 2) : Fn M_X10_removeRule (d + 1) 0 0 [.ref 178, .int (nI f)] h n (some (.int (nI (v 2 - 1)))) (mov [(179, .inl (.int, 189, .inl (vI (shV (updN v 2 (v 2 - 1)) 18 (45 + 18 * f) (45 + 18 * (v 2 - 1)))))), (178, RO (updN w 3 0))] h) := by
  refine Fn.of fun post hp => ?_
  have h12 := hok.2.2.2.1
  refine mw_iload_n (i := 1) rfl rfl rfl ?_
  refine mw_iconst (v := nI 0) rfl (by decide) ?_
  refine mw_aload_n (i := 0) rfl rfl rfl ?_
  refine mw_getfield rfl f_X10_7 (by first | rfl | exact hO | exact hv) rfl ?_
  refine mw_iconst (v := nI 2) rfl (by decide) ?_
  refine mw_iald rfl (by first | rfl | exact hO | exact hv) (by omega) (by omega) ?_
  refine mw_iconst (v := nI 1) rfl (by decide) ?_
  refine mw_nsub (b := 1) rfl (by omega) ?_
  refine mw_callS_f (c_in0 d n (nI f) (v 2 - 1) (by omega) h) rfl ok_X10_in v_X10_80 rfl (Nat.le_of_ble_eq_true rfl) rfl (Nat.le_of_ble_eq_true rfl) (by omega) (by omega) (by omega) ?_
  rw [inI_nI (show f < v 2 - 1 + 1 by omega) (by omega)]
  refine mw_b_ne rfl (fun hd => ?_) (fun hd => ?_)
  · refine mw_over [(179, .inl (.int, 189, .inl (vI v)))] (mov_self (by simp [hv])) ?_
    refine mw_aload_n (i := 0) rfl rfl rfl ?_
    refine mw_getfield rfl f_X10_7 (by first | rfl | exact hO | exact hv) rfl ?_
    refine mw_iconst (v := nI 2) rfl (by decide) ?_
    refine mw_dup2 rfl rfl rfl ?_
    refine mw_iald rfl (by first | rfl | exact hO | exact hv) (by omega) (by omega) ?_
    refine mw_iconst (v := nI 1) rfl (by decide) ?_
    refine mw_nsub (b := 1) rfl (by omega) ?_
    refine mw_iast_m rfl (by first | rfl | exact hO | exact hv) (by omega) (by omega) ?_
    first | rw [vI_upd] | rw [vI_updv] | skip
    refine mw_bipush (v := nI 45) rfl (by decide) ?_
    refine mw_bipush (v := nI 18) rfl (by decide) ?_
    refine mw_iload_n (i := 1) rfl rfl rfl ?_
    first | refine mw_nmul rfl ?_ | refine mw_imul rfl ?_
    first | refine mw_nadd rfl ?_ | refine mw_iadd rfl ?_
    refine mw_istore_n (i := 2) rfl rfl (Nat.le_of_ble_eq_true rfl) ?_
    have e1 : ∀ j, shV (updN v 2 (v 2 - 1)) 18 (45 + 18 * f) j 2 = v 2 - 1 := by
      intro j
      simp only [shV, updN]
      rw [if_neg (by omega)]
      rfl
    have loop : ∀ j, j ≤ 45 + 18 * (v 2 - 1) → 45 + 18 * f ≤ j → MW M_X10_removeRule (d + 1) 0 0 n post 36 [(0, .ref 178), (1, .int (nI f)), (2, .int (nI j))] [] (mov [(179, .inl (.int, 189, .inl (vI (shV (updN v 2 (v 2 - 1)) 18 (45 + 18 * f) j))))] h) n 0 := by
      refine loop_up (P := fun j => 45 + 18 * f ≤ j → MW M_X10_removeRule (d + 1) 0 0 n post 36 [(0, .ref 178), (1, .int (nI f)), (2, .int (nI j))] [] (mov [(179, .inl (.int, 189, .inl (vI (shV (updN v 2 (v 2 - 1)) 18 (45 + 18 * f) j))))] h) n 0) (45 + 18 * (v 2 - 1)) ?_ ?_
      · intro _
        refine mw_iload_n (i := 2) rfl rfl rfl ?_
        refine mw_bipush (v := nI 45) rfl (by decide) ?_
        refine mw_bipush (v := nI 18) rfl (by decide) ?_
        refine mw_aload_n (i := 0) rfl rfl rfl ?_
        refine mw_getfield rfl f_X10_7 (by first | rfl | exact hO | exact hv) rfl ?_
        refine mw_iconst (v := nI 2) rfl (by decide) ?_
        refine mw_iald_v (v := nI (v 2 - 1)) rfl rfl (by omega) (by omega) (congrArg nI (e1 _)) ?_
        first | refine mw_nmul rfl ?_ | refine mw_imul rfl ?_
        first | refine mw_nadd rfl ?_ | refine mw_iadd rfl ?_
        refine mw_n_ge rfl (by omega) (by omega) (fun hc => ?_) (fun hc => ?_)
        · refine mw_aload_n (i := 0) rfl rfl rfl ?_
          refine mw_iconst (v := nI 0) rfl (by decide) ?_
          first | refine mw_putfield_m rfl f_X10_76 (by first | rfl | exact hO | exact hv) (Nat.le_of_ble_eq_true rfl) (fun _ => bI_nar _) (fun _ => bI_fit _) ?_ | refine mw_putfield_m rfl f_X10_76 (by first | rfl | exact hO | exact hv) (Nat.le_of_ble_eq_true rfl) (fun _ => rfl) (fun _ => rfl) ?_
          refine mw_aload_n (i := 0) rfl rfl rfl ?_
          refine mw_getfield rfl f_X10_7 (by first | rfl | exact hO | exact hv) rfl ?_
          refine mw_iconst (v := nI 2) rfl (by decide) ?_
          refine mw_iald_v (v := nI (v 2 - 1)) rfl rfl (by omega) (by omega) (congrArg nI (e1 _)) ?_
          exact mw_ireturn rfl rfl rfl rfl (Nat.le_refl _) (hp)
        · omega
      · intro j hj ih hj2
        refine mw_iload_n (i := 2) rfl rfl rfl ?_
        refine mw_bipush (v := nI 45) rfl (by decide) ?_
        refine mw_bipush (v := nI 18) rfl (by decide) ?_
        refine mw_aload_n (i := 0) rfl rfl rfl ?_
        refine mw_getfield rfl f_X10_7 (by first | rfl | exact hO | exact hv) rfl ?_
        refine mw_iconst (v := nI 2) rfl (by decide) ?_
        refine mw_iald_v (v := nI (v 2 - 1)) rfl rfl (by omega) (by omega) (congrArg nI (e1 _)) ?_
        first | refine mw_nmul rfl ?_ | refine mw_imul rfl ?_
        first | refine mw_nadd rfl ?_ | refine mw_iadd rfl ?_
        refine mw_n_ge rfl (by omega) (by omega) (fun hc => ?_) (fun hc => ?_)
        · omega
        · refine mw_aload_n (i := 0) rfl rfl rfl ?_
          refine mw_getfield rfl f_X10_7 (by first | rfl | exact hO | exact hv) rfl ?_
          refine mw_iload_n (i := 2) rfl rfl rfl ?_
          refine mw_aload_n (i := 0) rfl rfl rfl ?_
          refine mw_getfield rfl f_X10_7 (by first | rfl | exact hO | exact hv) rfl ?_
          refine mw_iload_n (i := 2) rfl rfl rfl ?_
          refine mw_bipush (v := nI 18) rfl (by decide) ?_
          first | refine mw_nadd rfl ?_ | refine mw_iadd rfl ?_
          refine mw_iald rfl (by first | rfl | exact hO | exact hv) (by omega) (by omega) ?_
          refine mw_iast_m rfl (by first | rfl | exact hO | exact hv) (by omega) (by omega) ?_
          first | rw [vI_upd] | rw [vI_updv] | skip
          first | refine mw_ninc rfl rfl (Nat.le_of_ble_eq_true rfl) ?_ | refine mw_iinc rfl rfl rfl (Nat.le_of_ble_eq_true rfl) ?_
          refine mw_goto rfl ?_
          refine mw_locals rfl (mw_heap (heap1N fun i => ?_) (ih (by omega)))
          simp only [updN, shV]
          by_cases q1 : i = j
          · subst q1
            rw [if_pos (by omega), if_pos rfl, if_neg (by omega), if_neg (by omega)]
          · rw [if_neg q1]
            by_cases q2 : 45 + 18 * f ≤ i ∧ i < j
            · rw [if_pos q2, if_pos (by omega)]
            · rw [if_neg q2, if_neg (by omega)]
    refine mw_locals (L2 := [(0, .ref 178), (1, .int (nI f)), (2, .int (nI (45 + 18 * f)))]) rfl (mw_heap (heap1N fun i => ?_) (loop (45 + 18 * f) (by omega) (Nat.le_refl _)))
    simp only [shV]
    rw [if_neg (by omega)]
  · cases hd
theorem c_append_e1 (d n : Nat) (x : Int32) (h : Nat → MC) (hx : inI x 128 = false) : Fn M_X10_append (d + 1) 0 0 [.ref 178, .int x] h n (some (.int (-2))) h := by
  refine Fn.of fun post hp => ?_
  refine mw_iload_n (i := 1) rfl rfl rfl ?_
  refine mw_iconst (v := nI 0) rfl (by decide) ?_
  refine mw_bipush (v := nI 127) rfl (by decide) ?_
  refine mw_callS_f (c_in0 d n x 127 (by omega) h) rfl ok_X10_in v_X10_80 rfl (Nat.le_of_ble_eq_true rfl) rfl (Nat.le_of_ble_eq_true rfl) (by omega) (by omega) (by omega) ?_
  rw [hx]
  refine mw_b_ne rfl (fun hd => ?_) (fun hd => ?_)
  · cases hd
  · refine mw_bipush (v := (-2)) rfl (by decide) ?_
    exact mw_ireturn rfl rfl rfl rfl (Nat.le_refl _) (hp)
theorem c_append_e2 (d n : Nat) (x : Int32) (w : Nat → Int32) (h : Nat → MC) (hO : h 178 = RO w) (hx : inI x 128 = true) (hl : w 0 = nI 60) : Fn M_X10_append (d + 1) 0 0 [.ref 178, .int x] h n (some (.int (-4))) h := by
  refine Fn.of fun post hp => ?_
  refine mw_iload_n (i := 1) rfl rfl rfl ?_
  refine mw_iconst (v := nI 0) rfl (by decide) ?_
  refine mw_bipush (v := nI 127) rfl (by decide) ?_
  refine mw_callS_f (c_in0 d n x 127 (by omega) h) rfl ok_X10_in v_X10_80 rfl (Nat.le_of_ble_eq_true rfl) rfl (Nat.le_of_ble_eq_true rfl) (by omega) (by omega) (by omega) ?_
  rw [hx]
  refine mw_b_ne rfl (fun hd => ?_) (fun hd => ?_)
  · refine mw_aload_n (i := 0) rfl rfl rfl ?_
    refine mw_getfield rfl f_X10_102 (by first | rfl | exact hO) rfl ?_
    rw [hl]
    refine mw_bipush (v := nI 60) rfl (by decide) ?_
    refine mw_n_ne rfl (by omega) (by omega) (fun hc => ?_) (fun hc => ?_)
    · omega
    · refine mw_bipush (v := (-4)) rfl (by decide) ?_
      exact mw_ireturn rfl rfl rfl rfl (Nat.le_refl _) (hp)
  · cases hd
theorem c_append (d n : Nat) (x tl : Nat) (w : Nat → Int32) (t : Nat → Nat) (h : Nat → MC) (hO : h 178 = RO w) (ht : h 182 = .inl (.int, 60, .inl (vI t))) (hx : x < 128) (hl : w 0 = nI tl) (hl60 : tl < 60) : Fn M_X10_append (d + 1) 0 0 [.ref 178, .int (nI x)] h n (some (.int (nI (tl + 1)))) (mov [(182, .inl (.int, 60, .inl (vI (updN t tl x)))), (178, RO (updN w 0 (nI (tl + 1))))] h) := by
  refine Fn.of fun post hp => ?_
  refine mw_iload_n (i := 1) rfl rfl rfl ?_
  refine mw_iconst (v := nI 0) rfl (by decide) ?_
  refine mw_bipush (v := nI 127) rfl (by decide) ?_
  refine mw_callS_f (c_in0 d n (nI x) 127 (by omega) h) rfl ok_X10_in v_X10_80 rfl (Nat.le_of_ble_eq_true rfl) rfl (Nat.le_of_ble_eq_true rfl) (by omega) (by omega) (by omega) ?_
  rw [inI_nI (show x < 127 + 1 by omega) (by omega)]
  refine mw_b_ne rfl (fun hd => ?_) (fun hd => ?_)
  · refine mw_aload_n (i := 0) rfl rfl rfl ?_
    refine mw_getfield rfl f_X10_102 (by first | rfl | exact hO | exact ht) rfl ?_
    rw [hl]
    refine mw_bipush (v := nI 60) rfl (by decide) ?_
    refine mw_n_ne rfl (by omega) (by omega) (fun hc => ?_) (fun hc => ?_)
    · refine mw_over [(182, .inl (.int, 60, .inl (vI t)))] (mov_self (by simp [ht])) ?_
      refine mw_aload_n (i := 0) rfl rfl rfl ?_
      refine mw_getfield rfl f_X10_20 (by first | rfl | exact hO | exact ht) rfl ?_
      refine mw_aload_n (i := 0) rfl rfl rfl ?_
      refine mw_getfield rfl f_X10_102 (by first | rfl | exact hO | exact ht) rfl ?_
      rw [hl]
      refine mw_iload_n (i := 1) rfl rfl rfl ?_
      refine mw_iast_m rfl (by first | rfl | exact hO | exact ht) (by omega) (by omega) ?_
      first | rw [vI_upd] | rw [vI_updv] | skip
      refine mw_aload_n (i := 0) rfl rfl rfl ?_
      refine mw_dup rfl rfl ?_
      refine mw_getfield rfl f_X10_102 (by first | rfl | exact hO | exact ht) rfl ?_
      rw [hl]
      refine mw_iconst (v := nI 1) rfl (by decide) ?_
      first | refine mw_nadd rfl ?_ | refine mw_iadd rfl ?_
      refine mw_putfield_m rfl f_X10_102 (by first | rfl | exact hO | exact ht) (Nat.le_of_ble_eq_true rfl) (fun _ => rfl) (fun _ => rfl) ?_
      refine mw_aload_n (i := 0) rfl rfl rfl ?_
      refine mw_getfield rfl f_X10_102 (by first | rfl | exact hO | exact ht) rfl ?_
      exact mw_ireturn rfl rfl rfl rfl (Nat.le_refl _) (hp)
    · omega
  · cases hd
theorem c_clearText (d n : Nat) (w : Nat → Int32) (h : Nat → MC) (hO : h 178 = RO w) : Fn M_X10_clearText d 0 0 [.ref 178] h n (some (.int (w 0))) (hset h 178 (RO (updN w 0 0))) := by
  refine Fn.of fun post hp => ?_
  refine mw_aload_n (i := 0) rfl rfl rfl ?_
  refine mw_getfield rfl f_X10_102 (by first | rfl | exact hO) rfl ?_
  refine mw_istore_n (i := 1) rfl rfl (Nat.le_of_ble_eq_true rfl) ?_
  refine mw_aload_n (i := 0) rfl rfl rfl ?_
  refine mw_iconst (v := nI 0) rfl (by decide) ?_
  refine mw_putfield rfl f_X10_102 (by first | rfl | exact hO) (Nat.le_of_ble_eq_true rfl) (fun _ => rfl) (fun _ => rfl) ?_
  refine mw_iload_n (i := 1) rfl rfl rfl ?_
  exact mw_ireturn rfl rfl rfl rfl (Nat.le_refl _) (hp)
end
section
/-- truths as a row -/
def bIf (b : Nat → Bool) : Nat → Int32 := fun j => bI (b j)
theorem bIf_upd (b : Nat → Bool) (k : Nat) (x : Bool) : upd (bIf b) k (bI x) = bIf (updN b k x) := by
  funext j
  by_cases h : j = k <;> simp [upd, bIf, updN, h]
theorem bI_t : (nI 1 : Int32) = bI true := rfl
theorem bI_f : (nI 0 : Int32) = bI false := rfl
def keepV (v kp : Nat → Nat) (o i : Nat) : Nat → Nat := fun j => if o ≤ j ∧ j < o + i then v (j - o) else kp j
theorem c_save_e (d n : Nat) (x : Int32) (h : Nat → MC) (hx : inI x 2 = false) : Fn M_X10_save (d + 1) 0 0 [.ref 178, .int x] h n (some (.int (-1))) h := by
  refine Fn.of fun post hp => ?_
  refine mw_iload_n (i := 1) rfl rfl rfl ?_
  refine mw_iconst (v := nI 0) rfl (by decide) ?_
  refine mw_iconst (v := nI 1) rfl (by decide) ?_
  refine mw_callS_f (c_in0 d n x 1 (by omega) h) rfl ok_X10_in v_X10_80 rfl (Nat.le_of_ble_eq_true rfl) rfl (Nat.le_of_ble_eq_true rfl) (by omega) (by omega) (by omega) ?_
  rw [hx]
  refine mw_b_ne rfl (fun hd => ?_) (fun hd => ?_)
  · cases hd
  · refine mw_iconst (v := (-1)) rfl (by decide) ?_
    exact mw_ireturn rfl rfl rfl rfl (Nat.le_refl _) (hp)
theorem c_save (d n : Nat) (s : Nat) (w : Nat → Int32) (v kp : Nat → Nat) (ik : Nat → Bool) (h : Nat → MC) (hO : h 178 = RO w) (hv : h 179 = .inl (.int, 189, .inl (vI v))) (hk : h 180 = .inl (.int, 378, .inl (vI kp))) (hi : h 181 = .inl (.boolean, 2, .inl (bIf ik))) (hs : s < 2) : Fn M_X10_save (d + 1) 0 0 [.ref 178, .int (nI s)] h n (some (.int (nI (v 2)))) (mov [(180, .inl (.int, 378, .inl (vI (keepV v kp (189 * s) 189)))), (181, .inl (.boolean, 2, .inl (bIf (updN ik s true))))] h) := by
  refine Fn.of fun post hp => ?_
  refine mw_iload_n (i := 1) rfl rfl rfl ?_
  refine mw_iconst (v := nI 0) rfl (by decide) ?_
  refine mw_iconst (v := nI 1) rfl (by decide) ?_
  refine mw_callS_f (c_in0 d n (nI s) 1 (by omega) h) rfl ok_X10_in v_X10_80 rfl (Nat.le_of_ble_eq_true rfl) rfl (Nat.le_of_ble_eq_true rfl) (by omega) (by omega) (by omega) ?_
  rw [inI_nI (show s < 1 + 1 by omega) (by omega)]
  refine mw_b_ne rfl (fun hd => ?_) (fun hd => ?_)
  · refine mw_iconst (v := nI 0) rfl (by decide) ?_
    refine mw_istore_n (i := 2) rfl rfl (Nat.le_of_ble_eq_true rfl) ?_
    have loop : ∀ j, j ≤ 189 → MW M_X10_save (d + 1) 0 0 n post 13 [(0, .ref 178), (1, .int (nI s)), (2, .int (nI j))] [] (mov [(180, .inl (.int, 378, .inl (vI (keepV v kp (189 * s) j))))] h) n 0 := by
      refine loop_up 189 ?_ ?_
      · refine mw_iload_n (i := 2) rfl rfl rfl ?_
        refine mw_sipush (v := nI 189) rfl (by decide) ?_
        refine mw_n_ge rfl (by omega) (by omega) (fun hc => ?_) (fun hc => ?_)
        · refine mw_aload_n (i := 0) rfl rfl rfl ?_
          refine mw_getfield rfl f_X10_16 (by first | rfl | exact hO | exact hv | exact hk | exact hi) rfl ?_
          refine mw_iload_n (i := 1) rfl rfl rfl ?_
          refine mw_iconst (v := bI true) rfl (by decide) ?_
          refine mw_zast_m rfl (by first | rfl | exact hi) (by omega) (by omega) (bI_z _) ?_
          rw [bIf_upd]
          refine mw_aload_n (i := 0) rfl rfl rfl ?_
          refine mw_getfield rfl f_X10_7 (by first | rfl | exact hO | exact hv | exact hk | exact hi) rfl ?_
          refine mw_iconst (v := nI 2) rfl (by decide) ?_
          refine mw_iald rfl (by first | rfl | exact hO | exact hv | exact hk | exact hi) (by omega) (by omega) ?_
          exact mw_ireturn rfl rfl rfl rfl (Nat.le_refl _) (hp)
        · omega
      · intro j hj ih
        refine mw_iload_n (i := 2) rfl rfl rfl ?_
        refine mw_sipush (v := nI 189) rfl (by decide) ?_
        refine mw_n_ge rfl (by omega) (by omega) (fun hc => ?_) (fun hc => ?_)
        · omega
        · refine mw_aload_n (i := 0) rfl rfl rfl ?_
          refine mw_getfield rfl f_X10_13 (by first | rfl | exact hO | exact hv | exact hk | exact hi) rfl ?_
          refine mw_sipush (v := nI 189) rfl (by decide) ?_
          refine mw_iload_n (i := 1) rfl rfl rfl ?_
          first | refine mw_nmul rfl ?_ | refine mw_imul rfl ?_
          refine mw_iload_n (i := 2) rfl rfl rfl ?_
          first | refine mw_nadd rfl ?_ | refine mw_iadd rfl ?_
          refine mw_aload_n (i := 0) rfl rfl rfl ?_
          refine mw_getfield rfl f_X10_7 (by first | rfl | exact hO | exact hv | exact hk | exact hi) rfl ?_
          refine mw_iload_n (i := 2) rfl rfl rfl ?_
          refine mw_iald rfl (by first | rfl | exact hO | exact hv | exact hk | exact hi) (by omega) (by omega) ?_
          refine mw_iast_m rfl (by first | rfl | exact hO | exact hv | exact hk | exact hi) (by omega) (by omega) ?_
          first | rw [vI_upd] | rw [vI_updv] | skip
          first | refine mw_ninc rfl rfl (Nat.le_of_ble_eq_true rfl) ?_ | refine mw_iinc rfl rfl rfl (Nat.le_of_ble_eq_true rfl) ?_
          refine mw_goto rfl ?_
          refine mw_locals rfl (mw_heap (heap1N fun i => ?_) ih)
          simp only [updN, keepV]
          by_cases q1 : i = 189 * s + j
          · subst q1
            rw [if_pos (by omega), if_pos rfl]
            congr 1
            omega
          · rw [if_neg q1]
            by_cases q2 : 189 * s ≤ i ∧ i < 189 * s + j
            · rw [if_pos q2, if_pos (by omega)]
            · rw [if_neg q2, if_neg (by omega)]
    refine mw_locals (L2 := [(0, .ref 178), (1, .int (nI s)), (2, .int (nI 0))]) rfl (mw_heap ?_ (loop 0 (by omega)))
    rw [show keepV v kp (189 * s) 0 = kp by funext j; simp only [keepV]; rw [if_neg (by omega)]]
    exact mov_self (by simp [hk])
  · cases hd
theorem c_restore_e1 (d n : Nat) (x : Int32) (h : Nat → MC) (hx : inI x 2 = false) : Fn M_X10_restore (d + 1) 0 0 [.ref 178, .int x] h n (some (.int (-1))) h := by
  refine Fn.of fun post hp => ?_
  refine mw_iload_n (i := 1) rfl rfl rfl ?_
  refine mw_iconst (v := nI 0) rfl (by decide) ?_
  refine mw_iconst (v := nI 1) rfl (by decide) ?_
  refine mw_callS_f (c_in0 d n x 1 (by omega) h) rfl ok_X10_in v_X10_80 rfl (Nat.le_of_ble_eq_true rfl) rfl (Nat.le_of_ble_eq_true rfl) (by omega) (by omega) (by omega) ?_
  rw [hx]
  refine mw_b_ne rfl (fun hd => ?_) (fun hd => ?_)
  · cases hd
  · refine mw_iconst (v := (-1)) rfl (by decide) ?_
    exact mw_ireturn rfl rfl rfl rfl (Nat.le_refl _) (hp)
theorem c_restore_e2 (d n : Nat) (s : Nat) (w : Nat → Int32) (ik : Nat → Bool) (h : Nat → MC) (hO : h 178 = RO w) (hi : h 181 = .inl (.boolean, 2, .inl (bIf ik))) (hs : s < 2) (hk : ik s = false) : Fn M_X10_restore (d + 1) 0 0 [.ref 178, .int (nI s)] h n (some (.int (-3))) h := by
  refine Fn.of fun post hp => ?_
  refine mw_iload_n (i := 1) rfl rfl rfl ?_
  refine mw_iconst (v := nI 0) rfl (by decide) ?_
  refine mw_iconst (v := nI 1) rfl (by decide) ?_
  refine mw_callS_f (c_in0 d n (nI s) 1 (by omega) h) rfl ok_X10_in v_X10_80 rfl (Nat.le_of_ble_eq_true rfl) rfl (Nat.le_of_ble_eq_true rfl) (by omega) (by omega) (by omega) ?_
  rw [inI_nI (show s < 1 + 1 by omega) (by omega)]
  refine mw_b_ne rfl (fun hd => ?_) (fun hd => ?_)
  · refine mw_aload_n (i := 0) rfl rfl rfl ?_
    refine mw_getfield rfl f_X10_16 (by first | rfl | exact hO | exact hi) rfl ?_
    refine mw_iload_n (i := 1) rfl rfl rfl ?_
    refine mw_zald_v rfl hi (by omega) (by omega) (show bIf ik s = bI false by rw [bIf, hk]) ?_
    refine mw_b_ne rfl (fun he => ?_) (fun he => ?_)
    · cases he
    · refine mw_bipush (v := (-3)) rfl (by decide) ?_
      exact mw_ireturn rfl rfl rfl rfl (Nat.le_refl _) (hp)
  · cases hd
theorem c_restore (d n : Nat) (s : Nat) (w : Nat → Int32) (v kp : Nat → Nat) (ik : Nat → Bool) (h : Nat → MC) (hO : h 178 = RO w) (hv : h 179 = .inl (.int, 189, .inl (vI v))) (hk : h 180 = .inl (.int, 378, .inl (vI kp))) (hi : h 181 = .inl (.boolean, 2, .inl (bIf ik))) (hs : s < 2) (hik : ik s = true) : Fn M_X10_restore (d + 1) 0 0 [.ref 178, .int (nI s)] h n (some (.int (nI (kp (189 * s + 2))))) (mov [(179, .inl (.int, 189, .inl (vI (fun j => if j < 189 then kp (189 * s + j) else v j)))), (178, RO (updN w 3 0))] h) := by
  refine Fn.of fun post hp => ?_
  refine mw_iload_n (i := 1) rfl rfl rfl ?_
  refine mw_iconst (v := nI 0) rfl (by decide) ?_
  refine mw_iconst (v := nI 1) rfl (by decide) ?_
  refine mw_callS_f (c_in0 d n (nI s) 1 (by omega) h) rfl ok_X10_in v_X10_80 rfl (Nat.le_of_ble_eq_true rfl) rfl (Nat.le_of_ble_eq_true rfl) (by omega) (by omega) (by omega) ?_
  rw [inI_nI (show s < 1 + 1 by omega) (by omega)]
  refine mw_b_ne rfl (fun hd => ?_) (fun hd => ?_)
  · refine mw_aload_n (i := 0) rfl rfl rfl ?_
    refine mw_getfield rfl f_X10_16 (by first | rfl | exact hO | exact hv | exact hk | exact hi) rfl ?_
    refine mw_iload_n (i := 1) rfl rfl rfl ?_
    refine mw_zald_v rfl hi (by omega) (by omega) (show bIf ik s = bI true by rw [bIf, hik]) ?_
    refine mw_b_ne rfl (fun he => ?_) (fun he => ?_)
    · refine mw_iconst (v := nI 0) rfl (by decide) ?_
      refine mw_istore_n (i := 2) rfl rfl (Nat.le_of_ble_eq_true rfl) ?_
      have loop : ∀ j, j ≤ 189 → MW M_X10_restore (d + 1) 0 0 n post 25 [(0, .ref 178), (1, .int (nI s)), (2, .int (nI j))] [] (mov [(179, .inl (.int, 189, .inl (vI (fun i => if i < j then kp (189 * s + i) else v i))))] h) n 0 := by
        refine loop_up 189 ?_ ?_
        · refine mw_iload_n (i := 2) rfl rfl rfl ?_
          refine mw_sipush (v := nI 189) rfl (by decide) ?_
          refine mw_n_ge rfl (by omega) (by omega) (fun hc => ?_) (fun hc => ?_)
          · refine mw_aload_n (i := 0) rfl rfl rfl ?_
            refine mw_iconst (v := nI 0) rfl (by decide) ?_
            first | refine mw_putfield_m rfl f_X10_76 (by first | rfl | exact hO | exact hv | exact hk | exact hi) (Nat.le_of_ble_eq_true rfl) (fun _ => bI_nar _) (fun _ => bI_fit _) ?_ | refine mw_putfield_m rfl f_X10_76 (by first | rfl | exact hO | exact hv | exact hk | exact hi) (Nat.le_of_ble_eq_true rfl) (fun _ => rfl) (fun _ => rfl) ?_
            refine mw_aload_n (i := 0) rfl rfl rfl ?_
            refine mw_getfield rfl f_X10_7 (by first | rfl | exact hO | exact hv | exact hk | exact hi) rfl ?_
            refine mw_iconst (v := nI 2) rfl (by decide) ?_
            refine mw_iald rfl (by first | rfl | exact hO | exact hv | exact hk | exact hi) (by omega) (by omega) ?_
            exact mw_ireturn rfl rfl rfl rfl (Nat.le_refl _) (hp)
          · omega
        · intro j hj ih
          refine mw_iload_n (i := 2) rfl rfl rfl ?_
          refine mw_sipush (v := nI 189) rfl (by decide) ?_
          refine mw_n_ge rfl (by omega) (by omega) (fun hc => ?_) (fun hc => ?_)
          · omega
          · refine mw_aload_n (i := 0) rfl rfl rfl ?_
            refine mw_getfield rfl f_X10_7 (by first | rfl | exact hO | exact hv | exact hk | exact hi) rfl ?_
            refine mw_iload_n (i := 2) rfl rfl rfl ?_
            refine mw_aload_n (i := 0) rfl rfl rfl ?_
            refine mw_getfield rfl f_X10_13 (by first | rfl | exact hO | exact hv | exact hk | exact hi) rfl ?_
            refine mw_sipush (v := nI 189) rfl (by decide) ?_
            refine mw_iload_n (i := 1) rfl rfl rfl ?_
            first | refine mw_nmul rfl ?_ | refine mw_imul rfl ?_
            refine mw_iload_n (i := 2) rfl rfl rfl ?_
            first | refine mw_nadd rfl ?_ | refine mw_iadd rfl ?_
            refine mw_iald rfl (by first | rfl | exact hO | exact hv | exact hk | exact hi) (by omega) (by omega) ?_
            refine mw_iast_m rfl (by first | rfl | exact hO | exact hv | exact hk | exact hi) (by omega) (by omega) ?_
            first | rw [vI_upd] | rw [vI_updv] | skip
            first | refine mw_ninc rfl rfl (Nat.le_of_ble_eq_true rfl) ?_ | refine mw_iinc rfl rfl rfl (Nat.le_of_ble_eq_true rfl) ?_
            refine mw_goto rfl ?_
            refine mw_locals rfl (mw_heap (heap1N fun i => ?_) ih)
            simp only [updN]
            by_cases q1 : i = j
            · subst q1
              rw [if_pos (by omega), if_pos rfl]
            · rw [if_neg q1]
              by_cases q2 : i < j
              · rw [if_pos q2, if_pos (by omega)]
              · rw [if_neg q2, if_neg (by omega)]
      refine mw_locals (L2 := [(0, .ref 178), (1, .int (nI s)), (2, .int (nI 0))]) rfl (mw_heap ?_ (loop 0 (by omega)))
      exact mov_self (by simp [hv])
    · cases he
  · cases hd
end
section
theorem nI_z {a : Nat} (ha : a < 2147483648) : nI a = 0 ↔ a = 0 := ⟨fun h => (nI_eq ha (by omega)).mp (h.trans nI_0.symm), fun h => by rw [h]; rfl⟩
theorem mw_z_eq {M : MI} {d mc ms n0 : Nat} {post : Option Value → (Nat → MC) → Prop} {pc : Nat} {L : List (Nat × Value)} {S : List Value} {h : Nat → MC} {n sl nx tg a : Nat} {off : Int} (hf : fch M pc = some (.ifCond .eq off, 3, nx, tg)) (ha : a < 2147483648) (kt : a = 0 → MW M d mc ms n0 post tg L S h n sl) (kf : a ≠ 0 → MW M d mc ms n0 post nx L S h n sl) : MW M d mc ms n0 post pc L (.int (nI a) :: S) h n sl := mw_if_eq hf (fun h => kt ((nI_z ha).mp h)) (fun h => kf (fun q => h ((nI_z ha).mpr q)))
theorem mw_z_ne {M : MI} {d mc ms n0 : Nat} {post : Option Value → (Nat → MC) → Prop} {pc : Nat} {L : List (Nat × Value)} {S : List Value} {h : Nat → MC} {n sl nx tg a : Nat} {off : Int} (hf : fch M pc = some (.ifCond .ne off, 3, nx, tg)) (ha : a < 2147483648) (kt : a ≠ 0 → MW M d mc ms n0 post tg L S h n sl) (kf : a = 0 → MW M d mc ms n0 post nx L S h n sl) : MW M d mc ms n0 post pc L (.int (nI a) :: S) h n sl := mw_if_ne hf (fun h => kt (fun q => h ((nI_z ha).mpr q))) (fun h => kf ((nI_z ha).mp h))
theorem mw_z_gt {M : MI} {d mc ms n0 : Nat} {post : Option Value → (Nat → MC) → Prop} {pc : Nat} {L : List (Nat × Value)} {S : List Value} {h : Nat → MC} {n sl nx tg a : Nat} {off : Int} (hf : fch M pc = some (.ifCond .gt off, 3, nx, tg)) (ha : a < 2147483648) (kt : 0 < a → MW M d mc ms n0 post tg L S h n sl) (kf : a = 0 → MW M d mc ms n0 post nx L S h n sl) : MW M d mc ms n0 post pc L (.int (nI a) :: S) h n sl := mw_if_gt hf (fun h => kt ((nI_ltI (by omega) ha).mp (show nI 0 < nI a from h))) (fun h => kf (Nat.eq_zero_of_not_pos fun q => h ((nI_ltI (a := 0) (by omega) ha).mpr q)))
theorem mw_z_le {M : MI} {d mc ms n0 : Nat} {post : Option Value → (Nat → MC) → Prop} {pc : Nat} {L : List (Nat × Value)} {S : List Value} {h : Nat → MC} {n sl nx tg a : Nat} {off : Int} (hf : fch M pc = some (.ifCond .le off, 3, nx, tg)) (ha : a < 2147483648) (kt : a = 0 → MW M d mc ms n0 post tg L S h n sl) (kf : 0 < a → MW M d mc ms n0 post nx L S h n sl) : MW M d mc ms n0 post pc L (.int (nI a) :: S) h n sl := mw_if_le hf (fun h => kt (Nat.le_zero.mp ((nI_leI ha (by omega)).mp (show nI a ≤ nI 0 from h)))) (fun h => kf (Nat.pos_of_ne_zero fun q => h ((nI_leI (b := 0) ha (by omega)).mpr (Nat.le_of_eq q))))
theorem mw_z_lt {M : MI} {d mc ms n0 : Nat} {post : Option Value → (Nat → MC) → Prop} {pc : Nat} {L : List (Nat × Value)} {S : List Value} {h : Nat → MC} {n sl nx tg a : Nat} {off : Int} (hf : fch M pc = some (.ifCond .lt off, 3, nx, tg)) (ha : a < 2147483648) (kt : False → MW M d mc ms n0 post tg L S h n sl) (kf : True → MW M d mc ms n0 post nx L S h n sl) : MW M d mc ms n0 post pc L (.int (nI a) :: S) h n sl := mw_if_lt hf (fun h => kt (absurd h (nI_pos ha))) (fun h => kf (trivial))
theorem mw_z_ge {M : MI} {d mc ms n0 : Nat} {post : Option Value → (Nat → MC) → Prop} {pc : Nat} {L : List (Nat × Value)} {S : List Value} {h : Nat → MC} {n sl nx tg a : Nat} {off : Int} (hf : fch M pc = some (.ifCond .ge off, 3, nx, tg)) (ha : a < 2147483648) (kt : True → MW M d mc ms n0 post tg L S h n sl) (kf : False → MW M d mc ms n0 post nx L S h n sl) : MW M d mc ms n0 post pc L (.int (nI a) :: S) h n sl := mw_if_ge hf (fun h => kt (trivial)) (fun h => kf (absurd (nI_pos' ha) h))
theorem mw_nior {M : MI} {d mc ms n0 : Nat} {post : Option Value → (Nat → MC) → Prop} {pc : Nat} {L : List (Nat × Value)} {S : List Value} {h : Nat → MC} {n sl nx tg a b : Nat} (hf : fch M pc = some (.ior, 1, nx, tg)) (k : MW M d mc ms n0 post nx L (.int (nI (a ||| b)) :: S) h n sl) : MW M d mc ms n0 post pc L (.int (nI b) :: .int (nI a) :: S) h n sl := mw_ior hf (by
  have e : nI a ||| nI b = nI (a ||| b) := by
    apply Int32.toBitVec_inj.mp
    simp only [Int32.toBitVec_or]
    show (BitVec.ofNat 32 a) ||| (BitVec.ofNat 32 b) = BitVec.ofNat 32 (a ||| b)
    apply BitVec.eq_of_toNat_eq
    simp [Nat.or_mod_two_pow]
  rw [e]; exact k)
/-- steps 0 .. n - 1, one after the other -/
def itN {α : Type} (step : Nat → α → α) (a : α) : Nat → α
  | 0 => a
  | k + 1 => step k (itN step a k)
def tOf (b : Nat → Nat) (t : Nat) : Nat := if t < 6 then t else b (t - 6)
def fA (v b : Nat → Nat) (r a : Nat) : Nat := 36 * v (45 + 18 * r + 2 + 4 * a) + 6 * tOf b (v (45 + 18 * r + 2 + 4 * a + 1)) + tOf b (v (45 + 18 * r + 2 + 4 * a + 2))
theorem tOf_lt {b : Nat → Nat} (hb : ∀ x, x < 3 → b x < 6) {t : Nat} (ht : t < 9) : tOf b t < 6 := by
  unfold tOf
  split
  · assumption
  · exact hb _ (by omega)
theorem fA_lt {v b : Nat → Nat} (hok : OkN v) (hb : ∀ x, x < 3 → b x < 6) {r a : Nat} (hr : r < v 2) (ha : a ≤ v (45 + 18 * r + 1)) : fA v b r a < 216 := by
  obtain ⟨-, -, -, -, hat⟩ := hok.2.2.2.2.2.2 r hr
  obtain ⟨h1, h2, h3, -⟩ := hat a ha
  have := tOf_lt hb h2
  have := tOf_lt hb h3
  unfold fA
  omega
theorem c_termOf (d n : Nat) (t : Nat) (w : Nat → Int32) (b : Nat → Nat) (h : Nat → MC) (hO : h 178 = RO w) (hb : h 185 = .inl (.int, 3, .inl (vI b))) (ht : t < 9) : Fn M_X10_termOf d 0 0 [.ref 178, .int (nI t)] h n (some (.int (nI (tOf b t)))) h := by
  refine Fn.of fun post hp => ?_
  refine mw_iload_n (i := 1) rfl rfl rfl ?_
  refine mw_bipush (v := nI 6) rfl (by decide) ?_
  refine mw_n_ge rfl (by omega) (by omega) (fun hc => ?_) (fun hc => ?_)
  · rw [show tOf b t = b (t - 6) by unfold tOf; rw [if_neg (by omega)]] at hp
    refine mw_aload_n (i := 0) rfl rfl rfl ?_
    refine mw_getfield rfl f_X10_29 (by first | rfl | exact hO | exact hb) rfl ?_
    refine mw_iload_n (i := 1) rfl rfl rfl ?_
    refine mw_bipush (v := nI 6) rfl (by decide) ?_
    first | refine mw_nsub rfl (by omega) ?_ | refine mw_isub rfl ?_
    refine mw_iald rfl (by first | rfl | exact hO | exact hb) (by omega) (by omega) ?_
    exact mw_ireturn rfl rfl rfl rfl (Nat.le_refl _) (hp)
  · rw [show tOf b t = t by unfold tOf; rw [if_pos (by omega)]] at hp
    refine mw_iload_n (i := 1) rfl rfl rfl ?_
    refine mw_goto rfl ?_
    exact mw_ireturn rfl rfl rfl rfl (Nat.le_refl _) (hp)
theorem c_factAt (d n : Nat) (r a : Nat) (w : Nat → Int32) (v b : Nat → Nat) (h : Nat → MC) (hO : h 178 = RO w) (hv : h 179 = .inl (.int, 189, .inl (vI v))) (hb : h 185 = .inl (.int, 3, .inl (vI b))) (hok : OkN v) (hr : r < v 2) (ha : a ≤ v (45 + 18 * r + 1)) : Fn M_X10_factAt (d + 1) 0 0 [.ref 178, .int (nI r), .int (nI a)] h n (some (.int (nI (fA v b r a)))) h := by
  obtain ⟨-, -, hl1, hl3, hat⟩ := hok.2.2.2.2.2.2 r hr
  obtain ⟨h1, h2, h3, -⟩ := hat a ha
  have hr8 := hok.2.2.2.1
  refine Fn.of fun post hp => ?_
  refine mw_iload_n (i := 1) rfl rfl rfl ?_
  refine mw_iload_n (i := 2) rfl rfl rfl ?_
  refine mw_callS_f (c_atomAt d n r a h) rfl ok_X10_atomAt v_X10_88 rfl (Nat.le_of_ble_eq_true rfl) rfl (Nat.le_of_ble_eq_true rfl) (by omega) (by omega) (by omega) ?_
  refine mw_istore_n (i := 3) rfl rfl (Nat.le_of_ble_eq_true rfl) ?_
  refine mw_aload_n (i := 0) rfl rfl rfl ?_
  refine mw_getfield rfl f_X10_7 (by first | rfl | exact hO | exact hv | exact hb) rfl ?_
  refine mw_iload_n (i := 3) rfl rfl rfl ?_
  refine mw_iald rfl (by first | rfl | exact hO | exact hv | exact hb) (by omega) (by omega) ?_
  refine mw_aload_n (i := 0) rfl rfl rfl ?_
  refine mw_aload_n (i := 0) rfl rfl rfl ?_
  refine mw_getfield rfl f_X10_7 (by first | rfl | exact hO | exact hv | exact hb) rfl ?_
  refine mw_iload_n (i := 3) rfl rfl rfl ?_
  refine mw_iconst (v := nI 1) rfl (by decide) ?_
  first | refine mw_nadd rfl ?_ | refine mw_iadd rfl ?_
  refine mw_iald rfl (by first | rfl | exact hO | exact hv | exact hb) (by omega) (by omega) ?_
  refine mw_callV_f (c_termOf d n (v (45 + 18 * r + 2 + 4 * a + 1)) w b h hO hb h2) rfl ok_X10_termOf v_X10_135 rfl (by first | rfl | exact hO | exact hv | exact hb) (by intro e; cases e) rfl (Nat.le_of_ble_eq_true rfl) rfl (Nat.le_of_ble_eq_true rfl) (by omega) (by omega) (by omega) ?_
  refine mw_aload_n (i := 0) rfl rfl rfl ?_
  refine mw_aload_n (i := 0) rfl rfl rfl ?_
  refine mw_getfield rfl f_X10_7 (by first | rfl | exact hO | exact hv | exact hb) rfl ?_
  refine mw_iload_n (i := 3) rfl rfl rfl ?_
  refine mw_iconst (v := nI 2) rfl (by decide) ?_
  first | refine mw_nadd rfl ?_ | refine mw_iadd rfl ?_
  refine mw_iald rfl (by first | rfl | exact hO | exact hv | exact hb) (by omega) (by omega) ?_
  refine mw_callV_f (c_termOf d n (v (45 + 18 * r + 2 + 4 * a + 2)) w b h hO hb h3) rfl ok_X10_termOf v_X10_135 rfl (by first | rfl | exact hO | exact hv | exact hb) (by intro e; cases e) rfl (Nat.le_of_ble_eq_true rfl) rfl (Nat.le_of_ble_eq_true rfl) (by omega) (by omega) (by omega) ?_
  refine mw_callS_f (c_factOf d n (v (45 + 18 * r + 2 + 4 * a)) (tOf b (v (45 + 18 * r + 2 + 4 * a + 1))) (tOf b (v (45 + 18 * r + 2 + 4 * a + 2))) h) rfl ok_X10_factOf v_X10_98 rfl (Nat.le_of_ble_eq_true rfl) rfl (Nat.le_of_ble_eq_true rfl) (by omega) (by omega) (by omega) ?_
  exact mw_ireturn rfl rfl rfl rfl (Nat.le_refl _) (hp)
/-- the body of an instance is as it has to be in a model: the literals 1 .. k -/
def hLit (v b : Nat → Nat) (m : Nat → Int32) (r a : Nat) : Bool := decide (0 ≤ m (fA v b r (a + 1))) == decide (v (45 + 18 * r + 2 + 4 * (a + 1) + 3) = 0)
def andN (f : Nat → Bool) : Nat → Bool
  | 0 => true
  | k + 1 => andN f k && f k
theorem andN_iff (f : Nat → Bool) : ∀ n, andN f n = true ↔ ∀ k, k < n → f k = true
  | 0 => by simp [andN]
  | n + 1 => by
    simp only [andN, Bool.and_eq_true, andN_iff f n]
    constructor
    · rintro ⟨h1, h2⟩ k hk
      by_cases e : k = n
      · subst e; exact h2
      · exact h1 k (by omega)
    · intro h
      exact ⟨fun k hk => h k (by omega), h n (by omega)⟩
def holdsR (v b : Nat → Nat) (m : Nat → Int32) (r : Nat) : Bool := andN (hLit v b m r) (v (45 + 18 * r + 1))
theorem c_holds (d n : Nat) (r K : Nat) (w : Nat → Int32) (v b : Nat → Nat) (m : Nat → Int32) (h : Nat → MC) (hO : h 178 = RO w) (hv : h 179 = .inl (.int, 189, .inl (vI v))) (hb : h 185 = .inl (.int, 3, .inl (vI b))) (hm : h K = .inl (.int, 216, .inl m)) (hok : OkN v) (hb6 : ∀ x, x < 3 → b x < 6) (hr : r < v 2) : Fn M_X10_holds (d + 2) 0 0 [.ref 178, .int (nI r), .ref K] h n (some (.int (bI (holdsR v b m r)))) h := by
  obtain ⟨-, -, hl1, hl3, hat⟩ := hok.2.2.2.2.2.2 r hr
  have hr8 := hok.2.2.2.1
  refine Fn.of fun post hp => ?_
  refine mw_iconst (v := nI 1) rfl (by decide) ?_
  refine mw_istore_n (i := 3) rfl rfl (Nat.le_of_ble_eq_true rfl) ?_
  refine mw_iconst (v := nI 1) rfl (by decide) ?_
  refine mw_istore rfl (Nat.le_of_ble_eq_true rfl) ?_
  have loop : ∀ a, a ≤ v (45 + 18 * r + 1) → MW M_X10_holds (d + 2) 0 0 n post 5 [(0, .ref 178), (1, .int (nI r)), (2, .ref K), (3, .int (bI (andN (hLit v b m r) a))), (4, .int (nI (a + 1)))] [] h n 0 := by
    refine loop_up (v (45 + 18 * r + 1)) ?_ ?_
    · refine mw_iload rfl rfl ?_
      refine mw_aload_n (i := 0) rfl rfl rfl ?_
      refine mw_getfield rfl f_X10_7 (by first | rfl | exact hO | exact hv | exact hb | exact hm) rfl ?_
      refine mw_bipush (v := nI 45) rfl (by decide) ?_
      refine mw_bipush (v := nI 18) rfl (by decide) ?_
      refine mw_iload_n (i := 1) rfl rfl rfl ?_
      first | refine mw_nmul rfl ?_ | refine mw_imul rfl ?_
      first | refine mw_nadd rfl ?_ | refine mw_iadd rfl ?_
      refine mw_iconst (v := nI 1) rfl (by decide) ?_
      first | refine mw_nadd rfl ?_ | refine mw_iadd rfl ?_
      refine mw_iald rfl (by first | rfl | exact hO | exact hv | exact hb | exact hm) (by omega) (by omega) ?_
      refine mw_n_gt rfl (by omega) (by omega) (fun hc => ?_) (fun hc => ?_)
      · refine mw_iload_n (i := 3) rfl rfl rfl ?_
        first | exact mw_ireturn rfl rfl (bI_nar _) rfl (Nat.le_refl _) (hp) | exact mw_ireturn rfl rfl rfl rfl (Nat.le_refl _) (hp)
      · omega
    · intro a ha ih
      obtain ⟨h1, h2, h3, h4⟩ := hat (a + 1) (by omega)
      have hlt := fA_lt hok hb6 hr (show a + 1 ≤ v (45 + 18 * r + 1) by omega)
      refine mw_iload rfl rfl ?_
      refine mw_aload_n (i := 0) rfl rfl rfl ?_
      refine mw_getfield rfl f_X10_7 (by first | rfl | exact hO | exact hv | exact hb | exact hm) rfl ?_
      refine mw_bipush (v := nI 45) rfl (by decide) ?_
      refine mw_bipush (v := nI 18) rfl (by decide) ?_
      refine mw_iload_n (i := 1) rfl rfl rfl ?_
      first | refine mw_nmul rfl ?_ | refine mw_imul rfl ?_
      first | refine mw_nadd rfl ?_ | refine mw_iadd rfl ?_
      refine mw_iconst (v := nI 1) rfl (by decide) ?_
      first | refine mw_nadd rfl ?_ | refine mw_iadd rfl ?_
      refine mw_iald rfl (by first | rfl | exact hO | exact hv | exact hb | exact hm) (by omega) (by omega) ?_
      refine mw_n_gt rfl (by omega) (by omega) (fun hc => ?_) (fun hc => ?_)
      · omega
      · refine mw_aload_n (i := 2) rfl rfl rfl ?_
        refine mw_aload_n (i := 0) rfl rfl rfl ?_
        refine mw_iload_n (i := 1) rfl rfl rfl ?_
        refine mw_iload rfl rfl ?_
        refine mw_callV_f (c_factAt d n r (a + 1) w v b h hO hv hb hok hr (by omega)) rfl ok_X10_factAt v_X10_139 rfl (by first | rfl | exact hO | exact hv | exact hb | exact hm) (by intro e; cases e) rfl (Nat.le_of_ble_eq_true rfl) rfl (Nat.le_of_ble_eq_true rfl) (by omega) (by omega) (by omega) ?_
        refine mw_iald rfl (by first | rfl | exact hO | exact hv | exact hb | exact hm) (by omega) (by omega) ?_
        refine mw_if_lt rfl (fun ht => ?_) (fun ht => ?_)
        · refine mw_iconst (v := nI 0) rfl (by decide) ?_
          refine mw_istore rfl (Nat.le_of_ble_eq_true rfl) ?_
          refine mw_iload_n (i := 3) rfl rfl rfl ?_
          refine mw_b_eq rfl (fun hi => ?_) (fun hi => ?_)
          · refine mw_iconst (v := nI 0) rfl (by decide) ?_
            refine mw_istore_n (i := 3) rfl rfl (Nat.le_of_ble_eq_true rfl) ?_
            first | refine mw_ninc rfl rfl (Nat.le_of_ble_eq_true rfl) ?_ | refine mw_iinc rfl rfl rfl (Nat.le_of_ble_eq_true rfl) ?_
            refine mw_goto rfl ?_
            refine mw_locals ?_ ih
            rw [show andN (hLit v b m r) (a + 1) = false by simp [andN, hi]]
            rfl
          · have hneg : ¬ (0 : Int32) ≤ m (fA v b r (a + 1)) := Int32.not_le.mpr ht
            refine mw_iload rfl rfl ?_
            refine mw_aload_n (i := 0) rfl rfl rfl ?_
            refine mw_getfield rfl f_X10_7 (by first | rfl | exact hO | exact hv | exact hb | exact hm) rfl ?_
            refine mw_iload_n (i := 1) rfl rfl rfl ?_
            refine mw_iload rfl rfl ?_
            refine mw_callS_f (c_atomAt (d + 1) n r (a + 1) h) rfl ok_X10_atomAt v_X10_88 rfl (Nat.le_of_ble_eq_true rfl) rfl (Nat.le_of_ble_eq_true rfl) (by omega) (by omega) (by omega) ?_
            refine mw_iconst (v := nI 3) rfl (by decide) ?_
            first | refine mw_nadd rfl ?_ | refine mw_iadd rfl ?_
            refine mw_iald rfl (by first | rfl | exact hO | exact hv | exact hb | exact hm) (by omega) (by omega) ?_
            refine mw_if_ne rfl (fun hz => ?_) (fun hz => ?_)
            · refine mw_iconst (v := nI 0) rfl (by decide) ?_
              refine mw_n_ne rfl (by omega) (by omega) (fun hz2 => ?_) (fun hz2 => ?_)
              · omega
              · refine mw_iconst (v := nI 1) rfl (by decide) ?_
                refine mw_goto rfl ?_
                refine mw_istore_n (i := 3) rfl rfl (Nat.le_of_ble_eq_true rfl) ?_
                first | refine mw_ninc rfl rfl (Nat.le_of_ble_eq_true rfl) ?_ | refine mw_iinc rfl rfl rfl (Nat.le_of_ble_eq_true rfl) ?_
                refine mw_goto rfl ?_
                refine mw_locals ?_ ih
                rw [show andN (hLit v b m r) (a + 1) = true by
                  have : v (45 + 18 * r + 2 + 4 * (a + 1) + 3) ≠ 0 := fun q => hz (show nI _ = 0 by rw [q]; rfl)
                  simp [andN, hi, hLit, hneg, this]]
                rfl
            · refine mw_iconst (v := nI 1) rfl (by decide) ?_
              refine mw_goto rfl ?_
              refine mw_n_ne rfl (by omega) (by omega) (fun hz2 => ?_) (fun hz2 => ?_)
              · refine mw_iconst (v := nI 0) rfl (by decide) ?_
                refine mw_istore_n (i := 3) rfl rfl (Nat.le_of_ble_eq_true rfl) ?_
                first | refine mw_ninc rfl rfl (Nat.le_of_ble_eq_true rfl) ?_ | refine mw_iinc rfl rfl rfl (Nat.le_of_ble_eq_true rfl) ?_
                refine mw_goto rfl ?_
                refine mw_locals ?_ ih
                rw [show andN (hLit v b m r) (a + 1) = false by
                  have : v (45 + 18 * r + 2 + 4 * (a + 1) + 3) = 0 := (nI_eq (by omega) (by omega)).mp (hz.trans nI_0.symm)
                  simp [andN, hi, hLit, hneg, this]]
                rfl
              · omega
        · refine mw_iconst (v := nI 1) rfl (by decide) ?_
          refine mw_goto rfl ?_
          refine mw_istore rfl (Nat.le_of_ble_eq_true rfl) ?_
          refine mw_iload_n (i := 3) rfl rfl rfl ?_
          refine mw_b_eq rfl (fun hi => ?_) (fun hi => ?_)
          · refine mw_iconst (v := nI 0) rfl (by decide) ?_
            refine mw_istore_n (i := 3) rfl rfl (Nat.le_of_ble_eq_true rfl) ?_
            first | refine mw_ninc rfl rfl (Nat.le_of_ble_eq_true rfl) ?_ | refine mw_iinc rfl rfl rfl (Nat.le_of_ble_eq_true rfl) ?_
            refine mw_goto rfl ?_
            refine mw_locals ?_ ih
            rw [show andN (hLit v b m r) (a + 1) = false by simp [andN, hi]]
            rfl
          · have hneg : (0 : Int32) ≤ m (fA v b r (a + 1)) := Int32.not_lt.mp ht
            refine mw_iload rfl rfl ?_
            refine mw_aload_n (i := 0) rfl rfl rfl ?_
            refine mw_getfield rfl f_X10_7 (by first | rfl | exact hO | exact hv | exact hb | exact hm) rfl ?_
            refine mw_iload_n (i := 1) rfl rfl rfl ?_
            refine mw_iload rfl rfl ?_
            refine mw_callS_f (c_atomAt (d + 1) n r (a + 1) h) rfl ok_X10_atomAt v_X10_88 rfl (Nat.le_of_ble_eq_true rfl) rfl (Nat.le_of_ble_eq_true rfl) (by omega) (by omega) (by omega) ?_
            refine mw_iconst (v := nI 3) rfl (by decide) ?_
            first | refine mw_nadd rfl ?_ | refine mw_iadd rfl ?_
            refine mw_iald rfl (by first | rfl | exact hO | exact hv | exact hb | exact hm) (by omega) (by omega) ?_
            refine mw_if_ne rfl (fun hz => ?_) (fun hz => ?_)
            · refine mw_iconst (v := nI 0) rfl (by decide) ?_
              refine mw_n_ne rfl (by omega) (by omega) (fun hz2 => ?_) (fun hz2 => ?_)
              · refine mw_iconst (v := nI 0) rfl (by decide) ?_
                refine mw_istore_n (i := 3) rfl rfl (Nat.le_of_ble_eq_true rfl) ?_
                first | refine mw_ninc rfl rfl (Nat.le_of_ble_eq_true rfl) ?_ | refine mw_iinc rfl rfl rfl (Nat.le_of_ble_eq_true rfl) ?_
                refine mw_goto rfl ?_
                refine mw_locals ?_ ih
                rw [show andN (hLit v b m r) (a + 1) = false by
                  have : v (45 + 18 * r + 2 + 4 * (a + 1) + 3) ≠ 0 := fun q => hz (show nI _ = 0 by rw [q]; rfl)
                  simp [andN, hi, hLit, hneg, this]]
                rfl
              · omega
            · refine mw_iconst (v := nI 1) rfl (by decide) ?_
              refine mw_goto rfl ?_
              refine mw_n_ne rfl (by omega) (by omega) (fun hz2 => ?_) (fun hz2 => ?_)
              · omega
              · refine mw_iconst (v := nI 1) rfl (by decide) ?_
                refine mw_goto rfl ?_
                refine mw_istore_n (i := 3) rfl rfl (Nat.le_of_ble_eq_true rfl) ?_
                first | refine mw_ninc rfl rfl (Nat.le_of_ble_eq_true rfl) ?_ | refine mw_iinc rfl rfl rfl (Nat.le_of_ble_eq_true rfl) ?_
                refine mw_goto rfl ?_
                refine mw_locals ?_ ih
                rw [show andN (hLit v b m r) (a + 1) = true by
                  have : v (45 + 18 * r + 2 + 4 * (a + 1) + 3) = 0 := (nI_eq (by omega) (by omega)).mp (hz.trans nI_0.symm)
                  simp [andN, hi, hLit, hneg, this]]
                rfl
  exact mw_locals rfl (loop 0 (Nat.zero_le _))
end
section
theorem sh_amt : ∀ x, x < 31 → ((nI x &&& 31).toBitVec.smod 32).toNat = x := by decide +kernel
theorem shlN {a k : Nat} (hk : k < 31) (h : a * 2 ^ k < 2 ^ 32) : nI a <<< (nI k &&& 31) = nI (a * 2 ^ k) := pk_shlN _ k (sh_amt k hk) h
theorem bitN {U x : Nat} (hU : U < 2147483648) (hx : x < 31) : (nI U >>> (nI x &&& 31)) &&& nI 1 = nI (U / 2 ^ x % 2) := by
  rw [pk_shrN (by omega) _ x (sh_amt x hx)]
  have h1 : U / 2 ^ x ≤ U := Nat.div_le_self _ _
  exact pk_andN (by omega) 1 rfl
def orM (f : Nat → Nat) : Nat → Nat
  | 0 => 0
  | k + 1 => orM f k ||| f k
def tb (t : Nat) : Nat := if 5 < t then 2 ^ (t - 6) else 0
def rowB (v : Nat → Nat) (r a : Nat) : Nat := tb (v (45 + 18 * r + 2 + 4 * a + 1)) ||| tb (v (45 + 18 * r + 2 + 4 * a + 2))
theorem tb_lt {t : Nat} (h : t < 9) : tb t < 8 := by
  unfold tb
  split
  · rcases (show t = 6 ∨ t = 7 ∨ t = 8 by omega) with rfl | rfl | rfl <;> decide
  · decide
theorem orM_lt {f : Nat → Nat} : ∀ n, (∀ k, k < n → f k < 8) → orM f n < 8
  | 0, _ => by show 0 < 8; omega
  | n + 1, h => Nat.or_lt_two_pow (n := 3) (orM_lt n (fun k hk => h k (by omega))) (h n (by omega))
/-- which variables a rule has, as bits -/
def varB (v : Nat → Nat) (r : Nat) : Nat := orM (rowB v r) (v (45 + 18 * r + 1) + 1)
def bndU (b : Nat → Nat) (code : Nat) : Nat → Nat := updN (updN (updN b 0 (code / 36)) 1 (code / 6 % 6)) 2 (code % 6)
def bLim (v : Nat → Nat) (r x : Nat) : Nat := if varB v r / 2 ^ x % 2 = 1 then v 0 else 1
def bOk (v : Nat → Nat) (r code : Nat) : Bool := andN (fun x => decide (bndU (fun _ => 0) code x < bLim v r x)) 3
theorem bndU_at (b : Nat → Nat) (code : Nat) {x : Nat} (hx : x < 3) : bndU b code x = bndU (fun _ => 0) code x := by
  rcases (show x = 0 ∨ x = 1 ∨ x = 2 by omega) with rfl | rfl | rfl <;> rfl
theorem bndU_lt (b : Nat → Nat) {code : Nat} (hc : code < 216) {x : Nat} (hx : x < 3) : bndU b code x < 6 := by
  rcases (show x = 0 ∨ x = 1 ∨ x = 2 by omega) with rfl | rfl | rfl
  · show code / 36 < 6; omega
  · show code / 6 % 6 < 6; omega
  · show code % 6 < 6; omega
theorem c_isBinding (d n : Nat) (r code : Nat) (w : Nat → Int32) (v b : Nat → Nat) (h : Nat → MC) (hO : h 178 = RO w) (hv : h 179 = .inl (.int, 189, .inl (vI v))) (hb : h 185 = .inl (.int, 3, .inl (vI b))) (hok : OkN v) (hr : r < v 2) (hc : code < 216) : Fn M_X10_isBinding (d + 1) 0 0 [.ref 178, .int (nI r), .int (nI code)] h n (some (.int (bI (bOk v r code)))) (mov [(185, .inl (.int, 3, .inl (vI (bndU b code))))] h) := by
  obtain ⟨-, -, hl1, hl3, hat⟩ := hok.2.2.2.2.2.2 r hr
  have hr8 := hok.2.2.2.1
  have hn6 := hok.2.1
  refine Fn.of fun post hp => ?_
  refine mw_over [(185, .inl (.int, 3, .inl (vI b)))] (mov_self (by simp [hb])) ?_
  refine mw_aload_n (i := 0) rfl rfl rfl ?_
  refine mw_getfield rfl f_X10_29 (by first | rfl | exact hO | exact hv | exact hb) rfl ?_
  refine mw_iconst (v := nI 0) rfl (by decide) ?_
  refine mw_iload_n (i := 2) rfl rfl rfl ?_
  refine mw_bipush (v := nI 36) rfl (by decide) ?_
  refine mw_ndiv rfl (by omega) (by omega) (by omega) ?_
  refine mw_iast_m rfl (by first | rfl | exact hO | exact hv | exact hb) (by omega) (by omega) ?_
  first | rw [vI_upd] | rw [vI_updv] | skip
  refine mw_aload_n (i := 0) rfl rfl rfl ?_
  refine mw_getfield rfl f_X10_29 (by first | rfl | exact hO | exact hv | exact hb) rfl ?_
  refine mw_iconst (v := nI 1) rfl (by decide) ?_
  refine mw_iload_n (i := 2) rfl rfl rfl ?_
  refine mw_bipush (v := nI 6) rfl (by decide) ?_
  refine mw_ndiv rfl (by omega) (by omega) (by omega) ?_
  refine mw_bipush (v := nI 6) rfl (by decide) ?_
  refine mw_nrem rfl (by omega) (by omega) (by omega) ?_
  refine mw_iast_m rfl (by first | rfl | exact hO | exact hv | exact hb) (by omega) (by omega) ?_
  first | rw [vI_upd] | rw [vI_updv] | skip
  refine mw_aload_n (i := 0) rfl rfl rfl ?_
  refine mw_getfield rfl f_X10_29 (by first | rfl | exact hO | exact hv | exact hb) rfl ?_
  refine mw_iconst (v := nI 2) rfl (by decide) ?_
  refine mw_iload_n (i := 2) rfl rfl rfl ?_
  refine mw_bipush (v := nI 6) rfl (by decide) ?_
  refine mw_nrem rfl (by omega) (by omega) (by omega) ?_
  refine mw_iast_m rfl (by first | rfl | exact hO | exact hv | exact hb) (by omega) (by omega) ?_
  first | rw [vI_upd] | rw [vI_updv] | skip
  refine mw_iconst (v := nI 0) rfl (by decide) ?_
  refine mw_istore_n (i := 3) rfl rfl (Nat.le_of_ble_eq_true rfl) ?_
  refine mw_iconst (v := nI 0) rfl (by decide) ?_
  refine mw_istore rfl (Nat.le_of_ble_eq_true rfl) ?_
  have hrow : ∀ a, a < v (45 + 18 * r + 1) + 1 → rowB v r a < 8 := by
    intro a ha
    obtain ⟨-, h2, h3, -⟩ := hat a (by omega)
    exact Nat.or_lt_two_pow (n := 3) (tb_lt h2) (tb_lt h3)
  have hU : ∀ a, a ≤ v (45 + 18 * r + 1) + 1 → orM (rowB v r) a < 8 := fun a ha => orM_lt a (fun k hk => hrow k (by omega))
  have loop2 : ∀ x, x ≤ 3 → MW M_X10_isBinding (d + 1) 0 0 n post 120 [(0, .ref 178), (1, .int (nI r)), (2, .int (nI code)), (3, .int (nI (varB v r))), (4, .int (bI (andN (fun x => decide (bndU (fun _ => 0) code x < bLim v r x)) x))), (5, .int (nI x))] [] (mov [(185, .inl (.int, 3, .inl (vI (bndU b code))))] h) n 0 := by
    refine loop_up 3 ?_ ?_
    · refine mw_iload rfl rfl ?_
      refine mw_iconst (v := nI 3) rfl (by decide) ?_
      refine mw_n_ge rfl (by omega) (by omega) (fun hc => ?_) (fun hc => ?_)
      · refine mw_iload rfl rfl ?_
        first | exact mw_ireturn rfl rfl (bI_nar _) rfl (Nat.le_refl _) (hp) | exact mw_ireturn rfl rfl rfl rfl (Nat.le_refl _) (hp)
      · omega
    · intro x hx ih
      have hbx := bndU_lt b hc hx
      have hUv := hU _ (Nat.le_refl _)
      refine mw_iload rfl rfl ?_
      refine mw_iconst (v := nI 3) rfl (by decide) ?_
      refine mw_n_ge rfl (by omega) (by omega) (fun q => ?_) (fun q => ?_)
      · omega
      · refine mw_iload rfl rfl ?_
        refine mw_b_eq rfl (fun hi => ?_) (fun hi => ?_)
        · refine mw_iconst (v := nI 0) rfl (by decide) ?_
          refine mw_istore rfl (Nat.le_of_ble_eq_true rfl) ?_
          first | refine mw_ninc rfl rfl (Nat.le_of_ble_eq_true rfl) ?_ | refine mw_iinc rfl rfl rfl (Nat.le_of_ble_eq_true rfl) ?_
          refine mw_goto rfl ?_
          refine mw_locals ?_ ih
          rw [show andN (fun x => decide (bndU (fun _ => 0) code x < bLim v r x)) (x + 1) = false by simp [andN, hi]]
          rfl
        · refine mw_aload_n (i := 0) rfl rfl rfl ?_
          refine mw_getfield rfl f_X10_29 (by first | rfl | exact hO | exact hv | exact hb) rfl ?_
          refine mw_iload rfl rfl ?_
          refine mw_iald rfl (by first | rfl | exact hO | exact hv | exact hb) (by omega) (by omega) ?_
          refine mw_iload_n (i := 3) rfl rfl rfl ?_
          refine mw_iload rfl rfl ?_
          refine mw_ishr rfl ?_
          refine mw_iconst (v := nI 1) rfl (by decide) ?_
          have hbit : (nI (varB v r) >>> (nI x &&& 31)) &&& nI 1 = nI (varB v r / 2 ^ x % 2) := bitN (by unfold varB; omega) (by omega)
          refine mw_iand rfl ?_
          rw [hbit]
          refine mw_iconst (v := nI 1) rfl (by decide) ?_
          have hm2 : varB v r / 2 ^ x % 2 < 2 := Nat.mod_lt _ (by omega)
          refine mw_n_ne rfl (by omega) (by omega) (fun hz => ?_) (fun hz => ?_)
          · refine mw_iconst (v := nI 1) rfl (by decide) ?_
            refine mw_n_ge rfl (by omega) (by omega) (fun hlt => ?_) (fun hlt => ?_)
            · refine mw_iconst (v := nI 0) rfl (by decide) ?_
              refine mw_istore rfl (Nat.le_of_ble_eq_true rfl) ?_
              first | refine mw_ninc rfl rfl (Nat.le_of_ble_eq_true rfl) ?_ | refine mw_iinc rfl rfl rfl (Nat.le_of_ble_eq_true rfl) ?_
              refine mw_goto rfl ?_
              refine mw_locals ?_ ih
              rw [show andN (fun x => decide (bndU (fun _ => 0) code x < bLim v r x)) (x + 1) = false by
                rw [bndU_at b code hx] at hlt
                simp only [andN, hi, Bool.true_and]
                unfold bLim
                rw [if_neg hz]
                exact decide_eq_false (by omega)]
              rfl
            · refine mw_iconst (v := nI 1) rfl (by decide) ?_
              refine mw_goto rfl ?_
              refine mw_istore rfl (Nat.le_of_ble_eq_true rfl) ?_
              first | refine mw_ninc rfl rfl (Nat.le_of_ble_eq_true rfl) ?_ | refine mw_iinc rfl rfl rfl (Nat.le_of_ble_eq_true rfl) ?_
              refine mw_goto rfl ?_
              refine mw_locals ?_ ih
              rw [show andN (fun x => decide (bndU (fun _ => 0) code x < bLim v r x)) (x + 1) = true by
                rw [bndU_at b code hx] at hlt
                simp only [andN, hi, Bool.true_and]
                unfold bLim
                rw [if_neg hz]
                exact decide_eq_true (by omega)]
              rfl
          · refine mw_aload_n (i := 0) rfl rfl rfl ?_
            refine mw_getfield rfl f_X10_7 (by first | rfl | exact hO | exact hv | exact hb) rfl ?_
            refine mw_iconst (v := nI 0) rfl (by decide) ?_
            refine mw_iald rfl (by first | rfl | exact hO | exact hv | exact hb) (by omega) (by omega) ?_
            refine mw_goto rfl ?_
            refine mw_n_ge rfl (by omega) (by omega) (fun hlt => ?_) (fun hlt => ?_)
            · refine mw_iconst (v := nI 0) rfl (by decide) ?_
              refine mw_istore rfl (Nat.le_of_ble_eq_true rfl) ?_
              first | refine mw_ninc rfl rfl (Nat.le_of_ble_eq_true rfl) ?_ | refine mw_iinc rfl rfl rfl (Nat.le_of_ble_eq_true rfl) ?_
              refine mw_goto rfl ?_
              refine mw_locals ?_ ih
              rw [show andN (fun x => decide (bndU (fun _ => 0) code x < bLim v r x)) (x + 1) = false by
                rw [bndU_at b code hx] at hlt
                simp only [andN, hi, Bool.true_and]
                unfold bLim
                rw [if_pos hz]
                exact decide_eq_false (by omega)]
              rfl
            · refine mw_iconst (v := nI 1) rfl (by decide) ?_
              refine mw_goto rfl ?_
              refine mw_istore rfl (Nat.le_of_ble_eq_true rfl) ?_
              first | refine mw_ninc rfl rfl (Nat.le_of_ble_eq_true rfl) ?_ | refine mw_iinc rfl rfl rfl (Nat.le_of_ble_eq_true rfl) ?_
              refine mw_goto rfl ?_
              refine mw_locals ?_ ih
              rw [show andN (fun x => decide (bndU (fun _ => 0) code x < bLim v r x)) (x + 1) = true by
                rw [bndU_at b code hx] at hlt
                simp only [andN, hi, Bool.true_and]
                unfold bLim
                rw [if_pos hz]
                exact decide_eq_true (by omega)]
              rfl
  have loop : ∀ a, a ≤ v (45 + 18 * r + 1) + 1 → MW M_X10_isBinding (d + 1) 0 0 n post 38 [(0, .ref 178), (1, .int (nI r)), (2, .int (nI code)), (3, .int (nI (orM (rowB v r) a))), (4, .int (nI a))] [] (mov [(185, .inl (.int, 3, .inl (vI (bndU b code))))] h) n 0 := by
    refine loop_up (v (45 + 18 * r + 1) + 1) ?_ ?_
    · refine mw_iload rfl rfl ?_
      refine mw_aload_n (i := 0) rfl rfl rfl ?_
      refine mw_getfield rfl f_X10_7 (by first | rfl | exact hO | exact hv | exact hb) rfl ?_
      refine mw_bipush (v := nI 45) rfl (by decide) ?_
      refine mw_bipush (v := nI 18) rfl (by decide) ?_
      refine mw_iload_n (i := 1) rfl rfl rfl ?_
      first | refine mw_nmul rfl ?_ | refine mw_imul rfl ?_
      first | refine mw_nadd rfl ?_ | refine mw_iadd rfl ?_
      refine mw_iconst (v := nI 1) rfl (by decide) ?_
      first | refine mw_nadd rfl ?_ | refine mw_iadd rfl ?_
      refine mw_iald rfl (by first | rfl | exact hO | exact hv | exact hb) (by omega) (by omega) ?_
      refine mw_n_gt rfl (by omega) (by omega) (fun hc => ?_) (fun hc => ?_)
      · refine mw_iconst (v := nI 1) rfl (by decide) ?_
        refine mw_istore rfl (Nat.le_of_ble_eq_true rfl) ?_
        refine mw_iconst (v := nI 0) rfl (by decide) ?_
        refine mw_istore rfl (Nat.le_of_ble_eq_true rfl) ?_
        exact mw_locals rfl (loop2 0 (by omega))
      · omega
    · intro a ha ih
      obtain ⟨-, h2, h3, -⟩ := hat a (by omega)
      have st : ∀ U k t, (k = 1 ∨ k = 2) → v (45 + 18 * r + 2 + 4 * a + k) = t → t < 9 → MW M_X10_isBinding (d + 1) 0 0 n post 60 [(0, .ref 178), (1, .int (nI r)), (2, .int (nI code)), (3, .int (nI (U ||| tb t))), (4, .int (nI a)), (5, .int (nI (k + 1)))] [] (mov [(185, .inl (.int, 3, .inl (vI (bndU b code))))] h) n 0 → MW M_X10_isBinding (d + 1) 0 0 n post 60 [(0, .ref 178), (1, .int (nI r)), (2, .int (nI code)), (3, .int (nI U)), (4, .int (nI a)), (5, .int (nI k))] [] (mov [(185, .inl (.int, 3, .inl (vI (bndU b code))))] h) n 0 := by
        intro U k t hk ht ht9 kk
        have hk3 : k < 3 := by omega
        refine mw_iload rfl rfl ?_
        refine mw_iconst (v := nI 3) rfl (by decide) ?_
        refine mw_n_ge rfl (by omega) (by omega) (fun q => ?_) (fun q => ?_)
        · omega
        · refine mw_aload_n (i := 0) rfl rfl rfl ?_
          refine mw_getfield rfl f_X10_7 (by first | rfl | exact hO | exact hv | exact hb) rfl ?_
          refine mw_iload_n (i := 1) rfl rfl rfl ?_
          refine mw_iload rfl rfl ?_
          refine mw_callS_f (c_atomAt d n r a _) rfl ok_X10_atomAt v_X10_88 rfl (Nat.le_of_ble_eq_true rfl) rfl (Nat.le_of_ble_eq_true rfl) (by omega) (by omega) (by omega) ?_
          refine mw_iload rfl rfl ?_
          refine mw_nadd rfl ?_
          refine mw_iald_v (v := nI t) rfl hv (by omega) (by omega) (congrArg nI ht) ?_
          refine mw_istore rfl (Nat.le_of_ble_eq_true rfl) ?_
          refine mw_iload_n (i := 3) rfl rfl rfl ?_
          refine mw_iload rfl rfl ?_
          refine mw_iconst (v := nI 5) rfl (by decide) ?_
          refine mw_n_le rfl (by omega) (by omega) (fun ht5 => ?_) (fun ht5 => ?_)
          · refine mw_iconst (v := nI 0) rfl (by decide) ?_
            first | refine mw_nior rfl ?_ | refine mw_ior rfl ?_
            refine mw_istore_n (i := 3) rfl rfl (Nat.le_of_ble_eq_true rfl) ?_
            first | refine mw_ninc rfl rfl (Nat.le_of_ble_eq_true rfl) ?_ | refine mw_iinc rfl rfl rfl (Nat.le_of_ble_eq_true rfl) ?_
            refine mw_goto rfl ?_
            refine mw_locals ?_ kk
            rw [show tb t = 0 by unfold tb; rw [if_neg (by omega)]]
            rfl
          · refine mw_iconst (v := nI 1) rfl (by decide) ?_
            refine mw_iload rfl rfl ?_
            refine mw_bipush (v := nI 6) rfl (by decide) ?_
            first | refine mw_nsub rfl (by omega) ?_ | refine mw_isub rfl ?_
            refine mw_ishl rfl ?_
            rw [shlN (a := 1) (k := t - 6) (by omega) (by rcases (show t = 6 ∨ t = 7 ∨ t = 8 by omega) with rfl | rfl | rfl <;> decide), Nat.one_mul]
            refine mw_goto rfl ?_
            first | refine mw_nior rfl ?_ | refine mw_ior rfl ?_
            refine mw_istore_n (i := 3) rfl rfl (Nat.le_of_ble_eq_true rfl) ?_
            first | refine mw_ninc rfl rfl (Nat.le_of_ble_eq_true rfl) ?_ | refine mw_iinc rfl rfl rfl (Nat.le_of_ble_eq_true rfl) ?_
            refine mw_goto rfl ?_
            refine mw_locals ?_ kk
            rw [show tb t = 2 ^ (t - 6) by unfold tb; rw [if_pos (by omega)]]
            rfl
      refine mw_iload rfl rfl ?_
      refine mw_aload_n (i := 0) rfl rfl rfl ?_
      refine mw_getfield rfl f_X10_7 (by first | rfl | exact hO | exact hv | exact hb) rfl ?_
      refine mw_bipush (v := nI 45) rfl (by decide) ?_
      refine mw_bipush (v := nI 18) rfl (by decide) ?_
      refine mw_iload_n (i := 1) rfl rfl rfl ?_
      first | refine mw_nmul rfl ?_ | refine mw_imul rfl ?_
      first | refine mw_nadd rfl ?_ | refine mw_iadd rfl ?_
      refine mw_iconst (v := nI 1) rfl (by decide) ?_
      first | refine mw_nadd rfl ?_ | refine mw_iadd rfl ?_
      refine mw_iald rfl (by first | rfl | exact hO | exact hv | exact hb) (by omega) (by omega) ?_
      refine mw_n_gt rfl (by omega) (by omega) (fun hc => ?_) (fun hc => ?_)
      · omega
      · refine mw_iconst (v := nI 1) rfl (by decide) ?_
        refine mw_istore rfl (Nat.le_of_ble_eq_true rfl) ?_
        refine mw_locals (L2 := [(0, .ref 178), (1, .int (nI r)), (2, .int (nI code)), (3, .int (nI (orM (rowB v r) a))), (4, .int (nI a)), (5, .int (nI 1))]) rfl ?_
        refine st _ 1 _ (Or.inl rfl) rfl h2 ?_
        refine st _ 2 _ (Or.inr rfl) rfl h3 ?_
        refine mw_iload rfl rfl ?_
        refine mw_iconst (v := nI 3) rfl (by decide) ?_
        refine mw_n_ge rfl (by omega) (by omega) (fun q => ?_) (fun q => ?_)
        · first | refine mw_ninc rfl rfl (Nat.le_of_ble_eq_true rfl) ?_ | refine mw_iinc rfl rfl rfl (Nat.le_of_ble_eq_true rfl) ?_
          refine mw_goto rfl ?_
          refine mw_locals ?_ ih
          rw [show orM (rowB v r) (a + 1) = orM (rowB v r) a ||| tb (v (45 + 18 * r + 2 + 4 * a + 1)) ||| tb (v (45 + 18 * r + 2 + 4 * a + 2)) by rw [Nat.or_assoc]; rfl]
          rfl
        · omega
  exact mw_locals rfl (loop 0 (Nat.zero_le _))
/-- how many of the facts lo .. lo + k - 1 are in a model -/
def cntM (m : Nat → Int32) (lo : Nat) : Nat → Nat
  | 0 => 0
  | k + 1 => cntM m lo k + (if m (lo + k) < 0 then 0 else 1)
theorem c_tally (d n : Nat) (K lo k : Nat) (m : Nat → Int32) (h : Nat → MC) (hm : h K = .inl (.int, 216, .inl m)) (hk : lo + k ≤ 216) : Fn M_X10_tally d 0 0 [.ref K, .int (nI lo), .int (nI (lo + k))] h n (some (.int (nI (cntM m lo k)))) h := by
  refine Fn.of fun post hp => ?_
  refine mw_iconst (v := nI 0) rfl (by decide) ?_
  refine mw_istore_n (i := 3) rfl rfl (Nat.le_of_ble_eq_true rfl) ?_
  refine mw_iload_n (i := 1) rfl rfl rfl ?_
  refine mw_istore rfl (Nat.le_of_ble_eq_true rfl) ?_
  have loop : ∀ j, j ≤ k → MW M_X10_tally d 0 0 n post 5 [(0, .ref K), (1, .int (nI lo)), (2, .int (nI (lo + k))), (3, .int (nI (cntM m lo j))), (4, .int (nI (lo + j)))] [] h n 0 := by
    refine loop_up k ?_ ?_
    · refine mw_iload rfl rfl ?_
      refine mw_iload_n (i := 2) rfl rfl rfl ?_
      refine mw_n_ge rfl (by omega) (by omega) (fun hc => ?_) (fun hc => ?_)
      · refine mw_iload_n (i := 3) rfl rfl rfl ?_
        exact mw_ireturn rfl rfl rfl rfl (Nat.le_refl _) (hp)
      · omega
    · intro j hj ih
      refine mw_iload rfl rfl ?_
      refine mw_iload_n (i := 2) rfl rfl rfl ?_
      refine mw_n_ge rfl (by omega) (by omega) (fun hc => ?_) (fun hc => ?_)
      · omega
      · refine mw_iload_n (i := 3) rfl rfl rfl ?_
        refine mw_aload_n (i := 0) rfl rfl rfl ?_
        refine mw_iload rfl rfl ?_
        refine mw_iald rfl (by first | rfl | exact hm) (by omega) (by omega) ?_
        refine mw_if_ge rfl (fun ht => ?_) (fun ht => ?_)
        · refine mw_iconst (v := nI 1) rfl (by decide) ?_
          first | refine mw_nadd rfl ?_ | refine mw_iadd rfl ?_
          refine mw_istore_n (i := 3) rfl rfl (Nat.le_of_ble_eq_true rfl) ?_
          first | refine mw_ninc rfl rfl (Nat.le_of_ble_eq_true rfl) ?_ | refine mw_iinc rfl rfl rfl (Nat.le_of_ble_eq_true rfl) ?_
          refine mw_goto rfl ?_
          refine mw_locals ?_ ih
          rw [show cntM m lo (j + 1) = cntM m lo j + 1 by simp [cntM, Int32.not_lt.mpr ht]]
          rfl
        · refine mw_iconst (v := nI 0) rfl (by decide) ?_
          refine mw_goto rfl ?_
          first | refine mw_nadd rfl ?_ | refine mw_iadd rfl ?_
          refine mw_istore_n (i := 3) rfl rfl (Nat.le_of_ble_eq_true rfl) ?_
          first | refine mw_ninc rfl rfl (Nat.le_of_ble_eq_true rfl) ?_ | refine mw_iinc rfl rfl rfl (Nat.le_of_ble_eq_true rfl) ?_
          refine mw_goto rfl ?_
          refine mw_locals ?_ ih
          rw [show cntM m lo (j + 1) = cntM m lo j + 0 by simp [cntM, Int32.not_le.mp ht]]
          rfl
  exact mw_locals rfl (loop 0 (Nat.zero_le _))
end
section
theorem bIf_updt (b : Nat → Bool) (k : Nat) : upd (bIf b) k (nI 1) = bIf (updN b k true) := bIf_upd b k true
theorem bIf_updf (b : Nat → Bool) (k : Nat) : upd (bIf b) k (nI 0) = bIf (updN b k false) := bIf_upd b k false
/-- a round of a stratum: what goes through all instances: (new facts, binding) -/
def goC (v : Nat → Nat) (m : Nat → Int32) (r code : Nat) (p : (Nat → Bool) × (Nat → Nat)) : (Nat → Bool) × (Nat → Nat) :=
  (if bOk v r code && holdsR v (bndU p.2 code) m r then updN p.1 (fA v (bndU p.2 code) r 0) (decide (m (fA v (bndU p.2 code) r 0) < 0)) else p.1, bndU p.2 code)
def goR (v st : Nat → Nat) (m : Nat → Int32) (s r : Nat) (p : (Nat → Bool) × (Nat → Nat)) : (Nat → Bool) × (Nat → Nat) :=
  if st (v (45 + 18 * r + 2 + 4 * 0)) = s then itN (goC v m r) p 216 else p
def clrB (nb : Nat → Bool) (i : Nat) : Nat → Bool := fun j => if j < i then false else nb j
def goA (v st : Nat → Nat) (m : Nat → Int32) (s : Nat) (nb : Nat → Bool) (b : Nat → Nat) : (Nat → Bool) × (Nat → Nat) := itN (goR v st m s) (clrB nb 216, b) (v 2)
def cntB (f : Nat → Bool) : Nat → Nat
  | 0 => 0
  | k + 1 => cntB f k + (if f k then 1 else 0)
theorem cntB_le (f : Nat → Bool) : ∀ k, cntB f k ≤ k
  | 0 => Nat.le_refl _
  | k + 1 => by
    have := cntB_le f k
    simp only [cntB]
    split <;> omega
def goM (nw : Nat → Bool) (m : Nat → Int32) (k i : Nat) : Nat → Int32 := fun f => if f < i then (if nw f then nI k else m f) else m f
def HGA (h : Nat → MC) (p : (Nat → Bool) × (Nat → Nat)) (m : Nat → Int32) : Nat → MC := mov [(185, .inl (.int, 3, .inl (vI p.2))), (186, .inl (.int, 216, .inl m)), (188, .inl (.boolean, 216, .inl (bIf p.1)))] h
theorem c_goesA (d n : Nat) (s rm : Nat) (w : Nat → Int32) (v st b : Nat → Nat) (nb : Nat → Bool) (m : Nat → Int32) (h : Nat → MC) (hO : h 178 = RO w) (hv : h 179 = .inl (.int, 189, .inl (vI v))) (hb : h 185 = .inl (.int, 3, .inl (vI b))) (hm : h 186 = .inl (.int, 216, .inl m)) (hst : h 184 = .inl (.int, 6, .inl (vI st))) (hn : h 188 = .inl (.boolean, 216, .inl (bIf nb))) (hok : OkN v) (hst6 : ∀ p, p < 6 → st p < 6) (hs : s < 6) (hrm : w 5 = nI rm) (hrm2 : rm < 1000000) :
    Fn M_X10_goes (d + 3) 0 0 [.ref 178, .int (nI s), .ref 186] h n (some (.int (nI (cntB (goA v st m s nb b).1 216)))) (mov [(185, .inl (.int, 3, .inl (vI (goA v st m s nb b).2))), (186, .inl (.int, 216, .inl (goM (goA v st m s nb b).1 m (if 0 < cntB (goA v st m s nb b).1 216 then rm + 1 else rm) 216))), (188, .inl (.boolean, 216, .inl (bIf (goA v st m s nb b).1))), (178, RO (updN w 5 (nI (if 0 < cntB (goA v st m s nb b).1 216 then rm + 1 else rm))))] h) := by
  refine Fn.of fun post hp => ?_
  have hr8 := hok.2.2.2.1
  -- E
  have loopE : ∀ (p : (Nat → Bool) × (Nat → Nat)) (c k : Nat), k < 2000000 → post (some (.int (nI c))) (mov [(185, .inl (.int, 3, .inl (vI p.2))), (186, .inl (.int, 216, .inl (goM p.1 m k 216))), (188, .inl (.boolean, 216, .inl (bIf p.1))), (178, RO (updN w 5 (nI k)))] h) → ∀ j, j ≤ 216 → MW M_X10_goes (d + 3) 0 0 n post 189 [(0, .ref 178), (1, .int (nI s)), (2, .ref 186), (3, .int (nI c)), (4, .int (nI j))] [] (mov [(185, .inl (.int, 3, .inl (vI p.2))), (186, .inl (.int, 216, .inl (goM p.1 m k j))), (188, .inl (.boolean, 216, .inl (bIf p.1))), (178, RO (updN w 5 (nI k)))] h) n 0 := by
    intro p c k hk hp
    refine loop_up 216 ?_ ?_
    · refine mw_iload rfl rfl ?_
      refine mw_sipush (v := nI 216) rfl (by decide) ?_
      refine mw_n_ge rfl (by omega) (by omega) (fun hc => ?_) (fun hc => ?_)
      · refine mw_iload_n (i := 3) rfl rfl rfl ?_
        exact mw_ireturn rfl rfl rfl rfl (Nat.le_refl _) (hp)
      · omega
    · intro j hj ih
      refine mw_iload rfl rfl ?_
      refine mw_sipush (v := nI 216) rfl (by decide) ?_
      refine mw_n_ge rfl (by omega) (by omega) (fun hc => ?_) (fun hc => ?_)
      · omega
      · refine mw_aload_n (i := 2) rfl rfl rfl ?_
        refine mw_iload rfl rfl ?_
        refine mw_aload_n (i := 0) rfl rfl rfl ?_
        refine mw_getfield rfl f_X10_38 (by first | rfl | exact hO | exact hv | exact hb | exact hm | exact hst | exact hn) rfl ?_
        refine mw_iload rfl rfl ?_
        refine mw_zald rfl (by first | rfl | exact hO | exact hv | exact hb | exact hm | exact hst | exact hn) (by omega) (by omega) ?_
        refine mw_b_eq rfl (fun hnb => ?_) (fun hnb => ?_)
        · have e : upd (goM p.1 m k j) j (goM p.1 m k j j) = goM p.1 m k (j + 1) := by
            funext i
            simp only [upd, goM]
            by_cases q1 : i = j
            · subst q1
              simp [hnb]
            · rw [if_neg q1]
              have q3 : i < j + 1 ↔ i < j := by omega
              simp only [q3]
          refine mw_aload_n (i := 2) rfl rfl rfl ?_
          refine mw_iload rfl rfl ?_
          refine mw_iald rfl (by first | rfl | exact hO | exact hv | exact hb | exact hm | exact hst | exact hn) (by omega) (by omega) ?_
          refine mw_iast_m rfl (by first | rfl | exact hO | exact hv | exact hb | exact hm | exact hst | exact hn) (by omega) (by omega) ?_
          first | rw [vI_upd] | rw [vI_updv] | skip
          rw [e]
          first | refine mw_ninc rfl rfl (Nat.le_of_ble_eq_true rfl) ?_ | refine mw_iinc rfl rfl rfl (Nat.le_of_ble_eq_true rfl) ?_
          refine mw_goto rfl ?_
          exact mw_locals rfl ih
        · have e : upd (goM p.1 m k j) j (nI k) = goM p.1 m k (j + 1) := by
            funext i
            simp only [upd, goM]
            by_cases q1 : i = j
            · subst q1
              simp [hnb]
            · rw [if_neg q1]
              have q3 : i < j + 1 ↔ i < j := by omega
              simp only [q3]
          refine mw_aload_n (i := 0) rfl rfl rfl ?_
          refine mw_getfield rfl f_X10_150 (by first | rfl | exact hO | exact hv | exact hb | exact hm | exact hst | exact hn) rfl ?_
          refine mw_goto rfl ?_
          refine mw_iast_m (x := nI k) rfl rfl (by omega) (by omega) ?_
          rw [e]
          first | refine mw_ninc rfl rfl (Nat.le_of_ble_eq_true rfl) ?_ | refine mw_iinc rfl rfl rfl (Nat.le_of_ble_eq_true rfl) ?_
          refine mw_goto rfl ?_
          exact mw_locals rfl ih
  -- D
  have loopD : ∀ (p : (Nat → Bool) × (Nat → Nat)), post (some (.int (nI (cntB p.1 216)))) (mov [(185, .inl (.int, 3, .inl (vI p.2))), (186, .inl (.int, 216, .inl (goM p.1 m (if 0 < cntB p.1 216 then rm + 1 else rm) 216))), (188, .inl (.boolean, 216, .inl (bIf p.1))), (178, RO (updN w 5 (nI (if 0 < cntB p.1 216 then rm + 1 else rm))))] h) → ∀ j, j ≤ 216 → MW M_X10_goes (d + 3) 0 0 n post 136 [(0, .ref 178), (1, .int (nI s)), (2, .ref 186), (3, .int (nI (cntB p.1 j))), (4, .int (nI j))] [] (HGA h p m) n 0 := by
    intro p hp
    refine loop_up 216 ?_ ?_
    · refine mw_iload rfl rfl ?_
      refine mw_sipush (v := nI 216) rfl (by decide) ?_
      refine mw_n_ge rfl (by omega) (by omega) (fun hc => ?_) (fun hc => ?_)
      · have hc216 := cntB_le p.1 216
        have e0 : ∀ k, goM p.1 m k 0 = m := fun k => by funext i; simp [goM]
        refine mw_heap (h2 := mov [(185, .inl (.int, 3, .inl (vI p.2))), (186, .inl (.int, 216, .inl m)), (188, .inl (.boolean, 216, .inl (bIf p.1)))] h) rfl ?_
        refine mw_aload_n (i := 0) rfl rfl rfl ?_
        refine mw_dup rfl rfl ?_
        refine mw_getfield rfl f_X10_150 (by first | rfl | exact hO | exact hv | exact hb | exact hm | exact hst | exact hn) rfl ?_
        rw [hrm]
        refine mw_iload_n (i := 3) rfl rfl rfl ?_
        refine mw_z_le rfl (by omega) (fun hz => ?_) (fun hz => ?_)
        · rw [if_neg (by omega)] at hp
          refine mw_iconst (v := nI 0) rfl (by decide) ?_
          first | refine mw_nadd rfl ?_ | refine mw_iadd rfl ?_
          refine mw_putfield_m rfl f_X10_150 (by first | rfl | exact hO | exact hv | exact hb | exact hm | exact hst | exact hn) (Nat.le_of_ble_eq_true rfl) (fun _ => rfl) (fun _ => rfl) ?_
          refine mw_iconst (v := nI 0) rfl (by decide) ?_
          refine mw_istore rfl (Nat.le_of_ble_eq_true rfl) ?_
          refine mw_locals rfl (mw_heap ?_ (loopE p _ rm (by omega) hp 0 (by omega)))
          rw [e0]
          rfl
        · rw [if_pos hz] at hp
          refine mw_iconst (v := nI 1) rfl (by decide) ?_
          refine mw_goto rfl ?_
          first | refine mw_nadd rfl ?_ | refine mw_iadd rfl ?_
          refine mw_putfield_m rfl f_X10_150 (by first | rfl | exact hO | exact hv | exact hb | exact hm | exact hst | exact hn) (Nat.le_of_ble_eq_true rfl) (fun _ => rfl) (fun _ => rfl) ?_
          refine mw_iconst (v := nI 0) rfl (by decide) ?_
          refine mw_istore rfl (Nat.le_of_ble_eq_true rfl) ?_
          refine mw_locals rfl (mw_heap ?_ (loopE p _ (rm + 1) (by omega) hp 0 (by omega)))
          rw [e0]
          rfl
      · omega
    · intro j hj ih
      refine mw_iload rfl rfl ?_
      refine mw_sipush (v := nI 216) rfl (by decide) ?_
      refine mw_n_ge rfl (by omega) (by omega) (fun hc => ?_) (fun hc => ?_)
      · omega
      · have hcj := cntB_le p.1 j
        refine mw_iload_n (i := 3) rfl rfl rfl ?_
        refine mw_aload_n (i := 0) rfl rfl rfl ?_
        refine mw_getfield rfl f_X10_38 (by first | rfl | exact hO | exact hv | exact hb | exact hm | exact hst | exact hn) rfl ?_
        refine mw_iload rfl rfl ?_
        refine mw_zald rfl (by first | rfl | exact hO | exact hv | exact hb | exact hm | exact hst | exact hn) (by omega) (by omega) ?_
        refine mw_b_eq rfl (fun hnb => ?_) (fun hnb => ?_)
        · refine mw_iconst (v := nI 0) rfl (by decide) ?_
          first | refine mw_nadd rfl ?_ | refine mw_iadd rfl ?_
          refine mw_istore_n (i := 3) rfl rfl (Nat.le_of_ble_eq_true rfl) ?_
          first | refine mw_ninc rfl rfl (Nat.le_of_ble_eq_true rfl) ?_ | refine mw_iinc rfl rfl rfl (Nat.le_of_ble_eq_true rfl) ?_
          refine mw_goto rfl ?_
          refine mw_locals ?_ ih
          rw [show cntB p.1 (j + 1) = cntB p.1 j + 0 by simp [cntB, hnb]]
          rfl
        · refine mw_iconst (v := nI 1) rfl (by decide) ?_
          refine mw_goto rfl ?_
          first | refine mw_nadd rfl ?_ | refine mw_iadd rfl ?_
          refine mw_istore_n (i := 3) rfl rfl (Nat.le_of_ble_eq_true rfl) ?_
          first | refine mw_ninc rfl rfl (Nat.le_of_ble_eq_true rfl) ?_ | refine mw_iinc rfl rfl rfl (Nat.le_of_ble_eq_true rfl) ?_
          refine mw_goto rfl ?_
          refine mw_locals ?_ ih
          rw [show cntB p.1 (j + 1) = cntB p.1 j + 1 by simp [cntB, hnb]]
          rfl
  -- B and C
  have loopB : ∀ r, r ≤ v 2 → MW M_X10_goes (d + 3) 0 0 n post 30 [(0, .ref 178), (1, .int (nI s)), (2, .ref 186), (3, .int (nI 0)), (4, .int (nI r))] [] (HGA h (itN (goR v st m s) (clrB nb 216, b) r) m) n 0 := by
    refine loop_up (v 2) ?_ ?_
    · refine mw_iload rfl rfl ?_
      refine mw_aload_n (i := 0) rfl rfl rfl ?_
      refine mw_getfield rfl f_X10_7 (by first | rfl | exact hO | exact hv | exact hb | exact hm | exact hst | exact hn) rfl ?_
      refine mw_iconst (v := nI 2) rfl (by decide) ?_
      refine mw_iald rfl (by first | rfl | exact hO | exact hv | exact hb | exact hm | exact hst | exact hn) (by omega) (by omega) ?_
      refine mw_n_ge rfl (by omega) (by omega) (fun hc => ?_) (fun hc => ?_)
      · refine mw_iconst (v := nI 0) rfl (by decide) ?_
        refine mw_istore rfl (Nat.le_of_ble_eq_true rfl) ?_
        exact mw_locals rfl (loopD _ hp 0 (by omega))
      · omega
    · intro r hr ih
      obtain ⟨-, -, hl1, hl3, hat⟩ := hok.2.2.2.2.2.2 r hr
      have hp6 := (hat 0 (by omega)).1
      generalize hP : itN (goR v st m s) (clrB nb 216, b) r = P at ih ⊢
      have eP : itN (goR v st m s) (clrB nb 216, b) (r + 1) = goR v st m s r P := by rw [← hP]; rfl
      rw [eP] at ih
      refine mw_iload rfl rfl ?_
      refine mw_aload_n (i := 0) rfl rfl rfl ?_
      refine mw_getfield rfl f_X10_7 (by first | rfl | exact hO | exact hv | exact hb | exact hm | exact hst | exact hn) rfl ?_
      refine mw_iconst (v := nI 2) rfl (by decide) ?_
      refine mw_iald rfl (by first | rfl | exact hO | exact hv | exact hb | exact hm | exact hst | exact hn) (by omega) (by omega) ?_
      refine mw_n_ge rfl (by omega) (by omega) (fun hc => ?_) (fun hc => ?_)
      · omega
      · refine mw_iconst (v := nI 0) rfl (by decide) ?_
        refine mw_istore rfl (Nat.le_of_ble_eq_true rfl) ?_
        by_cases hss : st (v (45 + 18 * r + 2 + 4 * 0)) = s
        · rw [goR, if_pos hss] at ih
          have loopC : ∀ j, j ≤ 216 → MW M_X10_goes (d + 3) 0 0 n post 44 [(0, .ref 178), (1, .int (nI s)), (2, .ref 186), (3, .int (nI 0)), (4, .int (nI r)), (5, .int (nI j))] [] (HGA h (itN (goC v m r) P j) m) n 0 := by
            refine loop_up 216 ?_ ?_
            · refine mw_iload rfl rfl ?_
              refine mw_sipush (v := nI 216) rfl (by decide) ?_
              refine mw_n_ge rfl (by omega) (by omega) (fun hc => ?_) (fun hc => ?_)
              · first | refine mw_ninc rfl rfl (Nat.le_of_ble_eq_true rfl) ?_ | refine mw_iinc rfl rfl rfl (Nat.le_of_ble_eq_true rfl) ?_
                refine mw_goto rfl ?_
                exact mw_locals rfl ih
              · omega
            · intro j hj ihC
              generalize hQ : itN (goC v m r) P j = Q at ihC ⊢
              have eQ : itN (goC v m r) P (j + 1) = goC v m r j Q := by rw [← hQ]; rfl
              rw [eQ] at ihC
              have hb6 : ∀ x, x < 3 → bndU Q.2 j x < 6 := fun x hx => bndU_lt Q.2 hj hx
              have hlt := fA_lt hok hb6 hr (show 0 ≤ v (45 + 18 * r + 1) by omega)
              refine mw_iload rfl rfl ?_
              refine mw_sipush (v := nI 216) rfl (by decide) ?_
              refine mw_n_ge rfl (by omega) (by omega) (fun hc => ?_) (fun hc => ?_)
              · omega
              · refine mw_aload_n (i := 0) rfl rfl rfl ?_
                refine mw_getfield rfl f_X10_26 (by first | rfl | exact hO | exact hv | exact hb | exact hm | exact hst | exact hn) rfl ?_
                refine mw_aload_n (i := 0) rfl rfl rfl ?_
                refine mw_getfield rfl f_X10_7 (by first | rfl | exact hO | exact hv | exact hb | exact hm | exact hst | exact hn) rfl ?_
                refine mw_iload rfl rfl ?_
                refine mw_iconst (v := nI 0) rfl (by decide) ?_
                refine mw_callS_f (c_atomAt (d + 2) n r 0 _) rfl ok_X10_atomAt v_X10_88 rfl (Nat.le_of_ble_eq_true rfl) rfl (Nat.le_of_ble_eq_true rfl) (by omega) (by omega) (by omega) ?_
                refine mw_iald rfl (by first | rfl | exact hO | exact hv | exact hb | exact hm | exact hst | exact hn) (by omega) (by omega) ?_
                refine mw_iald_v (v := nI s) rfl hst (by omega) (by omega) (congrArg nI hss) ?_
                refine mw_iload_n (i := 1) rfl rfl rfl ?_
                refine mw_n_ne rfl (by omega) (by omega) (fun hne => ?_) (fun hne => ?_)
                · exact absurd rfl hne
                · refine mw_aload_n (i := 0) rfl rfl rfl ?_
                  refine mw_iload rfl rfl ?_
                  refine mw_iload rfl rfl ?_
                  refine mw_callV_f (c_isBinding (d + 1) n r j w v Q.2 _ hO hv rfl hok hr hj) rfl ok_X10_isBinding v_X10_142 rfl (by first | rfl | exact hO | exact hv | exact hb | exact hm | exact hst | exact hn) (by intro e; cases e) rfl (Nat.le_of_ble_eq_true rfl) rfl (Nat.le_of_ble_eq_true rfl) (by omega) (by omega) (by omega) ?_
                  unfold HGA
                  rw [← mov_puts]
                  refine mw_b_eq rfl (fun hbo => ?_) (fun hbo => ?_)
                  · rw [show goC v m r j Q = (Q.1, bndU Q.2 j) by simp [goC, hbo]] at ihC
                    first | refine mw_ninc rfl rfl (Nat.le_of_ble_eq_true rfl) ?_ | refine mw_iinc rfl rfl rfl (Nat.le_of_ble_eq_true rfl) ?_
                    refine mw_goto rfl ?_
                    exact mw_locals rfl ihC
                  · refine mw_aload_n (i := 0) rfl rfl rfl ?_
                    refine mw_iload rfl rfl ?_
                    refine mw_aload_n (i := 2) rfl rfl rfl ?_
                    refine mw_callV_f (c_holds d n r 186 w v (bndU Q.2 j) m _ hO hv rfl rfl hok hb6 hr) rfl ok_X10_holds v_X10_146 rfl (by first | rfl | exact hO | exact hv | exact hb | exact hm | exact hst | exact hn) (by intro e; cases e) rfl (Nat.le_of_ble_eq_true rfl) rfl (Nat.le_of_ble_eq_true rfl) (by omega) (by omega) (by omega) ?_
                    refine mw_b_eq rfl (fun hho => ?_) (fun hho => ?_)
                    · rw [show goC v m r j Q = (Q.1, bndU Q.2 j) by simp [goC, hbo, hho]] at ihC
                      first | refine mw_ninc rfl rfl (Nat.le_of_ble_eq_true rfl) ?_ | refine mw_iinc rfl rfl rfl (Nat.le_of_ble_eq_true rfl) ?_
                      refine mw_goto rfl ?_
                      exact mw_locals rfl ihC
                    · refine mw_aload_n (i := 0) rfl rfl rfl ?_
                      refine mw_iload rfl rfl ?_
                      refine mw_iconst (v := nI 0) rfl (by decide) ?_
                      refine mw_callV_f (c_factAt (d + 1) n r 0 w v (bndU Q.2 j) _ hO hv rfl hok hr (by omega)) rfl ok_X10_factAt v_X10_139 rfl (by first | rfl | exact hO | exact hv | exact hb | exact hm | exact hst | exact hn) (by intro e; cases e) rfl (Nat.le_of_ble_eq_true rfl) rfl (Nat.le_of_ble_eq_true rfl) (by omega) (by omega) (by omega) ?_
                      refine mw_istore rfl (Nat.le_of_ble_eq_true rfl) ?_
                      refine mw_aload_n (i := 0) rfl rfl rfl ?_
                      refine mw_getfield rfl f_X10_38 (by first | rfl | exact hO | exact hv | exact hb | exact hm | exact hst | exact hn) rfl ?_
                      refine mw_iload rfl rfl ?_
                      refine mw_aload_n (i := 2) rfl rfl rfl ?_
                      refine mw_iload rfl rfl ?_
                      refine mw_iald rfl (by first | rfl | exact hO | exact hv | exact hb | exact hm | exact hst | exact hn) (by omega) (by omega) ?_
                      refine mw_if_ge rfl (fun ht => ?_) (fun ht => ?_)
                      · rw [show goC v m r j Q = (updN Q.1 (fA v (bndU Q.2 j) r 0) false, bndU Q.2 j) by simp [goC, hbo, hho, Int32.not_lt.mpr ht]] at ihC
                        refine mw_iconst (v := nI 0) rfl (by decide) ?_
                        first | refine mw_zast_m rfl (by first | rfl | exact hO | exact hv | exact hb | exact hm | exact hst | exact hn) (by omega) (by omega) (bI_z _) ?_ | refine mw_zast_m rfl (by first | rfl | exact hO | exact hv | exact hb | exact hm | exact hst | exact hn) (by omega) (by omega) (by decide) ?_
                        first | rw [bIf_updt] | rw [bIf_updf] | rw [bIf_upd] | skip
                        first | refine mw_ninc rfl rfl (Nat.le_of_ble_eq_true rfl) ?_ | refine mw_iinc rfl rfl rfl (Nat.le_of_ble_eq_true rfl) ?_
                        refine mw_goto rfl ?_
                        exact mw_locals rfl ihC
                      · rw [show goC v m r j Q = (updN Q.1 (fA v (bndU Q.2 j) r 0) true, bndU Q.2 j) by simp [goC, hbo, hho, Int32.not_le.mp ht]] at ihC
                        refine mw_iconst (v := nI 1) rfl (by decide) ?_
                        refine mw_goto rfl ?_
                        first | refine mw_zast_m rfl (by first | rfl | exact hO | exact hv | exact hb | exact hm | exact hst | exact hn) (by omega) (by omega) (bI_z _) ?_ | refine mw_zast_m rfl (by first | rfl | exact hO | exact hv | exact hb | exact hm | exact hst | exact hn) (by omega) (by omega) (by decide) ?_
                        first | rw [bIf_updt] | rw [bIf_updf] | rw [bIf_upd] | skip
                        first | refine mw_ninc rfl rfl (Nat.le_of_ble_eq_true rfl) ?_ | refine mw_iinc rfl rfl rfl (Nat.le_of_ble_eq_true rfl) ?_
                        refine mw_goto rfl ?_
                        exact mw_locals rfl ihC
          exact mw_locals rfl (loopC 0 (by omega))
        · rw [goR, if_neg hss] at ih
          refine mw_iload rfl rfl ?_
          refine mw_sipush (v := nI 216) rfl (by decide) ?_
          refine mw_n_ge rfl (by omega) (by omega) (fun hc => ?_) (fun hc => ?_)
          · omega
          · refine mw_aload_n (i := 0) rfl rfl rfl ?_
            refine mw_getfield rfl f_X10_26 (by first | rfl | exact hO | exact hv | exact hb | exact hm | exact hst | exact hn) rfl ?_
            refine mw_aload_n (i := 0) rfl rfl rfl ?_
            refine mw_getfield rfl f_X10_7 (by first | rfl | exact hO | exact hv | exact hb | exact hm | exact hst | exact hn) rfl ?_
            refine mw_iload rfl rfl ?_
            refine mw_iconst (v := nI 0) rfl (by decide) ?_
            refine mw_callS_f (c_atomAt (d + 2) n r 0 _) rfl ok_X10_atomAt v_X10_88 rfl (Nat.le_of_ble_eq_true rfl) rfl (Nat.le_of_ble_eq_true rfl) (by omega) (by omega) (by omega) ?_
            refine mw_iald rfl (by first | rfl | exact hO | exact hv | exact hb | exact hm | exact hst | exact hn) (by omega) (by omega) ?_
            refine mw_iald rfl (by first | rfl | exact hO | exact hv | exact hb | exact hm | exact hst | exact hn) (by omega) (by omega) ?_
            have h6 := hst6 _ hp6
            refine mw_iload_n (i := 1) rfl rfl rfl ?_
            refine mw_n_ne rfl (by omega) (by omega) (fun hne => ?_) (fun hne => ?_)
            · first | refine mw_ninc rfl rfl (Nat.le_of_ble_eq_true rfl) ?_ | refine mw_iinc rfl rfl rfl (Nat.le_of_ble_eq_true rfl) ?_
              refine mw_goto rfl ?_
              exact mw_locals rfl ih
            · exact absurd hne hss
  have loopA : ∀ j, j ≤ 216 → MW M_X10_goes (d + 3) 0 0 n post 5 [(0, .ref 178), (1, .int (nI s)), (2, .ref 186), (3, .int (nI 0)), (4, .int (nI j))] [] (HGA h (clrB nb j, b) m) n 0 := by
    refine loop_up 216 ?_ ?_
    · refine mw_iload rfl rfl ?_
      refine mw_sipush (v := nI 216) rfl (by decide) ?_
      refine mw_n_ge rfl (by omega) (by omega) (fun hc => ?_) (fun hc => ?_)
      · refine mw_iconst (v := nI 0) rfl (by decide) ?_
        refine mw_istore rfl (Nat.le_of_ble_eq_true rfl) ?_
        exact mw_locals rfl (loopB 0 (by omega))
      · omega
    · intro j hj ih
      have e : updN (clrB nb j) j false = clrB nb (j + 1) := by
        funext i
        simp only [updN, clrB]
        by_cases q1 : i = j
        · subst q1
          simp
        · rw [if_neg q1]
          by_cases q2 : i < j
          · rw [if_pos q2, if_pos (by omega)]
          · rw [if_neg q2, if_neg (by omega)]
      unfold HGA
      refine mw_iload rfl rfl ?_
      refine mw_sipush (v := nI 216) rfl (by decide) ?_
      refine mw_n_ge rfl (by omega) (by omega) (fun hc => ?_) (fun hc => ?_)
      · omega
      · refine mw_aload_n (i := 0) rfl rfl rfl ?_
        refine mw_getfield rfl f_X10_38 (by first | rfl | exact hO | exact hv | exact hb | exact hm | exact hst | exact hn) rfl ?_
        refine mw_iload rfl rfl ?_
        refine mw_iconst (v := nI 0) rfl (by decide) ?_
        first | refine mw_zast_m rfl (by first | rfl | exact hO | exact hv | exact hb | exact hm | exact hst | exact hn) (by omega) (by omega) (bI_z _) ?_ | refine mw_zast_m rfl (by first | rfl | exact hO | exact hv | exact hb | exact hm | exact hst | exact hn) (by omega) (by omega) (by decide) ?_
        first | rw [bIf_updt] | rw [bIf_updf] | rw [bIf_upd] | skip
        rw [e]
        first | refine mw_ninc rfl rfl (Nat.le_of_ble_eq_true rfl) ?_ | refine mw_iinc rfl rfl rfl (Nat.le_of_ble_eq_true rfl) ?_
        refine mw_goto rfl ?_
        exact mw_locals rfl ih
  refine mw_iconst (v := nI 0) rfl (by decide) ?_
  refine mw_istore_n (i := 3) rfl rfl (Nat.le_of_ble_eq_true rfl) ?_
  refine mw_iconst (v := nI 0) rfl (by decide) ?_
  refine mw_istore rfl (Nat.le_of_ble_eq_true rfl) ?_
  refine mw_locals rfl (mw_heap ?_ (loopA 0 (by omega)))
  rw [show clrB nb 0 = nb by funext i; simp [clrB]]
  exact mov_self (by simp [hb, hm, hn])
def HGB (h : Nat → MC) (p : (Nat → Bool) × (Nat → Nat)) (m : Nat → Int32) : Nat → MC := mov [(185, .inl (.int, 3, .inl (vI p.2))), (187, .inl (.int, 216, .inl m)), (188, .inl (.boolean, 216, .inl (bIf p.1)))] h
theorem c_goesB (d n : Nat) (s rm : Nat) (w : Nat → Int32) (v st b : Nat → Nat) (nb : Nat → Bool) (m : Nat → Int32) (h : Nat → MC) (hO : h 178 = RO w) (hv : h 179 = .inl (.int, 189, .inl (vI v))) (hb : h 185 = .inl (.int, 3, .inl (vI b))) (hm : h 187 = .inl (.int, 216, .inl m)) (hst : h 184 = .inl (.int, 6, .inl (vI st))) (hn : h 188 = .inl (.boolean, 216, .inl (bIf nb))) (hok : OkN v) (hst6 : ∀ p, p < 6 → st p < 6) (hs : s < 6) (hrm : w 5 = nI rm) (hrm2 : rm < 1000000) :
    Fn M_X10_goes (d + 3) 0 0 [.ref 178, .int (nI s), .ref 187] h n (some (.int (nI (cntB (goA v st m s nb b).1 216)))) (mov [(185, .inl (.int, 3, .inl (vI (goA v st m s nb b).2))), (187, .inl (.int, 216, .inl (goM (goA v st m s nb b).1 m (if 0 < cntB (goA v st m s nb b).1 216 then rm + 1 else rm) 216))), (188, .inl (.boolean, 216, .inl (bIf (goA v st m s nb b).1))), (178, RO (updN w 5 (nI (if 0 < cntB (goA v st m s nb b).1 216 then rm + 1 else rm))))] h) := by
  refine Fn.of fun post hp => ?_
  have hr8 := hok.2.2.2.1
  -- E
  have loopE : ∀ (p : (Nat → Bool) × (Nat → Nat)) (c k : Nat), k < 2000000 → post (some (.int (nI c))) (mov [(185, .inl (.int, 3, .inl (vI p.2))), (187, .inl (.int, 216, .inl (goM p.1 m k 216))), (188, .inl (.boolean, 216, .inl (bIf p.1))), (178, RO (updN w 5 (nI k)))] h) → ∀ j, j ≤ 216 → MW M_X10_goes (d + 3) 0 0 n post 189 [(0, .ref 178), (1, .int (nI s)), (2, .ref 187), (3, .int (nI c)), (4, .int (nI j))] [] (mov [(185, .inl (.int, 3, .inl (vI p.2))), (187, .inl (.int, 216, .inl (goM p.1 m k j))), (188, .inl (.boolean, 216, .inl (bIf p.1))), (178, RO (updN w 5 (nI k)))] h) n 0 := by
    intro p c k hk hp
    refine loop_up 216 ?_ ?_
    · refine mw_iload rfl rfl ?_
      refine mw_sipush (v := nI 216) rfl (by decide) ?_
      refine mw_n_ge rfl (by omega) (by omega) (fun hc => ?_) (fun hc => ?_)
      · refine mw_iload_n (i := 3) rfl rfl rfl ?_
        exact mw_ireturn rfl rfl rfl rfl (Nat.le_refl _) (hp)
      · omega
    · intro j hj ih
      refine mw_iload rfl rfl ?_
      refine mw_sipush (v := nI 216) rfl (by decide) ?_
      refine mw_n_ge rfl (by omega) (by omega) (fun hc => ?_) (fun hc => ?_)
      · omega
      · refine mw_aload_n (i := 2) rfl rfl rfl ?_
        refine mw_iload rfl rfl ?_
        refine mw_aload_n (i := 0) rfl rfl rfl ?_
        refine mw_getfield rfl f_X10_38 (by first | rfl | exact hO | exact hv | exact hb | exact hm | exact hst | exact hn) rfl ?_
        refine mw_iload rfl rfl ?_
        refine mw_zald rfl (by first | rfl | exact hO | exact hv | exact hb | exact hm | exact hst | exact hn) (by omega) (by omega) ?_
        refine mw_b_eq rfl (fun hnb => ?_) (fun hnb => ?_)
        · have e : upd (goM p.1 m k j) j (goM p.1 m k j j) = goM p.1 m k (j + 1) := by
            funext i
            simp only [upd, goM]
            by_cases q1 : i = j
            · subst q1
              simp [hnb]
            · rw [if_neg q1]
              have q3 : i < j + 1 ↔ i < j := by omega
              simp only [q3]
          refine mw_aload_n (i := 2) rfl rfl rfl ?_
          refine mw_iload rfl rfl ?_
          refine mw_iald rfl (by first | rfl | exact hO | exact hv | exact hb | exact hm | exact hst | exact hn) (by omega) (by omega) ?_
          refine mw_iast_m rfl (by first | rfl | exact hO | exact hv | exact hb | exact hm | exact hst | exact hn) (by omega) (by omega) ?_
          first | rw [vI_upd] | rw [vI_updv] | skip
          rw [e]
          first | refine mw_ninc rfl rfl (Nat.le_of_ble_eq_true rfl) ?_ | refine mw_iinc rfl rfl rfl (Nat.le_of_ble_eq_true rfl) ?_
          refine mw_goto rfl ?_
          exact mw_locals rfl ih
        · have e : upd (goM p.1 m k j) j (nI k) = goM p.1 m k (j + 1) := by
            funext i
            simp only [upd, goM]
            by_cases q1 : i = j
            · subst q1
              simp [hnb]
            · rw [if_neg q1]
              have q3 : i < j + 1 ↔ i < j := by omega
              simp only [q3]
          refine mw_aload_n (i := 0) rfl rfl rfl ?_
          refine mw_getfield rfl f_X10_150 (by first | rfl | exact hO | exact hv | exact hb | exact hm | exact hst | exact hn) rfl ?_
          refine mw_goto rfl ?_
          refine mw_iast_m (x := nI k) rfl rfl (by omega) (by omega) ?_
          rw [e]
          first | refine mw_ninc rfl rfl (Nat.le_of_ble_eq_true rfl) ?_ | refine mw_iinc rfl rfl rfl (Nat.le_of_ble_eq_true rfl) ?_
          refine mw_goto rfl ?_
          exact mw_locals rfl ih
  -- D
  have loopD : ∀ (p : (Nat → Bool) × (Nat → Nat)), post (some (.int (nI (cntB p.1 216)))) (mov [(185, .inl (.int, 3, .inl (vI p.2))), (187, .inl (.int, 216, .inl (goM p.1 m (if 0 < cntB p.1 216 then rm + 1 else rm) 216))), (188, .inl (.boolean, 216, .inl (bIf p.1))), (178, RO (updN w 5 (nI (if 0 < cntB p.1 216 then rm + 1 else rm))))] h) → ∀ j, j ≤ 216 → MW M_X10_goes (d + 3) 0 0 n post 136 [(0, .ref 178), (1, .int (nI s)), (2, .ref 187), (3, .int (nI (cntB p.1 j))), (4, .int (nI j))] [] (HGB h p m) n 0 := by
    intro p hp
    refine loop_up 216 ?_ ?_
    · refine mw_iload rfl rfl ?_
      refine mw_sipush (v := nI 216) rfl (by decide) ?_
      refine mw_n_ge rfl (by omega) (by omega) (fun hc => ?_) (fun hc => ?_)
      · have hc216 := cntB_le p.1 216
        have e0 : ∀ k, goM p.1 m k 0 = m := fun k => by funext i; simp [goM]
        refine mw_heap (h2 := mov [(185, .inl (.int, 3, .inl (vI p.2))), (187, .inl (.int, 216, .inl m)), (188, .inl (.boolean, 216, .inl (bIf p.1)))] h) rfl ?_
        refine mw_aload_n (i := 0) rfl rfl rfl ?_
        refine mw_dup rfl rfl ?_
        refine mw_getfield rfl f_X10_150 (by first | rfl | exact hO | exact hv | exact hb | exact hm | exact hst | exact hn) rfl ?_
        rw [hrm]
        refine mw_iload_n (i := 3) rfl rfl rfl ?_
        refine mw_z_le rfl (by omega) (fun hz => ?_) (fun hz => ?_)
        · rw [if_neg (by omega)] at hp
          refine mw_iconst (v := nI 0) rfl (by decide) ?_
          first | refine mw_nadd rfl ?_ | refine mw_iadd rfl ?_
          refine mw_putfield_m rfl f_X10_150 (by first | rfl | exact hO | exact hv | exact hb | exact hm | exact hst | exact hn) (Nat.le_of_ble_eq_true rfl) (fun _ => rfl) (fun _ => rfl) ?_
          refine mw_iconst (v := nI 0) rfl (by decide) ?_
          refine mw_istore rfl (Nat.le_of_ble_eq_true rfl) ?_
          refine mw_locals rfl (mw_heap ?_ (loopE p _ rm (by omega) hp 0 (by omega)))
          rw [e0]
          rfl
        · rw [if_pos hz] at hp
          refine mw_iconst (v := nI 1) rfl (by decide) ?_
          refine mw_goto rfl ?_
          first | refine mw_nadd rfl ?_ | refine mw_iadd rfl ?_
          refine mw_putfield_m rfl f_X10_150 (by first | rfl | exact hO | exact hv | exact hb | exact hm | exact hst | exact hn) (Nat.le_of_ble_eq_true rfl) (fun _ => rfl) (fun _ => rfl) ?_
          refine mw_iconst (v := nI 0) rfl (by decide) ?_
          refine mw_istore rfl (Nat.le_of_ble_eq_true rfl) ?_
          refine mw_locals rfl (mw_heap ?_ (loopE p _ (rm + 1) (by omega) hp 0 (by omega)))
          rw [e0]
          rfl
      · omega
    · intro j hj ih
      refine mw_iload rfl rfl ?_
      refine mw_sipush (v := nI 216) rfl (by decide) ?_
      refine mw_n_ge rfl (by omega) (by omega) (fun hc => ?_) (fun hc => ?_)
      · omega
      · have hcj := cntB_le p.1 j
        refine mw_iload_n (i := 3) rfl rfl rfl ?_
        refine mw_aload_n (i := 0) rfl rfl rfl ?_
        refine mw_getfield rfl f_X10_38 (by first | rfl | exact hO | exact hv | exact hb | exact hm | exact hst | exact hn) rfl ?_
        refine mw_iload rfl rfl ?_
        refine mw_zald rfl (by first | rfl | exact hO | exact hv | exact hb | exact hm | exact hst | exact hn) (by omega) (by omega) ?_
        refine mw_b_eq rfl (fun hnb => ?_) (fun hnb => ?_)
        · refine mw_iconst (v := nI 0) rfl (by decide) ?_
          first | refine mw_nadd rfl ?_ | refine mw_iadd rfl ?_
          refine mw_istore_n (i := 3) rfl rfl (Nat.le_of_ble_eq_true rfl) ?_
          first | refine mw_ninc rfl rfl (Nat.le_of_ble_eq_true rfl) ?_ | refine mw_iinc rfl rfl rfl (Nat.le_of_ble_eq_true rfl) ?_
          refine mw_goto rfl ?_
          refine mw_locals ?_ ih
          rw [show cntB p.1 (j + 1) = cntB p.1 j + 0 by simp [cntB, hnb]]
          rfl
        · refine mw_iconst (v := nI 1) rfl (by decide) ?_
          refine mw_goto rfl ?_
          first | refine mw_nadd rfl ?_ | refine mw_iadd rfl ?_
          refine mw_istore_n (i := 3) rfl rfl (Nat.le_of_ble_eq_true rfl) ?_
          first | refine mw_ninc rfl rfl (Nat.le_of_ble_eq_true rfl) ?_ | refine mw_iinc rfl rfl rfl (Nat.le_of_ble_eq_true rfl) ?_
          refine mw_goto rfl ?_
          refine mw_locals ?_ ih
          rw [show cntB p.1 (j + 1) = cntB p.1 j + 1 by simp [cntB, hnb]]
          rfl
  -- B and C
  have loopB : ∀ r, r ≤ v 2 → MW M_X10_goes (d + 3) 0 0 n post 30 [(0, .ref 178), (1, .int (nI s)), (2, .ref 187), (3, .int (nI 0)), (4, .int (nI r))] [] (HGB h (itN (goR v st m s) (clrB nb 216, b) r) m) n 0 := by
    refine loop_up (v 2) ?_ ?_
    · refine mw_iload rfl rfl ?_
      refine mw_aload_n (i := 0) rfl rfl rfl ?_
      refine mw_getfield rfl f_X10_7 (by first | rfl | exact hO | exact hv | exact hb | exact hm | exact hst | exact hn) rfl ?_
      refine mw_iconst (v := nI 2) rfl (by decide) ?_
      refine mw_iald rfl (by first | rfl | exact hO | exact hv | exact hb | exact hm | exact hst | exact hn) (by omega) (by omega) ?_
      refine mw_n_ge rfl (by omega) (by omega) (fun hc => ?_) (fun hc => ?_)
      · refine mw_iconst (v := nI 0) rfl (by decide) ?_
        refine mw_istore rfl (Nat.le_of_ble_eq_true rfl) ?_
        exact mw_locals rfl (loopD _ hp 0 (by omega))
      · omega
    · intro r hr ih
      obtain ⟨-, -, hl1, hl3, hat⟩ := hok.2.2.2.2.2.2 r hr
      have hp6 := (hat 0 (by omega)).1
      generalize hP : itN (goR v st m s) (clrB nb 216, b) r = P at ih ⊢
      have eP : itN (goR v st m s) (clrB nb 216, b) (r + 1) = goR v st m s r P := by rw [← hP]; rfl
      rw [eP] at ih
      refine mw_iload rfl rfl ?_
      refine mw_aload_n (i := 0) rfl rfl rfl ?_
      refine mw_getfield rfl f_X10_7 (by first | rfl | exact hO | exact hv | exact hb | exact hm | exact hst | exact hn) rfl ?_
      refine mw_iconst (v := nI 2) rfl (by decide) ?_
      refine mw_iald rfl (by first | rfl | exact hO | exact hv | exact hb | exact hm | exact hst | exact hn) (by omega) (by omega) ?_
      refine mw_n_ge rfl (by omega) (by omega) (fun hc => ?_) (fun hc => ?_)
      · omega
      · refine mw_iconst (v := nI 0) rfl (by decide) ?_
        refine mw_istore rfl (Nat.le_of_ble_eq_true rfl) ?_
        by_cases hss : st (v (45 + 18 * r + 2 + 4 * 0)) = s
        · rw [goR, if_pos hss] at ih
          have loopC : ∀ j, j ≤ 216 → MW M_X10_goes (d + 3) 0 0 n post 44 [(0, .ref 178), (1, .int (nI s)), (2, .ref 187), (3, .int (nI 0)), (4, .int (nI r)), (5, .int (nI j))] [] (HGB h (itN (goC v m r) P j) m) n 0 := by
            refine loop_up 216 ?_ ?_
            · refine mw_iload rfl rfl ?_
              refine mw_sipush (v := nI 216) rfl (by decide) ?_
              refine mw_n_ge rfl (by omega) (by omega) (fun hc => ?_) (fun hc => ?_)
              · first | refine mw_ninc rfl rfl (Nat.le_of_ble_eq_true rfl) ?_ | refine mw_iinc rfl rfl rfl (Nat.le_of_ble_eq_true rfl) ?_
                refine mw_goto rfl ?_
                exact mw_locals rfl ih
              · omega
            · intro j hj ihC
              generalize hQ : itN (goC v m r) P j = Q at ihC ⊢
              have eQ : itN (goC v m r) P (j + 1) = goC v m r j Q := by rw [← hQ]; rfl
              rw [eQ] at ihC
              have hb6 : ∀ x, x < 3 → bndU Q.2 j x < 6 := fun x hx => bndU_lt Q.2 hj hx
              have hlt := fA_lt hok hb6 hr (show 0 ≤ v (45 + 18 * r + 1) by omega)
              refine mw_iload rfl rfl ?_
              refine mw_sipush (v := nI 216) rfl (by decide) ?_
              refine mw_n_ge rfl (by omega) (by omega) (fun hc => ?_) (fun hc => ?_)
              · omega
              · refine mw_aload_n (i := 0) rfl rfl rfl ?_
                refine mw_getfield rfl f_X10_26 (by first | rfl | exact hO | exact hv | exact hb | exact hm | exact hst | exact hn) rfl ?_
                refine mw_aload_n (i := 0) rfl rfl rfl ?_
                refine mw_getfield rfl f_X10_7 (by first | rfl | exact hO | exact hv | exact hb | exact hm | exact hst | exact hn) rfl ?_
                refine mw_iload rfl rfl ?_
                refine mw_iconst (v := nI 0) rfl (by decide) ?_
                refine mw_callS_f (c_atomAt (d + 2) n r 0 _) rfl ok_X10_atomAt v_X10_88 rfl (Nat.le_of_ble_eq_true rfl) rfl (Nat.le_of_ble_eq_true rfl) (by omega) (by omega) (by omega) ?_
                refine mw_iald rfl (by first | rfl | exact hO | exact hv | exact hb | exact hm | exact hst | exact hn) (by omega) (by omega) ?_
                refine mw_iald_v (v := nI s) rfl hst (by omega) (by omega) (congrArg nI hss) ?_
                refine mw_iload_n (i := 1) rfl rfl rfl ?_
                refine mw_n_ne rfl (by omega) (by omega) (fun hne => ?_) (fun hne => ?_)
                · exact absurd rfl hne
                · refine mw_aload_n (i := 0) rfl rfl rfl ?_
                  refine mw_iload rfl rfl ?_
                  refine mw_iload rfl rfl ?_
                  refine mw_callV_f (c_isBinding (d + 1) n r j w v Q.2 _ hO hv rfl hok hr hj) rfl ok_X10_isBinding v_X10_142 rfl (by first | rfl | exact hO | exact hv | exact hb | exact hm | exact hst | exact hn) (by intro e; cases e) rfl (Nat.le_of_ble_eq_true rfl) rfl (Nat.le_of_ble_eq_true rfl) (by omega) (by omega) (by omega) ?_
                  unfold HGB
                  rw [← mov_puts]
                  refine mw_b_eq rfl (fun hbo => ?_) (fun hbo => ?_)
                  · rw [show goC v m r j Q = (Q.1, bndU Q.2 j) by simp [goC, hbo]] at ihC
                    first | refine mw_ninc rfl rfl (Nat.le_of_ble_eq_true rfl) ?_ | refine mw_iinc rfl rfl rfl (Nat.le_of_ble_eq_true rfl) ?_
                    refine mw_goto rfl ?_
                    exact mw_locals rfl ihC
                  · refine mw_aload_n (i := 0) rfl rfl rfl ?_
                    refine mw_iload rfl rfl ?_
                    refine mw_aload_n (i := 2) rfl rfl rfl ?_
                    refine mw_callV_f (c_holds d n r 187 w v (bndU Q.2 j) m _ hO hv rfl rfl hok hb6 hr) rfl ok_X10_holds v_X10_146 rfl (by first | rfl | exact hO | exact hv | exact hb | exact hm | exact hst | exact hn) (by intro e; cases e) rfl (Nat.le_of_ble_eq_true rfl) rfl (Nat.le_of_ble_eq_true rfl) (by omega) (by omega) (by omega) ?_
                    refine mw_b_eq rfl (fun hho => ?_) (fun hho => ?_)
                    · rw [show goC v m r j Q = (Q.1, bndU Q.2 j) by simp [goC, hbo, hho]] at ihC
                      first | refine mw_ninc rfl rfl (Nat.le_of_ble_eq_true rfl) ?_ | refine mw_iinc rfl rfl rfl (Nat.le_of_ble_eq_true rfl) ?_
                      refine mw_goto rfl ?_
                      exact mw_locals rfl ihC
                    · refine mw_aload_n (i := 0) rfl rfl rfl ?_
                      refine mw_iload rfl rfl ?_
                      refine mw_iconst (v := nI 0) rfl (by decide) ?_
                      refine mw_callV_f (c_factAt (d + 1) n r 0 w v (bndU Q.2 j) _ hO hv rfl hok hr (by omega)) rfl ok_X10_factAt v_X10_139 rfl (by first | rfl | exact hO | exact hv | exact hb | exact hm | exact hst | exact hn) (by intro e; cases e) rfl (Nat.le_of_ble_eq_true rfl) rfl (Nat.le_of_ble_eq_true rfl) (by omega) (by omega) (by omega) ?_
                      refine mw_istore rfl (Nat.le_of_ble_eq_true rfl) ?_
                      refine mw_aload_n (i := 0) rfl rfl rfl ?_
                      refine mw_getfield rfl f_X10_38 (by first | rfl | exact hO | exact hv | exact hb | exact hm | exact hst | exact hn) rfl ?_
                      refine mw_iload rfl rfl ?_
                      refine mw_aload_n (i := 2) rfl rfl rfl ?_
                      refine mw_iload rfl rfl ?_
                      refine mw_iald rfl (by first | rfl | exact hO | exact hv | exact hb | exact hm | exact hst | exact hn) (by omega) (by omega) ?_
                      refine mw_if_ge rfl (fun ht => ?_) (fun ht => ?_)
                      · rw [show goC v m r j Q = (updN Q.1 (fA v (bndU Q.2 j) r 0) false, bndU Q.2 j) by simp [goC, hbo, hho, Int32.not_lt.mpr ht]] at ihC
                        refine mw_iconst (v := nI 0) rfl (by decide) ?_
                        first | refine mw_zast_m rfl (by first | rfl | exact hO | exact hv | exact hb | exact hm | exact hst | exact hn) (by omega) (by omega) (bI_z _) ?_ | refine mw_zast_m rfl (by first | rfl | exact hO | exact hv | exact hb | exact hm | exact hst | exact hn) (by omega) (by omega) (by decide) ?_
                        first | rw [bIf_updt] | rw [bIf_updf] | rw [bIf_upd] | skip
                        first | refine mw_ninc rfl rfl (Nat.le_of_ble_eq_true rfl) ?_ | refine mw_iinc rfl rfl rfl (Nat.le_of_ble_eq_true rfl) ?_
                        refine mw_goto rfl ?_
                        exact mw_locals rfl ihC
                      · rw [show goC v m r j Q = (updN Q.1 (fA v (bndU Q.2 j) r 0) true, bndU Q.2 j) by simp [goC, hbo, hho, Int32.not_le.mp ht]] at ihC
                        refine mw_iconst (v := nI 1) rfl (by decide) ?_
                        refine mw_goto rfl ?_
                        first | refine mw_zast_m rfl (by first | rfl | exact hO | exact hv | exact hb | exact hm | exact hst | exact hn) (by omega) (by omega) (bI_z _) ?_ | refine mw_zast_m rfl (by first | rfl | exact hO | exact hv | exact hb | exact hm | exact hst | exact hn) (by omega) (by omega) (by decide) ?_
                        first | rw [bIf_updt] | rw [bIf_updf] | rw [bIf_upd] | skip
                        first | refine mw_ninc rfl rfl (Nat.le_of_ble_eq_true rfl) ?_ | refine mw_iinc rfl rfl rfl (Nat.le_of_ble_eq_true rfl) ?_
                        refine mw_goto rfl ?_
                        exact mw_locals rfl ihC
          exact mw_locals rfl (loopC 0 (by omega))
        · rw [goR, if_neg hss] at ih
          refine mw_iload rfl rfl ?_
          refine mw_sipush (v := nI 216) rfl (by decide) ?_
          refine mw_n_ge rfl (by omega) (by omega) (fun hc => ?_) (fun hc => ?_)
          · omega
          · refine mw_aload_n (i := 0) rfl rfl rfl ?_
            refine mw_getfield rfl f_X10_26 (by first | rfl | exact hO | exact hv | exact hb | exact hm | exact hst | exact hn) rfl ?_
            refine mw_aload_n (i := 0) rfl rfl rfl ?_
            refine mw_getfield rfl f_X10_7 (by first | rfl | exact hO | exact hv | exact hb | exact hm | exact hst | exact hn) rfl ?_
            refine mw_iload rfl rfl ?_
            refine mw_iconst (v := nI 0) rfl (by decide) ?_
            refine mw_callS_f (c_atomAt (d + 2) n r 0 _) rfl ok_X10_atomAt v_X10_88 rfl (Nat.le_of_ble_eq_true rfl) rfl (Nat.le_of_ble_eq_true rfl) (by omega) (by omega) (by omega) ?_
            refine mw_iald rfl (by first | rfl | exact hO | exact hv | exact hb | exact hm | exact hst | exact hn) (by omega) (by omega) ?_
            refine mw_iald rfl (by first | rfl | exact hO | exact hv | exact hb | exact hm | exact hst | exact hn) (by omega) (by omega) ?_
            have h6 := hst6 _ hp6
            refine mw_iload_n (i := 1) rfl rfl rfl ?_
            refine mw_n_ne rfl (by omega) (by omega) (fun hne => ?_) (fun hne => ?_)
            · first | refine mw_ninc rfl rfl (Nat.le_of_ble_eq_true rfl) ?_ | refine mw_iinc rfl rfl rfl (Nat.le_of_ble_eq_true rfl) ?_
              refine mw_goto rfl ?_
              exact mw_locals rfl ih
            · exact absurd hne hss
  have loopA : ∀ j, j ≤ 216 → MW M_X10_goes (d + 3) 0 0 n post 5 [(0, .ref 178), (1, .int (nI s)), (2, .ref 187), (3, .int (nI 0)), (4, .int (nI j))] [] (HGB h (clrB nb j, b) m) n 0 := by
    refine loop_up 216 ?_ ?_
    · refine mw_iload rfl rfl ?_
      refine mw_sipush (v := nI 216) rfl (by decide) ?_
      refine mw_n_ge rfl (by omega) (by omega) (fun hc => ?_) (fun hc => ?_)
      · refine mw_iconst (v := nI 0) rfl (by decide) ?_
        refine mw_istore rfl (Nat.le_of_ble_eq_true rfl) ?_
        exact mw_locals rfl (loopB 0 (by omega))
      · omega
    · intro j hj ih
      have e : updN (clrB nb j) j false = clrB nb (j + 1) := by
        funext i
        simp only [updN, clrB]
        by_cases q1 : i = j
        · subst q1
          simp
        · rw [if_neg q1]
          by_cases q2 : i < j
          · rw [if_pos q2, if_pos (by omega)]
          · rw [if_neg q2, if_neg (by omega)]
      unfold HGB
      refine mw_iload rfl rfl ?_
      refine mw_sipush (v := nI 216) rfl (by decide) ?_
      refine mw_n_ge rfl (by omega) (by omega) (fun hc => ?_) (fun hc => ?_)
      · omega
      · refine mw_aload_n (i := 0) rfl rfl rfl ?_
        refine mw_getfield rfl f_X10_38 (by first | rfl | exact hO | exact hv | exact hb | exact hm | exact hst | exact hn) rfl ?_
        refine mw_iload rfl rfl ?_
        refine mw_iconst (v := nI 0) rfl (by decide) ?_
        first | refine mw_zast_m rfl (by first | rfl | exact hO | exact hv | exact hb | exact hm | exact hst | exact hn) (by omega) (by omega) (bI_z _) ?_ | refine mw_zast_m rfl (by first | rfl | exact hO | exact hv | exact hb | exact hm | exact hst | exact hn) (by omega) (by omega) (by decide) ?_
        first | rw [bIf_updt] | rw [bIf_updf] | rw [bIf_upd] | skip
        rw [e]
        first | refine mw_ninc rfl rfl (Nat.le_of_ble_eq_true rfl) ?_ | refine mw_iinc rfl rfl rfl (Nat.le_of_ble_eq_true rfl) ?_
        refine mw_goto rfl ?_
        exact mw_locals rfl ih
  refine mw_iconst (v := nI 0) rfl (by decide) ?_
  refine mw_istore_n (i := 3) rfl rfl (Nat.le_of_ble_eq_true rfl) ?_
  refine mw_iconst (v := nI 0) rfl (by decide) ?_
  refine mw_istore rfl (Nat.le_of_ble_eq_true rfl) ?_
  refine mw_locals rfl (mw_heap ?_ (loopA 0 (by omega)))
  rw [show clrB nb 0 = nb by funext i; simp [clrB]]
  exact mov_self (by simp [hb, hm, hn])
end
section
theorem arrV_cg {cA : ClassId} {n : Nat} {f g : Nat → Value} (e : ∀ j, j < n → f j = g j) : arrV cA n f = arrV cA n g := by
  unfold arrV
  congr 2
  funext j
  exact e j j.isLt
/-- of a row only its places count -/
theorem mw_tail {M : MI} {d mc ms n0 : Nat} {post : Option Value → (Nat → MC) → Prop} {pc : Nat} {L : List (Nat × Value)} {S : List Value} {h : Nat → MC} {n sl K N : Nat} {ty : FieldType} {f : Nat → Int32} (g : Nat → Int32) (hK : h K = .inl (ty, N, .inl f)) (e : ∀ j, j < N → f j = g j) (k : MW M d mc ms n0 post pc L S (hset h K (.inl (ty, N, .inl g))) n sl) : MW M d mc ms n0 post pc L S h n sl := by
  intro G p lc en s m args below meth c X H locs ls hn hW hS hl
  refine k G p lc en s m args below meth c X H locs ls hn ?_ hS hl
  have hlt := hW.lt hK dead_l
  refine ⟨fun j hj => ?_, ?_⟩
  · have q : ¬ j = K := by omega
    show (if j = K then _ else h j) = dead
    rw [if_neg q]
    exact hW.1 j hj
  · intro i q hq
    obtain ⟨hi, rfl⟩ := mws_lt hq
    have h1 := hW.2 i _ (mws_get G h hi)
    by_cases q : i = K
    · subst q
      rw [hK] at h1
      rw [hset_same]
      show H[G.2.1 + i]? = some (vp_cell (G.2.2 ty) (N, .inl g))
      have h2 : H[G.2.1 + i]? = some (vp_cell (G.2.2 ty) (N, .inl f)) := h1
      rw [h2]
      congr 1
      rw [vp_cell_i, vp_cell_i]
      exact arrV_cg fun j hj => by rw [e j hj]
    · rw [hset_ne h _ q]
      exact h1
theorem tOf_b {b b' : Nat → Nat} (e : ∀ x, x < 3 → b x = b' x) {t : Nat} (ht : t < 9) : tOf b t = tOf b' t := by
  unfold tOf
  split
  · rfl
  · exact e _ (by omega)
theorem fA_b {v b b' : Nat → Nat} (hok : OkN v) (e : ∀ x, x < 3 → b x = b' x) {r a : Nat} (hr : r < v 2) (ha : a ≤ v (45 + 18 * r + 1)) : fA v b r a = fA v b' r a := by
  obtain ⟨-, -, -, -, hat⟩ := hok.2.2.2.2.2.2 r hr
  obtain ⟨-, h2, h3, -⟩ := hat a ha
  unfold fA
  rw [tOf_b e h2, tOf_b e h3]
theorem andN_cg {f g : Nat → Bool} : ∀ {n : Nat}, (∀ k, k < n → f k = g k) → andN f n = andN g n
  | 0, _ => rfl
  | n + 1, h => by simp only [andN]; rw [andN_cg (fun k hk => h k (by omega)), h n (by omega)]
theorem holdsR_b {v b b' : Nat → Nat} {m : Nat → Int32} (hok : OkN v) (e : ∀ x, x < 3 → b x = b' x) {r : Nat} (hr : r < v 2) : holdsR v b m r = holdsR v b' m r := by
  unfold holdsR
  refine andN_cg fun k hk => ?_
  unfold hLit
  rw [fA_b hok e hr (by omega)]
theorem bndU_e (b b' : Nat → Nat) (code : Nat) : ∀ x, x < 3 → bndU b code x = bndU b' code x := fun x hx => by rw [bndU_at b code hx, bndU_at b' code hx]
/-- relation of two scratch states -/
def goE (p q : (Nat → Bool) × (Nat → Nat)) : Prop := ∀ f, f < 216 → p.1 f = q.1 f
theorem goC_e {v : Nat → Nat} {m : Nat → Int32} (hok : OkN v) {r code : Nat} (hr : r < v 2) {p q : (Nat → Bool) × (Nat → Nat)} (e : goE p q) : goE (goC v m r code p) (goC v m r code q) := by
  intro f hf
  simp only [goC]
  rw [holdsR_b hok (bndU_e p.2 q.2 code) hr, fA_b hok (bndU_e p.2 q.2 code) hr (Nat.zero_le _)]
  split
  · simp only [updN]
    split
    · rfl
    · exact e f hf
  · exact e f hf
theorem itN_rel {α : Type} {R : α → α → Prop} {s : Nat → α → α} {N : Nat} (hs : ∀ k, k < N → ∀ a b, R a b → R (s k a) (s k b)) : ∀ n, n ≤ N → ∀ {a b : α}, R a b → R (itN s a n) (itN s b n)
  | 0, _, _, _, h => h
  | n + 1, hn, _, _, h => hs n (by omega) _ _ (itN_rel hs n (by omega) h)
theorem itN_inv {α : Type} {P : α → Prop} {s : Nat → α → α} {N : Nat} (hs : ∀ k, k < N → ∀ a, P a → P (s k a)) : ∀ n, n ≤ N → ∀ {a : α}, P a → P (itN s a n)
  | 0, _, _, h => h
  | n + 1, hn, _, h => hs n (by omega) _ (itN_inv hs n (by omega) h)
set_option maxRecDepth 100000 in
theorem goA_e {v st : Nat → Nat} {m : Nat → Int32} (hok : OkN v) (s : Nat) (nb : Nat → Bool) (b : Nat → Nat) : goE (goA v st m s nb b) (goA v st m s (fun _ => false) (fun _ => 0)) := by
  refine itN_rel (R := goE) (N := v 2) (fun r hr p q e => ?_) (v 2) (Nat.le_refl _) ?_
  · simp only [goR]
    split
    · exact itN_rel (R := goE) (s := goC v m r) (N := 216) (fun code _ p q e => goC_e hok hr e) 216 (Nat.le_refl _) (a := p) (b := q) e
    · exact e
  · intro f hf
    simp [clrB, hf]
/-- the new facts of a round -/
def newF (v st : Nat → Nat) (m : Nat → Int32) (s : Nat) : Nat → Bool := (goA v st m s (fun _ => false) (fun _ => 0)).1
set_option maxRecDepth 100000 in
theorem newF_neg {v st : Nat → Nat} {m : Nat → Int32} {s : Nat} : ∀ f, newF v st m s f = true → m f < 0 := by
  have h : ∀ (p : (Nat → Bool) × (Nat → Nat)), (∀ f, p.1 f = true → m f < 0) → ∀ r code f, (goC v m r code p).1 f = true → m f < 0 := by
    intro p hp r code f
    simp only [goC]
    split
    · simp only [updN]
      split
      · rename_i e
        intro h1
        rw [e]
        exact of_decide_eq_true h1
      · exact hp f
    · exact hp f
  refine itN_inv (P := fun p : (Nat → Bool) × (Nat → Nat) => ∀ f, p.1 f = true → m f < 0) (N := v 2) (fun r _ p hp => ?_) (v 2) (Nat.le_refl _) ?_
  · simp only [goR]
    split
    · exact itN_inv (P := fun p : (Nat → Bool) × (Nat → Nat) => ∀ f, p.1 f = true → m f < 0) (N := 216) (fun code _ p hp => h p hp r code) 216 (Nat.le_refl _) hp
    · exact hp
  · intro f hf
    simp only [clrB] at hf
    split at hf <;> cases hf
theorem cntB_cg {f g : Nat → Bool} : ∀ {n : Nat}, (∀ k, k < n → f k = g k) → cntB f n = cntB g n
  | 0, _ => rfl
  | n + 1, h => by simp only [cntB]; rw [cntB_cg (fun k hk => h k (by omega)), h n (by omega)]
theorem cntB_0 {f : Nat → Bool} : ∀ {n : Nat}, cntB f n = 0 → ∀ k, k < n → f k = false
  | 0, _, k, hk => absurd hk (Nat.not_lt_zero k)
  | n + 1, h, k, hk => by
    simp only [cntB] at h
    by_cases e : k = n
    · subst e
      cases q : f k
      · rfl
      · rw [q] at h; simp at h
    · exact cntB_0 (n := n) (by omega) k (by omega)
/-- model and number of rounds behind one more round of a stratum -/
def cntS (v st : Nat → Nat) (s : Nat) (X : (Nat → Int32) × Nat) : Nat := cntB (newF v st X.1 s) 216
def stepM (v st : Nat → Nat) (s : Nat) (X : (Nat → Int32) × Nat) : (Nat → Int32) × Nat :=
  (goM (newF v st X.1 s) X.1 (if 0 < cntS v st s X then X.2 + 1 else X.2) 216, if 0 < cntS v st s X then X.2 + 1 else X.2)
theorem stepM_0 {v st : Nat → Nat} {s : Nat} {X : (Nat → Int32) × Nat} (h : cntS v st s X = 0) : stepM v st s X = X := by
  have h1 : ¬ 0 < cntS v st s X := by omega
  simp only [stepM, if_neg h1]
  refine Prod.ext ?_ rfl
  funext f
  simp only [goM]
  split
  · rename_i hf
    rw [cntB_0 h f hf]
    rfl
  · rfl
/-- how many facts are not there -/
def absC (m : Nat → Int32) : Nat → Nat
  | 0 => 0
  | k + 1 => absC m k + (if m k < 0 then 1 else 0)
theorem absC_le (m : Nat → Int32) : ∀ k, absC m k ≤ k
  | 0 => Nat.le_refl _
  | k + 1 => by
    have := absC_le m k
    simp only [absC]
    split <;> omega
theorem absC_go {m : Nat → Int32} {nw : Nat → Bool} {k : Nat} (hk : k < 2147483648) (hn : ∀ f, nw f = true → m f < 0) : ∀ n, n ≤ 216 → absC (goM nw m k 216) n + cntB nw n = absC m n
  | 0, _ => rfl
  | n + 1, h => by
    have ih := absC_go hk hn n (by omega)
    have e1 : nw n = true → ¬ goM nw m k 216 n < 0 := fun q => by
      have : goM nw m k 216 n = nI k := by simp [goM, q, show n < 216 by omega]
      rw [this]
      exact nI_pos hk
    have e2 : nw n = false → goM nw m k 216 n = m n := fun q => by simp [goM, q]
    simp only [absC, cntB]
    by_cases q : nw n = true
    · rw [if_pos q, if_pos (hn n q), if_neg (e1 q)]
      omega
    · have q' : nw n = false := by simpa using q
      rw [if_neg q]
      by_cases h1 : m n < 0
      · rw [if_pos h1, if_pos (show goM nw m k 216 n < 0 by rw [e2 q']; exact h1)]
        omega
      · rw [if_neg h1, if_neg (show ¬ goM nw m k 216 n < 0 by rw [e2 q']; exact h1)]
        omega
theorem absC_step {v st : Nat → Nat} {s : Nat} {X : (Nat → Int32) × Nat} (hk : X.2 < 1000000) : absC (stepM v st s X).1 216 + cntS v st s X = absC X.1 216 := by
  refine absC_go ?_ newF_neg 216 (Nat.le_refl _)
  split <;> omega
def runS (v st : Nat → Nat) (s : Nat) (X : (Nat → Int32) × Nat) : (Nat → Int32) × Nat := itN (fun _ => stepM v st s) X 217
theorem itN_fix {α : Type} {f : α → α} {a : α} (h : f a = a) : ∀ n, itN (fun _ => f) a n = a
  | 0 => rfl
  | n + 1 => by simp only [itN]; rw [itN_fix h n, h]
theorem itN_add {α : Type} (f : α → α) (a : α) (m : Nat) : ∀ n, itN (fun _ => f) a (m + n) = itN (fun _ => f) (itN (fun _ => f) a m) n
  | 0 => rfl
  | n + 1 => by
    show f (itN (fun _ => f) a (m + n)) = f _
    rw [itN_add f a m n]
theorem itN_stay {α : Type} {f : α → α} {a : α} {i N : Nat} (hi : i ≤ N) (h : f (itN (fun _ => f) a i) = itN (fun _ => f) a i) : itN (fun _ => f) a N = itN (fun _ => f) a i := by
  obtain ⟨k, rfl⟩ := Nat.exists_eq_add_of_le hi
  rw [itN_add, itN_fix h]
theorem runS_done {v st : Nat → Nat} {s i : Nat} {X : (Nat → Int32) × Nat} (hi : i ≤ 217) (h : cntS v st s (itN (fun _ => stepM v st s) X i) = 0) : runS v st s X = itN (fun _ => stepM v st s) X i := itN_stay hi (stepM_0 h)
theorem itN_first {α : Type} (f : α → α) (a : α) : ∀ n, itN (fun _ => f) (f a) n = itN (fun _ => f) a (n + 1)
  | 0 => rfl
  | n + 1 => by
    show f (itN (fun _ => f) (f a) n) = f (itN (fun _ => f) a (n + 1))
    rw [itN_first f a n]
def InvX (X : (Nat → Int32) × Nat) : Prop := X.2 + absC X.1 216 ≤ 216
theorem InvX_step {v st : Nat → Nat} {s : Nat} {X : (Nat → Int32) × Nat} (h : InvX X) : InvX (stepM v st s X) := by
  have h1 := absC_step (v := v) (st := st) (s := s) (X := X) (by unfold InvX at h; omega)
  unfold InvX at h ⊢
  have h2 : (stepM v st s X).2 = if 0 < cntS v st s X then X.2 + 1 else X.2 := rfl
  rw [h2]
  split <;> omega
theorem cnt_zero {v st : Nat → Nat} {s : Nat} (a : Nat) : ∀ (X : (Nat → Int32) × Nat), absC X.1 216 ≤ a → InvX X → ∃ i, i ≤ a ∧ cntS v st s (itN (fun _ => stepM v st s) X i) = 0 := by
  induction a with
  | zero =>
    intro X ha hX
    have h1 := absC_step (v := v) (st := st) (s := s) (X := X) (by unfold InvX at hX; omega)
    exact ⟨0, Nat.le_refl _, by show cntS v st s X = 0; omega⟩
  | succ a ih =>
    intro X ha hX
    by_cases hz : cntS v st s X = 0
    · exact ⟨0, Nat.zero_le _, hz⟩
    · have h1 := absC_step (v := v) (st := st) (s := s) (X := X) (by unfold InvX at hX; omega)
      obtain ⟨i, hi, h2⟩ := ih (stepM v st s X) (by omega) (InvX_step hX)
      exact ⟨i + 1, by omega, by rw [← itN_first]; exact h2⟩
theorem mlk_app (l l2 : MLs) (j : Nat) : mlk (l ++ l2) j = match mlk l j with | some c => some c | none => mlk l2 j := by
  induction l with
  | nil => simp [mlk]
  | cons q t ih =>
    by_cases h : q.1 = j
    · have e : Nat.beq q.1 j = true := by simp [h]
      simp [mlk, e]
    · simp [mlk, nbf h, ih]
theorem mov_app {l l2 : MLs} {h : Nat → MC} (hs : ∀ q ∈ l2, h q.1 = q.2) : mov (l ++ l2) h = mov l h := by
  funext j
  simp only [mov, mlk_app]
  cases e : mlk l j with
  | some c => rfl
  | none =>
    cases e2 : mlk l2 j with
    | none => rfl
    | some c => exact (hs _ (mlk_mem e2)).symm
theorem runS_step {v st : Nat → Nat} {s : Nat} {X : (Nat → Int32) × Nat} (hX : InvX X) : runS v st s (stepM v st s X) = runS v st s X := by
  obtain ⟨i, hi, h⟩ := cnt_zero (v := v) (st := st) (s := s) 216 X (by unfold InvX at hX; omega) hX
  have e1 : runS v st s X = itN (fun _ => stepM v st s) X i := runS_done (by omega) h
  have e2 : runS v st s (stepM v st s X) = itN (fun _ => stepM v st s) X (217 + 1) := itN_first _ _ _
  rw [e1, e2]
  exact itN_stay (by omega) (stepM_0 h)
theorem InvX_run {v st : Nat → Nat} {s : Nat} {X : (Nat → Int32) × Nat} (hX : InvX X) : InvX (runS v st s X) := by
  unfold runS
  generalize 217 = k
  induction k with
  | zero => exact hX
  | succ k ih => exact InvX_step ih
def delB (x : Int32) (k : Nat) : Bool := decide ((x >>> (nI k &&& 31)) &&& nI 1 = 0)
def baseM (v : Nat → Nat) (x : Int32) : Nat → Int32 := itN (fun k m => if delB x k then upd m (v (9 + 3 * k)) (nI 0) else m) (fun _ => -1) (v 1)
def mdlV (v st : Nat → Nat) (x : Int32) : (Nat → Int32) × Nat := itN (runS v st) (baseM v x, 0) 6
theorem goM_cg {nw nw' : Nat → Bool} (e : ∀ f, f < 216 → nw f = nw' f) (m : Nat → Int32) (k : Nat) : goM nw m k 216 = goM nw' m k 216 := by
  funext f
  simp only [goM]
  split
  · rename_i hf
    rw [e f hf]
  · rfl
theorem c_goesXA (d n : Nat) (s rm : Nat) (w : Nat → Int32) (v st b : Nat → Nat) (nb : Nat → Bool) (m : Nat → Int32) (h : Nat → MC) (hO : h 178 = RO w) (hv : h 179 = .inl (.int, 189, .inl (vI v))) (hb : h 185 = .inl (.int, 3, .inl (vI b))) (hm : h 186 = .inl (.int, 216, .inl m)) (hst : h 184 = .inl (.int, 6, .inl (vI st))) (hn : h 188 = .inl (.boolean, 216, .inl (bIf nb))) (hok : OkN v) (hst6 : ∀ p, p < 6 → st p < 6) (hs : s < 6) (hrm : w 5 = nI rm) (hrm2 : rm < 1000000) :
    Fn M_X10_goes (d + 3) 0 0 [.ref 178, .int (nI s), .ref 186] h n (some (.int (nI (cntS v st s (m, rm))))) (mov [(185, .inl (.int, 3, .inl (vI (goA v st m s nb b).2))), (186, .inl (.int, 216, .inl (stepM v st s (m, rm)).1)), (188, .inl (.boolean, 216, .inl (bIf (goA v st m s nb b).1))), (178, RO (updN w 5 (nI (stepM v st s (m, rm)).2)))] h) := by
  have h1 := c_goesA d n s rm w v st b nb m h hO hv hb hm hst hn hok hst6 hs hrm hrm2
  have e1 : cntB (goA v st m s nb b).1 216 = cntS v st s (m, rm) := cntB_cg (goA_e hok s nb b)
  rw [e1, goM_cg (goA_e hok s nb b)] at h1
  exact h1
theorem c_buildsA (d n : Nat) (x : Int32) (w : Nat → Int32) (v st b : Nat → Nat) (nb : Nat → Bool) (m : Nat → Int32) (h : Nat → MC) (hO : h 178 = RO w) (hv : h 179 = .inl (.int, 189, .inl (vI v))) (hb : h 185 = .inl (.int, 3, .inl (vI b))) (hm : h 186 = .inl (.int, 216, .inl m)) (hst : h 184 = .inl (.int, 6, .inl (vI st))) (hn : h 188 = .inl (.boolean, 216, .inl (bIf nb))) (hok : OkN v) (hst6 : ∀ p, p < 6 → st p < 6) :
    Sp M_X10_builds (d + 4) 0 0 [.ref 178, .int x, .ref 186] h n (fun r h1 => r = none ∧ ∃ (nb' : Nat → Bool) (b' : Nat → Nat), h1 = mov [(186, .inl (.int, 216, .inl (mdlV v st x).1)), (178, RO (updN w 5 (nI (mdlV v st x).2))), (185, .inl (.int, 3, .inl (vI b'))), (188, .inl (.boolean, 216, .inl (bIf nb')))] h) := by
  show MW _ _ _ _ _ _ _ _ _ _ _ _
  generalize hpost : (fun (r : Option Value) (h1 : Nat → MC) => r = none ∧ ∃ (nb' : Nat → Bool) (b' : Nat → Nat), h1 = mov [(186, .inl (.int, 216, .inl (mdlV v st x).1)), (178, RO (updN w 5 (nI (mdlV v st x).2))), (185, .inl (.int, 3, .inl (vI b'))), (188, .inl (.boolean, 216, .inl (bIf nb')))] h) = post
  have hp : ∀ (nb' : Nat → Bool) (b' : Nat → Nat), post none (mov [(186, .inl (.int, 216, .inl (mdlV v st x).1)), (178, RO (updN w 5 (nI (mdlV v st x).2))), (185, .inl (.int, 3, .inl (vI b'))), (188, .inl (.boolean, 216, .inl (bIf nb')))] h) := by
    intro nb' b'
    rw [← hpost]
    exact ⟨rfl, nb', b', rfl⟩
  clear hpost
  have hf12 := hok.2.2.1
  -- one stratum's loop
  have loopW : ∀ s, s < 6 → ∀ a (X : (Nat → Int32) × Nat) (nb : Nat → Bool) (b : Nat → Nat), absC X.1 216 ≤ a → InvX X → (∀ (nb : Nat → Bool) (b : Nat → Nat), MW M_X10_builds (d + 4) 0 0 n post 66 [(0, .ref 178), (1, .int x), (2, .ref 186), (3, .int (nI (s + 1)))] [] (mov [(186, .inl (.int, 216, .inl (runS v st s X).1)), (178, RO (updN w 5 (nI (runS v st s X).2))), (185, .inl (.int, 3, .inl (vI b))), (188, .inl (.boolean, 216, .inl (bIf nb)))] h) n 0) → MW M_X10_builds (d + 4) 0 0 n post 80 [(0, .ref 178), (1, .int x), (2, .ref 186), (3, .int (nI s)), (4, .int (nI (cntS v st s X)))] [] (mov [(186, .inl (.int, 216, .inl (stepM v st s X).1)), (178, RO (updN w 5 (nI (stepM v st s X).2))), (185, .inl (.int, 3, .inl (vI b))), (188, .inl (.boolean, 216, .inl (bIf nb)))] h) n 0 := by
    intro s hs a
    induction a with
    | zero =>
      intro X nb b ha hX k
      have h1 := absC_step (v := v) (st := st) (s := s) (X := X) (by unfold InvX at hX; omega)
      have h0 : cntS v st s X = 0 := by omega
      rw [stepM_0 h0]
      have hr : runS v st s X = X := runS_done (i := 0) (by omega) h0
      rw [hr] at k
      refine mw_iload rfl rfl ?_
      refine mw_z_le rfl (by omega) (fun hz => ?_) (fun hz => ?_)
      · first | refine mw_ninc rfl rfl (Nat.le_of_ble_eq_true rfl) ?_ | refine mw_iinc rfl rfl rfl (Nat.le_of_ble_eq_true rfl) ?_
        refine mw_goto rfl ?_
        exact mw_locals rfl (k nb b)
      · omega
    | succ a ih =>
      intro X nb b ha hX k
      have h1 := absC_step (v := v) (st := st) (s := s) (X := X) (by unfold InvX at hX; omega)
      have h2 := InvX_step (v := v) (st := st) (s := s) hX
      have h216 : cntS v st s X ≤ 216 := cntB_le _ _
      refine mw_iload rfl rfl ?_
      refine mw_z_le rfl (by omega) (fun hz => ?_) (fun hz => ?_)
      · rw [stepM_0 hz]
        have hr : runS v st s X = X := runS_done (i := 0) (by omega) hz
        rw [hr] at k
        first | refine mw_ninc rfl rfl (Nat.le_of_ble_eq_true rfl) ?_ | refine mw_iinc rfl rfl rfl (Nat.le_of_ble_eq_true rfl) ?_
        refine mw_goto rfl ?_
        exact mw_locals rfl (k nb b)
      · generalize hY : stepM v st s X = Y at h1 h2 ⊢
        have hYr : runS v st s Y = runS v st s X := by rw [← hY]; exact runS_step hX
        have hYb : Y.2 < 1000000 := by unfold InvX at h2; omega
        refine mw_aload_n (i := 0) rfl rfl rfl ?_
        refine mw_iload_n (i := 3) rfl rfl rfl ?_
        refine mw_aload_n (i := 2) rfl rfl rfl ?_
        refine mw_callV_f (c_goesXA d n s Y.2 (updN w 5 (nI Y.2)) v st b nb Y.1 _ rfl hv rfl rfl hst rfl hok hst6 hs rfl hYb) rfl ok_X10_goes v_X10_153 rfl (by first | rfl | exact hO | exact hv | exact hb | exact hm | exact hst | exact hn) (by intro e; cases e) rfl (Nat.le_of_ble_eq_true rfl) rfl (Nat.le_of_ble_eq_true rfl) (by omega) (by omega) (by omega) ?_
        rw [← mov_puts]
        refine mw_istore rfl (Nat.le_of_ble_eq_true rfl) ?_
        refine mw_goto rfl ?_
        refine mw_locals (L2 := [(0, .ref 178), (1, .int x), (2, .ref 186), (3, .int (nI s)), (4, .int (nI (cntS v st s Y)))]) rfl ?_
        exact ih Y _ _ (by omega) h2 (by rw [hYr]; exact k)
  -- the strata
  have loopS : ∀ s, s ≤ 6 → ∀ (nb : Nat → Bool) (b : Nat → Nat), InvX (itN (runS v st) (baseM v x, 0) s) → MW M_X10_builds (d + 4) 0 0 n post 66 [(0, .ref 178), (1, .int x), (2, .ref 186), (3, .int (nI s))] [] (mov [(186, .inl (.int, 216, .inl (itN (runS v st) (baseM v x, 0) s).1)), (178, RO (updN w 5 (nI (itN (runS v st) (baseM v x, 0) s).2))), (185, .inl (.int, 3, .inl (vI b))), (188, .inl (.boolean, 216, .inl (bIf nb)))] h) n 0 := by
    refine loop_up 6 ?_ ?_
    · intro nb b _
      refine mw_iload_n (i := 3) rfl rfl rfl ?_
      refine mw_bipush (v := nI 6) rfl (by decide) ?_
      refine mw_n_ge rfl (by omega) (by omega) (fun hc => ?_) (fun hc => ?_)
      · exact mw_return rfl rfl rfl (Nat.le_refl _) (hp nb b)
      · omega
    · intro s hs ih nb b hX
      generalize hXe : itN (runS v st) (baseM v x, 0) s = X at hX ⊢
      have hXn : itN (runS v st) (baseM v x, 0) (s + 1) = runS v st s X := by rw [← hXe]; rfl
      rw [hXn] at ih
      have hXb : X.2 < 1000000 := by unfold InvX at hX; omega
      refine mw_iload_n (i := 3) rfl rfl rfl ?_
      refine mw_bipush (v := nI 6) rfl (by decide) ?_
      refine mw_n_ge rfl (by omega) (by omega) (fun hc => ?_) (fun hc => ?_)
      · omega
      · refine mw_aload_n (i := 0) rfl rfl rfl ?_
        refine mw_iload_n (i := 3) rfl rfl rfl ?_
        refine mw_aload_n (i := 2) rfl rfl rfl ?_
        refine mw_callV_f (c_goesXA d n s X.2 (updN w 5 (nI X.2)) v st b nb X.1 _ rfl hv rfl rfl hst rfl hok hst6 hs rfl hXb) rfl ok_X10_goes v_X10_153 rfl (by first | rfl | exact hO | exact hv | exact hb | exact hm | exact hst | exact hn) (by intro e; cases e) rfl (Nat.le_of_ble_eq_true rfl) rfl (Nat.le_of_ble_eq_true rfl) (by omega) (by omega) (by omega) ?_
        rw [← mov_puts]
        refine mw_istore rfl (Nat.le_of_ble_eq_true rfl) ?_
        refine mw_locals (L2 := [(0, .ref 178), (1, .int x), (2, .ref 186), (3, .int (nI s)), (4, .int (nI (cntS v st s X)))]) rfl ?_
        exact loopW s hs 216 X _ _ (absC_le _ _) hX (fun nb b => ih nb b (InvX_run hX))
  -- the base facts
  have loopF : ∀ k, k ≤ v 1 → MW M_X10_builds (d + 4) 0 0 n post 26 [(0, .ref 178), (1, .int x), (2, .ref 186), (3, .int (nI k))] [] (mov [(186, .inl (.int, 216, .inl (itN (fun k m => if delB x k then upd m (v (9 + 3 * k)) (nI 0) else m) (fun _ => -1) k))), (178, RO (updN w 5 (nI 0)))] h) n 0 := by
    refine loop_up (v 1) ?_ ?_
    · refine mw_iload_n (i := 3) rfl rfl rfl ?_
      refine mw_aload_n (i := 0) rfl rfl rfl ?_
      refine mw_getfield rfl f_X10_7 (by first | rfl | exact hO | exact hv | exact hb | exact hm | exact hst | exact hn) rfl ?_
      refine mw_iconst (v := nI 1) rfl (by decide) ?_
      refine mw_iald rfl (by first | rfl | exact hO | exact hv | exact hb | exact hm | exact hst | exact hn) (by omega) (by omega) ?_
      refine mw_n_ge rfl (by omega) (by omega) (fun hc => ?_) (fun hc => ?_)
      · refine mw_heap (h2 := mov [(186, .inl (.int, 216, .inl (baseM v x))), (178, RO (updN w 5 (nI 0))), (185, .inl (.int, 3, .inl (vI b))), (188, .inl (.boolean, 216, .inl (bIf nb)))] h) ?_ ?_
        · exact mov_app (l := [(186, .inl (.int, 216, .inl (baseM v x))), (178, RO (updN w 5 (nI 0)))]) (l2 := [(185, .inl (.int, 3, .inl (vI b))), (188, .inl (.boolean, 216, .inl (bIf nb)))]) (by simp [hb, hn])
        · refine mw_iconst (v := nI 0) rfl (by decide) ?_
          refine mw_istore_n (i := 3) rfl rfl (Nat.le_of_ble_eq_true rfl) ?_
          refine mw_locals rfl (loopS 0 (by omega) nb b ?_)
          show 0 + absC (baseM v x) 216 ≤ 216
          have := absC_le (baseM v x) 216
          omega
      · omega
    · intro k hk ih
      have hf := (hok.2.2.2.2.2.1 k hk).1
      generalize hP : itN (fun k m => if delB x k then upd m (v (9 + 3 * k)) (nI 0) else m) (fun _ => -1) k = P at ih ⊢
      have eP : itN (fun k m => if delB x k then upd m (v (9 + 3 * k)) (nI 0) else m) (fun _ => -1) (k + 1) = if delB x k then upd P (v (9 + 3 * k)) (nI 0) else P := by rw [← hP]; rfl
      rw [eP] at ih
      refine mw_iload_n (i := 3) rfl rfl rfl ?_
      refine mw_aload_n (i := 0) rfl rfl rfl ?_
      refine mw_getfield rfl f_X10_7 (by first | rfl | exact hO | exact hv | exact hb | exact hm | exact hst | exact hn) rfl ?_
      refine mw_iconst (v := nI 1) rfl (by decide) ?_
      refine mw_iald rfl (by first | rfl | exact hO | exact hv | exact hb | exact hm | exact hst | exact hn) (by omega) (by omega) ?_
      refine mw_n_ge rfl (by omega) (by omega) (fun hc => ?_) (fun hc => ?_)
      · omega
      · refine mw_iload_n (i := 1) rfl rfl rfl ?_
        refine mw_iload_n (i := 3) rfl rfl rfl ?_
        refine mw_ishr rfl ?_
        refine mw_iconst (v := nI 1) rfl (by decide) ?_
        refine mw_iand rfl ?_
        refine mw_if_ne rfl (fun hd => ?_) (fun hd => ?_)
        · rw [show delB x k = false by simp only [delB]; exact decide_eq_false hd] at ih
          first | refine mw_ninc rfl rfl (Nat.le_of_ble_eq_true rfl) ?_ | refine mw_iinc rfl rfl rfl (Nat.le_of_ble_eq_true rfl) ?_
          refine mw_goto rfl ?_
          exact mw_locals rfl ih
        · rw [show delB x k = true by simp only [delB]; exact decide_eq_true hd] at ih
          refine mw_aload_n (i := 2) rfl rfl rfl ?_
          refine mw_aload_n (i := 0) rfl rfl rfl ?_
          refine mw_getfield rfl f_X10_7 (by first | rfl | exact hO | exact hv | exact hb | exact hm | exact hst | exact hn) rfl ?_
          refine mw_bipush (v := nI 9) rfl (by decide) ?_
          refine mw_iconst (v := nI 3) rfl (by decide) ?_
          refine mw_iload_n (i := 3) rfl rfl rfl ?_
          first | refine mw_nmul rfl ?_ | refine mw_imul rfl ?_
          first | refine mw_nadd rfl ?_ | refine mw_iadd rfl ?_
          refine mw_iald rfl (by first | rfl | exact hO | exact hv | exact hb | exact hm | exact hst | exact hn) (by omega) (by omega) ?_
          refine mw_iconst (v := nI 0) rfl (by decide) ?_
          refine mw_iast_m rfl (by first | rfl | exact hO | exact hv | exact hb | exact hm | exact hst | exact hn) (by omega) (by omega) ?_
          first | rw [vI_upd] | rw [vI_updv] | skip
          first | refine mw_ninc rfl rfl (Nat.le_of_ble_eq_true rfl) ?_ | refine mw_iinc rfl rfl rfl (Nat.le_of_ble_eq_true rfl) ?_
          refine mw_goto rfl ?_
          exact mw_locals rfl ih
  -- all absent
  have loopA : ∀ k, k ≤ 216 → MW M_X10_builds (d + 4) 0 0 n post 7 [(0, .ref 178), (1, .int x), (2, .ref 186), (3, .int (nI k))] [] (mov [(186, .inl (.int, 216, .inl (fun j => if j < k ∨ 216 ≤ j then -1 else m j))), (178, RO (updN w 5 (nI 0)))] h) n 0 := by
    refine loop_up 216 ?_ ?_
    · refine mw_iload_n (i := 3) rfl rfl rfl ?_
      refine mw_sipush (v := nI 216) rfl (by decide) ?_
      refine mw_n_ge rfl (by omega) (by omega) (fun hc => ?_) (fun hc => ?_)
      · rw [show (fun j => if j < 216 ∨ 216 ≤ j then -1 else m j) = (fun _ => (-1 : Int32)) by funext j; rw [if_pos (by omega)]]
        refine mw_iconst (v := nI 0) rfl (by decide) ?_
        refine mw_istore_n (i := 3) rfl rfl (Nat.le_of_ble_eq_true rfl) ?_
        exact mw_locals rfl (loopF 0 (by omega))
      · omega
    · intro k hk ih
      have e : upd (fun j => if j < k ∨ 216 ≤ j then -1 else m j) k (-1) = (fun j => if j < k + 1 ∨ 216 ≤ j then (-1 : Int32) else m j) := by
        funext j
        simp only [upd]
        by_cases q : j = k
        · rw [if_pos q, if_pos (by omega)]
        · rw [if_neg q]
          have q3 : (j < k + 1 ∨ 216 ≤ j) ↔ (j < k ∨ 216 ≤ j) := by omega
          simp only [q3]
      refine mw_iload_n (i := 3) rfl rfl rfl ?_
      refine mw_sipush (v := nI 216) rfl (by decide) ?_
      refine mw_n_ge rfl (by omega) (by omega) (fun hc => ?_) (fun hc => ?_)
      · omega
      · refine mw_aload_n (i := 2) rfl rfl rfl ?_
        refine mw_iload_n (i := 3) rfl rfl rfl ?_
        refine mw_iconst (v := (-1)) rfl (by decide) ?_
        refine mw_iast_m rfl (by first | rfl | exact hO | exact hv | exact hb | exact hm | exact hst | exact hn) (by omega) (by omega) ?_
        first | rw [vI_upd] | rw [vI_updv] | skip
        rw [e]
        first | refine mw_ninc rfl rfl (Nat.le_of_ble_eq_true rfl) ?_ | refine mw_iinc rfl rfl rfl (Nat.le_of_ble_eq_true rfl) ?_
        refine mw_goto rfl ?_
        exact mw_locals rfl ih
  refine mw_tail (K := 186) (fun j => if j < 0 ∨ 216 ≤ j then -1 else m j) hm (fun j hj => by rw [if_neg (by omega)]) ?_
  rw [hset_1]
  refine mw_aload_n (i := 0) rfl rfl rfl ?_
  refine mw_iconst (v := nI 0) rfl (by decide) ?_
  refine mw_putfield_m rfl f_X10_150 (by first | rfl | exact hO | exact hv | exact hb | exact hm | exact hst | exact hn) (Nat.le_of_ble_eq_true rfl) (fun _ => rfl) (fun _ => rfl) ?_
  refine mw_iconst (v := nI 0) rfl (by decide) ?_
  refine mw_istore_n (i := 3) rfl rfl (Nat.le_of_ble_eq_true rfl) ?_
  exact mw_locals rfl (loopA 0 (by omega))
theorem c_goesXB (d n : Nat) (s rm : Nat) (w : Nat → Int32) (v st b : Nat → Nat) (nb : Nat → Bool) (m : Nat → Int32) (h : Nat → MC) (hO : h 178 = RO w) (hv : h 179 = .inl (.int, 189, .inl (vI v))) (hb : h 185 = .inl (.int, 3, .inl (vI b))) (hm : h 187 = .inl (.int, 216, .inl m)) (hst : h 184 = .inl (.int, 6, .inl (vI st))) (hn : h 188 = .inl (.boolean, 216, .inl (bIf nb))) (hok : OkN v) (hst6 : ∀ p, p < 6 → st p < 6) (hs : s < 6) (hrm : w 5 = nI rm) (hrm2 : rm < 1000000) :
    Fn M_X10_goes (d + 3) 0 0 [.ref 178, .int (nI s), .ref 187] h n (some (.int (nI (cntS v st s (m, rm))))) (mov [(185, .inl (.int, 3, .inl (vI (goA v st m s nb b).2))), (187, .inl (.int, 216, .inl (stepM v st s (m, rm)).1)), (188, .inl (.boolean, 216, .inl (bIf (goA v st m s nb b).1))), (178, RO (updN w 5 (nI (stepM v st s (m, rm)).2)))] h) := by
  have h1 := c_goesB d n s rm w v st b nb m h hO hv hb hm hst hn hok hst6 hs hrm hrm2
  have e1 : cntB (goA v st m s nb b).1 216 = cntS v st s (m, rm) := cntB_cg (goA_e hok s nb b)
  rw [e1, goM_cg (goA_e hok s nb b)] at h1
  exact h1
theorem c_buildsB (d n : Nat) (x : Int32) (w : Nat → Int32) (v st b : Nat → Nat) (nb : Nat → Bool) (m : Nat → Int32) (h : Nat → MC) (hO : h 178 = RO w) (hv : h 179 = .inl (.int, 189, .inl (vI v))) (hb : h 185 = .inl (.int, 3, .inl (vI b))) (hm : h 187 = .inl (.int, 216, .inl m)) (hst : h 184 = .inl (.int, 6, .inl (vI st))) (hn : h 188 = .inl (.boolean, 216, .inl (bIf nb))) (hok : OkN v) (hst6 : ∀ p, p < 6 → st p < 6) :
    Sp M_X10_builds (d + 4) 0 0 [.ref 178, .int x, .ref 187] h n (fun r h1 => r = none ∧ ∃ (nb' : Nat → Bool) (b' : Nat → Nat), h1 = mov [(187, .inl (.int, 216, .inl (mdlV v st x).1)), (178, RO (updN w 5 (nI (mdlV v st x).2))), (185, .inl (.int, 3, .inl (vI b'))), (188, .inl (.boolean, 216, .inl (bIf nb')))] h) := by
  show MW _ _ _ _ _ _ _ _ _ _ _ _
  generalize hpost : (fun (r : Option Value) (h1 : Nat → MC) => r = none ∧ ∃ (nb' : Nat → Bool) (b' : Nat → Nat), h1 = mov [(187, .inl (.int, 216, .inl (mdlV v st x).1)), (178, RO (updN w 5 (nI (mdlV v st x).2))), (185, .inl (.int, 3, .inl (vI b'))), (188, .inl (.boolean, 216, .inl (bIf nb')))] h) = post
  have hp : ∀ (nb' : Nat → Bool) (b' : Nat → Nat), post none (mov [(187, .inl (.int, 216, .inl (mdlV v st x).1)), (178, RO (updN w 5 (nI (mdlV v st x).2))), (185, .inl (.int, 3, .inl (vI b'))), (188, .inl (.boolean, 216, .inl (bIf nb')))] h) := by
    intro nb' b'
    rw [← hpost]
    exact ⟨rfl, nb', b', rfl⟩
  clear hpost
  have hf12 := hok.2.2.1
  -- one stratum's loop
  have loopW : ∀ s, s < 6 → ∀ a (X : (Nat → Int32) × Nat) (nb : Nat → Bool) (b : Nat → Nat), absC X.1 216 ≤ a → InvX X → (∀ (nb : Nat → Bool) (b : Nat → Nat), MW M_X10_builds (d + 4) 0 0 n post 66 [(0, .ref 178), (1, .int x), (2, .ref 187), (3, .int (nI (s + 1)))] [] (mov [(187, .inl (.int, 216, .inl (runS v st s X).1)), (178, RO (updN w 5 (nI (runS v st s X).2))), (185, .inl (.int, 3, .inl (vI b))), (188, .inl (.boolean, 216, .inl (bIf nb)))] h) n 0) → MW M_X10_builds (d + 4) 0 0 n post 80 [(0, .ref 178), (1, .int x), (2, .ref 187), (3, .int (nI s)), (4, .int (nI (cntS v st s X)))] [] (mov [(187, .inl (.int, 216, .inl (stepM v st s X).1)), (178, RO (updN w 5 (nI (stepM v st s X).2))), (185, .inl (.int, 3, .inl (vI b))), (188, .inl (.boolean, 216, .inl (bIf nb)))] h) n 0 := by
    intro s hs a
    induction a with
    | zero =>
      intro X nb b ha hX k
      have h1 := absC_step (v := v) (st := st) (s := s) (X := X) (by unfold InvX at hX; omega)
      have h0 : cntS v st s X = 0 := by omega
      rw [stepM_0 h0]
      have hr : runS v st s X = X := runS_done (i := 0) (by omega) h0
      rw [hr] at k
      refine mw_iload rfl rfl ?_
      refine mw_z_le rfl (by omega) (fun hz => ?_) (fun hz => ?_)
      · first | refine mw_ninc rfl rfl (Nat.le_of_ble_eq_true rfl) ?_ | refine mw_iinc rfl rfl rfl (Nat.le_of_ble_eq_true rfl) ?_
        refine mw_goto rfl ?_
        exact mw_locals rfl (k nb b)
      · omega
    | succ a ih =>
      intro X nb b ha hX k
      have h1 := absC_step (v := v) (st := st) (s := s) (X := X) (by unfold InvX at hX; omega)
      have h2 := InvX_step (v := v) (st := st) (s := s) hX
      have h216 : cntS v st s X ≤ 216 := cntB_le _ _
      refine mw_iload rfl rfl ?_
      refine mw_z_le rfl (by omega) (fun hz => ?_) (fun hz => ?_)
      · rw [stepM_0 hz]
        have hr : runS v st s X = X := runS_done (i := 0) (by omega) hz
        rw [hr] at k
        first | refine mw_ninc rfl rfl (Nat.le_of_ble_eq_true rfl) ?_ | refine mw_iinc rfl rfl rfl (Nat.le_of_ble_eq_true rfl) ?_
        refine mw_goto rfl ?_
        exact mw_locals rfl (k nb b)
      · generalize hY : stepM v st s X = Y at h1 h2 ⊢
        have hYr : runS v st s Y = runS v st s X := by rw [← hY]; exact runS_step hX
        have hYb : Y.2 < 1000000 := by unfold InvX at h2; omega
        refine mw_aload_n (i := 0) rfl rfl rfl ?_
        refine mw_iload_n (i := 3) rfl rfl rfl ?_
        refine mw_aload_n (i := 2) rfl rfl rfl ?_
        refine mw_callV_f (c_goesXB d n s Y.2 (updN w 5 (nI Y.2)) v st b nb Y.1 _ rfl hv rfl rfl hst rfl hok hst6 hs rfl hYb) rfl ok_X10_goes v_X10_153 rfl (by first | rfl | exact hO | exact hv | exact hb | exact hm | exact hst | exact hn) (by intro e; cases e) rfl (Nat.le_of_ble_eq_true rfl) rfl (Nat.le_of_ble_eq_true rfl) (by omega) (by omega) (by omega) ?_
        rw [← mov_puts]
        refine mw_istore rfl (Nat.le_of_ble_eq_true rfl) ?_
        refine mw_goto rfl ?_
        refine mw_locals (L2 := [(0, .ref 178), (1, .int x), (2, .ref 187), (3, .int (nI s)), (4, .int (nI (cntS v st s Y)))]) rfl ?_
        exact ih Y _ _ (by omega) h2 (by rw [hYr]; exact k)
  -- the strata
  have loopS : ∀ s, s ≤ 6 → ∀ (nb : Nat → Bool) (b : Nat → Nat), InvX (itN (runS v st) (baseM v x, 0) s) → MW M_X10_builds (d + 4) 0 0 n post 66 [(0, .ref 178), (1, .int x), (2, .ref 187), (3, .int (nI s))] [] (mov [(187, .inl (.int, 216, .inl (itN (runS v st) (baseM v x, 0) s).1)), (178, RO (updN w 5 (nI (itN (runS v st) (baseM v x, 0) s).2))), (185, .inl (.int, 3, .inl (vI b))), (188, .inl (.boolean, 216, .inl (bIf nb)))] h) n 0 := by
    refine loop_up 6 ?_ ?_
    · intro nb b _
      refine mw_iload_n (i := 3) rfl rfl rfl ?_
      refine mw_bipush (v := nI 6) rfl (by decide) ?_
      refine mw_n_ge rfl (by omega) (by omega) (fun hc => ?_) (fun hc => ?_)
      · exact mw_return rfl rfl rfl (Nat.le_refl _) (hp nb b)
      · omega
    · intro s hs ih nb b hX
      generalize hXe : itN (runS v st) (baseM v x, 0) s = X at hX ⊢
      have hXn : itN (runS v st) (baseM v x, 0) (s + 1) = runS v st s X := by rw [← hXe]; rfl
      rw [hXn] at ih
      have hXb : X.2 < 1000000 := by unfold InvX at hX; omega
      refine mw_iload_n (i := 3) rfl rfl rfl ?_
      refine mw_bipush (v := nI 6) rfl (by decide) ?_
      refine mw_n_ge rfl (by omega) (by omega) (fun hc => ?_) (fun hc => ?_)
      · omega
      · refine mw_aload_n (i := 0) rfl rfl rfl ?_
        refine mw_iload_n (i := 3) rfl rfl rfl ?_
        refine mw_aload_n (i := 2) rfl rfl rfl ?_
        refine mw_callV_f (c_goesXB d n s X.2 (updN w 5 (nI X.2)) v st b nb X.1 _ rfl hv rfl rfl hst rfl hok hst6 hs rfl hXb) rfl ok_X10_goes v_X10_153 rfl (by first | rfl | exact hO | exact hv | exact hb | exact hm | exact hst | exact hn) (by intro e; cases e) rfl (Nat.le_of_ble_eq_true rfl) rfl (Nat.le_of_ble_eq_true rfl) (by omega) (by omega) (by omega) ?_
        rw [← mov_puts]
        refine mw_istore rfl (Nat.le_of_ble_eq_true rfl) ?_
        refine mw_locals (L2 := [(0, .ref 178), (1, .int x), (2, .ref 187), (3, .int (nI s)), (4, .int (nI (cntS v st s X)))]) rfl ?_
        exact loopW s hs 216 X _ _ (absC_le _ _) hX (fun nb b => ih nb b (InvX_run hX))
  -- the base facts
  have loopF : ∀ k, k ≤ v 1 → MW M_X10_builds (d + 4) 0 0 n post 26 [(0, .ref 178), (1, .int x), (2, .ref 187), (3, .int (nI k))] [] (mov [(187, .inl (.int, 216, .inl (itN (fun k m => if delB x k then upd m (v (9 + 3 * k)) (nI 0) else m) (fun _ => -1) k))), (178, RO (updN w 5 (nI 0)))] h) n 0 := by
    refine loop_up (v 1) ?_ ?_
    · refine mw_iload_n (i := 3) rfl rfl rfl ?_
      refine mw_aload_n (i := 0) rfl rfl rfl ?_
      refine mw_getfield rfl f_X10_7 (by first | rfl | exact hO | exact hv | exact hb | exact hm | exact hst | exact hn) rfl ?_
      refine mw_iconst (v := nI 1) rfl (by decide) ?_
      refine mw_iald rfl (by first | rfl | exact hO | exact hv | exact hb | exact hm | exact hst | exact hn) (by omega) (by omega) ?_
      refine mw_n_ge rfl (by omega) (by omega) (fun hc => ?_) (fun hc => ?_)
      · refine mw_heap (h2 := mov [(187, .inl (.int, 216, .inl (baseM v x))), (178, RO (updN w 5 (nI 0))), (185, .inl (.int, 3, .inl (vI b))), (188, .inl (.boolean, 216, .inl (bIf nb)))] h) ?_ ?_
        · exact mov_app (l := [(187, .inl (.int, 216, .inl (baseM v x))), (178, RO (updN w 5 (nI 0)))]) (l2 := [(185, .inl (.int, 3, .inl (vI b))), (188, .inl (.boolean, 216, .inl (bIf nb)))]) (by simp [hb, hn])
        · refine mw_iconst (v := nI 0) rfl (by decide) ?_
          refine mw_istore_n (i := 3) rfl rfl (Nat.le_of_ble_eq_true rfl) ?_
          refine mw_locals rfl (loopS 0 (by omega) nb b ?_)
          show 0 + absC (baseM v x) 216 ≤ 216
          have := absC_le (baseM v x) 216
          omega
      · omega
    · intro k hk ih
      have hf := (hok.2.2.2.2.2.1 k hk).1
      generalize hP : itN (fun k m => if delB x k then upd m (v (9 + 3 * k)) (nI 0) else m) (fun _ => -1) k = P at ih ⊢
      have eP : itN (fun k m => if delB x k then upd m (v (9 + 3 * k)) (nI 0) else m) (fun _ => -1) (k + 1) = if delB x k then upd P (v (9 + 3 * k)) (nI 0) else P := by rw [← hP]; rfl
      rw [eP] at ih
      refine mw_iload_n (i := 3) rfl rfl rfl ?_
      refine mw_aload_n (i := 0) rfl rfl rfl ?_
      refine mw_getfield rfl f_X10_7 (by first | rfl | exact hO | exact hv | exact hb | exact hm | exact hst | exact hn) rfl ?_
      refine mw_iconst (v := nI 1) rfl (by decide) ?_
      refine mw_iald rfl (by first | rfl | exact hO | exact hv | exact hb | exact hm | exact hst | exact hn) (by omega) (by omega) ?_
      refine mw_n_ge rfl (by omega) (by omega) (fun hc => ?_) (fun hc => ?_)
      · omega
      · refine mw_iload_n (i := 1) rfl rfl rfl ?_
        refine mw_iload_n (i := 3) rfl rfl rfl ?_
        refine mw_ishr rfl ?_
        refine mw_iconst (v := nI 1) rfl (by decide) ?_
        refine mw_iand rfl ?_
        refine mw_if_ne rfl (fun hd => ?_) (fun hd => ?_)
        · rw [show delB x k = false by simp only [delB]; exact decide_eq_false hd] at ih
          first | refine mw_ninc rfl rfl (Nat.le_of_ble_eq_true rfl) ?_ | refine mw_iinc rfl rfl rfl (Nat.le_of_ble_eq_true rfl) ?_
          refine mw_goto rfl ?_
          exact mw_locals rfl ih
        · rw [show delB x k = true by simp only [delB]; exact decide_eq_true hd] at ih
          refine mw_aload_n (i := 2) rfl rfl rfl ?_
          refine mw_aload_n (i := 0) rfl rfl rfl ?_
          refine mw_getfield rfl f_X10_7 (by first | rfl | exact hO | exact hv | exact hb | exact hm | exact hst | exact hn) rfl ?_
          refine mw_bipush (v := nI 9) rfl (by decide) ?_
          refine mw_iconst (v := nI 3) rfl (by decide) ?_
          refine mw_iload_n (i := 3) rfl rfl rfl ?_
          first | refine mw_nmul rfl ?_ | refine mw_imul rfl ?_
          first | refine mw_nadd rfl ?_ | refine mw_iadd rfl ?_
          refine mw_iald rfl (by first | rfl | exact hO | exact hv | exact hb | exact hm | exact hst | exact hn) (by omega) (by omega) ?_
          refine mw_iconst (v := nI 0) rfl (by decide) ?_
          refine mw_iast_m rfl (by first | rfl | exact hO | exact hv | exact hb | exact hm | exact hst | exact hn) (by omega) (by omega) ?_
          first | rw [vI_upd] | rw [vI_updv] | skip
          first | refine mw_ninc rfl rfl (Nat.le_of_ble_eq_true rfl) ?_ | refine mw_iinc rfl rfl rfl (Nat.le_of_ble_eq_true rfl) ?_
          refine mw_goto rfl ?_
          exact mw_locals rfl ih
  -- all absent
  have loopA : ∀ k, k ≤ 216 → MW M_X10_builds (d + 4) 0 0 n post 7 [(0, .ref 178), (1, .int x), (2, .ref 187), (3, .int (nI k))] [] (mov [(187, .inl (.int, 216, .inl (fun j => if j < k ∨ 216 ≤ j then -1 else m j))), (178, RO (updN w 5 (nI 0)))] h) n 0 := by
    refine loop_up 216 ?_ ?_
    · refine mw_iload_n (i := 3) rfl rfl rfl ?_
      refine mw_sipush (v := nI 216) rfl (by decide) ?_
      refine mw_n_ge rfl (by omega) (by omega) (fun hc => ?_) (fun hc => ?_)
      · rw [show (fun j => if j < 216 ∨ 216 ≤ j then -1 else m j) = (fun _ => (-1 : Int32)) by funext j; rw [if_pos (by omega)]]
        refine mw_iconst (v := nI 0) rfl (by decide) ?_
        refine mw_istore_n (i := 3) rfl rfl (Nat.le_of_ble_eq_true rfl) ?_
        exact mw_locals rfl (loopF 0 (by omega))
      · omega
    · intro k hk ih
      have e : upd (fun j => if j < k ∨ 216 ≤ j then -1 else m j) k (-1) = (fun j => if j < k + 1 ∨ 216 ≤ j then (-1 : Int32) else m j) := by
        funext j
        simp only [upd]
        by_cases q : j = k
        · rw [if_pos q, if_pos (by omega)]
        · rw [if_neg q]
          have q3 : (j < k + 1 ∨ 216 ≤ j) ↔ (j < k ∨ 216 ≤ j) := by omega
          simp only [q3]
      refine mw_iload_n (i := 3) rfl rfl rfl ?_
      refine mw_sipush (v := nI 216) rfl (by decide) ?_
      refine mw_n_ge rfl (by omega) (by omega) (fun hc => ?_) (fun hc => ?_)
      · omega
      · refine mw_aload_n (i := 2) rfl rfl rfl ?_
        refine mw_iload_n (i := 3) rfl rfl rfl ?_
        refine mw_iconst (v := (-1)) rfl (by decide) ?_
        refine mw_iast_m rfl (by first | rfl | exact hO | exact hv | exact hb | exact hm | exact hst | exact hn) (by omega) (by omega) ?_
        first | rw [vI_upd] | rw [vI_updv] | skip
        rw [e]
        first | refine mw_ninc rfl rfl (Nat.le_of_ble_eq_true rfl) ?_ | refine mw_iinc rfl rfl rfl (Nat.le_of_ble_eq_true rfl) ?_
        refine mw_goto rfl ?_
        exact mw_locals rfl ih
  refine mw_tail (K := 187) (fun j => if j < 0 ∨ 216 ≤ j then -1 else m j) hm (fun j hj => by rw [if_neg (by omega)]) ?_
  rw [hset_1]
  refine mw_aload_n (i := 0) rfl rfl rfl ?_
  refine mw_iconst (v := nI 0) rfl (by decide) ?_
  refine mw_putfield_m rfl f_X10_150 (by first | rfl | exact hO | exact hv | exact hb | exact hm | exact hst | exact hn) (Nat.le_of_ble_eq_true rfl) (fun _ => rfl) (fun _ => rfl) ?_
  refine mw_iconst (v := nI 0) rfl (by decide) ?_
  refine mw_istore_n (i := 3) rfl rfl (Nat.le_of_ble_eq_true rfl) ?_
  exact mw_locals rfl (loopA 0 (by omega))
end
section
/-- strata: (strata, has a pass changed anything, is all below 6) -/
abbrev StS : Type := (Nat → Nat) × Bool × Bool
def strA (v : Nat → Nat) (r a : Nat) (S : StS) : StS :=
  if S.1 (v (45 + 18 * r + 2 + 4 * 0)) < S.1 (v (45 + 18 * r + 2 + 4 * (a + 1))) + v (45 + 18 * r + 2 + 4 * (a + 1) + 3) then
    (updN S.1 (v (45 + 18 * r + 2 + 4 * 0)) (S.1 (v (45 + 18 * r + 2 + 4 * (a + 1))) + v (45 + 18 * r + 2 + 4 * (a + 1) + 3)), true, S.2.2 && decide (S.1 (v (45 + 18 * r + 2 + 4 * (a + 1))) + v (45 + 18 * r + 2 + 4 * (a + 1) + 3) < 6))
  else S
def strR (v : Nat → Nat) (r : Nat) (S : StS) : StS := itN (strA v r) S (v (45 + 18 * r + 1))
def strP (v : Nat → Nat) (S : StS) : StS := itN (strR v) (S.1, false, S.2.2) (v 2)
def strW (v : Nat → Nat) (S : StS) : StS := if S.2.1 && S.2.2 then strP v S else S
def strF (v : Nat → Nat) : StS := itN (fun _ => strW v) (fun _ => 0, true, true) 40
def sumN (f : Nat → Nat) : Nat → Nat
  | 0 => 0
  | k + 1 => sumN f k + f k
theorem sumN_upd (f : Nat → Nat) (k x : Nat) : ∀ n, k < n → sumN (updN f k x) n + f k = sumN f n + x
  | 0, h => absurd h (Nat.not_lt_zero _)
  | n + 1, h => by
    simp only [sumN]
    by_cases e : k = n
    · subst e
      have h1 : sumN (updN f k x) k = sumN f k := by
        have : ∀ m, m ≤ k → sumN (updN f k x) m = sumN f m := by
          intro m
          induction m with
          | zero => intro _; rfl
          | succ m ih =>
            intro hm
            simp only [sumN]
            rw [ih (by omega), updN_ne _ _ (by omega)]
        exact this k (Nat.le_refl _)
      rw [h1, updN_same]
      omega
    · have := sumN_upd f k x n (by omega)
      rw [updN_ne _ _ (show n ≠ k by omega)]
      omega
theorem sumN_lt {f : Nat → Nat} {c : Nat} : ∀ n, (∀ k, k < n → f k ≤ c) → sumN f n ≤ n * c
  | 0, _ => Nat.zero_le _
  | n + 1, h => by
    have h1 := sumN_lt n (fun k hk => h k (by omega))
    have h2 := h n (by omega)
    simp only [sumN]
    rw [Nat.succ_mul]
    omega
/-- behind a part of a pass that began with s0 in all and values up to c -/
def StI (s0 : Nat) (b : Bool) (S : StS) : Prop := s0 ≤ sumN S.1 6 ∧ (S.2.1 = true → s0 + 1 ≤ sumN S.1 6) ∧ (S.2.2 = true → ∀ p, p < 6 → S.1 p < 6) ∧ (S.2.2 = true → b = true)
theorem strA_I {v : Nat → Nat} (hok : OkN v) {r a s0 : Nat} {b : Bool} (hr : r < v 2) (ha : a < v (45 + 18 * r + 1)) {S : StS} (h : StI s0 b S) : StI s0 b (strA v r a S) := by
  obtain ⟨-, -, -, -, hat⟩ := hok.2.2.2.2.2.2 r hr
  have h0 := (hat 0 (by omega)).1
  unfold strA
  split
  · rename_i hlt
    obtain ⟨h1, h2, h3, h4⟩ := h
    have h5 := sumN_upd S.1 (v (45 + 18 * r + 2 + 4 * 0)) (S.1 (v (45 + 18 * r + 2 + 4 * (a + 1))) + v (45 + 18 * r + 2 + 4 * (a + 1) + 3)) 6 h0
    refine ⟨by show s0 ≤ sumN (updN _ _ _) 6; omega, fun _ => by show s0 + 1 ≤ sumN (updN _ _ _) 6; omega, fun hb p hp => ?_, fun hb => ?_⟩
    · have hb : (S.2.2 && decide (S.1 (v (45 + 18 * r + 2 + 4 * (a + 1))) + v (45 + 18 * r + 2 + 4 * (a + 1) + 3) < 6)) = true := hb
      rw [Bool.and_eq_true] at hb
      show updN _ _ _ p < 6
      unfold updN
      split
      · exact of_decide_eq_true hb.2
      · exact h3 hb.1 p hp
    · have hb : (S.2.2 && decide (S.1 (v (45 + 18 * r + 2 + 4 * (a + 1))) + v (45 + 18 * r + 2 + 4 * (a + 1) + 3) < 6)) = true := hb
      rw [Bool.and_eq_true] at hb
      exact h4 hb.1
  · exact h
theorem strR_I {v : Nat → Nat} (hok : OkN v) {r s0 : Nat} {b : Bool} (hr : r < v 2) {S : StS} (h : StI s0 b S) : StI s0 b (strR v r S) :=
  itN_inv (P := StI s0 b) (N := v (45 + 18 * r + 1)) (fun a ha S hS => strA_I hok hr ha hS) _ (Nat.le_refl _) h
theorem strP_I {v : Nat → Nat} (hok : OkN v) {S : StS} (h : ∀ p, p < 6 → S.1 p < 6) (hi : S.2.2 = true) : StI (sumN S.1 6) true (strP v S) :=
  itN_inv (P := StI (sumN S.1 6) true) (N := v 2) (fun r hr S hS => strR_I hok hr hS) _ (Nat.le_refl _) ⟨Nat.le_refl _, fun q => absurd (show false = true from q) (by decide), fun _ => h, fun _ => rfl⟩
/-- what holds at the while's head -/
def StJ (k : Nat) (S : StS) : Prop := (S.2.2 = true → ∀ p, p < 6 → S.1 p < 6) ∧ ((S.2.1 && S.2.2) = true → k ≤ sumN S.1 6)
theorem strW_J {v : Nat → Nat} (hok : OkN v) {k : Nat} {S : StS} (h : StJ k S) : StJ (k + 1) (strW v S) := by
  unfold strW
  split
  · rename_i hc
    have hc2 := hc
    rw [Bool.and_eq_true] at hc
    have h1 := strP_I hok (h.1 hc.2) hc.2
    have h2 := h.2 hc2
    refine ⟨h1.2.2.1, fun hd => ?_⟩
    rw [Bool.and_eq_true] at hd
    have := h1.2.1 hd.1
    omega
  · rename_i hc
    exact ⟨h.1, fun hd => absurd hd hc⟩
theorem strI_J {v : Nat → Nat} (hok : OkN v) : ∀ k, StJ k (itN (fun _ => strW v) (fun _ => 0, true, true) k)
  | 0 => ⟨fun _ p _ => by show 0 < 6; omega, fun _ => Nat.zero_le _⟩
  | k + 1 => strW_J hok (strI_J hok k)
theorem strF_end {v : Nat → Nat} (hok : OkN v) {k : Nat} (hk : 31 ≤ k) : ((itN (fun _ => strW v) (fun _ => 0, true, true) k).2.1 && (itN (fun _ => strW v) (fun _ => 0, true, true) k).2.2) = false := by
  have h := strI_J hok k
  cases hc : ((itN (fun _ => strW v) (fun _ => 0, true, true) k).2.1 && (itN (fun _ => strW v) (fun _ => 0, true, true) k).2.2)
  · rfl
  · have h1 := h.2 hc
    rw [Bool.and_eq_true] at hc
    have h2 := sumN_lt (c := 5) 6 (fun p hp => Nat.le_of_lt_succ (h.1 hc.2 p hp))
    omega
theorem strF_stay {v : Nat → Nat} {k : Nat} (hk : k ≤ 40) (h : ((itN (fun _ => strW v) (fun _ => 0, true, true) k).2.1 && (itN (fun _ => strW v) (fun _ => 0, true, true) k).2.2) = false) : strF v = itN (fun _ => strW v) (fun _ => 0, true, true) k :=
  itN_stay hk (by
    generalize hS : itN (fun _ => strW v) (fun _ => 0, true, true) k = S at h ⊢
    show strW v S = S
    unfold strW
    rw [h]
    rfl)
/-- no value passes 6 + steps done -/
def StB (c : Nat) (S : StS) : Prop := ∀ p, p < 6 → S.1 p ≤ c
theorem strA_B {v : Nat → Nat} (hok : OkN v) {r a c : Nat} (hr : r < v 2) (ha : a < v (45 + 18 * r + 1)) {S : StS} (h : StB c S) : StB (c + 1) (strA v r a S) := by
  obtain ⟨-, -, -, -, hat⟩ := hok.2.2.2.2.2.2 r hr
  obtain ⟨h1, -, -, h4⟩ := hat (a + 1) (by omega)
  unfold strA
  split
  · intro p hp
    show updN _ _ _ p ≤ c + 1
    unfold updN
    split
    · have := h _ h1
      omega
    · have := h p hp
      omega
  · intro p hp
    have := h p hp
    omega
theorem c_findStrata (d n : Nat) (w : Nat → Int32) (v st0 : Nat → Nat) (h : Nat → MC) (hO : h 178 = RO w) (hv : h 179 = .inl (.int, 189, .inl (vI v))) (hs0 : h 184 = .inl (.int, 6, .inl (vI st0))) (hok : OkN v) : Fn M_X10_findStrata (d + 1) 0 0 [.ref 178] h n (some (.int (bI (strF v).2.2))) (mov [(184, .inl (.int, 6, .inl (vI (strF v).1)))] h) := by
  refine Fn.of fun post hp => ?_
  have hr8 := hok.2.2.2.1
  have loopA : ∀ r, r < v 2 → ∀ (S0 : StS) (c0 : Nat), StB c0 S0 → c0 < 1000 → MW M_X10_findStrata (d + 1) 0 0 n post 37 [(0, .ref 178), (1, .int (bI (strR v r S0).2.1)), (2, .int (bI (strR v r S0).2.2)), (3, .int (nI (r + 1)))] [] (mov [(184, .inl (.int, 6, .inl (vI (strR v r S0).1)))] h) n 0 → ∀ a, a ≤ v (45 + 18 * r + 1) → StB (c0 + a) (itN (strA v r) S0 a) → MW M_X10_findStrata (d + 1) 0 0 n post 62 [(0, .ref 178), (1, .int (bI (itN (strA v r) S0 a).2.1)), (2, .int (bI (itN (strA v r) S0 a).2.2)), (3, .int (nI r)), (4, .int (nI (v (45 + 18 * r + 2 + 4 * 0)))), (5, .int (nI (a + 1)))] [] (mov [(184, .inl (.int, 6, .inl (vI (itN (strA v r) S0 a).1)))] h) n 0 := by
    intro r hr S0 c0 hB0 hc0 k
    obtain ⟨-, -, hl1, hl3, hat⟩ := hok.2.2.2.2.2.2 r hr
    have h0 := (hat 0 (by omega)).1
    refine loop_up (P := fun a => StB (c0 + a) (itN (strA v r) S0 a) → MW M_X10_findStrata (d + 1) 0 0 n post 62 [(0, .ref 178), (1, .int (bI (itN (strA v r) S0 a).2.1)), (2, .int (bI (itN (strA v r) S0 a).2.2)), (3, .int (nI r)), (4, .int (nI (v (45 + 18 * r + 2 + 4 * 0)))), (5, .int (nI (a + 1)))] [] (mov [(184, .inl (.int, 6, .inl (vI (itN (strA v r) S0 a).1)))] h) n 0) (v (45 + 18 * r + 1)) ?_ ?_
    · intro _
      refine mw_iload rfl rfl ?_
      refine mw_aload_n (i := 0) rfl rfl rfl ?_
      refine mw_getfield rfl f_X10_7 (by first | rfl | exact hO | exact hv) rfl ?_
      refine mw_bipush (v := nI 45) rfl (by decide) ?_
      refine mw_bipush (v := nI 18) rfl (by decide) ?_
      refine mw_iload_n (i := 3) rfl rfl rfl ?_
      first | refine mw_nmul rfl ?_ | refine mw_imul rfl ?_
      first | refine mw_nadd rfl ?_ | refine mw_iadd rfl ?_
      refine mw_iconst (v := nI 1) rfl (by decide) ?_
      first | refine mw_nadd rfl ?_ | refine mw_iadd rfl ?_
      refine mw_iald rfl (by first | rfl | exact hO | exact hv) (by omega) (by omega) ?_
      refine mw_n_gt rfl (by omega) (by omega) (fun hc => ?_) (fun hc => ?_)
      · first | refine mw_ninc rfl rfl (Nat.le_of_ble_eq_true rfl) ?_ | refine mw_iinc rfl rfl rfl (Nat.le_of_ble_eq_true rfl) ?_
        refine mw_goto rfl ?_
        exact mw_locals rfl k
      · omega
    · intro a ha ih hB
      obtain ⟨h1, -, -, h4⟩ := hat (a + 1) (by omega)
      have hB2 := strA_B hok hr ha hB
      generalize hS : itN (strA v r) S0 a = S at hB hB2 ⊢
      have eS : itN (strA v r) S0 (a + 1) = strA v r a S := by rw [← hS]; rfl
      rw [eS] at ih
      have ih := ih (by rw [← Nat.add_assoc]; exact hB2)
      have b1 := hB _ h1
      have b0 := hB _ h0
      refine mw_iload rfl rfl ?_
      refine mw_aload_n (i := 0) rfl rfl rfl ?_
      refine mw_getfield rfl f_X10_7 (by first | rfl | exact hO | exact hv) rfl ?_
      refine mw_bipush (v := nI 45) rfl (by decide) ?_
      refine mw_bipush (v := nI 18) rfl (by decide) ?_
      refine mw_iload_n (i := 3) rfl rfl rfl ?_
      first | refine mw_nmul rfl ?_ | refine mw_imul rfl ?_
      first | refine mw_nadd rfl ?_ | refine mw_iadd rfl ?_
      refine mw_iconst (v := nI 1) rfl (by decide) ?_
      first | refine mw_nadd rfl ?_ | refine mw_iadd rfl ?_
      refine mw_iald rfl (by first | rfl | exact hO | exact hv) (by omega) (by omega) ?_
      refine mw_n_gt rfl (by omega) (by omega) (fun hc => ?_) (fun hc => ?_)
      · omega
      · refine mw_aload_n (i := 0) rfl rfl rfl ?_
        refine mw_getfield rfl f_X10_26 (by first | rfl | exact hO | exact hv) rfl ?_
        refine mw_aload_n (i := 0) rfl rfl rfl ?_
        refine mw_getfield rfl f_X10_7 (by first | rfl | exact hO | exact hv) rfl ?_
        refine mw_iload_n (i := 3) rfl rfl rfl ?_
        refine mw_iload rfl rfl ?_
        refine mw_callS_f (c_atomAt d n r (a + 1) _) rfl ok_X10_atomAt v_X10_88 rfl (Nat.le_of_ble_eq_true rfl) rfl (Nat.le_of_ble_eq_true rfl) (by omega) (by omega) (by omega) ?_
        refine mw_iald rfl (by first | rfl | exact hO | exact hv) (by omega) (by omega) ?_
        refine mw_iald rfl (by first | rfl | exact hO | exact hv) (by omega) (by omega) ?_
        refine mw_aload_n (i := 0) rfl rfl rfl ?_
        refine mw_getfield rfl f_X10_7 (by first | rfl | exact hO | exact hv) rfl ?_
        refine mw_iload_n (i := 3) rfl rfl rfl ?_
        refine mw_iload rfl rfl ?_
        refine mw_callS_f (c_atomAt d n r (a + 1) _) rfl ok_X10_atomAt v_X10_88 rfl (Nat.le_of_ble_eq_true rfl) rfl (Nat.le_of_ble_eq_true rfl) (by omega) (by omega) (by omega) ?_
        refine mw_iconst (v := nI 3) rfl (by decide) ?_
        first | refine mw_nadd rfl ?_ | refine mw_iadd rfl ?_
        refine mw_iald rfl (by first | rfl | exact hO | exact hv) (by omega) (by omega) ?_
        first | refine mw_nadd rfl ?_ | refine mw_iadd rfl ?_
        refine mw_istore rfl (Nat.le_of_ble_eq_true rfl) ?_
        refine mw_aload_n (i := 0) rfl rfl rfl ?_
        refine mw_getfield rfl f_X10_26 (by first | rfl | exact hO | exact hv) rfl ?_
        refine mw_iload rfl rfl ?_
        refine mw_iald rfl (by first | rfl | exact hO | exact hv) (by omega) (by omega) ?_
        refine mw_iload rfl rfl ?_
        refine mw_n_ge rfl (by omega) (by omega) (fun hlt => ?_) (fun hlt => ?_)
        · rw [show strA v r a S = S by unfold strA; rw [if_neg (by omega)]] at ih
          first | refine mw_ninc rfl rfl (Nat.le_of_ble_eq_true rfl) ?_ | refine mw_iinc rfl rfl rfl (Nat.le_of_ble_eq_true rfl) ?_
          refine mw_goto rfl ?_
          exact mw_locals rfl ih
        · rw [show strA v r a S = (updN S.1 (v (45 + 18 * r + 2 + 4 * 0)) (S.1 (v (45 + 18 * r + 2 + 4 * (a + 1))) + v (45 + 18 * r + 2 + 4 * (a + 1) + 3)), true, S.2.2 && decide (S.1 (v (45 + 18 * r + 2 + 4 * (a + 1))) + v (45 + 18 * r + 2 + 4 * (a + 1) + 3) < 6)) by unfold strA; rw [if_pos (by omega)]] at ih
          refine mw_aload_n (i := 0) rfl rfl rfl ?_
          refine mw_getfield rfl f_X10_26 (by first | rfl | exact hO | exact hv) rfl ?_
          refine mw_iload rfl rfl ?_
          refine mw_iload rfl rfl ?_
          refine mw_iast_m rfl (by first | rfl | exact hO | exact hv) (by omega) (by omega) ?_
          first | rw [vI_upd] | rw [vI_updv] | skip
          refine mw_iconst (v := nI 1) rfl (by decide) ?_
          refine mw_istore_n (i := 1) rfl rfl (Nat.le_of_ble_eq_true rfl) ?_
          refine mw_iload_n (i := 2) rfl rfl rfl ?_
          refine mw_b_eq rfl (fun his => ?_) (fun his => ?_)
          · rw [his, Bool.false_and] at ih
            refine mw_iconst (v := nI 0) rfl (by decide) ?_
            refine mw_istore_n (i := 2) rfl rfl (Nat.le_of_ble_eq_true rfl) ?_
            first | refine mw_ninc rfl rfl (Nat.le_of_ble_eq_true rfl) ?_ | refine mw_iinc rfl rfl rfl (Nat.le_of_ble_eq_true rfl) ?_
            refine mw_goto rfl ?_
            exact mw_locals rfl ih
          · rw [his, Bool.true_and] at ih
            refine mw_iload rfl rfl ?_
            refine mw_bipush (v := nI 6) rfl (by decide) ?_
            refine mw_n_ge rfl (by omega) (by omega) (fun h6 => ?_) (fun h6 => ?_)
            · rw [decide_eq_false (by omega)] at ih
              refine mw_iconst (v := nI 0) rfl (by decide) ?_
              refine mw_istore_n (i := 2) rfl rfl (Nat.le_of_ble_eq_true rfl) ?_
              first | refine mw_ninc rfl rfl (Nat.le_of_ble_eq_true rfl) ?_ | refine mw_iinc rfl rfl rfl (Nat.le_of_ble_eq_true rfl) ?_
              refine mw_goto rfl ?_
              exact mw_locals rfl ih
            · rw [decide_eq_true h6] at ih
              refine mw_iconst (v := nI 1) rfl (by decide) ?_
              refine mw_goto rfl ?_
              refine mw_istore_n (i := 2) rfl rfl (Nat.le_of_ble_eq_true rfl) ?_
              first | refine mw_ninc rfl rfl (Nat.le_of_ble_eq_true rfl) ?_ | refine mw_iinc rfl rfl rfl (Nat.le_of_ble_eq_true rfl) ?_
              refine mw_goto rfl ?_
              exact mw_locals rfl ih
  have loopR : ∀ (S : StS), StB 5 S → MW M_X10_findStrata (d + 1) 0 0 n post 25 [(0, .ref 178), (1, .int (bI (strP v S).2.1)), (2, .int (bI (strP v S).2.2))] [] (mov [(184, .inl (.int, 6, .inl (vI (strP v S).1)))] h) n 0 → ∀ r, r ≤ v 2 → StB (5 + 3 * r) (itN (strR v) (S.1, false, S.2.2) r) → MW M_X10_findStrata (d + 1) 0 0 n post 37 [(0, .ref 178), (1, .int (bI (itN (strR v) (S.1, false, S.2.2) r).2.1)), (2, .int (bI (itN (strR v) (S.1, false, S.2.2) r).2.2)), (3, .int (nI r))] [] (mov [(184, .inl (.int, 6, .inl (vI (itN (strR v) (S.1, false, S.2.2) r).1)))] h) n 0 := by
    intro S hS k
    refine loop_up (P := fun r => StB (5 + 3 * r) (itN (strR v) (S.1, false, S.2.2) r) → MW M_X10_findStrata (d + 1) 0 0 n post 37 [(0, .ref 178), (1, .int (bI (itN (strR v) (S.1, false, S.2.2) r).2.1)), (2, .int (bI (itN (strR v) (S.1, false, S.2.2) r).2.2)), (3, .int (nI r))] [] (mov [(184, .inl (.int, 6, .inl (vI (itN (strR v) (S.1, false, S.2.2) r).1)))] h) n 0) (v 2) ?_ ?_
    · intro _
      refine mw_iload_n (i := 3) rfl rfl rfl ?_
      refine mw_aload_n (i := 0) rfl rfl rfl ?_
      refine mw_getfield rfl f_X10_7 (by first | rfl | exact hO | exact hv) rfl ?_
      refine mw_iconst (v := nI 2) rfl (by decide) ?_
      refine mw_iald rfl (by first | rfl | exact hO | exact hv) (by omega) (by omega) ?_
      refine mw_n_ge rfl (by omega) (by omega) (fun hc => ?_) (fun hc => ?_)
      · refine mw_goto rfl ?_
        exact mw_locals rfl k
      · omega
    · intro r hr ih hB
      obtain ⟨-, -, hl1, hl3, hat⟩ := hok.2.2.2.2.2.2 r hr
      have h0 := (hat 0 (by omega)).1
      generalize hT : itN (strR v) (S.1, false, S.2.2) r = T at hB ⊢
      have eT : itN (strR v) (S.1, false, S.2.2) (r + 1) = strR v r T := by rw [← hT]; rfl
      rw [eT] at ih
      have hBa : ∀ a, a ≤ v (45 + 18 * r + 1) → StB (5 + 3 * r + a) (itN (strA v r) T a) := by
        intro a
        induction a with
        | zero => intro _; exact hB
        | succ a iha => intro ha; exact strA_B hok hr (by omega) (iha (by omega))
      have hBe : StB (5 + 3 * (r + 1)) (strR v r T) := fun p hp => by
        have := hBa _ (Nat.le_refl _) p hp
        show (itN (strA v r) T (v (45 + 18 * r + 1))).1 p ≤ _
        omega
      refine mw_iload_n (i := 3) rfl rfl rfl ?_
      refine mw_aload_n (i := 0) rfl rfl rfl ?_
      refine mw_getfield rfl f_X10_7 (by first | rfl | exact hO | exact hv) rfl ?_
      refine mw_iconst (v := nI 2) rfl (by decide) ?_
      refine mw_iald rfl (by first | rfl | exact hO | exact hv) (by omega) (by omega) ?_
      refine mw_n_ge rfl (by omega) (by omega) (fun hc => ?_) (fun hc => ?_)
      · omega
      · refine mw_aload_n (i := 0) rfl rfl rfl ?_
        refine mw_getfield rfl f_X10_7 (by first | rfl | exact hO | exact hv) rfl ?_
        refine mw_iload_n (i := 3) rfl rfl rfl ?_
        refine mw_iconst (v := nI 0) rfl (by decide) ?_
        refine mw_callS_f (c_atomAt d n r 0 _) rfl ok_X10_atomAt v_X10_88 rfl (Nat.le_of_ble_eq_true rfl) rfl (Nat.le_of_ble_eq_true rfl) (by omega) (by omega) (by omega) ?_
        refine mw_iald rfl (by first | rfl | exact hO | exact hv) (by omega) (by omega) ?_
        refine mw_istore rfl (Nat.le_of_ble_eq_true rfl) ?_
        refine mw_iconst (v := nI 1) rfl (by decide) ?_
        refine mw_istore rfl (Nat.le_of_ble_eq_true rfl) ?_
        refine mw_locals rfl (loopA r hr T (5 + 3 * r) hB (by omega) (ih hBe) 0 (by omega) hB)
  have loopW : ∀ k, k ≤ 40 → MW M_X10_findStrata (d + 1) 0 0 n post 25 [(0, .ref 178), (1, .int (bI (itN (fun _ => strW v) (fun _ => 0, true, true) k).2.1)), (2, .int (bI (itN (fun _ => strW v) (fun _ => 0, true, true) k).2.2))] [] (mov [(184, .inl (.int, 6, .inl (vI (itN (fun _ => strW v) (fun _ => 0, true, true) k).1)))] h) n 0 := by
    have hend : ∀ k, k ≤ 40 → ((itN (fun _ => strW v) (fun _ => 0, true, true) k).2.1 && (itN (fun _ => strW v) (fun _ => 0, true, true) k).2.2) = false → MW M_X10_findStrata (d + 1) 0 0 n post 25 [(0, .ref 178), (1, .int (bI (itN (fun _ => strW v) (fun _ => 0, true, true) k).2.1)), (2, .int (bI (itN (fun _ => strW v) (fun _ => 0, true, true) k).2.2))] [] (mov [(184, .inl (.int, 6, .inl (vI (itN (fun _ => strW v) (fun _ => 0, true, true) k).1)))] h) n 0 := by
      intro k hk h1
      rw [strF_stay hk h1] at hp
      generalize itN (fun _ => strW v) (fun _ => 0, true, true) k = S at h1 hp ⊢
      refine mw_iload_n (i := 1) rfl rfl rfl ?_
      refine mw_b_eq rfl (fun hc1 => ?_) (fun hc1 => ?_)
      · refine mw_iload_n (i := 2) rfl rfl rfl ?_
        first | exact mw_ireturn rfl rfl (bI_nar _) rfl (Nat.le_refl _) (hp) | exact mw_ireturn rfl rfl rfl rfl (Nat.le_refl _) (hp)
      · refine mw_iload_n (i := 2) rfl rfl rfl ?_
        refine mw_b_eq rfl (fun hc2 => ?_) (fun hc2 => ?_)
        · refine mw_iload_n (i := 2) rfl rfl rfl ?_
          first | exact mw_ireturn rfl rfl (bI_nar _) rfl (Nat.le_refl _) (hp) | exact mw_ireturn rfl rfl rfl rfl (Nat.le_refl _) (hp)
        · rw [hc1, hc2] at h1
          cases h1
    refine loop_up 40 (hend 40 (Nat.le_refl _) (strF_end hok (by omega))) ?_
    intro k hk ih
    have hJ := strI_J hok k
    by_cases h1 : ((itN (fun _ => strW v) (fun _ => 0, true, true) k).2.1 && (itN (fun _ => strW v) (fun _ => 0, true, true) k).2.2) = true
    · generalize hS : itN (fun _ => strW v) (fun _ => 0, true, true) k = S at h1 hJ ⊢
      have eS : itN (fun _ => strW v) (fun _ => 0, true, true) (k + 1) = strP v S := by
        show strW v (itN (fun _ => strW v) (fun _ => 0, true, true) k) = _
        rw [hS]
        unfold strW
        rw [if_pos h1]
      rw [eS] at ih
      rw [Bool.and_eq_true] at h1
      have hB : StB 5 S := fun p hp => Nat.le_of_lt_succ (hJ.1 h1.2 p hp)
      refine mw_iload_n (i := 1) rfl rfl rfl ?_
      refine mw_b_eq rfl (fun hc1 => ?_) (fun hc1 => ?_)
      · rw [hc1] at h1; cases h1.1
      · refine mw_iload_n (i := 2) rfl rfl rfl ?_
        refine mw_b_eq rfl (fun hc2 => ?_) (fun hc2 => ?_)
        · rw [hc2] at h1; cases h1.2
        · refine mw_iconst (v := nI 0) rfl (by decide) ?_
          refine mw_istore_n (i := 1) rfl rfl (Nat.le_of_ble_eq_true rfl) ?_
          refine mw_iconst (v := nI 0) rfl (by decide) ?_
          refine mw_istore_n (i := 3) rfl rfl (Nat.le_of_ble_eq_true rfl) ?_
          exact mw_locals rfl (loopR S hB ih 0 (by omega) hB)
    · exact hend k (by omega) (by simpa using h1)
  have loop0 : ∀ j, j ≤ 6 → MW M_X10_findStrata (d + 1) 0 0 n post 2 [(0, .ref 178), (1, .int (nI j))] [] (mov [(184, .inl (.int, 6, .inl (vI (fun i => if i < j ∨ 6 ≤ i then 0 else st0 i))))] h) n 0 := by
    refine loop_up 6 ?_ ?_
    · refine mw_iload_n (i := 1) rfl rfl rfl ?_
      refine mw_bipush (v := nI 6) rfl (by decide) ?_
      refine mw_n_ge rfl (by omega) (by omega) (fun hc => ?_) (fun hc => ?_)
      · rw [show (fun i => if i < 6 ∨ 6 ≤ i then 0 else st0 i) = (fun _ => 0) by funext i; rw [if_pos (by omega)]]
        refine mw_iconst (v := nI 1) rfl (by decide) ?_
        refine mw_istore_n (i := 1) rfl rfl (Nat.le_of_ble_eq_true rfl) ?_
        refine mw_iconst (v := nI 1) rfl (by decide) ?_
        refine mw_istore_n (i := 2) rfl rfl (Nat.le_of_ble_eq_true rfl) ?_
        exact mw_locals rfl (loopW 0 (by omega))
      · omega
    · intro j hj ih
      refine mw_iload_n (i := 1) rfl rfl rfl ?_
      refine mw_bipush (v := nI 6) rfl (by decide) ?_
      refine mw_n_ge rfl (by omega) (by omega) (fun hc => ?_) (fun hc => ?_)
      · omega
      · refine mw_aload_n (i := 0) rfl rfl rfl ?_
        refine mw_getfield rfl f_X10_26 (by first | rfl | exact hO | exact hv) rfl ?_
        refine mw_iload_n (i := 1) rfl rfl rfl ?_
        refine mw_iconst (v := nI 0) rfl (by decide) ?_
        refine mw_iast_m rfl (by first | rfl | exact hO | exact hv) (by omega) (by omega) ?_
        first | rw [vI_upd] | rw [vI_updv] | skip
        first | refine mw_ninc rfl rfl (Nat.le_of_ble_eq_true rfl) ?_ | refine mw_iinc rfl rfl rfl (Nat.le_of_ble_eq_true rfl) ?_
        refine mw_goto rfl ?_
        refine mw_locals rfl (mw_heap (heap1N fun i => ?_) ih)
        simp only [updN]
        by_cases q : i = j
        · rw [if_pos q, if_pos (by omega)]
        · rw [if_neg q]
          have q3 : (i < j + 1 ∨ 6 ≤ i) ↔ (i < j ∨ 6 ≤ i) := by omega
          simp only [q3]
  refine mw_tail (K := 184) (vI (fun i => if i < 0 ∨ 6 ≤ i then 0 else st0 i)) hs0 (fun j hj => by simp only [vI]; rw [if_neg (by omega)]) ?_
  rw [hset_1]
  refine mw_iconst (v := nI 0) rfl (by decide) ?_
  refine mw_istore_n (i := 1) rfl rfl (Nat.le_of_ble_eq_true rfl) ?_
  exact mw_locals rfl (loop0 0 (by omega))
end
section
/-- the rows of the instances that hold: (how many, rule, head, literals, binding) -/
abbrev HoS : Type := Nat × (Nat → Nat) × (Nat → Nat) × (Nat → Int32) × (Nat → Nat)
def plA (v : Nat → Nat) (r a : Nat) : Bool := decide (a ≤ v (45 + 18 * r + 1)) && decide (v (45 + 18 * r + 2 + 4 * a + 3) = 0)
def liA (v b : Nat → Nat) (r a : Nat) : Int32 := if plA v r a then nI (fA v b r a) else -1
def liU (v b : Nat → Nat) (r c a : Nat) (li : Nat → Int32) : Nat → Int32 := upd li (3 * c + a) (liA v b r (a + 1))
def hoC (v : Nat → Nat) (m : Nat → Int32) (r code : Nat) (S : HoS) : HoS :=
  if bOk v r code && holdsR v (bndU S.2.2.2.2 code) m r then
    (S.1 + 1, updN S.2.1 S.1 r, updN S.2.2.1 S.1 (fA v (bndU S.2.2.2.2 code) r 0), itN (liU v (bndU S.2.2.2.2 code) r S.1) S.2.2.2.1 3, bndU S.2.2.2.2 code)
  else (S.1, S.2.1, S.2.2.1, S.2.2.2.1, bndU S.2.2.2.2 code)
def hoR (v : Nat → Nat) (m : Nat → Int32) (r : Nat) (S : HoS) : HoS := itN (hoC v m r) S 216
def hoF (v : Nat → Nat) (m : Nat → Int32) (S : HoS) : HoS := itN (hoR v m) S (v 2)
theorem hoC_cnt {v : Nat → Nat} {m : Nat → Int32} {r code : Nat} {S : HoS} : (hoC v m r code S).1 ≤ S.1 + 1 := by
  unfold hoC
  split
  · exact Nat.le_refl _
  · exact Nat.le_succ _
theorem hoCs_cnt {v : Nat → Nat} {m : Nat → Int32} {r : Nat} {S : HoS} : ∀ k, (itN (hoC v m r) S k).1 ≤ S.1 + k
  | 0 => Nat.le_refl _
  | k + 1 => Nat.le_trans hoC_cnt (by have := hoCs_cnt (v := v) (m := m) (r := r) (S := S) k; omega)
theorem hoR_cnt {v : Nat → Nat} {m : Nat → Int32} {S : HoS} : ∀ r, (itN (hoR v m) S r).1 ≤ S.1 + 216 * r
  | 0 => Nat.le_refl _
  | r + 1 => Nat.le_trans (hoCs_cnt 216) (by have := hoR_cnt (v := v) (m := m) (S := S) r; omega)
def HH (h : Nat → MC) (w : Nat → Int32) (S : HoS) : Nat → MC := mov [(178, RO (updN w 6 (nI S.1))), (185, .inl (.int, 3, .inl (vI S.2.2.2.2))), (189, .inl (.int, 1728, .inl (vI S.2.1))), (190, .inl (.int, 1728, .inl (vI S.2.2.1))), (191, .inl (.int, 5184, .inl S.2.2.2.1))] h
theorem c_findHolding (d n : Nat) (w : Nat → Int32) (v ru0 hd0 b0 : Nat → Nat) (m li0 : Nat → Int32) (h : Nat → MC) (hO : h 178 = RO w) (hv : h 179 = .inl (.int, 189, .inl (vI v))) (hm : h 186 = .inl (.int, 216, .inl m)) (hb : h 185 = .inl (.int, 3, .inl (vI b0))) (hru : h 189 = .inl (.int, 1728, .inl (vI ru0))) (hhd : h 190 = .inl (.int, 1728, .inl (vI hd0))) (hli : h 191 = .inl (.int, 5184, .inl li0)) (hok : OkN v) :
    Fn M_X10_findHolding (d + 3) 0 0 [.ref 178] h n none (HH h w (hoF v m (0, ru0, hd0, li0, b0))) := by
  refine Fn.of fun post hp => ?_
  have hr8 := hok.2.2.2.1
  have loopR : ∀ r, r ≤ v 2 → MW M_X10_findHolding (d + 3) 0 0 n post 7 [(0, .ref 178), (1, .int (nI r))] [] (HH h w (itN (hoR v m) (0, ru0, hd0, li0, b0) r)) n 0 := by
    refine loop_up (v 2) ?_ ?_
    · unfold HH
      refine mw_iload_n (i := 1) rfl rfl rfl ?_
      refine mw_aload_n (i := 0) rfl rfl rfl ?_
      refine mw_getfield rfl f_X10_7 (by first | rfl | exact hO | exact hv | exact hm) rfl ?_
      refine mw_iconst (v := nI 2) rfl (by decide) ?_
      refine mw_iald rfl (by first | rfl | exact hO | exact hv | exact hm) (by omega) (by omega) ?_
      refine mw_n_ge rfl (by omega) (by omega) (fun hc => ?_) (fun hc => ?_)
      · exact mw_return rfl rfl rfl (Nat.le_refl _) (hp)
      · omega
    · intro r hr ih
      obtain ⟨-, -, hl1, hl3, hat⟩ := hok.2.2.2.2.2.2 r hr
      have hcr := hoR_cnt (v := v) (m := m) (S := (0, ru0, hd0, li0, b0)) r
      generalize hP : itN (hoR v m) (0, ru0, hd0, li0, b0) r = P at ih hcr ⊢
      have eP : itN (hoR v m) (0, ru0, hd0, li0, b0) (r + 1) = hoR v m r P := by rw [← hP]; rfl
      rw [eP] at ih
      have hcr : P.1 ≤ 216 * r := by have : P.1 ≤ 0 + 216 * r := hcr; omega
      have loopC : ∀ j, j ≤ 216 → MW M_X10_findHolding (d + 3) 0 0 n post 19 [(0, .ref 178), (1, .int (nI r)), (2, .int (nI j))] [] (HH h w (itN (hoC v m r) P j)) n 0 := by
        refine loop_up 216 ?_ ?_
        · refine mw_iload_n (i := 2) rfl rfl rfl ?_
          refine mw_sipush (v := nI 216) rfl (by decide) ?_
          refine mw_n_ge rfl (by omega) (by omega) (fun hc => ?_) (fun hc => ?_)
          · first | refine mw_ninc rfl rfl (Nat.le_of_ble_eq_true rfl) ?_ | refine mw_iinc rfl rfl rfl (Nat.le_of_ble_eq_true rfl) ?_
            refine mw_goto rfl ?_
            exact mw_locals rfl ih
          · omega
        · intro j hj ihC
          have hcq := hoCs_cnt (v := v) (m := m) (r := r) (S := P) j
          generalize hQ : itN (hoC v m r) P j = Q at ihC hcq ⊢
          have eQ : itN (hoC v m r) P (j + 1) = hoC v m r j Q := by rw [← hQ]; rfl
          rw [eQ] at ihC
          have hb6 : ∀ x, x < 3 → bndU Q.2.2.2.2 j x < 6 := fun x hx => bndU_lt Q.2.2.2.2 hj hx
          have hq1 : Q.1 < 1728 := by omega
          unfold HH
          refine mw_iload_n (i := 2) rfl rfl rfl ?_
          refine mw_sipush (v := nI 216) rfl (by decide) ?_
          refine mw_n_ge rfl (by omega) (by omega) (fun hc => ?_) (fun hc => ?_)
          · omega
          · refine mw_aload_n (i := 0) rfl rfl rfl ?_
            refine mw_iload_n (i := 1) rfl rfl rfl ?_
            refine mw_iload_n (i := 2) rfl rfl rfl ?_
            refine mw_callV_f (c_isBinding (d + 1) n r j (updN w 6 (nI Q.1)) v Q.2.2.2.2 _ rfl hv rfl hok hr hj) rfl ok_X10_isBinding v_X10_142 rfl (by first | rfl | exact hO | exact hv | exact hm) (by intro e; cases e) rfl (Nat.le_of_ble_eq_true rfl) rfl (Nat.le_of_ble_eq_true rfl) (by omega) (by omega) (by omega) ?_
            rw [← mov_puts]
            refine mw_b_eq rfl (fun hbo => ?_) (fun hbo => ?_)
            · rw [show hoC v m r j Q = (Q.1, Q.2.1, Q.2.2.1, Q.2.2.2.1, bndU Q.2.2.2.2 j) by simp [hoC, hbo]] at ihC
              first | refine mw_ninc rfl rfl (Nat.le_of_ble_eq_true rfl) ?_ | refine mw_iinc rfl rfl rfl (Nat.le_of_ble_eq_true rfl) ?_
              refine mw_goto rfl ?_
              exact mw_locals rfl ihC
            · refine mw_aload_n (i := 0) rfl rfl rfl ?_
              refine mw_iload_n (i := 1) rfl rfl rfl ?_
              refine mw_aload_n (i := 0) rfl rfl rfl ?_
              refine mw_getfield rfl f_X10_32 (by first | rfl | exact hO | exact hv | exact hm) rfl ?_
              refine mw_callV_f (c_holds d n r 186 (updN w 6 (nI Q.1)) v (bndU Q.2.2.2.2 j) m _ rfl hv rfl hm hok hb6 hr) rfl ok_X10_holds v_X10_146 rfl (by first | rfl | exact hO | exact hv | exact hm) (by intro e; cases e) rfl (Nat.le_of_ble_eq_true rfl) rfl (Nat.le_of_ble_eq_true rfl) (by omega) (by omega) (by omega) ?_
              refine mw_b_eq rfl (fun hho => ?_) (fun hho => ?_)
              · rw [show hoC v m r j Q = (Q.1, Q.2.1, Q.2.2.1, Q.2.2.2.1, bndU Q.2.2.2.2 j) by simp [hoC, hbo, hho]] at ihC
                first | refine mw_ninc rfl rfl (Nat.le_of_ble_eq_true rfl) ?_ | refine mw_iinc rfl rfl rfl (Nat.le_of_ble_eq_true rfl) ?_
                refine mw_goto rfl ?_
                exact mw_locals rfl ihC
              · rw [show hoC v m r j Q = (Q.1 + 1, updN Q.2.1 Q.1 r, updN Q.2.2.1 Q.1 (fA v (bndU Q.2.2.2.2 j) r 0), itN (liU v (bndU Q.2.2.2.2 j) r Q.1) Q.2.2.2.1 3, bndU Q.2.2.2.2 j) by simp [hoC, hbo, hho]] at ihC
                have loopA : ∀ a, a ≤ 3 → MW M_X10_findHolding (d + 3) 0 0 n post 74 [(0, .ref 178), (1, .int (nI r)), (2, .int (nI j)), (3, .int (nI (a + 1)))] [] (mov [(178, RO (updN w 6 (nI Q.1))), (185, .inl (.int, 3, .inl (vI (bndU Q.2.2.2.2 j)))), (189, .inl (.int, 1728, .inl (vI (updN Q.2.1 Q.1 r)))), (190, .inl (.int, 1728, .inl (vI (updN Q.2.2.1 Q.1 (fA v (bndU Q.2.2.2.2 j) r 0))))), (191, .inl (.int, 5184, .inl (itN (liU v (bndU Q.2.2.2.2 j) r Q.1) Q.2.2.2.1 a)))] h) n 0 := by
                  refine loop_up 3 ?_ ?_
                  · refine mw_iload_n (i := 3) rfl rfl rfl ?_
                    refine mw_iconst (v := nI 4) rfl (by decide) ?_
                    refine mw_n_ge rfl (by omega) (by omega) (fun hc => ?_) (fun hc => ?_)
                    · refine mw_aload_n (i := 0) rfl rfl rfl ?_
                      refine mw_dup rfl rfl ?_
                      refine mw_getfield rfl f_X10_157 (by first | rfl | exact hO | exact hv | exact hm) rfl ?_
                      refine mw_iconst (v := nI 1) rfl (by decide) ?_
                      first | refine mw_nadd rfl ?_ | refine mw_iadd rfl ?_
                      refine mw_putfield_m rfl f_X10_157 (by first | rfl | exact hO | exact hv | exact hm) (Nat.le_of_ble_eq_true rfl) (fun _ => rfl) (fun _ => rfl) ?_
                      first | refine mw_ninc rfl rfl (Nat.le_of_ble_eq_true rfl) ?_ | refine mw_iinc rfl rfl rfl (Nat.le_of_ble_eq_true rfl) ?_
                      refine mw_goto rfl ?_
                      exact mw_locals rfl ihC
                    · omega
                  · intro a ha ihA
                    have st : ∀ fl : Bool, fl = plA v r (a + 1) → MW M_X10_findHolding (d + 3) 0 0 n post 117 [(0, .ref 178), (1, .int (nI r)), (2, .int (nI j)), (3, .int (nI (a + 1)))] [.int (bI fl)] (mov [(178, RO (updN w 6 (nI Q.1))), (185, .inl (.int, 3, .inl (vI (bndU Q.2.2.2.2 j)))), (189, .inl (.int, 1728, .inl (vI (updN Q.2.1 Q.1 r)))), (190, .inl (.int, 1728, .inl (vI (updN Q.2.2.1 Q.1 (fA v (bndU Q.2.2.2.2 j) r 0))))), (191, .inl (.int, 5184, .inl (itN (liU v (bndU Q.2.2.2.2 j) r Q.1) Q.2.2.2.1 a)))] h) n 0 := by
                      intro fl hfl
                      refine mw_istore rfl (Nat.le_of_ble_eq_true rfl) ?_
                      refine mw_aload_n (i := 0) rfl rfl rfl ?_
                      refine mw_getfield rfl f_X10_47 (by first | rfl | exact hO | exact hv | exact hm) rfl ?_
                      refine mw_iconst (v := nI 3) rfl (by decide) ?_
                      refine mw_aload_n (i := 0) rfl rfl rfl ?_
                      refine mw_getfield rfl f_X10_157 (by first | rfl | exact hO | exact hv | exact hm) rfl ?_
                      first | refine mw_nmul rfl ?_ | refine mw_imul rfl ?_
                      refine mw_iload_n (i := 3) rfl rfl rfl ?_
                      first | refine mw_nadd rfl ?_ | refine mw_iadd rfl ?_
                      refine mw_iconst (v := nI 1) rfl (by decide) ?_
                      refine mw_nsub (b := 1) rfl (by omega) ?_
                      rw [show 3 * Q.1 + (a + 1) - 1 = 3 * Q.1 + a by omega]
                      refine mw_iload rfl rfl ?_
                      refine mw_b_eq rfl (fun hb1 => ?_) (fun hb1 => ?_)
                      · have e : liA v (bndU Q.2.2.2.2 j) r (a + 1) = -1 := by unfold liA; rw [← hfl, hb1]; rfl
                        refine mw_iconst (v := (-1)) rfl (by decide) ?_
                        refine mw_iast_m (x := -1) rfl rfl (by omega) (by omega) ?_
                        first | refine mw_ninc rfl rfl (Nat.le_of_ble_eq_true rfl) ?_ | refine mw_iinc rfl rfl rfl (Nat.le_of_ble_eq_true rfl) ?_
                        refine mw_goto rfl ?_
                        refine mw_locals rfl (mw_heap ?_ ihA)
                        show mov [(178, RO (updN w 6 (nI Q.1))), (185, .inl (.int, 3, .inl (vI (bndU Q.2.2.2.2 j)))), (189, .inl (.int, 1728, .inl (vI (updN Q.2.1 Q.1 r)))), (190, .inl (.int, 1728, .inl (vI (updN Q.2.2.1 Q.1 (fA v (bndU Q.2.2.2.2 j) r 0))))), (191, .inl (.int, 5184, .inl (upd (itN (liU v (bndU Q.2.2.2.2 j) r Q.1) Q.2.2.2.1 a) (3 * Q.1 + a) (liA v (bndU Q.2.2.2.2 j) r (a + 1)))))] h = _
                        rw [e]
                        rfl
                      · have hpl : plA v r (a + 1) = true := by rw [← hfl]; exact hb1
                        have hle : a + 1 ≤ v (45 + 18 * r + 1) := by
                          simp only [plA, Bool.and_eq_true] at hpl
                          exact of_decide_eq_true hpl.1
                        have e : liA v (bndU Q.2.2.2.2 j) r (a + 1) = nI (fA v (bndU Q.2.2.2.2 j) r (a + 1)) := by unfold liA; rw [hpl]; rfl
                        refine mw_aload_n (i := 0) rfl rfl rfl ?_
                        refine mw_iload_n (i := 1) rfl rfl rfl ?_
                        refine mw_iload_n (i := 3) rfl rfl rfl ?_
                        refine mw_callV_f (c_factAt (d + 1) n r (a + 1) (updN w 6 (nI Q.1)) v (bndU Q.2.2.2.2 j) _ rfl hv rfl hok hr hle) rfl ok_X10_factAt v_X10_139 rfl (by first | rfl | exact hO | exact hv | exact hm) (by intro e; cases e) rfl (Nat.le_of_ble_eq_true rfl) rfl (Nat.le_of_ble_eq_true rfl) (by omega) (by omega) (by omega) ?_
                        refine mw_goto rfl ?_
                        refine mw_iast_m (x := nI (fA v (bndU Q.2.2.2.2 j) r (a + 1))) rfl rfl (by omega) (by omega) ?_
                        first | refine mw_ninc rfl rfl (Nat.le_of_ble_eq_true rfl) ?_ | refine mw_iinc rfl rfl rfl (Nat.le_of_ble_eq_true rfl) ?_
                        refine mw_goto rfl ?_
                        refine mw_locals rfl (mw_heap ?_ ihA)
                        show mov [(178, RO (updN w 6 (nI Q.1))), (185, .inl (.int, 3, .inl (vI (bndU Q.2.2.2.2 j)))), (189, .inl (.int, 1728, .inl (vI (updN Q.2.1 Q.1 r)))), (190, .inl (.int, 1728, .inl (vI (updN Q.2.2.1 Q.1 (fA v (bndU Q.2.2.2.2 j) r 0))))), (191, .inl (.int, 5184, .inl (upd (itN (liU v (bndU Q.2.2.2.2 j) r Q.1) Q.2.2.2.1 a) (3 * Q.1 + a) (liA v (bndU Q.2.2.2.2 j) r (a + 1)))))] h = _
                        rw [e]
                        rfl
                    refine mw_iload_n (i := 3) rfl rfl rfl ?_
                    refine mw_iconst (v := nI 4) rfl (by decide) ?_
                    refine mw_n_ge rfl (by omega) (by omega) (fun hc => ?_) (fun hc => ?_)
                    · omega
                    · refine mw_iload_n (i := 3) rfl rfl rfl ?_
                      refine mw_aload_n (i := 0) rfl rfl rfl ?_
                      refine mw_getfield rfl f_X10_7 (by first | rfl | exact hO | exact hv | exact hm) rfl ?_
                      refine mw_bipush (v := nI 45) rfl (by decide) ?_
                      refine mw_bipush (v := nI 18) rfl (by decide) ?_
                      refine mw_iload_n (i := 1) rfl rfl rfl ?_
                      first | refine mw_nmul rfl ?_ | refine mw_imul rfl ?_
                      first | refine mw_nadd rfl ?_ | refine mw_iadd rfl ?_
                      refine mw_iconst (v := nI 1) rfl (by decide) ?_
                      first | refine mw_nadd rfl ?_ | refine mw_iadd rfl ?_
                      refine mw_iald rfl (by first | rfl | exact hO | exact hv | exact hm) (by omega) (by omega) ?_
                      refine mw_n_gt rfl (by omega) (by omega) (fun hgt => ?_) (fun hgt => ?_)
                      · refine mw_iconst (v := nI 0) rfl (by decide) ?_
                        exact mw_locals rfl (st false (by simp [plA, show ¬ a + 1 ≤ v (45 + 18 * r + 1) by omega]))
                      · have h4 := (hat (a + 1) (by omega)).2.2.2
                        refine mw_aload_n (i := 0) rfl rfl rfl ?_
                        refine mw_getfield rfl f_X10_7 (by first | rfl | exact hO | exact hv | exact hm) rfl ?_
                        refine mw_iload_n (i := 1) rfl rfl rfl ?_
                        refine mw_iload_n (i := 3) rfl rfl rfl ?_
                        refine mw_callS_f (c_atomAt (d + 2) n r (a + 1) _) rfl ok_X10_atomAt v_X10_88 rfl (Nat.le_of_ble_eq_true rfl) rfl (Nat.le_of_ble_eq_true rfl) (by omega) (by omega) (by omega) ?_
                        refine mw_iconst (v := nI 3) rfl (by decide) ?_
                        first | refine mw_nadd rfl ?_ | refine mw_iadd rfl ?_
                        refine mw_iald_v (v := nI (v (45 + 18 * r + 2 + 4 * (a + 1) + 3))) rfl hv (by omega) (by omega) rfl ?_
                        refine mw_z_ne rfl (by omega) (fun hz => ?_) (fun hz => ?_)
                        · refine mw_iconst (v := nI 0) rfl (by decide) ?_
                          exact mw_locals rfl (st false (by simp [plA, hz]))
                        · refine mw_iconst (v := nI 1) rfl (by decide) ?_
                          refine mw_goto rfl ?_
                          exact mw_locals rfl (st true (by simp [plA, hz, hgt]))
                have := fA_lt hok hb6 hr (Nat.zero_le _)
                refine mw_aload_n (i := 0) rfl rfl rfl ?_
                refine mw_getfield rfl f_X10_41 (by first | rfl | exact hO | exact hv | exact hm) rfl ?_
                refine mw_aload_n (i := 0) rfl rfl rfl ?_
                refine mw_getfield rfl f_X10_157 (by first | rfl | exact hO | exact hv | exact hm) rfl ?_
                refine mw_iload_n (i := 1) rfl rfl rfl ?_
                refine mw_iast_m rfl (by first | rfl | exact hO | exact hv | exact hm) (by omega) (by omega) ?_
                first | rw [vI_upd] | rw [vI_updv] | skip
                refine mw_aload_n (i := 0) rfl rfl rfl ?_
                refine mw_getfield rfl f_X10_44 (by first | rfl | exact hO | exact hv | exact hm) rfl ?_
                refine mw_aload_n (i := 0) rfl rfl rfl ?_
                refine mw_getfield rfl f_X10_157 (by first | rfl | exact hO | exact hv | exact hm) rfl ?_
                refine mw_aload_n (i := 0) rfl rfl rfl ?_
                refine mw_iload_n (i := 1) rfl rfl rfl ?_
                refine mw_iconst (v := nI 0) rfl (by decide) ?_
                refine mw_callV_f (c_factAt (d + 1) n r 0 (updN w 6 (nI Q.1)) v (bndU Q.2.2.2.2 j) _ rfl hv rfl hok hr (by omega)) rfl ok_X10_factAt v_X10_139 rfl (by first | rfl | exact hO | exact hv | exact hm) (by intro e; cases e) rfl (Nat.le_of_ble_eq_true rfl) rfl (Nat.le_of_ble_eq_true rfl) (by omega) (by omega) (by omega) ?_
                refine mw_iast_m rfl (by first | rfl | exact hO | exact hv | exact hm) (by omega) (by omega) ?_
                first | rw [vI_upd] | rw [vI_updv] | skip
                refine mw_iconst (v := nI 1) rfl (by decide) ?_
                refine mw_istore_n (i := 3) rfl rfl (Nat.le_of_ble_eq_true rfl) ?_
                exact mw_locals rfl (loopA 0 (by omega))
      refine mw_iload_n (i := 1) rfl rfl rfl ?_
      refine mw_aload_n (i := 0) rfl rfl rfl ?_
      refine mw_getfield rfl f_X10_7 (by first | rfl | exact hO | exact hv | exact hm) rfl ?_
      refine mw_iconst (v := nI 2) rfl (by decide) ?_
      refine mw_iald rfl (by first | rfl | exact hO | exact hv | exact hm) (by omega) (by omega) ?_
      refine mw_n_ge rfl (by omega) (by omega) (fun hc => ?_) (fun hc => ?_)
      · omega
      · refine mw_iconst (v := nI 0) rfl (by decide) ?_
        refine mw_istore_n (i := 2) rfl rfl (Nat.le_of_ble_eq_true rfl) ?_
        exact mw_locals rfl (loopC 0 (by omega))
  refine mw_over [(178, RO w)] (mov_self (by simp [hO])) ?_
  refine mw_aload_n (i := 0) rfl rfl rfl ?_
  refine mw_iconst (v := nI 0) rfl (by decide) ?_
  refine mw_putfield_m rfl f_X10_157 (by first | rfl | exact hO | exact hv | exact hm) (Nat.le_of_ble_eq_true rfl) (fun _ => rfl) (fun _ => rfl) ?_
  refine mw_iconst (v := nI 0) rfl (by decide) ?_
  refine mw_istore_n (i := 1) rfl rfl (Nat.le_of_ble_eq_true rfl) ?_
  refine mw_locals (L2 := [(0, .ref 178), (1, .int (nI 0))]) rfl (mw_heap ?_ (loopR 0 (by omega)))
  exact mov_app (l := [(178, RO (updN w 6 (nI 0)))]) (l2 := [(185, .inl (.int, 3, .inl (vI b0))), (189, .inl (.int, 1728, .inl (vI ru0))), (190, .inl (.int, 1728, .inl (vI hd0))), (191, .inl (.int, 5184, .inl li0))]) (by simp [hb, hru, hhd, hli])
end
section
/-- what the rows of the holding instances are -/
def HoOk (v : Nat → Nat) (S : HoS) : Prop := S.1 ≤ 1728 ∧ ∀ i, i < S.1 → S.2.1 i < v 2 ∧ S.2.2.1 i < 216 ∧ ∀ a, a < 3 → S.2.2.2.1 (3 * i + a) < 0 ∨ ∃ f, f < 216 ∧ S.2.2.2.1 (3 * i + a) = nI f
/-- the facts that speak of the reference's rows of holding instances -/
def HoAt (h : Nat → MC) (S : HoS) : Prop := h 189 = .inl (.int, 1728, .inl (vI S.2.1)) ∧ h 190 = .inl (.int, 1728, .inl (vI S.2.2.1)) ∧ h 191 = .inl (.int, 5184, .inl S.2.2.2.1)
def insN (S : HoS) (f : Nat) : Nat → Nat
  | 0 => 0
  | k + 1 => insN S f k + (if S.2.2.1 k = f then 1 else 0)
theorem c_instancesOf (d n : Nat) (f : Nat) (w : Nat → Int32) (v : Nat → Nat) (S : HoS) (h : Nat → MC) (hO : h 178 = RO w) (hw : w 6 = nI S.1) (hS : HoOk v S) (hA : HoAt h S) (hf : f < 216) : Fn M_X10_instancesOf d 0 0 [.ref 178, .int (nI f)] h n (some (.int (nI (insN S f S.1)))) h := by
  obtain ⟨hru, hhd, hli⟩ := hA
  obtain ⟨h1728, hS⟩ := hS
  refine Fn.of fun post hp => ?_
  refine mw_iconst (v := nI 0) rfl (by decide) ?_
  refine mw_istore_n (i := 2) rfl rfl (Nat.le_of_ble_eq_true rfl) ?_
  refine mw_iconst (v := nI 0) rfl (by decide) ?_
  refine mw_istore_n (i := 3) rfl rfl (Nat.le_of_ble_eq_true rfl) ?_
  have loop : ∀ j, j ≤ S.1 → MW M_X10_instancesOf d 0 0 n post 4 [(0, .ref 178), (1, .int (nI f)), (2, .int (nI (insN S f j))), (3, .int (nI j))] [] h n 0 := by
    refine loop_up S.1 ?_ ?_
    · refine mw_iload_n (i := 3) rfl rfl rfl ?_
      refine mw_aload_n (i := 0) rfl rfl rfl ?_
      refine mw_getfield rfl f_X10_157 (by first | rfl | exact hO | exact hhd) rfl ?_
      rw [hw]
      refine mw_n_ge rfl (by omega) (by omega) (fun hc => ?_) (fun hc => ?_)
      · refine mw_iload_n (i := 2) rfl rfl rfl ?_
        exact mw_ireturn rfl rfl rfl rfl (Nat.le_refl _) (hp)
      · omega
    · intro j hj ih
      have := (hS j hj).2.1
      refine mw_iload_n (i := 3) rfl rfl rfl ?_
      refine mw_aload_n (i := 0) rfl rfl rfl ?_
      refine mw_getfield rfl f_X10_157 (by first | rfl | exact hO | exact hhd) rfl ?_
      rw [hw]
      refine mw_n_ge rfl (by omega) (by omega) (fun hc => ?_) (fun hc => ?_)
      · omega
      · refine mw_iload_n (i := 2) rfl rfl rfl ?_
        refine mw_aload_n (i := 0) rfl rfl rfl ?_
        refine mw_getfield rfl f_X10_44 (by first | rfl | exact hO | exact hhd) rfl ?_
        refine mw_iload_n (i := 3) rfl rfl rfl ?_
        refine mw_iald rfl (by first | rfl | exact hO | exact hhd) (by omega) (by omega) ?_
        refine mw_iload_n (i := 1) rfl rfl rfl ?_
        refine mw_n_ne rfl (by omega) (by omega) (fun he => ?_) (fun he => ?_)
        · refine mw_iconst (v := nI 0) rfl (by decide) ?_
          first | refine mw_nadd rfl ?_ | refine mw_iadd rfl ?_
          refine mw_istore_n (i := 2) rfl rfl (Nat.le_of_ble_eq_true rfl) ?_
          first | refine mw_ninc rfl rfl (Nat.le_of_ble_eq_true rfl) ?_ | refine mw_iinc rfl rfl rfl (Nat.le_of_ble_eq_true rfl) ?_
          refine mw_goto rfl ?_
          refine mw_locals ?_ ih
          rw [show insN S f (j + 1) = insN S f j + 0 by simp [insN, he]]
          rfl
        · refine mw_iconst (v := nI 1) rfl (by decide) ?_
          refine mw_goto rfl ?_
          first | refine mw_nadd rfl ?_ | refine mw_iadd rfl ?_
          refine mw_istore_n (i := 2) rfl rfl (Nat.le_of_ble_eq_true rfl) ?_
          first | refine mw_ninc rfl rfl (Nat.le_of_ble_eq_true rfl) ?_ | refine mw_iinc rfl rfl rfl (Nat.le_of_ble_eq_true rfl) ?_
          refine mw_goto rfl ?_
          refine mw_locals ?_ ih
          rw [show insN S f (j + 1) = insN S f j + 1 by simp [insN, he]]
          rfl
  exact mw_locals rfl (loop 0 (Nat.zero_le _))
def FARN : Nat := 1000001
def litN (c : Nat → Nat) (x : Int32) : Nat := if x < 0 then 0 else c x.toNatClampNeg
def coS (v : Nat → Nat) (S : HoS) (c : Nat → Nat) (i : Nat) : Nat := itN (fun a s => s + litN c (S.2.2.2.1 (3 * i + a))) (v (45 + 18 * S.2.1 i)) 3
def coB (v : Nat → Nat) (S : HoS) (c : Nat → Nat) (i : Nat) : Nat := if 1000001 < coS v S c i then 1000001 else coS v S c i
theorem litN_le {c : Nat → Nat} {x : Int32} {b : Nat} (hc : ∀ f, f < 216 → c f ≤ b) (hx : x < 0 ∨ ∃ f, f < 216 ∧ x = nI f) : litN c x ≤ b := by
  unfold litN
  split
  · exact Nat.zero_le _
  · rename_i q
    rcases hx with hx | ⟨f, hf, rfl⟩
    · exact absurd hx q
    · rw [nI_clamp (by omega)]
      exact hc f hf
theorem c_costBy (d n : Nat) (i : Nat) (w : Nat → Int32) (v c : Nat → Nat) (S : HoS) (h : Nat → MC) (hO : h 178 = RO w) (hv : h 179 = .inl (.int, 189, .inl (vI v))) (hcs : h 192 = .inl (.int, 216, .inl (vI c))) (hok : OkN v) (hS : HoOk v S) (hA : HoAt h S) (hi : i < S.1) (hcb : ∀ f, f < 216 → c f ≤ 1000001) : Fn M_X10_costBy d 0 0 [.ref 178, .int (nI i)] h n (some (.int (nI (coB v S c i)))) h := by
  obtain ⟨hru, hhd, hli⟩ := hA
  obtain ⟨h1728, hS⟩ := hS
  obtain ⟨hr, hh, hl⟩ := hS i hi
  have hpr := (hok.2.2.2.2.2.2 _ hr).2.1
  have hr8 := hok.2.2.2.1
  refine Fn.of fun post hp => ?_
  have hb : ∀ a, a ≤ 3 → itN (fun a s => s + litN c (S.2.2.2.1 (3 * i + a))) (v (45 + 18 * S.2.1 i)) a ≤ 9 + 1000001 * a := by
    intro a
    induction a with
    | zero => intro _; exact hpr
    | succ a ih =>
      intro ha
      have h1 := ih (by omega)
      have h2 := litN_le hcb (hl a (by omega))
      show itN (fun a s => s + litN c (S.2.2.2.1 (3 * i + a))) (v (45 + 18 * S.2.1 i)) a + litN c (S.2.2.2.1 (3 * i + a)) ≤ _
      omega
  refine mw_aload_n (i := 0) rfl rfl rfl ?_
  refine mw_getfield rfl f_X10_7 (by first | rfl | exact hO | exact hv | exact hru | exact hli | exact hcs) rfl ?_
  refine mw_bipush (v := nI 45) rfl (by decide) ?_
  refine mw_bipush (v := nI 18) rfl (by decide) ?_
  refine mw_aload_n (i := 0) rfl rfl rfl ?_
  refine mw_getfield rfl f_X10_41 (by first | rfl | exact hO | exact hv | exact hru | exact hli | exact hcs) rfl ?_
  refine mw_iload_n (i := 1) rfl rfl rfl ?_
  refine mw_iald rfl (by first | rfl | exact hO | exact hv | exact hru | exact hli | exact hcs) (by omega) (by omega) ?_
  first | refine mw_nmul rfl ?_ | refine mw_imul rfl ?_
  first | refine mw_nadd rfl ?_ | refine mw_iadd rfl ?_
  refine mw_iald rfl (by first | rfl | exact hO | exact hv | exact hru | exact hli | exact hcs) (by omega) (by omega) ?_
  refine mw_istore_n (i := 2) rfl rfl (Nat.le_of_ble_eq_true rfl) ?_
  refine mw_iconst (v := nI 0) rfl (by decide) ?_
  refine mw_istore_n (i := 3) rfl rfl (Nat.le_of_ble_eq_true rfl) ?_
  have loop : ∀ a, a ≤ 3 → MW M_X10_costBy d 0 0 n post 20 [(0, .ref 178), (1, .int (nI i)), (2, .int (nI (itN (fun a s => s + litN c (S.2.2.2.1 (3 * i + a))) (v (45 + 18 * S.2.1 i)) a))), (3, .int (nI a))] [] h n 0 := by
    refine loop_up 3 ?_ ?_
    · have h3 : coS v S c i ≤ 9 + 1000001 * 3 := hb 3 (Nat.le_refl _)
      show MW M_X10_costBy d 0 0 n post 20 [(0, .ref 178), (1, .int (nI i)), (2, .int (nI (coS v S c i))), (3, .int (nI 3))] [] h n 0
      refine mw_iload_n (i := 3) rfl rfl rfl ?_
      refine mw_iconst (v := nI 3) rfl (by decide) ?_
      refine mw_n_ge rfl (by omega) (by omega) (fun hc => ?_) (fun hc => ?_)
      · refine mw_iload_n (i := 2) rfl rfl rfl ?_
        refine mw_ldc (v := nI 1000001) rfl c_X10_198 ?_
        refine mw_n_le rfl (by omega) (by omega) (fun hgt => ?_) (fun hgt => ?_)
        · rw [show coB v S c i = coS v S c i by unfold coB; rw [if_neg (by omega)]] at hp
          refine mw_iload_n (i := 2) rfl rfl rfl ?_
          exact mw_ireturn rfl rfl rfl rfl (Nat.le_refl _) (hp)
        · rw [show coB v S c i = 1000001 by unfold coB; rw [if_pos hgt]] at hp
          refine mw_ldc (v := nI 1000001) rfl c_X10_198 ?_
          refine mw_goto rfl ?_
          exact mw_ireturn rfl rfl rfl rfl (Nat.le_refl _) (hp)
      · omega
    · intro a ha ih
      have hba := hb a (by omega)
      have hla := hl a ha
      refine mw_iload_n (i := 3) rfl rfl rfl ?_
      refine mw_iconst (v := nI 3) rfl (by decide) ?_
      refine mw_n_ge rfl (by omega) (by omega) (fun hc => ?_) (fun hc => ?_)
      · omega
      · generalize hX : S.2.2.2.1 (3 * i + a) = x at hla
        have eX : litN c (S.2.2.2.1 (3 * i + a)) = litN c x := by rw [hX]
        refine mw_aload_n (i := 0) rfl rfl rfl ?_
        refine mw_getfield rfl f_X10_47 (by first | rfl | exact hO | exact hv | exact hru | exact hli | exact hcs) rfl ?_
        refine mw_iconst (v := nI 3) rfl (by decide) ?_
        refine mw_iload_n (i := 1) rfl rfl rfl ?_
        first | refine mw_nmul rfl ?_ | refine mw_imul rfl ?_
        refine mw_iload_n (i := 3) rfl rfl rfl ?_
        first | refine mw_nadd rfl ?_ | refine mw_iadd rfl ?_
        refine mw_iald_v (v := x) rfl hli (by omega) (by omega) hX ?_
        refine mw_istore rfl (Nat.le_of_ble_eq_true rfl) ?_
        refine mw_iload_n (i := 2) rfl rfl rfl ?_
        refine mw_iload rfl rfl ?_
        refine mw_if_ge rfl (fun hge => ?_) (fun hge => ?_)
        · obtain ⟨f, hf, rfl⟩ : ∃ f, f < 216 ∧ x = nI f := by
            rcases hla with q | q
            · exact absurd hge (Int32.not_le.mpr q)
            · exact q
          rw [show itN (fun a s => s + litN c (S.2.2.2.1 (3 * i + a))) (v (45 + 18 * S.2.1 i)) (a + 1) = itN (fun a s => s + litN c (S.2.2.2.1 (3 * i + a))) (v (45 + 18 * S.2.1 i)) a + c f by
            show _ + litN c (S.2.2.2.1 (3 * i + a)) = _
            rw [eX]
            unfold litN
            rw [if_neg (nI_pos (by omega)), nI_clamp (by omega)]] at ih
          refine mw_aload_n (i := 0) rfl rfl rfl ?_
          refine mw_getfield rfl f_X10_50 (by first | rfl | exact hO | exact hv | exact hru | exact hli | exact hcs) rfl ?_
          refine mw_iload rfl rfl ?_
          refine mw_iald rfl (by first | rfl | exact hO | exact hv | exact hru | exact hli | exact hcs) (by omega) (by omega) ?_
          first | refine mw_nadd rfl ?_ | refine mw_iadd rfl ?_
          refine mw_istore_n (i := 2) rfl rfl (Nat.le_of_ble_eq_true rfl) ?_
          first | refine mw_ninc rfl rfl (Nat.le_of_ble_eq_true rfl) ?_ | refine mw_iinc rfl rfl rfl (Nat.le_of_ble_eq_true rfl) ?_
          refine mw_goto rfl ?_
          exact mw_locals rfl ih
        · rw [show itN (fun a s => s + litN c (S.2.2.2.1 (3 * i + a))) (v (45 + 18 * S.2.1 i)) (a + 1) = itN (fun a s => s + litN c (S.2.2.2.1 (3 * i + a))) (v (45 + 18 * S.2.1 i)) a + 0 by
            show _ + litN c (S.2.2.2.1 (3 * i + a)) = _
            rw [eX]
            unfold litN
            rw [if_pos (Int32.not_le.mp hge)]] at ih
          refine mw_iconst (v := nI 0) rfl (by decide) ?_
          refine mw_goto rfl ?_
          first | refine mw_nadd rfl ?_ | refine mw_iadd rfl ?_
          refine mw_istore_n (i := 2) rfl rfl (Nat.le_of_ble_eq_true rfl) ?_
          first | refine mw_ninc rfl rfl (Nat.le_of_ble_eq_true rfl) ?_ | refine mw_iinc rfl rfl rfl (Nat.le_of_ble_eq_true rfl) ?_
          refine mw_goto rfl ?_
          exact mw_locals rfl ih
  exact mw_locals rfl (loop 0 (Nat.zero_le _))
def coI (v : Nat → Nat) (S : HoS) (i : Nat) (p : (Nat → Nat) × Bool) : (Nat → Nat) × Bool :=
  if coB v S p.1 i < p.1 (S.2.2.1 i) then (updN p.1 (S.2.2.1 i) (coB v S p.1 i), true) else p
def coP (v : Nat → Nat) (S : HoS) (c : Nat → Nat) : (Nat → Nat) × Bool := itN (coI v S) (c, false) S.1
def coU (v : Nat → Nat) (k : Nat) (c : Nat → Nat) : Nat → Nat := updN c (v (9 + 3 * k)) (if v (9 + 3 * k + 1) < c (v (9 + 3 * k)) then v (9 + 3 * k + 1) else c (v (9 + 3 * k)))
def coBase (v : Nat → Nat) : Nat → Nat := itN (coU v) (fun _ => 1000001) (v 1)
/-- c is where the passes from c0 come to rest -/
def IsLim {α : Type} (P : α → α) (c0 c : α) : Prop := ∃ k, c = itN (fun _ => P) c0 k ∧ P c = c
theorem IsLim.uniq {α : Type} {P : α → α} {c0 c c' : α} (h : IsLim P c0 c) (h' : IsLim P c0 c') : c = c' := by
  obtain ⟨k, rfl, e⟩ := h
  obtain ⟨k', rfl, e'⟩ := h'
  rcases Nat.le_total k k' with q | q
  · exact (itN_stay q e).symm
  · exact itN_stay q e'
theorem lim_ex {α : Type} {P : α → α} (I : α → Prop) (μ : α → Nat) (hI : ∀ a, I a → I (P a)) (h : ∀ a, I a → P a = a ∨ μ (P a) < μ a) : ∀ (m : Nat) (c0 : α), μ c0 ≤ m → I c0 → ∃ c, IsLim P c0 c := by
  intro m
  induction m with
  | zero =>
    intro c0 hm h0
    rcases h c0 h0 with q | q
    · exact ⟨c0, 0, rfl, q⟩
    · omega
  | succ m ih =>
    intro c0 hm h0
    rcases h c0 h0 with q | q
    · exact ⟨c0, 0, rfl, q⟩
    · obtain ⟨c, k, rfl, e⟩ := ih (P c0) (by omega) (hI c0 h0)
      exact ⟨_, k + 1, itN_first _ _ _, e⟩
theorem coI_sum {v : Nat → Nat} {S : HoS} (hS : HoOk v S) {i s0 : Nat} (hi : i < S.1) {p : (Nat → Nat) × Bool} (h : sumN p.1 216 ≤ s0 ∧ (p.2 = true → sumN p.1 216 < s0)) : sumN (coI v S i p).1 216 ≤ s0 ∧ ((coI v S i p).2 = true → sumN (coI v S i p).1 216 < s0) := by
  unfold coI
  split
  · rename_i hlt
    have h1 := sumN_upd p.1 (S.2.2.1 i) (coB v S p.1 i) 216 (hS.2 i hi).2.1
    have h2 : sumN (updN p.1 (S.2.2.1 i) (coB v S p.1 i)) 216 < s0 := by omega
    exact ⟨Nat.le_of_lt h2, fun _ => h2⟩
  · exact h
theorem coI_same {v : Nat → Nat} {S : HoS} {c : Nat → Nat} {i : Nat} {p : (Nat → Nat) × Bool} (h : p.2 = true ∨ p.1 = c) : (coI v S i p).2 = true ∨ (coI v S i p).1 = c := by
  unfold coI
  split
  · exact Or.inl rfl
  · exact h
set_option maxRecDepth 100000 in
theorem coP_flag {v : Nat → Nat} {S : HoS} (hS : HoOk v S) (c : Nat → Nat) : ((coP v S c).2 = true → sumN (coP v S c).1 216 < sumN c 216) ∧ ((coP v S c).2 = false → (coP v S c).1 = c) := by
  have h1 := itN_inv (P := fun p : (Nat → Nat) × Bool => sumN p.1 216 ≤ sumN c 216 ∧ (p.2 = true → sumN p.1 216 < sumN c 216)) (s := coI v S) (N := S.1) (fun i hi p hp => coI_sum hS hi hp) S.1 (Nat.le_refl _) (a := (c, false)) ⟨Nat.le_refl _, fun q => absurd (show false = true from q) (by decide)⟩
  have h2 := itN_inv (P := fun p : (Nat → Nat) × Bool => p.2 = true ∨ p.1 = c) (s := coI v S) (N := S.1) (fun i _ p hp => coI_same hp) S.1 (Nat.le_refl _) (a := (c, false)) (Or.inr rfl)
  exact ⟨h1.2, fun q => h2.resolve_left (by show ¬ (coP v S c).2 = true; rw [q]; decide)⟩
theorem coLim {v : Nat → Nat} {S : HoS} (hS : HoOk v S) (c0 : Nat → Nat) : ∃ c, IsLim (fun c => (coP v S c).1) c0 c :=
  lim_ex (fun _ => True) (fun c => sumN c 216) (fun _ _ => trivial) (fun c _ => by
    have h := coP_flag hS c
    cases q : (coP v S c).2
    · exact Or.inl (h.2 q)
    · exact Or.inr (h.1 q)) (sumN c0 216) c0 (Nat.le_refl _) trivial
theorem coB_le (v : Nat → Nat) (S : HoS) (c : Nat → Nat) (i : Nat) : coB v S c i ≤ 1000001 := by
  unfold coB
  split <;> omega
def CoF (c : Nat → Nat) : Prop := ∀ f, c f ≤ 1000001
theorem coI_F {v : Nat → Nat} {S : HoS} {i : Nat} {p : (Nat → Nat) × Bool} (h : CoF p.1) : CoF (coI v S i p).1 := by
  unfold coI
  split
  · intro f
    show updN _ _ _ f ≤ _
    unfold updN
    split
    · exact coB_le _ _ _ _
    · exact h f
  · exact h
theorem coIs_F {v : Nat → Nat} {S : HoS} {p : (Nat → Nat) × Bool} (h : CoF p.1) : ∀ k, CoF (itN (coI v S) p k).1
  | 0 => h
  | k + 1 => coI_F (coIs_F h k)
theorem coBase_F {v : Nat → Nat} : CoF (coBase v) := by
  have h : ∀ k, CoF (itN (coU v) (fun _ => 1000001) k) := by
    intro k
    induction k with
    | zero => intro f; exact Nat.le_refl _
    | succ k ih =>
      intro f
      show updN _ _ _ f ≤ _
      unfold updN
      split
      · split
        · rename_i q
          have := ih (v (9 + 3 * k))
          omega
        · exact ih _
      · exact ih f
  exact h _
theorem coIt_F {v : Nat → Nat} {S : HoS} : ∀ k, CoF (itN (fun _ c => (coP v S c).1) (coBase v) k)
  | 0 => coBase_F
  | k + 1 => coIs_F (coIt_F k) S.1
theorem c_findCosts (d n : Nat) (w : Nat → Int32) (v c0 c : Nat → Nat) (S : HoS) (h : Nat → MC) (hO : h 178 = RO w) (hw : w 6 = nI S.1) (hv : h 179 = .inl (.int, 189, .inl (vI v))) (hcs : h 192 = .inl (.int, 216, .inl (vI c0))) (hok : OkN v) (hS : HoOk v S) (hA : HoAt h S) (hl : IsLim (fun c => (coP v S c).1) (coBase v) c) : Fn M_X10_findCosts (d + 1) 0 0 [.ref 178] h n none (mov [(192, .inl (.int, 216, .inl (vI c)))] h) := by
  have hA0 := hA
  obtain ⟨hru, hhd, hli⟩ := hA
  have hf12 := hok.2.2.1
  have h1728 := hS.1
  obtain ⟨K, rfl, hfix⟩ := hl
  refine Fn.of fun post hp => ?_
  have loopI : ∀ c : Nat → Nat, CoF c → MW M_X10_findCosts (d + 1) 0 0 n post 105 [(0, .ref 178), (1, .int (bI (coP v S c).2))] [] (mov [(192, .inl (.int, 216, .inl (vI (coP v S c).1)))] h) n 0 → ∀ i, i ≤ S.1 → MW M_X10_findCosts (d + 1) 0 0 n post 113 [(0, .ref 178), (1, .int (bI (itN (coI v S) (c, false) i).2)), (2, .int (nI i))] [] (mov [(192, .inl (.int, 216, .inl (vI (itN (coI v S) (c, false) i).1)))] h) n 0 := by
    intro c hc k
    refine loop_up S.1 ?_ ?_
    · refine mw_iload_n (i := 2) rfl rfl rfl ?_
      refine mw_aload_n (i := 0) rfl rfl rfl ?_
      refine mw_getfield rfl f_X10_157 (by first | rfl | exact hO | exact hv | exact hhd) rfl ?_
      rw [hw]
      refine mw_n_ge rfl (by omega) (by omega) (fun q => ?_) (fun q => ?_)
      · refine mw_goto rfl ?_
        exact mw_locals rfl k
      · omega
    · intro i hi ih
      have hT := coIs_F (v := v) (S := S) (p := (c, false)) hc i
      have hhi := (hS.2 i hi).2.1
      generalize hQ : itN (coI v S) (c, false) i = Q at hT ⊢
      have eQ : itN (coI v S) (c, false) (i + 1) = coI v S i Q := by rw [← hQ]; rfl
      rw [eQ] at ih
      have b1 := hT (S.2.2.1 i)
      have b2 := coB_le v S Q.1 i
      refine mw_iload_n (i := 2) rfl rfl rfl ?_
      refine mw_aload_n (i := 0) rfl rfl rfl ?_
      refine mw_getfield rfl f_X10_157 (by first | rfl | exact hO | exact hv | exact hhd) rfl ?_
      rw [hw]
      refine mw_n_ge rfl (by omega) (by omega) (fun q => ?_) (fun q => ?_)
      · omega
      · refine mw_aload_n (i := 0) rfl rfl rfl ?_
        refine mw_iload_n (i := 2) rfl rfl rfl ?_
        refine mw_callV_f (c_costBy d n i w v Q.1 S _ hO hv rfl hok hS ⟨hru, hhd, hli⟩ hi (fun f _ => hT f)) rfl ok_X10_costBy v_X10_199 rfl (by first | rfl | exact hO | exact hv | exact hhd) (by intro e; cases e) rfl (Nat.le_of_ble_eq_true rfl) rfl (Nat.le_of_ble_eq_true rfl) (by omega) (by omega) (by omega) ?_
        refine mw_istore_n (i := 3) rfl rfl (Nat.le_of_ble_eq_true rfl) ?_
        refine mw_iload_n (i := 3) rfl rfl rfl ?_
        refine mw_aload_n (i := 0) rfl rfl rfl ?_
        refine mw_getfield rfl f_X10_50 (by first | rfl | exact hO | exact hv | exact hhd) rfl ?_
        refine mw_aload_n (i := 0) rfl rfl rfl ?_
        refine mw_getfield rfl f_X10_44 (by first | rfl | exact hO | exact hv | exact hhd) rfl ?_
        refine mw_iload_n (i := 2) rfl rfl rfl ?_
        refine mw_iald rfl (by first | rfl | exact hO | exact hv | exact hhd) (by omega) (by omega) ?_
        refine mw_iald rfl (by first | rfl | exact hO | exact hv | exact hhd) (by omega) (by omega) ?_
        refine mw_n_ge rfl (by omega) (by omega) (fun hlt => ?_) (fun hlt => ?_)
        · rw [show coI v S i Q = Q by unfold coI; rw [if_neg (by omega)]] at ih
          first | refine mw_ninc rfl rfl (Nat.le_of_ble_eq_true rfl) ?_ | refine mw_iinc rfl rfl rfl (Nat.le_of_ble_eq_true rfl) ?_
          refine mw_goto rfl ?_
          exact mw_locals rfl ih
        · rw [show coI v S i Q = (updN Q.1 (S.2.2.1 i) (coB v S Q.1 i), true) by unfold coI; rw [if_pos hlt]] at ih
          refine mw_aload_n (i := 0) rfl rfl rfl ?_
          refine mw_getfield rfl f_X10_50 (by first | rfl | exact hO | exact hv | exact hhd) rfl ?_
          refine mw_aload_n (i := 0) rfl rfl rfl ?_
          refine mw_getfield rfl f_X10_44 (by first | rfl | exact hO | exact hv | exact hhd) rfl ?_
          refine mw_iload_n (i := 2) rfl rfl rfl ?_
          refine mw_iald rfl (by first | rfl | exact hO | exact hv | exact hhd) (by omega) (by omega) ?_
          refine mw_iload_n (i := 3) rfl rfl rfl ?_
          refine mw_iast_m rfl (by first | rfl | exact hO | exact hv | exact hhd) (by omega) (by omega) ?_
          first | rw [vI_upd] | rw [vI_updv] | skip
          refine mw_iconst (v := nI 1) rfl (by decide) ?_
          refine mw_istore_n (i := 1) rfl rfl (Nat.le_of_ble_eq_true rfl) ?_
          first | refine mw_ninc rfl rfl (Nat.le_of_ble_eq_true rfl) ?_ | refine mw_iinc rfl rfl rfl (Nat.le_of_ble_eq_true rfl) ?_
          refine mw_goto rfl ?_
          exact mw_locals rfl ih
  have loopW : ∀ j, j ≤ K → ∀ fl : Bool, fl = true ∨ (coP v S (itN (fun _ c => (coP v S c).1) (coBase v) j)).1 = itN (fun _ c => (coP v S c).1) (coBase v) j → MW M_X10_findCosts (d + 1) 0 0 n post 105 [(0, .ref 178), (1, .int (bI fl))] [] (mov [(192, .inl (.int, 216, .inl (vI (itN (fun _ c => (coP v S c).1) (coBase v) j))))] h) n 0 := by
    have hrest : ∀ j, j ≤ K → (coP v S (itN (fun _ c => (coP v S c).1) (coBase v) j)).1 = itN (fun _ c => (coP v S c).1) (coBase v) j → MW M_X10_findCosts (d + 1) 0 0 n post 105 [(0, .ref 178), (1, .int (bI false))] [] (mov [(192, .inl (.int, 216, .inl (vI (itN (fun _ c => (coP v S c).1) (coBase v) j))))] h) n 0 := by
      intro j hj e
      rw [← itN_stay hj e]
      refine mw_iload_n (i := 1) rfl rfl rfl ?_
      refine mw_b_eq rfl (fun q => ?_) (fun q => ?_)
      · exact mw_return rfl rfl rfl (Nat.le_refl _) (hp)
      · cases q
    have hboth : ∀ j, j ≤ K → (coP v S (itN (fun _ c => (coP v S c).1) (coBase v) j)).1 = itN (fun _ c => (coP v S c).1) (coBase v) j → ∀ fl : Bool, MW M_X10_findCosts (d + 1) 0 0 n post 105 [(0, .ref 178), (1, .int (bI fl))] [] (mov [(192, .inl (.int, 216, .inl (vI (itN (fun _ c => (coP v S c).1) (coBase v) j))))] h) n 0 := by
      intro j hj e fl
      cases fl
      · exact hrest j hj e
      · have hF := coIt_F (v := v) (S := S) j
        have hfl := coP_flag hS (itN (fun _ c => (coP v S c).1) (coBase v) j)
        have hr := hrest j hj e
        generalize itN (fun _ c => (coP v S c).1) (coBase v) j = c at e hF hfl hr ⊢
        have h2 : (coP v S c).2 = false := by
          cases q : (coP v S c).2
          · rfl
          · have := hfl.1 q
            rw [e] at this
            omega
        refine mw_iload_n (i := 1) rfl rfl rfl ?_
        refine mw_b_eq rfl (fun q => ?_) (fun q => ?_)
        · cases q
        · refine mw_iconst (v := nI 0) rfl (by decide) ?_
          refine mw_istore_n (i := 1) rfl rfl (Nat.le_of_ble_eq_true rfl) ?_
          refine mw_iconst (v := nI 0) rfl (by decide) ?_
          refine mw_istore_n (i := 2) rfl rfl (Nat.le_of_ble_eq_true rfl) ?_
          exact mw_locals rfl (loopI c hF (by rw [h2, e]; exact hr) 0 (Nat.zero_le _))
    refine loop_up (P := fun j => ∀ fl : Bool, fl = true ∨ (coP v S (itN (fun _ c => (coP v S c).1) (coBase v) j)).1 = itN (fun _ c => (coP v S c).1) (coBase v) j → MW M_X10_findCosts (d + 1) 0 0 n post 105 [(0, .ref 178), (1, .int (bI fl))] [] (mov [(192, .inl (.int, 216, .inl (vI (itN (fun _ c => (coP v S c).1) (coBase v) j))))] h) n 0) K (fun fl _ => hboth K (Nat.le_refl _) hfix fl) ?_
    intro j hj ih fl hfl0
    by_cases e : (coP v S (itN (fun _ c => (coP v S c).1) (coBase v) j)).1 = itN (fun _ c => (coP v S c).1) (coBase v) j
    · exact hboth j (by omega) e fl
    · have hfl0 := hfl0.resolve_right e
      subst hfl0
      have hF := coIt_F (v := v) (S := S) j
      have hfl := coP_flag hS (itN (fun _ c => (coP v S c).1) (coBase v) j)
      have ih2 : ∀ fl : Bool, fl = true ∨ _ → _ := ih
      have ih3 := ih (coP v S (itN (fun _ c => (coP v S c).1) (coBase v) j)).2
      have ee : itN (fun _ c => (coP v S c).1) (coBase v) (j + 1) = (coP v S (itN (fun _ c => (coP v S c).1) (coBase v) j)).1 := rfl
      rw [ee] at ih3
      generalize itN (fun _ c => (coP v S c).1) (coBase v) j = c at e hF hfl ih3 ⊢
      have h2 : (coP v S c).2 = true := by
        cases q : (coP v S c).2
        · exact absurd (hfl.2 q) e
        · rfl
      refine mw_iload_n (i := 1) rfl rfl rfl ?_
      refine mw_b_eq rfl (fun q => ?_) (fun q => ?_)
      · cases q
      · refine mw_iconst (v := nI 0) rfl (by decide) ?_
        refine mw_istore_n (i := 1) rfl rfl (Nat.le_of_ble_eq_true rfl) ?_
        refine mw_iconst (v := nI 0) rfl (by decide) ?_
        refine mw_istore_n (i := 2) rfl rfl (Nat.le_of_ble_eq_true rfl) ?_
        exact mw_locals rfl (loopI c hF (ih3 (Or.inl h2)) 0 (Nat.zero_le _))
  have loopF : ∀ k, k ≤ v 1 → MW M_X10_findCosts (d + 1) 0 0 n post 25 [(0, .ref 178), (1, .int (nI k))] [] (mov [(192, .inl (.int, 216, .inl (vI (itN (coU v) (fun _ => 1000001) k))))] h) n 0 := by
    refine loop_up (v 1) ?_ ?_
    · refine mw_iload_n (i := 1) rfl rfl rfl ?_
      refine mw_aload_n (i := 0) rfl rfl rfl ?_
      refine mw_getfield rfl f_X10_7 (by first | rfl | exact hO | exact hv | exact hhd) rfl ?_
      refine mw_iconst (v := nI 1) rfl (by decide) ?_
      refine mw_iald rfl (by first | rfl | exact hO | exact hv | exact hhd) (by omega) (by omega) ?_
      refine mw_n_ge rfl (by omega) (by omega) (fun q => ?_) (fun q => ?_)
      · refine mw_iconst (v := nI 1) rfl (by decide) ?_
        refine mw_istore_n (i := 1) rfl rfl (Nat.le_of_ble_eq_true rfl) ?_
        exact mw_locals rfl (loopW 0 (Nat.zero_le _) true (Or.inl rfl))
      · omega
    · intro k hk ih
      obtain ⟨hf1, hf2, -⟩ := hok.2.2.2.2.2.1 k hk
      have hbF : ∀ k, CoF (itN (coU v) (fun _ => 1000001) k) := by
        intro k
        induction k with
        | zero => intro f; exact Nat.le_refl _
        | succ k ih =>
          intro f
          show updN _ _ _ f ≤ _
          unfold updN
          split
          · split
            · have := ih (v (9 + 3 * k))
              omega
            · exact ih _
          · exact ih f
      have b1 := hbF k (v (9 + 3 * k))
      generalize hQ : itN (coU v) (fun _ => 1000001) k = Q at b1 ⊢
      have eQ : itN (coU v) (fun _ => 1000001) (k + 1) = coU v k Q := by rw [← hQ]; rfl
      rw [eQ] at ih
      refine mw_iload_n (i := 1) rfl rfl rfl ?_
      refine mw_aload_n (i := 0) rfl rfl rfl ?_
      refine mw_getfield rfl f_X10_7 (by first | rfl | exact hO | exact hv | exact hhd) rfl ?_
      refine mw_iconst (v := nI 1) rfl (by decide) ?_
      refine mw_iald rfl (by first | rfl | exact hO | exact hv | exact hhd) (by omega) (by omega) ?_
      refine mw_n_ge rfl (by omega) (by omega) (fun q => ?_) (fun q => ?_)
      · omega
      · refine mw_aload_n (i := 0) rfl rfl rfl ?_
        refine mw_getfield rfl f_X10_7 (by first | rfl | exact hO | exact hv | exact hhd) rfl ?_
        refine mw_bipush (v := nI 9) rfl (by decide) ?_
        refine mw_iconst (v := nI 3) rfl (by decide) ?_
        refine mw_iload_n (i := 1) rfl rfl rfl ?_
        first | refine mw_nmul rfl ?_ | refine mw_imul rfl ?_
        first | refine mw_nadd rfl ?_ | refine mw_iadd rfl ?_
        refine mw_iald rfl (by first | rfl | exact hO | exact hv | exact hhd) (by omega) (by omega) ?_
        refine mw_istore_n (i := 2) rfl rfl (Nat.le_of_ble_eq_true rfl) ?_
        refine mw_aload_n (i := 0) rfl rfl rfl ?_
        refine mw_getfield rfl f_X10_50 (by first | rfl | exact hO | exact hv | exact hhd) rfl ?_
        refine mw_iload_n (i := 2) rfl rfl rfl ?_
        refine mw_aload_n (i := 0) rfl rfl rfl ?_
        refine mw_getfield rfl f_X10_7 (by first | rfl | exact hO | exact hv | exact hhd) rfl ?_
        refine mw_bipush (v := nI 9) rfl (by decide) ?_
        refine mw_iconst (v := nI 3) rfl (by decide) ?_
        refine mw_iload_n (i := 1) rfl rfl rfl ?_
        first | refine mw_nmul rfl ?_ | refine mw_imul rfl ?_
        first | refine mw_nadd rfl ?_ | refine mw_iadd rfl ?_
        refine mw_iconst (v := nI 1) rfl (by decide) ?_
        first | refine mw_nadd rfl ?_ | refine mw_iadd rfl ?_
        refine mw_iald rfl (by first | rfl | exact hO | exact hv | exact hhd) (by omega) (by omega) ?_
        refine mw_aload_n (i := 0) rfl rfl rfl ?_
        refine mw_getfield rfl f_X10_50 (by first | rfl | exact hO | exact hv | exact hhd) rfl ?_
        refine mw_iload_n (i := 2) rfl rfl rfl ?_
        refine mw_iald rfl (by first | rfl | exact hO | exact hv | exact hhd) (by omega) (by omega) ?_
        refine mw_n_ge rfl (by omega) (by omega) (fun hlt => ?_) (fun hlt => ?_)
        · rw [show coU v k Q = updN Q (v (9 + 3 * k)) (Q (v (9 + 3 * k))) by unfold coU; rw [if_neg (by omega)]] at ih
          refine mw_aload_n (i := 0) rfl rfl rfl ?_
          refine mw_getfield rfl f_X10_50 (by first | rfl | exact hO | exact hv | exact hhd) rfl ?_
          refine mw_iload_n (i := 2) rfl rfl rfl ?_
          refine mw_iald rfl (by first | rfl | exact hO | exact hv | exact hhd) (by omega) (by omega) ?_
          refine mw_iast_m rfl (by first | rfl | exact hO | exact hv | exact hhd) (by omega) (by omega) ?_
          first | rw [vI_upd] | rw [vI_updv] | skip
          first | refine mw_ninc rfl rfl (Nat.le_of_ble_eq_true rfl) ?_ | refine mw_iinc rfl rfl rfl (Nat.le_of_ble_eq_true rfl) ?_
          refine mw_goto rfl ?_
          exact mw_locals rfl ih
        · rw [show coU v k Q = updN Q (v (9 + 3 * k)) (v (9 + 3 * k + 1)) by unfold coU; rw [if_pos hlt]] at ih
          refine mw_aload_n (i := 0) rfl rfl rfl ?_
          refine mw_getfield rfl f_X10_7 (by first | rfl | exact hO | exact hv | exact hhd) rfl ?_
          refine mw_bipush (v := nI 9) rfl (by decide) ?_
          refine mw_iconst (v := nI 3) rfl (by decide) ?_
          refine mw_iload_n (i := 1) rfl rfl rfl ?_
          first | refine mw_nmul rfl ?_ | refine mw_imul rfl ?_
          first | refine mw_nadd rfl ?_ | refine mw_iadd rfl ?_
          refine mw_iconst (v := nI 1) rfl (by decide) ?_
          first | refine mw_nadd rfl ?_ | refine mw_iadd rfl ?_
          refine mw_iald rfl (by first | rfl | exact hO | exact hv | exact hhd) (by omega) (by omega) ?_
          refine mw_goto rfl ?_
          refine mw_iast_m rfl (by first | rfl | exact hO | exact hv | exact hhd) (by omega) (by omega) ?_
          first | rw [vI_upd] | rw [vI_updv] | skip
          first | refine mw_ninc rfl rfl (Nat.le_of_ble_eq_true rfl) ?_ | refine mw_iinc rfl rfl rfl (Nat.le_of_ble_eq_true rfl) ?_
          refine mw_goto rfl ?_
          exact mw_locals rfl ih
  have loopA : ∀ k, k ≤ 216 → MW M_X10_findCosts (d + 1) 0 0 n post 2 [(0, .ref 178), (1, .int (nI k))] [] (mov [(192, .inl (.int, 216, .inl (vI (fun j => if j < k ∨ 216 ≤ j then 1000001 else c0 j))))] h) n 0 := by
    refine loop_up 216 ?_ ?_
    · refine mw_iload_n (i := 1) rfl rfl rfl ?_
      refine mw_sipush (v := nI 216) rfl (by decide) ?_
      refine mw_n_ge rfl (by omega) (by omega) (fun q => ?_) (fun q => ?_)
      · rw [show (fun j => if j < 216 ∨ 216 ≤ j then 1000001 else c0 j) = (fun _ => 1000001) by funext j; rw [if_pos (by omega)]]
        refine mw_iconst (v := nI 0) rfl (by decide) ?_
        refine mw_istore_n (i := 1) rfl rfl (Nat.le_of_ble_eq_true rfl) ?_
        exact mw_locals rfl (loopF 0 (Nat.zero_le _))
      · omega
    · intro k hk ih
      refine mw_iload_n (i := 1) rfl rfl rfl ?_
      refine mw_sipush (v := nI 216) rfl (by decide) ?_
      refine mw_n_ge rfl (by omega) (by omega) (fun q => ?_) (fun q => ?_)
      · omega
      · refine mw_aload_n (i := 0) rfl rfl rfl ?_
        refine mw_getfield rfl f_X10_50 (by first | rfl | exact hO | exact hv | exact hhd) rfl ?_
        refine mw_iload_n (i := 1) rfl rfl rfl ?_
        refine mw_ldc (v := nI 1000001) rfl c_X10_198 ?_
        refine mw_iast_m rfl (by first | rfl | exact hO | exact hv | exact hhd) (by omega) (by omega) ?_
        first | rw [vI_upd] | rw [vI_updv] | skip
        first | refine mw_ninc rfl rfl (Nat.le_of_ble_eq_true rfl) ?_ | refine mw_iinc rfl rfl rfl (Nat.le_of_ble_eq_true rfl) ?_
        refine mw_goto rfl ?_
        refine mw_locals rfl (mw_heap (heap1N fun i => ?_) ih)
        simp only [updN]
        by_cases q : i = k
        · rw [if_pos q, if_pos (by omega)]
        · rw [if_neg q]
          have q3 : (i < k + 1 ∨ 216 ≤ i) ↔ (i < k ∨ 216 ≤ i) := by omega
          simp only [q3]
  refine mw_tail (K := 192) (vI (fun j => if j < 0 ∨ 216 ≤ j then 1000001 else c0 j)) hcs (fun j hj => by simp only [vI]; rw [if_neg (by omega)]) ?_
  rw [hset_1]
  refine mw_iconst (v := nI 0) rfl (by decide) ?_
  refine mw_istore_n (i := 1) rfl rfl (Nat.le_of_ble_eq_true rfl) ?_
  exact mw_locals rfl (loopA 0 (by omega))
end
section
def litB (f : Nat → Bool) (x : Int32) : Bool := if x < 0 then true else f x.toNatClampNeg
/-- all literals of an instance are so -/
def allL (S : HoS) (f : Nat → Bool) (i : Nat) : Bool := andN (fun a => litB f (S.2.2.2.1 (3 * i + a))) 3
theorem c_areDerived (d n : Nat) (i : Nat) (w : Nat → Int32) (v : Nat → Nat) (D : Nat → Bool) (S : HoS) (h : Nat → MC) (hO : h 178 = RO w) (hdv : h 198 = .inl (.boolean, 216, .inl (bIf D))) (hS : HoOk v S) (hA : HoAt h S) (hi : i < S.1) : Fn M_X10_areDerived d 0 0 [.ref 178, .int (nI i)] h n (some (.int (bI (allL S D i)))) h := by
  obtain ⟨hru, hhd, hli⟩ := hA
  obtain ⟨h1728, hS⟩ := hS
  obtain ⟨hr, hh, hl⟩ := hS i hi
  refine Fn.of fun post hp => ?_
  refine mw_iconst (v := nI 1) rfl (by decide) ?_
  refine mw_istore_n (i := 2) rfl rfl (Nat.le_of_ble_eq_true rfl) ?_
  refine mw_iconst (v := nI 0) rfl (by decide) ?_
  refine mw_istore_n (i := 3) rfl rfl (Nat.le_of_ble_eq_true rfl) ?_
  have loop : ∀ a, a ≤ 3 → MW M_X10_areDerived d 0 0 n post 4 [(0, .ref 178), (1, .int (nI i)), (2, .int (bI (andN (fun a => litB D (S.2.2.2.1 (3 * i + a))) a))), (3, .int (nI a))] [] h n 0 := by
    refine loop_up 3 ?_ ?_
    · refine mw_iload_n (i := 3) rfl rfl rfl ?_
      refine mw_iconst (v := nI 3) rfl (by decide) ?_
      refine mw_n_ge rfl (by omega) (by omega) (fun hc => ?_) (fun hc => ?_)
      · refine mw_iload_n (i := 2) rfl rfl rfl ?_
        first | exact mw_ireturn rfl rfl (bI_nar _) rfl (Nat.le_refl _) (hp) | exact mw_ireturn rfl rfl rfl rfl (Nat.le_refl _) (hp)
      · omega
    · intro a ha ih
      have hla := hl a ha
      have e1 : andN (fun a => litB D (S.2.2.2.1 (3 * i + a))) (a + 1) = (andN (fun a => litB D (S.2.2.2.1 (3 * i + a))) a && litB D (S.2.2.2.1 (3 * i + a))) := rfl
      rw [e1] at ih
      generalize hX : S.2.2.2.1 (3 * i + a) = x at hla ih
      refine mw_iload_n (i := 3) rfl rfl rfl ?_
      refine mw_iconst (v := nI 3) rfl (by decide) ?_
      refine mw_n_ge rfl (by omega) (by omega) (fun hc => ?_) (fun hc => ?_)
      · omega
      · refine mw_aload_n (i := 0) rfl rfl rfl ?_
        refine mw_getfield rfl f_X10_47 (by first | rfl | exact hO | exact hli | exact hdv) rfl ?_
        refine mw_iconst (v := nI 3) rfl (by decide) ?_
        refine mw_iload_n (i := 1) rfl rfl rfl ?_
        first | refine mw_nmul rfl ?_ | refine mw_imul rfl ?_
        refine mw_iload_n (i := 3) rfl rfl rfl ?_
        first | refine mw_nadd rfl ?_ | refine mw_iadd rfl ?_
        refine mw_iald_v (v := x) rfl hli (by omega) (by omega) hX ?_
        refine mw_istore rfl (Nat.le_of_ble_eq_true rfl) ?_
        refine mw_iload_n (i := 2) rfl rfl rfl ?_
        refine mw_b_eq rfl (fun h1 => ?_) (fun h1 => ?_)
        · rw [h1, Bool.false_and] at ih
          refine mw_iconst (v := nI 0) rfl (by decide) ?_
          refine mw_istore_n (i := 2) rfl rfl (Nat.le_of_ble_eq_true rfl) ?_
          first | refine mw_ninc rfl rfl (Nat.le_of_ble_eq_true rfl) ?_ | refine mw_iinc rfl rfl rfl (Nat.le_of_ble_eq_true rfl) ?_
          refine mw_goto rfl ?_
          exact mw_locals rfl ih
        · rw [h1, Bool.true_and] at ih
          refine mw_iload rfl rfl ?_
          refine mw_if_lt rfl (fun h2 => ?_) (fun h2 => ?_)
          · rw [show litB D x = true by unfold litB; rw [if_pos h2]] at ih
            refine mw_iconst (v := nI 1) rfl (by decide) ?_
            refine mw_goto rfl ?_
            refine mw_istore_n (i := 2) rfl rfl (Nat.le_of_ble_eq_true rfl) ?_
            first | refine mw_ninc rfl rfl (Nat.le_of_ble_eq_true rfl) ?_ | refine mw_iinc rfl rfl rfl (Nat.le_of_ble_eq_true rfl) ?_
            refine mw_goto rfl ?_
            exact mw_locals rfl ih
          · obtain ⟨f, hf, rfl⟩ := hla.resolve_left h2
            rw [show litB D (nI f) = D f by unfold litB; rw [if_neg (nI_pos (by omega)), nI_clamp (by omega)]] at ih
            refine mw_aload_n (i := 0) rfl rfl rfl ?_
            refine mw_getfield rfl f_X10_69 (by first | rfl | exact hO | exact hli | exact hdv) rfl ?_
            refine mw_iload rfl rfl ?_
            refine mw_zald rfl (by first | rfl | exact hO | exact hli | exact hdv) (by omega) (by omega) ?_
            refine mw_b_eq rfl (fun h3 => ?_) (fun h3 => ?_)
            · rw [h3] at ih
              refine mw_iconst (v := nI 0) rfl (by decide) ?_
              refine mw_istore_n (i := 2) rfl rfl (Nat.le_of_ble_eq_true rfl) ?_
              first | refine mw_ninc rfl rfl (Nat.le_of_ble_eq_true rfl) ?_ | refine mw_iinc rfl rfl rfl (Nat.le_of_ble_eq_true rfl) ?_
              refine mw_goto rfl ?_
              exact mw_locals rfl ih
            · rw [h3] at ih
              refine mw_iconst (v := nI 1) rfl (by decide) ?_
              refine mw_goto rfl ?_
              refine mw_istore_n (i := 2) rfl rfl (Nat.le_of_ble_eq_true rfl) ?_
              first | refine mw_ninc rfl rfl (Nat.le_of_ble_eq_true rfl) ?_ | refine mw_iinc rfl rfl rfl (Nat.le_of_ble_eq_true rfl) ?_
              refine mw_goto rfl ?_
              exact mw_locals rfl ih
  exact mw_locals rfl (loop 0 (Nat.zero_le _))
theorem c_areSized (d n : Nat) (i : Nat) (w : Nat → Int32) (v z : Nat → Nat) (S : HoS) (h : Nat → MC) (hO : h 178 = RO w) (hsz : h 196 = .inl (.int, 216, .inl (vI z))) (hS : HoOk v S) (hA : HoAt h S) (hi : i < S.1) (hz : ∀ f, f < 216 → z f < 2147483648) : Fn M_X10_areSized d 0 0 [.ref 178, .int (nI i)] h n (some (.int (bI (allL S (fun f => decide (0 < z f)) i)))) h := by
  obtain ⟨hru, hhd, hli⟩ := hA
  obtain ⟨h1728, hS⟩ := hS
  obtain ⟨hr, hh, hl⟩ := hS i hi
  refine Fn.of fun post hp => ?_
  refine mw_iconst (v := nI 1) rfl (by decide) ?_
  refine mw_istore_n (i := 2) rfl rfl (Nat.le_of_ble_eq_true rfl) ?_
  refine mw_iconst (v := nI 0) rfl (by decide) ?_
  refine mw_istore_n (i := 3) rfl rfl (Nat.le_of_ble_eq_true rfl) ?_
  have loop : ∀ a, a ≤ 3 → MW M_X10_areSized d 0 0 n post 4 [(0, .ref 178), (1, .int (nI i)), (2, .int (bI (andN (fun a => litB (fun f => decide (0 < z f)) (S.2.2.2.1 (3 * i + a))) a))), (3, .int (nI a))] [] h n 0 := by
    refine loop_up 3 ?_ ?_
    · refine mw_iload_n (i := 3) rfl rfl rfl ?_
      refine mw_iconst (v := nI 3) rfl (by decide) ?_
      refine mw_n_ge rfl (by omega) (by omega) (fun hc => ?_) (fun hc => ?_)
      · refine mw_iload_n (i := 2) rfl rfl rfl ?_
        first | exact mw_ireturn rfl rfl (bI_nar _) rfl (Nat.le_refl _) (hp) | exact mw_ireturn rfl rfl rfl rfl (Nat.le_refl _) (hp)
      · omega
    · intro a ha ih
      have hla := hl a ha
      have e1 : andN (fun a => litB (fun f => decide (0 < z f)) (S.2.2.2.1 (3 * i + a))) (a + 1) = (andN (fun a => litB (fun f => decide (0 < z f)) (S.2.2.2.1 (3 * i + a))) a && litB (fun f => decide (0 < z f)) (S.2.2.2.1 (3 * i + a))) := rfl
      rw [e1] at ih
      generalize hX : S.2.2.2.1 (3 * i + a) = x at hla ih
      refine mw_iload_n (i := 3) rfl rfl rfl ?_
      refine mw_iconst (v := nI 3) rfl (by decide) ?_
      refine mw_n_ge rfl (by omega) (by omega) (fun hc => ?_) (fun hc => ?_)
      · omega
      · refine mw_aload_n (i := 0) rfl rfl rfl ?_
        refine mw_getfield rfl f_X10_47 (by first | rfl | exact hO | exact hli | exact hsz) rfl ?_
        refine mw_iconst (v := nI 3) rfl (by decide) ?_
        refine mw_iload_n (i := 1) rfl rfl rfl ?_
        first | refine mw_nmul rfl ?_ | refine mw_imul rfl ?_
        refine mw_iload_n (i := 3) rfl rfl rfl ?_
        first | refine mw_nadd rfl ?_ | refine mw_iadd rfl ?_
        refine mw_iald_v (v := x) rfl hli (by omega) (by omega) hX ?_
        refine mw_istore rfl (Nat.le_of_ble_eq_true rfl) ?_
        refine mw_iload_n (i := 2) rfl rfl rfl ?_
        refine mw_b_eq rfl (fun h1 => ?_) (fun h1 => ?_)
        · rw [h1, Bool.false_and] at ih
          refine mw_iconst (v := nI 0) rfl (by decide) ?_
          refine mw_istore_n (i := 2) rfl rfl (Nat.le_of_ble_eq_true rfl) ?_
          first | refine mw_ninc rfl rfl (Nat.le_of_ble_eq_true rfl) ?_ | refine mw_iinc rfl rfl rfl (Nat.le_of_ble_eq_true rfl) ?_
          refine mw_goto rfl ?_
          exact mw_locals rfl ih
        · rw [h1, Bool.true_and] at ih
          refine mw_iload rfl rfl ?_
          refine mw_if_lt rfl (fun h2 => ?_) (fun h2 => ?_)
          · rw [show litB (fun f => decide (0 < z f)) x = true by unfold litB; rw [if_pos h2]] at ih
            refine mw_iconst (v := nI 1) rfl (by decide) ?_
            refine mw_goto rfl ?_
            refine mw_istore_n (i := 2) rfl rfl (Nat.le_of_ble_eq_true rfl) ?_
            first | refine mw_ninc rfl rfl (Nat.le_of_ble_eq_true rfl) ?_ | refine mw_iinc rfl rfl rfl (Nat.le_of_ble_eq_true rfl) ?_
            refine mw_goto rfl ?_
            exact mw_locals rfl ih
          · obtain ⟨f, hf, rfl⟩ := hla.resolve_left h2
            have hzf := hz f hf
            rw [show litB (fun f => decide (0 < z f)) (nI f) = decide (0 < z f) by unfold litB; rw [if_neg (nI_pos (by omega)), nI_clamp (by omega)]] at ih
            refine mw_aload_n (i := 0) rfl rfl rfl ?_
            refine mw_getfield rfl f_X10_63 (by first | rfl | exact hO | exact hli | exact hsz) rfl ?_
            refine mw_iload rfl rfl ?_
            refine mw_iald rfl (by first | rfl | exact hO | exact hli | exact hsz) (by omega) (by omega) ?_
            refine mw_z_le rfl (by omega) (fun h3 => ?_) (fun h3 => ?_)
            · rw [decide_eq_false (by omega)] at ih
              refine mw_iconst (v := nI 0) rfl (by decide) ?_
              refine mw_istore_n (i := 2) rfl rfl (Nat.le_of_ble_eq_true rfl) ?_
              first | refine mw_ninc rfl rfl (Nat.le_of_ble_eq_true rfl) ?_ | refine mw_iinc rfl rfl rfl (Nat.le_of_ble_eq_true rfl) ?_
              refine mw_goto rfl ?_
              exact mw_locals rfl ih
            · rw [decide_eq_true h3] at ih
              refine mw_iconst (v := nI 1) rfl (by decide) ?_
              refine mw_goto rfl ?_
              refine mw_istore_n (i := 2) rfl rfl (Nat.le_of_ble_eq_true rfl) ?_
              first | refine mw_ninc rfl rfl (Nat.le_of_ble_eq_true rfl) ?_ | refine mw_iinc rfl rfl rfl (Nat.le_of_ble_eq_true rfl) ?_
              refine mw_goto rfl ?_
              exact mw_locals rfl ih
  exact mw_locals rfl (loop 0 (Nat.zero_le _))
def litM (c : Nat → Nat) (x : Int32) : Nat := if x < 0 then 0 else c x.toNatClampNeg
def szS (S : HoS) (z : Nat → Nat) (i a : Nat) : Nat := itN (fun a s => s + litN z (S.2.2.2.1 (3 * i + a))) 1 a
def usS (S : HoS) (u : Nat → Nat) (i a : Nat) : Nat := itN (fun a s => s ||| litN u (S.2.2.2.1 (3 * i + a))) 0 a
theorem c_sizes (d n : Nat) (f i : Nat) (w : Nat → Int32) (v z u : Nat → Nat) (S : HoS) (h : Nat → MC) (hO : h 178 = RO w) (hsz : h 196 = .inl (.int, 216, .inl (vI z))) (hus : h 197 = .inl (.int, 216, .inl (vI u))) (hS : HoOk v S) (hA : HoAt h S) (hi : i < S.1) (hf : f < 216) : Fn M_X10_sizes d 0 0 [.ref 178, .int (nI f), .int (nI i)] h n none (mov [(196, .inl (.int, 216, .inl (vI (updN z f (szS S z i 3))))), (197, .inl (.int, 216, .inl (vI (updN u f (usS S u i 3)))))] h) := by
  obtain ⟨hru, hhd, hli⟩ := hA
  obtain ⟨h1728, hS⟩ := hS
  obtain ⟨hr, hh, hl⟩ := hS i hi
  refine Fn.of fun post hp => ?_
  refine mw_iconst (v := nI 1) rfl (by decide) ?_
  refine mw_istore_n (i := 3) rfl rfl (Nat.le_of_ble_eq_true rfl) ?_
  refine mw_iconst (v := nI 0) rfl (by decide) ?_
  refine mw_istore rfl (Nat.le_of_ble_eq_true rfl) ?_
  refine mw_iconst (v := nI 0) rfl (by decide) ?_
  refine mw_istore rfl (Nat.le_of_ble_eq_true rfl) ?_
  have loop : ∀ a, a ≤ 3 → MW M_X10_sizes d 0 0 n post 8 [(0, .ref 178), (1, .int (nI f)), (2, .int (nI i)), (3, .int (nI (szS S z i a))), (4, .int (nI (usS S u i a))), (5, .int (nI a))] [] h n 0 := by
    refine loop_up 3 ?_ ?_
    · refine mw_iload rfl rfl ?_
      refine mw_iconst (v := nI 3) rfl (by decide) ?_
      refine mw_n_ge rfl (by omega) (by omega) (fun hc => ?_) (fun hc => ?_)
      · refine mw_over [(196, .inl (.int, 216, .inl (vI z)))] (mov_self (by simp [hsz])) ?_
        refine mw_aload_n (i := 0) rfl rfl rfl ?_
        refine mw_getfield rfl f_X10_63 (by first | rfl | exact hO | exact hli | exact hsz | exact hus) rfl ?_
        refine mw_iload_n (i := 1) rfl rfl rfl ?_
        refine mw_iload_n (i := 3) rfl rfl rfl ?_
        refine mw_iast_m rfl (by first | rfl | exact hO | exact hli | exact hsz | exact hus) (by omega) (by omega) ?_
        first | rw [vI_upd] | rw [vI_updv] | skip
        refine mw_aload_n (i := 0) rfl rfl rfl ?_
        refine mw_getfield rfl f_X10_66 (by first | rfl | exact hO | exact hli | exact hsz | exact hus) rfl ?_
        refine mw_iload_n (i := 1) rfl rfl rfl ?_
        refine mw_iload rfl rfl ?_
        refine mw_iast_m rfl (by first | rfl | exact hO | exact hli | exact hsz | exact hus) (by omega) (by omega) ?_
        first | rw [vI_upd] | rw [vI_updv] | skip
        exact mw_return rfl rfl rfl (Nat.le_refl _) (hp)
      · omega
    · intro a ha ih
      have hla := hl a ha
      rw [show szS S z i (a + 1) = szS S z i a + litN z (S.2.2.2.1 (3 * i + a)) from rfl, show usS S u i (a + 1) = usS S u i a ||| litN u (S.2.2.2.1 (3 * i + a)) from rfl] at ih
      generalize hX : S.2.2.2.1 (3 * i + a) = x at hla ih
      refine mw_iload rfl rfl ?_
      refine mw_iconst (v := nI 3) rfl (by decide) ?_
      refine mw_n_ge rfl (by omega) (by omega) (fun hc => ?_) (fun hc => ?_)
      · omega
      · refine mw_aload_n (i := 0) rfl rfl rfl ?_
        refine mw_getfield rfl f_X10_47 (by first | rfl | exact hO | exact hli | exact hsz | exact hus) rfl ?_
        refine mw_iconst (v := nI 3) rfl (by decide) ?_
        refine mw_iload_n (i := 2) rfl rfl rfl ?_
        first | refine mw_nmul rfl ?_ | refine mw_imul rfl ?_
        refine mw_iload rfl rfl ?_
        first | refine mw_nadd rfl ?_ | refine mw_iadd rfl ?_
        refine mw_iald_v (v := x) rfl hli (by omega) (by omega) hX ?_
        refine mw_istore rfl (Nat.le_of_ble_eq_true rfl) ?_
        refine mw_iload_n (i := 3) rfl rfl rfl ?_
        refine mw_iload rfl rfl ?_
        refine mw_if_ge rfl (fun h1 => ?_) (fun h1 => ?_)
        · obtain ⟨g, hg, rfl⟩ := hla.resolve_left (Int32.not_lt.mpr h1)
          rw [show litN z (nI g) = z g by unfold litN; rw [if_neg (nI_pos (by omega)), nI_clamp (by omega)], show litN u (nI g) = u g by unfold litN; rw [if_neg (nI_pos (by omega)), nI_clamp (by omega)]] at ih
          refine mw_aload_n (i := 0) rfl rfl rfl ?_
          refine mw_getfield rfl f_X10_63 (by first | rfl | exact hO | exact hli | exact hsz | exact hus) rfl ?_
          refine mw_iload rfl rfl ?_
          refine mw_iald rfl (by first | rfl | exact hO | exact hli | exact hsz | exact hus) (by omega) (by omega) ?_
          first | refine mw_nadd rfl ?_ | refine mw_iadd rfl ?_
          refine mw_istore_n (i := 3) rfl rfl (Nat.le_of_ble_eq_true rfl) ?_
          refine mw_iload rfl rfl ?_
          refine mw_iload rfl rfl ?_
          refine mw_if_ge rfl (fun h2 => ?_) (fun h2 => ?_)
          · refine mw_aload_n (i := 0) rfl rfl rfl ?_
            refine mw_getfield rfl f_X10_66 (by first | rfl | exact hO | exact hli | exact hsz | exact hus) rfl ?_
            refine mw_iload rfl rfl ?_
            refine mw_iald rfl (by first | rfl | exact hO | exact hli | exact hsz | exact hus) (by omega) (by omega) ?_
            first | refine mw_nior rfl ?_ | refine mw_ior rfl ?_
            refine mw_istore rfl (Nat.le_of_ble_eq_true rfl) ?_
            first | refine mw_ninc rfl rfl (Nat.le_of_ble_eq_true rfl) ?_ | refine mw_iinc rfl rfl rfl (Nat.le_of_ble_eq_true rfl) ?_
            refine mw_goto rfl ?_
            exact mw_locals rfl ih
          · exact absurd h1 h2
        · rw [show litN z x = 0 by unfold litN; rw [if_pos (Int32.not_le.mp h1)], show litN u x = 0 by unfold litN; rw [if_pos (Int32.not_le.mp h1)]] at ih
          refine mw_iconst (v := nI 0) rfl (by decide) ?_
          refine mw_goto rfl ?_
          first | refine mw_nadd rfl ?_ | refine mw_iadd rfl ?_
          refine mw_istore_n (i := 3) rfl rfl (Nat.le_of_ble_eq_true rfl) ?_
          refine mw_iload rfl rfl ?_
          refine mw_iload rfl rfl ?_
          refine mw_if_ge rfl (fun h2 => ?_) (fun h2 => ?_)
          · exact absurd h2 h1
          · refine mw_iconst (v := nI 0) rfl (by decide) ?_
            refine mw_goto rfl ?_
            first | refine mw_nior rfl ?_ | refine mw_ior rfl ?_
            refine mw_istore rfl (Nat.le_of_ble_eq_true rfl) ?_
            first | refine mw_ninc rfl rfl (Nat.le_of_ble_eq_true rfl) ?_ | refine mw_iinc rfl rfl rfl (Nat.le_of_ble_eq_true rfl) ?_
            refine mw_goto rfl ?_
            exact mw_locals rfl ih
  exact mw_locals rfl (loop 0 (Nat.zero_le _))
def leN (lr : Nat → Int32) (z u : Nat → Nat) (f : Nat) (what : Nat) : Int32 := if lr f < 0 then -5 else if what = 0 then lr f else if what = 1 then nI (z f) else nI (u f)
theorem c_leastNow (d n : Nat) (f what : Nat) (w : Nat → Int32) (z u : Nat → Nat) (lr : Nat → Int32) (h : Nat → MC) (hO : h 178 = RO w) (hlr : h 194 = .inl (.int, 216, .inl lr)) (hsz : h 196 = .inl (.int, 216, .inl (vI z))) (hus : h 197 = .inl (.int, 216, .inl (vI u))) (hf : f < 216) (hw : what < 3) : Fn M_X10_leastNow d 0 0 [.ref 178, .int (nI f), .int (nI what)] h n (some (.int (leN lr z u f what))) h := by
  refine Fn.of fun post hp => ?_
  refine mw_aload_n (i := 0) rfl rfl rfl ?_
  refine mw_getfield rfl f_X10_57 (by first | rfl | exact hO | exact hlr | exact hsz | exact hus) rfl ?_
  refine mw_iload_n (i := 1) rfl rfl rfl ?_
  refine mw_iald rfl (by first | rfl | exact hO | exact hlr | exact hsz | exact hus) (by omega) (by omega) ?_
  refine mw_if_ge rfl (fun h1 => ?_) (fun h1 => ?_)
  · have h1 : ¬ lr f < 0 := Int32.not_lt.mpr h1
    refine mw_iload_n (i := 2) rfl rfl rfl ?_
    refine mw_z_ne rfl (by omega) (fun h2 => ?_) (fun h2 => ?_)
    · refine mw_iload_n (i := 2) rfl rfl rfl ?_
      refine mw_iconst (v := nI 1) rfl (by decide) ?_
      refine mw_n_ne rfl (by omega) (by omega) (fun h3 => ?_) (fun h3 => ?_)
      · rw [show leN lr z u f what = nI (u f) by unfold leN; rw [if_neg h1, if_neg h2, if_neg h3]] at hp
        refine mw_aload_n (i := 0) rfl rfl rfl ?_
        refine mw_getfield rfl f_X10_66 (by first | rfl | exact hO | exact hlr | exact hsz | exact hus) rfl ?_
        refine mw_iload_n (i := 1) rfl rfl rfl ?_
        refine mw_iald rfl (by first | rfl | exact hO | exact hlr | exact hsz | exact hus) (by omega) (by omega) ?_
        exact mw_ireturn rfl rfl rfl rfl (Nat.le_refl _) (hp)
      · rw [show leN lr z u f what = nI (z f) by unfold leN; rw [if_neg h1, if_neg h2, if_pos h3]] at hp
        refine mw_aload_n (i := 0) rfl rfl rfl ?_
        refine mw_getfield rfl f_X10_63 (by first | rfl | exact hO | exact hlr | exact hsz | exact hus) rfl ?_
        refine mw_iload_n (i := 1) rfl rfl rfl ?_
        refine mw_iald rfl (by first | rfl | exact hO | exact hlr | exact hsz | exact hus) (by omega) (by omega) ?_
        refine mw_goto rfl ?_
        exact mw_ireturn rfl rfl rfl rfl (Nat.le_refl _) (hp)
    · rw [show leN lr z u f what = lr f by unfold leN; rw [if_neg h1, if_pos h2]] at hp
      refine mw_aload_n (i := 0) rfl rfl rfl ?_
      refine mw_getfield rfl f_X10_57 (by first | rfl | exact hO | exact hlr | exact hsz | exact hus) rfl ?_
      refine mw_iload_n (i := 1) rfl rfl rfl ?_
      refine mw_iald rfl (by first | rfl | exact hO | exact hlr | exact hsz | exact hus) (by omega) (by omega) ?_
      refine mw_goto rfl ?_
      exact mw_ireturn rfl rfl rfl rfl (Nat.le_refl _) (hp)
  · rw [show leN lr z u f what = -5 by unfold leN; rw [if_pos (Int32.not_le.mp h1)]] at hp
    refine mw_bipush (v := (-5)) rfl (by decide) ?_
    refine mw_goto rfl ?_
    exact mw_ireturn rfl rfl rfl rfl (Nat.le_refl _) (hp)
end
section
theorem while_lim {α : Type} {P : α → α × Bool} {H : Bool → α → Prop} {I : α → Prop} {c0 cf : α} (hlim : IsLim (fun c => (P c).1) c0 cf) (hI0 : I c0) (hI : ∀ c, I c → I (P c).1) (hf : ∀ c, I c → (P c).2 = false → (P c).1 = c) (ht : ∀ c, I c → (P c).2 = true → (P c).1 ≠ c) (hexit : H false cf) (hpass : ∀ c, I c → H (P c).2 (P c).1 → H true c) : H true c0 := by
  obtain ⟨k, rfl, e⟩ := hlim
  have hIk : ∀ j, I (itN (fun _ c => (P c).1) c0 j) := by
    intro j
    induction j with
    | zero => exact hI0
    | succ j ih => exact hI _ ih
  have loop : ∀ j, j ≤ k → H true (itN (fun _ c => (P c).1) c0 j) := by
    refine loop_up k ?_ ?_
    · refine hpass _ (hIk k) ?_
      cases q : (P (itN (fun _ c => (P c).1) c0 k)).2
      · rw [hf _ (hIk k) q]; exact hexit
      · exact absurd e (ht _ (hIk k) q)
    · intro j hj ih
      refine hpass _ (hIk j) ?_
      cases q : (P (itN (fun _ c => (P c).1) c0 j)).2
      · have e2 := hf _ (hIk j) q
        rw [e2, ← itN_stay (Nat.le_of_lt hj) e2]
        exact hexit
      · exact ih
  exact loop 0 (Nat.zero_le _)
/-- indices n - 1 .. 0 -/
def itD {α : Type} (step : Nat → α → α) : α → Nat → α
  | a, 0 => a
  | a, n + 1 => itD step (step n a) n
def dn (k : Nat) : Int32 := if k = 0 then -1 else nI (k - 1)
theorem dn_0 : dn 0 = -1 := rfl
theorem dn_s (k : Nat) : dn (k + 1) = nI k := by unfold dn; rw [if_neg (by omega)]; rfl
theorem dn_dec {k : Nat} (hk : k < 2147483648) : nI k + Int32.ofInt (-1) = dn k := by
  cases k with
  | zero => rfl
  | succ k =>
    rw [dn_s, show Int32.ofInt (-1) = -1 by decide]
    exact pk_m1 k
/-- least derivations: (rule, size, base facts, instance) -/
abbrev LeS : Type := (Nat → Int32) × (Nat → Nat) × (Nat → Nat) × (Nat → Nat)
def lsK (v c : Nat → Nat) (k : Nat) (L : LeS) : LeS :=
  if v (9 + 3 * k + 1) = c (v (9 + 3 * k)) then (upd L.1 (v (9 + 3 * k)) (nI 8), updN L.2.1 (v (9 + 3 * k)) 1, updN L.2.2.1 (v (9 + 3 * k)) (2 ^ k), L.2.2.2) else L
def lsI (v : Nat → Nat) (S : HoS) (c : Nat → Nat) (i : Nat) (L : LeS) : LeS :=
  if L.1 (S.2.2.1 i) ≠ nI 8 ∧ c (S.2.2.1 i) < 1000001 ∧ coB v S c i = c (S.2.2.1 i) then (upd L.1 (S.2.2.1 i) (nI (S.2.1 i)), L.2.1, L.2.2.1, updN L.2.2.2 (S.2.2.1 i) i) else L
def lsG (S : HoS) (f : Nat) (p : LeS × Bool) : LeS × Bool :=
  if p.1.2.1 f = 0 ∧ ¬ p.1.1 f < 0 ∧ allL S (fun g => decide (0 < p.1.2.1 g)) (p.1.2.2.2 f) = true then ((p.1.1, updN p.1.2.1 f (szS S p.1.2.1 (p.1.2.2.2 f) 3), updN p.1.2.2.1 f (usS S p.1.2.2.1 (p.1.2.2.2 f) 3), p.1.2.2.2), true) else p
def lsP (S : HoS) (N : Nat) (L : LeS) : LeS × Bool := itN (lsG S) (L, false) N
def ls0 (lb : Nat → Nat) : LeS := (fun _ => -1, fun _ => 0, fun _ => 0, lb)
def ls2 (v : Nat → Nat) (S : HoS) (c lb : Nat → Nat) : LeS := itD (lsI v S c) (itD (lsK v c) (ls0 lb) (v 1)) S.1
/-- what the state of findLeast keeps -/
def LeI (v : Nat → Nat) (S : HoS) (c : Nat → Nat) (L : LeS) : Prop := ∀ f, f < 216 → L.2.1 f ≤ 3 * c f + 1 ∧ (¬ L.1 f < 0 → L.2.1 f = 0 → L.2.2.2 f < S.1 ∧ coB v S c (L.2.2.2 f) = c f ∧ c f < 1000001)
theorem ls0_I (v : Nat → Nat) (S : HoS) (c lb : Nat → Nat) : LeI v S c (ls0 lb) := fun f _ => ⟨Nat.zero_le _, fun q => absurd (show (-1 : Int32) < 0 by decide) q⟩
theorem lsK_I {v : Nat → Nat} {S : HoS} {c : Nat → Nat} {k : Nat} {L : LeS} (h : LeI v S c L) : LeI v S c (lsK v c k L) := by
  unfold lsK
  split
  · intro f hf
    obtain ⟨h1, h2⟩ := h f hf
    by_cases e : f = v (9 + 3 * k)
    · subst e
      refine ⟨?_, fun _ q => ?_⟩
      · show updN _ _ _ _ ≤ _
        rw [updN_same]
        omega
      · have q : updN _ _ _ _ = 0 := q
        rw [updN_same] at q
        omega
    · refine ⟨?_, fun q1 q2 => ?_⟩
      · show updN _ _ _ _ ≤ _
        rw [updN_ne _ _ e]
        exact h1
      · have q2 : updN _ _ _ _ = 0 := q2
        rw [updN_ne _ _ e] at q2
        have q1 : ¬ upd L.1 (v (9 + 3 * k)) (nI 8) f < 0 := q1
        rw [pk_un e] at q1
        exact h2 q1 q2
  · exact h
theorem lsI_I {v : Nat → Nat} {S : HoS} {c : Nat → Nat} {i : Nat} (hi : i < S.1) {L : LeS} (h : LeI v S c L) : LeI v S c (lsI v S c i L) := by
  unfold lsI
  split
  · rename_i hc
    intro f hf
    obtain ⟨h1, h2⟩ := h f hf
    refine ⟨h1, fun q1 q2 => ?_⟩
    show updN _ _ _ f < _ ∧ coB v S c (updN _ _ _ f) = _ ∧ _
    by_cases e : f = S.2.2.1 i
    · rw [e, updN_same]
      exact ⟨hi, hc.2.2, hc.2.1⟩
    · rw [updN_ne _ _ e]
      have q1 : ¬ upd L.1 (S.2.2.1 i) (nI (S.2.1 i)) f < 0 := q1
      rw [pk_un e] at q1
      exact h2 q1 q2
  · exact h
theorem itD_inv {α : Type} {P : α → Prop} {s : Nat → α → α} : ∀ n {a : α}, (∀ k, k < n → ∀ a, P a → P (s k a)) → P a → P (itD s a n)
  | 0, _, _, h => h
  | n + 1, _, hs, h => itD_inv n (fun k hk => hs k (by omega)) (hs n (by omega) _ h)
theorem ls2_I (v : Nat → Nat) (S : HoS) (c lb : Nat → Nat) : LeI v S c (ls2 v S c lb) :=
  itD_inv S.1 (fun i hi L hL => lsI_I hi hL) (itD_inv (v 1) (fun k _ L hL => lsK_I hL) (ls0_I v S c lb))
theorem szS_le {v : Nat → Nat} {S : HoS} {c z : Nat → Nat} (hS : HoOk v S) {i : Nat} (hi : i < S.1) (hz : ∀ f, f < 216 → z f ≤ 3 * c f + 1) : ∀ a, a ≤ 3 → szS S z i a + 3 * v (45 + 18 * S.2.1 i) ≤ 1 + a + 3 * itN (fun a s => s + litN c (S.2.2.2.1 (3 * i + a))) (v (45 + 18 * S.2.1 i)) a
  | 0, _ => by show 1 + _ ≤ 1 + 0 + 3 * v (45 + 18 * S.2.1 i); omega
  | a + 1, ha => by
    have ih := szS_le (c := c) hS hi hz a (by omega)
    have hl := (hS.2 i hi).2.2 a (by omega)
    show szS S z i a + litN z (S.2.2.2.1 (3 * i + a)) + _ ≤ 1 + (a + 1) + 3 * (itN (fun a s => s + litN c (S.2.2.2.1 (3 * i + a))) (v (45 + 18 * S.2.1 i)) a + litN c (S.2.2.2.1 (3 * i + a)))
    have h1 : litN z (S.2.2.2.1 (3 * i + a)) ≤ 3 * litN c (S.2.2.2.1 (3 * i + a)) + 1 := by
      unfold litN
      split
      · omega
      · rename_i q
        obtain ⟨f, hf, e⟩ := hl.resolve_left q
        rw [e, nI_clamp (by omega)]
        exact hz f hf
    omega
theorem szS_pos (S : HoS) (z : Nat → Nat) (i : Nat) : ∀ a, 1 ≤ szS S z i a
  | 0 => Nat.le_refl _
  | a + 1 => Nat.le_trans (szS_pos S z i a) (Nat.le_add_right _ _)
theorem lsG_I {v : Nat → Nat} (hok : OkN v) {S : HoS} (hS : HoOk v S) {c : Nat → Nat} {f : Nat} (hf : f < 216) {p : LeS × Bool} (h : LeI v S c p.1) : LeI v S c (lsG S f p).1 := by
  unfold lsG
  split
  · rename_i hc
    obtain ⟨hl1, hl2, hl3⟩ := (h f hf).2 hc.2.1 hc.1
    have hpr := (hok.2.2.2.2.2.2 _ (hS.2 _ hl1).1).1
    intro g hg
    obtain ⟨h1, h2⟩ := h g hg
    by_cases e : g = f
    · subst e
      refine ⟨?_, fun _ q => ?_⟩
      · show updN _ _ _ _ ≤ _
        rw [updN_same]
        have h3 := szS_le (c := c) hS hl1 (fun f hf => (h f hf).1) 3 (Nat.le_refl _)
        have h4 : coS v S c (p.1.2.2.2 g) ≤ c g := by
          unfold coB at hl2
          split at hl2
          · omega
          · omega
        unfold coS at h4
        omega
      · have q : updN _ _ _ _ = 0 := q
        rw [updN_same] at q
        have := szS_pos S p.1.2.1 (p.1.2.2.2 g) 3
        omega
    · refine ⟨?_, fun q1 q2 => ?_⟩
      · show updN _ _ _ _ ≤ _
        rw [updN_ne _ _ e]
        exact h1
      · have q2 : updN _ _ _ _ = 0 := q2
        rw [updN_ne _ _ e] at q2
        exact h2 q1 q2
  · exact h
/-- how many are 0 -/
def zer (z : Nat → Nat) : Nat → Nat
  | 0 => 0
  | k + 1 => zer z k + (if z k = 0 then 1 else 0)
theorem zer_upd {z : Nat → Nat} {f x : Nat} (hz : z f = 0) (hx : 0 < x) : ∀ n, zer (updN z f x) n + (if f < n then 1 else 0) = zer z n
  | 0 => by simp [zer]
  | n + 1 => by
    have ih := zer_upd hz hx n
    simp only [zer]
    by_cases e : n = f
    · subst e
      rw [updN_same, if_neg (show ¬ x = 0 by omega), if_pos hz, if_pos (Nat.lt_succ_self _)]
      rw [if_neg (Nat.lt_irrefl _)] at ih
      omega
    · rw [updN_ne _ _ e]
      by_cases q : f < n
      · rw [if_pos q] at ih
        rw [if_pos (show f < n + 1 by omega)]
        omega
      · rw [if_neg q] at ih
        rw [if_neg (show ¬ f < n + 1 by omega)]
        omega
theorem lsG_z {S : HoS} {f s0 N : Nat} (hf : f < N) {p : LeS × Bool} (h : zer p.1.2.1 N ≤ s0 ∧ (p.2 = true → zer p.1.2.1 N < s0)) : zer (lsG S f p).1.2.1 N ≤ s0 ∧ ((lsG S f p).2 = true → zer (lsG S f p).1.2.1 N < s0) := by
  unfold lsG
  split
  · rename_i hc
    have h1 := zer_upd (x := szS S p.1.2.1 (p.1.2.2.2 f) 3) hc.1 (szS_pos _ _ _ 3) N
    rw [if_pos hf] at h1
    have h2 : zer (updN p.1.2.1 f (szS S p.1.2.1 (p.1.2.2.2 f) 3)) N < s0 := by omega
    exact ⟨Nat.le_of_lt h2, fun _ => h2⟩
  · exact h
theorem lsG_same {S : HoS} {f : Nat} {L : LeS} {p : LeS × Bool} (h : p.2 = true ∨ p.1 = L) : (lsG S f p).2 = true ∨ (lsG S f p).1 = L := by
  unfold lsG
  split
  · exact Or.inl rfl
  · exact h
theorem lsN_flag (S : HoS) (L : LeS) (N : Nat) : ((itN (lsG S) (L, false) N).2 = true → zer (itN (lsG S) (L, false) N).1.2.1 N < zer L.2.1 N) ∧ ((itN (lsG S) (L, false) N).2 = false → (itN (lsG S) (L, false) N).1 = L) := by
  have h1 := itN_inv (P := fun p : LeS × Bool => zer p.1.2.1 N ≤ zer L.2.1 N ∧ (p.2 = true → zer p.1.2.1 N < zer L.2.1 N)) (s := lsG S) (N := N) (fun f hf p hp => lsG_z hf hp) N (Nat.le_refl _) (a := (L, false)) ⟨Nat.le_refl _, fun q => absurd (show false = true from q) (by decide)⟩
  have h2 := itN_inv (P := fun p : LeS × Bool => p.2 = true ∨ p.1 = L) (s := lsG S) (N := N) (fun f _ p hp => lsG_same hp) N (Nat.le_refl _) (a := (L, false)) (Or.inr rfl)
  exact ⟨h1.2, fun q => h2.resolve_left (by rw [q]; decide)⟩
theorem lsN_I {v : Nat → Nat} (hok : OkN v) {S : HoS} (hS : HoOk v S) {c : Nat → Nat} {L : LeS} (h : LeI v S c L) (n : Nat) (hn : n ≤ 216) : LeI v S c (itN (lsG S) (L, false) n).1 :=
  itN_inv (P := fun p : LeS × Bool => LeI v S c p.1) (s := lsG S) (N := 216) (fun f hf p hp => lsG_I hok hS hf hp) n hn (a := (L, false)) h
theorem lsLimN (S : HoS) (N : Nat) (L0 : LeS) : ∃ L, IsLim (fun L => (itN (lsG S) (L, false) N).1) L0 L :=
  lim_ex (fun _ => True) (fun L => zer L.2.1 N) (fun _ _ => trivial) (fun L _ => by
    have h := lsN_flag S L N
    cases q : (itN (lsG S) (L, false) N).2
    · exact Or.inl (h.2 q)
    · exact Or.inr (h.1 q)) (zer L0.2.1 N) L0 (Nat.le_refl _) trivial
theorem lsP_flag (S : HoS) (N : Nat) (L : LeS) : ((lsP S N L).2 = true → zer (lsP S N L).1.2.1 N < zer L.2.1 N) ∧ ((lsP S N L).2 = false → (lsP S N L).1 = L) := lsN_flag S L N
theorem lsLim (S : HoS) (N : Nat) (L0 : LeS) : ∃ L, IsLim (fun L => (lsP S N L).1) L0 L := lsLimN S N L0
theorem lsP_I {v : Nat → Nat} (hok : OkN v) {S : HoS} (hS : HoOk v S) {c : Nat → Nat} {N : Nat} (hN : N = 216) {L : LeS} (h : LeI v S c L) : LeI v S c (lsP S N L).1 := lsN_I hok hS h N (Nat.le_of_eq hN)
theorem lsP_ne {S : HoS} {N : Nat} {L : LeS} (h : (lsP S N L).2 = true) : (lsP S N L).1 ≠ L := by
  intro e
  have h1 := (lsP_flag S N L).1 h
  rw [e] at h1
  omega
def HL (h : Nat → MC) (L : LeS) : Nat → MC := mov [(194, .inl (.int, 216, .inl L.1)), (196, .inl (.int, 216, .inl (vI L.2.1))), (197, .inl (.int, 216, .inl (vI L.2.2.1))), (195, .inl (.int, 216, .inl (vI L.2.2.2)))] h
set_option maxRecDepth 20000 in
theorem c_findLeast (d n : Nat) (w : Nat → Int32) (v c z0 u0 lb0 : Nat → Nat) (lr0 : Nat → Int32) (S : HoS) (F : LeS) (N : Nat) (hN : N = 216) (h : Nat → MC) (hO : h 178 = RO w) (hw : w 6 = nI S.1) (hv : h 179 = .inl (.int, 189, .inl (vI v))) (hcs : h 192 = .inl (.int, 216, .inl (vI c))) (hlr : h 194 = .inl (.int, 216, .inl lr0)) (hsz : h 196 = .inl (.int, 216, .inl (vI z0))) (hus : h 197 = .inl (.int, 216, .inl (vI u0))) (hlb : h 195 = .inl (.int, 216, .inl (vI lb0))) (hok : OkN v) (hS : HoOk v S) (hA : HoAt h S) (hcb : ∀ f, f < 216 → c f ≤ 1000001) (hl : IsLim (fun L => (lsP S N L).1) (ls2 v S c lb0) F) : Fn M_X10_findLeast (d + 1) 0 0 [.ref 178] h n none (HL h F) := by
  obtain ⟨hru, hhd, hli⟩ := hA
  have hf12 := hok.2.2.1
  have h1728 := hS.1
  refine Fn.of fun post hp => ?_
  -- the while's body
  have loopG : ∀ (L : LeS), LeI v S c L → MW M_X10_findLeast (d + 1) 0 0 n post 194 [(0, .ref 178), (1, .int (bI (lsP S N L).2))] [] (HL h (lsP S N L).1) n 0 → ∀ f, f ≤ N → MW M_X10_findLeast (d + 1) 0 0 n post 202 [(0, .ref 178), (1, .int (bI (itN (lsG S) (L, false) f).2)), (2, .int (nI f))] [] (HL h (itN (lsG S) (L, false) f).1) n 0 := by
    intro L hL k
    refine loop_up N ?_ ?_
    · refine mw_iload_n (i := 2) rfl rfl rfl ?_
      refine mw_sipush (v := nI 216) rfl (by decide) ?_
      refine mw_n_ge rfl (by omega) (by omega) (fun q => ?_) (fun q => ?_)
      · refine mw_goto rfl ?_
        exact mw_locals rfl k
      · omega
    · intro f hf ih
      have hQi := lsN_I hok hS hL f (by omega)
      generalize hQ : itN (lsG S) (L, false) f = Q at hQi ⊢
      have eQ : itN (lsG S) (L, false) (f + 1) = lsG S f Q := by rw [← hQ]; rfl
      rw [eQ] at ih
      have hf : f < 216 := by omega
      obtain ⟨b1, b2⟩ := hQi f hf
      have hcf := hcb f hf
      have hzb : ∀ g, g < 216 → Q.1.2.1 g < 2147483648 := fun g hg => by
        have := (hQi g hg).1
        have := hcb g hg
        omega
      have hz1 := hzb f hf
      unfold HL
      refine mw_iload_n (i := 2) rfl rfl rfl ?_
      refine mw_sipush (v := nI 216) rfl (by decide) ?_
      refine mw_n_ge rfl (by omega) (by omega) (fun q => ?_) (fun q => ?_)
      · omega
      · refine mw_aload_n (i := 0) rfl rfl rfl ?_
        refine mw_getfield rfl f_X10_63 (by first | rfl | exact hO | exact hv | exact hhd | exact hcs | exact hru) rfl ?_
        refine mw_iload_n (i := 2) rfl rfl rfl ?_
        refine mw_iald rfl (by first | rfl | exact hO | exact hv | exact hhd | exact hcs | exact hru) (by omega) (by omega) ?_
        refine mw_z_ne rfl (by omega) (fun hz => ?_) (fun hz => ?_)
        · rw [show lsG S f Q = Q by unfold lsG; rw [if_neg (by intro e; exact hz e.1)]] at ih
          first | refine mw_ninc rfl rfl (Nat.le_of_ble_eq_true rfl) ?_ | refine mw_iinc rfl rfl rfl (Nat.le_of_ble_eq_true rfl) ?_
          refine mw_goto rfl ?_
          exact mw_locals rfl ih
        · refine mw_aload_n (i := 0) rfl rfl rfl ?_
          refine mw_getfield rfl f_X10_57 (by first | rfl | exact hO | exact hv | exact hhd | exact hcs | exact hru) rfl ?_
          refine mw_iload_n (i := 2) rfl rfl rfl ?_
          refine mw_iald rfl (by first | rfl | exact hO | exact hv | exact hhd | exact hcs | exact hru) (by omega) (by omega) ?_
          refine mw_if_lt rfl (fun hlt => ?_) (fun hlt => ?_)
          · rw [show lsG S f Q = Q by unfold lsG; rw [if_neg (by intro e; exact e.2.1 hlt)]] at ih
            first | refine mw_ninc rfl rfl (Nat.le_of_ble_eq_true rfl) ?_ | refine mw_iinc rfl rfl rfl (Nat.le_of_ble_eq_true rfl) ?_
            refine mw_goto rfl ?_
            exact mw_locals rfl ih
          · obtain ⟨l1, l2, l3⟩ := b2 hlt hz
            refine mw_aload_n (i := 0) rfl rfl rfl ?_
            refine mw_aload_n (i := 0) rfl rfl rfl ?_
            refine mw_getfield rfl f_X10_60 (by first | rfl | exact hO | exact hv | exact hhd | exact hcs | exact hru) rfl ?_
            refine mw_iload_n (i := 2) rfl rfl rfl ?_
            refine mw_iald rfl (by first | rfl | exact hO | exact hv | exact hhd | exact hcs | exact hru) (by omega) (by omega) ?_
            refine mw_callV_f (c_areSized d n (Q.1.2.2.2 f) w v Q.1.2.1 S _ hO rfl hS ⟨hru, hhd, hli⟩ l1 hzb) rfl ok_X10_areSized v_X10_208 rfl (by first | rfl | exact hO | exact hv | exact hhd | exact hcs | exact hru) (by intro e; cases e) rfl (Nat.le_of_ble_eq_true rfl) rfl (Nat.le_of_ble_eq_true rfl) (by omega) (by omega) (by omega) ?_
            refine mw_b_eq rfl (fun ha => ?_) (fun ha => ?_)
            · rw [show lsG S f Q = Q by unfold lsG; rw [if_neg (by intro e; rw [ha] at e; exact absurd e.2.2 (by decide))]] at ih
              first | refine mw_ninc rfl rfl (Nat.le_of_ble_eq_true rfl) ?_ | refine mw_iinc rfl rfl rfl (Nat.le_of_ble_eq_true rfl) ?_
              refine mw_goto rfl ?_
              exact mw_locals rfl ih
            · rw [show lsG S f Q = ((Q.1.1, updN Q.1.2.1 f (szS S Q.1.2.1 (Q.1.2.2.2 f) 3), updN Q.1.2.2.1 f (usS S Q.1.2.2.1 (Q.1.2.2.2 f) 3), Q.1.2.2.2), true) by unfold lsG; rw [if_pos ⟨hz, hlt, ha⟩]] at ih
              refine mw_aload_n (i := 0) rfl rfl rfl ?_
              refine mw_iload_n (i := 2) rfl rfl rfl ?_
              refine mw_aload_n (i := 0) rfl rfl rfl ?_
              refine mw_getfield rfl f_X10_60 (by first | rfl | exact hO | exact hv | exact hhd | exact hcs | exact hru) rfl ?_
              refine mw_iload_n (i := 2) rfl rfl rfl ?_
              refine mw_iald rfl (by first | rfl | exact hO | exact hv | exact hhd | exact hcs | exact hru) (by omega) (by omega) ?_
              refine mw_callV_f (c_sizes d n f (Q.1.2.2.2 f) w v Q.1.2.1 Q.1.2.2.1 S _ hO rfl rfl hS ⟨hru, hhd, hli⟩ l1 hf) rfl ok_X10_sizes v_X10_211 rfl (by first | rfl | exact hO | exact hv | exact hhd | exact hcs | exact hru) (by intro e; cases e) rfl (Nat.le_of_ble_eq_true rfl) rfl (Nat.le_of_ble_eq_true rfl) (by omega) (by omega) (by omega) ?_
              rw [← mov_puts]
              refine mw_iconst (v := nI 1) rfl (by decide) ?_
              refine mw_istore_n (i := 1) rfl rfl (Nat.le_of_ble_eq_true rfl) ?_
              first | refine mw_ninc rfl rfl (Nat.le_of_ble_eq_true rfl) ?_ | refine mw_iinc rfl rfl rfl (Nat.le_of_ble_eq_true rfl) ?_
              refine mw_goto rfl ?_
              exact mw_locals rfl ih
  have hW : MW M_X10_findLeast (d + 1) 0 0 n post 194 [(0, .ref 178), (1, .int (bI true))] [] (HL h (ls2 v S c lb0)) n 0 := by
    refine while_lim (P := lsP S N) (H := fun fl L => MW M_X10_findLeast (d + 1) 0 0 n post 194 [(0, .ref 178), (1, .int (bI fl))] [] (HL h L) n 0) (I := LeI v S c) hl (ls2_I v S c lb0) (fun L hL => lsP_I hok hS hN hL) (fun L _ => (lsP_flag S N L).2) (fun L _ => lsP_ne) ?_ ?_
    · show MW M_X10_findLeast (d + 1) 0 0 n post 194 [(0, .ref 178), (1, .int (bI false))] [] (HL h F) n 0
      refine mw_iload_n (i := 1) rfl rfl rfl ?_
      refine mw_b_eq rfl (fun q => ?_) (fun q => ?_)
      · exact mw_return rfl rfl rfl (Nat.le_refl _) (hp)
      · cases q
    · intro L hL k
      show MW M_X10_findLeast (d + 1) 0 0 n post 194 [(0, .ref 178), (1, .int (bI true))] [] (HL h L) n 0
      refine mw_iload_n (i := 1) rfl rfl rfl ?_
      refine mw_b_eq rfl (fun q => ?_) (fun q => ?_)
      · cases q
      · refine mw_iconst (v := nI 0) rfl (by decide) ?_
        refine mw_istore_n (i := 1) rfl rfl (Nat.le_of_ble_eq_true rfl) ?_
        refine mw_iconst (v := nI 0) rfl (by decide) ?_
        refine mw_istore_n (i := 2) rfl rfl (Nat.le_of_ble_eq_true rfl) ?_
        exact mw_locals rfl (loopG L hL k 0 (Nat.zero_le _))
  -- the instances, from the last
  have loopI : ∀ k, k ≤ S.1 → ∀ L : LeS, LeI v S c L → itD (lsI v S c) L k = ls2 v S c lb0 → MW M_X10_findLeast (d + 1) 0 0 n post 120 [(0, .ref 178), (1, .int (dn k))] [] (HL h L) n 0 := by
    intro k
    induction k with
    | zero =>
      intro _ L _ e
      have e : L = ls2 v S c lb0 := e
      rw [dn_0, e]
      refine mw_iload_n (i := 1) rfl rfl rfl ?_
      refine mw_if_lt rfl (fun q => ?_) (fun q => ?_)
      · refine mw_iconst (v := nI 1) rfl (by decide) ?_
        refine mw_istore_n (i := 1) rfl rfl (Nat.le_of_ble_eq_true rfl) ?_
        exact mw_locals rfl hW
      · exact absurd (by decide) q
    | succ k ihk =>
      intro hk L hL e
      have ih := ihk (by omega) (lsI v S c k L) (lsI_I (by omega) hL) e
      have hhk := (hS.2 k (by omega)).2.1
      have hrk := (hS.2 k (by omega)).1
      have hck := hcb _ hhk
      have hcb2 := coB_le v S c k
      rw [dn_s]
      unfold HL
      refine mw_iload_n (i := 1) rfl rfl rfl ?_
      refine mw_if_lt rfl (fun q => ?_) (fun q => ?_)
      · exact absurd q (nI_pos (by omega))
      · refine mw_aload_n (i := 0) rfl rfl rfl ?_
        refine mw_getfield rfl f_X10_44 (by first | rfl | exact hO | exact hv | exact hhd | exact hcs | exact hru) rfl ?_
        refine mw_iload_n (i := 1) rfl rfl rfl ?_
        refine mw_iald rfl (by first | rfl | exact hO | exact hv | exact hhd | exact hcs | exact hru) (by omega) (by omega) ?_
        refine mw_istore_n (i := 2) rfl rfl (Nat.le_of_ble_eq_true rfl) ?_
        refine mw_aload_n (i := 0) rfl rfl rfl ?_
        refine mw_getfield rfl f_X10_57 (by first | rfl | exact hO | exact hv | exact hhd | exact hcs | exact hru) rfl ?_
        refine mw_iload_n (i := 2) rfl rfl rfl ?_
        refine mw_iald rfl (by first | rfl | exact hO | exact hv | exact hhd | exact hcs | exact hru) (by omega) (by omega) ?_
        refine mw_bipush (v := nI 8) rfl (by decide) ?_
        refine mw_icmp_eq rfl (fun h8 => ?_) (fun h8 => ?_)
        · rw [show lsI v S c k L = L by unfold lsI; rw [if_neg (by intro e; exact e.1 h8)]] at ih
          refine mw_iinc rfl rfl (dn_dec (by omega)) (Nat.le_of_ble_eq_true rfl) ?_
          refine mw_goto rfl ?_
          exact mw_locals rfl ih
        · refine mw_aload_n (i := 0) rfl rfl rfl ?_
          refine mw_getfield rfl f_X10_50 (by first | rfl | exact hO | exact hv | exact hhd | exact hcs | exact hru) rfl ?_
          refine mw_iload_n (i := 2) rfl rfl rfl ?_
          refine mw_iald rfl (by first | rfl | exact hO | exact hv | exact hhd | exact hcs | exact hru) (by omega) (by omega) ?_
          refine mw_ldc (v := nI 1000001) rfl c_X10_198 ?_
          refine mw_n_ge rfl (by omega) (by omega) (fun hfar => ?_) (fun hfar => ?_)
          · rw [show lsI v S c k L = L by unfold lsI; rw [if_neg (by intro e; have := e.2.1; omega)]] at ih
            refine mw_iinc rfl rfl (dn_dec (by omega)) (Nat.le_of_ble_eq_true rfl) ?_
            refine mw_goto rfl ?_
            exact mw_locals rfl ih
          · refine mw_aload_n (i := 0) rfl rfl rfl ?_
            refine mw_iload_n (i := 1) rfl rfl rfl ?_
            refine mw_callV_f (c_costBy d n k w v c S _ hO hv hcs hok hS ⟨hru, hhd, hli⟩ (by omega) hcb) rfl ok_X10_costBy v_X10_199 rfl (by first | rfl | exact hO | exact hv | exact hhd | exact hcs | exact hru) (by intro e; cases e) rfl (Nat.le_of_ble_eq_true rfl) rfl (Nat.le_of_ble_eq_true rfl) (by omega) (by omega) (by omega) ?_
            refine mw_aload_n (i := 0) rfl rfl rfl ?_
            refine mw_getfield rfl f_X10_50 (by first | rfl | exact hO | exact hv | exact hhd | exact hcs | exact hru) rfl ?_
            refine mw_iload_n (i := 2) rfl rfl rfl ?_
            refine mw_iald rfl (by first | rfl | exact hO | exact hv | exact hhd | exact hcs | exact hru) (by omega) (by omega) ?_
            refine mw_n_ne rfl (by omega) (by omega) (fun hne => ?_) (fun hne => ?_)
            · rw [show lsI v S c k L = L by unfold lsI; rw [if_neg (by intro e; exact hne e.2.2)]] at ih
              refine mw_iinc rfl rfl (dn_dec (by omega)) (Nat.le_of_ble_eq_true rfl) ?_
              refine mw_goto rfl ?_
              exact mw_locals rfl ih
            · rw [show lsI v S c k L = (upd L.1 (S.2.2.1 k) (nI (S.2.1 k)), L.2.1, L.2.2.1, updN L.2.2.2 (S.2.2.1 k) k) by unfold lsI; rw [if_pos ⟨h8, hfar, hne⟩]] at ih
              refine mw_aload_n (i := 0) rfl rfl rfl ?_
              refine mw_getfield rfl f_X10_57 (by first | rfl | exact hO | exact hv | exact hhd | exact hcs | exact hru) rfl ?_
              refine mw_iload_n (i := 2) rfl rfl rfl ?_
              refine mw_aload_n (i := 0) rfl rfl rfl ?_
              refine mw_getfield rfl f_X10_41 (by first | rfl | exact hO | exact hv | exact hhd | exact hcs | exact hru) rfl ?_
              refine mw_iload_n (i := 1) rfl rfl rfl ?_
              refine mw_iald rfl (by first | rfl | exact hO | exact hv | exact hhd | exact hcs | exact hru) (by omega) (by omega) ?_
              refine mw_iast_m rfl (by first | rfl | exact hO | exact hv | exact hhd | exact hcs | exact hru) (by omega) (by omega) ?_
              first | rw [vI_upd] | rw [vI_updv] | skip
              refine mw_aload_n (i := 0) rfl rfl rfl ?_
              refine mw_getfield rfl f_X10_60 (by first | rfl | exact hO | exact hv | exact hhd | exact hcs | exact hru) rfl ?_
              refine mw_iload_n (i := 2) rfl rfl rfl ?_
              refine mw_iload_n (i := 1) rfl rfl rfl ?_
              refine mw_iast_m rfl (by first | rfl | exact hO | exact hv | exact hhd | exact hcs | exact hru) (by omega) (by omega) ?_
              first | rw [vI_upd] | rw [vI_updv] | skip
              refine mw_iinc rfl rfl (dn_dec (by omega)) (Nat.le_of_ble_eq_true rfl) ?_
              refine mw_goto rfl ?_
              exact mw_locals rfl ih
  -- the base facts, from the last
  have loopK : ∀ k, k ≤ v 1 → ∀ L : LeS, LeI v S c L → itD (lsK v c) L k = itD (lsK v c) (ls0 lb0) (v 1) → MW M_X10_findLeast (d + 1) 0 0 n post 45 [(0, .ref 178), (1, .int (dn k))] [] (HL h L) n 0 := by
    intro k
    induction k with
    | zero =>
      intro _ L hL e
      have e : L = itD (lsK v c) (ls0 lb0) (v 1) := e
      rw [dn_0]
      refine mw_iload_n (i := 1) rfl rfl rfl ?_
      refine mw_if_lt rfl (fun q => ?_) (fun q => ?_)
      · refine mw_aload_n (i := 0) rfl rfl rfl ?_
        refine mw_getfield rfl f_X10_157 (by first | rfl | exact hO | exact hv | exact hhd | exact hcs | exact hru) rfl ?_
        rw [hw]
        refine mw_iconst (v := nI 1) rfl (by decide) ?_
        refine mw_isub rfl ?_
        rw [show nI S.1 - nI 1 = dn S.1 by
          cases hs : S.1 with
          | zero => decide
          | succ k => rw [dn_s]; exact nI_pred k]
        refine mw_istore_n (i := 1) rfl rfl (Nat.le_of_ble_eq_true rfl) ?_
        exact mw_locals rfl (loopI S.1 (Nat.le_refl _) L hL (by rw [e]; rfl))
      · exact absurd (by decide) q
    | succ k ihk =>
      intro hk L hL e
      have ih := ihk (by omega) (lsK v c k L) (lsK_I hL) e
      obtain ⟨hf1, hf2, -⟩ := hok.2.2.2.2.2.1 k (by omega)
      have hck := hcb _ hf1
      rw [dn_s]
      unfold HL
      refine mw_iload_n (i := 1) rfl rfl rfl ?_
      refine mw_if_lt rfl (fun q => ?_) (fun q => ?_)
      · exact absurd q (nI_pos (by omega))
      · refine mw_aload_n (i := 0) rfl rfl rfl ?_
        refine mw_getfield rfl f_X10_7 (by first | rfl | exact hO | exact hv | exact hhd | exact hcs | exact hru) rfl ?_
        refine mw_bipush (v := nI 9) rfl (by decide) ?_
        refine mw_iconst (v := nI 3) rfl (by decide) ?_
        refine mw_iload_n (i := 1) rfl rfl rfl ?_
        first | refine mw_nmul rfl ?_ | refine mw_imul rfl ?_
        first | refine mw_nadd rfl ?_ | refine mw_iadd rfl ?_
        refine mw_iald rfl (by first | rfl | exact hO | exact hv | exact hhd | exact hcs | exact hru) (by omega) (by omega) ?_
        refine mw_istore_n (i := 2) rfl rfl (Nat.le_of_ble_eq_true rfl) ?_
        refine mw_aload_n (i := 0) rfl rfl rfl ?_
        refine mw_getfield rfl f_X10_7 (by first | rfl | exact hO | exact hv | exact hhd | exact hcs | exact hru) rfl ?_
        refine mw_bipush (v := nI 9) rfl (by decide) ?_
        refine mw_iconst (v := nI 3) rfl (by decide) ?_
        refine mw_iload_n (i := 1) rfl rfl rfl ?_
        first | refine mw_nmul rfl ?_ | refine mw_imul rfl ?_
        first | refine mw_nadd rfl ?_ | refine mw_iadd rfl ?_
        refine mw_iconst (v := nI 1) rfl (by decide) ?_
        first | refine mw_nadd rfl ?_ | refine mw_iadd rfl ?_
        refine mw_iald rfl (by first | rfl | exact hO | exact hv | exact hhd | exact hcs | exact hru) (by omega) (by omega) ?_
        refine mw_aload_n (i := 0) rfl rfl rfl ?_
        refine mw_getfield rfl f_X10_50 (by first | rfl | exact hO | exact hv | exact hhd | exact hcs | exact hru) rfl ?_
        refine mw_iload_n (i := 2) rfl rfl rfl ?_
        refine mw_iald rfl (by first | rfl | exact hO | exact hv | exact hhd | exact hcs | exact hru) (by omega) (by omega) ?_
        refine mw_n_ne rfl (by omega) (by omega) (fun hne => ?_) (fun hne => ?_)
        · rw [show lsK v c k L = L by unfold lsK; rw [if_neg hne]] at ih
          refine mw_iinc rfl rfl (dn_dec (by omega)) (Nat.le_of_ble_eq_true rfl) ?_
          refine mw_goto rfl ?_
          exact mw_locals rfl ih
        · rw [show lsK v c k L = (upd L.1 (v (9 + 3 * k)) (nI 8), updN L.2.1 (v (9 + 3 * k)) 1, updN L.2.2.1 (v (9 + 3 * k)) (2 ^ k), L.2.2.2) by unfold lsK; rw [if_pos hne]] at ih
          refine mw_aload_n (i := 0) rfl rfl rfl ?_
          refine mw_getfield rfl f_X10_57 (by first | rfl | exact hO | exact hv | exact hhd | exact hcs | exact hru) rfl ?_
          refine mw_iload_n (i := 2) rfl rfl rfl ?_
          refine mw_bipush (v := nI 8) rfl (by decide) ?_
          refine mw_iast_m rfl (by first | rfl | exact hO | exact hv | exact hhd | exact hcs | exact hru) (by omega) (by omega) ?_
          first | rw [vI_upd] | rw [vI_updv] | skip
          refine mw_aload_n (i := 0) rfl rfl rfl ?_
          refine mw_getfield rfl f_X10_63 (by first | rfl | exact hO | exact hv | exact hhd | exact hcs | exact hru) rfl ?_
          refine mw_iload_n (i := 2) rfl rfl rfl ?_
          refine mw_iconst (v := nI 1) rfl (by decide) ?_
          refine mw_iast_m rfl (by first | rfl | exact hO | exact hv | exact hhd | exact hcs | exact hru) (by omega) (by omega) ?_
          first | rw [vI_upd] | rw [vI_updv] | skip
          refine mw_aload_n (i := 0) rfl rfl rfl ?_
          refine mw_getfield rfl f_X10_66 (by first | rfl | exact hO | exact hv | exact hhd | exact hcs | exact hru) rfl ?_
          refine mw_iload_n (i := 2) rfl rfl rfl ?_
          refine mw_iconst (v := nI 1) rfl (by decide) ?_
          refine mw_iload_n (i := 1) rfl rfl rfl ?_
          refine mw_ishl rfl ?_
          rw [shlN (a := 1) (k := k) (by omega) (by rw [Nat.one_mul]; exact Nat.pow_lt_pow_right (by omega) (by omega)), Nat.one_mul]
          refine mw_iast_m rfl (by first | rfl | exact hO | exact hv | exact hhd | exact hcs | exact hru) (by omega) (by omega) ?_
          first | rw [vI_upd] | rw [vI_updv] | skip
          refine mw_iinc rfl rfl (dn_dec (by omega)) (Nat.le_of_ble_eq_true rfl) ?_
          refine mw_goto rfl ?_
          exact mw_locals rfl ih
  -- all empty
  have loopA : ∀ k, k ≤ 216 → MW M_X10_findLeast (d + 1) 0 0 n post 2 [(0, .ref 178), (1, .int (nI k))] [] (mov [(194, .inl (.int, 216, .inl (fun j => if j < k ∨ 216 ≤ j then -1 else lr0 j))), (196, .inl (.int, 216, .inl (vI (fun j => if j < k ∨ 216 ≤ j then 0 else z0 j)))), (197, .inl (.int, 216, .inl (vI (fun j => if j < k ∨ 216 ≤ j then 0 else u0 j)))), (195, .inl (.int, 216, .inl (vI lb0)))] h) n 0 := by
    refine loop_up 216 ?_ ?_
    · refine mw_iload_n (i := 1) rfl rfl rfl ?_
      refine mw_sipush (v := nI 216) rfl (by decide) ?_
      refine mw_n_ge rfl (by omega) (by omega) (fun q => ?_) (fun q => ?_)
      · rw [show (fun j => if j < 216 ∨ 216 ≤ j then -1 else lr0 j) = (fun _ => (-1 : Int32)) by funext j; rw [if_pos (by omega)], show (fun j => if j < 216 ∨ 216 ≤ j then 0 else z0 j) = (fun _ => 0) by funext j; rw [if_pos (by omega)], show (fun j => if j < 216 ∨ 216 ≤ j then 0 else u0 j) = (fun _ => 0) by funext j; rw [if_pos (by omega)]]
        refine mw_aload_n (i := 0) rfl rfl rfl ?_
        refine mw_getfield rfl f_X10_7 (by first | rfl | exact hO | exact hv | exact hhd | exact hcs | exact hru) rfl ?_
        refine mw_iconst (v := nI 1) rfl (by decide) ?_
        refine mw_iald rfl (by first | rfl | exact hO | exact hv | exact hhd | exact hcs | exact hru) (by omega) (by omega) ?_
        refine mw_iconst (v := nI 1) rfl (by decide) ?_
        refine mw_isub rfl ?_
        refine mw_istore_n (i := 1) rfl rfl (Nat.le_of_ble_eq_true rfl) ?_
        refine mw_locals (L2 := [(0, .ref 178), (1, .int (dn (v 1)))]) ?_ (loopK (v 1) (Nat.le_refl _) (ls0 lb0) (ls0_I v S c lb0) rfl)
        rw [show dn (v 1) = nI (v 1) - nI 1 by
          cases hs : v 1 with
          | zero => decide
          | succ k => rw [dn_s]; exact (nI_pred k).symm]
        rfl
      · omega
    · intro k hk ih
      have e1 : upd (fun j => if j < k ∨ 216 ≤ j then -1 else lr0 j) k (-1) = (fun j => if j < k + 1 ∨ 216 ≤ j then (-1 : Int32) else lr0 j) := by
        funext j
        simp only [upd]
        by_cases q : j = k
        · rw [if_pos q, if_pos (by omega)]
        · rw [if_neg q]
          have q3 : (j < k + 1 ∨ 216 ≤ j) ↔ (j < k ∨ 216 ≤ j) := by omega
          simp only [q3]
      have e2 : ∀ z0 : Nat → Nat, updN (fun j => if j < k ∨ 216 ≤ j then 0 else z0 j) k 0 = (fun j => if j < k + 1 ∨ 216 ≤ j then 0 else z0 j) := by
        intro z0
        funext j
        simp only [updN]
        by_cases q : j = k
        · rw [if_pos q, if_pos (by omega)]
        · rw [if_neg q]
          have q3 : (j < k + 1 ∨ 216 ≤ j) ↔ (j < k ∨ 216 ≤ j) := by omega
          simp only [q3]
      rw [← e1, ← e2, ← e2] at ih
      refine mw_iload_n (i := 1) rfl rfl rfl ?_
      refine mw_sipush (v := nI 216) rfl (by decide) ?_
      refine mw_n_ge rfl (by omega) (by omega) (fun q => ?_) (fun q => ?_)
      · omega
      · refine mw_aload_n (i := 0) rfl rfl rfl ?_
        refine mw_getfield rfl f_X10_57 (by first | rfl | exact hO | exact hv | exact hhd | exact hcs | exact hru) rfl ?_
        refine mw_iload_n (i := 1) rfl rfl rfl ?_
        refine mw_iconst (v := (-1)) rfl (by decide) ?_
        refine mw_iast_m rfl (by first | rfl | exact hO | exact hv | exact hhd | exact hcs | exact hru) (by omega) (by omega) ?_
        first | rw [vI_upd] | rw [vI_updv] | skip
        refine mw_aload_n (i := 0) rfl rfl rfl ?_
        refine mw_getfield rfl f_X10_63 (by first | rfl | exact hO | exact hv | exact hhd | exact hcs | exact hru) rfl ?_
        refine mw_iload_n (i := 1) rfl rfl rfl ?_
        refine mw_iconst (v := nI 0) rfl (by decide) ?_
        refine mw_iast_m rfl (by first | rfl | exact hO | exact hv | exact hhd | exact hcs | exact hru) (by omega) (by omega) ?_
        first | rw [vI_upd] | rw [vI_updv] | skip
        refine mw_aload_n (i := 0) rfl rfl rfl ?_
        refine mw_getfield rfl f_X10_66 (by first | rfl | exact hO | exact hv | exact hhd | exact hcs | exact hru) rfl ?_
        refine mw_iload_n (i := 1) rfl rfl rfl ?_
        refine mw_iconst (v := nI 0) rfl (by decide) ?_
        refine mw_iast_m rfl (by first | rfl | exact hO | exact hv | exact hhd | exact hcs | exact hru) (by omega) (by omega) ?_
        first | rw [vI_upd] | rw [vI_updv] | skip
        first | refine mw_ninc rfl rfl (Nat.le_of_ble_eq_true rfl) ?_ | refine mw_iinc rfl rfl rfl (Nat.le_of_ble_eq_true rfl) ?_
        refine mw_goto rfl ?_
        exact mw_locals rfl ih
  refine mw_tail (K := 194) (fun j => if j < 0 ∨ 216 ≤ j then -1 else lr0 j) hlr (fun j hj => by rw [if_neg (by omega)]) ?_
  refine mw_tail (K := 196) (vI (fun j => if j < 0 ∨ 216 ≤ j then 0 else z0 j)) hsz (fun j hj => by simp only [vI]; rw [if_neg (by omega)]) ?_
  refine mw_tail (K := 197) (vI (fun j => if j < 0 ∨ 216 ≤ j then 0 else u0 j)) hus (fun j hj => by simp only [vI]; rw [if_neg (by omega)]) ?_
  rw [hset_1 h, hset_mov, hset_mov]
  refine mw_heap (h2 := mov [(194, .inl (.int, 216, .inl (fun j => if j < 0 ∨ 216 ≤ j then -1 else lr0 j))), (196, .inl (.int, 216, .inl (vI (fun j => if j < 0 ∨ 216 ≤ j then 0 else z0 j)))), (197, .inl (.int, 216, .inl (vI (fun j => if j < 0 ∨ 216 ≤ j then 0 else u0 j)))), (195, .inl (.int, 216, .inl (vI lb0)))] h) ?_ ?_
  · exact mov_app (l := [(194, .inl (.int, 216, .inl (fun j => if j < 0 ∨ 216 ≤ j then -1 else lr0 j))), (196, .inl (.int, 216, .inl (vI (fun j => if j < 0 ∨ 216 ≤ j then 0 else z0 j)))), (197, .inl (.int, 216, .inl (vI (fun j => if j < 0 ∨ 216 ≤ j then 0 else u0 j))))]) (l2 := [(195, .inl (.int, 216, .inl (vI lb0)))]) (by simp [hlb])
  · refine mw_iconst (v := nI 0) rfl (by decide) ?_
    refine mw_istore_n (i := 1) rfl rfl (Nat.le_of_ble_eq_true rfl) ?_
    exact mw_locals rfl (loopA 0 (by omega))
end
section
/-- what can be derived: one pass -/
def dvI (S : HoS) (i : Nat) (p : (Nat → Bool) × Bool) : (Nat → Bool) × Bool :=
  if p.1 (S.2.2.1 i) = false ∧ allL S p.1 i = true then (updN p.1 (S.2.2.1 i) true, true) else p
def dvP (S : HoS) (D : Nat → Bool) : (Nat → Bool) × Bool := itN (dvI S) (D, false) S.1
def dvK (v : Nat → Nat) (x : Int32) (k : Nat) (D : Nat → Bool) : Nat → Bool := updN D (v (9 + 3 * k)) (D (v (9 + 3 * k)) || delB x k)
def dvBase (v : Nat → Nat) (x : Int32) : Nat → Bool := itN (dvK v x) (fun _ => false) (v 1)
/-- how many are not derived -/
def ndv (D : Nat → Bool) : Nat → Nat
  | 0 => 0
  | k + 1 => ndv D k + (if D k then 0 else 1)
theorem ndv_upd {D : Nat → Bool} {f : Nat} (hz : D f = false) : ∀ n, ndv (updN D f true) n + (if f < n then 1 else 0) = ndv D n
  | 0 => by simp [ndv]
  | n + 1 => by
    have ih := ndv_upd hz n
    simp only [ndv]
    by_cases e : n = f
    · subst e
      have e1 : (if updN D n true n then 0 else 1) = 0 := by rw [updN_same]; rfl
      have e2 : (if D n then 0 else 1) = 1 := by rw [hz]; rfl
      rw [e1, e2, if_pos (Nat.lt_succ_self _)]
      rw [if_neg (Nat.lt_irrefl _)] at ih
      omega
    · rw [updN_ne _ _ e]
      by_cases q : f < n
      · rw [if_pos q] at ih
        rw [if_pos (show f < n + 1 by omega)]
        omega
      · rw [if_neg q] at ih
        rw [if_neg (show ¬ f < n + 1 by omega)]
        omega
theorem dvI_n {S : HoS} {i s0 N : Nat} (hf : S.2.2.1 i < N) {p : (Nat → Bool) × Bool} (h : ndv p.1 N ≤ s0 ∧ (p.2 = true → ndv p.1 N < s0)) : ndv (dvI S i p).1 N ≤ s0 ∧ ((dvI S i p).2 = true → ndv (dvI S i p).1 N < s0) := by
  unfold dvI
  split
  · rename_i hc
    have h1 := ndv_upd hc.1 N
    rw [if_pos hf] at h1
    have h2 : ndv (updN p.1 (S.2.2.1 i) true) N < s0 := by omega
    exact ⟨Nat.le_of_lt h2, fun _ => h2⟩
  · exact h
theorem dvI_same {S : HoS} {i : Nat} {D : Nat → Bool} {p : (Nat → Bool) × Bool} (h : p.2 = true ∨ p.1 = D) : (dvI S i p).2 = true ∨ (dvI S i p).1 = D := by
  unfold dvI
  split
  · exact Or.inl rfl
  · exact h
theorem dvN_flag {v : Nat → Nat} {S : HoS} (hS : HoOk v S) (D : Nat → Bool) (N : Nat) (hN : N = 216) : ((dvP S D).2 = true → ndv (dvP S D).1 N < ndv D N) ∧ ((dvP S D).2 = false → (dvP S D).1 = D) := by
  have h1 := itN_inv (P := fun p : (Nat → Bool) × Bool => ndv p.1 N ≤ ndv D N ∧ (p.2 = true → ndv p.1 N < ndv D N)) (s := dvI S) (N := S.1) (fun i hi p hp => dvI_n (by have := (hS.2 i hi).2.1; omega) hp) S.1 (Nat.le_refl _) (a := (D, false)) ⟨Nat.le_refl _, fun q => absurd (show false = true from q) (by decide)⟩
  have h2 := itN_inv (P := fun p : (Nat → Bool) × Bool => p.2 = true ∨ p.1 = D) (s := dvI S) (N := S.1) (fun i _ p hp => dvI_same hp) S.1 (Nat.le_refl _) (a := (D, false)) (Or.inr rfl)
  exact ⟨h1.2, fun q => h2.resolve_left (by show ¬ (dvP S D).2 = true; rw [q]; decide)⟩
theorem dvLim {v : Nat → Nat} {S : HoS} (hS : HoOk v S) (D0 : Nat → Bool) : ∃ D, IsLim (fun D => (dvP S D).1) D0 D :=
  lim_ex (fun _ => True) (fun D => ndv D 216) (fun _ _ => trivial) (fun D _ => by
    have h := dvN_flag hS D 216 rfl
    cases q : (dvP S D).2
    · exact Or.inl (h.2 q)
    · exact Or.inr (h.1 q)) (ndv D0 216) D0 (Nat.le_refl _) trivial
theorem dvP_ne {v : Nat → Nat} {S : HoS} (hS : HoOk v S) {D : Nat → Bool} (h : (dvP S D).2 = true) : (dvP S D).1 ≠ D := by
  intro e
  have h1 := (dvN_flag hS D 216 rfl).1 h
  rw [e] at h1
  omega
theorem litB_mono {D E : Nat → Bool} (h : ∀ f, D f = true → E f = true) {x : Int32} (q : litB D x = true) : litB E x = true := by
  unfold litB at q ⊢
  split
  · rfl
  · rename_i e
    rw [if_neg e] at q
    exact h _ q
theorem allL_mono {S : HoS} {D E : Nat → Bool} (h : ∀ f, D f = true → E f = true) {i : Nat} (q : allL S D i = true) : allL S E i = true := by
  unfold allL at q ⊢
  rw [andN_iff] at q ⊢
  exact fun a ha => litB_mono h (q a ha)
/-- closed under the instances -/
def DvC (S : HoS) (D : Nat → Bool) : Prop := ∀ i, i < S.1 → allL S D i = true → D (S.2.2.1 i) = true
theorem dvI_flag {S : HoS} {D : Nat → Bool} : ∀ n, (itN (dvI S) (D, false) n).2 = false → itN (dvI S) (D, false) n = (D, false) ∧ ∀ i, i < n → allL S D i = true → D (S.2.2.1 i) = true
  | 0, _ => ⟨rfl, fun i hi => absurd hi (Nat.not_lt_zero i)⟩
  | n + 1, h => by
    have e : itN (dvI S) (D, false) (n + 1) = dvI S n (itN (dvI S) (D, false) n) := rfl
    rw [e] at h ⊢
    have h0 : (itN (dvI S) (D, false) n).2 = false := by
      unfold dvI at h
      split at h
      · cases h
      · exact h
    obtain ⟨h1, h2⟩ := dvI_flag n h0
    rw [h1] at h ⊢
    have hc : ¬ (D (S.2.2.1 n) = false ∧ allL S D n = true) := by
      intro hc
      unfold dvI at h
      rw [if_pos hc] at h
      cases h
    refine ⟨by unfold dvI; rw [if_neg hc], fun i hi ha => ?_⟩
    by_cases q : i = n
    · subst q
      cases q2 : D (S.2.2.1 i)
      · exact absurd ⟨q2, ha⟩ hc
      · rfl
    · exact h2 i (by omega) ha
theorem dvLim_closed {v : Nat → Nat} {S : HoS} (hS : HoOk v S) {D : Nat → Bool} (e : (dvP S D).1 = D) : DvC S D := by
  have h : (dvP S D).2 = false := by
    cases q : (dvP S D).2
    · rfl
    · exact absurd e (dvP_ne hS q)
  exact (dvI_flag S.1 h).2
theorem dvI_sub {S : HoS} {E : Nat → Bool} (hE : DvC S E) {i : Nat} (hi : i < S.1) {p : (Nat → Bool) × Bool} (h : ∀ f, p.1 f = true → E f = true) : ∀ f, (dvI S i p).1 f = true → E f = true := by
  unfold dvI
  split
  · rename_i hc
    intro f hf
    have hf : updN p.1 (S.2.2.1 i) true f = true := hf
    by_cases q : f = S.2.2.1 i
    · subst q
      exact hE i hi (allL_mono h hc.2)
    · rw [updN_ne _ _ q] at hf
      exact h f hf
  · exact h
theorem dvP_sub {S : HoS} {E D : Nat → Bool} (hE : DvC S E) (h : ∀ f, D f = true → E f = true) : ∀ f, (dvP S D).1 f = true → E f = true :=
  itN_inv (P := fun p : (Nat → Bool) × Bool => ∀ f, p.1 f = true → E f = true) (s := dvI S) (N := S.1) (fun i hi p hp => dvI_sub hE hi hp) S.1 (Nat.le_refl _) (a := (D, false)) h
theorem dvI_sup {S : HoS} {i : Nat} {p : (Nat → Bool) × Bool} : ∀ f, p.1 f = true → (dvI S i p).1 f = true := by
  intro f hf
  unfold dvI
  split
  · show updN p.1 (S.2.2.1 i) true f = true
    unfold updN
    split
    · rfl
    · exact hf
  · exact hf
theorem dvIt_sub {S : HoS} {D0 : Nat → Bool} : ∀ k, ∀ f, D0 f = true → itN (fun _ D => (dvP S D).1) D0 k f = true
  | 0, _, h => h
  | k + 1, f, h => by
    have h1 := dvIt_sub (S := S) k f h
    have h2 : ∀ n, (itN (dvI S) (itN (fun _ D => (dvP S D).1) D0 k, false) n).1 f = true := by
      intro n
      induction n with
      | zero => exact h1
      | succ n ih => exact dvI_sup f ih
    exact h2 S.1
theorem c_canDo (d n : Nat) (g : Nat) (x : Int32) (w : Nat → Int32) (v : Nat → Nat) (D0 E : Nat → Bool) (S : HoS) (h : Nat → MC) (hO : h 178 = RO w) (hw : w 6 = nI S.1) (hv : h 179 = .inl (.int, 189, .inl (vI v))) (hdv : h 198 = .inl (.boolean, 216, .inl (bIf D0))) (hok : OkN v) (hS : HoOk v S) (hA : HoAt h S) (hg : g < 216) (hl : IsLim (fun D => (dvP S D).1) (dvBase v x) E) : Sp M_X10_canDo (d + 1) 0 0 [.ref 178, .int (nI g), .int x] h n (fun r h1 => r = some (.int (bI (E g))) ∧ ∃ D : Nat → Bool, h1 = mov [(198, .inl (.boolean, 216, .inl (bIf D)))] h) := by
  show MW _ _ _ _ _ _ _ _ _ _ _ _
  generalize hpost : (fun (r : Option Value) (h1 : Nat → MC) => r = some (.int (bI (E g))) ∧ ∃ D : Nat → Bool, h1 = mov [(198, .inl (.boolean, 216, .inl (bIf D)))] h) = post
  have hp : ∀ D : Nat → Bool, post (some (.int (bI (E g)))) (mov [(198, .inl (.boolean, 216, .inl (bIf D)))] h) := by
    intro D
    rw [← hpost]
    exact ⟨rfl, D, rfl⟩
  clear hpost
  obtain ⟨hru, hhd, hli⟩ := hA
  have hf12 := hok.2.2.1
  have h1728 := hS.1
  have hEc : DvC S E := by
    obtain ⟨k, -, e⟩ := hl
    exact dvLim_closed hS e
  have hE0 : ∀ f, dvBase v x f = true → E f = true := by
    obtain ⟨k, rfl, -⟩ := hl
    exact dvIt_sub k
  have hex : ∀ (fl : Bool) (D : Nat → Bool), D g = E g → (fl = false ∨ D g = true) → MW M_X10_canDo (d + 1) 0 0 n post 90 [(0, .ref 178), (1, .int (nI g)), (3, .int (bI fl))] [] (mov [(198, .inl (.boolean, 216, .inl (bIf D)))] h) n 0 := by
    intro fl D e hfl
    refine mw_iload_n (i := 3) rfl rfl rfl ?_
    refine mw_b_eq rfl (fun q => ?_) (fun q => ?_)
    · refine mw_aload_n (i := 0) rfl rfl rfl ?_
      refine mw_getfield rfl f_X10_69 (by first | rfl | exact hO | exact hv | exact hhd) rfl ?_
      refine mw_iload_n (i := 1) rfl rfl rfl ?_
      refine mw_zald_v (v := bI (E g)) rfl (by rfl) (by omega) (by omega) (show bIf D g = bI (E g) by show bI (D g) = _; rw [e]) ?_
      first | exact mw_ireturn rfl rfl (bI_nar _) rfl (Nat.le_refl _) (hp D) | exact mw_ireturn rfl rfl rfl rfl (Nat.le_refl _) (hp D)
    · refine mw_aload_n (i := 0) rfl rfl rfl ?_
      refine mw_getfield rfl f_X10_69 (by first | rfl | exact hO | exact hv | exact hhd) rfl ?_
      refine mw_iload_n (i := 1) rfl rfl rfl ?_
      refine mw_zald rfl (by first | rfl | exact hO | exact hv | exact hhd) (by omega) (by omega) ?_
      refine mw_b_ne rfl (fun q2 => ?_) (fun q2 => ?_)
      · refine mw_aload_n (i := 0) rfl rfl rfl ?_
        refine mw_getfield rfl f_X10_69 (by first | rfl | exact hO | exact hv | exact hhd) rfl ?_
        refine mw_iload_n (i := 1) rfl rfl rfl ?_
        refine mw_zald_v (v := bI (E g)) rfl (by rfl) (by omega) (by omega) (show bIf D g = bI (E g) by show bI (D g) = _; rw [e]) ?_
        first | exact mw_ireturn rfl rfl (bI_nar _) rfl (Nat.le_refl _) (hp D) | exact mw_ireturn rfl rfl rfl rfl (Nat.le_refl _) (hp D)
      · rcases hfl with q3 | q3
        · rw [q] at q3; cases q3
        · rw [q2] at q3; cases q3
  have loopI : ∀ D : Nat → Bool, MW M_X10_canDo (d + 1) 0 0 n post 90 [(0, .ref 178), (1, .int (nI g)), (3, .int (bI (dvP S D).2))] [] (mov [(198, .inl (.boolean, 216, .inl (bIf (dvP S D).1)))] h) n 0 → ∀ i, i ≤ S.1 → MW M_X10_canDo (d + 1) 0 0 n post 108 [(0, .ref 178), (1, .int (nI g)), (3, .int (bI (itN (dvI S) (D, false) i).2)), (4, .int (nI i))] [] (mov [(198, .inl (.boolean, 216, .inl (bIf (itN (dvI S) (D, false) i).1)))] h) n 0 := by
    intro D k
    refine loop_up S.1 ?_ ?_
    · refine mw_iload rfl rfl ?_
      refine mw_aload_n (i := 0) rfl rfl rfl ?_
      refine mw_getfield rfl f_X10_157 (by first | rfl | exact hO | exact hv | exact hhd) rfl ?_
      rw [hw]
      refine mw_n_ge rfl (by omega) (by omega) (fun q => ?_) (fun q => ?_)
      · refine mw_goto rfl ?_
        exact mw_locals rfl k
      · omega
    · intro i hi ih
      have hhi := (hS.2 i hi).2.1
      generalize hQ : itN (dvI S) (D, false) i = Q at ⊢
      have eQ : itN (dvI S) (D, false) (i + 1) = dvI S i Q := by rw [← hQ]; rfl
      rw [eQ] at ih
      refine mw_iload rfl rfl ?_
      refine mw_aload_n (i := 0) rfl rfl rfl ?_
      refine mw_getfield rfl f_X10_157 (by first | rfl | exact hO | exact hv | exact hhd) rfl ?_
      rw [hw]
      refine mw_n_ge rfl (by omega) (by omega) (fun q => ?_) (fun q => ?_)
      · omega
      · refine mw_aload_n (i := 0) rfl rfl rfl ?_
        refine mw_getfield rfl f_X10_69 (by first | rfl | exact hO | exact hv | exact hhd) rfl ?_
        refine mw_aload_n (i := 0) rfl rfl rfl ?_
        refine mw_getfield rfl f_X10_44 (by first | rfl | exact hO | exact hv | exact hhd) rfl ?_
        refine mw_iload rfl rfl ?_
        refine mw_iald rfl (by first | rfl | exact hO | exact hv | exact hhd) (by omega) (by omega) ?_
        refine mw_zald rfl (by first | rfl | exact hO | exact hv | exact hhd) (by omega) (by omega) ?_
        refine mw_b_ne rfl (fun q1 => ?_) (fun q1 => ?_)
        · rw [show dvI S i Q = Q by unfold dvI; rw [if_neg (by intro e; rw [q1] at e; exact absurd e.1 (by decide))]] at ih
          first | refine mw_ninc rfl rfl (Nat.le_of_ble_eq_true rfl) ?_ | refine mw_iinc rfl rfl rfl (Nat.le_of_ble_eq_true rfl) ?_
          refine mw_goto rfl ?_
          exact mw_locals rfl ih
        · refine mw_aload_n (i := 0) rfl rfl rfl ?_
          refine mw_iload rfl rfl ?_
          refine mw_callV_f (c_areDerived d n i w v Q.1 S _ hO rfl hS ⟨hru, hhd, hli⟩ hi) rfl ok_X10_areDerived v_X10_224 rfl (by first | rfl | exact hO | exact hv | exact hhd) (by intro e; cases e) rfl (Nat.le_of_ble_eq_true rfl) rfl (Nat.le_of_ble_eq_true rfl) (by omega) (by omega) (by omega) ?_
          refine mw_b_eq rfl (fun q2 => ?_) (fun q2 => ?_)
          · rw [show dvI S i Q = Q by unfold dvI; rw [if_neg (by intro e; rw [q2] at e; exact absurd e.2 (by decide))]] at ih
            first | refine mw_ninc rfl rfl (Nat.le_of_ble_eq_true rfl) ?_ | refine mw_iinc rfl rfl rfl (Nat.le_of_ble_eq_true rfl) ?_
            refine mw_goto rfl ?_
            exact mw_locals rfl ih
          · rw [show dvI S i Q = (updN Q.1 (S.2.2.1 i) true, true) by unfold dvI; rw [if_pos ⟨q1, q2⟩]] at ih
            refine mw_aload_n (i := 0) rfl rfl rfl ?_
            refine mw_getfield rfl f_X10_69 (by first | rfl | exact hO | exact hv | exact hhd) rfl ?_
            refine mw_aload_n (i := 0) rfl rfl rfl ?_
            refine mw_getfield rfl f_X10_44 (by first | rfl | exact hO | exact hv | exact hhd) rfl ?_
            refine mw_iload rfl rfl ?_
            refine mw_iald rfl (by first | rfl | exact hO | exact hv | exact hhd) (by omega) (by omega) ?_
            refine mw_iconst (v := nI 1) rfl (by decide) ?_
            first | refine mw_zast_m rfl (by first | rfl | exact hO | exact hv | exact hhd) (by omega) (by omega) (bI_z _) ?_ | refine mw_zast_m rfl (by first | rfl | exact hO | exact hv | exact hhd) (by omega) (by omega) (by decide) ?_
            first | rw [bIf_updt] | rw [bIf_updf] | rw [bIf_upd] | skip
            refine mw_iconst (v := nI 1) rfl (by decide) ?_
            refine mw_istore_n (i := 3) rfl rfl (Nat.le_of_ble_eq_true rfl) ?_
            first | refine mw_ninc rfl rfl (Nat.le_of_ble_eq_true rfl) ?_ | refine mw_iinc rfl rfl rfl (Nat.le_of_ble_eq_true rfl) ?_
            refine mw_goto rfl ?_
            exact mw_locals rfl ih
  have hW : MW M_X10_canDo (d + 1) 0 0 n post 90 [(0, .ref 178), (1, .int (nI g)), (3, .int (bI true))] [] (mov [(198, .inl (.boolean, 216, .inl (bIf (dvBase v x))))] h) n 0 := by
    refine while_lim (P := dvP S) (H := fun fl D => MW M_X10_canDo (d + 1) 0 0 n post 90 [(0, .ref 178), (1, .int (nI g)), (3, .int (bI fl))] [] (mov [(198, .inl (.boolean, 216, .inl (bIf D)))] h) n 0) (I := fun D => ∀ f, D f = true → E f = true) hl hE0 (fun D hD => dvP_sub hEc hD) (fun D _ => (dvN_flag hS D 216 rfl).2) (fun D _ => dvP_ne hS) (hex false E rfl (Or.inl rfl)) ?_
    intro D hD k
    show MW M_X10_canDo (d + 1) 0 0 n post 90 [(0, .ref 178), (1, .int (nI g)), (3, .int (bI true))] [] (mov [(198, .inl (.boolean, 216, .inl (bIf D)))] h) n 0
    cases q0 : D g
    · refine mw_iload_n (i := 3) rfl rfl rfl ?_
      refine mw_b_eq rfl (fun q => ?_) (fun q => ?_)
      · cases q
      · refine mw_aload_n (i := 0) rfl rfl rfl ?_
        refine mw_getfield rfl f_X10_69 (by first | rfl | exact hO | exact hv | exact hhd) rfl ?_
        refine mw_iload_n (i := 1) rfl rfl rfl ?_
        refine mw_zald_v (v := bI false) rfl (by rfl) (by omega) (by omega) (show bIf D g = bI false by show bI (D g) = _; rw [q0]) ?_
        refine mw_b_ne rfl (fun q2 => ?_) (fun q2 => ?_)
        · cases q2
        · refine mw_iconst (v := nI 0) rfl (by decide) ?_
          refine mw_istore_n (i := 3) rfl rfl (Nat.le_of_ble_eq_true rfl) ?_
          refine mw_iconst (v := nI 0) rfl (by decide) ?_
          refine mw_istore rfl (Nat.le_of_ble_eq_true rfl) ?_
          exact mw_locals rfl (loopI D k 0 (Nat.zero_le _))
    · exact hex true D (by rw [q0, hD g q0]) (Or.inr q0)
  have loopK : ∀ k, k ≤ v 1 → MW M_X10_canDo (d + 1) 0 0 n post 24 [(0, .ref 178), (1, .int (nI g)), (2, .int x), (3, .int (nI k))] [] (mov [(198, .inl (.boolean, 216, .inl (bIf (itN (dvK v x) (fun _ => false) k))))] h) n 0 := by
    refine loop_up (v 1) ?_ ?_
    · refine mw_iload_n (i := 3) rfl rfl rfl ?_
      refine mw_aload_n (i := 0) rfl rfl rfl ?_
      refine mw_getfield rfl f_X10_7 (by first | rfl | exact hO | exact hv | exact hhd) rfl ?_
      refine mw_iconst (v := nI 1) rfl (by decide) ?_
      refine mw_iald rfl (by first | rfl | exact hO | exact hv | exact hhd) (by omega) (by omega) ?_
      refine mw_n_ge rfl (by omega) (by omega) (fun q => ?_) (fun q => ?_)
      · refine mw_iconst (v := nI 1) rfl (by decide) ?_
        refine mw_istore_n (i := 3) rfl rfl (Nat.le_of_ble_eq_true rfl) ?_
        exact mw_locals rfl hW
      · omega
    · intro k hk ih
      have hf := (hok.2.2.2.2.2.1 k hk).1
      generalize hQ : itN (dvK v x) (fun _ => false) k = Q at ⊢
      have eQ : itN (dvK v x) (fun _ => false) (k + 1) = dvK v x k Q := by rw [← hQ]; rfl
      rw [eQ] at ih
      refine mw_iload_n (i := 3) rfl rfl rfl ?_
      refine mw_aload_n (i := 0) rfl rfl rfl ?_
      refine mw_getfield rfl f_X10_7 (by first | rfl | exact hO | exact hv | exact hhd) rfl ?_
      refine mw_iconst (v := nI 1) rfl (by decide) ?_
      refine mw_iald rfl (by first | rfl | exact hO | exact hv | exact hhd) (by omega) (by omega) ?_
      refine mw_n_ge rfl (by omega) (by omega) (fun q => ?_) (fun q => ?_)
      · omega
      · refine mw_aload_n (i := 0) rfl rfl rfl ?_
        refine mw_getfield rfl f_X10_69 (by first | rfl | exact hO | exact hv | exact hhd) rfl ?_
        refine mw_aload_n (i := 0) rfl rfl rfl ?_
        refine mw_getfield rfl f_X10_7 (by first | rfl | exact hO | exact hv | exact hhd) rfl ?_
        refine mw_bipush (v := nI 9) rfl (by decide) ?_
        refine mw_iconst (v := nI 3) rfl (by decide) ?_
        refine mw_iload_n (i := 3) rfl rfl rfl ?_
        first | refine mw_nmul rfl ?_ | refine mw_imul rfl ?_
        first | refine mw_nadd rfl ?_ | refine mw_iadd rfl ?_
        refine mw_iald rfl (by first | rfl | exact hO | exact hv | exact hhd) (by omega) (by omega) ?_
        refine mw_aload_n (i := 0) rfl rfl rfl ?_
        refine mw_getfield rfl f_X10_69 (by first | rfl | exact hO | exact hv | exact hhd) rfl ?_
        refine mw_aload_n (i := 0) rfl rfl rfl ?_
        refine mw_getfield rfl f_X10_7 (by first | rfl | exact hO | exact hv | exact hhd) rfl ?_
        refine mw_bipush (v := nI 9) rfl (by decide) ?_
        refine mw_iconst (v := nI 3) rfl (by decide) ?_
        refine mw_iload_n (i := 3) rfl rfl rfl ?_
        first | refine mw_nmul rfl ?_ | refine mw_imul rfl ?_
        first | refine mw_nadd rfl ?_ | refine mw_iadd rfl ?_
        refine mw_iald rfl (by first | rfl | exact hO | exact hv | exact hhd) (by omega) (by omega) ?_
        refine mw_zald rfl (by first | rfl | exact hO | exact hv | exact hhd) (by omega) (by omega) ?_
        refine mw_b_ne rfl (fun q1 => ?_) (fun q1 => ?_)
        · rw [show dvK v x k Q = updN Q (v (9 + 3 * k)) true by unfold dvK; rw [q1, Bool.true_or]] at ih
          refine mw_iconst (v := nI 1) rfl (by decide) ?_
          refine mw_goto rfl ?_
          first | refine mw_zast_m rfl (by first | rfl | exact hO | exact hv | exact hhd) (by omega) (by omega) (bI_z _) ?_ | refine mw_zast_m rfl (by first | rfl | exact hO | exact hv | exact hhd) (by omega) (by omega) (by decide) ?_
          first | rw [bIf_updt] | rw [bIf_updf] | rw [bIf_upd] | skip
          first | refine mw_ninc rfl rfl (Nat.le_of_ble_eq_true rfl) ?_ | refine mw_iinc rfl rfl rfl (Nat.le_of_ble_eq_true rfl) ?_
          refine mw_goto rfl ?_
          exact mw_locals rfl ih
        · refine mw_iload_n (i := 2) rfl rfl rfl ?_
          refine mw_iload_n (i := 3) rfl rfl rfl ?_
          refine mw_ishr rfl ?_
          refine mw_iconst (v := nI 1) rfl (by decide) ?_
          refine mw_iand rfl ?_
          refine mw_if_ne rfl (fun q2 => ?_) (fun q2 => ?_)
          · rw [show dvK v x k Q = updN Q (v (9 + 3 * k)) false by unfold dvK; rw [q1, Bool.false_or, show delB x k = false by simp only [delB]; exact decide_eq_false q2]] at ih
            refine mw_iconst (v := nI 0) rfl (by decide) ?_
            first | refine mw_zast_m rfl (by first | rfl | exact hO | exact hv | exact hhd) (by omega) (by omega) (bI_z _) ?_ | refine mw_zast_m rfl (by first | rfl | exact hO | exact hv | exact hhd) (by omega) (by omega) (by decide) ?_
            first | rw [bIf_updt] | rw [bIf_updf] | rw [bIf_upd] | skip
            first | refine mw_ninc rfl rfl (Nat.le_of_ble_eq_true rfl) ?_ | refine mw_iinc rfl rfl rfl (Nat.le_of_ble_eq_true rfl) ?_
            refine mw_goto rfl ?_
            exact mw_locals rfl ih
          · rw [show dvK v x k Q = updN Q (v (9 + 3 * k)) true by unfold dvK; rw [q1, Bool.false_or, show delB x k = true by simp only [delB]; exact decide_eq_true q2]] at ih
            refine mw_iconst (v := nI 1) rfl (by decide) ?_
            refine mw_goto rfl ?_
            first | refine mw_zast_m rfl (by first | rfl | exact hO | exact hv | exact hhd) (by omega) (by omega) (bI_z _) ?_ | refine mw_zast_m rfl (by first | rfl | exact hO | exact hv | exact hhd) (by omega) (by omega) (by decide) ?_
            first | rw [bIf_updt] | rw [bIf_updf] | rw [bIf_upd] | skip
            first | refine mw_ninc rfl rfl (Nat.le_of_ble_eq_true rfl) ?_ | refine mw_iinc rfl rfl rfl (Nat.le_of_ble_eq_true rfl) ?_
            refine mw_goto rfl ?_
            exact mw_locals rfl ih
  have loopA : ∀ k, k ≤ 216 → MW M_X10_canDo (d + 1) 0 0 n post 2 [(0, .ref 178), (1, .int (nI g)), (2, .int x), (3, .int (nI k))] [] (mov [(198, .inl (.boolean, 216, .inl (bIf (fun j => if j < k ∨ 216 ≤ j then false else D0 j))))] h) n 0 := by
    refine loop_up 216 ?_ ?_
    · refine mw_iload_n (i := 3) rfl rfl rfl ?_
      refine mw_sipush (v := nI 216) rfl (by decide) ?_
      refine mw_n_ge rfl (by omega) (by omega) (fun q => ?_) (fun q => ?_)
      · rw [show (fun j => if j < 216 ∨ 216 ≤ j then false else D0 j) = (fun _ => false) by funext j; rw [if_pos (by omega)]]
        refine mw_iconst (v := nI 0) rfl (by decide) ?_
        refine mw_istore_n (i := 3) rfl rfl (Nat.le_of_ble_eq_true rfl) ?_
        exact mw_locals rfl (loopK 0 (Nat.zero_le _))
      · omega
    · intro k hk ih
      have e : updN (fun j => if j < k ∨ 216 ≤ j then false else D0 j) k false = (fun j => if j < k + 1 ∨ 216 ≤ j then false else D0 j) := by
        funext j
        simp only [updN]
        by_cases q : j = k
        · rw [if_pos q, if_pos (by omega)]
        · rw [if_neg q]
          have q3 : (j < k + 1 ∨ 216 ≤ j) ↔ (j < k ∨ 216 ≤ j) := by omega
          simp only [q3]
      rw [← e] at ih
      refine mw_iload_n (i := 3) rfl rfl rfl ?_
      refine mw_sipush (v := nI 216) rfl (by decide) ?_
      refine mw_n_ge rfl (by omega) (by omega) (fun q => ?_) (fun q => ?_)
      · omega
      · refine mw_aload_n (i := 0) rfl rfl rfl ?_
        refine mw_getfield rfl f_X10_69 (by first | rfl | exact hO | exact hv | exact hhd) rfl ?_
        refine mw_iload_n (i := 3) rfl rfl rfl ?_
        refine mw_iconst (v := nI 0) rfl (by decide) ?_
        first | refine mw_zast_m rfl (by first | rfl | exact hO | exact hv | exact hhd) (by omega) (by omega) (bI_z _) ?_ | refine mw_zast_m rfl (by first | rfl | exact hO | exact hv | exact hhd) (by omega) (by omega) (by decide) ?_
        first | rw [bIf_updt] | rw [bIf_updf] | rw [bIf_upd] | skip
        first | refine mw_ninc rfl rfl (Nat.le_of_ble_eq_true rfl) ?_ | refine mw_iinc rfl rfl rfl (Nat.le_of_ble_eq_true rfl) ?_
        refine mw_goto rfl ?_
        exact mw_locals rfl ih
  refine mw_tail (K := 198) (bIf (fun j => if j < 0 ∨ 216 ≤ j then false else D0 j)) hdv (fun j hj => by simp only [bIf]; rw [if_neg (by omega)]) ?_
  rw [hset_1]
  refine mw_iconst (v := nI 0) rfl (by decide) ?_
  refine mw_istore_n (i := 3) rfl rfl (Nat.le_of_ble_eq_true rfl) ?_
  exact mw_locals rfl (loopA 0 (by omega))
end
section
/-- a float from 0 to 1, by its bits -/
def UF (x : UInt32) : Prop := x.toNat ≤ 1065353216
def fM1 : UInt32 := 3212836864
theorem uf_n32 {x : UInt32} (h : UF x) : vf_n32 x := by
  unfold vf_n32
  unfold UF at h
  rw [UInt32.le_iff_toNat_le, UInt32.toNat_and]
  have h1 : x.toNat &&& (2147483647 : UInt32).toNat ≤ x.toNat := Nat.and_le_left
  have h2 : (2139095040 : UInt32).toNat = 2139095040 := by decide
  exact Nat.le_trans h1 (by rw [h2]; omega)
-- laws of the float core (proofs want JvmDerived.FloatLaws2: last)
theorem uf_mul {x y : UInt32} (hx : UF x) (hy : UF y) : (FP.fmul x y).toNat ≤ x.toNat ∧ (FP.fmul x y).toNat ≤ y.toNat := by sorry
theorem uf_cmp {x y : UInt32} (hx : UF x) (hy : UF y) : FP.fcmp x y = some (compare x.toNat y.toNat) := by sorry
theorem m1_cmp {y : UInt32} (hy : UF y) : FP.fcmp fM1 y = some .lt ∧ FP.fcmp y fM1 = some .gt := by sorry
theorem uf_mul_mono {x y x' y' : UInt32} (hx' : UF x') (hy' : UF y') (h1 : x.toNat ≤ x'.toNat) (h2 : y.toNat ≤ y'.toNat) : (FP.fmul x y).toNat ≤ (FP.fmul x' y').toNat := by sorry
theorem m1_m1 : FP.fcmp fM1 fM1 = some .eq := by decide +kernel
theorem uf_m {x y : UInt32} (hx : UF x) (hy : UF y) : UF (FP.fmul x y) := Nat.le_trans (uf_mul hx hy).1 hx
theorem uf_1 : UF FP.fconst1 := by unfold UF; decide
theorem uf_0 : UF FP.fconst0 := by unfold UF; decide
/-- the likelihood of a base fact of s sixteenths -/
def sixF (s : Nat) : UInt32 := FP.fdiv (FP.i2f (nI s)) 1098907648
theorem sixF_ok : ∀ s, s < 17 → 1 ≤ s → (sixF s).toNat ≤ 1065353216 ∧ 0 < (sixF s).toNat := by decide +kernel
theorem sixF_uf {s : Nat} (h1 : 1 ≤ s) (h2 : s ≤ 16) : UF (sixF s) := (sixF_ok s (by omega) h1).1
/-- known or not -/
def LkF (x : UInt32) : Prop := x = fM1 ∨ UF x
/-- the place of a likelihood in the order, 0 for unknown -/
def lkE (x : UInt32) : Nat := if x = fM1 then 0 else x.toNat + 1
theorem uf_ne {x : UInt32} (h : UF x) : x ≠ fM1 := fun e => by rw [e] at h; exact absurd h (by unfold UF; decide)
theorem lk_cmp {x y : UInt32} (hx : LkF x) (hy : LkF y) : FP.fcmp x y = some (compare (lkE x) (lkE y)) := by
  rcases hx with rfl | hx
  · rcases hy with rfl | hy
    · rw [m1_m1]; rfl
    · rw [(m1_cmp hy).1]
      have : lkE y = y.toNat + 1 := by unfold lkE; rw [if_neg (uf_ne hy)]
      rw [this, show lkE fM1 = 0 from rfl]
      rfl
  · have h1 : lkE x = x.toNat + 1 := by unfold lkE; rw [if_neg (uf_ne hx)]
    rcases hy with rfl | hy
    · rw [(m1_cmp hx).2, h1, show lkE fM1 = 0 from rfl]
      rfl
    · have h2 : lkE y = y.toNat + 1 := by unfold lkE; rw [if_neg (uf_ne hy)]
      rw [uf_cmp hx hy, h1, h2]
      congr 1
      rcases Nat.lt_trichotomy x.toNat y.toNat with h | h | h
      · rw [Nat.compare_eq_lt.mpr h, Nat.compare_eq_lt.mpr (show x.toNat + 1 < y.toNat + 1 by omega)]
      · rw [Nat.compare_eq_eq.mpr h, Nat.compare_eq_eq.mpr (show x.toNat + 1 = y.toNat + 1 by omega)]
      · rw [Nat.compare_eq_gt.mpr h, Nat.compare_eq_gt.mpr (show y.toNat + 1 < x.toNat + 1 by omega)]
theorem lk_gt {x y : UInt32} (hx : LkF x) (hy : LkF y) : (0 < Op.cmpValue (FP.fcmp x y) .l) ↔ lkE y < lkE x := by
  rw [lk_cmp hx hy]
  rcases Nat.lt_trichotomy (lkE x) (lkE y) with h | h | h
  · rw [Nat.compare_eq_lt.mpr h]
    exact ⟨fun q => absurd q (by decide), fun q => by omega⟩
  · rw [Nat.compare_eq_eq.mpr h]
    exact ⟨fun q => absurd q (by decide), fun q => by omega⟩
  · rw [Nat.compare_eq_gt.mpr h]
    exact ⟨fun _ => h, fun _ => by decide⟩
theorem lk_lt0 {x : UInt32} (hx : LkF x) : (Op.cmpValue (FP.fcmp x FP.fconst0) .g < 0) ↔ x = fM1 := by
  rcases hx with rfl | hx
  · exact ⟨fun _ => rfl, fun _ => by decide +kernel⟩
  · rw [uf_cmp hx uf_0]
    constructor
    · intro q
      have h0 : FP.fconst0.toNat = 0 := by decide
      rw [h0] at q
      rcases Nat.eq_zero_or_pos x.toNat with h | h
      · rw [h] at q
        exact absurd q (by decide)
      · rw [Nat.compare_eq_gt.mpr h] at q
        exact absurd q (by decide)
    · intro q
      exact absurd q (uf_ne hx)
end
section
def litF (l : Nat → UInt32) (x : Int32) (p : UInt32) : UInt32 := if x < 0 then p else FP.fmul p (l x.toNatClampNeg)
def litU (l : Nat → UInt32) (x : Int32) : Bool := if x < 0 then false else decide (l x.toNatClampNeg = fM1)
/-- likelihood by an instance -/
def lkS (S : HoS) (l : Nat → UInt32) (i a : Nat) : UInt32 := itN (fun a p => litF l (S.2.2.2.1 (3 * i + a)) p) FP.fconst1 a
def lkN (S : HoS) (l : Nat → UInt32) (i a : Nat) : Bool := anyN (fun a => litU l (S.2.2.2.1 (3 * i + a))) a
def lkB (S : HoS) (l : Nat → UInt32) (i : Nat) : UInt32 := if lkN S l i 3 then fM1 else lkS S l i 3
theorem anyN_le {f : Nat → Bool} {m : Nat} : ∀ {n : Nat}, m ≤ n → anyN f m = true → anyN f n = true := fun h q => by
  rw [anyN_iff] at q ⊢
  obtain ⟨k, h1, h2⟩ := q
  exact ⟨k, by omega, h2⟩
theorem lkS_uf {v : Nat → Nat} {S : HoS} {l : Nat → UInt32} (hS : HoOk v S) (hl : ∀ f, LkF (l f)) {i : Nat} (hi : i < S.1) : ∀ a, a ≤ 3 → lkN S l i a = false → UF (lkS S l i a)
  | 0, _, _ => uf_1
  | a + 1, ha, h => by
    have h0 : (lkN S l i a || litU l (S.2.2.2.1 (3 * i + a))) = false := h
    rw [Bool.or_eq_false_iff] at h0
    have ih := lkS_uf hS hl hi a (by omega) h0.1
    show UF (litF l (S.2.2.2.1 (3 * i + a)) (lkS S l i a))
    unfold litF
    split
    · exact ih
    · rename_i q
      have h1 := h0.2
      unfold litU at h1
      rw [if_neg q] at h1
      exact uf_m ih ((hl _).resolve_left (of_decide_eq_false h1))
theorem lkB_F {v : Nat → Nat} {S : HoS} {l : Nat → UInt32} (hS : HoOk v S) (hl : ∀ f, LkF (l f)) {i : Nat} (hi : i < S.1) : LkF (lkB S l i) := by
  unfold lkB
  split
  · exact Or.inl rfl
  · rename_i q
    exact Or.inr (lkS_uf hS hl hi 3 (Nat.le_refl _) (by simpa using q))
theorem c_likelyBy (d n : Nat) (i : Nat) (w : Nat → Int32) (v : Nat → Nat) (l : Nat → UInt32) (S : HoS) (h : Nat → MC) (hO : h 178 = RO w) (hlk : h 193 = .inl (.float, 216, .inr (.inr (.inl l)))) (hS : HoOk v S) (hA : HoAt h S) (hi : i < S.1) (hl : ∀ f, LkF (l f)) : Fn M_X10_likelyBy d 0 0 [.ref 178, .int (nI i)] h n (some (.float (lkB S l i))) h := by
  obtain ⟨hru, hhd, hli⟩ := hA
  have h1728 := hS.1
  obtain ⟨hr, hh, hlt⟩ := hS.2 i hi
  refine Fn.of fun post hp => ?_
  refine mw_fconst1 rfl ?_
  refine mw_fstore_n (i := 2) rfl rfl (Nat.le_of_ble_eq_true rfl) ?_
  refine mw_iconst (v := nI 0) rfl (by decide) ?_
  refine mw_istore_n (i := 3) rfl rfl (Nat.le_of_ble_eq_true rfl) ?_
  have loop : ∀ a, a ≤ 3 → lkN S l i a = false → MW M_X10_likelyBy d 0 0 n post 4 [(0, .ref 178), (1, .int (nI i)), (2, .float (lkS S l i a)), (3, .int (nI a))] [] h n 0 := by
    refine loop_up (P := fun a => lkN S l i a = false → MW M_X10_likelyBy d 0 0 n post 4 [(0, .ref 178), (1, .int (nI i)), (2, .float (lkS S l i a)), (3, .int (nI a))] [] h n 0) 3 ?_ ?_
    · intro hN
      rw [show lkB S l i = lkS S l i 3 by unfold lkB; rw [hN]; rfl] at hp
      refine mw_iload_n (i := 3) rfl rfl rfl ?_
      refine mw_iconst (v := nI 3) rfl (by decide) ?_
      refine mw_n_ge rfl (by omega) (by omega) (fun q => ?_) (fun q => ?_)
      · refine mw_fload_n (i := 2) rfl rfl rfl ?_
        exact mw_freturn rfl rfl rfl (Nat.le_refl _) (hp)
      · omega
    · intro a ha ih hN
      have hla := hlt a ha
      have huf := lkS_uf hS hl hi a (by omega) hN
      have eN : lkN S l i (a + 1) = (lkN S l i a || litU l (S.2.2.2.1 (3 * i + a))) := rfl
      have eS : lkS S l i (a + 1) = litF l (S.2.2.2.1 (3 * i + a)) (lkS S l i a) := rfl
      rw [eN, hN, Bool.false_or, eS] at ih
      rw [hN, Bool.false_or] at eN
      generalize hX : S.2.2.2.1 (3 * i + a) = x at hla ih eN
      refine mw_iload_n (i := 3) rfl rfl rfl ?_
      refine mw_iconst (v := nI 3) rfl (by decide) ?_
      refine mw_n_ge rfl (by omega) (by omega) (fun q => ?_) (fun q => ?_)
      · omega
      · refine mw_aload_n (i := 0) rfl rfl rfl ?_
        refine mw_getfield rfl f_X10_47 (by first | rfl | exact hO | exact hli | exact hlk) rfl ?_
        refine mw_iconst (v := nI 3) rfl (by decide) ?_
        refine mw_iload_n (i := 1) rfl rfl rfl ?_
        first | refine mw_nmul rfl ?_ | refine mw_imul rfl ?_
        refine mw_iload_n (i := 3) rfl rfl rfl ?_
        first | refine mw_nadd rfl ?_ | refine mw_iadd rfl ?_
        refine mw_iald_v (v := x) rfl hli (by omega) (by omega) hX ?_
        refine mw_istore rfl (Nat.le_of_ble_eq_true rfl) ?_
        refine mw_iload rfl rfl ?_
        refine mw_if_lt rfl (fun hx => ?_) (fun hx => ?_)
        · have ih := ih (by unfold litU; rw [if_pos hx])
          rw [show litF l x (lkS S l i a) = lkS S l i a by unfold litF; rw [if_pos hx]] at ih
          refine mw_iload rfl rfl ?_
          refine mw_if_ge rfl (fun hx2 => ?_) (fun hx2 => ?_)
          · exact absurd hx (Int32.not_lt.mpr hx2)
          · refine mw_fload_n (i := 2) rfl rfl rfl ?_
            refine mw_goto rfl ?_
            refine mw_fstore_n (i := 2) rfl rfl (Nat.le_of_ble_eq_true rfl) ?_
            first | refine mw_ninc rfl rfl (Nat.le_of_ble_eq_true rfl) ?_ | refine mw_iinc rfl rfl rfl (Nat.le_of_ble_eq_true rfl) ?_
            refine mw_goto rfl ?_
            exact mw_locals rfl ih
        · obtain ⟨f, hf, rfl⟩ := hla.resolve_left hx
          refine mw_aload_n (i := 0) rfl rfl rfl ?_
          refine mw_getfield rfl f_X10_53 (by first | rfl | exact hO | exact hli | exact hlk) rfl ?_
          refine mw_iload rfl rfl ?_
          refine mw_fald rfl (by first | rfl | exact hO | exact hli | exact hlk) (by omega) (by omega) ?_
          refine mw_fconst0 rfl ?_
          refine mw_fcmp rfl ?_
          refine mw_if_ge rfl (fun hge => ?_) (fun hge => ?_)
          · have hne : l f ≠ fM1 := fun e => absurd ((lk_lt0 (hl f)).mpr e) (Int32.not_lt.mpr hge)
            have hu : UF (l f) := (hl f).resolve_left hne
            have ih := ih (by unfold litU; rw [if_neg hx, nI_clamp (by omega)]; exact decide_eq_false hne)
            rw [show litF l (nI f) (lkS S l i a) = FP.fmul (lkS S l i a) (l f) by unfold litF; rw [if_neg hx, nI_clamp (by omega)]] at ih
            refine mw_iload rfl rfl ?_
            refine mw_if_ge rfl (fun hx2 => ?_) (fun hx2 => ?_)
            · refine mw_fload_n (i := 2) rfl rfl rfl ?_
              refine mw_aload_n (i := 0) rfl rfl rfl ?_
              refine mw_getfield rfl f_X10_53 (by first | rfl | exact hO | exact hli | exact hlk) rfl ?_
              refine mw_iload rfl rfl ?_
              refine mw_fald rfl (by first | rfl | exact hO | exact hli | exact hlk) (by omega) (by omega) ?_
              refine mw_fmul rfl (uf_n32 (uf_m huf hu)) ?_
              refine mw_fstore_n (i := 2) rfl rfl (Nat.le_of_ble_eq_true rfl) ?_
              first | refine mw_ninc rfl rfl (Nat.le_of_ble_eq_true rfl) ?_ | refine mw_iinc rfl rfl rfl (Nat.le_of_ble_eq_true rfl) ?_
              refine mw_goto rfl ?_
              exact mw_locals rfl ih
            · exact absurd (Int32.not_lt.mp hx) hx2
          · have he : l f = fM1 := (lk_lt0 (hl f)).mp (Int32.not_le.mp hge)
            have hN3 : lkN S l i 3 = true := anyN_le (m := a + 1) (by omega) (by
              show lkN S l i (a + 1) = true
              rw [eN]
              unfold litU
              rw [if_neg hx, nI_clamp (by omega)]
              exact decide_eq_true he)
            rw [show lkB S l i = fM1 by unfold lkB; rw [hN3]; rfl] at hp
            refine mw_ldcf rfl c_X10_202 ?_
            exact mw_freturn rfl rfl rfl (Nat.le_refl _) (hp)
  exact mw_locals rfl (loop 0 (Nat.zero_le _) rfl)
def lkI (S : HoS) (i : Nat) (p : (Nat → UInt32) × Bool) : (Nat → UInt32) × Bool :=
  if lkE (p.1 (S.2.2.1 i)) < lkE (lkB S p.1 i) then (updN p.1 (S.2.2.1 i) (lkB S p.1 i), true) else p
def lkP (S : HoS) (l : Nat → UInt32) : (Nat → UInt32) × Bool := itN (lkI S) (l, false) S.1
def lkK (v : Nat → Nat) (k : Nat) (l : Nat → UInt32) : Nat → UInt32 := updN l (v (9 + 3 * k)) (if lkE (l (v (9 + 3 * k))) < lkE (sixF (v (9 + 3 * k + 2))) then sixF (v (9 + 3 * k + 2)) else l (v (9 + 3 * k)))
def lkBase (v : Nat → Nat) : Nat → UInt32 := itN (lkK v) (fun _ => fM1) (v 1)
theorem lkE_le {x : UInt32} (h : LkF x) : lkE x ≤ 1065353217 := by
  unfold lkE
  split
  · omega
  · rename_i q
    have : x.toNat ≤ 1065353216 := h.resolve_left q
    omega
def LkA (l : Nat → UInt32) : Prop := ∀ f, LkF (l f)
theorem lkI_A {v : Nat → Nat} {S : HoS} (hS : HoOk v S) {i : Nat} (hi : i < S.1) {p : (Nat → UInt32) × Bool} (h : LkA p.1) : LkA (lkI S i p).1 := by
  unfold lkI
  split
  · intro f
    show LkF (updN _ _ _ f)
    unfold updN
    split
    · exact lkB_F hS h hi
    · exact h f
  · exact h
theorem lkIs_A {v : Nat → Nat} {S : HoS} (hS : HoOk v S) {l : Nat → UInt32} {b : Bool} (h : LkA l) (k : Nat) (hk : k ≤ S.1) : LkA (itN (lkI S) (l, b) k).1 :=
  itN_inv (P := fun p : (Nat → UInt32) × Bool => LkA p.1) (s := lkI S) (N := S.1) (fun i hi p hp => lkI_A hS hi hp) k hk (a := (l, b)) h
theorem lkK_A {v : Nat → Nat} (hok : OkN v) {k : Nat} (hk : k < v 1) {l : Nat → UInt32} (h : LkA l) : LkA (lkK v k l) := by
  obtain ⟨-, -, h1, h2⟩ := hok.2.2.2.2.2.1 k hk
  intro f
  unfold lkK updN
  split
  · split
    · exact Or.inr (sixF_uf h1 h2)
    · exact h _
  · exact h f
theorem lkKs_A {v : Nat → Nat} (hok : OkN v) (k : Nat) (hk : k ≤ v 1) : LkA (itN (lkK v) (fun _ => fM1) k) :=
  itN_inv (P := LkA) (s := lkK v) (N := v 1) (fun i hi p hp => lkK_A hok hi hp) k hk (fun _ => Or.inl rfl)
/-- how far the likelihoods are from 1, all together -/
def lkM (l : Nat → UInt32) (N : Nat) : Nat := sumN (fun f => 1065353217 - lkE (l f)) N
theorem lkI_m {v : Nat → Nat} {S : HoS} (hS : HoOk v S) {i s0 N : Nat} (hN : N = 216) (hi : i < S.1) {p : (Nat → UInt32) × Bool} (hA : LkA p.1) (h : lkM p.1 N ≤ s0 ∧ (p.2 = true → lkM p.1 N < s0)) : lkM (lkI S i p).1 N ≤ s0 ∧ ((lkI S i p).2 = true → lkM (lkI S i p).1 N < s0) := by
  unfold lkI
  split
  · rename_i hlt
    have h1 := sumN_upd (fun f => 1065353217 - lkE (p.1 f)) (S.2.2.1 i) (1065353217 - lkE (lkB S p.1 i)) N (by have := (hS.2 i hi).2.1; omega)
    have e : (fun f => 1065353217 - lkE (updN p.1 (S.2.2.1 i) (lkB S p.1 i) f)) = updN (fun f => 1065353217 - lkE (p.1 f)) (S.2.2.1 i) (1065353217 - lkE (lkB S p.1 i)) := by
      funext f
      by_cases q : f = S.2.2.1 i
      · rw [q, updN_same, updN_same]
      · rw [updN_ne _ _ q, updN_ne _ _ q]
    have h3 := lkE_le (lkB_F hS hA hi)
    have h2 : lkM (updN p.1 (S.2.2.1 i) (lkB S p.1 i)) N < s0 := by
      unfold lkM at h ⊢
      rw [e]
      omega
    exact ⟨Nat.le_of_lt h2, fun _ => h2⟩
  · exact h
theorem lkI_same {S : HoS} {i : Nat} {l : Nat → UInt32} {p : (Nat → UInt32) × Bool} (h : p.2 = true ∨ p.1 = l) : (lkI S i p).2 = true ∨ (lkI S i p).1 = l := by
  unfold lkI
  split
  · exact Or.inl rfl
  · exact h
theorem lkP_flag {v : Nat → Nat} {S : HoS} (hS : HoOk v S) {N : Nat} (hN : N = 216) {l : Nat → UInt32} (hA : LkA l) : ((lkP S l).2 = true → lkM (lkP S l).1 N < lkM l N) ∧ ((lkP S l).2 = false → (lkP S l).1 = l) := by
  have h1 := itN_inv (P := fun p : (Nat → UInt32) × Bool => LkA p.1 ∧ lkM p.1 N ≤ lkM l N ∧ (p.2 = true → lkM p.1 N < lkM l N)) (s := lkI S) (N := S.1) (fun i hi p hp => ⟨lkI_A hS hi hp.1, lkI_m hS hN hi hp.1 hp.2⟩) S.1 (Nat.le_refl _) (a := (l, false)) ⟨hA, Nat.le_refl _, fun q => absurd (show false = true from q) (by decide)⟩
  have h2 := itN_inv (P := fun p : (Nat → UInt32) × Bool => p.2 = true ∨ p.1 = l) (s := lkI S) (N := S.1) (fun i _ p hp => lkI_same hp) S.1 (Nat.le_refl _) (a := (l, false)) (Or.inr rfl)
  exact ⟨h1.2.2, fun q => h2.resolve_left (by show ¬ (lkP S l).2 = true; rw [q]; decide)⟩
theorem lkP_A {v : Nat → Nat} {S : HoS} (hS : HoOk v S) {l : Nat → UInt32} (hA : LkA l) : LkA (lkP S l).1 := lkIs_A hS hA S.1 (Nat.le_refl _)
theorem lkLim {v : Nat → Nat} (hok : OkN v) {S : HoS} (hS : HoOk v S) : ∃ l, IsLim (fun l => (lkP S l).1) (lkBase v) l := by
  obtain ⟨N, hN⟩ : ∃ N : Nat, N = 216 := ⟨_, rfl⟩
  exact lim_ex LkA (fun l => lkM l N) (fun l hl => lkP_A hS hl) (fun l hl => by
    have h := lkP_flag hS hN hl
    cases q : (lkP S l).2
    · exact Or.inl (h.2 q)
    · exact Or.inr (h.1 q)) (lkM (lkBase v) N) (lkBase v) (Nat.le_refl _) (lkKs_A hok _ (Nat.le_refl _))
theorem lkP_ne {v : Nat → Nat} {S : HoS} (hS : HoOk v S) {l : Nat → UInt32} (hA : LkA l) (h : (lkP S l).2 = true) : (lkP S l).1 ≠ l := by
  intro e
  obtain ⟨N, hN⟩ : ∃ N : Nat, N = 216 := ⟨_, rfl⟩
  have h1 := (lkP_flag hS hN hA).1 h
  rw [e] at h1
  omega
end
section
theorem vf_updN (l : Nat → UInt32) (k : Nat) (x : UInt32) : vf_upd l k x = updN l k x := rfl
theorem c_findLikelihoods (d n : Nat) (w : Nat → Int32) (v : Nat → Nat) (l0 F : Nat → UInt32) (S : HoS) (h : Nat → MC) (hO : h 178 = RO w) (hw : w 6 = nI S.1) (hv : h 179 = .inl (.int, 189, .inl (vI v))) (hlk : h 193 = .inl (.float, 216, .inr (.inr (.inl l0)))) (hl0 : ∀ f, 216 ≤ f → l0 f = fM1) (hok : OkN v) (hS : HoOk v S) (hA : HoAt h S) (hl : IsLim (fun l => (lkP S l).1) (lkBase v) F) : Fn M_X10_findLikelihoods (d + 1) 0 0 [.ref 178] h n none (mov [(193, .inl (.float, 216, .inr (.inr (.inl F))))] h) := by
  obtain ⟨hru, hhd, hli⟩ := hA
  have hf12 := hok.2.2.1
  have h1728 := hS.1
  refine Fn.of fun post hp => ?_
  have loopI : ∀ l : Nat → UInt32, LkA l → MW M_X10_findLikelihoods (d + 1) 0 0 n post 100 [(0, .ref 178), (1, .int (bI (lkP S l).2))] [] (mov [(193, .inl (.float, 216, .inr (.inr (.inl (lkP S l).1))))] h) n 0 → ∀ i, i ≤ S.1 → MW M_X10_findLikelihoods (d + 1) 0 0 n post 108 [(0, .ref 178), (1, .int (bI (itN (lkI S) (l, false) i).2)), (2, .int (nI i))] [] (mov [(193, .inl (.float, 216, .inr (.inr (.inl (itN (lkI S) (l, false) i).1))))] h) n 0 := by
    intro l hl k
    refine loop_up S.1 ?_ ?_
    · refine mw_iload_n (i := 2) rfl rfl rfl ?_
      refine mw_aload_n (i := 0) rfl rfl rfl ?_
      refine mw_getfield rfl f_X10_157 (by first | rfl | exact hO | exact hv | exact hhd) rfl ?_
      rw [hw]
      refine mw_n_ge rfl (by omega) (by omega) (fun q => ?_) (fun q => ?_)
      · refine mw_goto rfl ?_
        exact mw_locals rfl k
      · omega
    · intro i hi ih
      have hQi := lkIs_A hS (b := false) hl i (by omega)
      have hhi := (hS.2 i hi).2.1
      generalize hQ : itN (lkI S) (l, false) i = Q at hQi ⊢
      have eQ : itN (lkI S) (l, false) (i + 1) = lkI S i Q := by rw [← hQ]; rfl
      rw [eQ] at ih
      have hB := lkB_F hS hQi hi
      refine mw_iload_n (i := 2) rfl rfl rfl ?_
      refine mw_aload_n (i := 0) rfl rfl rfl ?_
      refine mw_getfield rfl f_X10_157 (by first | rfl | exact hO | exact hv | exact hhd) rfl ?_
      rw [hw]
      refine mw_n_ge rfl (by omega) (by omega) (fun q => ?_) (fun q => ?_)
      · omega
      · refine mw_aload_n (i := 0) rfl rfl rfl ?_
        refine mw_iload_n (i := 2) rfl rfl rfl ?_
        refine mw_callV_f (c_likelyBy d n i w v Q.1 S _ hO rfl hS ⟨hru, hhd, hli⟩ hi hQi) rfl ok_X10_likelyBy v_X10_204 rfl (by first | rfl | exact hO | exact hv | exact hhd) (by intro e; cases e) rfl (Nat.le_of_ble_eq_true rfl) rfl (Nat.le_of_ble_eq_true rfl) (by omega) (by omega) (by omega) ?_
        refine mw_fstore_n (i := 3) rfl rfl (Nat.le_of_ble_eq_true rfl) ?_
        refine mw_fload_n (i := 3) rfl rfl rfl ?_
        refine mw_aload_n (i := 0) rfl rfl rfl ?_
        refine mw_getfield rfl f_X10_53 (by first | rfl | exact hO | exact hv | exact hhd) rfl ?_
        refine mw_aload_n (i := 0) rfl rfl rfl ?_
        refine mw_getfield rfl f_X10_44 (by first | rfl | exact hO | exact hv | exact hhd) rfl ?_
        refine mw_iload_n (i := 2) rfl rfl rfl ?_
        refine mw_iald rfl (by first | rfl | exact hO | exact hv | exact hhd) (by omega) (by omega) ?_
        refine mw_fald rfl (by first | rfl | exact hO | exact hv | exact hhd) (by omega) (by omega) ?_
        refine mw_fcmp rfl ?_
        refine mw_if_le rfl (fun hle => ?_) (fun hle => ?_)
        · rw [show lkI S i Q = Q by unfold lkI; rw [if_neg (fun e => Int32.not_lt.mpr hle ((lk_gt hB (hQi _)).mpr e))]] at ih
          first | refine mw_ninc rfl rfl (Nat.le_of_ble_eq_true rfl) ?_ | refine mw_iinc rfl rfl rfl (Nat.le_of_ble_eq_true rfl) ?_
          refine mw_goto rfl ?_
          exact mw_locals rfl ih
        · rw [show lkI S i Q = (updN Q.1 (S.2.2.1 i) (lkB S Q.1 i), true) by unfold lkI; rw [if_pos ((lk_gt hB (hQi _)).mp (Int32.not_le.mp hle))]] at ih
          refine mw_aload_n (i := 0) rfl rfl rfl ?_
          refine mw_getfield rfl f_X10_53 (by first | rfl | exact hO | exact hv | exact hhd) rfl ?_
          refine mw_aload_n (i := 0) rfl rfl rfl ?_
          refine mw_getfield rfl f_X10_44 (by first | rfl | exact hO | exact hv | exact hhd) rfl ?_
          refine mw_iload_n (i := 2) rfl rfl rfl ?_
          refine mw_iald rfl (by first | rfl | exact hO | exact hv | exact hhd) (by omega) (by omega) ?_
          refine mw_fload_n (i := 3) rfl rfl rfl ?_
          refine mw_fast_m rfl (by first | rfl | exact hO | exact hv | exact hhd) (by omega) (by omega) ?_
          refine mw_iconst (v := nI 1) rfl (by decide) ?_
          refine mw_istore_n (i := 1) rfl rfl (Nat.le_of_ble_eq_true rfl) ?_
          first | refine mw_ninc rfl rfl (Nat.le_of_ble_eq_true rfl) ?_ | refine mw_iinc rfl rfl rfl (Nat.le_of_ble_eq_true rfl) ?_
          refine mw_goto rfl ?_
          exact mw_locals rfl ih
  have hW : MW M_X10_findLikelihoods (d + 1) 0 0 n post 100 [(0, .ref 178), (1, .int (bI true))] [] (mov [(193, .inl (.float, 216, .inr (.inr (.inl (lkBase v)))))] h) n 0 := by
    obtain ⟨N, hN⟩ : ∃ N : Nat, N = 216 := ⟨_, rfl⟩
    refine while_lim (P := lkP S) (H := fun fl l => MW M_X10_findLikelihoods (d + 1) 0 0 n post 100 [(0, .ref 178), (1, .int (bI fl))] [] (mov [(193, .inl (.float, 216, .inr (.inr (.inl l))))] h) n 0) (I := LkA) hl (lkKs_A hok _ (Nat.le_refl _)) (fun l hl => lkP_A hS hl) (fun l hl => (lkP_flag hS hN hl).2) (fun l hl => lkP_ne hS hl) ?_ ?_
    · show MW M_X10_findLikelihoods (d + 1) 0 0 n post 100 [(0, .ref 178), (1, .int (bI false))] [] (mov [(193, .inl (.float, 216, .inr (.inr (.inl F))))] h) n 0
      refine mw_iload_n (i := 1) rfl rfl rfl ?_
      refine mw_b_eq rfl (fun q => ?_) (fun q => ?_)
      · exact mw_return rfl rfl rfl (Nat.le_refl _) (hp)
      · cases q
    · intro l hl k
      show MW M_X10_findLikelihoods (d + 1) 0 0 n post 100 [(0, .ref 178), (1, .int (bI true))] [] (mov [(193, .inl (.float, 216, .inr (.inr (.inl l))))] h) n 0
      refine mw_iload_n (i := 1) rfl rfl rfl ?_
      refine mw_b_eq rfl (fun q => ?_) (fun q => ?_)
      · cases q
      · refine mw_iconst (v := nI 0) rfl (by decide) ?_
        refine mw_istore_n (i := 1) rfl rfl (Nat.le_of_ble_eq_true rfl) ?_
        refine mw_iconst (v := nI 0) rfl (by decide) ?_
        refine mw_istore_n (i := 2) rfl rfl (Nat.le_of_ble_eq_true rfl) ?_
        exact mw_locals rfl (loopI l hl k 0 (Nat.zero_le _))
  have loopK : ∀ k, k ≤ v 1 → MW M_X10_findLikelihoods (d + 1) 0 0 n post 25 [(0, .ref 178), (1, .int (nI k))] [] (mov [(193, .inl (.float, 216, .inr (.inr (.inl (itN (lkK v) (fun _ => fM1) k)))))] h) n 0 := by
    refine loop_up (v 1) ?_ ?_
    · refine mw_iload_n (i := 1) rfl rfl rfl ?_
      refine mw_aload_n (i := 0) rfl rfl rfl ?_
      refine mw_getfield rfl f_X10_7 (by first | rfl | exact hO | exact hv | exact hhd) rfl ?_
      refine mw_iconst (v := nI 1) rfl (by decide) ?_
      refine mw_iald rfl (by first | rfl | exact hO | exact hv | exact hhd) (by omega) (by omega) ?_
      refine mw_n_ge rfl (by omega) (by omega) (fun q => ?_) (fun q => ?_)
      · refine mw_iconst (v := nI 1) rfl (by decide) ?_
        refine mw_istore_n (i := 1) rfl rfl (Nat.le_of_ble_eq_true rfl) ?_
        exact mw_locals rfl hW
      · omega
    · intro k hk ih
      obtain ⟨hf1, -, hs1, hs2⟩ := hok.2.2.2.2.2.1 k hk
      have hQi := lkKs_A hok k (by omega)
      have hsf := sixF_uf hs1 hs2
      generalize hQ : itN (lkK v) (fun _ => fM1) k = Q at hQi ⊢
      have eQ : itN (lkK v) (fun _ => fM1) (k + 1) = lkK v k Q := by rw [← hQ]; rfl
      rw [eQ] at ih
      refine mw_iload_n (i := 1) rfl rfl rfl ?_
      refine mw_aload_n (i := 0) rfl rfl rfl ?_
      refine mw_getfield rfl f_X10_7 (by first | rfl | exact hO | exact hv | exact hhd) rfl ?_
      refine mw_iconst (v := nI 1) rfl (by decide) ?_
      refine mw_iald rfl (by first | rfl | exact hO | exact hv | exact hhd) (by omega) (by omega) ?_
      refine mw_n_ge rfl (by omega) (by omega) (fun q => ?_) (fun q => ?_)
      · omega
      · refine mw_aload_n (i := 0) rfl rfl rfl ?_
        refine mw_getfield rfl f_X10_7 (by first | rfl | exact hO | exact hv | exact hhd) rfl ?_
        refine mw_bipush (v := nI 9) rfl (by decide) ?_
        refine mw_iconst (v := nI 3) rfl (by decide) ?_
        refine mw_iload_n (i := 1) rfl rfl rfl ?_
        first | refine mw_nmul rfl ?_ | refine mw_imul rfl ?_
        first | refine mw_nadd rfl ?_ | refine mw_iadd rfl ?_
        refine mw_iald rfl (by first | rfl | exact hO | exact hv | exact hhd) (by omega) (by omega) ?_
        refine mw_istore_n (i := 2) rfl rfl (Nat.le_of_ble_eq_true rfl) ?_
        refine mw_aload_n (i := 0) rfl rfl rfl ?_
        refine mw_getfield rfl f_X10_7 (by first | rfl | exact hO | exact hv | exact hhd) rfl ?_
        refine mw_bipush (v := nI 9) rfl (by decide) ?_
        refine mw_iconst (v := nI 3) rfl (by decide) ?_
        refine mw_iload_n (i := 1) rfl rfl rfl ?_
        first | refine mw_nmul rfl ?_ | refine mw_imul rfl ?_
        first | refine mw_nadd rfl ?_ | refine mw_iadd rfl ?_
        refine mw_iconst (v := nI 2) rfl (by decide) ?_
        first | refine mw_nadd rfl ?_ | refine mw_iadd rfl ?_
        refine mw_iald rfl (by first | rfl | exact hO | exact hv | exact hhd) (by omega) (by omega) ?_
        refine mw_i2f rfl ?_
        refine mw_ldcf rfl c_X10_203 ?_
        refine mw_fdiv rfl (uf_n32 hsf) ?_
        refine mw_fstore_n (i := 3) rfl rfl (Nat.le_of_ble_eq_true rfl) ?_
        refine mw_aload_n (i := 0) rfl rfl rfl ?_
        refine mw_getfield rfl f_X10_53 (by first | rfl | exact hO | exact hv | exact hhd) rfl ?_
        refine mw_iload_n (i := 2) rfl rfl rfl ?_
        refine mw_fload_n (i := 3) rfl rfl rfl ?_
        refine mw_aload_n (i := 0) rfl rfl rfl ?_
        refine mw_getfield rfl f_X10_53 (by first | rfl | exact hO | exact hv | exact hhd) rfl ?_
        refine mw_iload_n (i := 2) rfl rfl rfl ?_
        refine mw_fald rfl (by first | rfl | exact hO | exact hv | exact hhd) (by omega) (by omega) ?_
        refine mw_fcmp rfl ?_
        refine mw_if_le rfl (fun hle => ?_) (fun hle => ?_)
        · rw [show lkK v k Q = updN Q (v (9 + 3 * k)) (Q (v (9 + 3 * k))) by unfold lkK; rw [if_neg (fun e => Int32.not_lt.mpr hle ((lk_gt (Or.inr hsf) (hQi _)).mpr e))]] at ih
          refine mw_aload_n (i := 0) rfl rfl rfl ?_
          refine mw_getfield rfl f_X10_53 (by first | rfl | exact hO | exact hv | exact hhd) rfl ?_
          refine mw_iload_n (i := 2) rfl rfl rfl ?_
          refine mw_fald rfl (by first | rfl | exact hO | exact hv | exact hhd) (by omega) (by omega) ?_
          refine mw_fast_m rfl (by first | rfl | exact hO | exact hv | exact hhd) (by omega) (by omega) ?_
          first | refine mw_ninc rfl rfl (Nat.le_of_ble_eq_true rfl) ?_ | refine mw_iinc rfl rfl rfl (Nat.le_of_ble_eq_true rfl) ?_
          refine mw_goto rfl ?_
          exact mw_locals rfl ih
        · rw [show lkK v k Q = updN Q (v (9 + 3 * k)) (sixF (v (9 + 3 * k + 2))) by unfold lkK; rw [if_pos ((lk_gt (Or.inr hsf) (hQi _)).mp (Int32.not_le.mp hle))]] at ih
          refine mw_fload_n (i := 3) rfl rfl rfl ?_
          refine mw_goto rfl ?_
          refine mw_fast_m rfl (by first | rfl | exact hO | exact hv | exact hhd) (by omega) (by omega) ?_
          first | refine mw_ninc rfl rfl (Nat.le_of_ble_eq_true rfl) ?_ | refine mw_iinc rfl rfl rfl (Nat.le_of_ble_eq_true rfl) ?_
          refine mw_goto rfl ?_
          exact mw_locals rfl ih
  have loopA : ∀ k, k ≤ 216 → MW M_X10_findLikelihoods (d + 1) 0 0 n post 2 [(0, .ref 178), (1, .int (nI k))] [] (mov [(193, .inl (.float, 216, .inr (.inr (.inl (fun j => if j < k ∨ 216 ≤ j then fM1 else l0 j)))))] h) n 0 := by
    refine loop_up 216 ?_ ?_
    · refine mw_iload_n (i := 1) rfl rfl rfl ?_
      refine mw_sipush (v := nI 216) rfl (by decide) ?_
      refine mw_n_ge rfl (by omega) (by omega) (fun q => ?_) (fun q => ?_)
      · rw [show (fun j => if j < 216 ∨ 216 ≤ j then fM1 else l0 j) = (fun _ => fM1) by funext j; rw [if_pos (by omega)]]
        refine mw_iconst (v := nI 0) rfl (by decide) ?_
        refine mw_istore_n (i := 1) rfl rfl (Nat.le_of_ble_eq_true rfl) ?_
        exact mw_locals rfl (loopK 0 (Nat.zero_le _))
      · omega
    · intro k hk ih
      have e : updN (fun j => if j < k ∨ 216 ≤ j then fM1 else l0 j) k fM1 = (fun j => if j < k + 1 ∨ 216 ≤ j then fM1 else l0 j) := by
        funext j
        simp only [updN]
        by_cases q : j = k
        · rw [if_pos q, if_pos (by omega)]
        · rw [if_neg q]
          have q3 : (j < k + 1 ∨ 216 ≤ j) ↔ (j < k ∨ 216 ≤ j) := by omega
          simp only [q3]
      rw [← e] at ih
      refine mw_iload_n (i := 1) rfl rfl rfl ?_
      refine mw_sipush (v := nI 216) rfl (by decide) ?_
      refine mw_n_ge rfl (by omega) (by omega) (fun q => ?_) (fun q => ?_)
      · omega
      · refine mw_aload_n (i := 0) rfl rfl rfl ?_
        refine mw_getfield rfl f_X10_53 (by first | rfl | exact hO | exact hv | exact hhd) rfl ?_
        refine mw_iload_n (i := 1) rfl rfl rfl ?_
        refine mw_ldcf rfl c_X10_202 ?_
        refine mw_fast_m rfl (by first | rfl | exact hO | exact hv | exact hhd) (by omega) (by omega) ?_
        first | refine mw_ninc rfl rfl (Nat.le_of_ble_eq_true rfl) ?_ | refine mw_iinc rfl rfl rfl (Nat.le_of_ble_eq_true rfl) ?_
        refine mw_goto rfl ?_
        exact mw_locals rfl ih
  refine mw_over [(193, .inl (.float, 216, .inr (.inr (.inl (fun j => if j < 0 ∨ 216 ≤ j then fM1 else l0 j)))))] (mov_self ?_) ?_
  · rw [show (fun j => if j < 0 ∨ 216 ≤ j then fM1 else l0 j) = l0 by
      funext j
      split
      · rename_i q
        exact (hl0 j (by omega)).symm
      · rfl]
    simp [hlk]
  · refine mw_iconst (v := nI 0) rfl (by decide) ?_
    refine mw_istore_n (i := 1) rfl rfl (Nat.le_of_ble_eq_true rfl) ?_
    exact mw_locals rfl (loopA 0 (by omega))
end
section
/-- the reference's scratch rows -/
abbrev RD : Type := (Nat → Nat) × (Nat → Nat) × (Nat → Bool) × (Nat → Int32) × (Nat → Int32) × (Nat → Nat) × (Nat → Nat) × (Nat → Int32) × (Nat → Nat) × (Nat → UInt32) × (Nat → Int32) × (Nat → Nat) × (Nat → Nat) × (Nat → Nat) × (Nat → Bool)
abbrev RD.st (x : RD) : Nat → Nat := x.1
abbrev RD.b (x : RD) : Nat → Nat := x.2.1
abbrev RD.nb (x : RD) : Nat → Bool := x.2.2.1
abbrev RD.m (x : RD) : Nat → Int32 := x.2.2.2.1
abbrev RD.o (x : RD) : Nat → Int32 := x.2.2.2.2.1
abbrev RD.ru (x : RD) : Nat → Nat := x.2.2.2.2.2.1
abbrev RD.hd (x : RD) : Nat → Nat := x.2.2.2.2.2.2.1
abbrev RD.li (x : RD) : Nat → Int32 := x.2.2.2.2.2.2.2.1
abbrev RD.c (x : RD) : Nat → Nat := x.2.2.2.2.2.2.2.2.1
abbrev RD.l (x : RD) : Nat → UInt32 := x.2.2.2.2.2.2.2.2.2.1
abbrev RD.lr (x : RD) : Nat → Int32 := x.2.2.2.2.2.2.2.2.2.2.1
abbrev RD.lb (x : RD) : Nat → Nat := x.2.2.2.2.2.2.2.2.2.2.2.1
abbrev RD.z (x : RD) : Nat → Nat := x.2.2.2.2.2.2.2.2.2.2.2.2.1
abbrev RD.u (x : RD) : Nat → Nat := x.2.2.2.2.2.2.2.2.2.2.2.2.2.1
abbrev RD.D (x : RD) : Nat → Bool := x.2.2.2.2.2.2.2.2.2.2.2.2.2.2
abbrev mkR (st : Nat → Nat) (b : Nat → Nat) (nb : Nat → Bool) (m : Nat → Int32) (o : Nat → Int32) (ru : Nat → Nat) (hd : Nat → Nat) (li : Nat → Int32) (c : Nat → Nat) (l : Nat → UInt32) (lr : Nat → Int32) (lb : Nat → Nat) (z : Nat → Nat) (u : Nat → Nat) (D : Nat → Bool) : RD := (st, b, nb, m, o, ru, hd, li, c, l, lr, lb, z, u, D)
abbrev rcL (w : Nat → Int32) (x : RD) : MLs := [(178, RO w), (184, .inl (.int, 6, .inl (vI x.st))), (185, .inl (.int, 3, .inl (vI x.b))), (186, .inl (.int, 216, .inl x.m)), (187, .inl (.int, 216, .inl x.o)), (188, .inl (.boolean, 216, .inl (bIf x.nb))), (189, .inl (.int, 1728, .inl (vI x.ru))), (190, .inl (.int, 1728, .inl (vI x.hd))), (191, .inl (.int, 5184, .inl x.li)), (192, .inl (.int, 216, .inl (vI x.c))), (193, .inl (.float, 216, .inr (.inr (.inl x.l)))), (194, .inl (.int, 216, .inl x.lr)), (195, .inl (.int, 216, .inl (vI x.lb))), (196, .inl (.int, 216, .inl (vI x.z))), (197, .inl (.int, 216, .inl (vI x.u))), (198, .inl (.boolean, 216, .inl (bIf x.D)))]
/-- the rows are what the world holds -/
def RAt (h : Nat → MC) (w : Nat → Int32) (x : RD) : Prop := mov (rcL w x) h = h
/-- the rows hold what is found of v -/
def FndM (v : Nat → Nat) (w : Nat → Int32) (x : RD) (S : HoS) : Prop := x.m = (mdlV v x.st (nI 0)).1 ∧ w 7 = nI (mdlV v x.st (nI 0)).2 ∧ (∃ (ru0 hd0 b0 : Nat → Nat) (li0 : Nat → Int32), S = hoF v x.m (0, ru0, hd0, li0, b0)) ∧ w 6 = nI S.1 ∧ x.ru = S.2.1 ∧ x.hd = S.2.2.1 ∧ x.li = S.2.2.2.1 ∧ IsLim (fun c => (coP v S c).1) (coBase v) x.c ∧ IsLim (fun l => (lkP S l).1) (lkBase v) x.l ∧ (∃ (N : Nat) (lb : Nat → Nat), N = 216 ∧ IsLim (fun L => (lsP S N L).1) (ls2 v S x.c lb) (x.lr, x.z, x.u, x.lb))
def Fnd (v : Nat → Nat) (w : Nat → Int32) (x : RD) : Prop := w 3 = bI true ∧ w 4 = bI (strF v).2.2 ∧ x.st = (strF v).1 ∧ ((strF v).2.2 = true → ∃ S, FndM v w x S)
/-- what stays true of the rows, found or not -/
def FndI (v : Nat → Nat) (w : Nat → Int32) (x : RD) : Prop := (∀ f, 216 ≤ f → x.l f = fM1) ∧ (w 3 = bI false ∨ Fnd v w x)
/-- w' is w but for what is found -/
def SameT (w w' : Nat → Int32) : Prop := w' 0 = w 0 ∧ w' 1 = w 1 ∧ w' 2 = w 2
theorem hoC_ok {v : Nat → Nat} {m : Nat → Int32} (hok : OkN v) {r code : Nat} (hr : r < v 2) (hc : code < 216) {S : HoS} (hS : ∀ i, i < S.1 → S.2.1 i < v 2 ∧ S.2.2.1 i < 216 ∧ ∀ a, a < 3 → S.2.2.2.1 (3 * i + a) < 0 ∨ ∃ f, f < 216 ∧ S.2.2.2.1 (3 * i + a) = nI f) : ∀ i, i < (hoC v m r code S).1 → (hoC v m r code S).2.1 i < v 2 ∧ (hoC v m r code S).2.2.1 i < 216 ∧ ∀ a, a < 3 → (hoC v m r code S).2.2.2.1 (3 * i + a) < 0 ∨ ∃ f, f < 216 ∧ (hoC v m r code S).2.2.2.1 (3 * i + a) = nI f := by
  unfold hoC
  have hb6 : ∀ x, x < 3 → bndU S.2.2.2.2 code x < 6 := fun x hx => bndU_lt S.2.2.2.2 hc hx
  generalize bndU S.2.2.2.2 code = b at hb6 ⊢
  split
  · intro i hi
    have hi : i < S.1 + 1 := hi
    have hlit : ∀ n, n ≤ 3 → ∀ j, (∀ a, a < n → j ≠ 3 * S.1 + a) → itN (liU v b r S.1) S.2.2.2.1 n j = S.2.2.2.1 j := by
      intro n
      induction n with
      | zero => intro _ j _; rfl
      | succ n ih =>
        intro hn j hj
        show upd _ _ _ j = _
        rw [pk_un (hj n (by omega))]
        exact ih (by omega) j (fun a ha => hj a (by omega))
    have hlit2 : ∀ n, n ≤ 3 → ∀ a, a < n → itN (liU v b r S.1) S.2.2.2.1 n (3 * S.1 + a) = liA v b r (a + 1) := by
      intro n
      induction n with
      | zero => intro _ a ha; omega
      | succ n ih =>
        intro hn a ha
        show upd _ _ _ (3 * S.1 + a) = _
        by_cases e : a = n
        · subst e
          exact pk_us
        · rw [pk_un (by omega)]
          exact ih (by omega) a (by omega)
    by_cases e : i = S.1
    · subst e
      refine ⟨?_, ?_, fun a ha => ?_⟩
      · show updN _ _ _ _ < _
        rw [updN_same]; exact hr
      · show updN _ _ _ _ < _
        rw [updN_same]; exact fA_lt hok hb6 hr (Nat.zero_le _)
      · show itN (liU v b r S.1) S.2.2.2.1 3 (3 * S.1 + a) < 0 ∨ ∃ f, f < 216 ∧ itN (liU v b r S.1) S.2.2.2.1 3 (3 * S.1 + a) = nI f
        rw [hlit2 3 (Nat.le_refl _) a ha]
        unfold liA
        split
        · rename_i q
          unfold plA at q
          rw [Bool.and_eq_true] at q
          exact Or.inr ⟨_, fA_lt hok hb6 hr (of_decide_eq_true q.1), rfl⟩
        · exact Or.inl (by decide)
    · obtain ⟨h1, h2, h3⟩ := hS i (by omega)
      refine ⟨?_, ?_, fun a ha => ?_⟩
      · show updN _ _ _ _ < _
        rw [updN_ne _ _ e]; exact h1
      · show updN _ _ _ _ < _
        rw [updN_ne _ _ e]; exact h2
      · show itN (liU v b r S.1) S.2.2.2.1 3 (3 * i + a) < 0 ∨ ∃ f, f < 216 ∧ itN (liU v b r S.1) S.2.2.2.1 3 (3 * i + a) = nI f
        rw [hlit 3 (Nat.le_refl _) (3 * i + a) (fun a' ha' => by omega)]
        exact h3 a ha
  · exact hS
set_option maxRecDepth 100000 in
theorem hoF_ok {v : Nat → Nat} {m : Nat → Int32} (hok : OkN v) (ru0 hd0 b0 : Nat → Nat) (li0 : Nat → Int32) : HoOk v (hoF v m (0, ru0, hd0, li0, b0)) := by
  refine ⟨?_, ?_⟩
  · have := hoR_cnt (v := v) (m := m) (S := (0, ru0, hd0, li0, b0)) (v 2)
    have := hok.2.2.2.1
    unfold hoF
    have e : ((0, ru0, hd0, li0, b0) : HoS).1 = 0 := rfl
    omega
  · refine itN_inv (P := fun S : HoS => ∀ i, i < S.1 → S.2.1 i < v 2 ∧ S.2.2.1 i < 216 ∧ ∀ a, a < 3 → S.2.2.2.1 (3 * i + a) < 0 ∨ ∃ f, f < 216 ∧ S.2.2.2.1 (3 * i + a) = nI f) (s := hoR v m) (N := v 2) (fun r hr S hS => ?_) (v 2) (Nat.le_refl _) (fun i hi => absurd hi (Nat.not_lt_zero i))
    exact itN_inv (P := fun S : HoS => ∀ i, i < S.1 → S.2.1 i < v 2 ∧ S.2.2.1 i < 216 ∧ ∀ a, a < 3 → S.2.2.2.1 (3 * i + a) < 0 ∨ ∃ f, f < 216 ∧ S.2.2.2.1 (3 * i + a) = nI f) (s := hoC v m r) (N := 216) (fun code hc S hS => hoC_ok hok hr hc hS) 216 (Nat.le_refl _) hS
theorem coLim_F {v : Nat → Nat} {S : HoS} {c : Nat → Nat} (h : IsLim (fun c => (coP v S c).1) (coBase v) c) : CoF c := by
  obtain ⟨k, rfl, -⟩ := h
  exact coIt_F k
theorem lkLim_tail {v : Nat → Nat} (hok : OkN v) {S : HoS} (hS : HoOk v S) {l : Nat → UInt32} (h : IsLim (fun l => (lkP S l).1) (lkBase v) l) : ∀ f, 216 ≤ f → l f = fM1 := by
  obtain ⟨k, rfl, -⟩ := h
  induction k with
  | zero =>
    show ∀ f, 216 ≤ f → lkBase v f = fM1
    refine itN_inv (P := fun l : Nat → UInt32 => ∀ f, 216 ≤ f → l f = fM1) (N := v 1) (fun j hj l hl f hf => ?_) (v 1) (Nat.le_refl _) (fun _ _ => rfl)
    have := (hok.2.2.2.2.2.1 j hj).1
    show updN _ _ _ f = _
    rw [updN_ne _ _ (by omega)]
    exact hl f hf
  | succ k ih =>
    show ∀ f, 216 ≤ f → (lkP S _).1 f = fM1
    refine itN_inv (P := fun p : (Nat → UInt32) × Bool => ∀ f, 216 ≤ f → p.1 f = fM1) (N := S.1) (fun i hi p hp f hf => ?_) S.1 (Nat.le_refl _) ih
    have := (hS.2 i hi).2.1
    unfold lkI
    split
    · show updN _ _ _ f = _
      rw [updN_ne _ _ (by omega)]
      exact hp f hf
    · exact hp f hf
set_option maxRecDepth 20000 in
theorem strF_lt {v : Nat → Nat} (hok : OkN v) (h : (strF v).2.2 = true) : ∀ p, p < 6 → (strF v).1 p < 6 := (strI_J hok 40).1 h
theorem bI_1 : bI true = 1 := rfl
theorem bI_inj {a b : Bool} (h : bI a = bI b) : a = b := by
  cases a <;> cases b <;> first | rfl | exact absurd h (by decide)
set_option maxRecDepth 20000 in
theorem c_finds (d n : Nat) (w : Nat → Int32) (v : Nat → Nat) (x : RD) (h : Nat → MC) (hx : RAt h w x) (hv : h 179 = .inl (.int, 189, .inl (vI v))) (hok : OkN v) (hF : FndI v w x) : Sp M_X10_finds (d + 5) 0 0 [.ref 178] h n (fun r h1 => r = some (.int (bI (strF v).2.2)) ∧ ∃ (w' : Nat → Int32) (x' : RD), h1 = mov (rcL w' x') h ∧ SameT w w' ∧ Fnd v w' x' ∧ FndI v w' x') := by
  show MW _ _ _ _ _ _ _ _ _ _ _ _
  generalize hpost : (fun (r : Option Value) (h1 : Nat → MC) => r = some (.int (bI (strF v).2.2)) ∧ ∃ (w' : Nat → Int32) (x' : RD), h1 = mov (rcL w' x') h ∧ SameT w w' ∧ Fnd v w' x' ∧ FndI v w' x') = post
  have hp : ∀ (w' : Nat → Int32) (x' : RD), SameT w w' → Fnd v w' x' → (∀ f, 216 ≤ f → x'.l f = fM1) → post (some (.int (bI (strF v).2.2))) (mov (rcL w' x') h) := by
    intro w' x' h1 h2 h3
    rw [← hpost]
    exact ⟨rfl, w', x', rfl, h1, h2, h3, Or.inr h2⟩
  clear hpost
  obtain ⟨hlt, hF⟩ := hF
  refine mw_over (rcL w x) hx ?_
  refine mw_aload_n (i := 0) rfl rfl rfl ?_
  refine mw_getfield rfl f_X10_76 (by first | rfl | exact rfl | exact hv) rfl ?_
  rcases hF with h0 | hfd
  · show MW _ _ _ _ _ _ _ _ (.int (w 3) :: []) _ _ _
    rw [h0]
    refine mw_b_ne rfl (fun q => ?_) (fun q => ?_)
    · cases q
    · refine mw_aload_n (i := 0) rfl rfl rfl ?_
      refine mw_iconst (v := nI 1) rfl (by decide) ?_
      first | refine mw_putfield_m rfl f_X10_76 (by first | rfl | exact rfl | exact hv) (Nat.le_of_ble_eq_true rfl) (fun _ => bI_nar _) (fun _ => bI_fit _) ?_ | refine mw_putfield_m rfl f_X10_76 (by first | rfl | exact rfl | exact hv) (Nat.le_of_ble_eq_true rfl) (fun _ => rfl) (fun _ => rfl) ?_
      refine mw_aload_n (i := 0) rfl rfl rfl ?_
      refine mw_aload_n (i := 0) rfl rfl rfl ?_
      refine mw_callV_f (c_findStrata (d + 3) n (updN w 3 1) v x.st _ rfl hv rfl hok) rfl ok_X10_findStrata v_X10_160 rfl (by first | rfl | exact rfl | exact hv) (by intro e; cases e) rfl (Nat.le_of_ble_eq_true rfl) rfl (Nat.le_of_ble_eq_true rfl) (by omega) (by omega) (by omega) ?_
      obtain ⟨w1, hw1⟩ : ∃ w1, w1 = updN (updN w 3 1) 4 (bI (strF v).2.2) := ⟨_, rfl⟩
      obtain ⟨x1, hx1⟩ : ∃ x1, x1 = mkR (strF v).1 x.b x.nb x.m x.o x.ru x.hd x.li x.c x.l x.lr x.lb x.z x.u x.D := ⟨_, rfl⟩
      have hT1 : SameT w w1 := by rw [hw1]; exact ⟨rfl, rfl, rfl⟩
      have hw13 : w1 3 = bI true := by rw [hw1]; rfl
      have hw14 : w1 4 = bI (strF v).2.2 := by rw [hw1]; rfl
      have hs1 : x1.st = (strF v).1 := by rw [hx1]
      have hl1 : ∀ f, 216 ≤ f → x1.l f = fM1 := by rw [hx1]; exact hlt
      rw [← mov_puts]
      first | refine mw_putfield_m rfl f_X10_163 (by first | rfl | exact rfl | exact hv) (Nat.le_of_ble_eq_true rfl) (fun _ => bI_nar _) (fun _ => bI_fit _) ?_ | refine mw_putfield_m rfl f_X10_163 (by first | rfl | exact rfl | exact hv) (Nat.le_of_ble_eq_true rfl) (fun _ => rfl) (fun _ => rfl) ?_
      refine mw_heap (h2 := mov (rcL w1 x1) h) (by rw [hw1, hx1]; rfl) ?_
      clear hx1 hw1
      refine mw_aload_n (i := 0) rfl rfl rfl ?_
      refine mw_getfield rfl f_X10_163 (by first | rfl | exact rfl | exact hv) rfl ?_
      rw [hw14]
      refine mw_b_eq rfl (fun hs => ?_) (fun hs => ?_)
      · refine mw_aload_n (i := 0) rfl rfl rfl ?_
        refine mw_getfield rfl f_X10_163 (by first | rfl | exact rfl | exact hv) rfl ?_
        rw [hw14]
        first | exact mw_ireturn rfl rfl (bI_nar _) rfl (Nat.le_refl _) ((hp w1 x1 hT1 ⟨hw13, hw14, hs1, fun q => absurd hs (by rw [q]; decide)⟩ hl1)) | exact mw_ireturn rfl rfl rfl rfl (Nat.le_refl _) ((hp w1 x1 hT1 ⟨hw13, hw14, hs1, fun q => absurd hs (by rw [q]; decide)⟩ hl1))
      · have hst6 : ∀ p, p < 6 → x1.st p < 6 := by rw [hs1]; exact strF_lt hok hs
        refine mw_aload_n (i := 0) rfl rfl rfl ?_
        refine mw_iconst (v := nI 0) rfl (by decide) ?_
        refine mw_aload_n (i := 0) rfl rfl rfl ?_
        refine mw_getfield rfl f_X10_32 (by first | rfl | exact rfl | exact hv) rfl ?_
        refine mw_callV (c_buildsA d n (nI 0) w1 v x1.st x1.b x1.nb x1.m _ rfl hv rfl rfl rfl rfl hok hst6) rfl ok_X10_builds v_X10_166 rfl (by first | rfl | exact rfl | exact hv) (by intro e; cases e) rfl (Nat.le_of_ble_eq_true rfl) rfl (Nat.le_of_ble_eq_true rfl) (by omega) (by omega) (by omega) ?_
        intro r2 h2 hq2
        obtain ⟨rfl, nb2, b2, rfl⟩ := hq2
        obtain ⟨w2, hw2⟩ : ∃ w2, w2 = updN (updN w1 5 (nI (mdlV v x1.st (nI 0)).2)) 7 (nI (mdlV v x1.st (nI 0)).2) := ⟨_, rfl⟩
        obtain ⟨x2, hx2⟩ : ∃ x2, x2 = mkR x1.st b2 nb2 (mdlV v x1.st (nI 0)).1 x1.o x1.ru x1.hd x1.li x1.c x1.l x1.lr x1.lb x1.z x1.u x1.D := ⟨_, rfl⟩
        rw [← mov_puts]
        refine mw_aload_n (i := 0) rfl rfl rfl ?_
        refine mw_aload_n (i := 0) rfl rfl rfl ?_
        refine mw_getfield rfl f_X10_150 (by first | rfl | exact rfl | exact hv) rfl ?_
        refine mw_putfield_m rfl f_X10_170 (by first | rfl | exact rfl | exact hv) (Nat.le_of_ble_eq_true rfl) (fun _ => rfl) (fun _ => rfl) ?_
        refine mw_heap (h2 := mov (rcL w2 x2) h) (by rw [hw2, hx2]; rfl) ?_
        have hT2 : SameT w w2 := by rw [hw2]; exact hT1
        have hw23 : w2 3 = bI true := by rw [hw2]; exact hw13
        have hw24 : w2 4 = bI (strF v).2.2 := by rw [hw2]; exact hw14
        have hw27 : w2 7 = nI (mdlV v x2.st (nI 0)).2 := by rw [hw2, hx2]; rfl
        have hs2 : x2.st = (strF v).1 := by rw [hx2]; exact hs1
        have hm2 : x2.m = (mdlV v x2.st (nI 0)).1 := by rw [hx2]
        have hl2 : ∀ f, 216 ≤ f → x2.l f = fM1 := by rw [hx2]; exact hl1
        clear hx2 hw2
        refine mw_aload_n (i := 0) rfl rfl rfl ?_
        refine mw_callV_f (c_findHolding (d + 1) n w2 v x2.ru x2.hd x2.b x2.m x2.li _ rfl hv rfl rfl rfl rfl rfl hok) rfl ok_X10_findHolding v_X10_173 rfl (by first | rfl | exact rfl | exact hv) (by intro e; cases e) rfl (Nat.le_of_ble_eq_true rfl) rfl (Nat.le_of_ble_eq_true rfl) (by omega) (by omega) (by omega) ?_
        have hSok := hoF_ok (m := x2.m) hok x2.ru x2.hd x2.b x2.li
        have hSe : ∃ (ru0 hd0 b0 : Nat → Nat) (li0 : Nat → Int32), hoF v x2.m (0, x2.ru, x2.hd, x2.li, x2.b) = hoF v x2.m (0, ru0, hd0, li0, b0) := ⟨_, _, _, _, rfl⟩
        generalize hoF v x2.m (0, x2.ru, x2.hd, x2.li, x2.b) = S at hSok hSe ⊢
        unfold HH
        rw [← mov_puts]
        obtain ⟨w3, hw3⟩ : ∃ w3, w3 = updN w2 6 (nI S.1) := ⟨_, rfl⟩
        obtain ⟨x3, hx3⟩ : ∃ x3, x3 = mkR x2.st S.2.2.2.2 x2.nb x2.m x2.o S.2.1 S.2.2.1 S.2.2.2.1 x2.c x2.l x2.lr x2.lb x2.z x2.u x2.D := ⟨_, rfl⟩
        refine mw_heap (h2 := mov (rcL w3 x3) h) (by rw [hw3, hx3]; rfl) ?_
        have hT3 : SameT w w3 := by rw [hw3]; exact hT2
        have hw33 : w3 3 = bI true := by rw [hw3]; exact hw23
        have hw34 : w3 4 = bI (strF v).2.2 := by rw [hw3]; exact hw24
        have hw37 : w3 7 = nI (mdlV v x3.st (nI 0)).2 := by rw [hw3, hx3]; exact hw27
        have hw36 : w3 6 = nI S.1 := by rw [hw3]; rfl
        have hs3 : x3.st = (strF v).1 := by rw [hx3]; exact hs2
        have hm3 : x3.m = (mdlV v x3.st (nI 0)).1 := by rw [hx3]; exact hm2
        have hl3 : ∀ f, 216 ≤ f → x3.l f = fM1 := by rw [hx3]; exact hl2
        have hSe : ∃ (ru0 hd0 b0 : Nat → Nat) (li0 : Nat → Int32), S = hoF v x3.m (0, ru0, hd0, li0, b0) := by rw [hx3]; exact hSe
        have hru3 : x3.ru = S.2.1 := by rw [hx3]
        have hhd3 : x3.hd = S.2.2.1 := by rw [hx3]
        have hli3 : x3.li = S.2.2.2.1 := by rw [hx3]
        clear hx3 hw3
        have hA3 : ∀ (w : Nat → Int32) (x : RD), x.ru = S.2.1 → x.hd = S.2.2.1 → x.li = S.2.2.2.1 → HoAt (mov (rcL w x) h) S := by
          intro w x e1 e2 e3
          refine ⟨?_, ?_, ?_⟩
          · show (.inl (.int, 1728, .inl (vI x.ru)) : MC) = _
            rw [e1]
          · show (.inl (.int, 1728, .inl (vI x.hd)) : MC) = _
            rw [e2]
          · show (.inl (.int, 5184, .inl x.li) : MC) = _
            rw [e3]
        obtain ⟨c, hc⟩ := coLim hSok (coBase v)
        obtain ⟨l, hl⟩ := lkLim hok hSok
        refine mw_aload_n (i := 0) rfl rfl rfl ?_
        refine mw_callV_f (c_findCosts (d + 3) n w3 v x3.c c S _ rfl hw36 hv rfl hok hSok (hA3 w3 x3 hru3 hhd3 hli3) hc) rfl ok_X10_findCosts v_X10_176 rfl (by first | rfl | exact rfl | exact hv) (by intro e; cases e) rfl (Nat.le_of_ble_eq_true rfl) rfl (Nat.le_of_ble_eq_true rfl) (by omega) (by omega) (by omega) ?_
        rw [← mov_puts]
        obtain ⟨x4, hx4⟩ : ∃ x4, x4 = mkR x3.st x3.b x3.nb x3.m x3.o x3.ru x3.hd x3.li c x3.l x3.lr x3.lb x3.z x3.u x3.D := ⟨_, rfl⟩
        refine mw_heap (h2 := mov (rcL w3 x4) h) (by rw [hx4]; rfl) ?_
        refine mw_aload_n (i := 0) rfl rfl rfl ?_
        refine mw_callV_f (c_findLikelihoods (d + 3) n w3 v x4.l l S _ rfl hw36 hv rfl (by rw [hx4]; exact hl3) hok hSok (hA3 w3 x4 (by rw [hx4]; exact hru3) (by rw [hx4]; exact hhd3) (by rw [hx4]; exact hli3)) hl) rfl ok_X10_findLikelihoods v_X10_179 rfl (by first | rfl | exact rfl | exact hv) (by intro e; cases e) rfl (Nat.le_of_ble_eq_true rfl) rfl (Nat.le_of_ble_eq_true rfl) (by omega) (by omega) (by omega) ?_
        rw [← mov_puts]
        obtain ⟨x5, hx5⟩ : ∃ x5, x5 = mkR x4.st x4.b x4.nb x4.m x4.o x4.ru x4.hd x4.li x4.c l x4.lr x4.lb x4.z x4.u x4.D := ⟨_, rfl⟩
        refine mw_heap (h2 := mov (rcL w3 x5) h) (by rw [hx5]; rfl) ?_
        obtain ⟨N, hN⟩ : ∃ N : Nat, N = 216 := ⟨_, rfl⟩
        obtain ⟨F, hF⟩ := lsLim S N (ls2 v S c x5.lb)
        have hc5 : x5.c = c := by rw [hx5, hx4]
        refine mw_aload_n (i := 0) rfl rfl rfl ?_
        refine mw_callV_f (c_findLeast (d + 3) n w3 v x5.c x5.z x5.u x5.lb x5.lr S F N hN _ rfl hw36 hv rfl rfl rfl rfl rfl hok hSok (hA3 w3 x5 (by rw [hx5, hx4]; exact hru3) (by rw [hx5, hx4]; exact hhd3) (by rw [hx5, hx4]; exact hli3)) (by rw [hc5]; exact fun f _ => coLim_F hc f) (by rw [hc5]; exact hF)) rfl ok_X10_findLeast v_X10_182 rfl (by first | rfl | exact rfl | exact hv) (by intro e; cases e) rfl (Nat.le_of_ble_eq_true rfl) rfl (Nat.le_of_ble_eq_true rfl) (by omega) (by omega) (by omega) ?_
        unfold HL
        rw [← mov_puts]
        obtain ⟨x6, hx6⟩ : ∃ x6, x6 = mkR x5.st x5.b x5.nb x5.m x5.o x5.ru x5.hd x5.li x5.c x5.l F.1 F.2.2.2 F.2.1 F.2.2.1 x5.D := ⟨_, rfl⟩
        refine mw_heap (h2 := mov (rcL w3 x6) h) (by rw [hx6]; rfl) ?_
        refine mw_aload_n (i := 0) rfl rfl rfl ?_
        refine mw_getfield rfl f_X10_163 (by first | rfl | exact rfl | exact hv) rfl ?_
        rw [hw34]
        have hl6 : x6.l = l := by rw [hx6, hx5]
        have hc6 : x6.c = c := by rw [hx6]; exact hc5
        first | exact mw_ireturn rfl rfl (bI_nar _) rfl (Nat.le_refl _) ((hp w3 x6 hT3 ⟨hw33, hw34, by rw [hx6, hx5, hx4]; exact hs3, fun _ => ⟨S, by rw [hx6, hx5, hx4]; exact hm3, by rw [hx6, hx5, hx4]; exact hw37, by rw [hx6, hx5, hx4]; exact hSe, hw36, by rw [hx6, hx5, hx4]; exact hru3, by rw [hx6, hx5, hx4]; exact hhd3, by rw [hx6, hx5, hx4]; exact hli3, by rw [hc6]; exact hc, by rw [hl6]; exact hl, N, x5.lb, hN, by rw [hc6]; rw [hx6]; exact hF⟩⟩ (by rw [hl6]; exact lkLim_tail hok hSok hl))) | exact mw_ireturn rfl rfl rfl rfl (Nat.le_refl _) ((hp w3 x6 hT3 ⟨hw33, hw34, by rw [hx6, hx5, hx4]; exact hs3, fun _ => ⟨S, by rw [hx6, hx5, hx4]; exact hm3, by rw [hx6, hx5, hx4]; exact hw37, by rw [hx6, hx5, hx4]; exact hSe, hw36, by rw [hx6, hx5, hx4]; exact hru3, by rw [hx6, hx5, hx4]; exact hhd3, by rw [hx6, hx5, hx4]; exact hli3, by rw [hc6]; exact hc, by rw [hl6]; exact hl, N, x5.lb, hN, by rw [hc6]; rw [hx6]; exact hF⟩⟩ (by rw [hl6]; exact lkLim_tail hok hSok hl)))
  · show MW _ _ _ _ _ _ _ _ (.int (w 3) :: []) _ _ _
    rw [hfd.1]
    refine mw_b_ne rfl (fun q => ?_) (fun q => ?_)
    · refine mw_aload_n (i := 0) rfl rfl rfl ?_
      refine mw_getfield rfl f_X10_163 (by first | rfl | exact rfl | exact hv) rfl ?_
      rw [hfd.2.1]
      first | exact mw_ireturn rfl rfl (bI_nar _) rfl (Nat.le_refl _) ((hp w x ⟨rfl, rfl, rfl⟩ hfd hlt)) | exact mw_ireturn rfl rfl rfl rfl (Nat.le_refl _) ((hp w x ⟨rfl, rfl, rfl⟩ hfd hlt))
    · cases q
end
section
theorem mov_idem (l : MLs) (h : Nat → MC) : mov l (mov l h) = mov l h := by
  funext j
  simp only [mov]
  cases mlk l j <;> rfl
theorem RAt.of (w : Nat → Int32) (x : RD) (h : Nat → MC) : RAt (mov (rcL w x) h) w x := mov_idem _ _
theorem rc_over (w w' : Nat → Int32) (x x' : RD) (h : Nat → MC) : mov (rcL w' x') (mov (rcL w x) h) = mov (rcL w' x') h := (mov_puts (rcL w x) h (rcL w' x')).symm
def fctN (p a b : Int32) : Nat := 36 * p.toNatClampNeg + 6 * a.toNatClampNeg + b.toNatClampNeg
def mdl0 (v : Nat → Nat) : (Nat → Int32) × Nat := mdlV v (strF v).1 (nI 0)
def wrV (v : Nat → Nat) (p a b : Int32) : Int32 := if isF v p a b = false then -1 else if (strF v).2.2 = false then -6 else if (mdl0 v).1 (fctN p a b) < 0 then -5 else 0
theorem isF_nat {v : Nat → Nat} (hok : OkN v) {p a b : Int32} (h : isF v p a b = true) : ∃ i j k, i < 6 ∧ j < v 0 ∧ k < v 0 ∧ p = nI i ∧ a = nI j ∧ b = nI k ∧ fctN p a b = 36 * i + 6 * j + k ∧ 36 * i + 6 * j + k < 216 := by
  obtain ⟨h1, h6, -⟩ := hok
  unfold isF at h
  rw [Bool.and_eq_true, Bool.and_eq_true, Bool.and_eq_true] at h
  obtain ⟨i, hi, rfl⟩ := inI_of h.1 (by omega)
  obtain ⟨j, hj, rfl⟩ := inI_of h.2.1 (by omega)
  obtain ⟨k, hk, rfl⟩ := inI_of h.2.2.1 (by omega)
  refine ⟨i, j, k, hi, hj, hk, rfl, rfl, rfl, ?_, by omega⟩
  unfold fctN
  rw [nI_clamp (by omega), nI_clamp (by omega), nI_clamp (by omega)]
/-- behind a question: the rows again, and what was answered -/
def QR (v : Nat → Nat) (w : Nat → Int32) (h : Nat → MC) (A : (Nat → Int32) → RD → Option Value → Prop) : Option Value → (Nat → MC) → Prop := fun r h1 => ∃ (w' : Nat → Int32) (x' : RD), h1 = mov (rcL w' x') h ∧ SameT w w' ∧ FndI v w' x' ∧ A w' x' r
theorem Fnd.m {v : Nat → Nat} {w : Nat → Int32} {x : RD} (h : Fnd v w x) (ho : (strF v).2.2 = true) : x.m = (mdl0 v).1 ∧ w 7 = nI (mdl0 v).2 := by
  obtain ⟨S, h1, h2, -⟩ := h.2.2.2 ho
  rw [h.2.2.1] at h1 h2
  exact ⟨h1, h2⟩
theorem SameT.refl (w : Nat → Int32) : SameT w w := ⟨rfl, rfl, rfl⟩
theorem QR.mk {v : Nat → Nat} {w : Nat → Int32} {h : Nat → MC} {A : (Nat → Int32) → RD → Option Value → Prop} {post : Option Value → (Nat → MC) → Prop} (hpost : QR v w h A = post) {r : Option Value} (w' : Nat → Int32) (x' : RD) (h1 : SameT w w') (h2 : FndI v w' x') (h3 : A w' x' r) : post r (mov (rcL w' x') h) := by
  rw [← hpost]
  exact ⟨w', x', rfl, h1, h2, h3⟩
theorem c_wrong (d n : Nat) (p a b : Int32) (w : Nat → Int32) (v : Nat → Nat) (x : RD) (h : Nat → MC) (hx : RAt h w x) (hv : h 179 = .inl (.int, 189, .inl (vI v))) (hok : OkN v) (hF : FndI v w x) : Sp M_X10_wrong (d + 6) 0 0 [.ref 178, .int p, .int a, .int b] h n (QR v w h (fun w' x' r => r = some (.int (wrV v p a b)) ∧ (isF v p a b = true → Fnd v w' x'))) := by
  show MW _ _ _ _ _ _ _ _ _ _ _ _
  generalize hpost : (QR v w h (fun w' x' r => r = some (.int (wrV v p a b)) ∧ (isF v p a b = true → Fnd v w' x'))) = post
  refine mw_over (rcL w x) hx ?_
  refine mw_aload_n (i := 0) rfl rfl rfl ?_
  refine mw_iload_n (i := 1) rfl rfl rfl ?_
  refine mw_iload_n (i := 2) rfl rfl rfl ?_
  refine mw_iload_n (i := 3) rfl rfl rfl ?_
  refine mw_callV_f (c_isFact (d + 3) n p a b w v _ rfl hv hok.1 hok.2.1 hok.2.2.2.2.1) rfl ok_X10_isFact v_X10_95 rfl (by first | rfl | exact rfl | exact hv) (by intro e; cases e) rfl (Nat.le_of_ble_eq_true rfl) rfl (Nat.le_of_ble_eq_true rfl) (by omega) (by omega) (by omega) ?_
  refine mw_b_ne rfl (fun hf => ?_) (fun hf => ?_)
  · refine mw_aload_n (i := 0) rfl rfl rfl ?_
    refine mw_callV (c_finds d n w v x _ (RAt.of w x h) hv hok hF) rfl ok_X10_finds v_X10_185 rfl (by first | rfl | exact rfl | exact hv) (by intro e; cases e) rfl (Nat.le_of_ble_eq_true rfl) rfl (Nat.le_of_ble_eq_true rfl) (by omega) (by omega) (by omega) ?_
    intro r2 h2 hq2
    obtain ⟨rfl, w', x', rfl, hT, hFd, hI⟩ := hq2
    rw [rc_over]
    refine mw_b_ne rfl (fun ho => ?_) (fun ho => ?_)
    · obtain ⟨i, j, k, hi, hj, hk, rfl, rfl, rfl, e, h216⟩ := isF_nat hok hf
      have hm := (hFd.m ho).1
      have hans : wrV v (nI i) (nI j) (nI k) = if (mdl0 v).1 (36 * i + 6 * j + k) < 0 then -5 else 0 := by
        unfold wrV
        rw [hf, ho, e]
        rfl
      refine mw_aload_n (i := 0) rfl rfl rfl ?_
      refine mw_getfield rfl f_X10_32 (by first | rfl | exact rfl | exact hv) rfl ?_
      refine mw_iload_n (i := 1) rfl rfl rfl ?_
      refine mw_iload_n (i := 2) rfl rfl rfl ?_
      refine mw_iload_n (i := 3) rfl rfl rfl ?_
      refine mw_callS_f (c_factOf (d + 5) n i j k _) rfl ok_X10_factOf v_X10_98 rfl (Nat.le_of_ble_eq_true rfl) rfl (Nat.le_of_ble_eq_true rfl) (by omega) (by omega) (by omega) ?_
      generalize hy : (mdl0 v).1 (36 * i + 6 * j + k) = y at hans
      refine mw_iald_v (v := y) rfl rfl (by omega) (by omega) (show x'.m (36 * i + 6 * j + k) = y by rw [hm]; exact hy) ?_
      refine mw_if_ge rfl (fun hge => ?_) (fun hge => ?_)
      · rw [if_neg (Int32.not_lt.mpr hge)] at hans
        refine mw_iconst (v := nI 0) rfl (by decide) ?_
        exact mw_ireturn rfl rfl rfl rfl (Nat.le_refl _) ((QR.mk hpost w' x' hT hI ⟨by rw [hans]; rfl, fun _ => hFd⟩))
      · rw [if_pos (Int32.not_le.mp hge)] at hans
        refine mw_bipush (v := (-5)) rfl (by decide) ?_
        refine mw_goto rfl ?_
        exact mw_ireturn rfl rfl rfl rfl (Nat.le_refl _) ((QR.mk hpost w' x' hT hI ⟨by rw [hans], fun _ => hFd⟩))
    · refine mw_bipush (v := (-6)) rfl (by decide) ?_
      exact mw_ireturn rfl rfl rfl rfl (Nat.le_refl _) ((QR.mk hpost w' x' hT hI ⟨by unfold wrV; rw [hf, ho]; rfl, fun _ => hFd⟩))
  · refine mw_iconst (v := (-1)) rfl (by decide) ?_
    exact mw_ireturn rfl rfl rfl rfl (Nat.le_refl _) ((QR.mk hpost w x (SameT.refl w) hF ⟨by unfold wrV; rw [if_pos hf], fun q => by rw [hf] at q; cases q⟩))
end
section
def okA (v : Nat → Nat) (y : Int32) : Int32 := if (strF v).2.2 = true then y else -6
theorem okA_1 {v : Nat → Nat} {y : Int32} (h : (strF v).2.2 = true) : okA v y = y := if_pos h
theorem okA_0 {v : Nat → Nat} {y : Int32} (h : (strF v).2.2 = false) : okA v y = -6 := if_neg (by rw [h]; decide)
theorem c_stratum_e (d n : Nat) (p : Int32) (h : Nat → MC) (hx : inI p 6 = false) : Fn M_X10_stratum (d + 6) 0 0 [.ref 178, .int p] h n (some (.int (-1))) h := by
  refine Fn.of fun post hp => ?_
  refine mw_iload_n (i := 1) rfl rfl rfl ?_
  refine mw_iconst (v := nI 0) rfl (by decide) ?_
  refine mw_iconst (v := nI 5) rfl (by decide) ?_
  refine mw_callS_f (c_in0 (d + 5) n p 5 (by omega) _) rfl ok_X10_in v_X10_80 rfl (Nat.le_of_ble_eq_true rfl) rfl (Nat.le_of_ble_eq_true rfl) (by omega) (by omega) (by omega) ?_
  refine mw_b_ne rfl (fun hf => ?_) (fun hf => ?_)
  · rw [hx] at hf; cases hf
  · refine mw_iconst (v := (-1)) rfl (by decide) ?_
    exact mw_ireturn rfl rfl rfl rfl (Nat.le_refl _) (hp)
theorem c_stratum (d n : Nat) (p : Nat) (w : Nat → Int32) (v : Nat → Nat) (x : RD) (h : Nat → MC) (hx : RAt h w x) (hv : h 179 = .inl (.int, 189, .inl (vI v))) (hok : OkN v) (hF : FndI v w x) (hp6 : p < 6) : Sp M_X10_stratum (d + 6) 0 0 [.ref 178, .int (nI p)] h n (QR v w h (fun w' x' r => r = some (.int (okA v (nI ((strF v).1 p)))))) := by
  show MW _ _ _ _ _ _ _ _ _ _ _ _
  generalize hpost : (QR v w h (fun w' x' r => r = some (.int (okA v (nI ((strF v).1 p)))))) = post
  refine mw_over (rcL w x) hx ?_
  refine mw_iload_n (i := 1) rfl rfl rfl ?_
  refine mw_iconst (v := nI 0) rfl (by decide) ?_
  refine mw_iconst (v := nI 5) rfl (by decide) ?_
  refine mw_callS_f (c_in0 (d + 5) n (nI p) 5 (by omega) _) rfl ok_X10_in v_X10_80 rfl (Nat.le_of_ble_eq_true rfl) rfl (Nat.le_of_ble_eq_true rfl) (by omega) (by omega) (by omega) ?_
  refine mw_b_ne rfl (fun hf => ?_) (fun hf => ?_)
  · refine mw_aload_n (i := 0) rfl rfl rfl ?_
    refine mw_callV (c_finds d n w v x _ (RAt.of w x h) hv hok hF) rfl ok_X10_finds v_X10_185 rfl (by first | rfl | exact rfl | exact hv) (by intro e; cases e) rfl (Nat.le_of_ble_eq_true rfl) rfl (Nat.le_of_ble_eq_true rfl) (by omega) (by omega) (by omega) ?_
    intro r2 h2 hq2
    obtain ⟨rfl, w', x', rfl, hT, hFd, hI⟩ := hq2
    rw [rc_over]
    refine mw_b_eq rfl (fun ho => ?_) (fun ho => ?_)
    · refine mw_bipush (v := (-6)) rfl (by decide) ?_
      exact mw_ireturn rfl rfl rfl rfl (Nat.le_refl _) ((QR.mk hpost w' x' hT hI (by rw [okA_0 ho])))
    · refine mw_aload_n (i := 0) rfl rfl rfl ?_
      refine mw_getfield rfl f_X10_26 (by first | rfl | exact rfl | exact hv) rfl ?_
      refine mw_iload_n (i := 1) rfl rfl rfl ?_
      refine mw_iald rfl (by first | rfl | exact rfl | exact hv) (by omega) (by omega) ?_
      refine mw_goto rfl ?_
      exact mw_ireturn rfl rfl rfl rfl (Nat.le_refl _) ((QR.mk hpost w' x' hT hI (by rw [okA_1 ho, hFd.2.2.1]; rfl)))
  · rw [inI_nI hp6 (by omega)] at hf; cases hf
theorem c_size (d n : Nat) (w : Nat → Int32) (v : Nat → Nat) (x : RD) (h : Nat → MC) (hx : RAt h w x) (hv : h 179 = .inl (.int, 189, .inl (vI v))) (hok : OkN v) (hF : FndI v w x) : Sp M_X10_size (d + 6) 0 0 [.ref 178] h n (QR v w h (fun w' x' r => r = some (.int (okA v (nI (cntM (mdl0 v).1 0 216)))))) := by
  show MW _ _ _ _ _ _ _ _ _ _ _ _
  generalize hpost : (QR v w h (fun w' x' r => r = some (.int (okA v (nI (cntM (mdl0 v).1 0 216)))))) = post
  refine mw_over (rcL w x) hx ?_
  refine mw_aload_n (i := 0) rfl rfl rfl ?_
  refine mw_callV (c_finds d n w v x _ (RAt.of w x h) hv hok hF) rfl ok_X10_finds v_X10_185 rfl rfl (by intro e; cases e) rfl (Nat.le_of_ble_eq_true rfl) rfl (Nat.le_of_ble_eq_true rfl) (by omega) (by omega) (by omega) ?_
  intro r2 h2 hq2
  obtain ⟨rfl, w', x', rfl, hT, hFd, hI⟩ := hq2
  rw [rc_over]
  refine mw_b_eq rfl (fun ho => ?_) (fun ho => ?_)
  · refine mw_bipush (v := (-6)) rfl (by decide) ?_
    exact mw_ireturn rfl rfl rfl rfl (Nat.le_refl _) ((QR.mk hpost w' x' hT hI (by rw [okA_0 ho])))
  · refine mw_aload_n (i := 0) rfl rfl rfl ?_
    refine mw_getfield rfl f_X10_32 rfl rfl ?_
    refine mw_iconst (v := nI 0) rfl (by decide) ?_
    refine mw_sipush (v := nI 216) rfl (by decide) ?_
    refine mw_callS_f (c_tally (d + 5) n 186 0 216 x'.m _ rfl (by omega)) rfl ok_X10_tally v_X10_188 rfl (Nat.le_of_ble_eq_true rfl) rfl (Nat.le_of_ble_eq_true rfl) (by omega) (by omega) (by omega) ?_
    refine mw_goto rfl ?_
    exact mw_ireturn rfl rfl rfl rfl (Nat.le_refl _) ((QR.mk hpost w' x' hT hI (by rw [okA_1 ho, (hFd.m ho).1])))
theorem c_count_e (d n : Nat) (p : Int32) (h : Nat → MC) (hx : inI p 6 = false) : Fn M_X10_count (d + 6) 0 0 [.ref 178, .int p] h n (some (.int (-1))) h := by
  refine Fn.of fun post hp => ?_
  refine mw_iload_n (i := 1) rfl rfl rfl ?_
  refine mw_iconst (v := nI 0) rfl (by decide) ?_
  refine mw_iconst (v := nI 5) rfl (by decide) ?_
  refine mw_callS_f (c_in0 (d + 5) n p 5 (by omega) _) rfl ok_X10_in v_X10_80 rfl (Nat.le_of_ble_eq_true rfl) rfl (Nat.le_of_ble_eq_true rfl) (by omega) (by omega) (by omega) ?_
  refine mw_b_ne rfl (fun hf => ?_) (fun hf => ?_)
  · rw [hx] at hf; cases hf
  · refine mw_iconst (v := (-1)) rfl (by decide) ?_
    exact mw_ireturn rfl rfl rfl rfl (Nat.le_refl _) (hp)
theorem c_count (d n : Nat) (p : Nat) (w : Nat → Int32) (v : Nat → Nat) (x : RD) (h : Nat → MC) (hx : RAt h w x) (hv : h 179 = .inl (.int, 189, .inl (vI v))) (hok : OkN v) (hF : FndI v w x) (hp6 : p < 6) : Sp M_X10_count (d + 6) 0 0 [.ref 178, .int (nI p)] h n (QR v w h (fun w' x' r => r = some (.int (okA v (nI (cntM (mdl0 v).1 (36 * p) 36)))))) := by
  show MW _ _ _ _ _ _ _ _ _ _ _ _
  generalize hpost : (QR v w h (fun w' x' r => r = some (.int (okA v (nI (cntM (mdl0 v).1 (36 * p) 36)))))) = post
  refine mw_over (rcL w x) hx ?_
  refine mw_iload_n (i := 1) rfl rfl rfl ?_
  refine mw_iconst (v := nI 0) rfl (by decide) ?_
  refine mw_iconst (v := nI 5) rfl (by decide) ?_
  refine mw_callS_f (c_in0 (d + 5) n (nI p) 5 (by omega) _) rfl ok_X10_in v_X10_80 rfl (Nat.le_of_ble_eq_true rfl) rfl (Nat.le_of_ble_eq_true rfl) (by omega) (by omega) (by omega) ?_
  refine mw_b_ne rfl (fun hf => ?_) (fun hf => ?_)
  · refine mw_aload_n (i := 0) rfl rfl rfl ?_
    refine mw_callV (c_finds d n w v x _ (RAt.of w x h) hv hok hF) rfl ok_X10_finds v_X10_185 rfl rfl (by intro e; cases e) rfl (Nat.le_of_ble_eq_true rfl) rfl (Nat.le_of_ble_eq_true rfl) (by omega) (by omega) (by omega) ?_
    intro r2 h2 hq2
    obtain ⟨rfl, w', x', rfl, hT, hFd, hI⟩ := hq2
    rw [rc_over]
    refine mw_b_eq rfl (fun ho => ?_) (fun ho => ?_)
    · refine mw_bipush (v := (-6)) rfl (by decide) ?_
      exact mw_ireturn rfl rfl rfl rfl (Nat.le_refl _) ((QR.mk hpost w' x' hT hI (by rw [okA_0 ho])))
    · refine mw_aload_n (i := 0) rfl rfl rfl ?_
      refine mw_getfield rfl f_X10_32 rfl rfl ?_
      refine mw_bipush (v := nI 36) rfl (by decide) ?_
      refine mw_iload_n (i := 1) rfl rfl rfl ?_
      first | refine mw_nmul rfl ?_ | refine mw_imul rfl ?_
      refine mw_bipush (v := nI 36) rfl (by decide) ?_
      refine mw_iload_n (i := 1) rfl rfl rfl ?_
      first | refine mw_nmul rfl ?_ | refine mw_imul rfl ?_
      refine mw_bipush (v := nI 36) rfl (by decide) ?_
      first | refine mw_nadd rfl ?_ | refine mw_iadd rfl ?_
      refine mw_callS_f (c_tally (d + 5) n 186 (36 * p) 36 x'.m _ rfl (by omega)) rfl ok_X10_tally v_X10_188 rfl (Nat.le_of_ble_eq_true rfl) rfl (Nat.le_of_ble_eq_true rfl) (by omega) (by omega) (by omega) ?_
      refine mw_goto rfl ?_
      exact mw_ireturn rfl rfl rfl rfl (Nat.le_refl _) ((QR.mk hpost w' x' hT hI (by rw [okA_1 ho, (hFd.m ho).1])))
  · rw [inI_nI hp6 (by omega)] at hf; cases hf
theorem c_rounds (d n : Nat) (w : Nat → Int32) (v : Nat → Nat) (x : RD) (h : Nat → MC) (hx : RAt h w x) (hv : h 179 = .inl (.int, 189, .inl (vI v))) (hok : OkN v) (hF : FndI v w x) : Sp M_X10_rounds (d + 6) 0 0 [.ref 178] h n (QR v w h (fun w' x' r => r = some (.int (okA v (nI (mdl0 v).2))))) := by
  show MW _ _ _ _ _ _ _ _ _ _ _ _
  generalize hpost : (QR v w h (fun w' x' r => r = some (.int (okA v (nI (mdl0 v).2))))) = post
  refine mw_over (rcL w x) hx ?_
  refine mw_aload_n (i := 0) rfl rfl rfl ?_
  refine mw_callV (c_finds d n w v x _ (RAt.of w x h) hv hok hF) rfl ok_X10_finds v_X10_185 rfl rfl (by intro e; cases e) rfl (Nat.le_of_ble_eq_true rfl) rfl (Nat.le_of_ble_eq_true rfl) (by omega) (by omega) (by omega) ?_
  intro r2 h2 hq2
  obtain ⟨rfl, w', x', rfl, hT, hFd, hI⟩ := hq2
  rw [rc_over]
  refine mw_b_eq rfl (fun ho => ?_) (fun ho => ?_)
  · refine mw_bipush (v := (-6)) rfl (by decide) ?_
    exact mw_ireturn rfl rfl rfl rfl (Nat.le_refl _) ((QR.mk hpost w' x' hT hI (by rw [okA_0 ho])))
  · refine mw_aload_n (i := 0) rfl rfl rfl ?_
    refine mw_getfield rfl f_X10_170 rfl rfl ?_
    refine mw_goto rfl ?_
    exact mw_ireturn rfl rfl rfl rfl (Nat.le_refl _) ((QR.mk hpost w' x' hT hI (by rw [okA_1 ho, (hFd.m ho).2])))
end
section
def wA (v : Nat → Nat) (p a b : Int32) (y : Int32) : Int32 := if wrV v p a b < 0 then wrV v p a b else y
theorem wrV_cases (v : Nat → Nat) (p a b : Int32) : wrV v p a b < 0 ∨ (wrV v p a b = 0 ∧ isF v p a b = true ∧ (strF v).2.2 = true ∧ ¬ (mdl0 v).1 (fctN p a b) < 0) := by
  unfold wrV
  cases h1 : isF v p a b
  · rw [if_pos rfl]; exact Or.inl (by decide)
  · rw [if_neg (by decide)]
    cases h2 : (strF v).2.2
    · rw [if_pos rfl]; exact Or.inl (by decide)
    · rw [if_neg (by decide)]
      by_cases h3 : (mdl0 v).1 (fctN p a b) < 0
      · rw [if_pos h3]; exact Or.inl (by decide)
      · rw [if_neg h3]; exact Or.inr ⟨rfl, rfl, rfl, h3⟩
theorem wA_lt {v : Nat → Nat} {p a b y : Int32} (h : wrV v p a b < 0) : wA v p a b y = wrV v p a b := if_pos h
theorem wA_ge {v : Nat → Nat} {p a b y : Int32} (h : 0 ≤ wrV v p a b) : wA v p a b y = y := if_neg (Int32.not_lt.mpr h)
theorem wrV_ok {v : Nat → Nat} {p a b : Int32} (h : 0 ≤ wrV v p a b) : wrV v p a b = 0 ∧ isF v p a b = true ∧ (strF v).2.2 = true ∧ ¬ (mdl0 v).1 (fctN p a b) < 0 := (wrV_cases v p a b).resolve_left (Int32.not_lt.mpr h)
theorem c_round (d n : Nat) (p a b : Int32) (w : Nat → Int32) (v : Nat → Nat) (x : RD) (h : Nat → MC) (hx : RAt h w x) (hv : h 179 = .inl (.int, 189, .inl (vI v))) (hok : OkN v) (hF : FndI v w x) : Sp M_X10_round (d + 7) 0 0 [.ref 178, .int p, .int a, .int b] h n (QR v w h (fun w' x' r => r = some (.int (wA v p a b ((mdl0 v).1 (fctN p a b)))) ∧ (isF v p a b = true → Fnd v w' x'))) := by
  show MW _ _ _ _ _ _ _ _ _ _ _ _
  generalize hpost : (QR v w h (fun w' x' r => r = some (.int (wA v p a b ((mdl0 v).1 (fctN p a b)))) ∧ (isF v p a b = true → Fnd v w' x'))) = post
  refine mw_over (rcL w x) hx ?_
  refine mw_aload_n (i := 0) rfl rfl rfl ?_
  refine mw_iload_n (i := 1) rfl rfl rfl ?_
  refine mw_iload_n (i := 2) rfl rfl rfl ?_
  refine mw_iload_n (i := 3) rfl rfl rfl ?_
  refine mw_callV (c_wrong d n p a b w v x _ (RAt.of w x h) hv hok hF) rfl ok_X10_wrong v_X10_192 rfl (by first | rfl | exact rfl | exact hv) (by intro e; cases e) rfl (Nat.le_of_ble_eq_true rfl) rfl (Nat.le_of_ble_eq_true rfl) (by omega) (by omega) (by omega) ?_
  intro r2 h2 hq2
  obtain ⟨w', x', rfl, hT, hI, rfl, hFd⟩ := hq2
  rw [rc_over]
  refine mw_istore rfl (Nat.le_of_ble_eq_true rfl) ?_
  refine mw_iload rfl rfl ?_
  refine mw_if_ge rfl (fun hge => ?_) (fun hge => ?_)
  · obtain ⟨-, hf, ho, -⟩ := wrV_ok hge
    have hFd2 := hFd hf
    have hans := fun y => wA_ge (y := y) hge
    clear hge
    obtain ⟨i, j, k, hi, hj, hk, rfl, rfl, rfl, e, h216⟩ := isF_nat hok hf
    rw [e] at hpost
    refine mw_aload_n (i := 0) rfl rfl rfl ?_
    refine mw_getfield rfl f_X10_32 (by first | rfl | exact rfl | exact hv) rfl ?_
    refine mw_iload_n (i := 1) rfl rfl rfl ?_
    refine mw_iload_n (i := 2) rfl rfl rfl ?_
    refine mw_iload_n (i := 3) rfl rfl rfl ?_
    refine mw_callS_f (c_factOf (d + 6) n i j k _) rfl ok_X10_factOf v_X10_98 rfl (Nat.le_of_ble_eq_true rfl) rfl (Nat.le_of_ble_eq_true rfl) (by omega) (by omega) (by omega) ?_
    refine mw_iald_v (v := (mdl0 v).1 (36 * i + 6 * j + k)) rfl rfl (by omega) (by omega) (show x'.m (36 * i + 6 * j + k) = _ by rw [(hFd2.m ho).1]) ?_
    exact mw_ireturn rfl rfl rfl rfl (Nat.le_refl _) ((QR.mk hpost w' x' hT hI ⟨by rw [hans], hFd⟩))
  · refine mw_iload rfl rfl ?_
    refine mw_goto rfl ?_
    exact mw_ireturn rfl rfl rfl rfl (Nat.le_refl _) ((QR.mk hpost w' x' hT hI ⟨by rw [wA_lt (Int32.not_le.mp hge)], hFd⟩))
theorem c_cost (d n : Nat) (p a b : Int32) (w : Nat → Int32) (v : Nat → Nat) (x : RD) (h : Nat → MC) (hx : RAt h w x) (hv : h 179 = .inl (.int, 189, .inl (vI v))) (hok : OkN v) (hF : FndI v w x) : Sp M_X10_cost (d + 7) 0 0 [.ref 178, .int p, .int a, .int b] h n (QR v w h (fun w' x' r => r = some (.int (wA v p a b (nI (x'.c (fctN p a b))))) ∧ (isF v p a b = true → Fnd v w' x'))) := by
  show MW _ _ _ _ _ _ _ _ _ _ _ _
  generalize hpost : (QR v w h (fun w' x' r => r = some (.int (wA v p a b (nI (x'.c (fctN p a b))))) ∧ (isF v p a b = true → Fnd v w' x'))) = post
  refine mw_over (rcL w x) hx ?_
  refine mw_aload_n (i := 0) rfl rfl rfl ?_
  refine mw_iload_n (i := 1) rfl rfl rfl ?_
  refine mw_iload_n (i := 2) rfl rfl rfl ?_
  refine mw_iload_n (i := 3) rfl rfl rfl ?_
  refine mw_callV (c_wrong d n p a b w v x _ (RAt.of w x h) hv hok hF) rfl ok_X10_wrong v_X10_192 rfl (by first | rfl | exact rfl | exact hv) (by intro e; cases e) rfl (Nat.le_of_ble_eq_true rfl) rfl (Nat.le_of_ble_eq_true rfl) (by omega) (by omega) (by omega) ?_
  intro r2 h2 hq2
  obtain ⟨w', x', rfl, hT, hI, rfl, hFd⟩ := hq2
  rw [rc_over]
  refine mw_istore rfl (Nat.le_of_ble_eq_true rfl) ?_
  refine mw_iload rfl rfl ?_
  refine mw_if_ge rfl (fun hge => ?_) (fun hge => ?_)
  · obtain ⟨-, hf, ho, -⟩ := wrV_ok hge
    have hFd2 := hFd hf
    have hans := fun y => wA_ge (y := y) hge
    clear hge
    obtain ⟨i, j, k, hi, hj, hk, rfl, rfl, rfl, e, h216⟩ := isF_nat hok hf
    rw [e] at hpost
    refine mw_aload_n (i := 0) rfl rfl rfl ?_
    refine mw_getfield rfl f_X10_50 (by first | rfl | exact rfl | exact hv) rfl ?_
    refine mw_iload_n (i := 1) rfl rfl rfl ?_
    refine mw_iload_n (i := 2) rfl rfl rfl ?_
    refine mw_iload_n (i := 3) rfl rfl rfl ?_
    refine mw_callS_f (c_factOf (d + 6) n i j k _) rfl ok_X10_factOf v_X10_98 rfl (Nat.le_of_ble_eq_true rfl) rfl (Nat.le_of_ble_eq_true rfl) (by omega) (by omega) (by omega) ?_
    refine mw_iald rfl (by first | rfl | exact rfl | exact hv) (by omega) (by omega) ?_
    exact mw_ireturn rfl rfl rfl rfl (Nat.le_refl _) ((QR.mk hpost w' x' hT hI ⟨by rw [hans]; rfl, hFd⟩))
  · refine mw_iload rfl rfl ?_
    refine mw_goto rfl ?_
    exact mw_ireturn rfl rfl rfl rfl (Nat.le_refl _) ((QR.mk hpost w' x' hT hI ⟨by rw [wA_lt (Int32.not_le.mp hge)], hFd⟩))
end
section
theorem FndM.sok {v : Nat → Nat} {w : Nat → Int32} {x : RD} {S : HoS} (hok : OkN v) (h : FndM v w x S) : HoOk v S := by
  obtain ⟨-, -, ⟨ru0, hd0, b0, li0, e⟩, -⟩ := h
  rw [e]
  exact hoF_ok hok _ _ _ _
theorem FndM.sat {v : Nat → Nat} {w : Nat → Int32} {x : RD} {S : HoS} (hS : FndM v w x S) (w' : Nat → Int32) (x' : RD) (h : Nat → MC) (e1 : x'.ru = x.ru) (e2 : x'.hd = x.hd) (e3 : x'.li = x.li) : HoAt (mov (rcL w' x') h) S := by
  obtain ⟨-, -, -, -, h1, h2, h3, -⟩ := hS
  refine ⟨?_, ?_, ?_⟩
  · show (.inl (.int, 1728, .inl (vI x'.ru)) : MC) = _
    rw [e1, h1]
  · show (.inl (.int, 1728, .inl (vI x'.hd)) : MC) = _
    rw [e2, h2]
  · show (.inl (.int, 5184, .inl x'.li) : MC) = _
    rw [e3, h3]
theorem FndM.n {v : Nat → Nat} {w : Nat → Int32} {x : RD} {S : HoS} (h : FndM v w x S) : w 6 = nI S.1 := h.2.2.2.1
def inA (v : Nat → Nat) (p a b : Int32) (w' : Nat → Int32) (x' : RD) (r : Option Value) : Prop := (isF v p a b = true → Fnd v w' x') ∧ (wrV v p a b = -5 → r = some (.int 0)) ∧ (wrV v p a b < 0 → wrV v p a b ≠ -5 → r = some (.int (wrV v p a b))) ∧ (0 ≤ wrV v p a b → ∃ S, FndM v w' x' S ∧ r = some (.int (nI (insN S (fctN p a b) S.1))))
theorem c_instances (d n : Nat) (p a b : Int32) (w : Nat → Int32) (v : Nat → Nat) (x : RD) (h : Nat → MC) (hx : RAt h w x) (hv : h 179 = .inl (.int, 189, .inl (vI v))) (hok : OkN v) (hF : FndI v w x) : Sp M_X10_instances (d + 7) 0 0 [.ref 178, .int p, .int a, .int b] h n (QR v w h (inA v p a b)) := by
  show MW _ _ _ _ _ _ _ _ _ _ _ _
  generalize hpost : (QR v w h (inA v p a b)) = post
  refine mw_over (rcL w x) hx ?_
  refine mw_aload_n (i := 0) rfl rfl rfl ?_
  refine mw_iload_n (i := 1) rfl rfl rfl ?_
  refine mw_iload_n (i := 2) rfl rfl rfl ?_
  refine mw_iload_n (i := 3) rfl rfl rfl ?_
  refine mw_callV (c_wrong d n p a b w v x _ (RAt.of w x h) hv hok hF) rfl ok_X10_wrong v_X10_192 rfl (by first | rfl | exact rfl | exact hv) (by intro e; cases e) rfl (Nat.le_of_ble_eq_true rfl) rfl (Nat.le_of_ble_eq_true rfl) (by omega) (by omega) (by omega) ?_
  intro r2 h2 hq2
  obtain ⟨w', x', rfl, hT, hI, rfl, hFd⟩ := hq2
  rw [rc_over]
  refine mw_istore rfl (Nat.le_of_ble_eq_true rfl) ?_
  refine mw_iload rfl rfl ?_
  refine mw_bipush (v := (-5)) rfl (by decide) ?_
  refine mw_icmp_ne rfl (fun h5 => ?_) (fun h5 => ?_)
  · refine mw_iload rfl rfl ?_
    refine mw_if_ge rfl (fun hge => ?_) (fun hge => ?_)
    · obtain ⟨-, hf, ho, -⟩ := wrV_ok hge
      have hFd2 := hFd hf
      have hnl := Int32.not_lt.mpr hge
      obtain ⟨i, j, k, hi, hj, hk, rfl, rfl, rfl, e, h216⟩ := isF_nat hok hf
      obtain ⟨S, hS⟩ := hFd2.2.2.2 ho
      refine mw_aload_n (i := 0) rfl rfl rfl ?_
      refine mw_iload_n (i := 1) rfl rfl rfl ?_
      refine mw_iload_n (i := 2) rfl rfl rfl ?_
      refine mw_iload_n (i := 3) rfl rfl rfl ?_
      refine mw_callS_f (c_factOf (d + 6) n i j k _) rfl ok_X10_factOf v_X10_98 rfl (Nat.le_of_ble_eq_true rfl) rfl (Nat.le_of_ble_eq_true rfl) (by omega) (by omega) (by omega) ?_
      refine mw_callV_f (c_instancesOf (d + 6) n (36 * i + 6 * j + k) w' v S _ rfl hS.n (hS.sok hok) (hS.sat w' x' h rfl rfl rfl) h216) rfl ok_X10_instancesOf v_X10_195 rfl (by first | rfl | exact rfl | exact hv) (by intro e; cases e) rfl (Nat.le_of_ble_eq_true rfl) rfl (Nat.le_of_ble_eq_true rfl) (by omega) (by omega) (by omega) ?_
      exact mw_ireturn rfl rfl rfl rfl (Nat.le_refl _) ((QR.mk hpost w' x' hT hI ⟨hFd, fun q => absurd q h5, fun q => absurd q hnl, fun _ => ⟨S, hS, by rw [e]⟩⟩))
    · refine mw_iload rfl rfl ?_
      refine mw_goto rfl ?_
      exact mw_ireturn rfl rfl rfl rfl (Nat.le_refl _) ((QR.mk hpost w' x' hT hI ⟨hFd, fun q => absurd q h5, fun _ _ => rfl, fun q => absurd q hge⟩))
  · refine mw_iconst (v := nI 0) rfl (by decide) ?_
    refine mw_goto rfl ?_
    exact mw_ireturn rfl rfl rfl rfl (Nat.le_refl _) ((QR.mk hpost w' x' hT hI ⟨hFd, fun _ => rfl, fun _ q => absurd h5 q, fun q => absurd q (by rw [h5]; decide)⟩))
def lqA (v : Nat → Nat) (x : RD) (p a b what : Int32) : Int32 := if wrV v p a b = -1 then -1 else if inI what 3 = false then -2 else wA v p a b (leN x.lr x.z x.u (fctN p a b) what.toNatClampNeg)
theorem c_least (d n : Nat) (p a b what : Int32) (w : Nat → Int32) (v : Nat → Nat) (x : RD) (h : Nat → MC) (hx : RAt h w x) (hv : h 179 = .inl (.int, 189, .inl (vI v))) (hok : OkN v) (hF : FndI v w x) : Sp M_X10_least (d + 7) 0 0 [.ref 178, .int p, .int a, .int b, .int what] h n (QR v w h (fun w' x' r => r = some (.int (lqA v x' p a b what)) ∧ (isF v p a b = true → Fnd v w' x'))) := by
  show MW _ _ _ _ _ _ _ _ _ _ _ _
  generalize hpost : (QR v w h (fun w' x' r => r = some (.int (lqA v x' p a b what)) ∧ (isF v p a b = true → Fnd v w' x'))) = post
  refine mw_over (rcL w x) hx ?_
  refine mw_aload_n (i := 0) rfl rfl rfl ?_
  refine mw_iload_n (i := 1) rfl rfl rfl ?_
  refine mw_iload_n (i := 2) rfl rfl rfl ?_
  refine mw_iload_n (i := 3) rfl rfl rfl ?_
  refine mw_callV (c_wrong d n p a b w v x _ (RAt.of w x h) hv hok hF) rfl ok_X10_wrong v_X10_192 rfl rfl (by intro e; cases e) rfl (Nat.le_of_ble_eq_true rfl) rfl (Nat.le_of_ble_eq_true rfl) (by omega) (by omega) (by omega) ?_
  intro r2 h2 hq2
  obtain ⟨w', x', rfl, hT, hI, rfl, hFd⟩ := hq2
  rw [rc_over]
  refine mw_istore rfl (Nat.le_of_ble_eq_true rfl) ?_
  refine mw_iload rfl rfl ?_
  refine mw_iconst (v := (-1)) rfl (by decide) ?_
  refine mw_icmp_ne rfl (fun h1 => ?_) (fun h1 => ?_)
  · refine mw_iload rfl rfl ?_
    refine mw_iconst (v := nI 0) rfl (by decide) ?_
    refine mw_iconst (v := nI 2) rfl (by decide) ?_
    refine mw_callS_f (c_in0 (d + 6) n what 2 (by omega) _) rfl ok_X10_in v_X10_80 rfl (Nat.le_of_ble_eq_true rfl) rfl (Nat.le_of_ble_eq_true rfl) (by omega) (by omega) (by omega) ?_
    refine mw_b_ne rfl (fun hwh => ?_) (fun hwh => ?_)
    · obtain ⟨q, hq, rfl⟩ := inI_of hwh (by omega)
      have hans : lqA v x' p a b (nI q) = wA v p a b (leN x'.lr x'.z x'.u (fctN p a b) q) := by
        unfold lqA
        rw [if_neg h1, hwh, if_neg (by decide), nI_clamp (by omega)]
      refine mw_iload rfl rfl ?_
      refine mw_if_ge rfl (fun hge => ?_) (fun hge => ?_)
      · rw [wA_ge hge] at hans
        obtain ⟨-, hf, ho, -⟩ := wrV_ok hge
        obtain ⟨i, j, k, hi, hj, hk, rfl, rfl, rfl, e, h216⟩ := isF_nat hok hf
        rw [e] at hans
        refine mw_aload_n (i := 0) rfl rfl rfl ?_
        refine mw_iload_n (i := 1) rfl rfl rfl ?_
        refine mw_iload_n (i := 2) rfl rfl rfl ?_
        refine mw_iload_n (i := 3) rfl rfl rfl ?_
        refine mw_callS_f (c_factOf (d + 6) n i j k _) rfl ok_X10_factOf v_X10_98 rfl (Nat.le_of_ble_eq_true rfl) rfl (Nat.le_of_ble_eq_true rfl) (by omega) (by omega) (by omega) ?_
        refine mw_iload rfl rfl ?_
        refine mw_callV_f (c_leastNow (d + 6) n (36 * i + 6 * j + k) q w' x'.z x'.u x'.lr _ rfl rfl rfl rfl h216 hq) rfl ok_X10_leastNow v_X10_221 rfl rfl (by intro e; cases e) rfl (Nat.le_of_ble_eq_true rfl) rfl (Nat.le_of_ble_eq_true rfl) (by omega) (by omega) (by omega) ?_
        exact mw_ireturn rfl rfl rfl rfl (Nat.le_refl _) ((QR.mk hpost w' x' hT hI ⟨by rw [hans], hFd⟩))
      · rw [wA_lt (Int32.not_le.mp hge)] at hans
        refine mw_iload rfl rfl ?_
        refine mw_goto rfl ?_
        exact mw_ireturn rfl rfl rfl rfl (Nat.le_refl _) ((QR.mk hpost w' x' hT hI ⟨by rw [hans], hFd⟩))
    · refine mw_bipush (v := (-2)) rfl (by decide) ?_
      exact mw_ireturn rfl rfl rfl rfl (Nat.le_refl _) ((QR.mk hpost w' x' hT hI ⟨by unfold lqA; rw [if_neg h1, if_pos hwh], hFd⟩))
  · refine mw_iconst (v := (-1)) rfl (by decide) ?_
    exact mw_ireturn rfl rfl rfl rfl (Nat.le_refl _) ((QR.mk hpost w' x' hT hI ⟨by unfold lqA; rw [if_pos h1], hFd⟩))
end
section
def mdlX (v : Nat → Nat) (y : Int32) : Nat → Int32 := (mdlV v (strF v).1 y).1
theorem c_sizeWithout_e (d n : Nat) (y : Int32) (h : Nat → MC) (hy : y < 0) : Fn M_X10_sizeWithout d 0 0 [.ref 178, .int y] h n (some (.int (-2))) h := by
  refine Fn.of fun post hp => ?_
  refine mw_iload_n (i := 1) rfl rfl rfl ?_
  refine mw_if_ge rfl (fun hge => ?_) (fun hge => ?_)
  · exact absurd hy (Int32.not_lt.mpr hge)
  · refine mw_bipush (v := (-2)) rfl (by decide) ?_
    exact mw_ireturn rfl rfl rfl rfl (Nat.le_refl _) (hp)
theorem c_sizeWithout (d n : Nat) (y : Int32) (w : Nat → Int32) (v : Nat → Nat) (x : RD) (h : Nat → MC) (hx : RAt h w x) (hv : h 179 = .inl (.int, 189, .inl (vI v))) (hok : OkN v) (hF : FndI v w x) (hy : 0 ≤ y) : Sp M_X10_sizeWithout (d + 6) 0 0 [.ref 178, .int y] h n (QR v w h (fun w' x' r => r = some (.int (okA v (nI (cntM (mdlX v y) 0 216)))))) := by
  show MW _ _ _ _ _ _ _ _ _ _ _ _
  generalize hpost : (QR v w h (fun w' x' r => r = some (.int (okA v (nI (cntM (mdlX v y) 0 216)))))) = post
  refine mw_over (rcL w x) hx ?_
  refine mw_iload_n (i := 1) rfl rfl rfl ?_
  refine mw_if_ge rfl (fun hge => ?_) (fun hge => ?_)
  · refine mw_aload_n (i := 0) rfl rfl rfl ?_
    refine mw_callV (c_finds d n w v x _ (RAt.of w x h) hv hok hF) rfl ok_X10_finds v_X10_185 rfl (by first | rfl | exact rfl | exact hv) (by intro e; cases e) rfl (Nat.le_of_ble_eq_true rfl) rfl (Nat.le_of_ble_eq_true rfl) (by omega) (by omega) (by omega) ?_
    intro r2 h2 hq2
    obtain ⟨rfl, w', x', rfl, hT, hFd, hI⟩ := hq2
    rw [rc_over]
    refine mw_b_ne rfl (fun ho => ?_) (fun ho => ?_)
    · have hst6 : ∀ p, p < 6 → x'.st p < 6 := by rw [hFd.2.2.1]; exact strF_lt hok ho
      refine mw_aload_n (i := 0) rfl rfl rfl ?_
      refine mw_iload_n (i := 1) rfl rfl rfl ?_
      refine mw_aload_n (i := 0) rfl rfl rfl ?_
      refine mw_getfield rfl f_X10_35 (by first | rfl | exact rfl | exact hv) rfl ?_
      refine mw_callV (c_buildsB (d + 1) n y w' v x'.st x'.b x'.nb x'.o _ rfl hv rfl rfl rfl rfl hok hst6) rfl ok_X10_builds v_X10_166 rfl (by first | rfl | exact rfl | exact hv) (by intro e; cases e) rfl (Nat.le_of_ble_eq_true rfl) rfl (Nat.le_of_ble_eq_true rfl) (by omega) (by omega) (by omega) ?_
      intro r3 h3 hq3
      obtain ⟨rfl, nb2, b2, rfl⟩ := hq3
      rw [← mov_puts]
      refine mw_heap (h2 := mov (rcL (updN w' 5 (nI (mdlV v x'.st y).2)) (mkR x'.st b2 nb2 x'.m (mdlV v x'.st y).1 x'.ru x'.hd x'.li x'.c x'.l x'.lr x'.lb x'.z x'.u x'.D)) h) rfl ?_
      refine mw_aload_n (i := 0) rfl rfl rfl ?_
      refine mw_getfield rfl f_X10_35 (by first | rfl | exact rfl | exact hv) rfl ?_
      refine mw_iconst (v := nI 0) rfl (by decide) ?_
      refine mw_sipush (v := nI 216) rfl (by decide) ?_
      refine mw_callS_f (c_tally (d + 5) n 187 0 216 (mdlV v x'.st y).1 _ rfl (by omega)) rfl ok_X10_tally v_X10_188 rfl (Nat.le_of_ble_eq_true rfl) rfl (Nat.le_of_ble_eq_true rfl) (by omega) (by omega) (by omega) ?_
      exact mw_ireturn rfl rfl rfl rfl (Nat.le_refl _) ((QR.mk hpost (updN w' 5 (nI (mdlV v x'.st y).2)) (mkR x'.st b2 nb2 x'.m (mdlV v x'.st y).1 x'.ru x'.hd x'.li x'.c x'.l x'.lr x'.lb x'.z x'.u x'.D) hT ⟨hI.1, Or.inr hFd⟩ (by rw [okA_1 ho, hFd.2.2.1]; rfl)))
    · refine mw_bipush (v := (-6)) rfl (by decide) ?_
      exact mw_ireturn rfl rfl rfl rfl (Nat.le_refl _) ((QR.mk hpost w' x' hT hI (by rw [okA_0 ho])))
  · exact absurd hy hge
theorem c_holdsWithout_e1 (d n : Nat) (y p a b : Int32) (w : Nat → Int32) (v : Nat → Nat) (h : Nat → MC) (hO : h 178 = RO w) (hv : h 179 = .inl (.int, 189, .inl (vI v))) (hok : OkN v) (hf : isF v p a b = false) : Fn M_X10_holdsWithout (d + 6) 0 0 [.ref 178, .int y, .int p, .int a, .int b] h n (some (.int (-1))) h := by
  refine Fn.of fun post hp => ?_
  refine mw_aload_n (i := 0) rfl rfl rfl ?_
  refine mw_iload_n (i := 2) rfl rfl rfl ?_
  refine mw_iload_n (i := 3) rfl rfl rfl ?_
  refine mw_iload rfl rfl ?_
  refine mw_callV_f (c_isFact (d + 3) n p a b w v h hO hv hok.1 hok.2.1 hok.2.2.2.2.1) rfl ok_X10_isFact v_X10_95 rfl (by first | rfl | exact hO | exact hv) (by intro e; cases e) rfl (Nat.le_of_ble_eq_true rfl) rfl (Nat.le_of_ble_eq_true rfl) (by omega) (by omega) (by omega) ?_
  refine mw_b_ne rfl (fun hq => ?_) (fun hq => ?_)
  · rw [hf] at hq; cases hq
  · refine mw_iconst (v := (-1)) rfl (by decide) ?_
    exact mw_ireturn rfl rfl rfl rfl (Nat.le_refl _) (hp)
theorem c_holdsWithout_e2 (d n : Nat) (y p a b : Int32) (w : Nat → Int32) (v : Nat → Nat) (h : Nat → MC) (hO : h 178 = RO w) (hv : h 179 = .inl (.int, 189, .inl (vI v))) (hok : OkN v) (hf : isF v p a b = true) (hy : y < 0) : Fn M_X10_holdsWithout (d + 6) 0 0 [.ref 178, .int y, .int p, .int a, .int b] h n (some (.int (-2))) h := by
  refine Fn.of fun post hp => ?_
  refine mw_aload_n (i := 0) rfl rfl rfl ?_
  refine mw_iload_n (i := 2) rfl rfl rfl ?_
  refine mw_iload_n (i := 3) rfl rfl rfl ?_
  refine mw_iload rfl rfl ?_
  refine mw_callV_f (c_isFact (d + 3) n p a b w v h hO hv hok.1 hok.2.1 hok.2.2.2.2.1) rfl ok_X10_isFact v_X10_95 rfl (by first | rfl | exact hO | exact hv) (by intro e; cases e) rfl (Nat.le_of_ble_eq_true rfl) rfl (Nat.le_of_ble_eq_true rfl) (by omega) (by omega) (by omega) ?_
  refine mw_b_ne rfl (fun hq => ?_) (fun hq => ?_)
  · refine mw_iload_n (i := 1) rfl rfl rfl ?_
    refine mw_if_ge rfl (fun hge => ?_) (fun hge => ?_)
    · exact absurd hy (Int32.not_lt.mpr hge)
    · refine mw_bipush (v := (-2)) rfl (by decide) ?_
      exact mw_ireturn rfl rfl rfl rfl (Nat.le_refl _) (hp)
  · rw [hf] at hq; cases hq
theorem c_holdsWithout (d n : Nat) (y p a b : Int32) (w : Nat → Int32) (v : Nat → Nat) (x : RD) (h : Nat → MC) (hx : RAt h w x) (hv : h 179 = .inl (.int, 189, .inl (vI v))) (hok : OkN v) (hF : FndI v w x) (hf : isF v p a b = true) (hy : 0 ≤ y) : Sp M_X10_holdsWithout (d + 6) 0 0 [.ref 178, .int y, .int p, .int a, .int b] h n (QR v w h (fun w' x' r => r = some (.int (okA v (bI (decide (0 ≤ mdlX v y (fctN p a b)))))))) := by
  show MW _ _ _ _ _ _ _ _ _ _ _ _
  generalize hpost : (QR v w h (fun w' x' r => r = some (.int (okA v (bI (decide (0 ≤ mdlX v y (fctN p a b)))))))) = post
  refine mw_over (rcL w x) hx ?_
  refine mw_aload_n (i := 0) rfl rfl rfl ?_
  refine mw_iload_n (i := 2) rfl rfl rfl ?_
  refine mw_iload_n (i := 3) rfl rfl rfl ?_
  refine mw_iload rfl rfl ?_
  refine mw_callV_f (c_isFact (d + 3) n p a b w v _ rfl hv hok.1 hok.2.1 hok.2.2.2.2.1) rfl ok_X10_isFact v_X10_95 rfl (by first | rfl | exact rfl | exact hv) (by intro e; cases e) rfl (Nat.le_of_ble_eq_true rfl) rfl (Nat.le_of_ble_eq_true rfl) (by omega) (by omega) (by omega) ?_
  refine mw_b_ne rfl (fun hq => ?_) (fun hq => ?_)
  · refine mw_iload_n (i := 1) rfl rfl rfl ?_
    refine mw_if_ge rfl (fun hge => ?_) (fun hge => ?_)
    · refine mw_aload_n (i := 0) rfl rfl rfl ?_
      refine mw_callV (c_finds d n w v x _ (RAt.of w x h) hv hok hF) rfl ok_X10_finds v_X10_185 rfl (by first | rfl | exact rfl | exact hv) (by intro e; cases e) rfl (Nat.le_of_ble_eq_true rfl) rfl (Nat.le_of_ble_eq_true rfl) (by omega) (by omega) (by omega) ?_
      intro r2 h2 hq2
      obtain ⟨rfl, w', x', rfl, hT, hFd, hI⟩ := hq2
      rw [rc_over]
      refine mw_b_ne rfl (fun ho => ?_) (fun ho => ?_)
      · have hst6 : ∀ p, p < 6 → x'.st p < 6 := by rw [hFd.2.2.1]; exact strF_lt hok ho
        have hst := hFd.2.2.1
        obtain ⟨i, j, k, hi, hj, hk, rfl, rfl, rfl, e, h216⟩ := isF_nat hok hf
        rw [e] at hpost
        refine mw_aload_n (i := 0) rfl rfl rfl ?_
        refine mw_iload_n (i := 1) rfl rfl rfl ?_
        refine mw_aload_n (i := 0) rfl rfl rfl ?_
        refine mw_getfield rfl f_X10_35 (by first | rfl | exact rfl | exact hv) rfl ?_
        refine mw_callV (c_buildsB (d + 1) n y w' v x'.st x'.b x'.nb x'.o _ rfl hv rfl rfl rfl rfl hok hst6) rfl ok_X10_builds v_X10_166 rfl (by first | rfl | exact rfl | exact hv) (by intro e; cases e) rfl (Nat.le_of_ble_eq_true rfl) rfl (Nat.le_of_ble_eq_true rfl) (by omega) (by omega) (by omega) ?_
        intro r3 h3 hq3
        obtain ⟨rfl, nb2, b2, rfl⟩ := hq3
        rw [← mov_puts]
        refine mw_heap (h2 := mov (rcL (updN w' 5 (nI (mdlV v x'.st y).2)) (mkR x'.st b2 nb2 x'.m (mdlV v x'.st y).1 x'.ru x'.hd x'.li x'.c x'.l x'.lr x'.lb x'.z x'.u x'.D)) h) rfl ?_
        refine mw_aload_n (i := 0) rfl rfl rfl ?_
        refine mw_getfield rfl f_X10_35 (by first | rfl | exact rfl | exact hv) rfl ?_
        refine mw_iload_n (i := 2) rfl rfl rfl ?_
        refine mw_iload_n (i := 3) rfl rfl rfl ?_
        refine mw_iload rfl rfl ?_
        refine mw_callS_f (c_factOf (d + 5) n i j k _) rfl ok_X10_factOf v_X10_98 rfl (Nat.le_of_ble_eq_true rfl) rfl (Nat.le_of_ble_eq_true rfl) (by omega) (by omega) (by omega) ?_
        refine mw_iald_v (v := mdlX v y (36 * i + 6 * j + k)) rfl rfl (by omega) (by omega) (show (mdlV v x'.st y).1 (36 * i + 6 * j + k) = (mdlV v (strF v).1 y).1 (36 * i + 6 * j + k) by rw [hst]) ?_
        refine mw_if_ge rfl (fun h0 => ?_) (fun h0 => ?_)
        · refine mw_iconst (v := nI 1) rfl (by decide) ?_
          exact mw_ireturn rfl rfl rfl rfl (Nat.le_refl _) ((QR.mk hpost (updN w' 5 (nI (mdlV v x'.st y).2)) (mkR x'.st b2 nb2 x'.m (mdlV v x'.st y).1 x'.ru x'.hd x'.li x'.c x'.l x'.lr x'.lb x'.z x'.u x'.D) hT ⟨hI.1, Or.inr hFd⟩ (by rw [okA_1 ho, decide_eq_true h0]; rfl)))
        · refine mw_iconst (v := nI 0) rfl (by decide) ?_
          refine mw_goto rfl ?_
          exact mw_ireturn rfl rfl rfl rfl (Nat.le_refl _) ((QR.mk hpost (updN w' 5 (nI (mdlV v x'.st y).2)) (mkR x'.st b2 nb2 x'.m (mdlV v x'.st y).1 x'.ru x'.hd x'.li x'.c x'.l x'.lr x'.lb x'.z x'.u x'.D) hT ⟨hI.1, Or.inr hFd⟩ (by rw [okA_1 ho, decide_eq_false h0]; rfl)))
      · refine mw_bipush (v := (-6)) rfl (by decide) ?_
        exact mw_ireturn rfl rfl rfl rfl (Nat.le_refl _) ((QR.mk hpost w' x' hT hI (by rw [okA_0 ho])))
    · exact absurd hy hge
  · rw [hf] at hq; cases hq
end
section
abbrev RD.uD (x : RD) (D : Nat → Bool) : RD := mkR x.st x.b x.nb x.m x.o x.ru x.hd x.li x.c x.l x.lr x.lb x.z x.u D
/-- E y: what can be derived without the base facts of y -/
def DerE (v : Nat → Nat) (S : HoS) (E : Int32 → Nat → Bool) : Prop := ∀ y, IsLim (fun D => (dvP S D).1) (dvBase v y) (E y)
theorem derE_ex {v : Nat → Nat} {S : HoS} (hS : HoOk v S) : ∃ E, DerE v S E := by
  obtain ⟨E, hE⟩ := Classical.axiomOfChoice (r := fun (y : Int32) (D : Nat → Bool) => IsLim (fun D => (dvP S D).1) (dvBase v y) D) (fun y => dvLim hS (dvBase v y))
  exact ⟨E, hE⟩
abbrev bitI (i : Nat) : Int32 := nI 1 <<< (nI i &&& 31)
def ndA (E : Int32 → Nat → Bool) (f : Nat) : Nat → Int32
  | 0 => nI 0
  | i + 1 => ndA E f i ||| (if E (bitI i) f then nI 0 else bitI i)
def ndQ (v : Nat → Nat) (p a b : Int32) (g : (Int32 → Nat → Bool) → Nat → Int32) (w' : Nat → Int32) (x' : RD) (r : Option Value) : Prop := (isF v p a b = true → Fnd v w' x') ∧ (wrV v p a b < 0 → r = some (.int (wrV v p a b))) ∧ (0 ≤ wrV v p a b → ∃ S E, FndM v w' x' S ∧ DerE v S E ∧ r = some (.int (g E (fctN p a b))))
theorem c_needs (d n : Nat) (p a b : Int32) (w : Nat → Int32) (v : Nat → Nat) (x : RD) (h : Nat → MC) (hx : RAt h w x) (hv : h 179 = .inl (.int, 189, .inl (vI v))) (hok : OkN v) (hF : FndI v w x) : Sp M_X10_needs (d + 7) 0 0 [.ref 178, .int p, .int a, .int b] h n (QR v w h (ndQ v p a b (fun E f => ndA E f (v 1)))) := by
  show MW _ _ _ _ _ _ _ _ _ _ _ _
  generalize hpost : (QR v w h (ndQ v p a b (fun E f => ndA E f (v 1)))) = post
  refine mw_over (rcL w x) hx ?_
  refine mw_aload_n (i := 0) rfl rfl rfl ?_
  refine mw_iload_n (i := 1) rfl rfl rfl ?_
  refine mw_iload_n (i := 2) rfl rfl rfl ?_
  refine mw_iload_n (i := 3) rfl rfl rfl ?_
  refine mw_callV (c_wrong d n p a b w v x _ (RAt.of w x h) hv hok hF) rfl ok_X10_wrong v_X10_192 rfl (by first | rfl | exact rfl | exact hv) (by intro e; cases e) rfl (Nat.le_of_ble_eq_true rfl) rfl (Nat.le_of_ble_eq_true rfl) (by omega) (by omega) (by omega) ?_
  intro r2 h2 hq2
  obtain ⟨w', x', rfl, hT, hI, rfl, hFd⟩ := hq2
  rw [rc_over]
  refine mw_istore rfl (Nat.le_of_ble_eq_true rfl) ?_
  refine mw_iload rfl rfl ?_
  refine mw_if_ge rfl (fun hge => ?_) (fun hge => ?_)
  · obtain ⟨-, hf, ho, -⟩ := wrV_ok hge
    have hFd2 := hFd hf
    have hnl := Int32.not_lt.mpr hge
    have hf12 := hok.2.2.1
    generalize hW : wrV v p a b = W at *
    obtain ⟨i, j, k, hi, hj, hk, rfl, rfl, rfl, e, h216⟩ := isF_nat hok hf
    obtain ⟨S, hS⟩ := hFd2.2.2.2 ho
    obtain ⟨E, hE⟩ := derE_ex (hS.sok hok)
    refine mw_iload_n (i := 1) rfl rfl rfl ?_
    refine mw_iload_n (i := 2) rfl rfl rfl ?_
    refine mw_iload_n (i := 3) rfl rfl rfl ?_
    refine mw_callS_f (c_factOf (d + 6) n i j k _) rfl ok_X10_factOf v_X10_98 rfl (Nat.le_of_ble_eq_true rfl) rfl (Nat.le_of_ble_eq_true rfl) (by omega) (by omega) (by omega) ?_
    refine mw_istore rfl (Nat.le_of_ble_eq_true rfl) ?_
    refine mw_iconst (v := nI 0) rfl (by decide) ?_
    refine mw_istore rfl (Nat.le_of_ble_eq_true rfl) ?_
    refine mw_iconst (v := nI 0) rfl (by decide) ?_
    refine mw_istore rfl (Nat.le_of_ble_eq_true rfl) ?_
    have loop : ∀ q, q ≤ v 1 → ∀ D, MW M_X10_needs (d + 7) 0 0 n post 31 [(0, .ref 178), (1, .int (nI i)), (2, .int (nI j)), (3, .int (nI k)), (4, .int W), (5, .int (nI (36 * i + 6 * j + k))), (6, .int (ndA E (36 * i + 6 * j + k) q)), (7, .int (nI q))] [] (mov (rcL w' (x'.uD D)) h) n 0 := by
      refine loop_up (P := fun q => ∀ D, MW M_X10_needs (d + 7) 0 0 n post 31 [(0, .ref 178), (1, .int (nI i)), (2, .int (nI j)), (3, .int (nI k)), (4, .int W), (5, .int (nI (36 * i + 6 * j + k))), (6, .int (ndA E (36 * i + 6 * j + k) q)), (7, .int (nI q))] [] (mov (rcL w' (x'.uD D)) h) n 0) (v 1) ?_ ?_
      · intro D
        refine mw_iload rfl rfl ?_
        refine mw_aload_n (i := 0) rfl rfl rfl ?_
        refine mw_getfield rfl f_X10_7 (by first | rfl | exact rfl | exact hv) rfl ?_
        refine mw_iconst (v := nI 1) rfl (by decide) ?_
        refine mw_iald rfl (by first | rfl | exact rfl | exact hv) (by omega) (by omega) ?_
        refine mw_n_ge rfl (by omega) (by omega) (fun hc => ?_) (fun hc => ?_)
        · refine mw_iload rfl rfl ?_
          exact mw_ireturn rfl rfl rfl rfl (Nat.le_refl _) ((QR.mk hpost w' (x'.uD D) hT ⟨hI.1, Or.inr hFd2⟩ ⟨fun _ => hFd2, fun q => absurd (hW ▸ q) hnl, fun _ => ⟨S, E, hS, hE, by rw [e]⟩⟩))
        · omega
      · intro q hq ih D
        have eA : ndA E (36 * i + 6 * j + k) (q + 1) = ndA E (36 * i + 6 * j + k) q ||| (if E (bitI q) (36 * i + 6 * j + k) then nI 0 else bitI q) := rfl
        rw [eA] at ih
        generalize ndA E (36 * i + 6 * j + k) q = acc at ih ⊢
        refine mw_iload rfl rfl ?_
        refine mw_aload_n (i := 0) rfl rfl rfl ?_
        refine mw_getfield rfl f_X10_7 (by first | rfl | exact rfl | exact hv) rfl ?_
        refine mw_iconst (v := nI 1) rfl (by decide) ?_
        refine mw_iald rfl (by first | rfl | exact rfl | exact hv) (by omega) (by omega) ?_
        refine mw_n_ge rfl (by omega) (by omega) (fun hc => ?_) (fun hc => ?_)
        · omega
        · refine mw_iload rfl rfl ?_
          refine mw_aload_n (i := 0) rfl rfl rfl ?_
          refine mw_iload rfl rfl ?_
          refine mw_iconst (v := nI 1) rfl (by decide) ?_
          refine mw_iload rfl rfl ?_
          refine mw_ishl rfl ?_
          refine mw_callV (c_canDo (d + 5) n (36 * i + 6 * j + k) (bitI q) w' v D (E (bitI q)) S _ rfl hS.n hv rfl hok (hS.sok hok) (hS.sat w' (x'.uD D) h rfl rfl rfl) h216 (hE (bitI q))) rfl ok_X10_canDo v_X10_227 rfl (by first | rfl | exact rfl | exact hv) (by intro e; cases e) rfl (Nat.le_of_ble_eq_true rfl) rfl (Nat.le_of_ble_eq_true rfl) (by omega) (by omega) (by omega) ?_
          intro r3 h3 hq3
          obtain ⟨rfl, D', rfl⟩ := hq3
          rw [← mov_puts]
          refine mw_heap (h2 := mov (rcL w' (x'.uD D')) h) rfl ?_
          have ih := ih D'
          refine mw_b_eq rfl (fun hb => ?_) (fun hb => ?_)
          · rw [hb, if_neg (by decide)] at ih
            refine mw_iconst (v := nI 1) rfl (by decide) ?_
            refine mw_iload rfl rfl ?_
            refine mw_ishl rfl ?_
            first | refine mw_nior rfl ?_ | refine mw_ior rfl ?_
            refine mw_istore rfl (Nat.le_of_ble_eq_true rfl) ?_
            first | refine mw_ninc rfl rfl (Nat.le_of_ble_eq_true rfl) ?_ | refine mw_iinc rfl rfl rfl (Nat.le_of_ble_eq_true rfl) ?_
            refine mw_goto rfl ?_
            exact mw_locals rfl ih
          · rw [hb, if_pos rfl] at ih
            refine mw_iconst (v := nI 0) rfl (by decide) ?_
            refine mw_goto rfl ?_
            first | refine mw_nior rfl ?_ | refine mw_ior rfl ?_
            refine mw_istore rfl (Nat.le_of_ble_eq_true rfl) ?_
            first | refine mw_ninc rfl rfl (Nat.le_of_ble_eq_true rfl) ?_ | refine mw_iinc rfl rfl rfl (Nat.le_of_ble_eq_true rfl) ?_
            refine mw_goto rfl ?_
            exact mw_locals rfl ih
    exact mw_locals rfl (loop 0 (Nat.zero_le _) x'.D)
  · refine mw_iload rfl rfl ?_
    exact mw_ireturn rfl rfl rfl rfl (Nat.le_refl _) ((QR.mk hpost w' x' hT hI ⟨hFd, fun _ => rfl, fun q => absurd q hge⟩))
end
section
/-- the first that is there among P 0 .. P (n - 1) -/
def upTo {α : Type} (P : Nat → Option α) : Nat → Option α
  | 0 => none
  | k + 1 => (upTo P k).or (P k)
theorem upTo_miss {α : Type} {P : Nat → Option α} {k : Nat} (h0 : upTo P k = none) (h1 : P k = none) : upTo P (k + 1) = none := by
  show (upTo P k).or (P k) = none
  rw [h0, h1]
  rfl
theorem upTo_hit {α : Type} {P : Nat → Option α} {k : Nat} {c : α} (h0 : upTo P k = none) (h1 : P k = some c) : ∀ {N : Nat}, k < N → upTo P N = some c
  | 0, h => absurd h (Nat.not_lt_zero _)
  | N + 1, h => by
    show (upTo P N).or (P N) = some c
    by_cases e : k = N
    · subst e
      rw [h0, h1]
      rfl
    · rw [upTo_hit h0 h1 (show k < N by omega)]
      rfl
theorem upTo_none {α : Type} {P : Nat → Option α} : ∀ {N : Nat}, (∀ k, k < N → P k = none) → upTo P N = none
  | 0, _ => rfl
  | N + 1, h => upTo_miss (upTo_none (fun k hk => h k (by omega))) (h N (by omega))
def cutA (E : Int32 → Nat → Bool) (g i : Nat) : Option Int32 := if E (bitI i) g = true then none else some (bitI i)
def cutB (E : Int32 → Nat → Bool) (g i j : Nat) : Option Int32 := if i < j ∧ E (bitI i ||| bitI j) g = false then some (bitI i ||| bitI j) else none
def cutC (E : Int32 → Nat → Bool) (g n t : Nat) : Option Int32 := if t / n / n < t / n % n ∧ t / n % n < t % n ∧ E (bitI (t / n / n) ||| bitI (t / n % n) ||| bitI (t % n)) g = false then some (bitI (t / n / n) ||| bitI (t / n % n) ||| bitI (t % n)) else none
def cutV (E : Int32 → Nat → Bool) (g n : Nat) : Int32 := ((upTo (cutA E g) n).or ((upTo (fun i => upTo (cutB E g i) n) n).or (upTo (cutC E g n) (n * n * n)))).getD (-5)
theorem cutV_a {E : Int32 → Nat → Bool} {g n : Nat} {c : Int32} (h : upTo (cutA E g) n = some c) : cutV E g n = c := by
  unfold cutV
  rw [h]
  rfl
theorem cutV_b {E : Int32 → Nat → Bool} {g n : Nat} {c : Int32} (h0 : upTo (cutA E g) n = none) (h : upTo (fun i => upTo (cutB E g i) n) n = some c) : cutV E g n = c := by
  unfold cutV
  rw [h0, h]
  rfl
theorem cutV_c {E : Int32 → Nat → Bool} {g n : Nat} {c : Int32} (h0 : upTo (cutA E g) n = none) (h1 : upTo (fun i => upTo (cutB E g i) n) n = none) (h : upTo (cutC E g n) (n * n * n) = some c) : cutV E g n = c := by
  unfold cutV
  rw [h0, h1, h]
  rfl
theorem cutV_d {E : Int32 → Nat → Bool} {g n : Nat} (h0 : upTo (cutA E g) n = none) (h1 : upTo (fun i => upTo (cutB E g i) n) n = none) (h : upTo (cutC E g n) (n * n * n) = none) : cutV E g n = -5 := by
  unfold cutV
  rw [h0, h1, h]
  rfl
set_option maxRecDepth 20000 in
theorem c_cutOf (d n : Nat) (g : Nat) (w : Nat → Int32) (v : Nat → Nat) (x : RD) (E : Int32 → Nat → Bool) (S : HoS) (h : Nat → MC) (hv : h 179 = .inl (.int, 189, .inl (vI v))) (hok : OkN v) (hS : FndM v w x S) (hg : g < 216) (hE : DerE v S E) : Sp M_X10_cutOf (d + 2) 0 0 [.ref 178, .int (nI g)] (mov (rcL w x) h) n (fun r h1 => ∃ D' : Nat → Bool, r = some (.int (cutV E g (v 1))) ∧ h1 = mov (rcL w (x.uD D')) h) := by
  show MW _ _ _ _ _ _ _ _ _ _ _ _
  generalize hpost : (fun (r : Option Value) (h1 : Nat → MC) => ∃ D' : Nat → Bool, r = some (.int (cutV E g (v 1))) ∧ h1 = mov (rcL w (x.uD D')) h) = post
  have hp : ∀ (D' : Nat → Bool) (c : Int32), cutV E g (v 1) = c → post (some (.int c)) (mov (rcL w (x.uD D')) h) := by
    intro D' c e
    rw [← hpost, ← e]
    exact ⟨D', rfl, rfl⟩
  clear hpost
  have hf12 := hok.2.2.1
  have hcub : v 1 * v 1 * v 1 ≤ 12 * 12 * 12 := Nat.mul_le_mul (Nat.mul_le_mul hf12 hf12) hf12
  have hsq : v 1 * v 1 ≤ 12 * 12 := Nat.mul_le_mul hf12 hf12
  have loop3 : upTo (cutA E g) (v 1) = none → upTo (fun i => upTo (cutB E g i) (v 1)) (v 1) = none → ∀ t, t ≤ v 1 * v 1 * v 1 → ∀ D, upTo (cutC E g (v 1)) t = none → MW M_X10_cutOf (d + 2) 0 0 n post 92 [(0, .ref 178), (1, .int (nI g)), (2, .int (nI (v 1))), (3, .int (nI t))] [] (mov (rcL w (x.uD D)) h) n 0 := by
    intro hA hB
    refine loop_up (P := fun t => ∀ D, upTo (cutC E g (v 1)) t = none → MW M_X10_cutOf (d + 2) 0 0 n post 92 [(0, .ref 178), (1, .int (nI g)), (2, .int (nI (v 1))), (3, .int (nI t))] [] (mov (rcL w (x.uD D)) h) n 0) (v 1 * v 1 * v 1) ?_ ?_
    · intro D hC
      refine mw_iload_n (i := 3) rfl rfl rfl ?_
      refine mw_iload_n (i := 2) rfl rfl rfl ?_
      refine mw_iload_n (i := 2) rfl rfl rfl ?_
      first | refine mw_nmul rfl ?_ | refine mw_imul rfl ?_
      refine mw_iload_n (i := 2) rfl rfl rfl ?_
      first | refine mw_nmul rfl ?_ | refine mw_imul rfl ?_
      refine mw_n_ge rfl (by omega) (by omega) (fun hc => ?_) (fun hc => ?_)
      · refine mw_bipush (v := (-5)) rfl (by decide) ?_
        exact mw_ireturn rfl rfl rfl rfl (Nat.le_refl _) ((hp D _ (cutV_d hA hB hC)))
      · omega
    · intro t ht ih D hC
      have hn0 : 0 < v 1 := Nat.pos_of_ne_zero (fun e => by rw [e] at ht; omega)
      have d1 := Nat.div_le_self t (v 1)
      have d2 := Nat.div_le_self (t / v 1) (v 1)
      have d3 := Nat.mod_lt (t / v 1) hn0
      have d4 := Nat.mod_lt t hn0
      have eC : ∀ c, cutC E g (v 1) t = c → cutC E g (v 1) t = c := fun _ e => e
      unfold cutC at eC
      refine mw_iload_n (i := 3) rfl rfl rfl ?_
      refine mw_iload_n (i := 2) rfl rfl rfl ?_
      refine mw_iload_n (i := 2) rfl rfl rfl ?_
      first | refine mw_nmul rfl ?_ | refine mw_imul rfl ?_
      refine mw_iload_n (i := 2) rfl rfl rfl ?_
      first | refine mw_nmul rfl ?_ | refine mw_imul rfl ?_
      refine mw_n_ge rfl (by omega) (by omega) (fun hc => ?_) (fun hc => ?_)
      · omega
      · refine mw_iload_n (i := 3) rfl rfl rfl ?_
        refine mw_iload_n (i := 2) rfl rfl rfl ?_
        refine mw_ndiv rfl (by omega) (by omega) (by omega) ?_
        refine mw_iload_n (i := 2) rfl rfl rfl ?_
        refine mw_ndiv rfl (by omega) (by omega) (by omega) ?_
        refine mw_istore rfl (Nat.le_of_ble_eq_true rfl) ?_
        refine mw_iload_n (i := 3) rfl rfl rfl ?_
        refine mw_iload_n (i := 2) rfl rfl rfl ?_
        refine mw_ndiv rfl (by omega) (by omega) (by omega) ?_
        refine mw_iload_n (i := 2) rfl rfl rfl ?_
        refine mw_nrem rfl (by omega) (by omega) (by omega) ?_
        refine mw_istore rfl (Nat.le_of_ble_eq_true rfl) ?_
        refine mw_iload_n (i := 3) rfl rfl rfl ?_
        refine mw_iload_n (i := 2) rfl rfl rfl ?_
        refine mw_nrem rfl (by omega) (by omega) (by omega) ?_
        refine mw_istore rfl (Nat.le_of_ble_eq_true rfl) ?_
        refine mw_iload rfl rfl ?_
        refine mw_iload rfl rfl ?_
        refine mw_n_ge rfl (by omega) (by omega) (fun h1 => ?_) (fun h1 => ?_)
        · first | refine mw_ninc rfl rfl (Nat.le_of_ble_eq_true rfl) ?_ | refine mw_iinc rfl rfl rfl (Nat.le_of_ble_eq_true rfl) ?_
          refine mw_goto rfl ?_
          exact mw_locals rfl (ih D (upTo_miss hC (by unfold cutC; rw [if_neg (by omega)])))
        · refine mw_iload rfl rfl ?_
          refine mw_iload rfl rfl ?_
          refine mw_n_ge rfl (by omega) (by omega) (fun h2 => ?_) (fun h2 => ?_)
          · first | refine mw_ninc rfl rfl (Nat.le_of_ble_eq_true rfl) ?_ | refine mw_iinc rfl rfl rfl (Nat.le_of_ble_eq_true rfl) ?_
            refine mw_goto rfl ?_
            exact mw_locals rfl (ih D (upTo_miss hC (by unfold cutC; rw [if_neg (by omega)])))
          · have hbad : E (bitI (t / v 1 / v 1) ||| bitI (t / v 1 % v 1) ||| bitI (t % v 1)) g = true → cutC E g (v 1) t = none := fun q => by
              unfold cutC
              rw [if_neg (by rw [q]; intro r; exact absurd r.2.2 (by decide))]
            have hgood : E (bitI (t / v 1 / v 1) ||| bitI (t / v 1 % v 1) ||| bitI (t % v 1)) g = false → cutC E g (v 1) t = some (bitI (t / v 1 / v 1) ||| bitI (t / v 1 % v 1) ||| bitI (t % v 1)) := fun q => by
              unfold cutC
              rw [if_pos ⟨by omega, by omega, q⟩]
            refine mw_aload_n (i := 0) rfl rfl rfl ?_
            refine mw_iload_n (i := 1) rfl rfl rfl ?_
            refine mw_iconst (v := nI 1) rfl (by decide) ?_
            refine mw_iload rfl rfl ?_
            refine mw_ishl rfl ?_
            refine mw_iconst (v := nI 1) rfl (by decide) ?_
            refine mw_iload rfl rfl ?_
            refine mw_ishl rfl ?_
            refine mw_ior rfl ?_
            refine mw_iconst (v := nI 1) rfl (by decide) ?_
            refine mw_iload rfl rfl ?_
            refine mw_ishl rfl ?_
            refine mw_ior rfl ?_
            refine mw_callV (c_canDo d n g (bitI (t / v 1 / v 1) ||| bitI (t / v 1 % v 1) ||| bitI (t % v 1)) w v D (E (bitI (t / v 1 / v 1) ||| bitI (t / v 1 % v 1) ||| bitI (t % v 1))) S _ rfl hS.n hv rfl hok (hS.sok hok) (hS.sat w (x.uD D) h rfl rfl rfl) hg (hE _)) rfl ok_X10_canDo v_X10_227 rfl (by first | rfl | exact rfl | exact hv) (by intro e; cases e) rfl (Nat.le_of_ble_eq_true rfl) rfl (Nat.le_of_ble_eq_true rfl) (by omega) (by omega) (by omega) ?_
            intro r3 h3 hq3
            obtain ⟨rfl, D', rfl⟩ := hq3
            rw [← mov_puts]
            refine mw_heap (h2 := mov (rcL w (x.uD D')) h) rfl ?_
            refine mw_b_ne rfl (fun hb => ?_) (fun hb => ?_)
            · first | refine mw_ninc rfl rfl (Nat.le_of_ble_eq_true rfl) ?_ | refine mw_iinc rfl rfl rfl (Nat.le_of_ble_eq_true rfl) ?_
              refine mw_goto rfl ?_
              exact mw_locals rfl (ih D' (upTo_miss hC (hbad hb)))
            · refine mw_iconst (v := nI 1) rfl (by decide) ?_
              refine mw_iload rfl rfl ?_
              refine mw_ishl rfl ?_
              refine mw_iconst (v := nI 1) rfl (by decide) ?_
              refine mw_iload rfl rfl ?_
              refine mw_ishl rfl ?_
              refine mw_ior rfl ?_
              refine mw_iconst (v := nI 1) rfl (by decide) ?_
              refine mw_iload rfl rfl ?_
              refine mw_ishl rfl ?_
              refine mw_ior rfl ?_
              exact mw_ireturn rfl rfl rfl rfl (Nat.le_refl _) ((hp D' _ (cutV_c hA hB (upTo_hit hC (hgood hb) ht))))
  have loop2 : upTo (cutA E g) (v 1) = none → ∀ i, i ≤ v 1 → ∀ D, upTo (fun i => upTo (cutB E g i) (v 1)) i = none → MW M_X10_cutOf (d + 2) 0 0 n post 37 [(0, .ref 178), (1, .int (nI g)), (2, .int (nI (v 1))), (3, .int (nI i))] [] (mov (rcL w (x.uD D)) h) n 0 := by
    intro hA
    refine loop_up (P := fun i => ∀ D, upTo (fun i => upTo (cutB E g i) (v 1)) i = none → MW M_X10_cutOf (d + 2) 0 0 n post 37 [(0, .ref 178), (1, .int (nI g)), (2, .int (nI (v 1))), (3, .int (nI i))] [] (mov (rcL w (x.uD D)) h) n 0) (v 1) ?_ ?_
    · intro D hB
      refine mw_iload_n (i := 3) rfl rfl rfl ?_
      refine mw_iload_n (i := 2) rfl rfl rfl ?_
      refine mw_n_ge rfl (by omega) (by omega) (fun hc => ?_) (fun hc => ?_)
      · refine mw_iconst (v := nI 0) rfl (by decide) ?_
        refine mw_istore_n (i := 3) rfl rfl (Nat.le_of_ble_eq_true rfl) ?_
        exact mw_locals rfl (loop3 hA hB 0 (Nat.zero_le _) D rfl)
      · omega
    · intro i hi ih D hB
      have inner : ∀ j, j ≤ v 1 → ∀ D, i < j → upTo (cutB E g i) j = none → MW M_X10_cutOf (d + 2) 0 0 n post 47 [(0, .ref 178), (1, .int (nI g)), (2, .int (nI (v 1))), (3, .int (nI i)), (4, .int (nI j))] [] (mov (rcL w (x.uD D)) h) n 0 := by
        refine loop_up (P := fun j => ∀ D, i < j → upTo (cutB E g i) j = none → MW M_X10_cutOf (d + 2) 0 0 n post 47 [(0, .ref 178), (1, .int (nI g)), (2, .int (nI (v 1))), (3, .int (nI i)), (4, .int (nI j))] [] (mov (rcL w (x.uD D)) h) n 0) (v 1) ?_ ?_
        · intro D _ hJ
          refine mw_iload rfl rfl ?_
          refine mw_iload_n (i := 2) rfl rfl rfl ?_
          refine mw_n_ge rfl (by omega) (by omega) (fun hc => ?_) (fun hc => ?_)
          · first | refine mw_ninc rfl rfl (Nat.le_of_ble_eq_true rfl) ?_ | refine mw_iinc rfl rfl rfl (Nat.le_of_ble_eq_true rfl) ?_
            refine mw_goto rfl ?_
            exact mw_locals rfl (ih D (upTo_miss hB hJ))
          · omega
        · intro j hj ihj D hij hJ
          have hbad : E (bitI i ||| bitI j) g = true → cutB E g i j = none := fun q => by
            unfold cutB
            rw [if_neg (by rw [q]; intro r; exact absurd r.2 (by decide))]
          have hgood : E (bitI i ||| bitI j) g = false → cutB E g i j = some (bitI i ||| bitI j) := fun q => by
            unfold cutB
            rw [if_pos ⟨hij, q⟩]
          refine mw_iload rfl rfl ?_
          refine mw_iload_n (i := 2) rfl rfl rfl ?_
          refine mw_n_ge rfl (by omega) (by omega) (fun hc => ?_) (fun hc => ?_)
          · omega
          · refine mw_aload_n (i := 0) rfl rfl rfl ?_
            refine mw_iload_n (i := 1) rfl rfl rfl ?_
            refine mw_iconst (v := nI 1) rfl (by decide) ?_
            refine mw_iload_n (i := 3) rfl rfl rfl ?_
            refine mw_ishl rfl ?_
            refine mw_iconst (v := nI 1) rfl (by decide) ?_
            refine mw_iload rfl rfl ?_
            refine mw_ishl rfl ?_
            refine mw_ior rfl ?_
            refine mw_callV (c_canDo d n g (bitI i ||| bitI j) w v D (E (bitI i ||| bitI j)) S _ rfl hS.n hv rfl hok (hS.sok hok) (hS.sat w (x.uD D) h rfl rfl rfl) hg (hE _)) rfl ok_X10_canDo v_X10_227 rfl (by first | rfl | exact rfl | exact hv) (by intro e; cases e) rfl (Nat.le_of_ble_eq_true rfl) rfl (Nat.le_of_ble_eq_true rfl) (by omega) (by omega) (by omega) ?_
            intro r3 h3 hq3
            obtain ⟨rfl, D', rfl⟩ := hq3
            rw [← mov_puts]
            refine mw_heap (h2 := mov (rcL w (x.uD D')) h) rfl ?_
            refine mw_b_ne rfl (fun hb => ?_) (fun hb => ?_)
            · first | refine mw_ninc rfl rfl (Nat.le_of_ble_eq_true rfl) ?_ | refine mw_iinc rfl rfl rfl (Nat.le_of_ble_eq_true rfl) ?_
              refine mw_goto rfl ?_
              exact mw_locals rfl (ihj D' (by omega) (upTo_miss hJ (hbad hb)))
            · refine mw_iconst (v := nI 1) rfl (by decide) ?_
              refine mw_iload_n (i := 3) rfl rfl rfl ?_
              refine mw_ishl rfl ?_
              refine mw_iconst (v := nI 1) rfl (by decide) ?_
              refine mw_iload rfl rfl ?_
              refine mw_ishl rfl ?_
              refine mw_ior rfl ?_
              exact mw_ireturn rfl rfl rfl rfl (Nat.le_refl _) ((hp D' _ (cutV_b hA (upTo_hit hB (upTo_hit hJ (hgood hb) hj) hi))))
      refine mw_iload_n (i := 3) rfl rfl rfl ?_
      refine mw_iload_n (i := 2) rfl rfl rfl ?_
      refine mw_n_ge rfl (by omega) (by omega) (fun hc => ?_) (fun hc => ?_)
      · omega
      · refine mw_iload_n (i := 3) rfl rfl rfl ?_
        refine mw_iconst (v := nI 1) rfl (by decide) ?_
        first | refine mw_nadd rfl ?_ | refine mw_iadd rfl ?_
        refine mw_istore rfl (Nat.le_of_ble_eq_true rfl) ?_
        refine mw_locals rfl (inner (i + 1) (by omega) D (by omega) (upTo_none fun k hk => ?_))
        unfold cutB
        rw [if_neg (by omega)]
  have loop1 : ∀ i, i ≤ v 1 → ∀ D, upTo (cutA E g) i = none → MW M_X10_cutOf (d + 2) 0 0 n post 9 [(0, .ref 178), (1, .int (nI g)), (2, .int (nI (v 1))), (3, .int (nI i))] [] (mov (rcL w (x.uD D)) h) n 0 := by
    refine loop_up (P := fun i => ∀ D, upTo (cutA E g) i = none → MW M_X10_cutOf (d + 2) 0 0 n post 9 [(0, .ref 178), (1, .int (nI g)), (2, .int (nI (v 1))), (3, .int (nI i))] [] (mov (rcL w (x.uD D)) h) n 0) (v 1) ?_ ?_
    · intro D hA
      refine mw_iload_n (i := 3) rfl rfl rfl ?_
      refine mw_iload_n (i := 2) rfl rfl rfl ?_
      refine mw_n_ge rfl (by omega) (by omega) (fun hc => ?_) (fun hc => ?_)
      · refine mw_iconst (v := nI 0) rfl (by decide) ?_
        refine mw_istore_n (i := 3) rfl rfl (Nat.le_of_ble_eq_true rfl) ?_
        exact mw_locals rfl (loop2 hA 0 (Nat.zero_le _) D rfl)
      · omega
    · intro i hi ih D hA
      refine mw_iload_n (i := 3) rfl rfl rfl ?_
      refine mw_iload_n (i := 2) rfl rfl rfl ?_
      refine mw_n_ge rfl (by omega) (by omega) (fun hc => ?_) (fun hc => ?_)
      · omega
      · refine mw_aload_n (i := 0) rfl rfl rfl ?_
        refine mw_iload_n (i := 1) rfl rfl rfl ?_
        refine mw_iconst (v := nI 1) rfl (by decide) ?_
        refine mw_iload_n (i := 3) rfl rfl rfl ?_
        refine mw_ishl rfl ?_
        refine mw_callV (c_canDo d n g (bitI i) w v D (E (bitI i)) S _ rfl hS.n hv rfl hok (hS.sok hok) (hS.sat w (x.uD D) h rfl rfl rfl) hg (hE _)) rfl ok_X10_canDo v_X10_227 rfl (by first | rfl | exact rfl | exact hv) (by intro e; cases e) rfl (Nat.le_of_ble_eq_true rfl) rfl (Nat.le_of_ble_eq_true rfl) (by omega) (by omega) (by omega) ?_
        intro r3 h3 hq3
        obtain ⟨rfl, D', rfl⟩ := hq3
        rw [← mov_puts]
        refine mw_heap (h2 := mov (rcL w (x.uD D')) h) rfl ?_
        refine mw_b_ne rfl (fun hb => ?_) (fun hb => ?_)
        · first | refine mw_ninc rfl rfl (Nat.le_of_ble_eq_true rfl) ?_ | refine mw_iinc rfl rfl rfl (Nat.le_of_ble_eq_true rfl) ?_
          refine mw_goto rfl ?_
          exact mw_locals rfl (ih D' (upTo_miss hA (by unfold cutA; rw [if_pos hb])))
        · refine mw_iconst (v := nI 1) rfl (by decide) ?_
          refine mw_iload_n (i := 3) rfl rfl rfl ?_
          refine mw_ishl rfl ?_
          exact mw_ireturn rfl rfl rfl rfl (Nat.le_refl _) ((hp D' _ (cutV_a (upTo_hit hA (by unfold cutA; rw [if_neg (by rw [hb]; decide)]) hi))))
  refine mw_heap (h2 := mov (rcL w (x.uD x.D)) h) rfl ?_
  refine mw_aload_n (i := 0) rfl rfl rfl ?_
  refine mw_getfield rfl f_X10_7 (by first | rfl | exact rfl | exact hv) rfl ?_
  refine mw_iconst (v := nI 1) rfl (by decide) ?_
  refine mw_iald rfl (by first | rfl | exact rfl | exact hv) (by omega) (by omega) ?_
  refine mw_istore_n (i := 2) rfl rfl (Nat.le_of_ble_eq_true rfl) ?_
  refine mw_iconst (v := nI 0) rfl (by decide) ?_
  refine mw_istore_n (i := 3) rfl rfl (Nat.le_of_ble_eq_true rfl) ?_
  exact mw_locals rfl (loop1 0 (Nat.zero_le _) x.D rfl)
theorem c_cut (d n : Nat) (p a b : Int32) (w : Nat → Int32) (v : Nat → Nat) (x : RD) (h : Nat → MC) (hx : RAt h w x) (hv : h 179 = .inl (.int, 189, .inl (vI v))) (hok : OkN v) (hF : FndI v w x) : Sp M_X10_cut (d + 7) 0 0 [.ref 178, .int p, .int a, .int b] h n (QR v w h (ndQ v p a b (fun E f => cutV E f (v 1)))) := by
  show MW _ _ _ _ _ _ _ _ _ _ _ _
  generalize hpost : (QR v w h (ndQ v p a b (fun E f => cutV E f (v 1)))) = post
  refine mw_over (rcL w x) hx ?_
  refine mw_aload_n (i := 0) rfl rfl rfl ?_
  refine mw_iload_n (i := 1) rfl rfl rfl ?_
  refine mw_iload_n (i := 2) rfl rfl rfl ?_
  refine mw_iload_n (i := 3) rfl rfl rfl ?_
  refine mw_callV (c_wrong d n p a b w v x _ (RAt.of w x h) hv hok hF) rfl ok_X10_wrong v_X10_192 rfl rfl (by intro e; cases e) rfl (Nat.le_of_ble_eq_true rfl) rfl (Nat.le_of_ble_eq_true rfl) (by omega) (by omega) (by omega) ?_
  intro r2 h2 hq2
  obtain ⟨w', x', rfl, hT, hI, rfl, hFd⟩ := hq2
  rw [rc_over]
  refine mw_istore rfl (Nat.le_of_ble_eq_true rfl) ?_
  refine mw_iload rfl rfl ?_
  refine mw_if_ge rfl (fun hge => ?_) (fun hge => ?_)
  · obtain ⟨-, hf, ho, -⟩ := wrV_ok hge
    have hFd2 := hFd hf
    have hnl := Int32.not_lt.mpr hge
    obtain ⟨i, j, k, hi, hj, hk, rfl, rfl, rfl, e, h216⟩ := isF_nat hok hf
    obtain ⟨S, hS⟩ := hFd2.2.2.2 ho
    obtain ⟨E, hE⟩ := derE_ex (hS.sok hok)
    refine mw_aload_n (i := 0) rfl rfl rfl ?_
    refine mw_iload_n (i := 1) rfl rfl rfl ?_
    refine mw_iload_n (i := 2) rfl rfl rfl ?_
    refine mw_iload_n (i := 3) rfl rfl rfl ?_
    refine mw_callS_f (c_factOf (d + 6) n i j k _) rfl ok_X10_factOf v_X10_98 rfl (Nat.le_of_ble_eq_true rfl) rfl (Nat.le_of_ble_eq_true rfl) (by omega) (by omega) (by omega) ?_
    refine mw_callV (c_cutOf (d + 4) n (36 * i + 6 * j + k) w' v x' E S h hv hok hS h216 hE) rfl ok_X10_cutOf v_X10_230 rfl rfl (by intro e; cases e) rfl (Nat.le_of_ble_eq_true rfl) rfl (Nat.le_of_ble_eq_true rfl) (by omega) (by omega) (by omega) ?_
    intro r3 h3 hq3
    obtain ⟨D', rfl, rfl⟩ := hq3
    exact mw_ireturn rfl rfl rfl rfl (Nat.le_refl _) ((QR.mk hpost w' (x'.uD D') hT ⟨hI.1, Or.inr hFd2⟩ ⟨fun _ => hFd2, fun q => absurd q hnl, fun _ => ⟨S, E, hS, hE, by rw [e]⟩⟩))
  · refine mw_iload rfl rfl ?_
    refine mw_goto rfl ?_
    exact mw_ireturn rfl rfl rfl rfl (Nat.le_refl _) ((QR.mk hpost w' x' hT hI ⟨hFd, fun _ => rfl, fun q => absurd q hge⟩))
end
section
/-- the character at the reader's place; t text, tl its length -/
def hereV (t : Nat → Nat) (tl pl : Nat) : Int32 := if pl < tl then nI (t pl) else -1
def tkB (t : Nat → Nat) (tl pl c : Nat) : Bool := decide (hereV t tl pl = nI c)
def oneB (b : Bool) : Nat := if b = true then 1 else 0
theorem tkB_lt {t : Nat → Nat} {tl pl c : Nat} (hc : c < 2147483648) (h : tkB t tl pl c = true) : pl < tl := by
  have h := of_decide_eq_true h
  unfold hereV at h
  split at h
  · assumption
  · have := nI_pos' hc
    rw [← h] at this
    exact absurd this (by decide)
theorem c_here (d n pl tl : Nat) (w : Nat → Int32) (t : Nat → Nat) (h : Nat → MC) (hO : h 178 = RO w) (ht : h 182 = .inl (.int, 60, .inl (vI t))) (h0 : w 0 = nI tl) (h1 : w 1 = nI pl) (hl : tl ≤ 60) (hpl : pl ≤ tl) : Fn M_X10_here d 0 0 [.ref 178] h n (some (.int (hereV t tl pl))) h := by
  refine Fn.of fun post hp => ?_
  refine mw_aload_n (i := 0) rfl rfl rfl ?_
  refine mw_getfield rfl f_X10_106 (by first | rfl | exact hO | exact ht) rfl ?_
  refine mw_aload_n (i := 0) rfl rfl rfl ?_
  refine mw_getfield rfl f_X10_102 (by first | rfl | exact hO | exact ht) rfl ?_
  rw [h0, h1]
  refine mw_n_ge rfl (by omega) (by omega) (fun hc => ?_) (fun hc => ?_)
  · rw [show hereV t tl pl = -1 from if_neg (by omega)] at hp
    refine mw_iconst (v := (-1)) rfl (by decide) ?_
    exact mw_ireturn rfl rfl rfl rfl (Nat.le_refl _) (hp)
  · rw [show hereV t tl pl = nI (t pl) from if_pos (by omega)] at hp
    refine mw_aload_n (i := 0) rfl rfl rfl ?_
    refine mw_getfield rfl f_X10_20 (by first | rfl | exact hO | exact ht) rfl ?_
    refine mw_aload_n (i := 0) rfl rfl rfl ?_
    refine mw_getfield rfl f_X10_106 (by first | rfl | exact hO | exact ht) rfl ?_
    rw [h1]
    refine mw_iald rfl (by first | rfl | exact hO | exact ht) (by omega) (by omega) ?_
    refine mw_goto rfl ?_
    exact mw_ireturn rfl rfl rfl rfl (Nat.le_refl _) (hp)
theorem c_takes (d n c pl tl : Nat) (w : Nat → Int32) (t : Nat → Nat) (h : Nat → MC) (hO : h 178 = RO w) (ht : h 182 = .inl (.int, 60, .inl (vI t))) (h0 : w 0 = nI tl) (h1 : w 1 = nI pl) (hl : tl ≤ 60) (hpl : pl ≤ tl) : Fn M_X10_takes (d + 1) 0 0 [.ref 178, .int (nI c)] h n (some (.int (bI (tkB t tl pl c)))) (hset h 178 (RO (updN w 1 (nI (pl + oneB (tkB t tl pl c)))))) := by
  refine Fn.of fun post hp => ?_
  refine mw_aload_n (i := 0) rfl rfl rfl ?_
  refine mw_callV_f (c_here d n pl tl w t h hO ht h0 h1 hl hpl) rfl ok_X10_here v_X10_109 rfl (by first | rfl | exact hO | exact ht) (by intro e; cases e) rfl (Nat.le_of_ble_eq_true rfl) rfl (Nat.le_of_ble_eq_true rfl) (by omega) (by omega) (by omega) ?_
  refine mw_iload_n (i := 1) rfl rfl rfl ?_
  refine mw_icmp_ne rfl (fun hc => ?_) (fun hc => ?_)
  · rw [show tkB t tl pl c = false from decide_eq_false hc] at hp
    refine mw_iconst (v := nI 0) rfl (by decide) ?_
    refine mw_istore_n (i := 2) rfl rfl (Nat.le_of_ble_eq_true rfl) ?_
    refine mw_aload_n (i := 0) rfl rfl rfl ?_
    refine mw_dup rfl rfl ?_
    refine mw_getfield rfl f_X10_106 (by first | rfl | exact hO | exact ht) rfl ?_
    rw [h1]
    refine mw_iload_n (i := 2) rfl rfl rfl ?_
    refine mw_z_eq rfl (by omega) (fun hz => ?_) (fun hz => ?_)
    · refine mw_iconst (v := nI 0) rfl (by decide) ?_
      first | refine mw_nadd rfl ?_ | refine mw_iadd rfl ?_
      refine mw_putfield rfl f_X10_106 (by first | rfl | exact hO | exact ht) (Nat.le_of_ble_eq_true rfl) (fun _ => rfl) (fun _ => rfl) ?_
      refine mw_iload_n (i := 2) rfl rfl rfl ?_
      first | exact mw_ireturn rfl rfl (bI_nar _) rfl (Nat.le_refl _) (hp) | exact mw_ireturn rfl rfl rfl rfl (Nat.le_refl _) (hp)
    · exact absurd rfl hz
  · rw [show tkB t tl pl c = true from decide_eq_true hc] at hp
    refine mw_iconst (v := nI 1) rfl (by decide) ?_
    refine mw_goto rfl ?_
    refine mw_istore_n (i := 2) rfl rfl (Nat.le_of_ble_eq_true rfl) ?_
    refine mw_aload_n (i := 0) rfl rfl rfl ?_
    refine mw_dup rfl rfl ?_
    refine mw_getfield rfl f_X10_106 (by first | rfl | exact hO | exact ht) rfl ?_
    rw [h1]
    refine mw_iload_n (i := 2) rfl rfl rfl ?_
    refine mw_z_eq rfl (by omega) (fun hz => ?_) (fun hz => ?_)
    · exact absurd hz (by decide)
    · refine mw_iconst (v := nI 1) rfl (by decide) ?_
      refine mw_goto rfl ?_
      first | refine mw_nadd rfl ?_ | refine mw_iadd rfl ?_
      refine mw_putfield rfl f_X10_106 (by first | rfl | exact hO | exact ht) (Nat.le_of_ble_eq_true rfl) (fun _ => rfl) (fun _ => rfl) ?_
      refine mw_iload_n (i := 2) rfl rfl rfl ?_
      first | exact mw_ireturn rfl rfl (bI_nar _) rfl (Nat.le_refl _) (hp) | exact mw_ireturn rfl rfl rfl rfl (Nat.le_refl _) (hp)
def tmV (x : Int32) : Int32 := if x < nI 88 then x - nI 48 else x - nI 88 + nI 6
def tmB (v : Nat → Nat) (x : Int32) : Bool := inI (x - nI 48) (v 0) || decide (nI 88 ≤ x ∧ x ≤ nI 90)
theorem c_isTerm (d n k pl tl : Nat) (w : Nat → Int32) (v t : Nat → Nat) (td : Nat → Int32) (h : Nat → MC) (hO : h 178 = RO w) (hv : h 179 = .inl (.int, 189, .inl (vI v))) (ht : h 182 = .inl (.int, 60, .inl (vI t))) (htd : h 183 = .inl (.int, 16, .inl td)) (h0 : w 0 = nI tl) (h1 : w 1 = nI pl) (hl : tl ≤ 60) (hp : pl ≤ tl) (hc1 : 1 ≤ v 0) (hc6 : v 0 ≤ 6) (hk : k < 16) : Fn M_X10_isTerm (d + 2) 0 0 [.ref 178, .int (nI k)] h n (some (.int (bI (tmB v (hereV t tl pl))))) (mov [(183, .inl (.int, 16, .inl (upd td k (tmV (hereV t tl pl))))), (178, RO (updN w 1 (nI (pl + oneB (tmB v (hereV t tl pl))))))] h) := by
  refine Fn.of fun post hpp => ?_
  refine mw_aload_n (i := 0) rfl rfl rfl ?_
  refine mw_callV_f (c_here (d + 1) n pl tl w t h hO ht h0 h1 hl hp) rfl ok_X10_here v_X10_109 rfl (by first | rfl | exact hO | exact hv | exact ht | exact htd) (by intro e; cases e) rfl (Nat.le_of_ble_eq_true rfl) rfl (Nat.le_of_ble_eq_true rfl) (by omega) (by omega) (by omega) ?_
  generalize hereV t tl pl = x at hpp ⊢
  have tail : ∀ b : Bool, b = tmB v x → ∀ y, y = tmV x → MW M_X10_isTerm (d + 2) 0 0 n post 58 [(0, .ref 178), (1, .int (nI k)), (2, .int x), (3, .int (bI b))] [.int y, .int (nI k), .ref 183] h n 0 := by
    intro b hb y hy
    rw [← hb, ← hy] at hpp
    clear hb hy
    refine mw_over [(183, .inl (.int, 16, .inl td)), (178, RO w)] (mov_self (by simp [htd, hO])) ?_
    refine mw_iast_m rfl (by first | rfl | exact hO | exact hv | exact ht | exact htd) (by omega) (by omega) ?_
    first | rw [vI_upd] | rw [vI_updv] | skip
    refine mw_aload_n (i := 0) rfl rfl rfl ?_
    refine mw_dup rfl rfl ?_
    refine mw_getfield rfl f_X10_106 (by first | rfl | exact hO | exact hv | exact ht | exact htd) rfl ?_
    rw [h1]
    refine mw_iload_n (i := 3) rfl rfl rfl ?_
    refine mw_b_eq rfl (fun hz => ?_) (fun hz => ?_)
    · subst hz
      refine mw_iconst (v := nI 0) rfl (by decide) ?_
      first | refine mw_nadd rfl ?_ | refine mw_iadd rfl ?_
      refine mw_putfield_m rfl f_X10_106 (by first | rfl | exact hO | exact hv | exact ht | exact htd) (Nat.le_of_ble_eq_true rfl) (fun _ => rfl) (fun _ => rfl) ?_
      refine mw_iload_n (i := 3) rfl rfl rfl ?_
      first | exact mw_ireturn rfl rfl (bI_nar _) rfl (Nat.le_refl _) (hpp) | exact mw_ireturn rfl rfl rfl rfl (Nat.le_refl _) (hpp)
    · subst hz
      refine mw_iconst (v := nI 1) rfl (by decide) ?_
      refine mw_goto rfl ?_
      first | refine mw_nadd rfl ?_ | refine mw_iadd rfl ?_
      refine mw_putfield_m rfl f_X10_106 (by first | rfl | exact hO | exact hv | exact ht | exact htd) (Nat.le_of_ble_eq_true rfl) (fun _ => rfl) (fun _ => rfl) ?_
      refine mw_iload_n (i := 3) rfl rfl rfl ?_
      first | exact mw_ireturn rfl rfl (bI_nar _) rfl (Nat.le_refl _) (hpp) | exact mw_ireturn rfl rfl rfl rfl (Nat.le_refl _) (hpp)
  have mid : ∀ b : Bool, b = tmB v x → MW M_X10_isTerm (d + 2) 0 0 n post 32 [(0, .ref 178), (1, .int (nI k)), (2, .int x)] [.int (bI b)] h n 0 := by
    intro b hb
    refine mw_istore_n (i := 3) rfl rfl (Nat.le_of_ble_eq_true rfl) ?_
    refine mw_aload_n (i := 0) rfl rfl rfl ?_
    refine mw_getfield rfl f_X10_23 (by first | rfl | exact hO | exact hv | exact ht | exact htd) rfl ?_
    refine mw_iload_n (i := 1) rfl rfl rfl ?_
    refine mw_iload_n (i := 2) rfl rfl rfl ?_
    refine mw_bipush (v := nI 88) rfl (by decide) ?_
    refine mw_icmp_lt rfl (fun hlt => ?_) (fun hlt => ?_)
    · refine mw_iload_n (i := 2) rfl rfl rfl ?_
      refine mw_bipush (v := nI 48) rfl (by decide) ?_
      first | refine mw_nsub rfl (by omega) ?_ | refine mw_isub rfl ?_
      exact mw_locals rfl (tail b hb _ (by unfold tmV; rw [if_pos hlt]))
    · refine mw_iload_n (i := 2) rfl rfl rfl ?_
      refine mw_bipush (v := nI 88) rfl (by decide) ?_
      first | refine mw_nsub rfl (by omega) ?_ | refine mw_isub rfl ?_
      refine mw_bipush (v := nI 6) rfl (by decide) ?_
      refine mw_iadd rfl ?_
      refine mw_goto rfl ?_
      exact mw_locals rfl (tail b hb _ (by unfold tmV; rw [if_neg hlt]))
  refine mw_istore_n (i := 2) rfl rfl (Nat.le_of_ble_eq_true rfl) ?_
  refine mw_aload_n (i := 0) rfl rfl rfl ?_
  refine mw_iload_n (i := 2) rfl rfl rfl ?_
  refine mw_bipush (v := nI 48) rfl (by decide) ?_
  first | refine mw_nsub rfl (by omega) ?_ | refine mw_isub rfl ?_
  refine mw_callV_f (c_isConstant d n (x - nI 48) w v h hO hv hc1 hc6) rfl ok_X10_isConstant v_X10_84 rfl (by first | rfl | exact hO | exact hv | exact ht | exact htd) (by intro e; cases e) rfl (Nat.le_of_ble_eq_true rfl) rfl (Nat.le_of_ble_eq_true rfl) (by omega) (by omega) (by omega) ?_
  refine mw_b_ne rfl (fun hc => ?_) (fun hc => ?_)
  · refine mw_iconst (v := nI 1) rfl (by decide) ?_
    refine mw_goto rfl ?_
    exact mw_locals rfl (mid true (by unfold tmB; rw [hc]; rfl))
  · refine mw_iload_n (i := 2) rfl rfl rfl ?_
    refine mw_bipush (v := nI 88) rfl (by decide) ?_
    refine mw_bipush (v := nI 90) rfl (by decide) ?_
    refine mw_callS_f (c_in (d + 1) n x (nI 88) (nI 90) h) rfl ok_X10_in v_X10_80 rfl (Nat.le_of_ble_eq_true rfl) rfl (Nat.le_of_ble_eq_true rfl) (by omega) (by omega) (by omega) ?_
    refine mw_b_eq rfl (fun hd => ?_) (fun hd => ?_)
    · refine mw_iconst (v := nI 0) rfl (by decide) ?_
      exact mw_locals rfl (mid false (by unfold tmB; rw [hc, hd]; rfl))
    · refine mw_iconst (v := nI 1) rfl (by decide) ?_
      refine mw_goto rfl ?_
      exact mw_locals rfl (mid true (by unfold tmB; rw [hc, hd]; rfl))
end
section
/-- where the reader stands: (place, told) -/
abbrev PS : Type := Nat × (Nat → Int32)
def rdTake (t : Nat → Nat) (tl c : Nat) (s : PS) : Bool × PS := (tkB t tl s.1 c, s.1 + oneB (tkB t tl s.1 c), s.2)
def rdTerm (v t : Nat → Nat) (tl k : Nat) (s : PS) : Bool × PS := (tmB v (hereV t tl s.1), s.1 + oneB (tmB v (hereV t tl s.1)), upd s.2 k (tmV (hereV t tl s.1)))
def andP (a b : PS → Bool × PS) : PS → Bool × PS := fun s => if (a s).1 = true then b (a s).2 else (false, (a s).2)
def rdAtom (v t : Nat → Nat) (tl i : Nat) (s : PS) : Bool × PS :=
  if inI (hereV t tl s.1 - nI 112) 6 = true then
    andP (rdTake t tl 40) (andP (rdTerm v t tl (4 * i + 1)) (if v (3 + (hereV t tl s.1 - nI 112).toNatClampNeg) = 2 then andP (rdTake t tl 44) (andP (rdTerm v t tl (4 * i + 2)) (rdTake t tl 41)) else rdTake t tl 41)) (s.1 + 1, upd (upd s.2 (4 * i) (hereV t tl s.1 - nI 112)) (4 * i + 2) (nI 0))
  else (false, s)
abbrev tx (w : Nat → Int32) (s : PS) : MLs := [(183, .inl (.int, 16, .inl s.2)), (178, RO (updN w 1 (nI s.1)))]
theorem updN_2 {α : Type} (w : Nat → α) (k : Nat) (a b : α) : updN (updN w k a) k b = updN w k b := by
  funext j
  unfold updN
  split <;> rfl
theorem andP_1 {a b : PS → Bool × PS} {s : PS} (h : (a s).1 = true) : andP a b s = b (a s).2 := if_pos h
theorem andP_0 {a b : PS → Bool × PS} {s : PS} (h : (a s).1 = false) : andP a b s = (false, (a s).2) := if_neg (by rw [h]; decide)
theorem rdTake_le {t : Nat → Nat} {tl c : Nat} (hc : c < 2147483648) {s : PS} (h : s.1 ≤ tl) : (rdTake t tl c s).2.1 ≤ tl := by
  show s.1 + oneB (tkB t tl s.1 c) ≤ tl
  cases q : tkB t tl s.1 c
  · exact h
  · have := tkB_lt hc q
    exact this
theorem hereV_lt {t : Nat → Nat} {tl pl : Nat} (h : hereV t tl pl ≠ -1) : pl < tl := by
  unfold hereV at h
  split at h
  · assumption
  · exact absurd rfl h
theorem rdTerm_le {v t : Nat → Nat} {tl k : Nat} (h6 : v 0 ≤ 6) {s : PS} (h : s.1 ≤ tl) : (rdTerm v t tl k s).2.1 ≤ tl := by
  show s.1 + oneB (tmB v (hereV t tl s.1)) ≤ tl
  cases q : tmB v (hereV t tl s.1)
  · exact h
  · have : s.1 < tl := hereV_lt (fun e => by
      rw [e] at q
      unfold tmB inI at q
      rw [Bool.or_eq_true] at q
      rcases q with q | q
      · exact absurd (of_decide_eq_true q).1 (by decide)
      · exact absurd (of_decide_eq_true q).1 (by decide))
    exact this
theorem c_takesS (d n c tl : Nat) (w : Nat → Int32) (t : Nat → Nat) (s : PS) (h : Nat → MC) (ht : h 182 = .inl (.int, 60, .inl (vI t))) (h0 : w 0 = nI tl) (hl : tl ≤ 60) (hp : s.1 ≤ tl) : Fn M_X10_takes (d + 1) 0 0 [.ref 178, .int (nI c)] (mov (tx w s) h) n (some (.int (bI (rdTake t tl c s).1))) (mov (tx w (rdTake t tl c s).2) h) := by
  have h1 := c_takes d n c s.1 tl (updN w 1 (nI s.1)) t (mov (tx w s) h) rfl ht h0 rfl hl hp
  rw [updN_2, hset_mov] at h1
  exact h1
theorem c_termS (d n k tl : Nat) (w : Nat → Int32) (v t : Nat → Nat) (s : PS) (h : Nat → MC) (hv : h 179 = .inl (.int, 189, .inl (vI v))) (ht : h 182 = .inl (.int, 60, .inl (vI t))) (h0 : w 0 = nI tl) (hl : tl ≤ 60) (hp : s.1 ≤ tl) (hc1 : 1 ≤ v 0) (hc6 : v 0 ≤ 6) (hk : k < 16) : Fn M_X10_isTerm (d + 2) 0 0 [.ref 178, .int (nI k)] (mov (tx w s) h) n (some (.int (bI (rdTerm v t tl k s).1))) (mov (tx w (rdTerm v t tl k s).2) h) := by
  have h1 := c_isTerm d n k s.1 tl (updN w 1 (nI s.1)) v t s.2 (mov (tx w s) h) rfl hv ht rfl h0 rfl hl hp hc1 hc6 hk
  rw [updN_2, ← mov_puts] at h1
  exact h1
theorem c_isAtom (d n i tl : Nat) (w : Nat → Int32) (v t : Nat → Nat) (s : PS) (h : Nat → MC) (hv : h 179 = .inl (.int, 189, .inl (vI v))) (ht : h 182 = .inl (.int, 60, .inl (vI t))) (h0 : w 0 = nI tl) (hl : tl ≤ 60) (hp : s.1 ≤ tl) (hok : OkN v) (hi : i < 4) : Fn M_X10_isAtom (d + 3) 0 0 [.ref 178, .int (nI i)] (mov (tx w s) h) n (some (.int (bI (rdAtom v t tl i s).1))) (mov (tx w (rdAtom v t tl i s).2) h) := by
  refine Fn.of fun post hpp => ?_
  obtain ⟨hc1, hc6, -, -, hpl, -⟩ := hok
  refine mw_aload_n (i := 0) rfl rfl rfl ?_
  refine mw_callV_f (c_here (d + 2) n s.1 tl (updN w 1 (nI s.1)) t _ rfl ht h0 rfl hl hp) rfl ok_X10_here v_X10_109 rfl (by first | rfl | exact rfl | exact hv | exact ht) (by intro e; cases e) rfl (Nat.le_of_ble_eq_true rfl) rfl (Nat.le_of_ble_eq_true rfl) (by omega) (by omega) (by omega) ?_
  unfold rdAtom at hpp
  generalize hX : hereV t tl s.1 = x at hpp ⊢
  refine mw_bipush (v := nI 112) rfl (by decide) ?_
  first | refine mw_nsub rfl (by omega) ?_ | refine mw_isub rfl ?_
  refine mw_istore_n (i := 2) rfl rfl (Nat.le_of_ble_eq_true rfl) ?_
  refine mw_iload_n (i := 2) rfl rfl rfl ?_
  refine mw_iconst (v := nI 0) rfl (by decide) ?_
  refine mw_iconst (v := nI 5) rfl (by decide) ?_
  refine mw_callS_f (c_in0 (d + 2) n (x - nI 112) 5 (by omega) _) rfl ok_X10_in v_X10_80 rfl (Nat.le_of_ble_eq_true rfl) rfl (Nat.le_of_ble_eq_true rfl) (by omega) (by omega) (by omega) ?_
  refine mw_b_ne rfl (fun hin => ?_) (fun hin => ?_)
  · rw [if_pos hin] at hpp
    obtain ⟨q, hq, e⟩ := inI_of hin (by omega)
    rw [e, nI_clamp (by omega)] at hpp
    have hlt : s.1 < tl := hereV_lt (fun e2 => by rw [hX] at e2; rw [e2] at hin; exact absurd hin (by decide))
    rw [e]
    refine mw_aload_n (i := 0) rfl rfl rfl ?_
    refine mw_dup rfl rfl ?_
    refine mw_getfield rfl f_X10_106 (by first | rfl | exact rfl | exact hv | exact ht) rfl ?_
    refine mw_iconst (v := nI 1) rfl (by decide) ?_
    first | refine mw_nadd rfl ?_ | refine mw_iadd rfl ?_
    refine mw_putfield_m rfl f_X10_106 (by first | rfl | exact rfl | exact hv | exact ht) (Nat.le_of_ble_eq_true rfl) (fun _ => rfl) (fun _ => rfl) ?_
    refine mw_aload_n (i := 0) rfl rfl rfl ?_
    refine mw_getfield rfl f_X10_23 (by first | rfl | exact rfl | exact hv | exact ht) rfl ?_
    refine mw_iconst (v := nI 4) rfl (by decide) ?_
    refine mw_iload_n (i := 1) rfl rfl rfl ?_
    first | refine mw_nmul rfl ?_ | refine mw_imul rfl ?_
    refine mw_iload_n (i := 2) rfl rfl rfl ?_
    refine mw_iast_m rfl (by first | rfl | exact rfl | exact hv | exact ht) (by omega) (by omega) ?_
    first | rw [vI_upd] | rw [vI_updv] | skip
    refine mw_aload_n (i := 0) rfl rfl rfl ?_
    refine mw_getfield rfl f_X10_23 (by first | rfl | exact rfl | exact hv | exact ht) rfl ?_
    refine mw_iconst (v := nI 4) rfl (by decide) ?_
    refine mw_iload_n (i := 1) rfl rfl rfl ?_
    first | refine mw_nmul rfl ?_ | refine mw_imul rfl ?_
    refine mw_iconst (v := nI 2) rfl (by decide) ?_
    first | refine mw_nadd rfl ?_ | refine mw_iadd rfl ?_
    refine mw_iconst (v := nI 0) rfl (by decide) ?_
    refine mw_iast_m rfl (by first | rfl | exact rfl | exact hv | exact ht) (by omega) (by omega) ?_
    first | rw [vI_upd] | rw [vI_updv] | skip
    refine mw_aload_n (i := 0) rfl rfl rfl ?_
    refine mw_bipush (v := nI 40) rfl (by decide) ?_
    generalize hs1 : ((s.1 + 1, upd (upd s.2 (4 * i) (nI q)) (4 * i + 2) (nI 0)) : PS) = s1 at hpp
    have hp1 : s1.1 ≤ tl := by rw [← hs1]; exact hlt
    refine mw_heap (h2 := mov (tx w s1) h) (by rw [← hs1]; exact congrArg (fun z => mov [(183, .inl (.int, 16, .inl (upd (upd s.2 (4 * i) (nI q)) (4 * i + 2) (nI 0)))), (178, RO z)] h) (updN_2 w 1 (nI s.1) (nI (s.1 + 1))).symm) ?_
    clear hs1
    refine mw_callV_f (c_takesS (d + 1) n 40 tl w t s1 h ht h0 hl hp1) rfl ok_X10_takes v_X10_113 rfl (by first | rfl | exact rfl | exact hv | exact ht) (by intro e; cases e) rfl (Nat.le_of_ble_eq_true rfl) rfl (Nat.le_of_ble_eq_true rfl) (by omega) (by omega) (by omega) ?_
    refine mw_b_eq rfl (fun h40 => ?_) (fun h40 => ?_)
    · rw [andP_0 h40] at hpp
      refine mw_iconst (v := nI 0) rfl (by decide) ?_
      first | exact mw_ireturn rfl rfl (bI_nar _) rfl (Nat.le_refl _) (hpp) | exact mw_ireturn rfl rfl rfl rfl (Nat.le_refl _) (hpp)
    · rw [andP_1 h40] at hpp
      have hp2 := rdTake_le (t := t) (c := 40) (by omega) hp1
      generalize (rdTake t tl 40 s1).2 = s2 at hpp hp2 ⊢
      refine mw_aload_n (i := 0) rfl rfl rfl ?_
      refine mw_iconst (v := nI 4) rfl (by decide) ?_
      refine mw_iload_n (i := 1) rfl rfl rfl ?_
      first | refine mw_nmul rfl ?_ | refine mw_imul rfl ?_
      refine mw_iconst (v := nI 1) rfl (by decide) ?_
      first | refine mw_nadd rfl ?_ | refine mw_iadd rfl ?_
      refine mw_callV_f (c_termS d n (4 * i + 1) tl w v t s2 h hv ht h0 hl hp2 hc1 hc6 (by omega)) rfl ok_X10_isTerm v_X10_116 rfl (by first | rfl | exact rfl | exact hv | exact ht) (by intro e; cases e) rfl (Nat.le_of_ble_eq_true rfl) rfl (Nat.le_of_ble_eq_true rfl) (by omega) (by omega) (by omega) ?_
      refine mw_b_ne rfl (fun h1 => ?_) (fun h1 => ?_)
      · rw [andP_1 h1] at hpp
        have hp3 := rdTerm_le (v := v) (t := t) (k := 4 * i + 1) hc6 hp2
        generalize (rdTerm v t tl (4 * i + 1) s2).2 = s3 at hpp hp3 ⊢
        have := hpl q hq
        refine mw_aload_n (i := 0) rfl rfl rfl ?_
        refine mw_getfield rfl f_X10_7 (by first | rfl | exact rfl | exact hv | exact ht) rfl ?_
        refine mw_iconst (v := nI 3) rfl (by decide) ?_
        refine mw_iload_n (i := 2) rfl rfl rfl ?_
        first | refine mw_nadd rfl ?_ | refine mw_iadd rfl ?_
        refine mw_iald rfl (by first | rfl | exact rfl | exact hv | exact ht) (by omega) (by omega) ?_
        refine mw_iconst (v := nI 2) rfl (by decide) ?_
        refine mw_n_ne rfl (by omega) (by omega) (fun h2 => ?_) (fun h2 => ?_)
        · rw [if_neg h2] at hpp
          refine mw_aload_n (i := 0) rfl rfl rfl ?_
          refine mw_bipush (v := nI 41) rfl (by decide) ?_
          refine mw_callV_f (c_takesS (d + 1) n 41 tl w t s3 h ht h0 hl hp3) rfl ok_X10_takes v_X10_113 rfl (by first | rfl | exact rfl | exact hv | exact ht) (by intro e; cases e) rfl (Nat.le_of_ble_eq_true rfl) rfl (Nat.le_of_ble_eq_true rfl) (by omega) (by omega) (by omega) ?_
          first | exact mw_ireturn rfl rfl (bI_nar _) rfl (Nat.le_refl _) (hpp) | exact mw_ireturn rfl rfl rfl rfl (Nat.le_refl _) (hpp)
        · rw [if_pos h2] at hpp
          refine mw_aload_n (i := 0) rfl rfl rfl ?_
          refine mw_bipush (v := nI 44) rfl (by decide) ?_
          refine mw_callV_f (c_takesS (d + 1) n 44 tl w t s3 h ht h0 hl hp3) rfl ok_X10_takes v_X10_113 rfl (by first | rfl | exact rfl | exact hv | exact ht) (by intro e; cases e) rfl (Nat.le_of_ble_eq_true rfl) rfl (Nat.le_of_ble_eq_true rfl) (by omega) (by omega) (by omega) ?_
          refine mw_b_eq rfl (fun h44 => ?_) (fun h44 => ?_)
          · rw [andP_0 h44] at hpp
            refine mw_iconst (v := nI 0) rfl (by decide) ?_
            first | exact mw_ireturn rfl rfl (bI_nar _) rfl (Nat.le_refl _) (hpp) | exact mw_ireturn rfl rfl rfl rfl (Nat.le_refl _) (hpp)
          · rw [andP_1 h44] at hpp
            have hp4 := rdTake_le (t := t) (c := 44) (by omega) hp3
            generalize (rdTake t tl 44 s3).2 = s4 at hpp hp4 ⊢
            refine mw_aload_n (i := 0) rfl rfl rfl ?_
            refine mw_iconst (v := nI 4) rfl (by decide) ?_
            refine mw_iload_n (i := 1) rfl rfl rfl ?_
            first | refine mw_nmul rfl ?_ | refine mw_imul rfl ?_
            refine mw_iconst (v := nI 2) rfl (by decide) ?_
            first | refine mw_nadd rfl ?_ | refine mw_iadd rfl ?_
            refine mw_callV_f (c_termS d n (4 * i + 2) tl w v t s4 h hv ht h0 hl hp4 hc1 hc6 (by omega)) rfl ok_X10_isTerm v_X10_116 rfl (by first | rfl | exact rfl | exact hv | exact ht) (by intro e; cases e) rfl (Nat.le_of_ble_eq_true rfl) rfl (Nat.le_of_ble_eq_true rfl) (by omega) (by omega) (by omega) ?_
            refine mw_b_ne rfl (fun h3 => ?_) (fun h3 => ?_)
            · rw [andP_1 h3] at hpp
              have hp5 := rdTerm_le (v := v) (t := t) (k := 4 * i + 2) hc6 hp4
              generalize (rdTerm v t tl (4 * i + 2) s4).2 = s5 at hpp hp5 ⊢
              refine mw_aload_n (i := 0) rfl rfl rfl ?_
              refine mw_bipush (v := nI 41) rfl (by decide) ?_
              refine mw_callV_f (c_takesS (d + 1) n 41 tl w t s5 h ht h0 hl hp5) rfl ok_X10_takes v_X10_113 rfl (by first | rfl | exact rfl | exact hv | exact ht) (by intro e; cases e) rfl (Nat.le_of_ble_eq_true rfl) rfl (Nat.le_of_ble_eq_true rfl) (by omega) (by omega) (by omega) ?_
              first | exact mw_ireturn rfl rfl (bI_nar _) rfl (Nat.le_refl _) (hpp) | exact mw_ireturn rfl rfl rfl rfl (Nat.le_refl _) (hpp)
            · rw [andP_0 h3] at hpp
              refine mw_iconst (v := nI 0) rfl (by decide) ?_
              first | exact mw_ireturn rfl rfl (bI_nar _) rfl (Nat.le_refl _) (hpp) | exact mw_ireturn rfl rfl rfl rfl (Nat.le_refl _) (hpp)
      · rw [andP_0 h1] at hpp
        refine mw_iconst (v := nI 0) rfl (by decide) ?_
        first | exact mw_ireturn rfl rfl (bI_nar _) rfl (Nat.le_refl _) (hpp) | exact mw_ireturn rfl rfl rfl rfl (Nat.le_refl _) (hpp)
  · rw [if_neg (by rw [hin]; decide)] at hpp
    refine mw_iconst (v := nI 0) rfl (by decide) ?_
    first | exact mw_ireturn rfl rfl (bI_nar _) rfl (Nat.le_refl _) (hpp) | exact mw_ireturn rfl rfl rfl rfl (Nat.le_refl _) (hpp)
end
section
def rdLit (v t : Nat → Nat) (tl a : Nat) (s : PS) : Bool × PS := rdAtom v t tl a ((rdTake t tl 33 s).2.1, upd (rdTake t tl 33 s).2.2 (4 * a + 3) (bI (rdTake t tl 33 s).1))
/-- literals from the (k + 1)st on, at most m: (well formed, how many there are, where the reader stands) -/
def rdLits (v t : Nat → Nat) (tl : Nat) : Nat → Nat → PS → Bool × Nat × PS
  | 0, k, s => (true, k, s)
  | m + 1, k, s => if (rdLit v t tl (k + 1) s).1 = true then (if k + 1 < 3 then (if (rdTake t tl 44 (rdLit v t tl (k + 1) s).2).1 = true then rdLits v t tl m (k + 1) (rdTake t tl 44 (rdLit v t tl (k + 1) s).2).2 else (true, k + 1, (rdTake t tl 44 (rdLit v t tl (k + 1) s).2).2)) else (true, k + 1, (rdLit v t tl (k + 1) s).2)) else (false, k, (rdLit v t tl (k + 1) s).2)
def rdForm (v t : Nat → Nat) (tl : Nat) (td : Nat → Int32) : Bool × Nat × PS :=
  if (rdAtom v t tl 0 (0, upd td 3 (nI 0))).1 = true then
    (if (rdTake t tl 60 (rdAtom v t tl 0 (0, upd td 3 (nI 0))).2).1 = true then
      ((rdLits v t tl 3 0 (rdTake t tl 60 (rdAtom v t tl 0 (0, upd td 3 (nI 0))).2).2).1 && decide ((rdLits v t tl 3 0 (rdTake t tl 60 (rdAtom v t tl 0 (0, upd td 3 (nI 0))).2).2).2.2.1 = tl), (rdLits v t tl 3 0 (rdTake t tl 60 (rdAtom v t tl 0 (0, upd td 3 (nI 0))).2).2).2)
    else (false, 0, (rdTake t tl 60 (rdAtom v t tl 0 (0, upd td 3 (nI 0))).2).2))
  else (false, 0, (rdAtom v t tl 0 (0, upd td 3 (nI 0))).2)
theorem andP_le {a b : PS → Bool × PS} {tl : Nat} (ha : ∀ s, s.1 ≤ tl → (a s).2.1 ≤ tl) (hb : ∀ s, s.1 ≤ tl → (b s).2.1 ≤ tl) : ∀ s, s.1 ≤ tl → (andP a b s).2.1 ≤ tl := by
  intro s hs
  unfold andP
  split
  · exact hb _ (ha s hs)
  · exact ha s hs
theorem rdAtom_le {v t : Nat → Nat} {tl i : Nat} (h6 : v 0 ≤ 6) {s : PS} (h : s.1 ≤ tl) : (rdAtom v t tl i s).2.1 ≤ tl := by
  unfold rdAtom
  split
  · rename_i hin
    have hlt : s.1 < tl := hereV_lt (fun e2 => by rw [e2] at hin; exact absurd hin (by decide))
    refine andP_le (fun s hs => rdTake_le (by omega) hs) (andP_le (fun s hs => rdTerm_le h6 hs) ?_) _ hlt
    split
    · exact andP_le (fun s hs => rdTake_le (by omega) hs) (andP_le (fun s hs => rdTerm_le h6 hs) (fun s hs => rdTake_le (by omega) hs))
    · exact fun s hs => rdTake_le (by omega) hs
  · exact h
theorem updN_3 {α : Type} (w : Nat → α) (a b c : α) : updN (updN (updN w 2 a) 1 b) 2 c = updN (updN w 2 c) 1 b := by
  funext j
  unfold updN
  by_cases h2 : j = 2
  · subst h2; rfl
  · simp only [if_neg h2]
theorem updN_sw {α : Type} (w : Nat → α) (a b : α) : updN (updN w 1 a) 2 b = updN (updN w 2 b) 1 a := by
  funext j
  unfold updN
  by_cases h2 : j = 2
  · subst h2; rfl
  · simp only [if_neg h2]
abbrev ty (w : Nat → Int32) (k : Nat) (s : PS) : MLs := tx (updN w 2 (nI k)) s
set_option maxRecDepth 20000 in
theorem c_isForm (d n tl : Nat) (w : Nat → Int32) (v t : Nat → Nat) (td : Nat → Int32) (h : Nat → MC) (hO : h 178 = RO w) (hv : h 179 = .inl (.int, 189, .inl (vI v))) (ht : h 182 = .inl (.int, 60, .inl (vI t))) (htd : h 183 = .inl (.int, 16, .inl td)) (h0 : w 0 = nI tl) (hl : tl ≤ 60) (hok : OkN v) : Fn M_X10_isForm (d + 4) 0 0 [.ref 178] h n (some (.int (bI (rdForm v t tl td).1))) (mov (ty w (rdForm v t tl td).2.1 (rdForm v t tl td).2.2) h) := by
  refine Fn.of fun post hp => ?_
  have hc6 := hok.2.1
  have fin : ∀ k (s : PS), s.1 ≤ tl → post (some (.int (bI (decide (s.1 = tl))))) (mov (ty w k s) h) → MW M_X10_isForm (d + 4) 0 0 n post 119 [(0, .ref 178)] [] (mov (ty w k s) h) n 0 := by
    intro k s hs hp
    refine mw_aload_n (i := 0) rfl rfl rfl ?_
    refine mw_getfield rfl f_X10_106 (by first | rfl | exact rfl | exact hv | exact ht) rfl ?_
    refine mw_aload_n (i := 0) rfl rfl rfl ?_
    refine mw_getfield rfl f_X10_102 (by first | rfl | exact rfl | exact hv | exact ht) rfl ?_
    rw [show updN (updN w 2 (nI k)) 1 (nI s.1) 0 = nI tl from h0]
    refine mw_n_ne rfl (by omega) (by omega) (fun hc => ?_) (fun hc => ?_)
    · rw [decide_eq_false (by omega)] at hp
      refine mw_iconst (v := nI 0) rfl (by decide) ?_
      first | exact mw_ireturn rfl rfl (bI_nar _) rfl (Nat.le_refl _) (hp) | exact mw_ireturn rfl rfl rfl rfl (Nat.le_refl _) (hp)
    · rw [decide_eq_true (by omega)] at hp
      refine mw_iconst (v := nI 1) rfl (by decide) ?_
      refine mw_goto rfl ?_
      first | exact mw_ireturn rfl rfl (bI_nar _) rfl (Nat.le_refl _) (hp) | exact mw_ireturn rfl rfl rfl rfl (Nat.le_refl _) (hp)
  have stop : ∀ k (s : PS), s.1 ≤ tl → post (some (.int (bI (decide (s.1 = tl))))) (mov (ty w k s) h) → MW M_X10_isForm (d + 4) 0 0 n post 38 [(0, .ref 178), (1, .int (nI 0))] [] (mov (ty w k s) h) n 0 := by
    intro k s hs hp
    refine mw_iload_n (i := 1) rfl rfl rfl ?_
    refine mw_z_eq rfl (by omega) (fun hz => ?_) (fun hz => ?_)
    · exact mw_locals rfl (fin k s hs hp)
    · exact absurd rfl hz
  have step : ∀ m k (s : PS), k + (m + 1) = 3 → s.1 ≤ tl → (0 < m → ∀ s : PS, s.1 ≤ tl → post (some (.int (bI ((rdLits v t tl m (k + 1) s).1 && decide ((rdLits v t tl m (k + 1) s).2.2.1 = tl))))) (mov (ty w (rdLits v t tl m (k + 1) s).2.1 (rdLits v t tl m (k + 1) s).2.2) h) → MW M_X10_isForm (d + 4) 0 0 n post 38 [(0, .ref 178), (1, .int (nI 1))] [] (mov (ty w (k + 1) s) h) n 0) → post (some (.int (bI ((rdLits v t tl (m + 1) k s).1 && decide ((rdLits v t tl (m + 1) k s).2.2.1 = tl))))) (mov (ty w (rdLits v t tl (m + 1) k s).2.1 (rdLits v t tl (m + 1) k s).2.2) h) → MW M_X10_isForm (d + 4) 0 0 n post 38 [(0, .ref 178), (1, .int (nI 1))] [] (mov (ty w k s) h) n 0 := by
    intro m k s hk hs ih hp
    have hp1 := rdTake_le (t := t) (c := 33) (by omega) hs
    have mid : MW M_X10_isForm (d + 4) 0 0 n post 72 [(0, .ref 178), (1, .int (nI 1)), (2, .int (nI (k + 1)))] [.int (bI (rdTake t tl 33 s).1), .int (nI (4 * (k + 1) + 3)), .ref 183] (mov (ty w k (rdTake t tl 33 s).2) h) n 0 := by
      refine mw_iast_m rfl (by first | rfl | exact rfl | exact hv | exact ht) (by omega) (by omega) ?_
      first | rw [vI_upd] | rw [vI_updv] | skip
      refine mw_aload_n (i := 0) rfl rfl rfl ?_
      refine mw_iload_n (i := 2) rfl rfl rfl ?_
      refine mw_heap (h2 := mov (ty w k ((rdTake t tl 33 s).2.1, upd (rdTake t tl 33 s).2.2 (4 * (k + 1) + 3) (bI (rdTake t tl 33 s).1))) h) rfl ?_
      have hp2 := rdAtom_le (v := v) (t := t) (i := k + 1) hc6 (s := ((rdTake t tl 33 s).2.1, upd (rdTake t tl 33 s).2.2 (4 * (k + 1) + 3) (bI (rdTake t tl 33 s).1))) hp1
      refine mw_callV_f (c_isAtom d n (k + 1) tl (updN w 2 (nI k)) v t ((rdTake t tl 33 s).2.1, upd (rdTake t tl 33 s).2.2 (4 * (k + 1) + 3) (bI (rdTake t tl 33 s).1)) h hv ht h0 hl hp1 hok (by omega)) rfl ok_X10_isAtom v_X10_122 rfl (by first | rfl | exact rfl | exact hv | exact ht) (by intro e; cases e) rfl (Nat.le_of_ble_eq_true rfl) rfl (Nat.le_of_ble_eq_true rfl) (by omega) (by omega) (by omega) ?_
      have eL : rdAtom v t tl (k + 1) ((rdTake t tl 33 s).2.1, upd (rdTake t tl 33 s).2.2 (4 * (k + 1) + 3) (bI (rdTake t tl 33 s).1)) = rdLit v t tl (k + 1) s := rfl
      rw [eL] at hp2 ⊢
      have eR : rdLits v t tl (m + 1) k s = if (rdLit v t tl (k + 1) s).1 = true then (if k + 1 < 3 then (if (rdTake t tl 44 (rdLit v t tl (k + 1) s).2).1 = true then rdLits v t tl m (k + 1) (rdTake t tl 44 (rdLit v t tl (k + 1) s).2).2 else (true, k + 1, (rdTake t tl 44 (rdLit v t tl (k + 1) s).2).2)) else (true, k + 1, (rdLit v t tl (k + 1) s).2)) else (false, k, (rdLit v t tl (k + 1) s).2) := rfl
      rw [eR] at hp
      refine mw_b_ne rfl (fun hL => ?_) (fun hL => ?_)
      · rw [if_pos hL] at hp
        generalize (rdLit v t tl (k + 1) s).2 = s3 at hp hp2 ⊢
        refine mw_aload_n (i := 0) rfl rfl rfl ?_
        refine mw_dup rfl rfl ?_
        refine mw_getfield rfl f_X10_119 (by first | rfl | exact rfl | exact hv | exact ht) rfl ?_
        refine mw_iconst (v := nI 1) rfl (by decide) ?_
        first | refine mw_nadd rfl ?_ | refine mw_iadd rfl ?_
        refine mw_putfield_m rfl f_X10_119 (by first | rfl | exact rfl | exact hv | exact ht) (Nat.le_of_ble_eq_true rfl) (fun _ => rfl) (fun _ => rfl) ?_
        refine mw_heap (h2 := mov (ty w (k + 1) s3) h) (congrArg (fun z => mov [(183, .inl (.int, 16, .inl s3.2)), (178, RO z)] h) (updN_3 w (nI k) (nI s3.1) (nI (k + 1))).symm) ?_
        refine mw_aload_n (i := 0) rfl rfl rfl ?_
        refine mw_getfield rfl f_X10_119 (by first | rfl | exact rfl | exact hv | exact ht) rfl ?_
        refine mw_iconst (v := nI 3) rfl (by decide) ?_
        refine mw_n_ge rfl (by omega) (by omega) (fun h3 => ?_) (fun h3 => ?_)
        · rw [if_neg (by omega)] at hp
          refine mw_iconst (v := nI 0) rfl (by decide) ?_
          refine mw_istore_n (i := 1) rfl rfl (Nat.le_of_ble_eq_true rfl) ?_
          refine mw_goto rfl ?_
          exact mw_locals rfl (stop (k + 1) s3 hp2 (by rw [Bool.true_and] at hp; exact hp))
        · rw [if_pos (by omega)] at hp
          have hp4 := rdTake_le (t := t) (c := 44) (by omega) hp2
          refine mw_aload_n (i := 0) rfl rfl rfl ?_
          refine mw_bipush (v := nI 44) rfl (by decide) ?_
          refine mw_callV_f (c_takesS (d + 2) n 44 tl (updN w 2 (nI (k + 1))) t s3 h ht h0 hl hp2) rfl ok_X10_takes v_X10_113 rfl (by first | rfl | exact rfl | exact hv | exact ht) (by intro e; cases e) rfl (Nat.le_of_ble_eq_true rfl) rfl (Nat.le_of_ble_eq_true rfl) (by omega) (by omega) (by omega) ?_
          refine mw_b_eq rfl (fun h44 => ?_) (fun h44 => ?_)
          · rw [if_neg (by rw [h44]; decide)] at hp
            refine mw_iconst (v := nI 0) rfl (by decide) ?_
            refine mw_istore_n (i := 1) rfl rfl (Nat.le_of_ble_eq_true rfl) ?_
            refine mw_goto rfl ?_
            exact mw_locals rfl (stop (k + 1) _ hp4 (by rw [Bool.true_and] at hp; exact hp))
          · rw [if_pos h44] at hp
            refine mw_iconst (v := nI 1) rfl (by decide) ?_
            refine mw_goto rfl ?_
            refine mw_istore_n (i := 1) rfl rfl (Nat.le_of_ble_eq_true rfl) ?_
            refine mw_goto rfl ?_
            exact mw_locals rfl (ih (by omega) _ hp4 hp)
      · rw [if_neg (by rw [hL]; decide), Bool.false_and] at hp
        refine mw_iconst (v := nI 0) rfl (by decide) ?_
        first | exact mw_ireturn rfl rfl (bI_nar _) rfl (Nat.le_refl _) (hp) | exact mw_ireturn rfl rfl rfl rfl (Nat.le_refl _) (hp)
    refine mw_iload_n (i := 1) rfl rfl rfl ?_
    refine mw_z_eq rfl (by omega) (fun hz => ?_) (fun hz => ?_)
    · exact absurd hz (by decide)
    · refine mw_aload_n (i := 0) rfl rfl rfl ?_
      refine mw_getfield rfl f_X10_119 (by first | rfl | exact rfl | exact hv | exact ht) rfl ?_
      refine mw_iconst (v := nI 1) rfl (by decide) ?_
      first | refine mw_nadd rfl ?_ | refine mw_iadd rfl ?_
      refine mw_istore_n (i := 2) rfl rfl (Nat.le_of_ble_eq_true rfl) ?_
      refine mw_aload_n (i := 0) rfl rfl rfl ?_
      refine mw_getfield rfl f_X10_23 (by first | rfl | exact rfl | exact hv | exact ht) rfl ?_
      refine mw_iconst (v := nI 4) rfl (by decide) ?_
      refine mw_iload_n (i := 2) rfl rfl rfl ?_
      first | refine mw_nmul rfl ?_ | refine mw_imul rfl ?_
      refine mw_iconst (v := nI 3) rfl (by decide) ?_
      first | refine mw_nadd rfl ?_ | refine mw_iadd rfl ?_
      refine mw_aload_n (i := 0) rfl rfl rfl ?_
      refine mw_bipush (v := nI 33) rfl (by decide) ?_
      refine mw_callV_f (c_takesS (d + 2) n 33 tl (updN w 2 (nI k)) t s h ht h0 hl hs) rfl ok_X10_takes v_X10_113 rfl (by first | rfl | exact rfl | exact hv | exact ht) (by intro e; cases e) rfl (Nat.le_of_ble_eq_true rfl) rfl (Nat.le_of_ble_eq_true rfl) (by omega) (by omega) (by omega) ?_
      refine mw_b_eq rfl (fun h33 => ?_) (fun h33 => ?_)
      · rw [h33] at mid
        refine mw_iconst (v := nI 0) rfl (by decide) ?_
        exact mw_locals rfl mid
      · rw [h33] at mid
        refine mw_iconst (v := nI 1) rfl (by decide) ?_
        refine mw_goto rfl ?_
        exact mw_locals rfl mid
  have loop : ∀ m k (s : PS), k + (m + 1) = 3 → s.1 ≤ tl → post (some (.int (bI ((rdLits v t tl (m + 1) k s).1 && decide ((rdLits v t tl (m + 1) k s).2.2.1 = tl))))) (mov (ty w (rdLits v t tl (m + 1) k s).2.1 (rdLits v t tl (m + 1) k s).2.2) h) → MW M_X10_isForm (d + 4) 0 0 n post 38 [(0, .ref 178), (1, .int (nI 1))] [] (mov (ty w k s) h) n 0 := by
    intro m
    induction m with
    | zero => exact fun k s hk hs hp => step 0 k s hk hs (fun q => absurd q (by omega)) hp
    | succ m ih => exact fun k s hk hs hp => step (m + 1) k s hk hs (fun _ s hs hp => ih (k + 1) s (by omega) hs hp) hp
  unfold rdForm at hp
  refine mw_over [(183, .inl (.int, 16, .inl td)), (178, RO w)] (mov_self (by simp [htd, hO])) ?_
  refine mw_aload_n (i := 0) rfl rfl rfl ?_
  refine mw_iconst (v := nI 0) rfl (by decide) ?_
  refine mw_putfield_m rfl f_X10_106 (by first | rfl | exact rfl | exact hv | exact ht) (Nat.le_of_ble_eq_true rfl) (fun _ => rfl) (fun _ => rfl) ?_
  refine mw_aload_n (i := 0) rfl rfl rfl ?_
  refine mw_iconst (v := nI 0) rfl (by decide) ?_
  refine mw_putfield_m rfl f_X10_119 (by first | rfl | exact rfl | exact hv | exact ht) (Nat.le_of_ble_eq_true rfl) (fun _ => rfl) (fun _ => rfl) ?_
  refine mw_aload_n (i := 0) rfl rfl rfl ?_
  refine mw_getfield rfl f_X10_23 (by first | rfl | exact rfl | exact hv | exact ht) rfl ?_
  refine mw_iconst (v := nI 3) rfl (by decide) ?_
  refine mw_iconst (v := nI 0) rfl (by decide) ?_
  refine mw_iast_m rfl (by first | rfl | exact rfl | exact hv | exact ht) (by omega) (by omega) ?_
  first | rw [vI_upd] | rw [vI_updv] | skip
  refine mw_aload_n (i := 0) rfl rfl rfl ?_
  refine mw_iconst (v := nI 0) rfl (by decide) ?_
  refine mw_heap (h2 := mov (ty w 0 (0, upd td 3 (nI 0))) h) (congrArg (fun z => mov [(183, .inl (.int, 16, .inl (upd td 3 (nI 0)))), (178, RO z)] h) (updN_sw w (nI 0) (nI 0)).symm) ?_
  have hq0 : ((0, upd td 3 (nI 0)) : PS).1 ≤ tl := Nat.zero_le _
  generalize ((0, upd td 3 (nI 0)) : PS) = s0 at hp hq0 ⊢
  have hq1 := rdAtom_le (v := v) (t := t) (i := 0) hc6 hq0
  refine mw_callV_f (c_isAtom d n 0 tl (updN w 2 (nI 0)) v t s0 h hv ht h0 hl hq0 hok (by omega)) rfl ok_X10_isAtom v_X10_122 rfl (by first | rfl | exact rfl | exact hv | exact ht) (by intro e; cases e) rfl (Nat.le_of_ble_eq_true rfl) rfl (Nat.le_of_ble_eq_true rfl) (by omega) (by omega) (by omega) ?_
  refine mw_b_eq rfl (fun hA => ?_) (fun hA => ?_)
  · rw [if_neg (by rw [hA]; decide)] at hp
    refine mw_iconst (v := nI 0) rfl (by decide) ?_
    first | exact mw_ireturn rfl rfl (bI_nar _) rfl (Nat.le_refl _) (hp) | exact mw_ireturn rfl rfl rfl rfl (Nat.le_refl _) (hp)
  · rw [if_pos hA] at hp
    generalize (rdAtom v t tl 0 s0).2 = s1 at hp hq1 ⊢
    have hq2 := rdTake_le (t := t) (c := 60) (by omega) hq1
    refine mw_aload_n (i := 0) rfl rfl rfl ?_
    refine mw_bipush (v := nI 60) rfl (by decide) ?_
    refine mw_callV_f (c_takesS (d + 2) n 60 tl (updN w 2 (nI 0)) t s1 h ht h0 hl hq1) rfl ok_X10_takes v_X10_113 rfl (by first | rfl | exact rfl | exact hv | exact ht) (by intro e; cases e) rfl (Nat.le_of_ble_eq_true rfl) rfl (Nat.le_of_ble_eq_true rfl) (by omega) (by omega) (by omega) ?_
    refine mw_b_ne rfl (fun h60 => ?_) (fun h60 => ?_)
    · rw [if_pos h60] at hp
      generalize (rdTake t tl 60 s1).2 = s2 at hp hq2 ⊢
      refine mw_iconst (v := nI 1) rfl (by decide) ?_
      refine mw_istore_n (i := 1) rfl rfl (Nat.le_of_ble_eq_true rfl) ?_
      exact mw_locals rfl (loop 2 0 s2 rfl hq2 hp)
    · rw [if_neg (by rw [h60]; decide)] at hp
      refine mw_iconst (v := nI 0) rfl (by decide) ?_
      first | exact mw_ireturn rfl rfl (bI_nar _) rfl (Nat.le_refl _) (hp) | exact mw_ireturn rfl rfl rfl rfl (Nat.le_refl _) (hp)
end
section
def lsB (x : Int32) : Int32 := if x ≤ nI 5 then nI 0 else nI 1 <<< ((x - nI 6) &&& 31)
def lsT (td : Nat → Int32) (r j : Nat) (p : Int32 × Int32) : Int32 × Int32 := (p.1 ||| lsB (td (4 * r + (j + 1))), p.2 ||| (if r ≠ 0 ∧ td (4 * r + 3) = 0 then lsB (td (4 * r + (j + 1))) else nI 0))
def lsW (td : Nat → Int32) (r : Nat) (p : Int32 × Int32) : Int32 × Int32 := itN (lsT td r) p 2
def looseV (td : Nat → Int32) (k : Nat) : Int32 := (itN (lsW td) (nI 0, nI 0) (k + 1)).1 &&& ((itN (lsW td) (nI 0, nI 0) (k + 1)).2 ^^^ -1)
theorem c_loose (d n k : Nat) (w : Nat → Int32) (td : Nat → Int32) (h : Nat → MC) (hO : h 178 = RO w) (htd : h 183 = .inl (.int, 16, .inl td)) (h2 : w 2 = nI k) (hk : k ≤ 3) : Fn M_X10_loose d 0 0 [.ref 178] h n (some (.int (looseV td k))) h := by
  refine Fn.of fun post hp => ?_
  have loopR : ∀ r, r ≤ k + 1 → MW M_X10_loose d 0 0 n post 6 [(0, .ref 178), (1, .int (itN (lsW td) (nI 0, nI 0) r).1), (2, .int (itN (lsW td) (nI 0, nI 0) r).2), (3, .int (nI r))] [] h n 0 := by
    refine loop_up (k + 1) ?_ ?_
    · unfold looseV at hp
      generalize itN (lsW td) (nI 0, nI 0) (k + 1) = P at hp ⊢
      refine mw_iload_n (i := 3) rfl rfl rfl ?_
      refine mw_aload_n (i := 0) rfl rfl rfl ?_
      refine mw_getfield rfl f_X10_119 (by first | rfl | exact hO | exact htd) rfl ?_
      rw [h2]
      refine mw_n_gt rfl (by omega) (by omega) (fun hc => ?_) (fun hc => ?_)
      · refine mw_iload_n (i := 1) rfl rfl rfl ?_
        refine mw_iload_n (i := 2) rfl rfl rfl ?_
        refine mw_iconst (v := (-1)) rfl (by decide) ?_
        refine mw_ixor rfl ?_
        refine mw_iand rfl ?_
        exact mw_ireturn rfl rfl rfl rfl (Nat.le_refl _) (hp)
      · omega
    · intro r hr ih
      have eP : itN (lsW td) (nI 0, nI 0) (r + 1) = lsW td r (itN (lsW td) (nI 0, nI 0) r) := rfl
      rw [eP] at ih
      generalize itN (lsW td) (nI 0, nI 0) r = P at ih ⊢
      have loopA : ∀ j, j ≤ 2 → MW M_X10_loose d 0 0 n post 17 [(0, .ref 178), (1, .int (itN (lsT td r) P j).1), (2, .int (itN (lsT td r) P j).2), (3, .int (nI r)), (4, .int (nI (j + 1)))] [] h n 0 := by
        refine loop_up 2 ?_ ?_
        · have e2 : itN (lsT td r) P 2 = lsW td r P := rfl
          rw [e2]
          refine mw_iload rfl rfl ?_
          refine mw_iconst (v := nI 3) rfl (by decide) ?_
          refine mw_n_ge rfl (by omega) (by omega) (fun hc => ?_) (fun hc => ?_)
          · first | refine mw_ninc rfl rfl (Nat.le_of_ble_eq_true rfl) ?_ | refine mw_iinc rfl rfl rfl (Nat.le_of_ble_eq_true rfl) ?_
            refine mw_goto rfl ?_
            exact mw_locals rfl ih
          · omega
        · intro j hj ihj
          have eQ : itN (lsT td r) P (j + 1) = lsT td r j (itN (lsT td r) P j) := rfl
          rw [eQ] at ihj
          generalize itN (lsT td r) P j = Q at ihj ⊢
          unfold lsT at ihj
          generalize hX : td (4 * r + (j + 1)) = x at ihj
          have c84 : ∀ c, c = (if r ≠ 0 ∧ td (4 * r + 3) = 0 then lsB x else nI 0) → MW M_X10_loose d 0 0 n post 84 [(0, .ref 178), (1, .int (Q.1 ||| lsB x)), (2, .int Q.2), (3, .int (nI r)), (4, .int (nI (j + 1)))] [.int c, .int Q.2] h n 0 := by
            intro c hc
            rw [← hc] at ihj
            refine mw_ior rfl ?_
            refine mw_istore_n (i := 2) rfl rfl (Nat.le_of_ble_eq_true rfl) ?_
            first | refine mw_ninc rfl rfl (Nat.le_of_ble_eq_true rfl) ?_ | refine mw_iinc rfl rfl rfl (Nat.le_of_ble_eq_true rfl) ?_
            refine mw_goto rfl ?_
            exact mw_locals rfl ihj
          have c53 : ∀ b, b = lsB x → MW M_X10_loose d 0 0 n post 53 [(0, .ref 178), (1, .int Q.1), (2, .int Q.2), (3, .int (nI r)), (4, .int (nI (j + 1)))] [.int b] h n 0 := by
            intro b hb
            rw [← hb] at c84
            clear hb ihj ih
            refine mw_istore rfl (Nat.le_of_ble_eq_true rfl) ?_
            refine mw_iload_n (i := 1) rfl rfl rfl ?_
            refine mw_iload rfl rfl ?_
            refine mw_ior rfl ?_
            refine mw_istore_n (i := 1) rfl rfl (Nat.le_of_ble_eq_true rfl) ?_
            refine mw_iload_n (i := 2) rfl rfl rfl ?_
            refine mw_iload_n (i := 3) rfl rfl rfl ?_
            refine mw_z_le rfl (by omega) (fun hz => ?_) (fun hz => ?_)
            · refine mw_iconst (v := nI 0) rfl (by decide) ?_
              exact mw_locals rfl (c84 _ (by rw [if_neg (by intro q; exact q.1 hz)]))
            · refine mw_aload_n (i := 0) rfl rfl rfl ?_
              refine mw_getfield rfl f_X10_23 (by first | rfl | exact hO | exact htd) rfl ?_
              refine mw_iconst (v := nI 4) rfl (by decide) ?_
              refine mw_iload_n (i := 3) rfl rfl rfl ?_
              first | refine mw_nmul rfl ?_ | refine mw_imul rfl ?_
              refine mw_iconst (v := nI 3) rfl (by decide) ?_
              first | refine mw_nadd rfl ?_ | refine mw_iadd rfl ?_
              generalize hY : td (4 * r + 3) = y at c84
              refine mw_iald_v (v := y) rfl htd (by omega) (by omega) hY ?_
              refine mw_if_ne rfl (fun hy => ?_) (fun hy => ?_)
              · refine mw_iconst (v := nI 0) rfl (by decide) ?_
                exact mw_locals rfl (c84 _ (by rw [if_neg (by intro q; exact hy q.2)]))
              · refine mw_iload rfl rfl ?_
                refine mw_goto rfl ?_
                exact mw_locals rfl (c84 _ (by rw [if_pos ⟨by omega, hy⟩]))
          refine mw_iload rfl rfl ?_
          refine mw_iconst (v := nI 3) rfl (by decide) ?_
          refine mw_n_ge rfl (by omega) (by omega) (fun hc => ?_) (fun hc => ?_)
          · omega
          · refine mw_aload_n (i := 0) rfl rfl rfl ?_
            refine mw_getfield rfl f_X10_23 (by first | rfl | exact hO | exact htd) rfl ?_
            refine mw_iconst (v := nI 4) rfl (by decide) ?_
            refine mw_iload_n (i := 3) rfl rfl rfl ?_
            first | refine mw_nmul rfl ?_ | refine mw_imul rfl ?_
            refine mw_iload rfl rfl ?_
            first | refine mw_nadd rfl ?_ | refine mw_iadd rfl ?_
            refine mw_iald_v (v := x) rfl htd (by omega) (by omega) hX ?_
            refine mw_istore rfl (Nat.le_of_ble_eq_true rfl) ?_
            refine mw_iload rfl rfl ?_
            refine mw_iconst (v := nI 5) rfl (by decide) ?_
            refine mw_icmp_le rfl (fun hle => ?_) (fun hle => ?_)
            · refine mw_iconst (v := nI 0) rfl (by decide) ?_
              exact mw_locals rfl (c53 _ (by unfold lsB; rw [if_pos hle]))
            · refine mw_iconst (v := nI 1) rfl (by decide) ?_
              refine mw_iload rfl rfl ?_
              refine mw_bipush (v := nI 6) rfl (by decide) ?_
              first | refine mw_nsub rfl (by omega) ?_ | refine mw_isub rfl ?_
              refine mw_ishl rfl ?_
              refine mw_goto rfl ?_
              exact mw_locals rfl (c53 _ (by unfold lsB; rw [if_neg hle]))
      refine mw_iload_n (i := 3) rfl rfl rfl ?_
      refine mw_aload_n (i := 0) rfl rfl rfl ?_
      refine mw_getfield rfl f_X10_119 (by first | rfl | exact hO | exact htd) rfl ?_
      rw [h2]
      refine mw_n_gt rfl (by omega) (by omega) (fun hc => ?_) (fun hc => ?_)
      · omega
      · refine mw_iconst (v := nI 1) rfl (by decide) ?_
        refine mw_istore rfl (Nat.le_of_ble_eq_true rfl) ?_
        exact mw_locals rfl (loopA 0 (by omega))
  refine mw_iconst (v := nI 0) rfl (by decide) ?_
  refine mw_istore_n (i := 1) rfl rfl (Nat.le_of_ble_eq_true rfl) ?_
  refine mw_iconst (v := nI 0) rfl (by decide) ?_
  refine mw_istore_n (i := 2) rfl rfl (Nat.le_of_ble_eq_true rfl) ?_
  refine mw_iconst (v := nI 0) rfl (by decide) ?_
  refine mw_istore_n (i := 3) rfl rfl (Nat.le_of_ble_eq_true rfl) ?_
  exact mw_locals rfl (loopR 0 (Nat.zero_le _))
end
section
def lsAt (L x : Int32) : Bool := decide (nI 88 ≤ x ∧ x ≤ nI 90) && decide ((L >>> ((x - nI 88) &&& 31)) &&& nI 1 = nI 1)
/-- the first place from pl on (at most m further) at which a loose variable stands -/
def scP (t : Nat → Nat) (L : Int32) : Nat → Nat → Nat
  | 0, pl => pl
  | m + 1, pl => if lsAt L (nI (t pl)) = true then pl else scP t L m (pl + 1)
def txL (F : Bool × Nat × PS) : Int32 := looseV F.2.2.2 F.2.1
def rdText (v t : Nat → Nat) (tl : Nat) (td : Nat → Int32) : Bool × Nat × PS :=
  if (rdForm v t tl td).1 = true then (decide (scP t (txL (rdForm v t tl td)) tl 0 = tl), (rdForm v t tl td).2.1, (scP t (txL (rdForm v t tl td)) tl 0, (rdForm v t tl td).2.2.2)) else (false, (rdForm v t tl td).2)
theorem rdLits_k {v t : Nat → Nat} {tl : Nat} : ∀ m k (s : PS), k + m ≤ 3 → (rdLits v t tl m k s).2.1 ≤ 3
  | 0, k, s, h => h
  | m + 1, k, s, h => by
    unfold rdLits
    split
    · split
      · split
        · exact rdLits_k m (k + 1) _ (by omega)
        · show k + 1 ≤ 3
          omega
      · show k + 1 ≤ 3
        omega
    · show k ≤ 3
      omega
theorem rdForm_k {v t : Nat → Nat} {tl : Nat} {td : Nat → Int32} : (rdForm v t tl td).2.1 ≤ 3 := by
  unfold rdForm
  split
  · split
    · exact rdLits_k 3 0 _ (by omega)
    · exact Nat.zero_le _
  · exact Nat.zero_le _
theorem scP_le {t : Nat → Nat} {L : Int32} : ∀ m pl, scP t L m pl ≤ pl + m
  | 0, pl => Nat.le_refl _
  | m + 1, pl => by
    unfold scP
    split
    · omega
    · have := scP_le (t := t) (L := L) m (pl + 1)
      omega
theorem c_isText (d n tl : Nat) (w : Nat → Int32) (v t : Nat → Nat) (td : Nat → Int32) (h : Nat → MC) (hO : h 178 = RO w) (hv : h 179 = .inl (.int, 189, .inl (vI v))) (ht : h 182 = .inl (.int, 60, .inl (vI t))) (htd : h 183 = .inl (.int, 16, .inl td)) (h0 : w 0 = nI tl) (hl : tl ≤ 60) (hok : OkN v) : Fn M_X10_isText (d + 5) 0 0 [.ref 178] h n (some (.int (bI (rdText v t tl td).1))) (mov (ty w (rdText v t tl td).2.1 (rdText v t tl td).2.2) h) := by
  refine Fn.of fun post hp => ?_
  have hk3 := rdForm_k (v := v) (t := t) (tl := tl) (td := td)
  refine mw_aload_n (i := 0) rfl rfl rfl ?_
  refine mw_callV_f (c_isForm d n tl w v t td h hO hv ht htd h0 hl hok) rfl ok_X10_isForm v_X10_125 rfl (by first | rfl | exact hO | exact ht) (by intro e; cases e) rfl (Nat.le_of_ble_eq_true rfl) rfl (Nat.le_of_ble_eq_true rfl) (by omega) (by omega) (by omega) ?_
  unfold rdText at hp
  generalize rdForm v t tl td = F at hp hk3 ⊢
  refine mw_b_ne rfl (fun hF => ?_) (fun hF => ?_)
  · rw [if_pos hF] at hp
    refine mw_aload_n (i := 0) rfl rfl rfl ?_
    refine mw_callV_f (c_loose (d + 4) n F.2.1 (updN (updN w 2 (nI F.2.1)) 1 (nI F.2.2.1)) F.2.2.2 _ rfl rfl rfl hk3) rfl ok_X10_loose v_X10_129 rfl (by first | rfl | exact rfl | exact ht) (by intro e; cases e) rfl (Nat.le_of_ble_eq_true rfl) rfl (Nat.le_of_ble_eq_true rfl) (by omega) (by omega) (by omega) ?_
    have eL : looseV F.2.2.2 F.2.1 = txL F := rfl
    rw [eL]
    generalize txL F = L at hp ⊢
    have fin : ∀ pl, pl ≤ tl → scP t L tl 0 = pl → MW M_X10_isText (d + 5) 0 0 n post 82 [(0, .ref 178), (1, .int L)] [] (mov (ty w F.2.1 (pl, F.2.2.2)) h) n 0 := by
      intro pl hpl e
      rw [e] at hp
      refine mw_aload_n (i := 0) rfl rfl rfl ?_
      refine mw_getfield rfl f_X10_106 (by first | rfl | exact rfl | exact ht) rfl ?_
      refine mw_aload_n (i := 0) rfl rfl rfl ?_
      refine mw_getfield rfl f_X10_102 (by first | rfl | exact rfl | exact ht) rfl ?_
      rw [show updN (updN w 2 (nI F.2.1)) 1 (nI (pl, F.2.2.2).1) 0 = nI tl from h0]
      refine mw_n_ne rfl (by omega) (by omega) (fun hc => ?_) (fun hc => ?_)
      · rw [decide_eq_false (by omega)] at hp
        refine mw_iconst (v := nI 0) rfl (by decide) ?_
        first | exact mw_ireturn rfl rfl (bI_nar _) rfl (Nat.le_refl _) (hp) | exact mw_ireturn rfl rfl rfl rfl (Nat.le_refl _) (hp)
      · rw [decide_eq_true (by omega)] at hp
        refine mw_iconst (v := nI 1) rfl (by decide) ?_
        refine mw_goto rfl ?_
        first | exact mw_ireturn rfl rfl (bI_nar _) rfl (Nat.le_refl _) (hp) | exact mw_ireturn rfl rfl rfl rfl (Nat.le_refl _) (hp)
    have loop : ∀ m pl, pl + m = tl → scP t L tl 0 = scP t L m pl → MW M_X10_isText (d + 5) 0 0 n post 19 [(0, .ref 178), (1, .int L)] [] (mov (ty w F.2.1 (pl, F.2.2.2)) h) n 0 := by
      intro m
      induction m with
      | zero =>
        intro pl hpl e
        refine mw_aload_n (i := 0) rfl rfl rfl ?_
        refine mw_getfield rfl f_X10_106 (by first | rfl | exact rfl | exact ht) rfl ?_
        refine mw_aload_n (i := 0) rfl rfl rfl ?_
        refine mw_getfield rfl f_X10_102 (by first | rfl | exact rfl | exact ht) rfl ?_
        rw [show updN (updN w 2 (nI F.2.1)) 1 (nI (pl, F.2.2.2).1) 0 = nI tl from h0]
        refine mw_n_ge rfl (by omega) (by omega) (fun hc => ?_) (fun hc => ?_)
        · exact mw_locals rfl (fin pl (by omega) e)
        · omega
      | succ m ih =>
        intro pl hpl e
        have e2 : scP t L (m + 1) pl = if lsAt L (nI (t pl)) = true then pl else scP t L m (pl + 1) := rfl
        rw [e2] at e
        refine mw_aload_n (i := 0) rfl rfl rfl ?_
        refine mw_getfield rfl f_X10_106 (by first | rfl | exact rfl | exact ht) rfl ?_
        refine mw_aload_n (i := 0) rfl rfl rfl ?_
        refine mw_getfield rfl f_X10_102 (by first | rfl | exact rfl | exact ht) rfl ?_
        rw [show updN (updN w 2 (nI F.2.1)) 1 (nI (pl, F.2.2.2).1) 0 = nI tl from h0]
        have nxt : lsAt L (nI (t pl)) = false → MW M_X10_isText (d + 5) 0 0 n post 69 [(0, .ref 178), (1, .int L)] [] (mov (ty w F.2.1 (pl, F.2.2.2)) h) n 0 := by
          intro q
          rw [if_neg (by rw [q]; decide)] at e
          refine mw_aload_n (i := 0) rfl rfl rfl ?_
          refine mw_dup rfl rfl ?_
          refine mw_getfield rfl f_X10_106 (by first | rfl | exact rfl | exact ht) rfl ?_
          refine mw_iconst (v := nI 1) rfl (by decide) ?_
          first | refine mw_nadd rfl ?_ | refine mw_iadd rfl ?_
          refine mw_putfield_m rfl f_X10_106 (by first | rfl | exact rfl | exact ht) (Nat.le_of_ble_eq_true rfl) (fun _ => rfl) (fun _ => rfl) ?_
          refine mw_goto rfl ?_
          exact mw_locals rfl (mw_heap (congrArg (fun z => mov [(183, .inl (.int, 16, .inl F.2.2.2)), (178, RO z)] h) (updN_2 (updN w 2 (nI F.2.1)) 1 (nI pl) (nI (pl + 1))).symm) (ih (pl + 1) (by omega) e))
        refine mw_n_ge rfl (by omega) (by omega) (fun hc => ?_) (fun hc => ?_)
        · omega
        · refine mw_aload_n (i := 0) rfl rfl rfl ?_
          refine mw_getfield rfl f_X10_20 (by first | rfl | exact rfl | exact ht) rfl ?_
          refine mw_aload_n (i := 0) rfl rfl rfl ?_
          refine mw_getfield rfl f_X10_106 (by first | rfl | exact rfl | exact ht) rfl ?_
          refine mw_iald rfl (by first | rfl | exact rfl | exact ht) (by omega) (by omega) ?_
          refine mw_bipush (v := nI 88) rfl (by decide) ?_
          refine mw_bipush (v := nI 90) rfl (by decide) ?_
          refine mw_callS_f (c_in (d + 4) n (nI (t pl)) (nI 88) (nI 90) _) rfl ok_X10_in v_X10_80 rfl (Nat.le_of_ble_eq_true rfl) rfl (Nat.le_of_ble_eq_true rfl) (by omega) (by omega) (by omega) ?_
          refine mw_b_eq rfl (fun h46 => ?_) (fun h46 => ?_)
          · exact mw_locals rfl (nxt (by unfold lsAt; rw [h46]; rfl))
          · refine mw_iload_n (i := 1) rfl rfl rfl ?_
            refine mw_aload_n (i := 0) rfl rfl rfl ?_
            refine mw_getfield rfl f_X10_20 (by first | rfl | exact rfl | exact ht) rfl ?_
            refine mw_aload_n (i := 0) rfl rfl rfl ?_
            refine mw_getfield rfl f_X10_106 (by first | rfl | exact rfl | exact ht) rfl ?_
            refine mw_iald rfl (by first | rfl | exact rfl | exact ht) (by omega) (by omega) ?_
            refine mw_bipush (v := nI 88) rfl (by decide) ?_
            refine mw_isub rfl ?_
            refine mw_ishr rfl ?_
            refine mw_iconst (v := nI 1) rfl (by decide) ?_
            refine mw_iand rfl ?_
            refine mw_iconst (v := nI 1) rfl (by decide) ?_
            refine mw_icmp_eq rfl (fun hb => ?_) (fun hb => ?_)
            · have hb : (L >>> ((nI (t pl) - nI 88) &&& 31)) &&& nI 1 = nI 1 := hb
              refine mw_locals rfl (fin pl (by omega) ?_)
              rw [e, if_pos (by unfold lsAt; rw [h46, decide_eq_true hb]; rfl)]
            · have hb : ¬ (L >>> ((nI (t pl) - nI 88) &&& 31)) &&& nI 1 = nI 1 := hb
              exact mw_locals rfl (nxt (by unfold lsAt; rw [h46, decide_eq_false hb]; rfl))
    refine mw_istore_n (i := 1) rfl rfl (Nat.le_of_ble_eq_true rfl) ?_
    refine mw_aload_n (i := 0) rfl rfl rfl ?_
    refine mw_iconst (v := nI 0) rfl (by decide) ?_
    refine mw_putfield_m rfl f_X10_106 (by first | rfl | exact rfl | exact ht) (Nat.le_of_ble_eq_true rfl) (fun _ => rfl) (fun _ => rfl) ?_
    exact mw_locals rfl (mw_heap (congrArg (fun z => mov [(183, .inl (.int, 16, .inl F.2.2.2)), (178, RO z)] h) (updN_2 (updN w 2 (nI F.2.1)) 1 (nI F.2.2.1) (nI 0)).symm) (loop tl 0 (by omega) rfl))
  · rw [if_neg (by rw [hF]; decide)] at hp
    refine mw_iconst (v := nI 0) rfl (by decide) ?_
    first | exact mw_ireturn rfl rfl (bI_nar _) rfl (Nat.le_refl _) (hp) | exact mw_ireturn rfl rfl rfl rfl (Nat.le_refl _) (hp)
theorem c_faultPosition (d n tl : Nat) (w : Nat → Int32) (v t : Nat → Nat) (td : Nat → Int32) (h : Nat → MC) (hO : h 178 = RO w) (hv : h 179 = .inl (.int, 189, .inl (vI v))) (ht : h 182 = .inl (.int, 60, .inl (vI t))) (htd : h 183 = .inl (.int, 16, .inl td)) (h0 : w 0 = nI tl) (hl : tl ≤ 60) (hok : OkN v) : Fn M_X10_faultPosition (d + 6) 0 0 [.ref 178] h n (some (.int (if (rdText v t tl td).1 = true then -5 else nI (rdText v t tl td).2.2.1))) (mov (ty w (rdText v t tl td).2.1 (rdText v t tl td).2.2) h) := by
  refine Fn.of fun post hp => ?_
  refine mw_aload_n (i := 0) rfl rfl rfl ?_
  refine mw_callV_f (c_isText d n tl w v t td h hO hv ht htd h0 hl hok) rfl ok_X10_isText v_X10_132 rfl (by first | rfl | exact hO | exact ht) (by intro e; cases e) rfl (Nat.le_of_ble_eq_true rfl) rfl (Nat.le_of_ble_eq_true rfl) (by omega) (by omega) (by omega) ?_
  generalize rdText v t tl td = F at hp ⊢
  refine mw_b_eq rfl (fun hF => ?_) (fun hF => ?_)
  · rw [if_neg (by rw [hF]; decide)] at hp
    refine mw_aload_n (i := 0) rfl rfl rfl ?_
    refine mw_getfield rfl f_X10_106 (by first | rfl | exact rfl | exact ht) rfl ?_
    exact mw_ireturn rfl rfl rfl rfl (Nat.le_refl _) (hp)
  · rw [if_pos hF] at hp
    refine mw_bipush (v := (-5)) rfl (by decide) ?_
    refine mw_goto rfl ?_
    exact mw_ireturn rfl rfl rfl rfl (Nat.le_refl _) (hp)
end
section
def toN (x : Int32) : Nat := x.toBitVec.toNat
theorem nI_toN (x : Int32) : nI (toN x) = x := by
  apply Int32.toBitVec_inj.mp
  show BitVec.ofNat 32 x.toBitVec.toNat = x.toBitVec
  exact BitVec.ofNat_toNat 32 x.toBitVec ▸ by simp
def adU (r : Nat) (td : Nat → Int32) (i : Nat) (V : Nat → Nat) : Nat → Nat := updN V (45 + 18 * r + 2 + 4 * 0 + i) (toN (td i))
/-- the state behind a rule that was added -/
def addRuleV (v : Nat → Nat) (p k : Nat) (td : Nat → Int32) : Nat → Nat := updN (itN (adU (v 2) td) (updN (updN v (45 + 18 * v 2) p) (45 + 18 * v 2 + 1) k) 16) 2 (v 2 + 1)
abbrev tz (w : Nat → Int32) (k : Nat) (s : PS) (V : Nat → Nat) : MLs := [(183, .inl (.int, 16, .inl s.2)), (178, RO (updN (updN w 2 (nI k)) 1 (nI s.1))), (179, .inl (.int, 189, .inl (vI V)))]
theorem c_addRule_e1 (d n : Nat) (p : Int32) (h : Nat → MC) (hx : ¬ (nI 1 ≤ p ∧ p ≤ nI 9)) : Fn M_X10_addRule (d + 6) 0 0 [.ref 178, .int p] h n (some (.int (-2))) h := by
  refine Fn.of fun post hp => ?_
  refine mw_iload_n (i := 1) rfl rfl rfl ?_
  refine mw_iconst (v := nI 1) rfl (by decide) ?_
  refine mw_bipush (v := nI 9) rfl (by decide) ?_
  refine mw_callS_f (c_in (d + 5) n p (nI 1) (nI 9) h) rfl ok_X10_in v_X10_80 rfl (Nat.le_of_ble_eq_true rfl) rfl (Nat.le_of_ble_eq_true rfl) (by omega) (by omega) (by omega) ?_
  refine mw_b_ne rfl (fun hq => ?_) (fun hq => ?_)
  · exact absurd (of_decide_eq_true hq) hx
  · refine mw_bipush (v := (-2)) rfl (by decide) ?_
    exact mw_ireturn rfl rfl rfl rfl (Nat.le_refl _) (hp)
def adA (v : Nat → Nat) (F : Bool × Nat × PS) : Int32 := if F.1 = true then (if v 2 = 8 then -4 else nI (v 2)) else -3
def adL (w : Nat → Int32) (v : Nat → Nat) (p : Nat) (F : Bool × Nat × PS) : MLs := if F.1 = true ∧ v 2 ≠ 8 then [(183, .inl (.int, 16, .inl F.2.2.2)), (178, RO (updN (updN (updN w 2 (nI F.2.1)) 1 (nI F.2.2.1)) 3 0)), (179, .inl (.int, 189, .inl (vI (addRuleV v p F.2.1 F.2.2.2))))] else ty w F.2.1 F.2.2
set_option maxRecDepth 20000 in
theorem c_addRule (d n p tl : Nat) (w : Nat → Int32) (v t : Nat → Nat) (td : Nat → Int32) (h : Nat → MC) (hO : h 178 = RO w) (hv : h 179 = .inl (.int, 189, .inl (vI v))) (ht : h 182 = .inl (.int, 60, .inl (vI t))) (htd : h 183 = .inl (.int, 16, .inl td)) (h0 : w 0 = nI tl) (hl : tl ≤ 60) (hok : OkN v) (hp1 : 1 ≤ p) (hp9 : p ≤ 9) : Fn M_X10_addRule (d + 6) 0 0 [.ref 178, .int (nI p)] h n (some (.int (adA v (rdText v t tl td)))) (mov (adL w v p (rdText v t tl td)) h) := by
  refine Fn.of fun post hp => ?_
  have hr8 := hok.2.2.2.1
  refine mw_iload_n (i := 1) rfl rfl rfl ?_
  refine mw_iconst (v := nI 1) rfl (by decide) ?_
  refine mw_bipush (v := nI 9) rfl (by decide) ?_
  refine mw_callS_f (c_in (d + 5) n (nI p) (nI 1) (nI 9) h) rfl ok_X10_in v_X10_80 rfl (Nat.le_of_ble_eq_true rfl) rfl (Nat.le_of_ble_eq_true rfl) (by omega) (by omega) (by omega) ?_
  refine mw_b_ne rfl (fun hq => ?_) (fun hq => ?_)
  · refine mw_aload_n (i := 0) rfl rfl rfl ?_
    refine mw_callV_f (c_isText d n tl w v t td h hO hv ht htd h0 hl hok) rfl ok_X10_isText v_X10_132 rfl (by first | rfl | exact hO | exact ht) (by intro e; cases e) rfl (Nat.le_of_ble_eq_true rfl) rfl (Nat.le_of_ble_eq_true rfl) (by omega) (by omega) (by omega) ?_
    generalize rdText v t tl td = F at hp ⊢
    refine mw_b_ne rfl (fun hF => ?_) (fun hF => ?_)
    · refine mw_aload_n (i := 0) rfl rfl rfl ?_
      refine mw_getfield rfl f_X10_7 (by first | rfl | exact rfl | exact ht | exact hv) rfl ?_
      refine mw_iconst (v := nI 2) rfl (by decide) ?_
      refine mw_iald rfl (by first | rfl | exact rfl | exact ht | exact hv) (by omega) (by omega) ?_
      refine mw_bipush (v := nI 8) rfl (by decide) ?_
      refine mw_n_ne rfl (by omega) (by omega) (fun h8 => ?_) (fun h8 => ?_)
      · rw [show adA v F = nI (v 2) by unfold adA; rw [if_pos hF, if_neg h8], show adL w v p F = _ from if_pos ⟨hF, h8⟩] at hp
        refine mw_heap (h2 := mov (tz w F.2.1 F.2.2 v) h) (mov_app (l := ty w F.2.1 F.2.2) (l2 := [(179, .inl (.int, 189, .inl (vI v)))]) (by simp [hv])) ?_
        obtain ⟨r, hr⟩ : ∃ r, r = v 2 := ⟨_, rfl⟩
        have hr7 : r < 8 := by omega
        unfold addRuleV at hp
        have loop : ∀ i, i ≤ 16 → MW M_X10_addRule (d + 6) 0 0 n post 77 [(0, .ref 178), (1, .int (nI p)), (2, .int (nI (v 2))), (3, .int (nI i))] [] (mov (tz w F.2.1 F.2.2 (itN (adU (v 2) F.2.2.2) (updN (updN v (45 + 18 * v 2) p) (45 + 18 * v 2 + 1) F.2.1) i)) h) n 0 := by
          refine loop_up 16 ?_ ?_
          · have hV2 : ∀ i, itN (adU (v 2) F.2.2.2) (updN (updN v (45 + 18 * v 2) p) (45 + 18 * v 2 + 1) F.2.1) i 2 = v 2 := by
              intro i
              induction i with
              | zero =>
                show updN (updN v (45 + 18 * v 2) p) (45 + 18 * v 2 + 1) F.2.1 2 = v 2
                rw [updN_ne _ _ (by omega), updN_ne _ _ (by omega)]
              | succ i ih =>
                show updN _ _ _ 2 = v 2
                rw [updN_ne _ _ (by omega)]
                exact ih
            have hV2 := hV2 16
            generalize itN (adU (v 2) F.2.2.2) (updN (updN v (45 + 18 * v 2) p) (45 + 18 * v 2 + 1) F.2.1) 16 = V at hV2 hp ⊢
            refine mw_iload_n (i := 3) rfl rfl rfl ?_
            refine mw_bipush (v := nI 16) rfl (by decide) ?_
            refine mw_n_ge rfl (by omega) (by omega) (fun hc => ?_) (fun hc => ?_)
            · refine mw_aload_n (i := 0) rfl rfl rfl ?_
              refine mw_getfield rfl f_X10_7 (by first | rfl | exact rfl | exact ht | exact hv) rfl ?_
              refine mw_iconst (v := nI 2) rfl (by decide) ?_
              refine mw_dup2 rfl rfl rfl ?_
              refine mw_iald_v (v := nI (v 2)) rfl rfl (by omega) (by omega) (show nI (V 2) = nI (v 2) by rw [hV2]) ?_
              refine mw_iconst (v := nI 1) rfl (by decide) ?_
              first | refine mw_nadd rfl ?_ | refine mw_iadd rfl ?_
              refine mw_iast_m rfl (by first | rfl | exact rfl | exact ht | exact hv) (by omega) (by omega) ?_
              first | rw [vI_upd] | rw [vI_updv] | skip
              refine mw_aload_n (i := 0) rfl rfl rfl ?_
              refine mw_iconst (v := nI 0) rfl (by decide) ?_
              first | refine mw_putfield_m rfl f_X10_76 (by first | rfl | exact rfl | exact ht | exact hv) (Nat.le_of_ble_eq_true rfl) (fun _ => bI_nar _) (fun _ => bI_fit _) ?_ | refine mw_putfield_m rfl f_X10_76 (by first | rfl | exact rfl | exact ht | exact hv) (Nat.le_of_ble_eq_true rfl) (fun _ => rfl) (fun _ => rfl) ?_
              refine mw_iload_n (i := 2) rfl rfl rfl ?_
              exact mw_ireturn rfl rfl rfl rfl (Nat.le_refl _) (hp)
            · omega
          · intro i hi ih
            have eA : itN (adU (v 2) F.2.2.2) (updN (updN v (45 + 18 * v 2) p) (45 + 18 * v 2 + 1) F.2.1) (i + 1) = updN (itN (adU (v 2) F.2.2.2) (updN (updN v (45 + 18 * v 2) p) (45 + 18 * v 2 + 1) F.2.1) i) (45 + 18 * v 2 + 2 + 4 * 0 + i) (toN (F.2.2.2 i)) := rfl
            rw [eA] at ih
            generalize itN (adU (v 2) F.2.2.2) (updN (updN v (45 + 18 * v 2) p) (45 + 18 * v 2 + 1) F.2.1) i = V at ih ⊢
            refine mw_iload_n (i := 3) rfl rfl rfl ?_
            refine mw_bipush (v := nI 16) rfl (by decide) ?_
            refine mw_n_ge rfl (by omega) (by omega) (fun hc => ?_) (fun hc => ?_)
            · omega
            · refine mw_aload_n (i := 0) rfl rfl rfl ?_
              refine mw_getfield rfl f_X10_7 (by first | rfl | exact rfl | exact ht | exact hv) rfl ?_
              refine mw_iload_n (i := 2) rfl rfl rfl ?_
              refine mw_iconst (v := nI 0) rfl (by decide) ?_
              refine mw_callS_f (c_atomAt (d + 5) n (v 2) 0 _) rfl ok_X10_atomAt v_X10_88 rfl (Nat.le_of_ble_eq_true rfl) rfl (Nat.le_of_ble_eq_true rfl) (by omega) (by omega) (by omega) ?_
              refine mw_iload_n (i := 3) rfl rfl rfl ?_
              first | refine mw_nadd rfl ?_ | refine mw_iadd rfl ?_
              refine mw_aload_n (i := 0) rfl rfl rfl ?_
              refine mw_getfield rfl f_X10_23 (by first | rfl | exact rfl | exact ht | exact hv) rfl ?_
              refine mw_iload_n (i := 3) rfl rfl rfl ?_
              refine mw_iald_v (v := nI (toN (F.2.2.2 i))) rfl rfl (by omega) (by omega) (nI_toN _).symm ?_
              refine mw_iast_m rfl (by first | rfl | exact rfl | exact ht | exact hv) (by omega) (by omega) ?_
              first | rw [vI_upd] | rw [vI_updv] | skip
              first | refine mw_ninc rfl rfl (Nat.le_of_ble_eq_true rfl) ?_ | refine mw_iinc rfl rfl rfl (Nat.le_of_ble_eq_true rfl) ?_
              refine mw_goto rfl ?_
              exact mw_locals rfl ih
        refine mw_aload_n (i := 0) rfl rfl rfl ?_
        refine mw_getfield rfl f_X10_7 (by first | rfl | exact rfl | exact ht | exact hv) rfl ?_
        refine mw_iconst (v := nI 2) rfl (by decide) ?_
        refine mw_iald rfl (by first | rfl | exact rfl | exact ht | exact hv) (by omega) (by omega) ?_
        refine mw_istore_n (i := 2) rfl rfl (Nat.le_of_ble_eq_true rfl) ?_
        refine mw_aload_n (i := 0) rfl rfl rfl ?_
        refine mw_getfield rfl f_X10_7 (by first | rfl | exact rfl | exact ht | exact hv) rfl ?_
        refine mw_bipush (v := nI 45) rfl (by decide) ?_
        refine mw_bipush (v := nI 18) rfl (by decide) ?_
        refine mw_iload_n (i := 2) rfl rfl rfl ?_
        first | refine mw_nmul rfl ?_ | refine mw_imul rfl ?_
        first | refine mw_nadd rfl ?_ | refine mw_iadd rfl ?_
        refine mw_iload_n (i := 1) rfl rfl rfl ?_
        refine mw_iast_m rfl (by first | rfl | exact rfl | exact ht | exact hv) (by omega) (by omega) ?_
        first | rw [vI_upd] | rw [vI_updv] | skip
        refine mw_aload_n (i := 0) rfl rfl rfl ?_
        refine mw_getfield rfl f_X10_7 (by first | rfl | exact rfl | exact ht | exact hv) rfl ?_
        refine mw_bipush (v := nI 45) rfl (by decide) ?_
        refine mw_bipush (v := nI 18) rfl (by decide) ?_
        refine mw_iload_n (i := 2) rfl rfl rfl ?_
        first | refine mw_nmul rfl ?_ | refine mw_imul rfl ?_
        first | refine mw_nadd rfl ?_ | refine mw_iadd rfl ?_
        refine mw_iconst (v := nI 1) rfl (by decide) ?_
        first | refine mw_nadd rfl ?_ | refine mw_iadd rfl ?_
        refine mw_aload_n (i := 0) rfl rfl rfl ?_
        refine mw_getfield rfl f_X10_119 (by first | rfl | exact rfl | exact ht | exact hv) rfl ?_
        rw [show updN (updN w 2 (nI F.2.1)) 1 (nI F.2.2.1) 2 = nI F.2.1 from rfl]
        refine mw_iast_m rfl (by first | rfl | exact rfl | exact ht | exact hv) (by omega) (by omega) ?_
        first | rw [vI_upd] | rw [vI_updv] | skip
        refine mw_iconst (v := nI 0) rfl (by decide) ?_
        refine mw_istore_n (i := 3) rfl rfl (Nat.le_of_ble_eq_true rfl) ?_
        exact mw_locals rfl (loop 0 (Nat.zero_le _))
      · rw [show adA v F = -4 by unfold adA; rw [if_pos hF, if_pos (by omega)], show adL w v p F = _ from if_neg (by intro q; exact q.2 (by omega))] at hp
        refine mw_bipush (v := (-4)) rfl (by decide) ?_
        exact mw_ireturn rfl rfl rfl rfl (Nat.le_refl _) (hp)
    · rw [show adA v F = -3 by unfold adA; rw [if_neg (by rw [hF]; decide)], show adL w v p F = _ from if_neg (by intro q; rw [hF] at q; exact absurd q.1 (by decide))] at hp
      refine mw_bipush (v := (-3)) rfl (by decide) ?_
      exact mw_ireturn rfl rfl rfl rfl (Nat.le_refl _) (hp)
  · have := of_decide_eq_false hq
    exact absurd ⟨(nI_leI (by omega) (by omega)).mpr hp1, (nI_leI (by omega) (by omega)).mpr hp9⟩ this
end
section
theorem c_more (d n : Nat) (x : Int64) (y : Int32) (h : Nat → MC) : Fn M_X10_more d 0 0 [.long x, .int y] h n (some (.long (31 * x + y.toInt64))) h := by
  refine Fn.of fun post hp => ?_
  refine mw_ldc2 rfl c_X10_233 ?_
  refine mw_lload_n (i := 0) rfl rfl rfl ?_
  refine mw_lmul rfl ?_
  refine mw_iload_n (i := 2) rfl rfl rfl ?_
  refine mw_i2l rfl ?_
  refine mw_ladd rfl ?_
  exact mw_lreturn rfl rfl rfl (Nat.le_refl _) (hp)
end
