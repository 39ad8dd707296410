-- ===== PART A: goes FIRST, ahead of the names: the tables' words, and 'selects' of the private methods out of them =====
/-- a private method of a class that the tables say can be made, by its rows of tables_1 -/
def lw_okq (q : MethodName × Nat) : Prop := (q.1.cls ≠ "java/lang/invoke/MethodHandle" ∧ q.1.cls ≠ "java/lang/invoke/VarHandle") ∧ Cond.instantiable q.1.cls q.2 ∈ tables_1 ∧ Cond.privateMethod q.1 ∈ tables_1 ∧ Cond.instanceMethod q.1 ∈ tables_1
theorem lw_p0 : lw_okq (⟨"FactOrigins", "rulesChanged", "()V"⟩, 17) := ⟨⟨by decide +kernel, by decide +kernel⟩, List.mem_of_getElem? (i := 18) (by decide +kernel), List.mem_of_getElem? (i := 370) (by decide +kernel), List.mem_of_getElem? (i := 371) (by decide +kernel)⟩
theorem lw_p1 : lw_okq (⟨"FactOrigins", "factsChanged", "()V"⟩, 17) := ⟨⟨by decide +kernel, by decide +kernel⟩, List.mem_of_getElem? (i := 18) (by decide +kernel), List.mem_of_getElem? (i := 374) (by decide +kernel), List.mem_of_getElem? (i := 375) (by decide +kernel)⟩
theorem lw_p2 : lw_okq (⟨"FactOrigins$RuleText", "readRule", "(LFactOrigins$Program;)Z"⟩, 4) := ⟨⟨by decide +kernel, by decide +kernel⟩, List.mem_of_getElem? (i := 120) (by decide +kernel), List.mem_of_getElem? (i := 457) (by decide +kernel), List.mem_of_getElem? (i := 458) (by decide +kernel)⟩
theorem lw_p3 : lw_okq (⟨"FactOrigins$RuleText", "readAtom", "(LFactOrigins$Program;I)Z"⟩, 4) := ⟨⟨by decide +kernel, by decide +kernel⟩, List.mem_of_getElem? (i := 120) (by decide +kernel), List.mem_of_getElem? (i := 461) (by decide +kernel), List.mem_of_getElem? (i := 462) (by decide +kernel)⟩
theorem lw_p4 : lw_okq (⟨"FactOrigins$RuleText", "next", "()I"⟩, 4) := ⟨⟨by decide +kernel, by decide +kernel⟩, List.mem_of_getElem? (i := 120) (by decide +kernel), List.mem_of_getElem? (i := 465) (by decide +kernel), List.mem_of_getElem? (i := 466) (by decide +kernel)⟩
theorem lw_p5 : lw_okq (⟨"FactOrigins$RuleText", "take", "(I)Z"⟩, 4) := ⟨⟨by decide +kernel, by decide +kernel⟩, List.mem_of_getElem? (i := 120) (by decide +kernel), List.mem_of_getElem? (i := 470) (by decide +kernel), List.mem_of_getElem? (i := 471) (by decide +kernel)⟩
theorem lw_p6 : lw_okq (⟨"FactOrigins$RuleText", "takeTerm", "()I"⟩, 4) := ⟨⟨by decide +kernel, by decide +kernel⟩, List.mem_of_getElem? (i := 120) (by decide +kernel), List.mem_of_getElem? (i := 480) (by decide +kernel), List.mem_of_getElem? (i := 481) (by decide +kernel)⟩
theorem lw_p7 : lw_okq (⟨"FactOrigins$RuleText", "unboundVariable", "()I"⟩, 4) := ⟨⟨by decide +kernel, by decide +kernel⟩, List.mem_of_getElem? (i := 120) (by decide +kernel), List.mem_of_getElem? (i := 484) (by decide +kernel), List.mem_of_getElem? (i := 485) (by decide +kernel)⟩
theorem lw_p8 : lw_okq (⟨"FactOrigins", "hasModel", "()Z"⟩, 17) := ⟨⟨by decide +kernel, by decide +kernel⟩, List.mem_of_getElem? (i := 18) (by decide +kernel), List.mem_of_getElem? (i := 504) (by decide +kernel), List.mem_of_getElem? (i := 505) (by decide +kernel)⟩
theorem lw_p9 : lw_okq (⟨"FactOrigins$Grounding", "findStrata", "(LFactOrigins$Program;)V"⟩, 12) := ⟨⟨by decide +kernel, by decide +kernel⟩, List.mem_of_getElem? (i := 143) (by decide +kernel), List.mem_of_getElem? (i := 512) (by decide +kernel), List.mem_of_getElem? (i := 513) (by decide +kernel)⟩
theorem lw_p10 : lw_okq (⟨"FactOrigins$Grounding", "raiseHead", "(LFactOrigins$Rule;)Z"⟩, 12) := ⟨⟨by decide +kernel, by decide +kernel⟩, List.mem_of_getElem? (i := 143) (by decide +kernel), List.mem_of_getElem? (i := 517) (by decide +kernel), List.mem_of_getElem? (i := 518) (by decide +kernel)⟩
theorem lw_p11 : lw_okq (⟨"FactOrigins$Grounding", "fillInstances", "(LFactOrigins$Rule;II)I"⟩, 12) := ⟨⟨by decide +kernel, by decide +kernel⟩, List.mem_of_getElem? (i := 143) (by decide +kernel), List.mem_of_getElem? (i := 524) (by decide +kernel), List.mem_of_getElem? (i := 525) (by decide +kernel)⟩
theorem lw_p12 : lw_okq (⟨"FactOrigins$Grounding", "fillInstance", "(LFactOrigins$Rule;II)V"⟩, 12) := ⟨⟨by decide +kernel, by decide +kernel⟩, List.mem_of_getElem? (i := 143) (by decide +kernel), List.mem_of_getElem? (i := 529) (by decide +kernel), List.mem_of_getElem? (i := 530) (by decide +kernel)⟩
theorem lw_p13 : lw_okq (⟨"FactOrigins$Model", "buildStratum", "(LFactOrigins$Grounding;I)V"⟩, 3) := ⟨⟨by decide +kernel, by decide +kernel⟩, List.mem_of_getElem? (i := 212) (by decide +kernel), List.mem_of_getElem? (i := 539) (by decide +kernel), List.mem_of_getElem? (i := 540) (by decide +kernel)⟩
theorem lw_p14 : lw_okq (⟨"FactOrigins$Model", "takeHeads", "(LFactOrigins$Grounding;II)Z"⟩, 3) := ⟨⟨by decide +kernel, by decide +kernel⟩, List.mem_of_getElem? (i := 212) (by decide +kernel), List.mem_of_getElem? (i := 543) (by decide +kernel), List.mem_of_getElem? (i := 544) (by decide +kernel)⟩
theorem lw_p15 : lw_okq (⟨"FactOrigins", "atomOfModel", "(III)I"⟩, 17) := ⟨⟨by decide +kernel, by decide +kernel⟩, List.mem_of_getElem? (i := 18) (by decide +kernel), List.mem_of_getElem? (i := 578) (by decide +kernel), List.mem_of_getElem? (i := 579) (by decide +kernel)⟩
def lw_privs_1 : List (MethodName × Nat) := [(⟨"FactOrigins", "rulesChanged", "()V"⟩, 17), (⟨"FactOrigins", "factsChanged", "()V"⟩, 17), (⟨"FactOrigins$RuleText", "readRule", "(LFactOrigins$Program;)Z"⟩, 4), (⟨"FactOrigins$RuleText", "readAtom", "(LFactOrigins$Program;I)Z"⟩, 4), (⟨"FactOrigins$RuleText", "next", "()I"⟩, 4), (⟨"FactOrigins$RuleText", "take", "(I)Z"⟩, 4), (⟨"FactOrigins$RuleText", "takeTerm", "()I"⟩, 4), (⟨"FactOrigins$RuleText", "unboundVariable", "()I"⟩, 4), (⟨"FactOrigins", "hasModel", "()Z"⟩, 17), (⟨"FactOrigins$Grounding", "findStrata", "(LFactOrigins$Program;)V"⟩, 12), (⟨"FactOrigins$Grounding", "raiseHead", "(LFactOrigins$Rule;)Z"⟩, 12), (⟨"FactOrigins$Grounding", "fillInstances", "(LFactOrigins$Rule;II)I"⟩, 12), (⟨"FactOrigins$Grounding", "fillInstance", "(LFactOrigins$Rule;II)V"⟩, 12), (⟨"FactOrigins$Model", "buildStratum", "(LFactOrigins$Grounding;I)V"⟩, 3), (⟨"FactOrigins$Model", "takeHeads", "(LFactOrigins$Grounding;II)Z"⟩, 3), (⟨"FactOrigins", "atomOfModel", "(III)I"⟩, 17)]
theorem lw_r1 : ∀ q ∈ lw_privs_1, lw_okq q := List.forall_mem_cons.mpr ⟨lw_p0, List.forall_mem_cons.mpr ⟨lw_p1, List.forall_mem_cons.mpr ⟨lw_p2, List.forall_mem_cons.mpr ⟨lw_p3, List.forall_mem_cons.mpr ⟨lw_p4, List.forall_mem_cons.mpr ⟨lw_p5, List.forall_mem_cons.mpr ⟨lw_p6, List.forall_mem_cons.mpr ⟨lw_p7, List.forall_mem_cons.mpr ⟨lw_p8, List.forall_mem_cons.mpr ⟨lw_p9, List.forall_mem_cons.mpr ⟨lw_p10, List.forall_mem_cons.mpr ⟨lw_p11, List.forall_mem_cons.mpr ⟨lw_p12, List.forall_mem_cons.mpr ⟨lw_p13, List.forall_mem_cons.mpr ⟨lw_p14, List.forall_mem_cons.mpr ⟨lw_p15, fun _ h => absurd h List.not_mem_nil⟩⟩⟩⟩⟩⟩⟩⟩⟩⟩⟩⟩⟩⟩⟩⟩
theorem lw_p16 : lw_okq (⟨"FactOrigins", "computeCosts", "()V"⟩, 17) := ⟨⟨by decide +kernel, by decide +kernel⟩, List.mem_of_getElem? (i := 18) (by decide +kernel), List.mem_of_getElem? (i := 590) (by decide +kernel), List.mem_of_getElem? (i := 591) (by decide +kernel)⟩
theorem lw_p17 : lw_okq (⟨"FactOrigins$Costs", "startWithBaseFacts", "(LFactOrigins$Program;)V"⟩, 6) := ⟨⟨by decide +kernel, by decide +kernel⟩, List.mem_of_getElem? (i := 255) (by decide +kernel), List.mem_of_getElem? (i := 598) (by decide +kernel), List.mem_of_getElem? (i := 599) (by decide +kernel)⟩
theorem lw_p18 : lw_okq (⟨"FactOrigins$Costs", "lower", "(LFactOrigins$Grounding;LFactOrigins$Holding;)Z"⟩, 6) := ⟨⟨by decide +kernel, by decide +kernel⟩, List.mem_of_getElem? (i := 255) (by decide +kernel), List.mem_of_getElem? (i := 604) (by decide +kernel), List.mem_of_getElem? (i := 605) (by decide +kernel)⟩
theorem lw_p19 : lw_okq (⟨"FactOrigins$Costs", "costBy", "(LFactOrigins$Grounding;I)I"⟩, 6) := ⟨⟨by decide +kernel, by decide +kernel⟩, List.mem_of_getElem? (i := 255) (by decide +kernel), List.mem_of_getElem? (i := 608) (by decide +kernel), List.mem_of_getElem? (i := 609) (by decide +kernel)⟩
theorem lw_p20 : lw_okq (⟨"FactOrigins$Costs", "choose", "(LFactOrigins$Program;LFactOrigins$Grounding;LFactOrigins$Holding;)V"⟩, 6) := ⟨⟨by decide +kernel, by decide +kernel⟩, List.mem_of_getElem? (i := 255) (by decide +kernel), List.mem_of_getElem? (i := 615) (by decide +kernel), List.mem_of_getElem? (i := 616) (by decide +kernel)⟩
theorem lw_p21 : lw_okq (⟨"FactOrigins$Costs", "grow", "(LFactOrigins$Grounding;)Z"⟩, 6) := ⟨⟨by decide +kernel, by decide +kernel⟩, List.mem_of_getElem? (i := 255) (by decide +kernel), List.mem_of_getElem? (i := 619) (by decide +kernel), List.mem_of_getElem? (i := 620) (by decide +kernel)⟩
theorem lw_p22 : lw_okq (⟨"FactOrigins$Costs", "partsAreKnown", "(LFactOrigins$Grounding;I)Z"⟩, 6) := ⟨⟨by decide +kernel, by decide +kernel⟩, List.mem_of_getElem? (i := 255) (by decide +kernel), List.mem_of_getElem? (i := 623) (by decide +kernel), List.mem_of_getElem? (i := 624) (by decide +kernel)⟩
theorem lw_p23 : lw_okq (⟨"FactOrigins$Costs", "putTogether", "(LFactOrigins$Grounding;I)V"⟩, 6) := ⟨⟨by decide +kernel, by decide +kernel⟩, List.mem_of_getElem? (i := 255) (by decide +kernel), List.mem_of_getElem? (i := 627) (by decide +kernel), List.mem_of_getElem? (i := 628) (by decide +kernel)⟩
theorem lw_p24 : lw_okq (⟨"FactOrigins", "computeLikelihoods", "()V"⟩, 17) := ⟨⟨by decide +kernel, by decide +kernel⟩, List.mem_of_getElem? (i := 18) (by decide +kernel), List.mem_of_getElem? (i := 635) (by decide +kernel), List.mem_of_getElem? (i := 636) (by decide +kernel)⟩
theorem lw_p25 : lw_okq (⟨"FactOrigins$Likelihoods", "raise", "(IF)Z"⟩, 1) := ⟨⟨by decide +kernel, by decide +kernel⟩, List.mem_of_getElem? (i := 284) (by decide +kernel), List.mem_of_getElem? (i := 644) (by decide +kernel), List.mem_of_getElem? (i := 645) (by decide +kernel)⟩
theorem lw_p26 : lw_okq (⟨"FactOrigins$Likelihoods", "likelihoodBy", "(LFactOrigins$Grounding;I)F"⟩, 1) := ⟨⟨by decide +kernel, by decide +kernel⟩, List.mem_of_getElem? (i := 284) (by decide +kernel), List.mem_of_getElem? (i := 648) (by decide +kernel), List.mem_of_getElem? (i := 649) (by decide +kernel)⟩
theorem lw_p27 : lw_okq (⟨"FactOrigins", "leastOf", "(II)I"⟩, 17) := ⟨⟨by decide +kernel, by decide +kernel⟩, List.mem_of_getElem? (i := 18) (by decide +kernel), List.mem_of_getElem? (i := 660) (by decide +kernel), List.mem_of_getElem? (i := 661) (by decide +kernel)⟩
theorem lw_p28 : lw_okq (⟨"FactOrigins", "computeSurvivals", "()V"⟩, 17) := ⟨⟨by decide +kernel, by decide +kernel⟩, List.mem_of_getElem? (i := 18) (by decide +kernel), List.mem_of_getElem? (i := 669) (by decide +kernel), List.mem_of_getElem? (i := 670) (by decide +kernel)⟩
theorem lw_p29 : lw_okq (⟨"FactOrigins$Survivals", "enterBaseFact", "(II)V"⟩, 2) := ⟨⟨by decide +kernel, by decide +kernel⟩, List.mem_of_getElem? (i := 296) (by decide +kernel), List.mem_of_getElem? (i := 680) (by decide +kernel), List.mem_of_getElem? (i := 681) (by decide +kernel)⟩
theorem lw_p30 : lw_okq (⟨"FactOrigins$Survivals", "widen", "(LFactOrigins$Grounding;I)Z"⟩, 2) := ⟨⟨by decide +kernel, by decide +kernel⟩, List.mem_of_getElem? (i := 296) (by decide +kernel), List.mem_of_getElem? (i := 684) (by decide +kernel), List.mem_of_getElem? (i := 685) (by decide +kernel)⟩
theorem lw_p31 : lw_okq (⟨"FactOrigins$Survivals", "survives", "(II)Z"⟩, 2) := ⟨⟨by decide +kernel, by decide +kernel⟩, List.mem_of_getElem? (i := 296) (by decide +kernel), List.mem_of_getElem? (i := 693) (by decide +kernel), List.mem_of_getElem? (i := 694) (by decide +kernel)⟩
def lw_privs_2 : List (MethodName × Nat) := [(⟨"FactOrigins", "computeCosts", "()V"⟩, 17), (⟨"FactOrigins$Costs", "startWithBaseFacts", "(LFactOrigins$Program;)V"⟩, 6), (⟨"FactOrigins$Costs", "lower", "(LFactOrigins$Grounding;LFactOrigins$Holding;)Z"⟩, 6), (⟨"FactOrigins$Costs", "costBy", "(LFactOrigins$Grounding;I)I"⟩, 6), (⟨"FactOrigins$Costs", "choose", "(LFactOrigins$Program;LFactOrigins$Grounding;LFactOrigins$Holding;)V"⟩, 6), (⟨"FactOrigins$Costs", "grow", "(LFactOrigins$Grounding;)Z"⟩, 6), (⟨"FactOrigins$Costs", "partsAreKnown", "(LFactOrigins$Grounding;I)Z"⟩, 6), (⟨"FactOrigins$Costs", "putTogether", "(LFactOrigins$Grounding;I)V"⟩, 6), (⟨"FactOrigins", "computeLikelihoods", "()V"⟩, 17), (⟨"FactOrigins$Likelihoods", "raise", "(IF)Z"⟩, 1), (⟨"FactOrigins$Likelihoods", "likelihoodBy", "(LFactOrigins$Grounding;I)F"⟩, 1), (⟨"FactOrigins", "leastOf", "(II)I"⟩, 17), (⟨"FactOrigins", "computeSurvivals", "()V"⟩, 17), (⟨"FactOrigins$Survivals", "enterBaseFact", "(II)V"⟩, 2), (⟨"FactOrigins$Survivals", "widen", "(LFactOrigins$Grounding;I)Z"⟩, 2), (⟨"FactOrigins$Survivals", "survives", "(II)Z"⟩, 2)]
theorem lw_r2 : ∀ q ∈ lw_privs_2, lw_okq q := List.forall_mem_cons.mpr ⟨lw_p16, List.forall_mem_cons.mpr ⟨lw_p17, List.forall_mem_cons.mpr ⟨lw_p18, List.forall_mem_cons.mpr ⟨lw_p19, List.forall_mem_cons.mpr ⟨lw_p20, List.forall_mem_cons.mpr ⟨lw_p21, List.forall_mem_cons.mpr ⟨lw_p22, List.forall_mem_cons.mpr ⟨lw_p23, List.forall_mem_cons.mpr ⟨lw_p24, List.forall_mem_cons.mpr ⟨lw_p25, List.forall_mem_cons.mpr ⟨lw_p26, List.forall_mem_cons.mpr ⟨lw_p27, List.forall_mem_cons.mpr ⟨lw_p28, List.forall_mem_cons.mpr ⟨lw_p29, List.forall_mem_cons.mpr ⟨lw_p30, List.forall_mem_cons.mpr ⟨lw_p31, fun _ h => absurd h List.not_mem_nil⟩⟩⟩⟩⟩⟩⟩⟩⟩⟩⟩⟩⟩⟩⟩⟩
theorem lw_p32 : lw_okq (⟨"FactOrigins", "buildLesserModel", "(I)V"⟩, 17) := ⟨⟨by decide +kernel, by decide +kernel⟩, List.mem_of_getElem? (i := 18) (by decide +kernel), List.mem_of_getElem? (i := 709) (by decide +kernel), List.mem_of_getElem? (i := 710) (by decide +kernel)⟩
theorem lw_p33 : lw_okq (⟨"FactOrigins", "withAtom", "(JI)J"⟩, 17) := ⟨⟨by decide +kernel, by decide +kernel⟩, List.mem_of_getElem? (i := 18) (by decide +kernel), List.mem_of_getElem? (i := 739) (by decide +kernel), List.mem_of_getElem? (i := 740) (by decide +kernel)⟩
theorem lw_p34 : lw_okq (⟨"FactOriginsModel", "anew", "(I)V"⟩, 28) := ⟨⟨by decide +kernel, by decide +kernel⟩, List.mem_of_getElem? (i := 743) (by decide +kernel), List.mem_of_getElem? (i := 749) (by decide +kernel), List.mem_of_getElem? (i := 750) (by decide +kernel)⟩
theorem lw_p35 : lw_okq (⟨"FactOriginsModel", "isUsed", "(I)Z"⟩, 28) := ⟨⟨by decide +kernel, by decide +kernel⟩, List.mem_of_getElem? (i := 743) (by decide +kernel), List.mem_of_getElem? (i := 849) (by decide +kernel), List.mem_of_getElem? (i := 850) (by decide +kernel)⟩
theorem lw_p36 : lw_okq (⟨"FactOriginsModel", "isFact", "(III)Z"⟩, 28) := ⟨⟨by decide +kernel, by decide +kernel⟩, List.mem_of_getElem? (i := 743) (by decide +kernel), List.mem_of_getElem? (i := 860) (by decide +kernel), List.mem_of_getElem? (i := 861) (by decide +kernel)⟩
theorem lw_p37 : lw_okq (⟨"FactOriginsModel", "isConstant", "(I)Z"⟩, 28) := ⟨⟨by decide +kernel, by decide +kernel⟩, List.mem_of_getElem? (i := 743) (by decide +kernel), List.mem_of_getElem? (i := 864) (by decide +kernel), List.mem_of_getElem? (i := 865) (by decide +kernel)⟩
theorem lw_p38 : lw_okq (⟨"FactOriginsModel", "isText", "()Z"⟩, 28) := ⟨⟨by decide +kernel, by decide +kernel⟩, List.mem_of_getElem? (i := 743) (by decide +kernel), List.mem_of_getElem? (i := 899) (by decide +kernel), List.mem_of_getElem? (i := 900) (by decide +kernel)⟩
theorem lw_p39 : lw_okq (⟨"FactOriginsModel", "isForm", "()Z"⟩, 28) := ⟨⟨by decide +kernel, by decide +kernel⟩, List.mem_of_getElem? (i := 743) (by decide +kernel), List.mem_of_getElem? (i := 903) (by decide +kernel), List.mem_of_getElem? (i := 904) (by decide +kernel)⟩
theorem lw_p40 : lw_okq (⟨"FactOriginsModel", "isAtom", "(I)Z"⟩, 28) := ⟨⟨by decide +kernel, by decide +kernel⟩, List.mem_of_getElem? (i := 743) (by decide +kernel), List.mem_of_getElem? (i := 907) (by decide +kernel), List.mem_of_getElem? (i := 908) (by decide +kernel)⟩
theorem lw_p41 : lw_okq (⟨"FactOriginsModel", "here", "()I"⟩, 28) := ⟨⟨by decide +kernel, by decide +kernel⟩, List.mem_of_getElem? (i := 743) (by decide +kernel), List.mem_of_getElem? (i := 911) (by decide +kernel), List.mem_of_getElem? (i := 912) (by decide +kernel)⟩
theorem lw_p42 : lw_okq (⟨"FactOriginsModel", "takes", "(I)Z"⟩, 28) := ⟨⟨by decide +kernel, by decide +kernel⟩, List.mem_of_getElem? (i := 743) (by decide +kernel), List.mem_of_getElem? (i := 915) (by decide +kernel), List.mem_of_getElem? (i := 916) (by decide +kernel)⟩
theorem lw_p43 : lw_okq (⟨"FactOriginsModel", "isTerm", "(I)Z"⟩, 28) := ⟨⟨by decide +kernel, by decide +kernel⟩, List.mem_of_getElem? (i := 743) (by decide +kernel), List.mem_of_getElem? (i := 919) (by decide +kernel), List.mem_of_getElem? (i := 920) (by decide +kernel)⟩
theorem lw_p44 : lw_okq (⟨"FactOriginsModel", "loose", "()I"⟩, 28) := ⟨⟨by decide +kernel, by decide +kernel⟩, List.mem_of_getElem? (i := 743) (by decide +kernel), List.mem_of_getElem? (i := 923) (by decide +kernel), List.mem_of_getElem? (i := 924) (by decide +kernel)⟩
theorem lw_p45 : lw_okq (⟨"FactOriginsModel", "finds", "()Z"⟩, 28) := ⟨⟨by decide +kernel, by decide +kernel⟩, List.mem_of_getElem? (i := 743) (by decide +kernel), List.mem_of_getElem? (i := 935) (by decide +kernel), List.mem_of_getElem? (i := 936) (by decide +kernel)⟩
theorem lw_p46 : lw_okq (⟨"FactOriginsModel", "findStrata", "()Z"⟩, 28) := ⟨⟨by decide +kernel, by decide +kernel⟩, List.mem_of_getElem? (i := 743) (by decide +kernel), List.mem_of_getElem? (i := 939) (by decide +kernel), List.mem_of_getElem? (i := 940) (by decide +kernel)⟩
theorem lw_p47 : lw_okq (⟨"FactOriginsModel", "builds", "(I[I)V"⟩, 28) := ⟨⟨by decide +kernel, by decide +kernel⟩, List.mem_of_getElem? (i := 743) (by decide +kernel), List.mem_of_getElem? (i := 943) (by decide +kernel), List.mem_of_getElem? (i := 944) (by decide +kernel)⟩
def lw_privs_3 : List (MethodName × Nat) := [(⟨"FactOrigins", "buildLesserModel", "(I)V"⟩, 17), (⟨"FactOrigins", "withAtom", "(JI)J"⟩, 17), (⟨"FactOriginsModel", "anew", "(I)V"⟩, 28), (⟨"FactOriginsModel", "isUsed", "(I)Z"⟩, 28), (⟨"FactOriginsModel", "isFact", "(III)Z"⟩, 28), (⟨"FactOriginsModel", "isConstant", "(I)Z"⟩, 28), (⟨"FactOriginsModel", "isText", "()Z"⟩, 28), (⟨"FactOriginsModel", "isForm", "()Z"⟩, 28), (⟨"FactOriginsModel", "isAtom", "(I)Z"⟩, 28), (⟨"FactOriginsModel", "here", "()I"⟩, 28), (⟨"FactOriginsModel", "takes", "(I)Z"⟩, 28), (⟨"FactOriginsModel", "isTerm", "(I)Z"⟩, 28), (⟨"FactOriginsModel", "loose", "()I"⟩, 28), (⟨"FactOriginsModel", "finds", "()Z"⟩, 28), (⟨"FactOriginsModel", "findStrata", "()Z"⟩, 28), (⟨"FactOriginsModel", "builds", "(I[I)V"⟩, 28)]
theorem lw_r3 : ∀ q ∈ lw_privs_3, lw_okq q := List.forall_mem_cons.mpr ⟨lw_p32, List.forall_mem_cons.mpr ⟨lw_p33, List.forall_mem_cons.mpr ⟨lw_p34, List.forall_mem_cons.mpr ⟨lw_p35, List.forall_mem_cons.mpr ⟨lw_p36, List.forall_mem_cons.mpr ⟨lw_p37, List.forall_mem_cons.mpr ⟨lw_p38, List.forall_mem_cons.mpr ⟨lw_p39, List.forall_mem_cons.mpr ⟨lw_p40, List.forall_mem_cons.mpr ⟨lw_p41, List.forall_mem_cons.mpr ⟨lw_p42, List.forall_mem_cons.mpr ⟨lw_p43, List.forall_mem_cons.mpr ⟨lw_p44, List.forall_mem_cons.mpr ⟨lw_p45, List.forall_mem_cons.mpr ⟨lw_p46, List.forall_mem_cons.mpr ⟨lw_p47, fun _ h => absurd h List.not_mem_nil⟩⟩⟩⟩⟩⟩⟩⟩⟩⟩⟩⟩⟩⟩⟩⟩
theorem lw_p48 : lw_okq (⟨"FactOriginsModel", "goes", "(I[I)I"⟩, 28) := ⟨⟨by decide +kernel, by decide +kernel⟩, List.mem_of_getElem? (i := 743) (by decide +kernel), List.mem_of_getElem? (i := 947) (by decide +kernel), List.mem_of_getElem? (i := 948) (by decide +kernel)⟩
theorem lw_p49 : lw_okq (⟨"FactOriginsModel", "isBinding", "(II)Z"⟩, 28) := ⟨⟨by decide +kernel, by decide +kernel⟩, List.mem_of_getElem? (i := 743) (by decide +kernel), List.mem_of_getElem? (i := 951) (by decide +kernel), List.mem_of_getElem? (i := 952) (by decide +kernel)⟩
theorem lw_p50 : lw_okq (⟨"FactOriginsModel", "holds", "(I[I)Z"⟩, 28) := ⟨⟨by decide +kernel, by decide +kernel⟩, List.mem_of_getElem? (i := 743) (by decide +kernel), List.mem_of_getElem? (i := 955) (by decide +kernel), List.mem_of_getElem? (i := 956) (by decide +kernel)⟩
theorem lw_p51 : lw_okq (⟨"FactOriginsModel", "factAt", "(II)I"⟩, 28) := ⟨⟨by decide +kernel, by decide +kernel⟩, List.mem_of_getElem? (i := 743) (by decide +kernel), List.mem_of_getElem? (i := 959) (by decide +kernel), List.mem_of_getElem? (i := 960) (by decide +kernel)⟩
theorem lw_p52 : lw_okq (⟨"FactOriginsModel", "termOf", "(I)I"⟩, 28) := ⟨⟨by decide +kernel, by decide +kernel⟩, List.mem_of_getElem? (i := 743) (by decide +kernel), List.mem_of_getElem? (i := 963) (by decide +kernel), List.mem_of_getElem? (i := 964) (by decide +kernel)⟩
theorem lw_p53 : lw_okq (⟨"FactOriginsModel", "findHolding", "()V"⟩, 28) := ⟨⟨by decide +kernel, by decide +kernel⟩, List.mem_of_getElem? (i := 743) (by decide +kernel), List.mem_of_getElem? (i := 967) (by decide +kernel), List.mem_of_getElem? (i := 968) (by decide +kernel)⟩
theorem lw_p54 : lw_okq (⟨"FactOriginsModel", "findCosts", "()V"⟩, 28) := ⟨⟨by decide +kernel, by decide +kernel⟩, List.mem_of_getElem? (i := 743) (by decide +kernel), List.mem_of_getElem? (i := 971) (by decide +kernel), List.mem_of_getElem? (i := 972) (by decide +kernel)⟩
theorem lw_p55 : lw_okq (⟨"FactOriginsModel", "costBy", "(I)I"⟩, 28) := ⟨⟨by decide +kernel, by decide +kernel⟩, List.mem_of_getElem? (i := 743) (by decide +kernel), List.mem_of_getElem? (i := 976) (by decide +kernel), List.mem_of_getElem? (i := 977) (by decide +kernel)⟩
theorem lw_p56 : lw_okq (⟨"FactOriginsModel", "findLikelihoods", "()V"⟩, 28) := ⟨⟨by decide +kernel, by decide +kernel⟩, List.mem_of_getElem? (i := 743) (by decide +kernel), List.mem_of_getElem? (i := 980) (by decide +kernel), List.mem_of_getElem? (i := 981) (by decide +kernel)⟩
theorem lw_p57 : lw_okq (⟨"FactOriginsModel", "likelyBy", "(I)F"⟩, 28) := ⟨⟨by decide +kernel, by decide +kernel⟩, List.mem_of_getElem? (i := 743) (by decide +kernel), List.mem_of_getElem? (i := 986) (by decide +kernel), List.mem_of_getElem? (i := 987) (by decide +kernel)⟩
theorem lw_p58 : lw_okq (⟨"FactOriginsModel", "findLeast", "()V"⟩, 28) := ⟨⟨by decide +kernel, by decide +kernel⟩, List.mem_of_getElem? (i := 743) (by decide +kernel), List.mem_of_getElem? (i := 990) (by decide +kernel), List.mem_of_getElem? (i := 991) (by decide +kernel)⟩
theorem lw_p59 : lw_okq (⟨"FactOriginsModel", "areSized", "(I)Z"⟩, 28) := ⟨⟨by decide +kernel, by decide +kernel⟩, List.mem_of_getElem? (i := 743) (by decide +kernel), List.mem_of_getElem? (i := 994) (by decide +kernel), List.mem_of_getElem? (i := 995) (by decide +kernel)⟩
theorem lw_p60 : lw_okq (⟨"FactOriginsModel", "sizes", "(II)V"⟩, 28) := ⟨⟨by decide +kernel, by decide +kernel⟩, List.mem_of_getElem? (i := 743) (by decide +kernel), List.mem_of_getElem? (i := 998) (by decide +kernel), List.mem_of_getElem? (i := 999) (by decide +kernel)⟩
theorem lw_p61 : lw_okq (⟨"FactOriginsModel", "wrong", "(III)I"⟩, 28) := ⟨⟨by decide +kernel, by decide +kernel⟩, List.mem_of_getElem? (i := 743) (by decide +kernel), List.mem_of_getElem? (i := 1021) (by decide +kernel), List.mem_of_getElem? (i := 1022) (by decide +kernel)⟩
theorem lw_p62 : lw_okq (⟨"FactOriginsModel", "instancesOf", "(I)I"⟩, 28) := ⟨⟨by decide +kernel, by decide +kernel⟩, List.mem_of_getElem? (i := 743) (by decide +kernel), List.mem_of_getElem? (i := 1029) (by decide +kernel), List.mem_of_getElem? (i := 1030) (by decide +kernel)⟩
theorem lw_p63 : lw_okq (⟨"FactOriginsModel", "leastNow", "(II)I"⟩, 28) := ⟨⟨by decide +kernel, by decide +kernel⟩, List.mem_of_getElem? (i := 743) (by decide +kernel), List.mem_of_getElem? (i := 1055) (by decide +kernel), List.mem_of_getElem? (i := 1056) (by decide +kernel)⟩
def lw_privs_4 : List (MethodName × Nat) := [(⟨"FactOriginsModel", "goes", "(I[I)I"⟩, 28), (⟨"FactOriginsModel", "isBinding", "(II)Z"⟩, 28), (⟨"FactOriginsModel", "holds", "(I[I)Z"⟩, 28), (⟨"FactOriginsModel", "factAt", "(II)I"⟩, 28), (⟨"FactOriginsModel", "termOf", "(I)I"⟩, 28), (⟨"FactOriginsModel", "findHolding", "()V"⟩, 28), (⟨"FactOriginsModel", "findCosts", "()V"⟩, 28), (⟨"FactOriginsModel", "costBy", "(I)I"⟩, 28), (⟨"FactOriginsModel", "findLikelihoods", "()V"⟩, 28), (⟨"FactOriginsModel", "likelyBy", "(I)F"⟩, 28), (⟨"FactOriginsModel", "findLeast", "()V"⟩, 28), (⟨"FactOriginsModel", "areSized", "(I)Z"⟩, 28), (⟨"FactOriginsModel", "sizes", "(II)V"⟩, 28), (⟨"FactOriginsModel", "wrong", "(III)I"⟩, 28), (⟨"FactOriginsModel", "instancesOf", "(I)I"⟩, 28), (⟨"FactOriginsModel", "leastNow", "(II)I"⟩, 28)]
theorem lw_r4 : ∀ q ∈ lw_privs_4, lw_okq q := List.forall_mem_cons.mpr ⟨lw_p48, List.forall_mem_cons.mpr ⟨lw_p49, List.forall_mem_cons.mpr ⟨lw_p50, List.forall_mem_cons.mpr ⟨lw_p51, List.forall_mem_cons.mpr ⟨lw_p52, List.forall_mem_cons.mpr ⟨lw_p53, List.forall_mem_cons.mpr ⟨lw_p54, List.forall_mem_cons.mpr ⟨lw_p55, List.forall_mem_cons.mpr ⟨lw_p56, List.forall_mem_cons.mpr ⟨lw_p57, List.forall_mem_cons.mpr ⟨lw_p58, List.forall_mem_cons.mpr ⟨lw_p59, List.forall_mem_cons.mpr ⟨lw_p60, List.forall_mem_cons.mpr ⟨lw_p61, List.forall_mem_cons.mpr ⟨lw_p62, List.forall_mem_cons.mpr ⟨lw_p63, fun _ h => absurd h List.not_mem_nil⟩⟩⟩⟩⟩⟩⟩⟩⟩⟩⟩⟩⟩⟩⟩⟩
theorem lw_p64 : lw_okq (⟨"FactOriginsModel", "canDo", "(II)Z"⟩, 28) := ⟨⟨by decide +kernel, by decide +kernel⟩, List.mem_of_getElem? (i := 743) (by decide +kernel), List.mem_of_getElem? (i := 1063) (by decide +kernel), List.mem_of_getElem? (i := 1064) (by decide +kernel)⟩
theorem lw_p65 : lw_okq (⟨"FactOriginsModel", "areDerived", "(I)Z"⟩, 28) := ⟨⟨by decide +kernel, by decide +kernel⟩, List.mem_of_getElem? (i := 743) (by decide +kernel), List.mem_of_getElem? (i := 1067) (by decide +kernel), List.mem_of_getElem? (i := 1068) (by decide +kernel)⟩
theorem lw_p66 : lw_okq (⟨"FactOriginsModel", "cutOf", "(I)I"⟩, 28) := ⟨⟨by decide +kernel, by decide +kernel⟩, List.mem_of_getElem? (i := 743) (by decide +kernel), List.mem_of_getElem? (i := 1075) (by decide +kernel), List.mem_of_getElem? (i := 1076) (by decide +kernel)⟩
def lw_privs_5 : List (MethodName × Nat) := [(⟨"FactOriginsModel", "canDo", "(II)Z"⟩, 28), (⟨"FactOriginsModel", "areDerived", "(I)Z"⟩, 28), (⟨"FactOriginsModel", "cutOf", "(I)I"⟩, 28)]
theorem lw_r5 : ∀ q ∈ lw_privs_5, lw_okq q := List.forall_mem_cons.mpr ⟨lw_p64, List.forall_mem_cons.mpr ⟨lw_p65, List.forall_mem_cons.mpr ⟨lw_p66, fun _ h => absurd h List.not_mem_nil⟩⟩⟩
def lw_privs : List (MethodName × Nat) := lw_privs_1 ++ (lw_privs_2 ++ (lw_privs_3 ++ (lw_privs_4 ++ (lw_privs_5))))
def lw_tbl : List Cond := k2_sels lw_privs ++ tables_1
theorem lw_privs_ok : ∀ q ∈ lw_privs, lw_okq q := by
  show ∀ q ∈ lw_privs_1 ++ (lw_privs_2 ++ (lw_privs_3 ++ (lw_privs_4 ++ (lw_privs_5)))), lw_okq q
  exact List.forall_mem_append.mpr ⟨lw_r1, List.forall_mem_append.mpr ⟨lw_r2, List.forall_mem_append.mpr ⟨lw_r3, List.forall_mem_append.mpr ⟨lw_r4, lw_r5⟩⟩⟩⟩
/-- the streams that the claim lets the run draw from -/
abbrev lw_cs : List Choice := [Jvm.Choice.named "NaN.bits"]
theorem lw_bits : nanBits ∈ lw_cs := by first | decide | exact List.mem_cons_self | simp [lw_cs, nanBits]
def RX0 : String := "FactOrigins$Costs"
def TX0 : u_T := fun k => match k with
  | 0 => ("FactOrigins$Costs", "costOf", "[I", true)
  | 1 => ("FactOrigins$Costs", "ruleOf", "[I", true)
  | 2 => ("FactOrigins$Costs", "nodesOf", "[I", true)
  | 3 => ("FactOrigins$Costs", "basesOf", "[I", true)
  | 4 => ("FactOrigins$Costs", "base", "[I", true)
  | _ => ("FactOrigins$Costs", "chosen", "[I", true)
def tyX0 : Nat → FieldType := fun k => match k with
  | 0 => .array .int
  | 1 => .array .int
  | 2 => .array .int
  | 3 => .array .int
  | 4 => .array .int
  | _ => .array .int
abbrev wsX00 : List Cond := u_ws RX0 TX0 6
theorem nmX0 : ∀ a, a < 6 → ∀ b, b < 6 → a ≠ b → (TX0 a).2.1 ≠ (TX0 b).2.1 := by decide +kernel
theorem tyX0_ok : ∀ k, k < 6 → parseFieldDescriptor (TX0 k).2.2.1 = some (tyX0 k) := by decide +kernel
abbrev cX0_init : ByteArray := prog_2_method_1_code
def yX0_init : MethodName := ⟨RX0, "<init>", "()V"⟩
abbrev cX0_compute : ByteArray := prog_2_method_2_code
def yX0_compute : MethodName := ⟨RX0, "compute", "(LFactOrigins$Program;LFactOrigins$Grounding;LFactOrigins$Holding;)V"⟩
abbrev cX0_startWithBaseFacts : ByteArray := prog_2_method_3_code
def yX0_startWithBaseFacts : MethodName := ⟨RX0, "startWithBaseFacts", "(LFactOrigins$Program;)V"⟩
abbrev cX0_lower : ByteArray := prog_2_method_4_code
def yX0_lower : MethodName := ⟨RX0, "lower", "(LFactOrigins$Grounding;LFactOrigins$Holding;)Z"⟩
abbrev cX0_costBy : ByteArray := prog_2_method_5_code
def yX0_costBy : MethodName := ⟨RX0, "costBy", "(LFactOrigins$Grounding;I)I"⟩
abbrev cX0_choose : ByteArray := prog_2_method_6_code
def yX0_choose : MethodName := ⟨RX0, "choose", "(LFactOrigins$Program;LFactOrigins$Grounding;LFactOrigins$Holding;)V"⟩
abbrev cX0_grow : ByteArray := prog_2_method_7_code
def yX0_grow : MethodName := ⟨RX0, "grow", "(LFactOrigins$Grounding;)Z"⟩
abbrev cX0_partsAreKnown : ByteArray := prog_2_method_8_code
def yX0_partsAreKnown : MethodName := ⟨RX0, "partsAreKnown", "(LFactOrigins$Grounding;I)Z"⟩
abbrev cX0_putTogether : ByteArray := prog_2_method_9_code
def yX0_putTogether : MethodName := ⟨RX0, "putTogether", "(LFactOrigins$Grounding;I)V"⟩
def RX1 : String := "FactOrigins$Grounding"
def TX1 : u_T := fun k => match k with
  | 0 => ("FactOrigins$Grounding", "stratumOf", "[I", true)
  | 1 => ("FactOrigins$Grounding", "stratified", "Z", false)
  | 2 => ("FactOrigins$Grounding", "ruleCount", "I", false)
  | 3 => ("FactOrigins$Grounding", "headStratum", "[I", true)
  | 4 => ("FactOrigins$Grounding", "price", "[I", true)
  | 5 => ("FactOrigins$Grounding", "plainCount", "[I", true)
  | 6 => ("FactOrigins$Grounding", "literalCount", "[I", true)
  | 7 => ("FactOrigins$Grounding", "start", "[I", true)
  | 8 => ("FactOrigins$Grounding", "ruleOf", "[I", true)
  | 9 => ("FactOrigins$Grounding", "head", "[I", true)
  | 10 => ("FactOrigins$Grounding", "body", "[I", true)
  | _ => ("FactOrigins$Grounding", "meaning", "[I", true)
def tyX1 : Nat → FieldType := fun k => match k with
  | 0 => .array .int
  | 1 => .boolean
  | 2 => .int
  | 3 => .array .int
  | 4 => .array .int
  | 5 => .array .int
  | 6 => .array .int
  | 7 => .array .int
  | 8 => .array .int
  | 9 => .array .int
  | 10 => .array .int
  | _ => .array .int
abbrev wsX10 : List Cond := u_ws RX1 TX1 12
theorem nmX1 : ∀ a, a < 12 → ∀ b, b < 12 → a ≠ b → (TX1 a).2.1 ≠ (TX1 b).2.1 := by decide +kernel
theorem tyX1_ok : ∀ k, k < 12 → parseFieldDescriptor (TX1 k).2.2.1 = some (tyX1 k) := by decide +kernel
abbrev cX1_init : ByteArray := prog_3_method_1_code
def yX1_init : MethodName := ⟨RX1, "<init>", "()V"⟩
abbrev cX1_fill : ByteArray := prog_3_method_2_code
def yX1_fill : MethodName := ⟨RX1, "fill", "(LFactOrigins$Program;)V"⟩
abbrev cX1_findStrata : ByteArray := prog_3_method_3_code
def yX1_findStrata : MethodName := ⟨RX1, "findStrata", "(LFactOrigins$Program;)V"⟩
abbrev cX1_raiseHead : ByteArray := prog_3_method_4_code
def yX1_raiseHead : MethodName := ⟨RX1, "raiseHead", "(LFactOrigins$Rule;)Z"⟩
abbrev cX1_fillInstances : ByteArray := prog_3_method_5_code
def yX1_fillInstances : MethodName := ⟨RX1, "fillInstances", "(LFactOrigins$Rule;II)I"⟩
abbrev cX1_fillInstance : ByteArray := prog_3_method_6_code
def yX1_fillInstance : MethodName := ⟨RX1, "fillInstance", "(LFactOrigins$Rule;II)V"⟩
def RX2 : String := "FactOrigins$Holding"
def TX2 : u_T := fun k => match k with
  | 0 => ("FactOrigins$Holding", "instance", "[I", true)
  | 1 => ("FactOrigins$Holding", "total", "I", false)
  | _ => ("FactOrigins$Holding", "ofHead", "[I", true)
def tyX2 : Nat → FieldType := fun k => match k with
  | 0 => .array .int
  | 1 => .int
  | _ => .array .int
abbrev wsX20 : List Cond := u_ws RX2 TX2 3
theorem nmX2 : ∀ a, a < 3 → ∀ b, b < 3 → a ≠ b → (TX2 a).2.1 ≠ (TX2 b).2.1 := by decide +kernel
theorem tyX2_ok : ∀ k, k < 3 → parseFieldDescriptor (TX2 k).2.2.1 = some (tyX2 k) := by decide +kernel
abbrev cX2_init : ByteArray := prog_4_method_1_code
def yX2_init : MethodName := ⟨RX2, "<init>", "()V"⟩
abbrev cX2_collect : ByteArray := prog_4_method_2_code
def yX2_collect : MethodName := ⟨RX2, "collect", "(LFactOrigins$Grounding;LFactOrigins$Model;)V"⟩
def RX3 : String := "FactOrigins$Likelihoods"
def TX3 : u_T := fun k => match k with
  | _ => ("FactOrigins$Likelihoods", "likelihoodOf", "[F", true)
def tyX3 : Nat → FieldType := fun k => match k with
  | _ => .array .float
abbrev wsX30 : List Cond := u_ws RX3 TX3 1
theorem nmX3 : ∀ a, a < 1 → ∀ b, b < 1 → a ≠ b → (TX3 a).2.1 ≠ (TX3 b).2.1 := by decide +kernel
theorem tyX3_ok : ∀ k, k < 1 → parseFieldDescriptor (TX3 k).2.2.1 = some (tyX3 k) := by decide +kernel
abbrev cX3_init : ByteArray := prog_5_method_1_code
def yX3_init : MethodName := ⟨RX3, "<init>", "()V"⟩
abbrev cX3_compute : ByteArray := prog_5_method_2_code
def yX3_compute : MethodName := ⟨RX3, "compute", "(LFactOrigins$Program;LFactOrigins$Grounding;LFactOrigins$Holding;)V"⟩
abbrev cX3_raise : ByteArray := prog_5_method_3_code
def yX3_raise : MethodName := ⟨RX3, "raise", "(IF)Z"⟩
abbrev cX3_likelihoodBy : ByteArray := prog_5_method_4_code
def yX3_likelihoodBy : MethodName := ⟨RX3, "likelihoodBy", "(LFactOrigins$Grounding;I)F"⟩
def RX4 : String := "FactOrigins$Model"
def TX4 : u_T := fun k => match k with
  | 0 => ("FactOrigins$Model", "roundOf", "[I", true)
  | 1 => ("FactOrigins$Model", "lastRound", "I", false)
  | _ => ("FactOrigins$Model", "atoms", "I", false)
def tyX4 : Nat → FieldType := fun k => match k with
  | 0 => .array .int
  | 1 => .int
  | _ => .int
abbrev wsX40 : List Cond := u_ws RX4 TX4 3
theorem nmX4 : ∀ a, a < 3 → ∀ b, b < 3 → a ≠ b → (TX4 a).2.1 ≠ (TX4 b).2.1 := by decide +kernel
theorem tyX4_ok : ∀ k, k < 3 → parseFieldDescriptor (TX4 k).2.2.1 = some (tyX4 k) := by decide +kernel
abbrev cX4_init : ByteArray := prog_6_method_1_code
def yX4_init : MethodName := ⟨RX4, "<init>", "()V"⟩
abbrev cX4_build : ByteArray := prog_6_method_2_code
def yX4_build : MethodName := ⟨RX4, "build", "(LFactOrigins$Program;LFactOrigins$Grounding;I)V"⟩
abbrev cX4_atomsOf : ByteArray := prog_6_method_3_code
def yX4_atomsOf : MethodName := ⟨RX4, "atomsOf", "(I)I"⟩
abbrev cX4_buildStratum : ByteArray := prog_6_method_4_code
def yX4_buildStratum : MethodName := ⟨RX4, "buildStratum", "(LFactOrigins$Grounding;I)V"⟩
abbrev cX4_takeHeads : ByteArray := prog_6_method_5_code
def yX4_takeHeads : MethodName := ⟨RX4, "takeHeads", "(LFactOrigins$Grounding;II)Z"⟩
abbrev cX4_holdsBefore : ByteArray := prog_6_method_6_code
def yX4_holdsBefore : MethodName := ⟨RX4, "holdsBefore", "(LFactOrigins$Grounding;II)Z"⟩
def RX5 : String := "FactOrigins$Program"
def TX5 : u_T := fun k => match k with
  | 0 => ("FactOrigins$Program", "constants", "I", false)
  | 1 => ("FactOrigins$Program", "places", "[I", true)
  | 2 => ("FactOrigins$Program", "factCount", "I", false)
  | 3 => ("FactOrigins$Program", "factAtom", "[I", true)
  | 4 => ("FactOrigins$Program", "factCost", "[I", true)
  | 5 => ("FactOrigins$Program", "factSixteenths", "[I", true)
  | 6 => ("FactOrigins$Program", "ruleCount", "I", false)
  | _ => ("FactOrigins$Program", "ruleList", "[LFactOrigins$Rule;", true)
def tyX5 : Nat → FieldType := fun k => match k with
  | 0 => .int
  | 1 => .array .int
  | 2 => .int
  | 3 => .array .int
  | 4 => .array .int
  | 5 => .array .int
  | 6 => .int
  | _ => .array (.object "FactOrigins$Rule")
abbrev wsX50 : List Cond := u_ws RX5 TX5 8
theorem nmX5 : ∀ a, a < 8 → ∀ b, b < 8 → a ≠ b → (TX5 a).2.1 ≠ (TX5 b).2.1 := by decide +kernel
theorem tyX5_ok : ∀ k, k < 8 → parseFieldDescriptor (TX5 k).2.2.1 = some (tyX5 k) := by decide +kernel
abbrev cX5_init : ByteArray := prog_7_method_1_code
def yX5_init : MethodName := ⟨RX5, "<init>", "()V"⟩
abbrev cX5_clear : ByteArray := prog_7_method_2_code
def yX5_clear : MethodName := ⟨RX5, "clear", "(I)V"⟩
abbrev cX5_become : ByteArray := prog_7_method_3_code
def yX5_become : MethodName := ⟨RX5, "become", "(LFactOrigins$Program;)V"⟩
abbrev cX5_hasAtom : ByteArray := prog_7_method_4_code
def yX5_hasAtom : MethodName := ⟨RX5, "hasAtom", "(III)Z"⟩
abbrev cX5_uses : ByteArray := prog_7_method_5_code
def yX5_uses : MethodName := ⟨RX5, "uses", "(I)Z"⟩
abbrev cX5_enterFact : ByteArray := prog_7_method_6_code
def yX5_enterFact : MethodName := ⟨RX5, "enterFact", "(III)I"⟩
abbrev cX5_dropFact : ByteArray := prog_7_method_7_code
def yX5_dropFact : MethodName := ⟨RX5, "dropFact", "(I)V"⟩
abbrev cX5_enterRule : ByteArray := prog_7_method_8_code
def yX5_enterRule : MethodName := ⟨RX5, "enterRule", "(LFactOrigins$Rule;I)I"⟩
abbrev cX5_dropRule : ByteArray := prog_7_method_9_code
def yX5_dropRule : MethodName := ⟨RX5, "dropRule", "(I)V"⟩
def RX6 : String := "FactOrigins$Rule"
def TX6 : u_T := fun k => match k with
  | 0 => ("FactOrigins$Rule", "predicate", "[I", true)
  | 1 => ("FactOrigins$Rule", "first", "[I", true)
  | 2 => ("FactOrigins$Rule", "second", "[I", true)
  | 3 => ("FactOrigins$Rule", "negated", "[Z", true)
  | 4 => ("FactOrigins$Rule", "literals", "I", false)
  | _ => ("FactOrigins$Rule", "price", "I", false)
def tyX6 : Nat → FieldType := fun k => match k with
  | 0 => .array .int
  | 1 => .array .int
  | 2 => .array .int
  | 3 => .array .boolean
  | 4 => .int
  | _ => .int
abbrev wsX60 : List Cond := u_ws RX6 TX6 6
theorem nmX6 : ∀ a, a < 6 → ∀ b, b < 6 → a ≠ b → (TX6 a).2.1 ≠ (TX6 b).2.1 := by decide +kernel
theorem tyX6_ok : ∀ k, k < 6 → parseFieldDescriptor (TX6 k).2.2.1 = some (tyX6 k) := by decide +kernel
abbrev cX6_init : ByteArray := prog_8_method_1_code
def yX6_init : MethodName := ⟨RX6, "<init>", "()V"⟩
abbrev cX6_become : ByteArray := prog_8_method_2_code
def yX6_become : MethodName := ⟨RX6, "become", "(LFactOrigins$Rule;)V"⟩
abbrev cX6_mentions : ByteArray := prog_8_method_3_code
def yX6_mentions : MethodName := ⟨RX6, "mentions", "(I)Z"⟩
abbrev cX6_hasVariable : ByteArray := prog_8_method_4_code
def yX6_hasVariable : MethodName := ⟨RX6, "hasVariable", "(I)Z"⟩
def RX7 : String := "FactOrigins$RuleText"
def TX7 : u_T := fun k => match k with
  | 0 => ("FactOrigins$RuleText", "letters", "[I", true)
  | 1 => ("FactOrigins$RuleText", "length", "I", false)
  | 2 => ("FactOrigins$RuleText", "rule", "LFactOrigins$Rule;", true)
  | _ => ("FactOrigins$RuleText", "at", "I", false)
def tyX7 : Nat → FieldType := fun k => match k with
  | 0 => .array .int
  | 1 => .int
  | 2 => .object "FactOrigins$Rule"
  | _ => .int
abbrev wsX70 : List Cond := u_ws RX7 TX7 4
theorem nmX7 : ∀ a, a < 4 → ∀ b, b < 4 → a ≠ b → (TX7 a).2.1 ≠ (TX7 b).2.1 := by decide +kernel
theorem tyX7_ok : ∀ k, k < 4 → parseFieldDescriptor (TX7 k).2.2.1 = some (tyX7 k) := by decide +kernel
abbrev cX7_init : ByteArray := prog_9_method_1_code
def yX7_init : MethodName := ⟨RX7, "<init>", "()V"⟩
abbrev cX7_put : ByteArray := prog_9_method_2_code
def yX7_put : MethodName := ⟨RX7, "put", "(I)V"⟩
abbrev cX7_findFault : ByteArray := prog_9_method_3_code
def yX7_findFault : MethodName := ⟨RX7, "findFault", "(LFactOrigins$Program;)I"⟩
abbrev cX7_readRule : ByteArray := prog_9_method_4_code
def yX7_readRule : MethodName := ⟨RX7, "readRule", "(LFactOrigins$Program;)Z"⟩
abbrev cX7_readAtom : ByteArray := prog_9_method_5_code
def yX7_readAtom : MethodName := ⟨RX7, "readAtom", "(LFactOrigins$Program;I)Z"⟩
abbrev cX7_isTerm : ByteArray := prog_9_method_6_code
def yX7_isTerm : MethodName := ⟨RX7, "isTerm", "(II)Z"⟩
abbrev cX7_isVariable : ByteArray := prog_9_method_7_code
def yX7_isVariable : MethodName := ⟨RX7, "isVariable", "(I)Z"⟩
abbrev cX7_takeTerm : ByteArray := prog_9_method_8_code
def yX7_takeTerm : MethodName := ⟨RX7, "takeTerm", "()I"⟩
abbrev cX7_take : ByteArray := prog_9_method_9_code
def yX7_take : MethodName := ⟨RX7, "take", "(I)Z"⟩
abbrev cX7_next : ByteArray := prog_9_method_10_code
def yX7_next : MethodName := ⟨RX7, "next", "()I"⟩
abbrev cX7_unboundVariable : ByteArray := prog_9_method_11_code
def yX7_unboundVariable : MethodName := ⟨RX7, "unboundVariable", "()I"⟩
def RX8 : String := "FactOrigins$Survivals"
def TX8 : u_T := fun k => match k with
  | 0 => ("FactOrigins$Survivals", "smallSets", "[I", true)
  | _ => ("FactOrigins$Survivals", "rows", "[J", true)
def tyX8 : Nat → FieldType := fun k => match k with
  | 0 => .array .int
  | _ => .array .long
abbrev wsX80 : List Cond := u_ws RX8 TX8 2
theorem nmX8 : ∀ a, a < 2 → ∀ b, b < 2 → a ≠ b → (TX8 a).2.1 ≠ (TX8 b).2.1 := by decide +kernel
theorem tyX8_ok : ∀ k, k < 2 → parseFieldDescriptor (TX8 k).2.2.1 = some (tyX8 k) := by decide +kernel
abbrev cX8_init : ByteArray := prog_10_method_1_code
def yX8_init : MethodName := ⟨RX8, "<init>", "()V"⟩
abbrev cX8_compute : ByteArray := prog_10_method_2_code
def yX8_compute : MethodName := ⟨RX8, "compute", "(LFactOrigins$Program;LFactOrigins$Grounding;LFactOrigins$Holding;)V"⟩
abbrev cX8_neededBy : ByteArray := prog_10_method_3_code
def yX8_neededBy : MethodName := ⟨RX8, "neededBy", "(I)I"⟩
abbrev cX8_firstCut : ByteArray := prog_10_method_4_code
def yX8_firstCut : MethodName := ⟨RX8, "firstCut", "(I)I"⟩
abbrev cX8_survives : ByteArray := prog_10_method_5_code
def yX8_survives : MethodName := ⟨RX8, "survives", "(II)Z"⟩
abbrev cX8_enterBaseFact : ByteArray := prog_10_method_6_code
def yX8_enterBaseFact : MethodName := ⟨RX8, "enterBaseFact", "(II)V"⟩
abbrev cX8_widen : ByteArray := prog_10_method_7_code
def yX8_widen : MethodName := ⟨RX8, "widen", "(LFactOrigins$Grounding;I)Z"⟩
def RX9 : String := "FactOrigins"
def TX9 : u_T := fun k => match k with
  | 0 => ("FactOrigins", "program", "LFactOrigins$Program;", true)
  | 1 => ("FactOrigins", "slots", "[LFactOrigins$Program;", true)
  | 2 => ("FactOrigins", "slotFilled", "[Z", true)
  | 3 => ("FactOrigins", "text", "LFactOrigins$RuleText;", true)
  | 4 => ("FactOrigins", "grounding", "LFactOrigins$Grounding;", true)
  | 5 => ("FactOrigins", "model", "LFactOrigins$Model;", true)
  | 6 => ("FactOrigins", "holding", "LFactOrigins$Holding;", true)
  | 7 => ("FactOrigins", "costs", "LFactOrigins$Costs;", true)
  | 8 => ("FactOrigins", "likelihoods", "LFactOrigins$Likelihoods;", true)
  | 9 => ("FactOrigins", "survivals", "LFactOrigins$Survivals;", true)
  | 10 => ("FactOrigins", "lesserModel", "LFactOrigins$Model;", true)
  | 11 => ("FactOrigins", "groundingFresh", "Z", false)
  | 12 => ("FactOrigins", "modelFresh", "Z", false)
  | 13 => ("FactOrigins", "costsFresh", "Z", false)
  | 14 => ("FactOrigins", "likelihoodsFresh", "Z", false)
  | 15 => ("FactOrigins", "survivalsFresh", "Z", false)
  | _ => ("FactOrigins", "lesserWithout", "I", false)
def tyX9 : Nat → FieldType := fun k => match k with
  | 0 => .object "FactOrigins$Program"
  | 1 => .array (.object "FactOrigins$Program")
  | 2 => .array .boolean
  | 3 => .object "FactOrigins$RuleText"
  | 4 => .object "FactOrigins$Grounding"
  | 5 => .object "FactOrigins$Model"
  | 6 => .object "FactOrigins$Holding"
  | 7 => .object "FactOrigins$Costs"
  | 8 => .object "FactOrigins$Likelihoods"
  | 9 => .object "FactOrigins$Survivals"
  | 10 => .object "FactOrigins$Model"
  | 11 => .boolean
  | 12 => .boolean
  | 13 => .boolean
  | 14 => .boolean
  | 15 => .boolean
  | _ => .int
abbrev wsX90 : List Cond := u_ws RX9 TX9 17
theorem nmX9 : ∀ a, a < 17 → ∀ b, b < 17 → a ≠ b → (TX9 a).2.1 ≠ (TX9 b).2.1 := by decide +kernel
theorem tyX9_ok : ∀ k, k < 17 → parseFieldDescriptor (TX9 k).2.2.1 = some (tyX9 k) := by decide +kernel
abbrev cX9_init : ByteArray := prog_1_method_1_code
def yX9_init : MethodName := ⟨RX9, "<init>", "()V"⟩
abbrev cX9_begin : ByteArray := prog_1_method_2_code
def yX9_begin : MethodName := ⟨RX9, "begin", "(I)I"⟩
abbrev cX9_setPlaces : ByteArray := prog_1_method_3_code
def yX9_setPlaces : MethodName := ⟨RX9, "setPlaces", "(II)I"⟩
abbrev cX9_addFact : ByteArray := prog_1_method_4_code
def yX9_addFact : MethodName := ⟨RX9, "addFact", "(IIIII)I"⟩
abbrev cX9_removeFact : ByteArray := prog_1_method_5_code
def yX9_removeFact : MethodName := ⟨RX9, "removeFact", "(I)I"⟩
abbrev cX9_facts : ByteArray := prog_1_method_6_code
def yX9_facts : MethodName := ⟨RX9, "facts", "()I"⟩
abbrev cX9_removeRule : ByteArray := prog_1_method_7_code
def yX9_removeRule : MethodName := ⟨RX9, "removeRule", "(I)I"⟩
abbrev cX9_rules : ByteArray := prog_1_method_8_code
def yX9_rules : MethodName := ⟨RX9, "rules", "()I"⟩
abbrev cX9_append : ByteArray := prog_1_method_9_code
def yX9_append : MethodName := ⟨RX9, "append", "(I)I"⟩
abbrev cX9_clearText : ByteArray := prog_1_method_10_code
def yX9_clearText : MethodName := ⟨RX9, "clearText", "()I"⟩
abbrev cX9_faultPosition : ByteArray := prog_1_method_11_code
def yX9_faultPosition : MethodName := ⟨RX9, "faultPosition", "()I"⟩
abbrev cX9_addRule : ByteArray := prog_1_method_12_code
def yX9_addRule : MethodName := ⟨RX9, "addRule", "(I)I"⟩
abbrev cX9_stratum : ByteArray := prog_1_method_13_code
def yX9_stratum : MethodName := ⟨RX9, "stratum", "(I)I"⟩
abbrev cX9_size : ByteArray := prog_1_method_14_code
def yX9_size : MethodName := ⟨RX9, "size", "()I"⟩
abbrev cX9_count : ByteArray := prog_1_method_15_code
def yX9_count : MethodName := ⟨RX9, "count", "(I)I"⟩
abbrev cX9_rounds : ByteArray := prog_1_method_16_code
def yX9_rounds : MethodName := ⟨RX9, "rounds", "()I"⟩
abbrev cX9_round : ByteArray := prog_1_method_17_code
def yX9_round : MethodName := ⟨RX9, "round", "(III)I"⟩
abbrev cX9_instances : ByteArray := prog_1_method_18_code
def yX9_instances : MethodName := ⟨RX9, "instances", "(III)I"⟩
abbrev cX9_cost : ByteArray := prog_1_method_19_code
def yX9_cost : MethodName := ⟨RX9, "cost", "(III)I"⟩
abbrev cX9_likelihood : ByteArray := prog_1_method_20_code
def yX9_likelihood : MethodName := ⟨RX9, "likelihood", "(III)I"⟩
abbrev cX9_least : ByteArray := prog_1_method_21_code
def yX9_least : MethodName := ⟨RX9, "least", "(IIII)I"⟩
abbrev cX9_needs : ByteArray := prog_1_method_22_code
def yX9_needs : MethodName := ⟨RX9, "needs", "(III)I"⟩
abbrev cX9_cut : ByteArray := prog_1_method_23_code
def yX9_cut : MethodName := ⟨RX9, "cut", "(III)I"⟩
abbrev cX9_sizeWithout : ByteArray := prog_1_method_24_code
def yX9_sizeWithout : MethodName := ⟨RX9, "sizeWithout", "(I)I"⟩
abbrev cX9_holdsWithout : ByteArray := prog_1_method_25_code
def yX9_holdsWithout : MethodName := ⟨RX9, "holdsWithout", "(IIII)I"⟩
abbrev cX9_save : ByteArray := prog_1_method_26_code
def yX9_save : MethodName := ⟨RX9, "save", "(I)I"⟩
abbrev cX9_restore : ByteArray := prog_1_method_27_code
def yX9_restore : MethodName := ⟨RX9, "restore", "(I)I"⟩
abbrev cX9_checksum : ByteArray := prog_1_method_28_code
def yX9_checksum : MethodName := ⟨RX9, "checksum", "()J"⟩
abbrev cX9_isPredicate : ByteArray := prog_1_method_29_code
def yX9_isPredicate : MethodName := ⟨RX9, "isPredicate", "(I)Z"⟩
abbrev cX9_atomNumber : ByteArray := prog_1_method_30_code
def yX9_atomNumber : MethodName := ⟨RX9, "atomNumber", "(III)I"⟩
abbrev cX9_atomOfModel : ByteArray := prog_1_method_31_code
def yX9_atomOfModel : MethodName := ⟨RX9, "atomOfModel", "(III)I"⟩
abbrev cX9_leastOf : ByteArray := prog_1_method_32_code
def yX9_leastOf : MethodName := ⟨RX9, "leastOf", "(II)I"⟩
abbrev cX9_withAtom : ByteArray := prog_1_method_33_code
def yX9_withAtom : MethodName := ⟨RX9, "withAtom", "(JI)J"⟩
abbrev cX9_rulesChanged : ByteArray := prog_1_method_34_code
def yX9_rulesChanged : MethodName := ⟨RX9, "rulesChanged", "()V"⟩
abbrev cX9_factsChanged : ByteArray := prog_1_method_35_code
def yX9_factsChanged : MethodName := ⟨RX9, "factsChanged", "()V"⟩
abbrev cX9_hasModel : ByteArray := prog_1_method_36_code
def yX9_hasModel : MethodName := ⟨RX9, "hasModel", "()Z"⟩
abbrev cX9_computeCosts : ByteArray := prog_1_method_37_code
def yX9_computeCosts : MethodName := ⟨RX9, "computeCosts", "()V"⟩
abbrev cX9_computeLikelihoods : ByteArray := prog_1_method_38_code
def yX9_computeLikelihoods : MethodName := ⟨RX9, "computeLikelihoods", "()V"⟩
abbrev cX9_computeSurvivals : ByteArray := prog_1_method_39_code
def yX9_computeSurvivals : MethodName := ⟨RX9, "computeSurvivals", "()V"⟩
abbrev cX9_buildLesserModel : ByteArray := prog_1_method_40_code
def yX9_buildLesserModel : MethodName := ⟨RX9, "buildLesserModel", "(I)V"⟩
abbrev cX9_floatBits : ByteArray := prog_1_method_41_code
def yX9_floatBits : MethodName := ⟨RX9, "floatBits", "(F)I"⟩
def RX10 : String := "FactOriginsModel"
def TX10 : u_T := fun k => match k with
  | 0 => ("FactOriginsModel", "v", "[I", true)
  | 1 => ("FactOriginsModel", "kept", "[I", true)
  | 2 => ("FactOriginsModel", "isKept", "[Z", true)
  | 3 => ("FactOriginsModel", "text", "[I", true)
  | 4 => ("FactOriginsModel", "length", "I", false)
  | 5 => ("FactOriginsModel", "place", "I", false)
  | 6 => ("FactOriginsModel", "told", "[I", true)
  | 7 => ("FactOriginsModel", "literals", "I", false)
  | 8 => ("FactOriginsModel", "isFound", "Z", false)
  | 9 => ("FactOriginsModel", "isModel", "Z", false)
  | 10 => ("FactOriginsModel", "strata", "[I", true)
  | 11 => ("FactOriginsModel", "binding", "[I", true)
  | 12 => ("FactOriginsModel", "roundOf", "[I", true)
  | 13 => ("FactOriginsModel", "other", "[I", true)
  | 14 => ("FactOriginsModel", "isNew", "[Z", true)
  | 15 => ("FactOriginsModel", "roundMany", "I", false)
  | 16 => ("FactOriginsModel", "rule", "[I", true)
  | 17 => ("FactOriginsModel", "head", "[I", true)
  | 18 => ("FactOriginsModel", "literal", "[I", true)
  | 19 => ("FactOriginsModel", "holding", "I", false)
  | 20 => ("FactOriginsModel", "rounds", "I", false)
  | 21 => ("FactOriginsModel", "costs", "[I", true)
  | 22 => ("FactOriginsModel", "likely", "[F", true)
  | 23 => ("FactOriginsModel", "leastRule", "[I", true)
  | 24 => ("FactOriginsModel", "leastBy", "[I", true)
  | 25 => ("FactOriginsModel", "leastSize", "[I", true)
  | 26 => ("FactOriginsModel", "leastUse", "[I", true)
  | _ => ("FactOriginsModel", "isDerived", "[Z", true)
def tyX10 : Nat → FieldType := fun k => match k with
  | 0 => .array .int
  | 1 => .array .int
  | 2 => .array .boolean
  | 3 => .array .int
  | 4 => .int
  | 5 => .int
  | 6 => .array .int
  | 7 => .int
  | 8 => .boolean
  | 9 => .boolean
  | 10 => .array .int
  | 11 => .array .int
  | 12 => .array .int
  | 13 => .array .int
  | 14 => .array .boolean
  | 15 => .int
  | 16 => .array .int
  | 17 => .array .int
  | 18 => .array .int
  | 19 => .int
  | 20 => .int
  | 21 => .array .int
  | 22 => .array .float
  | 23 => .array .int
  | 24 => .array .int
  | 25 => .array .int
  | 26 => .array .int
  | _ => .array .boolean
abbrev wsX100 : List Cond := u_ws RX10 TX10 28
theorem nmX10 : ∀ a, a < 28 → ∀ b, b < 28 → a ≠ b → (TX10 a).2.1 ≠ (TX10 b).2.1 := by decide +kernel
theorem tyX10_ok : ∀ k, k < 28 → parseFieldDescriptor (TX10 k).2.2.1 = some (tyX10 k) := by decide +kernel
abbrev cX10_init : ByteArray := prog_12_method_1_code
def yX10_init : MethodName := ⟨RX10, "<init>", "()V"⟩
abbrev cX10_in : ByteArray := prog_12_method_3_code
def yX10_in : MethodName := ⟨RX10, "in", "(III)Z"⟩
abbrev cX10_anew : ByteArray := prog_12_method_4_code
def yX10_anew : MethodName := ⟨RX10, "anew", "(I)V"⟩
abbrev cX10_isConstant : ByteArray := prog_12_method_5_code
def yX10_isConstant : MethodName := ⟨RX10, "isConstant", "(I)Z"⟩
abbrev cX10_isFact : ByteArray := prog_12_method_6_code
def yX10_isFact : MethodName := ⟨RX10, "isFact", "(III)Z"⟩
abbrev cX10_factOf : ByteArray := prog_12_method_7_code
def yX10_factOf : MethodName := ⟨RX10, "factOf", "(III)I"⟩
abbrev cX10_atomAt : ByteArray := prog_12_method_8_code
def yX10_atomAt : MethodName := ⟨RX10, "atomAt", "(II)I"⟩
abbrev cX10_begin : ByteArray := prog_12_method_9_code
def yX10_begin : MethodName := ⟨RX10, "begin", "(I)I"⟩
abbrev cX10_isUsed : ByteArray := prog_12_method_10_code
def yX10_isUsed : MethodName := ⟨RX10, "isUsed", "(I)Z"⟩
abbrev cX10_setPlaces : ByteArray := prog_12_method_11_code
def yX10_setPlaces : MethodName := ⟨RX10, "setPlaces", "(II)I"⟩
abbrev cX10_addFact : ByteArray := prog_12_method_12_code
def yX10_addFact : MethodName := ⟨RX10, "addFact", "(IIIII)I"⟩
abbrev cX10_removeFact : ByteArray := prog_12_method_13_code
def yX10_removeFact : MethodName := ⟨RX10, "removeFact", "(I)I"⟩
abbrev cX10_facts : ByteArray := prog_12_method_14_code
def yX10_facts : MethodName := ⟨RX10, "facts", "()I"⟩
abbrev cX10_removeRule : ByteArray := prog_12_method_15_code
def yX10_removeRule : MethodName := ⟨RX10, "removeRule", "(I)I"⟩
abbrev cX10_rules : ByteArray := prog_12_method_16_code
def yX10_rules : MethodName := ⟨RX10, "rules", "()I"⟩
abbrev cX10_append : ByteArray := prog_12_method_17_code
def yX10_append : MethodName := ⟨RX10, "append", "(I)I"⟩
abbrev cX10_clearText : ByteArray := prog_12_method_18_code
def yX10_clearText : MethodName := ⟨RX10, "clearText", "()I"⟩
abbrev cX10_here : ByteArray := prog_12_method_19_code
def yX10_here : MethodName := ⟨RX10, "here", "()I"⟩
abbrev cX10_takes : ByteArray := prog_12_method_20_code
def yX10_takes : MethodName := ⟨RX10, "takes", "(I)Z"⟩
abbrev cX10_isTerm : ByteArray := prog_12_method_21_code
def yX10_isTerm : MethodName := ⟨RX10, "isTerm", "(I)Z"⟩
abbrev cX10_isAtom : ByteArray := prog_12_method_22_code
def yX10_isAtom : MethodName := ⟨RX10, "isAtom", "(I)Z"⟩
abbrev cX10_isForm : ByteArray := prog_12_method_23_code
def yX10_isForm : MethodName := ⟨RX10, "isForm", "()Z"⟩
abbrev cX10_loose : ByteArray := prog_12_method_24_code
def yX10_loose : MethodName := ⟨RX10, "loose", "()I"⟩
abbrev cX10_isText : ByteArray := prog_12_method_25_code
def yX10_isText : MethodName := ⟨RX10, "isText", "()Z"⟩
abbrev cX10_faultPosition : ByteArray := prog_12_method_26_code
def yX10_faultPosition : MethodName := ⟨RX10, "faultPosition", "()I"⟩
abbrev cX10_addRule : ByteArray := prog_12_method_27_code
def yX10_addRule : MethodName := ⟨RX10, "addRule", "(I)I"⟩
abbrev cX10_findStrata : ByteArray := prog_12_method_28_code
def yX10_findStrata : MethodName := ⟨RX10, "findStrata", "()Z"⟩
abbrev cX10_termOf : ByteArray := prog_12_method_29_code
def yX10_termOf : MethodName := ⟨RX10, "termOf", "(I)I"⟩
abbrev cX10_factAt : ByteArray := prog_12_method_30_code
def yX10_factAt : MethodName := ⟨RX10, "factAt", "(II)I"⟩
abbrev cX10_isBinding : ByteArray := prog_12_method_31_code
def yX10_isBinding : MethodName := ⟨RX10, "isBinding", "(II)Z"⟩
abbrev cX10_holds : ByteArray := prog_12_method_32_code
def yX10_holds : MethodName := ⟨RX10, "holds", "(I[I)Z"⟩
abbrev cX10_goes : ByteArray := prog_12_method_33_code
def yX10_goes : MethodName := ⟨RX10, "goes", "(I[I)I"⟩
abbrev cX10_builds : ByteArray := prog_12_method_34_code
def yX10_builds : MethodName := ⟨RX10, "builds", "(I[I)V"⟩
abbrev cX10_findHolding : ByteArray := prog_12_method_35_code
def yX10_findHolding : MethodName := ⟨RX10, "findHolding", "()V"⟩
abbrev cX10_finds : ByteArray := prog_12_method_36_code
def yX10_finds : MethodName := ⟨RX10, "finds", "()Z"⟩
abbrev cX10_stratum : ByteArray := prog_12_method_37_code
def yX10_stratum : MethodName := ⟨RX10, "stratum", "(I)I"⟩
abbrev cX10_tally : ByteArray := prog_12_method_38_code
def yX10_tally : MethodName := ⟨RX10, "tally", "([III)I"⟩
abbrev cX10_size : ByteArray := prog_12_method_39_code
def yX10_size : MethodName := ⟨RX10, "size", "()I"⟩
abbrev cX10_count : ByteArray := prog_12_method_40_code
def yX10_count : MethodName := ⟨RX10, "count", "(I)I"⟩
abbrev cX10_rounds : ByteArray := prog_12_method_41_code
def yX10_rounds : MethodName := ⟨RX10, "rounds", "()I"⟩
abbrev cX10_wrong : ByteArray := prog_12_method_42_code
def yX10_wrong : MethodName := ⟨RX10, "wrong", "(III)I"⟩
abbrev cX10_round : ByteArray := prog_12_method_43_code
def yX10_round : MethodName := ⟨RX10, "round", "(III)I"⟩
abbrev cX10_instancesOf : ByteArray := prog_12_method_44_code
def yX10_instancesOf : MethodName := ⟨RX10, "instancesOf", "(I)I"⟩
abbrev cX10_instances : ByteArray := prog_12_method_45_code
def yX10_instances : MethodName := ⟨RX10, "instances", "(III)I"⟩
abbrev cX10_costBy : ByteArray := prog_12_method_46_code
def yX10_costBy : MethodName := ⟨RX10, "costBy", "(I)I"⟩
abbrev cX10_findCosts : ByteArray := prog_12_method_47_code
def yX10_findCosts : MethodName := ⟨RX10, "findCosts", "()V"⟩
abbrev cX10_likelyBy : ByteArray := prog_12_method_48_code
def yX10_likelyBy : MethodName := ⟨RX10, "likelyBy", "(I)F"⟩
abbrev cX10_findLikelihoods : ByteArray := prog_12_method_49_code
def yX10_findLikelihoods : MethodName := ⟨RX10, "findLikelihoods", "()V"⟩
abbrev cX10_findLeast : ByteArray := prog_12_method_50_code
def yX10_findLeast : MethodName := ⟨RX10, "findLeast", "()V"⟩
abbrev cX10_areSized : ByteArray := prog_12_method_51_code
def yX10_areSized : MethodName := ⟨RX10, "areSized", "(I)Z"⟩
abbrev cX10_sizes : ByteArray := prog_12_method_52_code
def yX10_sizes : MethodName := ⟨RX10, "sizes", "(II)V"⟩
abbrev cX10_leastNow : ByteArray := prog_12_method_53_code
def yX10_leastNow : MethodName := ⟨RX10, "leastNow", "(II)I"⟩
abbrev cX10_cost : ByteArray := prog_12_method_54_code
def yX10_cost : MethodName := ⟨RX10, "cost", "(III)I"⟩
abbrev cX10_likelihood : ByteArray := prog_12_method_55_code
def yX10_likelihood : MethodName := ⟨RX10, "likelihood", "(III)I"⟩
abbrev cX10_least : ByteArray := prog_12_method_56_code
def yX10_least : MethodName := ⟨RX10, "least", "(IIII)I"⟩
abbrev cX10_canDo : ByteArray := prog_12_method_57_code
def yX10_canDo : MethodName := ⟨RX10, "canDo", "(II)Z"⟩
abbrev cX10_areDerived : ByteArray := prog_12_method_58_code
def yX10_areDerived : MethodName := ⟨RX10, "areDerived", "(I)Z"⟩
abbrev cX10_needs : ByteArray := prog_12_method_59_code
def yX10_needs : MethodName := ⟨RX10, "needs", "(III)I"⟩
abbrev cX10_cutOf : ByteArray := prog_12_method_60_code
def yX10_cutOf : MethodName := ⟨RX10, "cutOf", "(I)I"⟩
abbrev cX10_cut : ByteArray := prog_12_method_61_code
def yX10_cut : MethodName := ⟨RX10, "cut", "(III)I"⟩
abbrev cX10_sizeWithout : ByteArray := prog_12_method_62_code
def yX10_sizeWithout : MethodName := ⟨RX10, "sizeWithout", "(I)I"⟩
abbrev cX10_holdsWithout : ByteArray := prog_12_method_63_code
def yX10_holdsWithout : MethodName := ⟨RX10, "holdsWithout", "(IIII)I"⟩
abbrev cX10_save : ByteArray := prog_12_method_64_code
def yX10_save : MethodName := ⟨RX10, "save", "(I)I"⟩
abbrev cX10_restore : ByteArray := prog_12_method_65_code
def yX10_restore : MethodName := ⟨RX10, "restore", "(I)I"⟩
abbrev cX10_more : ByteArray := prog_12_method_66_code
def yX10_more : MethodName := ⟨RX10, "more", "(JI)J"⟩
abbrev cX10_checksum : ByteArray := prog_12_method_67_code
def yX10_checksum : MethodName := ⟨RX10, "checksum", "()J"⟩
def RJx145de : String := "java/io/Serializable"
def TJx145de : u_T := fun k => match k with
  | _ => ("", "", "", false)
def tyJx145de : Nat → FieldType := fun k => match k with
  | _ => .int
abbrev wsJx145de0 : List Cond := u_ws RJx145de TJx145de 0
theorem nmJx145de : ∀ a, a < 0 → ∀ b, b < 0 → a ≠ b → (TJx145de a).2.1 ≠ (TJx145de b).2.1 := by decide +kernel
theorem tyJx145de_ok : ∀ k, k < 0 → parseFieldDescriptor (TJx145de k).2.2.1 = some (tyJx145de k) := by decide +kernel
def RJxb160c : String := "java/lang/Comparable"
def TJxb160c : u_T := fun k => match k with
  | _ => ("", "", "", false)
def tyJxb160c : Nat → FieldType := fun k => match k with
  | _ => .int
abbrev wsJxb160c0 : List Cond := u_ws RJxb160c TJxb160c 0
theorem nmJxb160c : ∀ a, a < 0 → ∀ b, b < 0 → a ≠ b → (TJxb160c a).2.1 ≠ (TJxb160c b).2.1 := by decide +kernel
theorem tyJxb160c_ok : ∀ k, k < 0 → parseFieldDescriptor (TJxb160c k).2.2.1 = some (tyJxb160c k) := by decide +kernel
def RJxf58ca : String := "java/lang/Float"
def TJxf58ca : u_T := fun k => match k with
  | _ => ("", "", "", false)
def tyJxf58ca : Nat → FieldType := fun k => match k with
  | _ => .int
abbrev wsJxf58ca0 : List Cond := u_ws RJxf58ca TJxf58ca 0
theorem nmJxf58ca : ∀ a, a < 0 → ∀ b, b < 0 → a ≠ b → (TJxf58ca a).2.1 ≠ (TJxf58ca b).2.1 := by decide +kernel
theorem tyJxf58ca_ok : ∀ k, k < 0 → parseFieldDescriptor (TJxf58ca k).2.2.1 = some (tyJxf58ca k) := by decide +kernel
abbrev cJxf58ca_isNaN_12338 : ByteArray := prog_13_method_6_code
def yJxf58ca_isNaN_12338 : MethodName := ⟨RJxf58ca, "isNaN", "(F)Z"⟩
abbrev cJxf58ca_floatToIntBits_5c35a : ByteArray := prog_13_method_24_code
def yJxf58ca_floatToIntBits_5c35a : MethodName := ⟨RJxf58ca, "floatToIntBits", "(F)I"⟩
def RJ9 : String := "java/lang/Math"
def TJ9 : u_T := fun k => match k with
  | _ => ("", "", "", false)
def tyJ9 : Nat → FieldType := fun k => match k with
  | _ => .int
abbrev wsJ90 : List Cond := u_ws RJ9 TJ9 0
theorem nmJ9 : ∀ a, a < 0 → ∀ b, b < 0 → a ≠ b → (TJ9 a).2.1 ≠ (TJ9 b).2.1 := by decide +kernel
theorem tyJ9_ok : ∀ k, k < 0 → parseFieldDescriptor (TJ9 k).2.2.1 = some (tyJ9 k) := by decide +kernel
abbrev cJ9_max_7cf53 : ByteArray := prog_14_method_65_code
def yJ9_max_7cf53 : MethodName := ⟨RJ9, "max", "(II)I"⟩
abbrev cJ9_min_7cf53 : ByteArray := prog_14_method_69_code
def yJ9_min_7cf53 : MethodName := ⟨RJ9, "min", "(II)I"⟩
def RJxd2413 : String := "java/lang/Number"
def TJxd2413 : u_T := fun k => match k with
  | _ => ("", "", "", false)
def tyJxd2413 : Nat → FieldType := fun k => match k with
  | _ => .int
abbrev wsJxd24130 : List Cond := u_ws RJxd2413 TJxd2413 0
theorem nmJxd2413 : ∀ a, a < 0 → ∀ b, b < 0 → a ≠ b → (TJxd2413 a).2.1 ≠ (TJxd2413 b).2.1 := by decide +kernel
theorem tyJxd2413_ok : ∀ k, k < 0 → parseFieldDescriptor (TJxd2413 k).2.2.1 = some (tyJxd2413 k) := by decide +kernel
def RJ10 : String := "java/lang/System"
def TJ10 : u_T := fun k => match k with
  | _ => ("", "", "", false)
def tyJ10 : Nat → FieldType := fun k => match k with
  | _ => .int
abbrev wsJ100 : List Cond := u_ws RJ10 TJ10 0
theorem nmJ10 : ∀ a, a < 0 → ∀ b, b < 0 → a ≠ b → (TJ10 a).2.1 ≠ (TJ10 b).2.1 := by decide +kernel
theorem tyJ10_ok : ∀ k, k < 0 → parseFieldDescriptor (TJ10 k).2.2.1 = some (tyJ10 k) := by decide +kernel
def RJxfd54e : String := "java/lang/constant/Constable"
def TJxfd54e : u_T := fun k => match k with
  | _ => ("", "", "", false)
def tyJxfd54e : Nat → FieldType := fun k => match k with
  | _ => .int
abbrev wsJxfd54e0 : List Cond := u_ws RJxfd54e TJxfd54e 0
theorem nmJxfd54e : ∀ a, a < 0 → ∀ b, b < 0 → a ≠ b → (TJxfd54e a).2.1 ≠ (TJxfd54e b).2.1 := by decide +kernel
theorem tyJxfd54e_ok : ∀ k, k < 0 → parseFieldDescriptor (TJxfd54e k).2.2.1 = some (tyJxfd54e k) := by decide +kernel
def RJx3cf43 : String := "java/lang/constant/ConstantDesc"
def TJx3cf43 : u_T := fun k => match k with
  | _ => ("", "", "", false)
def tyJx3cf43 : Nat → FieldType := fun k => match k with
  | _ => .int
abbrev wsJx3cf430 : List Cond := u_ws RJx3cf43 TJx3cf43 0
theorem nmJx3cf43 : ∀ a, a < 0 → ∀ b, b < 0 → a ≠ b → (TJx3cf43 a).2.1 ≠ (TJx3cf43 b).2.1 := by decide +kernel
theorem tyJx3cf43_ok : ∀ k, k < 0 → parseFieldDescriptor (TJx3cf43 k).2.2.1 = some (tyJx3cf43 k) := by decide +kernel
def RJ7 : String := "java/util/Arrays"
def TJ7 : u_T := fun k => match k with
  | _ => ("", "", "", false)
def tyJ7 : Nat → FieldType := fun k => match k with
  | _ => .int
abbrev wsJ70 : List Cond := u_ws RJ7 TJ7 0
theorem nmJ7 : ∀ a, a < 0 → ∀ b, b < 0 → a ≠ b → (TJ7 a).2.1 ≠ (TJ7 b).2.1 := by decide +kernel
theorem tyJ7_ok : ∀ k, k < 0 → parseFieldDescriptor (TJ7 k).2.2.1 = some (tyJ7 k) := by decide +kernel
abbrev cJ7_fill_d0a16 : ByteArray := prog_17_method_101_code
def yJ7_fill_d0a16 : MethodName := ⟨RJ7, "fill", "([JJ)V"⟩
abbrev cJ7_fill_53178 : ByteArray := prog_17_method_103_code
def yJ7_fill_53178 : MethodName := ⟨RJ7, "fill", "([II)V"⟩
def RL : String := "FactOriginsLaw"
abbrev cL_law : ByteArray := code
def yL_law : MethodName := ⟨RL, "law", "([I)Z"⟩
abbrev vwCl : List vw_C := [(RX0, TX0, 6), (RX1, TX1, 12), (RX2, TX2, 3), (RX3, TX3, 1), (RX4, TX4, 3), (RX5, TX5, 8), (RX6, TX6, 6), (RX7, TX7, 4), (RX8, TX8, 2), (RX9, TX9, 17), (RX10, TX10, 28)]
set_option maxRecDepth 20000 in
theorem inT0 : ∀ w ∈ wsX00, w ∈ lw_tbl := by decide +kernel
set_option maxRecDepth 20000 in
theorem inT1 : ∀ w ∈ wsX10, w ∈ lw_tbl := by decide +kernel
set_option maxRecDepth 20000 in
theorem inT2 : ∀ w ∈ wsX20, w ∈ lw_tbl := by decide +kernel
set_option maxRecDepth 20000 in
theorem inT3 : ∀ w ∈ wsX30, w ∈ lw_tbl := by decide +kernel
set_option maxRecDepth 20000 in
theorem inT4 : ∀ w ∈ wsX40, w ∈ lw_tbl := by decide +kernel
set_option maxRecDepth 20000 in
theorem inT5 : ∀ w ∈ wsX50, w ∈ lw_tbl := by decide +kernel
set_option maxRecDepth 20000 in
theorem inT6 : ∀ w ∈ wsX60, w ∈ lw_tbl := by decide +kernel
set_option maxRecDepth 20000 in
theorem inT7 : ∀ w ∈ wsX70, w ∈ lw_tbl := by decide +kernel
set_option maxRecDepth 20000 in
theorem inT8 : ∀ w ∈ wsX80, w ∈ lw_tbl := by decide +kernel
set_option maxRecDepth 20000 in
theorem inT9 : ∀ w ∈ wsX90, w ∈ lw_tbl := by decide +kernel
set_option maxRecDepth 20000 in
theorem inT10 : ∀ w ∈ wsX100, w ∈ lw_tbl := by decide +kernel
