section
-- ===== PART A: goes FIRST, ahead of the names: the tables' words, and 'selects' of the private methods out of them =====
/-- a private method of a class that the tables say can be made, by its rows of tables_1 -/
def lw_okq (q : MethodName × Nat) : Prop := (q.1.cls ≠ "java/lang/invoke/MethodHandle" ∧ q.1.cls ≠ "java/lang/invoke/VarHandle") ∧ Cond.instantiable q.1.cls q.2 ∈ tables_1 ∧ Cond.privateMethod q.1 ∈ tables_1 ∧ Cond.instanceMethod q.1 ∈ tables_1
theorem lw_p0 : lw_okq (⟨"RuleTree$Parts", "addPart", "(II)I"⟩, 15) := ⟨⟨by decide +kernel, by decide +kernel⟩, List.mem_of_getElem? (i := 146) (by decide +kernel), List.mem_of_getElem? (i := 154) (by decide +kernel), List.mem_of_getElem? (i := 155) (by decide +kernel)⟩
theorem lw_p1 : lw_okq (⟨"RuleTree$Patterns", "hasRoom", "(I)Z"⟩, 9) := ⟨⟨by decide +kernel, by decide +kernel⟩, List.mem_of_getElem? (i := 53) (by decide +kernel), List.mem_of_getElem? (i := 384) (by decide +kernel), List.mem_of_getElem? (i := 385) (by decide +kernel)⟩
theorem lw_p2 : lw_okq (⟨"RuleTree$Patterns", "recordWeight", "(ILRuleTree$Pushed;)I"⟩, 9) := ⟨⟨by decide +kernel, by decide +kernel⟩, List.mem_of_getElem? (i := 53) (by decide +kernel), List.mem_of_getElem? (i := 453) (by decide +kernel), List.mem_of_getElem? (i := 454) (by decide +kernel)⟩
theorem lw_p3 : lw_okq (⟨"RuleTree$Patterns", "isFull", "(ILRuleTree$Pushed;)Z"⟩, 9) := ⟨⟨by decide +kernel, by decide +kernel⟩, List.mem_of_getElem? (i := 53) (by decide +kernel), List.mem_of_getElem? (i := 458) (by decide +kernel), List.mem_of_getElem? (i := 459) (by decide +kernel)⟩
theorem lw_p4 : lw_okq (⟨"RuleTree$Patterns", "addFields", "(ILRuleTree$Pushed;)V"⟩, 9) := ⟨⟨by decide +kernel, by decide +kernel⟩, List.mem_of_getElem? (i := 53) (by decide +kernel), List.mem_of_getElem? (i := 463) (by decide +kernel), List.mem_of_getElem? (i := 464) (by decide +kernel)⟩
theorem lw_p5 : lw_okq (⟨"RuleTree", "goesWithRules", "(I)Z"⟩, 12) := ⟨⟨by decide +kernel, by decide +kernel⟩, List.mem_of_getElem? (i := 17) (by decide +kernel), List.mem_of_getElem? (i := 475) (by decide +kernel), List.mem_of_getElem? (i := 476) (by decide +kernel)⟩
theorem lw_p6 : lw_okq (⟨"RuleTree$Pairs", "hold", "(IIZ)Z"⟩, 2) := ⟨⟨by decide +kernel, by decide +kernel⟩, List.mem_of_getElem? (i := 129) (by decide +kernel), List.mem_of_getElem? (i := 485) (by decide +kernel), List.mem_of_getElem? (i := 486) (by decide +kernel)⟩
theorem lw_p7 : lw_okq (⟨"RuleTree$Pairs", "putPair", "(II)V"⟩, 2) := ⟨⟨by decide +kernel, by decide +kernel⟩, List.mem_of_getElem? (i := 129) (by decide +kernel), List.mem_of_getElem? (i := 493) (by decide +kernel), List.mem_of_getElem? (i := 494) (by decide +kernel)⟩
theorem lw_p8 : lw_okq (⟨"RuleTree$Pairs", "matchesHere", "(II)Z"⟩, 2) := ⟨⟨by decide +kernel, by decide +kernel⟩, List.mem_of_getElem? (i := 129) (by decide +kernel), List.mem_of_getElem? (i := 504) (by decide +kernel), List.mem_of_getElem? (i := 505) (by decide +kernel)⟩
theorem lw_p9 : lw_okq (⟨"RuleTree$Pairs", "sameSort", "(II)Z"⟩, 2) := ⟨⟨by decide +kernel, by decide +kernel⟩, List.mem_of_getElem? (i := 129) (by decide +kernel), List.mem_of_getElem? (i := 512) (by decide +kernel), List.mem_of_getElem? (i := 513) (by decide +kernel)⟩
theorem lw_p10 : lw_okq (⟨"RuleTree$Pairs", "putInner", "(II)Z"⟩, 2) := ⟨⟨by decide +kernel, by decide +kernel⟩, List.mem_of_getElem? (i := 129) (by decide +kernel), List.mem_of_getElem? (i := 524) (by decide +kernel), List.mem_of_getElem? (i := 525) (by decide +kernel)⟩
theorem lw_p11 : lw_okq (⟨"RuleTree$Pairs", "putFields", "(II)V"⟩, 2) := ⟨⟨by decide +kernel, by decide +kernel⟩, List.mem_of_getElem? (i := 129) (by decide +kernel), List.mem_of_getElem? (i := 528) (by decide +kernel), List.mem_of_getElem? (i := 529) (by decide +kernel)⟩
theorem lw_p12 : lw_okq (⟨"RuleTree$Pairs", "goesHere", "(II)Z"⟩, 2) := ⟨⟨by decide +kernel, by decide +kernel⟩, List.mem_of_getElem? (i := 129) (by decide +kernel), List.mem_of_getElem? (i := 548) (by decide +kernel), List.mem_of_getElem? (i := 549) (by decide +kernel)⟩
theorem lw_p13 : lw_okq (⟨"RuleTree$Parts", "putOpen", "(II)V"⟩, 15) := ⟨⟨by decide +kernel, by decide +kernel⟩, List.mem_of_getElem? (i := 146) (by decide +kernel), List.mem_of_getElem? (i := 563) (by decide +kernel), List.mem_of_getElem? (i := 564) (by decide +kernel)⟩
theorem lw_p14 : lw_okq (⟨"RuleTree$Parts", "layRecord", "(II)V"⟩, 15) := ⟨⟨by decide +kernel, by decide +kernel⟩, List.mem_of_getElem? (i := 146) (by decide +kernel), List.mem_of_getElem? (i := 570) (by decide +kernel), List.mem_of_getElem? (i := 571) (by decide +kernel)⟩
theorem lw_p15 : lw_okq (⟨"RuleTree$Parts", "setSort", "(II)V"⟩, 15) := ⟨⟨by decide +kernel, by decide +kernel⟩, List.mem_of_getElem? (i := 146) (by decide +kernel), List.mem_of_getElem? (i := 574) (by decide +kernel), List.mem_of_getElem? (i := 575) (by decide +kernel)⟩
def lw_privs_1 : List (MethodName × Nat) := [(⟨"RuleTree$Parts", "addPart", "(II)I"⟩, 15), (⟨"RuleTree$Patterns", "hasRoom", "(I)Z"⟩, 9), (⟨"RuleTree$Patterns", "recordWeight", "(ILRuleTree$Pushed;)I"⟩, 9), (⟨"RuleTree$Patterns", "isFull", "(ILRuleTree$Pushed;)Z"⟩, 9), (⟨"RuleTree$Patterns", "addFields", "(ILRuleTree$Pushed;)V"⟩, 9), (⟨"RuleTree", "goesWithRules", "(I)Z"⟩, 12), (⟨"RuleTree$Pairs", "hold", "(IIZ)Z"⟩, 2), (⟨"RuleTree$Pairs", "putPair", "(II)V"⟩, 2), (⟨"RuleTree$Pairs", "matchesHere", "(II)Z"⟩, 2), (⟨"RuleTree$Pairs", "sameSort", "(II)Z"⟩, 2), (⟨"RuleTree$Pairs", "putInner", "(II)Z"⟩, 2), (⟨"RuleTree$Pairs", "putFields", "(II)V"⟩, 2), (⟨"RuleTree$Pairs", "goesHere", "(II)Z"⟩, 2), (⟨"RuleTree$Parts", "putOpen", "(II)V"⟩, 15), (⟨"RuleTree$Parts", "layRecord", "(II)V"⟩, 15), (⟨"RuleTree$Parts", "setSort", "(II)V"⟩, 15)]
theorem lw_r1 : ∀ q ∈ lw_privs_1, lw_okq q := List.forall_mem_cons.mpr ⟨lw_p0, List.forall_mem_cons.mpr ⟨lw_p1, List.forall_mem_cons.mpr ⟨lw_p2, List.forall_mem_cons.mpr ⟨lw_p3, List.forall_mem_cons.mpr ⟨lw_p4, List.forall_mem_cons.mpr ⟨lw_p5, List.forall_mem_cons.mpr ⟨lw_p6, List.forall_mem_cons.mpr ⟨lw_p7, List.forall_mem_cons.mpr ⟨lw_p8, List.forall_mem_cons.mpr ⟨lw_p9, List.forall_mem_cons.mpr ⟨lw_p10, List.forall_mem_cons.mpr ⟨lw_p11, List.forall_mem_cons.mpr ⟨lw_p12, List.forall_mem_cons.mpr ⟨lw_p13, List.forall_mem_cons.mpr ⟨lw_p14, List.forall_mem_cons.mpr ⟨lw_p15, fun _ h => absurd h List.not_mem_nil⟩⟩⟩⟩⟩⟩⟩⟩⟩⟩⟩⟩⟩⟩⟩⟩
theorem lw_p16 : lw_okq (⟨"RuleTree$Parts", "edgeFor", "(II)I"⟩, 15) := ⟨⟨by decide +kernel, by decide +kernel⟩, List.mem_of_getElem? (i := 146) (by decide +kernel), List.mem_of_getElem? (i := 582) (by decide +kernel), List.mem_of_getElem? (i := 583) (by decide +kernel)⟩
theorem lw_p17 : lw_okq (⟨"RuleTree$Parts", "lastBelow", "(II)I"⟩, 15) := ⟨⟨by decide +kernel, by decide +kernel⟩, List.mem_of_getElem? (i := 146) (by decide +kernel), List.mem_of_getElem? (i := 586) (by decide +kernel), List.mem_of_getElem? (i := 587) (by decide +kernel)⟩
theorem lw_p18 : lw_okq (⟨"RuleTree$Parts", "edgeAfter", "(II)I"⟩, 15) := ⟨⟨by decide +kernel, by decide +kernel⟩, List.mem_of_getElem? (i := 146) (by decide +kernel), List.mem_of_getElem? (i := 591) (by decide +kernel), List.mem_of_getElem? (i := 592) (by decide +kernel)⟩
theorem lw_p19 : lw_okq (⟨"RuleTree$Parts", "addEdge", "(III)I"⟩, 15) := ⟨⟨by decide +kernel, by decide +kernel⟩, List.mem_of_getElem? (i := 146) (by decide +kernel), List.mem_of_getElem? (i := 595) (by decide +kernel), List.mem_of_getElem? (i := 596) (by decide +kernel)⟩
theorem lw_p20 : lw_okq (⟨"RuleTree$Parts", "childFor", "(II)I"⟩, 15) := ⟨⟨by decide +kernel, by decide +kernel⟩, List.mem_of_getElem? (i := 146) (by decide +kernel), List.mem_of_getElem? (i := 600) (by decide +kernel), List.mem_of_getElem? (i := 601) (by decide +kernel)⟩
theorem lw_p21 : lw_okq (⟨"RuleTree$Parts", "layAsk", "(III)V"⟩, 15) := ⟨⟨by decide +kernel, by decide +kernel⟩, List.mem_of_getElem? (i := 146) (by decide +kernel), List.mem_of_getElem? (i := 604) (by decide +kernel), List.mem_of_getElem? (i := 605) (by decide +kernel)⟩
theorem lw_p22 : lw_okq (⟨"RuleTree", "dropRules", "()V"⟩, 12) := ⟨⟨by decide +kernel, by decide +kernel⟩, List.mem_of_getElem? (i := 17) (by decide +kernel), List.mem_of_getElem? (i := 614) (by decide +kernel), List.mem_of_getElem? (i := 615) (by decide +kernel)⟩
theorem lw_p23 : lw_okq (⟨"RuleTree$Grower", "enter", "(II)I"⟩, 5) := ⟨⟨by decide +kernel, by decide +kernel⟩, List.mem_of_getElem? (i := 244) (by decide +kernel), List.mem_of_getElem? (i := 659) (by decide +kernel), List.mem_of_getElem? (i := 660) (by decide +kernel)⟩
theorem lw_p24 : lw_okq (⟨"RuleTree$Nodes", "hang", "(II)V"⟩, 10) := ⟨⟨by decide +kernel, by decide +kernel⟩, List.mem_of_getElem? (i := 205) (by decide +kernel), List.mem_of_getElem? (i := 669) (by decide +kernel), List.mem_of_getElem? (i := 670) (by decide +kernel)⟩
theorem lw_p25 : lw_okq (⟨"RuleTree$Grower", "firstPossible", "(I)I"⟩, 5) := ⟨⟨by decide +kernel, by decide +kernel⟩, List.mem_of_getElem? (i := 244) (by decide +kernel), List.mem_of_getElem? (i := 681) (by decide +kernel), List.mem_of_getElem? (i := 682) (by decide +kernel)⟩
theorem lw_p26 : lw_okq (⟨"RuleTree$Grower", "firstNotLooked", "(II)I"⟩, 5) := ⟨⟨by decide +kernel, by decide +kernel⟩, List.mem_of_getElem? (i := 244) (by decide +kernel), List.mem_of_getElem? (i := 695) (by decide +kernel), List.mem_of_getElem? (i := 696) (by decide +kernel)⟩
theorem lw_p27 : lw_okq (⟨"RuleTree$Grower", "goOn", "(I)I"⟩, 5) := ⟨⟨by decide +kernel, by decide +kernel⟩, List.mem_of_getElem? (i := 244) (by decide +kernel), List.mem_of_getElem? (i := 718) (by decide +kernel), List.mem_of_getElem? (i := 719) (by decide +kernel)⟩
theorem lw_p28 : lw_okq (⟨"RuleTree$Grower", "leave", "(I)I"⟩, 5) := ⟨⟨by decide +kernel, by decide +kernel⟩, List.mem_of_getElem? (i := 244) (by decide +kernel), List.mem_of_getElem? (i := 726) (by decide +kernel), List.mem_of_getElem? (i := 727) (by decide +kernel)⟩
theorem lw_p29 : lw_okq (⟨"RuleTree$Grower", "letIn", "(I)V"⟩, 5) := ⟨⟨by decide +kernel, by decide +kernel⟩, List.mem_of_getElem? (i := 244) (by decide +kernel), List.mem_of_getElem? (i := 734) (by decide +kernel), List.mem_of_getElem? (i := 735) (by decide +kernel)⟩
theorem lw_p30 : lw_okq (⟨"RuleTree$Grower", "changeOuts", "(III)V"⟩, 5) := ⟨⟨by decide +kernel, by decide +kernel⟩, List.mem_of_getElem? (i := 244) (by decide +kernel), List.mem_of_getElem? (i := 746) (by decide +kernel), List.mem_of_getElem? (i := 747) (by decide +kernel)⟩
theorem lw_p31 : lw_okq (⟨"RuleTree$Grower", "nextEdge", "(I)I"⟩, 5) := ⟨⟨by decide +kernel, by decide +kernel⟩, List.mem_of_getElem? (i := 244) (by decide +kernel), List.mem_of_getElem? (i := 770) (by decide +kernel), List.mem_of_getElem? (i := 771) (by decide +kernel)⟩
def lw_privs_2 : List (MethodName × Nat) := [(⟨"RuleTree$Parts", "edgeFor", "(II)I"⟩, 15), (⟨"RuleTree$Parts", "lastBelow", "(II)I"⟩, 15), (⟨"RuleTree$Parts", "edgeAfter", "(II)I"⟩, 15), (⟨"RuleTree$Parts", "addEdge", "(III)I"⟩, 15), (⟨"RuleTree$Parts", "childFor", "(II)I"⟩, 15), (⟨"RuleTree$Parts", "layAsk", "(III)V"⟩, 15), (⟨"RuleTree", "dropRules", "()V"⟩, 12), (⟨"RuleTree$Grower", "enter", "(II)I"⟩, 5), (⟨"RuleTree$Nodes", "hang", "(II)V"⟩, 10), (⟨"RuleTree$Grower", "firstPossible", "(I)I"⟩, 5), (⟨"RuleTree$Grower", "firstNotLooked", "(II)I"⟩, 5), (⟨"RuleTree$Grower", "goOn", "(I)I"⟩, 5), (⟨"RuleTree$Grower", "leave", "(I)I"⟩, 5), (⟨"RuleTree$Grower", "letIn", "(I)V"⟩, 5), (⟨"RuleTree$Grower", "changeOuts", "(III)V"⟩, 5), (⟨"RuleTree$Grower", "nextEdge", "(I)I"⟩, 5)]
theorem lw_r2 : ∀ q ∈ lw_privs_2, lw_okq q := List.forall_mem_cons.mpr ⟨lw_p16, List.forall_mem_cons.mpr ⟨lw_p17, List.forall_mem_cons.mpr ⟨lw_p18, List.forall_mem_cons.mpr ⟨lw_p19, List.forall_mem_cons.mpr ⟨lw_p20, List.forall_mem_cons.mpr ⟨lw_p21, List.forall_mem_cons.mpr ⟨lw_p22, List.forall_mem_cons.mpr ⟨lw_p23, List.forall_mem_cons.mpr ⟨lw_p24, List.forall_mem_cons.mpr ⟨lw_p25, List.forall_mem_cons.mpr ⟨lw_p26, List.forall_mem_cons.mpr ⟨lw_p27, List.forall_mem_cons.mpr ⟨lw_p28, List.forall_mem_cons.mpr ⟨lw_p29, List.forall_mem_cons.mpr ⟨lw_p30, List.forall_mem_cons.mpr ⟨lw_p31, fun _ h => absurd h List.not_mem_nil⟩⟩⟩⟩⟩⟩⟩⟩⟩⟩⟩⟩⟩⟩⟩⟩
theorem lw_p32 : lw_okq (⟨"RuleTree$Grower", "isAsked", "(I)Z"⟩, 5) := ⟨⟨by decide +kernel, by decide +kernel⟩, List.mem_of_getElem? (i := 244) (by decide +kernel), List.mem_of_getElem? (i := 782) (by decide +kernel), List.mem_of_getElem? (i := 783) (by decide +kernel)⟩
theorem lw_p33 : lw_okq (⟨"RuleTree$Grower", "othersLeft", "(I)Z"⟩, 5) := ⟨⟨by decide +kernel, by decide +kernel⟩, List.mem_of_getElem? (i := 244) (by decide +kernel), List.mem_of_getElem? (i := 786) (by decide +kernel), List.mem_of_getElem? (i := 787) (by decide +kernel)⟩
theorem lw_p34 : lw_okq (⟨"RuleTree$Grower", "ruleOut", "(II)V"⟩, 5) := ⟨⟨by decide +kernel, by decide +kernel⟩, List.mem_of_getElem? (i := 244) (by decide +kernel), List.mem_of_getElem? (i := 806) (by decide +kernel), List.mem_of_getElem? (i := 807) (by decide +kernel)⟩
theorem lw_p35 : lw_okq (⟨"RuleTree", "hasTree", "()Z"⟩, 12) := ⟨⟨by decide +kernel, by decide +kernel⟩, List.mem_of_getElem? (i := 17) (by decide +kernel), List.mem_of_getElem? (i := 810) (by decide +kernel), List.mem_of_getElem? (i := 811) (by decide +kernel)⟩
theorem lw_p36 : lw_okq (⟨"RuleTree$Nodes", "isEndWith", "(II)Z"⟩, 10) := ⟨⟨by decide +kernel, by decide +kernel⟩, List.mem_of_getElem? (i := 205) (by decide +kernel), List.mem_of_getElem? (i := 824) (by decide +kernel), List.mem_of_getElem? (i := 825) (by decide +kernel)⟩
theorem lw_p37 : lw_okq (⟨"RuleTree$Gap", "tellBranch", "(II)V"⟩, 6) := ⟨⟨by decide +kernel, by decide +kernel⟩, List.mem_of_getElem? (i := 295) (by decide +kernel), List.mem_of_getElem? (i := 831) (by decide +kernel), List.mem_of_getElem? (i := 832) (by decide +kernel)⟩
theorem lw_p38 : lw_okq (⟨"RuleTree$Gap", "leastOther", "(I)I"⟩, 6) := ⟨⟨by decide +kernel, by decide +kernel⟩, List.mem_of_getElem? (i := 295) (by decide +kernel), List.mem_of_getElem? (i := 838) (by decide +kernel), List.mem_of_getElem? (i := 839) (by decide +kernel)⟩
theorem lw_p39 : lw_okq (⟨"RuleTree$Walker", "branch", "(I)I"⟩, 6) := ⟨⟨by decide +kernel, by decide +kernel⟩, List.mem_of_getElem? (i := 268) (by decide +kernel), List.mem_of_getElem? (i := 872) (by decide +kernel), List.mem_of_getElem? (i := 873) (by decide +kernel)⟩
theorem lw_p40 : lw_okq (⟨"RuleTree$Walker", "valueAt", "(I)I"⟩, 6) := ⟨⟨by decide +kernel, by decide +kernel⟩, List.mem_of_getElem? (i := 268) (by decide +kernel), List.mem_of_getElem? (i := 876) (by decide +kernel), List.mem_of_getElem? (i := 877) (by decide +kernel)⟩
theorem lw_p41 : lw_okq (⟨"RuleTree$Walker", "inner", "(III)I"⟩, 6) := ⟨⟨by decide +kernel, by decide +kernel⟩, List.mem_of_getElem? (i := 268) (by decide +kernel), List.mem_of_getElem? (i := 886) (by decide +kernel), List.mem_of_getElem? (i := 887) (by decide +kernel)⟩
theorem lw_p42 : lw_okq (⟨"RuleTree$Walker", "branchFor", "(II)I"⟩, 6) := ⟨⟨by decide +kernel, by decide +kernel⟩, List.mem_of_getElem? (i := 268) (by decide +kernel), List.mem_of_getElem? (i := 902) (by decide +kernel), List.mem_of_getElem? (i := 903) (by decide +kernel)⟩
theorem lw_p43 : lw_okq (⟨"RuleTree$Walker", "sameArguments", "(II)Z"⟩, 6) := ⟨⟨by decide +kernel, by decide +kernel⟩, List.mem_of_getElem? (i := 268) (by decide +kernel), List.mem_of_getElem? (i := 909) (by decide +kernel), List.mem_of_getElem? (i := 910) (by decide +kernel)⟩
theorem lw_p44 : lw_okq (⟨"RuleTree$Gap", "below", "(II)I"⟩, 6) := ⟨⟨by decide +kernel, by decide +kernel⟩, List.mem_of_getElem? (i := 295) (by decide +kernel), List.mem_of_getElem? (i := 964) (by decide +kernel), List.mem_of_getElem? (i := 965) (by decide +kernel)⟩
theorem lw_p45 : lw_okq (⟨"RuleTree$Gap", "childOrBare", "(II)I"⟩, 6) := ⟨⟨by decide +kernel, by decide +kernel⟩, List.mem_of_getElem? (i := 295) (by decide +kernel), List.mem_of_getElem? (i := 970) (by decide +kernel), List.mem_of_getElem? (i := 971) (by decide +kernel)⟩
theorem lw_p46 : lw_okq (⟨"RuleTree$Gap", "tellPart", "(II)I"⟩, 6) := ⟨⟨by decide +kernel, by decide +kernel⟩, List.mem_of_getElem? (i := 295) (by decide +kernel), List.mem_of_getElem? (i := 980) (by decide +kernel), List.mem_of_getElem? (i := 981) (by decide +kernel)⟩
theorem lw_p47 : lw_okq (⟨"RuleTreeModel", "make", "(IIIIIZ)I"⟩, 46) := ⟨⟨by decide +kernel, by decide +kernel⟩, List.mem_of_getElem? (i := 992) (by decide +kernel), List.mem_of_getElem? (i := 1150) (by decide +kernel), List.mem_of_getElem? (i := 1151) (by decide +kernel)⟩
def lw_privs_3 : List (MethodName × Nat) := [(⟨"RuleTree$Grower", "isAsked", "(I)Z"⟩, 5), (⟨"RuleTree$Grower", "othersLeft", "(I)Z"⟩, 5), (⟨"RuleTree$Grower", "ruleOut", "(II)V"⟩, 5), (⟨"RuleTree", "hasTree", "()Z"⟩, 12), (⟨"RuleTree$Nodes", "isEndWith", "(II)Z"⟩, 10), (⟨"RuleTree$Gap", "tellBranch", "(II)V"⟩, 6), (⟨"RuleTree$Gap", "leastOther", "(I)I"⟩, 6), (⟨"RuleTree$Walker", "branch", "(I)I"⟩, 6), (⟨"RuleTree$Walker", "valueAt", "(I)I"⟩, 6), (⟨"RuleTree$Walker", "inner", "(III)I"⟩, 6), (⟨"RuleTree$Walker", "branchFor", "(II)I"⟩, 6), (⟨"RuleTree$Walker", "sameArguments", "(II)Z"⟩, 6), (⟨"RuleTree$Gap", "below", "(II)I"⟩, 6), (⟨"RuleTree$Gap", "childOrBare", "(II)I"⟩, 6), (⟨"RuleTree$Gap", "tellPart", "(II)I"⟩, 6), (⟨"RuleTreeModel", "make", "(IIIIIZ)I"⟩, 46)]
theorem lw_r3 : ∀ q ∈ lw_privs_3, lw_okq q := List.forall_mem_cons.mpr ⟨lw_p32, List.forall_mem_cons.mpr ⟨lw_p33, List.forall_mem_cons.mpr ⟨lw_p34, List.forall_mem_cons.mpr ⟨lw_p35, List.forall_mem_cons.mpr ⟨lw_p36, List.forall_mem_cons.mpr ⟨lw_p37, List.forall_mem_cons.mpr ⟨lw_p38, List.forall_mem_cons.mpr ⟨lw_p39, List.forall_mem_cons.mpr ⟨lw_p40, List.forall_mem_cons.mpr ⟨lw_p41, List.forall_mem_cons.mpr ⟨lw_p42, List.forall_mem_cons.mpr ⟨lw_p43, List.forall_mem_cons.mpr ⟨lw_p44, List.forall_mem_cons.mpr ⟨lw_p45, List.forall_mem_cons.mpr ⟨lw_p46, List.forall_mem_cons.mpr ⟨lw_p47, fun _ h => absurd h List.not_mem_nil⟩⟩⟩⟩⟩⟩⟩⟩⟩⟩⟩⟩⟩⟩⟩⟩
theorem lw_p48 : lw_okq (⟨"RuleTreeModel", "isPattern", "(I)Z"⟩, 46) := ⟨⟨by decide +kernel, by decide +kernel⟩, List.mem_of_getElem? (i := 992) (by decide +kernel), List.mem_of_getElem? (i := 1162) (by decide +kernel), List.mem_of_getElem? (i := 1163) (by decide +kernel)⟩
theorem lw_p49 : lw_okq (⟨"RuleTreeModel", "isValue", "(I)Z"⟩, 46) := ⟨⟨by decide +kernel, by decide +kernel⟩, List.mem_of_getElem? (i := 992) (by decide +kernel), List.mem_of_getElem? (i := 1182) (by decide +kernel), List.mem_of_getElem? (i := 1183) (by decide +kernel)⟩
theorem lw_p50 : lw_okq (⟨"RuleTreeModel", "matches", "(II)Z"⟩, 46) := ⟨⟨by decide +kernel, by decide +kernel⟩, List.mem_of_getElem? (i := 992) (by decide +kernel), List.mem_of_getElem? (i := 1186) (by decide +kernel), List.mem_of_getElem? (i := 1187) (by decide +kernel)⟩
theorem lw_p51 : lw_okq (⟨"RuleTreeModel", "pair", "(II)V"⟩, 46) := ⟨⟨by decide +kernel, by decide +kernel⟩, List.mem_of_getElem? (i := 992) (by decide +kernel), List.mem_of_getElem? (i := 1190) (by decide +kernel), List.mem_of_getElem? (i := 1191) (by decide +kernel)⟩
theorem lw_p52 : lw_okq (⟨"RuleTreeModel", "areOneSort", "(II)Z"⟩, 46) := ⟨⟨by decide +kernel, by decide +kernel⟩, List.mem_of_getElem? (i := 992) (by decide +kernel), List.mem_of_getElem? (i := 1194) (by decide +kernel), List.mem_of_getElem? (i := 1195) (by decide +kernel)⟩
theorem lw_p53 : lw_okq (⟨"RuleTreeModel", "pairFields", "(II)V"⟩, 46) := ⟨⟨by decide +kernel, by decide +kernel⟩, List.mem_of_getElem? (i := 992) (by decide +kernel), List.mem_of_getElem? (i := 1198) (by decide +kernel), List.mem_of_getElem? (i := 1199) (by decide +kernel)⟩
theorem lw_p54 : lw_okq (⟨"RuleTreeModel", "fieldOf", "(II)I"⟩, 46) := ⟨⟨by decide +kernel, by decide +kernel⟩, List.mem_of_getElem? (i := 992) (by decide +kernel), List.mem_of_getElem? (i := 1202) (by decide +kernel), List.mem_of_getElem? (i := 1203) (by decide +kernel)⟩
theorem lw_p55 : lw_okq (⟨"RuleTreeModel", "areOne", "(II)Z"⟩, 46) := ⟨⟨by decide +kernel, by decide +kernel⟩, List.mem_of_getElem? (i := 992) (by decide +kernel), List.mem_of_getElem? (i := 1206) (by decide +kernel), List.mem_of_getElem? (i := 1207) (by decide +kernel)⟩
theorem lw_p56 : lw_okq (⟨"RuleTreeModel", "goTogether", "(II)Z"⟩, 46) := ⟨⟨by decide +kernel, by decide +kernel⟩, List.mem_of_getElem? (i := 992) (by decide +kernel), List.mem_of_getElem? (i := 1214) (by decide +kernel), List.mem_of_getElem? (i := 1215) (by decide +kernel)⟩
theorem lw_p57 : lw_okq (⟨"RuleTreeModel", "ask", "(II)V"⟩, 46) := ⟨⟨by decide +kernel, by decide +kernel⟩, List.mem_of_getElem? (i := 992) (by decide +kernel), List.mem_of_getElem? (i := 1222) (by decide +kernel), List.mem_of_getElem? (i := 1223) (by decide +kernel)⟩
theorem lw_p58 : lw_okq (⟨"RuleTreeModel", "placeBelow", "(IIJ)I"⟩, 46) := ⟨⟨by decide +kernel, by decide +kernel⟩, List.mem_of_getElem? (i := 992) (by decide +kernel), List.mem_of_getElem? (i := 1226) (by decide +kernel), List.mem_of_getElem? (i := 1227) (by decide +kernel)⟩
theorem lw_p59 : lw_okq (⟨"RuleTreeModel", "childOf", "(IJ)I"⟩, 46) := ⟨⟨by decide +kernel, by decide +kernel⟩, List.mem_of_getElem? (i := 992) (by decide +kernel), List.mem_of_getElem? (i := 1230) (by decide +kernel), List.mem_of_getElem? (i := 1231) (by decide +kernel)⟩
theorem lw_p60 : lw_okq (⟨"RuleTreeModel", "numberOf", "(I)J"⟩, 46) := ⟨⟨by decide +kernel, by decide +kernel⟩, List.mem_of_getElem? (i := 992) (by decide +kernel), List.mem_of_getElem? (i := 1234) (by decide +kernel), List.mem_of_getElem? (i := 1235) (by decide +kernel)⟩
theorem lw_p61 : lw_okq (⟨"RuleTreeModel", "inside", "(IJ)J"⟩, 46) := ⟨⟨by decide +kernel, by decide +kernel⟩, List.mem_of_getElem? (i := 992) (by decide +kernel), List.mem_of_getElem? (i := 1238) (by decide +kernel), List.mem_of_getElem? (i := 1239) (by decide +kernel)⟩
theorem lw_p62 : lw_okq (⟨"RuleTreeModel", "start", "()V"⟩, 46) := ⟨⟨by decide +kernel, by decide +kernel⟩, List.mem_of_getElem? (i := 992) (by decide +kernel), List.mem_of_getElem? (i := 1257) (by decide +kernel), List.mem_of_getElem? (i := 1258) (by decide +kernel)⟩
theorem lw_p63 : lw_okq (⟨"RuleTreeModel", "setPossible", "(IIZ)V"⟩, 46) := ⟨⟨by decide +kernel, by decide +kernel⟩, List.mem_of_getElem? (i := 992) (by decide +kernel), List.mem_of_getElem? (i := 1261) (by decide +kernel), List.mem_of_getElem? (i := 1262) (by decide +kernel)⟩
def lw_privs_4 : List (MethodName × Nat) := [(⟨"RuleTreeModel", "isPattern", "(I)Z"⟩, 46), (⟨"RuleTreeModel", "isValue", "(I)Z"⟩, 46), (⟨"RuleTreeModel", "matches", "(II)Z"⟩, 46), (⟨"RuleTreeModel", "pair", "(II)V"⟩, 46), (⟨"RuleTreeModel", "areOneSort", "(II)Z"⟩, 46), (⟨"RuleTreeModel", "pairFields", "(II)V"⟩, 46), (⟨"RuleTreeModel", "fieldOf", "(II)I"⟩, 46), (⟨"RuleTreeModel", "areOne", "(II)Z"⟩, 46), (⟨"RuleTreeModel", "goTogether", "(II)Z"⟩, 46), (⟨"RuleTreeModel", "ask", "(II)V"⟩, 46), (⟨"RuleTreeModel", "placeBelow", "(IIJ)I"⟩, 46), (⟨"RuleTreeModel", "childOf", "(IJ)I"⟩, 46), (⟨"RuleTreeModel", "numberOf", "(I)J"⟩, 46), (⟨"RuleTreeModel", "inside", "(IJ)J"⟩, 46), (⟨"RuleTreeModel", "start", "()V"⟩, 46), (⟨"RuleTreeModel", "setPossible", "(IIZ)V"⟩, 46)]
theorem lw_r4 : ∀ q ∈ lw_privs_4, lw_okq q := List.forall_mem_cons.mpr ⟨lw_p48, List.forall_mem_cons.mpr ⟨lw_p49, List.forall_mem_cons.mpr ⟨lw_p50, List.forall_mem_cons.mpr ⟨lw_p51, List.forall_mem_cons.mpr ⟨lw_p52, List.forall_mem_cons.mpr ⟨lw_p53, List.forall_mem_cons.mpr ⟨lw_p54, List.forall_mem_cons.mpr ⟨lw_p55, List.forall_mem_cons.mpr ⟨lw_p56, List.forall_mem_cons.mpr ⟨lw_p57, List.forall_mem_cons.mpr ⟨lw_p58, List.forall_mem_cons.mpr ⟨lw_p59, List.forall_mem_cons.mpr ⟨lw_p60, List.forall_mem_cons.mpr ⟨lw_p61, List.forall_mem_cons.mpr ⟨lw_p62, List.forall_mem_cons.mpr ⟨lw_p63, fun _ h => absurd h List.not_mem_nil⟩⟩⟩⟩⟩⟩⟩⟩⟩⟩⟩⟩⟩⟩⟩⟩
theorem lw_p64 : lw_okq (⟨"RuleTreeModel", "enter", "(I)Z"⟩, 46) := ⟨⟨by decide +kernel, by decide +kernel⟩, List.mem_of_getElem? (i := 992) (by decide +kernel), List.mem_of_getElem? (i := 1265) (by decide +kernel), List.mem_of_getElem? (i := 1266) (by decide +kernel)⟩
theorem lw_p65 : lw_okq (⟨"RuleTreeModel", "firstPossible", "(I)I"⟩, 46) := ⟨⟨by decide +kernel, by decide +kernel⟩, List.mem_of_getElem? (i := 992) (by decide +kernel), List.mem_of_getElem? (i := 1269) (by decide +kernel), List.mem_of_getElem? (i := 1270) (by decide +kernel)⟩
theorem lw_p66 : lw_okq (⟨"RuleTreeModel", "isPossible", "(II)Z"⟩, 46) := ⟨⟨by decide +kernel, by decide +kernel⟩, List.mem_of_getElem? (i := 992) (by decide +kernel), List.mem_of_getElem? (i := 1273) (by decide +kernel), List.mem_of_getElem? (i := 1274) (by decide +kernel)⟩
theorem lw_p67 : lw_okq (⟨"RuleTreeModel", "nextPlace", "(I)I"⟩, 46) := ⟨⟨by decide +kernel, by decide +kernel⟩, List.mem_of_getElem? (i := 992) (by decide +kernel), List.mem_of_getElem? (i := 1277) (by decide +kernel), List.mem_of_getElem? (i := 1278) (by decide +kernel)⟩
theorem lw_p68 : lw_okq (⟨"RuleTreeModel", "end", "(II)V"⟩, 46) := ⟨⟨by decide +kernel, by decide +kernel⟩, List.mem_of_getElem? (i := 992) (by decide +kernel), List.mem_of_getElem? (i := 1281) (by decide +kernel), List.mem_of_getElem? (i := 1282) (by decide +kernel)⟩
theorem lw_p69 : lw_okq (⟨"RuleTreeModel", "leastOther", "(I)I"⟩, 46) := ⟨⟨by decide +kernel, by decide +kernel⟩, List.mem_of_getElem? (i := 992) (by decide +kernel), List.mem_of_getElem? (i := 1285) (by decide +kernel), List.mem_of_getElem? (i := 1286) (by decide +kernel)⟩
theorem lw_p70 : lw_okq (⟨"RuleTreeModel", "nextNumber", "(IJ)J"⟩, 46) := ⟨⟨by decide +kernel, by decide +kernel⟩, List.mem_of_getElem? (i := 992) (by decide +kernel), List.mem_of_getElem? (i := 1289) (by decide +kernel), List.mem_of_getElem? (i := 1290) (by decide +kernel)⟩
theorem lw_p71 : lw_okq (⟨"RuleTreeModel", "asked", "(II)I"⟩, 46) := ⟨⟨by decide +kernel, by decide +kernel⟩, List.mem_of_getElem? (i := 992) (by decide +kernel), List.mem_of_getElem? (i := 1294) (by decide +kernel), List.mem_of_getElem? (i := 1295) (by decide +kernel)⟩
theorem lw_p72 : lw_okq (⟨"RuleTreeModel", "goOn", "(I)Z"⟩, 46) := ⟨⟨by decide +kernel, by decide +kernel⟩, List.mem_of_getElem? (i := 992) (by decide +kernel), List.mem_of_getElem? (i := 1299) (by decide +kernel), List.mem_of_getElem? (i := 1300) (by decide +kernel)⟩
theorem lw_p73 : lw_okq (⟨"RuleTreeModel", "hasOthers", "(I)Z"⟩, 46) := ⟨⟨by decide +kernel, by decide +kernel⟩, List.mem_of_getElem? (i := 992) (by decide +kernel), List.mem_of_getElem? (i := 1303) (by decide +kernel), List.mem_of_getElem? (i := 1304) (by decide +kernel)⟩
theorem lw_p74 : lw_okq (⟨"RuleTreeModel", "example", "(I)I"⟩, 46) := ⟨⟨by decide +kernel, by decide +kernel⟩, List.mem_of_getElem? (i := 992) (by decide +kernel), List.mem_of_getElem? (i := 1307) (by decide +kernel), List.mem_of_getElem? (i := 1308) (by decide +kernel)⟩
theorem lw_p75 : lw_okq (⟨"RuleTreeModel", "branches", "(I)I"⟩, 46) := ⟨⟨by decide +kernel, by decide +kernel⟩, List.mem_of_getElem? (i := 992) (by decide +kernel), List.mem_of_getElem? (i := 1311) (by decide +kernel), List.mem_of_getElem? (i := 1312) (by decide +kernel)⟩
theorem lw_p76 : lw_okq (⟨"RuleTreeModel", "narrow", "(IJZ)V"⟩, 46) := ⟨⟨by decide +kernel, by decide +kernel⟩, List.mem_of_getElem? (i := 992) (by decide +kernel), List.mem_of_getElem? (i := 1315) (by decide +kernel), List.mem_of_getElem? (i := 1316) (by decide +kernel)⟩
theorem lw_p77 : lw_okq (⟨"RuleTreeModel", "tell", "(I)I"⟩, 46) := ⟨⟨by decide +kernel, by decide +kernel⟩, List.mem_of_getElem? (i := 992) (by decide +kernel), List.mem_of_getElem? (i := 1323) (by decide +kernel), List.mem_of_getElem? (i := 1324) (by decide +kernel)⟩
theorem lw_p78 : lw_okq (⟨"RuleTreeModel", "partAt", "(II)I"⟩, 46) := ⟨⟨by decide +kernel, by decide +kernel⟩, List.mem_of_getElem? (i := 992) (by decide +kernel), List.mem_of_getElem? (i := 1327) (by decide +kernel), List.mem_of_getElem? (i := 1328) (by decide +kernel)⟩
theorem lw_p79 : lw_okq (⟨"RuleTreeModel", "isRecordPlace", "(I)Z"⟩, 46) := ⟨⟨by decide +kernel, by decide +kernel⟩, List.mem_of_getElem? (i := 992) (by decide +kernel), List.mem_of_getElem? (i := 1331) (by decide +kernel), List.mem_of_getElem? (i := 1332) (by decide +kernel)⟩
def lw_privs_5 : List (MethodName × Nat) := [(⟨"RuleTreeModel", "enter", "(I)Z"⟩, 46), (⟨"RuleTreeModel", "firstPossible", "(I)I"⟩, 46), (⟨"RuleTreeModel", "isPossible", "(II)Z"⟩, 46), (⟨"RuleTreeModel", "nextPlace", "(I)I"⟩, 46), (⟨"RuleTreeModel", "end", "(II)V"⟩, 46), (⟨"RuleTreeModel", "leastOther", "(I)I"⟩, 46), (⟨"RuleTreeModel", "nextNumber", "(IJ)J"⟩, 46), (⟨"RuleTreeModel", "asked", "(II)I"⟩, 46), (⟨"RuleTreeModel", "goOn", "(I)Z"⟩, 46), (⟨"RuleTreeModel", "hasOthers", "(I)Z"⟩, 46), (⟨"RuleTreeModel", "example", "(I)I"⟩, 46), (⟨"RuleTreeModel", "branches", "(I)I"⟩, 46), (⟨"RuleTreeModel", "narrow", "(IJZ)V"⟩, 46), (⟨"RuleTreeModel", "tell", "(I)I"⟩, 46), (⟨"RuleTreeModel", "partAt", "(II)I"⟩, 46), (⟨"RuleTreeModel", "isRecordPlace", "(I)Z"⟩, 46)]
theorem lw_r5 : ∀ q ∈ lw_privs_5, lw_okq q := List.forall_mem_cons.mpr ⟨lw_p64, List.forall_mem_cons.mpr ⟨lw_p65, List.forall_mem_cons.mpr ⟨lw_p66, List.forall_mem_cons.mpr ⟨lw_p67, List.forall_mem_cons.mpr ⟨lw_p68, List.forall_mem_cons.mpr ⟨lw_p69, List.forall_mem_cons.mpr ⟨lw_p70, List.forall_mem_cons.mpr ⟨lw_p71, List.forall_mem_cons.mpr ⟨lw_p72, List.forall_mem_cons.mpr ⟨lw_p73, List.forall_mem_cons.mpr ⟨lw_p74, List.forall_mem_cons.mpr ⟨lw_p75, List.forall_mem_cons.mpr ⟨lw_p76, List.forall_mem_cons.mpr ⟨lw_p77, List.forall_mem_cons.mpr ⟨lw_p78, List.forall_mem_cons.mpr ⟨lw_p79, fun _ h => absurd h List.not_mem_nil⟩⟩⟩⟩⟩⟩⟩⟩⟩⟩⟩⟩⟩⟩⟩⟩
theorem lw_p80 : lw_okq (⟨"RuleTreeModel", "isOdd", "(II)Z"⟩, 46) := ⟨⟨by decide +kernel, by decide +kernel⟩, List.mem_of_getElem? (i := 992) (by decide +kernel), List.mem_of_getElem? (i := 1335) (by decide +kernel), List.mem_of_getElem? (i := 1336) (by decide +kernel)⟩
theorem lw_p81 : lw_okq (⟨"RuleTreeModel", "missedAt", "(I)I"⟩, 46) := ⟨⟨by decide +kernel, by decide +kernel⟩, List.mem_of_getElem? (i := 992) (by decide +kernel), List.mem_of_getElem? (i := 1356) (by decide +kernel), List.mem_of_getElem? (i := 1357) (by decide +kernel)⟩
theorem lw_p82 : lw_okq (⟨"RuleTreeModel", "hasArgument", "(II)Z"⟩, 46) := ⟨⟨by decide +kernel, by decide +kernel⟩, List.mem_of_getElem? (i := 992) (by decide +kernel), List.mem_of_getElem? (i := 1360) (by decide +kernel), List.mem_of_getElem? (i := 1361) (by decide +kernel)⟩
theorem lw_p83 : lw_okq (⟨"RuleTreeModel", "anyAt", "(I)I"⟩, 46) := ⟨⟨by decide +kernel, by decide +kernel⟩, List.mem_of_getElem? (i := 992) (by decide +kernel), List.mem_of_getElem? (i := 1364) (by decide +kernel), List.mem_of_getElem? (i := 1365) (by decide +kernel)⟩
theorem lw_p84 : lw_okq (⟨"RuleTreeModel", "someAt", "(II)I"⟩, 46) := ⟨⟨by decide +kernel, by decide +kernel⟩, List.mem_of_getElem? (i := 992) (by decide +kernel), List.mem_of_getElem? (i := 1368) (by decide +kernel), List.mem_of_getElem? (i := 1369) (by decide +kernel)⟩
theorem lw_p85 : lw_okq (⟨"RuleTreeModel", "isToldRecord", "(I)Z"⟩, 46) := ⟨⟨by decide +kernel, by decide +kernel⟩, List.mem_of_getElem? (i := 992) (by decide +kernel), List.mem_of_getElem? (i := 1372) (by decide +kernel), List.mem_of_getElem? (i := 1373) (by decide +kernel)⟩
def lw_privs_6 : List (MethodName × Nat) := [(⟨"RuleTreeModel", "isOdd", "(II)Z"⟩, 46), (⟨"RuleTreeModel", "missedAt", "(I)I"⟩, 46), (⟨"RuleTreeModel", "hasArgument", "(II)Z"⟩, 46), (⟨"RuleTreeModel", "anyAt", "(I)I"⟩, 46), (⟨"RuleTreeModel", "someAt", "(II)I"⟩, 46), (⟨"RuleTreeModel", "isToldRecord", "(I)Z"⟩, 46)]
theorem lw_r6 : ∀ q ∈ lw_privs_6, lw_okq q := List.forall_mem_cons.mpr ⟨lw_p80, List.forall_mem_cons.mpr ⟨lw_p81, List.forall_mem_cons.mpr ⟨lw_p82, List.forall_mem_cons.mpr ⟨lw_p83, List.forall_mem_cons.mpr ⟨lw_p84, List.forall_mem_cons.mpr ⟨lw_p85, fun _ h => absurd h List.not_mem_nil⟩⟩⟩⟩⟩⟩
def lw_privs : List (MethodName × Nat) := lw_privs_1 ++ (lw_privs_2 ++ (lw_privs_3 ++ (lw_privs_4 ++ (lw_privs_5 ++ (lw_privs_6)))))
def lw_tbl : List Cond := k2_sels lw_privs ++ tables_1
theorem lw_privs_ok : ∀ q ∈ lw_privs, lw_okq q := by
  show ∀ q ∈ lw_privs_1 ++ (lw_privs_2 ++ (lw_privs_3 ++ (lw_privs_4 ++ (lw_privs_5 ++ (lw_privs_6))))), lw_okq q
  exact List.forall_mem_append.mpr ⟨lw_r1, List.forall_mem_append.mpr ⟨lw_r2, List.forall_mem_append.mpr ⟨lw_r3, List.forall_mem_append.mpr ⟨lw_r4, List.forall_mem_append.mpr ⟨lw_r5, lw_r6⟩⟩⟩⟩⟩
-- ===== end of PART A; then your names; then what follows =====
end
section
-- THE MACHINE, a stretch at a time: pure instructions are done by a function (zrun), checked against the code by a table
def zbind {α β : Type} (x : α) (k : α → β) : β := k x
def zbind2 {α β γ : Type} (x : α × β) (k : α → β → γ) : γ := k x.1 x.2
def z_lushr (x : Int64) (y : Int32) : Int64 := (x.toUInt64 >>> (y.toInt64.toUInt64 &&& Int64.toUInt64 63)).toInt64
def z_lshl (x : Int64) (y : Int32) : Int64 := x <<< (y.toInt64 &&& 63)
abbrev zLv : Type := List (Nat × Value)
/-- a row of a method's table: pc, instruction, length, where it jumps, its constant -/
abbrev zTr : Type := Nat × Jvm.ClassFile.Instr × Nat × Nat × Int32
def zins (i : Nat) (v : Value) : zLv → zLv
  | [] => [(i, v)]
  | q :: r => if i < q.1 then (i, v) :: q :: r else q :: zins i v r
def zput (lv : zLv) (i : Nat) (v : Value) : zLv := zins i v (lv.filter (fun q => !(q.1 == i) && !(q.1 + 1 == i && q.2.category == 2)))
def zput2 (lv : zLv) (i : Nat) (v : Value) : zLv := zins i v (lv.filter (fun q => !(q.1 == i) && (!(q.1 == i + 1) && !(q.1 + 1 == i && q.2.category == 2))))
theorem zins_mem {i : Nat} {v : Value} {q : Nat × Value} : ∀ {l : zLv}, q ∈ zins i v l → q ∈ (i, v) :: l := by
  intro l
  induction l with
  | nil => intro h; exact h
  | cons a r ih =>
    intro h
    unfold zins at h
    split at h
    · exact h
    · rcases List.mem_cons.mp h with h | h
      · exact List.mem_cons_of_mem _ (h ▸ List.mem_cons_self)
      · rcases List.mem_cons.mp (ih h) with h | h
        · exact h ▸ List.mem_cons_self
        · exact List.mem_cons_of_mem _ (List.mem_cons_of_mem _ h)
theorem zl_mem {k : Nat} {v : Value} : ∀ {lv : zLv}, lv.lookup k = some v → (k, v) ∈ lv := by
  intro lv
  induction lv with
  | nil => intro h; cases h
  | cons a r ih =>
    intro h
    obtain ⟨x, y⟩ := a
    rw [List.lookup_cons] at h
    by_cases hk : (k == x) = true
    · rw [hk] at h
      have e1 : k = x := by simpa using hk
      have e2 : y = v := by simpa using h
      subst e1; subst e2
      exact List.mem_cons_self
    · have hk : (k == x) = false := by simpa using hk
      rw [hk] at h
      exact List.mem_cons_of_mem _ (ih h)
theorem zh_sub {ls : Array Slot} {nL : Nat} {l l' : zLv} (h : lv_has ls nL l) (hs : ∀ q ∈ l', q ∈ l) : lv_has ls nL l' := ⟨h.1, h.2.1, fun q hq => h.2.2 q (hs q hq)⟩
theorem zh_at {ls : Array Slot} {nL k : Nat} {l : zLv} {v : Value} (h : lv_has ls nL l) (hk : l.lookup k = some v) : ls[k]? = some (.val v) := h.2.2 (k, v) (zl_mem hk)
def zp (i : Jvm.ClassFile.Instr) (tgt : Nat) (v : Int32) (pc : Nat) (lv : zLv) (st : List Value) : Option (Nat × zLv × List Value) :=
  match i with
  | .aload_n k => (match lv.lookup k.val with | some (.ref a) => some (pc + 1, lv, .ref a :: st) | _ => none)
  | .aload k => (match lv.lookup k with | some (.ref a) => some (pc + 2, lv, .ref a :: st) | _ => none)
  | .iload_n k => (match lv.lookup k.val with | some (.int x) => some (pc + 1, lv, .int x :: st) | _ => none)
  | .iload k => (match lv.lookup k with | some (.int x) => some (pc + 2, lv, .int x :: st) | _ => none)
  | .lload_n k => (match lv.lookup k.val with | some (.long x) => some (pc + 1, lv, .long x :: st) | _ => none)
  | .lload k => (match lv.lookup k with | some (.long x) => some (pc + 2, lv, .long x :: st) | _ => none)
  | .istore_n k => (match st with | .int x :: r => some (pc + 1, zput lv k.val (.int x), r) | _ => none)
  | .istore k => (match st with | .int x :: r => some (pc + 2, zput lv k (.int x), r) | _ => none)
  | .iconst _ => some (pc + 1, lv, .int v :: st)
  | .bipush _ => some (pc + 2, lv, .int v :: st)
  | .sipush _ => some (pc + 3, lv, .int v :: st)
  | .lconst k => some (pc + 1, lv, .long (Int64.ofNat k.val) :: st)
  | .iadd => (match st with | .int y :: .int x :: r => some (pc + 1, lv, .int (x + y) :: r) | _ => none)
  | .isub => (match st with | .int y :: .int x :: r => some (pc + 1, lv, .int (x - y) :: r) | _ => none)
  | .imul => (match st with | .int y :: .int x :: r => some (pc + 1, lv, .int (x * y) :: r) | _ => none)
  | .iand => (match st with | .int y :: .int x :: r => some (pc + 1, lv, .int (x &&& y) :: r) | _ => none)
  | .land => (match st with | .long y :: .long x :: r => some (pc + 1, lv, .long (x &&& y) :: r) | _ => none)
  | .lor => (match st with | .long y :: .long x :: r => some (pc + 1, lv, .long (x ||| y) :: r) | _ => none)
  | .lushr => (match st with | .int y :: .long x :: r => some (pc + 1, lv, .long (z_lushr x y) :: r) | _ => none)
  | .lshl => (match st with | .int y :: .long x :: r => some (pc + 1, lv, .long (z_lshl x y) :: r) | _ => none)
  | .lcmp => (match st with | .long y :: .long x :: r => some (pc + 1, lv, .int (lg_cmp x y) :: r) | _ => none)
  | .l2i => (match st with | .long x :: r => some (pc + 1, lv, .int x.toInt32 :: r) | _ => none)
  | .i2l => (match st with | .int x :: r => some (pc + 1, lv, .long x.toInt64 :: r) | _ => none)
  | .dup => (match st with | .int x :: r => some (pc + 1, lv, .int x :: .int x :: r) | .ref a :: r => some (pc + 1, lv, .ref a :: .ref a :: r) | _ => none)
  | .pop => (match st with | .int _ :: r => some (pc + 1, lv, r) | .ref _ :: r => some (pc + 1, lv, r) | _ => none)
  | .iinc k _ => (match lv.lookup k with | some (.int x) => some (pc + 3, zput lv k (.int (x + v)), st) | _ => none)
  | .goto _ => some (tgt, lv, st)
  | _ => none
/-- what a row of the table says is so -/
def zokb (cc : ByteArray) (nL : Nat) (q : zTr) : Bool :=
  decide (decode cc q.1 = .ok (q.2.1, q.2.2.1)) && (match q.2.1 with
  | .aload _ => q.2.2.1 == 2
  | .iload _ => q.2.2.1 == 2
  | .lload _ => q.2.2.1 == 2
  | .istore_n k => q.2.2.1 == 1 && decide (k.val < nL)
  | .istore k => q.2.2.1 == 2 && decide (k < nL)
  | .iconst k => q.2.2.1 == 1 && decide (Int32.ofInt k = q.2.2.2.2)
  | .bipush k => q.2.2.1 == 2 && decide ((Int8.ofInt k).toInt32 = q.2.2.2.2)
  | .sipush k => q.2.2.1 == 3 && decide ((Int16.ofInt k).toInt32 = q.2.2.2.2)
  | .iinc k n => q.2.2.1 == 3 && decide (k < nL) && decide (Int32.ofInt n = q.2.2.2.2)
  | .goto o => q.2.2.1 == 3 && decide ((q.1 : Int) + o = (q.2.2.2.1 : Int))
  | .ifCond _ o => q.2.2.1 == 3 && decide ((q.1 : Int) + o = (q.2.2.2.1 : Int))
  | .if_icmp _ o => q.2.2.1 == 3 && decide ((q.1 : Int) + o = (q.2.2.2.1 : Int))
  | .getfield _ => q.2.2.1 == 3
  | .putfield _ => q.2.2.1 == 3
  | .invokevirtual _ => q.2.2.1 == 3
  | .invokespecial _ => q.2.2.1 == 3
  | .invokestatic _ => q.2.2.1 == 3
  | .ldc _ => q.2.2.1 == 2
  | .ldc2_w _ => q.2.2.1 == 3
  | .new _ => q.2.2.1 == 3
  | .newarray _ => q.2.2.1 == 2
  | .tableswitch _ _ _ _ => true
  | .lookupswitch _ _ => true
  | _ => q.2.2.1 == 1)
section ZP
variable {p : Program} {l : Launch} {e : Env} {R : Room} {s : State} {m : MethodId} {args : Array Value} {below : List Frame} {meth : Method} {c : Code} {H : Heap} {locs : List Loc} {cells slots : Nat} {Q : State → Prop} {cc : ByteArray}
set_option maxHeartbeats 4000000 in
theorem zp_ok (hx : p.tables.exec = Jvm.exec) (hb : c.code = cc) {i : Jvm.ClassFile.Instr} {len tgt nL pc pc' : Nat} {v : Int32} {lv lv' : zLv} {st st' : List Value} (ho : zokb cc nL (pc, i, len, tgt, v) = true) (h : zp i tgt v pc lv st = some (pc', lv', st')) {ls : Array Slot} (hl : lv_has ls nL lv)
    (k : ∀ ls' : Array Slot, lv_has ls' nL lv' → W p l e R s m args below meth c H locs cells slots Q (F0 m pc' ls' st')) : W p l e R s m args below meth c H locs cells slots Q (F0 m pc ls st) := by
  unfold zokb at ho
  rw [Bool.and_eq_true] at ho
  obtain ⟨hd, ho⟩ := ho
  have hd := of_decide_eq_true hd
  dsimp only at hd ho
  unfold zp at h
  split at h
  · split at h
    · rename_i hk; cases h; have := eq_of_beq ho; subst this; exact lv_aload_n hx hb hd rfl (zh_at hl hk) (k _ hl)
    · cases h
  · split at h
    · rename_i hk; cases h; have := eq_of_beq ho; subst this; exact lv_aload hx hb hd (zh_at hl hk) (k _ hl)
    · cases h
  · split at h
    · rename_i hk; cases h; have := eq_of_beq ho; subst this; exact lv_iload_n hx hb hd rfl (zh_at hl hk) (k _ hl)
    · cases h
  · split at h
    · rename_i hk; cases h; have := eq_of_beq ho; subst this; exact lv_iload hx hb hd (zh_at hl hk) (k _ hl)
    · cases h
  · split at h
    · rename_i hk; cases h; have := eq_of_beq ho; subst this; exact lv_lload_n hx hb hd rfl (zh_at hl hk) (k _ hl)
    · cases h
  · split at h
    · rename_i hk; cases h; have := eq_of_beq ho; subst this; exact lv_lload hx hb hd (zh_at hl hk) (k _ hl)
    · cases h
  · split at h
    · cases h
      rw [Bool.and_eq_true] at ho
      have := eq_of_beq ho.1; subst this
      exact lv_istore_n hx hb hd rfl hl (of_decide_eq_true ho.2) rfl (fun ls' hl' => k ls' (zh_sub hl' (fun q hq => zins_mem hq)))
    · cases h
  · split at h
    · cases h
      rw [Bool.and_eq_true] at ho
      have := eq_of_beq ho.1; subst this
      exact lv_istore hx hb hd hl (of_decide_eq_true ho.2) rfl (fun ls' hl' => k ls' (zh_sub hl' (fun q hq => zins_mem hq)))
    · cases h
  · cases h; rw [Bool.and_eq_true] at ho; have := eq_of_beq ho.1; subst this; exact lv_iconst hx hb hd (of_decide_eq_true ho.2) (k _ hl)
  · cases h; rw [Bool.and_eq_true] at ho; have := eq_of_beq ho.1; subst this; exact lv_bipush hx hb hd (of_decide_eq_true ho.2) (k _ hl)
  · cases h; rw [Bool.and_eq_true] at ho; have := eq_of_beq ho.1; subst this; exact lv_sipush hx hb hd (of_decide_eq_true ho.2) (k _ hl)
  · cases h; have := eq_of_beq ho; subst this; exact lv_lconst hx hb hd rfl (k _ hl)
  · split at h
    · cases h; have := eq_of_beq ho; subst this; exact lv_iadd hx hb hd (k _ hl)
    · cases h
  · split at h
    · cases h; have := eq_of_beq ho; subst this; exact lv_isub hx hb hd (k _ hl)
    · cases h
  · split at h
    · cases h; have := eq_of_beq ho; subst this; exact lv_imul hx hb hd (k _ hl)
    · cases h
  · split at h
    · cases h; have := eq_of_beq ho; subst this; exact lv_iand hx hb hd (k _ hl)
    · cases h
  · split at h
    · cases h; have := eq_of_beq ho; subst this; exact lv_land hx hb hd (k _ hl)
    · cases h
  · split at h
    · cases h; have := eq_of_beq ho; subst this; exact lv_lor hx hb hd (k _ hl)
    · cases h
  · split at h
    · cases h; have := eq_of_beq ho; subst this; exact lv_lushr hx hb hd rfl (k _ hl)
    · cases h
  · split at h
    · cases h; have := eq_of_beq ho; subst this; exact lv_lshl hx hb hd rfl (k _ hl)
    · cases h
  · split at h
    · cases h; have := eq_of_beq ho; subst this; exact W.lcmp hx hb hd (k _ hl)
    · cases h
  · split at h
    · cases h; have := eq_of_beq ho; subst this; exact lv_l2i hx hb hd rfl (k _ hl)
    · cases h
  · split at h
    · cases h; have := eq_of_beq ho; subst this; exact lv_i2l hx hb hd rfl (k _ hl)
    · cases h
  · split at h
    · cases h; have := eq_of_beq ho; subst this; exact lv_dup hx hb hd rfl (k _ hl)
    · cases h; have := eq_of_beq ho; subst this; exact lv_dup hx hb hd rfl (k _ hl)
    · cases h
  · split at h
    · cases h; have := eq_of_beq ho; subst this; exact lv_pop hx hb hd rfl (k _ hl)
    · cases h; have := eq_of_beq ho; subst this; exact lv_pop hx hb hd rfl (k _ hl)
    · cases h
  · split at h
    · rename_i hk
      cases h
      rw [Bool.and_eq_true, Bool.and_eq_true] at ho
      have := eq_of_beq ho.1.1; subst this
      obtain ⟨j, hj⟩ := List.getElem?_of_mem (zl_mem hk)
      exact lv_iinc hx hb hd hl hj (by rw [of_decide_eq_true ho.2]) (of_decide_eq_true ho.1.2) rfl (fun ls' hl' => k ls' (zh_sub hl' (fun q hq => zins_mem hq)))
    · cases h
  · cases h; rw [Bool.and_eq_true] at ho; have := eq_of_beq ho.1; subst this; exact lv_goto hx hb hd (of_decide_eq_true ho.2) (k _ hl)
  · cases h
/-- a stretch of pure instructions -/
def zrun (T : List zTr) : Nat → Nat → zLv → List Value → Option (Nat × zLv × List Value)
  | 0, pc, lv, st => some (pc, lv, st)
  | n + 1, pc, lv, st => match T.lookup pc with
    | none => none
    | some q => match zp q.1 q.2.2.1 q.2.2.2 pc lv st with
      | none => none
      | some r => zrun T n r.1 r.2.1 r.2.2
theorem zt_mem {k : Nat} {v : Jvm.ClassFile.Instr × Nat × Nat × Int32} : ∀ {T : List zTr}, T.lookup k = some v → (k, v) ∈ T := by
  intro T
  induction T with
  | nil => intro h; cases h
  | cons a r ih =>
    intro h
    obtain ⟨x, y⟩ := a
    rw [List.lookup_cons] at h
    by_cases hk : (k == x) = true
    · rw [hk] at h
      have e1 : k = x := by simpa using hk
      have e2 : y = v := by simpa using h
      subst e1; subst e2
      exact List.mem_cons_self
    · have hk : (k == x) = false := by simpa using hk
      rw [hk] at h
      exact List.mem_cons_of_mem _ (ih h)
/-- a method's table is its code's -/
def zTok (cc : ByteArray) (nL : Nat) (T : List zTr) : Prop := T.all (zokb cc nL) = true
theorem zTok.at {nL : Nat} {T : List zTr} (h : zTok cc nL T) {pc : Nat} {q : Jvm.ClassFile.Instr × Nat × Nat × Int32} (hq : T.lookup pc = some q) : zokb cc nL (pc, q) = true := List.all_eq_true.mp h _ (zt_mem hq)
theorem zTok.dec {nL : Nat} {T : List zTr} (h : zTok cc nL T) {pc : Nat} {q : Jvm.ClassFile.Instr × Nat × Nat × Int32} (hq : T.lookup pc = some q) : decode cc pc = .ok (q.1, q.2.1) := by
  have h1 := h.at hq
  unfold zokb at h1
  rw [Bool.and_eq_true] at h1
  exact of_decide_eq_true h1.1
theorem zrun_ok (hx : p.tables.exec = Jvm.exec) (hb : c.code = cc) {nL : Nat} {T : List zTr} (hT : zTok cc nL T) {lv' : zLv} {st' : List Value} {pc' : Nat} : ∀ (n pc : Nat) (lv : zLv) (st : List Value), zrun T n pc lv st = some (pc', lv', st') → ∀ {ls : Array Slot}, lv_has ls nL lv →
    (∀ ls' : Array Slot, lv_has ls' nL lv' → W p l e R s m args below meth c H locs cells slots Q (F0 m pc' ls' st')) → W p l e R s m args below meth c H locs cells slots Q (F0 m pc ls st) := by
  intro n
  induction n with
  | zero => intro pc lv st h ls hl k; unfold zrun at h; cases h; exact k _ hl
  | succ n ih =>
    intro pc lv st h ls hl k
    unfold zrun at h
    split at h
    · cases h
    · rename_i q hq
      split at h
      · cases h
      · rename_i r hr
        obtain ⟨i, len, tgt, v⟩ := q
        obtain ⟨r1, r2, r3⟩ := r
        exact zp_ok hx hb (hT.at hq) hr hl (fun ls' hl' => ih _ _ _ h hl' k)
end ZP
end
section
-- A METHOD'S BODY AGAINST A FUNCTION: SW says that from here the machine comes to the method's end with the state and the answer E
def zQ {σ : Type} (A : Nat → Prop) (Rep : σ → Heap → Prop) (E : σ × Option Value) : Array Value → State → Outcome → State → Prop := fun _ st o t => o = .returned E.2 ∧ Rep E.1 t.heap ∧ va_F A st t
def zFp {σ : Type} (S : σ) (e : Int32) : σ × Option Value := (S, some (.int e))
def zFi {σ : Type} (r : σ × Int32) : σ × Option Value := (r.1, some (.int r.2))
def zFpl {σ : Type} (S : σ) (e : Int64) : σ × Option Value := (S, some (.long e))
def zFil {σ : Type} (r : σ × Int64) : σ × Option Value := (r.1, some (.long r.2))
def zFv {σ : Type} (S : σ) : σ × Option Value := (S, none)
def zPre {σ : Type} (argsL : List Value) (D : va_G) (cl : List vw_C) (tys : List (ClassId × FieldType)) (A : Nat → Prop) (Rep : σ → Heap → Prop) (S : σ) : Array Value → State → Prop := va_Pc argsL (fun U => Rep S U.heap ∧ va_K D cl tys U ∧ ∀ q, U.heap.size ≤ q → A q)
/-- a contract: the method brings the state S to E.1 and answers E.2; what it makes is what the cost has grown by -/
def zMet {σ : Type} (l : Launch) (y : MethodName) (ws : List Cond) (fr lo : Nat) (argsL : List Value) (D : va_G) (cl : List vw_C) (tys : List (ClassId × FieldType)) (A : Nat → Prop) (Rep : σ → Heap → Prop) (fc fs : σ → Nat) (S : σ) (E : σ × Option Value) : Prop :=
  fc S ≤ fc E.1 ∧ fs S ≤ fs E.1 ∧ Met l y ws { frames := fr, cells := fc E.1 - fc S, slots := fs E.1 - fs S, locals := lo } (zPre argsL D cl tys A Rep S) (zQ A Rep E) (fc E.1 - fc S) (fs E.1 - fs S) A
theorem zPre_blind {σ : Type} {argsL : List Value} {D : va_G} {cl : List vw_C} {tys : List (ClassId × FieldType)} {A : Nat → Prop} {Rep : σ → Heap → Prop} {S : σ} : FrameBlind (zPre argsL D cl tys A Rep S) := fun a U g mk q => by
  obtain ⟨q0, qR, qK, qA⟩ := q
  exact ⟨q0, qR, va_K.moved (u := U) (U := U.calling g mk a) (Vm.Alike.refl U.vm) qK, qA⟩
section ZSW
variable {p : Program} {l : Launch} {e : Env} {R : Room} {s : State} {m : MethodId} {args : Array Value} {below : List Frame} {meth : Method} {c : Code} {nL : Nat} {A : Nat → Prop} {σ : Type} {Rep : σ → Heap → Prop} {fc fs : σ → Nat} {cc : ByteArray} {T : List zTr}
def SW (p : Program) (l : Launch) (e : Env) (R : Room) (s : State) (m : MethodId) (args : Array Value) (below : List Frame) (meth : Method) (c : Code) (nL : Nat) (A : Nat → Prop) {σ : Type} (Rep : σ → Heap → Prop) (fc fs : σ → Nat) (S : σ) (pc : Nat) (lv : zLv) (st : List Value) (E : σ × Option Value) : Prop :=
  fc S ≤ fc E.1 ∧ fs S ≤ fs E.1 ∧ ∀ (H : Heap) (locs : List Loc) (cells slots : Nat) (ls : Array Slot), Rep S H → va_S A s.heap H locs → cells + fc E.1 ≤ R.cells + fc S → slots + fs E.1 ≤ R.slots + fs S → lv_has ls nL lv →
    W p l e R s m args below meth c H locs cells slots (MQ below (zQ A Rep E) args s R.cells R.slots A) (F0 m pc ls st)
variable {S : σ} {pc : Nat} {lv : zLv} {st rest : List Value} {E : σ × Option Value}
/-- what every rule needs of the method -/
def zC (p : Program) (s : State) (m : MethodId) (args : Array Value) (meth : Method) (c : Code) (cc : ByteArray) (nL : Nat) (own : String) (Ts : List Cond) (T : List zTr) (ret : Option FieldType) : Prop :=
  p.tables.exec = Jvm.exec ∧ c.code = cc ∧ c.maxLocals = nL ∧ s.vm.findClass own = some m.cls ∧ (∀ w ∈ Ts, w.before args s = true) ∧ zTok cc nL T ∧ meth.sig.returnType = ret ∧ meth.locks = false
variable {own : String} {Ts : List Cond} {ret : Option FieldType}
theorem sw_go (C0 : zC p s m args meth c cc nL own Ts T ret) (n : Nat) {pc' : Nat} {lv' : zLv} {st' : List Value} (h : zrun T n pc lv st = some (pc', lv', st')) (k : SW p l e R s m args below meth c nL A Rep fc fs S pc' lv' st' E) : SW p l e R s m args below meth c nL A Rep fc fs S pc lv st E := by
  obtain ⟨hx, hb, hml, hown, hts, hT, hr, hlocks⟩ := C0
  exact ⟨k.1, k.2.1, fun H locs cells slots ls h1 h2 h3 h4 h5 => zrun_ok hx hb hT n pc lv st h h5 (fun ls' hl' => k.2.2 H locs cells slots ls' h1 h2 h3 h4 hl')⟩
theorem sw_sub {lv' : zLv} (h : ∀ q ∈ lv', q ∈ lv) (k : SW p l e R s m args below meth c nL A Rep fc fs S pc lv' st E) : SW p l e R s m args below meth c nL A Rep fc fs S pc lv st E :=
  ⟨k.1, k.2.1, fun H locs cells slots ls h1 h2 h3 h4 h5 => k.2.2 H locs cells slots ls h1 h2 h3 h4 (zh_sub h5 h)⟩
theorem sw_nm {ρ α : Type} (F : ρ → σ × Option Value) {x : α} {V : α → Value} {K : α → ρ} (k : ∀ v : α, v = x → SW p l e R s m args below meth c nL A Rep fc fs S pc lv (V v :: rest) (F (K v))) : SW p l e R s m args below meth c nL A Rep fc fs S pc lv (V x :: rest) (F (zbind x K)) := k x rfl
/-- either way -/
theorem sw_if {ρ : Type} (F : ρ → σ × Option Value) {b : Prop} [Decidable b] {r1 r2 : ρ} (kt : b → SW p l e R s m args below meth c nL A Rep fc fs S pc lv st (F r1)) (kf : ¬ b → SW p l e R s m args below meth c nL A Rep fc fs S pc lv st (F r2)) : SW p l e R s m args below meth c nL A Rep fc fs S pc lv st (F (if b then r1 else r2)) := by
  by_cases h : b
  · rw [if_pos h]; exact kt h
  · rw [if_neg h]; exact kf h
theorem sw_W (k : SW p l e R s m args below meth c nL A Rep fc fs S pc lv st E) {pc2 : Nat} {lv2 : zLv} {st2 : List Value} (h : ∀ (H : Heap) (locs : List Loc) (cells slots : Nat) (ls : Array Slot), lv_has ls nL lv2 → (lv_has ls nL lv → W p l e R s m args below meth c H locs cells slots (MQ below (zQ A Rep E) args s R.cells R.slots A) (F0 m pc ls st)) → W p l e R s m args below meth c H locs cells slots (MQ below (zQ A Rep E) args s R.cells R.slots A) (F0 m pc2 ls st2)) : SW p l e R s m args below meth c nL A Rep fc fs S pc2 lv2 st2 E :=
  ⟨k.1, k.2.1, fun H locs cells slots ls h1 h2 h3 h4 h5 => h H locs cells slots ls h5 (fun h6 => k.2.2 H locs cells slots ls h1 h2 h3 h4 h6)⟩
theorem zok_jmp {i : Jvm.ClassFile.Instr} {len tgt nL pc : Nat} {v : Int32} {o : Int} (h : zokb cc nL (pc, i, len, tgt, v) = true) (hi : (∃ q, i = .ifCond q o) ∨ (∃ q, i = .if_icmp q o)) : decode cc pc = .ok (i, 3) ∧ (pc : Int) + o = (tgt : Int) := by
  unfold zokb at h
  rw [Bool.and_eq_true] at h
  obtain ⟨hd, ho⟩ := h
  have hd := of_decide_eq_true hd
  dsimp only at hd ho
  rcases hi with ⟨q, rfl⟩ | ⟨q, rfl⟩
  · dsimp only at ho
    rw [Bool.and_eq_true] at ho
    have := eq_of_beq ho.1; subst this
    exact ⟨hd, of_decide_eq_true ho.2⟩
  · dsimp only at ho
    rw [Bool.and_eq_true] at ho
    have := eq_of_beq ho.1; subst this
    exact ⟨hd, of_decide_eq_true ho.2⟩
/-- the same, where the function may answer nothing: then nothing is said -/
def SO (p : Program) (l : Launch) (e : Env) (R : Room) (s : State) (m : MethodId) (args : Array Value) (below : List Frame) (meth : Method) (c : Code) (nL : Nat) (A : Nat → Prop) {σ : Type} (Rep : σ → Heap → Prop) (fc fs : σ → Nat) (S : σ) (pc : Nat) (lv : zLv) (st : List Value) {ρ : Type} (F : ρ → σ × Option Value) (x : Option ρ) : Prop :=
  ∀ r : ρ, x = some r → SW p l e R s m args below meth c nL A Rep fc fs S pc lv st (F r)
def zob {α β : Type} (x : Option α) (k : α → Option β) : Option β := match x with
  | none => none
  | some a => k a
def zob2 {α β γ : Type} (x : Option (α × β)) (k : α → β → Option γ) : Option γ := match x with
  | none => none
  | some a => k a.1 a.2
theorem so_go {ρ : Type} {F : ρ → σ × Option Value} {x : Option ρ} (C0 : zC p s m args meth c cc nL own Ts T ret) (n : Nat) {pc' : Nat} {lv' : zLv} {st' : List Value} (h : zrun T n pc lv st = some (pc', lv', st')) (k : SO p l e R s m args below meth c nL A Rep fc fs S pc' lv' st' F x) : SO p l e R s m args below meth c nL A Rep fc fs S pc lv st F x := fun r hr => sw_go C0 n h (k r hr)
theorem so_sub {ρ : Type} {F : ρ → σ × Option Value} {x : Option ρ} {lv' : zLv} (h : ∀ q ∈ lv', q ∈ lv) (k : SO p l e R s m args below meth c nL A Rep fc fs S pc lv' st F x) : SO p l e R s m args below meth c nL A Rep fc fs S pc lv st F x := fun r hr => sw_sub h (k r hr)
theorem so_nm {ρ α : Type} {F : ρ → σ × Option Value} {x : α} {V : α → Value} {K : α → Option ρ} (k : ∀ v : α, v = x → SO p l e R s m args below meth c nL A Rep fc fs S pc lv (V v :: rest) F (K v)) : SO p l e R s m args below meth c nL A Rep fc fs S pc lv (V x :: rest) F (zbind x K) := k x rfl
theorem so_none {ρ : Type} {F : ρ → σ × Option Value} : SO p l e R s m args below meth c nL A Rep fc fs S pc lv st F none := fun r hr => by cases hr
theorem sw_icmp_eqT (C0 : zC p s m args meth c cc nL own Ts T ret) {x y : Int32} {o : Int} {tgt : Nat} {v : Int32} (hq : T.lookup pc = some (.if_icmp .eq o, 3, tgt, v)) (h : x = y) (kt : SW p l e R s m args below meth c nL A Rep fc fs S tgt lv rest E) : SW p l e R s m args below meth c nL A Rep fc fs S pc lv (.int y :: .int x :: rest) E := by
  obtain ⟨hx, hb, hml, hown, hts, hT, hr, hlocks⟩ := C0
  obtain ⟨hd, ht⟩ := zok_jmp (hT.at hq) (Or.inr ⟨_, rfl⟩)
  exact sw_W kt (fun H locs cells slots ls h5 k => lv_icmp_eq hx hb hd ht (fun _ => k h5) (fun h' => absurd h h'))
theorem sw_icmp_eqF (C0 : zC p s m args meth c cc nL own Ts T ret) {x y : Int32} {o : Int} {tgt : Nat} {v : Int32} (hq : T.lookup pc = some (.if_icmp .eq o, 3, tgt, v)) (h : ¬ (x = y)) (kf : SW p l e R s m args below meth c nL A Rep fc fs S (pc + 3) lv rest E) : SW p l e R s m args below meth c nL A Rep fc fs S pc lv (.int y :: .int x :: rest) E := by
  obtain ⟨hx, hb, hml, hown, hts, hT, hr, hlocks⟩ := C0
  obtain ⟨hd, ht⟩ := zok_jmp (hT.at hq) (Or.inr ⟨_, rfl⟩)
  exact sw_W kf (fun H locs cells slots ls h5 k => lv_icmp_eq hx hb hd ht (fun h' => absurd h' h) (fun _ => k h5))
theorem sw_icmp_eq {ρ : Type} (F : ρ → σ × Option Value) {r1 r2 : ρ} (C0 : zC p s m args meth c cc nL own Ts T ret) {x y : Int32} {o : Int} {tgt : Nat} {v : Int32} (hq : T.lookup pc = some (.if_icmp .eq o, 3, tgt, v)) (kt : x = y → SW p l e R s m args below meth c nL A Rep fc fs S tgt lv rest (F r1)) (kf : ¬ (x = y) → SW p l e R s m args below meth c nL A Rep fc fs S (pc + 3) lv rest (F r2)) : SW p l e R s m args below meth c nL A Rep fc fs S pc lv (.int y :: .int x :: rest) (F (if x = y then r1 else r2)) :=
  sw_if F (fun h => sw_icmp_eqT C0 hq h (kt h)) (fun h => sw_icmp_eqF C0 hq h (kf h))
theorem so_icmp_eq {ρ : Type} {F : ρ → σ × Option Value} {r1 r2 : Option ρ} (C0 : zC p s m args meth c cc nL own Ts T ret) {x y : Int32} {o : Int} {tgt : Nat} {v : Int32} (hq : T.lookup pc = some (.if_icmp .eq o, 3, tgt, v)) (kt : x = y → SO p l e R s m args below meth c nL A Rep fc fs S tgt lv rest F r1) (kf : ¬ (x = y) → SO p l e R s m args below meth c nL A Rep fc fs S (pc + 3) lv rest F r2) : SO p l e R s m args below meth c nL A Rep fc fs S pc lv (.int y :: .int x :: rest) F (if x = y then r1 else r2) := by
  intro r hr
  by_cases h : x = y
  · rw [if_pos h] at hr
    exact sw_icmp_eqT C0 hq h (kt h r hr)
  · rw [if_neg h] at hr
    exact sw_icmp_eqF C0 hq h (kf h r hr)
theorem so_icmp_eqT {ρ : Type} {F : ρ → σ × Option Value} {w : Option ρ} (C0 : zC p s m args meth c cc nL own Ts T ret) {x y : Int32} {o : Int} {tgt : Nat} {v : Int32} (hq : T.lookup pc = some (.if_icmp .eq o, 3, tgt, v)) (h : x = y) (kt : SO p l e R s m args below meth c nL A Rep fc fs S tgt lv rest F w) : SO p l e R s m args below meth c nL A Rep fc fs S pc lv (.int y :: .int x :: rest) F w := fun r hr => sw_icmp_eqT C0 hq h (kt r hr)
theorem so_icmp_eqF {ρ : Type} {F : ρ → σ × Option Value} {w : Option ρ} (C0 : zC p s m args meth c cc nL own Ts T ret) {x y : Int32} {o : Int} {tgt : Nat} {v : Int32} (hq : T.lookup pc = some (.if_icmp .eq o, 3, tgt, v)) (h : ¬ (x = y)) (kf : SO p l e R s m args below meth c nL A Rep fc fs S (pc + 3) lv rest F w) : SO p l e R s m args below meth c nL A Rep fc fs S pc lv (.int y :: .int x :: rest) F w := fun r hr => sw_icmp_eqF C0 hq h (kf r hr)
theorem sw_icmp_neT (C0 : zC p s m args meth c cc nL own Ts T ret) {x y : Int32} {o : Int} {tgt : Nat} {v : Int32} (hq : T.lookup pc = some (.if_icmp .ne o, 3, tgt, v)) (h : ¬ x = y) (kt : SW p l e R s m args below meth c nL A Rep fc fs S tgt lv rest E) : SW p l e R s m args below meth c nL A Rep fc fs S pc lv (.int y :: .int x :: rest) E := by
  obtain ⟨hx, hb, hml, hown, hts, hT, hr, hlocks⟩ := C0
  obtain ⟨hd, ht⟩ := zok_jmp (hT.at hq) (Or.inr ⟨_, rfl⟩)
  exact sw_W kt (fun H locs cells slots ls h5 k => lv_icmp_ne hx hb hd ht (fun _ => k h5) (fun h' => absurd h' h))
theorem sw_icmp_neF (C0 : zC p s m args meth c cc nL own Ts T ret) {x y : Int32} {o : Int} {tgt : Nat} {v : Int32} (hq : T.lookup pc = some (.if_icmp .ne o, 3, tgt, v)) (h : ¬ (¬ x = y)) (kf : SW p l e R s m args below meth c nL A Rep fc fs S (pc + 3) lv rest E) : SW p l e R s m args below meth c nL A Rep fc fs S pc lv (.int y :: .int x :: rest) E := by
  obtain ⟨hx, hb, hml, hown, hts, hT, hr, hlocks⟩ := C0
  obtain ⟨hd, ht⟩ := zok_jmp (hT.at hq) (Or.inr ⟨_, rfl⟩)
  exact sw_W kf (fun H locs cells slots ls h5 k => lv_icmp_ne hx hb hd ht (fun h' => absurd h' h) (fun _ => k h5))
theorem sw_icmp_ne {ρ : Type} (F : ρ → σ × Option Value) {r1 r2 : ρ} (C0 : zC p s m args meth c cc nL own Ts T ret) {x y : Int32} {o : Int} {tgt : Nat} {v : Int32} (hq : T.lookup pc = some (.if_icmp .ne o, 3, tgt, v)) (kt : ¬ x = y → SW p l e R s m args below meth c nL A Rep fc fs S tgt lv rest (F r1)) (kf : ¬ (¬ x = y) → SW p l e R s m args below meth c nL A Rep fc fs S (pc + 3) lv rest (F r2)) : SW p l e R s m args below meth c nL A Rep fc fs S pc lv (.int y :: .int x :: rest) (F (if ¬ x = y then r1 else r2)) :=
  sw_if F (fun h => sw_icmp_neT C0 hq h (kt h)) (fun h => sw_icmp_neF C0 hq h (kf h))
theorem so_icmp_ne {ρ : Type} {F : ρ → σ × Option Value} {r1 r2 : Option ρ} (C0 : zC p s m args meth c cc nL own Ts T ret) {x y : Int32} {o : Int} {tgt : Nat} {v : Int32} (hq : T.lookup pc = some (.if_icmp .ne o, 3, tgt, v)) (kt : ¬ x = y → SO p l e R s m args below meth c nL A Rep fc fs S tgt lv rest F r1) (kf : ¬ (¬ x = y) → SO p l e R s m args below meth c nL A Rep fc fs S (pc + 3) lv rest F r2) : SO p l e R s m args below meth c nL A Rep fc fs S pc lv (.int y :: .int x :: rest) F (if ¬ x = y then r1 else r2) := by
  intro r hr
  by_cases h : ¬ x = y
  · rw [if_pos h] at hr
    exact sw_icmp_neT C0 hq h (kt h r hr)
  · rw [if_neg h] at hr
    exact sw_icmp_neF C0 hq h (kf h r hr)
theorem so_icmp_neT {ρ : Type} {F : ρ → σ × Option Value} {w : Option ρ} (C0 : zC p s m args meth c cc nL own Ts T ret) {x y : Int32} {o : Int} {tgt : Nat} {v : Int32} (hq : T.lookup pc = some (.if_icmp .ne o, 3, tgt, v)) (h : ¬ x = y) (kt : SO p l e R s m args below meth c nL A Rep fc fs S tgt lv rest F w) : SO p l e R s m args below meth c nL A Rep fc fs S pc lv (.int y :: .int x :: rest) F w := fun r hr => sw_icmp_neT C0 hq h (kt r hr)
theorem so_icmp_neF {ρ : Type} {F : ρ → σ × Option Value} {w : Option ρ} (C0 : zC p s m args meth c cc nL own Ts T ret) {x y : Int32} {o : Int} {tgt : Nat} {v : Int32} (hq : T.lookup pc = some (.if_icmp .ne o, 3, tgt, v)) (h : ¬ (¬ x = y)) (kf : SO p l e R s m args below meth c nL A Rep fc fs S (pc + 3) lv rest F w) : SO p l e R s m args below meth c nL A Rep fc fs S pc lv (.int y :: .int x :: rest) F w := fun r hr => sw_icmp_neF C0 hq h (kf r hr)
theorem sw_icmp_ltT (C0 : zC p s m args meth c cc nL own Ts T ret) {x y : Int32} {o : Int} {tgt : Nat} {v : Int32} (hq : T.lookup pc = some (.if_icmp .lt o, 3, tgt, v)) (h : x < y) (kt : SW p l e R s m args below meth c nL A Rep fc fs S tgt lv rest E) : SW p l e R s m args below meth c nL A Rep fc fs S pc lv (.int y :: .int x :: rest) E := by
  obtain ⟨hx, hb, hml, hown, hts, hT, hr, hlocks⟩ := C0
  obtain ⟨hd, ht⟩ := zok_jmp (hT.at hq) (Or.inr ⟨_, rfl⟩)
  exact sw_W kt (fun H locs cells slots ls h5 k => lv_icmp_lt hx hb hd ht (fun _ => k h5) (fun h' => absurd h h'))
theorem sw_icmp_ltF (C0 : zC p s m args meth c cc nL own Ts T ret) {x y : Int32} {o : Int} {tgt : Nat} {v : Int32} (hq : T.lookup pc = some (.if_icmp .lt o, 3, tgt, v)) (h : ¬ (x < y)) (kf : SW p l e R s m args below meth c nL A Rep fc fs S (pc + 3) lv rest E) : SW p l e R s m args below meth c nL A Rep fc fs S pc lv (.int y :: .int x :: rest) E := by
  obtain ⟨hx, hb, hml, hown, hts, hT, hr, hlocks⟩ := C0
  obtain ⟨hd, ht⟩ := zok_jmp (hT.at hq) (Or.inr ⟨_, rfl⟩)
  exact sw_W kf (fun H locs cells slots ls h5 k => lv_icmp_lt hx hb hd ht (fun h' => absurd h' h) (fun _ => k h5))
theorem sw_icmp_lt {ρ : Type} (F : ρ → σ × Option Value) {r1 r2 : ρ} (C0 : zC p s m args meth c cc nL own Ts T ret) {x y : Int32} {o : Int} {tgt : Nat} {v : Int32} (hq : T.lookup pc = some (.if_icmp .lt o, 3, tgt, v)) (kt : x < y → SW p l e R s m args below meth c nL A Rep fc fs S tgt lv rest (F r1)) (kf : ¬ (x < y) → SW p l e R s m args below meth c nL A Rep fc fs S (pc + 3) lv rest (F r2)) : SW p l e R s m args below meth c nL A Rep fc fs S pc lv (.int y :: .int x :: rest) (F (if x < y then r1 else r2)) :=
  sw_if F (fun h => sw_icmp_ltT C0 hq h (kt h)) (fun h => sw_icmp_ltF C0 hq h (kf h))
theorem so_icmp_lt {ρ : Type} {F : ρ → σ × Option Value} {r1 r2 : Option ρ} (C0 : zC p s m args meth c cc nL own Ts T ret) {x y : Int32} {o : Int} {tgt : Nat} {v : Int32} (hq : T.lookup pc = some (.if_icmp .lt o, 3, tgt, v)) (kt : x < y → SO p l e R s m args below meth c nL A Rep fc fs S tgt lv rest F r1) (kf : ¬ (x < y) → SO p l e R s m args below meth c nL A Rep fc fs S (pc + 3) lv rest F r2) : SO p l e R s m args below meth c nL A Rep fc fs S pc lv (.int y :: .int x :: rest) F (if x < y then r1 else r2) := by
  intro r hr
  by_cases h : x < y
  · rw [if_pos h] at hr
    exact sw_icmp_ltT C0 hq h (kt h r hr)
  · rw [if_neg h] at hr
    exact sw_icmp_ltF C0 hq h (kf h r hr)
theorem so_icmp_ltT {ρ : Type} {F : ρ → σ × Option Value} {w : Option ρ} (C0 : zC p s m args meth c cc nL own Ts T ret) {x y : Int32} {o : Int} {tgt : Nat} {v : Int32} (hq : T.lookup pc = some (.if_icmp .lt o, 3, tgt, v)) (h : x < y) (kt : SO p l e R s m args below meth c nL A Rep fc fs S tgt lv rest F w) : SO p l e R s m args below meth c nL A Rep fc fs S pc lv (.int y :: .int x :: rest) F w := fun r hr => sw_icmp_ltT C0 hq h (kt r hr)
theorem so_icmp_ltF {ρ : Type} {F : ρ → σ × Option Value} {w : Option ρ} (C0 : zC p s m args meth c cc nL own Ts T ret) {x y : Int32} {o : Int} {tgt : Nat} {v : Int32} (hq : T.lookup pc = some (.if_icmp .lt o, 3, tgt, v)) (h : ¬ (x < y)) (kf : SO p l e R s m args below meth c nL A Rep fc fs S (pc + 3) lv rest F w) : SO p l e R s m args below meth c nL A Rep fc fs S pc lv (.int y :: .int x :: rest) F w := fun r hr => sw_icmp_ltF C0 hq h (kf r hr)
theorem sw_icmp_geT (C0 : zC p s m args meth c cc nL own Ts T ret) {x y : Int32} {o : Int} {tgt : Nat} {v : Int32} (hq : T.lookup pc = some (.if_icmp .ge o, 3, tgt, v)) (h : y ≤ x) (kt : SW p l e R s m args below meth c nL A Rep fc fs S tgt lv rest E) : SW p l e R s m args below meth c nL A Rep fc fs S pc lv (.int y :: .int x :: rest) E := by
  obtain ⟨hx, hb, hml, hown, hts, hT, hr, hlocks⟩ := C0
  obtain ⟨hd, ht⟩ := zok_jmp (hT.at hq) (Or.inr ⟨_, rfl⟩)
  exact sw_W kt (fun H locs cells slots ls h5 k => lv_icmp_ge hx hb hd ht (fun _ => k h5) (fun h' => absurd h h'))
theorem sw_icmp_geF (C0 : zC p s m args meth c cc nL own Ts T ret) {x y : Int32} {o : Int} {tgt : Nat} {v : Int32} (hq : T.lookup pc = some (.if_icmp .ge o, 3, tgt, v)) (h : ¬ (y ≤ x)) (kf : SW p l e R s m args below meth c nL A Rep fc fs S (pc + 3) lv rest E) : SW p l e R s m args below meth c nL A Rep fc fs S pc lv (.int y :: .int x :: rest) E := by
  obtain ⟨hx, hb, hml, hown, hts, hT, hr, hlocks⟩ := C0
  obtain ⟨hd, ht⟩ := zok_jmp (hT.at hq) (Or.inr ⟨_, rfl⟩)
  exact sw_W kf (fun H locs cells slots ls h5 k => lv_icmp_ge hx hb hd ht (fun h' => absurd h' h) (fun _ => k h5))
theorem sw_icmp_ge {ρ : Type} (F : ρ → σ × Option Value) {r1 r2 : ρ} (C0 : zC p s m args meth c cc nL own Ts T ret) {x y : Int32} {o : Int} {tgt : Nat} {v : Int32} (hq : T.lookup pc = some (.if_icmp .ge o, 3, tgt, v)) (kt : y ≤ x → SW p l e R s m args below meth c nL A Rep fc fs S tgt lv rest (F r1)) (kf : ¬ (y ≤ x) → SW p l e R s m args below meth c nL A Rep fc fs S (pc + 3) lv rest (F r2)) : SW p l e R s m args below meth c nL A Rep fc fs S pc lv (.int y :: .int x :: rest) (F (if y ≤ x then r1 else r2)) :=
  sw_if F (fun h => sw_icmp_geT C0 hq h (kt h)) (fun h => sw_icmp_geF C0 hq h (kf h))
theorem so_icmp_ge {ρ : Type} {F : ρ → σ × Option Value} {r1 r2 : Option ρ} (C0 : zC p s m args meth c cc nL own Ts T ret) {x y : Int32} {o : Int} {tgt : Nat} {v : Int32} (hq : T.lookup pc = some (.if_icmp .ge o, 3, tgt, v)) (kt : y ≤ x → SO p l e R s m args below meth c nL A Rep fc fs S tgt lv rest F r1) (kf : ¬ (y ≤ x) → SO p l e R s m args below meth c nL A Rep fc fs S (pc + 3) lv rest F r2) : SO p l e R s m args below meth c nL A Rep fc fs S pc lv (.int y :: .int x :: rest) F (if y ≤ x then r1 else r2) := by
  intro r hr
  by_cases h : y ≤ x
  · rw [if_pos h] at hr
    exact sw_icmp_geT C0 hq h (kt h r hr)
  · rw [if_neg h] at hr
    exact sw_icmp_geF C0 hq h (kf h r hr)
theorem so_icmp_geT {ρ : Type} {F : ρ → σ × Option Value} {w : Option ρ} (C0 : zC p s m args meth c cc nL own Ts T ret) {x y : Int32} {o : Int} {tgt : Nat} {v : Int32} (hq : T.lookup pc = some (.if_icmp .ge o, 3, tgt, v)) (h : y ≤ x) (kt : SO p l e R s m args below meth c nL A Rep fc fs S tgt lv rest F w) : SO p l e R s m args below meth c nL A Rep fc fs S pc lv (.int y :: .int x :: rest) F w := fun r hr => sw_icmp_geT C0 hq h (kt r hr)
theorem so_icmp_geF {ρ : Type} {F : ρ → σ × Option Value} {w : Option ρ} (C0 : zC p s m args meth c cc nL own Ts T ret) {x y : Int32} {o : Int} {tgt : Nat} {v : Int32} (hq : T.lookup pc = some (.if_icmp .ge o, 3, tgt, v)) (h : ¬ (y ≤ x)) (kf : SO p l e R s m args below meth c nL A Rep fc fs S (pc + 3) lv rest F w) : SO p l e R s m args below meth c nL A Rep fc fs S pc lv (.int y :: .int x :: rest) F w := fun r hr => sw_icmp_geF C0 hq h (kf r hr)
theorem sw_icmp_gtT (C0 : zC p s m args meth c cc nL own Ts T ret) {x y : Int32} {o : Int} {tgt : Nat} {v : Int32} (hq : T.lookup pc = some (.if_icmp .gt o, 3, tgt, v)) (h : y < x) (kt : SW p l e R s m args below meth c nL A Rep fc fs S tgt lv rest E) : SW p l e R s m args below meth c nL A Rep fc fs S pc lv (.int y :: .int x :: rest) E := by
  obtain ⟨hx, hb, hml, hown, hts, hT, hr, hlocks⟩ := C0
  obtain ⟨hd, ht⟩ := zok_jmp (hT.at hq) (Or.inr ⟨_, rfl⟩)
  exact sw_W kt (fun H locs cells slots ls h5 k => lv_icmp_gt hx hb hd ht (fun _ => k h5) (fun h' => absurd h h'))
theorem sw_icmp_gtF (C0 : zC p s m args meth c cc nL own Ts T ret) {x y : Int32} {o : Int} {tgt : Nat} {v : Int32} (hq : T.lookup pc = some (.if_icmp .gt o, 3, tgt, v)) (h : ¬ (y < x)) (kf : SW p l e R s m args below meth c nL A Rep fc fs S (pc + 3) lv rest E) : SW p l e R s m args below meth c nL A Rep fc fs S pc lv (.int y :: .int x :: rest) E := by
  obtain ⟨hx, hb, hml, hown, hts, hT, hr, hlocks⟩ := C0
  obtain ⟨hd, ht⟩ := zok_jmp (hT.at hq) (Or.inr ⟨_, rfl⟩)
  exact sw_W kf (fun H locs cells slots ls h5 k => lv_icmp_gt hx hb hd ht (fun h' => absurd h' h) (fun _ => k h5))
theorem sw_icmp_gt {ρ : Type} (F : ρ → σ × Option Value) {r1 r2 : ρ} (C0 : zC p s m args meth c cc nL own Ts T ret) {x y : Int32} {o : Int} {tgt : Nat} {v : Int32} (hq : T.lookup pc = some (.if_icmp .gt o, 3, tgt, v)) (kt : y < x → SW p l e R s m args below meth c nL A Rep fc fs S tgt lv rest (F r1)) (kf : ¬ (y < x) → SW p l e R s m args below meth c nL A Rep fc fs S (pc + 3) lv rest (F r2)) : SW p l e R s m args below meth c nL A Rep fc fs S pc lv (.int y :: .int x :: rest) (F (if y < x then r1 else r2)) :=
  sw_if F (fun h => sw_icmp_gtT C0 hq h (kt h)) (fun h => sw_icmp_gtF C0 hq h (kf h))
theorem so_icmp_gt {ρ : Type} {F : ρ → σ × Option Value} {r1 r2 : Option ρ} (C0 : zC p s m args meth c cc nL own Ts T ret) {x y : Int32} {o : Int} {tgt : Nat} {v : Int32} (hq : T.lookup pc = some (.if_icmp .gt o, 3, tgt, v)) (kt : y < x → SO p l e R s m args below meth c nL A Rep fc fs S tgt lv rest F r1) (kf : ¬ (y < x) → SO p l e R s m args below meth c nL A Rep fc fs S (pc + 3) lv rest F r2) : SO p l e R s m args below meth c nL A Rep fc fs S pc lv (.int y :: .int x :: rest) F (if y < x then r1 else r2) := by
  intro r hr
  by_cases h : y < x
  · rw [if_pos h] at hr
    exact sw_icmp_gtT C0 hq h (kt h r hr)
  · rw [if_neg h] at hr
    exact sw_icmp_gtF C0 hq h (kf h r hr)
theorem so_icmp_gtT {ρ : Type} {F : ρ → σ × Option Value} {w : Option ρ} (C0 : zC p s m args meth c cc nL own Ts T ret) {x y : Int32} {o : Int} {tgt : Nat} {v : Int32} (hq : T.lookup pc = some (.if_icmp .gt o, 3, tgt, v)) (h : y < x) (kt : SO p l e R s m args below meth c nL A Rep fc fs S tgt lv rest F w) : SO p l e R s m args below meth c nL A Rep fc fs S pc lv (.int y :: .int x :: rest) F w := fun r hr => sw_icmp_gtT C0 hq h (kt r hr)
theorem so_icmp_gtF {ρ : Type} {F : ρ → σ × Option Value} {w : Option ρ} (C0 : zC p s m args meth c cc nL own Ts T ret) {x y : Int32} {o : Int} {tgt : Nat} {v : Int32} (hq : T.lookup pc = some (.if_icmp .gt o, 3, tgt, v)) (h : ¬ (y < x)) (kf : SO p l e R s m args below meth c nL A Rep fc fs S (pc + 3) lv rest F w) : SO p l e R s m args below meth c nL A Rep fc fs S pc lv (.int y :: .int x :: rest) F w := fun r hr => sw_icmp_gtF C0 hq h (kf r hr)
theorem sw_icmp_leT (C0 : zC p s m args meth c cc nL own Ts T ret) {x y : Int32} {o : Int} {tgt : Nat} {v : Int32} (hq : T.lookup pc = some (.if_icmp .le o, 3, tgt, v)) (h : x ≤ y) (kt : SW p l e R s m args below meth c nL A Rep fc fs S tgt lv rest E) : SW p l e R s m args below meth c nL A Rep fc fs S pc lv (.int y :: .int x :: rest) E := by
  obtain ⟨hx, hb, hml, hown, hts, hT, hr, hlocks⟩ := C0
  obtain ⟨hd, ht⟩ := zok_jmp (hT.at hq) (Or.inr ⟨_, rfl⟩)
  exact sw_W kt (fun H locs cells slots ls h5 k => lv_icmp_le hx hb hd ht (fun _ => k h5) (fun h' => absurd h h'))
theorem sw_icmp_leF (C0 : zC p s m args meth c cc nL own Ts T ret) {x y : Int32} {o : Int} {tgt : Nat} {v : Int32} (hq : T.lookup pc = some (.if_icmp .le o, 3, tgt, v)) (h : ¬ (x ≤ y)) (kf : SW p l e R s m args below meth c nL A Rep fc fs S (pc + 3) lv rest E) : SW p l e R s m args below meth c nL A Rep fc fs S pc lv (.int y :: .int x :: rest) E := by
  obtain ⟨hx, hb, hml, hown, hts, hT, hr, hlocks⟩ := C0
  obtain ⟨hd, ht⟩ := zok_jmp (hT.at hq) (Or.inr ⟨_, rfl⟩)
  exact sw_W kf (fun H locs cells slots ls h5 k => lv_icmp_le hx hb hd ht (fun h' => absurd h' h) (fun _ => k h5))
theorem sw_icmp_le {ρ : Type} (F : ρ → σ × Option Value) {r1 r2 : ρ} (C0 : zC p s m args meth c cc nL own Ts T ret) {x y : Int32} {o : Int} {tgt : Nat} {v : Int32} (hq : T.lookup pc = some (.if_icmp .le o, 3, tgt, v)) (kt : x ≤ y → SW p l e R s m args below meth c nL A Rep fc fs S tgt lv rest (F r1)) (kf : ¬ (x ≤ y) → SW p l e R s m args below meth c nL A Rep fc fs S (pc + 3) lv rest (F r2)) : SW p l e R s m args below meth c nL A Rep fc fs S pc lv (.int y :: .int x :: rest) (F (if x ≤ y then r1 else r2)) :=
  sw_if F (fun h => sw_icmp_leT C0 hq h (kt h)) (fun h => sw_icmp_leF C0 hq h (kf h))
theorem so_icmp_le {ρ : Type} {F : ρ → σ × Option Value} {r1 r2 : Option ρ} (C0 : zC p s m args meth c cc nL own Ts T ret) {x y : Int32} {o : Int} {tgt : Nat} {v : Int32} (hq : T.lookup pc = some (.if_icmp .le o, 3, tgt, v)) (kt : x ≤ y → SO p l e R s m args below meth c nL A Rep fc fs S tgt lv rest F r1) (kf : ¬ (x ≤ y) → SO p l e R s m args below meth c nL A Rep fc fs S (pc + 3) lv rest F r2) : SO p l e R s m args below meth c nL A Rep fc fs S pc lv (.int y :: .int x :: rest) F (if x ≤ y then r1 else r2) := by
  intro r hr
  by_cases h : x ≤ y
  · rw [if_pos h] at hr
    exact sw_icmp_leT C0 hq h (kt h r hr)
  · rw [if_neg h] at hr
    exact sw_icmp_leF C0 hq h (kf h r hr)
theorem so_icmp_leT {ρ : Type} {F : ρ → σ × Option Value} {w : Option ρ} (C0 : zC p s m args meth c cc nL own Ts T ret) {x y : Int32} {o : Int} {tgt : Nat} {v : Int32} (hq : T.lookup pc = some (.if_icmp .le o, 3, tgt, v)) (h : x ≤ y) (kt : SO p l e R s m args below meth c nL A Rep fc fs S tgt lv rest F w) : SO p l e R s m args below meth c nL A Rep fc fs S pc lv (.int y :: .int x :: rest) F w := fun r hr => sw_icmp_leT C0 hq h (kt r hr)
theorem so_icmp_leF {ρ : Type} {F : ρ → σ × Option Value} {w : Option ρ} (C0 : zC p s m args meth c cc nL own Ts T ret) {x y : Int32} {o : Int} {tgt : Nat} {v : Int32} (hq : T.lookup pc = some (.if_icmp .le o, 3, tgt, v)) (h : ¬ (x ≤ y)) (kf : SO p l e R s m args below meth c nL A Rep fc fs S (pc + 3) lv rest F w) : SO p l e R s m args below meth c nL A Rep fc fs S pc lv (.int y :: .int x :: rest) F w := fun r hr => sw_icmp_leF C0 hq h (kf r hr)
theorem sw_if_eqT (C0 : zC p s m args meth c cc nL own Ts T ret) {x : Int32} {o : Int} {tgt : Nat} {v : Int32} (hq : T.lookup pc = some (.ifCond .eq o, 3, tgt, v)) (h : x = 0) (kt : SW p l e R s m args below meth c nL A Rep fc fs S tgt lv rest E) : SW p l e R s m args below meth c nL A Rep fc fs S pc lv (.int x :: rest) E := by
  obtain ⟨hx, hb, hml, hown, hts, hT, hr, hlocks⟩ := C0
  obtain ⟨hd, ht⟩ := zok_jmp (hT.at hq) (Or.inl ⟨_, rfl⟩)
  exact sw_W kt (fun H locs cells slots ls h5 k => lv_if_eq hx hb hd ht (fun _ => k h5) (fun h' => absurd h h'))
theorem sw_if_eqF (C0 : zC p s m args meth c cc nL own Ts T ret) {x : Int32} {o : Int} {tgt : Nat} {v : Int32} (hq : T.lookup pc = some (.ifCond .eq o, 3, tgt, v)) (h : ¬ (x = 0)) (kf : SW p l e R s m args below meth c nL A Rep fc fs S (pc + 3) lv rest E) : SW p l e R s m args below meth c nL A Rep fc fs S pc lv (.int x :: rest) E := by
  obtain ⟨hx, hb, hml, hown, hts, hT, hr, hlocks⟩ := C0
  obtain ⟨hd, ht⟩ := zok_jmp (hT.at hq) (Or.inl ⟨_, rfl⟩)
  exact sw_W kf (fun H locs cells slots ls h5 k => lv_if_eq hx hb hd ht (fun h' => absurd h' h) (fun _ => k h5))
theorem sw_if_eq {ρ : Type} (F : ρ → σ × Option Value) {r1 r2 : ρ} (C0 : zC p s m args meth c cc nL own Ts T ret) {x : Int32} {o : Int} {tgt : Nat} {v : Int32} (hq : T.lookup pc = some (.ifCond .eq o, 3, tgt, v)) (kt : x = 0 → SW p l e R s m args below meth c nL A Rep fc fs S tgt lv rest (F r1)) (kf : ¬ (x = 0) → SW p l e R s m args below meth c nL A Rep fc fs S (pc + 3) lv rest (F r2)) : SW p l e R s m args below meth c nL A Rep fc fs S pc lv (.int x :: rest) (F (if x = 0 then r1 else r2)) :=
  sw_if F (fun h => sw_if_eqT C0 hq h (kt h)) (fun h => sw_if_eqF C0 hq h (kf h))
theorem so_if_eq {ρ : Type} {F : ρ → σ × Option Value} {r1 r2 : Option ρ} (C0 : zC p s m args meth c cc nL own Ts T ret) {x : Int32} {o : Int} {tgt : Nat} {v : Int32} (hq : T.lookup pc = some (.ifCond .eq o, 3, tgt, v)) (kt : x = 0 → SO p l e R s m args below meth c nL A Rep fc fs S tgt lv rest F r1) (kf : ¬ (x = 0) → SO p l e R s m args below meth c nL A Rep fc fs S (pc + 3) lv rest F r2) : SO p l e R s m args below meth c nL A Rep fc fs S pc lv (.int x :: rest) F (if x = 0 then r1 else r2) := by
  intro r hr
  by_cases h : x = 0
  · rw [if_pos h] at hr
    exact sw_if_eqT C0 hq h (kt h r hr)
  · rw [if_neg h] at hr
    exact sw_if_eqF C0 hq h (kf h r hr)
theorem so_if_eqT {ρ : Type} {F : ρ → σ × Option Value} {w : Option ρ} (C0 : zC p s m args meth c cc nL own Ts T ret) {x : Int32} {o : Int} {tgt : Nat} {v : Int32} (hq : T.lookup pc = some (.ifCond .eq o, 3, tgt, v)) (h : x = 0) (kt : SO p l e R s m args below meth c nL A Rep fc fs S tgt lv rest F w) : SO p l e R s m args below meth c nL A Rep fc fs S pc lv (.int x :: rest) F w := fun r hr => sw_if_eqT C0 hq h (kt r hr)
theorem so_if_eqF {ρ : Type} {F : ρ → σ × Option Value} {w : Option ρ} (C0 : zC p s m args meth c cc nL own Ts T ret) {x : Int32} {o : Int} {tgt : Nat} {v : Int32} (hq : T.lookup pc = some (.ifCond .eq o, 3, tgt, v)) (h : ¬ (x = 0)) (kf : SO p l e R s m args below meth c nL A Rep fc fs S (pc + 3) lv rest F w) : SO p l e R s m args below meth c nL A Rep fc fs S pc lv (.int x :: rest) F w := fun r hr => sw_if_eqF C0 hq h (kf r hr)
theorem sw_if_neT (C0 : zC p s m args meth c cc nL own Ts T ret) {x : Int32} {o : Int} {tgt : Nat} {v : Int32} (hq : T.lookup pc = some (.ifCond .ne o, 3, tgt, v)) (h : ¬ x = 0) (kt : SW p l e R s m args below meth c nL A Rep fc fs S tgt lv rest E) : SW p l e R s m args below meth c nL A Rep fc fs S pc lv (.int x :: rest) E := by
  obtain ⟨hx, hb, hml, hown, hts, hT, hr, hlocks⟩ := C0
  obtain ⟨hd, ht⟩ := zok_jmp (hT.at hq) (Or.inl ⟨_, rfl⟩)
  exact sw_W kt (fun H locs cells slots ls h5 k => lv_if_ne hx hb hd ht (fun _ => k h5) (fun h' => absurd h' h))
theorem sw_if_neF (C0 : zC p s m args meth c cc nL own Ts T ret) {x : Int32} {o : Int} {tgt : Nat} {v : Int32} (hq : T.lookup pc = some (.ifCond .ne o, 3, tgt, v)) (h : ¬ (¬ x = 0)) (kf : SW p l e R s m args below meth c nL A Rep fc fs S (pc + 3) lv rest E) : SW p l e R s m args below meth c nL A Rep fc fs S pc lv (.int x :: rest) E := by
  obtain ⟨hx, hb, hml, hown, hts, hT, hr, hlocks⟩ := C0
  obtain ⟨hd, ht⟩ := zok_jmp (hT.at hq) (Or.inl ⟨_, rfl⟩)
  exact sw_W kf (fun H locs cells slots ls h5 k => lv_if_ne hx hb hd ht (fun h' => absurd h' h) (fun _ => k h5))
theorem sw_if_ne {ρ : Type} (F : ρ → σ × Option Value) {r1 r2 : ρ} (C0 : zC p s m args meth c cc nL own Ts T ret) {x : Int32} {o : Int} {tgt : Nat} {v : Int32} (hq : T.lookup pc = some (.ifCond .ne o, 3, tgt, v)) (kt : ¬ x = 0 → SW p l e R s m args below meth c nL A Rep fc fs S tgt lv rest (F r1)) (kf : ¬ (¬ x = 0) → SW p l e R s m args below meth c nL A Rep fc fs S (pc + 3) lv rest (F r2)) : SW p l e R s m args below meth c nL A Rep fc fs S pc lv (.int x :: rest) (F (if ¬ x = 0 then r1 else r2)) :=
  sw_if F (fun h => sw_if_neT C0 hq h (kt h)) (fun h => sw_if_neF C0 hq h (kf h))
theorem so_if_ne {ρ : Type} {F : ρ → σ × Option Value} {r1 r2 : Option ρ} (C0 : zC p s m args meth c cc nL own Ts T ret) {x : Int32} {o : Int} {tgt : Nat} {v : Int32} (hq : T.lookup pc = some (.ifCond .ne o, 3, tgt, v)) (kt : ¬ x = 0 → SO p l e R s m args below meth c nL A Rep fc fs S tgt lv rest F r1) (kf : ¬ (¬ x = 0) → SO p l e R s m args below meth c nL A Rep fc fs S (pc + 3) lv rest F r2) : SO p l e R s m args below meth c nL A Rep fc fs S pc lv (.int x :: rest) F (if ¬ x = 0 then r1 else r2) := by
  intro r hr
  by_cases h : ¬ x = 0
  · rw [if_pos h] at hr
    exact sw_if_neT C0 hq h (kt h r hr)
  · rw [if_neg h] at hr
    exact sw_if_neF C0 hq h (kf h r hr)
theorem so_if_neT {ρ : Type} {F : ρ → σ × Option Value} {w : Option ρ} (C0 : zC p s m args meth c cc nL own Ts T ret) {x : Int32} {o : Int} {tgt : Nat} {v : Int32} (hq : T.lookup pc = some (.ifCond .ne o, 3, tgt, v)) (h : ¬ x = 0) (kt : SO p l e R s m args below meth c nL A Rep fc fs S tgt lv rest F w) : SO p l e R s m args below meth c nL A Rep fc fs S pc lv (.int x :: rest) F w := fun r hr => sw_if_neT C0 hq h (kt r hr)
theorem so_if_neF {ρ : Type} {F : ρ → σ × Option Value} {w : Option ρ} (C0 : zC p s m args meth c cc nL own Ts T ret) {x : Int32} {o : Int} {tgt : Nat} {v : Int32} (hq : T.lookup pc = some (.ifCond .ne o, 3, tgt, v)) (h : ¬ (¬ x = 0)) (kf : SO p l e R s m args below meth c nL A Rep fc fs S (pc + 3) lv rest F w) : SO p l e R s m args below meth c nL A Rep fc fs S pc lv (.int x :: rest) F w := fun r hr => sw_if_neF C0 hq h (kf r hr)
theorem sw_if_ltT (C0 : zC p s m args meth c cc nL own Ts T ret) {x : Int32} {o : Int} {tgt : Nat} {v : Int32} (hq : T.lookup pc = some (.ifCond .lt o, 3, tgt, v)) (h : x < 0) (kt : SW p l e R s m args below meth c nL A Rep fc fs S tgt lv rest E) : SW p l e R s m args below meth c nL A Rep fc fs S pc lv (.int x :: rest) E := by
  obtain ⟨hx, hb, hml, hown, hts, hT, hr, hlocks⟩ := C0
  obtain ⟨hd, ht⟩ := zok_jmp (hT.at hq) (Or.inl ⟨_, rfl⟩)
  exact sw_W kt (fun H locs cells slots ls h5 k => lv_if_lt hx hb hd ht (fun _ => k h5) (fun h' => absurd h h'))
theorem sw_if_ltF (C0 : zC p s m args meth c cc nL own Ts T ret) {x : Int32} {o : Int} {tgt : Nat} {v : Int32} (hq : T.lookup pc = some (.ifCond .lt o, 3, tgt, v)) (h : ¬ (x < 0)) (kf : SW p l e R s m args below meth c nL A Rep fc fs S (pc + 3) lv rest E) : SW p l e R s m args below meth c nL A Rep fc fs S pc lv (.int x :: rest) E := by
  obtain ⟨hx, hb, hml, hown, hts, hT, hr, hlocks⟩ := C0
  obtain ⟨hd, ht⟩ := zok_jmp (hT.at hq) (Or.inl ⟨_, rfl⟩)
  exact sw_W kf (fun H locs cells slots ls h5 k => lv_if_lt hx hb hd ht (fun h' => absurd h' h) (fun _ => k h5))
theorem sw_if_lt {ρ : Type} (F : ρ → σ × Option Value) {r1 r2 : ρ} (C0 : zC p s m args meth c cc nL own Ts T ret) {x : Int32} {o : Int} {tgt : Nat} {v : Int32} (hq : T.lookup pc = some (.ifCond .lt o, 3, tgt, v)) (kt : x < 0 → SW p l e R s m args below meth c nL A Rep fc fs S tgt lv rest (F r1)) (kf : ¬ (x < 0) → SW p l e R s m args below meth c nL A Rep fc fs S (pc + 3) lv rest (F r2)) : SW p l e R s m args below meth c nL A Rep fc fs S pc lv (.int x :: rest) (F (if x < 0 then r1 else r2)) :=
  sw_if F (fun h => sw_if_ltT C0 hq h (kt h)) (fun h => sw_if_ltF C0 hq h (kf h))
theorem so_if_lt {ρ : Type} {F : ρ → σ × Option Value} {r1 r2 : Option ρ} (C0 : zC p s m args meth c cc nL own Ts T ret) {x : Int32} {o : Int} {tgt : Nat} {v : Int32} (hq : T.lookup pc = some (.ifCond .lt o, 3, tgt, v)) (kt : x < 0 → SO p l e R s m args below meth c nL A Rep fc fs S tgt lv rest F r1) (kf : ¬ (x < 0) → SO p l e R s m args below meth c nL A Rep fc fs S (pc + 3) lv rest F r2) : SO p l e R s m args below meth c nL A Rep fc fs S pc lv (.int x :: rest) F (if x < 0 then r1 else r2) := by
  intro r hr
  by_cases h : x < 0
  · rw [if_pos h] at hr
    exact sw_if_ltT C0 hq h (kt h r hr)
  · rw [if_neg h] at hr
    exact sw_if_ltF C0 hq h (kf h r hr)
theorem so_if_ltT {ρ : Type} {F : ρ → σ × Option Value} {w : Option ρ} (C0 : zC p s m args meth c cc nL own Ts T ret) {x : Int32} {o : Int} {tgt : Nat} {v : Int32} (hq : T.lookup pc = some (.ifCond .lt o, 3, tgt, v)) (h : x < 0) (kt : SO p l e R s m args below meth c nL A Rep fc fs S tgt lv rest F w) : SO p l e R s m args below meth c nL A Rep fc fs S pc lv (.int x :: rest) F w := fun r hr => sw_if_ltT C0 hq h (kt r hr)
theorem so_if_ltF {ρ : Type} {F : ρ → σ × Option Value} {w : Option ρ} (C0 : zC p s m args meth c cc nL own Ts T ret) {x : Int32} {o : Int} {tgt : Nat} {v : Int32} (hq : T.lookup pc = some (.ifCond .lt o, 3, tgt, v)) (h : ¬ (x < 0)) (kf : SO p l e R s m args below meth c nL A Rep fc fs S (pc + 3) lv rest F w) : SO p l e R s m args below meth c nL A Rep fc fs S pc lv (.int x :: rest) F w := fun r hr => sw_if_ltF C0 hq h (kf r hr)
theorem sw_if_geT (C0 : zC p s m args meth c cc nL own Ts T ret) {x : Int32} {o : Int} {tgt : Nat} {v : Int32} (hq : T.lookup pc = some (.ifCond .ge o, 3, tgt, v)) (h : 0 ≤ x) (kt : SW p l e R s m args below meth c nL A Rep fc fs S tgt lv rest E) : SW p l e R s m args below meth c nL A Rep fc fs S pc lv (.int x :: rest) E := by
  obtain ⟨hx, hb, hml, hown, hts, hT, hr, hlocks⟩ := C0
  obtain ⟨hd, ht⟩ := zok_jmp (hT.at hq) (Or.inl ⟨_, rfl⟩)
  exact sw_W kt (fun H locs cells slots ls h5 k => lv_if_ge hx hb hd ht (fun _ => k h5) (fun h' => absurd h h'))
theorem sw_if_geF (C0 : zC p s m args meth c cc nL own Ts T ret) {x : Int32} {o : Int} {tgt : Nat} {v : Int32} (hq : T.lookup pc = some (.ifCond .ge o, 3, tgt, v)) (h : ¬ (0 ≤ x)) (kf : SW p l e R s m args below meth c nL A Rep fc fs S (pc + 3) lv rest E) : SW p l e R s m args below meth c nL A Rep fc fs S pc lv (.int x :: rest) E := by
  obtain ⟨hx, hb, hml, hown, hts, hT, hr, hlocks⟩ := C0
  obtain ⟨hd, ht⟩ := zok_jmp (hT.at hq) (Or.inl ⟨_, rfl⟩)
  exact sw_W kf (fun H locs cells slots ls h5 k => lv_if_ge hx hb hd ht (fun h' => absurd h' h) (fun _ => k h5))
theorem sw_if_ge {ρ : Type} (F : ρ → σ × Option Value) {r1 r2 : ρ} (C0 : zC p s m args meth c cc nL own Ts T ret) {x : Int32} {o : Int} {tgt : Nat} {v : Int32} (hq : T.lookup pc = some (.ifCond .ge o, 3, tgt, v)) (kt : 0 ≤ x → SW p l e R s m args below meth c nL A Rep fc fs S tgt lv rest (F r1)) (kf : ¬ (0 ≤ x) → SW p l e R s m args below meth c nL A Rep fc fs S (pc + 3) lv rest (F r2)) : SW p l e R s m args below meth c nL A Rep fc fs S pc lv (.int x :: rest) (F (if 0 ≤ x then r1 else r2)) :=
  sw_if F (fun h => sw_if_geT C0 hq h (kt h)) (fun h => sw_if_geF C0 hq h (kf h))
theorem so_if_ge {ρ : Type} {F : ρ → σ × Option Value} {r1 r2 : Option ρ} (C0 : zC p s m args meth c cc nL own Ts T ret) {x : Int32} {o : Int} {tgt : Nat} {v : Int32} (hq : T.lookup pc = some (.ifCond .ge o, 3, tgt, v)) (kt : 0 ≤ x → SO p l e R s m args below meth c nL A Rep fc fs S tgt lv rest F r1) (kf : ¬ (0 ≤ x) → SO p l e R s m args below meth c nL A Rep fc fs S (pc + 3) lv rest F r2) : SO p l e R s m args below meth c nL A Rep fc fs S pc lv (.int x :: rest) F (if 0 ≤ x then r1 else r2) := by
  intro r hr
  by_cases h : 0 ≤ x
  · rw [if_pos h] at hr
    exact sw_if_geT C0 hq h (kt h r hr)
  · rw [if_neg h] at hr
    exact sw_if_geF C0 hq h (kf h r hr)
theorem so_if_geT {ρ : Type} {F : ρ → σ × Option Value} {w : Option ρ} (C0 : zC p s m args meth c cc nL own Ts T ret) {x : Int32} {o : Int} {tgt : Nat} {v : Int32} (hq : T.lookup pc = some (.ifCond .ge o, 3, tgt, v)) (h : 0 ≤ x) (kt : SO p l e R s m args below meth c nL A Rep fc fs S tgt lv rest F w) : SO p l e R s m args below meth c nL A Rep fc fs S pc lv (.int x :: rest) F w := fun r hr => sw_if_geT C0 hq h (kt r hr)
theorem so_if_geF {ρ : Type} {F : ρ → σ × Option Value} {w : Option ρ} (C0 : zC p s m args meth c cc nL own Ts T ret) {x : Int32} {o : Int} {tgt : Nat} {v : Int32} (hq : T.lookup pc = some (.ifCond .ge o, 3, tgt, v)) (h : ¬ (0 ≤ x)) (kf : SO p l e R s m args below meth c nL A Rep fc fs S (pc + 3) lv rest F w) : SO p l e R s m args below meth c nL A Rep fc fs S pc lv (.int x :: rest) F w := fun r hr => sw_if_geF C0 hq h (kf r hr)
theorem sw_if_gtT (C0 : zC p s m args meth c cc nL own Ts T ret) {x : Int32} {o : Int} {tgt : Nat} {v : Int32} (hq : T.lookup pc = some (.ifCond .gt o, 3, tgt, v)) (h : 0 < x) (kt : SW p l e R s m args below meth c nL A Rep fc fs S tgt lv rest E) : SW p l e R s m args below meth c nL A Rep fc fs S pc lv (.int x :: rest) E := by
  obtain ⟨hx, hb, hml, hown, hts, hT, hr, hlocks⟩ := C0
  obtain ⟨hd, ht⟩ := zok_jmp (hT.at hq) (Or.inl ⟨_, rfl⟩)
  exact sw_W kt (fun H locs cells slots ls h5 k => lv_if_gt hx hb hd ht (fun _ => k h5) (fun h' => absurd h h'))
theorem sw_if_gtF (C0 : zC p s m args meth c cc nL own Ts T ret) {x : Int32} {o : Int} {tgt : Nat} {v : Int32} (hq : T.lookup pc = some (.ifCond .gt o, 3, tgt, v)) (h : ¬ (0 < x)) (kf : SW p l e R s m args below meth c nL A Rep fc fs S (pc + 3) lv rest E) : SW p l e R s m args below meth c nL A Rep fc fs S pc lv (.int x :: rest) E := by
  obtain ⟨hx, hb, hml, hown, hts, hT, hr, hlocks⟩ := C0
  obtain ⟨hd, ht⟩ := zok_jmp (hT.at hq) (Or.inl ⟨_, rfl⟩)
  exact sw_W kf (fun H locs cells slots ls h5 k => lv_if_gt hx hb hd ht (fun h' => absurd h' h) (fun _ => k h5))
theorem sw_if_gt {ρ : Type} (F : ρ → σ × Option Value) {r1 r2 : ρ} (C0 : zC p s m args meth c cc nL own Ts T ret) {x : Int32} {o : Int} {tgt : Nat} {v : Int32} (hq : T.lookup pc = some (.ifCond .gt o, 3, tgt, v)) (kt : 0 < x → SW p l e R s m args below meth c nL A Rep fc fs S tgt lv rest (F r1)) (kf : ¬ (0 < x) → SW p l e R s m args below meth c nL A Rep fc fs S (pc + 3) lv rest (F r2)) : SW p l e R s m args below meth c nL A Rep fc fs S pc lv (.int x :: rest) (F (if 0 < x then r1 else r2)) :=
  sw_if F (fun h => sw_if_gtT C0 hq h (kt h)) (fun h => sw_if_gtF C0 hq h (kf h))
theorem so_if_gt {ρ : Type} {F : ρ → σ × Option Value} {r1 r2 : Option ρ} (C0 : zC p s m args meth c cc nL own Ts T ret) {x : Int32} {o : Int} {tgt : Nat} {v : Int32} (hq : T.lookup pc = some (.ifCond .gt o, 3, tgt, v)) (kt : 0 < x → SO p l e R s m args below meth c nL A Rep fc fs S tgt lv rest F r1) (kf : ¬ (0 < x) → SO p l e R s m args below meth c nL A Rep fc fs S (pc + 3) lv rest F r2) : SO p l e R s m args below meth c nL A Rep fc fs S pc lv (.int x :: rest) F (if 0 < x then r1 else r2) := by
  intro r hr
  by_cases h : 0 < x
  · rw [if_pos h] at hr
    exact sw_if_gtT C0 hq h (kt h r hr)
  · rw [if_neg h] at hr
    exact sw_if_gtF C0 hq h (kf h r hr)
theorem so_if_gtT {ρ : Type} {F : ρ → σ × Option Value} {w : Option ρ} (C0 : zC p s m args meth c cc nL own Ts T ret) {x : Int32} {o : Int} {tgt : Nat} {v : Int32} (hq : T.lookup pc = some (.ifCond .gt o, 3, tgt, v)) (h : 0 < x) (kt : SO p l e R s m args below meth c nL A Rep fc fs S tgt lv rest F w) : SO p l e R s m args below meth c nL A Rep fc fs S pc lv (.int x :: rest) F w := fun r hr => sw_if_gtT C0 hq h (kt r hr)
theorem so_if_gtF {ρ : Type} {F : ρ → σ × Option Value} {w : Option ρ} (C0 : zC p s m args meth c cc nL own Ts T ret) {x : Int32} {o : Int} {tgt : Nat} {v : Int32} (hq : T.lookup pc = some (.ifCond .gt o, 3, tgt, v)) (h : ¬ (0 < x)) (kf : SO p l e R s m args below meth c nL A Rep fc fs S (pc + 3) lv rest F w) : SO p l e R s m args below meth c nL A Rep fc fs S pc lv (.int x :: rest) F w := fun r hr => sw_if_gtF C0 hq h (kf r hr)
theorem sw_if_leT (C0 : zC p s m args meth c cc nL own Ts T ret) {x : Int32} {o : Int} {tgt : Nat} {v : Int32} (hq : T.lookup pc = some (.ifCond .le o, 3, tgt, v)) (h : x ≤ 0) (kt : SW p l e R s m args below meth c nL A Rep fc fs S tgt lv rest E) : SW p l e R s m args below meth c nL A Rep fc fs S pc lv (.int x :: rest) E := by
  obtain ⟨hx, hb, hml, hown, hts, hT, hr, hlocks⟩ := C0
  obtain ⟨hd, ht⟩ := zok_jmp (hT.at hq) (Or.inl ⟨_, rfl⟩)
  exact sw_W kt (fun H locs cells slots ls h5 k => lv_if_le hx hb hd ht (fun _ => k h5) (fun h' => absurd h h'))
theorem sw_if_leF (C0 : zC p s m args meth c cc nL own Ts T ret) {x : Int32} {o : Int} {tgt : Nat} {v : Int32} (hq : T.lookup pc = some (.ifCond .le o, 3, tgt, v)) (h : ¬ (x ≤ 0)) (kf : SW p l e R s m args below meth c nL A Rep fc fs S (pc + 3) lv rest E) : SW p l e R s m args below meth c nL A Rep fc fs S pc lv (.int x :: rest) E := by
  obtain ⟨hx, hb, hml, hown, hts, hT, hr, hlocks⟩ := C0
  obtain ⟨hd, ht⟩ := zok_jmp (hT.at hq) (Or.inl ⟨_, rfl⟩)
  exact sw_W kf (fun H locs cells slots ls h5 k => lv_if_le hx hb hd ht (fun h' => absurd h' h) (fun _ => k h5))
theorem sw_if_le {ρ : Type} (F : ρ → σ × Option Value) {r1 r2 : ρ} (C0 : zC p s m args meth c cc nL own Ts T ret) {x : Int32} {o : Int} {tgt : Nat} {v : Int32} (hq : T.lookup pc = some (.ifCond .le o, 3, tgt, v)) (kt : x ≤ 0 → SW p l e R s m args below meth c nL A Rep fc fs S tgt lv rest (F r1)) (kf : ¬ (x ≤ 0) → SW p l e R s m args below meth c nL A Rep fc fs S (pc + 3) lv rest (F r2)) : SW p l e R s m args below meth c nL A Rep fc fs S pc lv (.int x :: rest) (F (if x ≤ 0 then r1 else r2)) :=
  sw_if F (fun h => sw_if_leT C0 hq h (kt h)) (fun h => sw_if_leF C0 hq h (kf h))
theorem so_if_le {ρ : Type} {F : ρ → σ × Option Value} {r1 r2 : Option ρ} (C0 : zC p s m args meth c cc nL own Ts T ret) {x : Int32} {o : Int} {tgt : Nat} {v : Int32} (hq : T.lookup pc = some (.ifCond .le o, 3, tgt, v)) (kt : x ≤ 0 → SO p l e R s m args below meth c nL A Rep fc fs S tgt lv rest F r1) (kf : ¬ (x ≤ 0) → SO p l e R s m args below meth c nL A Rep fc fs S (pc + 3) lv rest F r2) : SO p l e R s m args below meth c nL A Rep fc fs S pc lv (.int x :: rest) F (if x ≤ 0 then r1 else r2) := by
  intro r hr
  by_cases h : x ≤ 0
  · rw [if_pos h] at hr
    exact sw_if_leT C0 hq h (kt h r hr)
  · rw [if_neg h] at hr
    exact sw_if_leF C0 hq h (kf h r hr)
theorem so_if_leT {ρ : Type} {F : ρ → σ × Option Value} {w : Option ρ} (C0 : zC p s m args meth c cc nL own Ts T ret) {x : Int32} {o : Int} {tgt : Nat} {v : Int32} (hq : T.lookup pc = some (.ifCond .le o, 3, tgt, v)) (h : x ≤ 0) (kt : SO p l e R s m args below meth c nL A Rep fc fs S tgt lv rest F w) : SO p l e R s m args below meth c nL A Rep fc fs S pc lv (.int x :: rest) F w := fun r hr => sw_if_leT C0 hq h (kt r hr)
theorem so_if_leF {ρ : Type} {F : ρ → σ × Option Value} {w : Option ρ} (C0 : zC p s m args meth c cc nL own Ts T ret) {x : Int32} {o : Int} {tgt : Nat} {v : Int32} (hq : T.lookup pc = some (.ifCond .le o, 3, tgt, v)) (h : ¬ (x ≤ 0)) (kf : SO p l e R s m args below meth c nL A Rep fc fs S (pc + 3) lv rest F w) : SO p l e R s m args below meth c nL A Rep fc fs S pc lv (.int x :: rest) F w := fun r hr => sw_if_leF C0 hq h (kf r hr)
/-- a call -/
theorem sw_call {E' : σ × Option Value} {a : Array Value} (hm1 : fc S ≤ fc E'.1) (hm2 : fs S ≤ fs E'.1)
    (run : ∀ (H : Heap) (locs : List Loc) (cells slots : Nat) (ls : Array Slot), Rep S H → va_S A s.heap H locs → lv_has ls nL lv → cells + (fc E'.1 - fc S) ≤ R.cells → slots + (fs E'.1 - fs S) ≤ R.slots → va_Run p l e R s m args below meth c H locs cells slots (fc E'.1 - fc S) (fs E'.1 - fs S) (F0 m pc ls st) rest (zQ A Rep E' a) A)
    (k : SW p l e R s m args below meth c nL A Rep fc fs E'.1 (pc + 3) lv (E'.2.toList ++ rest) E) : SW p l e R s m args below meth c nL A Rep fc fs S pc lv st E := by
  obtain ⟨k1, k2, k3⟩ := k
  refine ⟨Nat.le_trans hm1 k1, Nat.le_trans hm2 k2, fun H locs cells slots ls h1 h2 h3 h4 h5 => ?_⟩
  intro T hT X
  obtain ⟨v, st₀, t, T', L, h0, X', hL, e1, e2, ⟨hv, hRep, hz, hk⟩, stp⟩ := run H locs cells slots ls h1 h2 h5 (by omega) (by omega) T hT X
  cases hv
  rw [h0] at hz hk
  obtain ⟨t2, a1, b1⟩ := k3 T'.heap (locs ++ L) (cells + (fc E'.1 - fc S)) (slots + (fs E'.1 - fs S)) ls (by rw [e1]; exact hRep)
    ⟨Nat.le_trans h2.1 (by rw [e1]; exact hz), fun q g1 g2 => by rw [e1, hk q (Nat.lt_of_lt_of_le g1 h2.1) g2]; exact h2.2.1 q g1 g2, fun q hq => by
      rcases List.mem_append.mp hq with h | h
      · exact h2.2.2 q h
      · exact hL q h⟩ (by omega) (by omega) h5 T' rfl X'
  exact ⟨t2, stp t2 a1, b1⟩
/-- the method's end -/
theorem sw_reti (C0 : zC p s m args meth c cc nL own Ts T (some .int)) {x : Int32} {tgt : Nat} {v : Int32} (hq : T.lookup pc = some (.ireturn, 1, tgt, v)) (hE : E = (S, some (.int x))) : SW p l e R s m args below meth c nL A Rep fc fs S pc lv [.int x] E := by
  obtain ⟨hx, hb, hml, hown, hts, hT, hr, hlocks⟩ := C0
  subst hE
  refine ⟨Nat.le_refl _, Nat.le_refl _, fun H locs cells slots ls h1 h2 h3 h4 h5 => ?_⟩
  refine W.widen (k := R.cells) (n := R.slots) (by dsimp only at h3; omega) (by dsimp only at h4; omega) ?_
  exact W.iret hx hb hr (fun t ht hW => ⟨rfl, by rw [ht]; exact h1, h2.F ht⟩) h2.2.2 (hT.dec hq) hlocks
theorem sw_retz (C0 : zC p s m args meth c cc nL own Ts T (some .boolean)) {x : Int32} {tgt : Nat} {v : Int32} (hq : T.lookup pc = some (.ireturn, 1, tgt, v)) (hn : narrow .boolean (.int x) = .int x) (hE : E = (S, some (.int x))) : SW p l e R s m args below meth c nL A Rep fc fs S pc lv [.int x] E := by
  obtain ⟨hx, hb, hml, hown, hts, hT, hr, hlocks⟩ := C0
  subst hE
  refine ⟨Nat.le_refl _, Nat.le_refl _, fun H locs cells slots ls h1 h2 h3 h4 h5 => ?_⟩
  refine W.widen (k := R.cells) (n := R.slots) (by dsimp only at h3; omega) (by dsimp only at h4; omega) ?_
  exact W.zret hx hb hr hn (fun t ht hW => ⟨rfl, by rw [ht]; exact h1, h2.F ht⟩) h2.2.2 (hT.dec hq) hlocks
theorem sw_retl (C0 : zC p s m args meth c cc nL own Ts T (some .long)) {x : Int64} {tgt : Nat} {v : Int32} (hq : T.lookup pc = some (.lreturn, 1, tgt, v)) (hE : E = (S, some (.long x))) : SW p l e R s m args below meth c nL A Rep fc fs S pc lv [.long x] E := by
  obtain ⟨hx, hb, hml, hown, hts, hT, hr, hlocks⟩ := C0
  subst hE
  refine ⟨Nat.le_refl _, Nat.le_refl _, fun H locs cells slots ls h1 h2 h3 h4 h5 => ?_⟩
  refine W.widen (k := R.cells) (n := R.slots) (by dsimp only at h3; omega) (by dsimp only at h4; omega) ?_
  exact W.lret hx hb hr (fun t ht hW => ⟨rfl, by rw [ht]; exact h1, h2.F ht⟩) h2.2.2 (hT.dec hq) hlocks
theorem sw_retv (C0 : zC p s m args meth c cc nL own Ts T none) {tgt : Nat} {v : Int32} (hq : T.lookup pc = some (.return_, 1, tgt, v)) (hE : E = (S, none)) : SW p l e R s m args below meth c nL A Rep fc fs S pc lv [] E := by
  obtain ⟨hx, hb, hml, hown, hts, hT, hr, hlocks⟩ := C0
  subst hE
  refine ⟨Nat.le_refl _, Nat.le_refl _, fun H locs cells slots ls h1 h2 h3 h4 h5 => ?_⟩
  refine W.widen (k := R.cells) (n := R.slots) (by dsimp only at h3; omega) (by dsimp only at h4; omega) ?_
  exact W.vret hx hb hr (fun t ht hW => ⟨rfl, by rw [ht]; exact h1, h2.F ht⟩) h2.2.2 (hT.dec hq) hlocks
/-- the tables' words that any state keeps -/
def zwl : List Cond := lw_tbl.filter goodWord
theorem zwl_in {w : Cond} (h : w ∈ lw_tbl) (g : goodWord w = true) : w ∈ zwl := List.mem_filter.mpr ⟨h, g⟩
/-- what is the same of every call of a method: its words stand in the tables -/
def zY (C : String) (y : MethodName) (bytes : ByteArray) (maxL : Nat) (rt : Option FieldType) (n : Nat) : Prop :=
  Cond.code y bytes maxL rt ∈ zwl ∧ Cond.instanceMethod y ∈ zwl ∧ Cond.selects C y y ∈ zwl ∧ Cond.initialized C ∈ zwl ∧ (y.cls = C ∧ y.cls ≠ "java/lang/invoke/MethodHandle" ∧ y.cls ≠ "java/lang/invoke/VarHandle" ∧ (parseMethodDescriptor y.desc).map (fun d => d.parameters.length) = some n)
abbrev zw (y : MethodName) (bytes : ByteArray) (maxL : Nat) (rt : Option FieldType) : List Cond := Cond.code y bytes maxL rt :: zwl
set_option maxRecDepth 100000 in
theorem zgood : GoodIn zwl zwl := fun w hw => ⟨hw, good_of_word (List.mem_filter.mp hw).2⟩
variable {D : va_G} {cl : List vw_C} {tys : List (ClassId × FieldType)}
/-- the receiver is an object of its class -/
def zRc (s : State) (C : String) (b : Nat) (H : Heap) : Prop := ∃ cellB : Cell, H[b]? = some cellB ∧ cellB.vm.isStatics = false ∧ s.vm.findClass C = some cellB.cls
theorem sw_callV {E' : σ × Option Value} {C : String} {y : MethodName} {bytes : ByteArray} {maxL n fr lo idx tgt b : Nat} {v : Int32} {rt : Option FieldType} {As : List Value} (C0 : zC p s m args meth c cc nL own zwl T ret) (hK : va_K D cl tys s) (hA : ∀ q, s.heap.size ≤ q → A q) (Y : zY C y bytes maxL rt n) (hM : zMet l y (zw y bytes maxL rt) fr lo (.ref b :: As) D cl tys A Rep fc fs S E')
    (hl : Cond.methodLink own idx y ∈ zwl) (hq : T.lookup pc = some (.invokevirtual idx, 3, tgt, v)) (hn : As.length = n) (hR : fr + 1 ≤ R.frames ∧ 8 + (maxL + 11) + lo ≤ R.locals) (hW : (rest.map fun v => v.category).sum ≤ 8) (hrc : ∀ H, Rep S H → zRc s C b H)
    (k : SW p l e R s m args below meth c nL A Rep fc fs E'.1 (pc + 3) lv (E'.2.toList ++ rest) E) : SW p l e R s m args below meth c nL A Rep fc fs S pc lv (As.reverse ++ .ref b :: rest) E := by
  obtain ⟨hm1, hm2, hM⟩ := hM
  obtain ⟨y1, y2, y3, y4, y5⟩ := Y
  obtain ⟨hx, hb, hml, hown, hts, hT, hr, hlocks⟩ := C0
  refine sw_call (a := (Value.ref b :: As).toArray) hm1 hm2 (fun H locs cells slots ls h1 h2 h5 h6 h7 => ?_) k
  have hG : GoodIn zwl (wsV own idx C y (zw y bytes maxL rt)) := by
    intro w hw
    rcases List.mem_append.mp hw with h | h
    · have : w = .methodLink own idx y ∨ w = .instanceMethod y ∨ w = .selects C y y ∨ w = .initialized C := by simpa using h
      rcases this with rfl | rfl | rfl | rfl
      · exact ⟨hl, (zgood _ hl).2⟩
      · exact ⟨y2, (zgood _ y2).2⟩
      · exact ⟨y3, (zgood _ y3).2⟩
      · exact ⟨y4, (zgood _ y4).2⟩
    · rcases List.mem_cons.mp h with rfl | h
      · exact ⟨y1, (zgood _ y1).2⟩
      · exact zgood _ h
  exact va_runV (As := As) (rest := rest) ⟨hx, hb, hml, hown, hts⟩ hM (cwV n hts hG rfl rfl rfl y5 hR) ⟨zPre_blind, hrc H h1, fun U hU hW2 => ⟨rfl, by rw [hU]; exact h1, va_K.moved hW2.alike hK, fun q hq => hA q (Nat.le_trans h2.1 (by rw [← hU]; exact hq))⟩⟩ rfl hn h5.1 rfl (lv_room hW) (hT.dec hq) ⟨h6, h7⟩
theorem sw_cp {x : Int32} {C : String} {y : MethodName} {bytes : ByteArray} {maxL n fr lo idx tgt b : Nat} {v0 : Int32} {rt : Option FieldType} {As : List Value} (C0 : zC p s m args meth c cc nL own zwl T ret) (hK : va_K D cl tys s) (hA : ∀ q, s.heap.size ≤ q → A q) (Y : zY C y bytes maxL rt n) (hM : zMet l y (zw y bytes maxL rt) fr lo (.ref b :: As) D cl tys A Rep fc fs S (zFp S x)) (hl : Cond.methodLink own idx y ∈ zwl) (hq : T.lookup pc = some (.invokevirtual idx, 3, tgt, v0)) (hn : As.length = n) (hR : fr + 1 ≤ R.frames ∧ 8 + (maxL + 11) + lo ≤ R.locals) (hW : (rest.map fun v => v.category).sum ≤ 8) (hrc : ∀ H, Rep S H → zRc s C b H) (k : SW p l e R s m args below meth c nL A Rep fc fs S (pc + 3) lv (.int x :: rest) E) : SW p l e R s m args below meth c nL A Rep fc fs S pc lv (As.reverse ++ .ref b :: rest) E := sw_callV C0 hK hA Y hM hl hq hn hR hW hrc k
theorem so_cp {ρ : Type} {F : ρ → σ × Option Value} {w : Option ρ} {x : Int32} {C : String} {y : MethodName} {bytes : ByteArray} {maxL n fr lo idx tgt b : Nat} {v0 : Int32} {rt : Option FieldType} {As : List Value} (C0 : zC p s m args meth c cc nL own zwl T ret) (hK : va_K D cl tys s) (hA : ∀ q, s.heap.size ≤ q → A q) (Y : zY C y bytes maxL rt n) (hM : zMet l y (zw y bytes maxL rt) fr lo (.ref b :: As) D cl tys A Rep fc fs S (zFp S x)) (hl : Cond.methodLink own idx y ∈ zwl) (hq : T.lookup pc = some (.invokevirtual idx, 3, tgt, v0)) (hn : As.length = n) (hR : fr + 1 ≤ R.frames ∧ 8 + (maxL + 11) + lo ≤ R.locals) (hW : (rest.map fun v => v.category).sum ≤ 8) (hrc : ∀ H, Rep S H → zRc s C b H) (k : SO p l e R s m args below meth c nL A Rep fc fs S (pc + 3) lv (.int x :: rest) F w) : SO p l e R s m args below meth c nL A Rep fc fs S pc lv (As.reverse ++ .ref b :: rest) F w := fun r hr => sw_callV C0 hK hA Y hM hl hq hn hR hW hrc (k r hr)
theorem sw_ci {ρ : Type} (F : ρ → σ × Option Value) {x : σ × Int32} {K : σ → Int32 → ρ} {C : String} {y : MethodName} {bytes : ByteArray} {maxL n fr lo idx tgt b : Nat} {v0 : Int32} {rt : Option FieldType} {As : List Value} (C0 : zC p s m args meth c cc nL own zwl T ret) (hK : va_K D cl tys s) (hA : ∀ q, s.heap.size ≤ q → A q) (Y : zY C y bytes maxL rt n) (hM : zMet l y (zw y bytes maxL rt) fr lo (.ref b :: As) D cl tys A Rep fc fs S (zFi x)) (hl : Cond.methodLink own idx y ∈ zwl) (hq : T.lookup pc = some (.invokevirtual idx, 3, tgt, v0)) (hn : As.length = n) (hR : fr + 1 ≤ R.frames ∧ 8 + (maxL + 11) + lo ≤ R.locals) (hW : (rest.map fun v => v.category).sum ≤ 8) (hrc : ∀ H, Rep S H → zRc s C b H) (k : ∀ (S1 : σ) (v1 : Int32), x = (S1, v1) → SW p l e R s m args below meth c nL A Rep fc fs S1 (pc + 3) lv (.int v1 :: rest) (F (K S1 v1))) : SW p l e R s m args below meth c nL A Rep fc fs S pc lv (As.reverse ++ .ref b :: rest) (F (zbind2 x K)) := sw_callV C0 hK hA Y hM hl hq hn hR hW hrc (k x.1 x.2 rfl)
theorem so_ci {ρ : Type} {F : ρ → σ × Option Value} {x : σ × Int32} {K : σ → Int32 → Option ρ} {C : String} {y : MethodName} {bytes : ByteArray} {maxL n fr lo idx tgt b : Nat} {v0 : Int32} {rt : Option FieldType} {As : List Value} (C0 : zC p s m args meth c cc nL own zwl T ret) (hK : va_K D cl tys s) (hA : ∀ q, s.heap.size ≤ q → A q) (Y : zY C y bytes maxL rt n) (hM : zMet l y (zw y bytes maxL rt) fr lo (.ref b :: As) D cl tys A Rep fc fs S (zFi x)) (hl : Cond.methodLink own idx y ∈ zwl) (hq : T.lookup pc = some (.invokevirtual idx, 3, tgt, v0)) (hn : As.length = n) (hR : fr + 1 ≤ R.frames ∧ 8 + (maxL + 11) + lo ≤ R.locals) (hW : (rest.map fun v => v.category).sum ≤ 8) (hrc : ∀ H, Rep S H → zRc s C b H) (k : ∀ (S1 : σ) (v1 : Int32), x = (S1, v1) → SO p l e R s m args below meth c nL A Rep fc fs S1 (pc + 3) lv (.int v1 :: rest) F (K S1 v1)) : SO p l e R s m args below meth c nL A Rep fc fs S pc lv (As.reverse ++ .ref b :: rest) F (zbind2 x K) := fun r hr => sw_callV C0 hK hA Y hM hl hq hn hR hW hrc (k x.1 x.2 rfl r hr)
theorem so_op {ρ : Type} {F : ρ → σ × Option Value} {x : Option Int32} {K : Int32 → Option ρ} {C : String} {y : MethodName} {bytes : ByteArray} {maxL n fr lo idx tgt b : Nat} {v0 : Int32} {rt : Option FieldType} {As : List Value} (C0 : zC p s m args meth c cc nL own zwl T ret) (hK : va_K D cl tys s) (hA : ∀ q, s.heap.size ≤ q → A q) (Y : zY C y bytes maxL rt n) (hM : ∀ r, x = some r → zMet l y (zw y bytes maxL rt) fr lo (.ref b :: As) D cl tys A Rep fc fs S (zFp S r)) (hl : Cond.methodLink own idx y ∈ zwl) (hq : T.lookup pc = some (.invokevirtual idx, 3, tgt, v0)) (hn : As.length = n) (hR : fr + 1 ≤ R.frames ∧ 8 + (maxL + 11) + lo ≤ R.locals) (hW : (rest.map fun v => v.category).sum ≤ 8) (hrc : ∀ H, Rep S H → zRc s C b H) (k : ∀ (v1 : Int32), x = some v1 → SO p l e R s m args below meth c nL A Rep fc fs S (pc + 3) lv (.int v1 :: rest) F (K v1)) : SO p l e R s m args below meth c nL A Rep fc fs S pc lv (As.reverse ++ .ref b :: rest) F (zob x K) := by
  intro r hr
  cases x with
  | none => cases hr
  | some a => exact sw_callV C0 hK hA Y (hM a rfl) hl hq hn hR hW hrc (k a rfl r hr)
theorem so_oi {ρ : Type} {F : ρ → σ × Option Value} {x : Option (σ × Int32)} {K : σ → Int32 → Option ρ} {C : String} {y : MethodName} {bytes : ByteArray} {maxL n fr lo idx tgt b : Nat} {v0 : Int32} {rt : Option FieldType} {As : List Value} (C0 : zC p s m args meth c cc nL own zwl T ret) (hK : va_K D cl tys s) (hA : ∀ q, s.heap.size ≤ q → A q) (Y : zY C y bytes maxL rt n) (hM : ∀ r, x = some r → zMet l y (zw y bytes maxL rt) fr lo (.ref b :: As) D cl tys A Rep fc fs S (zFi r)) (hl : Cond.methodLink own idx y ∈ zwl) (hq : T.lookup pc = some (.invokevirtual idx, 3, tgt, v0)) (hn : As.length = n) (hR : fr + 1 ≤ R.frames ∧ 8 + (maxL + 11) + lo ≤ R.locals) (hW : (rest.map fun v => v.category).sum ≤ 8) (hrc : ∀ H, Rep S H → zRc s C b H) (k : ∀ (S1 : σ) (v1 : Int32), x = some (S1, v1) → SO p l e R s m args below meth c nL A Rep fc fs S1 (pc + 3) lv (.int v1 :: rest) F (K S1 v1)) : SO p l e R s m args below meth c nL A Rep fc fs S pc lv (As.reverse ++ .ref b :: rest) F (zob2 x K) := by
  intro r hr
  cases x with
  | none => cases hr
  | some a => exact sw_callV C0 hK hA Y (hM a rfl) hl hq hn hR hW hrc (k a.1 a.2 rfl r hr)
theorem sw_cpl {x : Int64} {C : String} {y : MethodName} {bytes : ByteArray} {maxL n fr lo idx tgt b : Nat} {v0 : Int32} {rt : Option FieldType} {As : List Value} (C0 : zC p s m args meth c cc nL own zwl T ret) (hK : va_K D cl tys s) (hA : ∀ q, s.heap.size ≤ q → A q) (Y : zY C y bytes maxL rt n) (hM : zMet l y (zw y bytes maxL rt) fr lo (.ref b :: As) D cl tys A Rep fc fs S (zFpl S x)) (hl : Cond.methodLink own idx y ∈ zwl) (hq : T.lookup pc = some (.invokevirtual idx, 3, tgt, v0)) (hn : As.length = n) (hR : fr + 1 ≤ R.frames ∧ 8 + (maxL + 11) + lo ≤ R.locals) (hW : (rest.map fun v => v.category).sum ≤ 8) (hrc : ∀ H, Rep S H → zRc s C b H) (k : SW p l e R s m args below meth c nL A Rep fc fs S (pc + 3) lv (.long x :: rest) E) : SW p l e R s m args below meth c nL A Rep fc fs S pc lv (As.reverse ++ .ref b :: rest) E := sw_callV C0 hK hA Y hM hl hq hn hR hW hrc k
theorem so_cpl {ρ : Type} {F : ρ → σ × Option Value} {w : Option ρ} {x : Int64} {C : String} {y : MethodName} {bytes : ByteArray} {maxL n fr lo idx tgt b : Nat} {v0 : Int32} {rt : Option FieldType} {As : List Value} (C0 : zC p s m args meth c cc nL own zwl T ret) (hK : va_K D cl tys s) (hA : ∀ q, s.heap.size ≤ q → A q) (Y : zY C y bytes maxL rt n) (hM : zMet l y (zw y bytes maxL rt) fr lo (.ref b :: As) D cl tys A Rep fc fs S (zFpl S x)) (hl : Cond.methodLink own idx y ∈ zwl) (hq : T.lookup pc = some (.invokevirtual idx, 3, tgt, v0)) (hn : As.length = n) (hR : fr + 1 ≤ R.frames ∧ 8 + (maxL + 11) + lo ≤ R.locals) (hW : (rest.map fun v => v.category).sum ≤ 8) (hrc : ∀ H, Rep S H → zRc s C b H) (k : SO p l e R s m args below meth c nL A Rep fc fs S (pc + 3) lv (.long x :: rest) F w) : SO p l e R s m args below meth c nL A Rep fc fs S pc lv (As.reverse ++ .ref b :: rest) F w := fun r hr => sw_callV C0 hK hA Y hM hl hq hn hR hW hrc (k r hr)
theorem sw_cil {ρ : Type} (F : ρ → σ × Option Value) {x : σ × Int64} {K : σ → Int64 → ρ} {C : String} {y : MethodName} {bytes : ByteArray} {maxL n fr lo idx tgt b : Nat} {v0 : Int32} {rt : Option FieldType} {As : List Value} (C0 : zC p s m args meth c cc nL own zwl T ret) (hK : va_K D cl tys s) (hA : ∀ q, s.heap.size ≤ q → A q) (Y : zY C y bytes maxL rt n) (hM : zMet l y (zw y bytes maxL rt) fr lo (.ref b :: As) D cl tys A Rep fc fs S (zFil x)) (hl : Cond.methodLink own idx y ∈ zwl) (hq : T.lookup pc = some (.invokevirtual idx, 3, tgt, v0)) (hn : As.length = n) (hR : fr + 1 ≤ R.frames ∧ 8 + (maxL + 11) + lo ≤ R.locals) (hW : (rest.map fun v => v.category).sum ≤ 8) (hrc : ∀ H, Rep S H → zRc s C b H) (k : ∀ (S1 : σ) (v1 : Int64), x = (S1, v1) → SW p l e R s m args below meth c nL A Rep fc fs S1 (pc + 3) lv (.long v1 :: rest) (F (K S1 v1))) : SW p l e R s m args below meth c nL A Rep fc fs S pc lv (As.reverse ++ .ref b :: rest) (F (zbind2 x K)) := sw_callV C0 hK hA Y hM hl hq hn hR hW hrc (k x.1 x.2 rfl)
theorem so_cil {ρ : Type} {F : ρ → σ × Option Value} {x : σ × Int64} {K : σ → Int64 → Option ρ} {C : String} {y : MethodName} {bytes : ByteArray} {maxL n fr lo idx tgt b : Nat} {v0 : Int32} {rt : Option FieldType} {As : List Value} (C0 : zC p s m args meth c cc nL own zwl T ret) (hK : va_K D cl tys s) (hA : ∀ q, s.heap.size ≤ q → A q) (Y : zY C y bytes maxL rt n) (hM : zMet l y (zw y bytes maxL rt) fr lo (.ref b :: As) D cl tys A Rep fc fs S (zFil x)) (hl : Cond.methodLink own idx y ∈ zwl) (hq : T.lookup pc = some (.invokevirtual idx, 3, tgt, v0)) (hn : As.length = n) (hR : fr + 1 ≤ R.frames ∧ 8 + (maxL + 11) + lo ≤ R.locals) (hW : (rest.map fun v => v.category).sum ≤ 8) (hrc : ∀ H, Rep S H → zRc s C b H) (k : ∀ (S1 : σ) (v1 : Int64), x = (S1, v1) → SO p l e R s m args below meth c nL A Rep fc fs S1 (pc + 3) lv (.long v1 :: rest) F (K S1 v1)) : SO p l e R s m args below meth c nL A Rep fc fs S pc lv (As.reverse ++ .ref b :: rest) F (zbind2 x K) := fun r hr => sw_callV C0 hK hA Y hM hl hq hn hR hW hrc (k x.1 x.2 rfl r hr)
theorem so_opl {ρ : Type} {F : ρ → σ × Option Value} {x : Option Int64} {K : Int64 → Option ρ} {C : String} {y : MethodName} {bytes : ByteArray} {maxL n fr lo idx tgt b : Nat} {v0 : Int32} {rt : Option FieldType} {As : List Value} (C0 : zC p s m args meth c cc nL own zwl T ret) (hK : va_K D cl tys s) (hA : ∀ q, s.heap.size ≤ q → A q) (Y : zY C y bytes maxL rt n) (hM : ∀ r, x = some r → zMet l y (zw y bytes maxL rt) fr lo (.ref b :: As) D cl tys A Rep fc fs S (zFpl S r)) (hl : Cond.methodLink own idx y ∈ zwl) (hq : T.lookup pc = some (.invokevirtual idx, 3, tgt, v0)) (hn : As.length = n) (hR : fr + 1 ≤ R.frames ∧ 8 + (maxL + 11) + lo ≤ R.locals) (hW : (rest.map fun v => v.category).sum ≤ 8) (hrc : ∀ H, Rep S H → zRc s C b H) (k : ∀ (v1 : Int64), x = some v1 → SO p l e R s m args below meth c nL A Rep fc fs S (pc + 3) lv (.long v1 :: rest) F (K v1)) : SO p l e R s m args below meth c nL A Rep fc fs S pc lv (As.reverse ++ .ref b :: rest) F (zob x K) := by
  intro r hr
  cases x with
  | none => cases hr
  | some a => exact sw_callV C0 hK hA Y (hM a rfl) hl hq hn hR hW hrc (k a rfl r hr)
theorem so_oil {ρ : Type} {F : ρ → σ × Option Value} {x : Option (σ × Int64)} {K : σ → Int64 → Option ρ} {C : String} {y : MethodName} {bytes : ByteArray} {maxL n fr lo idx tgt b : Nat} {v0 : Int32} {rt : Option FieldType} {As : List Value} (C0 : zC p s m args meth c cc nL own zwl T ret) (hK : va_K D cl tys s) (hA : ∀ q, s.heap.size ≤ q → A q) (Y : zY C y bytes maxL rt n) (hM : ∀ r, x = some r → zMet l y (zw y bytes maxL rt) fr lo (.ref b :: As) D cl tys A Rep fc fs S (zFil r)) (hl : Cond.methodLink own idx y ∈ zwl) (hq : T.lookup pc = some (.invokevirtual idx, 3, tgt, v0)) (hn : As.length = n) (hR : fr + 1 ≤ R.frames ∧ 8 + (maxL + 11) + lo ≤ R.locals) (hW : (rest.map fun v => v.category).sum ≤ 8) (hrc : ∀ H, Rep S H → zRc s C b H) (k : ∀ (S1 : σ) (v1 : Int64), x = some (S1, v1) → SO p l e R s m args below meth c nL A Rep fc fs S1 (pc + 3) lv (.long v1 :: rest) F (K S1 v1)) : SO p l e R s m args below meth c nL A Rep fc fs S pc lv (As.reverse ++ .ref b :: rest) F (zob2 x K) := by
  intro r hr
  cases x with
  | none => cases hr
  | some a => exact sw_callV C0 hK hA Y (hM a rfl) hl hq hn hR hW hrc (k a.1 a.2 rfl r hr)
theorem sw_cV {ρ : Type} (F : ρ → σ × Option Value) {x : σ} {K : σ → ρ} {C : String} {y : MethodName} {bytes : ByteArray} {maxL n fr lo idx tgt b : Nat} {v0 : Int32} {rt : Option FieldType} {As : List Value} (C0 : zC p s m args meth c cc nL own zwl T ret) (hK : va_K D cl tys s) (hA : ∀ q, s.heap.size ≤ q → A q) (Y : zY C y bytes maxL rt n) (hM : zMet l y (zw y bytes maxL rt) fr lo (.ref b :: As) D cl tys A Rep fc fs S (zFv x)) (hl : Cond.methodLink own idx y ∈ zwl) (hq : T.lookup pc = some (.invokevirtual idx, 3, tgt, v0)) (hn : As.length = n) (hR : fr + 1 ≤ R.frames ∧ 8 + (maxL + 11) + lo ≤ R.locals) (hW : (rest.map fun v => v.category).sum ≤ 8) (hrc : ∀ H, Rep S H → zRc s C b H) (k : ∀ S1 : σ, S1 = x → SW p l e R s m args below meth c nL A Rep fc fs S1 (pc + 3) lv rest (F (K S1))) : SW p l e R s m args below meth c nL A Rep fc fs S pc lv (As.reverse ++ .ref b :: rest) (F (zbind x K)) := sw_callV C0 hK hA Y hM hl hq hn hR hW hrc (k x rfl)
theorem so_cV {ρ : Type} {F : ρ → σ × Option Value} {x : σ} {K : σ → Option ρ} {C : String} {y : MethodName} {bytes : ByteArray} {maxL n fr lo idx tgt b : Nat} {v0 : Int32} {rt : Option FieldType} {As : List Value} (C0 : zC p s m args meth c cc nL own zwl T ret) (hK : va_K D cl tys s) (hA : ∀ q, s.heap.size ≤ q → A q) (Y : zY C y bytes maxL rt n) (hM : zMet l y (zw y bytes maxL rt) fr lo (.ref b :: As) D cl tys A Rep fc fs S (zFv x)) (hl : Cond.methodLink own idx y ∈ zwl) (hq : T.lookup pc = some (.invokevirtual idx, 3, tgt, v0)) (hn : As.length = n) (hR : fr + 1 ≤ R.frames ∧ 8 + (maxL + 11) + lo ≤ R.locals) (hW : (rest.map fun v => v.category).sum ≤ 8) (hrc : ∀ H, Rep S H → zRc s C b H) (k : ∀ S1 : σ, S1 = x → SO p l e R s m args below meth c nL A Rep fc fs S1 (pc + 3) lv rest F (K S1)) : SO p l e R s m args below meth c nL A Rep fc fs S pc lv (As.reverse ++ .ref b :: rest) F (zbind x K) := fun r hr => sw_callV C0 hK hA Y hM hl hq hn hR hW hrc (k x rfl r hr)
theorem so_oV {ρ : Type} {F : ρ → σ × Option Value} {x : Option σ} {K : σ → Option ρ} {C : String} {y : MethodName} {bytes : ByteArray} {maxL n fr lo idx tgt b : Nat} {v0 : Int32} {rt : Option FieldType} {As : List Value} (C0 : zC p s m args meth c cc nL own zwl T ret) (hK : va_K D cl tys s) (hA : ∀ q, s.heap.size ≤ q → A q) (Y : zY C y bytes maxL rt n) (hM : ∀ r, x = some r → zMet l y (zw y bytes maxL rt) fr lo (.ref b :: As) D cl tys A Rep fc fs S (zFv r)) (hl : Cond.methodLink own idx y ∈ zwl) (hq : T.lookup pc = some (.invokevirtual idx, 3, tgt, v0)) (hn : As.length = n) (hR : fr + 1 ≤ R.frames ∧ 8 + (maxL + 11) + lo ≤ R.locals) (hW : (rest.map fun v => v.category).sum ≤ 8) (hrc : ∀ H, Rep S H → zRc s C b H) (k : ∀ S1 : σ, x = some S1 → SO p l e R s m args below meth c nL A Rep fc fs S1 (pc + 3) lv rest F (K S1)) : SO p l e R s m args below meth c nL A Rep fc fs S pc lv (As.reverse ++ .ref b :: rest) F (zob x K) := by
  intro r hr
  cases x with
  | none => cases hr
  | some a => exact sw_callV C0 hK hA Y (hM a rfl) hl hq hn hR hW hrc (k a rfl r hr)
/-- from the body to the contract -/
theorem zMet_of {y : MethodName} {bytes : ByteArray} {maxL fr lo : Nat} {rt : Option FieldType} {argsL : List Value} (hm : fc S ≤ fc E.1 ∧ fs S ≤ fs E.1) (hy : plainName y.cls = true) (hT : zTok bytes maxL T) (hlen : (lg_sl argsL).length ≤ maxL)
    (body : ∀ (p : Program) (e : Env) (R : Room) (s : State) (m : MethodId) (args : Array Value) (below : List Frame) (meth : Method) (c : Code), R.frames = fr → R.locals = lo → zC p s m args meth c bytes maxL y.cls zwl T rt → va_K D cl tys s → (∀ q, s.heap.size ≤ q → A q) → SW p l e R s m args below meth c maxL A Rep fc fs S 0 (lv_args 0 argsL) [] E) :
    zMet l y (zw y bytes maxL rt) fr lo argsL D cl tys A Rep fc fs S E := by
  refine ⟨hm.1, hm.2, Met.ofW (cc := bytes) (maxL := maxL) (ret := rt) hy rfl ?_⟩
  intro p e s m args below meth c s₁ B hml hv
  obtain ⟨rfl, hRep, hK, hA⟩ := hv
  have hts := atoms_spec (ws := zw y bytes maxL rt) B.pre
  have hown : s.vm.findClass y.cls = some m.cls := findClass_of_methodNamed B.named
  have C0 : zC p s m argsL.toArray meth c bytes maxL y.cls zwl T rt := ⟨B.exec, B.bytes, hml, hown, fun w hw => hts w (List.mem_cons_of_mem _ hw), hT, B.returns, B.notSynchronized⟩
  have K := (body p e (headSpec (zw y bytes maxL rt) { frames := fr, cells := fc E.1 - fc S, slots := fs E.1 - fs S, locals := lo }).room s m argsL.toArray below meth c rfl rfl C0 hK hA).2.2
  have hl := lv_entry argsL (n := maxL) hlen
  rw [lg_entry_eq]
  exact K s.heap [] 0 0 _ hRep va_S.rf (by show 0 + fc E.1 ≤ (fc E.1 - fc S) + fc S; omega) (by show 0 + fs E.1 ≤ (fs E.1 - fs S) + fs S; omega) hl
end ZSW
end
