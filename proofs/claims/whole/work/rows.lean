section
-- ===== PART A: goes FIRST, ahead of the names: the tables' words, and 'selects' of the private methods out of them =====
/-- a private method of a class that the tables say can be made, by its rows of tables_1 -/
def lw_okq (q : MethodName × Nat) : Prop := (q.1.cls ≠ "java/lang/invoke/MethodHandle" ∧ q.1.cls ≠ "java/lang/invoke/VarHandle") ∧ Cond.instantiable q.1.cls q.2 ∈ tables_1 ∧ Cond.privateMethod q.1 ∈ tables_1 ∧ Cond.instanceMethod q.1 ∈ tables_1
theorem lw_p0 : lw_okq (⟨"RuleTree$Parts", "addPart", "(II)I"⟩, 15) := ⟨⟨by decide +kernel, by decide +kernel⟩, List.mem_of_getElem? (i := 146) (by decide +kernel), List.mem_of_getElem? (i := 154) (by decide +kernel), List.mem_of_getElem? (i := 155) (by decide +kernel)⟩
theorem lw_p1 : lw_okq (⟨"RuleTree$Patterns", "hasRoom", "(I)Z"⟩, 9) := ⟨⟨by decide +kernel, by decide +kernel⟩, List.mem_of_getElem? (i := 53) (by decide +kernel), List.mem_of_getElem? (i := 384) (by decide +kernel), List.mem_of_getElem? (i := 385) (by decide +kernel)⟩
theorem lw_p2 : lw_okq (⟨"RuleTree$Patterns", "recordWeight", "(ILRuleTree$Pushed;)I"⟩, 9) := ⟨⟨by decide +kernel, by decide +kernel⟩, List.mem_of_getElem? (i := 53) (by decide +kernel), List.mem_of_getElem? (i := 453) (by decide +kernel), List.mem_of_getElem? (i := 454) (by decide +kernel)⟩
theorem lw_p3 : lw_okq (⟨"RuleTree$Patterns", "isFull", "(ILRuleTree$Pushed;)Z"⟩, 9) := ⟨⟨by decide +kernel, by decide +kernel⟩, List.mem_of_getElem? (i := 53) (by decide +kernel), List.mem_of_getElem? (i := 458) (by decide +kernel), List.mem_of_getElem? (i := 459) (by decide +kernel)⟩
theorem lw_p4 : lw_okq (⟨"RuleTree$Patterns", "addFields", "(ILRuleTree$Pushed;)V"⟩, 9) := ⟨⟨by decide +kernel, by decide +kernel⟩, List.mem_of_getElem? (i := 53) (by decide +kernel), List.mem_of_getElem? (i := 463) (by decide +kernel), List.mem_of_getElem? (i := 464) (by decide +kernel)⟩
theorem lw_p5 : lw_okq (⟨"RuleTree", "goesWithRules", "(I)Z"⟩, 12) := ⟨⟨by decide +kernel, by decide +kernel⟩, List.mem_of_getElem? (i := 17) (by decide +kernel), List.mem_of_getElem? (i := 475) (by decide +kernel), List.mem_of_getElem? (i := 476) (by decide +kernel)⟩
theorem lw_p6 : lw_okq (⟨"RuleTree$Pairs", "hold", "(IIZ)Z"⟩, 2) := ⟨⟨by decide +kernel, by decide +kernel⟩, List.mem_of_getElem? (i := 129) (by decide +kernel), List.mem_of_getElem? (i := 485) (by decide +kernel), List.mem_of_getElem? (i := 486) (by decide +kernel)⟩
theorem lw_p7 : lw_okq (⟨"RuleTree$Pairs", "putPair", "(II)V"⟩, 2) := ⟨⟨by decide +kernel, by decide +kernel⟩, List.mem_of_getElem? (i := 129) (by decide +kernel), List.mem_of_getElem? (i := 493) (by decide +kernel), List.mem_of_getElem? (i := 494) (by decide +kernel)⟩
theorem lw_p8 : lw_okq (⟨"RuleTree$Pairs", "matchesHere", "(II)Z"⟩, 2) := ⟨⟨by decide +kernel, by decide +kernel⟩, List.mem_of_getElem? (i := 129) (by decide +kernel), List.mem_of_getElem? (i := 504) (by decide +kernel), List.mem_of_getElem? (i := 505) (by decide +kernel)⟩
theorem lw_p9 : lw_okq (⟨"RuleTree$Pairs", "sameSort", "(II)Z"⟩, 2) := ⟨⟨by decide +kernel, by decide +kernel⟩, List.mem_of_getElem? (i := 129) (by decide +kernel), List.mem_of_getElem? (i := 512) (by decide +kernel), List.mem_of_getElem? (i := 513) (by decide +kernel)⟩
theorem lw_p10 : lw_okq (⟨"RuleTree$Pairs", "putInner", "(II)Z"⟩, 2) := ⟨⟨by decide +kernel, by decide +kernel⟩, List.mem_of_getElem? (i := 129) (by decide +kernel), List.mem_of_getElem? (i := 524) (by decide +kernel), List.mem_of_getElem? (i := 525) (by decide +kernel)⟩
theorem lw_p11 : lw_okq (⟨"RuleTree$Pairs", "putFields", "(II)V"⟩, 2) := ⟨⟨by decide +kernel, by decide +kernel⟩, List.mem_of_getElem? (i := 129) (by decide +kernel), List.mem_of_getElem? (i := 528) (by decide +kernel), List.mem_of_getElem? (i := 529) (by decide +kernel)⟩
theorem lw_p12 : lw_okq (⟨"RuleTree$Pairs", "goesHere", "(II)Z"⟩, 2) := ⟨⟨by decide +kernel, by decide +kernel⟩, List.mem_of_getElem? (i := 129) (by decide +kernel), List.mem_of_getElem? (i := 548) (by decide +kernel), List.mem_of_getElem? (i := 549) (by decide +kernel)⟩
theorem lw_p13 : lw_okq (⟨"RuleTree$Parts", "putOpen", "(II)V"⟩, 15) := ⟨⟨by decide +kernel, by decide +kernel⟩, List.mem_of_getElem? (i := 146) (by decide +kernel), List.mem_of_getElem? (i := 563) (by decide +kernel), List.mem_of_getElem? (i := 564) (by decide +kernel)⟩
theorem lw_p14 : lw_okq (⟨"RuleTree$Parts", "layRecord", "(II)V"⟩, 15) := ⟨⟨by decide +kernel, by decide +kernel⟩, List.mem_of_getElem? (i := 146) (by decide +kernel), List.mem_of_getElem? (i := 570) (by decide +kernel), List.mem_of_getElem? (i := 571) (by decide +kernel)⟩
theorem lw_p15 : lw_okq (⟨"RuleTree$Parts", "setSort", "(II)V"⟩, 15) := ⟨⟨by decide +kernel, by decide +kernel⟩, List.mem_of_getElem? (i := 146) (by decide +kernel), List.mem_of_getElem? (i := 574) (by decide +kernel), List.mem_of_getElem? (i := 575) (by decide +kernel)⟩
def lw_privs_1 : List (MethodName × Nat) := [(⟨"RuleTree$Parts", "addPart", "(II)I"⟩, 15), (⟨"RuleTree$Patterns", "hasRoom", "(I)Z"⟩, 9), (⟨"RuleTree$Patterns", "recordWeight", "(ILRuleTree$Pushed;)I"⟩, 9), (⟨"RuleTree$Patterns", "isFull", "(ILRuleTree$Pushed;)Z"⟩, 9), (⟨"RuleTree$Patterns", "addFields", "(ILRuleTree$Pushed;)V"⟩, 9), (⟨"RuleTree", "goesWithRules", "(I)Z"⟩, 12), (⟨"RuleTree$Pairs", "hold", "(IIZ)Z"⟩, 2), (⟨"RuleTree$Pairs", "putPair", "(II)V"⟩, 2), (⟨"RuleTree$Pairs", "matchesHere", "(II)Z"⟩, 2), (⟨"RuleTree$Pairs", "sameSort", "(II)Z"⟩, 2), (⟨"RuleTree$Pairs", "putInner", "(II)Z"⟩, 2), (⟨"RuleTree$Pairs", "putFields", "(II)V"⟩, 2), (⟨"RuleTree$Pairs", "goesHere", "(II)Z"⟩, 2), (⟨"RuleTree$Parts", "putOpen", "(II)V"⟩, 15), (⟨"RuleTree$Parts", "layRecord", "(II)V"⟩, 15), (⟨"RuleTree$Parts", "setSort", "(II)V"⟩, 15)]
theorem lw_r1 : ∀ q ∈ lw_privs_1, lw_okq q := List.forall_mem_cons.mpr ⟨lw_p0, List.forall_mem_cons.mpr ⟨lw_p1, List.forall_mem_cons.mpr ⟨lw_p2, List.forall_mem_cons.mpr ⟨lw_p3, List.forall_mem_cons.mpr ⟨lw_p4, List.forall_mem_cons.mpr ⟨lw_p5, List.forall_mem_cons.mpr ⟨lw_p6, List.forall_mem_cons.mpr ⟨lw_p7, List.forall_mem_cons.mpr ⟨lw_p8, List.forall_mem_cons.mpr ⟨lw_p9, List.forall_mem_cons.mpr ⟨lw_p10, List.forall_mem_cons.mpr ⟨lw_p11, List.forall_mem_cons.mpr ⟨lw_p12, List.forall_mem_cons.mpr ⟨lw_p13, List.forall_mem_cons.mpr ⟨lw_p14, List.forall_mem_cons.mpr ⟨lw_p15, fun _ h => absurd h List.not_mem_nil⟩⟩⟩⟩⟩⟩⟩⟩⟩⟩⟩⟩⟩⟩⟩⟩
theorem lw_p16 : lw_okq (⟨"RuleTree$Parts", "edgeFor", "(II)I"⟩, 15) := ⟨⟨by decide +kernel, by decide +kernel⟩, List.mem_of_getElem? (i := 146) (by decide +kernel), List.mem_of_getElem? (i := 582) (by decide +kernel), List.mem_of_getElem? (i := 583) (by decide +kernel)⟩
theorem lw_p17 : lw_okq (⟨"RuleTree$Parts", "lastBelow", "(II)I"⟩, 15) := ⟨⟨by decide +kernel, by decide +kernel⟩, List.mem_of_getElem? (i := 146) (by decide +kernel), List.mem_of_getElem? (i := 586) (by decide +kernel), List.mem_of_getElem? (i := 587) (by decide +kernel)⟩
theorem lw_p18 : lw_okq (⟨"RuleTree$Parts", "edgeAfter", "(II)I"⟩, 15) := ⟨⟨by decide +kernel, by decide +kernel⟩, List.mem_of_getElem? (i := 146) (by decide +kernel), List.mem_of_getElem? (i := 591) (by decide +kernel), List.mem_of_getElem? (i := 592) (by decide +kernel)⟩
theorem lw_p19 : lw_okq (⟨"RuleTree$Parts", "addEdge", "(III)I"⟩, 15) := ⟨⟨by decide +kernel, by decide +kernel⟩, List.mem_of_getElem? (i := 146) (by decide +kernel), List.mem_of_getElem? (i := 595) (by decide +kernel), List.mem_of_getElem? (i := 596) (by decide +kernel)⟩
theorem lw_p20 : lw_okq (⟨"RuleTree$Parts", "childFor", "(II)I"⟩, 15) := ⟨⟨by decide +kernel, by decide +kernel⟩, List.mem_of_getElem? (i := 146) (by decide +kernel), List.mem_of_getElem? (i := 600) (by decide +kernel), List.mem_of_getElem? (i := 601) (by decide +kernel)⟩
theorem lw_p21 : lw_okq (⟨"RuleTree$Parts", "layAsk", "(III)V"⟩, 15) := ⟨⟨by decide +kernel, by decide +kernel⟩, List.mem_of_getElem? (i := 146) (by decide +kernel), List.mem_of_getElem? (i := 604) (by decide +kernel), List.mem_of_getElem? (i := 605) (by decide +kernel)⟩
theorem lw_p22 : lw_okq (⟨"RuleTree", "dropRules", "()V"⟩, 12) := ⟨⟨by decide +kernel, by decide +kernel⟩, List.mem_of_getElem? (i := 17) (by decide +kernel), List.mem_of_getElem? (i := 614) (by decide +kernel), List.mem_of_getElem? (i := 615) (by decide +kernel)⟩
theorem lw_p23 : lw_okq (⟨"RuleTree$Grower", "enter", "(II)I"⟩, 5) := ⟨⟨by decide +kernel, by decide +kernel⟩, List.mem_of_getElem? (i := 244) (by decide +kernel), List.mem_of_getElem? (i := 659) (by decide +kernel), List.mem_of_getElem? (i := 660) (by decide +kernel)⟩
theorem lw_p24 : lw_okq (⟨"RuleTree$Nodes", "hang", "(II)V"⟩, 10) := ⟨⟨by decide +kernel, by decide +kernel⟩, List.mem_of_getElem? (i := 205) (by decide +kernel), List.mem_of_getElem? (i := 669) (by decide +kernel), List.mem_of_getElem? (i := 670) (by decide +kernel)⟩
theorem lw_p25 : lw_okq (⟨"RuleTree$Grower", "firstPossible", "(I)I"⟩, 5) := ⟨⟨by decide +kernel, by decide +kernel⟩, List.mem_of_getElem? (i := 244) (by decide +kernel), List.mem_of_getElem? (i := 681) (by decide +kernel), List.mem_of_getElem? (i := 682) (by decide +kernel)⟩
theorem lw_p26 : lw_okq (⟨"RuleTree$Grower", "firstNotLooked", "(II)I"⟩, 5) := ⟨⟨by decide +kernel, by decide +kernel⟩, List.mem_of_getElem? (i := 244) (by decide +kernel), List.mem_of_getElem? (i := 695) (by decide +kernel), List.mem_of_getElem? (i := 696) (by decide +kernel)⟩
theorem lw_p27 : lw_okq (⟨"RuleTree$Grower", "goOn", "(I)I"⟩, 5) := ⟨⟨by decide +kernel, by decide +kernel⟩, List.mem_of_getElem? (i := 244) (by decide +kernel), List.mem_of_getElem? (i := 718) (by decide +kernel), List.mem_of_getElem? (i := 719) (by decide +kernel)⟩
theorem lw_p28 : lw_okq (⟨"RuleTree$Grower", "leave", "(I)I"⟩, 5) := ⟨⟨by decide +kernel, by decide +kernel⟩, List.mem_of_getElem? (i := 244) (by decide +kernel), List.mem_of_getElem? (i := 726) (by decide +kernel), List.mem_of_getElem? (i := 727) (by decide +kernel)⟩
theorem lw_p29 : lw_okq (⟨"RuleTree$Grower", "letIn", "(I)V"⟩, 5) := ⟨⟨by decide +kernel, by decide +kernel⟩, List.mem_of_getElem? (i := 244) (by decide +kernel), List.mem_of_getElem? (i := 734) (by decide +kernel), List.mem_of_getElem? (i := 735) (by decide +kernel)⟩
theorem lw_p30 : lw_okq (⟨"RuleTree$Grower", "changeOuts", "(III)V"⟩, 5) := ⟨⟨by decide +kernel, by decide +kernel⟩, List.mem_of_getElem? (i := 244) (by decide +kernel), List.mem_of_getElem? (i := 746) (by decide +kernel), List.mem_of_getElem? (i := 747) (by decide +kernel)⟩
theorem lw_p31 : lw_okq (⟨"RuleTree$Grower", "nextEdge", "(I)I"⟩, 5) := ⟨⟨by decide +kernel, by decide +kernel⟩, List.mem_of_getElem? (i := 244) (by decide +kernel), List.mem_of_getElem? (i := 770) (by decide +kernel), List.mem_of_getElem? (i := 771) (by decide +kernel)⟩
def lw_privs_2 : List (MethodName × Nat) := [(⟨"RuleTree$Parts", "edgeFor", "(II)I"⟩, 15), (⟨"RuleTree$Parts", "lastBelow", "(II)I"⟩, 15), (⟨"RuleTree$Parts", "edgeAfter", "(II)I"⟩, 15), (⟨"RuleTree$Parts", "addEdge", "(III)I"⟩, 15), (⟨"RuleTree$Parts", "childFor", "(II)I"⟩, 15), (⟨"RuleTree$Parts", "layAsk", "(III)V"⟩, 15), (⟨"RuleTree", "dropRules", "()V"⟩, 12), (⟨"RuleTree$Grower", "enter", "(II)I"⟩, 5), (⟨"RuleTree$Nodes", "hang", "(II)V"⟩, 10), (⟨"RuleTree$Grower", "firstPossible", "(I)I"⟩, 5), (⟨"RuleTree$Grower", "firstNotLooked", "(II)I"⟩, 5), (⟨"RuleTree$Grower", "goOn", "(I)I"⟩, 5), (⟨"RuleTree$Grower", "leave", "(I)I"⟩, 5), (⟨"RuleTree$Grower", "letIn", "(I)V"⟩, 5), (⟨"RuleTree$Grower", "changeOuts", "(III)V"⟩, 5), (⟨"RuleTree$Grower", "nextEdge", "(I)I"⟩, 5)]
theorem lw_r2 : ∀ q ∈ lw_privs_2, lw_okq q := List.forall_mem_cons.mpr ⟨lw_p16, List.forall_mem_cons.mpr ⟨lw_p17, List.forall_mem_cons.mpr ⟨lw_p18, List.forall_mem_cons.mpr ⟨lw_p19, List.forall_mem_cons.mpr ⟨lw_p20, List.forall_mem_cons.mpr ⟨lw_p21, List.forall_mem_cons.mpr ⟨lw_p22, List.forall_mem_cons.mpr ⟨lw_p23, List.forall_mem_cons.mpr ⟨lw_p24, List.forall_mem_cons.mpr ⟨lw_p25, List.forall_mem_cons.mpr ⟨lw_p26, List.forall_mem_cons.mpr ⟨lw_p27, List.forall_mem_cons.mpr ⟨lw_p28, List.forall_mem_cons.mpr ⟨lw_p29, List.forall_mem_cons.mpr ⟨lw_p30, List.forall_mem_cons.mpr ⟨lw_p31, fun _ h => absurd h List.not_mem_nil⟩⟩⟩⟩⟩⟩⟩⟩⟩⟩⟩⟩⟩⟩⟩⟩
theorem lw_p32 : lw_okq (⟨"RuleTree$Grower", "isAsked", "(I)Z"⟩, 5) := ⟨⟨by decide +kernel, by decide +kernel⟩, List.mem_of_getElem? (i := 244) (by decide +kernel), List.mem_of_getElem? (i := 782) (by decide +kernel), List.mem_of_getElem? (i := 783) (by decide +kernel)⟩
theorem lw_p33 : lw_okq (⟨"RuleTree$Grower", "othersLeft", "(I)Z"⟩, 5) := ⟨⟨by decide +kernel, by decide +kernel⟩, List.mem_of_getElem? (i := 244) (by decide +kernel), List.mem_of_getElem? (i := 786) (by decide +kernel), List.mem_of_getElem? (i := 787) (by decide +kernel)⟩
theorem lw_p34 : lw_okq (⟨"RuleTree$Grower", "ruleOut", "(II)V"⟩, 5) := ⟨⟨by decide +kernel, by decide +kernel⟩, List.mem_of_getElem? (i := 244) (by decide +kernel), List.mem_of_getElem? (i := 806) (by decide +kernel), List.mem_of_getElem? (i := 807) (by decide +kernel)⟩
theorem lw_p35 : lw_okq (⟨"RuleTree", "hasTree", "()Z"⟩, 12) := ⟨⟨by decide +kernel, by decide +kernel⟩, List.mem_of_getElem? (i := 17) (by decide +kernel), List.mem_of_getElem? (i := 810) (by decide +kernel), List.mem_of_getElem? (i := 811) (by decide +kernel)⟩
theorem lw_p36 : lw_okq (⟨"RuleTree$Nodes", "isEndWith", "(II)Z"⟩, 10) := ⟨⟨by decide +kernel, by decide +kernel⟩, List.mem_of_getElem? (i := 205) (by decide +kernel), List.mem_of_getElem? (i := 824) (by decide +kernel), List.mem_of_getElem? (i := 825) (by decide +kernel)⟩
theorem lw_p37 : lw_okq (⟨"RuleTree$Gap", "tellBranch", "(II)V"⟩, 6) := ⟨⟨by decide +kernel, by decide +kernel⟩, List.mem_of_getElem? (i := 295) (by decide +kernel), List.mem_of_getElem? (i := 831) (by decide +kernel), List.mem_of_getElem? (i := 832) (by decide +kernel)⟩
theorem lw_p38 : lw_okq (⟨"RuleTree$Gap", "leastOther", "(I)I"⟩, 6) := ⟨⟨by decide +kernel, by decide +kernel⟩, List.mem_of_getElem? (i := 295) (by decide +kernel), List.mem_of_getElem? (i := 838) (by decide +kernel), List.mem_of_getElem? (i := 839) (by decide +kernel)⟩
theorem lw_p39 : lw_okq (⟨"RuleTree$Walker", "branch", "(I)I"⟩, 6) := ⟨⟨by decide +kernel, by decide +kernel⟩, List.mem_of_getElem? (i := 268) (by decide +kernel), List.mem_of_getElem? (i := 872) (by decide +kernel), List.mem_of_getElem? (i := 873) (by decide +kernel)⟩
theorem lw_p40 : lw_okq (⟨"RuleTree$Walker", "valueAt", "(I)I"⟩, 6) := ⟨⟨by decide +kernel, by decide +kernel⟩, List.mem_of_getElem? (i := 268) (by decide +kernel), List.mem_of_getElem? (i := 876) (by decide +kernel), List.mem_of_getElem? (i := 877) (by decide +kernel)⟩
theorem lw_p41 : lw_okq (⟨"RuleTree$Walker", "inner", "(III)I"⟩, 6) := ⟨⟨by decide +kernel, by decide +kernel⟩, List.mem_of_getElem? (i := 268) (by decide +kernel), List.mem_of_getElem? (i := 886) (by decide +kernel), List.mem_of_getElem? (i := 887) (by decide +kernel)⟩
theorem lw_p42 : lw_okq (⟨"RuleTree$Walker", "branchFor", "(II)I"⟩, 6) := ⟨⟨by decide +kernel, by decide +kernel⟩, List.mem_of_getElem? (i := 268) (by decide +kernel), List.mem_of_getElem? (i := 902) (by decide +kernel), List.mem_of_getElem? (i := 903) (by decide +kernel)⟩
theorem lw_p43 : lw_okq (⟨"RuleTree$Walker", "sameArguments", "(II)Z"⟩, 6) := ⟨⟨by decide +kernel, by decide +kernel⟩, List.mem_of_getElem? (i := 268) (by decide +kernel), List.mem_of_getElem? (i := 909) (by decide +kernel), List.mem_of_getElem? (i := 910) (by decide +kernel)⟩
theorem lw_p44 : lw_okq (⟨"RuleTree$Gap", "below", "(II)I"⟩, 6) := ⟨⟨by decide +kernel, by decide +kernel⟩, List.mem_of_getElem? (i := 295) (by decide +kernel), List.mem_of_getElem? (i := 964) (by decide +kernel), List.mem_of_getElem? (i := 965) (by decide +kernel)⟩
theorem lw_p45 : lw_okq (⟨"RuleTree$Gap", "childOrBare", "(II)I"⟩, 6) := ⟨⟨by decide +kernel, by decide +kernel⟩, List.mem_of_getElem? (i := 295) (by decide +kernel), List.mem_of_getElem? (i := 970) (by decide +kernel), List.mem_of_getElem? (i := 971) (by decide +kernel)⟩
theorem lw_p46 : lw_okq (⟨"RuleTree$Gap", "tellPart", "(II)I"⟩, 6) := ⟨⟨by decide +kernel, by decide +kernel⟩, List.mem_of_getElem? (i := 295) (by decide +kernel), List.mem_of_getElem? (i := 980) (by decide +kernel), List.mem_of_getElem? (i := 981) (by decide +kernel)⟩
theorem lw_p47 : lw_okq (⟨"RuleTreeModel", "make", "(IIIIIZ)I"⟩, 46) := ⟨⟨by decide +kernel, by decide +kernel⟩, List.mem_of_getElem? (i := 992) (by decide +kernel), List.mem_of_getElem? (i := 1150) (by decide +kernel), List.mem_of_getElem? (i := 1151) (by decide +kernel)⟩
def lw_privs_3 : List (MethodName × Nat) := [(⟨"RuleTree$Grower", "isAsked", "(I)Z"⟩, 5), (⟨"RuleTree$Grower", "othersLeft", "(I)Z"⟩, 5), (⟨"RuleTree$Grower", "ruleOut", "(II)V"⟩, 5), (⟨"RuleTree", "hasTree", "()Z"⟩, 12), (⟨"RuleTree$Nodes", "isEndWith", "(II)Z"⟩, 10), (⟨"RuleTree$Gap", "tellBranch", "(II)V"⟩, 6), (⟨"RuleTree$Gap", "leastOther", "(I)I"⟩, 6), (⟨"RuleTree$Walker", "branch", "(I)I"⟩, 6), (⟨"RuleTree$Walker", "valueAt", "(I)I"⟩, 6), (⟨"RuleTree$Walker", "inner", "(III)I"⟩, 6), (⟨"RuleTree$Walker", "branchFor", "(II)I"⟩, 6), (⟨"RuleTree$Walker", "sameArguments", "(II)Z"⟩, 6), (⟨"RuleTree$Gap", "below", "(II)I"⟩, 6), (⟨"RuleTree$Gap", "childOrBare", "(II)I"⟩, 6), (⟨"RuleTree$Gap", "tellPart", "(II)I"⟩, 6), (⟨"RuleTreeModel", "make", "(IIIIIZ)I"⟩, 46)]
theorem lw_r3 : ∀ q ∈ lw_privs_3, lw_okq q := List.forall_mem_cons.mpr ⟨lw_p32, List.forall_mem_cons.mpr ⟨lw_p33, List.forall_mem_cons.mpr ⟨lw_p34, List.forall_mem_cons.mpr ⟨lw_p35, List.forall_mem_cons.mpr ⟨lw_p36, List.forall_mem_cons.mpr ⟨lw_p37, List.forall_mem_cons.mpr ⟨lw_p38, List.forall_mem_cons.mpr ⟨lw_p39, List.forall_mem_cons.mpr ⟨lw_p40, List.forall_mem_cons.mpr ⟨lw_p41, List.forall_mem_cons.mpr ⟨lw_p42, List.forall_mem_cons.mpr ⟨lw_p43, List.forall_mem_cons.mpr ⟨lw_p44, List.forall_mem_cons.mpr ⟨lw_p45, List.forall_mem_cons.mpr ⟨lw_p46, List.forall_mem_cons.mpr ⟨lw_p47, fun _ h => absurd h List.not_mem_nil⟩⟩⟩⟩⟩⟩⟩⟩⟩⟩⟩⟩⟩⟩⟩⟩
theorem lw_p48 : lw_okq (⟨"RuleTreeModel", "isPattern", "(I)Z"⟩, 46) := ⟨⟨by decide +kernel, by decide +kernel⟩, List.mem_of_getElem? (i := 992) (by decide +kernel), List.mem_of_getElem? (i := 1162) (by decide +kernel), List.mem_of_getElem? (i := 1163) (by decide +kernel)⟩
theorem lw_p49 : lw_okq (⟨"RuleTreeModel", "isValue", "(I)Z"⟩, 46) := ⟨⟨by decide +kernel, by decide +kernel⟩, List.mem_of_getElem? (i := 992) (by decide +kernel), List.mem_of_getElem? (i := 1182) (by decide +kernel), List.mem_of_getElem? (i := 1183) (by decide +kernel)⟩
theorem lw_p50 : lw_okq (⟨"RuleTreeModel", "matches", "(II)Z"⟩, 46) := ⟨⟨by decide +kernel, by decide +kernel⟩, List.mem_of_getElem? (i := 992) (by decide +kernel), List.mem_of_getElem? (i := 1186) (by decide +kernel), List.mem_of_getElem? (i := 1187) (by decide +kernel)⟩
theorem lw_p51 : lw_okq (⟨"RuleTreeModel", "pair", "(II)V"⟩, 46) := ⟨⟨by decide +kernel, by decide +kernel⟩, List.mem_of_getElem? (i := 992) (by decide +kernel), List.mem_of_getElem? (i := 1190) (by decide +kernel), List.mem_of_getElem? (i := 1191) (by decide +kernel)⟩
theorem lw_p52 : lw_okq (⟨"RuleTreeModel", "areOneSort", "(II)Z"⟩, 46) := ⟨⟨by decide +kernel, by decide +kernel⟩, List.mem_of_getElem? (i := 992) (by decide +kernel), List.mem_of_getElem? (i := 1194) (by decide +kernel), List.mem_of_getElem? (i := 1195) (by decide +kernel)⟩
theorem lw_p53 : lw_okq (⟨"RuleTreeModel", "pairFields", "(II)V"⟩, 46) := ⟨⟨by decide +kernel, by decide +kernel⟩, List.mem_of_getElem? (i := 992) (by decide +kernel), List.mem_of_getElem? (i := 1198) (by decide +kernel), List.mem_of_getElem? (i := 1199) (by decide +kernel)⟩
theorem lw_p54 : lw_okq (⟨"RuleTreeModel", "fieldOf", "(II)I"⟩, 46) := ⟨⟨by decide +kernel, by decide +kernel⟩, List.mem_of_getElem? (i := 992) (by decide +kernel), List.mem_of_getElem? (i := 1202) (by decide +kernel), List.mem_of_getElem? (i := 1203) (by decide +kernel)⟩
theorem lw_p55 : lw_okq (⟨"RuleTreeModel", "areOne", "(II)Z"⟩, 46) := ⟨⟨by decide +kernel, by decide +kernel⟩, List.mem_of_getElem? (i := 992) (by decide +kernel), List.mem_of_getElem? (i := 1206) (by decide +kernel), List.mem_of_getElem? (i := 1207) (by decide +kernel)⟩
theorem lw_p56 : lw_okq (⟨"RuleTreeModel", "goTogether", "(II)Z"⟩, 46) := ⟨⟨by decide +kernel, by decide +kernel⟩, List.mem_of_getElem? (i := 992) (by decide +kernel), List.mem_of_getElem? (i := 1214) (by decide +kernel), List.mem_of_getElem? (i := 1215) (by decide +kernel)⟩
theorem lw_p57 : lw_okq (⟨"RuleTreeModel", "ask", "(II)V"⟩, 46) := ⟨⟨by decide +kernel, by decide +kernel⟩, List.mem_of_getElem? (i := 992) (by decide +kernel), List.mem_of_getElem? (i := 1222) (by decide +kernel), List.mem_of_getElem? (i := 1223) (by decide +kernel)⟩
theorem lw_p58 : lw_okq (⟨"RuleTreeModel", "placeBelow", "(IIJ)I"⟩, 46) := ⟨⟨by decide +kernel, by decide +kernel⟩, List.mem_of_getElem? (i := 992) (by decide +kernel), List.mem_of_getElem? (i := 1226) (by decide +kernel), List.mem_of_getElem? (i := 1227) (by decide +kernel)⟩
theorem lw_p59 : lw_okq (⟨"RuleTreeModel", "childOf", "(IJ)I"⟩, 46) := ⟨⟨by decide +kernel, by decide +kernel⟩, List.mem_of_getElem? (i := 992) (by decide +kernel), List.mem_of_getElem? (i := 1230) (by decide +kernel), List.mem_of_getElem? (i := 1231) (by decide +kernel)⟩
theorem lw_p60 : lw_okq (⟨"RuleTreeModel", "numberOf", "(I)J"⟩, 46) := ⟨⟨by decide +kernel, by decide +kernel⟩, List.mem_of_getElem? (i := 992) (by decide +kernel), List.mem_of_getElem? (i := 1234) (by decide +kernel), List.mem_of_getElem? (i := 1235) (by decide +kernel)⟩
theorem lw_p61 : lw_okq (⟨"RuleTreeModel", "inside", "(IJ)J"⟩, 46) := ⟨⟨by decide +kernel, by decide +kernel⟩, List.mem_of_getElem? (i := 992) (by decide +kernel), List.mem_of_getElem? (i := 1238) (by decide +kernel), List.mem_of_getElem? (i := 1239) (by decide +kernel)⟩
theorem lw_p62 : lw_okq (⟨"RuleTreeModel", "start", "()V"⟩, 46) := ⟨⟨by decide +kernel, by decide +kernel⟩, List.mem_of_getElem? (i := 992) (by decide +kernel), List.mem_of_getElem? (i := 1257) (by decide +kernel), List.mem_of_getElem? (i := 1258) (by decide +kernel)⟩
theorem lw_p63 : lw_okq (⟨"RuleTreeModel", "setPossible", "(IIZ)V"⟩, 46) := ⟨⟨by decide +kernel, by decide +kernel⟩, List.mem_of_getElem? (i := 992) (by decide +kernel), List.mem_of_getElem? (i := 1261) (by decide +kernel), List.mem_of_getElem? (i := 1262) (by decide +kernel)⟩
def lw_privs_4 : List (MethodName × Nat) := [(⟨"RuleTreeModel", "isPattern", "(I)Z"⟩, 46), (⟨"RuleTreeModel", "isValue", "(I)Z"⟩, 46), (⟨"RuleTreeModel", "matches", "(II)Z"⟩, 46), (⟨"RuleTreeModel", "pair", "(II)V"⟩, 46), (⟨"RuleTreeModel", "areOneSort", "(II)Z"⟩, 46), (⟨"RuleTreeModel", "pairFields", "(II)V"⟩, 46), (⟨"RuleTreeModel", "fieldOf", "(II)I"⟩, 46), (⟨"RuleTreeModel", "areOne", "(II)Z"⟩, 46), (⟨"RuleTreeModel", "goTogether", "(II)Z"⟩, 46), (⟨"RuleTreeModel", "ask", "(II)V"⟩, 46), (⟨"RuleTreeModel", "placeBelow", "(IIJ)I"⟩, 46), (⟨"RuleTreeModel", "childOf", "(IJ)I"⟩, 46), (⟨"RuleTreeModel", "numberOf", "(I)J"⟩, 46), (⟨"RuleTreeModel", "inside", "(IJ)J"⟩, 46), (⟨"RuleTreeModel", "start", "()V"⟩, 46), (⟨"RuleTreeModel", "setPossible", "(IIZ)V"⟩, 46)]
theorem lw_r4 : ∀ q ∈ lw_privs_4, lw_okq q := List.forall_mem_cons.mpr ⟨lw_p48, List.forall_mem_cons.mpr ⟨lw_p49, List.forall_mem_cons.mpr ⟨lw_p50, List.forall_mem_cons.mpr ⟨lw_p51, List.forall_mem_cons.mpr ⟨lw_p52, List.forall_mem_cons.mpr ⟨lw_p53, List.forall_mem_cons.mpr ⟨lw_p54, List.forall_mem_cons.mpr ⟨lw_p55, List.forall_mem_cons.mpr ⟨lw_p56, List.forall_mem_cons.mpr ⟨lw_p57, List.forall_mem_cons.mpr ⟨lw_p58, List.forall_mem_cons.mpr ⟨lw_p59, List.forall_mem_cons.mpr ⟨lw_p60, List.forall_mem_cons.mpr ⟨lw_p61, List.forall_mem_cons.mpr ⟨lw_p62, List.forall_mem_cons.mpr ⟨lw_p63, fun _ h => absurd h List.not_mem_nil⟩⟩⟩⟩⟩⟩⟩⟩⟩⟩⟩⟩⟩⟩⟩⟩
theorem lw_p64 : lw_okq (⟨"RuleTreeModel", "enter", "(I)Z"⟩, 46) := ⟨⟨by decide +kernel, by decide +kernel⟩, List.mem_of_getElem? (i := 992) (by decide +kernel), List.mem_of_getElem? (i := 1265) (by decide +kernel), List.mem_of_getElem? (i := 1266) (by decide +kernel)⟩
theorem lw_p65 : lw_okq (⟨"RuleTreeModel", "firstPossible", "(I)I"⟩, 46) := ⟨⟨by decide +kernel, by decide +kernel⟩, List.mem_of_getElem? (i := 992) (by decide +kernel), List.mem_of_getElem? (i := 1269) (by decide +kernel), List.mem_of_getElem? (i := 1270) (by decide +kernel)⟩
theorem lw_p66 : lw_okq (⟨"RuleTreeModel", "isPossible", "(II)Z"⟩, 46) := ⟨⟨by decide +kernel, by decide +kernel⟩, List.mem_of_getElem? (i := 992) (by decide +kernel), List.mem_of_getElem? (i := 1273) (by decide +kernel), List.mem_of_getElem? (i := 1274) (by decide +kernel)⟩
theorem lw_p67 : lw_okq (⟨"RuleTreeModel", "nextPlace", "(I)I"⟩, 46) := ⟨⟨by decide +kernel, by decide +kernel⟩, List.mem_of_getElem? (i := 992) (by decide +kernel), List.mem_of_getElem? (i := 1277) (by decide +kernel), List.mem_of_getElem? (i := 1278) (by decide +kernel)⟩
theorem lw_p68 : lw_okq (⟨"RuleTreeModel", "end", "(II)V"⟩, 46) := ⟨⟨by decide +kernel, by decide +kernel⟩, List.mem_of_getElem? (i := 992) (by decide +kernel), List.mem_of_getElem? (i := 1281) (by decide +kernel), List.mem_of_getElem? (i := 1282) (by decide +kernel)⟩
theorem lw_p69 : lw_okq (⟨"RuleTreeModel", "leastOther", "(I)I"⟩, 46) := ⟨⟨by decide +kernel, by decide +kernel⟩, List.mem_of_getElem? (i := 992) (by decide +kernel), List.mem_of_getElem? (i := 1285) (by decide +kernel), List.mem_of_getElem? (i := 1286) (by decide +kernel)⟩
theorem lw_p70 : lw_okq (⟨"RuleTreeModel", "nextNumber", "(IJ)J"⟩, 46) := ⟨⟨by decide +kernel, by decide +kernel⟩, List.mem_of_getElem? (i := 992) (by decide +kernel), List.mem_of_getElem? (i := 1289) (by decide +kernel), List.mem_of_getElem? (i := 1290) (by decide +kernel)⟩
theorem lw_p71 : lw_okq (⟨"RuleTreeModel", "asked", "(II)I"⟩, 46) := ⟨⟨by decide +kernel, by decide +kernel⟩, List.mem_of_getElem? (i := 992) (by decide +kernel), List.mem_of_getElem? (i := 1294) (by decide +kernel), List.mem_of_getElem? (i := 1295) (by decide +kernel)⟩
theorem lw_p72 : lw_okq (⟨"RuleTreeModel", "goOn", "(I)Z"⟩, 46) := ⟨⟨by decide +kernel, by decide +kernel⟩, List.mem_of_getElem? (i := 992) (by decide +kernel), List.mem_of_getElem? (i := 1299) (by decide +kernel), List.mem_of_getElem? (i := 1300) (by decide +kernel)⟩
theorem lw_p73 : lw_okq (⟨"RuleTreeModel", "hasOthers", "(I)Z"⟩, 46) := ⟨⟨by decide +kernel, by decide +kernel⟩, List.mem_of_getElem? (i := 992) (by decide +kernel), List.mem_of_getElem? (i := 1303) (by decide +kernel), List.mem_of_getElem? (i := 1304) (by decide +kernel)⟩
theorem lw_p74 : lw_okq (⟨"RuleTreeModel", "example", "(I)I"⟩, 46) := ⟨⟨by decide +kernel, by decide +kernel⟩, List.mem_of_getElem? (i := 992) (by decide +kernel), List.mem_of_getElem? (i := 1307) (by decide +kernel), List.mem_of_getElem? (i := 1308) (by decide +kernel)⟩
theorem lw_p75 : lw_okq (⟨"RuleTreeModel", "branches", "(I)I"⟩, 46) := ⟨⟨by decide +kernel, by decide +kernel⟩, List.mem_of_getElem? (i := 992) (by decide +kernel), List.mem_of_getElem? (i := 1311) (by decide +kernel), List.mem_of_getElem? (i := 1312) (by decide +kernel)⟩
theorem lw_p76 : lw_okq (⟨"RuleTreeModel", "narrow", "(IJZ)V"⟩, 46) := ⟨⟨by decide +kernel, by decide +kernel⟩, List.mem_of_getElem? (i := 992) (by decide +kernel), List.mem_of_getElem? (i := 1315) (by decide +kernel), List.mem_of_getElem? (i := 1316) (by decide +kernel)⟩
theorem lw_p77 : lw_okq (⟨"RuleTreeModel", "tell", "(I)I"⟩, 46) := ⟨⟨by decide +kernel, by decide +kernel⟩, List.mem_of_getElem? (i := 992) (by decide +kernel), List.mem_of_getElem? (i := 1323) (by decide +kernel), List.mem_of_getElem? (i := 1324) (by decide +kernel)⟩
theorem lw_p78 : lw_okq (⟨"RuleTreeModel", "partAt", "(II)I"⟩, 46) := ⟨⟨by decide +kernel, by decide +kernel⟩, List.mem_of_getElem? (i := 992) (by decide +kernel), List.mem_of_getElem? (i := 1327) (by decide +kernel), List.mem_of_getElem? (i := 1328) (by decide +kernel)⟩
theorem lw_p79 : lw_okq (⟨"RuleTreeModel", "isRecordPlace", "(I)Z"⟩, 46) := ⟨⟨by decide +kernel, by decide +kernel⟩, List.mem_of_getElem? (i := 992) (by decide +kernel), List.mem_of_getElem? (i := 1331) (by decide +kernel), List.mem_of_getElem? (i := 1332) (by decide +kernel)⟩
def lw_privs_5 : List (MethodName × Nat) := [(⟨"RuleTreeModel", "enter", "(I)Z"⟩, 46), (⟨"RuleTreeModel", "firstPossible", "(I)I"⟩, 46), (⟨"RuleTreeModel", "isPossible", "(II)Z"⟩, 46), (⟨"RuleTreeModel", "nextPlace", "(I)I"⟩, 46), (⟨"RuleTreeModel", "end", "(II)V"⟩, 46), (⟨"RuleTreeModel", "leastOther", "(I)I"⟩, 46), (⟨"RuleTreeModel", "nextNumber", "(IJ)J"⟩, 46), (⟨"RuleTreeModel", "asked", "(II)I"⟩, 46), (⟨"RuleTreeModel", "goOn", "(I)Z"⟩, 46), (⟨"RuleTreeModel", "hasOthers", "(I)Z"⟩, 46), (⟨"RuleTreeModel", "example", "(I)I"⟩, 46), (⟨"RuleTreeModel", "branches", "(I)I"⟩, 46), (⟨"RuleTreeModel", "narrow", "(IJZ)V"⟩, 46), (⟨"RuleTreeModel", "tell", "(I)I"⟩, 46), (⟨"RuleTreeModel", "partAt", "(II)I"⟩, 46), (⟨"RuleTreeModel", "isRecordPlace", "(I)Z"⟩, 46)]
theorem lw_r5 : ∀ q ∈ lw_privs_5, lw_okq q := List.forall_mem_cons.mpr ⟨lw_p64, List.forall_mem_cons.mpr ⟨lw_p65, List.forall_mem_cons.mpr ⟨lw_p66, List.forall_mem_cons.mpr ⟨lw_p67, List.forall_mem_cons.mpr ⟨lw_p68, List.forall_mem_cons.mpr ⟨lw_p69, List.forall_mem_cons.mpr ⟨lw_p70, List.forall_mem_cons.mpr ⟨lw_p71, List.forall_mem_cons.mpr ⟨lw_p72, List.forall_mem_cons.mpr ⟨lw_p73, List.forall_mem_cons.mpr ⟨lw_p74, List.forall_mem_cons.mpr ⟨lw_p75, List.forall_mem_cons.mpr ⟨lw_p76, List.forall_mem_cons.mpr ⟨lw_p77, List.forall_mem_cons.mpr ⟨lw_p78, List.forall_mem_cons.mpr ⟨lw_p79, fun _ h => absurd h List.not_mem_nil⟩⟩⟩⟩⟩⟩⟩⟩⟩⟩⟩⟩⟩⟩⟩⟩
theorem lw_p80 : lw_okq (⟨"RuleTreeModel", "isOdd", "(II)Z"⟩, 46) := ⟨⟨by decide +kernel, by decide +kernel⟩, List.mem_of_getElem? (i := 992) (by decide +kernel), List.mem_of_getElem? (i := 1335) (by decide +kernel), List.mem_of_getElem? (i := 1336) (by decide +kernel)⟩
theorem lw_p81 : lw_okq (⟨"RuleTreeModel", "missedAt", "(I)I"⟩, 46) := ⟨⟨by decide +kernel, by decide +kernel⟩, List.mem_of_getElem? (i := 992) (by decide +kernel), List.mem_of_getElem? (i := 1356) (by decide +kernel), List.mem_of_getElem? (i := 1357) (by decide +kernel)⟩
theorem lw_p82 : lw_okq (⟨"RuleTreeModel", "hasArgument", "(II)Z"⟩, 46) := ⟨⟨by decide +kernel, by decide +kernel⟩, List.mem_of_getElem? (i := 992) (by decide +kernel), List.mem_of_getElem? (i := 1360) (by decide +kernel), List.mem_of_getElem? (i := 1361) (by decide +kernel)⟩
theorem lw_p83 : lw_okq (⟨"RuleTreeModel", "anyAt", "(I)I"⟩, 46) := ⟨⟨by decide +kernel, by decide +kernel⟩, List.mem_of_getElem? (i := 992) (by decide +kernel), List.mem_of_getElem? (i := 1364) (by decide +kernel), List.mem_of_getElem? (i := 1365) (by decide +kernel)⟩
theorem lw_p84 : lw_okq (⟨"RuleTreeModel", "someAt", "(II)I"⟩, 46) := ⟨⟨by decide +kernel, by decide +kernel⟩, List.mem_of_getElem? (i := 992) (by decide +kernel), List.mem_of_getElem? (i := 1368) (by decide +kernel), List.mem_of_getElem? (i := 1369) (by decide +kernel)⟩
theorem lw_p85 : lw_okq (⟨"RuleTreeModel", "isToldRecord", "(I)Z"⟩, 46) := ⟨⟨by decide +kernel, by decide +kernel⟩, List.mem_of_getElem? (i := 992) (by decide +kernel), List.mem_of_getElem? (i := 1372) (by decide +kernel), List.mem_of_getElem? (i := 1373) (by decide +kernel)⟩
def lw_privs_6 : List (MethodName × Nat) := [(⟨"RuleTreeModel", "isOdd", "(II)Z"⟩, 46), (⟨"RuleTreeModel", "missedAt", "(I)I"⟩, 46), (⟨"RuleTreeModel", "hasArgument", "(II)Z"⟩, 46), (⟨"RuleTreeModel", "anyAt", "(I)I"⟩, 46), (⟨"RuleTreeModel", "someAt", "(II)I"⟩, 46), (⟨"RuleTreeModel", "isToldRecord", "(I)Z"⟩, 46)]
theorem lw_r6 : ∀ q ∈ lw_privs_6, lw_okq q := List.forall_mem_cons.mpr ⟨lw_p80, List.forall_mem_cons.mpr ⟨lw_p81, List.forall_mem_cons.mpr ⟨lw_p82, List.forall_mem_cons.mpr ⟨lw_p83, List.forall_mem_cons.mpr ⟨lw_p84, List.forall_mem_cons.mpr ⟨lw_p85, fun _ h => absurd h List.not_mem_nil⟩⟩⟩⟩⟩⟩
def lw_privs : List (MethodName × Nat) := lw_privs_1 ++ (lw_privs_2 ++ (lw_privs_3 ++ (lw_privs_4 ++ (lw_privs_5 ++ (lw_privs_6)))))
def lw_tbl : List Cond := k2_sels lw_privs ++ tables_1
theorem lw_privs_ok : ∀ q ∈ lw_privs, lw_okq q := by
  show ∀ q ∈ lw_privs_1 ++ (lw_privs_2 ++ (lw_privs_3 ++ (lw_privs_4 ++ (lw_privs_5 ++ (lw_privs_6))))), lw_okq q
  exact List.forall_mem_append.mpr ⟨lw_r1, List.forall_mem_append.mpr ⟨lw_r2, List.forall_mem_append.mpr ⟨lw_r3, List.forall_mem_append.mpr ⟨lw_r4, List.forall_mem_append.mpr ⟨lw_r5, lw_r6⟩⟩⟩⟩⟩
-- ===== end of PART A; then your names; then what follows =====
end
section
-- THE MACHINE, a stretch at a time: pure instructions are done by a function (zrun), checked against the code by a table
def zbind {α β : Type} (x : α) (k : α → β) : β := k x
def zbind2 {α β γ : Type} (x : α × β) (k : α → β → γ) : γ := k x.1 x.2
def z_lushr (x : Int64) (y : Int32) : Int64 := (x.toUInt64 >>> (y.toInt64.toUInt64 &&& Int64.toUInt64 63)).toInt64
def z_lshl (x : Int64) (y : Int32) : Int64 := x <<< (y.toInt64 &&& 63)
def z_lshr (x : Int64) (y : Int32) : Int64 := x >>> (y.toInt64 &&& 63)
def z_rem (x y : Int32) : Int32 := x - x / y * y
abbrev zLv : Type := List (Nat × Value)
/-- a row of a method's table: pc, instruction, length, where it jumps, its constant -/
abbrev zTr : Type := Nat × Jvm.ClassFile.Instr × Nat × Nat × Int32
def zins (i : Nat) (v : Value) : zLv → zLv
  | [] => [(i, v)]
  | q :: r => if i < q.1 then (i, v) :: q :: r else q :: zins i v r
def zput (lv : zLv) (i : Nat) (v : Value) : zLv := zins i v (lv.filter (fun q => !(q.1 == i) && !(q.1 + 1 == i && q.2.category == 2)))
def zput2 (lv : zLv) (i : Nat) (v : Value) : zLv := zins i v (lv.filter (fun q => !(q.1 == i) && (!(q.1 == i + 1) && !(q.1 + 1 == i && q.2.category == 2))))
theorem zins_mem {i : Nat} {v : Value} {q : Nat × Value} : ∀ {l : zLv}, q ∈ zins i v l → q ∈ (i, v) :: l := by
  intro l
  induction l with
  | nil => intro h; exact h
  | cons a r ih =>
    intro h
    unfold zins at h
    split at h
    · exact h
    · rcases List.mem_cons.mp h with h | h
      · exact List.mem_cons_of_mem _ (h ▸ List.mem_cons_self)
      · rcases List.mem_cons.mp (ih h) with h | h
        · exact h ▸ List.mem_cons_self
        · exact List.mem_cons_of_mem _ (List.mem_cons_of_mem _ h)
theorem zl_mem {k : Nat} {v : Value} : ∀ {lv : zLv}, lv.lookup k = some v → (k, v) ∈ lv := by
  intro lv
  induction lv with
  | nil => intro h; cases h
  | cons a r ih =>
    intro h
    obtain ⟨x, y⟩ := a
    rw [List.lookup_cons] at h
    by_cases hk : (k == x) = true
    · rw [hk] at h
      have e1 : k = x := by simpa using hk
      have e2 : y = v := by simpa using h
      subst e1; subst e2
      exact List.mem_cons_self
    · have hk : (k == x) = false := by simpa using hk
      rw [hk] at h
      exact List.mem_cons_of_mem _ (ih h)
theorem zh_sub {ls : Array Slot} {nL : Nat} {l l' : zLv} (h : lv_has ls nL l) (hs : ∀ q ∈ l', q ∈ l) : lv_has ls nL l' := ⟨h.1, h.2.1, fun q hq => h.2.2 q (hs q hq)⟩
theorem zh_at {ls : Array Slot} {nL k : Nat} {l : zLv} {v : Value} (h : lv_has ls nL l) (hk : l.lookup k = some v) : ls[k]? = some (.val v) := h.2.2 (k, v) (zl_mem hk)
def zp (i : Jvm.ClassFile.Instr) (tgt : Nat) (v : Int32) (pc : Nat) (lv : zLv) (st : List Value) : Option (Nat × zLv × List Value) :=
  match i with
  | .aload_n k => (match lv.lookup k.val with | some (.ref a) => some (pc + 1, lv, .ref a :: st) | _ => none)
  | .aload k => (match lv.lookup k with | some (.ref a) => some (pc + 2, lv, .ref a :: st) | _ => none)
  | .iload_n k => (match lv.lookup k.val with | some (.int x) => some (pc + 1, lv, .int x :: st) | _ => none)
  | .iload k => (match lv.lookup k with | some (.int x) => some (pc + 2, lv, .int x :: st) | _ => none)
  | .lload_n k => (match lv.lookup k.val with | some (.long x) => some (pc + 1, lv, .long x :: st) | _ => none)
  | .lload k => (match lv.lookup k with | some (.long x) => some (pc + 2, lv, .long x :: st) | _ => none)
  | .istore_n k => (match st with | .int x :: r => some (pc + 1, zput lv k.val (.int x), r) | _ => none)
  | .istore k => (match st with | .int x :: r => some (pc + 2, zput lv k (.int x), r) | _ => none)
  | .iconst _ => some (pc + 1, lv, .int v :: st)
  | .bipush _ => some (pc + 2, lv, .int v :: st)
  | .sipush _ => some (pc + 3, lv, .int v :: st)
  | .lconst k => some (pc + 1, lv, .long (Int64.ofNat k.val) :: st)
  | .iadd => (match st with | .int y :: .int x :: r => some (pc + 1, lv, .int (x + y) :: r) | _ => none)
  | .isub => (match st with | .int y :: .int x :: r => some (pc + 1, lv, .int (x - y) :: r) | _ => none)
  | .imul => (match st with | .int y :: .int x :: r => some (pc + 1, lv, .int (x * y) :: r) | _ => none)
  | .iand => (match st with | .int y :: .int x :: r => some (pc + 1, lv, .int (x &&& y) :: r) | _ => none)
  | .land => (match st with | .long y :: .long x :: r => some (pc + 1, lv, .long (x &&& y) :: r) | _ => none)
  | .lor => (match st with | .long y :: .long x :: r => some (pc + 1, lv, .long (x ||| y) :: r) | _ => none)
  | .lushr => (match st with | .int y :: .long x :: r => some (pc + 1, lv, .long (z_lushr x y) :: r) | _ => none)
  | .lshl => (match st with | .int y :: .long x :: r => some (pc + 1, lv, .long (z_lshl x y) :: r) | _ => none)
  | .lcmp => (match st with | .long y :: .long x :: r => some (pc + 1, lv, .int (lg_cmp x y) :: r) | _ => none)
  | .l2i => (match st with | .long x :: r => some (pc + 1, lv, .int x.toInt32 :: r) | _ => none)
  | .i2l => (match st with | .int x :: r => some (pc + 1, lv, .long x.toInt64 :: r) | _ => none)
  | .dup => (match st with | .int x :: r => some (pc + 1, lv, .int x :: .int x :: r) | .ref a :: r => some (pc + 1, lv, .ref a :: .ref a :: r) | _ => none)
  | .pop => (match st with | .int _ :: r => some (pc + 1, lv, r) | .ref _ :: r => some (pc + 1, lv, r) | _ => none)
  | .iinc k _ => (match lv.lookup k with | some (.int x) => some (pc + 3, zput lv k (.int (x + v)), st) | _ => none)
  | .lstore_n k => (match st with | .long x :: r => some (pc + 1, zput2 lv k.val (.long x), r) | _ => none)
  | .lstore k => (match st with | .long x :: r => some (pc + 2, zput2 lv k (.long x), r) | _ => none)
  | .astore_n k => (match st with | .ref x :: r => some (pc + 1, zput lv k.val (.ref x), r) | _ => none)
  | .ladd => (match st with | .long y :: .long x :: r => some (pc + 1, lv, .long (x + y) :: r) | _ => none)
  | .lsub => (match st with | .long y :: .long x :: r => some (pc + 1, lv, .long (x - y) :: r) | _ => none)
  | .lxor => (match st with | .long y :: .long x :: r => some (pc + 1, lv, .long (x ^^^ y) :: r) | _ => none)
  | .lshr => (match st with | .int y :: .long x :: r => some (pc + 1, lv, .long (z_lshr x y) :: r) | _ => none)
  | .i2b => (match st with | .int x :: r => some (pc + 1, lv, .int x.toInt8.toInt32 :: r) | _ => none)
  | .i2s => (match st with | .int x :: r => some (pc + 1, lv, .int x.toInt16.toInt32 :: r) | _ => none)
  | .dup2 => (match st with | .int y :: .ref x :: r => some (pc + 1, lv, .int y :: .ref x :: .int y :: .ref x :: r) | _ => none)
  | .goto _ => some (tgt, lv, st)
  | _ => none
/-- what a row of the table says is so -/
def zokb (cc : ByteArray) (nL : Nat) (q : zTr) : Bool :=
  decide (decode cc q.1 = .ok (q.2.1, q.2.2.1)) && (match q.2.1 with
  | .aload _ => q.2.2.1 == 2
  | .iload _ => q.2.2.1 == 2
  | .lload _ => q.2.2.1 == 2
  | .istore_n k => q.2.2.1 == 1 && decide (k.val < nL)
  | .istore k => q.2.2.1 == 2 && decide (k < nL)
  | .lstore_n k => q.2.2.1 == 1 && decide (k.val + 1 < nL)
  | .lstore k => q.2.2.1 == 2 && decide (k + 1 < nL)
  | .astore_n k => q.2.2.1 == 1 && decide (k.val < nL)
  | .iconst k => q.2.2.1 == 1 && decide (Int32.ofInt k = q.2.2.2.2)
  | .bipush k => q.2.2.1 == 2 && decide ((Int8.ofInt k).toInt32 = q.2.2.2.2)
  | .sipush k => q.2.2.1 == 3 && decide ((Int16.ofInt k).toInt32 = q.2.2.2.2)
  | .iinc k n => q.2.2.1 == 3 && decide (k < nL) && decide (Int32.ofInt n = q.2.2.2.2)
  | .goto o => q.2.2.1 == 3 && decide ((q.1 : Int) + o = (q.2.2.2.1 : Int))
  | .ifCond _ o => q.2.2.1 == 3 && decide ((q.1 : Int) + o = (q.2.2.2.1 : Int))
  | .if_icmp _ o => q.2.2.1 == 3 && decide ((q.1 : Int) + o = (q.2.2.2.1 : Int))
  | .getfield _ => q.2.2.1 == 3
  | .putfield _ => q.2.2.1 == 3
  | .invokevirtual _ => q.2.2.1 == 3
  | .invokespecial _ => q.2.2.1 == 3
  | .invokestatic _ => q.2.2.1 == 3
  | .ldc _ => q.2.2.1 == 2
  | .ldc2_w _ => q.2.2.1 == 3
  | .new _ => q.2.2.1 == 3
  | .newarray _ => q.2.2.1 == 2
  | .tableswitch _ _ _ _ => true
  | .lookupswitch _ _ => true
  | _ => q.2.2.1 == 1)
section ZP
variable {p : Program} {l : Launch} {e : Env} {R : Room} {s : State} {m : MethodId} {args : Array Value} {below : List Frame} {meth : Method} {c : Code} {H : Heap} {locs : List Loc} {cells slots : Nat} {Q : State → Prop} {cc : ByteArray}
set_option maxHeartbeats 4000000 in
theorem zp_ok (hx : p.tables.exec = Jvm.exec) (hb : c.code = cc) {i : Jvm.ClassFile.Instr} {len tgt nL pc pc' : Nat} {v : Int32} {lv lv' : zLv} {st st' : List Value} (ho : zokb cc nL (pc, i, len, tgt, v) = true) (h : zp i tgt v pc lv st = some (pc', lv', st')) {ls : Array Slot} (hl : lv_has ls nL lv)
    (k : ∀ ls' : Array Slot, lv_has ls' nL lv' → W p l e R s m args below meth c H locs cells slots Q (F0 m pc' ls' st')) : W p l e R s m args below meth c H locs cells slots Q (F0 m pc ls st) := by
  unfold zokb at ho
  rw [Bool.and_eq_true] at ho
  obtain ⟨hd, ho⟩ := ho
  have hd := of_decide_eq_true hd
  dsimp only at hd ho
  unfold zp at h
  split at h
  · split at h
    · rename_i hk; cases h; have := eq_of_beq ho; subst this; exact lv_aload_n hx hb hd rfl (zh_at hl hk) (k _ hl)
    · cases h
  · split at h
    · rename_i hk; cases h; have := eq_of_beq ho; subst this; exact lv_aload hx hb hd (zh_at hl hk) (k _ hl)
    · cases h
  · split at h
    · rename_i hk; cases h; have := eq_of_beq ho; subst this; exact lv_iload_n hx hb hd rfl (zh_at hl hk) (k _ hl)
    · cases h
  · split at h
    · rename_i hk; cases h; have := eq_of_beq ho; subst this; exact lv_iload hx hb hd (zh_at hl hk) (k _ hl)
    · cases h
  · split at h
    · rename_i hk; cases h; have := eq_of_beq ho; subst this; exact lv_lload_n hx hb hd rfl (zh_at hl hk) (k _ hl)
    · cases h
  · split at h
    · rename_i hk; cases h; have := eq_of_beq ho; subst this; exact lv_lload hx hb hd (zh_at hl hk) (k _ hl)
    · cases h
  · split at h
    · cases h
      rw [Bool.and_eq_true] at ho
      have := eq_of_beq ho.1; subst this
      exact lv_istore_n hx hb hd rfl hl (of_decide_eq_true ho.2) rfl (fun ls' hl' => k ls' (zh_sub hl' (fun q hq => zins_mem hq)))
    · cases h
  · split at h
    · cases h
      rw [Bool.and_eq_true] at ho
      have := eq_of_beq ho.1; subst this
      exact lv_istore hx hb hd hl (of_decide_eq_true ho.2) rfl (fun ls' hl' => k ls' (zh_sub hl' (fun q hq => zins_mem hq)))
    · cases h
  · cases h; rw [Bool.and_eq_true] at ho; have := eq_of_beq ho.1; subst this; exact lv_iconst hx hb hd (of_decide_eq_true ho.2) (k _ hl)
  · cases h; rw [Bool.and_eq_true] at ho; have := eq_of_beq ho.1; subst this; exact lv_bipush hx hb hd (of_decide_eq_true ho.2) (k _ hl)
  · cases h; rw [Bool.and_eq_true] at ho; have := eq_of_beq ho.1; subst this; exact lv_sipush hx hb hd (of_decide_eq_true ho.2) (k _ hl)
  · cases h; have := eq_of_beq ho; subst this; exact lv_lconst hx hb hd rfl (k _ hl)
  · split at h
    · cases h; have := eq_of_beq ho; subst this; exact lv_iadd hx hb hd (k _ hl)
    · cases h
  · split at h
    · cases h; have := eq_of_beq ho; subst this; exact lv_isub hx hb hd (k _ hl)
    · cases h
  · split at h
    · cases h; have := eq_of_beq ho; subst this; exact lv_imul hx hb hd (k _ hl)
    · cases h
  · split at h
    · cases h; have := eq_of_beq ho; subst this; exact lv_iand hx hb hd (k _ hl)
    · cases h
  · split at h
    · cases h; have := eq_of_beq ho; subst this; exact lv_land hx hb hd (k _ hl)
    · cases h
  · split at h
    · cases h; have := eq_of_beq ho; subst this; exact lv_lor hx hb hd (k _ hl)
    · cases h
  · split at h
    · cases h; have := eq_of_beq ho; subst this; exact lv_lushr hx hb hd rfl (k _ hl)
    · cases h
  · split at h
    · cases h; have := eq_of_beq ho; subst this; exact lv_lshl hx hb hd rfl (k _ hl)
    · cases h
  · split at h
    · cases h; have := eq_of_beq ho; subst this; exact W.lcmp hx hb hd (k _ hl)
    · cases h
  · split at h
    · cases h; have := eq_of_beq ho; subst this; exact lv_l2i hx hb hd rfl (k _ hl)
    · cases h
  · split at h
    · cases h; have := eq_of_beq ho; subst this; exact lv_i2l hx hb hd rfl (k _ hl)
    · cases h
  · split at h
    · cases h; have := eq_of_beq ho; subst this; exact lv_dup hx hb hd rfl (k _ hl)
    · cases h; have := eq_of_beq ho; subst this; exact lv_dup hx hb hd rfl (k _ hl)
    · cases h
  · split at h
    · cases h; have := eq_of_beq ho; subst this; exact lv_pop hx hb hd rfl (k _ hl)
    · cases h; have := eq_of_beq ho; subst this; exact lv_pop hx hb hd rfl (k _ hl)
    · cases h
  · split at h
    · rename_i hk
      cases h
      rw [Bool.and_eq_true, Bool.and_eq_true] at ho
      have := eq_of_beq ho.1.1; subst this
      obtain ⟨j, hj⟩ := List.getElem?_of_mem (zl_mem hk)
      exact lv_iinc hx hb hd hl hj (by rw [of_decide_eq_true ho.2]) (of_decide_eq_true ho.1.2) rfl (fun ls' hl' => k ls' (zh_sub hl' (fun q hq => zins_mem hq)))
    · cases h
  · split at h
    · cases h
      rw [Bool.and_eq_true] at ho
      have := eq_of_beq ho.1; subst this
      exact lv_lstore_n hx hb hd rfl hl (of_decide_eq_true ho.2) rfl (fun ls' hl' => k ls' (zh_sub hl' (fun q hq => zins_mem hq)))
    · cases h
  · split at h
    · cases h
      rw [Bool.and_eq_true] at ho
      have := eq_of_beq ho.1; subst this
      exact lv_lstore hx hb hd hl (of_decide_eq_true ho.2) rfl (fun ls' hl' => k ls' (zh_sub hl' (fun q hq => zins_mem hq)))
    · cases h
  · split at h
    · cases h
      rw [Bool.and_eq_true] at ho
      have := eq_of_beq ho.1; subst this
      exact lv_astore_n hx hb hd rfl hl (of_decide_eq_true ho.2) rfl (fun ls' hl' => k ls' (zh_sub hl' (fun q hq => zins_mem hq)))
    · cases h
  · split at h
    · cases h; have := eq_of_beq ho; subst this; exact lv_ladd hx hb hd (k _ hl)
    · cases h
  · split at h
    · cases h; have := eq_of_beq ho; subst this; exact lv_lsub hx hb hd (k _ hl)
    · cases h
  · split at h
    · cases h; have := eq_of_beq ho; subst this; exact lv_lxor hx hb hd (k _ hl)
    · cases h
  · split at h
    · cases h; have := eq_of_beq ho; subst this; exact lv_lshr hx hb hd rfl (k _ hl)
    · cases h
  · split at h
    · cases h; have := eq_of_beq ho; subst this; exact lv_i2b hx hb hd rfl (k _ hl)
    · cases h
  · split at h
    · cases h; have := eq_of_beq ho; subst this; exact lv_i2s hx hb hd rfl (k _ hl)
    · cases h
  · split at h
    · cases h; have := eq_of_beq ho; subst this; exact lv_dup2_11 hx hb hd rfl rfl (k _ hl)
    · cases h
  · cases h; rw [Bool.and_eq_true] at ho; have := eq_of_beq ho.1; subst this; exact lv_goto hx hb hd (of_decide_eq_true ho.2) (k _ hl)
  · cases h
/-- a stretch of pure instructions -/
def zrun (T : List zTr) : Nat → Nat → zLv → List Value → Option (Nat × zLv × List Value)
  | 0, pc, lv, st => some (pc, lv, st)
  | n + 1, pc, lv, st => match T.lookup pc with
    | none => none
    | some q => match zp q.1 q.2.2.1 q.2.2.2 pc lv st with
      | none => none
      | some r => zrun T n r.1 r.2.1 r.2.2
theorem zt_mem {k : Nat} {v : Jvm.ClassFile.Instr × Nat × Nat × Int32} : ∀ {T : List zTr}, T.lookup k = some v → (k, v) ∈ T := by
  intro T
  induction T with
  | nil => intro h; cases h
  | cons a r ih =>
    intro h
    obtain ⟨x, y⟩ := a
    rw [List.lookup_cons] at h
    by_cases hk : (k == x) = true
    · rw [hk] at h
      have e1 : k = x := by simpa using hk
      have e2 : y = v := by simpa using h
      subst e1; subst e2
      exact List.mem_cons_self
    · have hk : (k == x) = false := by simpa using hk
      rw [hk] at h
      exact List.mem_cons_of_mem _ (ih h)
/-- a method's table is its code's -/
abbrev zTok (cc : ByteArray) (nL : Nat) (T : List zTr) : Prop := T.all (zokb cc nL) = true
theorem zTok.at {nL : Nat} {T : List zTr} (h : zTok cc nL T) {pc : Nat} {q : Jvm.ClassFile.Instr × Nat × Nat × Int32} (hq : T.lookup pc = some q) : zokb cc nL (pc, q) = true := List.all_eq_true.mp h _ (zt_mem hq)
theorem zTok.dec {nL : Nat} {T : List zTr} (h : zTok cc nL T) {pc : Nat} {q : Jvm.ClassFile.Instr × Nat × Nat × Int32} (hq : T.lookup pc = some q) : decode cc pc = .ok (q.1, q.2.1) := by
  have h1 := h.at hq
  unfold zokb at h1
  rw [Bool.and_eq_true] at h1
  exact of_decide_eq_true h1.1
theorem zrun_ok (hx : p.tables.exec = Jvm.exec) (hb : c.code = cc) {nL : Nat} {T : List zTr} (hT : zTok cc nL T) {lv' : zLv} {st' : List Value} {pc' : Nat} : ∀ (n pc : Nat) (lv : zLv) (st : List Value), zrun T n pc lv st = some (pc', lv', st') → ∀ {ls : Array Slot}, lv_has ls nL lv →
    (∀ ls' : Array Slot, lv_has ls' nL lv' → W p l e R s m args below meth c H locs cells slots Q (F0 m pc' ls' st')) → W p l e R s m args below meth c H locs cells slots Q (F0 m pc ls st) := by
  intro n
  induction n with
  | zero => intro pc lv st h ls hl k; unfold zrun at h; cases h; exact k _ hl
  | succ n ih =>
    intro pc lv st h ls hl k
    unfold zrun at h
    split at h
    · cases h
    · rename_i q hq
      split at h
      · cases h
      · rename_i r hr
        obtain ⟨i, len, tgt, v⟩ := q
        obtain ⟨r1, r2, r3⟩ := r
        exact zp_ok hx hb (hT.at hq) hr hl (fun ls' hl' => ih _ _ _ h hl' k)
end ZP
end
section
-- A METHOD'S BODY AGAINST A FUNCTION: SW says that from here the machine comes to the method's end with the state and the answer E
def zQ {σ : Type} (A : Nat → Prop) (Rep : σ → Heap → Prop) (E : σ × Option Value) : Array Value → State → Outcome → State → Prop := fun _ st o t => o = .returned E.2 ∧ Rep E.1 t.heap ∧ va_F A st t
def zFp {σ : Type} (S : σ) (e : Int32) : σ × Option Value := (S, some (.int e))
def zFi {σ : Type} (r : σ × Int32) : σ × Option Value := (r.1, some (.int r.2))
def zFpl {σ : Type} (S : σ) (e : Int64) : σ × Option Value := (S, some (.long e))
def zFil {σ : Type} (r : σ × Int64) : σ × Option Value := (r.1, some (.long r.2))
def zFv {σ : Type} (S : σ) : σ × Option Value := (S, none)
def zPre {σ : Type} (argsL : List Value) (D : va_G) (cl : List vw_C) (tys : List (ClassId × FieldType)) (A : Nat → Prop) (Rep : σ → Heap → Prop) (S : σ) : Array Value → State → Prop := va_Pc argsL (fun U => Rep S U.heap ∧ va_K D cl tys U ∧ ∀ q, U.heap.size ≤ q → A q)
/-- a contract: the method brings the state S to E.1 and answers E.2; what it makes is what the cost has grown by -/
def zMet {σ : Type} (l : Launch) (y : MethodName) (ws : List Cond) (fr lo : Nat) (argsL : List Value) (D : va_G) (cl : List vw_C) (tys : List (ClassId × FieldType)) (A : Nat → Prop) (Rep : σ → Heap → Prop) (fc fs : σ → Nat) (S : σ) (E : σ × Option Value) : Prop :=
  fc S ≤ fc E.1 ∧ fs S ≤ fs E.1 ∧ Met l y ws { frames := fr, cells := fc E.1 - fc S, slots := fs E.1 - fs S, locals := lo } (zPre argsL D cl tys A Rep S) (zQ A Rep E) (fc E.1 - fc S) (fs E.1 - fs S) A
theorem zPre_blind {σ : Type} {argsL : List Value} {D : va_G} {cl : List vw_C} {tys : List (ClassId × FieldType)} {A : Nat → Prop} {Rep : σ → Heap → Prop} {S : σ} : FrameBlind (zPre argsL D cl tys A Rep S) := fun a U g mk q => by
  obtain ⟨q0, qR, qK, qA⟩ := q
  exact ⟨q0, qR, va_K.moved (u := U) (U := U.calling g mk a) (Vm.Alike.refl U.vm) qK, qA⟩
section ZSW
variable {p : Program} {l : Launch} {e : Env} {R : Room} {s : State} {m : MethodId} {args : Array Value} {below : List Frame} {meth : Method} {c : Code} {nL : Nat} {A : Nat → Prop} {σ : Type} {Rep : σ → Heap → Prop} {fc fs : σ → Nat} {cc : ByteArray} {T : List zTr}
def SW (p : Program) (l : Launch) (e : Env) (R : Room) (s : State) (m : MethodId) (args : Array Value) (below : List Frame) (meth : Method) (c : Code) (nL : Nat) (A : Nat → Prop) {σ : Type} (Rep : σ → Heap → Prop) (fc fs : σ → Nat) (S : σ) (pc : Nat) (lv : zLv) (st : List Value) (E : σ × Option Value) : Prop :=
  fc S ≤ fc E.1 ∧ fs S ≤ fs E.1 ∧ ∀ (H : Heap) (locs : List Loc) (cells slots : Nat) (ls : Array Slot), Rep S H → va_S A s.heap H locs → cells + fc E.1 ≤ R.cells + fc S → slots + fs E.1 ≤ R.slots + fs S → lv_has ls nL lv →
    W p l e R s m args below meth c H locs cells slots (MQ below (zQ A Rep E) args s R.cells R.slots A) (F0 m pc ls st)
variable {S : σ} {pc : Nat} {lv : zLv} {st rest : List Value} {E : σ × Option Value}
/-- what every rule needs of the method -/
def zC (p : Program) (s : State) (m : MethodId) (args : Array Value) (meth : Method) (c : Code) (cc : ByteArray) (nL : Nat) (own : String) (Ts : List Cond) (T : List zTr) (ret : Option FieldType) : Prop :=
  p.tables.exec = Jvm.exec ∧ c.code = cc ∧ c.maxLocals = nL ∧ s.vm.findClass own = some m.cls ∧ (∀ w ∈ Ts, w.before args s = true) ∧ zTok cc nL T ∧ meth.sig.returnType = ret ∧ meth.locks = false
variable {own : String} {Ts : List Cond} {ret : Option FieldType}
theorem sw_go (C0 : zC p s m args meth c cc nL own Ts T ret) (n : Nat) {pc' : Nat} {lv' : zLv} {st' : List Value} (h : zrun T n pc lv st = some (pc', lv', st')) (k : SW p l e R s m args below meth c nL A Rep fc fs S pc' lv' st' E) : SW p l e R s m args below meth c nL A Rep fc fs S pc lv st E := by
  obtain ⟨hx, hb, hml, hown, hts, hT, hr, hlocks⟩ := C0
  exact ⟨k.1, k.2.1, fun H locs cells slots ls h1 h2 h3 h4 h5 => zrun_ok hx hb hT n pc lv st h h5 (fun ls' hl' => k.2.2 H locs cells slots ls' h1 h2 h3 h4 hl')⟩
theorem sw_sub {lv' : zLv} (h : ∀ q ∈ lv', q ∈ lv) (k : SW p l e R s m args below meth c nL A Rep fc fs S pc lv' st E) : SW p l e R s m args below meth c nL A Rep fc fs S pc lv st E :=
  ⟨k.1, k.2.1, fun H locs cells slots ls h1 h2 h3 h4 h5 => k.2.2 H locs cells slots ls h1 h2 h3 h4 (zh_sub h5 h)⟩
theorem sw_nm {ρ α : Type} (F : ρ → σ × Option Value) {x : α} {V : α → Value} {K : α → ρ} (k : ∀ v : α, v = x → SW p l e R s m args below meth c nL A Rep fc fs S pc lv (V v :: rest) (F (K v))) : SW p l e R s m args below meth c nL A Rep fc fs S pc lv (V x :: rest) (F (zbind x K)) := k x rfl
/-- either way -/
theorem sw_if {ρ : Type} (F : ρ → σ × Option Value) {b : Prop} [Decidable b] {r1 r2 : ρ} (kt : b → SW p l e R s m args below meth c nL A Rep fc fs S pc lv st (F r1)) (kf : ¬ b → SW p l e R s m args below meth c nL A Rep fc fs S pc lv st (F r2)) : SW p l e R s m args below meth c nL A Rep fc fs S pc lv st (F (if b then r1 else r2)) := by
  by_cases h : b
  · rw [if_pos h]; exact kt h
  · rw [if_neg h]; exact kf h
theorem sw_W (k : SW p l e R s m args below meth c nL A Rep fc fs S pc lv st E) {pc2 : Nat} {lv2 : zLv} {st2 : List Value} (h : ∀ (H : Heap) (locs : List Loc) (cells slots : Nat) (ls : Array Slot), lv_has ls nL lv2 → (lv_has ls nL lv → W p l e R s m args below meth c H locs cells slots (MQ below (zQ A Rep E) args s R.cells R.slots A) (F0 m pc ls st)) → W p l e R s m args below meth c H locs cells slots (MQ below (zQ A Rep E) args s R.cells R.slots A) (F0 m pc2 ls st2)) : SW p l e R s m args below meth c nL A Rep fc fs S pc2 lv2 st2 E :=
  ⟨k.1, k.2.1, fun H locs cells slots ls h1 h2 h3 h4 h5 => h H locs cells slots ls h5 (fun h6 => k.2.2 H locs cells slots ls h1 h2 h3 h4 h6)⟩
theorem zok_jmp {i : Jvm.ClassFile.Instr} {len tgt nL pc : Nat} {v : Int32} {o : Int} (h : zokb cc nL (pc, i, len, tgt, v) = true) (hi : (∃ q, i = .ifCond q o) ∨ (∃ q, i = .if_icmp q o)) : decode cc pc = .ok (i, 3) ∧ (pc : Int) + o = (tgt : Int) := by
  unfold zokb at h
  rw [Bool.and_eq_true] at h
  obtain ⟨hd, ho⟩ := h
  have hd := of_decide_eq_true hd
  dsimp only at hd ho
  rcases hi with ⟨q, rfl⟩ | ⟨q, rfl⟩
  · dsimp only at ho
    rw [Bool.and_eq_true] at ho
    have := eq_of_beq ho.1; subst this
    exact ⟨hd, of_decide_eq_true ho.2⟩
  · dsimp only at ho
    rw [Bool.and_eq_true] at ho
    have := eq_of_beq ho.1; subst this
    exact ⟨hd, of_decide_eq_true ho.2⟩
/-- the same, where the function may answer nothing: then nothing is said -/
def SO (p : Program) (l : Launch) (e : Env) (R : Room) (s : State) (m : MethodId) (args : Array Value) (below : List Frame) (meth : Method) (c : Code) (nL : Nat) (A : Nat → Prop) {σ : Type} (Rep : σ → Heap → Prop) (fc fs : σ → Nat) (S : σ) (pc : Nat) (lv : zLv) (st : List Value) {ρ : Type} (F : ρ → σ × Option Value) (x : Option ρ) : Prop :=
  ∀ r : ρ, x = some r → SW p l e R s m args below meth c nL A Rep fc fs S pc lv st (F r)
def zob {α β : Type} (x : Option α) (k : α → Option β) : Option β := match x with
  | none => none
  | some a => k a
def zob2 {α β γ : Type} (x : Option (α × β)) (k : α → β → Option γ) : Option γ := match x with
  | none => none
  | some a => k a.1 a.2
theorem so_go {ρ : Type} {F : ρ → σ × Option Value} {x : Option ρ} (C0 : zC p s m args meth c cc nL own Ts T ret) (n : Nat) {pc' : Nat} {lv' : zLv} {st' : List Value} (h : zrun T n pc lv st = some (pc', lv', st')) (k : SO p l e R s m args below meth c nL A Rep fc fs S pc' lv' st' F x) : SO p l e R s m args below meth c nL A Rep fc fs S pc lv st F x := fun r hr => sw_go C0 n h (k r hr)
theorem so_sub {ρ : Type} {F : ρ → σ × Option Value} {x : Option ρ} {lv' : zLv} (h : ∀ q ∈ lv', q ∈ lv) (k : SO p l e R s m args below meth c nL A Rep fc fs S pc lv' st F x) : SO p l e R s m args below meth c nL A Rep fc fs S pc lv st F x := fun r hr => sw_sub h (k r hr)
theorem so_nm {ρ α : Type} {F : ρ → σ × Option Value} {x : α} {V : α → Value} {K : α → Option ρ} (k : ∀ v : α, v = x → SO p l e R s m args below meth c nL A Rep fc fs S pc lv (V v :: rest) F (K v)) : SO p l e R s m args below meth c nL A Rep fc fs S pc lv (V x :: rest) F (zbind x K) := k x rfl
theorem so_none {ρ : Type} {F : ρ → σ × Option Value} : SO p l e R s m args below meth c nL A Rep fc fs S pc lv st F none := fun r hr => by cases hr
theorem sw_icmp_eqT (C0 : zC p s m args meth c cc nL own Ts T ret) {x y : Int32} {o : Int} {tgt : Nat} {v : Int32} (hq : T.lookup pc = some (.if_icmp .eq o, 3, tgt, v)) (h : x = y) (kt : SW p l e R s m args below meth c nL A Rep fc fs S tgt lv rest E) : SW p l e R s m args below meth c nL A Rep fc fs S pc lv (.int y :: .int x :: rest) E := by
  obtain ⟨hx, hb, hml, hown, hts, hT, hr, hlocks⟩ := C0
  obtain ⟨hd, ht⟩ := zok_jmp (hT.at hq) (Or.inr ⟨_, rfl⟩)
  exact sw_W kt (fun H locs cells slots ls h5 k => lv_icmp_eq hx hb hd ht (fun _ => k h5) (fun h' => absurd h h'))
theorem sw_icmp_eqF (C0 : zC p s m args meth c cc nL own Ts T ret) {x y : Int32} {o : Int} {tgt : Nat} {v : Int32} (hq : T.lookup pc = some (.if_icmp .eq o, 3, tgt, v)) (h : ¬ (x = y)) (kf : SW p l e R s m args below meth c nL A Rep fc fs S (pc + 3) lv rest E) : SW p l e R s m args below meth c nL A Rep fc fs S pc lv (.int y :: .int x :: rest) E := by
  obtain ⟨hx, hb, hml, hown, hts, hT, hr, hlocks⟩ := C0
  obtain ⟨hd, ht⟩ := zok_jmp (hT.at hq) (Or.inr ⟨_, rfl⟩)
  exact sw_W kf (fun H locs cells slots ls h5 k => lv_icmp_eq hx hb hd ht (fun h' => absurd h' h) (fun _ => k h5))
theorem sw_icmp_eq {ρ : Type} (F : ρ → σ × Option Value) {r1 r2 : ρ} (C0 : zC p s m args meth c cc nL own Ts T ret) {x y : Int32} {o : Int} {tgt : Nat} {v : Int32} (hq : T.lookup pc = some (.if_icmp .eq o, 3, tgt, v)) (kt : x = y → SW p l e R s m args below meth c nL A Rep fc fs S tgt lv rest (F r1)) (kf : ¬ (x = y) → SW p l e R s m args below meth c nL A Rep fc fs S (pc + 3) lv rest (F r2)) : SW p l e R s m args below meth c nL A Rep fc fs S pc lv (.int y :: .int x :: rest) (F (if x = y then r1 else r2)) :=
  sw_if F (fun h => sw_icmp_eqT C0 hq h (kt h)) (fun h => sw_icmp_eqF C0 hq h (kf h))
theorem so_icmp_eq {ρ : Type} {F : ρ → σ × Option Value} {r1 r2 : Option ρ} (C0 : zC p s m args meth c cc nL own Ts T ret) {x y : Int32} {o : Int} {tgt : Nat} {v : Int32} (hq : T.lookup pc = some (.if_icmp .eq o, 3, tgt, v)) (kt : x = y → SO p l e R s m args below meth c nL A Rep fc fs S tgt lv rest F r1) (kf : ¬ (x = y) → SO p l e R s m args below meth c nL A Rep fc fs S (pc + 3) lv rest F r2) : SO p l e R s m args below meth c nL A Rep fc fs S pc lv (.int y :: .int x :: rest) F (if x = y then r1 else r2) := by
  intro r hr
  by_cases h : x = y
  · rw [if_pos h] at hr
    exact sw_icmp_eqT C0 hq h (kt h r hr)
  · rw [if_neg h] at hr
    exact sw_icmp_eqF C0 hq h (kf h r hr)
theorem so_icmp_eqT {ρ : Type} {F : ρ → σ × Option Value} {w : Option ρ} (C0 : zC p s m args meth c cc nL own Ts T ret) {x y : Int32} {o : Int} {tgt : Nat} {v : Int32} (hq : T.lookup pc = some (.if_icmp .eq o, 3, tgt, v)) (h : x = y) (kt : SO p l e R s m args below meth c nL A Rep fc fs S tgt lv rest F w) : SO p l e R s m args below meth c nL A Rep fc fs S pc lv (.int y :: .int x :: rest) F w := fun r hr => sw_icmp_eqT C0 hq h (kt r hr)
theorem so_icmp_eqF {ρ : Type} {F : ρ → σ × Option Value} {w : Option ρ} (C0 : zC p s m args meth c cc nL own Ts T ret) {x y : Int32} {o : Int} {tgt : Nat} {v : Int32} (hq : T.lookup pc = some (.if_icmp .eq o, 3, tgt, v)) (h : ¬ (x = y)) (kf : SO p l e R s m args below meth c nL A Rep fc fs S (pc + 3) lv rest F w) : SO p l e R s m args below meth c nL A Rep fc fs S pc lv (.int y :: .int x :: rest) F w := fun r hr => sw_icmp_eqF C0 hq h (kf r hr)
theorem sw_icmp_neT (C0 : zC p s m args meth c cc nL own Ts T ret) {x y : Int32} {o : Int} {tgt : Nat} {v : Int32} (hq : T.lookup pc = some (.if_icmp .ne o, 3, tgt, v)) (h : ¬ x = y) (kt : SW p l e R s m args below meth c nL A Rep fc fs S tgt lv rest E) : SW p l e R s m args below meth c nL A Rep fc fs S pc lv (.int y :: .int x :: rest) E := by
  obtain ⟨hx, hb, hml, hown, hts, hT, hr, hlocks⟩ := C0
  obtain ⟨hd, ht⟩ := zok_jmp (hT.at hq) (Or.inr ⟨_, rfl⟩)
  exact sw_W kt (fun H locs cells slots ls h5 k => lv_icmp_ne hx hb hd ht (fun _ => k h5) (fun h' => absurd h' h))
theorem sw_icmp_neF (C0 : zC p s m args meth c cc nL own Ts T ret) {x y : Int32} {o : Int} {tgt : Nat} {v : Int32} (hq : T.lookup pc = some (.if_icmp .ne o, 3, tgt, v)) (h : ¬ (¬ x = y)) (kf : SW p l e R s m args below meth c nL A Rep fc fs S (pc + 3) lv rest E) : SW p l e R s m args below meth c nL A Rep fc fs S pc lv (.int y :: .int x :: rest) E := by
  obtain ⟨hx, hb, hml, hown, hts, hT, hr, hlocks⟩ := C0
  obtain ⟨hd, ht⟩ := zok_jmp (hT.at hq) (Or.inr ⟨_, rfl⟩)
  exact sw_W kf (fun H locs cells slots ls h5 k => lv_icmp_ne hx hb hd ht (fun h' => absurd h' h) (fun _ => k h5))
theorem sw_icmp_ne {ρ : Type} (F : ρ → σ × Option Value) {r1 r2 : ρ} (C0 : zC p s m args meth c cc nL own Ts T ret) {x y : Int32} {o : Int} {tgt : Nat} {v : Int32} (hq : T.lookup pc = some (.if_icmp .ne o, 3, tgt, v)) (kt : ¬ x = y → SW p l e R s m args below meth c nL A Rep fc fs S tgt lv rest (F r1)) (kf : ¬ (¬ x = y) → SW p l e R s m args below meth c nL A Rep fc fs S (pc + 3) lv rest (F r2)) : SW p l e R s m args below meth c nL A Rep fc fs S pc lv (.int y :: .int x :: rest) (F (if ¬ x = y then r1 else r2)) :=
  sw_if F (fun h => sw_icmp_neT C0 hq h (kt h)) (fun h => sw_icmp_neF C0 hq h (kf h))
theorem so_icmp_ne {ρ : Type} {F : ρ → σ × Option Value} {r1 r2 : Option ρ} (C0 : zC p s m args meth c cc nL own Ts T ret) {x y : Int32} {o : Int} {tgt : Nat} {v : Int32} (hq : T.lookup pc = some (.if_icmp .ne o, 3, tgt, v)) (kt : ¬ x = y → SO p l e R s m args below meth c nL A Rep fc fs S tgt lv rest F r1) (kf : ¬ (¬ x = y) → SO p l e R s m args below meth c nL A Rep fc fs S (pc + 3) lv rest F r2) : SO p l e R s m args below meth c nL A Rep fc fs S pc lv (.int y :: .int x :: rest) F (if ¬ x = y then r1 else r2) := by
  intro r hr
  by_cases h : ¬ x = y
  · rw [if_pos h] at hr
    exact sw_icmp_neT C0 hq h (kt h r hr)
  · rw [if_neg h] at hr
    exact sw_icmp_neF C0 hq h (kf h r hr)
theorem so_icmp_neT {ρ : Type} {F : ρ → σ × Option Value} {w : Option ρ} (C0 : zC p s m args meth c cc nL own Ts T ret) {x y : Int32} {o : Int} {tgt : Nat} {v : Int32} (hq : T.lookup pc = some (.if_icmp .ne o, 3, tgt, v)) (h : ¬ x = y) (kt : SO p l e R s m args below meth c nL A Rep fc fs S tgt lv rest F w) : SO p l e R s m args below meth c nL A Rep fc fs S pc lv (.int y :: .int x :: rest) F w := fun r hr => sw_icmp_neT C0 hq h (kt r hr)
theorem so_icmp_neF {ρ : Type} {F : ρ → σ × Option Value} {w : Option ρ} (C0 : zC p s m args meth c cc nL own Ts T ret) {x y : Int32} {o : Int} {tgt : Nat} {v : Int32} (hq : T.lookup pc = some (.if_icmp .ne o, 3, tgt, v)) (h : ¬ (¬ x = y)) (kf : SO p l e R s m args below meth c nL A Rep fc fs S (pc + 3) lv rest F w) : SO p l e R s m args below meth c nL A Rep fc fs S pc lv (.int y :: .int x :: rest) F w := fun r hr => sw_icmp_neF C0 hq h (kf r hr)
theorem sw_icmp_ltT (C0 : zC p s m args meth c cc nL own Ts T ret) {x y : Int32} {o : Int} {tgt : Nat} {v : Int32} (hq : T.lookup pc = some (.if_icmp .lt o, 3, tgt, v)) (h : x < y) (kt : SW p l e R s m args below meth c nL A Rep fc fs S tgt lv rest E) : SW p l e R s m args below meth c nL A Rep fc fs S pc lv (.int y :: .int x :: rest) E := by
  obtain ⟨hx, hb, hml, hown, hts, hT, hr, hlocks⟩ := C0
  obtain ⟨hd, ht⟩ := zok_jmp (hT.at hq) (Or.inr ⟨_, rfl⟩)
  exact sw_W kt (fun H locs cells slots ls h5 k => lv_icmp_lt hx hb hd ht (fun _ => k h5) (fun h' => absurd h h'))
theorem sw_icmp_ltF (C0 : zC p s m args meth c cc nL own Ts T ret) {x y : Int32} {o : Int} {tgt : Nat} {v : Int32} (hq : T.lookup pc = some (.if_icmp .lt o, 3, tgt, v)) (h : ¬ (x < y)) (kf : SW p l e R s m args below meth c nL A Rep fc fs S (pc + 3) lv rest E) : SW p l e R s m args below meth c nL A Rep fc fs S pc lv (.int y :: .int x :: rest) E := by
  obtain ⟨hx, hb, hml, hown, hts, hT, hr, hlocks⟩ := C0
  obtain ⟨hd, ht⟩ := zok_jmp (hT.at hq) (Or.inr ⟨_, rfl⟩)
  exact sw_W kf (fun H locs cells slots ls h5 k => lv_icmp_lt hx hb hd ht (fun h' => absurd h' h) (fun _ => k h5))
theorem sw_icmp_lt {ρ : Type} (F : ρ → σ × Option Value) {r1 r2 : ρ} (C0 : zC p s m args meth c cc nL own Ts T ret) {x y : Int32} {o : Int} {tgt : Nat} {v : Int32} (hq : T.lookup pc = some (.if_icmp .lt o, 3, tgt, v)) (kt : x < y → SW p l e R s m args below meth c nL A Rep fc fs S tgt lv rest (F r1)) (kf : ¬ (x < y) → SW p l e R s m args below meth c nL A Rep fc fs S (pc + 3) lv rest (F r2)) : SW p l e R s m args below meth c nL A Rep fc fs S pc lv (.int y :: .int x :: rest) (F (if x < y then r1 else r2)) :=
  sw_if F (fun h => sw_icmp_ltT C0 hq h (kt h)) (fun h => sw_icmp_ltF C0 hq h (kf h))
theorem so_icmp_lt {ρ : Type} {F : ρ → σ × Option Value} {r1 r2 : Option ρ} (C0 : zC p s m args meth c cc nL own Ts T ret) {x y : Int32} {o : Int} {tgt : Nat} {v : Int32} (hq : T.lookup pc = some (.if_icmp .lt o, 3, tgt, v)) (kt : x < y → SO p l e R s m args below meth c nL A Rep fc fs S tgt lv rest F r1) (kf : ¬ (x < y) → SO p l e R s m args below meth c nL A Rep fc fs S (pc + 3) lv rest F r2) : SO p l e R s m args below meth c nL A Rep fc fs S pc lv (.int y :: .int x :: rest) F (if x < y then r1 else r2) := by
  intro r hr
  by_cases h : x < y
  · rw [if_pos h] at hr
    exact sw_icmp_ltT C0 hq h (kt h r hr)
  · rw [if_neg h] at hr
    exact sw_icmp_ltF C0 hq h (kf h r hr)
theorem so_icmp_ltT {ρ : Type} {F : ρ → σ × Option Value} {w : Option ρ} (C0 : zC p s m args meth c cc nL own Ts T ret) {x y : Int32} {o : Int} {tgt : Nat} {v : Int32} (hq : T.lookup pc = some (.if_icmp .lt o, 3, tgt, v)) (h : x < y) (kt : SO p l e R s m args below meth c nL A Rep fc fs S tgt lv rest F w) : SO p l e R s m args below meth c nL A Rep fc fs S pc lv (.int y :: .int x :: rest) F w := fun r hr => sw_icmp_ltT C0 hq h (kt r hr)
theorem so_icmp_ltF {ρ : Type} {F : ρ → σ × Option Value} {w : Option ρ} (C0 : zC p s m args meth c cc nL own Ts T ret) {x y : Int32} {o : Int} {tgt : Nat} {v : Int32} (hq : T.lookup pc = some (.if_icmp .lt o, 3, tgt, v)) (h : ¬ (x < y)) (kf : SO p l e R s m args below meth c nL A Rep fc fs S (pc + 3) lv rest F w) : SO p l e R s m args below meth c nL A Rep fc fs S pc lv (.int y :: .int x :: rest) F w := fun r hr => sw_icmp_ltF C0 hq h (kf r hr)
theorem sw_icmp_geT (C0 : zC p s m args meth c cc nL own Ts T ret) {x y : Int32} {o : Int} {tgt : Nat} {v : Int32} (hq : T.lookup pc = some (.if_icmp .ge o, 3, tgt, v)) (h : y ≤ x) (kt : SW p l e R s m args below meth c nL A Rep fc fs S tgt lv rest E) : SW p l e R s m args below meth c nL A Rep fc fs S pc lv (.int y :: .int x :: rest) E := by
  obtain ⟨hx, hb, hml, hown, hts, hT, hr, hlocks⟩ := C0
  obtain ⟨hd, ht⟩ := zok_jmp (hT.at hq) (Or.inr ⟨_, rfl⟩)
  exact sw_W kt (fun H locs cells slots ls h5 k => lv_icmp_ge hx hb hd ht (fun _ => k h5) (fun h' => absurd h h'))
theorem sw_icmp_geF (C0 : zC p s m args meth c cc nL own Ts T ret) {x y : Int32} {o : Int} {tgt : Nat} {v : Int32} (hq : T.lookup pc = some (.if_icmp .ge o, 3, tgt, v)) (h : ¬ (y ≤ x)) (kf : SW p l e R s m args below meth c nL A Rep fc fs S (pc + 3) lv rest E) : SW p l e R s m args below meth c nL A Rep fc fs S pc lv (.int y :: .int x :: rest) E := by
  obtain ⟨hx, hb, hml, hown, hts, hT, hr, hlocks⟩ := C0
  obtain ⟨hd, ht⟩ := zok_jmp (hT.at hq) (Or.inr ⟨_, rfl⟩)
  exact sw_W kf (fun H locs cells slots ls h5 k => lv_icmp_ge hx hb hd ht (fun h' => absurd h' h) (fun _ => k h5))
theorem sw_icmp_ge {ρ : Type} (F : ρ → σ × Option Value) {r1 r2 : ρ} (C0 : zC p s m args meth c cc nL own Ts T ret) {x y : Int32} {o : Int} {tgt : Nat} {v : Int32} (hq : T.lookup pc = some (.if_icmp .ge o, 3, tgt, v)) (kt : y ≤ x → SW p l e R s m args below meth c nL A Rep fc fs S tgt lv rest (F r1)) (kf : ¬ (y ≤ x) → SW p l e R s m args below meth c nL A Rep fc fs S (pc + 3) lv rest (F r2)) : SW p l e R s m args below meth c nL A Rep fc fs S pc lv (.int y :: .int x :: rest) (F (if y ≤ x then r1 else r2)) :=
  sw_if F (fun h => sw_icmp_geT C0 hq h (kt h)) (fun h => sw_icmp_geF C0 hq h (kf h))
theorem so_icmp_ge {ρ : Type} {F : ρ → σ × Option Value} {r1 r2 : Option ρ} (C0 : zC p s m args meth c cc nL own Ts T ret) {x y : Int32} {o : Int} {tgt : Nat} {v : Int32} (hq : T.lookup pc = some (.if_icmp .ge o, 3, tgt, v)) (kt : y ≤ x → SO p l e R s m args below meth c nL A Rep fc fs S tgt lv rest F r1) (kf : ¬ (y ≤ x) → SO p l e R s m args below meth c nL A Rep fc fs S (pc + 3) lv rest F r2) : SO p l e R s m args below meth c nL A Rep fc fs S pc lv (.int y :: .int x :: rest) F (if y ≤ x then r1 else r2) := by
  intro r hr
  by_cases h : y ≤ x
  · rw [if_pos h] at hr
    exact sw_icmp_geT C0 hq h (kt h r hr)
  · rw [if_neg h] at hr
    exact sw_icmp_geF C0 hq h (kf h r hr)
theorem so_icmp_geT {ρ : Type} {F : ρ → σ × Option Value} {w : Option ρ} (C0 : zC p s m args meth c cc nL own Ts T ret) {x y : Int32} {o : Int} {tgt : Nat} {v : Int32} (hq : T.lookup pc = some (.if_icmp .ge o, 3, tgt, v)) (h : y ≤ x) (kt : SO p l e R s m args below meth c nL A Rep fc fs S tgt lv rest F w) : SO p l e R s m args below meth c nL A Rep fc fs S pc lv (.int y :: .int x :: rest) F w := fun r hr => sw_icmp_geT C0 hq h (kt r hr)
theorem so_icmp_geF {ρ : Type} {F : ρ → σ × Option Value} {w : Option ρ} (C0 : zC p s m args meth c cc nL own Ts T ret) {x y : Int32} {o : Int} {tgt : Nat} {v : Int32} (hq : T.lookup pc = some (.if_icmp .ge o, 3, tgt, v)) (h : ¬ (y ≤ x)) (kf : SO p l e R s m args below meth c nL A Rep fc fs S (pc + 3) lv rest F w) : SO p l e R s m args below meth c nL A Rep fc fs S pc lv (.int y :: .int x :: rest) F w := fun r hr => sw_icmp_geF C0 hq h (kf r hr)
theorem sw_icmp_gtT (C0 : zC p s m args meth c cc nL own Ts T ret) {x y : Int32} {o : Int} {tgt : Nat} {v : Int32} (hq : T.lookup pc = some (.if_icmp .gt o, 3, tgt, v)) (h : y < x) (kt : SW p l e R s m args below meth c nL A Rep fc fs S tgt lv rest E) : SW p l e R s m args below meth c nL A Rep fc fs S pc lv (.int y :: .int x :: rest) E := by
  obtain ⟨hx, hb, hml, hown, hts, hT, hr, hlocks⟩ := C0
  obtain ⟨hd, ht⟩ := zok_jmp (hT.at hq) (Or.inr ⟨_, rfl⟩)
  exact sw_W kt (fun H locs cells slots ls h5 k => lv_icmp_gt hx hb hd ht (fun _ => k h5) (fun h' => absurd h h'))
theorem sw_icmp_gtF (C0 : zC p s m args meth c cc nL own Ts T ret) {x y : Int32} {o : Int} {tgt : Nat} {v : Int32} (hq : T.lookup pc = some (.if_icmp .gt o, 3, tgt, v)) (h : ¬ (y < x)) (kf : SW p l e R s m args below meth c nL A Rep fc fs S (pc + 3) lv rest E) : SW p l e R s m args below meth c nL A Rep fc fs S pc lv (.int y :: .int x :: rest) E := by
  obtain ⟨hx, hb, hml, hown, hts, hT, hr, hlocks⟩ := C0
  obtain ⟨hd, ht⟩ := zok_jmp (hT.at hq) (Or.inr ⟨_, rfl⟩)
  exact sw_W kf (fun H locs cells slots ls h5 k => lv_icmp_gt hx hb hd ht (fun h' => absurd h' h) (fun _ => k h5))
theorem sw_icmp_gt {ρ : Type} (F : ρ → σ × Option Value) {r1 r2 : ρ} (C0 : zC p s m args meth c cc nL own Ts T ret) {x y : Int32} {o : Int} {tgt : Nat} {v : Int32} (hq : T.lookup pc = some (.if_icmp .gt o, 3, tgt, v)) (kt : y < x → SW p l e R s m args below meth c nL A Rep fc fs S tgt lv rest (F r1)) (kf : ¬ (y < x) → SW p l e R s m args below meth c nL A Rep fc fs S (pc + 3) lv rest (F r2)) : SW p l e R s m args below meth c nL A Rep fc fs S pc lv (.int y :: .int x :: rest) (F (if y < x then r1 else r2)) :=
  sw_if F (fun h => sw_icmp_gtT C0 hq h (kt h)) (fun h => sw_icmp_gtF C0 hq h (kf h))
theorem so_icmp_gt {ρ : Type} {F : ρ → σ × Option Value} {r1 r2 : Option ρ} (C0 : zC p s m args meth c cc nL own Ts T ret) {x y : Int32} {o : Int} {tgt : Nat} {v : Int32} (hq : T.lookup pc = some (.if_icmp .gt o, 3, tgt, v)) (kt : y < x → SO p l e R s m args below meth c nL A Rep fc fs S tgt lv rest F r1) (kf : ¬ (y < x) → SO p l e R s m args below meth c nL A Rep fc fs S (pc + 3) lv rest F r2) : SO p l e R s m args below meth c nL A Rep fc fs S pc lv (.int y :: .int x :: rest) F (if y < x then r1 else r2) := by
  intro r hr
  by_cases h : y < x
  · rw [if_pos h] at hr
    exact sw_icmp_gtT C0 hq h (kt h r hr)
  · rw [if_neg h] at hr
    exact sw_icmp_gtF C0 hq h (kf h r hr)
theorem so_icmp_gtT {ρ : Type} {F : ρ → σ × Option Value} {w : Option ρ} (C0 : zC p s m args meth c cc nL own Ts T ret) {x y : Int32} {o : Int} {tgt : Nat} {v : Int32} (hq : T.lookup pc = some (.if_icmp .gt o, 3, tgt, v)) (h : y < x) (kt : SO p l e R s m args below meth c nL A Rep fc fs S tgt lv rest F w) : SO p l e R s m args below meth c nL A Rep fc fs S pc lv (.int y :: .int x :: rest) F w := fun r hr => sw_icmp_gtT C0 hq h (kt r hr)
theorem so_icmp_gtF {ρ : Type} {F : ρ → σ × Option Value} {w : Option ρ} (C0 : zC p s m args meth c cc nL own Ts T ret) {x y : Int32} {o : Int} {tgt : Nat} {v : Int32} (hq : T.lookup pc = some (.if_icmp .gt o, 3, tgt, v)) (h : ¬ (y < x)) (kf : SO p l e R s m args below meth c nL A Rep fc fs S (pc + 3) lv rest F w) : SO p l e R s m args below meth c nL A Rep fc fs S pc lv (.int y :: .int x :: rest) F w := fun r hr => sw_icmp_gtF C0 hq h (kf r hr)
theorem sw_icmp_leT (C0 : zC p s m args meth c cc nL own Ts T ret) {x y : Int32} {o : Int} {tgt : Nat} {v : Int32} (hq : T.lookup pc = some (.if_icmp .le o, 3, tgt, v)) (h : x ≤ y) (kt : SW p l e R s m args below meth c nL A Rep fc fs S tgt lv rest E) : SW p l e R s m args below meth c nL A Rep fc fs S pc lv (.int y :: .int x :: rest) E := by
  obtain ⟨hx, hb, hml, hown, hts, hT, hr, hlocks⟩ := C0
  obtain ⟨hd, ht⟩ := zok_jmp (hT.at hq) (Or.inr ⟨_, rfl⟩)
  exact sw_W kt (fun H locs cells slots ls h5 k => lv_icmp_le hx hb hd ht (fun _ => k h5) (fun h' => absurd h h'))
theorem sw_icmp_leF (C0 : zC p s m args meth c cc nL own Ts T ret) {x y : Int32} {o : Int} {tgt : Nat} {v : Int32} (hq : T.lookup pc = some (.if_icmp .le o, 3, tgt, v)) (h : ¬ (x ≤ y)) (kf : SW p l e R s m args below meth c nL A Rep fc fs S (pc + 3) lv rest E) : SW p l e R s m args below meth c nL A Rep fc fs S pc lv (.int y :: .int x :: rest) E := by
  obtain ⟨hx, hb, hml, hown, hts, hT, hr, hlocks⟩ := C0
  obtain ⟨hd, ht⟩ := zok_jmp (hT.at hq) (Or.inr ⟨_, rfl⟩)
  exact sw_W kf (fun H locs cells slots ls h5 k => lv_icmp_le hx hb hd ht (fun h' => absurd h' h) (fun _ => k h5))
theorem sw_icmp_le {ρ : Type} (F : ρ → σ × Option Value) {r1 r2 : ρ} (C0 : zC p s m args meth c cc nL own Ts T ret) {x y : Int32} {o : Int} {tgt : Nat} {v : Int32} (hq : T.lookup pc = some (.if_icmp .le o, 3, tgt, v)) (kt : x ≤ y → SW p l e R s m args below meth c nL A Rep fc fs S tgt lv rest (F r1)) (kf : ¬ (x ≤ y) → SW p l e R s m args below meth c nL A Rep fc fs S (pc + 3) lv rest (F r2)) : SW p l e R s m args below meth c nL A Rep fc fs S pc lv (.int y :: .int x :: rest) (F (if x ≤ y then r1 else r2)) :=
  sw_if F (fun h => sw_icmp_leT C0 hq h (kt h)) (fun h => sw_icmp_leF C0 hq h (kf h))
theorem so_icmp_le {ρ : Type} {F : ρ → σ × Option Value} {r1 r2 : Option ρ} (C0 : zC p s m args meth c cc nL own Ts T ret) {x y : Int32} {o : Int} {tgt : Nat} {v : Int32} (hq : T.lookup pc = some (.if_icmp .le o, 3, tgt, v)) (kt : x ≤ y → SO p l e R s m args below meth c nL A Rep fc fs S tgt lv rest F r1) (kf : ¬ (x ≤ y) → SO p l e R s m args below meth c nL A Rep fc fs S (pc + 3) lv rest F r2) : SO p l e R s m args below meth c nL A Rep fc fs S pc lv (.int y :: .int x :: rest) F (if x ≤ y then r1 else r2) := by
  intro r hr
  by_cases h : x ≤ y
  · rw [if_pos h] at hr
    exact sw_icmp_leT C0 hq h (kt h r hr)
  · rw [if_neg h] at hr
    exact sw_icmp_leF C0 hq h (kf h r hr)
theorem so_icmp_leT {ρ : Type} {F : ρ → σ × Option Value} {w : Option ρ} (C0 : zC p s m args meth c cc nL own Ts T ret) {x y : Int32} {o : Int} {tgt : Nat} {v : Int32} (hq : T.lookup pc = some (.if_icmp .le o, 3, tgt, v)) (h : x ≤ y) (kt : SO p l e R s m args below meth c nL A Rep fc fs S tgt lv rest F w) : SO p l e R s m args below meth c nL A Rep fc fs S pc lv (.int y :: .int x :: rest) F w := fun r hr => sw_icmp_leT C0 hq h (kt r hr)
theorem so_icmp_leF {ρ : Type} {F : ρ → σ × Option Value} {w : Option ρ} (C0 : zC p s m args meth c cc nL own Ts T ret) {x y : Int32} {o : Int} {tgt : Nat} {v : Int32} (hq : T.lookup pc = some (.if_icmp .le o, 3, tgt, v)) (h : ¬ (x ≤ y)) (kf : SO p l e R s m args below meth c nL A Rep fc fs S (pc + 3) lv rest F w) : SO p l e R s m args below meth c nL A Rep fc fs S pc lv (.int y :: .int x :: rest) F w := fun r hr => sw_icmp_leF C0 hq h (kf r hr)
theorem sw_if_eqT (C0 : zC p s m args meth c cc nL own Ts T ret) {x : Int32} {o : Int} {tgt : Nat} {v : Int32} (hq : T.lookup pc = some (.ifCond .eq o, 3, tgt, v)) (h : x = 0) (kt : SW p l e R s m args below meth c nL A Rep fc fs S tgt lv rest E) : SW p l e R s m args below meth c nL A Rep fc fs S pc lv (.int x :: rest) E := by
  obtain ⟨hx, hb, hml, hown, hts, hT, hr, hlocks⟩ := C0
  obtain ⟨hd, ht⟩ := zok_jmp (hT.at hq) (Or.inl ⟨_, rfl⟩)
  exact sw_W kt (fun H locs cells slots ls h5 k => lv_if_eq hx hb hd ht (fun _ => k h5) (fun h' => absurd h h'))
theorem sw_if_eqF (C0 : zC p s m args meth c cc nL own Ts T ret) {x : Int32} {o : Int} {tgt : Nat} {v : Int32} (hq : T.lookup pc = some (.ifCond .eq o, 3, tgt, v)) (h : ¬ (x = 0)) (kf : SW p l e R s m args below meth c nL A Rep fc fs S (pc + 3) lv rest E) : SW p l e R s m args below meth c nL A Rep fc fs S pc lv (.int x :: rest) E := by
  obtain ⟨hx, hb, hml, hown, hts, hT, hr, hlocks⟩ := C0
  obtain ⟨hd, ht⟩ := zok_jmp (hT.at hq) (Or.inl ⟨_, rfl⟩)
  exact sw_W kf (fun H locs cells slots ls h5 k => lv_if_eq hx hb hd ht (fun h' => absurd h' h) (fun _ => k h5))
theorem sw_if_eq {ρ : Type} (F : ρ → σ × Option Value) {r1 r2 : ρ} (C0 : zC p s m args meth c cc nL own Ts T ret) {x : Int32} {o : Int} {tgt : Nat} {v : Int32} (hq : T.lookup pc = some (.ifCond .eq o, 3, tgt, v)) (kt : x = 0 → SW p l e R s m args below meth c nL A Rep fc fs S tgt lv rest (F r1)) (kf : ¬ (x = 0) → SW p l e R s m args below meth c nL A Rep fc fs S (pc + 3) lv rest (F r2)) : SW p l e R s m args below meth c nL A Rep fc fs S pc lv (.int x :: rest) (F (if x = 0 then r1 else r2)) :=
  sw_if F (fun h => sw_if_eqT C0 hq h (kt h)) (fun h => sw_if_eqF C0 hq h (kf h))
theorem so_if_eq {ρ : Type} {F : ρ → σ × Option Value} {r1 r2 : Option ρ} (C0 : zC p s m args meth c cc nL own Ts T ret) {x : Int32} {o : Int} {tgt : Nat} {v : Int32} (hq : T.lookup pc = some (.ifCond .eq o, 3, tgt, v)) (kt : x = 0 → SO p l e R s m args below meth c nL A Rep fc fs S tgt lv rest F r1) (kf : ¬ (x = 0) → SO p l e R s m args below meth c nL A Rep fc fs S (pc + 3) lv rest F r2) : SO p l e R s m args below meth c nL A Rep fc fs S pc lv (.int x :: rest) F (if x = 0 then r1 else r2) := by
  intro r hr
  by_cases h : x = 0
  · rw [if_pos h] at hr
    exact sw_if_eqT C0 hq h (kt h r hr)
  · rw [if_neg h] at hr
    exact sw_if_eqF C0 hq h (kf h r hr)
theorem so_if_eqT {ρ : Type} {F : ρ → σ × Option Value} {w : Option ρ} (C0 : zC p s m args meth c cc nL own Ts T ret) {x : Int32} {o : Int} {tgt : Nat} {v : Int32} (hq : T.lookup pc = some (.ifCond .eq o, 3, tgt, v)) (h : x = 0) (kt : SO p l e R s m args below meth c nL A Rep fc fs S tgt lv rest F w) : SO p l e R s m args below meth c nL A Rep fc fs S pc lv (.int x :: rest) F w := fun r hr => sw_if_eqT C0 hq h (kt r hr)
theorem so_if_eqF {ρ : Type} {F : ρ → σ × Option Value} {w : Option ρ} (C0 : zC p s m args meth c cc nL own Ts T ret) {x : Int32} {o : Int} {tgt : Nat} {v : Int32} (hq : T.lookup pc = some (.ifCond .eq o, 3, tgt, v)) (h : ¬ (x = 0)) (kf : SO p l e R s m args below meth c nL A Rep fc fs S (pc + 3) lv rest F w) : SO p l e R s m args below meth c nL A Rep fc fs S pc lv (.int x :: rest) F w := fun r hr => sw_if_eqF C0 hq h (kf r hr)
theorem sw_if_neT (C0 : zC p s m args meth c cc nL own Ts T ret) {x : Int32} {o : Int} {tgt : Nat} {v : Int32} (hq : T.lookup pc = some (.ifCond .ne o, 3, tgt, v)) (h : ¬ x = 0) (kt : SW p l e R s m args below meth c nL A Rep fc fs S tgt lv rest E) : SW p l e R s m args below meth c nL A Rep fc fs S pc lv (.int x :: rest) E := by
  obtain ⟨hx, hb, hml, hown, hts, hT, hr, hlocks⟩ := C0
  obtain ⟨hd, ht⟩ := zok_jmp (hT.at hq) (Or.inl ⟨_, rfl⟩)
  exact sw_W kt (fun H locs cells slots ls h5 k => lv_if_ne hx hb hd ht (fun _ => k h5) (fun h' => absurd h' h))
theorem sw_if_neF (C0 : zC p s m args meth c cc nL own Ts T ret) {x : Int32} {o : Int} {tgt : Nat} {v : Int32} (hq : T.lookup pc = some (.ifCond .ne o, 3, tgt, v)) (h : ¬ (¬ x = 0)) (kf : SW p l e R s m args below meth c nL A Rep fc fs S (pc + 3) lv rest E) : SW p l e R s m args below meth c nL A Rep fc fs S pc lv (.int x :: rest) E := by
  obtain ⟨hx, hb, hml, hown, hts, hT, hr, hlocks⟩ := C0
  obtain ⟨hd, ht⟩ := zok_jmp (hT.at hq) (Or.inl ⟨_, rfl⟩)
  exact sw_W kf (fun H locs cells slots ls h5 k => lv_if_ne hx hb hd ht (fun h' => absurd h' h) (fun _ => k h5))
theorem sw_if_ne {ρ : Type} (F : ρ → σ × Option Value) {r1 r2 : ρ} (C0 : zC p s m args meth c cc nL own Ts T ret) {x : Int32} {o : Int} {tgt : Nat} {v : Int32} (hq : T.lookup pc = some (.ifCond .ne o, 3, tgt, v)) (kt : ¬ x = 0 → SW p l e R s m args below meth c nL A Rep fc fs S tgt lv rest (F r1)) (kf : ¬ (¬ x = 0) → SW p l e R s m args below meth c nL A Rep fc fs S (pc + 3) lv rest (F r2)) : SW p l e R s m args below meth c nL A Rep fc fs S pc lv (.int x :: rest) (F (if ¬ x = 0 then r1 else r2)) :=
  sw_if F (fun h => sw_if_neT C0 hq h (kt h)) (fun h => sw_if_neF C0 hq h (kf h))
theorem so_if_ne {ρ : Type} {F : ρ → σ × Option Value} {r1 r2 : Option ρ} (C0 : zC p s m args meth c cc nL own Ts T ret) {x : Int32} {o : Int} {tgt : Nat} {v : Int32} (hq : T.lookup pc = some (.ifCond .ne o, 3, tgt, v)) (kt : ¬ x = 0 → SO p l e R s m args below meth c nL A Rep fc fs S tgt lv rest F r1) (kf : ¬ (¬ x = 0) → SO p l e R s m args below meth c nL A Rep fc fs S (pc + 3) lv rest F r2) : SO p l e R s m args below meth c nL A Rep fc fs S pc lv (.int x :: rest) F (if ¬ x = 0 then r1 else r2) := by
  intro r hr
  by_cases h : ¬ x = 0
  · rw [if_pos h] at hr
    exact sw_if_neT C0 hq h (kt h r hr)
  · rw [if_neg h] at hr
    exact sw_if_neF C0 hq h (kf h r hr)
theorem so_if_neT {ρ : Type} {F : ρ → σ × Option Value} {w : Option ρ} (C0 : zC p s m args meth c cc nL own Ts T ret) {x : Int32} {o : Int} {tgt : Nat} {v : Int32} (hq : T.lookup pc = some (.ifCond .ne o, 3, tgt, v)) (h : ¬ x = 0) (kt : SO p l e R s m args below meth c nL A Rep fc fs S tgt lv rest F w) : SO p l e R s m args below meth c nL A Rep fc fs S pc lv (.int x :: rest) F w := fun r hr => sw_if_neT C0 hq h (kt r hr)
theorem so_if_neF {ρ : Type} {F : ρ → σ × Option Value} {w : Option ρ} (C0 : zC p s m args meth c cc nL own Ts T ret) {x : Int32} {o : Int} {tgt : Nat} {v : Int32} (hq : T.lookup pc = some (.ifCond .ne o, 3, tgt, v)) (h : ¬ (¬ x = 0)) (kf : SO p l e R s m args below meth c nL A Rep fc fs S (pc + 3) lv rest F w) : SO p l e R s m args below meth c nL A Rep fc fs S pc lv (.int x :: rest) F w := fun r hr => sw_if_neF C0 hq h (kf r hr)
theorem sw_if_ltT (C0 : zC p s m args meth c cc nL own Ts T ret) {x : Int32} {o : Int} {tgt : Nat} {v : Int32} (hq : T.lookup pc = some (.ifCond .lt o, 3, tgt, v)) (h : x < 0) (kt : SW p l e R s m args below meth c nL A Rep fc fs S tgt lv rest E) : SW p l e R s m args below meth c nL A Rep fc fs S pc lv (.int x :: rest) E := by
  obtain ⟨hx, hb, hml, hown, hts, hT, hr, hlocks⟩ := C0
  obtain ⟨hd, ht⟩ := zok_jmp (hT.at hq) (Or.inl ⟨_, rfl⟩)
  exact sw_W kt (fun H locs cells slots ls h5 k => lv_if_lt hx hb hd ht (fun _ => k h5) (fun h' => absurd h h'))
theorem sw_if_ltF (C0 : zC p s m args meth c cc nL own Ts T ret) {x : Int32} {o : Int} {tgt : Nat} {v : Int32} (hq : T.lookup pc = some (.ifCond .lt o, 3, tgt, v)) (h : ¬ (x < 0)) (kf : SW p l e R s m args below meth c nL A Rep fc fs S (pc + 3) lv rest E) : SW p l e R s m args below meth c nL A Rep fc fs S pc lv (.int x :: rest) E := by
  obtain ⟨hx, hb, hml, hown, hts, hT, hr, hlocks⟩ := C0
  obtain ⟨hd, ht⟩ := zok_jmp (hT.at hq) (Or.inl ⟨_, rfl⟩)
  exact sw_W kf (fun H locs cells slots ls h5 k => lv_if_lt hx hb hd ht (fun h' => absurd h' h) (fun _ => k h5))
theorem sw_if_lt {ρ : Type} (F : ρ → σ × Option Value) {r1 r2 : ρ} (C0 : zC p s m args meth c cc nL own Ts T ret) {x : Int32} {o : Int} {tgt : Nat} {v : Int32} (hq : T.lookup pc = some (.ifCond .lt o, 3, tgt, v)) (kt : x < 0 → SW p l e R s m args below meth c nL A Rep fc fs S tgt lv rest (F r1)) (kf : ¬ (x < 0) → SW p l e R s m args below meth c nL A Rep fc fs S (pc + 3) lv rest (F r2)) : SW p l e R s m args below meth c nL A Rep fc fs S pc lv (.int x :: rest) (F (if x < 0 then r1 else r2)) :=
  sw_if F (fun h => sw_if_ltT C0 hq h (kt h)) (fun h => sw_if_ltF C0 hq h (kf h))
theorem so_if_lt {ρ : Type} {F : ρ → σ × Option Value} {r1 r2 : Option ρ} (C0 : zC p s m args meth c cc nL own Ts T ret) {x : Int32} {o : Int} {tgt : Nat} {v : Int32} (hq : T.lookup pc = some (.ifCond .lt o, 3, tgt, v)) (kt : x < 0 → SO p l e R s m args below meth c nL A Rep fc fs S tgt lv rest F r1) (kf : ¬ (x < 0) → SO p l e R s m args below meth c nL A Rep fc fs S (pc + 3) lv rest F r2) : SO p l e R s m args below meth c nL A Rep fc fs S pc lv (.int x :: rest) F (if x < 0 then r1 else r2) := by
  intro r hr
  by_cases h : x < 0
  · rw [if_pos h] at hr
    exact sw_if_ltT C0 hq h (kt h r hr)
  · rw [if_neg h] at hr
    exact sw_if_ltF C0 hq h (kf h r hr)
theorem so_if_ltT {ρ : Type} {F : ρ → σ × Option Value} {w : Option ρ} (C0 : zC p s m args meth c cc nL own Ts T ret) {x : Int32} {o : Int} {tgt : Nat} {v : Int32} (hq : T.lookup pc = some (.ifCond .lt o, 3, tgt, v)) (h : x < 0) (kt : SO p l e R s m args below meth c nL A Rep fc fs S tgt lv rest F w) : SO p l e R s m args below meth c nL A Rep fc fs S pc lv (.int x :: rest) F w := fun r hr => sw_if_ltT C0 hq h (kt r hr)
theorem so_if_ltF {ρ : Type} {F : ρ → σ × Option Value} {w : Option ρ} (C0 : zC p s m args meth c cc nL own Ts T ret) {x : Int32} {o : Int} {tgt : Nat} {v : Int32} (hq : T.lookup pc = some (.ifCond .lt o, 3, tgt, v)) (h : ¬ (x < 0)) (kf : SO p l e R s m args below meth c nL A Rep fc fs S (pc + 3) lv rest F w) : SO p l e R s m args below meth c nL A Rep fc fs S pc lv (.int x :: rest) F w := fun r hr => sw_if_ltF C0 hq h (kf r hr)
theorem sw_if_geT (C0 : zC p s m args meth c cc nL own Ts T ret) {x : Int32} {o : Int} {tgt : Nat} {v : Int32} (hq : T.lookup pc = some (.ifCond .ge o, 3, tgt, v)) (h : 0 ≤ x) (kt : SW p l e R s m args below meth c nL A Rep fc fs S tgt lv rest E) : SW p l e R s m args below meth c nL A Rep fc fs S pc lv (.int x :: rest) E := by
  obtain ⟨hx, hb, hml, hown, hts, hT, hr, hlocks⟩ := C0
  obtain ⟨hd, ht⟩ := zok_jmp (hT.at hq) (Or.inl ⟨_, rfl⟩)
  exact sw_W kt (fun H locs cells slots ls h5 k => lv_if_ge hx hb hd ht (fun _ => k h5) (fun h' => absurd h h'))
theorem sw_if_geF (C0 : zC p s m args meth c cc nL own Ts T ret) {x : Int32} {o : Int} {tgt : Nat} {v : Int32} (hq : T.lookup pc = some (.ifCond .ge o, 3, tgt, v)) (h : ¬ (0 ≤ x)) (kf : SW p l e R s m args below meth c nL A Rep fc fs S (pc + 3) lv rest E) : SW p l e R s m args below meth c nL A Rep fc fs S pc lv (.int x :: rest) E := by
  obtain ⟨hx, hb, hml, hown, hts, hT, hr, hlocks⟩ := C0
  obtain ⟨hd, ht⟩ := zok_jmp (hT.at hq) (Or.inl ⟨_, rfl⟩)
  exact sw_W kf (fun H locs cells slots ls h5 k => lv_if_ge hx hb hd ht (fun h' => absurd h' h) (fun _ => k h5))
theorem sw_if_ge {ρ : Type} (F : ρ → σ × Option Value) {r1 r2 : ρ} (C0 : zC p s m args meth c cc nL own Ts T ret) {x : Int32} {o : Int} {tgt : Nat} {v : Int32} (hq : T.lookup pc = some (.ifCond .ge o, 3, tgt, v)) (kt : 0 ≤ x → SW p l e R s m args below meth c nL A Rep fc fs S tgt lv rest (F r1)) (kf : ¬ (0 ≤ x) → SW p l e R s m args below meth c nL A Rep fc fs S (pc + 3) lv rest (F r2)) : SW p l e R s m args below meth c nL A Rep fc fs S pc lv (.int x :: rest) (F (if 0 ≤ x then r1 else r2)) :=
  sw_if F (fun h => sw_if_geT C0 hq h (kt h)) (fun h => sw_if_geF C0 hq h (kf h))
theorem so_if_ge {ρ : Type} {F : ρ → σ × Option Value} {r1 r2 : Option ρ} (C0 : zC p s m args meth c cc nL own Ts T ret) {x : Int32} {o : Int} {tgt : Nat} {v : Int32} (hq : T.lookup pc = some (.ifCond .ge o, 3, tgt, v)) (kt : 0 ≤ x → SO p l e R s m args below meth c nL A Rep fc fs S tgt lv rest F r1) (kf : ¬ (0 ≤ x) → SO p l e R s m args below meth c nL A Rep fc fs S (pc + 3) lv rest F r2) : SO p l e R s m args below meth c nL A Rep fc fs S pc lv (.int x :: rest) F (if 0 ≤ x then r1 else r2) := by
  intro r hr
  by_cases h : 0 ≤ x
  · rw [if_pos h] at hr
    exact sw_if_geT C0 hq h (kt h r hr)
  · rw [if_neg h] at hr
    exact sw_if_geF C0 hq h (kf h r hr)
theorem so_if_geT {ρ : Type} {F : ρ → σ × Option Value} {w : Option ρ} (C0 : zC p s m args meth c cc nL own Ts T ret) {x : Int32} {o : Int} {tgt : Nat} {v : Int32} (hq : T.lookup pc = some (.ifCond .ge o, 3, tgt, v)) (h : 0 ≤ x) (kt : SO p l e R s m args below meth c nL A Rep fc fs S tgt lv rest F w) : SO p l e R s m args below meth c nL A Rep fc fs S pc lv (.int x :: rest) F w := fun r hr => sw_if_geT C0 hq h (kt r hr)
theorem so_if_geF {ρ : Type} {F : ρ → σ × Option Value} {w : Option ρ} (C0 : zC p s m args meth c cc nL own Ts T ret) {x : Int32} {o : Int} {tgt : Nat} {v : Int32} (hq : T.lookup pc = some (.ifCond .ge o, 3, tgt, v)) (h : ¬ (0 ≤ x)) (kf : SO p l e R s m args below meth c nL A Rep fc fs S (pc + 3) lv rest F w) : SO p l e R s m args below meth c nL A Rep fc fs S pc lv (.int x :: rest) F w := fun r hr => sw_if_geF C0 hq h (kf r hr)
theorem sw_if_gtT (C0 : zC p s m args meth c cc nL own Ts T ret) {x : Int32} {o : Int} {tgt : Nat} {v : Int32} (hq : T.lookup pc = some (.ifCond .gt o, 3, tgt, v)) (h : 0 < x) (kt : SW p l e R s m args below meth c nL A Rep fc fs S tgt lv rest E) : SW p l e R s m args below meth c nL A Rep fc fs S pc lv (.int x :: rest) E := by
  obtain ⟨hx, hb, hml, hown, hts, hT, hr, hlocks⟩ := C0
  obtain ⟨hd, ht⟩ := zok_jmp (hT.at hq) (Or.inl ⟨_, rfl⟩)
  exact sw_W kt (fun H locs cells slots ls h5 k => lv_if_gt hx hb hd ht (fun _ => k h5) (fun h' => absurd h h'))
theorem sw_if_gtF (C0 : zC p s m args meth c cc nL own Ts T ret) {x : Int32} {o : Int} {tgt : Nat} {v : Int32} (hq : T.lookup pc = some (.ifCond .gt o, 3, tgt, v)) (h : ¬ (0 < x)) (kf : SW p l e R s m args below meth c nL A Rep fc fs S (pc + 3) lv rest E) : SW p l e R s m args below meth c nL A Rep fc fs S pc lv (.int x :: rest) E := by
  obtain ⟨hx, hb, hml, hown, hts, hT, hr, hlocks⟩ := C0
  obtain ⟨hd, ht⟩ := zok_jmp (hT.at hq) (Or.inl ⟨_, rfl⟩)
  exact sw_W kf (fun H locs cells slots ls h5 k => lv_if_gt hx hb hd ht (fun h' => absurd h' h) (fun _ => k h5))
theorem sw_if_gt {ρ : Type} (F : ρ → σ × Option Value) {r1 r2 : ρ} (C0 : zC p s m args meth c cc nL own Ts T ret) {x : Int32} {o : Int} {tgt : Nat} {v : Int32} (hq : T.lookup pc = some (.ifCond .gt o, 3, tgt, v)) (kt : 0 < x → SW p l e R s m args below meth c nL A Rep fc fs S tgt lv rest (F r1)) (kf : ¬ (0 < x) → SW p l e R s m args below meth c nL A Rep fc fs S (pc + 3) lv rest (F r2)) : SW p l e R s m args below meth c nL A Rep fc fs S pc lv (.int x :: rest) (F (if 0 < x then r1 else r2)) :=
  sw_if F (fun h => sw_if_gtT C0 hq h (kt h)) (fun h => sw_if_gtF C0 hq h (kf h))
theorem so_if_gt {ρ : Type} {F : ρ → σ × Option Value} {r1 r2 : Option ρ} (C0 : zC p s m args meth c cc nL own Ts T ret) {x : Int32} {o : Int} {tgt : Nat} {v : Int32} (hq : T.lookup pc = some (.ifCond .gt o, 3, tgt, v)) (kt : 0 < x → SO p l e R s m args below meth c nL A Rep fc fs S tgt lv rest F r1) (kf : ¬ (0 < x) → SO p l e R s m args below meth c nL A Rep fc fs S (pc + 3) lv rest F r2) : SO p l e R s m args below meth c nL A Rep fc fs S pc lv (.int x :: rest) F (if 0 < x then r1 else r2) := by
  intro r hr
  by_cases h : 0 < x
  · rw [if_pos h] at hr
    exact sw_if_gtT C0 hq h (kt h r hr)
  · rw [if_neg h] at hr
    exact sw_if_gtF C0 hq h (kf h r hr)
theorem so_if_gtT {ρ : Type} {F : ρ → σ × Option Value} {w : Option ρ} (C0 : zC p s m args meth c cc nL own Ts T ret) {x : Int32} {o : Int} {tgt : Nat} {v : Int32} (hq : T.lookup pc = some (.ifCond .gt o, 3, tgt, v)) (h : 0 < x) (kt : SO p l e R s m args below meth c nL A Rep fc fs S tgt lv rest F w) : SO p l e R s m args below meth c nL A Rep fc fs S pc lv (.int x :: rest) F w := fun r hr => sw_if_gtT C0 hq h (kt r hr)
theorem so_if_gtF {ρ : Type} {F : ρ → σ × Option Value} {w : Option ρ} (C0 : zC p s m args meth c cc nL own Ts T ret) {x : Int32} {o : Int} {tgt : Nat} {v : Int32} (hq : T.lookup pc = some (.ifCond .gt o, 3, tgt, v)) (h : ¬ (0 < x)) (kf : SO p l e R s m args below meth c nL A Rep fc fs S (pc + 3) lv rest F w) : SO p l e R s m args below meth c nL A Rep fc fs S pc lv (.int x :: rest) F w := fun r hr => sw_if_gtF C0 hq h (kf r hr)
theorem sw_if_leT (C0 : zC p s m args meth c cc nL own Ts T ret) {x : Int32} {o : Int} {tgt : Nat} {v : Int32} (hq : T.lookup pc = some (.ifCond .le o, 3, tgt, v)) (h : x ≤ 0) (kt : SW p l e R s m args below meth c nL A Rep fc fs S tgt lv rest E) : SW p l e R s m args below meth c nL A Rep fc fs S pc lv (.int x :: rest) E := by
  obtain ⟨hx, hb, hml, hown, hts, hT, hr, hlocks⟩ := C0
  obtain ⟨hd, ht⟩ := zok_jmp (hT.at hq) (Or.inl ⟨_, rfl⟩)
  exact sw_W kt (fun H locs cells slots ls h5 k => lv_if_le hx hb hd ht (fun _ => k h5) (fun h' => absurd h h'))
theorem sw_if_leF (C0 : zC p s m args meth c cc nL own Ts T ret) {x : Int32} {o : Int} {tgt : Nat} {v : Int32} (hq : T.lookup pc = some (.ifCond .le o, 3, tgt, v)) (h : ¬ (x ≤ 0)) (kf : SW p l e R s m args below meth c nL A Rep fc fs S (pc + 3) lv rest E) : SW p l e R s m args below meth c nL A Rep fc fs S pc lv (.int x :: rest) E := by
  obtain ⟨hx, hb, hml, hown, hts, hT, hr, hlocks⟩ := C0
  obtain ⟨hd, ht⟩ := zok_jmp (hT.at hq) (Or.inl ⟨_, rfl⟩)
  exact sw_W kf (fun H locs cells slots ls h5 k => lv_if_le hx hb hd ht (fun h' => absurd h' h) (fun _ => k h5))
theorem sw_if_le {ρ : Type} (F : ρ → σ × Option Value) {r1 r2 : ρ} (C0 : zC p s m args meth c cc nL own Ts T ret) {x : Int32} {o : Int} {tgt : Nat} {v : Int32} (hq : T.lookup pc = some (.ifCond .le o, 3, tgt, v)) (kt : x ≤ 0 → SW p l e R s m args below meth c nL A Rep fc fs S tgt lv rest (F r1)) (kf : ¬ (x ≤ 0) → SW p l e R s m args below meth c nL A Rep fc fs S (pc + 3) lv rest (F r2)) : SW p l e R s m args below meth c nL A Rep fc fs S pc lv (.int x :: rest) (F (if x ≤ 0 then r1 else r2)) :=
  sw_if F (fun h => sw_if_leT C0 hq h (kt h)) (fun h => sw_if_leF C0 hq h (kf h))
theorem so_if_le {ρ : Type} {F : ρ → σ × Option Value} {r1 r2 : Option ρ} (C0 : zC p s m args meth c cc nL own Ts T ret) {x : Int32} {o : Int} {tgt : Nat} {v : Int32} (hq : T.lookup pc = some (.ifCond .le o, 3, tgt, v)) (kt : x ≤ 0 → SO p l e R s m args below meth c nL A Rep fc fs S tgt lv rest F r1) (kf : ¬ (x ≤ 0) → SO p l e R s m args below meth c nL A Rep fc fs S (pc + 3) lv rest F r2) : SO p l e R s m args below meth c nL A Rep fc fs S pc lv (.int x :: rest) F (if x ≤ 0 then r1 else r2) := by
  intro r hr
  by_cases h : x ≤ 0
  · rw [if_pos h] at hr
    exact sw_if_leT C0 hq h (kt h r hr)
  · rw [if_neg h] at hr
    exact sw_if_leF C0 hq h (kf h r hr)
theorem so_if_leT {ρ : Type} {F : ρ → σ × Option Value} {w : Option ρ} (C0 : zC p s m args meth c cc nL own Ts T ret) {x : Int32} {o : Int} {tgt : Nat} {v : Int32} (hq : T.lookup pc = some (.ifCond .le o, 3, tgt, v)) (h : x ≤ 0) (kt : SO p l e R s m args below meth c nL A Rep fc fs S tgt lv rest F w) : SO p l e R s m args below meth c nL A Rep fc fs S pc lv (.int x :: rest) F w := fun r hr => sw_if_leT C0 hq h (kt r hr)
theorem so_if_leF {ρ : Type} {F : ρ → σ × Option Value} {w : Option ρ} (C0 : zC p s m args meth c cc nL own Ts T ret) {x : Int32} {o : Int} {tgt : Nat} {v : Int32} (hq : T.lookup pc = some (.ifCond .le o, 3, tgt, v)) (h : ¬ (x ≤ 0)) (kf : SO p l e R s m args below meth c nL A Rep fc fs S (pc + 3) lv rest F w) : SO p l e R s m args below meth c nL A Rep fc fs S pc lv (.int x :: rest) F w := fun r hr => sw_if_leF C0 hq h (kf r hr)
/-- a call -/
theorem sw_call {E' : σ × Option Value} {a : Array Value} (hm1 : fc S ≤ fc E'.1) (hm2 : fs S ≤ fs E'.1)
    (run : ∀ (H : Heap) (locs : List Loc) (cells slots : Nat) (ls : Array Slot), Rep S H → va_S A s.heap H locs → lv_has ls nL lv → cells + (fc E'.1 - fc S) ≤ R.cells → slots + (fs E'.1 - fs S) ≤ R.slots → va_Run p l e R s m args below meth c H locs cells slots (fc E'.1 - fc S) (fs E'.1 - fs S) (F0 m pc ls st) rest (zQ A Rep E' a) A)
    (k : SW p l e R s m args below meth c nL A Rep fc fs E'.1 (pc + 3) lv (E'.2.toList ++ rest) E) : SW p l e R s m args below meth c nL A Rep fc fs S pc lv st E := by
  obtain ⟨k1, k2, k3⟩ := k
  refine ⟨Nat.le_trans hm1 k1, Nat.le_trans hm2 k2, fun H locs cells slots ls h1 h2 h3 h4 h5 => ?_⟩
  intro T hT X
  obtain ⟨v, st₀, t, T', L, h0, X', hL, e1, e2, ⟨hv, hRep, hz, hk⟩, stp⟩ := run H locs cells slots ls h1 h2 h5 (by omega) (by omega) T hT X
  cases hv
  rw [h0] at hz hk
  obtain ⟨t2, a1, b1⟩ := k3 T'.heap (locs ++ L) (cells + (fc E'.1 - fc S)) (slots + (fs E'.1 - fs S)) ls (by rw [e1]; exact hRep)
    ⟨Nat.le_trans h2.1 (by rw [e1]; exact hz), fun q g1 g2 => by rw [e1, hk q (Nat.lt_of_lt_of_le g1 h2.1) g2]; exact h2.2.1 q g1 g2, fun q hq => by
      rcases List.mem_append.mp hq with h | h
      · exact h2.2.2 q h
      · exact hL q h⟩ (by omega) (by omega) h5 T' rfl X'
  exact ⟨t2, stp t2 a1, b1⟩
/-- the method's end -/
theorem sw_reti (C0 : zC p s m args meth c cc nL own Ts T (some .int)) {x : Int32} {tgt : Nat} {v : Int32} (hq : T.lookup pc = some (.ireturn, 1, tgt, v)) (hE : E = (S, some (.int x))) : SW p l e R s m args below meth c nL A Rep fc fs S pc lv [.int x] E := by
  obtain ⟨hx, hb, hml, hown, hts, hT, hr, hlocks⟩ := C0
  subst hE
  refine ⟨Nat.le_refl _, Nat.le_refl _, fun H locs cells slots ls h1 h2 h3 h4 h5 => ?_⟩
  refine W.widen (k := R.cells) (n := R.slots) (by dsimp only at h3; omega) (by dsimp only at h4; omega) ?_
  exact W.iret hx hb hr (fun t ht hW => ⟨rfl, by rw [ht]; exact h1, h2.F ht⟩) h2.2.2 (hT.dec hq) hlocks
theorem sw_retz (C0 : zC p s m args meth c cc nL own Ts T (some .boolean)) {x : Int32} {tgt : Nat} {v : Int32} (hq : T.lookup pc = some (.ireturn, 1, tgt, v)) (hn : narrow .boolean (.int x) = .int x) (hE : E = (S, some (.int x))) : SW p l e R s m args below meth c nL A Rep fc fs S pc lv [.int x] E := by
  obtain ⟨hx, hb, hml, hown, hts, hT, hr, hlocks⟩ := C0
  subst hE
  refine ⟨Nat.le_refl _, Nat.le_refl _, fun H locs cells slots ls h1 h2 h3 h4 h5 => ?_⟩
  refine W.widen (k := R.cells) (n := R.slots) (by dsimp only at h3; omega) (by dsimp only at h4; omega) ?_
  exact W.zret hx hb hr hn (fun t ht hW => ⟨rfl, by rw [ht]; exact h1, h2.F ht⟩) h2.2.2 (hT.dec hq) hlocks
theorem sw_retl (C0 : zC p s m args meth c cc nL own Ts T (some .long)) {x : Int64} {tgt : Nat} {v : Int32} (hq : T.lookup pc = some (.lreturn, 1, tgt, v)) (hE : E = (S, some (.long x))) : SW p l e R s m args below meth c nL A Rep fc fs S pc lv [.long x] E := by
  obtain ⟨hx, hb, hml, hown, hts, hT, hr, hlocks⟩ := C0
  subst hE
  refine ⟨Nat.le_refl _, Nat.le_refl _, fun H locs cells slots ls h1 h2 h3 h4 h5 => ?_⟩
  refine W.widen (k := R.cells) (n := R.slots) (by dsimp only at h3; omega) (by dsimp only at h4; omega) ?_
  exact W.lret hx hb hr (fun t ht hW => ⟨rfl, by rw [ht]; exact h1, h2.F ht⟩) h2.2.2 (hT.dec hq) hlocks
theorem sw_retv (C0 : zC p s m args meth c cc nL own Ts T none) {tgt : Nat} {v : Int32} (hq : T.lookup pc = some (.return_, 1, tgt, v)) (hE : E = (S, none)) : SW p l e R s m args below meth c nL A Rep fc fs S pc lv [] E := by
  obtain ⟨hx, hb, hml, hown, hts, hT, hr, hlocks⟩ := C0
  subst hE
  refine ⟨Nat.le_refl _, Nat.le_refl _, fun H locs cells slots ls h1 h2 h3 h4 h5 => ?_⟩
  refine W.widen (k := R.cells) (n := R.slots) (by dsimp only at h3; omega) (by dsimp only at h4; omega) ?_
  exact W.vret hx hb hr (fun t ht hW => ⟨rfl, by rw [ht]; exact h1, h2.F ht⟩) h2.2.2 (hT.dec hq) hlocks
/-- the tables' words that any state keeps -/
def zwl : List Cond := lw_tbl.filter goodWord
theorem zwl_in {w : Cond} (h : w ∈ lw_tbl) (g : goodWord w = true) : w ∈ zwl := List.mem_filter.mpr ⟨h, g⟩
/-- what is the same of every call of a method: its words stand in the tables -/
def zY (C : String) (y : MethodName) (bytes : ByteArray) (maxL : Nat) (rt : Option FieldType) (n : Nat) : Prop :=
  Cond.code y bytes maxL rt ∈ zwl ∧ Cond.instanceMethod y ∈ zwl ∧ Cond.selects C y y ∈ zwl ∧ Cond.initialized C ∈ zwl ∧ (y.cls = C ∧ y.cls ≠ "java/lang/invoke/MethodHandle" ∧ y.cls ≠ "java/lang/invoke/VarHandle" ∧ (parseMethodDescriptor y.desc).map (fun d => d.parameters.length) = some n)
abbrev zw (y : MethodName) (bytes : ByteArray) (maxL : Nat) (rt : Option FieldType) : List Cond := Cond.code y bytes maxL rt :: zwl
set_option maxRecDepth 100000 in
theorem zgood : GoodIn zwl zwl := fun w hw => ⟨hw, good_of_word (List.mem_filter.mp hw).2⟩
variable {D : va_G} {cl : List vw_C} {tys : List (ClassId × FieldType)}
/-- the receiver is an object of its class -/
def zRc (s : State) (C : String) (b : Nat) (H : Heap) : Prop := ∃ cellB : Cell, H[b]? = some cellB ∧ cellB.vm.isStatics = false ∧ s.vm.findClass C = some cellB.cls
theorem sw_callV {E' : σ × Option Value} {C : String} {y : MethodName} {bytes : ByteArray} {maxL n fr lo idx tgt b : Nat} {v : Int32} {rt : Option FieldType} {As : List Value} (C0 : zC p s m args meth c cc nL own zwl T ret) (hK : va_K D cl tys s) (hA : ∀ q, s.heap.size ≤ q → A q) (Y : zY C y bytes maxL rt n) (hM : zMet l y (zw y bytes maxL rt) fr lo (.ref b :: As) D cl tys A Rep fc fs S E')
    (hl : Cond.methodLink own idx y ∈ zwl) (hq : T.lookup pc = some (.invokevirtual idx, 3, tgt, v)) (hn : As.length = n) (hR : fr + 1 ≤ R.frames ∧ 8 + (maxL + 11) + lo ≤ R.locals) (hW : (rest.map fun v => v.category).sum ≤ 8) (hrc : ∀ H, Rep S H → zRc s C b H)
    (k : SW p l e R s m args below meth c nL A Rep fc fs E'.1 (pc + 3) lv (E'.2.toList ++ rest) E) : SW p l e R s m args below meth c nL A Rep fc fs S pc lv (As.reverse ++ .ref b :: rest) E := by
  obtain ⟨hm1, hm2, hM⟩ := hM
  obtain ⟨y1, y2, y3, y4, y5⟩ := Y
  obtain ⟨hx, hb, hml, hown, hts, hT, hr, hlocks⟩ := C0
  refine sw_call (a := (Value.ref b :: As).toArray) hm1 hm2 (fun H locs cells slots ls h1 h2 h5 h6 h7 => ?_) k
  have hG : GoodIn zwl (wsV own idx C y (zw y bytes maxL rt)) := by
    intro w hw
    rcases List.mem_append.mp hw with h | h
    · have : w = .methodLink own idx y ∨ w = .instanceMethod y ∨ w = .selects C y y ∨ w = .initialized C := by simpa using h
      rcases this with rfl | rfl | rfl | rfl
      · exact ⟨hl, (zgood _ hl).2⟩
      · exact ⟨y2, (zgood _ y2).2⟩
      · exact ⟨y3, (zgood _ y3).2⟩
      · exact ⟨y4, (zgood _ y4).2⟩
    · rcases List.mem_cons.mp h with rfl | h
      · exact ⟨y1, (zgood _ y1).2⟩
      · exact zgood _ h
  exact va_runV (As := As) (rest := rest) ⟨hx, hb, hml, hown, hts⟩ hM (cwV n hts hG rfl rfl rfl y5 hR) ⟨zPre_blind, hrc H h1, fun U hU hW2 => ⟨rfl, by rw [hU]; exact h1, va_K.moved hW2.alike hK, fun q hq => hA q (Nat.le_trans h2.1 (by rw [← hU]; exact hq))⟩⟩ rfl hn h5.1 rfl (lv_room hW) (hT.dec hq) ⟨h6, h7⟩
theorem sw_cp {x : Int32} {C : String} {y : MethodName} {bytes : ByteArray} {maxL n fr lo idx tgt b : Nat} {v0 : Int32} {rt : Option FieldType} {As : List Value} (C0 : zC p s m args meth c cc nL own zwl T ret) (hK : va_K D cl tys s) (hA : ∀ q, s.heap.size ≤ q → A q) (Y : zY C y bytes maxL rt n) (hM : zMet l y (zw y bytes maxL rt) fr lo (.ref b :: As) D cl tys A Rep fc fs S (zFp S x)) (hl : Cond.methodLink own idx y ∈ zwl) (hq : T.lookup pc = some (.invokevirtual idx, 3, tgt, v0)) (hn : As.length = n) (hR : fr + 1 ≤ R.frames ∧ 8 + (maxL + 11) + lo ≤ R.locals) (hW : (rest.map fun v => v.category).sum ≤ 8) (hrc : ∀ H, Rep S H → zRc s C b H) (k : SW p l e R s m args below meth c nL A Rep fc fs S (pc + 3) lv (.int x :: rest) E) : SW p l e R s m args below meth c nL A Rep fc fs S pc lv (As.reverse ++ .ref b :: rest) E := sw_callV C0 hK hA Y hM hl hq hn hR hW hrc k
theorem so_cp {ρ : Type} {F : ρ → σ × Option Value} {w : Option ρ} {x : Int32} {C : String} {y : MethodName} {bytes : ByteArray} {maxL n fr lo idx tgt b : Nat} {v0 : Int32} {rt : Option FieldType} {As : List Value} (C0 : zC p s m args meth c cc nL own zwl T ret) (hK : va_K D cl tys s) (hA : ∀ q, s.heap.size ≤ q → A q) (Y : zY C y bytes maxL rt n) (hM : zMet l y (zw y bytes maxL rt) fr lo (.ref b :: As) D cl tys A Rep fc fs S (zFp S x)) (hl : Cond.methodLink own idx y ∈ zwl) (hq : T.lookup pc = some (.invokevirtual idx, 3, tgt, v0)) (hn : As.length = n) (hR : fr + 1 ≤ R.frames ∧ 8 + (maxL + 11) + lo ≤ R.locals) (hW : (rest.map fun v => v.category).sum ≤ 8) (hrc : ∀ H, Rep S H → zRc s C b H) (k : SO p l e R s m args below meth c nL A Rep fc fs S (pc + 3) lv (.int x :: rest) F w) : SO p l e R s m args below meth c nL A Rep fc fs S pc lv (As.reverse ++ .ref b :: rest) F w := fun r hr => sw_callV C0 hK hA Y hM hl hq hn hR hW hrc (k r hr)
theorem sw_ci {ρ : Type} (F : ρ → σ × Option Value) {x : σ × Int32} {K : σ → Int32 → ρ} {C : String} {y : MethodName} {bytes : ByteArray} {maxL n fr lo idx tgt b : Nat} {v0 : Int32} {rt : Option FieldType} {As : List Value} (C0 : zC p s m args meth c cc nL own zwl T ret) (hK : va_K D cl tys s) (hA : ∀ q, s.heap.size ≤ q → A q) (Y : zY C y bytes maxL rt n) (hM : zMet l y (zw y bytes maxL rt) fr lo (.ref b :: As) D cl tys A Rep fc fs S (zFi x)) (hl : Cond.methodLink own idx y ∈ zwl) (hq : T.lookup pc = some (.invokevirtual idx, 3, tgt, v0)) (hn : As.length = n) (hR : fr + 1 ≤ R.frames ∧ 8 + (maxL + 11) + lo ≤ R.locals) (hW : (rest.map fun v => v.category).sum ≤ 8) (hrc : ∀ H, Rep S H → zRc s C b H) (k : ∀ (S1 : σ) (v1 : Int32), x = (S1, v1) → SW p l e R s m args below meth c nL A Rep fc fs S1 (pc + 3) lv (.int v1 :: rest) (F (K S1 v1))) : SW p l e R s m args below meth c nL A Rep fc fs S pc lv (As.reverse ++ .ref b :: rest) (F (zbind2 x K)) := sw_callV C0 hK hA Y hM hl hq hn hR hW hrc (k x.1 x.2 rfl)
theorem so_ci {ρ : Type} {F : ρ → σ × Option Value} {x : σ × Int32} {K : σ → Int32 → Option ρ} {C : String} {y : MethodName} {bytes : ByteArray} {maxL n fr lo idx tgt b : Nat} {v0 : Int32} {rt : Option FieldType} {As : List Value} (C0 : zC p s m args meth c cc nL own zwl T ret) (hK : va_K D cl tys s) (hA : ∀ q, s.heap.size ≤ q → A q) (Y : zY C y bytes maxL rt n) (hM : zMet l y (zw y bytes maxL rt) fr lo (.ref b :: As) D cl tys A Rep fc fs S (zFi x)) (hl : Cond.methodLink own idx y ∈ zwl) (hq : T.lookup pc = some (.invokevirtual idx, 3, tgt, v0)) (hn : As.length = n) (hR : fr + 1 ≤ R.frames ∧ 8 + (maxL + 11) + lo ≤ R.locals) (hW : (rest.map fun v => v.category).sum ≤ 8) (hrc : ∀ H, Rep S H → zRc s C b H) (k : ∀ (S1 : σ) (v1 : Int32), x = (S1, v1) → SO p l e R s m args below meth c nL A Rep fc fs S1 (pc + 3) lv (.int v1 :: rest) F (K S1 v1)) : SO p l e R s m args below meth c nL A Rep fc fs S pc lv (As.reverse ++ .ref b :: rest) F (zbind2 x K) := fun r hr => sw_callV C0 hK hA Y hM hl hq hn hR hW hrc (k x.1 x.2 rfl r hr)
theorem so_op {ρ : Type} {F : ρ → σ × Option Value} {x : Option Int32} {K : Int32 → Option ρ} {C : String} {y : MethodName} {bytes : ByteArray} {maxL n fr lo idx tgt b : Nat} {v0 : Int32} {rt : Option FieldType} {As : List Value} (C0 : zC p s m args meth c cc nL own zwl T ret) (hK : va_K D cl tys s) (hA : ∀ q, s.heap.size ≤ q → A q) (Y : zY C y bytes maxL rt n) (hM : ∀ r, x = some r → zMet l y (zw y bytes maxL rt) fr lo (.ref b :: As) D cl tys A Rep fc fs S (zFp S r)) (hl : Cond.methodLink own idx y ∈ zwl) (hq : T.lookup pc = some (.invokevirtual idx, 3, tgt, v0)) (hn : As.length = n) (hR : fr + 1 ≤ R.frames ∧ 8 + (maxL + 11) + lo ≤ R.locals) (hW : (rest.map fun v => v.category).sum ≤ 8) (hrc : ∀ H, Rep S H → zRc s C b H) (k : ∀ (v1 : Int32), x = some v1 → SO p l e R s m args below meth c nL A Rep fc fs S (pc + 3) lv (.int v1 :: rest) F (K v1)) : SO p l e R s m args below meth c nL A Rep fc fs S pc lv (As.reverse ++ .ref b :: rest) F (zob x K) := by
  intro r hr
  cases x with
  | none => cases hr
  | some a => exact sw_callV C0 hK hA Y (hM a rfl) hl hq hn hR hW hrc (k a rfl r hr)
theorem so_oi {ρ : Type} {F : ρ → σ × Option Value} {x : Option (σ × Int32)} {K : σ → Int32 → Option ρ} {C : String} {y : MethodName} {bytes : ByteArray} {maxL n fr lo idx tgt b : Nat} {v0 : Int32} {rt : Option FieldType} {As : List Value} (C0 : zC p s m args meth c cc nL own zwl T ret) (hK : va_K D cl tys s) (hA : ∀ q, s.heap.size ≤ q → A q) (Y : zY C y bytes maxL rt n) (hM : ∀ r, x = some r → zMet l y (zw y bytes maxL rt) fr lo (.ref b :: As) D cl tys A Rep fc fs S (zFi r)) (hl : Cond.methodLink own idx y ∈ zwl) (hq : T.lookup pc = some (.invokevirtual idx, 3, tgt, v0)) (hn : As.length = n) (hR : fr + 1 ≤ R.frames ∧ 8 + (maxL + 11) + lo ≤ R.locals) (hW : (rest.map fun v => v.category).sum ≤ 8) (hrc : ∀ H, Rep S H → zRc s C b H) (k : ∀ (S1 : σ) (v1 : Int32), x = some (S1, v1) → SO p l e R s m args below meth c nL A Rep fc fs S1 (pc + 3) lv (.int v1 :: rest) F (K S1 v1)) : SO p l e R s m args below meth c nL A Rep fc fs S pc lv (As.reverse ++ .ref b :: rest) F (zob2 x K) := by
  intro r hr
  cases x with
  | none => cases hr
  | some a => exact sw_callV C0 hK hA Y (hM a rfl) hl hq hn hR hW hrc (k a.1 a.2 rfl r hr)
theorem sw_cpl {x : Int64} {C : String} {y : MethodName} {bytes : ByteArray} {maxL n fr lo idx tgt b : Nat} {v0 : Int32} {rt : Option FieldType} {As : List Value} (C0 : zC p s m args meth c cc nL own zwl T ret) (hK : va_K D cl tys s) (hA : ∀ q, s.heap.size ≤ q → A q) (Y : zY C y bytes maxL rt n) (hM : zMet l y (zw y bytes maxL rt) fr lo (.ref b :: As) D cl tys A Rep fc fs S (zFpl S x)) (hl : Cond.methodLink own idx y ∈ zwl) (hq : T.lookup pc = some (.invokevirtual idx, 3, tgt, v0)) (hn : As.length = n) (hR : fr + 1 ≤ R.frames ∧ 8 + (maxL + 11) + lo ≤ R.locals) (hW : (rest.map fun v => v.category).sum ≤ 8) (hrc : ∀ H, Rep S H → zRc s C b H) (k : SW p l e R s m args below meth c nL A Rep fc fs S (pc + 3) lv (.long x :: rest) E) : SW p l e R s m args below meth c nL A Rep fc fs S pc lv (As.reverse ++ .ref b :: rest) E := sw_callV C0 hK hA Y hM hl hq hn hR hW hrc k
theorem so_cpl {ρ : Type} {F : ρ → σ × Option Value} {w : Option ρ} {x : Int64} {C : String} {y : MethodName} {bytes : ByteArray} {maxL n fr lo idx tgt b : Nat} {v0 : Int32} {rt : Option FieldType} {As : List Value} (C0 : zC p s m args meth c cc nL own zwl T ret) (hK : va_K D cl tys s) (hA : ∀ q, s.heap.size ≤ q → A q) (Y : zY C y bytes maxL rt n) (hM : zMet l y (zw y bytes maxL rt) fr lo (.ref b :: As) D cl tys A Rep fc fs S (zFpl S x)) (hl : Cond.methodLink own idx y ∈ zwl) (hq : T.lookup pc = some (.invokevirtual idx, 3, tgt, v0)) (hn : As.length = n) (hR : fr + 1 ≤ R.frames ∧ 8 + (maxL + 11) + lo ≤ R.locals) (hW : (rest.map fun v => v.category).sum ≤ 8) (hrc : ∀ H, Rep S H → zRc s C b H) (k : SO p l e R s m args below meth c nL A Rep fc fs S (pc + 3) lv (.long x :: rest) F w) : SO p l e R s m args below meth c nL A Rep fc fs S pc lv (As.reverse ++ .ref b :: rest) F w := fun r hr => sw_callV C0 hK hA Y hM hl hq hn hR hW hrc (k r hr)
theorem sw_cil {ρ : Type} (F : ρ → σ × Option Value) {x : σ × Int64} {K : σ → Int64 → ρ} {C : String} {y : MethodName} {bytes : ByteArray} {maxL n fr lo idx tgt b : Nat} {v0 : Int32} {rt : Option FieldType} {As : List Value} (C0 : zC p s m args meth c cc nL own zwl T ret) (hK : va_K D cl tys s) (hA : ∀ q, s.heap.size ≤ q → A q) (Y : zY C y bytes maxL rt n) (hM : zMet l y (zw y bytes maxL rt) fr lo (.ref b :: As) D cl tys A Rep fc fs S (zFil x)) (hl : Cond.methodLink own idx y ∈ zwl) (hq : T.lookup pc = some (.invokevirtual idx, 3, tgt, v0)) (hn : As.length = n) (hR : fr + 1 ≤ R.frames ∧ 8 + (maxL + 11) + lo ≤ R.locals) (hW : (rest.map fun v => v.category).sum ≤ 8) (hrc : ∀ H, Rep S H → zRc s C b H) (k : ∀ (S1 : σ) (v1 : Int64), x = (S1, v1) → SW p l e R s m args below meth c nL A Rep fc fs S1 (pc + 3) lv (.long v1 :: rest) (F (K S1 v1))) : SW p l e R s m args below meth c nL A Rep fc fs S pc lv (As.reverse ++ .ref b :: rest) (F (zbind2 x K)) := sw_callV C0 hK hA Y hM hl hq hn hR hW hrc (k x.1 x.2 rfl)
theorem so_cil {ρ : Type} {F : ρ → σ × Option Value} {x : σ × Int64} {K : σ → Int64 → Option ρ} {C : String} {y : MethodName} {bytes : ByteArray} {maxL n fr lo idx tgt b : Nat} {v0 : Int32} {rt : Option FieldType} {As : List Value} (C0 : zC p s m args meth c cc nL own zwl T ret) (hK : va_K D cl tys s) (hA : ∀ q, s.heap.size ≤ q → A q) (Y : zY C y bytes maxL rt n) (hM : zMet l y (zw y bytes maxL rt) fr lo (.ref b :: As) D cl tys A Rep fc fs S (zFil x)) (hl : Cond.methodLink own idx y ∈ zwl) (hq : T.lookup pc = some (.invokevirtual idx, 3, tgt, v0)) (hn : As.length = n) (hR : fr + 1 ≤ R.frames ∧ 8 + (maxL + 11) + lo ≤ R.locals) (hW : (rest.map fun v => v.category).sum ≤ 8) (hrc : ∀ H, Rep S H → zRc s C b H) (k : ∀ (S1 : σ) (v1 : Int64), x = (S1, v1) → SO p l e R s m args below meth c nL A Rep fc fs S1 (pc + 3) lv (.long v1 :: rest) F (K S1 v1)) : SO p l e R s m args below meth c nL A Rep fc fs S pc lv (As.reverse ++ .ref b :: rest) F (zbind2 x K) := fun r hr => sw_callV C0 hK hA Y hM hl hq hn hR hW hrc (k x.1 x.2 rfl r hr)
theorem so_opl {ρ : Type} {F : ρ → σ × Option Value} {x : Option Int64} {K : Int64 → Option ρ} {C : String} {y : MethodName} {bytes : ByteArray} {maxL n fr lo idx tgt b : Nat} {v0 : Int32} {rt : Option FieldType} {As : List Value} (C0 : zC p s m args meth c cc nL own zwl T ret) (hK : va_K D cl tys s) (hA : ∀ q, s.heap.size ≤ q → A q) (Y : zY C y bytes maxL rt n) (hM : ∀ r, x = some r → zMet l y (zw y bytes maxL rt) fr lo (.ref b :: As) D cl tys A Rep fc fs S (zFpl S r)) (hl : Cond.methodLink own idx y ∈ zwl) (hq : T.lookup pc = some (.invokevirtual idx, 3, tgt, v0)) (hn : As.length = n) (hR : fr + 1 ≤ R.frames ∧ 8 + (maxL + 11) + lo ≤ R.locals) (hW : (rest.map fun v => v.category).sum ≤ 8) (hrc : ∀ H, Rep S H → zRc s C b H) (k : ∀ (v1 : Int64), x = some v1 → SO p l e R s m args below meth c nL A Rep fc fs S (pc + 3) lv (.long v1 :: rest) F (K v1)) : SO p l e R s m args below meth c nL A Rep fc fs S pc lv (As.reverse ++ .ref b :: rest) F (zob x K) := by
  intro r hr
  cases x with
  | none => cases hr
  | some a => exact sw_callV C0 hK hA Y (hM a rfl) hl hq hn hR hW hrc (k a rfl r hr)
theorem so_oil {ρ : Type} {F : ρ → σ × Option Value} {x : Option (σ × Int64)} {K : σ → Int64 → Option ρ} {C : String} {y : MethodName} {bytes : ByteArray} {maxL n fr lo idx tgt b : Nat} {v0 : Int32} {rt : Option FieldType} {As : List Value} (C0 : zC p s m args meth c cc nL own zwl T ret) (hK : va_K D cl tys s) (hA : ∀ q, s.heap.size ≤ q → A q) (Y : zY C y bytes maxL rt n) (hM : ∀ r, x = some r → zMet l y (zw y bytes maxL rt) fr lo (.ref b :: As) D cl tys A Rep fc fs S (zFil r)) (hl : Cond.methodLink own idx y ∈ zwl) (hq : T.lookup pc = some (.invokevirtual idx, 3, tgt, v0)) (hn : As.length = n) (hR : fr + 1 ≤ R.frames ∧ 8 + (maxL + 11) + lo ≤ R.locals) (hW : (rest.map fun v => v.category).sum ≤ 8) (hrc : ∀ H, Rep S H → zRc s C b H) (k : ∀ (S1 : σ) (v1 : Int64), x = some (S1, v1) → SO p l e R s m args below meth c nL A Rep fc fs S1 (pc + 3) lv (.long v1 :: rest) F (K S1 v1)) : SO p l e R s m args below meth c nL A Rep fc fs S pc lv (As.reverse ++ .ref b :: rest) F (zob2 x K) := by
  intro r hr
  cases x with
  | none => cases hr
  | some a => exact sw_callV C0 hK hA Y (hM a rfl) hl hq hn hR hW hrc (k a.1 a.2 rfl r hr)
theorem sw_cV {ρ : Type} (F : ρ → σ × Option Value) {x : σ} {K : σ → ρ} {C : String} {y : MethodName} {bytes : ByteArray} {maxL n fr lo idx tgt b : Nat} {v0 : Int32} {rt : Option FieldType} {As : List Value} (C0 : zC p s m args meth c cc nL own zwl T ret) (hK : va_K D cl tys s) (hA : ∀ q, s.heap.size ≤ q → A q) (Y : zY C y bytes maxL rt n) (hM : zMet l y (zw y bytes maxL rt) fr lo (.ref b :: As) D cl tys A Rep fc fs S (zFv x)) (hl : Cond.methodLink own idx y ∈ zwl) (hq : T.lookup pc = some (.invokevirtual idx, 3, tgt, v0)) (hn : As.length = n) (hR : fr + 1 ≤ R.frames ∧ 8 + (maxL + 11) + lo ≤ R.locals) (hW : (rest.map fun v => v.category).sum ≤ 8) (hrc : ∀ H, Rep S H → zRc s C b H) (k : ∀ S1 : σ, S1 = x → SW p l e R s m args below meth c nL A Rep fc fs S1 (pc + 3) lv rest (F (K S1))) : SW p l e R s m args below meth c nL A Rep fc fs S pc lv (As.reverse ++ .ref b :: rest) (F (zbind x K)) := sw_callV C0 hK hA Y hM hl hq hn hR hW hrc (k x rfl)
theorem so_cV {ρ : Type} {F : ρ → σ × Option Value} {x : σ} {K : σ → Option ρ} {C : String} {y : MethodName} {bytes : ByteArray} {maxL n fr lo idx tgt b : Nat} {v0 : Int32} {rt : Option FieldType} {As : List Value} (C0 : zC p s m args meth c cc nL own zwl T ret) (hK : va_K D cl tys s) (hA : ∀ q, s.heap.size ≤ q → A q) (Y : zY C y bytes maxL rt n) (hM : zMet l y (zw y bytes maxL rt) fr lo (.ref b :: As) D cl tys A Rep fc fs S (zFv x)) (hl : Cond.methodLink own idx y ∈ zwl) (hq : T.lookup pc = some (.invokevirtual idx, 3, tgt, v0)) (hn : As.length = n) (hR : fr + 1 ≤ R.frames ∧ 8 + (maxL + 11) + lo ≤ R.locals) (hW : (rest.map fun v => v.category).sum ≤ 8) (hrc : ∀ H, Rep S H → zRc s C b H) (k : ∀ S1 : σ, S1 = x → SO p l e R s m args below meth c nL A Rep fc fs S1 (pc + 3) lv rest F (K S1)) : SO p l e R s m args below meth c nL A Rep fc fs S pc lv (As.reverse ++ .ref b :: rest) F (zbind x K) := fun r hr => sw_callV C0 hK hA Y hM hl hq hn hR hW hrc (k x rfl r hr)
theorem so_oV {ρ : Type} {F : ρ → σ × Option Value} {x : Option σ} {K : σ → Option ρ} {C : String} {y : MethodName} {bytes : ByteArray} {maxL n fr lo idx tgt b : Nat} {v0 : Int32} {rt : Option FieldType} {As : List Value} (C0 : zC p s m args meth c cc nL own zwl T ret) (hK : va_K D cl tys s) (hA : ∀ q, s.heap.size ≤ q → A q) (Y : zY C y bytes maxL rt n) (hM : ∀ r, x = some r → zMet l y (zw y bytes maxL rt) fr lo (.ref b :: As) D cl tys A Rep fc fs S (zFv r)) (hl : Cond.methodLink own idx y ∈ zwl) (hq : T.lookup pc = some (.invokevirtual idx, 3, tgt, v0)) (hn : As.length = n) (hR : fr + 1 ≤ R.frames ∧ 8 + (maxL + 11) + lo ≤ R.locals) (hW : (rest.map fun v => v.category).sum ≤ 8) (hrc : ∀ H, Rep S H → zRc s C b H) (k : ∀ S1 : σ, x = some S1 → SO p l e R s m args below meth c nL A Rep fc fs S1 (pc + 3) lv rest F (K S1)) : SO p l e R s m args below meth c nL A Rep fc fs S pc lv (As.reverse ++ .ref b :: rest) F (zob x K) := by
  intro r hr
  cases x with
  | none => cases hr
  | some a => exact sw_callV C0 hK hA Y (hM a rfl) hl hq hn hR hW hrc (k a rfl r hr)
/-- from the body to the contract -/
theorem zMet_of {y : MethodName} {bytes : ByteArray} {maxL fr lo : Nat} {rt : Option FieldType} {argsL : List Value} (hm : fc S ≤ fc E.1 ∧ fs S ≤ fs E.1) (hy : plainName y.cls = true) (hT : zTok bytes maxL T) (hlen : (lg_sl argsL).length ≤ maxL)
    (body : ∀ (p : Program) (e : Env) (R : Room) (s : State) (m : MethodId) (args : Array Value) (below : List Frame) (meth : Method) (c : Code), R.frames = fr → R.locals = lo → zC p s m args meth c bytes maxL y.cls zwl T rt → va_K D cl tys s → (∀ q, s.heap.size ≤ q → A q) → SW p l e R s m args below meth c maxL A Rep fc fs S 0 (lv_args 0 argsL) [] E) :
    zMet l y (zw y bytes maxL rt) fr lo argsL D cl tys A Rep fc fs S E := by
  refine ⟨hm.1, hm.2, Met.ofW (cc := bytes) (maxL := maxL) (ret := rt) hy rfl ?_⟩
  intro p e s m args below meth c s₁ B hml hv
  obtain ⟨rfl, hRep, hK, hA⟩ := hv
  have hts := atoms_spec (ws := zw y bytes maxL rt) B.pre
  have hown : s.vm.findClass y.cls = some m.cls := findClass_of_methodNamed B.named
  have C0 : zC p s m argsL.toArray meth c bytes maxL y.cls zwl T rt := ⟨B.exec, B.bytes, hml, hown, fun w hw => hts w (List.mem_cons_of_mem _ hw), hT, B.returns, B.notSynchronized⟩
  have K := (body p e (headSpec (zw y bytes maxL rt) { frames := fr, cells := fc E.1 - fc S, slots := fs E.1 - fs S, locals := lo }).room s m argsL.toArray below meth c rfl rfl C0 hK hA).2.2
  have hl := lv_entry argsL (n := maxL) hlen
  rw [lg_entry_eq]
  exact K s.heap [] 0 0 _ hRep va_S.rf (by show 0 + fc E.1 ≤ (fc E.1 - fc S) + fc S; omega) (by show 0 + fs E.1 ≤ (fs E.1 - fs S) + fs S; omega) hl
end ZSW
end
section
-- the words of the tables, by their places (by program)
theorem zm1 {w : Cond} (h : w ∈ tables_1_1) : w ∈ lw_tbl := List.mem_append_right _ (List.mem_append_left _ h)
theorem zm2 {w : Cond} (h : w ∈ tables_1_2) : w ∈ lw_tbl := List.mem_append_right _ (List.mem_append_right _ (List.mem_append_left _ h))
theorem zm3 {w : Cond} (h : w ∈ tables_1_3) : w ∈ lw_tbl := List.mem_append_right _ (List.mem_append_right _ (List.mem_append_right _ (List.mem_append_left _ h)))
theorem zm4 {w : Cond} (h : w ∈ tables_1_4) : w ∈ lw_tbl := List.mem_append_right _ (List.mem_append_right _ (List.mem_append_right _ (List.mem_append_right _ (List.mem_append_left _ h))))
theorem zm5 {w : Cond} (h : w ∈ tables_1_5) : w ∈ lw_tbl := List.mem_append_right _ (List.mem_append_right _ (List.mem_append_right _ (List.mem_append_right _ (List.mem_append_right _ (List.mem_append_left _ h)))))
theorem zm6 {w : Cond} (h : w ∈ tables_1_6) : w ∈ lw_tbl := List.mem_append_right _ (List.mem_append_right _ (List.mem_append_right _ (List.mem_append_right _ (List.mem_append_right _ (List.mem_append_right _ (h))))))
theorem zn1 {q : MethodName × Nat} (h : q ∈ lw_privs_1) : Cond.selects q.1.cls q.1 q.1 ∈ zwl := zwl_in (List.mem_append_left _ (List.mem_map.mpr ⟨q, List.mem_append_left _ h, rfl⟩)) rfl
theorem zn2 {q : MethodName × Nat} (h : q ∈ lw_privs_2) : Cond.selects q.1.cls q.1 q.1 ∈ zwl := zwl_in (List.mem_append_left _ (List.mem_map.mpr ⟨q, List.mem_append_right _ (List.mem_append_left _ h), rfl⟩)) rfl
theorem zn3 {q : MethodName × Nat} (h : q ∈ lw_privs_3) : Cond.selects q.1.cls q.1 q.1 ∈ zwl := zwl_in (List.mem_append_left _ (List.mem_map.mpr ⟨q, List.mem_append_right _ (List.mem_append_right _ (List.mem_append_left _ h)), rfl⟩)) rfl
theorem zn4 {q : MethodName × Nat} (h : q ∈ lw_privs_4) : Cond.selects q.1.cls q.1 q.1 ∈ zwl := zwl_in (List.mem_append_left _ (List.mem_map.mpr ⟨q, List.mem_append_right _ (List.mem_append_right _ (List.mem_append_right _ (List.mem_append_left _ h))), rfl⟩)) rfl
theorem zn5 {q : MethodName × Nat} (h : q ∈ lw_privs_5) : Cond.selects q.1.cls q.1 q.1 ∈ zwl := zwl_in (List.mem_append_left _ (List.mem_map.mpr ⟨q, List.mem_append_right _ (List.mem_append_right _ (List.mem_append_right _ (List.mem_append_right _ (List.mem_append_left _ h)))), rfl⟩)) rfl
theorem zn6 {q : MethodName × Nat} (h : q ∈ lw_privs_6) : Cond.selects q.1.cls q.1 q.1 ∈ zwl := zwl_in (List.mem_append_left _ (List.mem_map.mpr ⟨q, List.mem_append_right _ (List.mem_append_right _ (List.mem_append_right _ (List.mem_append_right _ (List.mem_append_right _ (h))))), rfl⟩)) rfl
theorem wd_1_0 : (Jvm.Cond.initialized "RuleTreeLaw") ∈ zwl := zwl_in (zm1 (List.mem_of_getElem? (i := 0) rfl)) rfl
theorem wd_1_1 : (Jvm.Cond.initialized "RuleTree") ∈ zwl := zwl_in (zm1 (List.mem_of_getElem? (i := 1) rfl)) rfl
theorem wd_1_2 : (Jvm.Cond.initialized "RuleTree$Families") ∈ zwl := zwl_in (zm1 (List.mem_of_getElem? (i := 2) rfl)) rfl
theorem wd_1_3 : (Jvm.Cond.initialized "RuleTree$Row") ∈ zwl := zwl_in (zm1 (List.mem_of_getElem? (i := 3) rfl)) rfl
theorem wd_1_4 : (Jvm.Cond.initialized "RuleTree$Patterns") ∈ zwl := zwl_in (zm1 (List.mem_of_getElem? (i := 4) rfl)) rfl
theorem wd_1_5 : (Jvm.Cond.initialized "RuleTree$Pushed") ∈ zwl := zwl_in (zm1 (List.mem_of_getElem? (i := 5) rfl)) rfl
theorem wd_1_6 : (Jvm.Cond.initialized "java/util/Arrays") ∈ zwl := zwl_in (zm1 (List.mem_of_getElem? (i := 6) rfl)) rfl
theorem wd_1_7 : (Jvm.Cond.initialized "java/lang/Math") ∈ zwl := zwl_in (zm1 (List.mem_of_getElem? (i := 7) rfl)) rfl
theorem wd_1_8 : (Jvm.Cond.initialized "java/lang/System") ∈ zwl := zwl_in (zm1 (List.mem_of_getElem? (i := 8) rfl)) rfl
theorem wd_1_9 : (Jvm.Cond.initialized "RuleTree$Pairs") ∈ zwl := zwl_in (zm1 (List.mem_of_getElem? (i := 9) rfl)) rfl
theorem wd_1_10 : (Jvm.Cond.initialized "RuleTree$Parts") ∈ zwl := zwl_in (zm1 (List.mem_of_getElem? (i := 10) rfl)) rfl
theorem wd_1_11 : (Jvm.Cond.initialized "RuleTree$Nodes") ∈ zwl := zwl_in (zm1 (List.mem_of_getElem? (i := 11) rfl)) rfl
theorem wd_1_12 : (Jvm.Cond.initialized "RuleTree$Grower") ∈ zwl := zwl_in (zm1 (List.mem_of_getElem? (i := 12) rfl)) rfl
theorem wd_1_13 : (Jvm.Cond.initialized "RuleTree$Walker") ∈ zwl := zwl_in (zm1 (List.mem_of_getElem? (i := 13) rfl)) rfl
theorem wd_1_14 : (Jvm.Cond.initialized "RuleTree$Gap") ∈ zwl := zwl_in (zm1 (List.mem_of_getElem? (i := 14) rfl)) rfl
theorem wd_1_15 : (Jvm.Cond.initialized "RuleTreeModel") ∈ zwl := zwl_in (zm1 (List.mem_of_getElem? (i := 15) rfl)) rfl
theorem wd_1_16 : (Jvm.Cond.classLink "RuleTreeLaw" (7 : Nat) "RuleTree") ∈ zwl := zwl_in (zm1 (List.mem_of_getElem? (i := 16) rfl)) rfl
theorem wd_1_17 : (Jvm.Cond.instantiable "RuleTree" (12 : Nat)) ∈ zwl := zwl_in (zm1 (List.mem_of_getElem? (i := 17) rfl)) rfl
theorem wd_1_18 : (Jvm.Cond.methodLink "RuleTreeLaw" (9 : Nat) ({ cls := "RuleTree", name := "<init>", desc := "()V" } : Jvm.MethodName)) ∈ zwl := zwl_in (zm1 (List.mem_of_getElem? (i := 18) rfl)) rfl
theorem wd_1_19 : (Jvm.Cond.instanceMethod ({ cls := "RuleTree", name := "<init>", desc := "()V" } : Jvm.MethodName)) ∈ zwl := zwl_in (zm1 (List.mem_of_getElem? (i := 19) rfl)) rfl
theorem wd_1_20 : (Jvm.Cond.code ({ cls := "RuleTree", name := "<init>", desc := "()V" } : Jvm.MethodName) prog_1_method_1_code (1 : Nat) (Option.none : Option Jvm.ClassFile.FieldType)) ∈ zwl := zwl_in (zm1 (List.mem_of_getElem? (i := 20) rfl)) rfl
theorem wd_1_21 : (Jvm.Cond.methodLink "RuleTree" (1 : Nat) ({ cls := "java/lang/Object", name := "<init>", desc := "()V" } : Jvm.MethodName)) ∈ zwl := zwl_in (zm1 (List.mem_of_getElem? (i := 21) rfl)) rfl
theorem wd_1_22 : (Jvm.Cond.instanceMethod ({ cls := "java/lang/Object", name := "<init>", desc := "()V" } : Jvm.MethodName)) ∈ zwl := zwl_in (zm1 (List.mem_of_getElem? (i := 22) rfl)) rfl
theorem wd_1_23 : (Jvm.Cond.code ({ cls := "java/lang/Object", name := "<init>", desc := "()V" } : Jvm.MethodName) object_method_1_code (1 : Nat) (Option.none : Option Jvm.ClassFile.FieldType)) ∈ zwl := zwl_in (zm1 (List.mem_of_getElem? (i := 23) rfl)) rfl
theorem wd_1_24 : (Jvm.Cond.classLink "RuleTree" (7 : Nat) "RuleTree$Families") ∈ zwl := zwl_in (zm1 (List.mem_of_getElem? (i := 24) rfl)) rfl
theorem wd_1_25 : (Jvm.Cond.instantiable "RuleTree$Families" (2 : Nat)) ∈ zwl := zwl_in (zm1 (List.mem_of_getElem? (i := 25) rfl)) rfl
theorem wd_1_26 : (Jvm.Cond.methodLink "RuleTree" (9 : Nat) ({ cls := "RuleTree$Families", name := "<init>", desc := "()V" } : Jvm.MethodName)) ∈ zwl := zwl_in (zm1 (List.mem_of_getElem? (i := 26) rfl)) rfl
theorem wd_1_27 : (Jvm.Cond.instanceMethod ({ cls := "RuleTree$Families", name := "<init>", desc := "()V" } : Jvm.MethodName)) ∈ zwl := zwl_in (zm1 (List.mem_of_getElem? (i := 27) rfl)) rfl
theorem wd_1_28 : (Jvm.Cond.code ({ cls := "RuleTree$Families", name := "<init>", desc := "()V" } : Jvm.MethodName) prog_2_method_1_code (1 : Nat) (Option.none : Option Jvm.ClassFile.FieldType)) ∈ zwl := zwl_in (zm1 (List.mem_of_getElem? (i := 28) rfl)) rfl
theorem wd_1_29 : (Jvm.Cond.methodLink "RuleTree$Families" (3 : Nat) ({ cls := "java/lang/Object", name := "<init>", desc := "()V" } : Jvm.MethodName)) ∈ zwl := zwl_in (zm1 (List.mem_of_getElem? (i := 29) rfl)) rfl
theorem wd_1_30 : (Jvm.Cond.classLink "RuleTree$Families" (9 : Nat) "RuleTree$Row") ∈ zwl := zwl_in (zm1 (List.mem_of_getElem? (i := 30) rfl)) rfl
theorem wd_1_31 : (Jvm.Cond.instantiable "RuleTree$Row" (2 : Nat)) ∈ zwl := zwl_in (zm1 (List.mem_of_getElem? (i := 31) rfl)) rfl
theorem wd_1_32 : (Jvm.Cond.methodLink "RuleTree$Families" (11 : Nat) ({ cls := "RuleTree$Row", name := "<init>", desc := "()V" } : Jvm.MethodName)) ∈ zwl := zwl_in (zm1 (List.mem_of_getElem? (i := 32) rfl)) rfl
theorem wd_1_33 : (Jvm.Cond.instanceMethod ({ cls := "RuleTree$Row", name := "<init>", desc := "()V" } : Jvm.MethodName)) ∈ zwl := zwl_in (zm1 (List.mem_of_getElem? (i := 33) rfl)) rfl
theorem wd_1_34 : (Jvm.Cond.code ({ cls := "RuleTree$Row", name := "<init>", desc := "()V" } : Jvm.MethodName) prog_10_method_1_code (1 : Nat) (Option.none : Option Jvm.ClassFile.FieldType)) ∈ zwl := zwl_in (zm1 (List.mem_of_getElem? (i := 34) rfl)) rfl
theorem wd_1_35 : (Jvm.Cond.methodLink "RuleTree$Row" (3 : Nat) ({ cls := "java/lang/Object", name := "<init>", desc := "()V" } : Jvm.MethodName)) ∈ zwl := zwl_in (zm1 (List.mem_of_getElem? (i := 35) rfl)) rfl
theorem wd_1_36 : (Jvm.Cond.fieldLink "RuleTree$Row" (9 : Nat) "RuleTree$Row" "cells" "[I") ∈ zwl := zwl_in (zm1 (List.mem_of_getElem? (i := 36) rfl)) rfl
theorem wd_1_37 : (Jvm.Cond.fieldLink "RuleTree$Row" (15 : Nat) "RuleTree$Row" "size" "I") ∈ zwl := zwl_in (zm1 (List.mem_of_getElem? (i := 37) rfl)) rfl
theorem wd_1_38 : (Jvm.Cond.lays "RuleTree$Row" "RuleTree$Row" "cells" "[I") ∈ zwl := zwl_in (zm1 (List.mem_of_getElem? (i := 38) rfl)) rfl
theorem wd_1_40 : (Jvm.Cond.lays "RuleTree$Row" "RuleTree$Row" "size" "I") ∈ zwl := zwl_in (zm1 (List.mem_of_getElem? (i := 40) rfl)) rfl
theorem wd_1_43 : (Jvm.Cond.arrayClass Jvm.ClassFile.FieldType.int) ∈ zwl := zwl_in (zm1 (List.mem_of_getElem? (i := 43) rfl)) rfl
theorem wd_1_44 : (Jvm.Cond.fieldLink "RuleTree$Families" (12 : Nat) "RuleTree$Families" "sizes" "LRuleTree$Row;") ∈ zwl := zwl_in (zm1 (List.mem_of_getElem? (i := 44) rfl)) rfl
theorem wd_1_45 : (Jvm.Cond.fieldLink "RuleTree$Families" (18 : Nat) "RuleTree$Families" "arguments" "[J") ∈ zwl := zwl_in (zm1 (List.mem_of_getElem? (i := 45) rfl)) rfl
theorem wd_1_46 : (Jvm.Cond.laysFinal "RuleTree$Families" "RuleTree$Families" "sizes" "LRuleTree$Row;") ∈ zwl := zwl_in (zm1 (List.mem_of_getElem? (i := 46) rfl)) rfl
theorem wd_1_48 : (Jvm.Cond.laysFinal "RuleTree$Families" "RuleTree$Families" "arguments" "[J") ∈ zwl := zwl_in (zm1 (List.mem_of_getElem? (i := 48) rfl)) rfl
theorem wd_1_51 : (Jvm.Cond.arrayClass Jvm.ClassFile.FieldType.long) ∈ zwl := zwl_in (zm1 (List.mem_of_getElem? (i := 51) rfl)) rfl
theorem wd_1_52 : (Jvm.Cond.classLink "RuleTree" (16 : Nat) "RuleTree$Patterns") ∈ zwl := zwl_in (zm1 (List.mem_of_getElem? (i := 52) rfl)) rfl
theorem wd_1_53 : (Jvm.Cond.instantiable "RuleTree$Patterns" (9 : Nat)) ∈ zwl := zwl_in (zm1 (List.mem_of_getElem? (i := 53) rfl)) rfl
theorem wd_1_54 : (Jvm.Cond.methodLink "RuleTree" (18 : Nat) ({ cls := "RuleTree$Patterns", name := "<init>", desc := "()V" } : Jvm.MethodName)) ∈ zwl := zwl_in (zm1 (List.mem_of_getElem? (i := 54) rfl)) rfl
theorem wd_1_55 : (Jvm.Cond.instanceMethod ({ cls := "RuleTree$Patterns", name := "<init>", desc := "()V" } : Jvm.MethodName)) ∈ zwl := zwl_in (zm1 (List.mem_of_getElem? (i := 55) rfl)) rfl
theorem wd_1_56 : (Jvm.Cond.code ({ cls := "RuleTree$Patterns", name := "<init>", desc := "()V" } : Jvm.MethodName) prog_8_method_1_code (1 : Nat) (Option.none : Option Jvm.ClassFile.FieldType)) ∈ zwl := zwl_in (zm1 (List.mem_of_getElem? (i := 56) rfl)) rfl
theorem wd_1_57 : (Jvm.Cond.methodLink "RuleTree$Patterns" (3 : Nat) ({ cls := "java/lang/Object", name := "<init>", desc := "()V" } : Jvm.MethodName)) ∈ zwl := zwl_in (zm1 (List.mem_of_getElem? (i := 57) rfl)) rfl
theorem wd_1_58 : (Jvm.Cond.classLink "RuleTree$Patterns" (9 : Nat) "RuleTree$Row") ∈ zwl := zwl_in (zm1 (List.mem_of_getElem? (i := 58) rfl)) rfl
theorem wd_1_59 : (Jvm.Cond.methodLink "RuleTree$Patterns" (11 : Nat) ({ cls := "RuleTree$Row", name := "<init>", desc := "()V" } : Jvm.MethodName)) ∈ zwl := zwl_in (zm1 (List.mem_of_getElem? (i := 59) rfl)) rfl
theorem wd_1_60 : (Jvm.Cond.fieldLink "RuleTree$Patterns" (12 : Nat) "RuleTree$Patterns" "shapes" "LRuleTree$Row;") ∈ zwl := zwl_in (zm1 (List.mem_of_getElem? (i := 60) rfl)) rfl
theorem wd_1_61 : (Jvm.Cond.fieldLink "RuleTree$Patterns" (18 : Nat) "RuleTree$Patterns" "sorts" "LRuleTree$Row;") ∈ zwl := zwl_in (zm1 (List.mem_of_getElem? (i := 61) rfl)) rfl
theorem wd_1_62 : (Jvm.Cond.fieldLink "RuleTree$Patterns" (21 : Nat) "RuleTree$Patterns" "marks" "LRuleTree$Row;") ∈ zwl := zwl_in (zm1 (List.mem_of_getElem? (i := 62) rfl)) rfl
theorem wd_1_63 : (Jvm.Cond.fieldLink "RuleTree$Patterns" (24 : Nat) "RuleTree$Patterns" "inners" "LRuleTree$Row;") ∈ zwl := zwl_in (zm1 (List.mem_of_getElem? (i := 63) rfl)) rfl
theorem wd_1_64 : (Jvm.Cond.fieldLink "RuleTree$Patterns" (27 : Nat) "RuleTree$Patterns" "widths" "LRuleTree$Row;") ∈ zwl := zwl_in (zm1 (List.mem_of_getElem? (i := 64) rfl)) rfl
theorem wd_1_65 : (Jvm.Cond.fieldLink "RuleTree$Patterns" (30 : Nat) "RuleTree$Patterns" "weights" "LRuleTree$Row;") ∈ zwl := zwl_in (zm1 (List.mem_of_getElem? (i := 65) rfl)) rfl
theorem wd_1_66 : (Jvm.Cond.fieldLink "RuleTree$Patterns" (33 : Nat) "RuleTree$Patterns" "whole" "LRuleTree$Row;") ∈ zwl := zwl_in (zm1 (List.mem_of_getElem? (i := 66) rfl)) rfl
theorem wd_1_67 : (Jvm.Cond.fieldLink "RuleTree$Patterns" (36 : Nat) "RuleTree$Patterns" "fieldNumbers" "LRuleTree$Row;") ∈ zwl := zwl_in (zm1 (List.mem_of_getElem? (i := 67) rfl)) rfl
theorem wd_1_68 : (Jvm.Cond.fieldLink "RuleTree$Patterns" (39 : Nat) "RuleTree$Patterns" "fieldPatterns" "LRuleTree$Row;") ∈ zwl := zwl_in (zm1 (List.mem_of_getElem? (i := 68) rfl)) rfl
theorem wd_1_69 : (Jvm.Cond.laysFinal "RuleTree$Patterns" "RuleTree$Patterns" "shapes" "LRuleTree$Row;") ∈ zwl := zwl_in (zm1 (List.mem_of_getElem? (i := 69) rfl)) rfl
theorem wd_1_71 : (Jvm.Cond.laysFinal "RuleTree$Patterns" "RuleTree$Patterns" "sorts" "LRuleTree$Row;") ∈ zwl := zwl_in (zm1 (List.mem_of_getElem? (i := 71) rfl)) rfl
theorem wd_1_73 : (Jvm.Cond.laysFinal "RuleTree$Patterns" "RuleTree$Patterns" "marks" "LRuleTree$Row;") ∈ zwl := zwl_in (zm1 (List.mem_of_getElem? (i := 73) rfl)) rfl
theorem wd_1_75 : (Jvm.Cond.laysFinal "RuleTree$Patterns" "RuleTree$Patterns" "inners" "LRuleTree$Row;") ∈ zwl := zwl_in (zm1 (List.mem_of_getElem? (i := 75) rfl)) rfl
theorem wd_1_77 : (Jvm.Cond.laysFinal "RuleTree$Patterns" "RuleTree$Patterns" "widths" "LRuleTree$Row;") ∈ zwl := zwl_in (zm1 (List.mem_of_getElem? (i := 77) rfl)) rfl
theorem wd_1_79 : (Jvm.Cond.laysFinal "RuleTree$Patterns" "RuleTree$Patterns" "weights" "LRuleTree$Row;") ∈ zwl := zwl_in (zm1 (List.mem_of_getElem? (i := 79) rfl)) rfl
theorem wd_1_81 : (Jvm.Cond.laysFinal "RuleTree$Patterns" "RuleTree$Patterns" "whole" "LRuleTree$Row;") ∈ zwl := zwl_in (zm1 (List.mem_of_getElem? (i := 81) rfl)) rfl
theorem wd_1_83 : (Jvm.Cond.laysFinal "RuleTree$Patterns" "RuleTree$Patterns" "fieldNumbers" "LRuleTree$Row;") ∈ zwl := zwl_in (zm1 (List.mem_of_getElem? (i := 83) rfl)) rfl
theorem wd_1_85 : (Jvm.Cond.laysFinal "RuleTree$Patterns" "RuleTree$Patterns" "fieldPatterns" "LRuleTree$Row;") ∈ zwl := zwl_in (zm1 (List.mem_of_getElem? (i := 85) rfl)) rfl
theorem wd_1_88 : (Jvm.Cond.classLink "RuleTree" (23 : Nat) "RuleTree$Pushed") ∈ zwl := zwl_in (zm1 (List.mem_of_getElem? (i := 88) rfl)) rfl
theorem wd_1_89 : (Jvm.Cond.instantiable "RuleTree$Pushed" (2 : Nat)) ∈ zwl := zwl_in (zm1 (List.mem_of_getElem? (i := 89) rfl)) rfl
theorem wd_1_90 : (Jvm.Cond.methodLink "RuleTree" (25 : Nat) ({ cls := "RuleTree$Pushed", name := "<init>", desc := "()V" } : Jvm.MethodName)) ∈ zwl := zwl_in (zm1 (List.mem_of_getElem? (i := 90) rfl)) rfl
theorem wd_1_91 : (Jvm.Cond.instanceMethod ({ cls := "RuleTree$Pushed", name := "<init>", desc := "()V" } : Jvm.MethodName)) ∈ zwl := zwl_in (zm1 (List.mem_of_getElem? (i := 91) rfl)) rfl
theorem wd_1_92 : (Jvm.Cond.code ({ cls := "RuleTree$Pushed", name := "<init>", desc := "()V" } : Jvm.MethodName) prog_9_method_1_code (1 : Nat) (Option.none : Option Jvm.ClassFile.FieldType)) ∈ zwl := zwl_in (zm1 (List.mem_of_getElem? (i := 92) rfl)) rfl
theorem wd_1_93 : (Jvm.Cond.methodLink "RuleTree$Pushed" (3 : Nat) ({ cls := "java/lang/Object", name := "<init>", desc := "()V" } : Jvm.MethodName)) ∈ zwl := zwl_in (zm1 (List.mem_of_getElem? (i := 93) rfl)) rfl
theorem wd_1_94 : (Jvm.Cond.classLink "RuleTree$Pushed" (9 : Nat) "RuleTree$Row") ∈ zwl := zwl_in (zm1 (List.mem_of_getElem? (i := 94) rfl)) rfl
theorem wd_1_95 : (Jvm.Cond.methodLink "RuleTree$Pushed" (11 : Nat) ({ cls := "RuleTree$Row", name := "<init>", desc := "()V" } : Jvm.MethodName)) ∈ zwl := zwl_in (zm1 (List.mem_of_getElem? (i := 95) rfl)) rfl
theorem wd_1_96 : (Jvm.Cond.methodLink "RuleTree$Pushed" (18 : Nat) ({ cls := "RuleTree$Row", name := "refill", desc := "(II)V" } : Jvm.MethodName)) ∈ zwl := zwl_in (zm1 (List.mem_of_getElem? (i := 96) rfl)) rfl
theorem wd_1_97 : (Jvm.Cond.instanceMethod ({ cls := "RuleTree$Row", name := "refill", desc := "(II)V" } : Jvm.MethodName)) ∈ zwl := zwl_in (zm1 (List.mem_of_getElem? (i := 97) rfl)) rfl
theorem wd_1_98 : (Jvm.Cond.selects "RuleTree$Row" ({ cls := "RuleTree$Row", name := "refill", desc := "(II)V" } : Jvm.MethodName) ({ cls := "RuleTree$Row", name := "refill", desc := "(II)V" } : Jvm.MethodName)) ∈ zwl := zwl_in (zm1 (List.mem_of_getElem? (i := 98) rfl)) rfl
theorem wd_1_99 : (Jvm.Cond.code ({ cls := "RuleTree$Row", name := "refill", desc := "(II)V" } : Jvm.MethodName) prog_10_method_8_code (4 : Nat) (Option.none : Option Jvm.ClassFile.FieldType)) ∈ zwl := zwl_in (zm1 (List.mem_of_getElem? (i := 99) rfl)) rfl
theorem wd_1_100 : (Jvm.Cond.methodLink "RuleTree$Row" (26 : Nat) ({ cls := "RuleTree$Row", name := "add", desc := "(I)I" } : Jvm.MethodName)) ∈ zwl := zwl_in (zm1 (List.mem_of_getElem? (i := 100) rfl)) rfl
theorem wd_1_101 : (Jvm.Cond.instanceMethod ({ cls := "RuleTree$Row", name := "add", desc := "(I)I" } : Jvm.MethodName)) ∈ zwl := zwl_in (zm1 (List.mem_of_getElem? (i := 101) rfl)) rfl
theorem wd_1_102 : (Jvm.Cond.selects "RuleTree$Row" ({ cls := "RuleTree$Row", name := "add", desc := "(I)I" } : Jvm.MethodName) ({ cls := "RuleTree$Row", name := "add", desc := "(I)I" } : Jvm.MethodName)) ∈ zwl := zwl_in (zm1 (List.mem_of_getElem? (i := 102) rfl)) rfl
theorem wd_1_103 : (Jvm.Cond.code ({ cls := "RuleTree$Row", name := "add", desc := "(I)I" } : Jvm.MethodName) prog_10_method_5_code (2 : Nat) (Option.some Jvm.ClassFile.FieldType.int)) ∈ zwl := zwl_in (zm1 (List.mem_of_getElem? (i := 103) rfl)) rfl
theorem wd_1_104 : (Jvm.Cond.constant "RuleTree$Row" (19 : Nat) (2097152 : Int32)) ∈ zwl := zwl_in (zm1 (List.mem_of_getElem? (i := 104) rfl)) rfl
theorem wd_1_105 : (Jvm.Cond.methodLink "RuleTree$Row" (20 : Nat) ({ cls := "java/util/Arrays", name := "copyOf", desc := "([II)[I" } : Jvm.MethodName)) ∈ zwl := zwl_in (zm1 (List.mem_of_getElem? (i := 105) rfl)) rfl
theorem wd_1_106 : (Jvm.Cond.static ({ cls := "java/util/Arrays", name := "copyOf", desc := "([II)[I" } : Jvm.MethodName)) ∈ zwl := zwl_in (zm1 (List.mem_of_getElem? (i := 106) rfl)) rfl
theorem wd_1_107 : (Jvm.Cond.code ({ cls := "java/util/Arrays", name := "copyOf", desc := "([II)[I" } : Jvm.MethodName) prog_17_method_123_code (3 : Nat) (Option.some (Jvm.ClassFile.FieldType.array Jvm.ClassFile.FieldType.int))) ∈ zwl := zwl_in (zm1 (List.mem_of_getElem? (i := 107) rfl)) rfl
theorem wd_1_108 : (Jvm.Cond.methodLink "java/util/Arrays" (316 : Nat) ({ cls := "[I", name := "clone", desc := "()Ljava/lang/Object;" } : Jvm.MethodName)) ∈ zwl := zwl_in (zm1 (List.mem_of_getElem? (i := 108) rfl)) rfl
theorem wd_1_110 : (Jvm.Cond.native ({ cls := "java/lang/Object", name := "clone", desc := "()Ljava/lang/Object;" } : Jvm.MethodName)) ∈ zwl := zwl_in (zm1 (List.mem_of_getElem? (i := 110) rfl)) rfl
theorem wd_1_111 : (Jvm.Cond.instanceMethod ({ cls := "java/lang/Object", name := "clone", desc := "()Ljava/lang/Object;" } : Jvm.MethodName)) ∈ zwl := zwl_in (zm1 (List.mem_of_getElem? (i := 111) rfl)) rfl
theorem wd_1_112 : (Jvm.Cond.selects "[I" ({ cls := "[I", name := "clone", desc := "()Ljava/lang/Object;" } : Jvm.MethodName) ({ cls := "java/lang/Object", name := "clone", desc := "()Ljava/lang/Object;" } : Jvm.MethodName)) ∈ zwl := zwl_in (zm1 (List.mem_of_getElem? (i := 112) rfl)) rfl
theorem wd_1_114 : (Jvm.Cond.classLink "java/util/Arrays" (317 : Nat) "[I") ∈ zwl := zwl_in (zm1 (List.mem_of_getElem? (i := 114) rfl)) rfl
theorem wd_1_115 : (Jvm.Cond.methodLink "java/util/Arrays" (304 : Nat) ({ cls := "java/lang/Math", name := "min", desc := "(II)I" } : Jvm.MethodName)) ∈ zwl := zwl_in (zm1 (List.mem_of_getElem? (i := 115) rfl)) rfl
theorem wd_1_116 : (Jvm.Cond.static ({ cls := "java/lang/Math", name := "min", desc := "(II)I" } : Jvm.MethodName)) ∈ zwl := zwl_in (zm1 (List.mem_of_getElem? (i := 116) rfl)) rfl
theorem wd_1_117 : (Jvm.Cond.code ({ cls := "java/lang/Math", name := "min", desc := "(II)I" } : Jvm.MethodName) prog_15_method_69_code (2 : Nat) (Option.some Jvm.ClassFile.FieldType.int)) ∈ zwl := zwl_in (zm1 (List.mem_of_getElem? (i := 117) rfl)) rfl
theorem wd_1_118 : (Jvm.Cond.methodLink "java/util/Arrays" (150 : Nat) ({ cls := "java/lang/System", name := "arraycopy", desc := "(Ljava/lang/Object;ILjava/lang/Object;II)V" } : Jvm.MethodName)) ∈ zwl := zwl_in (zm1 (List.mem_of_getElem? (i := 118) rfl)) rfl
theorem wd_1_119 : (Jvm.Cond.static ({ cls := "java/lang/System", name := "arraycopy", desc := "(Ljava/lang/Object;ILjava/lang/Object;II)V" } : Jvm.MethodName)) ∈ zwl := zwl_in (zm1 (List.mem_of_getElem? (i := 119) rfl)) rfl
theorem wd_1_120 : (Jvm.Cond.native ({ cls := "java/lang/System", name := "arraycopy", desc := "(Ljava/lang/Object;ILjava/lang/Object;II)V" } : Jvm.MethodName)) ∈ zwl := zwl_in (zm1 (List.mem_of_getElem? (i := 120) rfl)) rfl
theorem wd_1_121 : (Jvm.Cond.fieldLink "RuleTree$Pushed" (12 : Nat) "RuleTree$Pushed" "patterns" "LRuleTree$Row;") ∈ zwl := zwl_in (zm1 (List.mem_of_getElem? (i := 121) rfl)) rfl
theorem wd_1_122 : (Jvm.Cond.fieldLink "RuleTree$Pushed" (22 : Nat) "RuleTree$Pushed" "many" "I") ∈ zwl := zwl_in (zm1 (List.mem_of_getElem? (i := 122) rfl)) rfl
theorem wd_1_123 : (Jvm.Cond.laysFinal "RuleTree$Pushed" "RuleTree$Pushed" "patterns" "LRuleTree$Row;") ∈ zwl := zwl_in (zm1 (List.mem_of_getElem? (i := 123) rfl)) rfl
theorem wd_1_125 : (Jvm.Cond.lays "RuleTree$Pushed" "RuleTree$Pushed" "many" "I") ∈ zwl := zwl_in (zm1 (List.mem_of_getElem? (i := 125) rfl)) rfl
theorem wd_1_128 : (Jvm.Cond.classLink "RuleTree" (30 : Nat) "RuleTree$Pairs") ∈ zwl := zwl_in (zm1 (List.mem_of_getElem? (i := 128) rfl)) rfl
theorem wd_1_129 : (Jvm.Cond.instantiable "RuleTree$Pairs" (2 : Nat)) ∈ zwl := zwl_in (zm1 (List.mem_of_getElem? (i := 129) rfl)) rfl
theorem wd_1_130 : (Jvm.Cond.methodLink "RuleTree" (32 : Nat) ({ cls := "RuleTree$Pairs", name := "<init>", desc := "(LRuleTree$Patterns;)V" } : Jvm.MethodName)) ∈ zwl := zwl_in (zm1 (List.mem_of_getElem? (i := 130) rfl)) rfl
theorem wd_1_131 : (Jvm.Cond.instanceMethod ({ cls := "RuleTree$Pairs", name := "<init>", desc := "(LRuleTree$Patterns;)V" } : Jvm.MethodName)) ∈ zwl := zwl_in (zm1 (List.mem_of_getElem? (i := 131) rfl)) rfl
theorem wd_1_132 : (Jvm.Cond.code ({ cls := "RuleTree$Pairs", name := "<init>", desc := "(LRuleTree$Patterns;)V" } : Jvm.MethodName) prog_6_method_1_code (2 : Nat) (Option.none : Option Jvm.ClassFile.FieldType)) ∈ zwl := zwl_in (zm1 (List.mem_of_getElem? (i := 132) rfl)) rfl
theorem wd_1_133 : (Jvm.Cond.methodLink "RuleTree$Pairs" (3 : Nat) ({ cls := "java/lang/Object", name := "<init>", desc := "()V" } : Jvm.MethodName)) ∈ zwl := zwl_in (zm1 (List.mem_of_getElem? (i := 133) rfl)) rfl
theorem wd_1_134 : (Jvm.Cond.classLink "RuleTree$Pairs" (15 : Nat) "RuleTree$Row") ∈ zwl := zwl_in (zm1 (List.mem_of_getElem? (i := 134) rfl)) rfl
theorem wd_1_135 : (Jvm.Cond.methodLink "RuleTree$Pairs" (17 : Nat) ({ cls := "RuleTree$Row", name := "<init>", desc := "()V" } : Jvm.MethodName)) ∈ zwl := zwl_in (zm1 (List.mem_of_getElem? (i := 135) rfl)) rfl
theorem wd_1_136 : (Jvm.Cond.fieldLink "RuleTree$Pairs" (9 : Nat) "RuleTree$Pairs" "patterns" "LRuleTree$Patterns;") ∈ zwl := zwl_in (zm1 (List.mem_of_getElem? (i := 136) rfl)) rfl
theorem wd_1_137 : (Jvm.Cond.fieldLink "RuleTree$Pairs" (18 : Nat) "RuleTree$Pairs" "open" "LRuleTree$Row;") ∈ zwl := zwl_in (zm1 (List.mem_of_getElem? (i := 137) rfl)) rfl
theorem wd_1_138 : (Jvm.Cond.laysFinal "RuleTree$Pairs" "RuleTree$Pairs" "patterns" "LRuleTree$Patterns;") ∈ zwl := zwl_in (zm1 (List.mem_of_getElem? (i := 138) rfl)) rfl
theorem wd_1_140 : (Jvm.Cond.laysFinal "RuleTree$Pairs" "RuleTree$Pairs" "open" "LRuleTree$Row;") ∈ zwl := zwl_in (zm1 (List.mem_of_getElem? (i := 140) rfl)) rfl
theorem wd_1_143 : (Jvm.Cond.classLink "RuleTree" (39 : Nat) "RuleTree$Row") ∈ zwl := zwl_in (zm1 (List.mem_of_getElem? (i := 143) rfl)) rfl
theorem wd_1_144 : (Jvm.Cond.methodLink "RuleTree" (41 : Nat) ({ cls := "RuleTree$Row", name := "<init>", desc := "()V" } : Jvm.MethodName)) ∈ zwl := zwl_in (zm1 (List.mem_of_getElem? (i := 144) rfl)) rfl
theorem wd_1_145 : (Jvm.Cond.classLink "RuleTree" (46 : Nat) "RuleTree$Parts") ∈ zwl := zwl_in (zm1 (List.mem_of_getElem? (i := 145) rfl)) rfl
theorem wd_1_146 : (Jvm.Cond.instantiable "RuleTree$Parts" (15 : Nat)) ∈ zwl := zwl_in (zm1 (List.mem_of_getElem? (i := 146) rfl)) rfl
theorem wd_1_147 : (Jvm.Cond.methodLink "RuleTree" (48 : Nat) ({ cls := "RuleTree$Parts", name := "<init>", desc := "(LRuleTree$Patterns;)V" } : Jvm.MethodName)) ∈ zwl := zwl_in (zm1 (List.mem_of_getElem? (i := 147) rfl)) rfl
theorem wd_1_148 : (Jvm.Cond.instanceMethod ({ cls := "RuleTree$Parts", name := "<init>", desc := "(LRuleTree$Patterns;)V" } : Jvm.MethodName)) ∈ zwl := zwl_in (zm1 (List.mem_of_getElem? (i := 148) rfl)) rfl
theorem wd_1_149 : (Jvm.Cond.code ({ cls := "RuleTree$Parts", name := "<init>", desc := "(LRuleTree$Patterns;)V" } : Jvm.MethodName) prog_7_method_1_code (2 : Nat) (Option.none : Option Jvm.ClassFile.FieldType)) ∈ zwl := zwl_in (zm1 (List.mem_of_getElem? (i := 149) rfl)) rfl
theorem wd_1_150 : (Jvm.Cond.methodLink "RuleTree$Parts" (3 : Nat) ({ cls := "java/lang/Object", name := "<init>", desc := "()V" } : Jvm.MethodName)) ∈ zwl := zwl_in (zm1 (List.mem_of_getElem? (i := 150) rfl)) rfl
theorem wd_1_151 : (Jvm.Cond.classLink "RuleTree$Parts" (15 : Nat) "RuleTree$Row") ∈ zwl := zwl_in (zm1 (List.mem_of_getElem? (i := 151) rfl)) rfl
theorem wd_1_152 : (Jvm.Cond.methodLink "RuleTree$Parts" (17 : Nat) ({ cls := "RuleTree$Row", name := "<init>", desc := "()V" } : Jvm.MethodName)) ∈ zwl := zwl_in (zm1 (List.mem_of_getElem? (i := 152) rfl)) rfl
theorem wd_1_153 : (Jvm.Cond.methodLink "RuleTree$Parts" (61 : Nat) ({ cls := "RuleTree$Parts", name := "addPart", desc := "(II)I" } : Jvm.MethodName)) ∈ zwl := zwl_in (zm1 (List.mem_of_getElem? (i := 153) rfl)) rfl
theorem wd_1_155 : (Jvm.Cond.instanceMethod ({ cls := "RuleTree$Parts", name := "addPart", desc := "(II)I" } : Jvm.MethodName)) ∈ zwl := zwl_in (zm1 (List.mem_of_getElem? (i := 155) rfl)) rfl
theorem wd_1_156 : (Jvm.Cond.code ({ cls := "RuleTree$Parts", name := "addPart", desc := "(II)I" } : Jvm.MethodName) prog_7_method_31_code (3 : Nat) (Option.some Jvm.ClassFile.FieldType.int)) ∈ zwl := zwl_in (zm1 (List.mem_of_getElem? (i := 156) rfl)) rfl
theorem wd_1_157 : (Jvm.Cond.methodLink "RuleTree$Parts" (79 : Nat) ({ cls := "RuleTree$Row", name := "add", desc := "(I)I" } : Jvm.MethodName)) ∈ zwl := zwl_in (zm1 (List.mem_of_getElem? (i := 157) rfl)) rfl
theorem wd_1_158 : (Jvm.Cond.fieldLink "RuleTree$Parts" (9 : Nat) "RuleTree$Parts" "patterns" "LRuleTree$Patterns;") ∈ zwl := zwl_in (zm1 (List.mem_of_getElem? (i := 158) rfl)) rfl
theorem wd_1_159 : (Jvm.Cond.fieldLink "RuleTree$Parts" (18 : Nat) "RuleTree$Parts" "shapes" "LRuleTree$Row;") ∈ zwl := zwl_in (zm1 (List.mem_of_getElem? (i := 159) rfl)) rfl
theorem wd_1_160 : (Jvm.Cond.fieldLink "RuleTree$Parts" (22 : Nat) "RuleTree$Parts" "sorts" "LRuleTree$Row;") ∈ zwl := zwl_in (zm1 (List.mem_of_getElem? (i := 160) rfl)) rfl
theorem wd_1_161 : (Jvm.Cond.fieldLink "RuleTree$Parts" (25 : Nat) "RuleTree$Parts" "uppers" "LRuleTree$Row;") ∈ zwl := zwl_in (zm1 (List.mem_of_getElem? (i := 161) rfl)) rfl
theorem wd_1_162 : (Jvm.Cond.fieldLink "RuleTree$Parts" (28 : Nat) "RuleTree$Parts" "upperEdges" "LRuleTree$Row;") ∈ zwl := zwl_in (zm1 (List.mem_of_getElem? (i := 162) rfl)) rfl
theorem wd_1_163 : (Jvm.Cond.fieldLink "RuleTree$Parts" (31 : Nat) "RuleTree$Parts" "firstEdges" "LRuleTree$Row;") ∈ zwl := zwl_in (zm1 (List.mem_of_getElem? (i := 163) rfl)) rfl
theorem wd_1_164 : (Jvm.Cond.fieldLink "RuleTree$Parts" (34 : Nat) "RuleTree$Parts" "labels" "LRuleTree$Row;") ∈ zwl := zwl_in (zm1 (List.mem_of_getElem? (i := 164) rfl)) rfl
theorem wd_1_165 : (Jvm.Cond.fieldLink "RuleTree$Parts" (37 : Nat) "RuleTree$Parts" "nextEdges" "LRuleTree$Row;") ∈ zwl := zwl_in (zm1 (List.mem_of_getElem? (i := 165) rfl)) rfl
theorem wd_1_166 : (Jvm.Cond.fieldLink "RuleTree$Parts" (40 : Nat) "RuleTree$Parts" "children" "LRuleTree$Row;") ∈ zwl := zwl_in (zm1 (List.mem_of_getElem? (i := 166) rfl)) rfl
theorem wd_1_167 : (Jvm.Cond.fieldLink "RuleTree$Parts" (43 : Nat) "RuleTree$Parts" "firstAsks" "LRuleTree$Row;") ∈ zwl := zwl_in (zm1 (List.mem_of_getElem? (i := 167) rfl)) rfl
theorem wd_1_168 : (Jvm.Cond.fieldLink "RuleTree$Parts" (46 : Nat) "RuleTree$Parts" "askRules" "LRuleTree$Row;") ∈ zwl := zwl_in (zm1 (List.mem_of_getElem? (i := 168) rfl)) rfl
theorem wd_1_169 : (Jvm.Cond.fieldLink "RuleTree$Parts" (49 : Nat) "RuleTree$Parts" "askParts" "LRuleTree$Row;") ∈ zwl := zwl_in (zm1 (List.mem_of_getElem? (i := 169) rfl)) rfl
theorem wd_1_170 : (Jvm.Cond.fieldLink "RuleTree$Parts" (52 : Nat) "RuleTree$Parts" "nextAsks" "LRuleTree$Row;") ∈ zwl := zwl_in (zm1 (List.mem_of_getElem? (i := 170) rfl)) rfl
theorem wd_1_171 : (Jvm.Cond.fieldLink "RuleTree$Parts" (55 : Nat) "RuleTree$Parts" "starts" "LRuleTree$Row;") ∈ zwl := zwl_in (zm1 (List.mem_of_getElem? (i := 171) rfl)) rfl
theorem wd_1_172 : (Jvm.Cond.fieldLink "RuleTree$Parts" (58 : Nat) "RuleTree$Parts" "open" "LRuleTree$Row;") ∈ zwl := zwl_in (zm1 (List.mem_of_getElem? (i := 172) rfl)) rfl
theorem wd_1_173 : (Jvm.Cond.laysFinal "RuleTree$Parts" "RuleTree$Parts" "patterns" "LRuleTree$Patterns;") ∈ zwl := zwl_in (zm1 (List.mem_of_getElem? (i := 173) rfl)) rfl
theorem wd_1_175 : (Jvm.Cond.laysFinal "RuleTree$Parts" "RuleTree$Parts" "shapes" "LRuleTree$Row;") ∈ zwl := zwl_in (zm1 (List.mem_of_getElem? (i := 175) rfl)) rfl
theorem wd_1_177 : (Jvm.Cond.laysFinal "RuleTree$Parts" "RuleTree$Parts" "sorts" "LRuleTree$Row;") ∈ zwl := zwl_in (zm1 (List.mem_of_getElem? (i := 177) rfl)) rfl
theorem wd_1_179 : (Jvm.Cond.laysFinal "RuleTree$Parts" "RuleTree$Parts" "uppers" "LRuleTree$Row;") ∈ zwl := zwl_in (zm1 (List.mem_of_getElem? (i := 179) rfl)) rfl
theorem wd_1_181 : (Jvm.Cond.laysFinal "RuleTree$Parts" "RuleTree$Parts" "upperEdges" "LRuleTree$Row;") ∈ zwl := zwl_in (zm1 (List.mem_of_getElem? (i := 181) rfl)) rfl
theorem wd_1_183 : (Jvm.Cond.laysFinal "RuleTree$Parts" "RuleTree$Parts" "firstEdges" "LRuleTree$Row;") ∈ zwl := zwl_in (zm1 (List.mem_of_getElem? (i := 183) rfl)) rfl
theorem wd_1_185 : (Jvm.Cond.laysFinal "RuleTree$Parts" "RuleTree$Parts" "labels" "LRuleTree$Row;") ∈ zwl := zwl_in (zm1 (List.mem_of_getElem? (i := 185) rfl)) rfl
theorem wd_1_187 : (Jvm.Cond.laysFinal "RuleTree$Parts" "RuleTree$Parts" "nextEdges" "LRuleTree$Row;") ∈ zwl := zwl_in (zm1 (List.mem_of_getElem? (i := 187) rfl)) rfl
theorem wd_1_189 : (Jvm.Cond.laysFinal "RuleTree$Parts" "RuleTree$Parts" "children" "LRuleTree$Row;") ∈ zwl := zwl_in (zm1 (List.mem_of_getElem? (i := 189) rfl)) rfl
theorem wd_1_191 : (Jvm.Cond.laysFinal "RuleTree$Parts" "RuleTree$Parts" "firstAsks" "LRuleTree$Row;") ∈ zwl := zwl_in (zm1 (List.mem_of_getElem? (i := 191) rfl)) rfl
theorem wd_1_193 : (Jvm.Cond.laysFinal "RuleTree$Parts" "RuleTree$Parts" "askRules" "LRuleTree$Row;") ∈ zwl := zwl_in (zm1 (List.mem_of_getElem? (i := 193) rfl)) rfl
theorem wd_1_195 : (Jvm.Cond.laysFinal "RuleTree$Parts" "RuleTree$Parts" "askParts" "LRuleTree$Row;") ∈ zwl := zwl_in (zm1 (List.mem_of_getElem? (i := 195) rfl)) rfl
theorem wd_1_197 : (Jvm.Cond.laysFinal "RuleTree$Parts" "RuleTree$Parts" "nextAsks" "LRuleTree$Row;") ∈ zwl := zwl_in (zm1 (List.mem_of_getElem? (i := 197) rfl)) rfl
theorem wd_1_199 : (Jvm.Cond.laysFinal "RuleTree$Parts" "RuleTree$Parts" "starts" "LRuleTree$Row;") ∈ zwl := zwl_in (zm1 (List.mem_of_getElem? (i := 199) rfl)) rfl
theorem wd_1_201 : (Jvm.Cond.laysFinal "RuleTree$Parts" "RuleTree$Parts" "open" "LRuleTree$Row;") ∈ zwl := zwl_in (zm1 (List.mem_of_getElem? (i := 201) rfl)) rfl
theorem wd_1_204 : (Jvm.Cond.classLink "RuleTree" (53 : Nat) "RuleTree$Nodes") ∈ zwl := zwl_in (zm1 (List.mem_of_getElem? (i := 204) rfl)) rfl
theorem wd_1_205 : (Jvm.Cond.instantiable "RuleTree$Nodes" (10 : Nat)) ∈ zwl := zwl_in (zm1 (List.mem_of_getElem? (i := 205) rfl)) rfl
theorem wd_1_206 : (Jvm.Cond.methodLink "RuleTree" (55 : Nat) ({ cls := "RuleTree$Nodes", name := "<init>", desc := "()V" } : Jvm.MethodName)) ∈ zwl := zwl_in (zm1 (List.mem_of_getElem? (i := 206) rfl)) rfl
theorem wd_1_207 : (Jvm.Cond.instanceMethod ({ cls := "RuleTree$Nodes", name := "<init>", desc := "()V" } : Jvm.MethodName)) ∈ zwl := zwl_in (zm1 (List.mem_of_getElem? (i := 207) rfl)) rfl
theorem wd_1_208 : (Jvm.Cond.code ({ cls := "RuleTree$Nodes", name := "<init>", desc := "()V" } : Jvm.MethodName) prog_5_method_1_code (1 : Nat) (Option.none : Option Jvm.ClassFile.FieldType)) ∈ zwl := zwl_in (zm1 (List.mem_of_getElem? (i := 208) rfl)) rfl
theorem wd_1_209 : (Jvm.Cond.methodLink "RuleTree$Nodes" (3 : Nat) ({ cls := "java/lang/Object", name := "<init>", desc := "()V" } : Jvm.MethodName)) ∈ zwl := zwl_in (zm1 (List.mem_of_getElem? (i := 209) rfl)) rfl
theorem wd_1_210 : (Jvm.Cond.classLink "RuleTree$Nodes" (9 : Nat) "RuleTree$Row") ∈ zwl := zwl_in (zm1 (List.mem_of_getElem? (i := 210) rfl)) rfl
theorem wd_1_211 : (Jvm.Cond.methodLink "RuleTree$Nodes" (11 : Nat) ({ cls := "RuleTree$Row", name := "<init>", desc := "()V" } : Jvm.MethodName)) ∈ zwl := zwl_in (zm1 (List.mem_of_getElem? (i := 211) rfl)) rfl
theorem wd_1_212 : (Jvm.Cond.fieldLink "RuleTree$Nodes" (12 : Nat) "RuleTree$Nodes" "parts" "LRuleTree$Row;") ∈ zwl := zwl_in (zm1 (List.mem_of_getElem? (i := 212) rfl)) rfl
theorem wd_1_213 : (Jvm.Cond.fieldLink "RuleTree$Nodes" (18 : Nat) "RuleTree$Nodes" "rules" "LRuleTree$Row;") ∈ zwl := zwl_in (zm1 (List.mem_of_getElem? (i := 213) rfl)) rfl
theorem wd_1_214 : (Jvm.Cond.fieldLink "RuleTree$Nodes" (21 : Nat) "RuleTree$Nodes" "asks" "LRuleTree$Row;") ∈ zwl := zwl_in (zm1 (List.mem_of_getElem? (i := 214) rfl)) rfl
theorem wd_1_215 : (Jvm.Cond.fieldLink "RuleTree$Nodes" (24 : Nat) "RuleTree$Nodes" "uppers" "LRuleTree$Row;") ∈ zwl := zwl_in (zm1 (List.mem_of_getElem? (i := 215) rfl)) rfl
theorem wd_1_216 : (Jvm.Cond.fieldLink "RuleTree$Nodes" (27 : Nat) "RuleTree$Nodes" "edges" "LRuleTree$Row;") ∈ zwl := zwl_in (zm1 (List.mem_of_getElem? (i := 216) rfl)) rfl
theorem wd_1_217 : (Jvm.Cond.fieldLink "RuleTree$Nodes" (30 : Nat) "RuleTree$Nodes" "firsts" "LRuleTree$Row;") ∈ zwl := zwl_in (zm1 (List.mem_of_getElem? (i := 217) rfl)) rfl
theorem wd_1_218 : (Jvm.Cond.fieldLink "RuleTree$Nodes" (33 : Nat) "RuleTree$Nodes" "lasts" "LRuleTree$Row;") ∈ zwl := zwl_in (zm1 (List.mem_of_getElem? (i := 218) rfl)) rfl
theorem wd_1_219 : (Jvm.Cond.fieldLink "RuleTree$Nodes" (36 : Nat) "RuleTree$Nodes" "nexts" "LRuleTree$Row;") ∈ zwl := zwl_in (zm1 (List.mem_of_getElem? (i := 219) rfl)) rfl
theorem wd_1_220 : (Jvm.Cond.fieldLink "RuleTree$Nodes" (39 : Nat) "RuleTree$Nodes" "branches" "LRuleTree$Row;") ∈ zwl := zwl_in (zm1 (List.mem_of_getElem? (i := 220) rfl)) rfl
theorem wd_1_221 : (Jvm.Cond.fieldLink "RuleTree$Nodes" (42 : Nat) "RuleTree$Nodes" "depths" "LRuleTree$Row;") ∈ zwl := zwl_in (zm1 (List.mem_of_getElem? (i := 221) rfl)) rfl
theorem wd_1_222 : (Jvm.Cond.laysFinal "RuleTree$Nodes" "RuleTree$Nodes" "parts" "LRuleTree$Row;") ∈ zwl := zwl_in (zm1 (List.mem_of_getElem? (i := 222) rfl)) rfl
theorem wd_1_224 : (Jvm.Cond.laysFinal "RuleTree$Nodes" "RuleTree$Nodes" "rules" "LRuleTree$Row;") ∈ zwl := zwl_in (zm1 (List.mem_of_getElem? (i := 224) rfl)) rfl
theorem wd_1_226 : (Jvm.Cond.laysFinal "RuleTree$Nodes" "RuleTree$Nodes" "asks" "LRuleTree$Row;") ∈ zwl := zwl_in (zm1 (List.mem_of_getElem? (i := 226) rfl)) rfl
theorem wd_1_228 : (Jvm.Cond.laysFinal "RuleTree$Nodes" "RuleTree$Nodes" "uppers" "LRuleTree$Row;") ∈ zwl := zwl_in (zm1 (List.mem_of_getElem? (i := 228) rfl)) rfl
theorem wd_1_230 : (Jvm.Cond.laysFinal "RuleTree$Nodes" "RuleTree$Nodes" "edges" "LRuleTree$Row;") ∈ zwl := zwl_in (zm1 (List.mem_of_getElem? (i := 230) rfl)) rfl
theorem wd_1_232 : (Jvm.Cond.laysFinal "RuleTree$Nodes" "RuleTree$Nodes" "firsts" "LRuleTree$Row;") ∈ zwl := zwl_in (zm1 (List.mem_of_getElem? (i := 232) rfl)) rfl
theorem wd_1_234 : (Jvm.Cond.laysFinal "RuleTree$Nodes" "RuleTree$Nodes" "lasts" "LRuleTree$Row;") ∈ zwl := zwl_in (zm1 (List.mem_of_getElem? (i := 234) rfl)) rfl
theorem wd_1_236 : (Jvm.Cond.laysFinal "RuleTree$Nodes" "RuleTree$Nodes" "nexts" "LRuleTree$Row;") ∈ zwl := zwl_in (zm1 (List.mem_of_getElem? (i := 236) rfl)) rfl
theorem wd_1_238 : (Jvm.Cond.laysFinal "RuleTree$Nodes" "RuleTree$Nodes" "branches" "LRuleTree$Row;") ∈ zwl := zwl_in (zm1 (List.mem_of_getElem? (i := 238) rfl)) rfl
theorem wd_2_0 : (Jvm.Cond.laysFinal "RuleTree$Nodes" "RuleTree$Nodes" "depths" "LRuleTree$Row;") ∈ zwl := zwl_in (zm2 (List.mem_of_getElem? (i := 0) rfl)) rfl
theorem wd_2_3 : (Jvm.Cond.classLink "RuleTree" (60 : Nat) "RuleTree$Grower") ∈ zwl := zwl_in (zm2 (List.mem_of_getElem? (i := 3) rfl)) rfl
theorem wd_2_4 : (Jvm.Cond.instantiable "RuleTree$Grower" (5 : Nat)) ∈ zwl := zwl_in (zm2 (List.mem_of_getElem? (i := 4) rfl)) rfl
theorem wd_2_5 : (Jvm.Cond.methodLink "RuleTree" (62 : Nat) ({ cls := "RuleTree$Grower", name := "<init>", desc := "(LRuleTree$Families;LRuleTree$Parts;LRuleTree$Nodes;)V" } : Jvm.MethodName)) ∈ zwl := zwl_in (zm2 (List.mem_of_getElem? (i := 5) rfl)) rfl
theorem wd_2_6 : (Jvm.Cond.instanceMethod ({ cls := "RuleTree$Grower", name := "<init>", desc := "(LRuleTree$Families;LRuleTree$Parts;LRuleTree$Nodes;)V" } : Jvm.MethodName)) ∈ zwl := zwl_in (zm2 (List.mem_of_getElem? (i := 6) rfl)) rfl
theorem wd_2_7 : (Jvm.Cond.code ({ cls := "RuleTree$Grower", name := "<init>", desc := "(LRuleTree$Families;LRuleTree$Parts;LRuleTree$Nodes;)V" } : Jvm.MethodName) prog_4_method_1_code (4 : Nat) (Option.none : Option Jvm.ClassFile.FieldType)) ∈ zwl := zwl_in (zm2 (List.mem_of_getElem? (i := 7) rfl)) rfl
theorem wd_2_8 : (Jvm.Cond.methodLink "RuleTree$Grower" (3 : Nat) ({ cls := "java/lang/Object", name := "<init>", desc := "()V" } : Jvm.MethodName)) ∈ zwl := zwl_in (zm2 (List.mem_of_getElem? (i := 8) rfl)) rfl
theorem wd_2_9 : (Jvm.Cond.classLink "RuleTree$Grower" (23 : Nat) "RuleTree$Row") ∈ zwl := zwl_in (zm2 (List.mem_of_getElem? (i := 9) rfl)) rfl
theorem wd_2_10 : (Jvm.Cond.methodLink "RuleTree$Grower" (25 : Nat) ({ cls := "RuleTree$Row", name := "<init>", desc := "()V" } : Jvm.MethodName)) ∈ zwl := zwl_in (zm2 (List.mem_of_getElem? (i := 10) rfl)) rfl
theorem wd_2_11 : (Jvm.Cond.fieldLink "RuleTree$Grower" (9 : Nat) "RuleTree$Grower" "families" "LRuleTree$Families;") ∈ zwl := zwl_in (zm2 (List.mem_of_getElem? (i := 11) rfl)) rfl
theorem wd_2_12 : (Jvm.Cond.fieldLink "RuleTree$Grower" (15 : Nat) "RuleTree$Grower" "parts" "LRuleTree$Parts;") ∈ zwl := zwl_in (zm2 (List.mem_of_getElem? (i := 12) rfl)) rfl
theorem wd_2_13 : (Jvm.Cond.fieldLink "RuleTree$Grower" (19 : Nat) "RuleTree$Grower" "nodes" "LRuleTree$Nodes;") ∈ zwl := zwl_in (zm2 (List.mem_of_getElem? (i := 13) rfl)) rfl
theorem wd_2_14 : (Jvm.Cond.fieldLink "RuleTree$Grower" (26 : Nat) "RuleTree$Grower" "outs" "LRuleTree$Row;") ∈ zwl := zwl_in (zm2 (List.mem_of_getElem? (i := 14) rfl)) rfl
theorem wd_2_15 : (Jvm.Cond.fieldLink "RuleTree$Grower" (30 : Nat) "RuleTree$Grower" "looked" "LRuleTree$Row;") ∈ zwl := zwl_in (zm2 (List.mem_of_getElem? (i := 15) rfl)) rfl
theorem wd_2_16 : (Jvm.Cond.laysFinal "RuleTree$Grower" "RuleTree$Grower" "families" "LRuleTree$Families;") ∈ zwl := zwl_in (zm2 (List.mem_of_getElem? (i := 16) rfl)) rfl
theorem wd_2_18 : (Jvm.Cond.laysFinal "RuleTree$Grower" "RuleTree$Grower" "parts" "LRuleTree$Parts;") ∈ zwl := zwl_in (zm2 (List.mem_of_getElem? (i := 18) rfl)) rfl
theorem wd_2_20 : (Jvm.Cond.laysFinal "RuleTree$Grower" "RuleTree$Grower" "nodes" "LRuleTree$Nodes;") ∈ zwl := zwl_in (zm2 (List.mem_of_getElem? (i := 20) rfl)) rfl
theorem wd_2_22 : (Jvm.Cond.laysFinal "RuleTree$Grower" "RuleTree$Grower" "outs" "LRuleTree$Row;") ∈ zwl := zwl_in (zm2 (List.mem_of_getElem? (i := 22) rfl)) rfl
theorem wd_2_24 : (Jvm.Cond.laysFinal "RuleTree$Grower" "RuleTree$Grower" "looked" "LRuleTree$Row;") ∈ zwl := zwl_in (zm2 (List.mem_of_getElem? (i := 24) rfl)) rfl
theorem wd_2_27 : (Jvm.Cond.classLink "RuleTree" (69 : Nat) "RuleTree$Walker") ∈ zwl := zwl_in (zm2 (List.mem_of_getElem? (i := 27) rfl)) rfl
theorem wd_2_28 : (Jvm.Cond.instantiable "RuleTree$Walker" (6 : Nat)) ∈ zwl := zwl_in (zm2 (List.mem_of_getElem? (i := 28) rfl)) rfl
theorem wd_2_29 : (Jvm.Cond.methodLink "RuleTree" (71 : Nat) ({ cls := "RuleTree$Walker", name := "<init>", desc := "(LRuleTree$Patterns;LRuleTree$Parts;LRuleTree$Nodes;)V" } : Jvm.MethodName)) ∈ zwl := zwl_in (zm2 (List.mem_of_getElem? (i := 29) rfl)) rfl
theorem wd_2_30 : (Jvm.Cond.instanceMethod ({ cls := "RuleTree$Walker", name := "<init>", desc := "(LRuleTree$Patterns;LRuleTree$Parts;LRuleTree$Nodes;)V" } : Jvm.MethodName)) ∈ zwl := zwl_in (zm2 (List.mem_of_getElem? (i := 30) rfl)) rfl
theorem wd_2_31 : (Jvm.Cond.code ({ cls := "RuleTree$Walker", name := "<init>", desc := "(LRuleTree$Patterns;LRuleTree$Parts;LRuleTree$Nodes;)V" } : Jvm.MethodName) prog_11_method_1_code (4 : Nat) (Option.none : Option Jvm.ClassFile.FieldType)) ∈ zwl := zwl_in (zm2 (List.mem_of_getElem? (i := 31) rfl)) rfl
theorem wd_2_32 : (Jvm.Cond.methodLink "RuleTree$Walker" (3 : Nat) ({ cls := "java/lang/Object", name := "<init>", desc := "()V" } : Jvm.MethodName)) ∈ zwl := zwl_in (zm2 (List.mem_of_getElem? (i := 32) rfl)) rfl
theorem wd_2_33 : (Jvm.Cond.classLink "RuleTree$Walker" (23 : Nat) "RuleTree$Row") ∈ zwl := zwl_in (zm2 (List.mem_of_getElem? (i := 33) rfl)) rfl
theorem wd_2_34 : (Jvm.Cond.methodLink "RuleTree$Walker" (25 : Nat) ({ cls := "RuleTree$Row", name := "<init>", desc := "()V" } : Jvm.MethodName)) ∈ zwl := zwl_in (zm2 (List.mem_of_getElem? (i := 34) rfl)) rfl
theorem wd_2_35 : (Jvm.Cond.fieldLink "RuleTree$Walker" (9 : Nat) "RuleTree$Walker" "patterns" "LRuleTree$Patterns;") ∈ zwl := zwl_in (zm2 (List.mem_of_getElem? (i := 35) rfl)) rfl
theorem wd_2_36 : (Jvm.Cond.fieldLink "RuleTree$Walker" (15 : Nat) "RuleTree$Walker" "parts" "LRuleTree$Parts;") ∈ zwl := zwl_in (zm2 (List.mem_of_getElem? (i := 36) rfl)) rfl
theorem wd_2_37 : (Jvm.Cond.fieldLink "RuleTree$Walker" (19 : Nat) "RuleTree$Walker" "nodes" "LRuleTree$Nodes;") ∈ zwl := zwl_in (zm2 (List.mem_of_getElem? (i := 37) rfl)) rfl
theorem wd_2_38 : (Jvm.Cond.fieldLink "RuleTree$Walker" (26 : Nat) "RuleTree$Walker" "seen" "LRuleTree$Row;") ∈ zwl := zwl_in (zm2 (List.mem_of_getElem? (i := 38) rfl)) rfl
theorem wd_2_39 : (Jvm.Cond.fieldLink "RuleTree$Walker" (30 : Nat) "RuleTree$Walker" "climbed" "LRuleTree$Row;") ∈ zwl := zwl_in (zm2 (List.mem_of_getElem? (i := 39) rfl)) rfl
theorem wd_2_40 : (Jvm.Cond.fieldLink "RuleTree$Walker" (33 : Nat) "RuleTree$Walker" "looked" "I") ∈ zwl := zwl_in (zm2 (List.mem_of_getElem? (i := 40) rfl)) rfl
theorem wd_2_41 : (Jvm.Cond.laysFinal "RuleTree$Walker" "RuleTree$Walker" "patterns" "LRuleTree$Patterns;") ∈ zwl := zwl_in (zm2 (List.mem_of_getElem? (i := 41) rfl)) rfl
theorem wd_2_43 : (Jvm.Cond.laysFinal "RuleTree$Walker" "RuleTree$Walker" "parts" "LRuleTree$Parts;") ∈ zwl := zwl_in (zm2 (List.mem_of_getElem? (i := 43) rfl)) rfl
theorem wd_2_45 : (Jvm.Cond.laysFinal "RuleTree$Walker" "RuleTree$Walker" "nodes" "LRuleTree$Nodes;") ∈ zwl := zwl_in (zm2 (List.mem_of_getElem? (i := 45) rfl)) rfl
theorem wd_2_47 : (Jvm.Cond.laysFinal "RuleTree$Walker" "RuleTree$Walker" "seen" "LRuleTree$Row;") ∈ zwl := zwl_in (zm2 (List.mem_of_getElem? (i := 47) rfl)) rfl
theorem wd_2_49 : (Jvm.Cond.laysFinal "RuleTree$Walker" "RuleTree$Walker" "climbed" "LRuleTree$Row;") ∈ zwl := zwl_in (zm2 (List.mem_of_getElem? (i := 49) rfl)) rfl
theorem wd_2_51 : (Jvm.Cond.lays "RuleTree$Walker" "RuleTree$Walker" "looked" "I") ∈ zwl := zwl_in (zm2 (List.mem_of_getElem? (i := 51) rfl)) rfl
theorem wd_2_54 : (Jvm.Cond.classLink "RuleTree" (78 : Nat) "RuleTree$Gap") ∈ zwl := zwl_in (zm2 (List.mem_of_getElem? (i := 54) rfl)) rfl
theorem wd_2_55 : (Jvm.Cond.instantiable "RuleTree$Gap" (6 : Nat)) ∈ zwl := zwl_in (zm2 (List.mem_of_getElem? (i := 55) rfl)) rfl
theorem wd_2_56 : (Jvm.Cond.methodLink "RuleTree" (80 : Nat) ({ cls := "RuleTree$Gap", name := "<init>", desc := "(LRuleTree$Families;LRuleTree$Parts;LRuleTree$Nodes;)V" } : Jvm.MethodName)) ∈ zwl := zwl_in (zm2 (List.mem_of_getElem? (i := 56) rfl)) rfl
theorem wd_2_57 : (Jvm.Cond.instanceMethod ({ cls := "RuleTree$Gap", name := "<init>", desc := "(LRuleTree$Families;LRuleTree$Parts;LRuleTree$Nodes;)V" } : Jvm.MethodName)) ∈ zwl := zwl_in (zm2 (List.mem_of_getElem? (i := 57) rfl)) rfl
theorem wd_2_58 : (Jvm.Cond.code ({ cls := "RuleTree$Gap", name := "<init>", desc := "(LRuleTree$Families;LRuleTree$Parts;LRuleTree$Nodes;)V" } : Jvm.MethodName) prog_3_method_1_code (4 : Nat) (Option.none : Option Jvm.ClassFile.FieldType)) ∈ zwl := zwl_in (zm2 (List.mem_of_getElem? (i := 58) rfl)) rfl
theorem wd_2_59 : (Jvm.Cond.methodLink "RuleTree$Gap" (3 : Nat) ({ cls := "java/lang/Object", name := "<init>", desc := "()V" } : Jvm.MethodName)) ∈ zwl := zwl_in (zm2 (List.mem_of_getElem? (i := 59) rfl)) rfl
theorem wd_2_60 : (Jvm.Cond.classLink "RuleTree$Gap" (23 : Nat) "RuleTree$Row") ∈ zwl := zwl_in (zm2 (List.mem_of_getElem? (i := 60) rfl)) rfl
theorem wd_2_61 : (Jvm.Cond.methodLink "RuleTree$Gap" (25 : Nat) ({ cls := "RuleTree$Row", name := "<init>", desc := "()V" } : Jvm.MethodName)) ∈ zwl := zwl_in (zm2 (List.mem_of_getElem? (i := 61) rfl)) rfl
theorem wd_2_62 : (Jvm.Cond.fieldLink "RuleTree$Gap" (9 : Nat) "RuleTree$Gap" "families" "LRuleTree$Families;") ∈ zwl := zwl_in (zm2 (List.mem_of_getElem? (i := 62) rfl)) rfl
theorem wd_2_63 : (Jvm.Cond.fieldLink "RuleTree$Gap" (15 : Nat) "RuleTree$Gap" "parts" "LRuleTree$Parts;") ∈ zwl := zwl_in (zm2 (List.mem_of_getElem? (i := 63) rfl)) rfl
theorem wd_2_64 : (Jvm.Cond.fieldLink "RuleTree$Gap" (19 : Nat) "RuleTree$Gap" "nodes" "LRuleTree$Nodes;") ∈ zwl := zwl_in (zm2 (List.mem_of_getElem? (i := 64) rfl)) rfl
theorem wd_2_65 : (Jvm.Cond.fieldLink "RuleTree$Gap" (26 : Nat) "RuleTree$Gap" "told" "LRuleTree$Row;") ∈ zwl := zwl_in (zm2 (List.mem_of_getElem? (i := 65) rfl)) rfl
theorem wd_2_66 : (Jvm.Cond.fieldLink "RuleTree$Gap" (30 : Nat) "RuleTree$Gap" "marks" "LRuleTree$Row;") ∈ zwl := zwl_in (zm2 (List.mem_of_getElem? (i := 66) rfl)) rfl
theorem wd_2_67 : (Jvm.Cond.fieldLink "RuleTree$Gap" (33 : Nat) "RuleTree$Gap" "end" "I") ∈ zwl := zwl_in (zm2 (List.mem_of_getElem? (i := 67) rfl)) rfl
theorem wd_2_68 : (Jvm.Cond.laysFinal "RuleTree$Gap" "RuleTree$Gap" "families" "LRuleTree$Families;") ∈ zwl := zwl_in (zm2 (List.mem_of_getElem? (i := 68) rfl)) rfl
theorem wd_2_70 : (Jvm.Cond.laysFinal "RuleTree$Gap" "RuleTree$Gap" "parts" "LRuleTree$Parts;") ∈ zwl := zwl_in (zm2 (List.mem_of_getElem? (i := 70) rfl)) rfl
theorem wd_2_72 : (Jvm.Cond.laysFinal "RuleTree$Gap" "RuleTree$Gap" "nodes" "LRuleTree$Nodes;") ∈ zwl := zwl_in (zm2 (List.mem_of_getElem? (i := 72) rfl)) rfl
theorem wd_2_74 : (Jvm.Cond.laysFinal "RuleTree$Gap" "RuleTree$Gap" "told" "LRuleTree$Row;") ∈ zwl := zwl_in (zm2 (List.mem_of_getElem? (i := 74) rfl)) rfl
theorem wd_2_76 : (Jvm.Cond.laysFinal "RuleTree$Gap" "RuleTree$Gap" "marks" "LRuleTree$Row;") ∈ zwl := zwl_in (zm2 (List.mem_of_getElem? (i := 76) rfl)) rfl
theorem wd_2_78 : (Jvm.Cond.lays "RuleTree$Gap" "RuleTree$Gap" "end" "I") ∈ zwl := zwl_in (zm2 (List.mem_of_getElem? (i := 78) rfl)) rfl
theorem wd_2_81 : (Jvm.Cond.fieldLink "RuleTree" (10 : Nat) "RuleTree" "families" "LRuleTree$Families;") ∈ zwl := zwl_in (zm2 (List.mem_of_getElem? (i := 81) rfl)) rfl
theorem wd_2_82 : (Jvm.Cond.fieldLink "RuleTree" (19 : Nat) "RuleTree" "patterns" "LRuleTree$Patterns;") ∈ zwl := zwl_in (zm2 (List.mem_of_getElem? (i := 82) rfl)) rfl
theorem wd_2_83 : (Jvm.Cond.fieldLink "RuleTree" (26 : Nat) "RuleTree" "pushed" "LRuleTree$Pushed;") ∈ zwl := zwl_in (zm2 (List.mem_of_getElem? (i := 83) rfl)) rfl
theorem wd_2_84 : (Jvm.Cond.fieldLink "RuleTree" (35 : Nat) "RuleTree" "pairs" "LRuleTree$Pairs;") ∈ zwl := zwl_in (zm2 (List.mem_of_getElem? (i := 84) rfl)) rfl
theorem wd_2_85 : (Jvm.Cond.fieldLink "RuleTree" (42 : Nat) "RuleTree" "rules" "LRuleTree$Row;") ∈ zwl := zwl_in (zm2 (List.mem_of_getElem? (i := 85) rfl)) rfl
theorem wd_2_86 : (Jvm.Cond.fieldLink "RuleTree" (49 : Nat) "RuleTree" "parts" "LRuleTree$Parts;") ∈ zwl := zwl_in (zm2 (List.mem_of_getElem? (i := 86) rfl)) rfl
theorem wd_2_87 : (Jvm.Cond.fieldLink "RuleTree" (56 : Nat) "RuleTree" "nodes" "LRuleTree$Nodes;") ∈ zwl := zwl_in (zm2 (List.mem_of_getElem? (i := 87) rfl)) rfl
theorem wd_2_88 : (Jvm.Cond.fieldLink "RuleTree" (65 : Nat) "RuleTree" "grower" "LRuleTree$Grower;") ∈ zwl := zwl_in (zm2 (List.mem_of_getElem? (i := 88) rfl)) rfl
theorem wd_2_89 : (Jvm.Cond.fieldLink "RuleTree" (74 : Nat) "RuleTree" "walker" "LRuleTree$Walker;") ∈ zwl := zwl_in (zm2 (List.mem_of_getElem? (i := 89) rfl)) rfl
theorem wd_2_90 : (Jvm.Cond.fieldLink "RuleTree" (81 : Nat) "RuleTree" "gap" "LRuleTree$Gap;") ∈ zwl := zwl_in (zm2 (List.mem_of_getElem? (i := 90) rfl)) rfl
theorem wd_2_91 : (Jvm.Cond.fieldLink "RuleTree" (85 : Nat) "RuleTree" "rulesWeight" "I") ∈ zwl := zwl_in (zm2 (List.mem_of_getElem? (i := 91) rfl)) rfl
theorem wd_2_92 : (Jvm.Cond.fieldLink "RuleTree" (89 : Nat) "RuleTree" "grown" "I") ∈ zwl := zwl_in (zm2 (List.mem_of_getElem? (i := 92) rfl)) rfl
theorem wd_2_93 : (Jvm.Cond.laysFinal "RuleTree" "RuleTree" "families" "LRuleTree$Families;") ∈ zwl := zwl_in (zm2 (List.mem_of_getElem? (i := 93) rfl)) rfl
theorem wd_2_95 : (Jvm.Cond.laysFinal "RuleTree" "RuleTree" "patterns" "LRuleTree$Patterns;") ∈ zwl := zwl_in (zm2 (List.mem_of_getElem? (i := 95) rfl)) rfl
theorem wd_2_97 : (Jvm.Cond.laysFinal "RuleTree" "RuleTree" "pushed" "LRuleTree$Pushed;") ∈ zwl := zwl_in (zm2 (List.mem_of_getElem? (i := 97) rfl)) rfl
theorem wd_2_99 : (Jvm.Cond.laysFinal "RuleTree" "RuleTree" "pairs" "LRuleTree$Pairs;") ∈ zwl := zwl_in (zm2 (List.mem_of_getElem? (i := 99) rfl)) rfl
theorem wd_2_101 : (Jvm.Cond.laysFinal "RuleTree" "RuleTree" "rules" "LRuleTree$Row;") ∈ zwl := zwl_in (zm2 (List.mem_of_getElem? (i := 101) rfl)) rfl
theorem wd_2_103 : (Jvm.Cond.laysFinal "RuleTree" "RuleTree" "parts" "LRuleTree$Parts;") ∈ zwl := zwl_in (zm2 (List.mem_of_getElem? (i := 103) rfl)) rfl
theorem wd_2_105 : (Jvm.Cond.laysFinal "RuleTree" "RuleTree" "nodes" "LRuleTree$Nodes;") ∈ zwl := zwl_in (zm2 (List.mem_of_getElem? (i := 105) rfl)) rfl
theorem wd_2_107 : (Jvm.Cond.laysFinal "RuleTree" "RuleTree" "grower" "LRuleTree$Grower;") ∈ zwl := zwl_in (zm2 (List.mem_of_getElem? (i := 107) rfl)) rfl
theorem wd_2_109 : (Jvm.Cond.laysFinal "RuleTree" "RuleTree" "walker" "LRuleTree$Walker;") ∈ zwl := zwl_in (zm2 (List.mem_of_getElem? (i := 109) rfl)) rfl
theorem wd_2_111 : (Jvm.Cond.laysFinal "RuleTree" "RuleTree" "gap" "LRuleTree$Gap;") ∈ zwl := zwl_in (zm2 (List.mem_of_getElem? (i := 111) rfl)) rfl
theorem wd_2_113 : (Jvm.Cond.lays "RuleTree" "RuleTree" "rulesWeight" "I") ∈ zwl := zwl_in (zm2 (List.mem_of_getElem? (i := 113) rfl)) rfl
theorem wd_2_115 : (Jvm.Cond.lays "RuleTree" "RuleTree" "grown" "I") ∈ zwl := zwl_in (zm2 (List.mem_of_getElem? (i := 115) rfl)) rfl
theorem wd_2_118 : (Jvm.Cond.methodLink "RuleTreeLaw" (15 : Nat) ({ cls := "RuleTree", name := "family", desc := "(IJ)I" } : Jvm.MethodName)) ∈ zwl := zwl_in (zm2 (List.mem_of_getElem? (i := 118) rfl)) rfl
theorem wd_2_119 : (Jvm.Cond.instanceMethod ({ cls := "RuleTree", name := "family", desc := "(IJ)I" } : Jvm.MethodName)) ∈ zwl := zwl_in (zm2 (List.mem_of_getElem? (i := 119) rfl)) rfl
theorem wd_2_120 : (Jvm.Cond.selects "RuleTree" ({ cls := "RuleTree", name := "family", desc := "(IJ)I" } : Jvm.MethodName) ({ cls := "RuleTree", name := "family", desc := "(IJ)I" } : Jvm.MethodName)) ∈ zwl := zwl_in (zm2 (List.mem_of_getElem? (i := 120) rfl)) rfl
theorem wd_2_121 : (Jvm.Cond.code ({ cls := "RuleTree", name := "family", desc := "(IJ)I" } : Jvm.MethodName) prog_1_method_2_code (4 : Nat) (Option.some Jvm.ClassFile.FieldType.int)) ∈ zwl := zwl_in (zm2 (List.mem_of_getElem? (i := 121) rfl)) rfl
theorem wd_2_122 : (Jvm.Cond.methodLink "RuleTree" (92 : Nat) ({ cls := "RuleTree$Families", name := "add", desc := "(IJ)I" } : Jvm.MethodName)) ∈ zwl := zwl_in (zm2 (List.mem_of_getElem? (i := 122) rfl)) rfl
theorem wd_2_123 : (Jvm.Cond.instanceMethod ({ cls := "RuleTree$Families", name := "add", desc := "(IJ)I" } : Jvm.MethodName)) ∈ zwl := zwl_in (zm2 (List.mem_of_getElem? (i := 123) rfl)) rfl
theorem wd_2_124 : (Jvm.Cond.selects "RuleTree$Families" ({ cls := "RuleTree$Families", name := "add", desc := "(IJ)I" } : Jvm.MethodName) ({ cls := "RuleTree$Families", name := "add", desc := "(IJ)I" } : Jvm.MethodName)) ∈ zwl := zwl_in (zm2 (List.mem_of_getElem? (i := 124) rfl)) rfl
theorem wd_2_125 : (Jvm.Cond.code ({ cls := "RuleTree$Families", name := "add", desc := "(IJ)I" } : Jvm.MethodName) prog_2_method_3_code (5 : Nat) (Option.some Jvm.ClassFile.FieldType.int)) ∈ zwl := zwl_in (zm2 (List.mem_of_getElem? (i := 125) rfl)) rfl
theorem wd_2_126 : (Jvm.Cond.methodLink "RuleTree$Families" (22 : Nat) ({ cls := "RuleTree$Row", name := "size", desc := "()I" } : Jvm.MethodName)) ∈ zwl := zwl_in (zm2 (List.mem_of_getElem? (i := 126) rfl)) rfl
theorem wd_2_127 : (Jvm.Cond.instanceMethod ({ cls := "RuleTree$Row", name := "size", desc := "()I" } : Jvm.MethodName)) ∈ zwl := zwl_in (zm2 (List.mem_of_getElem? (i := 127) rfl)) rfl
theorem wd_2_128 : (Jvm.Cond.selects "RuleTree$Row" ({ cls := "RuleTree$Row", name := "size", desc := "()I" } : Jvm.MethodName) ({ cls := "RuleTree$Row", name := "size", desc := "()I" } : Jvm.MethodName)) ∈ zwl := zwl_in (zm2 (List.mem_of_getElem? (i := 128) rfl)) rfl
theorem wd_2_129 : (Jvm.Cond.code ({ cls := "RuleTree$Row", name := "size", desc := "()I" } : Jvm.MethodName) prog_10_method_2_code (1 : Nat) (Option.some Jvm.ClassFile.FieldType.int)) ∈ zwl := zwl_in (zm2 (List.mem_of_getElem? (i := 129) rfl)) rfl
theorem wd_2_130 : (Jvm.Cond.methodLink "RuleTree$Families" (26 : Nat) ({ cls := "RuleTree$Row", name := "add", desc := "(I)I" } : Jvm.MethodName)) ∈ zwl := zwl_in (zm2 (List.mem_of_getElem? (i := 130) rfl)) rfl
theorem wd_2_131 : (Jvm.Cond.methodLink "RuleTreeLaw" (20 : Nat) ({ cls := "RuleTree", name := "any", desc := "()I" } : Jvm.MethodName)) ∈ zwl := zwl_in (zm2 (List.mem_of_getElem? (i := 131) rfl)) rfl
theorem wd_2_132 : (Jvm.Cond.instanceMethod ({ cls := "RuleTree", name := "any", desc := "()I" } : Jvm.MethodName)) ∈ zwl := zwl_in (zm2 (List.mem_of_getElem? (i := 132) rfl)) rfl
theorem wd_2_133 : (Jvm.Cond.selects "RuleTree" ({ cls := "RuleTree", name := "any", desc := "()I" } : Jvm.MethodName) ({ cls := "RuleTree", name := "any", desc := "()I" } : Jvm.MethodName)) ∈ zwl := zwl_in (zm2 (List.mem_of_getElem? (i := 133) rfl)) rfl
theorem wd_2_134 : (Jvm.Cond.code ({ cls := "RuleTree", name := "any", desc := "()I" } : Jvm.MethodName) prog_1_method_3_code (1 : Nat) (Option.some Jvm.ClassFile.FieldType.int)) ∈ zwl := zwl_in (zm2 (List.mem_of_getElem? (i := 134) rfl)) rfl
theorem wd_2_135 : (Jvm.Cond.methodLink "RuleTree" (96 : Nat) ({ cls := "RuleTree$Patterns", name := "addPlain", desc := "(IIII)I" } : Jvm.MethodName)) ∈ zwl := zwl_in (zm2 (List.mem_of_getElem? (i := 135) rfl)) rfl
theorem wd_2_136 : (Jvm.Cond.instanceMethod ({ cls := "RuleTree$Patterns", name := "addPlain", desc := "(IIII)I" } : Jvm.MethodName)) ∈ zwl := zwl_in (zm2 (List.mem_of_getElem? (i := 136) rfl)) rfl
theorem wd_2_137 : (Jvm.Cond.selects "RuleTree$Patterns" ({ cls := "RuleTree$Patterns", name := "addPlain", desc := "(IIII)I" } : Jvm.MethodName) ({ cls := "RuleTree$Patterns", name := "addPlain", desc := "(IIII)I" } : Jvm.MethodName)) ∈ zwl := zwl_in (zm2 (List.mem_of_getElem? (i := 137) rfl)) rfl
theorem wd_2_138 : (Jvm.Cond.code ({ cls := "RuleTree$Patterns", name := "addPlain", desc := "(IIII)I" } : Jvm.MethodName) prog_8_method_13_code (7 : Nat) (Option.some Jvm.ClassFile.FieldType.int)) ∈ zwl := zwl_in (zm2 (List.mem_of_getElem? (i := 138) rfl)) rfl
theorem wd_2_139 : (Jvm.Cond.methodLink "RuleTree$Patterns" (46 : Nat) ({ cls := "RuleTree$Row", name := "at", desc := "(I)I" } : Jvm.MethodName)) ∈ zwl := zwl_in (zm2 (List.mem_of_getElem? (i := 139) rfl)) rfl
theorem wd_2_140 : (Jvm.Cond.instanceMethod ({ cls := "RuleTree$Row", name := "at", desc := "(I)I" } : Jvm.MethodName)) ∈ zwl := zwl_in (zm2 (List.mem_of_getElem? (i := 140) rfl)) rfl
theorem wd_2_141 : (Jvm.Cond.selects "RuleTree$Row" ({ cls := "RuleTree$Row", name := "at", desc := "(I)I" } : Jvm.MethodName) ({ cls := "RuleTree$Row", name := "at", desc := "(I)I" } : Jvm.MethodName)) ∈ zwl := zwl_in (zm2 (List.mem_of_getElem? (i := 141) rfl)) rfl
theorem wd_2_142 : (Jvm.Cond.code ({ cls := "RuleTree$Row", name := "at", desc := "(I)I" } : Jvm.MethodName) prog_10_method_3_code (2 : Nat) (Option.some Jvm.ClassFile.FieldType.int)) ∈ zwl := zwl_in (zm2 (List.mem_of_getElem? (i := 142) rfl)) rfl
theorem wd_2_143 : (Jvm.Cond.methodLink "RuleTree$Patterns" (50 : Nat) ({ cls := "RuleTree$Patterns", name := "hasRoom", desc := "(I)Z" } : Jvm.MethodName)) ∈ zwl := zwl_in (zm2 (List.mem_of_getElem? (i := 143) rfl)) rfl
theorem wd_2_145 : (Jvm.Cond.instanceMethod ({ cls := "RuleTree$Patterns", name := "hasRoom", desc := "(I)Z" } : Jvm.MethodName)) ∈ zwl := zwl_in (zm2 (List.mem_of_getElem? (i := 145) rfl)) rfl
theorem wd_2_146 : (Jvm.Cond.code ({ cls := "RuleTree$Patterns", name := "hasRoom", desc := "(I)Z" } : Jvm.MethodName) prog_8_method_16_code (2 : Nat) (Option.some Jvm.ClassFile.FieldType.boolean)) ∈ zwl := zwl_in (zm2 (List.mem_of_getElem? (i := 146) rfl)) rfl
theorem wd_2_147 : (Jvm.Cond.methodLink "RuleTree$Patterns" (42 : Nat) ({ cls := "RuleTree$Row", name := "size", desc := "()I" } : Jvm.MethodName)) ∈ zwl := zwl_in (zm2 (List.mem_of_getElem? (i := 147) rfl)) rfl
theorem wd_2_148 : (Jvm.Cond.methodLink "RuleTree$Patterns" (54 : Nat) ({ cls := "RuleTree$Patterns", name := "isValue", desc := "(I)Z" } : Jvm.MethodName)) ∈ zwl := zwl_in (zm2 (List.mem_of_getElem? (i := 148) rfl)) rfl
theorem wd_2_149 : (Jvm.Cond.instanceMethod ({ cls := "RuleTree$Patterns", name := "isValue", desc := "(I)Z" } : Jvm.MethodName)) ∈ zwl := zwl_in (zm2 (List.mem_of_getElem? (i := 149) rfl)) rfl
theorem wd_2_150 : (Jvm.Cond.selects "RuleTree$Patterns" ({ cls := "RuleTree$Patterns", name := "isValue", desc := "(I)Z" } : Jvm.MethodName) ({ cls := "RuleTree$Patterns", name := "isValue", desc := "(I)Z" } : Jvm.MethodName)) ∈ zwl := zwl_in (zm2 (List.mem_of_getElem? (i := 150) rfl)) rfl
theorem wd_2_151 : (Jvm.Cond.code ({ cls := "RuleTree$Patterns", name := "isValue", desc := "(I)Z" } : Jvm.MethodName) prog_8_method_8_code (2 : Nat) (Option.some Jvm.ClassFile.FieldType.boolean)) ∈ zwl := zwl_in (zm2 (List.mem_of_getElem? (i := 151) rfl)) rfl
theorem wd_2_152 : (Jvm.Cond.methodLink "RuleTree$Patterns" (57 : Nat) ({ cls := "RuleTree$Row", name := "add", desc := "(I)I" } : Jvm.MethodName)) ∈ zwl := zwl_in (zm2 (List.mem_of_getElem? (i := 152) rfl)) rfl
theorem wd_2_153 : (Jvm.Cond.methodLink "RuleTreeLaw" (25 : Nat) ({ cls := "RuleTree", name := "constant", desc := "(II)I" } : Jvm.MethodName)) ∈ zwl := zwl_in (zm2 (List.mem_of_getElem? (i := 153) rfl)) rfl
theorem wd_2_154 : (Jvm.Cond.instanceMethod ({ cls := "RuleTree", name := "constant", desc := "(II)I" } : Jvm.MethodName)) ∈ zwl := zwl_in (zm2 (List.mem_of_getElem? (i := 154) rfl)) rfl
theorem wd_2_155 : (Jvm.Cond.selects "RuleTree" ({ cls := "RuleTree", name := "constant", desc := "(II)I" } : Jvm.MethodName) ({ cls := "RuleTree", name := "constant", desc := "(II)I" } : Jvm.MethodName)) ∈ zwl := zwl_in (zm2 (List.mem_of_getElem? (i := 155) rfl)) rfl
theorem wd_2_156 : (Jvm.Cond.code ({ cls := "RuleTree", name := "constant", desc := "(II)I" } : Jvm.MethodName) prog_1_method_4_code (3 : Nat) (Option.some Jvm.ClassFile.FieldType.int)) ∈ zwl := zwl_in (zm2 (List.mem_of_getElem? (i := 156) rfl)) rfl
theorem wd_2_157 : (Jvm.Cond.methodLink "RuleTreeLaw" (30 : Nat) ({ cls := "RuleTree", name := "built", desc := "(III)I" } : Jvm.MethodName)) ∈ zwl := zwl_in (zm2 (List.mem_of_getElem? (i := 157) rfl)) rfl
theorem wd_2_158 : (Jvm.Cond.instanceMethod ({ cls := "RuleTree", name := "built", desc := "(III)I" } : Jvm.MethodName)) ∈ zwl := zwl_in (zm2 (List.mem_of_getElem? (i := 158) rfl)) rfl
theorem wd_2_159 : (Jvm.Cond.selects "RuleTree" ({ cls := "RuleTree", name := "built", desc := "(III)I" } : Jvm.MethodName) ({ cls := "RuleTree", name := "built", desc := "(III)I" } : Jvm.MethodName)) ∈ zwl := zwl_in (zm2 (List.mem_of_getElem? (i := 159) rfl)) rfl
theorem wd_2_160 : (Jvm.Cond.code ({ cls := "RuleTree", name := "built", desc := "(III)I" } : Jvm.MethodName) prog_1_method_5_code (5 : Nat) (Option.some Jvm.ClassFile.FieldType.int)) ∈ zwl := zwl_in (zm2 (List.mem_of_getElem? (i := 160) rfl)) rfl
theorem wd_2_161 : (Jvm.Cond.methodLink "RuleTree" (100 : Nat) ({ cls := "RuleTree$Families", name := "hasTag", desc := "(II)Z" } : Jvm.MethodName)) ∈ zwl := zwl_in (zm2 (List.mem_of_getElem? (i := 161) rfl)) rfl
theorem wd_2_162 : (Jvm.Cond.instanceMethod ({ cls := "RuleTree$Families", name := "hasTag", desc := "(II)Z" } : Jvm.MethodName)) ∈ zwl := zwl_in (zm2 (List.mem_of_getElem? (i := 162) rfl)) rfl
theorem wd_2_163 : (Jvm.Cond.selects "RuleTree$Families" ({ cls := "RuleTree$Families", name := "hasTag", desc := "(II)Z" } : Jvm.MethodName) ({ cls := "RuleTree$Families", name := "hasTag", desc := "(II)Z" } : Jvm.MethodName)) ∈ zwl := zwl_in (zm2 (List.mem_of_getElem? (i := 163) rfl)) rfl
theorem wd_2_164 : (Jvm.Cond.code ({ cls := "RuleTree$Families", name := "hasTag", desc := "(II)Z" } : Jvm.MethodName) prog_2_method_5_code (3 : Nat) (Option.some Jvm.ClassFile.FieldType.boolean)) ∈ zwl := zwl_in (zm2 (List.mem_of_getElem? (i := 164) rfl)) rfl
theorem wd_2_165 : (Jvm.Cond.methodLink "RuleTree$Families" (30 : Nat) ({ cls := "RuleTree$Row", name := "at", desc := "(I)I" } : Jvm.MethodName)) ∈ zwl := zwl_in (zm2 (List.mem_of_getElem? (i := 165) rfl)) rfl
theorem wd_2_166 : (Jvm.Cond.methodLink "RuleTree" (104 : Nat) ({ cls := "RuleTree$Families", name := "takesArgument", desc := "(II)Z" } : Jvm.MethodName)) ∈ zwl := zwl_in (zm2 (List.mem_of_getElem? (i := 166) rfl)) rfl
theorem wd_2_167 : (Jvm.Cond.instanceMethod ({ cls := "RuleTree$Families", name := "takesArgument", desc := "(II)Z" } : Jvm.MethodName)) ∈ zwl := zwl_in (zm2 (List.mem_of_getElem? (i := 167) rfl)) rfl
theorem wd_2_168 : (Jvm.Cond.selects "RuleTree$Families" ({ cls := "RuleTree$Families", name := "takesArgument", desc := "(II)Z" } : Jvm.MethodName) ({ cls := "RuleTree$Families", name := "takesArgument", desc := "(II)Z" } : Jvm.MethodName)) ∈ zwl := zwl_in (zm2 (List.mem_of_getElem? (i := 168) rfl)) rfl
theorem wd_2_169 : (Jvm.Cond.code ({ cls := "RuleTree$Families", name := "takesArgument", desc := "(II)Z" } : Jvm.MethodName) prog_2_method_6_code (3 : Nat) (Option.some Jvm.ClassFile.FieldType.boolean)) ∈ zwl := zwl_in (zm2 (List.mem_of_getElem? (i := 169) rfl)) rfl
theorem wd_2_170 : (Jvm.Cond.methodLink "RuleTree$Families" (33 : Nat) ({ cls := "RuleTree$Families", name := "hasTag", desc := "(II)Z" } : Jvm.MethodName)) ∈ zwl := zwl_in (zm2 (List.mem_of_getElem? (i := 170) rfl)) rfl
theorem wd_2_171 : (Jvm.Cond.methodLink "RuleTree" (107 : Nat) ({ cls := "RuleTree$Patterns", name := "has", desc := "(I)Z" } : Jvm.MethodName)) ∈ zwl := zwl_in (zm2 (List.mem_of_getElem? (i := 171) rfl)) rfl
theorem wd_2_172 : (Jvm.Cond.instanceMethod ({ cls := "RuleTree$Patterns", name := "has", desc := "(I)Z" } : Jvm.MethodName)) ∈ zwl := zwl_in (zm2 (List.mem_of_getElem? (i := 172) rfl)) rfl
theorem wd_2_173 : (Jvm.Cond.selects "RuleTree$Patterns" ({ cls := "RuleTree$Patterns", name := "has", desc := "(I)Z" } : Jvm.MethodName) ({ cls := "RuleTree$Patterns", name := "has", desc := "(I)Z" } : Jvm.MethodName)) ∈ zwl := zwl_in (zm2 (List.mem_of_getElem? (i := 173) rfl)) rfl
theorem wd_2_174 : (Jvm.Cond.code ({ cls := "RuleTree$Patterns", name := "has", desc := "(I)Z" } : Jvm.MethodName) prog_8_method_3_code (2 : Nat) (Option.some Jvm.ClassFile.FieldType.boolean)) ∈ zwl := zwl_in (zm2 (List.mem_of_getElem? (i := 174) rfl)) rfl
theorem wd_2_175 : (Jvm.Cond.methodLink "RuleTreeLaw" (35 : Nat) ({ cls := "RuleTree", name := "name", desc := "(II)I" } : Jvm.MethodName)) ∈ zwl := zwl_in (zm2 (List.mem_of_getElem? (i := 175) rfl)) rfl
theorem wd_2_176 : (Jvm.Cond.instanceMethod ({ cls := "RuleTree", name := "name", desc := "(II)I" } : Jvm.MethodName)) ∈ zwl := zwl_in (zm2 (List.mem_of_getElem? (i := 176) rfl)) rfl
theorem wd_2_177 : (Jvm.Cond.selects "RuleTree" ({ cls := "RuleTree", name := "name", desc := "(II)I" } : Jvm.MethodName) ({ cls := "RuleTree", name := "name", desc := "(II)I" } : Jvm.MethodName)) ∈ zwl := zwl_in (zm2 (List.mem_of_getElem? (i := 177) rfl)) rfl
theorem wd_2_178 : (Jvm.Cond.code ({ cls := "RuleTree", name := "name", desc := "(II)I" } : Jvm.MethodName) prog_1_method_6_code (3 : Nat) (Option.some Jvm.ClassFile.FieldType.int)) ∈ zwl := zwl_in (zm2 (List.mem_of_getElem? (i := 178) rfl)) rfl
theorem wd_2_179 : (Jvm.Cond.methodLink "RuleTreeLaw" (39 : Nat) ({ cls := "RuleTree", name := "push", desc := "(II)I" } : Jvm.MethodName)) ∈ zwl := zwl_in (zm2 (List.mem_of_getElem? (i := 179) rfl)) rfl
theorem wd_2_180 : (Jvm.Cond.instanceMethod ({ cls := "RuleTree", name := "push", desc := "(II)I" } : Jvm.MethodName)) ∈ zwl := zwl_in (zm2 (List.mem_of_getElem? (i := 180) rfl)) rfl
theorem wd_2_181 : (Jvm.Cond.selects "RuleTree" ({ cls := "RuleTree", name := "push", desc := "(II)I" } : Jvm.MethodName) ({ cls := "RuleTree", name := "push", desc := "(II)I" } : Jvm.MethodName)) ∈ zwl := zwl_in (zm2 (List.mem_of_getElem? (i := 181) rfl)) rfl
theorem wd_2_182 : (Jvm.Cond.code ({ cls := "RuleTree", name := "push", desc := "(II)I" } : Jvm.MethodName) prog_1_method_7_code (3 : Nat) (Option.some Jvm.ClassFile.FieldType.int)) ∈ zwl := zwl_in (zm2 (List.mem_of_getElem? (i := 182) rfl)) rfl
theorem wd_2_183 : (Jvm.Cond.methodLink "RuleTree" (111 : Nat) ({ cls := "RuleTree$Pushed", name := "at", desc := "(I)I" } : Jvm.MethodName)) ∈ zwl := zwl_in (zm2 (List.mem_of_getElem? (i := 183) rfl)) rfl
theorem wd_2_184 : (Jvm.Cond.instanceMethod ({ cls := "RuleTree$Pushed", name := "at", desc := "(I)I" } : Jvm.MethodName)) ∈ zwl := zwl_in (zm2 (List.mem_of_getElem? (i := 184) rfl)) rfl
theorem wd_2_185 : (Jvm.Cond.selects "RuleTree$Pushed" ({ cls := "RuleTree$Pushed", name := "at", desc := "(I)I" } : Jvm.MethodName) ({ cls := "RuleTree$Pushed", name := "at", desc := "(I)I" } : Jvm.MethodName)) ∈ zwl := zwl_in (zm2 (List.mem_of_getElem? (i := 185) rfl)) rfl
theorem wd_2_186 : (Jvm.Cond.code ({ cls := "RuleTree$Pushed", name := "at", desc := "(I)I" } : Jvm.MethodName) prog_9_method_3_code (2 : Nat) (Option.some Jvm.ClassFile.FieldType.int)) ∈ zwl := zwl_in (zm2 (List.mem_of_getElem? (i := 186) rfl)) rfl
theorem wd_2_187 : (Jvm.Cond.methodLink "RuleTree$Pushed" (26 : Nat) ({ cls := "RuleTree$Row", name := "at", desc := "(I)I" } : Jvm.MethodName)) ∈ zwl := zwl_in (zm2 (List.mem_of_getElem? (i := 187) rfl)) rfl
theorem wd_2_188 : (Jvm.Cond.methodLink "RuleTree" (115 : Nat) ({ cls := "RuleTree$Pushed", name := "put", desc := "(II)V" } : Jvm.MethodName)) ∈ zwl := zwl_in (zm2 (List.mem_of_getElem? (i := 188) rfl)) rfl
theorem wd_2_189 : (Jvm.Cond.instanceMethod ({ cls := "RuleTree$Pushed", name := "put", desc := "(II)V" } : Jvm.MethodName)) ∈ zwl := zwl_in (zm2 (List.mem_of_getElem? (i := 189) rfl)) rfl
theorem wd_2_190 : (Jvm.Cond.selects "RuleTree$Pushed" ({ cls := "RuleTree$Pushed", name := "put", desc := "(II)V" } : Jvm.MethodName) ({ cls := "RuleTree$Pushed", name := "put", desc := "(II)V" } : Jvm.MethodName)) ∈ zwl := zwl_in (zm2 (List.mem_of_getElem? (i := 190) rfl)) rfl
theorem wd_2_191 : (Jvm.Cond.code ({ cls := "RuleTree$Pushed", name := "put", desc := "(II)V" } : Jvm.MethodName) prog_9_method_4_code (3 : Nat) (Option.none : Option Jvm.ClassFile.FieldType)) ∈ zwl := zwl_in (zm2 (List.mem_of_getElem? (i := 191) rfl)) rfl
theorem wd_2_192 : (Jvm.Cond.methodLink "RuleTree$Pushed" (30 : Nat) ({ cls := "RuleTree$Row", name := "set", desc := "(II)V" } : Jvm.MethodName)) ∈ zwl := zwl_in (zm2 (List.mem_of_getElem? (i := 192) rfl)) rfl
theorem wd_2_193 : (Jvm.Cond.instanceMethod ({ cls := "RuleTree$Row", name := "set", desc := "(II)V" } : Jvm.MethodName)) ∈ zwl := zwl_in (zm2 (List.mem_of_getElem? (i := 193) rfl)) rfl
theorem wd_2_194 : (Jvm.Cond.selects "RuleTree$Row" ({ cls := "RuleTree$Row", name := "set", desc := "(II)V" } : Jvm.MethodName) ({ cls := "RuleTree$Row", name := "set", desc := "(II)V" } : Jvm.MethodName)) ∈ zwl := zwl_in (zm2 (List.mem_of_getElem? (i := 194) rfl)) rfl
theorem wd_2_195 : (Jvm.Cond.code ({ cls := "RuleTree$Row", name := "set", desc := "(II)V" } : Jvm.MethodName) prog_10_method_4_code (3 : Nat) (Option.none : Option Jvm.ClassFile.FieldType)) ∈ zwl := zwl_in (zm2 (List.mem_of_getElem? (i := 195) rfl)) rfl
theorem wd_2_196 : (Jvm.Cond.methodLink "RuleTree" (119 : Nat) ({ cls := "RuleTree$Pushed", name := "many", desc := "()I" } : Jvm.MethodName)) ∈ zwl := zwl_in (zm2 (List.mem_of_getElem? (i := 196) rfl)) rfl
theorem wd_2_197 : (Jvm.Cond.instanceMethod ({ cls := "RuleTree$Pushed", name := "many", desc := "()I" } : Jvm.MethodName)) ∈ zwl := zwl_in (zm2 (List.mem_of_getElem? (i := 197) rfl)) rfl
theorem wd_2_198 : (Jvm.Cond.selects "RuleTree$Pushed" ({ cls := "RuleTree$Pushed", name := "many", desc := "()I" } : Jvm.MethodName) ({ cls := "RuleTree$Pushed", name := "many", desc := "()I" } : Jvm.MethodName)) ∈ zwl := zwl_in (zm2 (List.mem_of_getElem? (i := 198) rfl)) rfl
theorem wd_2_199 : (Jvm.Cond.code ({ cls := "RuleTree$Pushed", name := "many", desc := "()I" } : Jvm.MethodName) prog_9_method_2_code (1 : Nat) (Option.some Jvm.ClassFile.FieldType.int)) ∈ zwl := zwl_in (zm2 (List.mem_of_getElem? (i := 199) rfl)) rfl
theorem wd_2_200 : (Jvm.Cond.methodLink "RuleTreeLaw" (43 : Nat) ({ cls := "RuleTree", name := "record", desc := "(I)I" } : Jvm.MethodName)) ∈ zwl := zwl_in (zm2 (List.mem_of_getElem? (i := 200) rfl)) rfl
theorem wd_2_201 : (Jvm.Cond.instanceMethod ({ cls := "RuleTree", name := "record", desc := "(I)I" } : Jvm.MethodName)) ∈ zwl := zwl_in (zm2 (List.mem_of_getElem? (i := 201) rfl)) rfl
theorem wd_2_202 : (Jvm.Cond.selects "RuleTree" ({ cls := "RuleTree", name := "record", desc := "(I)I" } : Jvm.MethodName) ({ cls := "RuleTree", name := "record", desc := "(I)I" } : Jvm.MethodName)) ∈ zwl := zwl_in (zm2 (List.mem_of_getElem? (i := 202) rfl)) rfl
theorem wd_2_203 : (Jvm.Cond.code ({ cls := "RuleTree", name := "record", desc := "(I)I" } : Jvm.MethodName) prog_1_method_8_code (3 : Nat) (Option.some Jvm.ClassFile.FieldType.int)) ∈ zwl := zwl_in (zm2 (List.mem_of_getElem? (i := 203) rfl)) rfl
theorem wd_2_204 : (Jvm.Cond.methodLink "RuleTree" (123 : Nat) ({ cls := "RuleTree$Pushed", name := "reachesTo", desc := "(I)Z" } : Jvm.MethodName)) ∈ zwl := zwl_in (zm2 (List.mem_of_getElem? (i := 204) rfl)) rfl
theorem wd_2_205 : (Jvm.Cond.instanceMethod ({ cls := "RuleTree$Pushed", name := "reachesTo", desc := "(I)Z" } : Jvm.MethodName)) ∈ zwl := zwl_in (zm2 (List.mem_of_getElem? (i := 205) rfl)) rfl
theorem wd_2_206 : (Jvm.Cond.selects "RuleTree$Pushed" ({ cls := "RuleTree$Pushed", name := "reachesTo", desc := "(I)Z" } : Jvm.MethodName) ({ cls := "RuleTree$Pushed", name := "reachesTo", desc := "(I)Z" } : Jvm.MethodName)) ∈ zwl := zwl_in (zm2 (List.mem_of_getElem? (i := 206) rfl)) rfl
theorem wd_2_207 : (Jvm.Cond.code ({ cls := "RuleTree$Pushed", name := "reachesTo", desc := "(I)Z" } : Jvm.MethodName) prog_9_method_5_code (3 : Nat) (Option.some Jvm.ClassFile.FieldType.boolean)) ∈ zwl := zwl_in (zm2 (List.mem_of_getElem? (i := 207) rfl)) rfl
theorem wd_2_208 : (Jvm.Cond.methodLink "RuleTree" (126 : Nat) ({ cls := "RuleTree$Patterns", name := "addRecord", desc := "(ILRuleTree$Pushed;)I" } : Jvm.MethodName)) ∈ zwl := zwl_in (zm2 (List.mem_of_getElem? (i := 208) rfl)) rfl
theorem wd_2_209 : (Jvm.Cond.instanceMethod ({ cls := "RuleTree$Patterns", name := "addRecord", desc := "(ILRuleTree$Pushed;)I" } : Jvm.MethodName)) ∈ zwl := zwl_in (zm2 (List.mem_of_getElem? (i := 209) rfl)) rfl
theorem wd_2_210 : (Jvm.Cond.selects "RuleTree$Patterns" ({ cls := "RuleTree$Patterns", name := "addRecord", desc := "(ILRuleTree$Pushed;)I" } : Jvm.MethodName) ({ cls := "RuleTree$Patterns", name := "addRecord", desc := "(ILRuleTree$Pushed;)I" } : Jvm.MethodName)) ∈ zwl := zwl_in (zm2 (List.mem_of_getElem? (i := 210) rfl)) rfl
theorem wd_2_211 : (Jvm.Cond.code ({ cls := "RuleTree$Patterns", name := "addRecord", desc := "(ILRuleTree$Pushed;)I" } : Jvm.MethodName) prog_8_method_14_code (5 : Nat) (Option.some Jvm.ClassFile.FieldType.int)) ∈ zwl := zwl_in (zm2 (List.mem_of_getElem? (i := 211) rfl)) rfl
theorem wd_2_212 : (Jvm.Cond.methodLink "RuleTree$Patterns" (60 : Nat) ({ cls := "RuleTree$Patterns", name := "recordWeight", desc := "(ILRuleTree$Pushed;)I" } : Jvm.MethodName)) ∈ zwl := zwl_in (zm2 (List.mem_of_getElem? (i := 212) rfl)) rfl
theorem wd_2_214 : (Jvm.Cond.instanceMethod ({ cls := "RuleTree$Patterns", name := "recordWeight", desc := "(ILRuleTree$Pushed;)I" } : Jvm.MethodName)) ∈ zwl := zwl_in (zm2 (List.mem_of_getElem? (i := 214) rfl)) rfl
theorem wd_2_215 : (Jvm.Cond.code ({ cls := "RuleTree$Patterns", name := "recordWeight", desc := "(ILRuleTree$Pushed;)I" } : Jvm.MethodName) prog_8_method_17_code (6 : Nat) (Option.some Jvm.ClassFile.FieldType.int)) ∈ zwl := zwl_in (zm2 (List.mem_of_getElem? (i := 215) rfl)) rfl
theorem wd_2_216 : (Jvm.Cond.methodLink "RuleTree$Patterns" (80 : Nat) ({ cls := "RuleTree$Pushed", name := "at", desc := "(I)I" } : Jvm.MethodName)) ∈ zwl := zwl_in (zm2 (List.mem_of_getElem? (i := 216) rfl)) rfl
theorem wd_2_217 : (Jvm.Cond.methodLink "RuleTree$Patterns" (64 : Nat) ({ cls := "RuleTree$Patterns", name := "isFull", desc := "(ILRuleTree$Pushed;)Z" } : Jvm.MethodName)) ∈ zwl := zwl_in (zm2 (List.mem_of_getElem? (i := 217) rfl)) rfl
theorem wd_2_219 : (Jvm.Cond.instanceMethod ({ cls := "RuleTree$Patterns", name := "isFull", desc := "(ILRuleTree$Pushed;)Z" } : Jvm.MethodName)) ∈ zwl := zwl_in (zm2 (List.mem_of_getElem? (i := 219) rfl)) rfl
theorem wd_2_220 : (Jvm.Cond.code ({ cls := "RuleTree$Patterns", name := "isFull", desc := "(ILRuleTree$Pushed;)Z" } : Jvm.MethodName) prog_8_method_18_code (4 : Nat) (Option.some Jvm.ClassFile.FieldType.boolean)) ∈ zwl := zwl_in (zm2 (List.mem_of_getElem? (i := 220) rfl)) rfl
theorem wd_2_221 : (Jvm.Cond.methodLink "RuleTree$Patterns" (68 : Nat) ({ cls := "RuleTree$Pushed", name := "many", desc := "()I" } : Jvm.MethodName)) ∈ zwl := zwl_in (zm2 (List.mem_of_getElem? (i := 221) rfl)) rfl
theorem wd_2_222 : (Jvm.Cond.methodLink "RuleTree$Patterns" (73 : Nat) ({ cls := "RuleTree$Patterns", name := "addFields", desc := "(ILRuleTree$Pushed;)V" } : Jvm.MethodName)) ∈ zwl := zwl_in (zm2 (List.mem_of_getElem? (i := 222) rfl)) rfl
theorem wd_2_224 : (Jvm.Cond.instanceMethod ({ cls := "RuleTree$Patterns", name := "addFields", desc := "(ILRuleTree$Pushed;)V" } : Jvm.MethodName)) ∈ zwl := zwl_in (zm2 (List.mem_of_getElem? (i := 224) rfl)) rfl
theorem wd_2_225 : (Jvm.Cond.code ({ cls := "RuleTree$Patterns", name := "addFields", desc := "(ILRuleTree$Pushed;)V" } : Jvm.MethodName) prog_8_method_19_code (4 : Nat) (Option.none : Option Jvm.ClassFile.FieldType)) ∈ zwl := zwl_in (zm2 (List.mem_of_getElem? (i := 225) rfl)) rfl
theorem wd_2_226 : (Jvm.Cond.methodLink "RuleTree" (130 : Nat) ({ cls := "RuleTree$Pushed", name := "empty", desc := "()V" } : Jvm.MethodName)) ∈ zwl := zwl_in (zm2 (List.mem_of_getElem? (i := 226) rfl)) rfl
theorem wd_2_227 : (Jvm.Cond.instanceMethod ({ cls := "RuleTree$Pushed", name := "empty", desc := "()V" } : Jvm.MethodName)) ∈ zwl := zwl_in (zm2 (List.mem_of_getElem? (i := 227) rfl)) rfl
theorem wd_2_228 : (Jvm.Cond.selects "RuleTree$Pushed" ({ cls := "RuleTree$Pushed", name := "empty", desc := "()V" } : Jvm.MethodName) ({ cls := "RuleTree$Pushed", name := "empty", desc := "()V" } : Jvm.MethodName)) ∈ zwl := zwl_in (zm2 (List.mem_of_getElem? (i := 228) rfl)) rfl
theorem wd_2_229 : (Jvm.Cond.code ({ cls := "RuleTree$Pushed", name := "empty", desc := "()V" } : Jvm.MethodName) prog_9_method_6_code (1 : Nat) (Option.none : Option Jvm.ClassFile.FieldType)) ∈ zwl := zwl_in (zm2 (List.mem_of_getElem? (i := 229) rfl)) rfl
theorem wd_2_230 : (Jvm.Cond.methodLink "RuleTreeLaw" (48 : Nat) ({ cls := "RuleTree", name := "rule", desc := "(I)I" } : Jvm.MethodName)) ∈ zwl := zwl_in (zm2 (List.mem_of_getElem? (i := 230) rfl)) rfl
theorem wd_2_231 : (Jvm.Cond.instanceMethod ({ cls := "RuleTree", name := "rule", desc := "(I)I" } : Jvm.MethodName)) ∈ zwl := zwl_in (zm2 (List.mem_of_getElem? (i := 231) rfl)) rfl
theorem wd_2_232 : (Jvm.Cond.selects "RuleTree" ({ cls := "RuleTree", name := "rule", desc := "(I)I" } : Jvm.MethodName) ({ cls := "RuleTree", name := "rule", desc := "(I)I" } : Jvm.MethodName)) ∈ zwl := zwl_in (zm2 (List.mem_of_getElem? (i := 232) rfl)) rfl
theorem wd_2_233 : (Jvm.Cond.code ({ cls := "RuleTree", name := "rule", desc := "(I)I" } : Jvm.MethodName) prog_1_method_9_code (4 : Nat) (Option.some Jvm.ClassFile.FieldType.int)) ∈ zwl := zwl_in (zm2 (List.mem_of_getElem? (i := 233) rfl)) rfl
theorem wd_2_234 : (Jvm.Cond.methodLink "RuleTree" (133 : Nat) ({ cls := "RuleTree", name := "goesWithRules", desc := "(I)Z" } : Jvm.MethodName)) ∈ zwl := zwl_in (zm2 (List.mem_of_getElem? (i := 234) rfl)) rfl
theorem wd_2_236 : (Jvm.Cond.instanceMethod ({ cls := "RuleTree", name := "goesWithRules", desc := "(I)Z" } : Jvm.MethodName)) ∈ zwl := zwl_in (zm2 (List.mem_of_getElem? (i := 236) rfl)) rfl
theorem wd_2_237 : (Jvm.Cond.code ({ cls := "RuleTree", name := "goesWithRules", desc := "(I)Z" } : Jvm.MethodName) prog_1_method_22_code (4 : Nat) (Option.some Jvm.ClassFile.FieldType.boolean)) ∈ zwl := zwl_in (zm2 (List.mem_of_getElem? (i := 237) rfl)) rfl
theorem wd_2_238 : (Jvm.Cond.methodLink "RuleTree" (139 : Nat) ({ cls := "RuleTree$Row", name := "size", desc := "()I" } : Jvm.MethodName)) ∈ zwl := zwl_in (zm2 (List.mem_of_getElem? (i := 238) rfl)) rfl
theorem wd_2_239 : (Jvm.Cond.methodLink "RuleTree" (172 : Nat) ({ cls := "RuleTree$Row", name := "at", desc := "(I)I" } : Jvm.MethodName)) ∈ zwl := zwl_in (zm2 (List.mem_of_getElem? (i := 239) rfl)) rfl
theorem wd_3_0 : (Jvm.Cond.methodLink "RuleTree" (187 : Nat) ({ cls := "RuleTree$Pairs", name := "goTogether", desc := "(II)Z" } : Jvm.MethodName)) ∈ zwl := zwl_in (zm3 (List.mem_of_getElem? (i := 0) rfl)) rfl
theorem wd_3_1 : (Jvm.Cond.instanceMethod ({ cls := "RuleTree$Pairs", name := "goTogether", desc := "(II)Z" } : Jvm.MethodName)) ∈ zwl := zwl_in (zm3 (List.mem_of_getElem? (i := 1) rfl)) rfl
theorem wd_3_2 : (Jvm.Cond.selects "RuleTree$Pairs" ({ cls := "RuleTree$Pairs", name := "goTogether", desc := "(II)Z" } : Jvm.MethodName) ({ cls := "RuleTree$Pairs", name := "goTogether", desc := "(II)Z" } : Jvm.MethodName)) ∈ zwl := zwl_in (zm3 (List.mem_of_getElem? (i := 2) rfl)) rfl
theorem wd_3_3 : (Jvm.Cond.code ({ cls := "RuleTree$Pairs", name := "goTogether", desc := "(II)Z" } : Jvm.MethodName) prog_6_method_3_code (3 : Nat) (Option.some Jvm.ClassFile.FieldType.boolean)) ∈ zwl := zwl_in (zm3 (List.mem_of_getElem? (i := 3) rfl)) rfl
theorem wd_3_4 : (Jvm.Cond.methodLink "RuleTree$Pairs" (22 : Nat) ({ cls := "RuleTree$Pairs", name := "hold", desc := "(IIZ)Z" } : Jvm.MethodName)) ∈ zwl := zwl_in (zm3 (List.mem_of_getElem? (i := 4) rfl)) rfl
theorem wd_3_6 : (Jvm.Cond.instanceMethod ({ cls := "RuleTree$Pairs", name := "hold", desc := "(IIZ)Z" } : Jvm.MethodName)) ∈ zwl := zwl_in (zm3 (List.mem_of_getElem? (i := 6) rfl)) rfl
theorem wd_3_7 : (Jvm.Cond.code ({ cls := "RuleTree$Pairs", name := "hold", desc := "(IIZ)Z" } : Jvm.MethodName) prog_6_method_4_code (8 : Nat) (Option.some Jvm.ClassFile.FieldType.boolean)) ∈ zwl := zwl_in (zm3 (List.mem_of_getElem? (i := 7) rfl)) rfl
theorem wd_3_8 : (Jvm.Cond.methodLink "RuleTree$Pairs" (26 : Nat) ({ cls := "RuleTree$Row", name := "empty", desc := "()V" } : Jvm.MethodName)) ∈ zwl := zwl_in (zm3 (List.mem_of_getElem? (i := 8) rfl)) rfl
theorem wd_3_9 : (Jvm.Cond.instanceMethod ({ cls := "RuleTree$Row", name := "empty", desc := "()V" } : Jvm.MethodName)) ∈ zwl := zwl_in (zm3 (List.mem_of_getElem? (i := 9) rfl)) rfl
theorem wd_3_10 : (Jvm.Cond.selects "RuleTree$Row" ({ cls := "RuleTree$Row", name := "empty", desc := "()V" } : Jvm.MethodName) ({ cls := "RuleTree$Row", name := "empty", desc := "()V" } : Jvm.MethodName)) ∈ zwl := zwl_in (zm3 (List.mem_of_getElem? (i := 10) rfl)) rfl
theorem wd_3_11 : (Jvm.Cond.code ({ cls := "RuleTree$Row", name := "empty", desc := "()V" } : Jvm.MethodName) prog_10_method_7_code (1 : Nat) (Option.none : Option Jvm.ClassFile.FieldType)) ∈ zwl := zwl_in (zm3 (List.mem_of_getElem? (i := 11) rfl)) rfl
theorem wd_3_12 : (Jvm.Cond.methodLink "RuleTree$Pairs" (29 : Nat) ({ cls := "RuleTree$Pairs", name := "putPair", desc := "(II)V" } : Jvm.MethodName)) ∈ zwl := zwl_in (zm3 (List.mem_of_getElem? (i := 12) rfl)) rfl
theorem wd_3_14 : (Jvm.Cond.instanceMethod ({ cls := "RuleTree$Pairs", name := "putPair", desc := "(II)V" } : Jvm.MethodName)) ∈ zwl := zwl_in (zm3 (List.mem_of_getElem? (i := 14) rfl)) rfl
theorem wd_3_15 : (Jvm.Cond.code ({ cls := "RuleTree$Pairs", name := "putPair", desc := "(II)V" } : Jvm.MethodName) prog_6_method_5_code (3 : Nat) (Option.none : Option Jvm.ClassFile.FieldType)) ∈ zwl := zwl_in (zm3 (List.mem_of_getElem? (i := 15) rfl)) rfl
theorem wd_3_16 : (Jvm.Cond.methodLink "RuleTree$Pairs" (48 : Nat) ({ cls := "RuleTree$Row", name := "add", desc := "(I)I" } : Jvm.MethodName)) ∈ zwl := zwl_in (zm3 (List.mem_of_getElem? (i := 16) rfl)) rfl
theorem wd_3_17 : (Jvm.Cond.methodLink "RuleTree$Pairs" (33 : Nat) ({ cls := "RuleTree$Row", name := "size", desc := "()I" } : Jvm.MethodName)) ∈ zwl := zwl_in (zm3 (List.mem_of_getElem? (i := 17) rfl)) rfl
theorem wd_3_18 : (Jvm.Cond.constant "RuleTree$Pairs" (37 : Nat) (1000000 : Int32)) ∈ zwl := zwl_in (zm3 (List.mem_of_getElem? (i := 18) rfl)) rfl
theorem wd_3_19 : (Jvm.Cond.methodLink "RuleTree$Pairs" (38 : Nat) ({ cls := "RuleTree$Row", name := "take", desc := "()I" } : Jvm.MethodName)) ∈ zwl := zwl_in (zm3 (List.mem_of_getElem? (i := 19) rfl)) rfl
theorem wd_3_20 : (Jvm.Cond.instanceMethod ({ cls := "RuleTree$Row", name := "take", desc := "()I" } : Jvm.MethodName)) ∈ zwl := zwl_in (zm3 (List.mem_of_getElem? (i := 20) rfl)) rfl
theorem wd_3_21 : (Jvm.Cond.selects "RuleTree$Row" ({ cls := "RuleTree$Row", name := "take", desc := "()I" } : Jvm.MethodName) ({ cls := "RuleTree$Row", name := "take", desc := "()I" } : Jvm.MethodName)) ∈ zwl := zwl_in (zm3 (List.mem_of_getElem? (i := 21) rfl)) rfl
theorem wd_3_22 : (Jvm.Cond.code ({ cls := "RuleTree$Row", name := "take", desc := "()I" } : Jvm.MethodName) prog_10_method_6_code (1 : Nat) (Option.some Jvm.ClassFile.FieldType.int)) ∈ zwl := zwl_in (zm3 (List.mem_of_getElem? (i := 22) rfl)) rfl
theorem wd_3_23 : (Jvm.Cond.methodLink "RuleTree$Pairs" (41 : Nat) ({ cls := "RuleTree$Pairs", name := "matchesHere", desc := "(II)Z" } : Jvm.MethodName)) ∈ zwl := zwl_in (zm3 (List.mem_of_getElem? (i := 23) rfl)) rfl
theorem wd_3_25 : (Jvm.Cond.instanceMethod ({ cls := "RuleTree$Pairs", name := "matchesHere", desc := "(II)Z" } : Jvm.MethodName)) ∈ zwl := zwl_in (zm3 (List.mem_of_getElem? (i := 25) rfl)) rfl
theorem wd_3_26 : (Jvm.Cond.code ({ cls := "RuleTree$Pairs", name := "matchesHere", desc := "(II)Z" } : Jvm.MethodName) prog_6_method_6_code (3 : Nat) (Option.some Jvm.ClassFile.FieldType.boolean)) ∈ zwl := zwl_in (zm3 (List.mem_of_getElem? (i := 26) rfl)) rfl
theorem wd_3_27 : (Jvm.Cond.methodLink "RuleTree$Pairs" (52 : Nat) ({ cls := "RuleTree$Patterns", name := "shape", desc := "(I)I" } : Jvm.MethodName)) ∈ zwl := zwl_in (zm3 (List.mem_of_getElem? (i := 27) rfl)) rfl
theorem wd_3_28 : (Jvm.Cond.instanceMethod ({ cls := "RuleTree$Patterns", name := "shape", desc := "(I)I" } : Jvm.MethodName)) ∈ zwl := zwl_in (zm3 (List.mem_of_getElem? (i := 28) rfl)) rfl
theorem wd_3_29 : (Jvm.Cond.selects "RuleTree$Patterns" ({ cls := "RuleTree$Patterns", name := "shape", desc := "(I)I" } : Jvm.MethodName) ({ cls := "RuleTree$Patterns", name := "shape", desc := "(I)I" } : Jvm.MethodName)) ∈ zwl := zwl_in (zm3 (List.mem_of_getElem? (i := 29) rfl)) rfl
theorem wd_3_30 : (Jvm.Cond.code ({ cls := "RuleTree$Patterns", name := "shape", desc := "(I)I" } : Jvm.MethodName) prog_8_method_4_code (2 : Nat) (Option.some Jvm.ClassFile.FieldType.int)) ∈ zwl := zwl_in (zm3 (List.mem_of_getElem? (i := 30) rfl)) rfl
theorem wd_3_31 : (Jvm.Cond.methodLink "RuleTree$Pairs" (57 : Nat) ({ cls := "RuleTree$Pairs", name := "sameSort", desc := "(II)Z" } : Jvm.MethodName)) ∈ zwl := zwl_in (zm3 (List.mem_of_getElem? (i := 31) rfl)) rfl
theorem wd_3_33 : (Jvm.Cond.instanceMethod ({ cls := "RuleTree$Pairs", name := "sameSort", desc := "(II)Z" } : Jvm.MethodName)) ∈ zwl := zwl_in (zm3 (List.mem_of_getElem? (i := 33) rfl)) rfl
theorem wd_3_34 : (Jvm.Cond.code ({ cls := "RuleTree$Pairs", name := "sameSort", desc := "(II)Z" } : Jvm.MethodName) prog_6_method_8_code (3 : Nat) (Option.some Jvm.ClassFile.FieldType.boolean)) ∈ zwl := zwl_in (zm3 (List.mem_of_getElem? (i := 34) rfl)) rfl
theorem wd_3_35 : (Jvm.Cond.methodLink "RuleTree$Pairs" (66 : Nat) ({ cls := "RuleTree$Patterns", name := "sort", desc := "(I)I" } : Jvm.MethodName)) ∈ zwl := zwl_in (zm3 (List.mem_of_getElem? (i := 35) rfl)) rfl
theorem wd_3_36 : (Jvm.Cond.instanceMethod ({ cls := "RuleTree$Patterns", name := "sort", desc := "(I)I" } : Jvm.MethodName)) ∈ zwl := zwl_in (zm3 (List.mem_of_getElem? (i := 36) rfl)) rfl
theorem wd_3_37 : (Jvm.Cond.selects "RuleTree$Patterns" ({ cls := "RuleTree$Patterns", name := "sort", desc := "(I)I" } : Jvm.MethodName) ({ cls := "RuleTree$Patterns", name := "sort", desc := "(I)I" } : Jvm.MethodName)) ∈ zwl := zwl_in (zm3 (List.mem_of_getElem? (i := 37) rfl)) rfl
theorem wd_3_38 : (Jvm.Cond.code ({ cls := "RuleTree$Patterns", name := "sort", desc := "(I)I" } : Jvm.MethodName) prog_8_method_5_code (2 : Nat) (Option.some Jvm.ClassFile.FieldType.int)) ∈ zwl := zwl_in (zm3 (List.mem_of_getElem? (i := 38) rfl)) rfl
theorem wd_3_39 : (Jvm.Cond.methodLink "RuleTree$Pairs" (60 : Nat) ({ cls := "RuleTree$Patterns", name := "mark", desc := "(I)I" } : Jvm.MethodName)) ∈ zwl := zwl_in (zm3 (List.mem_of_getElem? (i := 39) rfl)) rfl
theorem wd_3_40 : (Jvm.Cond.instanceMethod ({ cls := "RuleTree$Patterns", name := "mark", desc := "(I)I" } : Jvm.MethodName)) ∈ zwl := zwl_in (zm3 (List.mem_of_getElem? (i := 40) rfl)) rfl
theorem wd_3_41 : (Jvm.Cond.selects "RuleTree$Patterns" ({ cls := "RuleTree$Patterns", name := "mark", desc := "(I)I" } : Jvm.MethodName) ({ cls := "RuleTree$Patterns", name := "mark", desc := "(I)I" } : Jvm.MethodName)) ∈ zwl := zwl_in (zm3 (List.mem_of_getElem? (i := 41) rfl)) rfl
theorem wd_3_42 : (Jvm.Cond.code ({ cls := "RuleTree$Patterns", name := "mark", desc := "(I)I" } : Jvm.MethodName) prog_8_method_6_code (2 : Nat) (Option.some Jvm.ClassFile.FieldType.int)) ∈ zwl := zwl_in (zm3 (List.mem_of_getElem? (i := 42) rfl)) rfl
theorem wd_3_43 : (Jvm.Cond.methodLink "RuleTree$Pairs" (63 : Nat) ({ cls := "RuleTree$Pairs", name := "putInner", desc := "(II)Z" } : Jvm.MethodName)) ∈ zwl := zwl_in (zm3 (List.mem_of_getElem? (i := 43) rfl)) rfl
theorem wd_3_45 : (Jvm.Cond.instanceMethod ({ cls := "RuleTree$Pairs", name := "putInner", desc := "(II)Z" } : Jvm.MethodName)) ∈ zwl := zwl_in (zm3 (List.mem_of_getElem? (i := 45) rfl)) rfl
theorem wd_3_46 : (Jvm.Cond.code ({ cls := "RuleTree$Pairs", name := "putInner", desc := "(II)Z" } : Jvm.MethodName) prog_6_method_9_code (5 : Nat) (Option.some Jvm.ClassFile.FieldType.boolean)) ∈ zwl := zwl_in (zm3 (List.mem_of_getElem? (i := 46) rfl)) rfl
theorem wd_3_47 : (Jvm.Cond.methodLink "RuleTree$Pairs" (69 : Nat) ({ cls := "RuleTree$Pairs", name := "putFields", desc := "(II)V" } : Jvm.MethodName)) ∈ zwl := zwl_in (zm3 (List.mem_of_getElem? (i := 47) rfl)) rfl
theorem wd_3_49 : (Jvm.Cond.instanceMethod ({ cls := "RuleTree$Pairs", name := "putFields", desc := "(II)V" } : Jvm.MethodName)) ∈ zwl := zwl_in (zm3 (List.mem_of_getElem? (i := 49) rfl)) rfl
theorem wd_3_50 : (Jvm.Cond.code ({ cls := "RuleTree$Pairs", name := "putFields", desc := "(II)V" } : Jvm.MethodName) prog_6_method_10_code (6 : Nat) (Option.none : Option Jvm.ClassFile.FieldType)) ∈ zwl := zwl_in (zm3 (List.mem_of_getElem? (i := 50) rfl)) rfl
theorem wd_3_51 : (Jvm.Cond.methodLink "RuleTree$Pairs" (75 : Nat) ({ cls := "RuleTree$Patterns", name := "width", desc := "(I)I" } : Jvm.MethodName)) ∈ zwl := zwl_in (zm3 (List.mem_of_getElem? (i := 51) rfl)) rfl
theorem wd_3_52 : (Jvm.Cond.instanceMethod ({ cls := "RuleTree$Patterns", name := "width", desc := "(I)I" } : Jvm.MethodName)) ∈ zwl := zwl_in (zm3 (List.mem_of_getElem? (i := 52) rfl)) rfl
theorem wd_3_53 : (Jvm.Cond.selects "RuleTree$Patterns" ({ cls := "RuleTree$Patterns", name := "width", desc := "(I)I" } : Jvm.MethodName) ({ cls := "RuleTree$Patterns", name := "width", desc := "(I)I" } : Jvm.MethodName)) ∈ zwl := zwl_in (zm3 (List.mem_of_getElem? (i := 53) rfl)) rfl
theorem wd_3_54 : (Jvm.Cond.code ({ cls := "RuleTree$Patterns", name := "width", desc := "(I)I" } : Jvm.MethodName) prog_8_method_10_code (2 : Nat) (Option.some Jvm.ClassFile.FieldType.int)) ∈ zwl := zwl_in (zm3 (List.mem_of_getElem? (i := 54) rfl)) rfl
theorem wd_3_55 : (Jvm.Cond.methodLink "RuleTree$Pairs" (78 : Nat) ({ cls := "RuleTree$Patterns", name := "fieldNumber", desc := "(II)I" } : Jvm.MethodName)) ∈ zwl := zwl_in (zm3 (List.mem_of_getElem? (i := 55) rfl)) rfl
theorem wd_3_56 : (Jvm.Cond.instanceMethod ({ cls := "RuleTree$Patterns", name := "fieldNumber", desc := "(II)I" } : Jvm.MethodName)) ∈ zwl := zwl_in (zm3 (List.mem_of_getElem? (i := 56) rfl)) rfl
theorem wd_3_57 : (Jvm.Cond.selects "RuleTree$Patterns" ({ cls := "RuleTree$Patterns", name := "fieldNumber", desc := "(II)I" } : Jvm.MethodName) ({ cls := "RuleTree$Patterns", name := "fieldNumber", desc := "(II)I" } : Jvm.MethodName)) ∈ zwl := zwl_in (zm3 (List.mem_of_getElem? (i := 57) rfl)) rfl
theorem wd_3_58 : (Jvm.Cond.code ({ cls := "RuleTree$Patterns", name := "fieldNumber", desc := "(II)I" } : Jvm.MethodName) prog_8_method_11_code (3 : Nat) (Option.some Jvm.ClassFile.FieldType.int)) ∈ zwl := zwl_in (zm3 (List.mem_of_getElem? (i := 58) rfl)) rfl
theorem wd_3_59 : (Jvm.Cond.methodLink "RuleTree$Pairs" (82 : Nat) ({ cls := "RuleTree$Patterns", name := "fieldPattern", desc := "(II)I" } : Jvm.MethodName)) ∈ zwl := zwl_in (zm3 (List.mem_of_getElem? (i := 59) rfl)) rfl
theorem wd_3_60 : (Jvm.Cond.instanceMethod ({ cls := "RuleTree$Patterns", name := "fieldPattern", desc := "(II)I" } : Jvm.MethodName)) ∈ zwl := zwl_in (zm3 (List.mem_of_getElem? (i := 60) rfl)) rfl
theorem wd_3_61 : (Jvm.Cond.selects "RuleTree$Patterns" ({ cls := "RuleTree$Patterns", name := "fieldPattern", desc := "(II)I" } : Jvm.MethodName) ({ cls := "RuleTree$Patterns", name := "fieldPattern", desc := "(II)I" } : Jvm.MethodName)) ∈ zwl := zwl_in (zm3 (List.mem_of_getElem? (i := 61) rfl)) rfl
theorem wd_3_62 : (Jvm.Cond.code ({ cls := "RuleTree$Patterns", name := "fieldPattern", desc := "(II)I" } : Jvm.MethodName) prog_8_method_12_code (3 : Nat) (Option.some Jvm.ClassFile.FieldType.int)) ∈ zwl := zwl_in (zm3 (List.mem_of_getElem? (i := 62) rfl)) rfl
theorem wd_3_63 : (Jvm.Cond.methodLink "RuleTree$Pairs" (72 : Nat) ({ cls := "RuleTree$Patterns", name := "argument", desc := "(I)I" } : Jvm.MethodName)) ∈ zwl := zwl_in (zm3 (List.mem_of_getElem? (i := 63) rfl)) rfl
theorem wd_3_64 : (Jvm.Cond.instanceMethod ({ cls := "RuleTree$Patterns", name := "argument", desc := "(I)I" } : Jvm.MethodName)) ∈ zwl := zwl_in (zm3 (List.mem_of_getElem? (i := 64) rfl)) rfl
theorem wd_3_65 : (Jvm.Cond.selects "RuleTree$Patterns" ({ cls := "RuleTree$Patterns", name := "argument", desc := "(I)I" } : Jvm.MethodName) ({ cls := "RuleTree$Patterns", name := "argument", desc := "(I)I" } : Jvm.MethodName)) ∈ zwl := zwl_in (zm3 (List.mem_of_getElem? (i := 65) rfl)) rfl
theorem wd_3_66 : (Jvm.Cond.code ({ cls := "RuleTree$Patterns", name := "argument", desc := "(I)I" } : Jvm.MethodName) prog_8_method_9_code (3 : Nat) (Option.some Jvm.ClassFile.FieldType.int)) ∈ zwl := zwl_in (zm3 (List.mem_of_getElem? (i := 66) rfl)) rfl
theorem wd_3_67 : (Jvm.Cond.methodLink "RuleTree$Pairs" (45 : Nat) ({ cls := "RuleTree$Pairs", name := "goesHere", desc := "(II)Z" } : Jvm.MethodName)) ∈ zwl := zwl_in (zm3 (List.mem_of_getElem? (i := 67) rfl)) rfl
theorem wd_3_69 : (Jvm.Cond.instanceMethod ({ cls := "RuleTree$Pairs", name := "goesHere", desc := "(II)Z" } : Jvm.MethodName)) ∈ zwl := zwl_in (zm3 (List.mem_of_getElem? (i := 69) rfl)) rfl
theorem wd_3_70 : (Jvm.Cond.code ({ cls := "RuleTree$Pairs", name := "goesHere", desc := "(II)Z" } : Jvm.MethodName) prog_6_method_7_code (3 : Nat) (Option.some Jvm.ClassFile.FieldType.boolean)) ∈ zwl := zwl_in (zm3 (List.mem_of_getElem? (i := 70) rfl)) rfl
theorem wd_3_71 : (Jvm.Cond.methodLink "RuleTree" (136 : Nat) ({ cls := "RuleTree$Patterns", name := "weight", desc := "(I)I" } : Jvm.MethodName)) ∈ zwl := zwl_in (zm3 (List.mem_of_getElem? (i := 71) rfl)) rfl
theorem wd_3_72 : (Jvm.Cond.instanceMethod ({ cls := "RuleTree$Patterns", name := "weight", desc := "(I)I" } : Jvm.MethodName)) ∈ zwl := zwl_in (zm3 (List.mem_of_getElem? (i := 72) rfl)) rfl
theorem wd_3_73 : (Jvm.Cond.selects "RuleTree$Patterns" ({ cls := "RuleTree$Patterns", name := "weight", desc := "(I)I" } : Jvm.MethodName) ({ cls := "RuleTree$Patterns", name := "weight", desc := "(I)I" } : Jvm.MethodName)) ∈ zwl := zwl_in (zm3 (List.mem_of_getElem? (i := 73) rfl)) rfl
theorem wd_3_74 : (Jvm.Cond.code ({ cls := "RuleTree$Patterns", name := "weight", desc := "(I)I" } : Jvm.MethodName) prog_8_method_7_code (2 : Nat) (Option.some Jvm.ClassFile.FieldType.int)) ∈ zwl := zwl_in (zm3 (List.mem_of_getElem? (i := 74) rfl)) rfl
theorem wd_3_75 : (Jvm.Cond.methodLink "RuleTree" (142 : Nat) ({ cls := "RuleTree$Row", name := "add", desc := "(I)I" } : Jvm.MethodName)) ∈ zwl := zwl_in (zm3 (List.mem_of_getElem? (i := 75) rfl)) rfl
theorem wd_3_76 : (Jvm.Cond.methodLink "RuleTree" (144 : Nat) ({ cls := "RuleTree$Parts", name := "lay", desc := "(II)V" } : Jvm.MethodName)) ∈ zwl := zwl_in (zm3 (List.mem_of_getElem? (i := 76) rfl)) rfl
theorem wd_3_77 : (Jvm.Cond.instanceMethod ({ cls := "RuleTree$Parts", name := "lay", desc := "(II)V" } : Jvm.MethodName)) ∈ zwl := zwl_in (zm3 (List.mem_of_getElem? (i := 77) rfl)) rfl
theorem wd_3_78 : (Jvm.Cond.selects "RuleTree$Parts" ({ cls := "RuleTree$Parts", name := "lay", desc := "(II)V" } : Jvm.MethodName) ({ cls := "RuleTree$Parts", name := "lay", desc := "(II)V" } : Jvm.MethodName)) ∈ zwl := zwl_in (zm3 (List.mem_of_getElem? (i := 78) rfl)) rfl
theorem wd_3_79 : (Jvm.Cond.code ({ cls := "RuleTree$Parts", name := "lay", desc := "(II)V" } : Jvm.MethodName) prog_7_method_20_code (6 : Nat) (Option.none : Option Jvm.ClassFile.FieldType)) ∈ zwl := zwl_in (zm3 (List.mem_of_getElem? (i := 79) rfl)) rfl
theorem wd_3_80 : (Jvm.Cond.methodLink "RuleTree$Parts" (65 : Nat) ({ cls := "RuleTree$Row", name := "size", desc := "()I" } : Jvm.MethodName)) ∈ zwl := zwl_in (zm3 (List.mem_of_getElem? (i := 80) rfl)) rfl
theorem wd_3_81 : (Jvm.Cond.methodLink "RuleTree$Parts" (82 : Nat) ({ cls := "RuleTree$Row", name := "empty", desc := "()V" } : Jvm.MethodName)) ∈ zwl := zwl_in (zm3 (List.mem_of_getElem? (i := 81) rfl)) rfl
theorem wd_3_82 : (Jvm.Cond.methodLink "RuleTree$Parts" (85 : Nat) ({ cls := "RuleTree$Parts", name := "putOpen", desc := "(II)V" } : Jvm.MethodName)) ∈ zwl := zwl_in (zm3 (List.mem_of_getElem? (i := 82) rfl)) rfl
theorem wd_3_84 : (Jvm.Cond.instanceMethod ({ cls := "RuleTree$Parts", name := "putOpen", desc := "(II)V" } : Jvm.MethodName)) ∈ zwl := zwl_in (zm3 (List.mem_of_getElem? (i := 84) rfl)) rfl
theorem wd_3_85 : (Jvm.Cond.code ({ cls := "RuleTree$Parts", name := "putOpen", desc := "(II)V" } : Jvm.MethodName) prog_7_method_22_code (3 : Nat) (Option.none : Option Jvm.ClassFile.FieldType)) ∈ zwl := zwl_in (zm3 (List.mem_of_getElem? (i := 85) rfl)) rfl
theorem wd_3_86 : (Jvm.Cond.constant "RuleTree$Parts" (89 : Nat) (1000000 : Int32)) ∈ zwl := zwl_in (zm3 (List.mem_of_getElem? (i := 86) rfl)) rfl
theorem wd_3_87 : (Jvm.Cond.methodLink "RuleTree$Parts" (90 : Nat) ({ cls := "RuleTree$Row", name := "take", desc := "()I" } : Jvm.MethodName)) ∈ zwl := zwl_in (zm3 (List.mem_of_getElem? (i := 87) rfl)) rfl
theorem wd_3_88 : (Jvm.Cond.methodLink "RuleTree$Parts" (93 : Nat) ({ cls := "RuleTree$Patterns", name := "shape", desc := "(I)I" } : Jvm.MethodName)) ∈ zwl := zwl_in (zm3 (List.mem_of_getElem? (i := 88) rfl)) rfl
theorem wd_3_89 : (Jvm.Cond.methodLink "RuleTree$Parts" (98 : Nat) ({ cls := "RuleTree$Parts", name := "layRecord", desc := "(II)V" } : Jvm.MethodName)) ∈ zwl := zwl_in (zm3 (List.mem_of_getElem? (i := 89) rfl)) rfl
theorem wd_3_91 : (Jvm.Cond.instanceMethod ({ cls := "RuleTree$Parts", name := "layRecord", desc := "(II)V" } : Jvm.MethodName)) ∈ zwl := zwl_in (zm3 (List.mem_of_getElem? (i := 91) rfl)) rfl
theorem wd_3_92 : (Jvm.Cond.code ({ cls := "RuleTree$Parts", name := "layRecord", desc := "(II)V" } : Jvm.MethodName) prog_7_method_23_code (5 : Nat) (Option.none : Option Jvm.ClassFile.FieldType)) ∈ zwl := zwl_in (zm3 (List.mem_of_getElem? (i := 92) rfl)) rfl
theorem wd_3_93 : (Jvm.Cond.methodLink "RuleTree$Parts" (105 : Nat) ({ cls := "RuleTree$Parts", name := "setSort", desc := "(II)V" } : Jvm.MethodName)) ∈ zwl := zwl_in (zm3 (List.mem_of_getElem? (i := 93) rfl)) rfl
theorem wd_3_95 : (Jvm.Cond.instanceMethod ({ cls := "RuleTree$Parts", name := "setSort", desc := "(II)V" } : Jvm.MethodName)) ∈ zwl := zwl_in (zm3 (List.mem_of_getElem? (i := 95) rfl)) rfl
theorem wd_3_96 : (Jvm.Cond.code ({ cls := "RuleTree$Parts", name := "setSort", desc := "(II)V" } : Jvm.MethodName) prog_7_method_25_code (3 : Nat) (Option.none : Option Jvm.ClassFile.FieldType)) ∈ zwl := zwl_in (zm3 (List.mem_of_getElem? (i := 96) rfl)) rfl
theorem wd_3_97 : (Jvm.Cond.methodLink "RuleTree$Parts" (126 : Nat) ({ cls := "RuleTree$Row", name := "set", desc := "(II)V" } : Jvm.MethodName)) ∈ zwl := zwl_in (zm3 (List.mem_of_getElem? (i := 97) rfl)) rfl
theorem wd_3_98 : (Jvm.Cond.methodLink "RuleTree$Parts" (132 : Nat) ({ cls := "RuleTree$Patterns", name := "sort", desc := "(I)I" } : Jvm.MethodName)) ∈ zwl := zwl_in (zm3 (List.mem_of_getElem? (i := 98) rfl)) rfl
theorem wd_3_99 : (Jvm.Cond.methodLink "RuleTree$Parts" (108 : Nat) ({ cls := "RuleTree$Patterns", name := "width", desc := "(I)I" } : Jvm.MethodName)) ∈ zwl := zwl_in (zm3 (List.mem_of_getElem? (i := 99) rfl)) rfl
theorem wd_3_100 : (Jvm.Cond.methodLink "RuleTree$Parts" (111 : Nat) ({ cls := "RuleTree$Patterns", name := "fieldNumber", desc := "(II)I" } : Jvm.MethodName)) ∈ zwl := zwl_in (zm3 (List.mem_of_getElem? (i := 100) rfl)) rfl
theorem wd_3_101 : (Jvm.Cond.methodLink "RuleTree$Parts" (114 : Nat) ({ cls := "RuleTree$Parts", name := "edgeFor", desc := "(II)I" } : Jvm.MethodName)) ∈ zwl := zwl_in (zm3 (List.mem_of_getElem? (i := 101) rfl)) rfl
theorem wd_3_103 : (Jvm.Cond.instanceMethod ({ cls := "RuleTree$Parts", name := "edgeFor", desc := "(II)I" } : Jvm.MethodName)) ∈ zwl := zwl_in (zm3 (List.mem_of_getElem? (i := 103) rfl)) rfl
theorem wd_3_104 : (Jvm.Cond.code ({ cls := "RuleTree$Parts", name := "edgeFor", desc := "(II)I" } : Jvm.MethodName) prog_7_method_26_code (6 : Nat) (Option.some Jvm.ClassFile.FieldType.int)) ∈ zwl := zwl_in (zm3 (List.mem_of_getElem? (i := 104) rfl)) rfl
theorem wd_3_105 : (Jvm.Cond.methodLink "RuleTree$Parts" (73 : Nat) ({ cls := "RuleTree$Parts", name := "lastBelow", desc := "(II)I" } : Jvm.MethodName)) ∈ zwl := zwl_in (zm3 (List.mem_of_getElem? (i := 105) rfl)) rfl
theorem wd_3_107 : (Jvm.Cond.instanceMethod ({ cls := "RuleTree$Parts", name := "lastBelow", desc := "(II)I" } : Jvm.MethodName)) ∈ zwl := zwl_in (zm3 (List.mem_of_getElem? (i := 107) rfl)) rfl
theorem wd_3_108 : (Jvm.Cond.code ({ cls := "RuleTree$Parts", name := "lastBelow", desc := "(II)I" } : Jvm.MethodName) prog_7_method_27_code (6 : Nat) (Option.some Jvm.ClassFile.FieldType.int)) ∈ zwl := zwl_in (zm3 (List.mem_of_getElem? (i := 108) rfl)) rfl
theorem wd_3_109 : (Jvm.Cond.methodLink "RuleTree$Parts" (69 : Nat) ({ cls := "RuleTree$Row", name := "at", desc := "(I)I" } : Jvm.MethodName)) ∈ zwl := zwl_in (zm3 (List.mem_of_getElem? (i := 109) rfl)) rfl
theorem wd_3_110 : (Jvm.Cond.methodLink "RuleTree$Parts" (76 : Nat) ({ cls := "RuleTree$Parts", name := "edgeAfter", desc := "(II)I" } : Jvm.MethodName)) ∈ zwl := zwl_in (zm3 (List.mem_of_getElem? (i := 110) rfl)) rfl
theorem wd_3_112 : (Jvm.Cond.instanceMethod ({ cls := "RuleTree$Parts", name := "edgeAfter", desc := "(II)I" } : Jvm.MethodName)) ∈ zwl := zwl_in (zm3 (List.mem_of_getElem? (i := 112) rfl)) rfl
theorem wd_3_113 : (Jvm.Cond.code ({ cls := "RuleTree$Parts", name := "edgeAfter", desc := "(II)I" } : Jvm.MethodName) prog_7_method_28_code (3 : Nat) (Option.some Jvm.ClassFile.FieldType.int)) ∈ zwl := zwl_in (zm3 (List.mem_of_getElem? (i := 113) rfl)) rfl
theorem wd_3_114 : (Jvm.Cond.methodLink "RuleTree$Parts" (135 : Nat) ({ cls := "RuleTree$Parts", name := "addEdge", desc := "(III)I" } : Jvm.MethodName)) ∈ zwl := zwl_in (zm3 (List.mem_of_getElem? (i := 114) rfl)) rfl
theorem wd_3_116 : (Jvm.Cond.instanceMethod ({ cls := "RuleTree$Parts", name := "addEdge", desc := "(III)I" } : Jvm.MethodName)) ∈ zwl := zwl_in (zm3 (List.mem_of_getElem? (i := 116) rfl)) rfl
theorem wd_3_117 : (Jvm.Cond.code ({ cls := "RuleTree$Parts", name := "addEdge", desc := "(III)I" } : Jvm.MethodName) prog_7_method_29_code (5 : Nat) (Option.some Jvm.ClassFile.FieldType.int)) ∈ zwl := zwl_in (zm3 (List.mem_of_getElem? (i := 117) rfl)) rfl
theorem wd_3_118 : (Jvm.Cond.methodLink "RuleTree$Parts" (117 : Nat) ({ cls := "RuleTree$Patterns", name := "fieldPattern", desc := "(II)I" } : Jvm.MethodName)) ∈ zwl := zwl_in (zm3 (List.mem_of_getElem? (i := 118) rfl)) rfl
theorem wd_3_119 : (Jvm.Cond.methodLink "RuleTree$Parts" (120 : Nat) ({ cls := "RuleTree$Parts", name := "childFor", desc := "(II)I" } : Jvm.MethodName)) ∈ zwl := zwl_in (zm3 (List.mem_of_getElem? (i := 119) rfl)) rfl
theorem wd_3_121 : (Jvm.Cond.instanceMethod ({ cls := "RuleTree$Parts", name := "childFor", desc := "(II)I" } : Jvm.MethodName)) ∈ zwl := zwl_in (zm3 (List.mem_of_getElem? (i := 121) rfl)) rfl
theorem wd_3_122 : (Jvm.Cond.code ({ cls := "RuleTree$Parts", name := "childFor", desc := "(II)I" } : Jvm.MethodName) prog_7_method_30_code (3 : Nat) (Option.some Jvm.ClassFile.FieldType.int)) ∈ zwl := zwl_in (zm3 (List.mem_of_getElem? (i := 122) rfl)) rfl
theorem wd_3_123 : (Jvm.Cond.methodLink "RuleTree$Parts" (101 : Nat) ({ cls := "RuleTree$Parts", name := "layAsk", desc := "(III)V" } : Jvm.MethodName)) ∈ zwl := zwl_in (zm3 (List.mem_of_getElem? (i := 123) rfl)) rfl
theorem wd_3_125 : (Jvm.Cond.instanceMethod ({ cls := "RuleTree$Parts", name := "layAsk", desc := "(III)V" } : Jvm.MethodName)) ∈ zwl := zwl_in (zm3 (List.mem_of_getElem? (i := 125) rfl)) rfl
theorem wd_3_126 : (Jvm.Cond.code ({ cls := "RuleTree$Parts", name := "layAsk", desc := "(III)V" } : Jvm.MethodName) prog_7_method_24_code (6 : Nat) (Option.none : Option Jvm.ClassFile.FieldType)) ∈ zwl := zwl_in (zm3 (List.mem_of_getElem? (i := 126) rfl)) rfl
theorem wd_3_127 : (Jvm.Cond.methodLink "RuleTree$Parts" (123 : Nat) ({ cls := "RuleTree$Patterns", name := "mark", desc := "(I)I" } : Jvm.MethodName)) ∈ zwl := zwl_in (zm3 (List.mem_of_getElem? (i := 127) rfl)) rfl
theorem wd_3_128 : (Jvm.Cond.methodLink "RuleTree$Parts" (129 : Nat) ({ cls := "RuleTree$Patterns", name := "argument", desc := "(I)I" } : Jvm.MethodName)) ∈ zwl := zwl_in (zm3 (List.mem_of_getElem? (i := 128) rfl)) rfl
theorem wd_3_129 : (Jvm.Cond.methodLink "RuleTreeLaw" (52 : Nat) ({ cls := "RuleTree", name := "clear", desc := "()I" } : Jvm.MethodName)) ∈ zwl := zwl_in (zm3 (List.mem_of_getElem? (i := 129) rfl)) rfl
theorem wd_3_130 : (Jvm.Cond.instanceMethod ({ cls := "RuleTree", name := "clear", desc := "()I" } : Jvm.MethodName)) ∈ zwl := zwl_in (zm3 (List.mem_of_getElem? (i := 130) rfl)) rfl
theorem wd_3_131 : (Jvm.Cond.selects "RuleTree" ({ cls := "RuleTree", name := "clear", desc := "()I" } : Jvm.MethodName) ({ cls := "RuleTree", name := "clear", desc := "()I" } : Jvm.MethodName)) ∈ zwl := zwl_in (zm3 (List.mem_of_getElem? (i := 131) rfl)) rfl
theorem wd_3_132 : (Jvm.Cond.code ({ cls := "RuleTree", name := "clear", desc := "()I" } : Jvm.MethodName) prog_1_method_10_code (2 : Nat) (Option.some Jvm.ClassFile.FieldType.int)) ∈ zwl := zwl_in (zm3 (List.mem_of_getElem? (i := 132) rfl)) rfl
theorem wd_3_133 : (Jvm.Cond.methodLink "RuleTree" (147 : Nat) ({ cls := "RuleTree", name := "dropRules", desc := "()V" } : Jvm.MethodName)) ∈ zwl := zwl_in (zm3 (List.mem_of_getElem? (i := 133) rfl)) rfl
theorem wd_3_135 : (Jvm.Cond.instanceMethod ({ cls := "RuleTree", name := "dropRules", desc := "()V" } : Jvm.MethodName)) ∈ zwl := zwl_in (zm3 (List.mem_of_getElem? (i := 135) rfl)) rfl
theorem wd_3_136 : (Jvm.Cond.code ({ cls := "RuleTree", name := "dropRules", desc := "()V" } : Jvm.MethodName) prog_1_method_23_code (1 : Nat) (Option.none : Option Jvm.ClassFile.FieldType)) ∈ zwl := zwl_in (zm3 (List.mem_of_getElem? (i := 136) rfl)) rfl
theorem wd_3_137 : (Jvm.Cond.methodLink "RuleTree" (190 : Nat) ({ cls := "RuleTree$Row", name := "empty", desc := "()V" } : Jvm.MethodName)) ∈ zwl := zwl_in (zm3 (List.mem_of_getElem? (i := 137) rfl)) rfl
theorem wd_3_138 : (Jvm.Cond.methodLink "RuleTree" (191 : Nat) ({ cls := "RuleTree$Parts", name := "empty", desc := "()V" } : Jvm.MethodName)) ∈ zwl := zwl_in (zm3 (List.mem_of_getElem? (i := 138) rfl)) rfl
theorem wd_3_139 : (Jvm.Cond.instanceMethod ({ cls := "RuleTree$Parts", name := "empty", desc := "()V" } : Jvm.MethodName)) ∈ zwl := zwl_in (zm3 (List.mem_of_getElem? (i := 139) rfl)) rfl
theorem wd_3_140 : (Jvm.Cond.selects "RuleTree$Parts" ({ cls := "RuleTree$Parts", name := "empty", desc := "()V" } : Jvm.MethodName) ({ cls := "RuleTree$Parts", name := "empty", desc := "()V" } : Jvm.MethodName)) ∈ zwl := zwl_in (zm3 (List.mem_of_getElem? (i := 140) rfl)) rfl
theorem wd_3_141 : (Jvm.Cond.code ({ cls := "RuleTree$Parts", name := "empty", desc := "()V" } : Jvm.MethodName) prog_7_method_21_code (1 : Nat) (Option.none : Option Jvm.ClassFile.FieldType)) ∈ zwl := zwl_in (zm3 (List.mem_of_getElem? (i := 141) rfl)) rfl
theorem wd_3_142 : (Jvm.Cond.methodLink "RuleTreeLaw" (56 : Nat) ({ cls := "RuleTree", name := "forget", desc := "()I" } : Jvm.MethodName)) ∈ zwl := zwl_in (zm3 (List.mem_of_getElem? (i := 142) rfl)) rfl
theorem wd_3_143 : (Jvm.Cond.instanceMethod ({ cls := "RuleTree", name := "forget", desc := "()I" } : Jvm.MethodName)) ∈ zwl := zwl_in (zm3 (List.mem_of_getElem? (i := 143) rfl)) rfl
theorem wd_3_144 : (Jvm.Cond.selects "RuleTree" ({ cls := "RuleTree", name := "forget", desc := "()I" } : Jvm.MethodName) ({ cls := "RuleTree", name := "forget", desc := "()I" } : Jvm.MethodName)) ∈ zwl := zwl_in (zm3 (List.mem_of_getElem? (i := 144) rfl)) rfl
theorem wd_3_145 : (Jvm.Cond.code ({ cls := "RuleTree", name := "forget", desc := "()I" } : Jvm.MethodName) prog_1_method_11_code (2 : Nat) (Option.some Jvm.ClassFile.FieldType.int)) ∈ zwl := zwl_in (zm3 (List.mem_of_getElem? (i := 145) rfl)) rfl
theorem wd_3_146 : (Jvm.Cond.methodLink "RuleTree" (150 : Nat) ({ cls := "RuleTree$Patterns", name := "size", desc := "()I" } : Jvm.MethodName)) ∈ zwl := zwl_in (zm3 (List.mem_of_getElem? (i := 146) rfl)) rfl
theorem wd_3_147 : (Jvm.Cond.instanceMethod ({ cls := "RuleTree$Patterns", name := "size", desc := "()I" } : Jvm.MethodName)) ∈ zwl := zwl_in (zm3 (List.mem_of_getElem? (i := 147) rfl)) rfl
theorem wd_3_148 : (Jvm.Cond.selects "RuleTree$Patterns" ({ cls := "RuleTree$Patterns", name := "size", desc := "()I" } : Jvm.MethodName) ({ cls := "RuleTree$Patterns", name := "size", desc := "()I" } : Jvm.MethodName)) ∈ zwl := zwl_in (zm3 (List.mem_of_getElem? (i := 148) rfl)) rfl
theorem wd_3_149 : (Jvm.Cond.code ({ cls := "RuleTree$Patterns", name := "size", desc := "()I" } : Jvm.MethodName) prog_8_method_2_code (1 : Nat) (Option.some Jvm.ClassFile.FieldType.int)) ∈ zwl := zwl_in (zm3 (List.mem_of_getElem? (i := 149) rfl)) rfl
theorem wd_3_150 : (Jvm.Cond.methodLink "RuleTree" (151 : Nat) ({ cls := "RuleTree$Families", name := "empty", desc := "()V" } : Jvm.MethodName)) ∈ zwl := zwl_in (zm3 (List.mem_of_getElem? (i := 150) rfl)) rfl
theorem wd_3_151 : (Jvm.Cond.instanceMethod ({ cls := "RuleTree$Families", name := "empty", desc := "()V" } : Jvm.MethodName)) ∈ zwl := zwl_in (zm3 (List.mem_of_getElem? (i := 151) rfl)) rfl
theorem wd_3_152 : (Jvm.Cond.selects "RuleTree$Families" ({ cls := "RuleTree$Families", name := "empty", desc := "()V" } : Jvm.MethodName) ({ cls := "RuleTree$Families", name := "empty", desc := "()V" } : Jvm.MethodName)) ∈ zwl := zwl_in (zm3 (List.mem_of_getElem? (i := 152) rfl)) rfl
theorem wd_3_153 : (Jvm.Cond.code ({ cls := "RuleTree$Families", name := "empty", desc := "()V" } : Jvm.MethodName) prog_2_method_7_code (1 : Nat) (Option.none : Option Jvm.ClassFile.FieldType)) ∈ zwl := zwl_in (zm3 (List.mem_of_getElem? (i := 153) rfl)) rfl
theorem wd_3_154 : (Jvm.Cond.methodLink "RuleTree$Families" (37 : Nat) ({ cls := "RuleTree$Row", name := "empty", desc := "()V" } : Jvm.MethodName)) ∈ zwl := zwl_in (zm3 (List.mem_of_getElem? (i := 154) rfl)) rfl
theorem wd_3_155 : (Jvm.Cond.methodLink "RuleTree" (152 : Nat) ({ cls := "RuleTree$Patterns", name := "empty", desc := "()V" } : Jvm.MethodName)) ∈ zwl := zwl_in (zm3 (List.mem_of_getElem? (i := 155) rfl)) rfl
theorem wd_3_156 : (Jvm.Cond.instanceMethod ({ cls := "RuleTree$Patterns", name := "empty", desc := "()V" } : Jvm.MethodName)) ∈ zwl := zwl_in (zm3 (List.mem_of_getElem? (i := 156) rfl)) rfl
theorem wd_3_157 : (Jvm.Cond.selects "RuleTree$Patterns" ({ cls := "RuleTree$Patterns", name := "empty", desc := "()V" } : Jvm.MethodName) ({ cls := "RuleTree$Patterns", name := "empty", desc := "()V" } : Jvm.MethodName)) ∈ zwl := zwl_in (zm3 (List.mem_of_getElem? (i := 157) rfl)) rfl
theorem wd_3_158 : (Jvm.Cond.code ({ cls := "RuleTree$Patterns", name := "empty", desc := "()V" } : Jvm.MethodName) prog_8_method_15_code (1 : Nat) (Option.none : Option Jvm.ClassFile.FieldType)) ∈ zwl := zwl_in (zm3 (List.mem_of_getElem? (i := 158) rfl)) rfl
theorem wd_3_159 : (Jvm.Cond.methodLink "RuleTree$Patterns" (77 : Nat) ({ cls := "RuleTree$Row", name := "empty", desc := "()V" } : Jvm.MethodName)) ∈ zwl := zwl_in (zm3 (List.mem_of_getElem? (i := 159) rfl)) rfl
theorem wd_3_160 : (Jvm.Cond.methodLink "RuleTreeLaw" (60 : Nat) ({ cls := "RuleTree", name := "grow", desc := "()I" } : Jvm.MethodName)) ∈ zwl := zwl_in (zm3 (List.mem_of_getElem? (i := 160) rfl)) rfl
theorem wd_3_161 : (Jvm.Cond.instanceMethod ({ cls := "RuleTree", name := "grow", desc := "()I" } : Jvm.MethodName)) ∈ zwl := zwl_in (zm3 (List.mem_of_getElem? (i := 161) rfl)) rfl
theorem wd_3_162 : (Jvm.Cond.selects "RuleTree" ({ cls := "RuleTree", name := "grow", desc := "()I" } : Jvm.MethodName) ({ cls := "RuleTree", name := "grow", desc := "()I" } : Jvm.MethodName)) ∈ zwl := zwl_in (zm3 (List.mem_of_getElem? (i := 162) rfl)) rfl
theorem wd_3_163 : (Jvm.Cond.code ({ cls := "RuleTree", name := "grow", desc := "()I" } : Jvm.MethodName) prog_1_method_12_code (1 : Nat) (Option.some Jvm.ClassFile.FieldType.int)) ∈ zwl := zwl_in (zm3 (List.mem_of_getElem? (i := 163) rfl)) rfl
theorem wd_3_164 : (Jvm.Cond.methodLink "RuleTree" (153 : Nat) ({ cls := "RuleTree$Grower", name := "make", desc := "(I)I" } : Jvm.MethodName)) ∈ zwl := zwl_in (zm3 (List.mem_of_getElem? (i := 164) rfl)) rfl
theorem wd_3_165 : (Jvm.Cond.instanceMethod ({ cls := "RuleTree$Grower", name := "make", desc := "(I)I" } : Jvm.MethodName)) ∈ zwl := zwl_in (zm3 (List.mem_of_getElem? (i := 165) rfl)) rfl
theorem wd_3_166 : (Jvm.Cond.selects "RuleTree$Grower" ({ cls := "RuleTree$Grower", name := "make", desc := "(I)I" } : Jvm.MethodName) ({ cls := "RuleTree$Grower", name := "make", desc := "(I)I" } : Jvm.MethodName)) ∈ zwl := zwl_in (zm3 (List.mem_of_getElem? (i := 166) rfl)) rfl
theorem wd_3_167 : (Jvm.Cond.code ({ cls := "RuleTree$Grower", name := "make", desc := "(I)I" } : Jvm.MethodName) prog_4_method_2_code (4 : Nat) (Option.some Jvm.ClassFile.FieldType.int)) ∈ zwl := zwl_in (zm3 (List.mem_of_getElem? (i := 167) rfl)) rfl
theorem wd_3_168 : (Jvm.Cond.methodLink "RuleTree$Grower" (33 : Nat) ({ cls := "RuleTree$Row", name := "refill", desc := "(II)V" } : Jvm.MethodName)) ∈ zwl := zwl_in (zm3 (List.mem_of_getElem? (i := 168) rfl)) rfl
theorem wd_3_169 : (Jvm.Cond.methodLink "RuleTree$Grower" (37 : Nat) ({ cls := "RuleTree$Parts", name := "size", desc := "()I" } : Jvm.MethodName)) ∈ zwl := zwl_in (zm3 (List.mem_of_getElem? (i := 169) rfl)) rfl
theorem wd_3_170 : (Jvm.Cond.instanceMethod ({ cls := "RuleTree$Parts", name := "size", desc := "()I" } : Jvm.MethodName)) ∈ zwl := zwl_in (zm3 (List.mem_of_getElem? (i := 170) rfl)) rfl
theorem wd_3_171 : (Jvm.Cond.selects "RuleTree$Parts" ({ cls := "RuleTree$Parts", name := "size", desc := "()I" } : Jvm.MethodName) ({ cls := "RuleTree$Parts", name := "size", desc := "()I" } : Jvm.MethodName)) ∈ zwl := zwl_in (zm3 (List.mem_of_getElem? (i := 171) rfl)) rfl
theorem wd_3_172 : (Jvm.Cond.code ({ cls := "RuleTree$Parts", name := "size", desc := "()I" } : Jvm.MethodName) prog_7_method_2_code (1 : Nat) (Option.some Jvm.ClassFile.FieldType.int)) ∈ zwl := zwl_in (zm3 (List.mem_of_getElem? (i := 172) rfl)) rfl
theorem wd_3_173 : (Jvm.Cond.methodLink "RuleTree$Grower" (43 : Nat) ({ cls := "RuleTree$Nodes", name := "empty", desc := "()V" } : Jvm.MethodName)) ∈ zwl := zwl_in (zm3 (List.mem_of_getElem? (i := 173) rfl)) rfl
theorem wd_3_174 : (Jvm.Cond.instanceMethod ({ cls := "RuleTree$Nodes", name := "empty", desc := "()V" } : Jvm.MethodName)) ∈ zwl := zwl_in (zm3 (List.mem_of_getElem? (i := 174) rfl)) rfl
theorem wd_3_175 : (Jvm.Cond.selects "RuleTree$Nodes" ({ cls := "RuleTree$Nodes", name := "empty", desc := "()V" } : Jvm.MethodName) ({ cls := "RuleTree$Nodes", name := "empty", desc := "()V" } : Jvm.MethodName)) ∈ zwl := zwl_in (zm3 (List.mem_of_getElem? (i := 175) rfl)) rfl
theorem wd_3_176 : (Jvm.Cond.code ({ cls := "RuleTree$Nodes", name := "empty", desc := "()V" } : Jvm.MethodName) prog_5_method_3_code (1 : Nat) (Option.none : Option Jvm.ClassFile.FieldType)) ∈ zwl := zwl_in (zm3 (List.mem_of_getElem? (i := 176) rfl)) rfl
theorem wd_3_177 : (Jvm.Cond.methodLink "RuleTree$Nodes" (49 : Nat) ({ cls := "RuleTree$Row", name := "empty", desc := "()V" } : Jvm.MethodName)) ∈ zwl := zwl_in (zm3 (List.mem_of_getElem? (i := 177) rfl)) rfl
theorem wd_3_178 : (Jvm.Cond.methodLink "RuleTree$Grower" (48 : Nat) ({ cls := "RuleTree$Grower", name := "enter", desc := "(II)I" } : Jvm.MethodName)) ∈ zwl := zwl_in (zm3 (List.mem_of_getElem? (i := 178) rfl)) rfl
theorem wd_3_180 : (Jvm.Cond.instanceMethod ({ cls := "RuleTree$Grower", name := "enter", desc := "(II)I" } : Jvm.MethodName)) ∈ zwl := zwl_in (zm3 (List.mem_of_getElem? (i := 180) rfl)) rfl
theorem wd_3_181 : (Jvm.Cond.code ({ cls := "RuleTree$Grower", name := "enter", desc := "(II)I" } : Jvm.MethodName) prog_4_method_4_code (8 : Nat) (Option.some Jvm.ClassFile.FieldType.int)) ∈ zwl := zwl_in (zm3 (List.mem_of_getElem? (i := 181) rfl)) rfl
theorem wd_3_182 : (Jvm.Cond.methodLink "RuleTree$Grower" (74 : Nat) ({ cls := "RuleTree$Nodes", name := "add", desc := "(II)I" } : Jvm.MethodName)) ∈ zwl := zwl_in (zm3 (List.mem_of_getElem? (i := 182) rfl)) rfl
theorem wd_3_183 : (Jvm.Cond.instanceMethod ({ cls := "RuleTree$Nodes", name := "add", desc := "(II)I" } : Jvm.MethodName)) ∈ zwl := zwl_in (zm3 (List.mem_of_getElem? (i := 183) rfl)) rfl
theorem wd_3_184 : (Jvm.Cond.selects "RuleTree$Nodes" ({ cls := "RuleTree$Nodes", name := "add", desc := "(II)I" } : Jvm.MethodName) ({ cls := "RuleTree$Nodes", name := "add", desc := "(II)I" } : Jvm.MethodName)) ∈ zwl := zwl_in (zm3 (List.mem_of_getElem? (i := 184) rfl)) rfl
theorem wd_3_185 : (Jvm.Cond.code ({ cls := "RuleTree$Nodes", name := "add", desc := "(II)I" } : Jvm.MethodName) prog_5_method_4_code (4 : Nat) (Option.some Jvm.ClassFile.FieldType.int)) ∈ zwl := zwl_in (zm3 (List.mem_of_getElem? (i := 185) rfl)) rfl
theorem wd_3_186 : (Jvm.Cond.methodLink "RuleTree$Nodes" (52 : Nat) ({ cls := "RuleTree$Row", name := "add", desc := "(I)I" } : Jvm.MethodName)) ∈ zwl := zwl_in (zm3 (List.mem_of_getElem? (i := 186) rfl)) rfl
theorem wd_3_187 : (Jvm.Cond.methodLink "RuleTree$Nodes" (56 : Nat) ({ cls := "RuleTree$Row", name := "at", desc := "(I)I" } : Jvm.MethodName)) ∈ zwl := zwl_in (zm3 (List.mem_of_getElem? (i := 187) rfl)) rfl
theorem wd_3_188 : (Jvm.Cond.methodLink "RuleTree$Nodes" (59 : Nat) ({ cls := "RuleTree$Nodes", name := "hang", desc := "(II)V" } : Jvm.MethodName)) ∈ zwl := zwl_in (zm3 (List.mem_of_getElem? (i := 188) rfl)) rfl
theorem wd_3_190 : (Jvm.Cond.instanceMethod ({ cls := "RuleTree$Nodes", name := "hang", desc := "(II)V" } : Jvm.MethodName)) ∈ zwl := zwl_in (zm3 (List.mem_of_getElem? (i := 190) rfl)) rfl
theorem wd_3_191 : (Jvm.Cond.code ({ cls := "RuleTree$Nodes", name := "hang", desc := "(II)V" } : Jvm.MethodName) prog_5_method_19_code (3 : Nat) (Option.none : Option Jvm.ClassFile.FieldType)) ∈ zwl := zwl_in (zm3 (List.mem_of_getElem? (i := 191) rfl)) rfl
theorem wd_3_192 : (Jvm.Cond.methodLink "RuleTree$Nodes" (63 : Nat) ({ cls := "RuleTree$Row", name := "set", desc := "(II)V" } : Jvm.MethodName)) ∈ zwl := zwl_in (zm3 (List.mem_of_getElem? (i := 192) rfl)) rfl
theorem wd_3_193 : (Jvm.Cond.methodLink "RuleTree$Grower" (77 : Nat) ({ cls := "RuleTree$Nodes", name := "ruleAt", desc := "(I)I" } : Jvm.MethodName)) ∈ zwl := zwl_in (zm3 (List.mem_of_getElem? (i := 193) rfl)) rfl
theorem wd_3_194 : (Jvm.Cond.instanceMethod ({ cls := "RuleTree$Nodes", name := "ruleAt", desc := "(I)I" } : Jvm.MethodName)) ∈ zwl := zwl_in (zm3 (List.mem_of_getElem? (i := 194) rfl)) rfl
theorem wd_3_195 : (Jvm.Cond.selects "RuleTree$Nodes" ({ cls := "RuleTree$Nodes", name := "ruleAt", desc := "(I)I" } : Jvm.MethodName) ({ cls := "RuleTree$Nodes", name := "ruleAt", desc := "(I)I" } : Jvm.MethodName)) ∈ zwl := zwl_in (zm3 (List.mem_of_getElem? (i := 195) rfl)) rfl
theorem wd_3_196 : (Jvm.Cond.code ({ cls := "RuleTree$Nodes", name := "ruleAt", desc := "(I)I" } : Jvm.MethodName) prog_5_method_7_code (2 : Nat) (Option.some Jvm.ClassFile.FieldType.int)) ∈ zwl := zwl_in (zm3 (List.mem_of_getElem? (i := 196) rfl)) rfl
theorem wd_3_197 : (Jvm.Cond.methodLink "RuleTree$Grower" (80 : Nat) ({ cls := "java/lang/Math", name := "max", desc := "(II)I" } : Jvm.MethodName)) ∈ zwl := zwl_in (zm3 (List.mem_of_getElem? (i := 197) rfl)) rfl
theorem wd_3_198 : (Jvm.Cond.static ({ cls := "java/lang/Math", name := "max", desc := "(II)I" } : Jvm.MethodName)) ∈ zwl := zwl_in (zm3 (List.mem_of_getElem? (i := 198) rfl)) rfl
theorem wd_3_199 : (Jvm.Cond.code ({ cls := "java/lang/Math", name := "max", desc := "(II)I" } : Jvm.MethodName) prog_15_method_65_code (2 : Nat) (Option.some Jvm.ClassFile.FieldType.int)) ∈ zwl := zwl_in (zm3 (List.mem_of_getElem? (i := 199) rfl)) rfl
theorem wd_3_200 : (Jvm.Cond.methodLink "RuleTree$Grower" (85 : Nat) ({ cls := "RuleTree$Grower", name := "firstPossible", desc := "(I)I" } : Jvm.MethodName)) ∈ zwl := zwl_in (zm3 (List.mem_of_getElem? (i := 200) rfl)) rfl
theorem wd_3_202 : (Jvm.Cond.instanceMethod ({ cls := "RuleTree$Grower", name := "firstPossible", desc := "(I)I" } : Jvm.MethodName)) ∈ zwl := zwl_in (zm3 (List.mem_of_getElem? (i := 202) rfl)) rfl
theorem wd_3_203 : (Jvm.Cond.code ({ cls := "RuleTree$Grower", name := "firstPossible", desc := "(I)I" } : Jvm.MethodName) prog_4_method_6_code (3 : Nat) (Option.some Jvm.ClassFile.FieldType.int)) ∈ zwl := zwl_in (zm3 (List.mem_of_getElem? (i := 203) rfl)) rfl
theorem wd_3_204 : (Jvm.Cond.methodLink "RuleTree$Grower" (114 : Nat) ({ cls := "RuleTree$Row", name := "size", desc := "()I" } : Jvm.MethodName)) ∈ zwl := zwl_in (zm3 (List.mem_of_getElem? (i := 204) rfl)) rfl
theorem wd_3_205 : (Jvm.Cond.methodLink "RuleTree$Grower" (115 : Nat) ({ cls := "RuleTree$Row", name := "at", desc := "(I)I" } : Jvm.MethodName)) ∈ zwl := zwl_in (zm3 (List.mem_of_getElem? (i := 205) rfl)) rfl
theorem wd_3_206 : (Jvm.Cond.methodLink "RuleTree$Grower" (88 : Nat) ({ cls := "RuleTree$Nodes", name := "ask", desc := "(I)I" } : Jvm.MethodName)) ∈ zwl := zwl_in (zm3 (List.mem_of_getElem? (i := 206) rfl)) rfl
theorem wd_3_207 : (Jvm.Cond.instanceMethod ({ cls := "RuleTree$Nodes", name := "ask", desc := "(I)I" } : Jvm.MethodName)) ∈ zwl := zwl_in (zm3 (List.mem_of_getElem? (i := 207) rfl)) rfl
theorem wd_3_208 : (Jvm.Cond.selects "RuleTree$Nodes" ({ cls := "RuleTree$Nodes", name := "ask", desc := "(I)I" } : Jvm.MethodName) ({ cls := "RuleTree$Nodes", name := "ask", desc := "(I)I" } : Jvm.MethodName)) ∈ zwl := zwl_in (zm3 (List.mem_of_getElem? (i := 208) rfl)) rfl
theorem wd_3_209 : (Jvm.Cond.code ({ cls := "RuleTree$Nodes", name := "ask", desc := "(I)I" } : Jvm.MethodName) prog_5_method_8_code (2 : Nat) (Option.some Jvm.ClassFile.FieldType.int)) ∈ zwl := zwl_in (zm3 (List.mem_of_getElem? (i := 209) rfl)) rfl
theorem wd_3_210 : (Jvm.Cond.methodLink "RuleTree$Grower" (91 : Nat) ({ cls := "RuleTree$Parts", name := "startOf", desc := "(I)I" } : Jvm.MethodName)) ∈ zwl := zwl_in (zm3 (List.mem_of_getElem? (i := 210) rfl)) rfl
theorem wd_3_211 : (Jvm.Cond.instanceMethod ({ cls := "RuleTree$Parts", name := "startOf", desc := "(I)I" } : Jvm.MethodName)) ∈ zwl := zwl_in (zm3 (List.mem_of_getElem? (i := 211) rfl)) rfl
theorem wd_3_212 : (Jvm.Cond.selects "RuleTree$Parts" ({ cls := "RuleTree$Parts", name := "startOf", desc := "(I)I" } : Jvm.MethodName) ({ cls := "RuleTree$Parts", name := "startOf", desc := "(I)I" } : Jvm.MethodName)) ∈ zwl := zwl_in (zm3 (List.mem_of_getElem? (i := 212) rfl)) rfl
theorem wd_3_213 : (Jvm.Cond.code ({ cls := "RuleTree$Parts", name := "startOf", desc := "(I)I" } : Jvm.MethodName) prog_7_method_18_code (2 : Nat) (Option.some Jvm.ClassFile.FieldType.int)) ∈ zwl := zwl_in (zm3 (List.mem_of_getElem? (i := 213) rfl)) rfl
theorem wd_3_214 : (Jvm.Cond.methodLink "RuleTree$Grower" (94 : Nat) ({ cls := "RuleTree$Grower", name := "firstNotLooked", desc := "(II)I" } : Jvm.MethodName)) ∈ zwl := zwl_in (zm3 (List.mem_of_getElem? (i := 214) rfl)) rfl
theorem wd_3_216 : (Jvm.Cond.instanceMethod ({ cls := "RuleTree$Grower", name := "firstNotLooked", desc := "(II)I" } : Jvm.MethodName)) ∈ zwl := zwl_in (zm3 (List.mem_of_getElem? (i := 216) rfl)) rfl
theorem wd_3_217 : (Jvm.Cond.code ({ cls := "RuleTree$Grower", name := "firstNotLooked", desc := "(II)I" } : Jvm.MethodName) prog_4_method_7_code (5 : Nat) (Option.some Jvm.ClassFile.FieldType.int)) ∈ zwl := zwl_in (zm3 (List.mem_of_getElem? (i := 217) rfl)) rfl
theorem wd_3_218 : (Jvm.Cond.methodLink "RuleTree$Grower" (118 : Nat) ({ cls := "RuleTree$Parts", name := "stopOf", desc := "(I)I" } : Jvm.MethodName)) ∈ zwl := zwl_in (zm3 (List.mem_of_getElem? (i := 218) rfl)) rfl
theorem wd_3_219 : (Jvm.Cond.instanceMethod ({ cls := "RuleTree$Parts", name := "stopOf", desc := "(I)I" } : Jvm.MethodName)) ∈ zwl := zwl_in (zm3 (List.mem_of_getElem? (i := 219) rfl)) rfl
theorem wd_3_220 : (Jvm.Cond.selects "RuleTree$Parts" ({ cls := "RuleTree$Parts", name := "stopOf", desc := "(I)I" } : Jvm.MethodName) ({ cls := "RuleTree$Parts", name := "stopOf", desc := "(I)I" } : Jvm.MethodName)) ∈ zwl := zwl_in (zm3 (List.mem_of_getElem? (i := 220) rfl)) rfl
theorem wd_3_221 : (Jvm.Cond.code ({ cls := "RuleTree$Parts", name := "stopOf", desc := "(I)I" } : Jvm.MethodName) prog_7_method_19_code (2 : Nat) (Option.some Jvm.ClassFile.FieldType.int)) ∈ zwl := zwl_in (zm3 (List.mem_of_getElem? (i := 221) rfl)) rfl
theorem wd_3_222 : (Jvm.Cond.methodLink "RuleTree$Grower" (97 : Nat) ({ cls := "RuleTree$Parts", name := "askPart", desc := "(I)I" } : Jvm.MethodName)) ∈ zwl := zwl_in (zm3 (List.mem_of_getElem? (i := 222) rfl)) rfl
theorem wd_3_223 : (Jvm.Cond.instanceMethod ({ cls := "RuleTree$Parts", name := "askPart", desc := "(I)I" } : Jvm.MethodName)) ∈ zwl := zwl_in (zm3 (List.mem_of_getElem? (i := 223) rfl)) rfl
theorem wd_3_224 : (Jvm.Cond.selects "RuleTree$Parts" ({ cls := "RuleTree$Parts", name := "askPart", desc := "(I)I" } : Jvm.MethodName) ({ cls := "RuleTree$Parts", name := "askPart", desc := "(I)I" } : Jvm.MethodName)) ∈ zwl := zwl_in (zm3 (List.mem_of_getElem? (i := 224) rfl)) rfl
theorem wd_3_225 : (Jvm.Cond.code ({ cls := "RuleTree$Parts", name := "askPart", desc := "(I)I" } : Jvm.MethodName) prog_7_method_17_code (2 : Nat) (Option.some Jvm.ClassFile.FieldType.int)) ∈ zwl := zwl_in (zm3 (List.mem_of_getElem? (i := 225) rfl)) rfl
theorem wd_3_226 : (Jvm.Cond.methodLink "RuleTree$Grower" (100 : Nat) ({ cls := "RuleTree$Nodes", name := "settle", desc := "(IIII)V" } : Jvm.MethodName)) ∈ zwl := zwl_in (zm3 (List.mem_of_getElem? (i := 226) rfl)) rfl
theorem wd_3_227 : (Jvm.Cond.instanceMethod ({ cls := "RuleTree$Nodes", name := "settle", desc := "(IIII)V" } : Jvm.MethodName)) ∈ zwl := zwl_in (zm3 (List.mem_of_getElem? (i := 227) rfl)) rfl
theorem wd_3_228 : (Jvm.Cond.selects "RuleTree$Nodes" ({ cls := "RuleTree$Nodes", name := "settle", desc := "(IIII)V" } : Jvm.MethodName) ({ cls := "RuleTree$Nodes", name := "settle", desc := "(IIII)V" } : Jvm.MethodName)) ∈ zwl := zwl_in (zm3 (List.mem_of_getElem? (i := 228) rfl)) rfl
theorem wd_3_229 : (Jvm.Cond.code ({ cls := "RuleTree$Nodes", name := "settle", desc := "(IIII)V" } : Jvm.MethodName) prog_5_method_5_code (5 : Nat) (Option.none : Option Jvm.ClassFile.FieldType)) ∈ zwl := zwl_in (zm3 (List.mem_of_getElem? (i := 229) rfl)) rfl
theorem wd_3_230 : (Jvm.Cond.methodLink "RuleTree$Grower" (104 : Nat) ({ cls := "RuleTree$Row", name := "set", desc := "(II)V" } : Jvm.MethodName)) ∈ zwl := zwl_in (zm3 (List.mem_of_getElem? (i := 230) rfl)) rfl
theorem wd_3_231 : (Jvm.Cond.methodLink "RuleTree$Grower" (52 : Nat) ({ cls := "RuleTree$Nodes", name := "size", desc := "()I" } : Jvm.MethodName)) ∈ zwl := zwl_in (zm3 (List.mem_of_getElem? (i := 231) rfl)) rfl
theorem wd_3_232 : (Jvm.Cond.instanceMethod ({ cls := "RuleTree$Nodes", name := "size", desc := "()I" } : Jvm.MethodName)) ∈ zwl := zwl_in (zm3 (List.mem_of_getElem? (i := 232) rfl)) rfl
theorem wd_3_233 : (Jvm.Cond.selects "RuleTree$Nodes" ({ cls := "RuleTree$Nodes", name := "size", desc := "()I" } : Jvm.MethodName) ({ cls := "RuleTree$Nodes", name := "size", desc := "()I" } : Jvm.MethodName)) ∈ zwl := zwl_in (zm3 (List.mem_of_getElem? (i := 233) rfl)) rfl
theorem wd_3_234 : (Jvm.Cond.code ({ cls := "RuleTree$Nodes", name := "size", desc := "()I" } : Jvm.MethodName) prog_5_method_2_code (1 : Nat) (Option.some Jvm.ClassFile.FieldType.int)) ∈ zwl := zwl_in (zm3 (List.mem_of_getElem? (i := 234) rfl)) rfl
theorem wd_3_235 : (Jvm.Cond.methodLink "RuleTree$Nodes" (45 : Nat) ({ cls := "RuleTree$Row", name := "size", desc := "()I" } : Jvm.MethodName)) ∈ zwl := zwl_in (zm3 (List.mem_of_getElem? (i := 235) rfl)) rfl
theorem wd_3_236 : (Jvm.Cond.constant "RuleTree$Grower" (53 : Nat) (1000000 : Int32)) ∈ zwl := zwl_in (zm3 (List.mem_of_getElem? (i := 236) rfl)) rfl
theorem wd_3_237 : (Jvm.Cond.methodLink "RuleTree$Grower" (54 : Nat) ({ cls := "RuleTree$Grower", name := "goOn", desc := "(I)I" } : Jvm.MethodName)) ∈ zwl := zwl_in (zm3 (List.mem_of_getElem? (i := 237) rfl)) rfl
theorem wd_3_239 : (Jvm.Cond.instanceMethod ({ cls := "RuleTree$Grower", name := "goOn", desc := "(I)I" } : Jvm.MethodName)) ∈ zwl := zwl_in (zm3 (List.mem_of_getElem? (i := 239) rfl)) rfl
theorem wd_4_0 : (Jvm.Cond.code ({ cls := "RuleTree$Grower", name := "goOn", desc := "(I)I" } : Jvm.MethodName) prog_4_method_3_code (3 : Nat) (Option.some Jvm.ClassFile.FieldType.int)) ∈ zwl := zwl_in (zm4 (List.mem_of_getElem? (i := 0) rfl)) rfl
theorem wd_4_1 : (Jvm.Cond.methodLink "RuleTree$Grower" (58 : Nat) ({ cls := "RuleTree$Nodes", name := "part", desc := "(I)I" } : Jvm.MethodName)) ∈ zwl := zwl_in (zm4 (List.mem_of_getElem? (i := 1) rfl)) rfl
theorem wd_4_2 : (Jvm.Cond.instanceMethod ({ cls := "RuleTree$Nodes", name := "part", desc := "(I)I" } : Jvm.MethodName)) ∈ zwl := zwl_in (zm4 (List.mem_of_getElem? (i := 2) rfl)) rfl
theorem wd_4_3 : (Jvm.Cond.selects "RuleTree$Nodes" ({ cls := "RuleTree$Nodes", name := "part", desc := "(I)I" } : Jvm.MethodName) ({ cls := "RuleTree$Nodes", name := "part", desc := "(I)I" } : Jvm.MethodName)) ∈ zwl := zwl_in (zm4 (List.mem_of_getElem? (i := 3) rfl)) rfl
theorem wd_4_4 : (Jvm.Cond.code ({ cls := "RuleTree$Nodes", name := "part", desc := "(I)I" } : Jvm.MethodName) prog_5_method_6_code (2 : Nat) (Option.some Jvm.ClassFile.FieldType.int)) ∈ zwl := zwl_in (zm4 (List.mem_of_getElem? (i := 4) rfl)) rfl
theorem wd_4_5 : (Jvm.Cond.methodLink "RuleTree$Grower" (61 : Nat) ({ cls := "RuleTree$Grower", name := "leave", desc := "(I)I" } : Jvm.MethodName)) ∈ zwl := zwl_in (zm4 (List.mem_of_getElem? (i := 5) rfl)) rfl
theorem wd_4_7 : (Jvm.Cond.instanceMethod ({ cls := "RuleTree$Grower", name := "leave", desc := "(I)I" } : Jvm.MethodName)) ∈ zwl := zwl_in (zm4 (List.mem_of_getElem? (i := 7) rfl)) rfl
theorem wd_4_8 : (Jvm.Cond.code ({ cls := "RuleTree$Grower", name := "leave", desc := "(I)I" } : Jvm.MethodName) prog_4_method_5_code (3 : Nat) (Option.some Jvm.ClassFile.FieldType.int)) ∈ zwl := zwl_in (zm4 (List.mem_of_getElem? (i := 8) rfl)) rfl
theorem wd_4_9 : (Jvm.Cond.methodLink "RuleTree$Grower" (107 : Nat) ({ cls := "RuleTree$Nodes", name := "upper", desc := "(I)I" } : Jvm.MethodName)) ∈ zwl := zwl_in (zm4 (List.mem_of_getElem? (i := 9) rfl)) rfl
theorem wd_4_10 : (Jvm.Cond.instanceMethod ({ cls := "RuleTree$Nodes", name := "upper", desc := "(I)I" } : Jvm.MethodName)) ∈ zwl := zwl_in (zm4 (List.mem_of_getElem? (i := 10) rfl)) rfl
theorem wd_4_11 : (Jvm.Cond.selects "RuleTree$Nodes" ({ cls := "RuleTree$Nodes", name := "upper", desc := "(I)I" } : Jvm.MethodName) ({ cls := "RuleTree$Nodes", name := "upper", desc := "(I)I" } : Jvm.MethodName)) ∈ zwl := zwl_in (zm4 (List.mem_of_getElem? (i := 11) rfl)) rfl
theorem wd_4_12 : (Jvm.Cond.code ({ cls := "RuleTree$Nodes", name := "upper", desc := "(I)I" } : Jvm.MethodName) prog_5_method_9_code (2 : Nat) (Option.some Jvm.ClassFile.FieldType.int)) ∈ zwl := zwl_in (zm4 (List.mem_of_getElem? (i := 12) rfl)) rfl
theorem wd_4_13 : (Jvm.Cond.methodLink "RuleTree$Grower" (110 : Nat) ({ cls := "RuleTree$Grower", name := "letIn", desc := "(I)V" } : Jvm.MethodName)) ∈ zwl := zwl_in (zm4 (List.mem_of_getElem? (i := 13) rfl)) rfl
theorem wd_4_15 : (Jvm.Cond.instanceMethod ({ cls := "RuleTree$Grower", name := "letIn", desc := "(I)V" } : Jvm.MethodName)) ∈ zwl := zwl_in (zm4 (List.mem_of_getElem? (i := 15) rfl)) rfl
theorem wd_4_16 : (Jvm.Cond.code ({ cls := "RuleTree$Grower", name := "letIn", desc := "(I)V" } : Jvm.MethodName) prog_4_method_12_code (4 : Nat) (Option.none : Option Jvm.ClassFile.FieldType)) ∈ zwl := zwl_in (zm4 (List.mem_of_getElem? (i := 16) rfl)) rfl
theorem wd_4_17 : (Jvm.Cond.methodLink "RuleTree$Grower" (124 : Nat) ({ cls := "RuleTree$Parts", name := "firstEdge", desc := "(I)I" } : Jvm.MethodName)) ∈ zwl := zwl_in (zm4 (List.mem_of_getElem? (i := 17) rfl)) rfl
theorem wd_4_18 : (Jvm.Cond.instanceMethod ({ cls := "RuleTree$Parts", name := "firstEdge", desc := "(I)I" } : Jvm.MethodName)) ∈ zwl := zwl_in (zm4 (List.mem_of_getElem? (i := 18) rfl)) rfl
theorem wd_4_19 : (Jvm.Cond.selects "RuleTree$Parts" ({ cls := "RuleTree$Parts", name := "firstEdge", desc := "(I)I" } : Jvm.MethodName) ({ cls := "RuleTree$Parts", name := "firstEdge", desc := "(I)I" } : Jvm.MethodName)) ∈ zwl := zwl_in (zm4 (List.mem_of_getElem? (i := 19) rfl)) rfl
theorem wd_4_20 : (Jvm.Cond.code ({ cls := "RuleTree$Parts", name := "firstEdge", desc := "(I)I" } : Jvm.MethodName) prog_7_method_8_code (2 : Nat) (Option.some Jvm.ClassFile.FieldType.int)) ∈ zwl := zwl_in (zm4 (List.mem_of_getElem? (i := 20) rfl)) rfl
theorem wd_4_21 : (Jvm.Cond.methodLink "RuleTree$Grower" (131 : Nat) ({ cls := "RuleTree$Parts", name := "edges", desc := "()I" } : Jvm.MethodName)) ∈ zwl := zwl_in (zm4 (List.mem_of_getElem? (i := 21) rfl)) rfl
theorem wd_4_22 : (Jvm.Cond.instanceMethod ({ cls := "RuleTree$Parts", name := "edges", desc := "()I" } : Jvm.MethodName)) ∈ zwl := zwl_in (zm4 (List.mem_of_getElem? (i := 22) rfl)) rfl
theorem wd_4_23 : (Jvm.Cond.selects "RuleTree$Parts" ({ cls := "RuleTree$Parts", name := "edges", desc := "()I" } : Jvm.MethodName) ({ cls := "RuleTree$Parts", name := "edges", desc := "()I" } : Jvm.MethodName)) ∈ zwl := zwl_in (zm4 (List.mem_of_getElem? (i := 23) rfl)) rfl
theorem wd_4_24 : (Jvm.Cond.code ({ cls := "RuleTree$Parts", name := "edges", desc := "()I" } : Jvm.MethodName) prog_7_method_7_code (1 : Nat) (Option.some Jvm.ClassFile.FieldType.int)) ∈ zwl := zwl_in (zm4 (List.mem_of_getElem? (i := 24) rfl)) rfl
theorem wd_4_25 : (Jvm.Cond.methodLink "RuleTree$Grower" (163 : Nat) ({ cls := "RuleTree$Grower", name := "changeOuts", desc := "(III)V" } : Jvm.MethodName)) ∈ zwl := zwl_in (zm4 (List.mem_of_getElem? (i := 25) rfl)) rfl
theorem wd_4_27 : (Jvm.Cond.instanceMethod ({ cls := "RuleTree$Grower", name := "changeOuts", desc := "(III)V" } : Jvm.MethodName)) ∈ zwl := zwl_in (zm4 (List.mem_of_getElem? (i := 27) rfl)) rfl
theorem wd_4_28 : (Jvm.Cond.code ({ cls := "RuleTree$Grower", name := "changeOuts", desc := "(III)V" } : Jvm.MethodName) prog_4_method_13_code (7 : Nat) (Option.none : Option Jvm.ClassFile.FieldType)) ∈ zwl := zwl_in (zm4 (List.mem_of_getElem? (i := 28) rfl)) rfl
theorem wd_4_29 : (Jvm.Cond.methodLink "RuleTree$Grower" (137 : Nat) ({ cls := "RuleTree$Parts", name := "firstAsk", desc := "(I)I" } : Jvm.MethodName)) ∈ zwl := zwl_in (zm4 (List.mem_of_getElem? (i := 29) rfl)) rfl
theorem wd_4_30 : (Jvm.Cond.instanceMethod ({ cls := "RuleTree$Parts", name := "firstAsk", desc := "(I)I" } : Jvm.MethodName)) ∈ zwl := zwl_in (zm4 (List.mem_of_getElem? (i := 30) rfl)) rfl
theorem wd_4_31 : (Jvm.Cond.selects "RuleTree$Parts" ({ cls := "RuleTree$Parts", name := "firstAsk", desc := "(I)I" } : Jvm.MethodName) ({ cls := "RuleTree$Parts", name := "firstAsk", desc := "(I)I" } : Jvm.MethodName)) ∈ zwl := zwl_in (zm4 (List.mem_of_getElem? (i := 31) rfl)) rfl
theorem wd_4_32 : (Jvm.Cond.code ({ cls := "RuleTree$Parts", name := "firstAsk", desc := "(I)I" } : Jvm.MethodName) prog_7_method_14_code (2 : Nat) (Option.some Jvm.ClassFile.FieldType.int)) ∈ zwl := zwl_in (zm4 (List.mem_of_getElem? (i := 32) rfl)) rfl
theorem wd_4_33 : (Jvm.Cond.methodLink "RuleTree$Grower" (140 : Nat) ({ cls := "RuleTree$Parts", name := "asks", desc := "()I" } : Jvm.MethodName)) ∈ zwl := zwl_in (zm4 (List.mem_of_getElem? (i := 33) rfl)) rfl
theorem wd_4_34 : (Jvm.Cond.instanceMethod ({ cls := "RuleTree$Parts", name := "asks", desc := "()I" } : Jvm.MethodName)) ∈ zwl := zwl_in (zm4 (List.mem_of_getElem? (i := 34) rfl)) rfl
theorem wd_4_35 : (Jvm.Cond.selects "RuleTree$Parts" ({ cls := "RuleTree$Parts", name := "asks", desc := "()I" } : Jvm.MethodName) ({ cls := "RuleTree$Parts", name := "asks", desc := "()I" } : Jvm.MethodName)) ∈ zwl := zwl_in (zm4 (List.mem_of_getElem? (i := 35) rfl)) rfl
theorem wd_4_36 : (Jvm.Cond.code ({ cls := "RuleTree$Parts", name := "asks", desc := "()I" } : Jvm.MethodName) prog_7_method_13_code (1 : Nat) (Option.some Jvm.ClassFile.FieldType.int)) ∈ zwl := zwl_in (zm4 (List.mem_of_getElem? (i := 36) rfl)) rfl
theorem wd_4_37 : (Jvm.Cond.methodLink "RuleTree$Grower" (143 : Nat) ({ cls := "RuleTree$Parts", name := "askRule", desc := "(I)I" } : Jvm.MethodName)) ∈ zwl := zwl_in (zm4 (List.mem_of_getElem? (i := 37) rfl)) rfl
theorem wd_4_38 : (Jvm.Cond.instanceMethod ({ cls := "RuleTree$Parts", name := "askRule", desc := "(I)I" } : Jvm.MethodName)) ∈ zwl := zwl_in (zm4 (List.mem_of_getElem? (i := 38) rfl)) rfl
theorem wd_4_39 : (Jvm.Cond.selects "RuleTree$Parts" ({ cls := "RuleTree$Parts", name := "askRule", desc := "(I)I" } : Jvm.MethodName) ({ cls := "RuleTree$Parts", name := "askRule", desc := "(I)I" } : Jvm.MethodName)) ∈ zwl := zwl_in (zm4 (List.mem_of_getElem? (i := 39) rfl)) rfl
theorem wd_4_40 : (Jvm.Cond.code ({ cls := "RuleTree$Parts", name := "askRule", desc := "(I)I" } : Jvm.MethodName) prog_7_method_16_code (2 : Nat) (Option.some Jvm.ClassFile.FieldType.int)) ∈ zwl := zwl_in (zm4 (List.mem_of_getElem? (i := 40) rfl)) rfl
theorem wd_4_41 : (Jvm.Cond.methodLink "RuleTree$Grower" (146 : Nat) ({ cls := "RuleTree$Parts", name := "nextAsk", desc := "(I)I" } : Jvm.MethodName)) ∈ zwl := zwl_in (zm4 (List.mem_of_getElem? (i := 41) rfl)) rfl
theorem wd_4_42 : (Jvm.Cond.instanceMethod ({ cls := "RuleTree$Parts", name := "nextAsk", desc := "(I)I" } : Jvm.MethodName)) ∈ zwl := zwl_in (zm4 (List.mem_of_getElem? (i := 42) rfl)) rfl
theorem wd_4_43 : (Jvm.Cond.selects "RuleTree$Parts" ({ cls := "RuleTree$Parts", name := "nextAsk", desc := "(I)I" } : Jvm.MethodName) ({ cls := "RuleTree$Parts", name := "nextAsk", desc := "(I)I" } : Jvm.MethodName)) ∈ zwl := zwl_in (zm4 (List.mem_of_getElem? (i := 43) rfl)) rfl
theorem wd_4_44 : (Jvm.Cond.code ({ cls := "RuleTree$Parts", name := "nextAsk", desc := "(I)I" } : Jvm.MethodName) prog_7_method_15_code (2 : Nat) (Option.some Jvm.ClassFile.FieldType.int)) ∈ zwl := zwl_in (zm4 (List.mem_of_getElem? (i := 44) rfl)) rfl
theorem wd_4_45 : (Jvm.Cond.methodLink "RuleTree$Grower" (130 : Nat) ({ cls := "RuleTree$Parts", name := "nextEdge", desc := "(I)I" } : Jvm.MethodName)) ∈ zwl := zwl_in (zm4 (List.mem_of_getElem? (i := 45) rfl)) rfl
theorem wd_4_46 : (Jvm.Cond.instanceMethod ({ cls := "RuleTree$Parts", name := "nextEdge", desc := "(I)I" } : Jvm.MethodName)) ∈ zwl := zwl_in (zm4 (List.mem_of_getElem? (i := 46) rfl)) rfl
theorem wd_4_47 : (Jvm.Cond.selects "RuleTree$Parts" ({ cls := "RuleTree$Parts", name := "nextEdge", desc := "(I)I" } : Jvm.MethodName) ({ cls := "RuleTree$Parts", name := "nextEdge", desc := "(I)I" } : Jvm.MethodName)) ∈ zwl := zwl_in (zm4 (List.mem_of_getElem? (i := 47) rfl)) rfl
theorem wd_4_48 : (Jvm.Cond.code ({ cls := "RuleTree$Parts", name := "nextEdge", desc := "(I)I" } : Jvm.MethodName) prog_7_method_9_code (2 : Nat) (Option.some Jvm.ClassFile.FieldType.int)) ∈ zwl := zwl_in (zm4 (List.mem_of_getElem? (i := 48) rfl)) rfl
theorem wd_4_49 : (Jvm.Cond.methodLink "RuleTree$Grower" (64 : Nat) ({ cls := "RuleTree$Grower", name := "nextEdge", desc := "(I)I" } : Jvm.MethodName)) ∈ zwl := zwl_in (zm4 (List.mem_of_getElem? (i := 49) rfl)) rfl
theorem wd_4_51 : (Jvm.Cond.instanceMethod ({ cls := "RuleTree$Grower", name := "nextEdge", desc := "(I)I" } : Jvm.MethodName)) ∈ zwl := zwl_in (zm4 (List.mem_of_getElem? (i := 51) rfl)) rfl
theorem wd_4_52 : (Jvm.Cond.code ({ cls := "RuleTree$Grower", name := "nextEdge", desc := "(I)I" } : Jvm.MethodName) prog_4_method_8_code (5 : Nat) (Option.some Jvm.ClassFile.FieldType.int)) ∈ zwl := zwl_in (zm4 (List.mem_of_getElem? (i := 52) rfl)) rfl
theorem wd_4_53 : (Jvm.Cond.methodLink "RuleTree$Grower" (121 : Nat) ({ cls := "RuleTree$Nodes", name := "lastBranch", desc := "(I)I" } : Jvm.MethodName)) ∈ zwl := zwl_in (zm4 (List.mem_of_getElem? (i := 53) rfl)) rfl
theorem wd_4_54 : (Jvm.Cond.instanceMethod ({ cls := "RuleTree$Nodes", name := "lastBranch", desc := "(I)I" } : Jvm.MethodName)) ∈ zwl := zwl_in (zm4 (List.mem_of_getElem? (i := 54) rfl)) rfl
theorem wd_4_55 : (Jvm.Cond.selects "RuleTree$Nodes" ({ cls := "RuleTree$Nodes", name := "lastBranch", desc := "(I)I" } : Jvm.MethodName) ({ cls := "RuleTree$Nodes", name := "lastBranch", desc := "(I)I" } : Jvm.MethodName)) ∈ zwl := zwl_in (zm4 (List.mem_of_getElem? (i := 55) rfl)) rfl
theorem wd_4_56 : (Jvm.Cond.code ({ cls := "RuleTree$Nodes", name := "lastBranch", desc := "(I)I" } : Jvm.MethodName) prog_5_method_12_code (2 : Nat) (Option.some Jvm.ClassFile.FieldType.int)) ∈ zwl := zwl_in (zm4 (List.mem_of_getElem? (i := 56) rfl)) rfl
theorem wd_4_57 : (Jvm.Cond.methodLink "RuleTree$Grower" (127 : Nat) ({ cls := "RuleTree$Nodes", name := "edge", desc := "(I)I" } : Jvm.MethodName)) ∈ zwl := zwl_in (zm4 (List.mem_of_getElem? (i := 57) rfl)) rfl
theorem wd_4_58 : (Jvm.Cond.instanceMethod ({ cls := "RuleTree$Nodes", name := "edge", desc := "(I)I" } : Jvm.MethodName)) ∈ zwl := zwl_in (zm4 (List.mem_of_getElem? (i := 58) rfl)) rfl
theorem wd_4_59 : (Jvm.Cond.selects "RuleTree$Nodes" ({ cls := "RuleTree$Nodes", name := "edge", desc := "(I)I" } : Jvm.MethodName) ({ cls := "RuleTree$Nodes", name := "edge", desc := "(I)I" } : Jvm.MethodName)) ∈ zwl := zwl_in (zm4 (List.mem_of_getElem? (i := 59) rfl)) rfl
theorem wd_4_60 : (Jvm.Cond.code ({ cls := "RuleTree$Nodes", name := "edge", desc := "(I)I" } : Jvm.MethodName) prog_5_method_10_code (2 : Nat) (Option.some Jvm.ClassFile.FieldType.int)) ∈ zwl := zwl_in (zm4 (List.mem_of_getElem? (i := 60) rfl)) rfl
theorem wd_4_61 : (Jvm.Cond.methodLink "RuleTree$Grower" (134 : Nat) ({ cls := "RuleTree$Grower", name := "isAsked", desc := "(I)Z" } : Jvm.MethodName)) ∈ zwl := zwl_in (zm4 (List.mem_of_getElem? (i := 61) rfl)) rfl
theorem wd_4_63 : (Jvm.Cond.instanceMethod ({ cls := "RuleTree$Grower", name := "isAsked", desc := "(I)Z" } : Jvm.MethodName)) ∈ zwl := zwl_in (zm4 (List.mem_of_getElem? (i := 63) rfl)) rfl
theorem wd_4_64 : (Jvm.Cond.code ({ cls := "RuleTree$Grower", name := "isAsked", desc := "(I)Z" } : Jvm.MethodName) prog_4_method_9_code (4 : Nat) (Option.some Jvm.ClassFile.FieldType.boolean)) ∈ zwl := zwl_in (zm4 (List.mem_of_getElem? (i := 64) rfl)) rfl
theorem wd_4_65 : (Jvm.Cond.methodLink "RuleTree$Grower" (67 : Nat) ({ cls := "RuleTree$Grower", name := "othersLeft", desc := "(I)Z" } : Jvm.MethodName)) ∈ zwl := zwl_in (zm4 (List.mem_of_getElem? (i := 65) rfl)) rfl
theorem wd_4_67 : (Jvm.Cond.instanceMethod ({ cls := "RuleTree$Grower", name := "othersLeft", desc := "(I)Z" } : Jvm.MethodName)) ∈ zwl := zwl_in (zm4 (List.mem_of_getElem? (i := 67) rfl)) rfl
theorem wd_4_68 : (Jvm.Cond.code ({ cls := "RuleTree$Grower", name := "othersLeft", desc := "(I)Z" } : Jvm.MethodName) prog_4_method_10_code (5 : Nat) (Option.some Jvm.ClassFile.FieldType.boolean)) ∈ zwl := zwl_in (zm4 (List.mem_of_getElem? (i := 68) rfl)) rfl
theorem wd_4_69 : (Jvm.Cond.methodLink "RuleTree$Grower" (149 : Nat) ({ cls := "RuleTree$Parts", name := "shape", desc := "(I)I" } : Jvm.MethodName)) ∈ zwl := zwl_in (zm4 (List.mem_of_getElem? (i := 69) rfl)) rfl
theorem wd_4_70 : (Jvm.Cond.instanceMethod ({ cls := "RuleTree$Parts", name := "shape", desc := "(I)I" } : Jvm.MethodName)) ∈ zwl := zwl_in (zm4 (List.mem_of_getElem? (i := 70) rfl)) rfl
theorem wd_4_71 : (Jvm.Cond.selects "RuleTree$Parts" ({ cls := "RuleTree$Parts", name := "shape", desc := "(I)I" } : Jvm.MethodName) ({ cls := "RuleTree$Parts", name := "shape", desc := "(I)I" } : Jvm.MethodName)) ∈ zwl := zwl_in (zm4 (List.mem_of_getElem? (i := 71) rfl)) rfl
theorem wd_4_72 : (Jvm.Cond.code ({ cls := "RuleTree$Parts", name := "shape", desc := "(I)I" } : Jvm.MethodName) prog_7_method_3_code (2 : Nat) (Option.some Jvm.ClassFile.FieldType.int)) ∈ zwl := zwl_in (zm4 (List.mem_of_getElem? (i := 72) rfl)) rfl
theorem wd_4_73 : (Jvm.Cond.methodLink "RuleTree$Grower" (152 : Nat) ({ cls := "RuleTree$Nodes", name := "branches", desc := "(I)I" } : Jvm.MethodName)) ∈ zwl := zwl_in (zm4 (List.mem_of_getElem? (i := 73) rfl)) rfl
theorem wd_4_74 : (Jvm.Cond.instanceMethod ({ cls := "RuleTree$Nodes", name := "branches", desc := "(I)I" } : Jvm.MethodName)) ∈ zwl := zwl_in (zm4 (List.mem_of_getElem? (i := 74) rfl)) rfl
theorem wd_4_75 : (Jvm.Cond.selects "RuleTree$Nodes" ({ cls := "RuleTree$Nodes", name := "branches", desc := "(I)I" } : Jvm.MethodName) ({ cls := "RuleTree$Nodes", name := "branches", desc := "(I)I" } : Jvm.MethodName)) ∈ zwl := zwl_in (zm4 (List.mem_of_getElem? (i := 75) rfl)) rfl
theorem wd_4_76 : (Jvm.Cond.code ({ cls := "RuleTree$Nodes", name := "branches", desc := "(I)I" } : Jvm.MethodName) prog_5_method_14_code (2 : Nat) (Option.some Jvm.ClassFile.FieldType.int)) ∈ zwl := zwl_in (zm4 (List.mem_of_getElem? (i := 76) rfl)) rfl
theorem wd_4_77 : (Jvm.Cond.methodLink "RuleTree$Grower" (155 : Nat) ({ cls := "RuleTree$Parts", name := "sort", desc := "(I)I" } : Jvm.MethodName)) ∈ zwl := zwl_in (zm4 (List.mem_of_getElem? (i := 77) rfl)) rfl
theorem wd_4_78 : (Jvm.Cond.instanceMethod ({ cls := "RuleTree$Parts", name := "sort", desc := "(I)I" } : Jvm.MethodName)) ∈ zwl := zwl_in (zm4 (List.mem_of_getElem? (i := 78) rfl)) rfl
theorem wd_4_79 : (Jvm.Cond.selects "RuleTree$Parts" ({ cls := "RuleTree$Parts", name := "sort", desc := "(I)I" } : Jvm.MethodName) ({ cls := "RuleTree$Parts", name := "sort", desc := "(I)I" } : Jvm.MethodName)) ∈ zwl := zwl_in (zm4 (List.mem_of_getElem? (i := 79) rfl)) rfl
theorem wd_4_80 : (Jvm.Cond.code ({ cls := "RuleTree$Parts", name := "sort", desc := "(I)I" } : Jvm.MethodName) prog_7_method_4_code (2 : Nat) (Option.some Jvm.ClassFile.FieldType.int)) ∈ zwl := zwl_in (zm4 (List.mem_of_getElem? (i := 80) rfl)) rfl
theorem wd_4_81 : (Jvm.Cond.methodLink "RuleTree$Grower" (158 : Nat) ({ cls := "RuleTree$Families", name := "tags", desc := "(I)I" } : Jvm.MethodName)) ∈ zwl := zwl_in (zm4 (List.mem_of_getElem? (i := 81) rfl)) rfl
theorem wd_4_82 : (Jvm.Cond.instanceMethod ({ cls := "RuleTree$Families", name := "tags", desc := "(I)I" } : Jvm.MethodName)) ∈ zwl := zwl_in (zm4 (List.mem_of_getElem? (i := 82) rfl)) rfl
theorem wd_4_83 : (Jvm.Cond.selects "RuleTree$Families" ({ cls := "RuleTree$Families", name := "tags", desc := "(I)I" } : Jvm.MethodName) ({ cls := "RuleTree$Families", name := "tags", desc := "(I)I" } : Jvm.MethodName)) ∈ zwl := zwl_in (zm4 (List.mem_of_getElem? (i := 83) rfl)) rfl
theorem wd_4_84 : (Jvm.Cond.code ({ cls := "RuleTree$Families", name := "tags", desc := "(I)I" } : Jvm.MethodName) prog_2_method_4_code (2 : Nat) (Option.some Jvm.ClassFile.FieldType.int)) ∈ zwl := zwl_in (zm4 (List.mem_of_getElem? (i := 84) rfl)) rfl
theorem wd_4_85 : (Jvm.Cond.methodLink "RuleTree$Grower" (71 : Nat) ({ cls := "RuleTree$Grower", name := "ruleOut", desc := "(II)V" } : Jvm.MethodName)) ∈ zwl := zwl_in (zm4 (List.mem_of_getElem? (i := 85) rfl)) rfl
theorem wd_4_87 : (Jvm.Cond.instanceMethod ({ cls := "RuleTree$Grower", name := "ruleOut", desc := "(II)V" } : Jvm.MethodName)) ∈ zwl := zwl_in (zm4 (List.mem_of_getElem? (i := 87) rfl)) rfl
theorem wd_4_88 : (Jvm.Cond.code ({ cls := "RuleTree$Grower", name := "ruleOut", desc := "(II)V" } : Jvm.MethodName) prog_4_method_11_code (5 : Nat) (Option.none : Option Jvm.ClassFile.FieldType)) ∈ zwl := zwl_in (zm4 (List.mem_of_getElem? (i := 88) rfl)) rfl
theorem wd_4_89 : (Jvm.Cond.methodLink "RuleTree" (156 : Nat) ({ cls := "RuleTree", name := "hasTree", desc := "()Z" } : Jvm.MethodName)) ∈ zwl := zwl_in (zm4 (List.mem_of_getElem? (i := 89) rfl)) rfl
theorem wd_4_91 : (Jvm.Cond.instanceMethod ({ cls := "RuleTree", name := "hasTree", desc := "()Z" } : Jvm.MethodName)) ∈ zwl := zwl_in (zm4 (List.mem_of_getElem? (i := 91) rfl)) rfl
theorem wd_4_92 : (Jvm.Cond.code ({ cls := "RuleTree", name := "hasTree", desc := "()Z" } : Jvm.MethodName) prog_1_method_21_code (1 : Nat) (Option.some Jvm.ClassFile.FieldType.boolean)) ∈ zwl := zwl_in (zm4 (List.mem_of_getElem? (i := 92) rfl)) rfl
theorem wd_4_93 : (Jvm.Cond.methodLink "RuleTree" (160 : Nat) ({ cls := "RuleTree$Gap", name := "find", desc := "()V" } : Jvm.MethodName)) ∈ zwl := zwl_in (zm4 (List.mem_of_getElem? (i := 93) rfl)) rfl
theorem wd_4_94 : (Jvm.Cond.instanceMethod ({ cls := "RuleTree$Gap", name := "find", desc := "()V" } : Jvm.MethodName)) ∈ zwl := zwl_in (zm4 (List.mem_of_getElem? (i := 94) rfl)) rfl
theorem wd_4_95 : (Jvm.Cond.selects "RuleTree$Gap" ({ cls := "RuleTree$Gap", name := "find", desc := "()V" } : Jvm.MethodName) ({ cls := "RuleTree$Gap", name := "find", desc := "()V" } : Jvm.MethodName)) ∈ zwl := zwl_in (zm4 (List.mem_of_getElem? (i := 95) rfl)) rfl
theorem wd_4_96 : (Jvm.Cond.code ({ cls := "RuleTree$Gap", name := "find", desc := "()V" } : Jvm.MethodName) prog_3_method_2_code (3 : Nat) (Option.none : Option Jvm.ClassFile.FieldType)) ∈ zwl := zwl_in (zm4 (List.mem_of_getElem? (i := 96) rfl)) rfl
theorem wd_4_97 : (Jvm.Cond.methodLink "RuleTree$Gap" (37 : Nat) ({ cls := "RuleTree$Parts", name := "size", desc := "()I" } : Jvm.MethodName)) ∈ zwl := zwl_in (zm4 (List.mem_of_getElem? (i := 97) rfl)) rfl
theorem wd_4_98 : (Jvm.Cond.methodLink "RuleTree$Gap" (43 : Nat) ({ cls := "RuleTree$Row", name := "refill", desc := "(II)V" } : Jvm.MethodName)) ∈ zwl := zwl_in (zm4 (List.mem_of_getElem? (i := 98) rfl)) rfl
theorem wd_4_99 : (Jvm.Cond.methodLink "RuleTree$Gap" (47 : Nat) ({ cls := "RuleTree$Nodes", name := "firstEndWith", desc := "(I)I" } : Jvm.MethodName)) ∈ zwl := zwl_in (zm4 (List.mem_of_getElem? (i := 99) rfl)) rfl
theorem wd_4_100 : (Jvm.Cond.instanceMethod ({ cls := "RuleTree$Nodes", name := "firstEndWith", desc := "(I)I" } : Jvm.MethodName)) ∈ zwl := zwl_in (zm4 (List.mem_of_getElem? (i := 100) rfl)) rfl
theorem wd_4_101 : (Jvm.Cond.selects "RuleTree$Nodes" ({ cls := "RuleTree$Nodes", name := "firstEndWith", desc := "(I)I" } : Jvm.MethodName) ({ cls := "RuleTree$Nodes", name := "firstEndWith", desc := "(I)I" } : Jvm.MethodName)) ∈ zwl := zwl_in (zm4 (List.mem_of_getElem? (i := 101) rfl)) rfl
theorem wd_4_102 : (Jvm.Cond.code ({ cls := "RuleTree$Nodes", name := "firstEndWith", desc := "(I)I" } : Jvm.MethodName) prog_5_method_16_code (3 : Nat) (Option.some Jvm.ClassFile.FieldType.int)) ∈ zwl := zwl_in (zm4 (List.mem_of_getElem? (i := 102) rfl)) rfl
theorem wd_4_103 : (Jvm.Cond.methodLink "RuleTree$Nodes" (66 : Nat) ({ cls := "RuleTree$Nodes", name := "isEndWith", desc := "(II)Z" } : Jvm.MethodName)) ∈ zwl := zwl_in (zm4 (List.mem_of_getElem? (i := 103) rfl)) rfl
theorem wd_4_105 : (Jvm.Cond.instanceMethod ({ cls := "RuleTree$Nodes", name := "isEndWith", desc := "(II)Z" } : Jvm.MethodName)) ∈ zwl := zwl_in (zm4 (List.mem_of_getElem? (i := 105) rfl)) rfl
theorem wd_4_106 : (Jvm.Cond.code ({ cls := "RuleTree$Nodes", name := "isEndWith", desc := "(II)Z" } : Jvm.MethodName) prog_5_method_18_code (3 : Nat) (Option.some Jvm.ClassFile.FieldType.boolean)) ∈ zwl := zwl_in (zm4 (List.mem_of_getElem? (i := 106) rfl)) rfl
theorem wd_4_107 : (Jvm.Cond.methodLink "RuleTree$Gap" (53 : Nat) ({ cls := "RuleTree$Nodes", name := "size", desc := "()I" } : Jvm.MethodName)) ∈ zwl := zwl_in (zm4 (List.mem_of_getElem? (i := 107) rfl)) rfl
theorem wd_4_108 : (Jvm.Cond.methodLink "RuleTree$Gap" (54 : Nat) ({ cls := "RuleTree$Nodes", name := "upper", desc := "(I)I" } : Jvm.MethodName)) ∈ zwl := zwl_in (zm4 (List.mem_of_getElem? (i := 108) rfl)) rfl
theorem wd_4_109 : (Jvm.Cond.methodLink "RuleTree$Gap" (57 : Nat) ({ cls := "RuleTree$Nodes", name := "edge", desc := "(I)I" } : Jvm.MethodName)) ∈ zwl := zwl_in (zm4 (List.mem_of_getElem? (i := 109) rfl)) rfl
theorem wd_4_110 : (Jvm.Cond.methodLink "RuleTree$Gap" (60 : Nat) ({ cls := "RuleTree$Gap", name := "tellBranch", desc := "(II)V" } : Jvm.MethodName)) ∈ zwl := zwl_in (zm4 (List.mem_of_getElem? (i := 110) rfl)) rfl
theorem wd_4_112 : (Jvm.Cond.instanceMethod ({ cls := "RuleTree$Gap", name := "tellBranch", desc := "(II)V" } : Jvm.MethodName)) ∈ zwl := zwl_in (zm4 (List.mem_of_getElem? (i := 112) rfl)) rfl
theorem wd_4_113 : (Jvm.Cond.code ({ cls := "RuleTree$Gap", name := "tellBranch", desc := "(II)V" } : Jvm.MethodName) prog_3_method_4_code (6 : Nat) (Option.none : Option Jvm.ClassFile.FieldType)) ∈ zwl := zwl_in (zm4 (List.mem_of_getElem? (i := 113) rfl)) rfl
theorem wd_4_114 : (Jvm.Cond.methodLink "RuleTree$Gap" (72 : Nat) ({ cls := "RuleTree$Nodes", name := "part", desc := "(I)I" } : Jvm.MethodName)) ∈ zwl := zwl_in (zm4 (List.mem_of_getElem? (i := 114) rfl)) rfl
theorem wd_4_115 : (Jvm.Cond.methodLink "RuleTree$Gap" (75 : Nat) ({ cls := "RuleTree$Parts", name := "shape", desc := "(I)I" } : Jvm.MethodName)) ∈ zwl := zwl_in (zm4 (List.mem_of_getElem? (i := 115) rfl)) rfl
theorem wd_4_116 : (Jvm.Cond.methodLink "RuleTree$Gap" (78 : Nat) ({ cls := "RuleTree$Row", name := "set", desc := "(II)V" } : Jvm.MethodName)) ∈ zwl := zwl_in (zm4 (List.mem_of_getElem? (i := 116) rfl)) rfl
theorem wd_4_117 : (Jvm.Cond.methodLink "RuleTree$Gap" (81 : Nat) ({ cls := "RuleTree$Gap", name := "leastOther", desc := "(I)I" } : Jvm.MethodName)) ∈ zwl := zwl_in (zm4 (List.mem_of_getElem? (i := 117) rfl)) rfl
theorem wd_4_119 : (Jvm.Cond.instanceMethod ({ cls := "RuleTree$Gap", name := "leastOther", desc := "(I)I" } : Jvm.MethodName)) ∈ zwl := zwl_in (zm4 (List.mem_of_getElem? (i := 119) rfl)) rfl
theorem wd_4_120 : (Jvm.Cond.code ({ cls := "RuleTree$Gap", name := "leastOther", desc := "(I)I" } : Jvm.MethodName) prog_3_method_5_code (6 : Nat) (Option.some Jvm.ClassFile.FieldType.int)) ∈ zwl := zwl_in (zm4 (List.mem_of_getElem? (i := 120) rfl)) rfl
theorem wd_4_121 : (Jvm.Cond.methodLink "RuleTree$Gap" (88 : Nat) ({ cls := "RuleTree$Nodes", name := "firstBranch", desc := "(I)I" } : Jvm.MethodName)) ∈ zwl := zwl_in (zm4 (List.mem_of_getElem? (i := 121) rfl)) rfl
theorem wd_4_122 : (Jvm.Cond.instanceMethod ({ cls := "RuleTree$Nodes", name := "firstBranch", desc := "(I)I" } : Jvm.MethodName)) ∈ zwl := zwl_in (zm4 (List.mem_of_getElem? (i := 122) rfl)) rfl
theorem wd_4_123 : (Jvm.Cond.selects "RuleTree$Nodes" ({ cls := "RuleTree$Nodes", name := "firstBranch", desc := "(I)I" } : Jvm.MethodName) ({ cls := "RuleTree$Nodes", name := "firstBranch", desc := "(I)I" } : Jvm.MethodName)) ∈ zwl := zwl_in (zm4 (List.mem_of_getElem? (i := 123) rfl)) rfl
theorem wd_4_124 : (Jvm.Cond.code ({ cls := "RuleTree$Nodes", name := "firstBranch", desc := "(I)I" } : Jvm.MethodName) prog_5_method_11_code (2 : Nat) (Option.some Jvm.ClassFile.FieldType.int)) ∈ zwl := zwl_in (zm4 (List.mem_of_getElem? (i := 124) rfl)) rfl
theorem wd_4_125 : (Jvm.Cond.methodLink "RuleTree$Gap" (84 : Nat) ({ cls := "RuleTree$Parts", name := "label", desc := "(I)I" } : Jvm.MethodName)) ∈ zwl := zwl_in (zm4 (List.mem_of_getElem? (i := 125) rfl)) rfl
theorem wd_4_126 : (Jvm.Cond.instanceMethod ({ cls := "RuleTree$Parts", name := "label", desc := "(I)I" } : Jvm.MethodName)) ∈ zwl := zwl_in (zm4 (List.mem_of_getElem? (i := 126) rfl)) rfl
theorem wd_4_127 : (Jvm.Cond.selects "RuleTree$Parts" ({ cls := "RuleTree$Parts", name := "label", desc := "(I)I" } : Jvm.MethodName) ({ cls := "RuleTree$Parts", name := "label", desc := "(I)I" } : Jvm.MethodName)) ∈ zwl := zwl_in (zm4 (List.mem_of_getElem? (i := 127) rfl)) rfl
theorem wd_4_128 : (Jvm.Cond.code ({ cls := "RuleTree$Parts", name := "label", desc := "(I)I" } : Jvm.MethodName) prog_7_method_10_code (2 : Nat) (Option.some Jvm.ClassFile.FieldType.int)) ∈ zwl := zwl_in (zm4 (List.mem_of_getElem? (i := 128) rfl)) rfl
theorem wd_4_129 : (Jvm.Cond.methodLink "RuleTree$Gap" (91 : Nat) ({ cls := "RuleTree$Nodes", name := "nextBranch", desc := "(I)I" } : Jvm.MethodName)) ∈ zwl := zwl_in (zm4 (List.mem_of_getElem? (i := 129) rfl)) rfl
theorem wd_4_130 : (Jvm.Cond.instanceMethod ({ cls := "RuleTree$Nodes", name := "nextBranch", desc := "(I)I" } : Jvm.MethodName)) ∈ zwl := zwl_in (zm4 (List.mem_of_getElem? (i := 130) rfl)) rfl
theorem wd_4_131 : (Jvm.Cond.selects "RuleTree$Nodes" ({ cls := "RuleTree$Nodes", name := "nextBranch", desc := "(I)I" } : Jvm.MethodName) ({ cls := "RuleTree$Nodes", name := "nextBranch", desc := "(I)I" } : Jvm.MethodName)) ∈ zwl := zwl_in (zm4 (List.mem_of_getElem? (i := 131) rfl)) rfl
theorem wd_4_132 : (Jvm.Cond.code ({ cls := "RuleTree$Nodes", name := "nextBranch", desc := "(I)I" } : Jvm.MethodName) prog_5_method_13_code (2 : Nat) (Option.some Jvm.ClassFile.FieldType.int)) ∈ zwl := zwl_in (zm4 (List.mem_of_getElem? (i := 132) rfl)) rfl
theorem wd_4_133 : (Jvm.Cond.methodLink "RuleTree$Gap" (87 : Nat) ({ cls := "RuleTree$Parts", name := "upper", desc := "(I)I" } : Jvm.MethodName)) ∈ zwl := zwl_in (zm4 (List.mem_of_getElem? (i := 133) rfl)) rfl
theorem wd_4_134 : (Jvm.Cond.instanceMethod ({ cls := "RuleTree$Parts", name := "upper", desc := "(I)I" } : Jvm.MethodName)) ∈ zwl := zwl_in (zm4 (List.mem_of_getElem? (i := 134) rfl)) rfl
theorem wd_4_135 : (Jvm.Cond.selects "RuleTree$Parts" ({ cls := "RuleTree$Parts", name := "upper", desc := "(I)I" } : Jvm.MethodName) ({ cls := "RuleTree$Parts", name := "upper", desc := "(I)I" } : Jvm.MethodName)) ∈ zwl := zwl_in (zm4 (List.mem_of_getElem? (i := 135) rfl)) rfl
theorem wd_4_136 : (Jvm.Cond.code ({ cls := "RuleTree$Parts", name := "upper", desc := "(I)I" } : Jvm.MethodName) prog_7_method_5_code (2 : Nat) (Option.some Jvm.ClassFile.FieldType.int)) ∈ zwl := zwl_in (zm4 (List.mem_of_getElem? (i := 136) rfl)) rfl
theorem wd_4_137 : (Jvm.Cond.methodLink "RuleTreeLaw" (64 : Nat) ({ cls := "RuleTree", name := "run", desc := "(I)I" } : Jvm.MethodName)) ∈ zwl := zwl_in (zm4 (List.mem_of_getElem? (i := 137) rfl)) rfl
theorem wd_4_138 : (Jvm.Cond.instanceMethod ({ cls := "RuleTree", name := "run", desc := "(I)I" } : Jvm.MethodName)) ∈ zwl := zwl_in (zm4 (List.mem_of_getElem? (i := 138) rfl)) rfl
theorem wd_4_139 : (Jvm.Cond.selects "RuleTree" ({ cls := "RuleTree", name := "run", desc := "(I)I" } : Jvm.MethodName) ({ cls := "RuleTree", name := "run", desc := "(I)I" } : Jvm.MethodName)) ∈ zwl := zwl_in (zm4 (List.mem_of_getElem? (i := 139) rfl)) rfl
theorem wd_4_140 : (Jvm.Cond.code ({ cls := "RuleTree", name := "run", desc := "(I)I" } : Jvm.MethodName) prog_1_method_13_code (2 : Nat) (Option.some Jvm.ClassFile.FieldType.int)) ∈ zwl := zwl_in (zm4 (List.mem_of_getElem? (i := 140) rfl)) rfl
theorem wd_4_141 : (Jvm.Cond.methodLink "RuleTree" (163 : Nat) ({ cls := "RuleTree$Patterns", name := "isValue", desc := "(I)Z" } : Jvm.MethodName)) ∈ zwl := zwl_in (zm4 (List.mem_of_getElem? (i := 141) rfl)) rfl
theorem wd_4_142 : (Jvm.Cond.methodLink "RuleTree" (166 : Nat) ({ cls := "RuleTree$Walker", name := "walk", desc := "(I)I" } : Jvm.MethodName)) ∈ zwl := zwl_in (zm4 (List.mem_of_getElem? (i := 142) rfl)) rfl
theorem wd_4_143 : (Jvm.Cond.instanceMethod ({ cls := "RuleTree$Walker", name := "walk", desc := "(I)I" } : Jvm.MethodName)) ∈ zwl := zwl_in (zm4 (List.mem_of_getElem? (i := 143) rfl)) rfl
theorem wd_4_144 : (Jvm.Cond.selects "RuleTree$Walker" ({ cls := "RuleTree$Walker", name := "walk", desc := "(I)I" } : Jvm.MethodName) ({ cls := "RuleTree$Walker", name := "walk", desc := "(I)I" } : Jvm.MethodName)) ∈ zwl := zwl_in (zm4 (List.mem_of_getElem? (i := 144) rfl)) rfl
theorem wd_4_145 : (Jvm.Cond.code ({ cls := "RuleTree$Walker", name := "walk", desc := "(I)I" } : Jvm.MethodName) prog_11_method_3_code (4 : Nat) (Option.some Jvm.ClassFile.FieldType.int)) ∈ zwl := zwl_in (zm4 (List.mem_of_getElem? (i := 145) rfl)) rfl
theorem wd_4_146 : (Jvm.Cond.methodLink "RuleTree$Walker" (37 : Nat) ({ cls := "RuleTree$Parts", name := "size", desc := "()I" } : Jvm.MethodName)) ∈ zwl := zwl_in (zm4 (List.mem_of_getElem? (i := 146) rfl)) rfl
theorem wd_4_147 : (Jvm.Cond.methodLink "RuleTree$Walker" (43 : Nat) ({ cls := "RuleTree$Row", name := "refill", desc := "(II)V" } : Jvm.MethodName)) ∈ zwl := zwl_in (zm4 (List.mem_of_getElem? (i := 147) rfl)) rfl
theorem wd_4_148 : (Jvm.Cond.methodLink "RuleTree$Walker" (47 : Nat) ({ cls := "RuleTree$Row", name := "set", desc := "(II)V" } : Jvm.MethodName)) ∈ zwl := zwl_in (zm4 (List.mem_of_getElem? (i := 148) rfl)) rfl
theorem wd_4_149 : (Jvm.Cond.methodLink "RuleTree$Walker" (50 : Nat) ({ cls := "RuleTree$Nodes", name := "size", desc := "()I" } : Jvm.MethodName)) ∈ zwl := zwl_in (zm4 (List.mem_of_getElem? (i := 149) rfl)) rfl
theorem wd_4_150 : (Jvm.Cond.methodLink "RuleTree$Walker" (53 : Nat) ({ cls := "RuleTree$Nodes", name := "part", desc := "(I)I" } : Jvm.MethodName)) ∈ zwl := zwl_in (zm4 (List.mem_of_getElem? (i := 150) rfl)) rfl
theorem wd_4_151 : (Jvm.Cond.methodLink "RuleTree$Walker" (57 : Nat) ({ cls := "RuleTree$Walker", name := "branch", desc := "(I)I" } : Jvm.MethodName)) ∈ zwl := zwl_in (zm4 (List.mem_of_getElem? (i := 151) rfl)) rfl
theorem wd_4_153 : (Jvm.Cond.instanceMethod ({ cls := "RuleTree$Walker", name := "branch", desc := "(I)I" } : Jvm.MethodName)) ∈ zwl := zwl_in (zm4 (List.mem_of_getElem? (i := 153) rfl)) rfl
theorem wd_4_154 : (Jvm.Cond.code ({ cls := "RuleTree$Walker", name := "branch", desc := "(I)I" } : Jvm.MethodName) prog_11_method_4_code (6 : Nat) (Option.some Jvm.ClassFile.FieldType.int)) ∈ zwl := zwl_in (zm4 (List.mem_of_getElem? (i := 154) rfl)) rfl
theorem wd_4_155 : (Jvm.Cond.methodLink "RuleTree$Walker" (63 : Nat) ({ cls := "RuleTree$Walker", name := "valueAt", desc := "(I)I" } : Jvm.MethodName)) ∈ zwl := zwl_in (zm4 (List.mem_of_getElem? (i := 155) rfl)) rfl
theorem wd_4_157 : (Jvm.Cond.instanceMethod ({ cls := "RuleTree$Walker", name := "valueAt", desc := "(I)I" } : Jvm.MethodName)) ∈ zwl := zwl_in (zm4 (List.mem_of_getElem? (i := 157) rfl)) rfl
theorem wd_4_158 : (Jvm.Cond.code ({ cls := "RuleTree$Walker", name := "valueAt", desc := "(I)I" } : Jvm.MethodName) prog_11_method_7_code (5 : Nat) (Option.some Jvm.ClassFile.FieldType.int)) ∈ zwl := zwl_in (zm4 (List.mem_of_getElem? (i := 158) rfl)) rfl
theorem wd_4_159 : (Jvm.Cond.methodLink "RuleTree$Walker" (105 : Nat) ({ cls := "RuleTree$Row", name := "empty", desc := "()V" } : Jvm.MethodName)) ∈ zwl := zwl_in (zm4 (List.mem_of_getElem? (i := 159) rfl)) rfl
theorem wd_4_160 : (Jvm.Cond.methodLink "RuleTree$Walker" (108 : Nat) ({ cls := "RuleTree$Row", name := "at", desc := "(I)I" } : Jvm.MethodName)) ∈ zwl := zwl_in (zm4 (List.mem_of_getElem? (i := 160) rfl)) rfl
theorem wd_4_161 : (Jvm.Cond.methodLink "RuleTree$Walker" (111 : Nat) ({ cls := "RuleTree$Row", name := "add", desc := "(I)I" } : Jvm.MethodName)) ∈ zwl := zwl_in (zm4 (List.mem_of_getElem? (i := 161) rfl)) rfl
theorem wd_4_162 : (Jvm.Cond.methodLink "RuleTree$Walker" (114 : Nat) ({ cls := "RuleTree$Parts", name := "upper", desc := "(I)I" } : Jvm.MethodName)) ∈ zwl := zwl_in (zm4 (List.mem_of_getElem? (i := 162) rfl)) rfl
theorem wd_4_163 : (Jvm.Cond.methodLink "RuleTree$Walker" (117 : Nat) ({ cls := "RuleTree$Row", name := "size", desc := "()I" } : Jvm.MethodName)) ∈ zwl := zwl_in (zm4 (List.mem_of_getElem? (i := 163) rfl)) rfl
theorem wd_4_164 : (Jvm.Cond.methodLink "RuleTree$Walker" (118 : Nat) ({ cls := "RuleTree$Row", name := "take", desc := "()I" } : Jvm.MethodName)) ∈ zwl := zwl_in (zm4 (List.mem_of_getElem? (i := 164) rfl)) rfl
theorem wd_4_165 : (Jvm.Cond.methodLink "RuleTree$Walker" (121 : Nat) ({ cls := "RuleTree$Walker", name := "inner", desc := "(III)I" } : Jvm.MethodName)) ∈ zwl := zwl_in (zm4 (List.mem_of_getElem? (i := 165) rfl)) rfl
theorem wd_4_167 : (Jvm.Cond.instanceMethod ({ cls := "RuleTree$Walker", name := "inner", desc := "(III)I" } : Jvm.MethodName)) ∈ zwl := zwl_in (zm4 (List.mem_of_getElem? (i := 167) rfl)) rfl
theorem wd_4_168 : (Jvm.Cond.code ({ cls := "RuleTree$Walker", name := "inner", desc := "(III)I" } : Jvm.MethodName) prog_11_method_8_code (5 : Nat) (Option.some Jvm.ClassFile.FieldType.int)) ∈ zwl := zwl_in (zm4 (List.mem_of_getElem? (i := 168) rfl)) rfl
theorem wd_4_169 : (Jvm.Cond.methodLink "RuleTree$Walker" (66 : Nat) ({ cls := "RuleTree$Patterns", name := "shape", desc := "(I)I" } : Jvm.MethodName)) ∈ zwl := zwl_in (zm4 (List.mem_of_getElem? (i := 169) rfl)) rfl
theorem wd_4_170 : (Jvm.Cond.methodLink "RuleTree$Walker" (71 : Nat) ({ cls := "RuleTree$Parts", name := "shape", desc := "(I)I" } : Jvm.MethodName)) ∈ zwl := zwl_in (zm4 (List.mem_of_getElem? (i := 170) rfl)) rfl
theorem wd_4_171 : (Jvm.Cond.methodLink "RuleTree$Walker" (72 : Nat) ({ cls := "RuleTree$Patterns", name := "sort", desc := "(I)I" } : Jvm.MethodName)) ∈ zwl := zwl_in (zm4 (List.mem_of_getElem? (i := 171) rfl)) rfl
theorem wd_4_172 : (Jvm.Cond.methodLink "RuleTree$Walker" (75 : Nat) ({ cls := "RuleTree$Parts", name := "sort", desc := "(I)I" } : Jvm.MethodName)) ∈ zwl := zwl_in (zm4 (List.mem_of_getElem? (i := 172) rfl)) rfl
theorem wd_4_173 : (Jvm.Cond.methodLink "RuleTree$Walker" (125 : Nat) ({ cls := "RuleTree$Parts", name := "upperEdge", desc := "(I)I" } : Jvm.MethodName)) ∈ zwl := zwl_in (zm4 (List.mem_of_getElem? (i := 173) rfl)) rfl
theorem wd_4_174 : (Jvm.Cond.instanceMethod ({ cls := "RuleTree$Parts", name := "upperEdge", desc := "(I)I" } : Jvm.MethodName)) ∈ zwl := zwl_in (zm4 (List.mem_of_getElem? (i := 174) rfl)) rfl
theorem wd_4_175 : (Jvm.Cond.selects "RuleTree$Parts" ({ cls := "RuleTree$Parts", name := "upperEdge", desc := "(I)I" } : Jvm.MethodName) ({ cls := "RuleTree$Parts", name := "upperEdge", desc := "(I)I" } : Jvm.MethodName)) ∈ zwl := zwl_in (zm4 (List.mem_of_getElem? (i := 175) rfl)) rfl
theorem wd_4_176 : (Jvm.Cond.code ({ cls := "RuleTree$Parts", name := "upperEdge", desc := "(I)I" } : Jvm.MethodName) prog_7_method_6_code (2 : Nat) (Option.some Jvm.ClassFile.FieldType.int)) ∈ zwl := zwl_in (zm4 (List.mem_of_getElem? (i := 176) rfl)) rfl
theorem wd_4_177 : (Jvm.Cond.methodLink "RuleTree$Walker" (93 : Nat) ({ cls := "RuleTree$Parts", name := "label", desc := "(I)I" } : Jvm.MethodName)) ∈ zwl := zwl_in (zm4 (List.mem_of_getElem? (i := 177) rfl)) rfl
theorem wd_4_178 : (Jvm.Cond.methodLink "RuleTree$Walker" (128 : Nat) ({ cls := "RuleTree$Patterns", name := "fieldPattern", desc := "(II)I" } : Jvm.MethodName)) ∈ zwl := zwl_in (zm4 (List.mem_of_getElem? (i := 178) rfl)) rfl
theorem wd_4_179 : (Jvm.Cond.methodLink "RuleTree$Walker" (76 : Nat) ({ cls := "RuleTree$Patterns", name := "mark", desc := "(I)I" } : Jvm.MethodName)) ∈ zwl := zwl_in (zm4 (List.mem_of_getElem? (i := 179) rfl)) rfl
theorem wd_4_180 : (Jvm.Cond.methodLink "RuleTree$Walker" (99 : Nat) ({ cls := "RuleTree$Patterns", name := "argument", desc := "(I)I" } : Jvm.MethodName)) ∈ zwl := zwl_in (zm4 (List.mem_of_getElem? (i := 180) rfl)) rfl
theorem wd_4_181 : (Jvm.Cond.methodLink "RuleTree$Walker" (79 : Nat) ({ cls := "RuleTree$Walker", name := "branchFor", desc := "(II)I" } : Jvm.MethodName)) ∈ zwl := zwl_in (zm4 (List.mem_of_getElem? (i := 181) rfl)) rfl
theorem wd_4_183 : (Jvm.Cond.instanceMethod ({ cls := "RuleTree$Walker", name := "branchFor", desc := "(II)I" } : Jvm.MethodName)) ∈ zwl := zwl_in (zm4 (List.mem_of_getElem? (i := 183) rfl)) rfl
theorem wd_4_184 : (Jvm.Cond.code ({ cls := "RuleTree$Walker", name := "branchFor", desc := "(II)I" } : Jvm.MethodName) prog_11_method_5_code (6 : Nat) (Option.some Jvm.ClassFile.FieldType.int)) ∈ zwl := zwl_in (zm4 (List.mem_of_getElem? (i := 184) rfl)) rfl
theorem wd_4_185 : (Jvm.Cond.methodLink "RuleTree$Walker" (90 : Nat) ({ cls := "RuleTree$Nodes", name := "firstBranch", desc := "(I)I" } : Jvm.MethodName)) ∈ zwl := zwl_in (zm4 (List.mem_of_getElem? (i := 185) rfl)) rfl
theorem wd_4_186 : (Jvm.Cond.methodLink "RuleTree$Walker" (83 : Nat) ({ cls := "RuleTree$Nodes", name := "edge", desc := "(I)I" } : Jvm.MethodName)) ∈ zwl := zwl_in (zm4 (List.mem_of_getElem? (i := 186) rfl)) rfl
theorem wd_4_187 : (Jvm.Cond.methodLink "RuleTree$Walker" (96 : Nat) ({ cls := "RuleTree$Nodes", name := "nextBranch", desc := "(I)I" } : Jvm.MethodName)) ∈ zwl := zwl_in (zm4 (List.mem_of_getElem? (i := 187) rfl)) rfl
theorem wd_4_188 : (Jvm.Cond.methodLink "RuleTree$Walker" (86 : Nat) ({ cls := "RuleTree$Walker", name := "sameArguments", desc := "(II)Z" } : Jvm.MethodName)) ∈ zwl := zwl_in (zm4 (List.mem_of_getElem? (i := 188) rfl)) rfl
theorem wd_4_190 : (Jvm.Cond.instanceMethod ({ cls := "RuleTree$Walker", name := "sameArguments", desc := "(II)Z" } : Jvm.MethodName)) ∈ zwl := zwl_in (zm4 (List.mem_of_getElem? (i := 190) rfl)) rfl
theorem wd_4_191 : (Jvm.Cond.code ({ cls := "RuleTree$Walker", name := "sameArguments", desc := "(II)Z" } : Jvm.MethodName) prog_11_method_6_code (3 : Nat) (Option.some Jvm.ClassFile.FieldType.boolean)) ∈ zwl := zwl_in (zm4 (List.mem_of_getElem? (i := 191) rfl)) rfl
theorem wd_4_192 : (Jvm.Cond.methodLink "RuleTree$Walker" (102 : Nat) ({ cls := "RuleTree$Parts", name := "child", desc := "(I)I" } : Jvm.MethodName)) ∈ zwl := zwl_in (zm4 (List.mem_of_getElem? (i := 192) rfl)) rfl
theorem wd_4_193 : (Jvm.Cond.instanceMethod ({ cls := "RuleTree$Parts", name := "child", desc := "(I)I" } : Jvm.MethodName)) ∈ zwl := zwl_in (zm4 (List.mem_of_getElem? (i := 193) rfl)) rfl
theorem wd_4_194 : (Jvm.Cond.selects "RuleTree$Parts" ({ cls := "RuleTree$Parts", name := "child", desc := "(I)I" } : Jvm.MethodName) ({ cls := "RuleTree$Parts", name := "child", desc := "(I)I" } : Jvm.MethodName)) ∈ zwl := zwl_in (zm4 (List.mem_of_getElem? (i := 194) rfl)) rfl
theorem wd_4_195 : (Jvm.Cond.code ({ cls := "RuleTree$Parts", name := "child", desc := "(I)I" } : Jvm.MethodName) prog_7_method_11_code (2 : Nat) (Option.some Jvm.ClassFile.FieldType.int)) ∈ zwl := zwl_in (zm4 (List.mem_of_getElem? (i := 195) rfl)) rfl
theorem wd_4_196 : (Jvm.Cond.methodLink "RuleTree$Walker" (60 : Nat) ({ cls := "RuleTree$Nodes", name := "ruleAt", desc := "(I)I" } : Jvm.MethodName)) ∈ zwl := zwl_in (zm4 (List.mem_of_getElem? (i := 196) rfl)) rfl
theorem wd_4_197 : (Jvm.Cond.methodLink "RuleTreeLaw" (68 : Nat) ({ cls := "RuleTree", name := "looks", desc := "(I)I" } : Jvm.MethodName)) ∈ zwl := zwl_in (zm4 (List.mem_of_getElem? (i := 197) rfl)) rfl
theorem wd_4_198 : (Jvm.Cond.instanceMethod ({ cls := "RuleTree", name := "looks", desc := "(I)I" } : Jvm.MethodName)) ∈ zwl := zwl_in (zm4 (List.mem_of_getElem? (i := 198) rfl)) rfl
theorem wd_4_199 : (Jvm.Cond.selects "RuleTree" ({ cls := "RuleTree", name := "looks", desc := "(I)I" } : Jvm.MethodName) ({ cls := "RuleTree", name := "looks", desc := "(I)I" } : Jvm.MethodName)) ∈ zwl := zwl_in (zm4 (List.mem_of_getElem? (i := 199) rfl)) rfl
theorem wd_4_200 : (Jvm.Cond.code ({ cls := "RuleTree", name := "looks", desc := "(I)I" } : Jvm.MethodName) prog_1_method_14_code (2 : Nat) (Option.some Jvm.ClassFile.FieldType.int)) ∈ zwl := zwl_in (zm4 (List.mem_of_getElem? (i := 200) rfl)) rfl
theorem wd_4_201 : (Jvm.Cond.methodLink "RuleTree" (169 : Nat) ({ cls := "RuleTree$Walker", name := "looked", desc := "()I" } : Jvm.MethodName)) ∈ zwl := zwl_in (zm4 (List.mem_of_getElem? (i := 201) rfl)) rfl
theorem wd_4_202 : (Jvm.Cond.instanceMethod ({ cls := "RuleTree$Walker", name := "looked", desc := "()I" } : Jvm.MethodName)) ∈ zwl := zwl_in (zm4 (List.mem_of_getElem? (i := 202) rfl)) rfl
theorem wd_4_203 : (Jvm.Cond.selects "RuleTree$Walker" ({ cls := "RuleTree$Walker", name := "looked", desc := "()I" } : Jvm.MethodName) ({ cls := "RuleTree$Walker", name := "looked", desc := "()I" } : Jvm.MethodName)) ∈ zwl := zwl_in (zm4 (List.mem_of_getElem? (i := 203) rfl)) rfl
theorem wd_4_204 : (Jvm.Cond.code ({ cls := "RuleTree$Walker", name := "looked", desc := "()I" } : Jvm.MethodName) prog_11_method_2_code (1 : Nat) (Option.some Jvm.ClassFile.FieldType.int)) ∈ zwl := zwl_in (zm4 (List.mem_of_getElem? (i := 204) rfl)) rfl
theorem wd_4_205 : (Jvm.Cond.methodLink "RuleTreeLaw" (72 : Nat) ({ cls := "RuleTree", name := "first", desc := "(I)I" } : Jvm.MethodName)) ∈ zwl := zwl_in (zm4 (List.mem_of_getElem? (i := 205) rfl)) rfl
theorem wd_4_206 : (Jvm.Cond.instanceMethod ({ cls := "RuleTree", name := "first", desc := "(I)I" } : Jvm.MethodName)) ∈ zwl := zwl_in (zm4 (List.mem_of_getElem? (i := 206) rfl)) rfl
theorem wd_4_207 : (Jvm.Cond.selects "RuleTree" ({ cls := "RuleTree", name := "first", desc := "(I)I" } : Jvm.MethodName) ({ cls := "RuleTree", name := "first", desc := "(I)I" } : Jvm.MethodName)) ∈ zwl := zwl_in (zm4 (List.mem_of_getElem? (i := 207) rfl)) rfl
theorem wd_4_208 : (Jvm.Cond.code ({ cls := "RuleTree", name := "first", desc := "(I)I" } : Jvm.MethodName) prog_1_method_15_code (3 : Nat) (Option.some Jvm.ClassFile.FieldType.int)) ∈ zwl := zwl_in (zm4 (List.mem_of_getElem? (i := 208) rfl)) rfl
theorem wd_4_209 : (Jvm.Cond.methodLink "RuleTree" (173 : Nat) ({ cls := "RuleTree$Pairs", name := "match", desc := "(II)Z" } : Jvm.MethodName)) ∈ zwl := zwl_in (zm4 (List.mem_of_getElem? (i := 209) rfl)) rfl
theorem wd_4_210 : (Jvm.Cond.instanceMethod ({ cls := "RuleTree$Pairs", name := "match", desc := "(II)Z" } : Jvm.MethodName)) ∈ zwl := zwl_in (zm4 (List.mem_of_getElem? (i := 210) rfl)) rfl
theorem wd_4_211 : (Jvm.Cond.selects "RuleTree$Pairs" ({ cls := "RuleTree$Pairs", name := "match", desc := "(II)Z" } : Jvm.MethodName) ({ cls := "RuleTree$Pairs", name := "match", desc := "(II)Z" } : Jvm.MethodName)) ∈ zwl := zwl_in (zm4 (List.mem_of_getElem? (i := 211) rfl)) rfl
theorem wd_4_212 : (Jvm.Cond.code ({ cls := "RuleTree$Pairs", name := "match", desc := "(II)Z" } : Jvm.MethodName) prog_6_method_2_code (3 : Nat) (Option.some Jvm.ClassFile.FieldType.boolean)) ∈ zwl := zwl_in (zm4 (List.mem_of_getElem? (i := 212) rfl)) rfl
theorem wd_4_213 : (Jvm.Cond.methodLink "RuleTreeLaw" (76 : Nat) ({ cls := "RuleTree", name := "fits", desc := "(I)Z" } : Jvm.MethodName)) ∈ zwl := zwl_in (zm4 (List.mem_of_getElem? (i := 213) rfl)) rfl
theorem wd_4_214 : (Jvm.Cond.instanceMethod ({ cls := "RuleTree", name := "fits", desc := "(I)Z" } : Jvm.MethodName)) ∈ zwl := zwl_in (zm4 (List.mem_of_getElem? (i := 214) rfl)) rfl
theorem wd_4_215 : (Jvm.Cond.selects "RuleTree" ({ cls := "RuleTree", name := "fits", desc := "(I)Z" } : Jvm.MethodName) ({ cls := "RuleTree", name := "fits", desc := "(I)Z" } : Jvm.MethodName)) ∈ zwl := zwl_in (zm4 (List.mem_of_getElem? (i := 215) rfl)) rfl
theorem wd_4_216 : (Jvm.Cond.code ({ cls := "RuleTree", name := "fits", desc := "(I)Z" } : Jvm.MethodName) prog_1_method_16_code (2 : Nat) (Option.some Jvm.ClassFile.FieldType.boolean)) ∈ zwl := zwl_in (zm4 (List.mem_of_getElem? (i := 216) rfl)) rfl
theorem wd_4_217 : (Jvm.Cond.methodLink "RuleTreeLaw" (81 : Nat) ({ cls := "RuleTree", name := "ends", desc := "(I)I" } : Jvm.MethodName)) ∈ zwl := zwl_in (zm4 (List.mem_of_getElem? (i := 217) rfl)) rfl
theorem wd_4_218 : (Jvm.Cond.instanceMethod ({ cls := "RuleTree", name := "ends", desc := "(I)I" } : Jvm.MethodName)) ∈ zwl := zwl_in (zm4 (List.mem_of_getElem? (i := 218) rfl)) rfl
theorem wd_4_219 : (Jvm.Cond.selects "RuleTree" ({ cls := "RuleTree", name := "ends", desc := "(I)I" } : Jvm.MethodName) ({ cls := "RuleTree", name := "ends", desc := "(I)I" } : Jvm.MethodName)) ∈ zwl := zwl_in (zm4 (List.mem_of_getElem? (i := 219) rfl)) rfl
theorem wd_4_220 : (Jvm.Cond.code ({ cls := "RuleTree", name := "ends", desc := "(I)I" } : Jvm.MethodName) prog_1_method_17_code (2 : Nat) (Option.some Jvm.ClassFile.FieldType.int)) ∈ zwl := zwl_in (zm4 (List.mem_of_getElem? (i := 220) rfl)) rfl
theorem wd_4_221 : (Jvm.Cond.methodLink "RuleTree" (176 : Nat) ({ cls := "RuleTree$Nodes", name := "endsWith", desc := "(I)I" } : Jvm.MethodName)) ∈ zwl := zwl_in (zm4 (List.mem_of_getElem? (i := 221) rfl)) rfl
theorem wd_4_222 : (Jvm.Cond.instanceMethod ({ cls := "RuleTree$Nodes", name := "endsWith", desc := "(I)I" } : Jvm.MethodName)) ∈ zwl := zwl_in (zm4 (List.mem_of_getElem? (i := 222) rfl)) rfl
theorem wd_4_223 : (Jvm.Cond.selects "RuleTree$Nodes" ({ cls := "RuleTree$Nodes", name := "endsWith", desc := "(I)I" } : Jvm.MethodName) ({ cls := "RuleTree$Nodes", name := "endsWith", desc := "(I)I" } : Jvm.MethodName)) ∈ zwl := zwl_in (zm4 (List.mem_of_getElem? (i := 223) rfl)) rfl
theorem wd_4_224 : (Jvm.Cond.code ({ cls := "RuleTree$Nodes", name := "endsWith", desc := "(I)I" } : Jvm.MethodName) prog_5_method_15_code (4 : Nat) (Option.some Jvm.ClassFile.FieldType.int)) ∈ zwl := zwl_in (zm4 (List.mem_of_getElem? (i := 224) rfl)) rfl
theorem wd_4_225 : (Jvm.Cond.methodLink "RuleTreeLaw" (85 : Nat) ({ cls := "RuleTree", name := "depth", desc := "()I" } : Jvm.MethodName)) ∈ zwl := zwl_in (zm4 (List.mem_of_getElem? (i := 225) rfl)) rfl
theorem wd_4_226 : (Jvm.Cond.instanceMethod ({ cls := "RuleTree", name := "depth", desc := "()I" } : Jvm.MethodName)) ∈ zwl := zwl_in (zm4 (List.mem_of_getElem? (i := 226) rfl)) rfl
theorem wd_4_227 : (Jvm.Cond.selects "RuleTree" ({ cls := "RuleTree", name := "depth", desc := "()I" } : Jvm.MethodName) ({ cls := "RuleTree", name := "depth", desc := "()I" } : Jvm.MethodName)) ∈ zwl := zwl_in (zm4 (List.mem_of_getElem? (i := 227) rfl)) rfl
theorem wd_4_228 : (Jvm.Cond.code ({ cls := "RuleTree", name := "depth", desc := "()I" } : Jvm.MethodName) prog_1_method_18_code (1 : Nat) (Option.some Jvm.ClassFile.FieldType.int)) ∈ zwl := zwl_in (zm4 (List.mem_of_getElem? (i := 228) rfl)) rfl
theorem wd_4_229 : (Jvm.Cond.methodLink "RuleTree" (179 : Nat) ({ cls := "RuleTree$Nodes", name := "deepest", desc := "()I" } : Jvm.MethodName)) ∈ zwl := zwl_in (zm4 (List.mem_of_getElem? (i := 229) rfl)) rfl
theorem wd_4_230 : (Jvm.Cond.instanceMethod ({ cls := "RuleTree$Nodes", name := "deepest", desc := "()I" } : Jvm.MethodName)) ∈ zwl := zwl_in (zm4 (List.mem_of_getElem? (i := 230) rfl)) rfl
theorem wd_4_231 : (Jvm.Cond.selects "RuleTree$Nodes" ({ cls := "RuleTree$Nodes", name := "deepest", desc := "()I" } : Jvm.MethodName) ({ cls := "RuleTree$Nodes", name := "deepest", desc := "()I" } : Jvm.MethodName)) ∈ zwl := zwl_in (zm4 (List.mem_of_getElem? (i := 231) rfl)) rfl
theorem wd_4_232 : (Jvm.Cond.code ({ cls := "RuleTree$Nodes", name := "deepest", desc := "()I" } : Jvm.MethodName) prog_5_method_17_code (3 : Nat) (Option.some Jvm.ClassFile.FieldType.int)) ∈ zwl := zwl_in (zm4 (List.mem_of_getElem? (i := 232) rfl)) rfl
theorem wd_4_233 : (Jvm.Cond.methodLink "RuleTree$Nodes" (70 : Nat) ({ cls := "java/lang/Math", name := "max", desc := "(II)I" } : Jvm.MethodName)) ∈ zwl := zwl_in (zm4 (List.mem_of_getElem? (i := 233) rfl)) rfl
theorem wd_4_234 : (Jvm.Cond.methodLink "RuleTreeLaw" (89 : Nat) ({ cls := "RuleTree", name := "missing", desc := "(JI)I" } : Jvm.MethodName)) ∈ zwl := zwl_in (zm4 (List.mem_of_getElem? (i := 234) rfl)) rfl
theorem wd_4_235 : (Jvm.Cond.instanceMethod ({ cls := "RuleTree", name := "missing", desc := "(JI)I" } : Jvm.MethodName)) ∈ zwl := zwl_in (zm4 (List.mem_of_getElem? (i := 235) rfl)) rfl
theorem wd_4_236 : (Jvm.Cond.selects "RuleTree" ({ cls := "RuleTree", name := "missing", desc := "(JI)I" } : Jvm.MethodName) ({ cls := "RuleTree", name := "missing", desc := "(JI)I" } : Jvm.MethodName)) ∈ zwl := zwl_in (zm4 (List.mem_of_getElem? (i := 236) rfl)) rfl
theorem wd_4_237 : (Jvm.Cond.code ({ cls := "RuleTree", name := "missing", desc := "(JI)I" } : Jvm.MethodName) prog_1_method_19_code (4 : Nat) (Option.some Jvm.ClassFile.FieldType.int)) ∈ zwl := zwl_in (zm4 (List.mem_of_getElem? (i := 237) rfl)) rfl
theorem wd_4_238 : (Jvm.Cond.methodLink "RuleTree" (182 : Nat) ({ cls := "RuleTree$Gap", name := "tell", desc := "(JI)I" } : Jvm.MethodName)) ∈ zwl := zwl_in (zm4 (List.mem_of_getElem? (i := 238) rfl)) rfl
theorem wd_4_239 : (Jvm.Cond.instanceMethod ({ cls := "RuleTree$Gap", name := "tell", desc := "(JI)I" } : Jvm.MethodName)) ∈ zwl := zwl_in (zm4 (List.mem_of_getElem? (i := 239) rfl)) rfl
theorem wd_5_0 : (Jvm.Cond.selects "RuleTree$Gap" ({ cls := "RuleTree$Gap", name := "tell", desc := "(JI)I" } : Jvm.MethodName) ({ cls := "RuleTree$Gap", name := "tell", desc := "(JI)I" } : Jvm.MethodName)) ∈ zwl := zwl_in (zm5 (List.mem_of_getElem? (i := 0) rfl)) rfl
theorem wd_5_1 : (Jvm.Cond.code ({ cls := "RuleTree$Gap", name := "tell", desc := "(JI)I" } : Jvm.MethodName) prog_3_method_3_code (7 : Nat) (Option.some Jvm.ClassFile.FieldType.int)) ∈ zwl := zwl_in (zm5 (List.mem_of_getElem? (i := 1) rfl)) rfl
theorem wd_5_2 : (Jvm.Cond.constantLong "RuleTree$Gap" (63 : Nat) (255 : Int64)) ∈ zwl := zwl_in (zm5 (List.mem_of_getElem? (i := 2) rfl)) rfl
theorem wd_5_3 : (Jvm.Cond.methodLink "RuleTree$Gap" (65 : Nat) ({ cls := "RuleTree$Gap", name := "below", desc := "(II)I" } : Jvm.MethodName)) ∈ zwl := zwl_in (zm5 (List.mem_of_getElem? (i := 3) rfl)) rfl
theorem wd_5_5 : (Jvm.Cond.instanceMethod ({ cls := "RuleTree$Gap", name := "below", desc := "(II)I" } : Jvm.MethodName)) ∈ zwl := zwl_in (zm5 (List.mem_of_getElem? (i := 5) rfl)) rfl
theorem wd_5_6 : (Jvm.Cond.code ({ cls := "RuleTree$Gap", name := "below", desc := "(II)I" } : Jvm.MethodName) prog_3_method_7_code (5 : Nat) (Option.some Jvm.ClassFile.FieldType.int)) ∈ zwl := zwl_in (zm5 (List.mem_of_getElem? (i := 6) rfl)) rfl
theorem wd_5_7 : (Jvm.Cond.methodLink "RuleTree$Gap" (94 : Nat) ({ cls := "RuleTree$Row", name := "at", desc := "(I)I" } : Jvm.MethodName)) ∈ zwl := zwl_in (zm5 (List.mem_of_getElem? (i := 7) rfl)) rfl
theorem wd_5_8 : (Jvm.Cond.methodLink "RuleTree$Gap" (97 : Nat) ({ cls := "RuleTree$Parts", name := "sort", desc := "(I)I" } : Jvm.MethodName)) ∈ zwl := zwl_in (zm5 (List.mem_of_getElem? (i := 8) rfl)) rfl
theorem wd_5_9 : (Jvm.Cond.methodLink "RuleTree$Gap" (100 : Nat) ({ cls := "RuleTree$Gap", name := "childOrBare", desc := "(II)I" } : Jvm.MethodName)) ∈ zwl := zwl_in (zm5 (List.mem_of_getElem? (i := 9) rfl)) rfl
theorem wd_5_11 : (Jvm.Cond.instanceMethod ({ cls := "RuleTree$Gap", name := "childOrBare", desc := "(II)I" } : Jvm.MethodName)) ∈ zwl := zwl_in (zm5 (List.mem_of_getElem? (i := 11) rfl)) rfl
theorem wd_5_12 : (Jvm.Cond.code ({ cls := "RuleTree$Gap", name := "childOrBare", desc := "(II)I" } : Jvm.MethodName) prog_3_method_8_code (4 : Nat) (Option.some Jvm.ClassFile.FieldType.int)) ∈ zwl := zwl_in (zm5 (List.mem_of_getElem? (i := 12) rfl)) rfl
theorem wd_5_13 : (Jvm.Cond.methodLink "RuleTree$Gap" (109 : Nat) ({ cls := "RuleTree$Parts", name := "edgeOf", desc := "(II)I" } : Jvm.MethodName)) ∈ zwl := zwl_in (zm5 (List.mem_of_getElem? (i := 13) rfl)) rfl
theorem wd_5_14 : (Jvm.Cond.instanceMethod ({ cls := "RuleTree$Parts", name := "edgeOf", desc := "(II)I" } : Jvm.MethodName)) ∈ zwl := zwl_in (zm5 (List.mem_of_getElem? (i := 14) rfl)) rfl
theorem wd_5_15 : (Jvm.Cond.selects "RuleTree$Parts" ({ cls := "RuleTree$Parts", name := "edgeOf", desc := "(II)I" } : Jvm.MethodName) ({ cls := "RuleTree$Parts", name := "edgeOf", desc := "(II)I" } : Jvm.MethodName)) ∈ zwl := zwl_in (zm5 (List.mem_of_getElem? (i := 15) rfl)) rfl
theorem wd_5_16 : (Jvm.Cond.code ({ cls := "RuleTree$Parts", name := "edgeOf", desc := "(II)I" } : Jvm.MethodName) prog_7_method_12_code (4 : Nat) (Option.some Jvm.ClassFile.FieldType.int)) ∈ zwl := zwl_in (zm5 (List.mem_of_getElem? (i := 16) rfl)) rfl
theorem wd_5_17 : (Jvm.Cond.methodLink "RuleTree$Gap" (112 : Nat) ({ cls := "RuleTree$Parts", name := "child", desc := "(I)I" } : Jvm.MethodName)) ∈ zwl := zwl_in (zm5 (List.mem_of_getElem? (i := 17) rfl)) rfl
theorem wd_5_18 : (Jvm.Cond.methodLink "RuleTree$Gap" (103 : Nat) ({ cls := "RuleTree$Families", name := "takesArgument", desc := "(II)Z" } : Jvm.MethodName)) ∈ zwl := zwl_in (zm5 (List.mem_of_getElem? (i := 18) rfl)) rfl
theorem wd_5_19 : (Jvm.Cond.methodLink "RuleTree$Gap" (69 : Nat) ({ cls := "RuleTree$Gap", name := "tellPart", desc := "(II)I" } : Jvm.MethodName)) ∈ zwl := zwl_in (zm5 (List.mem_of_getElem? (i := 19) rfl)) rfl
theorem wd_5_21 : (Jvm.Cond.instanceMethod ({ cls := "RuleTree$Gap", name := "tellPart", desc := "(II)I" } : Jvm.MethodName)) ∈ zwl := zwl_in (zm5 (List.mem_of_getElem? (i := 21) rfl)) rfl
theorem wd_5_22 : (Jvm.Cond.code ({ cls := "RuleTree$Gap", name := "tellPart", desc := "(II)I" } : Jvm.MethodName) prog_3_method_6_code (4 : Nat) (Option.some Jvm.ClassFile.FieldType.int)) ∈ zwl := zwl_in (zm5 (List.mem_of_getElem? (i := 22) rfl)) rfl
theorem wd_5_23 : (Jvm.Cond.methodLink "RuleTreeLaw" (94 : Nat) ({ cls := "RuleTree", name := "count", desc := "(I)I" } : Jvm.MethodName)) ∈ zwl := zwl_in (zm5 (List.mem_of_getElem? (i := 23) rfl)) rfl
theorem wd_5_24 : (Jvm.Cond.instanceMethod ({ cls := "RuleTree", name := "count", desc := "(I)I" } : Jvm.MethodName)) ∈ zwl := zwl_in (zm5 (List.mem_of_getElem? (i := 24) rfl)) rfl
theorem wd_5_25 : (Jvm.Cond.selects "RuleTree" ({ cls := "RuleTree", name := "count", desc := "(I)I" } : Jvm.MethodName) ({ cls := "RuleTree", name := "count", desc := "(I)I" } : Jvm.MethodName)) ∈ zwl := zwl_in (zm5 (List.mem_of_getElem? (i := 25) rfl)) rfl
theorem wd_5_26 : (Jvm.Cond.code ({ cls := "RuleTree", name := "count", desc := "(I)I" } : Jvm.MethodName) prog_1_method_20_code (2 : Nat) (Option.some Jvm.ClassFile.FieldType.int)) ∈ zwl := zwl_in (zm5 (List.mem_of_getElem? (i := 26) rfl)) rfl
theorem wd_5_27 : (Jvm.Cond.methodLink "RuleTree" (186 : Nat) ({ cls := "RuleTree$Families", name := "size", desc := "()I" } : Jvm.MethodName)) ∈ zwl := zwl_in (zm5 (List.mem_of_getElem? (i := 27) rfl)) rfl
theorem wd_5_28 : (Jvm.Cond.instanceMethod ({ cls := "RuleTree$Families", name := "size", desc := "()I" } : Jvm.MethodName)) ∈ zwl := zwl_in (zm5 (List.mem_of_getElem? (i := 28) rfl)) rfl
theorem wd_5_29 : (Jvm.Cond.selects "RuleTree$Families" ({ cls := "RuleTree$Families", name := "size", desc := "()I" } : Jvm.MethodName) ({ cls := "RuleTree$Families", name := "size", desc := "()I" } : Jvm.MethodName)) ∈ zwl := zwl_in (zm5 (List.mem_of_getElem? (i := 29) rfl)) rfl
theorem wd_5_30 : (Jvm.Cond.code ({ cls := "RuleTree$Families", name := "size", desc := "()I" } : Jvm.MethodName) prog_2_method_2_code (1 : Nat) (Option.some Jvm.ClassFile.FieldType.int)) ∈ zwl := zwl_in (zm5 (List.mem_of_getElem? (i := 30) rfl)) rfl
theorem wd_5_31 : (Jvm.Cond.classLink "RuleTreeLaw" (10 : Nat) "RuleTreeModel") ∈ zwl := zwl_in (zm5 (List.mem_of_getElem? (i := 31) rfl)) rfl
theorem wd_5_32 : (Jvm.Cond.instantiable "RuleTreeModel" (46 : Nat)) ∈ zwl := zwl_in (zm5 (List.mem_of_getElem? (i := 32) rfl)) rfl
theorem wd_5_33 : (Jvm.Cond.methodLink "RuleTreeLaw" (12 : Nat) ({ cls := "RuleTreeModel", name := "<init>", desc := "()V" } : Jvm.MethodName)) ∈ zwl := zwl_in (zm5 (List.mem_of_getElem? (i := 33) rfl)) rfl
theorem wd_5_34 : (Jvm.Cond.instanceMethod ({ cls := "RuleTreeModel", name := "<init>", desc := "()V" } : Jvm.MethodName)) ∈ zwl := zwl_in (zm5 (List.mem_of_getElem? (i := 34) rfl)) rfl
theorem wd_5_35 : (Jvm.Cond.code ({ cls := "RuleTreeModel", name := "<init>", desc := "()V" } : Jvm.MethodName) prog_13_method_1_code (2 : Nat) (Option.none : Option Jvm.ClassFile.FieldType)) ∈ zwl := zwl_in (zm5 (List.mem_of_getElem? (i := 35) rfl)) rfl
theorem wd_5_36 : (Jvm.Cond.methodLink "RuleTreeModel" (1 : Nat) ({ cls := "java/lang/Object", name := "<init>", desc := "()V" } : Jvm.MethodName)) ∈ zwl := zwl_in (zm5 (List.mem_of_getElem? (i := 36) rfl)) rfl
theorem wd_5_37 : (Jvm.Cond.constant "RuleTreeModel" (87 : Nat) (65568 : Int32)) ∈ zwl := zwl_in (zm5 (List.mem_of_getElem? (i := 37) rfl)) rfl
theorem wd_5_38 : (Jvm.Cond.fieldLink "RuleTreeModel" (120 : Nat) "RuleTreeModel" "families" "I") ∈ zwl := zwl_in (zm5 (List.mem_of_getElem? (i := 38) rfl)) rfl
theorem wd_5_39 : (Jvm.Cond.fieldLink "RuleTreeModel" (7 : Nat) "RuleTreeModel" "constructors" "[I") ∈ zwl := zwl_in (zm5 (List.mem_of_getElem? (i := 39) rfl)) rfl
theorem wd_5_40 : (Jvm.Cond.fieldLink "RuleTreeModel" (13 : Nat) "RuleTreeModel" "arguments" "[J") ∈ zwl := zwl_in (zm5 (List.mem_of_getElem? (i := 40) rfl)) rfl
theorem wd_5_41 : (Jvm.Cond.fieldLink "RuleTreeModel" (123 : Nat) "RuleTreeModel" "patterns" "I") ∈ zwl := zwl_in (zm5 (List.mem_of_getElem? (i := 41) rfl)) rfl
theorem wd_5_42 : (Jvm.Cond.fieldLink "RuleTreeModel" (17 : Nat) "RuleTreeModel" "kinds" "[B") ∈ zwl := zwl_in (zm5 (List.mem_of_getElem? (i := 42) rfl)) rfl
theorem wd_5_43 : (Jvm.Cond.fieldLink "RuleTreeModel" (21 : Nat) "RuleTreeModel" "firsts" "[I") ∈ zwl := zwl_in (zm5 (List.mem_of_getElem? (i := 43) rfl)) rfl
theorem wd_5_44 : (Jvm.Cond.fieldLink "RuleTreeModel" (24 : Nat) "RuleTreeModel" "seconds" "[I") ∈ zwl := zwl_in (zm5 (List.mem_of_getElem? (i := 44) rfl)) rfl
theorem wd_5_45 : (Jvm.Cond.fieldLink "RuleTreeModel" (27 : Nat) "RuleTreeModel" "ofs" "[I") ∈ zwl := zwl_in (zm5 (List.mem_of_getElem? (i := 45) rfl)) rfl
theorem wd_5_46 : (Jvm.Cond.fieldLink "RuleTreeModel" (30 : Nat) "RuleTreeModel" "given" "[S") ∈ zwl := zwl_in (zm5 (List.mem_of_getElem? (i := 46) rfl)) rfl
theorem wd_5_47 : (Jvm.Cond.fieldLink "RuleTreeModel" (34 : Nat) "RuleTreeModel" "sizes" "[S") ∈ zwl := zwl_in (zm5 (List.mem_of_getElem? (i := 47) rfl)) rfl
theorem wd_5_48 : (Jvm.Cond.fieldLink "RuleTreeModel" (37 : Nat) "RuleTreeModel" "whole" "[Z") ∈ zwl := zwl_in (zm5 (List.mem_of_getElem? (i := 48) rfl)) rfl
theorem wd_5_49 : (Jvm.Cond.fieldLink "RuleTreeModel" (137 : Nat) "RuleTreeModel" "fields" "I") ∈ zwl := zwl_in (zm5 (List.mem_of_getElem? (i := 49) rfl)) rfl
theorem wd_5_50 : (Jvm.Cond.fieldLink "RuleTreeModel" (41 : Nat) "RuleTreeModel" "fieldNumber" "[S") ∈ zwl := zwl_in (zm5 (List.mem_of_getElem? (i := 50) rfl)) rfl
theorem wd_5_51 : (Jvm.Cond.fieldLink "RuleTreeModel" (44 : Nat) "RuleTreeModel" "fieldPattern" "[S") ∈ zwl := zwl_in (zm5 (List.mem_of_getElem? (i := 51) rfl)) rfl
theorem wd_5_52 : (Jvm.Cond.fieldLink "RuleTreeModel" (134 : Nat) "RuleTreeModel" "pushed" "I") ∈ zwl := zwl_in (zm5 (List.mem_of_getElem? (i := 52) rfl)) rfl
theorem wd_5_53 : (Jvm.Cond.fieldLink "RuleTreeModel" (47 : Nat) "RuleTreeModel" "pushedNumber" "[I") ∈ zwl := zwl_in (zm5 (List.mem_of_getElem? (i := 53) rfl)) rfl
theorem wd_5_54 : (Jvm.Cond.fieldLink "RuleTreeModel" (50 : Nat) "RuleTreeModel" "pushedPattern" "[I") ∈ zwl := zwl_in (zm5 (List.mem_of_getElem? (i := 54) rfl)) rfl
theorem wd_5_55 : (Jvm.Cond.fieldLink "RuleTreeModel" (164 : Nat) "RuleTreeModel" "rules" "I") ∈ zwl := zwl_in (zm5 (List.mem_of_getElem? (i := 55) rfl)) rfl
theorem wd_5_56 : (Jvm.Cond.fieldLink "RuleTreeModel" (53 : Nat) "RuleTreeModel" "ruleOf" "[I") ∈ zwl := zwl_in (zm5 (List.mem_of_getElem? (i := 56) rfl)) rfl
theorem wd_5_57 : (Jvm.Cond.fieldLink "RuleTreeModel" (56 : Nat) "RuleTreeModel" "askAt" "[I") ∈ zwl := zwl_in (zm5 (List.mem_of_getElem? (i := 57) rfl)) rfl
theorem wd_5_58 : (Jvm.Cond.fieldLink "RuleTreeModel" (177 : Nat) "RuleTreeModel" "allSizes" "I") ∈ zwl := zwl_in (zm5 (List.mem_of_getElem? (i := 58) rfl)) rfl
theorem wd_5_59 : (Jvm.Cond.fieldLink "RuleTreeModel" (59 : Nat) "RuleTreeModel" "askPlace" "[I") ∈ zwl := zwl_in (zm5 (List.mem_of_getElem? (i := 59) rfl)) rfl
theorem wd_5_60 : (Jvm.Cond.fieldLink "RuleTreeModel" (62 : Nat) "RuleTreeModel" "askPattern" "[I") ∈ zwl := zwl_in (zm5 (List.mem_of_getElem? (i := 60) rfl)) rfl
theorem wd_5_61 : (Jvm.Cond.fieldLink "RuleTreeModel" (65 : Nat) "RuleTreeModel" "places" "I") ∈ zwl := zwl_in (zm5 (List.mem_of_getElem? (i := 61) rfl)) rfl
theorem wd_5_62 : (Jvm.Cond.fieldLink "RuleTreeModel" (69 : Nat) "RuleTreeModel" "above" "[I") ∈ zwl := zwl_in (zm5 (List.mem_of_getElem? (i := 62) rfl)) rfl
theorem wd_5_63 : (Jvm.Cond.fieldLink "RuleTreeModel" (72 : Nat) "RuleTreeModel" "step" "[I") ∈ zwl := zwl_in (zm5 (List.mem_of_getElem? (i := 63) rfl)) rfl
theorem wd_5_64 : (Jvm.Cond.fieldLink "RuleTreeModel" (75 : Nat) "RuleTreeModel" "way" "[J") ∈ zwl := zwl_in (zm5 (List.mem_of_getElem? (i := 64) rfl)) rfl
theorem wd_5_65 : (Jvm.Cond.fieldLink "RuleTreeModel" (78 : Nat) "RuleTreeModel" "below" "[I") ∈ zwl := zwl_in (zm5 (List.mem_of_getElem? (i := 65) rfl)) rfl
theorem wd_5_66 : (Jvm.Cond.fieldLink "RuleTreeModel" (81 : Nat) "RuleTreeModel" "beside" "[I") ∈ zwl := zwl_in (zm5 (List.mem_of_getElem? (i := 66) rfl)) rfl
theorem wd_5_67 : (Jvm.Cond.fieldLink "RuleTreeModel" (84 : Nat) "RuleTreeModel" "size" "[I") ∈ zwl := zwl_in (zm5 (List.mem_of_getElem? (i := 67) rfl)) rfl
theorem wd_5_68 : (Jvm.Cond.fieldLink "RuleTreeModel" (88 : Nat) "RuleTreeModel" "possible" "[J") ∈ zwl := zwl_in (zm5 (List.mem_of_getElem? (i := 68) rfl)) rfl
theorem wd_5_69 : (Jvm.Cond.fieldLink "RuleTreeModel" (91 : Nat) "RuleTreeModel" "lookedPlace" "[I") ∈ zwl := zwl_in (zm5 (List.mem_of_getElem? (i := 69) rfl)) rfl
theorem wd_5_70 : (Jvm.Cond.fieldLink "RuleTreeModel" (94 : Nat) "RuleTreeModel" "found" "[J") ∈ zwl := zwl_in (zm5 (List.mem_of_getElem? (i := 70) rfl)) rfl
theorem wd_5_71 : (Jvm.Cond.fieldLink "RuleTreeModel" (97 : Nat) "RuleTreeModel" "other" "[Z") ∈ zwl := zwl_in (zm5 (List.mem_of_getElem? (i := 71) rfl)) rfl
theorem wd_5_72 : (Jvm.Cond.fieldLink "RuleTreeModel" (100 : Nat) "RuleTreeModel" "looked" "[Z") ∈ zwl := zwl_in (zm5 (List.mem_of_getElem? (i := 72) rfl)) rfl
theorem wd_5_73 : (Jvm.Cond.fieldLink "RuleTreeModel" (180 : Nat) "RuleTreeModel" "grown" "Z") ∈ zwl := zwl_in (zm5 (List.mem_of_getElem? (i := 73) rfl)) rfl
theorem wd_5_74 : (Jvm.Cond.fieldLink "RuleTreeModel" (236 : Nat) "RuleTreeModel" "nodes" "I") ∈ zwl := zwl_in (zm5 (List.mem_of_getElem? (i := 74) rfl)) rfl
theorem wd_5_75 : (Jvm.Cond.fieldLink "RuleTreeModel" (227 : Nat) "RuleTreeModel" "deepest" "I") ∈ zwl := zwl_in (zm5 (List.mem_of_getElem? (i := 75) rfl)) rfl
theorem wd_5_76 : (Jvm.Cond.fieldLink "RuleTreeModel" (103 : Nat) "RuleTreeModel" "endings" "[I") ∈ zwl := zwl_in (zm5 (List.mem_of_getElem? (i := 76) rfl)) rfl
theorem wd_5_77 : (Jvm.Cond.fieldLink "RuleTreeModel" (230 : Nat) "RuleTreeModel" "missed" "I") ∈ zwl := zwl_in (zm5 (List.mem_of_getElem? (i := 77) rfl)) rfl
theorem wd_5_78 : (Jvm.Cond.fieldLink "RuleTreeModel" (106 : Nat) "RuleTreeModel" "missPlace" "[I") ∈ zwl := zwl_in (zm5 (List.mem_of_getElem? (i := 78) rfl)) rfl
theorem wd_5_79 : (Jvm.Cond.fieldLink "RuleTreeModel" (109 : Nat) "RuleTreeModel" "missNumber" "[I") ∈ zwl := zwl_in (zm5 (List.mem_of_getElem? (i := 79) rfl)) rfl
theorem wd_5_80 : (Jvm.Cond.fieldLink "RuleTreeModel" (140 : Nat) "RuleTreeModel" "piled" "I") ∈ zwl := zwl_in (zm5 (List.mem_of_getElem? (i := 80) rfl)) rfl
theorem wd_5_81 : (Jvm.Cond.fieldLink "RuleTreeModel" (112 : Nat) "RuleTreeModel" "pileA" "[I") ∈ zwl := zwl_in (zm5 (List.mem_of_getElem? (i := 81) rfl)) rfl
theorem wd_5_82 : (Jvm.Cond.fieldLink "RuleTreeModel" (115 : Nat) "RuleTreeModel" "pileB" "[I") ∈ zwl := zwl_in (zm5 (List.mem_of_getElem? (i := 82) rfl)) rfl
theorem wd_5_83 : (Jvm.Cond.fieldLink "RuleTreeModel" (267 : Nat) "RuleTreeModel" "told" "I") ∈ zwl := zwl_in (zm5 (List.mem_of_getElem? (i := 83) rfl)) rfl
theorem wd_5_84 : (Jvm.Cond.lays "RuleTreeModel" "RuleTreeModel" "families" "I") ∈ zwl := zwl_in (zm5 (List.mem_of_getElem? (i := 84) rfl)) rfl
theorem wd_5_86 : (Jvm.Cond.laysFinal "RuleTreeModel" "RuleTreeModel" "constructors" "[I") ∈ zwl := zwl_in (zm5 (List.mem_of_getElem? (i := 86) rfl)) rfl
theorem wd_5_88 : (Jvm.Cond.laysFinal "RuleTreeModel" "RuleTreeModel" "arguments" "[J") ∈ zwl := zwl_in (zm5 (List.mem_of_getElem? (i := 88) rfl)) rfl
theorem wd_5_90 : (Jvm.Cond.lays "RuleTreeModel" "RuleTreeModel" "patterns" "I") ∈ zwl := zwl_in (zm5 (List.mem_of_getElem? (i := 90) rfl)) rfl
theorem wd_5_92 : (Jvm.Cond.laysFinal "RuleTreeModel" "RuleTreeModel" "kinds" "[B") ∈ zwl := zwl_in (zm5 (List.mem_of_getElem? (i := 92) rfl)) rfl
theorem wd_5_94 : (Jvm.Cond.laysFinal "RuleTreeModel" "RuleTreeModel" "firsts" "[I") ∈ zwl := zwl_in (zm5 (List.mem_of_getElem? (i := 94) rfl)) rfl
theorem wd_5_96 : (Jvm.Cond.laysFinal "RuleTreeModel" "RuleTreeModel" "seconds" "[I") ∈ zwl := zwl_in (zm5 (List.mem_of_getElem? (i := 96) rfl)) rfl
theorem wd_5_98 : (Jvm.Cond.laysFinal "RuleTreeModel" "RuleTreeModel" "ofs" "[I") ∈ zwl := zwl_in (zm5 (List.mem_of_getElem? (i := 98) rfl)) rfl
theorem wd_5_100 : (Jvm.Cond.laysFinal "RuleTreeModel" "RuleTreeModel" "given" "[S") ∈ zwl := zwl_in (zm5 (List.mem_of_getElem? (i := 100) rfl)) rfl
theorem wd_5_102 : (Jvm.Cond.laysFinal "RuleTreeModel" "RuleTreeModel" "sizes" "[S") ∈ zwl := zwl_in (zm5 (List.mem_of_getElem? (i := 102) rfl)) rfl
theorem wd_5_104 : (Jvm.Cond.laysFinal "RuleTreeModel" "RuleTreeModel" "whole" "[Z") ∈ zwl := zwl_in (zm5 (List.mem_of_getElem? (i := 104) rfl)) rfl
theorem wd_5_106 : (Jvm.Cond.lays "RuleTreeModel" "RuleTreeModel" "fields" "I") ∈ zwl := zwl_in (zm5 (List.mem_of_getElem? (i := 106) rfl)) rfl
theorem wd_5_108 : (Jvm.Cond.laysFinal "RuleTreeModel" "RuleTreeModel" "fieldNumber" "[S") ∈ zwl := zwl_in (zm5 (List.mem_of_getElem? (i := 108) rfl)) rfl
theorem wd_5_110 : (Jvm.Cond.laysFinal "RuleTreeModel" "RuleTreeModel" "fieldPattern" "[S") ∈ zwl := zwl_in (zm5 (List.mem_of_getElem? (i := 110) rfl)) rfl
theorem wd_5_112 : (Jvm.Cond.lays "RuleTreeModel" "RuleTreeModel" "pushed" "I") ∈ zwl := zwl_in (zm5 (List.mem_of_getElem? (i := 112) rfl)) rfl
theorem wd_5_114 : (Jvm.Cond.laysFinal "RuleTreeModel" "RuleTreeModel" "pushedNumber" "[I") ∈ zwl := zwl_in (zm5 (List.mem_of_getElem? (i := 114) rfl)) rfl
theorem wd_5_116 : (Jvm.Cond.laysFinal "RuleTreeModel" "RuleTreeModel" "pushedPattern" "[I") ∈ zwl := zwl_in (zm5 (List.mem_of_getElem? (i := 116) rfl)) rfl
theorem wd_5_118 : (Jvm.Cond.lays "RuleTreeModel" "RuleTreeModel" "rules" "I") ∈ zwl := zwl_in (zm5 (List.mem_of_getElem? (i := 118) rfl)) rfl
theorem wd_5_120 : (Jvm.Cond.laysFinal "RuleTreeModel" "RuleTreeModel" "ruleOf" "[I") ∈ zwl := zwl_in (zm5 (List.mem_of_getElem? (i := 120) rfl)) rfl
theorem wd_5_122 : (Jvm.Cond.laysFinal "RuleTreeModel" "RuleTreeModel" "askAt" "[I") ∈ zwl := zwl_in (zm5 (List.mem_of_getElem? (i := 122) rfl)) rfl
theorem wd_5_124 : (Jvm.Cond.lays "RuleTreeModel" "RuleTreeModel" "allSizes" "I") ∈ zwl := zwl_in (zm5 (List.mem_of_getElem? (i := 124) rfl)) rfl
theorem wd_5_126 : (Jvm.Cond.laysFinal "RuleTreeModel" "RuleTreeModel" "askPlace" "[I") ∈ zwl := zwl_in (zm5 (List.mem_of_getElem? (i := 126) rfl)) rfl
theorem wd_5_128 : (Jvm.Cond.laysFinal "RuleTreeModel" "RuleTreeModel" "askPattern" "[I") ∈ zwl := zwl_in (zm5 (List.mem_of_getElem? (i := 128) rfl)) rfl
theorem wd_5_130 : (Jvm.Cond.lays "RuleTreeModel" "RuleTreeModel" "places" "I") ∈ zwl := zwl_in (zm5 (List.mem_of_getElem? (i := 130) rfl)) rfl
theorem wd_5_132 : (Jvm.Cond.laysFinal "RuleTreeModel" "RuleTreeModel" "above" "[I") ∈ zwl := zwl_in (zm5 (List.mem_of_getElem? (i := 132) rfl)) rfl
theorem wd_5_134 : (Jvm.Cond.laysFinal "RuleTreeModel" "RuleTreeModel" "step" "[I") ∈ zwl := zwl_in (zm5 (List.mem_of_getElem? (i := 134) rfl)) rfl
theorem wd_5_136 : (Jvm.Cond.laysFinal "RuleTreeModel" "RuleTreeModel" "way" "[J") ∈ zwl := zwl_in (zm5 (List.mem_of_getElem? (i := 136) rfl)) rfl
theorem wd_5_138 : (Jvm.Cond.laysFinal "RuleTreeModel" "RuleTreeModel" "below" "[I") ∈ zwl := zwl_in (zm5 (List.mem_of_getElem? (i := 138) rfl)) rfl
theorem wd_5_140 : (Jvm.Cond.laysFinal "RuleTreeModel" "RuleTreeModel" "beside" "[I") ∈ zwl := zwl_in (zm5 (List.mem_of_getElem? (i := 140) rfl)) rfl
theorem wd_5_142 : (Jvm.Cond.laysFinal "RuleTreeModel" "RuleTreeModel" "size" "[I") ∈ zwl := zwl_in (zm5 (List.mem_of_getElem? (i := 142) rfl)) rfl
theorem wd_5_144 : (Jvm.Cond.laysFinal "RuleTreeModel" "RuleTreeModel" "possible" "[J") ∈ zwl := zwl_in (zm5 (List.mem_of_getElem? (i := 144) rfl)) rfl
theorem wd_5_146 : (Jvm.Cond.laysFinal "RuleTreeModel" "RuleTreeModel" "lookedPlace" "[I") ∈ zwl := zwl_in (zm5 (List.mem_of_getElem? (i := 146) rfl)) rfl
theorem wd_5_148 : (Jvm.Cond.laysFinal "RuleTreeModel" "RuleTreeModel" "found" "[J") ∈ zwl := zwl_in (zm5 (List.mem_of_getElem? (i := 148) rfl)) rfl
theorem wd_5_150 : (Jvm.Cond.laysFinal "RuleTreeModel" "RuleTreeModel" "other" "[Z") ∈ zwl := zwl_in (zm5 (List.mem_of_getElem? (i := 150) rfl)) rfl
theorem wd_5_152 : (Jvm.Cond.laysFinal "RuleTreeModel" "RuleTreeModel" "looked" "[Z") ∈ zwl := zwl_in (zm5 (List.mem_of_getElem? (i := 152) rfl)) rfl
theorem wd_5_154 : (Jvm.Cond.lays "RuleTreeModel" "RuleTreeModel" "grown" "Z") ∈ zwl := zwl_in (zm5 (List.mem_of_getElem? (i := 154) rfl)) rfl
theorem wd_5_156 : (Jvm.Cond.lays "RuleTreeModel" "RuleTreeModel" "nodes" "I") ∈ zwl := zwl_in (zm5 (List.mem_of_getElem? (i := 156) rfl)) rfl
theorem wd_5_158 : (Jvm.Cond.lays "RuleTreeModel" "RuleTreeModel" "deepest" "I") ∈ zwl := zwl_in (zm5 (List.mem_of_getElem? (i := 158) rfl)) rfl
theorem wd_5_160 : (Jvm.Cond.laysFinal "RuleTreeModel" "RuleTreeModel" "endings" "[I") ∈ zwl := zwl_in (zm5 (List.mem_of_getElem? (i := 160) rfl)) rfl
theorem wd_5_162 : (Jvm.Cond.lays "RuleTreeModel" "RuleTreeModel" "missed" "I") ∈ zwl := zwl_in (zm5 (List.mem_of_getElem? (i := 162) rfl)) rfl
theorem wd_5_164 : (Jvm.Cond.laysFinal "RuleTreeModel" "RuleTreeModel" "missPlace" "[I") ∈ zwl := zwl_in (zm5 (List.mem_of_getElem? (i := 164) rfl)) rfl
theorem wd_5_166 : (Jvm.Cond.laysFinal "RuleTreeModel" "RuleTreeModel" "missNumber" "[I") ∈ zwl := zwl_in (zm5 (List.mem_of_getElem? (i := 166) rfl)) rfl
theorem wd_5_168 : (Jvm.Cond.lays "RuleTreeModel" "RuleTreeModel" "piled" "I") ∈ zwl := zwl_in (zm5 (List.mem_of_getElem? (i := 168) rfl)) rfl
theorem wd_5_170 : (Jvm.Cond.laysFinal "RuleTreeModel" "RuleTreeModel" "pileA" "[I") ∈ zwl := zwl_in (zm5 (List.mem_of_getElem? (i := 170) rfl)) rfl
theorem wd_5_172 : (Jvm.Cond.laysFinal "RuleTreeModel" "RuleTreeModel" "pileB" "[I") ∈ zwl := zwl_in (zm5 (List.mem_of_getElem? (i := 172) rfl)) rfl
theorem wd_5_174 : (Jvm.Cond.lays "RuleTreeModel" "RuleTreeModel" "told" "I") ∈ zwl := zwl_in (zm5 (List.mem_of_getElem? (i := 174) rfl)) rfl
theorem wd_5_177 : (Jvm.Cond.arrayClass Jvm.ClassFile.FieldType.byte) ∈ zwl := zwl_in (zm5 (List.mem_of_getElem? (i := 177) rfl)) rfl
theorem wd_5_178 : (Jvm.Cond.arrayClass Jvm.ClassFile.FieldType.short) ∈ zwl := zwl_in (zm5 (List.mem_of_getElem? (i := 178) rfl)) rfl
theorem wd_5_179 : (Jvm.Cond.arrayClass Jvm.ClassFile.FieldType.boolean) ∈ zwl := zwl_in (zm5 (List.mem_of_getElem? (i := 179) rfl)) rfl
theorem wd_5_180 : (Jvm.Cond.methodLink "RuleTreeLaw" (19 : Nat) ({ cls := "RuleTreeModel", name := "family", desc := "(IJ)I" } : Jvm.MethodName)) ∈ zwl := zwl_in (zm5 (List.mem_of_getElem? (i := 180) rfl)) rfl
theorem wd_5_181 : (Jvm.Cond.instanceMethod ({ cls := "RuleTreeModel", name := "family", desc := "(IJ)I" } : Jvm.MethodName)) ∈ zwl := zwl_in (zm5 (List.mem_of_getElem? (i := 181) rfl)) rfl
theorem wd_5_182 : (Jvm.Cond.selects "RuleTreeModel" ({ cls := "RuleTreeModel", name := "family", desc := "(IJ)I" } : Jvm.MethodName) ({ cls := "RuleTreeModel", name := "family", desc := "(IJ)I" } : Jvm.MethodName)) ∈ zwl := zwl_in (zm5 (List.mem_of_getElem? (i := 182) rfl)) rfl
theorem wd_5_183 : (Jvm.Cond.code ({ cls := "RuleTreeModel", name := "family", desc := "(IJ)I" } : Jvm.MethodName) prog_13_method_2_code (5 : Nat) (Option.some Jvm.ClassFile.FieldType.int)) ∈ zwl := zwl_in (zm5 (List.mem_of_getElem? (i := 183) rfl)) rfl
theorem wd_5_184 : (Jvm.Cond.constantLong "RuleTreeModel" (118 : Nat) (-1 : Int64)) ∈ zwl := zwl_in (zm5 (List.mem_of_getElem? (i := 184) rfl)) rfl
theorem wd_5_185 : (Jvm.Cond.methodLink "RuleTreeLaw" (24 : Nat) ({ cls := "RuleTreeModel", name := "any", desc := "()I" } : Jvm.MethodName)) ∈ zwl := zwl_in (zm5 (List.mem_of_getElem? (i := 185) rfl)) rfl
theorem wd_5_186 : (Jvm.Cond.instanceMethod ({ cls := "RuleTreeModel", name := "any", desc := "()I" } : Jvm.MethodName)) ∈ zwl := zwl_in (zm5 (List.mem_of_getElem? (i := 186) rfl)) rfl
theorem wd_5_187 : (Jvm.Cond.selects "RuleTreeModel" ({ cls := "RuleTreeModel", name := "any", desc := "()I" } : Jvm.MethodName) ({ cls := "RuleTreeModel", name := "any", desc := "()I" } : Jvm.MethodName)) ∈ zwl := zwl_in (zm5 (List.mem_of_getElem? (i := 187) rfl)) rfl
theorem wd_5_188 : (Jvm.Cond.code ({ cls := "RuleTreeModel", name := "any", desc := "()I" } : Jvm.MethodName) prog_13_method_5_code (1 : Nat) (Option.some Jvm.ClassFile.FieldType.int)) ∈ zwl := zwl_in (zm5 (List.mem_of_getElem? (i := 188) rfl)) rfl
theorem wd_5_189 : (Jvm.Cond.methodLink "RuleTreeModel" (126 : Nat) ({ cls := "RuleTreeModel", name := "make", desc := "(IIIIIZ)I" } : Jvm.MethodName)) ∈ zwl := zwl_in (zm5 (List.mem_of_getElem? (i := 189) rfl)) rfl
theorem wd_5_191 : (Jvm.Cond.instanceMethod ({ cls := "RuleTreeModel", name := "make", desc := "(IIIIIZ)I" } : Jvm.MethodName)) ∈ zwl := zwl_in (zm5 (List.mem_of_getElem? (i := 191) rfl)) rfl
theorem wd_5_192 : (Jvm.Cond.code ({ cls := "RuleTreeModel", name := "make", desc := "(IIIIIZ)I" } : Jvm.MethodName) prog_13_method_4_code (7 : Nat) (Option.some Jvm.ClassFile.FieldType.int)) ∈ zwl := zwl_in (zm5 (List.mem_of_getElem? (i := 192) rfl)) rfl
theorem wd_5_193 : (Jvm.Cond.methodLink "RuleTreeLaw" (29 : Nat) ({ cls := "RuleTreeModel", name := "constant", desc := "(II)I" } : Jvm.MethodName)) ∈ zwl := zwl_in (zm5 (List.mem_of_getElem? (i := 193) rfl)) rfl
theorem wd_5_194 : (Jvm.Cond.instanceMethod ({ cls := "RuleTreeModel", name := "constant", desc := "(II)I" } : Jvm.MethodName)) ∈ zwl := zwl_in (zm5 (List.mem_of_getElem? (i := 194) rfl)) rfl
theorem wd_5_195 : (Jvm.Cond.selects "RuleTreeModel" ({ cls := "RuleTreeModel", name := "constant", desc := "(II)I" } : Jvm.MethodName) ({ cls := "RuleTreeModel", name := "constant", desc := "(II)I" } : Jvm.MethodName)) ∈ zwl := zwl_in (zm5 (List.mem_of_getElem? (i := 195) rfl)) rfl
theorem wd_5_196 : (Jvm.Cond.code ({ cls := "RuleTreeModel", name := "constant", desc := "(II)I" } : Jvm.MethodName) prog_13_method_6_code (4 : Nat) (Option.some Jvm.ClassFile.FieldType.int)) ∈ zwl := zwl_in (zm5 (List.mem_of_getElem? (i := 196) rfl)) rfl
theorem wd_5_197 : (Jvm.Cond.methodLink "RuleTreeLaw" (34 : Nat) ({ cls := "RuleTreeModel", name := "built", desc := "(III)I" } : Jvm.MethodName)) ∈ zwl := zwl_in (zm5 (List.mem_of_getElem? (i := 197) rfl)) rfl
theorem wd_5_198 : (Jvm.Cond.instanceMethod ({ cls := "RuleTreeModel", name := "built", desc := "(III)I" } : Jvm.MethodName)) ∈ zwl := zwl_in (zm5 (List.mem_of_getElem? (i := 198) rfl)) rfl
theorem wd_5_199 : (Jvm.Cond.selects "RuleTreeModel" ({ cls := "RuleTreeModel", name := "built", desc := "(III)I" } : Jvm.MethodName) ({ cls := "RuleTreeModel", name := "built", desc := "(III)I" } : Jvm.MethodName)) ∈ zwl := zwl_in (zm5 (List.mem_of_getElem? (i := 199) rfl)) rfl
theorem wd_5_200 : (Jvm.Cond.code ({ cls := "RuleTreeModel", name := "built", desc := "(III)I" } : Jvm.MethodName) prog_13_method_7_code (5 : Nat) (Option.some Jvm.ClassFile.FieldType.int)) ∈ zwl := zwl_in (zm5 (List.mem_of_getElem? (i := 200) rfl)) rfl
theorem wd_5_201 : (Jvm.Cond.methodLink "RuleTreeModel" (130 : Nat) ({ cls := "RuleTreeModel", name := "isPattern", desc := "(I)Z" } : Jvm.MethodName)) ∈ zwl := zwl_in (zm5 (List.mem_of_getElem? (i := 201) rfl)) rfl
theorem wd_5_203 : (Jvm.Cond.instanceMethod ({ cls := "RuleTreeModel", name := "isPattern", desc := "(I)Z" } : Jvm.MethodName)) ∈ zwl := zwl_in (zm5 (List.mem_of_getElem? (i := 203) rfl)) rfl
theorem wd_5_204 : (Jvm.Cond.code ({ cls := "RuleTreeModel", name := "isPattern", desc := "(I)Z" } : Jvm.MethodName) prog_13_method_3_code (2 : Nat) (Option.some Jvm.ClassFile.FieldType.boolean)) ∈ zwl := zwl_in (zm5 (List.mem_of_getElem? (i := 204) rfl)) rfl
theorem wd_5_205 : (Jvm.Cond.methodLink "RuleTreeLaw" (38 : Nat) ({ cls := "RuleTreeModel", name := "name", desc := "(II)I" } : Jvm.MethodName)) ∈ zwl := zwl_in (zm5 (List.mem_of_getElem? (i := 205) rfl)) rfl
theorem wd_5_206 : (Jvm.Cond.instanceMethod ({ cls := "RuleTreeModel", name := "name", desc := "(II)I" } : Jvm.MethodName)) ∈ zwl := zwl_in (zm5 (List.mem_of_getElem? (i := 206) rfl)) rfl
theorem wd_5_207 : (Jvm.Cond.selects "RuleTreeModel" ({ cls := "RuleTreeModel", name := "name", desc := "(II)I" } : Jvm.MethodName) ({ cls := "RuleTreeModel", name := "name", desc := "(II)I" } : Jvm.MethodName)) ∈ zwl := zwl_in (zm5 (List.mem_of_getElem? (i := 207) rfl)) rfl
theorem wd_5_208 : (Jvm.Cond.code ({ cls := "RuleTreeModel", name := "name", desc := "(II)I" } : Jvm.MethodName) prog_13_method_8_code (3 : Nat) (Option.some Jvm.ClassFile.FieldType.int)) ∈ zwl := zwl_in (zm5 (List.mem_of_getElem? (i := 208) rfl)) rfl
theorem wd_5_209 : (Jvm.Cond.methodLink "RuleTreeLaw" (42 : Nat) ({ cls := "RuleTreeModel", name := "push", desc := "(II)I" } : Jvm.MethodName)) ∈ zwl := zwl_in (zm5 (List.mem_of_getElem? (i := 209) rfl)) rfl
theorem wd_5_210 : (Jvm.Cond.instanceMethod ({ cls := "RuleTreeModel", name := "push", desc := "(II)I" } : Jvm.MethodName)) ∈ zwl := zwl_in (zm5 (List.mem_of_getElem? (i := 210) rfl)) rfl
theorem wd_5_211 : (Jvm.Cond.selects "RuleTreeModel" ({ cls := "RuleTreeModel", name := "push", desc := "(II)I" } : Jvm.MethodName) ({ cls := "RuleTreeModel", name := "push", desc := "(II)I" } : Jvm.MethodName)) ∈ zwl := zwl_in (zm5 (List.mem_of_getElem? (i := 211) rfl)) rfl
theorem wd_5_212 : (Jvm.Cond.code ({ cls := "RuleTreeModel", name := "push", desc := "(II)I" } : Jvm.MethodName) prog_13_method_9_code (5 : Nat) (Option.some Jvm.ClassFile.FieldType.int)) ∈ zwl := zwl_in (zm5 (List.mem_of_getElem? (i := 212) rfl)) rfl
theorem wd_5_213 : (Jvm.Cond.methodLink "RuleTreeLaw" (47 : Nat) ({ cls := "RuleTreeModel", name := "record", desc := "(I)I" } : Jvm.MethodName)) ∈ zwl := zwl_in (zm5 (List.mem_of_getElem? (i := 213) rfl)) rfl
theorem wd_5_214 : (Jvm.Cond.instanceMethod ({ cls := "RuleTreeModel", name := "record", desc := "(I)I" } : Jvm.MethodName)) ∈ zwl := zwl_in (zm5 (List.mem_of_getElem? (i := 214) rfl)) rfl
theorem wd_5_215 : (Jvm.Cond.selects "RuleTreeModel" ({ cls := "RuleTreeModel", name := "record", desc := "(I)I" } : Jvm.MethodName) ({ cls := "RuleTreeModel", name := "record", desc := "(I)I" } : Jvm.MethodName)) ∈ zwl := zwl_in (zm5 (List.mem_of_getElem? (i := 215) rfl)) rfl
theorem wd_5_216 : (Jvm.Cond.code ({ cls := "RuleTreeModel", name := "record", desc := "(I)I" } : Jvm.MethodName) prog_13_method_10_code (6 : Nat) (Option.some Jvm.ClassFile.FieldType.int)) ∈ zwl := zwl_in (zm5 (List.mem_of_getElem? (i := 216) rfl)) rfl
theorem wd_5_217 : (Jvm.Cond.methodLink "RuleTreeLaw" (75 : Nat) ({ cls := "RuleTreeModel", name := "first", desc := "(I)I" } : Jvm.MethodName)) ∈ zwl := zwl_in (zm5 (List.mem_of_getElem? (i := 217) rfl)) rfl
theorem wd_5_218 : (Jvm.Cond.instanceMethod ({ cls := "RuleTreeModel", name := "first", desc := "(I)I" } : Jvm.MethodName)) ∈ zwl := zwl_in (zm5 (List.mem_of_getElem? (i := 218) rfl)) rfl
theorem wd_5_219 : (Jvm.Cond.selects "RuleTreeModel" ({ cls := "RuleTreeModel", name := "first", desc := "(I)I" } : Jvm.MethodName) ({ cls := "RuleTreeModel", name := "first", desc := "(I)I" } : Jvm.MethodName)) ∈ zwl := zwl_in (zm5 (List.mem_of_getElem? (i := 219) rfl)) rfl
theorem wd_5_220 : (Jvm.Cond.code ({ cls := "RuleTreeModel", name := "first", desc := "(I)I" } : Jvm.MethodName) prog_13_method_19_code (3 : Nat) (Option.some Jvm.ClassFile.FieldType.int)) ∈ zwl := zwl_in (zm5 (List.mem_of_getElem? (i := 220) rfl)) rfl
theorem wd_5_221 : (Jvm.Cond.methodLink "RuleTreeModel" (161 : Nat) ({ cls := "RuleTreeModel", name := "isValue", desc := "(I)Z" } : Jvm.MethodName)) ∈ zwl := zwl_in (zm5 (List.mem_of_getElem? (i := 221) rfl)) rfl
theorem wd_5_223 : (Jvm.Cond.instanceMethod ({ cls := "RuleTreeModel", name := "isValue", desc := "(I)Z" } : Jvm.MethodName)) ∈ zwl := zwl_in (zm5 (List.mem_of_getElem? (i := 223) rfl)) rfl
theorem wd_5_224 : (Jvm.Cond.code ({ cls := "RuleTreeModel", name := "isValue", desc := "(I)Z" } : Jvm.MethodName) prog_13_method_18_code (2 : Nat) (Option.some Jvm.ClassFile.FieldType.boolean)) ∈ zwl := zwl_in (zm5 (List.mem_of_getElem? (i := 224) rfl)) rfl
theorem wd_5_225 : (Jvm.Cond.methodLink "RuleTreeModel" (167 : Nat) ({ cls := "RuleTreeModel", name := "matches", desc := "(II)Z" } : Jvm.MethodName)) ∈ zwl := zwl_in (zm5 (List.mem_of_getElem? (i := 225) rfl)) rfl
theorem wd_5_227 : (Jvm.Cond.instanceMethod ({ cls := "RuleTreeModel", name := "matches", desc := "(II)Z" } : Jvm.MethodName)) ∈ zwl := zwl_in (zm5 (List.mem_of_getElem? (i := 227) rfl)) rfl
theorem wd_5_228 : (Jvm.Cond.code ({ cls := "RuleTreeModel", name := "matches", desc := "(II)Z" } : Jvm.MethodName) prog_13_method_17_code (6 : Nat) (Option.some Jvm.ClassFile.FieldType.boolean)) ∈ zwl := zwl_in (zm5 (List.mem_of_getElem? (i := 228) rfl)) rfl
theorem wd_5_229 : (Jvm.Cond.methodLink "RuleTreeModel" (147 : Nat) ({ cls := "RuleTreeModel", name := "pair", desc := "(II)V" } : Jvm.MethodName)) ∈ zwl := zwl_in (zm5 (List.mem_of_getElem? (i := 229) rfl)) rfl
theorem wd_5_231 : (Jvm.Cond.instanceMethod ({ cls := "RuleTreeModel", name := "pair", desc := "(II)V" } : Jvm.MethodName)) ∈ zwl := zwl_in (zm5 (List.mem_of_getElem? (i := 231) rfl)) rfl
theorem wd_5_232 : (Jvm.Cond.code ({ cls := "RuleTreeModel", name := "pair", desc := "(II)V" } : Jvm.MethodName) prog_13_method_12_code (3 : Nat) (Option.none : Option Jvm.ClassFile.FieldType)) ∈ zwl := zwl_in (zm5 (List.mem_of_getElem? (i := 232) rfl)) rfl
theorem wd_5_233 : (Jvm.Cond.methodLink "RuleTreeModel" (151 : Nat) ({ cls := "RuleTreeModel", name := "areOneSort", desc := "(II)Z" } : Jvm.MethodName)) ∈ zwl := zwl_in (zm5 (List.mem_of_getElem? (i := 233) rfl)) rfl
theorem wd_5_235 : (Jvm.Cond.instanceMethod ({ cls := "RuleTreeModel", name := "areOneSort", desc := "(II)Z" } : Jvm.MethodName)) ∈ zwl := zwl_in (zm5 (List.mem_of_getElem? (i := 235) rfl)) rfl
theorem wd_5_236 : (Jvm.Cond.code ({ cls := "RuleTreeModel", name := "areOneSort", desc := "(II)Z" } : Jvm.MethodName) prog_13_method_14_code (3 : Nat) (Option.some Jvm.ClassFile.FieldType.boolean)) ∈ zwl := zwl_in (zm5 (List.mem_of_getElem? (i := 236) rfl)) rfl
theorem wd_5_237 : (Jvm.Cond.methodLink "RuleTreeModel" (158 : Nat) ({ cls := "RuleTreeModel", name := "pairFields", desc := "(II)V" } : Jvm.MethodName)) ∈ zwl := zwl_in (zm5 (List.mem_of_getElem? (i := 237) rfl)) rfl
theorem wd_5_239 : (Jvm.Cond.instanceMethod ({ cls := "RuleTreeModel", name := "pairFields", desc := "(II)V" } : Jvm.MethodName)) ∈ zwl := zwl_in (zm5 (List.mem_of_getElem? (i := 239) rfl)) rfl
theorem wd_6_0 : (Jvm.Cond.code ({ cls := "RuleTreeModel", name := "pairFields", desc := "(II)V" } : Jvm.MethodName) prog_13_method_13_code (5 : Nat) (Option.none : Option Jvm.ClassFile.FieldType)) ∈ zwl := zwl_in (zm6 (List.mem_of_getElem? (i := 0) rfl)) rfl
theorem wd_6_1 : (Jvm.Cond.methodLink "RuleTreeModel" (143 : Nat) ({ cls := "RuleTreeModel", name := "fieldOf", desc := "(II)I" } : Jvm.MethodName)) ∈ zwl := zwl_in (zm6 (List.mem_of_getElem? (i := 1) rfl)) rfl
theorem wd_6_3 : (Jvm.Cond.instanceMethod ({ cls := "RuleTreeModel", name := "fieldOf", desc := "(II)I" } : Jvm.MethodName)) ∈ zwl := zwl_in (zm6 (List.mem_of_getElem? (i := 3) rfl)) rfl
theorem wd_6_4 : (Jvm.Cond.code ({ cls := "RuleTreeModel", name := "fieldOf", desc := "(II)I" } : Jvm.MethodName) prog_13_method_11_code (5 : Nat) (Option.some Jvm.ClassFile.FieldType.int)) ∈ zwl := zwl_in (zm6 (List.mem_of_getElem? (i := 4) rfl)) rfl
theorem wd_6_5 : (Jvm.Cond.methodLink "RuleTreeModel" (155 : Nat) ({ cls := "RuleTreeModel", name := "areOne", desc := "(II)Z" } : Jvm.MethodName)) ∈ zwl := zwl_in (zm6 (List.mem_of_getElem? (i := 5) rfl)) rfl
theorem wd_6_7 : (Jvm.Cond.instanceMethod ({ cls := "RuleTreeModel", name := "areOne", desc := "(II)Z" } : Jvm.MethodName)) ∈ zwl := zwl_in (zm6 (List.mem_of_getElem? (i := 7) rfl)) rfl
theorem wd_6_8 : (Jvm.Cond.code ({ cls := "RuleTreeModel", name := "areOne", desc := "(II)Z" } : Jvm.MethodName) prog_13_method_15_code (3 : Nat) (Option.some Jvm.ClassFile.FieldType.boolean)) ∈ zwl := zwl_in (zm6 (List.mem_of_getElem? (i := 8) rfl)) rfl
theorem wd_6_9 : (Jvm.Cond.methodLink "RuleTreeLaw" (80 : Nat) ({ cls := "RuleTreeModel", name := "fits", desc := "(I)Z" } : Jvm.MethodName)) ∈ zwl := zwl_in (zm6 (List.mem_of_getElem? (i := 9) rfl)) rfl
theorem wd_6_10 : (Jvm.Cond.instanceMethod ({ cls := "RuleTreeModel", name := "fits", desc := "(I)Z" } : Jvm.MethodName)) ∈ zwl := zwl_in (zm6 (List.mem_of_getElem? (i := 10) rfl)) rfl
theorem wd_6_11 : (Jvm.Cond.selects "RuleTreeModel" ({ cls := "RuleTreeModel", name := "fits", desc := "(I)Z" } : Jvm.MethodName) ({ cls := "RuleTreeModel", name := "fits", desc := "(I)Z" } : Jvm.MethodName)) ∈ zwl := zwl_in (zm6 (List.mem_of_getElem? (i := 11) rfl)) rfl
theorem wd_6_12 : (Jvm.Cond.code ({ cls := "RuleTreeModel", name := "fits", desc := "(I)Z" } : Jvm.MethodName) prog_13_method_20_code (4 : Nat) (Option.some Jvm.ClassFile.FieldType.boolean)) ∈ zwl := zwl_in (zm6 (List.mem_of_getElem? (i := 12) rfl)) rfl
theorem wd_6_13 : (Jvm.Cond.methodLink "RuleTreeModel" (170 : Nat) ({ cls := "RuleTreeModel", name := "goTogether", desc := "(II)Z" } : Jvm.MethodName)) ∈ zwl := zwl_in (zm6 (List.mem_of_getElem? (i := 13) rfl)) rfl
theorem wd_6_15 : (Jvm.Cond.instanceMethod ({ cls := "RuleTreeModel", name := "goTogether", desc := "(II)Z" } : Jvm.MethodName)) ∈ zwl := zwl_in (zm6 (List.mem_of_getElem? (i := 15) rfl)) rfl
theorem wd_6_16 : (Jvm.Cond.code ({ cls := "RuleTreeModel", name := "goTogether", desc := "(II)Z" } : Jvm.MethodName) prog_13_method_16_code (7 : Nat) (Option.some Jvm.ClassFile.FieldType.boolean)) ∈ zwl := zwl_in (zm6 (List.mem_of_getElem? (i := 16) rfl)) rfl
theorem wd_6_17 : (Jvm.Cond.methodLink "RuleTreeLaw" (51 : Nat) ({ cls := "RuleTreeModel", name := "rule", desc := "(I)I" } : Jvm.MethodName)) ∈ zwl := zwl_in (zm6 (List.mem_of_getElem? (i := 17) rfl)) rfl
theorem wd_6_18 : (Jvm.Cond.instanceMethod ({ cls := "RuleTreeModel", name := "rule", desc := "(I)I" } : Jvm.MethodName)) ∈ zwl := zwl_in (zm6 (List.mem_of_getElem? (i := 18) rfl)) rfl
theorem wd_6_19 : (Jvm.Cond.selects "RuleTreeModel" ({ cls := "RuleTreeModel", name := "rule", desc := "(I)I" } : Jvm.MethodName) ({ cls := "RuleTreeModel", name := "rule", desc := "(I)I" } : Jvm.MethodName)) ∈ zwl := zwl_in (zm6 (List.mem_of_getElem? (i := 19) rfl)) rfl
theorem wd_6_20 : (Jvm.Cond.code ({ cls := "RuleTreeModel", name := "rule", desc := "(I)I" } : Jvm.MethodName) prog_13_method_22_code (4 : Nat) (Option.some Jvm.ClassFile.FieldType.int)) ∈ zwl := zwl_in (zm6 (List.mem_of_getElem? (i := 20) rfl)) rfl
theorem wd_6_21 : (Jvm.Cond.methodLink "RuleTreeModel" (184 : Nat) ({ cls := "RuleTreeModel", name := "ask", desc := "(II)V" } : Jvm.MethodName)) ∈ zwl := zwl_in (zm6 (List.mem_of_getElem? (i := 21) rfl)) rfl
theorem wd_6_23 : (Jvm.Cond.instanceMethod ({ cls := "RuleTreeModel", name := "ask", desc := "(II)V" } : Jvm.MethodName)) ∈ zwl := zwl_in (zm6 (List.mem_of_getElem? (i := 23) rfl)) rfl
theorem wd_6_24 : (Jvm.Cond.code ({ cls := "RuleTreeModel", name := "ask", desc := "(II)V" } : Jvm.MethodName) prog_13_method_23_code (4 : Nat) (Option.none : Option Jvm.ClassFile.FieldType)) ∈ zwl := zwl_in (zm6 (List.mem_of_getElem? (i := 24) rfl)) rfl
theorem wd_6_25 : (Jvm.Cond.methodLink "RuleTreeModel" (187 : Nat) ({ cls := "RuleTreeModel", name := "placeBelow", desc := "(IIJ)I" } : Jvm.MethodName)) ∈ zwl := zwl_in (zm6 (List.mem_of_getElem? (i := 25) rfl)) rfl
theorem wd_6_27 : (Jvm.Cond.instanceMethod ({ cls := "RuleTreeModel", name := "placeBelow", desc := "(IIJ)I" } : Jvm.MethodName)) ∈ zwl := zwl_in (zm6 (List.mem_of_getElem? (i := 27) rfl)) rfl
theorem wd_6_28 : (Jvm.Cond.code ({ cls := "RuleTreeModel", name := "placeBelow", desc := "(IIJ)I" } : Jvm.MethodName) prog_13_method_21_code (6 : Nat) (Option.some Jvm.ClassFile.FieldType.int)) ∈ zwl := zwl_in (zm6 (List.mem_of_getElem? (i := 28) rfl)) rfl
theorem wd_6_29 : (Jvm.Cond.methodLink "RuleTreeModel" (173 : Nat) ({ cls := "RuleTreeModel", name := "childOf", desc := "(IJ)I" } : Jvm.MethodName)) ∈ zwl := zwl_in (zm6 (List.mem_of_getElem? (i := 29) rfl)) rfl
theorem wd_6_31 : (Jvm.Cond.instanceMethod ({ cls := "RuleTreeModel", name := "childOf", desc := "(IJ)I" } : Jvm.MethodName)) ∈ zwl := zwl_in (zm6 (List.mem_of_getElem? (i := 31) rfl)) rfl
theorem wd_6_32 : (Jvm.Cond.code ({ cls := "RuleTreeModel", name := "childOf", desc := "(IJ)I" } : Jvm.MethodName) prog_13_method_57_code (5 : Nat) (Option.some Jvm.ClassFile.FieldType.int)) ∈ zwl := zwl_in (zm6 (List.mem_of_getElem? (i := 32) rfl)) rfl
theorem wd_6_33 : (Jvm.Cond.methodLink "RuleTreeModel" (191 : Nat) ({ cls := "RuleTreeModel", name := "numberOf", desc := "(I)J" } : Jvm.MethodName)) ∈ zwl := zwl_in (zm6 (List.mem_of_getElem? (i := 33) rfl)) rfl
theorem wd_6_35 : (Jvm.Cond.instanceMethod ({ cls := "RuleTreeModel", name := "numberOf", desc := "(I)J" } : Jvm.MethodName)) ∈ zwl := zwl_in (zm6 (List.mem_of_getElem? (i := 35) rfl)) rfl
theorem wd_6_36 : (Jvm.Cond.code ({ cls := "RuleTreeModel", name := "numberOf", desc := "(I)J" } : Jvm.MethodName) prog_13_method_30_code (2 : Nat) (Option.some Jvm.ClassFile.FieldType.long)) ∈ zwl := zwl_in (zm6 (List.mem_of_getElem? (i := 36) rfl)) rfl
theorem wd_6_37 : (Jvm.Cond.methodLink "RuleTreeModel" (195 : Nat) ({ cls := "RuleTreeModel", name := "inside", desc := "(IJ)J" } : Jvm.MethodName)) ∈ zwl := zwl_in (zm6 (List.mem_of_getElem? (i := 37) rfl)) rfl
theorem wd_6_39 : (Jvm.Cond.instanceMethod ({ cls := "RuleTreeModel", name := "inside", desc := "(IJ)J" } : Jvm.MethodName)) ∈ zwl := zwl_in (zm6 (List.mem_of_getElem? (i := 39) rfl)) rfl
theorem wd_6_40 : (Jvm.Cond.code ({ cls := "RuleTreeModel", name := "inside", desc := "(IJ)J" } : Jvm.MethodName) prog_13_method_56_code (4 : Nat) (Option.some Jvm.ClassFile.FieldType.long)) ∈ zwl := zwl_in (zm6 (List.mem_of_getElem? (i := 40) rfl)) rfl
theorem wd_6_41 : (Jvm.Cond.constantLong "RuleTreeModel" (288 : Nat) (200 : Int64)) ∈ zwl := zwl_in (zm6 (List.mem_of_getElem? (i := 41) rfl)) rfl
theorem wd_6_42 : (Jvm.Cond.constantLong "RuleTreeModel" (290 : Nat) (1000 : Int64)) ∈ zwl := zwl_in (zm6 (List.mem_of_getElem? (i := 42) rfl)) rfl
theorem wd_6_43 : (Jvm.Cond.methodLink "RuleTreeLaw" (59 : Nat) ({ cls := "RuleTreeModel", name := "forget", desc := "()I" } : Jvm.MethodName)) ∈ zwl := zwl_in (zm6 (List.mem_of_getElem? (i := 43) rfl)) rfl
theorem wd_6_44 : (Jvm.Cond.instanceMethod ({ cls := "RuleTreeModel", name := "forget", desc := "()I" } : Jvm.MethodName)) ∈ zwl := zwl_in (zm6 (List.mem_of_getElem? (i := 44) rfl)) rfl
theorem wd_6_45 : (Jvm.Cond.selects "RuleTreeModel" ({ cls := "RuleTreeModel", name := "forget", desc := "()I" } : Jvm.MethodName) ({ cls := "RuleTreeModel", name := "forget", desc := "()I" } : Jvm.MethodName)) ∈ zwl := zwl_in (zm6 (List.mem_of_getElem? (i := 45) rfl)) rfl
theorem wd_6_46 : (Jvm.Cond.code ({ cls := "RuleTreeModel", name := "forget", desc := "()I" } : Jvm.MethodName) prog_13_method_24_code (3 : Nat) (Option.some Jvm.ClassFile.FieldType.int)) ∈ zwl := zwl_in (zm6 (List.mem_of_getElem? (i := 46) rfl)) rfl
theorem wd_6_47 : (Jvm.Cond.methodLink "RuleTreeModel" (199 : Nat) ({ cls := "RuleTreeModel", name := "clear", desc := "()I" } : Jvm.MethodName)) ∈ zwl := zwl_in (zm6 (List.mem_of_getElem? (i := 47) rfl)) rfl
theorem wd_6_48 : (Jvm.Cond.instanceMethod ({ cls := "RuleTreeModel", name := "clear", desc := "()I" } : Jvm.MethodName)) ∈ zwl := zwl_in (zm6 (List.mem_of_getElem? (i := 48) rfl)) rfl
theorem wd_6_49 : (Jvm.Cond.selects "RuleTreeModel" ({ cls := "RuleTreeModel", name := "clear", desc := "()I" } : Jvm.MethodName) ({ cls := "RuleTreeModel", name := "clear", desc := "()I" } : Jvm.MethodName)) ∈ zwl := zwl_in (zm6 (List.mem_of_getElem? (i := 49) rfl)) rfl
theorem wd_6_50 : (Jvm.Cond.code ({ cls := "RuleTreeModel", name := "clear", desc := "()I" } : Jvm.MethodName) prog_13_method_25_code (2 : Nat) (Option.some Jvm.ClassFile.FieldType.int)) ∈ zwl := zwl_in (zm6 (List.mem_of_getElem? (i := 50) rfl)) rfl
theorem wd_6_51 : (Jvm.Cond.methodLink "RuleTreeLaw" (55 : Nat) ({ cls := "RuleTreeModel", name := "clear", desc := "()I" } : Jvm.MethodName)) ∈ zwl := zwl_in (zm6 (List.mem_of_getElem? (i := 51) rfl)) rfl
theorem wd_6_52 : (Jvm.Cond.methodLink "RuleTreeLaw" (63 : Nat) ({ cls := "RuleTreeModel", name := "grow", desc := "()I" } : Jvm.MethodName)) ∈ zwl := zwl_in (zm6 (List.mem_of_getElem? (i := 52) rfl)) rfl
theorem wd_6_53 : (Jvm.Cond.instanceMethod ({ cls := "RuleTreeModel", name := "grow", desc := "()I" } : Jvm.MethodName)) ∈ zwl := zwl_in (zm6 (List.mem_of_getElem? (i := 53) rfl)) rfl
theorem wd_6_54 : (Jvm.Cond.selects "RuleTreeModel" ({ cls := "RuleTreeModel", name := "grow", desc := "()I" } : Jvm.MethodName) ({ cls := "RuleTreeModel", name := "grow", desc := "()I" } : Jvm.MethodName)) ∈ zwl := zwl_in (zm6 (List.mem_of_getElem? (i := 54) rfl)) rfl
theorem wd_6_55 : (Jvm.Cond.code ({ cls := "RuleTreeModel", name := "grow", desc := "()I" } : Jvm.MethodName) prog_13_method_42_code (2 : Nat) (Option.some Jvm.ClassFile.FieldType.int)) ∈ zwl := zwl_in (zm6 (List.mem_of_getElem? (i := 55) rfl)) rfl
theorem wd_6_56 : (Jvm.Cond.methodLink "RuleTreeModel" (255 : Nat) ({ cls := "RuleTreeModel", name := "start", desc := "()V" } : Jvm.MethodName)) ∈ zwl := zwl_in (zm6 (List.mem_of_getElem? (i := 56) rfl)) rfl
theorem wd_6_58 : (Jvm.Cond.instanceMethod ({ cls := "RuleTreeModel", name := "start", desc := "()V" } : Jvm.MethodName)) ∈ zwl := zwl_in (zm6 (List.mem_of_getElem? (i := 58) rfl)) rfl
theorem wd_6_59 : (Jvm.Cond.code ({ cls := "RuleTreeModel", name := "start", desc := "()V" } : Jvm.MethodName) prog_13_method_38_code (2 : Nat) (Option.none : Option Jvm.ClassFile.FieldType)) ∈ zwl := zwl_in (zm6 (List.mem_of_getElem? (i := 59) rfl)) rfl
theorem wd_6_60 : (Jvm.Cond.methodLink "RuleTreeModel" (209 : Nat) ({ cls := "RuleTreeModel", name := "setPossible", desc := "(IIZ)V" } : Jvm.MethodName)) ∈ zwl := zwl_in (zm6 (List.mem_of_getElem? (i := 60) rfl)) rfl
theorem wd_6_62 : (Jvm.Cond.instanceMethod ({ cls := "RuleTreeModel", name := "setPossible", desc := "(IIZ)V" } : Jvm.MethodName)) ∈ zwl := zwl_in (zm6 (List.mem_of_getElem? (i := 62) rfl)) rfl
theorem wd_6_63 : (Jvm.Cond.code ({ cls := "RuleTreeModel", name := "setPossible", desc := "(IIZ)V" } : Jvm.MethodName) prog_13_method_27_code (8 : Nat) (Option.none : Option Jvm.ClassFile.FieldType)) ∈ zwl := zwl_in (zm6 (List.mem_of_getElem? (i := 63) rfl)) rfl
theorem wd_6_64 : (Jvm.Cond.methodLink "RuleTreeModel" (258 : Nat) ({ cls := "RuleTreeModel", name := "enter", desc := "(I)Z" } : Jvm.MethodName)) ∈ zwl := zwl_in (zm6 (List.mem_of_getElem? (i := 64) rfl)) rfl
theorem wd_6_66 : (Jvm.Cond.instanceMethod ({ cls := "RuleTreeModel", name := "enter", desc := "(I)Z" } : Jvm.MethodName)) ∈ zwl := zwl_in (zm6 (List.mem_of_getElem? (i := 66) rfl)) rfl
theorem wd_6_67 : (Jvm.Cond.code ({ cls := "RuleTreeModel", name := "enter", desc := "(I)Z" } : Jvm.MethodName) prog_13_method_40_code (4 : Nat) (Option.some Jvm.ClassFile.FieldType.boolean)) ∈ zwl := zwl_in (zm6 (List.mem_of_getElem? (i := 67) rfl)) rfl
theorem wd_6_68 : (Jvm.Cond.methodLink "RuleTreeModel" (239 : Nat) ({ cls := "RuleTreeModel", name := "firstPossible", desc := "(I)I" } : Jvm.MethodName)) ∈ zwl := zwl_in (zm6 (List.mem_of_getElem? (i := 68) rfl)) rfl
theorem wd_6_70 : (Jvm.Cond.instanceMethod ({ cls := "RuleTreeModel", name := "firstPossible", desc := "(I)I" } : Jvm.MethodName)) ∈ zwl := zwl_in (zm6 (List.mem_of_getElem? (i := 70) rfl)) rfl
theorem wd_6_71 : (Jvm.Cond.code ({ cls := "RuleTreeModel", name := "firstPossible", desc := "(I)I" } : Jvm.MethodName) prog_13_method_28_code (3 : Nat) (Option.some Jvm.ClassFile.FieldType.int)) ∈ zwl := zwl_in (zm6 (List.mem_of_getElem? (i := 71) rfl)) rfl
theorem wd_6_72 : (Jvm.Cond.methodLink "RuleTreeModel" (203 : Nat) ({ cls := "RuleTreeModel", name := "isPossible", desc := "(II)Z" } : Jvm.MethodName)) ∈ zwl := zwl_in (zm6 (List.mem_of_getElem? (i := 72) rfl)) rfl
theorem wd_6_74 : (Jvm.Cond.instanceMethod ({ cls := "RuleTreeModel", name := "isPossible", desc := "(II)Z" } : Jvm.MethodName)) ∈ zwl := zwl_in (zm6 (List.mem_of_getElem? (i := 74) rfl)) rfl
theorem wd_6_75 : (Jvm.Cond.code ({ cls := "RuleTreeModel", name := "isPossible", desc := "(II)Z" } : Jvm.MethodName) prog_13_method_26_code (3 : Nat) (Option.some Jvm.ClassFile.FieldType.boolean)) ∈ zwl := zwl_in (zm6 (List.mem_of_getElem? (i := 75) rfl)) rfl
theorem wd_6_76 : (Jvm.Cond.methodLink "RuleTreeModel" (242 : Nat) ({ cls := "RuleTreeModel", name := "nextPlace", desc := "(I)I" } : Jvm.MethodName)) ∈ zwl := zwl_in (zm6 (List.mem_of_getElem? (i := 76) rfl)) rfl
theorem wd_6_78 : (Jvm.Cond.instanceMethod ({ cls := "RuleTreeModel", name := "nextPlace", desc := "(I)I" } : Jvm.MethodName)) ∈ zwl := zwl_in (zm6 (List.mem_of_getElem? (i := 78) rfl)) rfl
theorem wd_6_79 : (Jvm.Cond.code ({ cls := "RuleTreeModel", name := "nextPlace", desc := "(I)I" } : Jvm.MethodName) prog_13_method_31_code (3 : Nat) (Option.some Jvm.ClassFile.FieldType.int)) ∈ zwl := zwl_in (zm6 (List.mem_of_getElem? (i := 79) rfl)) rfl
theorem wd_6_80 : (Jvm.Cond.methodLink "RuleTreeModel" (245 : Nat) ({ cls := "RuleTreeModel", name := "end", desc := "(II)V" } : Jvm.MethodName)) ∈ zwl := zwl_in (zm6 (List.mem_of_getElem? (i := 80) rfl)) rfl
theorem wd_6_82 : (Jvm.Cond.instanceMethod ({ cls := "RuleTreeModel", name := "end", desc := "(II)V" } : Jvm.MethodName)) ∈ zwl := zwl_in (zm6 (List.mem_of_getElem? (i := 82) rfl)) rfl
theorem wd_6_83 : (Jvm.Cond.code ({ cls := "RuleTreeModel", name := "end", desc := "(II)V" } : Jvm.MethodName) prog_13_method_39_code (4 : Nat) (Option.none : Option Jvm.ClassFile.FieldType)) ∈ zwl := zwl_in (zm6 (List.mem_of_getElem? (i := 83) rfl)) rfl
theorem wd_6_84 : (Jvm.Cond.methodLink "RuleTreeModel" (233 : Nat) ({ cls := "RuleTreeModel", name := "leastOther", desc := "(I)I" } : Jvm.MethodName)) ∈ zwl := zwl_in (zm6 (List.mem_of_getElem? (i := 84) rfl)) rfl
theorem wd_6_86 : (Jvm.Cond.instanceMethod ({ cls := "RuleTreeModel", name := "leastOther", desc := "(I)I" } : Jvm.MethodName)) ∈ zwl := zwl_in (zm6 (List.mem_of_getElem? (i := 86) rfl)) rfl
theorem wd_6_87 : (Jvm.Cond.code ({ cls := "RuleTreeModel", name := "leastOther", desc := "(I)I" } : Jvm.MethodName) prog_13_method_37_code (4 : Nat) (Option.some Jvm.ClassFile.FieldType.int)) ∈ zwl := zwl_in (zm6 (List.mem_of_getElem? (i := 87) rfl)) rfl
theorem wd_6_88 : (Jvm.Cond.methodLink "RuleTreeModel" (217 : Nat) ({ cls := "RuleTreeModel", name := "nextNumber", desc := "(IJ)J" } : Jvm.MethodName)) ∈ zwl := zwl_in (zm6 (List.mem_of_getElem? (i := 88) rfl)) rfl
theorem wd_6_90 : (Jvm.Cond.instanceMethod ({ cls := "RuleTreeModel", name := "nextNumber", desc := "(IJ)J" } : Jvm.MethodName)) ∈ zwl := zwl_in (zm6 (List.mem_of_getElem? (i := 90) rfl)) rfl
theorem wd_6_91 : (Jvm.Cond.code ({ cls := "RuleTreeModel", name := "nextNumber", desc := "(IJ)J" } : Jvm.MethodName) prog_13_method_33_code (8 : Nat) (Option.some Jvm.ClassFile.FieldType.long)) ∈ zwl := zwl_in (zm6 (List.mem_of_getElem? (i := 91) rfl)) rfl
theorem wd_6_92 : (Jvm.Cond.constantLong "RuleTreeModel" (213 : Nat) (4294967296 : Int64)) ∈ zwl := zwl_in (zm6 (List.mem_of_getElem? (i := 92) rfl)) rfl
theorem wd_6_93 : (Jvm.Cond.methodLink "RuleTreeModel" (206 : Nat) ({ cls := "RuleTreeModel", name := "asked", desc := "(II)I" } : Jvm.MethodName)) ∈ zwl := zwl_in (zm6 (List.mem_of_getElem? (i := 93) rfl)) rfl
theorem wd_6_95 : (Jvm.Cond.instanceMethod ({ cls := "RuleTreeModel", name := "asked", desc := "(II)I" } : Jvm.MethodName)) ∈ zwl := zwl_in (zm6 (List.mem_of_getElem? (i := 95) rfl)) rfl
theorem wd_6_96 : (Jvm.Cond.code ({ cls := "RuleTreeModel", name := "asked", desc := "(II)I" } : Jvm.MethodName) prog_13_method_29_code (5 : Nat) (Option.some Jvm.ClassFile.FieldType.int)) ∈ zwl := zwl_in (zm6 (List.mem_of_getElem? (i := 96) rfl)) rfl
theorem wd_6_97 : (Jvm.Cond.constantLong "RuleTreeModel" (215 : Nat) (-4294967296 : Int64)) ∈ zwl := zwl_in (zm6 (List.mem_of_getElem? (i := 97) rfl)) rfl
theorem wd_6_98 : (Jvm.Cond.methodLink "RuleTreeModel" (261 : Nat) ({ cls := "RuleTreeModel", name := "goOn", desc := "(I)Z" } : Jvm.MethodName)) ∈ zwl := zwl_in (zm6 (List.mem_of_getElem? (i := 98) rfl)) rfl
theorem wd_6_100 : (Jvm.Cond.instanceMethod ({ cls := "RuleTreeModel", name := "goOn", desc := "(I)Z" } : Jvm.MethodName)) ∈ zwl := zwl_in (zm6 (List.mem_of_getElem? (i := 100) rfl)) rfl
theorem wd_6_101 : (Jvm.Cond.code ({ cls := "RuleTreeModel", name := "goOn", desc := "(I)Z" } : Jvm.MethodName) prog_13_method_41_code (2 : Nat) (Option.some Jvm.ClassFile.FieldType.boolean)) ∈ zwl := zwl_in (zm6 (List.mem_of_getElem? (i := 101) rfl)) rfl
theorem wd_6_102 : (Jvm.Cond.methodLink "RuleTreeModel" (248 : Nat) ({ cls := "RuleTreeModel", name := "hasOthers", desc := "(I)Z" } : Jvm.MethodName)) ∈ zwl := zwl_in (zm6 (List.mem_of_getElem? (i := 102) rfl)) rfl
theorem wd_6_104 : (Jvm.Cond.instanceMethod ({ cls := "RuleTreeModel", name := "hasOthers", desc := "(I)Z" } : Jvm.MethodName)) ∈ zwl := zwl_in (zm6 (List.mem_of_getElem? (i := 104) rfl)) rfl
theorem wd_6_105 : (Jvm.Cond.code ({ cls := "RuleTreeModel", name := "hasOthers", desc := "(I)Z" } : Jvm.MethodName) prog_13_method_36_code (4 : Nat) (Option.some Jvm.ClassFile.FieldType.boolean)) ∈ zwl := zwl_in (zm6 (List.mem_of_getElem? (i := 105) rfl)) rfl
theorem wd_6_106 : (Jvm.Cond.methodLink "RuleTreeModel" (220 : Nat) ({ cls := "RuleTreeModel", name := "example", desc := "(I)I" } : Jvm.MethodName)) ∈ zwl := zwl_in (zm6 (List.mem_of_getElem? (i := 106) rfl)) rfl
theorem wd_6_108 : (Jvm.Cond.instanceMethod ({ cls := "RuleTreeModel", name := "example", desc := "(I)I" } : Jvm.MethodName)) ∈ zwl := zwl_in (zm6 (List.mem_of_getElem? (i := 108) rfl)) rfl
theorem wd_6_109 : (Jvm.Cond.code ({ cls := "RuleTreeModel", name := "example", desc := "(I)I" } : Jvm.MethodName) prog_13_method_35_code (4 : Nat) (Option.some Jvm.ClassFile.FieldType.int)) ∈ zwl := zwl_in (zm6 (List.mem_of_getElem? (i := 109) rfl)) rfl
theorem wd_6_110 : (Jvm.Cond.methodLink "RuleTreeModel" (224 : Nat) ({ cls := "RuleTreeModel", name := "branches", desc := "(I)I" } : Jvm.MethodName)) ∈ zwl := zwl_in (zm6 (List.mem_of_getElem? (i := 110) rfl)) rfl
theorem wd_6_112 : (Jvm.Cond.instanceMethod ({ cls := "RuleTreeModel", name := "branches", desc := "(I)I" } : Jvm.MethodName)) ∈ zwl := zwl_in (zm6 (List.mem_of_getElem? (i := 112) rfl)) rfl
theorem wd_6_113 : (Jvm.Cond.code ({ cls := "RuleTreeModel", name := "branches", desc := "(I)I" } : Jvm.MethodName) prog_13_method_34_code (5 : Nat) (Option.some Jvm.ClassFile.FieldType.int)) ∈ zwl := zwl_in (zm6 (List.mem_of_getElem? (i := 113) rfl)) rfl
theorem wd_6_114 : (Jvm.Cond.methodLink "RuleTreeModel" (251 : Nat) ({ cls := "RuleTreeModel", name := "narrow", desc := "(IJZ)V" } : Jvm.MethodName)) ∈ zwl := zwl_in (zm6 (List.mem_of_getElem? (i := 114) rfl)) rfl
theorem wd_6_116 : (Jvm.Cond.instanceMethod ({ cls := "RuleTreeModel", name := "narrow", desc := "(IJZ)V" } : Jvm.MethodName)) ∈ zwl := zwl_in (zm6 (List.mem_of_getElem? (i := 116) rfl)) rfl
theorem wd_6_117 : (Jvm.Cond.code ({ cls := "RuleTreeModel", name := "narrow", desc := "(IJZ)V" } : Jvm.MethodName) prog_13_method_32_code (8 : Nat) (Option.none : Option Jvm.ClassFile.FieldType)) ∈ zwl := zwl_in (zm6 (List.mem_of_getElem? (i := 117) rfl)) rfl
theorem wd_6_118 : (Jvm.Cond.methodLink "RuleTreeLaw" (67 : Nat) ({ cls := "RuleTreeModel", name := "run", desc := "(I)I" } : Jvm.MethodName)) ∈ zwl := zwl_in (zm6 (List.mem_of_getElem? (i := 118) rfl)) rfl
theorem wd_6_119 : (Jvm.Cond.instanceMethod ({ cls := "RuleTreeModel", name := "run", desc := "(I)I" } : Jvm.MethodName)) ∈ zwl := zwl_in (zm6 (List.mem_of_getElem? (i := 119) rfl)) rfl
theorem wd_6_120 : (Jvm.Cond.selects "RuleTreeModel" ({ cls := "RuleTreeModel", name := "run", desc := "(I)I" } : Jvm.MethodName) ({ cls := "RuleTreeModel", name := "run", desc := "(I)I" } : Jvm.MethodName)) ∈ zwl := zwl_in (zm6 (List.mem_of_getElem? (i := 120) rfl)) rfl
theorem wd_6_121 : (Jvm.Cond.code ({ cls := "RuleTreeModel", name := "run", desc := "(I)I" } : Jvm.MethodName) prog_13_method_47_code (2 : Nat) (Option.some Jvm.ClassFile.FieldType.int)) ∈ zwl := zwl_in (zm6 (List.mem_of_getElem? (i := 121) rfl)) rfl
theorem wd_6_122 : (Jvm.Cond.methodLink "RuleTreeModel" (276 : Nat) ({ cls := "RuleTreeModel", name := "tell", desc := "(I)I" } : Jvm.MethodName)) ∈ zwl := zwl_in (zm6 (List.mem_of_getElem? (i := 122) rfl)) rfl
theorem wd_6_124 : (Jvm.Cond.instanceMethod ({ cls := "RuleTreeModel", name := "tell", desc := "(I)I" } : Jvm.MethodName)) ∈ zwl := zwl_in (zm6 (List.mem_of_getElem? (i := 124) rfl)) rfl
theorem wd_6_125 : (Jvm.Cond.code ({ cls := "RuleTreeModel", name := "tell", desc := "(I)I" } : Jvm.MethodName) prog_13_method_46_code (6 : Nat) (Option.some Jvm.ClassFile.FieldType.int)) ∈ zwl := zwl_in (zm6 (List.mem_of_getElem? (i := 125) rfl)) rfl
theorem wd_6_126 : (Jvm.Cond.methodLink "RuleTreeModel" (270 : Nat) ({ cls := "RuleTreeModel", name := "partAt", desc := "(II)I" } : Jvm.MethodName)) ∈ zwl := zwl_in (zm6 (List.mem_of_getElem? (i := 126) rfl)) rfl
theorem wd_6_128 : (Jvm.Cond.instanceMethod ({ cls := "RuleTreeModel", name := "partAt", desc := "(II)I" } : Jvm.MethodName)) ∈ zwl := zwl_in (zm6 (List.mem_of_getElem? (i := 128) rfl)) rfl
theorem wd_6_129 : (Jvm.Cond.code ({ cls := "RuleTreeModel", name := "partAt", desc := "(II)I" } : Jvm.MethodName) prog_13_method_43_code (10 : Nat) (Option.some Jvm.ClassFile.FieldType.int)) ∈ zwl := zwl_in (zm6 (List.mem_of_getElem? (i := 129) rfl)) rfl
theorem wd_6_130 : (Jvm.Cond.methodLink "RuleTreeModel" (264 : Nat) ({ cls := "RuleTreeModel", name := "isRecordPlace", desc := "(I)Z" } : Jvm.MethodName)) ∈ zwl := zwl_in (zm6 (List.mem_of_getElem? (i := 130) rfl)) rfl
theorem wd_6_132 : (Jvm.Cond.instanceMethod ({ cls := "RuleTreeModel", name := "isRecordPlace", desc := "(I)Z" } : Jvm.MethodName)) ∈ zwl := zwl_in (zm6 (List.mem_of_getElem? (i := 132) rfl)) rfl
theorem wd_6_133 : (Jvm.Cond.code ({ cls := "RuleTreeModel", name := "isRecordPlace", desc := "(I)Z" } : Jvm.MethodName) prog_13_method_44_code (2 : Nat) (Option.some Jvm.ClassFile.FieldType.boolean)) ∈ zwl := zwl_in (zm6 (List.mem_of_getElem? (i := 133) rfl)) rfl
theorem wd_6_134 : (Jvm.Cond.methodLink "RuleTreeModel" (273 : Nat) ({ cls := "RuleTreeModel", name := "isOdd", desc := "(II)Z" } : Jvm.MethodName)) ∈ zwl := zwl_in (zm6 (List.mem_of_getElem? (i := 134) rfl)) rfl
theorem wd_6_136 : (Jvm.Cond.instanceMethod ({ cls := "RuleTreeModel", name := "isOdd", desc := "(II)Z" } : Jvm.MethodName)) ∈ zwl := zwl_in (zm6 (List.mem_of_getElem? (i := 136) rfl)) rfl
theorem wd_6_137 : (Jvm.Cond.code ({ cls := "RuleTreeModel", name := "isOdd", desc := "(II)Z" } : Jvm.MethodName) prog_13_method_45_code (6 : Nat) (Option.some Jvm.ClassFile.FieldType.boolean)) ∈ zwl := zwl_in (zm6 (List.mem_of_getElem? (i := 137) rfl)) rfl
theorem wd_6_138 : (Jvm.Cond.methodLink "RuleTreeLaw" (71 : Nat) ({ cls := "RuleTreeModel", name := "looks", desc := "(I)I" } : Jvm.MethodName)) ∈ zwl := zwl_in (zm6 (List.mem_of_getElem? (i := 138) rfl)) rfl
theorem wd_6_139 : (Jvm.Cond.instanceMethod ({ cls := "RuleTreeModel", name := "looks", desc := "(I)I" } : Jvm.MethodName)) ∈ zwl := zwl_in (zm6 (List.mem_of_getElem? (i := 139) rfl)) rfl
theorem wd_6_140 : (Jvm.Cond.selects "RuleTreeModel" ({ cls := "RuleTreeModel", name := "looks", desc := "(I)I" } : Jvm.MethodName) ({ cls := "RuleTreeModel", name := "looks", desc := "(I)I" } : Jvm.MethodName)) ∈ zwl := zwl_in (zm6 (List.mem_of_getElem? (i := 140) rfl)) rfl
theorem wd_6_141 : (Jvm.Cond.code ({ cls := "RuleTreeModel", name := "looks", desc := "(I)I" } : Jvm.MethodName) prog_13_method_48_code (2 : Nat) (Option.some Jvm.ClassFile.FieldType.int)) ∈ zwl := zwl_in (zm6 (List.mem_of_getElem? (i := 141) rfl)) rfl
theorem wd_6_142 : (Jvm.Cond.methodLink "RuleTreeLaw" (84 : Nat) ({ cls := "RuleTreeModel", name := "ends", desc := "(I)I" } : Jvm.MethodName)) ∈ zwl := zwl_in (zm6 (List.mem_of_getElem? (i := 142) rfl)) rfl
theorem wd_6_143 : (Jvm.Cond.instanceMethod ({ cls := "RuleTreeModel", name := "ends", desc := "(I)I" } : Jvm.MethodName)) ∈ zwl := zwl_in (zm6 (List.mem_of_getElem? (i := 143) rfl)) rfl
theorem wd_6_144 : (Jvm.Cond.selects "RuleTreeModel" ({ cls := "RuleTreeModel", name := "ends", desc := "(I)I" } : Jvm.MethodName) ({ cls := "RuleTreeModel", name := "ends", desc := "(I)I" } : Jvm.MethodName)) ∈ zwl := zwl_in (zm6 (List.mem_of_getElem? (i := 144) rfl)) rfl
theorem wd_6_145 : (Jvm.Cond.code ({ cls := "RuleTreeModel", name := "ends", desc := "(I)I" } : Jvm.MethodName) prog_13_method_49_code (2 : Nat) (Option.some Jvm.ClassFile.FieldType.int)) ∈ zwl := zwl_in (zm6 (List.mem_of_getElem? (i := 145) rfl)) rfl
theorem wd_6_146 : (Jvm.Cond.methodLink "RuleTreeLaw" (88 : Nat) ({ cls := "RuleTreeModel", name := "depth", desc := "()I" } : Jvm.MethodName)) ∈ zwl := zwl_in (zm6 (List.mem_of_getElem? (i := 146) rfl)) rfl
theorem wd_6_147 : (Jvm.Cond.instanceMethod ({ cls := "RuleTreeModel", name := "depth", desc := "()I" } : Jvm.MethodName)) ∈ zwl := zwl_in (zm6 (List.mem_of_getElem? (i := 147) rfl)) rfl
theorem wd_6_148 : (Jvm.Cond.selects "RuleTreeModel" ({ cls := "RuleTreeModel", name := "depth", desc := "()I" } : Jvm.MethodName) ({ cls := "RuleTreeModel", name := "depth", desc := "()I" } : Jvm.MethodName)) ∈ zwl := zwl_in (zm6 (List.mem_of_getElem? (i := 148) rfl)) rfl
theorem wd_6_149 : (Jvm.Cond.code ({ cls := "RuleTreeModel", name := "depth", desc := "()I" } : Jvm.MethodName) prog_13_method_50_code (1 : Nat) (Option.some Jvm.ClassFile.FieldType.int)) ∈ zwl := zwl_in (zm6 (List.mem_of_getElem? (i := 149) rfl)) rfl
theorem wd_6_150 : (Jvm.Cond.methodLink "RuleTreeLaw" (93 : Nat) ({ cls := "RuleTreeModel", name := "missing", desc := "(JI)I" } : Jvm.MethodName)) ∈ zwl := zwl_in (zm6 (List.mem_of_getElem? (i := 150) rfl)) rfl
theorem wd_6_151 : (Jvm.Cond.instanceMethod ({ cls := "RuleTreeModel", name := "missing", desc := "(JI)I" } : Jvm.MethodName)) ∈ zwl := zwl_in (zm6 (List.mem_of_getElem? (i := 151) rfl)) rfl
theorem wd_6_152 : (Jvm.Cond.selects "RuleTreeModel" ({ cls := "RuleTreeModel", name := "missing", desc := "(JI)I" } : Jvm.MethodName) ({ cls := "RuleTreeModel", name := "missing", desc := "(JI)I" } : Jvm.MethodName)) ∈ zwl := zwl_in (zm6 (List.mem_of_getElem? (i := 152) rfl)) rfl
theorem wd_6_153 : (Jvm.Cond.code ({ cls := "RuleTreeModel", name := "missing", desc := "(JI)I" } : Jvm.MethodName) prog_13_method_58_code (11 : Nat) (Option.some Jvm.ClassFile.FieldType.int)) ∈ zwl := zwl_in (zm6 (List.mem_of_getElem? (i := 153) rfl)) rfl
theorem wd_6_154 : (Jvm.Cond.constantLong "RuleTreeModel" (292 : Nat) (255 : Int64)) ∈ zwl := zwl_in (zm6 (List.mem_of_getElem? (i := 154) rfl)) rfl
theorem wd_6_155 : (Jvm.Cond.methodLink "RuleTreeModel" (279 : Nat) ({ cls := "RuleTreeModel", name := "missedAt", desc := "(I)I" } : Jvm.MethodName)) ∈ zwl := zwl_in (zm6 (List.mem_of_getElem? (i := 155) rfl)) rfl
theorem wd_6_157 : (Jvm.Cond.instanceMethod ({ cls := "RuleTreeModel", name := "missedAt", desc := "(I)I" } : Jvm.MethodName)) ∈ zwl := zwl_in (zm6 (List.mem_of_getElem? (i := 157) rfl)) rfl
theorem wd_6_158 : (Jvm.Cond.code ({ cls := "RuleTreeModel", name := "missedAt", desc := "(I)I" } : Jvm.MethodName) prog_13_method_51_code (4 : Nat) (Option.some Jvm.ClassFile.FieldType.int)) ∈ zwl := zwl_in (zm6 (List.mem_of_getElem? (i := 158) rfl)) rfl
theorem wd_6_159 : (Jvm.Cond.methodLink "RuleTreeModel" (294 : Nat) ({ cls := "RuleTreeModel", name := "hasArgument", desc := "(II)Z" } : Jvm.MethodName)) ∈ zwl := zwl_in (zm6 (List.mem_of_getElem? (i := 159) rfl)) rfl
theorem wd_6_161 : (Jvm.Cond.instanceMethod ({ cls := "RuleTreeModel", name := "hasArgument", desc := "(II)Z" } : Jvm.MethodName)) ∈ zwl := zwl_in (zm6 (List.mem_of_getElem? (i := 161) rfl)) rfl
theorem wd_6_162 : (Jvm.Cond.code ({ cls := "RuleTreeModel", name := "hasArgument", desc := "(II)Z" } : Jvm.MethodName) prog_13_method_55_code (5 : Nat) (Option.some Jvm.ClassFile.FieldType.boolean)) ∈ zwl := zwl_in (zm6 (List.mem_of_getElem? (i := 162) rfl)) rfl
theorem wd_6_163 : (Jvm.Cond.methodLink "RuleTreeModel" (282 : Nat) ({ cls := "RuleTreeModel", name := "anyAt", desc := "(I)I" } : Jvm.MethodName)) ∈ zwl := zwl_in (zm6 (List.mem_of_getElem? (i := 163) rfl)) rfl
theorem wd_6_165 : (Jvm.Cond.instanceMethod ({ cls := "RuleTreeModel", name := "anyAt", desc := "(I)I" } : Jvm.MethodName)) ∈ zwl := zwl_in (zm6 (List.mem_of_getElem? (i := 165) rfl)) rfl
theorem wd_6_166 : (Jvm.Cond.code ({ cls := "RuleTreeModel", name := "anyAt", desc := "(I)I" } : Jvm.MethodName) prog_13_method_54_code (4 : Nat) (Option.some Jvm.ClassFile.FieldType.int)) ∈ zwl := zwl_in (zm6 (List.mem_of_getElem? (i := 166) rfl)) rfl
theorem wd_6_167 : (Jvm.Cond.methodLink "RuleTreeModel" (285 : Nat) ({ cls := "RuleTreeModel", name := "someAt", desc := "(II)I" } : Jvm.MethodName)) ∈ zwl := zwl_in (zm6 (List.mem_of_getElem? (i := 167) rfl)) rfl
theorem wd_6_169 : (Jvm.Cond.instanceMethod ({ cls := "RuleTreeModel", name := "someAt", desc := "(II)I" } : Jvm.MethodName)) ∈ zwl := zwl_in (zm6 (List.mem_of_getElem? (i := 169) rfl)) rfl
theorem wd_6_170 : (Jvm.Cond.code ({ cls := "RuleTreeModel", name := "someAt", desc := "(II)I" } : Jvm.MethodName) prog_13_method_53_code (5 : Nat) (Option.some Jvm.ClassFile.FieldType.int)) ∈ zwl := zwl_in (zm6 (List.mem_of_getElem? (i := 170) rfl)) rfl
theorem wd_6_171 : (Jvm.Cond.methodLink "RuleTreeModel" (297 : Nat) ({ cls := "RuleTreeModel", name := "isToldRecord", desc := "(I)Z" } : Jvm.MethodName)) ∈ zwl := zwl_in (zm6 (List.mem_of_getElem? (i := 171) rfl)) rfl
theorem wd_6_173 : (Jvm.Cond.instanceMethod ({ cls := "RuleTreeModel", name := "isToldRecord", desc := "(I)Z" } : Jvm.MethodName)) ∈ zwl := zwl_in (zm6 (List.mem_of_getElem? (i := 173) rfl)) rfl
theorem wd_6_174 : (Jvm.Cond.code ({ cls := "RuleTreeModel", name := "isToldRecord", desc := "(I)Z" } : Jvm.MethodName) prog_13_method_52_code (5 : Nat) (Option.some Jvm.ClassFile.FieldType.boolean)) ∈ zwl := zwl_in (zm6 (List.mem_of_getElem? (i := 174) rfl)) rfl
theorem wd_6_175 : (Jvm.Cond.methodLink "RuleTreeLaw" (97 : Nat) ({ cls := "RuleTreeModel", name := "count", desc := "(I)I" } : Jvm.MethodName)) ∈ zwl := zwl_in (zm6 (List.mem_of_getElem? (i := 175) rfl)) rfl
theorem wd_6_176 : (Jvm.Cond.instanceMethod ({ cls := "RuleTreeModel", name := "count", desc := "(I)I" } : Jvm.MethodName)) ∈ zwl := zwl_in (zm6 (List.mem_of_getElem? (i := 176) rfl)) rfl
theorem wd_6_177 : (Jvm.Cond.selects "RuleTreeModel" ({ cls := "RuleTreeModel", name := "count", desc := "(I)I" } : Jvm.MethodName) ({ cls := "RuleTreeModel", name := "count", desc := "(I)I" } : Jvm.MethodName)) ∈ zwl := zwl_in (zm6 (List.mem_of_getElem? (i := 177) rfl)) rfl
theorem wd_6_178 : (Jvm.Cond.code ({ cls := "RuleTreeModel", name := "count", desc := "(I)I" } : Jvm.MethodName) prog_13_method_59_code (2 : Nat) (Option.some Jvm.ClassFile.FieldType.int)) ∈ zwl := zwl_in (zm6 (List.mem_of_getElem? (i := 178) rfl)) rfl
theorem wd_6_179 : (Jvm.Cond.constantLong "RuleTreeLaw" (13 : Nat) (4294967295 : Int64)) ∈ zwl := zwl_in (zm6 (List.mem_of_getElem? (i := 179) rfl)) rfl
theorem ws_1_0 : Cond.selects "RuleTree$Parts" ({ cls := "RuleTree$Parts", name := "addPart", desc := "(II)I" } : Jvm.MethodName) ({ cls := "RuleTree$Parts", name := "addPart", desc := "(II)I" } : Jvm.MethodName) ∈ zwl := zn1 (q := (({ cls := "RuleTree$Parts", name := "addPart", desc := "(II)I" } : Jvm.MethodName), 15)) (List.mem_of_getElem? (i := 0) rfl)
theorem ws_1_1 : Cond.selects "RuleTree$Patterns" ({ cls := "RuleTree$Patterns", name := "hasRoom", desc := "(I)Z" } : Jvm.MethodName) ({ cls := "RuleTree$Patterns", name := "hasRoom", desc := "(I)Z" } : Jvm.MethodName) ∈ zwl := zn1 (q := (({ cls := "RuleTree$Patterns", name := "hasRoom", desc := "(I)Z" } : Jvm.MethodName), 9)) (List.mem_of_getElem? (i := 1) rfl)
theorem ws_1_2 : Cond.selects "RuleTree$Patterns" ({ cls := "RuleTree$Patterns", name := "recordWeight", desc := "(ILRuleTree$Pushed;)I" } : Jvm.MethodName) ({ cls := "RuleTree$Patterns", name := "recordWeight", desc := "(ILRuleTree$Pushed;)I" } : Jvm.MethodName) ∈ zwl := zn1 (q := (({ cls := "RuleTree$Patterns", name := "recordWeight", desc := "(ILRuleTree$Pushed;)I" } : Jvm.MethodName), 9)) (List.mem_of_getElem? (i := 2) rfl)
theorem ws_1_3 : Cond.selects "RuleTree$Patterns" ({ cls := "RuleTree$Patterns", name := "isFull", desc := "(ILRuleTree$Pushed;)Z" } : Jvm.MethodName) ({ cls := "RuleTree$Patterns", name := "isFull", desc := "(ILRuleTree$Pushed;)Z" } : Jvm.MethodName) ∈ zwl := zn1 (q := (({ cls := "RuleTree$Patterns", name := "isFull", desc := "(ILRuleTree$Pushed;)Z" } : Jvm.MethodName), 9)) (List.mem_of_getElem? (i := 3) rfl)
theorem ws_1_4 : Cond.selects "RuleTree$Patterns" ({ cls := "RuleTree$Patterns", name := "addFields", desc := "(ILRuleTree$Pushed;)V" } : Jvm.MethodName) ({ cls := "RuleTree$Patterns", name := "addFields", desc := "(ILRuleTree$Pushed;)V" } : Jvm.MethodName) ∈ zwl := zn1 (q := (({ cls := "RuleTree$Patterns", name := "addFields", desc := "(ILRuleTree$Pushed;)V" } : Jvm.MethodName), 9)) (List.mem_of_getElem? (i := 4) rfl)
theorem ws_1_5 : Cond.selects "RuleTree" ({ cls := "RuleTree", name := "goesWithRules", desc := "(I)Z" } : Jvm.MethodName) ({ cls := "RuleTree", name := "goesWithRules", desc := "(I)Z" } : Jvm.MethodName) ∈ zwl := zn1 (q := (({ cls := "RuleTree", name := "goesWithRules", desc := "(I)Z" } : Jvm.MethodName), 12)) (List.mem_of_getElem? (i := 5) rfl)
theorem ws_1_6 : Cond.selects "RuleTree$Pairs" ({ cls := "RuleTree$Pairs", name := "hold", desc := "(IIZ)Z" } : Jvm.MethodName) ({ cls := "RuleTree$Pairs", name := "hold", desc := "(IIZ)Z" } : Jvm.MethodName) ∈ zwl := zn1 (q := (({ cls := "RuleTree$Pairs", name := "hold", desc := "(IIZ)Z" } : Jvm.MethodName), 2)) (List.mem_of_getElem? (i := 6) rfl)
theorem ws_1_7 : Cond.selects "RuleTree$Pairs" ({ cls := "RuleTree$Pairs", name := "putPair", desc := "(II)V" } : Jvm.MethodName) ({ cls := "RuleTree$Pairs", name := "putPair", desc := "(II)V" } : Jvm.MethodName) ∈ zwl := zn1 (q := (({ cls := "RuleTree$Pairs", name := "putPair", desc := "(II)V" } : Jvm.MethodName), 2)) (List.mem_of_getElem? (i := 7) rfl)
theorem ws_1_8 : Cond.selects "RuleTree$Pairs" ({ cls := "RuleTree$Pairs", name := "matchesHere", desc := "(II)Z" } : Jvm.MethodName) ({ cls := "RuleTree$Pairs", name := "matchesHere", desc := "(II)Z" } : Jvm.MethodName) ∈ zwl := zn1 (q := (({ cls := "RuleTree$Pairs", name := "matchesHere", desc := "(II)Z" } : Jvm.MethodName), 2)) (List.mem_of_getElem? (i := 8) rfl)
theorem ws_1_9 : Cond.selects "RuleTree$Pairs" ({ cls := "RuleTree$Pairs", name := "sameSort", desc := "(II)Z" } : Jvm.MethodName) ({ cls := "RuleTree$Pairs", name := "sameSort", desc := "(II)Z" } : Jvm.MethodName) ∈ zwl := zn1 (q := (({ cls := "RuleTree$Pairs", name := "sameSort", desc := "(II)Z" } : Jvm.MethodName), 2)) (List.mem_of_getElem? (i := 9) rfl)
theorem ws_1_10 : Cond.selects "RuleTree$Pairs" ({ cls := "RuleTree$Pairs", name := "putInner", desc := "(II)Z" } : Jvm.MethodName) ({ cls := "RuleTree$Pairs", name := "putInner", desc := "(II)Z" } : Jvm.MethodName) ∈ zwl := zn1 (q := (({ cls := "RuleTree$Pairs", name := "putInner", desc := "(II)Z" } : Jvm.MethodName), 2)) (List.mem_of_getElem? (i := 10) rfl)
theorem ws_1_11 : Cond.selects "RuleTree$Pairs" ({ cls := "RuleTree$Pairs", name := "putFields", desc := "(II)V" } : Jvm.MethodName) ({ cls := "RuleTree$Pairs", name := "putFields", desc := "(II)V" } : Jvm.MethodName) ∈ zwl := zn1 (q := (({ cls := "RuleTree$Pairs", name := "putFields", desc := "(II)V" } : Jvm.MethodName), 2)) (List.mem_of_getElem? (i := 11) rfl)
theorem ws_1_12 : Cond.selects "RuleTree$Pairs" ({ cls := "RuleTree$Pairs", name := "goesHere", desc := "(II)Z" } : Jvm.MethodName) ({ cls := "RuleTree$Pairs", name := "goesHere", desc := "(II)Z" } : Jvm.MethodName) ∈ zwl := zn1 (q := (({ cls := "RuleTree$Pairs", name := "goesHere", desc := "(II)Z" } : Jvm.MethodName), 2)) (List.mem_of_getElem? (i := 12) rfl)
theorem ws_1_13 : Cond.selects "RuleTree$Parts" ({ cls := "RuleTree$Parts", name := "putOpen", desc := "(II)V" } : Jvm.MethodName) ({ cls := "RuleTree$Parts", name := "putOpen", desc := "(II)V" } : Jvm.MethodName) ∈ zwl := zn1 (q := (({ cls := "RuleTree$Parts", name := "putOpen", desc := "(II)V" } : Jvm.MethodName), 15)) (List.mem_of_getElem? (i := 13) rfl)
theorem ws_1_14 : Cond.selects "RuleTree$Parts" ({ cls := "RuleTree$Parts", name := "layRecord", desc := "(II)V" } : Jvm.MethodName) ({ cls := "RuleTree$Parts", name := "layRecord", desc := "(II)V" } : Jvm.MethodName) ∈ zwl := zn1 (q := (({ cls := "RuleTree$Parts", name := "layRecord", desc := "(II)V" } : Jvm.MethodName), 15)) (List.mem_of_getElem? (i := 14) rfl)
theorem ws_1_15 : Cond.selects "RuleTree$Parts" ({ cls := "RuleTree$Parts", name := "setSort", desc := "(II)V" } : Jvm.MethodName) ({ cls := "RuleTree$Parts", name := "setSort", desc := "(II)V" } : Jvm.MethodName) ∈ zwl := zn1 (q := (({ cls := "RuleTree$Parts", name := "setSort", desc := "(II)V" } : Jvm.MethodName), 15)) (List.mem_of_getElem? (i := 15) rfl)
theorem ws_2_0 : Cond.selects "RuleTree$Parts" ({ cls := "RuleTree$Parts", name := "edgeFor", desc := "(II)I" } : Jvm.MethodName) ({ cls := "RuleTree$Parts", name := "edgeFor", desc := "(II)I" } : Jvm.MethodName) ∈ zwl := zn2 (q := (({ cls := "RuleTree$Parts", name := "edgeFor", desc := "(II)I" } : Jvm.MethodName), 15)) (List.mem_of_getElem? (i := 0) rfl)
theorem ws_2_1 : Cond.selects "RuleTree$Parts" ({ cls := "RuleTree$Parts", name := "lastBelow", desc := "(II)I" } : Jvm.MethodName) ({ cls := "RuleTree$Parts", name := "lastBelow", desc := "(II)I" } : Jvm.MethodName) ∈ zwl := zn2 (q := (({ cls := "RuleTree$Parts", name := "lastBelow", desc := "(II)I" } : Jvm.MethodName), 15)) (List.mem_of_getElem? (i := 1) rfl)
theorem ws_2_2 : Cond.selects "RuleTree$Parts" ({ cls := "RuleTree$Parts", name := "edgeAfter", desc := "(II)I" } : Jvm.MethodName) ({ cls := "RuleTree$Parts", name := "edgeAfter", desc := "(II)I" } : Jvm.MethodName) ∈ zwl := zn2 (q := (({ cls := "RuleTree$Parts", name := "edgeAfter", desc := "(II)I" } : Jvm.MethodName), 15)) (List.mem_of_getElem? (i := 2) rfl)
theorem ws_2_3 : Cond.selects "RuleTree$Parts" ({ cls := "RuleTree$Parts", name := "addEdge", desc := "(III)I" } : Jvm.MethodName) ({ cls := "RuleTree$Parts", name := "addEdge", desc := "(III)I" } : Jvm.MethodName) ∈ zwl := zn2 (q := (({ cls := "RuleTree$Parts", name := "addEdge", desc := "(III)I" } : Jvm.MethodName), 15)) (List.mem_of_getElem? (i := 3) rfl)
theorem ws_2_4 : Cond.selects "RuleTree$Parts" ({ cls := "RuleTree$Parts", name := "childFor", desc := "(II)I" } : Jvm.MethodName) ({ cls := "RuleTree$Parts", name := "childFor", desc := "(II)I" } : Jvm.MethodName) ∈ zwl := zn2 (q := (({ cls := "RuleTree$Parts", name := "childFor", desc := "(II)I" } : Jvm.MethodName), 15)) (List.mem_of_getElem? (i := 4) rfl)
theorem ws_2_5 : Cond.selects "RuleTree$Parts" ({ cls := "RuleTree$Parts", name := "layAsk", desc := "(III)V" } : Jvm.MethodName) ({ cls := "RuleTree$Parts", name := "layAsk", desc := "(III)V" } : Jvm.MethodName) ∈ zwl := zn2 (q := (({ cls := "RuleTree$Parts", name := "layAsk", desc := "(III)V" } : Jvm.MethodName), 15)) (List.mem_of_getElem? (i := 5) rfl)
theorem ws_2_6 : Cond.selects "RuleTree" ({ cls := "RuleTree", name := "dropRules", desc := "()V" } : Jvm.MethodName) ({ cls := "RuleTree", name := "dropRules", desc := "()V" } : Jvm.MethodName) ∈ zwl := zn2 (q := (({ cls := "RuleTree", name := "dropRules", desc := "()V" } : Jvm.MethodName), 12)) (List.mem_of_getElem? (i := 6) rfl)
theorem ws_2_7 : Cond.selects "RuleTree$Grower" ({ cls := "RuleTree$Grower", name := "enter", desc := "(II)I" } : Jvm.MethodName) ({ cls := "RuleTree$Grower", name := "enter", desc := "(II)I" } : Jvm.MethodName) ∈ zwl := zn2 (q := (({ cls := "RuleTree$Grower", name := "enter", desc := "(II)I" } : Jvm.MethodName), 5)) (List.mem_of_getElem? (i := 7) rfl)
theorem ws_2_8 : Cond.selects "RuleTree$Nodes" ({ cls := "RuleTree$Nodes", name := "hang", desc := "(II)V" } : Jvm.MethodName) ({ cls := "RuleTree$Nodes", name := "hang", desc := "(II)V" } : Jvm.MethodName) ∈ zwl := zn2 (q := (({ cls := "RuleTree$Nodes", name := "hang", desc := "(II)V" } : Jvm.MethodName), 10)) (List.mem_of_getElem? (i := 8) rfl)
theorem ws_2_9 : Cond.selects "RuleTree$Grower" ({ cls := "RuleTree$Grower", name := "firstPossible", desc := "(I)I" } : Jvm.MethodName) ({ cls := "RuleTree$Grower", name := "firstPossible", desc := "(I)I" } : Jvm.MethodName) ∈ zwl := zn2 (q := (({ cls := "RuleTree$Grower", name := "firstPossible", desc := "(I)I" } : Jvm.MethodName), 5)) (List.mem_of_getElem? (i := 9) rfl)
theorem ws_2_10 : Cond.selects "RuleTree$Grower" ({ cls := "RuleTree$Grower", name := "firstNotLooked", desc := "(II)I" } : Jvm.MethodName) ({ cls := "RuleTree$Grower", name := "firstNotLooked", desc := "(II)I" } : Jvm.MethodName) ∈ zwl := zn2 (q := (({ cls := "RuleTree$Grower", name := "firstNotLooked", desc := "(II)I" } : Jvm.MethodName), 5)) (List.mem_of_getElem? (i := 10) rfl)
theorem ws_2_11 : Cond.selects "RuleTree$Grower" ({ cls := "RuleTree$Grower", name := "goOn", desc := "(I)I" } : Jvm.MethodName) ({ cls := "RuleTree$Grower", name := "goOn", desc := "(I)I" } : Jvm.MethodName) ∈ zwl := zn2 (q := (({ cls := "RuleTree$Grower", name := "goOn", desc := "(I)I" } : Jvm.MethodName), 5)) (List.mem_of_getElem? (i := 11) rfl)
theorem ws_2_12 : Cond.selects "RuleTree$Grower" ({ cls := "RuleTree$Grower", name := "leave", desc := "(I)I" } : Jvm.MethodName) ({ cls := "RuleTree$Grower", name := "leave", desc := "(I)I" } : Jvm.MethodName) ∈ zwl := zn2 (q := (({ cls := "RuleTree$Grower", name := "leave", desc := "(I)I" } : Jvm.MethodName), 5)) (List.mem_of_getElem? (i := 12) rfl)
theorem ws_2_13 : Cond.selects "RuleTree$Grower" ({ cls := "RuleTree$Grower", name := "letIn", desc := "(I)V" } : Jvm.MethodName) ({ cls := "RuleTree$Grower", name := "letIn", desc := "(I)V" } : Jvm.MethodName) ∈ zwl := zn2 (q := (({ cls := "RuleTree$Grower", name := "letIn", desc := "(I)V" } : Jvm.MethodName), 5)) (List.mem_of_getElem? (i := 13) rfl)
theorem ws_2_14 : Cond.selects "RuleTree$Grower" ({ cls := "RuleTree$Grower", name := "changeOuts", desc := "(III)V" } : Jvm.MethodName) ({ cls := "RuleTree$Grower", name := "changeOuts", desc := "(III)V" } : Jvm.MethodName) ∈ zwl := zn2 (q := (({ cls := "RuleTree$Grower", name := "changeOuts", desc := "(III)V" } : Jvm.MethodName), 5)) (List.mem_of_getElem? (i := 14) rfl)
theorem ws_2_15 : Cond.selects "RuleTree$Grower" ({ cls := "RuleTree$Grower", name := "nextEdge", desc := "(I)I" } : Jvm.MethodName) ({ cls := "RuleTree$Grower", name := "nextEdge", desc := "(I)I" } : Jvm.MethodName) ∈ zwl := zn2 (q := (({ cls := "RuleTree$Grower", name := "nextEdge", desc := "(I)I" } : Jvm.MethodName), 5)) (List.mem_of_getElem? (i := 15) rfl)
theorem ws_3_0 : Cond.selects "RuleTree$Grower" ({ cls := "RuleTree$Grower", name := "isAsked", desc := "(I)Z" } : Jvm.MethodName) ({ cls := "RuleTree$Grower", name := "isAsked", desc := "(I)Z" } : Jvm.MethodName) ∈ zwl := zn3 (q := (({ cls := "RuleTree$Grower", name := "isAsked", desc := "(I)Z" } : Jvm.MethodName), 5)) (List.mem_of_getElem? (i := 0) rfl)
theorem ws_3_1 : Cond.selects "RuleTree$Grower" ({ cls := "RuleTree$Grower", name := "othersLeft", desc := "(I)Z" } : Jvm.MethodName) ({ cls := "RuleTree$Grower", name := "othersLeft", desc := "(I)Z" } : Jvm.MethodName) ∈ zwl := zn3 (q := (({ cls := "RuleTree$Grower", name := "othersLeft", desc := "(I)Z" } : Jvm.MethodName), 5)) (List.mem_of_getElem? (i := 1) rfl)
theorem ws_3_2 : Cond.selects "RuleTree$Grower" ({ cls := "RuleTree$Grower", name := "ruleOut", desc := "(II)V" } : Jvm.MethodName) ({ cls := "RuleTree$Grower", name := "ruleOut", desc := "(II)V" } : Jvm.MethodName) ∈ zwl := zn3 (q := (({ cls := "RuleTree$Grower", name := "ruleOut", desc := "(II)V" } : Jvm.MethodName), 5)) (List.mem_of_getElem? (i := 2) rfl)
theorem ws_3_3 : Cond.selects "RuleTree" ({ cls := "RuleTree", name := "hasTree", desc := "()Z" } : Jvm.MethodName) ({ cls := "RuleTree", name := "hasTree", desc := "()Z" } : Jvm.MethodName) ∈ zwl := zn3 (q := (({ cls := "RuleTree", name := "hasTree", desc := "()Z" } : Jvm.MethodName), 12)) (List.mem_of_getElem? (i := 3) rfl)
theorem ws_3_4 : Cond.selects "RuleTree$Nodes" ({ cls := "RuleTree$Nodes", name := "isEndWith", desc := "(II)Z" } : Jvm.MethodName) ({ cls := "RuleTree$Nodes", name := "isEndWith", desc := "(II)Z" } : Jvm.MethodName) ∈ zwl := zn3 (q := (({ cls := "RuleTree$Nodes", name := "isEndWith", desc := "(II)Z" } : Jvm.MethodName), 10)) (List.mem_of_getElem? (i := 4) rfl)
theorem ws_3_5 : Cond.selects "RuleTree$Gap" ({ cls := "RuleTree$Gap", name := "tellBranch", desc := "(II)V" } : Jvm.MethodName) ({ cls := "RuleTree$Gap", name := "tellBranch", desc := "(II)V" } : Jvm.MethodName) ∈ zwl := zn3 (q := (({ cls := "RuleTree$Gap", name := "tellBranch", desc := "(II)V" } : Jvm.MethodName), 6)) (List.mem_of_getElem? (i := 5) rfl)
theorem ws_3_6 : Cond.selects "RuleTree$Gap" ({ cls := "RuleTree$Gap", name := "leastOther", desc := "(I)I" } : Jvm.MethodName) ({ cls := "RuleTree$Gap", name := "leastOther", desc := "(I)I" } : Jvm.MethodName) ∈ zwl := zn3 (q := (({ cls := "RuleTree$Gap", name := "leastOther", desc := "(I)I" } : Jvm.MethodName), 6)) (List.mem_of_getElem? (i := 6) rfl)
theorem ws_3_7 : Cond.selects "RuleTree$Walker" ({ cls := "RuleTree$Walker", name := "branch", desc := "(I)I" } : Jvm.MethodName) ({ cls := "RuleTree$Walker", name := "branch", desc := "(I)I" } : Jvm.MethodName) ∈ zwl := zn3 (q := (({ cls := "RuleTree$Walker", name := "branch", desc := "(I)I" } : Jvm.MethodName), 6)) (List.mem_of_getElem? (i := 7) rfl)
theorem ws_3_8 : Cond.selects "RuleTree$Walker" ({ cls := "RuleTree$Walker", name := "valueAt", desc := "(I)I" } : Jvm.MethodName) ({ cls := "RuleTree$Walker", name := "valueAt", desc := "(I)I" } : Jvm.MethodName) ∈ zwl := zn3 (q := (({ cls := "RuleTree$Walker", name := "valueAt", desc := "(I)I" } : Jvm.MethodName), 6)) (List.mem_of_getElem? (i := 8) rfl)
theorem ws_3_9 : Cond.selects "RuleTree$Walker" ({ cls := "RuleTree$Walker", name := "inner", desc := "(III)I" } : Jvm.MethodName) ({ cls := "RuleTree$Walker", name := "inner", desc := "(III)I" } : Jvm.MethodName) ∈ zwl := zn3 (q := (({ cls := "RuleTree$Walker", name := "inner", desc := "(III)I" } : Jvm.MethodName), 6)) (List.mem_of_getElem? (i := 9) rfl)
theorem ws_3_10 : Cond.selects "RuleTree$Walker" ({ cls := "RuleTree$Walker", name := "branchFor", desc := "(II)I" } : Jvm.MethodName) ({ cls := "RuleTree$Walker", name := "branchFor", desc := "(II)I" } : Jvm.MethodName) ∈ zwl := zn3 (q := (({ cls := "RuleTree$Walker", name := "branchFor", desc := "(II)I" } : Jvm.MethodName), 6)) (List.mem_of_getElem? (i := 10) rfl)
theorem ws_3_11 : Cond.selects "RuleTree$Walker" ({ cls := "RuleTree$Walker", name := "sameArguments", desc := "(II)Z" } : Jvm.MethodName) ({ cls := "RuleTree$Walker", name := "sameArguments", desc := "(II)Z" } : Jvm.MethodName) ∈ zwl := zn3 (q := (({ cls := "RuleTree$Walker", name := "sameArguments", desc := "(II)Z" } : Jvm.MethodName), 6)) (List.mem_of_getElem? (i := 11) rfl)
theorem ws_3_12 : Cond.selects "RuleTree$Gap" ({ cls := "RuleTree$Gap", name := "below", desc := "(II)I" } : Jvm.MethodName) ({ cls := "RuleTree$Gap", name := "below", desc := "(II)I" } : Jvm.MethodName) ∈ zwl := zn3 (q := (({ cls := "RuleTree$Gap", name := "below", desc := "(II)I" } : Jvm.MethodName), 6)) (List.mem_of_getElem? (i := 12) rfl)
theorem ws_3_13 : Cond.selects "RuleTree$Gap" ({ cls := "RuleTree$Gap", name := "childOrBare", desc := "(II)I" } : Jvm.MethodName) ({ cls := "RuleTree$Gap", name := "childOrBare", desc := "(II)I" } : Jvm.MethodName) ∈ zwl := zn3 (q := (({ cls := "RuleTree$Gap", name := "childOrBare", desc := "(II)I" } : Jvm.MethodName), 6)) (List.mem_of_getElem? (i := 13) rfl)
theorem ws_3_14 : Cond.selects "RuleTree$Gap" ({ cls := "RuleTree$Gap", name := "tellPart", desc := "(II)I" } : Jvm.MethodName) ({ cls := "RuleTree$Gap", name := "tellPart", desc := "(II)I" } : Jvm.MethodName) ∈ zwl := zn3 (q := (({ cls := "RuleTree$Gap", name := "tellPart", desc := "(II)I" } : Jvm.MethodName), 6)) (List.mem_of_getElem? (i := 14) rfl)
theorem ws_3_15 : Cond.selects "RuleTreeModel" ({ cls := "RuleTreeModel", name := "make", desc := "(IIIIIZ)I" } : Jvm.MethodName) ({ cls := "RuleTreeModel", name := "make", desc := "(IIIIIZ)I" } : Jvm.MethodName) ∈ zwl := zn3 (q := (({ cls := "RuleTreeModel", name := "make", desc := "(IIIIIZ)I" } : Jvm.MethodName), 46)) (List.mem_of_getElem? (i := 15) rfl)
theorem ws_4_0 : Cond.selects "RuleTreeModel" ({ cls := "RuleTreeModel", name := "isPattern", desc := "(I)Z" } : Jvm.MethodName) ({ cls := "RuleTreeModel", name := "isPattern", desc := "(I)Z" } : Jvm.MethodName) ∈ zwl := zn4 (q := (({ cls := "RuleTreeModel", name := "isPattern", desc := "(I)Z" } : Jvm.MethodName), 46)) (List.mem_of_getElem? (i := 0) rfl)
theorem ws_4_1 : Cond.selects "RuleTreeModel" ({ cls := "RuleTreeModel", name := "isValue", desc := "(I)Z" } : Jvm.MethodName) ({ cls := "RuleTreeModel", name := "isValue", desc := "(I)Z" } : Jvm.MethodName) ∈ zwl := zn4 (q := (({ cls := "RuleTreeModel", name := "isValue", desc := "(I)Z" } : Jvm.MethodName), 46)) (List.mem_of_getElem? (i := 1) rfl)
theorem ws_4_2 : Cond.selects "RuleTreeModel" ({ cls := "RuleTreeModel", name := "matches", desc := "(II)Z" } : Jvm.MethodName) ({ cls := "RuleTreeModel", name := "matches", desc := "(II)Z" } : Jvm.MethodName) ∈ zwl := zn4 (q := (({ cls := "RuleTreeModel", name := "matches", desc := "(II)Z" } : Jvm.MethodName), 46)) (List.mem_of_getElem? (i := 2) rfl)
theorem ws_4_3 : Cond.selects "RuleTreeModel" ({ cls := "RuleTreeModel", name := "pair", desc := "(II)V" } : Jvm.MethodName) ({ cls := "RuleTreeModel", name := "pair", desc := "(II)V" } : Jvm.MethodName) ∈ zwl := zn4 (q := (({ cls := "RuleTreeModel", name := "pair", desc := "(II)V" } : Jvm.MethodName), 46)) (List.mem_of_getElem? (i := 3) rfl)
theorem ws_4_4 : Cond.selects "RuleTreeModel" ({ cls := "RuleTreeModel", name := "areOneSort", desc := "(II)Z" } : Jvm.MethodName) ({ cls := "RuleTreeModel", name := "areOneSort", desc := "(II)Z" } : Jvm.MethodName) ∈ zwl := zn4 (q := (({ cls := "RuleTreeModel", name := "areOneSort", desc := "(II)Z" } : Jvm.MethodName), 46)) (List.mem_of_getElem? (i := 4) rfl)
theorem ws_4_5 : Cond.selects "RuleTreeModel" ({ cls := "RuleTreeModel", name := "pairFields", desc := "(II)V" } : Jvm.MethodName) ({ cls := "RuleTreeModel", name := "pairFields", desc := "(II)V" } : Jvm.MethodName) ∈ zwl := zn4 (q := (({ cls := "RuleTreeModel", name := "pairFields", desc := "(II)V" } : Jvm.MethodName), 46)) (List.mem_of_getElem? (i := 5) rfl)
theorem ws_4_6 : Cond.selects "RuleTreeModel" ({ cls := "RuleTreeModel", name := "fieldOf", desc := "(II)I" } : Jvm.MethodName) ({ cls := "RuleTreeModel", name := "fieldOf", desc := "(II)I" } : Jvm.MethodName) ∈ zwl := zn4 (q := (({ cls := "RuleTreeModel", name := "fieldOf", desc := "(II)I" } : Jvm.MethodName), 46)) (List.mem_of_getElem? (i := 6) rfl)
theorem ws_4_7 : Cond.selects "RuleTreeModel" ({ cls := "RuleTreeModel", name := "areOne", desc := "(II)Z" } : Jvm.MethodName) ({ cls := "RuleTreeModel", name := "areOne", desc := "(II)Z" } : Jvm.MethodName) ∈ zwl := zn4 (q := (({ cls := "RuleTreeModel", name := "areOne", desc := "(II)Z" } : Jvm.MethodName), 46)) (List.mem_of_getElem? (i := 7) rfl)
theorem ws_4_8 : Cond.selects "RuleTreeModel" ({ cls := "RuleTreeModel", name := "goTogether", desc := "(II)Z" } : Jvm.MethodName) ({ cls := "RuleTreeModel", name := "goTogether", desc := "(II)Z" } : Jvm.MethodName) ∈ zwl := zn4 (q := (({ cls := "RuleTreeModel", name := "goTogether", desc := "(II)Z" } : Jvm.MethodName), 46)) (List.mem_of_getElem? (i := 8) rfl)
theorem ws_4_9 : Cond.selects "RuleTreeModel" ({ cls := "RuleTreeModel", name := "ask", desc := "(II)V" } : Jvm.MethodName) ({ cls := "RuleTreeModel", name := "ask", desc := "(II)V" } : Jvm.MethodName) ∈ zwl := zn4 (q := (({ cls := "RuleTreeModel", name := "ask", desc := "(II)V" } : Jvm.MethodName), 46)) (List.mem_of_getElem? (i := 9) rfl)
theorem ws_4_10 : Cond.selects "RuleTreeModel" ({ cls := "RuleTreeModel", name := "placeBelow", desc := "(IIJ)I" } : Jvm.MethodName) ({ cls := "RuleTreeModel", name := "placeBelow", desc := "(IIJ)I" } : Jvm.MethodName) ∈ zwl := zn4 (q := (({ cls := "RuleTreeModel", name := "placeBelow", desc := "(IIJ)I" } : Jvm.MethodName), 46)) (List.mem_of_getElem? (i := 10) rfl)
theorem ws_4_11 : Cond.selects "RuleTreeModel" ({ cls := "RuleTreeModel", name := "childOf", desc := "(IJ)I" } : Jvm.MethodName) ({ cls := "RuleTreeModel", name := "childOf", desc := "(IJ)I" } : Jvm.MethodName) ∈ zwl := zn4 (q := (({ cls := "RuleTreeModel", name := "childOf", desc := "(IJ)I" } : Jvm.MethodName), 46)) (List.mem_of_getElem? (i := 11) rfl)
theorem ws_4_12 : Cond.selects "RuleTreeModel" ({ cls := "RuleTreeModel", name := "numberOf", desc := "(I)J" } : Jvm.MethodName) ({ cls := "RuleTreeModel", name := "numberOf", desc := "(I)J" } : Jvm.MethodName) ∈ zwl := zn4 (q := (({ cls := "RuleTreeModel", name := "numberOf", desc := "(I)J" } : Jvm.MethodName), 46)) (List.mem_of_getElem? (i := 12) rfl)
theorem ws_4_13 : Cond.selects "RuleTreeModel" ({ cls := "RuleTreeModel", name := "inside", desc := "(IJ)J" } : Jvm.MethodName) ({ cls := "RuleTreeModel", name := "inside", desc := "(IJ)J" } : Jvm.MethodName) ∈ zwl := zn4 (q := (({ cls := "RuleTreeModel", name := "inside", desc := "(IJ)J" } : Jvm.MethodName), 46)) (List.mem_of_getElem? (i := 13) rfl)
theorem ws_4_14 : Cond.selects "RuleTreeModel" ({ cls := "RuleTreeModel", name := "start", desc := "()V" } : Jvm.MethodName) ({ cls := "RuleTreeModel", name := "start", desc := "()V" } : Jvm.MethodName) ∈ zwl := zn4 (q := (({ cls := "RuleTreeModel", name := "start", desc := "()V" } : Jvm.MethodName), 46)) (List.mem_of_getElem? (i := 14) rfl)
theorem ws_4_15 : Cond.selects "RuleTreeModel" ({ cls := "RuleTreeModel", name := "setPossible", desc := "(IIZ)V" } : Jvm.MethodName) ({ cls := "RuleTreeModel", name := "setPossible", desc := "(IIZ)V" } : Jvm.MethodName) ∈ zwl := zn4 (q := (({ cls := "RuleTreeModel", name := "setPossible", desc := "(IIZ)V" } : Jvm.MethodName), 46)) (List.mem_of_getElem? (i := 15) rfl)
theorem ws_5_0 : Cond.selects "RuleTreeModel" ({ cls := "RuleTreeModel", name := "enter", desc := "(I)Z" } : Jvm.MethodName) ({ cls := "RuleTreeModel", name := "enter", desc := "(I)Z" } : Jvm.MethodName) ∈ zwl := zn5 (q := (({ cls := "RuleTreeModel", name := "enter", desc := "(I)Z" } : Jvm.MethodName), 46)) (List.mem_of_getElem? (i := 0) rfl)
theorem ws_5_1 : Cond.selects "RuleTreeModel" ({ cls := "RuleTreeModel", name := "firstPossible", desc := "(I)I" } : Jvm.MethodName) ({ cls := "RuleTreeModel", name := "firstPossible", desc := "(I)I" } : Jvm.MethodName) ∈ zwl := zn5 (q := (({ cls := "RuleTreeModel", name := "firstPossible", desc := "(I)I" } : Jvm.MethodName), 46)) (List.mem_of_getElem? (i := 1) rfl)
theorem ws_5_2 : Cond.selects "RuleTreeModel" ({ cls := "RuleTreeModel", name := "isPossible", desc := "(II)Z" } : Jvm.MethodName) ({ cls := "RuleTreeModel", name := "isPossible", desc := "(II)Z" } : Jvm.MethodName) ∈ zwl := zn5 (q := (({ cls := "RuleTreeModel", name := "isPossible", desc := "(II)Z" } : Jvm.MethodName), 46)) (List.mem_of_getElem? (i := 2) rfl)
theorem ws_5_3 : Cond.selects "RuleTreeModel" ({ cls := "RuleTreeModel", name := "nextPlace", desc := "(I)I" } : Jvm.MethodName) ({ cls := "RuleTreeModel", name := "nextPlace", desc := "(I)I" } : Jvm.MethodName) ∈ zwl := zn5 (q := (({ cls := "RuleTreeModel", name := "nextPlace", desc := "(I)I" } : Jvm.MethodName), 46)) (List.mem_of_getElem? (i := 3) rfl)
theorem ws_5_4 : Cond.selects "RuleTreeModel" ({ cls := "RuleTreeModel", name := "end", desc := "(II)V" } : Jvm.MethodName) ({ cls := "RuleTreeModel", name := "end", desc := "(II)V" } : Jvm.MethodName) ∈ zwl := zn5 (q := (({ cls := "RuleTreeModel", name := "end", desc := "(II)V" } : Jvm.MethodName), 46)) (List.mem_of_getElem? (i := 4) rfl)
theorem ws_5_5 : Cond.selects "RuleTreeModel" ({ cls := "RuleTreeModel", name := "leastOther", desc := "(I)I" } : Jvm.MethodName) ({ cls := "RuleTreeModel", name := "leastOther", desc := "(I)I" } : Jvm.MethodName) ∈ zwl := zn5 (q := (({ cls := "RuleTreeModel", name := "leastOther", desc := "(I)I" } : Jvm.MethodName), 46)) (List.mem_of_getElem? (i := 5) rfl)
theorem ws_5_6 : Cond.selects "RuleTreeModel" ({ cls := "RuleTreeModel", name := "nextNumber", desc := "(IJ)J" } : Jvm.MethodName) ({ cls := "RuleTreeModel", name := "nextNumber", desc := "(IJ)J" } : Jvm.MethodName) ∈ zwl := zn5 (q := (({ cls := "RuleTreeModel", name := "nextNumber", desc := "(IJ)J" } : Jvm.MethodName), 46)) (List.mem_of_getElem? (i := 6) rfl)
theorem ws_5_7 : Cond.selects "RuleTreeModel" ({ cls := "RuleTreeModel", name := "asked", desc := "(II)I" } : Jvm.MethodName) ({ cls := "RuleTreeModel", name := "asked", desc := "(II)I" } : Jvm.MethodName) ∈ zwl := zn5 (q := (({ cls := "RuleTreeModel", name := "asked", desc := "(II)I" } : Jvm.MethodName), 46)) (List.mem_of_getElem? (i := 7) rfl)
theorem ws_5_8 : Cond.selects "RuleTreeModel" ({ cls := "RuleTreeModel", name := "goOn", desc := "(I)Z" } : Jvm.MethodName) ({ cls := "RuleTreeModel", name := "goOn", desc := "(I)Z" } : Jvm.MethodName) ∈ zwl := zn5 (q := (({ cls := "RuleTreeModel", name := "goOn", desc := "(I)Z" } : Jvm.MethodName), 46)) (List.mem_of_getElem? (i := 8) rfl)
theorem ws_5_9 : Cond.selects "RuleTreeModel" ({ cls := "RuleTreeModel", name := "hasOthers", desc := "(I)Z" } : Jvm.MethodName) ({ cls := "RuleTreeModel", name := "hasOthers", desc := "(I)Z" } : Jvm.MethodName) ∈ zwl := zn5 (q := (({ cls := "RuleTreeModel", name := "hasOthers", desc := "(I)Z" } : Jvm.MethodName), 46)) (List.mem_of_getElem? (i := 9) rfl)
theorem ws_5_10 : Cond.selects "RuleTreeModel" ({ cls := "RuleTreeModel", name := "example", desc := "(I)I" } : Jvm.MethodName) ({ cls := "RuleTreeModel", name := "example", desc := "(I)I" } : Jvm.MethodName) ∈ zwl := zn5 (q := (({ cls := "RuleTreeModel", name := "example", desc := "(I)I" } : Jvm.MethodName), 46)) (List.mem_of_getElem? (i := 10) rfl)
theorem ws_5_11 : Cond.selects "RuleTreeModel" ({ cls := "RuleTreeModel", name := "branches", desc := "(I)I" } : Jvm.MethodName) ({ cls := "RuleTreeModel", name := "branches", desc := "(I)I" } : Jvm.MethodName) ∈ zwl := zn5 (q := (({ cls := "RuleTreeModel", name := "branches", desc := "(I)I" } : Jvm.MethodName), 46)) (List.mem_of_getElem? (i := 11) rfl)
theorem ws_5_12 : Cond.selects "RuleTreeModel" ({ cls := "RuleTreeModel", name := "narrow", desc := "(IJZ)V" } : Jvm.MethodName) ({ cls := "RuleTreeModel", name := "narrow", desc := "(IJZ)V" } : Jvm.MethodName) ∈ zwl := zn5 (q := (({ cls := "RuleTreeModel", name := "narrow", desc := "(IJZ)V" } : Jvm.MethodName), 46)) (List.mem_of_getElem? (i := 12) rfl)
theorem ws_5_13 : Cond.selects "RuleTreeModel" ({ cls := "RuleTreeModel", name := "tell", desc := "(I)I" } : Jvm.MethodName) ({ cls := "RuleTreeModel", name := "tell", desc := "(I)I" } : Jvm.MethodName) ∈ zwl := zn5 (q := (({ cls := "RuleTreeModel", name := "tell", desc := "(I)I" } : Jvm.MethodName), 46)) (List.mem_of_getElem? (i := 13) rfl)
theorem ws_5_14 : Cond.selects "RuleTreeModel" ({ cls := "RuleTreeModel", name := "partAt", desc := "(II)I" } : Jvm.MethodName) ({ cls := "RuleTreeModel", name := "partAt", desc := "(II)I" } : Jvm.MethodName) ∈ zwl := zn5 (q := (({ cls := "RuleTreeModel", name := "partAt", desc := "(II)I" } : Jvm.MethodName), 46)) (List.mem_of_getElem? (i := 14) rfl)
theorem ws_5_15 : Cond.selects "RuleTreeModel" ({ cls := "RuleTreeModel", name := "isRecordPlace", desc := "(I)Z" } : Jvm.MethodName) ({ cls := "RuleTreeModel", name := "isRecordPlace", desc := "(I)Z" } : Jvm.MethodName) ∈ zwl := zn5 (q := (({ cls := "RuleTreeModel", name := "isRecordPlace", desc := "(I)Z" } : Jvm.MethodName), 46)) (List.mem_of_getElem? (i := 15) rfl)
theorem ws_6_0 : Cond.selects "RuleTreeModel" ({ cls := "RuleTreeModel", name := "isOdd", desc := "(II)Z" } : Jvm.MethodName) ({ cls := "RuleTreeModel", name := "isOdd", desc := "(II)Z" } : Jvm.MethodName) ∈ zwl := zn6 (q := (({ cls := "RuleTreeModel", name := "isOdd", desc := "(II)Z" } : Jvm.MethodName), 46)) (List.mem_of_getElem? (i := 0) rfl)
theorem ws_6_1 : Cond.selects "RuleTreeModel" ({ cls := "RuleTreeModel", name := "missedAt", desc := "(I)I" } : Jvm.MethodName) ({ cls := "RuleTreeModel", name := "missedAt", desc := "(I)I" } : Jvm.MethodName) ∈ zwl := zn6 (q := (({ cls := "RuleTreeModel", name := "missedAt", desc := "(I)I" } : Jvm.MethodName), 46)) (List.mem_of_getElem? (i := 1) rfl)
theorem ws_6_2 : Cond.selects "RuleTreeModel" ({ cls := "RuleTreeModel", name := "hasArgument", desc := "(II)Z" } : Jvm.MethodName) ({ cls := "RuleTreeModel", name := "hasArgument", desc := "(II)Z" } : Jvm.MethodName) ∈ zwl := zn6 (q := (({ cls := "RuleTreeModel", name := "hasArgument", desc := "(II)Z" } : Jvm.MethodName), 46)) (List.mem_of_getElem? (i := 2) rfl)
theorem ws_6_3 : Cond.selects "RuleTreeModel" ({ cls := "RuleTreeModel", name := "anyAt", desc := "(I)I" } : Jvm.MethodName) ({ cls := "RuleTreeModel", name := "anyAt", desc := "(I)I" } : Jvm.MethodName) ∈ zwl := zn6 (q := (({ cls := "RuleTreeModel", name := "anyAt", desc := "(I)I" } : Jvm.MethodName), 46)) (List.mem_of_getElem? (i := 3) rfl)
theorem ws_6_4 : Cond.selects "RuleTreeModel" ({ cls := "RuleTreeModel", name := "someAt", desc := "(II)I" } : Jvm.MethodName) ({ cls := "RuleTreeModel", name := "someAt", desc := "(II)I" } : Jvm.MethodName) ∈ zwl := zn6 (q := (({ cls := "RuleTreeModel", name := "someAt", desc := "(II)I" } : Jvm.MethodName), 46)) (List.mem_of_getElem? (i := 4) rfl)
theorem ws_6_5 : Cond.selects "RuleTreeModel" ({ cls := "RuleTreeModel", name := "isToldRecord", desc := "(I)Z" } : Jvm.MethodName) ({ cls := "RuleTreeModel", name := "isToldRecord", desc := "(I)Z" } : Jvm.MethodName) ∈ zwl := zn6 (q := (({ cls := "RuleTreeModel", name := "isToldRecord", desc := "(I)Z" } : Jvm.MethodName), 46)) (List.mem_of_getElem? (i := 5) rfl)
end
section
-- classes, fields (by program)
def R_Tre : String := "RuleTree"
def F_Tre : u_T := fun k => match k with
  | 0 => ("RuleTree", "families", "LRuleTree$Families;", true)
  | 1 => ("RuleTree", "patterns", "LRuleTree$Patterns;", true)
  | 2 => ("RuleTree", "pushed", "LRuleTree$Pushed;", true)
  | 3 => ("RuleTree", "pairs", "LRuleTree$Pairs;", true)
  | 4 => ("RuleTree", "rules", "LRuleTree$Row;", true)
  | 5 => ("RuleTree", "parts", "LRuleTree$Parts;", true)
  | 6 => ("RuleTree", "nodes", "LRuleTree$Nodes;", true)
  | 7 => ("RuleTree", "grower", "LRuleTree$Grower;", true)
  | 8 => ("RuleTree", "walker", "LRuleTree$Walker;", true)
  | 9 => ("RuleTree", "gap", "LRuleTree$Gap;", true)
  | 10 => ("RuleTree", "rulesWeight", "I", false)
  | _ => ("RuleTree", "grown", "I", false)
def t_Tre : Nat → FieldType := fun k => match k with
  | 0 => .object "RuleTree$Families"
  | 1 => .object "RuleTree$Patterns"
  | 2 => .object "RuleTree$Pushed"
  | 3 => .object "RuleTree$Pairs"
  | 4 => .object "RuleTree$Row"
  | 5 => .object "RuleTree$Parts"
  | 6 => .object "RuleTree$Nodes"
  | 7 => .object "RuleTree$Grower"
  | 8 => .object "RuleTree$Walker"
  | 9 => .object "RuleTree$Gap"
  | 10 => .int
  | _ => .int
theorem n_Tre : ∀ a, a < 12 → ∀ b, b < 12 → a ≠ b → (F_Tre a).2.1 ≠ (F_Tre b).2.1 := by decide +kernel
theorem t_Tre_ok : ∀ k, k < 12 → parseFieldDescriptor (F_Tre k).2.2.1 = some (t_Tre k) := by decide +kernel
set_option maxRecDepth 20000 in
theorem i_Tre : ∀ w ∈ u_ws R_Tre F_Tre 12, w ∈ zwl := (List.forall_mem_cons.mpr ⟨wd_2_93, (List.forall_mem_cons.mpr ⟨wd_2_95, (List.forall_mem_cons.mpr ⟨wd_2_97, (List.forall_mem_cons.mpr ⟨wd_2_99, (List.forall_mem_cons.mpr ⟨wd_2_101, (List.forall_mem_cons.mpr ⟨wd_2_103, (List.forall_mem_cons.mpr ⟨wd_2_105, (List.forall_mem_cons.mpr ⟨wd_2_107, (List.forall_mem_cons.mpr ⟨wd_2_109, (List.forall_mem_cons.mpr ⟨wd_2_111, (List.forall_mem_cons.mpr ⟨wd_2_113, (List.forall_mem_cons.mpr ⟨wd_2_115, (fun _ h => absurd h List.not_mem_nil)⟩)⟩)⟩)⟩)⟩)⟩)⟩)⟩)⟩)⟩)⟩)⟩)
def R_Fam : String := "RuleTree$Families"
def F_Fam : u_T := fun k => match k with
  | 0 => ("RuleTree$Families", "sizes", "LRuleTree$Row;", true)
  | _ => ("RuleTree$Families", "arguments", "[J", true)
def t_Fam : Nat → FieldType := fun k => match k with
  | 0 => .object "RuleTree$Row"
  | _ => .array .long
theorem n_Fam : ∀ a, a < 2 → ∀ b, b < 2 → a ≠ b → (F_Fam a).2.1 ≠ (F_Fam b).2.1 := by decide +kernel
theorem t_Fam_ok : ∀ k, k < 2 → parseFieldDescriptor (F_Fam k).2.2.1 = some (t_Fam k) := by decide +kernel
set_option maxRecDepth 20000 in
theorem i_Fam : ∀ w ∈ u_ws R_Fam F_Fam 2, w ∈ zwl := (List.forall_mem_cons.mpr ⟨wd_1_46, (List.forall_mem_cons.mpr ⟨wd_1_48, (fun _ h => absurd h List.not_mem_nil)⟩)⟩)
def R_Gap : String := "RuleTree$Gap"
def F_Gap : u_T := fun k => match k with
  | 0 => ("RuleTree$Gap", "families", "LRuleTree$Families;", true)
  | 1 => ("RuleTree$Gap", "parts", "LRuleTree$Parts;", true)
  | 2 => ("RuleTree$Gap", "nodes", "LRuleTree$Nodes;", true)
  | 3 => ("RuleTree$Gap", "told", "LRuleTree$Row;", true)
  | 4 => ("RuleTree$Gap", "marks", "LRuleTree$Row;", true)
  | _ => ("RuleTree$Gap", "end", "I", false)
def t_Gap : Nat → FieldType := fun k => match k with
  | 0 => .object "RuleTree$Families"
  | 1 => .object "RuleTree$Parts"
  | 2 => .object "RuleTree$Nodes"
  | 3 => .object "RuleTree$Row"
  | 4 => .object "RuleTree$Row"
  | _ => .int
theorem n_Gap : ∀ a, a < 6 → ∀ b, b < 6 → a ≠ b → (F_Gap a).2.1 ≠ (F_Gap b).2.1 := by decide +kernel
theorem t_Gap_ok : ∀ k, k < 6 → parseFieldDescriptor (F_Gap k).2.2.1 = some (t_Gap k) := by decide +kernel
set_option maxRecDepth 20000 in
theorem i_Gap : ∀ w ∈ u_ws R_Gap F_Gap 6, w ∈ zwl := (List.forall_mem_cons.mpr ⟨wd_2_68, (List.forall_mem_cons.mpr ⟨wd_2_70, (List.forall_mem_cons.mpr ⟨wd_2_72, (List.forall_mem_cons.mpr ⟨wd_2_74, (List.forall_mem_cons.mpr ⟨wd_2_76, (List.forall_mem_cons.mpr ⟨wd_2_78, (fun _ h => absurd h List.not_mem_nil)⟩)⟩)⟩)⟩)⟩)⟩)
def R_Grw : String := "RuleTree$Grower"
def F_Grw : u_T := fun k => match k with
  | 0 => ("RuleTree$Grower", "families", "LRuleTree$Families;", true)
  | 1 => ("RuleTree$Grower", "parts", "LRuleTree$Parts;", true)
  | 2 => ("RuleTree$Grower", "nodes", "LRuleTree$Nodes;", true)
  | 3 => ("RuleTree$Grower", "outs", "LRuleTree$Row;", true)
  | _ => ("RuleTree$Grower", "looked", "LRuleTree$Row;", true)
def t_Grw : Nat → FieldType := fun k => match k with
  | 0 => .object "RuleTree$Families"
  | 1 => .object "RuleTree$Parts"
  | 2 => .object "RuleTree$Nodes"
  | 3 => .object "RuleTree$Row"
  | _ => .object "RuleTree$Row"
theorem n_Grw : ∀ a, a < 5 → ∀ b, b < 5 → a ≠ b → (F_Grw a).2.1 ≠ (F_Grw b).2.1 := by decide +kernel
theorem t_Grw_ok : ∀ k, k < 5 → parseFieldDescriptor (F_Grw k).2.2.1 = some (t_Grw k) := by decide +kernel
set_option maxRecDepth 20000 in
theorem i_Grw : ∀ w ∈ u_ws R_Grw F_Grw 5, w ∈ zwl := (List.forall_mem_cons.mpr ⟨wd_2_16, (List.forall_mem_cons.mpr ⟨wd_2_18, (List.forall_mem_cons.mpr ⟨wd_2_20, (List.forall_mem_cons.mpr ⟨wd_2_22, (List.forall_mem_cons.mpr ⟨wd_2_24, (fun _ h => absurd h List.not_mem_nil)⟩)⟩)⟩)⟩)⟩)
def R_Nod : String := "RuleTree$Nodes"
def F_Nod : u_T := fun k => match k with
  | 0 => ("RuleTree$Nodes", "parts", "LRuleTree$Row;", true)
  | 1 => ("RuleTree$Nodes", "rules", "LRuleTree$Row;", true)
  | 2 => ("RuleTree$Nodes", "asks", "LRuleTree$Row;", true)
  | 3 => ("RuleTree$Nodes", "uppers", "LRuleTree$Row;", true)
  | 4 => ("RuleTree$Nodes", "edges", "LRuleTree$Row;", true)
  | 5 => ("RuleTree$Nodes", "firsts", "LRuleTree$Row;", true)
  | 6 => ("RuleTree$Nodes", "lasts", "LRuleTree$Row;", true)
  | 7 => ("RuleTree$Nodes", "nexts", "LRuleTree$Row;", true)
  | 8 => ("RuleTree$Nodes", "branches", "LRuleTree$Row;", true)
  | _ => ("RuleTree$Nodes", "depths", "LRuleTree$Row;", true)
def t_Nod : Nat → FieldType := fun k => match k with
  | 0 => .object "RuleTree$Row"
  | 1 => .object "RuleTree$Row"
  | 2 => .object "RuleTree$Row"
  | 3 => .object "RuleTree$Row"
  | 4 => .object "RuleTree$Row"
  | 5 => .object "RuleTree$Row"
  | 6 => .object "RuleTree$Row"
  | 7 => .object "RuleTree$Row"
  | 8 => .object "RuleTree$Row"
  | _ => .object "RuleTree$Row"
theorem n_Nod : ∀ a, a < 10 → ∀ b, b < 10 → a ≠ b → (F_Nod a).2.1 ≠ (F_Nod b).2.1 := by decide +kernel
theorem t_Nod_ok : ∀ k, k < 10 → parseFieldDescriptor (F_Nod k).2.2.1 = some (t_Nod k) := by decide +kernel
set_option maxRecDepth 20000 in
theorem i_Nod : ∀ w ∈ u_ws R_Nod F_Nod 10, w ∈ zwl := (List.forall_mem_cons.mpr ⟨wd_1_222, (List.forall_mem_cons.mpr ⟨wd_1_224, (List.forall_mem_cons.mpr ⟨wd_1_226, (List.forall_mem_cons.mpr ⟨wd_1_228, (List.forall_mem_cons.mpr ⟨wd_1_230, (List.forall_mem_cons.mpr ⟨wd_1_232, (List.forall_mem_cons.mpr ⟨wd_1_234, (List.forall_mem_cons.mpr ⟨wd_1_236, (List.forall_mem_cons.mpr ⟨wd_1_238, (List.forall_mem_cons.mpr ⟨wd_2_0, (fun _ h => absurd h List.not_mem_nil)⟩)⟩)⟩)⟩)⟩)⟩)⟩)⟩)⟩)⟩)
def R_Pai : String := "RuleTree$Pairs"
def F_Pai : u_T := fun k => match k with
  | 0 => ("RuleTree$Pairs", "patterns", "LRuleTree$Patterns;", true)
  | _ => ("RuleTree$Pairs", "open", "LRuleTree$Row;", true)
def t_Pai : Nat → FieldType := fun k => match k with
  | 0 => .object "RuleTree$Patterns"
  | _ => .object "RuleTree$Row"
theorem n_Pai : ∀ a, a < 2 → ∀ b, b < 2 → a ≠ b → (F_Pai a).2.1 ≠ (F_Pai b).2.1 := by decide +kernel
theorem t_Pai_ok : ∀ k, k < 2 → parseFieldDescriptor (F_Pai k).2.2.1 = some (t_Pai k) := by decide +kernel
set_option maxRecDepth 20000 in
theorem i_Pai : ∀ w ∈ u_ws R_Pai F_Pai 2, w ∈ zwl := (List.forall_mem_cons.mpr ⟨wd_1_138, (List.forall_mem_cons.mpr ⟨wd_1_140, (fun _ h => absurd h List.not_mem_nil)⟩)⟩)
def R_Par : String := "RuleTree$Parts"
def F_Par : u_T := fun k => match k with
  | 0 => ("RuleTree$Parts", "patterns", "LRuleTree$Patterns;", true)
  | 1 => ("RuleTree$Parts", "shapes", "LRuleTree$Row;", true)
  | 2 => ("RuleTree$Parts", "sorts", "LRuleTree$Row;", true)
  | 3 => ("RuleTree$Parts", "uppers", "LRuleTree$Row;", true)
  | 4 => ("RuleTree$Parts", "upperEdges", "LRuleTree$Row;", true)
  | 5 => ("RuleTree$Parts", "firstEdges", "LRuleTree$Row;", true)
  | 6 => ("RuleTree$Parts", "labels", "LRuleTree$Row;", true)
  | 7 => ("RuleTree$Parts", "nextEdges", "LRuleTree$Row;", true)
  | 8 => ("RuleTree$Parts", "children", "LRuleTree$Row;", true)
  | 9 => ("RuleTree$Parts", "firstAsks", "LRuleTree$Row;", true)
  | 10 => ("RuleTree$Parts", "askRules", "LRuleTree$Row;", true)
  | 11 => ("RuleTree$Parts", "askParts", "LRuleTree$Row;", true)
  | 12 => ("RuleTree$Parts", "nextAsks", "LRuleTree$Row;", true)
  | 13 => ("RuleTree$Parts", "starts", "LRuleTree$Row;", true)
  | _ => ("RuleTree$Parts", "open", "LRuleTree$Row;", true)
def t_Par : Nat → FieldType := fun k => match k with
  | 0 => .object "RuleTree$Patterns"
  | 1 => .object "RuleTree$Row"
  | 2 => .object "RuleTree$Row"
  | 3 => .object "RuleTree$Row"
  | 4 => .object "RuleTree$Row"
  | 5 => .object "RuleTree$Row"
  | 6 => .object "RuleTree$Row"
  | 7 => .object "RuleTree$Row"
  | 8 => .object "RuleTree$Row"
  | 9 => .object "RuleTree$Row"
  | 10 => .object "RuleTree$Row"
  | 11 => .object "RuleTree$Row"
  | 12 => .object "RuleTree$Row"
  | 13 => .object "RuleTree$Row"
  | _ => .object "RuleTree$Row"
theorem n_Par : ∀ a, a < 15 → ∀ b, b < 15 → a ≠ b → (F_Par a).2.1 ≠ (F_Par b).2.1 := by decide +kernel
theorem t_Par_ok : ∀ k, k < 15 → parseFieldDescriptor (F_Par k).2.2.1 = some (t_Par k) := by decide +kernel
set_option maxRecDepth 20000 in
theorem i_Par : ∀ w ∈ u_ws R_Par F_Par 15, w ∈ zwl := (List.forall_mem_cons.mpr ⟨wd_1_173, (List.forall_mem_cons.mpr ⟨wd_1_175, (List.forall_mem_cons.mpr ⟨wd_1_177, (List.forall_mem_cons.mpr ⟨wd_1_179, (List.forall_mem_cons.mpr ⟨wd_1_181, (List.forall_mem_cons.mpr ⟨wd_1_183, (List.forall_mem_cons.mpr ⟨wd_1_185, (List.forall_mem_cons.mpr ⟨wd_1_187, (List.forall_mem_cons.mpr ⟨wd_1_189, (List.forall_mem_cons.mpr ⟨wd_1_191, (List.forall_mem_cons.mpr ⟨wd_1_193, (List.forall_mem_cons.mpr ⟨wd_1_195, (List.forall_mem_cons.mpr ⟨wd_1_197, (List.forall_mem_cons.mpr ⟨wd_1_199, (List.forall_mem_cons.mpr ⟨wd_1_201, (fun _ h => absurd h List.not_mem_nil)⟩)⟩)⟩)⟩)⟩)⟩)⟩)⟩)⟩)⟩)⟩)⟩)⟩)⟩)⟩)
def R_Pat : String := "RuleTree$Patterns"
def F_Pat : u_T := fun k => match k with
  | 0 => ("RuleTree$Patterns", "shapes", "LRuleTree$Row;", true)
  | 1 => ("RuleTree$Patterns", "sorts", "LRuleTree$Row;", true)
  | 2 => ("RuleTree$Patterns", "marks", "LRuleTree$Row;", true)
  | 3 => ("RuleTree$Patterns", "inners", "LRuleTree$Row;", true)
  | 4 => ("RuleTree$Patterns", "widths", "LRuleTree$Row;", true)
  | 5 => ("RuleTree$Patterns", "weights", "LRuleTree$Row;", true)
  | 6 => ("RuleTree$Patterns", "whole", "LRuleTree$Row;", true)
  | 7 => ("RuleTree$Patterns", "fieldNumbers", "LRuleTree$Row;", true)
  | _ => ("RuleTree$Patterns", "fieldPatterns", "LRuleTree$Row;", true)
def t_Pat : Nat → FieldType := fun k => match k with
  | 0 => .object "RuleTree$Row"
  | 1 => .object "RuleTree$Row"
  | 2 => .object "RuleTree$Row"
  | 3 => .object "RuleTree$Row"
  | 4 => .object "RuleTree$Row"
  | 5 => .object "RuleTree$Row"
  | 6 => .object "RuleTree$Row"
  | 7 => .object "RuleTree$Row"
  | _ => .object "RuleTree$Row"
theorem n_Pat : ∀ a, a < 9 → ∀ b, b < 9 → a ≠ b → (F_Pat a).2.1 ≠ (F_Pat b).2.1 := by decide +kernel
theorem t_Pat_ok : ∀ k, k < 9 → parseFieldDescriptor (F_Pat k).2.2.1 = some (t_Pat k) := by decide +kernel
set_option maxRecDepth 20000 in
theorem i_Pat : ∀ w ∈ u_ws R_Pat F_Pat 9, w ∈ zwl := (List.forall_mem_cons.mpr ⟨wd_1_69, (List.forall_mem_cons.mpr ⟨wd_1_71, (List.forall_mem_cons.mpr ⟨wd_1_73, (List.forall_mem_cons.mpr ⟨wd_1_75, (List.forall_mem_cons.mpr ⟨wd_1_77, (List.forall_mem_cons.mpr ⟨wd_1_79, (List.forall_mem_cons.mpr ⟨wd_1_81, (List.forall_mem_cons.mpr ⟨wd_1_83, (List.forall_mem_cons.mpr ⟨wd_1_85, (fun _ h => absurd h List.not_mem_nil)⟩)⟩)⟩)⟩)⟩)⟩)⟩)⟩)⟩)
def R_Psh : String := "RuleTree$Pushed"
def F_Psh : u_T := fun k => match k with
  | 0 => ("RuleTree$Pushed", "patterns", "LRuleTree$Row;", true)
  | _ => ("RuleTree$Pushed", "many", "I", false)
def t_Psh : Nat → FieldType := fun k => match k with
  | 0 => .object "RuleTree$Row"
  | _ => .int
theorem n_Psh : ∀ a, a < 2 → ∀ b, b < 2 → a ≠ b → (F_Psh a).2.1 ≠ (F_Psh b).2.1 := by decide +kernel
theorem t_Psh_ok : ∀ k, k < 2 → parseFieldDescriptor (F_Psh k).2.2.1 = some (t_Psh k) := by decide +kernel
set_option maxRecDepth 20000 in
theorem i_Psh : ∀ w ∈ u_ws R_Psh F_Psh 2, w ∈ zwl := (List.forall_mem_cons.mpr ⟨wd_1_123, (List.forall_mem_cons.mpr ⟨wd_1_125, (fun _ h => absurd h List.not_mem_nil)⟩)⟩)
def R_Row : String := "RuleTree$Row"
def F_Row : u_T := fun k => match k with
  | 0 => ("RuleTree$Row", "cells", "[I", false)
  | _ => ("RuleTree$Row", "size", "I", false)
def t_Row : Nat → FieldType := fun k => match k with
  | 0 => .array .int
  | _ => .int
theorem n_Row : ∀ a, a < 2 → ∀ b, b < 2 → a ≠ b → (F_Row a).2.1 ≠ (F_Row b).2.1 := by decide +kernel
theorem t_Row_ok : ∀ k, k < 2 → parseFieldDescriptor (F_Row k).2.2.1 = some (t_Row k) := by decide +kernel
set_option maxRecDepth 20000 in
theorem i_Row : ∀ w ∈ u_ws R_Row F_Row 2, w ∈ zwl := (List.forall_mem_cons.mpr ⟨wd_1_38, (List.forall_mem_cons.mpr ⟨wd_1_40, (fun _ h => absurd h List.not_mem_nil)⟩)⟩)
def R_Wlk : String := "RuleTree$Walker"
def F_Wlk : u_T := fun k => match k with
  | 0 => ("RuleTree$Walker", "patterns", "LRuleTree$Patterns;", true)
  | 1 => ("RuleTree$Walker", "parts", "LRuleTree$Parts;", true)
  | 2 => ("RuleTree$Walker", "nodes", "LRuleTree$Nodes;", true)
  | 3 => ("RuleTree$Walker", "seen", "LRuleTree$Row;", true)
  | 4 => ("RuleTree$Walker", "climbed", "LRuleTree$Row;", true)
  | _ => ("RuleTree$Walker", "looked", "I", false)
def t_Wlk : Nat → FieldType := fun k => match k with
  | 0 => .object "RuleTree$Patterns"
  | 1 => .object "RuleTree$Parts"
  | 2 => .object "RuleTree$Nodes"
  | 3 => .object "RuleTree$Row"
  | 4 => .object "RuleTree$Row"
  | _ => .int
theorem n_Wlk : ∀ a, a < 6 → ∀ b, b < 6 → a ≠ b → (F_Wlk a).2.1 ≠ (F_Wlk b).2.1 := by decide +kernel
theorem t_Wlk_ok : ∀ k, k < 6 → parseFieldDescriptor (F_Wlk k).2.2.1 = some (t_Wlk k) := by decide +kernel
set_option maxRecDepth 20000 in
theorem i_Wlk : ∀ w ∈ u_ws R_Wlk F_Wlk 6, w ∈ zwl := (List.forall_mem_cons.mpr ⟨wd_2_41, (List.forall_mem_cons.mpr ⟨wd_2_43, (List.forall_mem_cons.mpr ⟨wd_2_45, (List.forall_mem_cons.mpr ⟨wd_2_47, (List.forall_mem_cons.mpr ⟨wd_2_49, (List.forall_mem_cons.mpr ⟨wd_2_51, (fun _ h => absurd h List.not_mem_nil)⟩)⟩)⟩)⟩)⟩)⟩)
def R_Mod : String := "RuleTreeModel"
def F_Mod : u_T := fun k => match k with
  | 0 => ("RuleTreeModel", "families", "I", false)
  | 1 => ("RuleTreeModel", "constructors", "[I", true)
  | 2 => ("RuleTreeModel", "arguments", "[J", true)
  | 3 => ("RuleTreeModel", "patterns", "I", false)
  | 4 => ("RuleTreeModel", "kinds", "[B", true)
  | 5 => ("RuleTreeModel", "firsts", "[I", true)
  | 6 => ("RuleTreeModel", "seconds", "[I", true)
  | 7 => ("RuleTreeModel", "ofs", "[I", true)
  | 8 => ("RuleTreeModel", "given", "[S", true)
  | 9 => ("RuleTreeModel", "sizes", "[S", true)
  | 10 => ("RuleTreeModel", "whole", "[Z", true)
  | 11 => ("RuleTreeModel", "fields", "I", false)
  | 12 => ("RuleTreeModel", "fieldNumber", "[S", true)
  | 13 => ("RuleTreeModel", "fieldPattern", "[S", true)
  | 14 => ("RuleTreeModel", "pushed", "I", false)
  | 15 => ("RuleTreeModel", "pushedNumber", "[I", true)
  | 16 => ("RuleTreeModel", "pushedPattern", "[I", true)
  | 17 => ("RuleTreeModel", "rules", "I", false)
  | 18 => ("RuleTreeModel", "ruleOf", "[I", true)
  | 19 => ("RuleTreeModel", "askAt", "[I", true)
  | 20 => ("RuleTreeModel", "allSizes", "I", false)
  | 21 => ("RuleTreeModel", "askPlace", "[I", true)
  | 22 => ("RuleTreeModel", "askPattern", "[I", true)
  | 23 => ("RuleTreeModel", "places", "I", false)
  | 24 => ("RuleTreeModel", "above", "[I", true)
  | 25 => ("RuleTreeModel", "step", "[I", true)
  | 26 => ("RuleTreeModel", "way", "[J", true)
  | 27 => ("RuleTreeModel", "below", "[I", true)
  | 28 => ("RuleTreeModel", "beside", "[I", true)
  | 29 => ("RuleTreeModel", "size", "[I", true)
  | 30 => ("RuleTreeModel", "possible", "[J", true)
  | 31 => ("RuleTreeModel", "lookedPlace", "[I", true)
  | 32 => ("RuleTreeModel", "found", "[J", true)
  | 33 => ("RuleTreeModel", "other", "[Z", true)
  | 34 => ("RuleTreeModel", "looked", "[Z", true)
  | 35 => ("RuleTreeModel", "grown", "Z", false)
  | 36 => ("RuleTreeModel", "nodes", "I", false)
  | 37 => ("RuleTreeModel", "deepest", "I", false)
  | 38 => ("RuleTreeModel", "endings", "[I", true)
  | 39 => ("RuleTreeModel", "missed", "I", false)
  | 40 => ("RuleTreeModel", "missPlace", "[I", true)
  | 41 => ("RuleTreeModel", "missNumber", "[I", true)
  | 42 => ("RuleTreeModel", "piled", "I", false)
  | 43 => ("RuleTreeModel", "pileA", "[I", true)
  | 44 => ("RuleTreeModel", "pileB", "[I", true)
  | _ => ("RuleTreeModel", "told", "I", false)
def t_Mod : Nat → FieldType := fun k => match k with
  | 0 => .int
  | 1 => .array .int
  | 2 => .array .long
  | 3 => .int
  | 4 => .array .byte
  | 5 => .array .int
  | 6 => .array .int
  | 7 => .array .int
  | 8 => .array .short
  | 9 => .array .short
  | 10 => .array .boolean
  | 11 => .int
  | 12 => .array .short
  | 13 => .array .short
  | 14 => .int
  | 15 => .array .int
  | 16 => .array .int
  | 17 => .int
  | 18 => .array .int
  | 19 => .array .int
  | 20 => .int
  | 21 => .array .int
  | 22 => .array .int
  | 23 => .int
  | 24 => .array .int
  | 25 => .array .int
  | 26 => .array .long
  | 27 => .array .int
  | 28 => .array .int
  | 29 => .array .int
  | 30 => .array .long
  | 31 => .array .int
  | 32 => .array .long
  | 33 => .array .boolean
  | 34 => .array .boolean
  | 35 => .boolean
  | 36 => .int
  | 37 => .int
  | 38 => .array .int
  | 39 => .int
  | 40 => .array .int
  | 41 => .array .int
  | 42 => .int
  | 43 => .array .int
  | 44 => .array .int
  | _ => .int
theorem n_Mod : ∀ a, a < 46 → ∀ b, b < 46 → a ≠ b → (F_Mod a).2.1 ≠ (F_Mod b).2.1 := by decide +kernel
theorem t_Mod_ok : ∀ k, k < 46 → parseFieldDescriptor (F_Mod k).2.2.1 = some (t_Mod k) := by decide +kernel
set_option maxRecDepth 20000 in
theorem i_Mod : ∀ w ∈ u_ws R_Mod F_Mod 46, w ∈ zwl := (List.forall_mem_cons.mpr ⟨wd_5_84, (List.forall_mem_cons.mpr ⟨wd_5_86, (List.forall_mem_cons.mpr ⟨wd_5_88, (List.forall_mem_cons.mpr ⟨wd_5_90, (List.forall_mem_cons.mpr ⟨wd_5_92, (List.forall_mem_cons.mpr ⟨wd_5_94, (List.forall_mem_cons.mpr ⟨wd_5_96, (List.forall_mem_cons.mpr ⟨wd_5_98, (List.forall_mem_cons.mpr ⟨wd_5_100, (List.forall_mem_cons.mpr ⟨wd_5_102, (List.forall_mem_cons.mpr ⟨wd_5_104, (List.forall_mem_cons.mpr ⟨wd_5_106, (List.forall_mem_cons.mpr ⟨wd_5_108, (List.forall_mem_cons.mpr ⟨wd_5_110, (List.forall_mem_cons.mpr ⟨wd_5_112, (List.forall_mem_cons.mpr ⟨wd_5_114, (List.forall_mem_cons.mpr ⟨wd_5_116, (List.forall_mem_cons.mpr ⟨wd_5_118, (List.forall_mem_cons.mpr ⟨wd_5_120, (List.forall_mem_cons.mpr ⟨wd_5_122, (List.forall_mem_cons.mpr ⟨wd_5_124, (List.forall_mem_cons.mpr ⟨wd_5_126, (List.forall_mem_cons.mpr ⟨wd_5_128, (List.forall_mem_cons.mpr ⟨wd_5_130, (List.forall_mem_cons.mpr ⟨wd_5_132, (List.forall_mem_cons.mpr ⟨wd_5_134, (List.forall_mem_cons.mpr ⟨wd_5_136, (List.forall_mem_cons.mpr ⟨wd_5_138, (List.forall_mem_cons.mpr ⟨wd_5_140, (List.forall_mem_cons.mpr ⟨wd_5_142, (List.forall_mem_cons.mpr ⟨wd_5_144, (List.forall_mem_cons.mpr ⟨wd_5_146, (List.forall_mem_cons.mpr ⟨wd_5_148, (List.forall_mem_cons.mpr ⟨wd_5_150, (List.forall_mem_cons.mpr ⟨wd_5_152, (List.forall_mem_cons.mpr ⟨wd_5_154, (List.forall_mem_cons.mpr ⟨wd_5_156, (List.forall_mem_cons.mpr ⟨wd_5_158, (List.forall_mem_cons.mpr ⟨wd_5_160, (List.forall_mem_cons.mpr ⟨wd_5_162, (List.forall_mem_cons.mpr ⟨wd_5_164, (List.forall_mem_cons.mpr ⟨wd_5_166, (List.forall_mem_cons.mpr ⟨wd_5_168, (List.forall_mem_cons.mpr ⟨wd_5_170, (List.forall_mem_cons.mpr ⟨wd_5_172, (List.forall_mem_cons.mpr ⟨wd_5_174, (fun _ h => absurd h List.not_mem_nil)⟩)⟩)⟩)⟩)⟩)⟩)⟩)⟩)⟩)⟩)⟩)⟩)⟩)⟩)⟩)⟩)⟩)⟩)⟩)⟩)⟩)⟩)⟩)⟩)⟩)⟩)⟩)⟩)⟩)⟩)⟩)⟩)⟩)⟩)⟩)⟩)⟩)⟩)⟩)⟩)⟩)⟩)⟩)⟩)⟩)⟩)
-- methods: names, tables (by program)
def y_Tre_init : MethodName := ⟨"RuleTree", "<init>", "()V"⟩
def T_Tre_init : List zTr := [(0, .aload_n 0, 1, 0, 0), (1, .invokespecial 1, 3, 0, 0), (4, .aload_n 0, 1, 0, 0), (5, .new 7, 3, 0, 0), (8, .dup, 1, 0, 0), (9, .invokespecial 9, 3, 0, 0), (12, .putfield 10, 3, 0, 0), (15, .aload_n 0, 1, 0, 0), (16, .new 16, 3, 0, 0), (19, .dup, 1, 0, 0), (20, .invokespecial 18, 3, 0, 0), (23, .putfield 19, 3, 0, 0), (26, .aload_n 0, 1, 0, 0), (27, .new 23, 3, 0, 0), (30, .dup, 1, 0, 0), (31, .invokespecial 25, 3, 0, 0), (34, .putfield 26, 3, 0, 0), (37, .aload_n 0, 1, 0, 0), (38, .new 30, 3, 0, 0), (41, .dup, 1, 0, 0), (42, .aload_n 0, 1, 0, 0), (43, .getfield 19, 3, 0, 0), (46, .invokespecial 32, 3, 0, 0), (49, .putfield 35, 3, 0, 0), (52, .aload_n 0, 1, 0, 0), (53, .new 39, 3, 0, 0), (56, .dup, 1, 0, 0), (57, .invokespecial 41, 3, 0, 0), (60, .putfield 42, 3, 0, 0), (63, .aload_n 0, 1, 0, 0), (64, .new 46, 3, 0, 0), (67, .dup, 1, 0, 0), (68, .aload_n 0, 1, 0, 0), (69, .getfield 19, 3, 0, 0), (72, .invokespecial 48, 3, 0, 0), (75, .putfield 49, 3, 0, 0), (78, .aload_n 0, 1, 0, 0), (79, .new 53, 3, 0, 0), (82, .dup, 1, 0, 0), (83, .invokespecial 55, 3, 0, 0), (86, .putfield 56, 3, 0, 0), (89, .aload_n 0, 1, 0, 0), (90, .new 60, 3, 0, 0), (93, .dup, 1, 0, 0), (94, .aload_n 0, 1, 0, 0), (95, .getfield 10, 3, 0, 0), (98, .aload_n 0, 1, 0, 0), (99, .getfield 49, 3, 0, 0), (102, .aload_n 0, 1, 0, 0), (103, .getfield 56, 3, 0, 0), (106, .invokespecial 62, 3, 0, 0), (109, .putfield 65, 3, 0, 0), (112, .aload_n 0, 1, 0, 0), (113, .new 69, 3, 0, 0), (116, .dup, 1, 0, 0), (117, .aload_n 0, 1, 0, 0), (118, .getfield 19, 3, 0, 0), (121, .aload_n 0, 1, 0, 0), (122, .getfield 49, 3, 0, 0), (125, .aload_n 0, 1, 0, 0), (126, .getfield 56, 3, 0, 0), (129, .invokespecial 71, 3, 0, 0), (132, .putfield 74, 3, 0, 0), (135, .aload_n 0, 1, 0, 0), (136, .new 78, 3, 0, 0), (139, .dup, 1, 0, 0), (140, .aload_n 0, 1, 0, 0), (141, .getfield 10, 3, 0, 0), (144, .aload_n 0, 1, 0, 0), (145, .getfield 49, 3, 0, 0), (148, .aload_n 0, 1, 0, 0), (149, .getfield 56, 3, 0, 0), (152, .invokespecial 80, 3, 0, 0), (155, .putfield 81, 3, 0, 0), (158, .aload_n 0, 1, 0, 0), (159, .iconst 0, 1, 0, 0), (160, .putfield 85, 3, 0, 0), (163, .aload_n 0, 1, 0, 0), (164, .iconst 0, 1, 0, 0), (165, .putfield 89, 3, 0, 0), (168, .return_, 1, 0, 0)]
theorem tk_Tre_init : zTok prog_1_method_1_code 1 T_Tre_init := by decide +kernel
def y_Tre_family : MethodName := ⟨"RuleTree", "family", "(IJ)I"⟩
def T_Tre_family : List zTr := [(0, .iload_n 1, 1, 0, 0), (1, .iconst 1, 1, 0, 1), (2, .if_icmp .lt 9, 3, 11, 0), (5, .iload_n 1, 1, 0, 0), (6, .bipush 64, 2, 0, 64), (8, .if_icmp .le 5, 3, 13, 0), (11, .iconst (-1), 1, 0, (-1)), (12, .ireturn, 1, 0, 0), (13, .iload_n 1, 1, 0, 0), (14, .bipush 64, 2, 0, 64), (16, .if_icmp .ge 13, 3, 29, 0), (19, .lload_n 2, 1, 0, 0), (20, .iload_n 1, 1, 0, 0), (21, .lushr, 1, 0, 0), (22, .lconst 0, 1, 0, 0), (23, .lcmp, 1, 0, 0), (24, .ifCond .eq 5, 3, 29, 0), (27, .iconst (-1), 1, 0, (-1)), (28, .ireturn, 1, 0, 0), (29, .aload_n 0, 1, 0, 0), (30, .getfield 10, 3, 0, 0), (33, .iload_n 1, 1, 0, 0), (34, .lload_n 2, 1, 0, 0), (35, .invokevirtual 92, 3, 0, 0), (38, .ireturn, 1, 0, 0)]
theorem tk_Tre_family : zTok prog_1_method_2_code 4 T_Tre_family := by decide +kernel
theorem yk_Tre_family : zY "RuleTree" y_Tre_family prog_1_method_2_code 4 (some Jvm.ClassFile.FieldType.int) 2 := ⟨wd_2_121, wd_2_119, wd_2_120, wd_1_1, by decide +kernel⟩
def y_Tre_any : MethodName := ⟨"RuleTree", "any", "()I"⟩
def T_Tre_any : List zTr := [(0, .aload_n 0, 1, 0, 0), (1, .getfield 19, 3, 0, 0), (4, .iconst 0, 1, 0, 0), (5, .iconst 0, 1, 0, 0), (6, .iconst 0, 1, 0, 0), (7, .iconst (-1), 1, 0, (-1)), (8, .invokevirtual 96, 3, 0, 0), (11, .ireturn, 1, 0, 0)]
theorem tk_Tre_any : zTok prog_1_method_3_code 1 T_Tre_any := by decide +kernel
theorem yk_Tre_any : zY "RuleTree" y_Tre_any prog_1_method_3_code 1 (some Jvm.ClassFile.FieldType.int) 0 := ⟨wd_2_134, wd_2_132, wd_2_133, wd_1_1, by decide +kernel⟩
def y_Tre_constant : MethodName := ⟨"RuleTree", "constant", "(II)I"⟩
def T_Tre_constant : List zTr := [(0, .iload_n 1, 1, 0, 0), (1, .ifCond .lt 8, 3, 9, 0), (4, .iload_n 1, 1, 0, 0), (5, .iconst 4, 1, 0, 4), (6, .if_icmp .lt 5, 3, 11, 0), (9, .iconst (-1), 1, 0, (-1)), (10, .ireturn, 1, 0, 0), (11, .iload_n 1, 1, 0, 0), (12, .iconst 2, 1, 0, 2), (13, .if_icmp .ne 16, 3, 29, 0), (16, .iload_n 2, 1, 0, 0), (17, .ifCond .lt 10, 3, 27, 0), (20, .iload_n 2, 1, 0, 0), (21, .sipush 256, 3, 0, 256), (24, .if_icmp .lt 5, 3, 29, 0), (27, .iconst (-1), 1, 0, (-1)), (28, .ireturn, 1, 0, 0), (29, .aload_n 0, 1, 0, 0), (30, .getfield 19, 3, 0, 0), (33, .iconst 1, 1, 0, 1), (34, .iload_n 1, 1, 0, 0), (35, .iload_n 2, 1, 0, 0), (36, .iconst (-1), 1, 0, (-1)), (37, .invokevirtual 96, 3, 0, 0), (40, .ireturn, 1, 0, 0)]
theorem tk_Tre_constant : zTok prog_1_method_4_code 3 T_Tre_constant := by decide +kernel
theorem yk_Tre_constant : zY "RuleTree" y_Tre_constant prog_1_method_4_code 3 (some Jvm.ClassFile.FieldType.int) 2 := ⟨wd_2_156, wd_2_154, wd_2_155, wd_1_1, by decide +kernel⟩
def y_Tre_built : MethodName := ⟨"RuleTree", "built", "(III)I"⟩
def T_Tre_built : List zTr := [(0, .aload_n 0, 1, 0, 0), (1, .getfield 10, 3, 0, 0), (4, .iload_n 1, 1, 0, 0), (5, .iload_n 2, 1, 0, 0), (6, .invokevirtual 100, 3, 0, 0), (9, .ifCond .ne 5, 3, 14, 0), (12, .iconst (-1), 1, 0, (-1)), (13, .ireturn, 1, 0, 0), (14, .aload_n 0, 1, 0, 0), (15, .getfield 10, 3, 0, 0), (18, .iload_n 1, 1, 0, 0), (19, .iload_n 2, 1, 0, 0), (20, .invokevirtual 104, 3, 0, 0), (23, .ifCond .eq 14, 3, 37, 0), (26, .aload_n 0, 1, 0, 0), (27, .getfield 19, 3, 0, 0), (30, .iload_n 3, 1, 0, 0), (31, .invokevirtual 107, 3, 0, 0), (34, .goto 13, 3, 47, 0), (37, .iload_n 3, 1, 0, 0), (38, .iconst (-1), 1, 0, (-1)), (39, .if_icmp .ne 7, 3, 46, 0), (42, .iconst 1, 1, 0, 1), (43, .goto 4, 3, 47, 0), (46, .iconst 0, 1, 0, 0), (47, .istore 4, 2, 0, 0), (49, .iload 4, 2, 0, 0), (51, .ifCond .eq 17, 3, 68, 0), (54, .aload_n 0, 1, 0, 0), (55, .getfield 19, 3, 0, 0), (58, .iconst 2, 1, 0, 2), (59, .iload_n 1, 1, 0, 0), (60, .iload_n 2, 1, 0, 0), (61, .iload_n 3, 1, 0, 0), (62, .invokevirtual 96, 3, 0, 0), (65, .goto 4, 3, 69, 0), (68, .iconst (-1), 1, 0, (-1)), (69, .ireturn, 1, 0, 0)]
theorem tk_Tre_built : zTok prog_1_method_5_code 5 T_Tre_built := by decide +kernel
theorem yk_Tre_built : zY "RuleTree" y_Tre_built prog_1_method_5_code 5 (some Jvm.ClassFile.FieldType.int) 3 := ⟨wd_2_160, wd_2_158, wd_2_159, wd_1_1, by decide +kernel⟩
def y_Tre_name : MethodName := ⟨"RuleTree", "name", "(II)I"⟩
def T_Tre_name : List zTr := [(0, .iload_n 1, 1, 0, 0), (1, .ifCond .lt 19, 3, 20, 0), (4, .iload_n 2, 1, 0, 0), (5, .iconst (-1), 1, 0, (-1)), (6, .if_icmp .eq 16, 3, 22, 0), (9, .aload_n 0, 1, 0, 0), (10, .getfield 19, 3, 0, 0), (13, .iload_n 2, 1, 0, 0), (14, .invokevirtual 107, 3, 0, 0), (17, .ifCond .ne 5, 3, 22, 0), (20, .iconst (-1), 1, 0, (-1)), (21, .ireturn, 1, 0, 0), (22, .aload_n 0, 1, 0, 0), (23, .getfield 19, 3, 0, 0), (26, .iconst 3, 1, 0, 3), (27, .iconst 0, 1, 0, 0), (28, .iload_n 1, 1, 0, 0), (29, .iload_n 2, 1, 0, 0), (30, .invokevirtual 96, 3, 0, 0), (33, .ireturn, 1, 0, 0)]
theorem tk_Tre_name : zTok prog_1_method_6_code 3 T_Tre_name := by decide +kernel
theorem yk_Tre_name : zY "RuleTree" y_Tre_name prog_1_method_6_code 3 (some Jvm.ClassFile.FieldType.int) 2 := ⟨wd_2_178, wd_2_176, wd_2_177, wd_1_1, by decide +kernel⟩
def y_Tre_push : MethodName := ⟨"RuleTree", "push", "(II)I"⟩
def T_Tre_push : List zTr := [(0, .aload_n 0, 1, 0, 0), (1, .getfield 19, 3, 0, 0), (4, .iload_n 2, 1, 0, 0), (5, .invokevirtual 107, 3, 0, 0), (8, .ifCond .eq 26, 3, 34, 0), (11, .iload_n 1, 1, 0, 0), (12, .ifCond .lt 22, 3, 34, 0), (15, .iload_n 1, 1, 0, 0), (16, .sipush 128, 3, 0, 128), (19, .if_icmp .ge 15, 3, 34, 0), (22, .aload_n 0, 1, 0, 0), (23, .getfield 26, 3, 0, 0), (26, .iload_n 1, 1, 0, 0), (27, .invokevirtual 111, 3, 0, 0), (30, .iconst (-1), 1, 0, (-1)), (31, .if_icmp .eq 5, 3, 36, 0), (34, .iconst (-1), 1, 0, (-1)), (35, .ireturn, 1, 0, 0), (36, .aload_n 0, 1, 0, 0), (37, .getfield 26, 3, 0, 0), (40, .iload_n 1, 1, 0, 0), (41, .iload_n 2, 1, 0, 0), (42, .invokevirtual 115, 3, 0, 0), (45, .aload_n 0, 1, 0, 0), (46, .getfield 26, 3, 0, 0), (49, .invokevirtual 119, 3, 0, 0), (52, .ireturn, 1, 0, 0)]
theorem tk_Tre_push : zTok prog_1_method_7_code 3 T_Tre_push := by decide +kernel
theorem yk_Tre_push : zY "RuleTree" y_Tre_push prog_1_method_7_code 3 (some Jvm.ClassFile.FieldType.int) 2 := ⟨wd_2_182, wd_2_180, wd_2_181, wd_1_1, by decide +kernel⟩
def y_Tre_record : MethodName := ⟨"RuleTree", "record", "(I)I"⟩
def T_Tre_record : List zTr := [(0, .iload_n 1, 1, 0, 0), (1, .ifCond .lt 21, 3, 22, 0), (4, .iload_n 1, 1, 0, 0), (5, .sipush 128, 3, 0, 128), (8, .if_icmp .gt 14, 3, 22, 0), (11, .aload_n 0, 1, 0, 0), (12, .getfield 26, 3, 0, 0), (15, .iload_n 1, 1, 0, 0), (16, .invokevirtual 123, 3, 0, 0), (19, .ifCond .eq 5, 3, 24, 0), (22, .iconst (-1), 1, 0, (-1)), (23, .ireturn, 1, 0, 0), (24, .aload_n 0, 1, 0, 0), (25, .getfield 19, 3, 0, 0), (28, .iload_n 1, 1, 0, 0), (29, .aload_n 0, 1, 0, 0), (30, .getfield 26, 3, 0, 0), (33, .invokevirtual 126, 3, 0, 0), (36, .istore_n 2, 1, 0, 0), (37, .iload_n 2, 1, 0, 0), (38, .bipush (-2), 2, 0, (-2)), (40, .if_icmp .eq 10, 3, 50, 0), (43, .aload_n 0, 1, 0, 0), (44, .getfield 26, 3, 0, 0), (47, .invokevirtual 130, 3, 0, 0), (50, .iload_n 2, 1, 0, 0), (51, .ireturn, 1, 0, 0)]
theorem tk_Tre_record : zTok prog_1_method_8_code 3 T_Tre_record := by decide +kernel
theorem yk_Tre_record : zY "RuleTree" y_Tre_record prog_1_method_8_code 3 (some Jvm.ClassFile.FieldType.int) 1 := ⟨wd_2_203, wd_2_201, wd_2_202, wd_1_1, by decide +kernel⟩
def y_Tre_rule : MethodName := ⟨"RuleTree", "rule", "(I)I"⟩
def T_Tre_rule : List zTr := [(0, .aload_n 0, 1, 0, 0), (1, .getfield 19, 3, 0, 0), (4, .iload_n 1, 1, 0, 0), (5, .invokevirtual 107, 3, 0, 0), (8, .ifCond .eq 11, 3, 19, 0), (11, .aload_n 0, 1, 0, 0), (12, .iload_n 1, 1, 0, 0), (13, .invokevirtual 133, 3, 0, 0), (16, .ifCond .ne 5, 3, 21, 0), (19, .iconst (-1), 1, 0, (-1)), (20, .ireturn, 1, 0, 0), (21, .aload_n 0, 1, 0, 0), (22, .getfield 85, 3, 0, 0), (25, .aload_n 0, 1, 0, 0), (26, .getfield 19, 3, 0, 0), (29, .iload_n 1, 1, 0, 0), (30, .invokevirtual 136, 3, 0, 0), (33, .iadd, 1, 0, 0), (34, .istore_n 2, 1, 0, 0), (35, .aload_n 0, 1, 0, 0), (36, .getfield 42, 3, 0, 0), (39, .invokevirtual 139, 3, 0, 0), (42, .sipush 1024, 3, 0, 1024), (45, .if_icmp .ge 10, 3, 55, 0), (48, .iload_n 2, 1, 0, 0), (49, .sipush 16384, 3, 0, 16384), (52, .if_icmp .le 6, 3, 58, 0), (55, .bipush (-2), 2, 0, (-2)), (57, .ireturn, 1, 0, 0), (58, .aload_n 0, 1, 0, 0), (59, .getfield 42, 3, 0, 0), (62, .iload_n 1, 1, 0, 0), (63, .invokevirtual 142, 3, 0, 0), (66, .istore_n 3, 1, 0, 0), (67, .aload_n 0, 1, 0, 0), (68, .iload_n 2, 1, 0, 0), (69, .putfield 85, 3, 0, 0), (72, .aload_n 0, 1, 0, 0), (73, .getfield 49, 3, 0, 0), (76, .iload_n 3, 1, 0, 0), (77, .iload_n 1, 1, 0, 0), (78, .invokevirtual 144, 3, 0, 0), (81, .aload_n 0, 1, 0, 0), (82, .iconst 0, 1, 0, 0), (83, .putfield 89, 3, 0, 0), (86, .iload_n 3, 1, 0, 0), (87, .ireturn, 1, 0, 0)]
theorem tk_Tre_rule : zTok prog_1_method_9_code 4 T_Tre_rule := by decide +kernel
theorem yk_Tre_rule : zY "RuleTree" y_Tre_rule prog_1_method_9_code 4 (some Jvm.ClassFile.FieldType.int) 1 := ⟨wd_2_233, wd_2_231, wd_2_232, wd_1_1, by decide +kernel⟩
def y_Tre_clear : MethodName := ⟨"RuleTree", "clear", "()I"⟩
def T_Tre_clear : List zTr := [(0, .aload_n 0, 1, 0, 0), (1, .getfield 42, 3, 0, 0), (4, .invokevirtual 139, 3, 0, 0), (7, .istore_n 1, 1, 0, 0), (8, .aload_n 0, 1, 0, 0), (9, .invokevirtual 147, 3, 0, 0), (12, .iload_n 1, 1, 0, 0), (13, .ireturn, 1, 0, 0)]
theorem tk_Tre_clear : zTok prog_1_method_10_code 2 T_Tre_clear := by decide +kernel
theorem yk_Tre_clear : zY "RuleTree" y_Tre_clear prog_1_method_10_code 2 (some Jvm.ClassFile.FieldType.int) 0 := ⟨wd_3_132, wd_3_130, wd_3_131, wd_1_1, by decide +kernel⟩
def y_Tre_forget : MethodName := ⟨"RuleTree", "forget", "()I"⟩
def T_Tre_forget : List zTr := [(0, .aload_n 0, 1, 0, 0), (1, .getfield 19, 3, 0, 0), (4, .invokevirtual 150, 3, 0, 0), (7, .istore_n 1, 1, 0, 0), (8, .aload_n 0, 1, 0, 0), (9, .invokevirtual 147, 3, 0, 0), (12, .aload_n 0, 1, 0, 0), (13, .getfield 10, 3, 0, 0), (16, .invokevirtual 151, 3, 0, 0), (19, .aload_n 0, 1, 0, 0), (20, .getfield 19, 3, 0, 0), (23, .invokevirtual 152, 3, 0, 0), (26, .aload_n 0, 1, 0, 0), (27, .getfield 26, 3, 0, 0), (30, .invokevirtual 130, 3, 0, 0), (33, .iload_n 1, 1, 0, 0), (34, .ireturn, 1, 0, 0)]
theorem tk_Tre_forget : zTok prog_1_method_11_code 2 T_Tre_forget := by decide +kernel
theorem yk_Tre_forget : zY "RuleTree" y_Tre_forget prog_1_method_11_code 2 (some Jvm.ClassFile.FieldType.int) 0 := ⟨wd_3_145, wd_3_143, wd_3_144, wd_1_1, by decide +kernel⟩
def y_Tre_grow : MethodName := ⟨"RuleTree", "grow", "()I"⟩
def T_Tre_grow : List zTr := [(0, .aload_n 0, 1, 0, 0), (1, .getfield 89, 3, 0, 0), (4, .ifCond .ne 35, 3, 39, 0), (7, .aload_n 0, 1, 0, 0), (8, .aload_n 0, 1, 0, 0), (9, .getfield 65, 3, 0, 0), (12, .aload_n 0, 1, 0, 0), (13, .getfield 42, 3, 0, 0), (16, .invokevirtual 139, 3, 0, 0), (19, .invokevirtual 153, 3, 0, 0), (22, .putfield 89, 3, 0, 0), (25, .aload_n 0, 1, 0, 0), (26, .invokevirtual 156, 3, 0, 0), (29, .ifCond .eq 10, 3, 39, 0), (32, .aload_n 0, 1, 0, 0), (33, .getfield 81, 3, 0, 0), (36, .invokevirtual 160, 3, 0, 0), (39, .aload_n 0, 1, 0, 0), (40, .getfield 89, 3, 0, 0), (43, .ireturn, 1, 0, 0)]
theorem tk_Tre_grow : zTok prog_1_method_12_code 1 T_Tre_grow := by decide +kernel
theorem yk_Tre_grow : zY "RuleTree" y_Tre_grow prog_1_method_12_code 1 (some Jvm.ClassFile.FieldType.int) 0 := ⟨wd_3_163, wd_3_161, wd_3_162, wd_1_1, by decide +kernel⟩
def y_Tre_run : MethodName := ⟨"RuleTree", "run", "(I)I"⟩
def T_Tre_run : List zTr := [(0, .aload_n 0, 1, 0, 0), (1, .invokevirtual 156, 3, 0, 0), (4, .ifCond .eq 25, 3, 29, 0), (7, .aload_n 0, 1, 0, 0), (8, .getfield 19, 3, 0, 0), (11, .iload_n 1, 1, 0, 0), (12, .invokevirtual 163, 3, 0, 0), (15, .ifCond .eq 14, 3, 29, 0), (18, .aload_n 0, 1, 0, 0), (19, .getfield 74, 3, 0, 0), (22, .iload_n 1, 1, 0, 0), (23, .invokevirtual 166, 3, 0, 0), (26, .goto 4, 3, 30, 0), (29, .iconst (-1), 1, 0, (-1)), (30, .ireturn, 1, 0, 0)]
theorem tk_Tre_run : zTok prog_1_method_13_code 2 T_Tre_run := by decide +kernel
theorem yk_Tre_run : zY "RuleTree" y_Tre_run prog_1_method_13_code 2 (some Jvm.ClassFile.FieldType.int) 1 := ⟨wd_4_140, wd_4_138, wd_4_139, wd_1_1, by decide +kernel⟩
def y_Tre_looks : MethodName := ⟨"RuleTree", "looks", "(I)I"⟩
def T_Tre_looks : List zTr := [(0, .aload_n 0, 1, 0, 0), (1, .invokevirtual 156, 3, 0, 0), (4, .ifCond .eq 14, 3, 18, 0), (7, .aload_n 0, 1, 0, 0), (8, .getfield 19, 3, 0, 0), (11, .iload_n 1, 1, 0, 0), (12, .invokevirtual 163, 3, 0, 0), (15, .ifCond .ne 5, 3, 20, 0), (18, .iconst (-1), 1, 0, (-1)), (19, .ireturn, 1, 0, 0), (20, .aload_n 0, 1, 0, 0), (21, .getfield 74, 3, 0, 0), (24, .iload_n 1, 1, 0, 0), (25, .invokevirtual 166, 3, 0, 0), (28, .bipush (-3), 2, 0, (-3)), (30, .if_icmp .ne 7, 3, 37, 0), (33, .iconst (-1), 1, 0, (-1)), (34, .goto 10, 3, 44, 0), (37, .aload_n 0, 1, 0, 0), (38, .getfield 74, 3, 0, 0), (41, .invokevirtual 169, 3, 0, 0), (44, .ireturn, 1, 0, 0)]
theorem tk_Tre_looks : zTok prog_1_method_14_code 2 T_Tre_looks := by decide +kernel
theorem yk_Tre_looks : zY "RuleTree" y_Tre_looks prog_1_method_14_code 2 (some Jvm.ClassFile.FieldType.int) 1 := ⟨wd_4_200, wd_4_198, wd_4_199, wd_1_1, by decide +kernel⟩
def y_Tre_first : MethodName := ⟨"RuleTree", "first", "(I)I"⟩
def T_Tre_first : List zTr := [(0, .aload_n 0, 1, 0, 0), (1, .getfield 19, 3, 0, 0), (4, .iload_n 1, 1, 0, 0), (5, .invokevirtual 163, 3, 0, 0), (8, .ifCond .ne 5, 3, 13, 0), (11, .iconst (-1), 1, 0, (-1)), (12, .ireturn, 1, 0, 0), (13, .iconst 0, 1, 0, 0), (14, .istore_n 2, 1, 0, 0), (15, .iload_n 2, 1, 0, 0), (16, .aload_n 0, 1, 0, 0), (17, .getfield 42, 3, 0, 0), (20, .invokevirtual 139, 3, 0, 0), (23, .if_icmp .ge 30, 3, 53, 0), (26, .aload_n 0, 1, 0, 0), (27, .getfield 35, 3, 0, 0), (30, .aload_n 0, 1, 0, 0), (31, .getfield 42, 3, 0, 0), (34, .iload_n 2, 1, 0, 0), (35, .invokevirtual 172, 3, 0, 0), (38, .iload_n 1, 1, 0, 0), (39, .invokevirtual 173, 3, 0, 0), (42, .ifCond .eq 5, 3, 47, 0), (45, .iload_n 2, 1, 0, 0), (46, .ireturn, 1, 0, 0), (47, .iinc 2 1, 3, 0, 1), (50, .goto (-35), 3, 15, 0), (53, .iconst (-1), 1, 0, (-1)), (54, .ireturn, 1, 0, 0)]
theorem tk_Tre_first : zTok prog_1_method_15_code 3 T_Tre_first := by decide +kernel
theorem yk_Tre_first : zY "RuleTree" y_Tre_first prog_1_method_15_code 3 (some Jvm.ClassFile.FieldType.int) 1 := ⟨wd_4_208, wd_4_206, wd_4_207, wd_1_1, by decide +kernel⟩
def y_Tre_fits : MethodName := ⟨"RuleTree", "fits", "(I)Z"⟩
def T_Tre_fits : List zTr := [(0, .aload_n 0, 1, 0, 0), (1, .getfield 19, 3, 0, 0), (4, .iload_n 1, 1, 0, 0), (5, .invokevirtual 163, 3, 0, 0), (8, .ifCond .eq 15, 3, 23, 0), (11, .aload_n 0, 1, 0, 0), (12, .iload_n 1, 1, 0, 0), (13, .invokevirtual 133, 3, 0, 0), (16, .ifCond .eq 7, 3, 23, 0), (19, .iconst 1, 1, 0, 1), (20, .goto 4, 3, 24, 0), (23, .iconst 0, 1, 0, 0), (24, .ireturn, 1, 0, 0)]
theorem tk_Tre_fits : zTok prog_1_method_16_code 2 T_Tre_fits := by decide +kernel
theorem yk_Tre_fits : zY "RuleTree" y_Tre_fits prog_1_method_16_code 2 (some Jvm.ClassFile.FieldType.boolean) 1 := ⟨wd_4_216, wd_4_214, wd_4_215, wd_1_1, by decide +kernel⟩
def y_Tre_ends : MethodName := ⟨"RuleTree", "ends", "(I)I"⟩
def T_Tre_ends : List zTr := [(0, .aload_n 0, 1, 0, 0), (1, .invokevirtual 156, 3, 0, 0), (4, .ifCond .eq 19, 3, 23, 0), (7, .iload_n 1, 1, 0, 0), (8, .iconst (-1), 1, 0, (-1)), (9, .if_icmp .lt 14, 3, 23, 0), (12, .iload_n 1, 1, 0, 0), (13, .aload_n 0, 1, 0, 0), (14, .getfield 42, 3, 0, 0), (17, .invokevirtual 139, 3, 0, 0), (20, .if_icmp .lt 5, 3, 25, 0), (23, .iconst (-1), 1, 0, (-1)), (24, .ireturn, 1, 0, 0), (25, .aload_n 0, 1, 0, 0), (26, .getfield 56, 3, 0, 0), (29, .iload_n 1, 1, 0, 0), (30, .invokevirtual 176, 3, 0, 0), (33, .ireturn, 1, 0, 0)]
theorem tk_Tre_ends : zTok prog_1_method_17_code 2 T_Tre_ends := by decide +kernel
theorem yk_Tre_ends : zY "RuleTree" y_Tre_ends prog_1_method_17_code 2 (some Jvm.ClassFile.FieldType.int) 1 := ⟨wd_4_220, wd_4_218, wd_4_219, wd_1_1, by decide +kernel⟩
def y_Tre_depth : MethodName := ⟨"RuleTree", "depth", "()I"⟩
def T_Tre_depth : List zTr := [(0, .aload_n 0, 1, 0, 0), (1, .invokevirtual 156, 3, 0, 0), (4, .ifCond .eq 13, 3, 17, 0), (7, .aload_n 0, 1, 0, 0), (8, .getfield 56, 3, 0, 0), (11, .invokevirtual 179, 3, 0, 0), (14, .goto 4, 3, 18, 0), (17, .iconst (-1), 1, 0, (-1)), (18, .ireturn, 1, 0, 0)]
theorem tk_Tre_depth : zTok prog_1_method_18_code 1 T_Tre_depth := by decide +kernel
theorem yk_Tre_depth : zY "RuleTree" y_Tre_depth prog_1_method_18_code 1 (some Jvm.ClassFile.FieldType.int) 0 := ⟨wd_4_228, wd_4_226, wd_4_227, wd_1_1, by decide +kernel⟩
def y_Tre_missing : MethodName := ⟨"RuleTree", "missing", "(JI)I"⟩
def T_Tre_missing : List zTr := [(0, .aload_n 0, 1, 0, 0), (1, .invokevirtual 156, 3, 0, 0), (4, .ifCond .eq 15, 3, 19, 0), (7, .aload_n 0, 1, 0, 0), (8, .getfield 81, 3, 0, 0), (11, .lload_n 1, 1, 0, 0), (12, .iload_n 3, 1, 0, 0), (13, .invokevirtual 182, 3, 0, 0), (16, .goto 4, 3, 20, 0), (19, .iconst (-1), 1, 0, (-1)), (20, .ireturn, 1, 0, 0)]
theorem tk_Tre_missing : zTok prog_1_method_19_code 4 T_Tre_missing := by decide +kernel
theorem yk_Tre_missing : zY "RuleTree" y_Tre_missing prog_1_method_19_code 4 (some Jvm.ClassFile.FieldType.int) 2 := ⟨wd_4_237, wd_4_235, wd_4_236, wd_1_1, by decide +kernel⟩
def y_Tre_count : MethodName := ⟨"RuleTree", "count", "(I)I"⟩
def T_Tre_count : List zTr := [(0, .iload_n 1, 1, 0, 0), (1, .tableswitch 83 0 4 #[35, 43, 51, 59, 67], 35, 0, 0), (36, .aload_n 0, 1, 0, 0), (37, .getfield 10, 3, 0, 0), (40, .invokevirtual 186, 3, 0, 0), (43, .ireturn, 1, 0, 0), (44, .aload_n 0, 1, 0, 0), (45, .getfield 19, 3, 0, 0), (48, .invokevirtual 150, 3, 0, 0), (51, .ireturn, 1, 0, 0), (52, .aload_n 0, 1, 0, 0), (53, .getfield 26, 3, 0, 0), (56, .invokevirtual 119, 3, 0, 0), (59, .ireturn, 1, 0, 0), (60, .aload_n 0, 1, 0, 0), (61, .getfield 42, 3, 0, 0), (64, .invokevirtual 139, 3, 0, 0), (67, .ireturn, 1, 0, 0), (68, .aload_n 0, 1, 0, 0), (69, .invokevirtual 156, 3, 0, 0), (72, .ifCond .eq 10, 3, 82, 0), (75, .aload_n 0, 1, 0, 0), (76, .getfield 89, 3, 0, 0), (79, .goto 4, 3, 83, 0), (82, .iconst 0, 1, 0, 0), (83, .ireturn, 1, 0, 0), (84, .iconst (-1), 1, 0, (-1)), (85, .ireturn, 1, 0, 0)]
theorem tk_Tre_count : zTok prog_1_method_20_code 2 T_Tre_count := by decide +kernel
theorem yk_Tre_count : zY "RuleTree" y_Tre_count prog_1_method_20_code 2 (some Jvm.ClassFile.FieldType.int) 1 := ⟨wd_5_26, wd_5_24, wd_5_25, wd_1_1, by decide +kernel⟩
def y_Tre_hasTree : MethodName := ⟨"RuleTree", "hasTree", "()Z"⟩
def T_Tre_hasTree : List zTr := [(0, .aload_n 0, 1, 0, 0), (1, .getfield 89, 3, 0, 0), (4, .ifCond .le 7, 3, 11, 0), (7, .iconst 1, 1, 0, 1), (8, .goto 4, 3, 12, 0), (11, .iconst 0, 1, 0, 0), (12, .ireturn, 1, 0, 0)]
theorem tk_Tre_hasTree : zTok prog_1_method_21_code 1 T_Tre_hasTree := by decide +kernel
theorem yk_Tre_hasTree : zY "RuleTree" y_Tre_hasTree prog_1_method_21_code 1 (some Jvm.ClassFile.FieldType.boolean) 0 := ⟨wd_4_92, wd_4_91, ws_3_3, wd_1_1, by decide +kernel⟩
def y_Tre_goesWithRules : MethodName := ⟨"RuleTree", "goesWithRules", "(I)Z"⟩
def T_Tre_goesWithRules : List zTr := [(0, .iconst 1, 1, 0, 1), (1, .istore_n 2, 1, 0, 0), (2, .iconst 0, 1, 0, 0), (3, .istore_n 3, 1, 0, 0), (4, .iload_n 2, 1, 0, 0), (5, .ifCond .eq 37, 3, 42, 0), (8, .iload_n 3, 1, 0, 0), (9, .aload_n 0, 1, 0, 0), (10, .getfield 42, 3, 0, 0), (13, .invokevirtual 139, 3, 0, 0), (16, .if_icmp .ge 26, 3, 42, 0), (19, .aload_n 0, 1, 0, 0), (20, .getfield 35, 3, 0, 0), (23, .aload_n 0, 1, 0, 0), (24, .getfield 42, 3, 0, 0), (27, .iload_n 3, 1, 0, 0), (28, .invokevirtual 172, 3, 0, 0), (31, .iload_n 1, 1, 0, 0), (32, .invokevirtual 187, 3, 0, 0), (35, .istore_n 2, 1, 0, 0), (36, .iinc 3 1, 3, 0, 1), (39, .goto (-35), 3, 4, 0), (42, .iload_n 2, 1, 0, 0), (43, .ireturn, 1, 0, 0)]
theorem tk_Tre_goesWithRules : zTok prog_1_method_22_code 4 T_Tre_goesWithRules := by decide +kernel
theorem yk_Tre_goesWithRules : zY "RuleTree" y_Tre_goesWithRules prog_1_method_22_code 4 (some Jvm.ClassFile.FieldType.boolean) 1 := ⟨wd_2_237, wd_2_236, ws_1_5, wd_1_1, by decide +kernel⟩
def y_Tre_dropRules : MethodName := ⟨"RuleTree", "dropRules", "()V"⟩
def T_Tre_dropRules : List zTr := [(0, .aload_n 0, 1, 0, 0), (1, .getfield 42, 3, 0, 0), (4, .invokevirtual 190, 3, 0, 0), (7, .aload_n 0, 1, 0, 0), (8, .iconst 0, 1, 0, 0), (9, .putfield 85, 3, 0, 0), (12, .aload_n 0, 1, 0, 0), (13, .getfield 49, 3, 0, 0), (16, .invokevirtual 191, 3, 0, 0), (19, .aload_n 0, 1, 0, 0), (20, .iconst 0, 1, 0, 0), (21, .putfield 89, 3, 0, 0), (24, .return_, 1, 0, 0)]
theorem tk_Tre_dropRules : zTok prog_1_method_23_code 1 T_Tre_dropRules := by decide +kernel
theorem yk_Tre_dropRules : zY "RuleTree" y_Tre_dropRules prog_1_method_23_code 1 none 0 := ⟨wd_3_136, wd_3_135, ws_2_6, wd_1_1, by decide +kernel⟩
def y_Fam_init : MethodName := ⟨"RuleTree$Families", "<init>", "()V"⟩
def T_Fam_init : List zTr := [(0, .aload_n 0, 1, 0, 0), (1, .invokespecial 3, 3, 0, 0), (4, .aload_n 0, 1, 0, 0), (5, .new 9, 3, 0, 0), (8, .dup, 1, 0, 0), (9, .invokespecial 11, 3, 0, 0), (12, .putfield 12, 3, 0, 0), (15, .aload_n 0, 1, 0, 0), (16, .sipush 1024, 3, 0, 1024), (19, .newarray .long, 2, 0, 0), (21, .putfield 18, 3, 0, 0), (24, .return_, 1, 0, 0)]
theorem tk_Fam_init : zTok prog_2_method_1_code 1 T_Fam_init := by decide +kernel
def y_Fam_size : MethodName := ⟨"RuleTree$Families", "size", "()I"⟩
def T_Fam_size : List zTr := [(0, .aload_n 0, 1, 0, 0), (1, .getfield 12, 3, 0, 0), (4, .invokevirtual 22, 3, 0, 0), (7, .ireturn, 1, 0, 0)]
theorem tk_Fam_size : zTok prog_2_method_2_code 1 T_Fam_size := by decide +kernel
theorem yk_Fam_size : zY "RuleTree$Families" y_Fam_size prog_2_method_2_code 1 (some Jvm.ClassFile.FieldType.int) 0 := ⟨wd_5_30, wd_5_28, wd_5_29, wd_1_2, by decide +kernel⟩
def y_Fam_add : MethodName := ⟨"RuleTree$Families", "add", "(IJ)I"⟩
def T_Fam_add : List zTr := [(0, .aload_n 0, 1, 0, 0), (1, .getfield 12, 3, 0, 0), (4, .invokevirtual 22, 3, 0, 0), (7, .istore 4, 2, 0, 0), (9, .iload 4, 2, 0, 0), (11, .ifCond .lt 13, 3, 24, 0), (14, .iload 4, 2, 0, 0), (16, .aload_n 0, 1, 0, 0), (17, .getfield 18, 3, 0, 0), (20, .arraylength, 1, 0, 0), (21, .if_icmp .lt 6, 3, 27, 0), (24, .bipush (-2), 2, 0, (-2)), (26, .ireturn, 1, 0, 0), (27, .aload_n 0, 1, 0, 0), (28, .getfield 18, 3, 0, 0), (31, .iload 4, 2, 0, 0), (33, .lload_n 2, 1, 0, 0), (34, .lastore, 1, 0, 0), (35, .aload_n 0, 1, 0, 0), (36, .getfield 12, 3, 0, 0), (39, .iload_n 1, 1, 0, 0), (40, .invokevirtual 26, 3, 0, 0), (43, .ireturn, 1, 0, 0)]
theorem tk_Fam_add : zTok prog_2_method_3_code 5 T_Fam_add := by decide +kernel
theorem yk_Fam_add : zY "RuleTree$Families" y_Fam_add prog_2_method_3_code 5 (some Jvm.ClassFile.FieldType.int) 2 := ⟨wd_2_125, wd_2_123, wd_2_124, wd_1_2, by decide +kernel⟩
def y_Fam_tags : MethodName := ⟨"RuleTree$Families", "tags", "(I)I"⟩
def T_Fam_tags : List zTr := [(0, .aload_n 0, 1, 0, 0), (1, .getfield 12, 3, 0, 0), (4, .iload_n 1, 1, 0, 0), (5, .invokevirtual 30, 3, 0, 0), (8, .ireturn, 1, 0, 0)]
theorem tk_Fam_tags : zTok prog_2_method_4_code 2 T_Fam_tags := by decide +kernel
theorem yk_Fam_tags : zY "RuleTree$Families" y_Fam_tags prog_2_method_4_code 2 (some Jvm.ClassFile.FieldType.int) 1 := ⟨wd_4_84, wd_4_82, wd_4_83, wd_1_2, by decide +kernel⟩
def y_Fam_hasTag : MethodName := ⟨"RuleTree$Families", "hasTag", "(II)Z"⟩
def T_Fam_hasTag : List zTr := [(0, .iload_n 2, 1, 0, 0), (1, .ifCond .lt 19, 3, 20, 0), (4, .iload_n 2, 1, 0, 0), (5, .aload_n 0, 1, 0, 0), (6, .getfield 12, 3, 0, 0), (9, .iload_n 1, 1, 0, 0), (10, .invokevirtual 30, 3, 0, 0), (13, .if_icmp .ge 7, 3, 20, 0), (16, .iconst 1, 1, 0, 1), (17, .goto 4, 3, 21, 0), (20, .iconst 0, 1, 0, 0), (21, .ireturn, 1, 0, 0)]
theorem tk_Fam_hasTag : zTok prog_2_method_5_code 3 T_Fam_hasTag := by decide +kernel
theorem yk_Fam_hasTag : zY "RuleTree$Families" y_Fam_hasTag prog_2_method_5_code 3 (some Jvm.ClassFile.FieldType.boolean) 2 := ⟨wd_2_164, wd_2_162, wd_2_163, wd_1_2, by decide +kernel⟩
def y_Fam_takesArgument : MethodName := ⟨"RuleTree$Families", "takesArgument", "(II)Z"⟩
def T_Fam_takesArgument : List zTr := [(0, .aload_n 0, 1, 0, 0), (1, .iload_n 1, 1, 0, 0), (2, .iload_n 2, 1, 0, 0), (3, .invokevirtual 33, 3, 0, 0), (6, .ifCond .eq 35, 3, 41, 0), (9, .iload_n 1, 1, 0, 0), (10, .ifCond .lt 31, 3, 41, 0), (13, .iload_n 1, 1, 0, 0), (14, .aload_n 0, 1, 0, 0), (15, .getfield 18, 3, 0, 0), (18, .arraylength, 1, 0, 0), (19, .if_icmp .ge 22, 3, 41, 0), (22, .aload_n 0, 1, 0, 0), (23, .getfield 18, 3, 0, 0), (26, .iload_n 1, 1, 0, 0), (27, .laload, 1, 0, 0), (28, .iload_n 2, 1, 0, 0), (29, .lushr, 1, 0, 0), (30, .lconst 1, 1, 0, 0), (31, .land, 1, 0, 0), (32, .lconst 0, 1, 0, 0), (33, .lcmp, 1, 0, 0), (34, .ifCond .eq 7, 3, 41, 0), (37, .iconst 1, 1, 0, 1), (38, .goto 4, 3, 42, 0), (41, .iconst 0, 1, 0, 0), (42, .ireturn, 1, 0, 0)]
theorem tk_Fam_takesArgument : zTok prog_2_method_6_code 3 T_Fam_takesArgument := by decide +kernel
theorem yk_Fam_takesArgument : zY "RuleTree$Families" y_Fam_takesArgument prog_2_method_6_code 3 (some Jvm.ClassFile.FieldType.boolean) 2 := ⟨wd_2_169, wd_2_167, wd_2_168, wd_1_2, by decide +kernel⟩
def y_Fam_empty : MethodName := ⟨"RuleTree$Families", "empty", "()V"⟩
def T_Fam_empty : List zTr := [(0, .aload_n 0, 1, 0, 0), (1, .getfield 12, 3, 0, 0), (4, .invokevirtual 37, 3, 0, 0), (7, .return_, 1, 0, 0)]
theorem tk_Fam_empty : zTok prog_2_method_7_code 1 T_Fam_empty := by decide +kernel
theorem yk_Fam_empty : zY "RuleTree$Families" y_Fam_empty prog_2_method_7_code 1 none 0 := ⟨wd_3_153, wd_3_151, wd_3_152, wd_1_2, by decide +kernel⟩
def y_Gap_init : MethodName := ⟨"RuleTree$Gap", "<init>", "(LRuleTree$Families;LRuleTree$Parts;LRuleTree$Nodes;)V"⟩
def T_Gap_init : List zTr := [(0, .aload_n 0, 1, 0, 0), (1, .invokespecial 3, 3, 0, 0), (4, .aload_n 0, 1, 0, 0), (5, .aload_n 1, 1, 0, 0), (6, .putfield 9, 3, 0, 0), (9, .aload_n 0, 1, 0, 0), (10, .aload_n 2, 1, 0, 0), (11, .putfield 15, 3, 0, 0), (14, .aload_n 0, 1, 0, 0), (15, .aload_n 3, 1, 0, 0), (16, .putfield 19, 3, 0, 0), (19, .aload_n 0, 1, 0, 0), (20, .new 23, 3, 0, 0), (23, .dup, 1, 0, 0), (24, .invokespecial 25, 3, 0, 0), (27, .putfield 26, 3, 0, 0), (30, .aload_n 0, 1, 0, 0), (31, .new 23, 3, 0, 0), (34, .dup, 1, 0, 0), (35, .invokespecial 25, 3, 0, 0), (38, .putfield 30, 3, 0, 0), (41, .aload_n 0, 1, 0, 0), (42, .iconst (-1), 1, 0, (-1)), (43, .putfield 33, 3, 0, 0), (46, .return_, 1, 0, 0)]
theorem tk_Gap_init : zTok prog_3_method_1_code 4 T_Gap_init := by decide +kernel
def y_Gap_find : MethodName := ⟨"RuleTree$Gap", "find", "()V"⟩
def T_Gap_find : List zTr := [(0, .aload_n 0, 1, 0, 0), (1, .getfield 26, 3, 0, 0), (4, .aload_n 0, 1, 0, 0), (5, .getfield 15, 3, 0, 0), (8, .invokevirtual 37, 3, 0, 0), (11, .iconst 0, 1, 0, 0), (12, .invokevirtual 43, 3, 0, 0), (15, .aload_n 0, 1, 0, 0), (16, .getfield 30, 3, 0, 0), (19, .aload_n 0, 1, 0, 0), (20, .getfield 15, 3, 0, 0), (23, .invokevirtual 37, 3, 0, 0), (26, .iconst (-1), 1, 0, (-1)), (27, .invokevirtual 43, 3, 0, 0), (30, .aload_n 0, 1, 0, 0), (31, .aload_n 0, 1, 0, 0), (32, .getfield 19, 3, 0, 0), (35, .iconst (-1), 1, 0, (-1)), (36, .invokevirtual 47, 3, 0, 0), (39, .putfield 33, 3, 0, 0), (42, .aload_n 0, 1, 0, 0), (43, .getfield 33, 3, 0, 0), (46, .istore_n 1, 1, 0, 0), (47, .aload_n 0, 1, 0, 0), (48, .getfield 19, 3, 0, 0), (51, .invokevirtual 53, 3, 0, 0), (54, .istore_n 2, 1, 0, 0), (55, .iload_n 2, 1, 0, 0), (56, .ifCond .le 50, 3, 106, 0), (59, .aload_n 0, 1, 0, 0), (60, .getfield 19, 3, 0, 0), (63, .iload_n 1, 1, 0, 0), (64, .invokevirtual 54, 3, 0, 0), (67, .iconst (-1), 1, 0, (-1)), (68, .if_icmp .eq 38, 3, 106, 0), (71, .aload_n 0, 1, 0, 0), (72, .aload_n 0, 1, 0, 0), (73, .getfield 19, 3, 0, 0), (76, .iload_n 1, 1, 0, 0), (77, .invokevirtual 54, 3, 0, 0), (80, .aload_n 0, 1, 0, 0), (81, .getfield 19, 3, 0, 0), (84, .iload_n 1, 1, 0, 0), (85, .invokevirtual 57, 3, 0, 0), (88, .invokevirtual 60, 3, 0, 0), (91, .aload_n 0, 1, 0, 0), (92, .getfield 19, 3, 0, 0), (95, .iload_n 1, 1, 0, 0), (96, .invokevirtual 54, 3, 0, 0), (99, .istore_n 1, 1, 0, 0), (100, .iinc 2 (-1), 3, 0, (-1)), (103, .goto (-48), 3, 55, 0), (106, .return_, 1, 0, 0)]
theorem tk_Gap_find : zTok prog_3_method_2_code 3 T_Gap_find := by decide +kernel
theorem yk_Gap_find : zY "RuleTree$Gap" y_Gap_find prog_3_method_2_code 3 none 0 := ⟨wd_4_96, wd_4_94, wd_4_95, wd_1_14, by decide +kernel⟩
def y_Gap_tell : MethodName := ⟨"RuleTree$Gap", "tell", "(JI)I"⟩
def T_Gap_tell : List zTr := [(0, .aload_n 0, 1, 0, 0), (1, .getfield 33, 3, 0, 0), (4, .iconst (-1), 1, 0, (-1)), (5, .if_icmp .ne 5, 3, 10, 0), (8, .iconst (-1), 1, 0, (-1)), (9, .ireturn, 1, 0, 0), (10, .iconst 0, 1, 0, 0), (11, .istore 4, 2, 0, 0), (13, .iconst 0, 1, 0, 0), (14, .istore 5, 2, 0, 0), (16, .iload 5, 2, 0, 0), (18, .bipush 8, 2, 0, 8), (20, .if_icmp .ge 47, 3, 67, 0), (23, .iload 4, 2, 0, 0), (25, .iconst (-1), 1, 0, (-1)), (26, .if_icmp .eq 41, 3, 67, 0), (29, .lload_n 1, 1, 0, 0), (30, .bipush 8, 2, 0, 8), (32, .iload 5, 2, 0, 0), (34, .imul, 1, 0, 0), (35, .lushr, 1, 0, 0), (36, .ldc2_w 63, 3, 0, 0), (39, .land, 1, 0, 0), (40, .l2i, 1, 0, 0), (41, .istore 6, 2, 0, 0), (43, .iload 6, 2, 0, 0), (45, .ifCond .ne 6, 3, 51, 0), (48, .goto 19, 3, 67, 0), (51, .aload_n 0, 1, 0, 0), (52, .iload 4, 2, 0, 0), (54, .iload 6, 2, 0, 0), (56, .invokevirtual 65, 3, 0, 0), (59, .istore 4, 2, 0, 0), (61, .iinc 5 1, 3, 0, 1), (64, .goto (-48), 3, 16, 0), (67, .iload 4, 2, 0, 0), (69, .iconst (-1), 1, 0, (-1)), (70, .if_icmp .ne 7, 3, 77, 0), (73, .iconst (-1), 1, 0, (-1)), (74, .goto 10, 3, 84, 0), (77, .aload_n 0, 1, 0, 0), (78, .iload 4, 2, 0, 0), (80, .iload_n 3, 1, 0, 0), (81, .invokevirtual 69, 3, 0, 0), (84, .ireturn, 1, 0, 0)]
theorem tk_Gap_tell : zTok prog_3_method_3_code 7 T_Gap_tell := by decide +kernel
theorem yk_Gap_tell : zY "RuleTree$Gap" y_Gap_tell prog_3_method_3_code 7 (some Jvm.ClassFile.FieldType.int) 2 := ⟨wd_5_1, wd_4_239, wd_5_0, wd_1_14, by decide +kernel⟩
def y_Gap_tellBranch : MethodName := ⟨"RuleTree$Gap", "tellBranch", "(II)V"⟩
def T_Gap_tellBranch : List zTr := [(0, .aload_n 0, 1, 0, 0), (1, .getfield 19, 3, 0, 0), (4, .iload_n 1, 1, 0, 0), (5, .invokevirtual 72, 3, 0, 0), (8, .istore_n 3, 1, 0, 0), (9, .aload_n 0, 1, 0, 0), (10, .getfield 26, 3, 0, 0), (13, .iload_n 3, 1, 0, 0), (14, .aload_n 0, 1, 0, 0), (15, .getfield 15, 3, 0, 0), (18, .iload_n 3, 1, 0, 0), (19, .invokevirtual 75, 3, 0, 0), (22, .invokevirtual 78, 3, 0, 0), (25, .aload_n 0, 1, 0, 0), (26, .getfield 30, 3, 0, 0), (29, .iload_n 3, 1, 0, 0), (30, .iload_n 2, 1, 0, 0), (31, .iconst (-1), 1, 0, (-1)), (32, .if_icmp .ne 11, 3, 43, 0), (35, .aload_n 0, 1, 0, 0), (36, .iload_n 1, 1, 0, 0), (37, .invokevirtual 81, 3, 0, 0), (40, .goto 11, 3, 51, 0), (43, .aload_n 0, 1, 0, 0), (44, .getfield 15, 3, 0, 0), (47, .iload_n 2, 1, 0, 0), (48, .invokevirtual 84, 3, 0, 0), (51, .invokevirtual 78, 3, 0, 0), (54, .aload_n 0, 1, 0, 0), (55, .getfield 15, 3, 0, 0), (58, .iload_n 3, 1, 0, 0), (59, .invokevirtual 87, 3, 0, 0), (62, .istore 4, 2, 0, 0), (64, .aload_n 0, 1, 0, 0), (65, .getfield 15, 3, 0, 0), (68, .invokevirtual 37, 3, 0, 0), (71, .istore 5, 2, 0, 0), (73, .iload 5, 2, 0, 0), (75, .ifCond .le 43, 3, 118, 0), (78, .aload_n 0, 1, 0, 0), (79, .getfield 15, 3, 0, 0), (82, .iload 4, 2, 0, 0), (84, .invokevirtual 75, 3, 0, 0), (87, .iconst 4, 1, 0, 4), (88, .if_icmp .ne 30, 3, 118, 0), (91, .aload_n 0, 1, 0, 0), (92, .getfield 26, 3, 0, 0), (95, .iload 4, 2, 0, 0), (97, .iconst 4, 1, 0, 4), (98, .invokevirtual 78, 3, 0, 0), (101, .aload_n 0, 1, 0, 0), (102, .getfield 15, 3, 0, 0), (105, .iload 4, 2, 0, 0), (107, .invokevirtual 87, 3, 0, 0), (110, .istore 4, 2, 0, 0), (112, .iinc 5 (-1), 3, 0, (-1)), (115, .goto (-42), 3, 73, 0), (118, .return_, 1, 0, 0)]
theorem tk_Gap_tellBranch : zTok prog_3_method_4_code 6 T_Gap_tellBranch := by decide +kernel
theorem yk_Gap_tellBranch : zY "RuleTree$Gap" y_Gap_tellBranch prog_3_method_4_code 6 none 2 := ⟨wd_4_113, wd_4_112, ws_3_5, wd_1_14, by decide +kernel⟩
def y_Gap_leastOther : MethodName := ⟨"RuleTree$Gap", "leastOther", "(I)I"⟩
def T_Gap_leastOther : List zTr := [(0, .iconst 0, 1, 0, 0), (1, .istore_n 2, 1, 0, 0), (2, .aload_n 0, 1, 0, 0), (3, .getfield 19, 3, 0, 0), (6, .iload_n 1, 1, 0, 0), (7, .invokevirtual 88, 3, 0, 0), (10, .istore_n 3, 1, 0, 0), (11, .aload_n 0, 1, 0, 0), (12, .getfield 19, 3, 0, 0), (15, .invokevirtual 53, 3, 0, 0), (18, .istore 4, 2, 0, 0), (20, .iload 4, 2, 0, 0), (22, .ifCond .le 55, 3, 77, 0), (25, .iload_n 3, 1, 0, 0), (26, .iconst (-1), 1, 0, (-1)), (27, .if_icmp .eq 50, 3, 77, 0), (30, .aload_n 0, 1, 0, 0), (31, .getfield 19, 3, 0, 0), (34, .iload_n 3, 1, 0, 0), (35, .invokevirtual 57, 3, 0, 0), (38, .istore 5, 2, 0, 0), (40, .iload 5, 2, 0, 0), (42, .iconst (-1), 1, 0, (-1)), (43, .if_icmp .eq 19, 3, 62, 0), (46, .aload_n 0, 1, 0, 0), (47, .getfield 15, 3, 0, 0), (50, .iload 5, 2, 0, 0), (52, .invokevirtual 84, 3, 0, 0), (55, .iload_n 2, 1, 0, 0), (56, .if_icmp .ne 6, 3, 62, 0), (59, .iinc 2 1, 3, 0, 1), (62, .aload_n 0, 1, 0, 0), (63, .getfield 19, 3, 0, 0), (66, .iload_n 3, 1, 0, 0), (67, .invokevirtual 91, 3, 0, 0), (70, .istore_n 3, 1, 0, 0), (71, .iinc 4 (-1), 3, 0, (-1)), (74, .goto (-54), 3, 20, 0), (77, .iload_n 2, 1, 0, 0), (78, .ireturn, 1, 0, 0)]
theorem tk_Gap_leastOther : zTok prog_3_method_5_code 6 T_Gap_leastOther := by decide +kernel
theorem yk_Gap_leastOther : zY "RuleTree$Gap" y_Gap_leastOther prog_3_method_5_code 6 (some Jvm.ClassFile.FieldType.int) 1 := ⟨wd_4_120, wd_4_119, ws_3_6, wd_1_14, by decide +kernel⟩
def y_Gap_tellPart : MethodName := ⟨"RuleTree$Gap", "tellPart", "(II)I"⟩
def T_Gap_tellPart : List zTr := [(0, .iload_n 1, 1, 0, 0), (1, .bipush (-4), 2, 0, (-4)), (3, .if_icmp .ne 7, 3, 10, 0), (6, .iconst 0, 1, 0, 0), (7, .goto 11, 3, 18, 0), (10, .aload_n 0, 1, 0, 0), (11, .getfield 26, 3, 0, 0), (14, .iload_n 1, 1, 0, 0), (15, .invokevirtual 94, 3, 0, 0), (18, .istore_n 3, 1, 0, 0), (19, .iload_n 2, 1, 0, 0), (20, .ifCond .ne 5, 3, 25, 0), (23, .iload_n 3, 1, 0, 0), (24, .ireturn, 1, 0, 0), (25, .iload_n 2, 1, 0, 0), (26, .iconst 1, 1, 0, 1), (27, .if_icmp .ne 23, 3, 50, 0), (30, .iload_n 3, 1, 0, 0), (31, .ifCond .eq 19, 3, 50, 0), (34, .iload_n 3, 1, 0, 0), (35, .iconst 4, 1, 0, 4), (36, .if_icmp .eq 14, 3, 50, 0), (39, .aload_n 0, 1, 0, 0), (40, .getfield 30, 3, 0, 0), (43, .iload_n 1, 1, 0, 0), (44, .invokevirtual 94, 3, 0, 0), (47, .goto 4, 3, 51, 0), (50, .iconst (-1), 1, 0, (-1)), (51, .ireturn, 1, 0, 0)]
theorem tk_Gap_tellPart : zTok prog_3_method_6_code 4 T_Gap_tellPart := by decide +kernel
theorem yk_Gap_tellPart : zY "RuleTree$Gap" y_Gap_tellPart prog_3_method_6_code 4 (some Jvm.ClassFile.FieldType.int) 2 := ⟨wd_5_22, wd_5_21, ws_3_14, wd_1_14, by decide +kernel⟩
def y_Gap_below : MethodName := ⟨"RuleTree$Gap", "below", "(II)I"⟩
def T_Gap_below : List zTr := [(0, .iload_n 1, 1, 0, 0), (1, .bipush (-4), 2, 0, (-4)), (3, .if_icmp .ne 7, 3, 10, 0), (6, .iconst 0, 1, 0, 0), (7, .goto 11, 3, 18, 0), (10, .aload_n 0, 1, 0, 0), (11, .getfield 26, 3, 0, 0), (14, .iload_n 1, 1, 0, 0), (15, .invokevirtual 94, 3, 0, 0), (18, .istore_n 3, 1, 0, 0), (19, .iload_n 3, 1, 0, 0), (20, .iconst 4, 1, 0, 4), (21, .if_icmp .ne 28, 3, 49, 0), (24, .iload_n 2, 1, 0, 0), (25, .aload_n 0, 1, 0, 0), (26, .getfield 15, 3, 0, 0), (29, .iload_n 1, 1, 0, 0), (30, .invokevirtual 97, 3, 0, 0), (33, .if_icmp .gt 14, 3, 47, 0), (36, .aload_n 0, 1, 0, 0), (37, .iload_n 1, 1, 0, 0), (38, .iload_n 2, 1, 0, 0), (39, .iconst 1, 1, 0, 1), (40, .isub, 1, 0, 0), (41, .invokevirtual 100, 3, 0, 0), (44, .goto 4, 3, 48, 0), (47, .iconst (-1), 1, 0, (-1)), (48, .ireturn, 1, 0, 0), (49, .iload_n 2, 1, 0, 0), (50, .iconst 1, 1, 0, 1), (51, .if_icmp .eq 5, 3, 56, 0), (54, .iconst (-1), 1, 0, (-1)), (55, .ireturn, 1, 0, 0), (56, .aload_n 0, 1, 0, 0), (57, .getfield 30, 3, 0, 0), (60, .iload_n 1, 1, 0, 0), (61, .invokevirtual 94, 3, 0, 0), (64, .istore 4, 2, 0, 0), (66, .iload_n 3, 1, 0, 0), (67, .iconst 2, 1, 0, 2), (68, .if_icmp .ne 35, 3, 103, 0), (71, .aload_n 0, 1, 0, 0), (72, .getfield 9, 3, 0, 0), (75, .aload_n 0, 1, 0, 0), (76, .getfield 15, 3, 0, 0), (79, .iload_n 1, 1, 0, 0), (80, .invokevirtual 97, 3, 0, 0), (83, .iload 4, 2, 0, 0), (85, .invokevirtual 103, 3, 0, 0), (88, .ifCond .eq 13, 3, 101, 0), (91, .aload_n 0, 1, 0, 0), (92, .iload_n 1, 1, 0, 0), (93, .iload 4, 2, 0, 0), (95, .invokevirtual 100, 3, 0, 0), (98, .goto 4, 3, 102, 0), (101, .iconst (-1), 1, 0, (-1)), (102, .ireturn, 1, 0, 0), (103, .iload_n 3, 1, 0, 0), (104, .iconst 3, 1, 0, 3), (105, .if_icmp .ne 23, 3, 128, 0), (108, .aload_n 0, 1, 0, 0), (109, .getfield 15, 3, 0, 0), (112, .aload_n 0, 1, 0, 0), (113, .getfield 15, 3, 0, 0), (116, .iload_n 1, 1, 0, 0), (117, .iload 4, 2, 0, 0), (119, .invokevirtual 109, 3, 0, 0), (122, .invokevirtual 112, 3, 0, 0), (125, .goto 4, 3, 129, 0), (128, .iconst (-1), 1, 0, (-1)), (129, .ireturn, 1, 0, 0)]
theorem tk_Gap_below : zTok prog_3_method_7_code 5 T_Gap_below := by decide +kernel
theorem yk_Gap_below : zY "RuleTree$Gap" y_Gap_below prog_3_method_7_code 5 (some Jvm.ClassFile.FieldType.int) 2 := ⟨wd_5_6, wd_5_5, ws_3_12, wd_1_14, by decide +kernel⟩
def y_Gap_childOrBare : MethodName := ⟨"RuleTree$Gap", "childOrBare", "(II)I"⟩
def T_Gap_childOrBare : List zTr := [(0, .aload_n 0, 1, 0, 0), (1, .getfield 15, 3, 0, 0), (4, .aload_n 0, 1, 0, 0), (5, .getfield 15, 3, 0, 0), (8, .iload_n 1, 1, 0, 0), (9, .iload_n 2, 1, 0, 0), (10, .invokevirtual 109, 3, 0, 0), (13, .invokevirtual 112, 3, 0, 0), (16, .istore_n 3, 1, 0, 0), (17, .iload_n 3, 1, 0, 0), (18, .iconst (-1), 1, 0, (-1)), (19, .if_icmp .ne 8, 3, 27, 0), (22, .bipush (-4), 2, 0, (-4)), (24, .goto 4, 3, 28, 0), (27, .iload_n 3, 1, 0, 0), (28, .ireturn, 1, 0, 0)]
theorem tk_Gap_childOrBare : zTok prog_3_method_8_code 4 T_Gap_childOrBare := by decide +kernel
theorem yk_Gap_childOrBare : zY "RuleTree$Gap" y_Gap_childOrBare prog_3_method_8_code 4 (some Jvm.ClassFile.FieldType.int) 2 := ⟨wd_5_12, wd_5_11, ws_3_13, wd_1_14, by decide +kernel⟩
def y_Grw_init : MethodName := ⟨"RuleTree$Grower", "<init>", "(LRuleTree$Families;LRuleTree$Parts;LRuleTree$Nodes;)V"⟩
def T_Grw_init : List zTr := [(0, .aload_n 0, 1, 0, 0), (1, .invokespecial 3, 3, 0, 0), (4, .aload_n 0, 1, 0, 0), (5, .aload_n 1, 1, 0, 0), (6, .putfield 9, 3, 0, 0), (9, .aload_n 0, 1, 0, 0), (10, .aload_n 2, 1, 0, 0), (11, .putfield 15, 3, 0, 0), (14, .aload_n 0, 1, 0, 0), (15, .aload_n 3, 1, 0, 0), (16, .putfield 19, 3, 0, 0), (19, .aload_n 0, 1, 0, 0), (20, .new 23, 3, 0, 0), (23, .dup, 1, 0, 0), (24, .invokespecial 25, 3, 0, 0), (27, .putfield 26, 3, 0, 0), (30, .aload_n 0, 1, 0, 0), (31, .new 23, 3, 0, 0), (34, .dup, 1, 0, 0), (35, .invokespecial 25, 3, 0, 0), (38, .putfield 30, 3, 0, 0), (41, .return_, 1, 0, 0)]
theorem tk_Grw_init : zTok prog_4_method_1_code 4 T_Grw_init := by decide +kernel
def y_Grw_make : MethodName := ⟨"RuleTree$Grower", "make", "(I)I"⟩
def T_Grw_make : List zTr := [(0, .aload_n 0, 1, 0, 0), (1, .getfield 26, 3, 0, 0), (4, .iload_n 1, 1, 0, 0), (5, .iconst (-1), 1, 0, (-1)), (6, .invokevirtual 33, 3, 0, 0), (9, .aload_n 0, 1, 0, 0), (10, .getfield 30, 3, 0, 0), (13, .aload_n 0, 1, 0, 0), (14, .getfield 15, 3, 0, 0), (17, .invokevirtual 37, 3, 0, 0), (20, .iconst 0, 1, 0, 0), (21, .invokevirtual 33, 3, 0, 0), (24, .aload_n 0, 1, 0, 0), (25, .getfield 19, 3, 0, 0), (28, .invokevirtual 43, 3, 0, 0), (31, .aload_n 0, 1, 0, 0), (32, .iconst (-1), 1, 0, (-1)), (33, .iconst (-1), 1, 0, (-1)), (34, .invokevirtual 48, 3, 0, 0), (37, .istore_n 2, 1, 0, 0), (38, .iconst 0, 1, 0, 0), (39, .istore_n 3, 1, 0, 0), (40, .iload_n 2, 1, 0, 0), (41, .iconst (-1), 1, 0, (-1)), (42, .if_icmp .eq 34, 3, 76, 0), (45, .aload_n 0, 1, 0, 0), (46, .getfield 19, 3, 0, 0), (49, .invokevirtual 52, 3, 0, 0), (52, .sipush 4096, 3, 0, 4096), (55, .if_icmp .gt 21, 3, 76, 0), (58, .iload_n 3, 1, 0, 0), (59, .ldc 53, 2, 0, 0), (61, .if_icmp .ge 15, 3, 76, 0), (64, .aload_n 0, 1, 0, 0), (65, .iload_n 2, 1, 0, 0), (66, .invokevirtual 54, 3, 0, 0), (69, .istore_n 2, 1, 0, 0), (70, .iinc 3 1, 3, 0, 1), (73, .goto (-33), 3, 40, 0), (76, .aload_n 0, 1, 0, 0), (77, .getfield 19, 3, 0, 0), (80, .invokevirtual 52, 3, 0, 0), (83, .sipush 4096, 3, 0, 4096), (86, .if_icmp .le 8, 3, 94, 0), (89, .bipush (-2), 2, 0, (-2)), (91, .goto 10, 3, 101, 0), (94, .aload_n 0, 1, 0, 0), (95, .getfield 19, 3, 0, 0), (98, .invokevirtual 52, 3, 0, 0), (101, .ireturn, 1, 0, 0)]
theorem tk_Grw_make : zTok prog_4_method_2_code 4 T_Grw_make := by decide +kernel
theorem yk_Grw_make : zY "RuleTree$Grower" y_Grw_make prog_4_method_2_code 4 (some Jvm.ClassFile.FieldType.int) 1 := ⟨wd_3_167, wd_3_165, wd_3_166, wd_1_12, by decide +kernel⟩
def y_Grw_goOn : MethodName := ⟨"RuleTree$Grower", "goOn", "(I)I"⟩
def T_Grw_goOn : List zTr := [(0, .aload_n 0, 1, 0, 0), (1, .getfield 19, 3, 0, 0), (4, .iload_n 1, 1, 0, 0), (5, .invokevirtual 58, 3, 0, 0), (8, .iconst (-1), 1, 0, (-1)), (9, .if_icmp .ne 9, 3, 18, 0), (12, .aload_n 0, 1, 0, 0), (13, .iload_n 1, 1, 0, 0), (14, .invokevirtual 61, 3, 0, 0), (17, .ireturn, 1, 0, 0), (18, .aload_n 0, 1, 0, 0), (19, .iload_n 1, 1, 0, 0), (20, .invokevirtual 64, 3, 0, 0), (23, .istore_n 2, 1, 0, 0), (24, .iload_n 2, 1, 0, 0), (25, .iconst (-1), 1, 0, (-1)), (26, .if_icmp .ne 17, 3, 43, 0), (29, .aload_n 0, 1, 0, 0), (30, .iload_n 1, 1, 0, 0), (31, .invokevirtual 67, 3, 0, 0), (34, .ifCond .ne 9, 3, 43, 0), (37, .aload_n 0, 1, 0, 0), (38, .iload_n 1, 1, 0, 0), (39, .invokevirtual 61, 3, 0, 0), (42, .ireturn, 1, 0, 0), (43, .aload_n 0, 1, 0, 0), (44, .iload_n 1, 1, 0, 0), (45, .iload_n 2, 1, 0, 0), (46, .invokevirtual 71, 3, 0, 0), (49, .aload_n 0, 1, 0, 0), (50, .iload_n 1, 1, 0, 0), (51, .iload_n 2, 1, 0, 0), (52, .invokevirtual 48, 3, 0, 0), (55, .ireturn, 1, 0, 0)]
theorem tk_Grw_goOn : zTok prog_4_method_3_code 3 T_Grw_goOn := by decide +kernel
theorem yk_Grw_goOn : zY "RuleTree$Grower" y_Grw_goOn prog_4_method_3_code 3 (some Jvm.ClassFile.FieldType.int) 1 := ⟨wd_4_0, wd_3_239, ws_2_11, wd_1_12, by decide +kernel⟩
def y_Grw_enter : MethodName := ⟨"RuleTree$Grower", "enter", "(II)I"⟩
def T_Grw_enter : List zTr := [(0, .aload_n 0, 1, 0, 0), (1, .getfield 19, 3, 0, 0), (4, .iload_n 1, 1, 0, 0), (5, .iload_n 2, 1, 0, 0), (6, .invokevirtual 74, 3, 0, 0), (9, .istore_n 3, 1, 0, 0), (10, .aload_n 0, 1, 0, 0), (11, .getfield 19, 3, 0, 0), (14, .iload_n 1, 1, 0, 0), (15, .invokevirtual 77, 3, 0, 0), (18, .istore 4, 2, 0, 0), (20, .aload_n 0, 1, 0, 0), (21, .iload 4, 2, 0, 0), (23, .iconst 0, 1, 0, 0), (24, .invokestatic 80, 3, 0, 0), (27, .invokevirtual 85, 3, 0, 0), (30, .istore 5, 2, 0, 0), (32, .iload 5, 2, 0, 0), (34, .iconst (-1), 1, 0, (-1)), (35, .if_icmp .ne 5, 3, 40, 0), (38, .iload_n 3, 1, 0, 0), (39, .ireturn, 1, 0, 0), (40, .aload_n 0, 1, 0, 0), (41, .iload 5, 2, 0, 0), (43, .iload 5, 2, 0, 0), (45, .iload 4, 2, 0, 0), (47, .if_icmp .ne 14, 3, 61, 0), (50, .aload_n 0, 1, 0, 0), (51, .getfield 19, 3, 0, 0), (54, .iload_n 1, 1, 0, 0), (55, .invokevirtual 88, 3, 0, 0), (58, .goto 12, 3, 70, 0), (61, .aload_n 0, 1, 0, 0), (62, .getfield 15, 3, 0, 0), (65, .iload 5, 2, 0, 0), (67, .invokevirtual 91, 3, 0, 0), (70, .invokevirtual 94, 3, 0, 0), (73, .istore 6, 2, 0, 0), (75, .iload 6, 2, 0, 0), (77, .iconst (-1), 1, 0, (-1)), (78, .if_icmp .ne 7, 3, 85, 0), (81, .iconst (-1), 1, 0, (-1)), (82, .goto 12, 3, 94, 0), (85, .aload_n 0, 1, 0, 0), (86, .getfield 15, 3, 0, 0), (89, .iload 6, 2, 0, 0), (91, .invokevirtual 97, 3, 0, 0), (94, .istore 7, 2, 0, 0), (96, .aload_n 0, 1, 0, 0), (97, .getfield 19, 3, 0, 0), (100, .iload_n 3, 1, 0, 0), (101, .iload 5, 2, 0, 0), (103, .iload 6, 2, 0, 0), (105, .iload 7, 2, 0, 0), (107, .invokevirtual 100, 3, 0, 0), (110, .aload_n 0, 1, 0, 0), (111, .getfield 30, 3, 0, 0), (114, .iload 7, 2, 0, 0), (116, .iconst 1, 1, 0, 1), (117, .invokevirtual 104, 3, 0, 0), (120, .iload_n 3, 1, 0, 0), (121, .ireturn, 1, 0, 0)]
theorem tk_Grw_enter : zTok prog_4_method_4_code 8 T_Grw_enter := by decide +kernel
theorem yk_Grw_enter : zY "RuleTree$Grower" y_Grw_enter prog_4_method_4_code 8 (some Jvm.ClassFile.FieldType.int) 2 := ⟨wd_3_181, wd_3_180, ws_2_7, wd_1_12, by decide +kernel⟩
def y_Grw_leave : MethodName := ⟨"RuleTree$Grower", "leave", "(I)I"⟩
def T_Grw_leave : List zTr := [(0, .aload_n 0, 1, 0, 0), (1, .getfield 30, 3, 0, 0), (4, .aload_n 0, 1, 0, 0), (5, .getfield 19, 3, 0, 0), (8, .iload_n 1, 1, 0, 0), (9, .invokevirtual 58, 3, 0, 0), (12, .iconst 0, 1, 0, 0), (13, .invokevirtual 104, 3, 0, 0), (16, .aload_n 0, 1, 0, 0), (17, .getfield 19, 3, 0, 0), (20, .iload_n 1, 1, 0, 0), (21, .invokevirtual 107, 3, 0, 0), (24, .istore_n 2, 1, 0, 0), (25, .iload_n 2, 1, 0, 0), (26, .iconst (-1), 1, 0, (-1)), (27, .if_icmp .eq 8, 3, 35, 0), (30, .aload_n 0, 1, 0, 0), (31, .iload_n 2, 1, 0, 0), (32, .invokevirtual 110, 3, 0, 0), (35, .iload_n 2, 1, 0, 0), (36, .ireturn, 1, 0, 0)]
theorem tk_Grw_leave : zTok prog_4_method_5_code 3 T_Grw_leave := by decide +kernel
theorem yk_Grw_leave : zY "RuleTree$Grower" y_Grw_leave prog_4_method_5_code 3 (some Jvm.ClassFile.FieldType.int) 1 := ⟨wd_4_8, wd_4_7, ws_2_12, wd_1_12, by decide +kernel⟩
def y_Grw_firstPossible : MethodName := ⟨"RuleTree$Grower", "firstPossible", "(I)I"⟩
def T_Grw_firstPossible : List zTr := [(0, .iload_n 1, 1, 0, 0), (1, .istore_n 2, 1, 0, 0), (2, .iload_n 2, 1, 0, 0), (3, .aload_n 0, 1, 0, 0), (4, .getfield 26, 3, 0, 0), (7, .invokevirtual 114, 3, 0, 0), (10, .if_icmp .ge 23, 3, 33, 0), (13, .aload_n 0, 1, 0, 0), (14, .getfield 26, 3, 0, 0), (17, .iload_n 2, 1, 0, 0), (18, .invokevirtual 115, 3, 0, 0), (21, .iconst (-1), 1, 0, (-1)), (22, .if_icmp .ne 5, 3, 27, 0), (25, .iload_n 2, 1, 0, 0), (26, .ireturn, 1, 0, 0), (27, .iinc 2 1, 3, 0, 1), (30, .goto (-28), 3, 2, 0), (33, .iconst (-1), 1, 0, (-1)), (34, .ireturn, 1, 0, 0)]
theorem tk_Grw_firstPossible : zTok prog_4_method_6_code 3 T_Grw_firstPossible := by decide +kernel
theorem yk_Grw_firstPossible : zY "RuleTree$Grower" y_Grw_firstPossible prog_4_method_6_code 3 (some Jvm.ClassFile.FieldType.int) 1 := ⟨wd_3_203, wd_3_202, ws_2_9, wd_1_12, by decide +kernel⟩
def y_Grw_firstNotLooked : MethodName := ⟨"RuleTree$Grower", "firstNotLooked", "(II)I"⟩
def T_Grw_firstNotLooked : List zTr := [(0, .aload_n 0, 1, 0, 0), (1, .getfield 15, 3, 0, 0), (4, .iload_n 1, 1, 0, 0), (5, .invokevirtual 118, 3, 0, 0), (8, .istore_n 3, 1, 0, 0), (9, .iload_n 2, 1, 0, 0), (10, .istore 4, 2, 0, 0), (12, .iload 4, 2, 0, 0), (14, .iload_n 3, 1, 0, 0), (15, .if_icmp .ge 31, 3, 46, 0), (18, .aload_n 0, 1, 0, 0), (19, .getfield 30, 3, 0, 0), (22, .aload_n 0, 1, 0, 0), (23, .getfield 15, 3, 0, 0), (26, .iload 4, 2, 0, 0), (28, .invokevirtual 97, 3, 0, 0), (31, .invokevirtual 115, 3, 0, 0), (34, .ifCond .ne 6, 3, 40, 0), (37, .iload 4, 2, 0, 0), (39, .ireturn, 1, 0, 0), (40, .iinc 4 1, 3, 0, 1), (43, .goto (-31), 3, 12, 0), (46, .iconst (-1), 1, 0, (-1)), (47, .ireturn, 1, 0, 0)]
theorem tk_Grw_firstNotLooked : zTok prog_4_method_7_code 5 T_Grw_firstNotLooked := by decide +kernel
theorem yk_Grw_firstNotLooked : zY "RuleTree$Grower" y_Grw_firstNotLooked prog_4_method_7_code 5 (some Jvm.ClassFile.FieldType.int) 2 := ⟨wd_3_217, wd_3_216, ws_2_10, wd_1_12, by decide +kernel⟩
def y_Grw_nextEdge : MethodName := ⟨"RuleTree$Grower", "nextEdge", "(I)I"⟩
def T_Grw_nextEdge : List zTr := [(0, .aload_n 0, 1, 0, 0), (1, .getfield 19, 3, 0, 0), (4, .iload_n 1, 1, 0, 0), (5, .invokevirtual 121, 3, 0, 0), (8, .istore_n 2, 1, 0, 0), (9, .iload_n 2, 1, 0, 0), (10, .iconst (-1), 1, 0, (-1)), (11, .if_icmp .ne 21, 3, 32, 0), (14, .aload_n 0, 1, 0, 0), (15, .getfield 15, 3, 0, 0), (18, .aload_n 0, 1, 0, 0), (19, .getfield 19, 3, 0, 0), (22, .iload_n 1, 1, 0, 0), (23, .invokevirtual 58, 3, 0, 0), (26, .invokevirtual 124, 3, 0, 0), (29, .goto 18, 3, 47, 0), (32, .aload_n 0, 1, 0, 0), (33, .getfield 15, 3, 0, 0), (36, .aload_n 0, 1, 0, 0), (37, .getfield 19, 3, 0, 0), (40, .iload_n 2, 1, 0, 0), (41, .invokevirtual 127, 3, 0, 0), (44, .invokevirtual 130, 3, 0, 0), (47, .istore_n 3, 1, 0, 0), (48, .aload_n 0, 1, 0, 0), (49, .getfield 15, 3, 0, 0), (52, .invokevirtual 131, 3, 0, 0), (55, .istore 4, 2, 0, 0), (57, .iload 4, 2, 0, 0), (59, .ifCond .le 31, 3, 90, 0), (62, .iload_n 3, 1, 0, 0), (63, .iconst (-1), 1, 0, (-1)), (64, .if_icmp .eq 26, 3, 90, 0), (67, .aload_n 0, 1, 0, 0), (68, .iload_n 3, 1, 0, 0), (69, .invokevirtual 134, 3, 0, 0), (72, .ifCond .ne 18, 3, 90, 0), (75, .aload_n 0, 1, 0, 0), (76, .getfield 15, 3, 0, 0), (79, .iload_n 3, 1, 0, 0), (80, .invokevirtual 130, 3, 0, 0), (83, .istore_n 3, 1, 0, 0), (84, .iinc 4 (-1), 3, 0, (-1)), (87, .goto (-30), 3, 57, 0), (90, .iload_n 3, 1, 0, 0), (91, .ireturn, 1, 0, 0)]
theorem tk_Grw_nextEdge : zTok prog_4_method_8_code 5 T_Grw_nextEdge := by decide +kernel
theorem yk_Grw_nextEdge : zY "RuleTree$Grower" y_Grw_nextEdge prog_4_method_8_code 5 (some Jvm.ClassFile.FieldType.int) 1 := ⟨wd_4_52, wd_4_51, ws_2_15, wd_1_12, by decide +kernel⟩
def y_Grw_isAsked : MethodName := ⟨"RuleTree$Grower", "isAsked", "(I)Z"⟩
def T_Grw_isAsked : List zTr := [(0, .aload_n 0, 1, 0, 0), (1, .getfield 15, 3, 0, 0), (4, .iload_n 1, 1, 0, 0), (5, .invokevirtual 137, 3, 0, 0), (8, .istore_n 2, 1, 0, 0), (9, .aload_n 0, 1, 0, 0), (10, .getfield 15, 3, 0, 0), (13, .invokevirtual 140, 3, 0, 0), (16, .istore_n 3, 1, 0, 0), (17, .iload_n 3, 1, 0, 0), (18, .ifCond .le 44, 3, 62, 0), (21, .iload_n 2, 1, 0, 0), (22, .iconst (-1), 1, 0, (-1)), (23, .if_icmp .eq 39, 3, 62, 0), (26, .aload_n 0, 1, 0, 0), (27, .getfield 26, 3, 0, 0), (30, .aload_n 0, 1, 0, 0), (31, .getfield 15, 3, 0, 0), (34, .iload_n 2, 1, 0, 0), (35, .invokevirtual 143, 3, 0, 0), (38, .invokevirtual 115, 3, 0, 0), (41, .iconst (-1), 1, 0, (-1)), (42, .if_icmp .ne 5, 3, 47, 0), (45, .iconst 1, 1, 0, 1), (46, .ireturn, 1, 0, 0), (47, .aload_n 0, 1, 0, 0), (48, .getfield 15, 3, 0, 0), (51, .iload_n 2, 1, 0, 0), (52, .invokevirtual 146, 3, 0, 0), (55, .istore_n 2, 1, 0, 0), (56, .iinc 3 (-1), 3, 0, (-1)), (59, .goto (-42), 3, 17, 0), (62, .iconst 0, 1, 0, 0), (63, .ireturn, 1, 0, 0)]
theorem tk_Grw_isAsked : zTok prog_4_method_9_code 4 T_Grw_isAsked := by decide +kernel
theorem yk_Grw_isAsked : zY "RuleTree$Grower" y_Grw_isAsked prog_4_method_9_code 4 (some Jvm.ClassFile.FieldType.boolean) 1 := ⟨wd_4_64, wd_4_63, ws_3_0, wd_1_12, by decide +kernel⟩
def y_Grw_othersLeft : MethodName := ⟨"RuleTree$Grower", "othersLeft", "(I)Z"⟩
def T_Grw_othersLeft : List zTr := [(0, .aload_n 0, 1, 0, 0), (1, .getfield 19, 3, 0, 0), (4, .iload_n 1, 1, 0, 0), (5, .invokevirtual 121, 3, 0, 0), (8, .istore_n 2, 1, 0, 0), (9, .iload_n 2, 1, 0, 0), (10, .iconst (-1), 1, 0, (-1)), (11, .if_icmp .eq 17, 3, 28, 0), (14, .aload_n 0, 1, 0, 0), (15, .getfield 19, 3, 0, 0), (18, .iload_n 2, 1, 0, 0), (19, .invokevirtual 127, 3, 0, 0), (22, .iconst (-1), 1, 0, (-1)), (23, .if_icmp .ne 5, 3, 28, 0), (26, .iconst 0, 1, 0, 0), (27, .ireturn, 1, 0, 0), (28, .aload_n 0, 1, 0, 0), (29, .getfield 19, 3, 0, 0), (32, .iload_n 1, 1, 0, 0), (33, .invokevirtual 58, 3, 0, 0), (36, .istore_n 3, 1, 0, 0), (37, .aload_n 0, 1, 0, 0), (38, .getfield 15, 3, 0, 0), (41, .iload_n 3, 1, 0, 0), (42, .invokevirtual 149, 3, 0, 0), (45, .iconst 2, 1, 0, 2), (46, .if_icmp .ne 35, 3, 81, 0), (49, .aload_n 0, 1, 0, 0), (50, .getfield 19, 3, 0, 0), (53, .iload_n 1, 1, 0, 0), (54, .invokevirtual 152, 3, 0, 0), (57, .aload_n 0, 1, 0, 0), (58, .getfield 9, 3, 0, 0), (61, .aload_n 0, 1, 0, 0), (62, .getfield 15, 3, 0, 0), (65, .iload_n 3, 1, 0, 0), (66, .invokevirtual 155, 3, 0, 0), (69, .invokevirtual 158, 3, 0, 0), (72, .if_icmp .ge 7, 3, 79, 0), (75, .iconst 1, 1, 0, 1), (76, .goto 4, 3, 80, 0), (79, .iconst 0, 1, 0, 0), (80, .ireturn, 1, 0, 0), (81, .aload_n 0, 1, 0, 0), (82, .getfield 15, 3, 0, 0), (85, .iload_n 3, 1, 0, 0), (86, .invokevirtual 149, 3, 0, 0), (89, .iconst 1, 1, 0, 1), (90, .if_icmp .ne 19, 3, 109, 0), (93, .aload_n 0, 1, 0, 0), (94, .getfield 15, 3, 0, 0), (97, .iload_n 3, 1, 0, 0), (98, .invokevirtual 155, 3, 0, 0), (101, .iconst 2, 1, 0, 2), (102, .if_icmp .ne 7, 3, 109, 0), (105, .iconst 1, 1, 0, 1), (106, .goto 4, 3, 110, 0), (109, .iconst 0, 1, 0, 0), (110, .istore 4, 2, 0, 0), (112, .iload 4, 2, 0, 0), (114, .ifCond .eq 17, 3, 131, 0), (117, .aload_n 0, 1, 0, 0), (118, .getfield 19, 3, 0, 0), (121, .iload_n 1, 1, 0, 0), (122, .invokevirtual 152, 3, 0, 0), (125, .sipush 256, 3, 0, 256), (128, .if_icmp .ge 7, 3, 135, 0), (131, .iconst 1, 1, 0, 1), (132, .goto 4, 3, 136, 0), (135, .iconst 0, 1, 0, 0), (136, .ireturn, 1, 0, 0)]
theorem tk_Grw_othersLeft : zTok prog_4_method_10_code 5 T_Grw_othersLeft := by decide +kernel
theorem yk_Grw_othersLeft : zY "RuleTree$Grower" y_Grw_othersLeft prog_4_method_10_code 5 (some Jvm.ClassFile.FieldType.boolean) 1 := ⟨wd_4_68, wd_4_67, ws_3_1, wd_1_12, by decide +kernel⟩
def y_Grw_ruleOut : MethodName := ⟨"RuleTree$Grower", "ruleOut", "(II)V"⟩
def T_Grw_ruleOut : List zTr := [(0, .aload_n 0, 1, 0, 0), (1, .getfield 15, 3, 0, 0), (4, .aload_n 0, 1, 0, 0), (5, .getfield 19, 3, 0, 0), (8, .iload_n 1, 1, 0, 0), (9, .invokevirtual 58, 3, 0, 0), (12, .invokevirtual 124, 3, 0, 0), (15, .istore_n 3, 1, 0, 0), (16, .aload_n 0, 1, 0, 0), (17, .getfield 15, 3, 0, 0), (20, .invokevirtual 131, 3, 0, 0), (23, .istore 4, 2, 0, 0), (25, .iload 4, 2, 0, 0), (27, .ifCond .le 35, 3, 62, 0), (30, .iload_n 3, 1, 0, 0), (31, .iconst (-1), 1, 0, (-1)), (32, .if_icmp .eq 30, 3, 62, 0), (35, .iload_n 3, 1, 0, 0), (36, .iload_n 2, 1, 0, 0), (37, .if_icmp .eq 10, 3, 47, 0), (40, .aload_n 0, 1, 0, 0), (41, .iload_n 3, 1, 0, 0), (42, .iconst (-1), 1, 0, (-1)), (43, .iload_n 1, 1, 0, 0), (44, .invokevirtual 163, 3, 0, 0), (47, .aload_n 0, 1, 0, 0), (48, .getfield 15, 3, 0, 0), (51, .iload_n 3, 1, 0, 0), (52, .invokevirtual 130, 3, 0, 0), (55, .istore_n 3, 1, 0, 0), (56, .iinc 4 (-1), 3, 0, (-1)), (59, .goto (-34), 3, 25, 0), (62, .return_, 1, 0, 0)]
theorem tk_Grw_ruleOut : zTok prog_4_method_11_code 5 T_Grw_ruleOut := by decide +kernel
theorem yk_Grw_ruleOut : zY "RuleTree$Grower" y_Grw_ruleOut prog_4_method_11_code 5 none 2 := ⟨wd_4_88, wd_4_87, ws_3_2, wd_1_12, by decide +kernel⟩
def y_Grw_letIn : MethodName := ⟨"RuleTree$Grower", "letIn", "(I)V"⟩
def T_Grw_letIn : List zTr := [(0, .aload_n 0, 1, 0, 0), (1, .getfield 15, 3, 0, 0), (4, .aload_n 0, 1, 0, 0), (5, .getfield 19, 3, 0, 0), (8, .iload_n 1, 1, 0, 0), (9, .invokevirtual 58, 3, 0, 0), (12, .invokevirtual 124, 3, 0, 0), (15, .istore_n 2, 1, 0, 0), (16, .aload_n 0, 1, 0, 0), (17, .getfield 15, 3, 0, 0), (20, .invokevirtual 131, 3, 0, 0), (23, .istore_n 3, 1, 0, 0), (24, .iload_n 3, 1, 0, 0), (25, .ifCond .le 30, 3, 55, 0), (28, .iload_n 2, 1, 0, 0), (29, .iconst (-1), 1, 0, (-1)), (30, .if_icmp .eq 25, 3, 55, 0), (33, .aload_n 0, 1, 0, 0), (34, .iload_n 2, 1, 0, 0), (35, .iload_n 1, 1, 0, 0), (36, .iconst (-1), 1, 0, (-1)), (37, .invokevirtual 163, 3, 0, 0), (40, .aload_n 0, 1, 0, 0), (41, .getfield 15, 3, 0, 0), (44, .iload_n 2, 1, 0, 0), (45, .invokevirtual 130, 3, 0, 0), (48, .istore_n 2, 1, 0, 0), (49, .iinc 3 (-1), 3, 0, (-1)), (52, .goto (-28), 3, 24, 0), (55, .return_, 1, 0, 0)]
theorem tk_Grw_letIn : zTok prog_4_method_12_code 4 T_Grw_letIn := by decide +kernel
theorem yk_Grw_letIn : zY "RuleTree$Grower" y_Grw_letIn prog_4_method_12_code 4 none 1 := ⟨wd_4_16, wd_4_15, ws_2_13, wd_1_12, by decide +kernel⟩
def y_Grw_changeOuts : MethodName := ⟨"RuleTree$Grower", "changeOuts", "(III)V"⟩
def T_Grw_changeOuts : List zTr := [(0, .aload_n 0, 1, 0, 0), (1, .getfield 15, 3, 0, 0), (4, .iload_n 1, 1, 0, 0), (5, .invokevirtual 137, 3, 0, 0), (8, .istore 4, 2, 0, 0), (10, .aload_n 0, 1, 0, 0), (11, .getfield 15, 3, 0, 0), (14, .invokevirtual 140, 3, 0, 0), (17, .istore 5, 2, 0, 0), (19, .iload 5, 2, 0, 0), (21, .ifCond .le 60, 3, 81, 0), (24, .iload 4, 2, 0, 0), (26, .iconst (-1), 1, 0, (-1)), (27, .if_icmp .eq 54, 3, 81, 0), (30, .aload_n 0, 1, 0, 0), (31, .getfield 15, 3, 0, 0), (34, .iload 4, 2, 0, 0), (36, .invokevirtual 143, 3, 0, 0), (39, .istore 6, 2, 0, 0), (41, .aload_n 0, 1, 0, 0), (42, .getfield 26, 3, 0, 0), (45, .iload 6, 2, 0, 0), (47, .invokevirtual 115, 3, 0, 0), (50, .iload_n 2, 1, 0, 0), (51, .if_icmp .ne 13, 3, 64, 0), (54, .aload_n 0, 1, 0, 0), (55, .getfield 26, 3, 0, 0), (58, .iload 6, 2, 0, 0), (60, .iload_n 3, 1, 0, 0), (61, .invokevirtual 104, 3, 0, 0), (64, .aload_n 0, 1, 0, 0), (65, .getfield 15, 3, 0, 0), (68, .iload 4, 2, 0, 0), (70, .invokevirtual 146, 3, 0, 0), (73, .istore 4, 2, 0, 0), (75, .iinc 5 (-1), 3, 0, (-1)), (78, .goto (-59), 3, 19, 0), (81, .return_, 1, 0, 0)]
theorem tk_Grw_changeOuts : zTok prog_4_method_13_code 7 T_Grw_changeOuts := by decide +kernel
theorem yk_Grw_changeOuts : zY "RuleTree$Grower" y_Grw_changeOuts prog_4_method_13_code 7 none 3 := ⟨wd_4_28, wd_4_27, ws_2_14, wd_1_12, by decide +kernel⟩
def y_Nod_init : MethodName := ⟨"RuleTree$Nodes", "<init>", "()V"⟩
def T_Nod_init : List zTr := [(0, .aload_n 0, 1, 0, 0), (1, .invokespecial 3, 3, 0, 0), (4, .aload_n 0, 1, 0, 0), (5, .new 9, 3, 0, 0), (8, .dup, 1, 0, 0), (9, .invokespecial 11, 3, 0, 0), (12, .putfield 12, 3, 0, 0), (15, .aload_n 0, 1, 0, 0), (16, .new 9, 3, 0, 0), (19, .dup, 1, 0, 0), (20, .invokespecial 11, 3, 0, 0), (23, .putfield 18, 3, 0, 0), (26, .aload_n 0, 1, 0, 0), (27, .new 9, 3, 0, 0), (30, .dup, 1, 0, 0), (31, .invokespecial 11, 3, 0, 0), (34, .putfield 21, 3, 0, 0), (37, .aload_n 0, 1, 0, 0), (38, .new 9, 3, 0, 0), (41, .dup, 1, 0, 0), (42, .invokespecial 11, 3, 0, 0), (45, .putfield 24, 3, 0, 0), (48, .aload_n 0, 1, 0, 0), (49, .new 9, 3, 0, 0), (52, .dup, 1, 0, 0), (53, .invokespecial 11, 3, 0, 0), (56, .putfield 27, 3, 0, 0), (59, .aload_n 0, 1, 0, 0), (60, .new 9, 3, 0, 0), (63, .dup, 1, 0, 0), (64, .invokespecial 11, 3, 0, 0), (67, .putfield 30, 3, 0, 0), (70, .aload_n 0, 1, 0, 0), (71, .new 9, 3, 0, 0), (74, .dup, 1, 0, 0), (75, .invokespecial 11, 3, 0, 0), (78, .putfield 33, 3, 0, 0), (81, .aload_n 0, 1, 0, 0), (82, .new 9, 3, 0, 0), (85, .dup, 1, 0, 0), (86, .invokespecial 11, 3, 0, 0), (89, .putfield 36, 3, 0, 0), (92, .aload_n 0, 1, 0, 0), (93, .new 9, 3, 0, 0), (96, .dup, 1, 0, 0), (97, .invokespecial 11, 3, 0, 0), (100, .putfield 39, 3, 0, 0), (103, .aload_n 0, 1, 0, 0), (104, .new 9, 3, 0, 0), (107, .dup, 1, 0, 0), (108, .invokespecial 11, 3, 0, 0), (111, .putfield 42, 3, 0, 0), (114, .return_, 1, 0, 0)]
theorem tk_Nod_init : zTok prog_5_method_1_code 1 T_Nod_init := by decide +kernel
def y_Nod_size : MethodName := ⟨"RuleTree$Nodes", "size", "()I"⟩
def T_Nod_size : List zTr := [(0, .aload_n 0, 1, 0, 0), (1, .getfield 12, 3, 0, 0), (4, .invokevirtual 45, 3, 0, 0), (7, .ireturn, 1, 0, 0)]
theorem tk_Nod_size : zTok prog_5_method_2_code 1 T_Nod_size := by decide +kernel
theorem yk_Nod_size : zY "RuleTree$Nodes" y_Nod_size prog_5_method_2_code 1 (some Jvm.ClassFile.FieldType.int) 0 := ⟨wd_3_234, wd_3_232, wd_3_233, wd_1_11, by decide +kernel⟩
def y_Nod_empty : MethodName := ⟨"RuleTree$Nodes", "empty", "()V"⟩
def T_Nod_empty : List zTr := [(0, .aload_n 0, 1, 0, 0), (1, .getfield 12, 3, 0, 0), (4, .invokevirtual 49, 3, 0, 0), (7, .aload_n 0, 1, 0, 0), (8, .getfield 18, 3, 0, 0), (11, .invokevirtual 49, 3, 0, 0), (14, .aload_n 0, 1, 0, 0), (15, .getfield 21, 3, 0, 0), (18, .invokevirtual 49, 3, 0, 0), (21, .aload_n 0, 1, 0, 0), (22, .getfield 24, 3, 0, 0), (25, .invokevirtual 49, 3, 0, 0), (28, .aload_n 0, 1, 0, 0), (29, .getfield 27, 3, 0, 0), (32, .invokevirtual 49, 3, 0, 0), (35, .aload_n 0, 1, 0, 0), (36, .getfield 30, 3, 0, 0), (39, .invokevirtual 49, 3, 0, 0), (42, .aload_n 0, 1, 0, 0), (43, .getfield 33, 3, 0, 0), (46, .invokevirtual 49, 3, 0, 0), (49, .aload_n 0, 1, 0, 0), (50, .getfield 36, 3, 0, 0), (53, .invokevirtual 49, 3, 0, 0), (56, .aload_n 0, 1, 0, 0), (57, .getfield 39, 3, 0, 0), (60, .invokevirtual 49, 3, 0, 0), (63, .aload_n 0, 1, 0, 0), (64, .getfield 42, 3, 0, 0), (67, .invokevirtual 49, 3, 0, 0), (70, .return_, 1, 0, 0)]
theorem tk_Nod_empty : zTok prog_5_method_3_code 1 T_Nod_empty := by decide +kernel
theorem yk_Nod_empty : zY "RuleTree$Nodes" y_Nod_empty prog_5_method_3_code 1 none 0 := ⟨wd_3_176, wd_3_174, wd_3_175, wd_1_11, by decide +kernel⟩
def y_Nod_add : MethodName := ⟨"RuleTree$Nodes", "add", "(II)I"⟩
def T_Nod_add : List zTr := [(0, .aload_n 0, 1, 0, 0), (1, .getfield 18, 3, 0, 0), (4, .iconst (-1), 1, 0, (-1)), (5, .invokevirtual 52, 3, 0, 0), (8, .pop, 1, 0, 0), (9, .aload_n 0, 1, 0, 0), (10, .getfield 21, 3, 0, 0), (13, .iconst (-1), 1, 0, (-1)), (14, .invokevirtual 52, 3, 0, 0), (17, .pop, 1, 0, 0), (18, .aload_n 0, 1, 0, 0), (19, .getfield 24, 3, 0, 0), (22, .iload_n 1, 1, 0, 0), (23, .invokevirtual 52, 3, 0, 0), (26, .pop, 1, 0, 0), (27, .aload_n 0, 1, 0, 0), (28, .getfield 27, 3, 0, 0), (31, .iload_n 2, 1, 0, 0), (32, .invokevirtual 52, 3, 0, 0), (35, .pop, 1, 0, 0), (36, .aload_n 0, 1, 0, 0), (37, .getfield 30, 3, 0, 0), (40, .iconst (-1), 1, 0, (-1)), (41, .invokevirtual 52, 3, 0, 0), (44, .pop, 1, 0, 0), (45, .aload_n 0, 1, 0, 0), (46, .getfield 33, 3, 0, 0), (49, .iconst (-1), 1, 0, (-1)), (50, .invokevirtual 52, 3, 0, 0), (53, .pop, 1, 0, 0), (54, .aload_n 0, 1, 0, 0), (55, .getfield 36, 3, 0, 0), (58, .iconst (-1), 1, 0, (-1)), (59, .invokevirtual 52, 3, 0, 0), (62, .pop, 1, 0, 0), (63, .aload_n 0, 1, 0, 0), (64, .getfield 39, 3, 0, 0), (67, .iconst 0, 1, 0, 0), (68, .invokevirtual 52, 3, 0, 0), (71, .pop, 1, 0, 0), (72, .aload_n 0, 1, 0, 0), (73, .getfield 42, 3, 0, 0), (76, .iload_n 1, 1, 0, 0), (77, .iconst (-1), 1, 0, (-1)), (78, .if_icmp .ne 7, 3, 85, 0), (81, .iconst 0, 1, 0, 0), (82, .goto 13, 3, 95, 0), (85, .aload_n 0, 1, 0, 0), (86, .getfield 42, 3, 0, 0), (89, .iload_n 1, 1, 0, 0), (90, .invokevirtual 56, 3, 0, 0), (93, .iconst 1, 1, 0, 1), (94, .iadd, 1, 0, 0), (95, .invokevirtual 52, 3, 0, 0), (98, .pop, 1, 0, 0), (99, .aload_n 0, 1, 0, 0), (100, .getfield 12, 3, 0, 0), (103, .iconst (-1), 1, 0, (-1)), (104, .invokevirtual 52, 3, 0, 0), (107, .istore_n 3, 1, 0, 0), (108, .iload_n 1, 1, 0, 0), (109, .iconst (-1), 1, 0, (-1)), (110, .if_icmp .eq 9, 3, 119, 0), (113, .aload_n 0, 1, 0, 0), (114, .iload_n 1, 1, 0, 0), (115, .iload_n 3, 1, 0, 0), (116, .invokevirtual 59, 3, 0, 0), (119, .iload_n 3, 1, 0, 0), (120, .ireturn, 1, 0, 0)]
theorem tk_Nod_add : zTok prog_5_method_4_code 4 T_Nod_add := by decide +kernel
theorem yk_Nod_add : zY "RuleTree$Nodes" y_Nod_add prog_5_method_4_code 4 (some Jvm.ClassFile.FieldType.int) 2 := ⟨wd_3_185, wd_3_183, wd_3_184, wd_1_11, by decide +kernel⟩
def y_Nod_settle : MethodName := ⟨"RuleTree$Nodes", "settle", "(IIII)V"⟩
def T_Nod_settle : List zTr := [(0, .aload_n 0, 1, 0, 0), (1, .getfield 18, 3, 0, 0), (4, .iload_n 1, 1, 0, 0), (5, .iload_n 2, 1, 0, 0), (6, .invokevirtual 63, 3, 0, 0), (9, .aload_n 0, 1, 0, 0), (10, .getfield 21, 3, 0, 0), (13, .iload_n 1, 1, 0, 0), (14, .iload_n 3, 1, 0, 0), (15, .invokevirtual 63, 3, 0, 0), (18, .aload_n 0, 1, 0, 0), (19, .getfield 12, 3, 0, 0), (22, .iload_n 1, 1, 0, 0), (23, .iload 4, 2, 0, 0), (25, .invokevirtual 63, 3, 0, 0), (28, .return_, 1, 0, 0)]
theorem tk_Nod_settle : zTok prog_5_method_5_code 5 T_Nod_settle := by decide +kernel
theorem yk_Nod_settle : zY "RuleTree$Nodes" y_Nod_settle prog_5_method_5_code 5 none 4 := ⟨wd_3_229, wd_3_227, wd_3_228, wd_1_11, by decide +kernel⟩
def y_Nod_part : MethodName := ⟨"RuleTree$Nodes", "part", "(I)I"⟩
def T_Nod_part : List zTr := [(0, .aload_n 0, 1, 0, 0), (1, .getfield 12, 3, 0, 0), (4, .iload_n 1, 1, 0, 0), (5, .invokevirtual 56, 3, 0, 0), (8, .ireturn, 1, 0, 0)]
theorem tk_Nod_part : zTok prog_5_method_6_code 2 T_Nod_part := by decide +kernel
theorem yk_Nod_part : zY "RuleTree$Nodes" y_Nod_part prog_5_method_6_code 2 (some Jvm.ClassFile.FieldType.int) 1 := ⟨wd_4_4, wd_4_2, wd_4_3, wd_1_11, by decide +kernel⟩
def y_Nod_ruleAt : MethodName := ⟨"RuleTree$Nodes", "ruleAt", "(I)I"⟩
def T_Nod_ruleAt : List zTr := [(0, .aload_n 0, 1, 0, 0), (1, .getfield 18, 3, 0, 0), (4, .iload_n 1, 1, 0, 0), (5, .invokevirtual 56, 3, 0, 0), (8, .ireturn, 1, 0, 0)]
theorem tk_Nod_ruleAt : zTok prog_5_method_7_code 2 T_Nod_ruleAt := by decide +kernel
theorem yk_Nod_ruleAt : zY "RuleTree$Nodes" y_Nod_ruleAt prog_5_method_7_code 2 (some Jvm.ClassFile.FieldType.int) 1 := ⟨wd_3_196, wd_3_194, wd_3_195, wd_1_11, by decide +kernel⟩
def y_Nod_ask : MethodName := ⟨"RuleTree$Nodes", "ask", "(I)I"⟩
def T_Nod_ask : List zTr := [(0, .aload_n 0, 1, 0, 0), (1, .getfield 21, 3, 0, 0), (4, .iload_n 1, 1, 0, 0), (5, .invokevirtual 56, 3, 0, 0), (8, .ireturn, 1, 0, 0)]
theorem tk_Nod_ask : zTok prog_5_method_8_code 2 T_Nod_ask := by decide +kernel
theorem yk_Nod_ask : zY "RuleTree$Nodes" y_Nod_ask prog_5_method_8_code 2 (some Jvm.ClassFile.FieldType.int) 1 := ⟨wd_3_209, wd_3_207, wd_3_208, wd_1_11, by decide +kernel⟩
def y_Nod_upper : MethodName := ⟨"RuleTree$Nodes", "upper", "(I)I"⟩
def T_Nod_upper : List zTr := [(0, .aload_n 0, 1, 0, 0), (1, .getfield 24, 3, 0, 0), (4, .iload_n 1, 1, 0, 0), (5, .invokevirtual 56, 3, 0, 0), (8, .ireturn, 1, 0, 0)]
theorem tk_Nod_upper : zTok prog_5_method_9_code 2 T_Nod_upper := by decide +kernel
theorem yk_Nod_upper : zY "RuleTree$Nodes" y_Nod_upper prog_5_method_9_code 2 (some Jvm.ClassFile.FieldType.int) 1 := ⟨wd_4_12, wd_4_10, wd_4_11, wd_1_11, by decide +kernel⟩
def y_Nod_edge : MethodName := ⟨"RuleTree$Nodes", "edge", "(I)I"⟩
def T_Nod_edge : List zTr := [(0, .aload_n 0, 1, 0, 0), (1, .getfield 27, 3, 0, 0), (4, .iload_n 1, 1, 0, 0), (5, .invokevirtual 56, 3, 0, 0), (8, .ireturn, 1, 0, 0)]
theorem tk_Nod_edge : zTok prog_5_method_10_code 2 T_Nod_edge := by decide +kernel
theorem yk_Nod_edge : zY "RuleTree$Nodes" y_Nod_edge prog_5_method_10_code 2 (some Jvm.ClassFile.FieldType.int) 1 := ⟨wd_4_60, wd_4_58, wd_4_59, wd_1_11, by decide +kernel⟩
def y_Nod_firstBranch : MethodName := ⟨"RuleTree$Nodes", "firstBranch", "(I)I"⟩
def T_Nod_firstBranch : List zTr := [(0, .aload_n 0, 1, 0, 0), (1, .getfield 30, 3, 0, 0), (4, .iload_n 1, 1, 0, 0), (5, .invokevirtual 56, 3, 0, 0), (8, .ireturn, 1, 0, 0)]
theorem tk_Nod_firstBranch : zTok prog_5_method_11_code 2 T_Nod_firstBranch := by decide +kernel
theorem yk_Nod_firstBranch : zY "RuleTree$Nodes" y_Nod_firstBranch prog_5_method_11_code 2 (some Jvm.ClassFile.FieldType.int) 1 := ⟨wd_4_124, wd_4_122, wd_4_123, wd_1_11, by decide +kernel⟩
def y_Nod_lastBranch : MethodName := ⟨"RuleTree$Nodes", "lastBranch", "(I)I"⟩
def T_Nod_lastBranch : List zTr := [(0, .aload_n 0, 1, 0, 0), (1, .getfield 33, 3, 0, 0), (4, .iload_n 1, 1, 0, 0), (5, .invokevirtual 56, 3, 0, 0), (8, .ireturn, 1, 0, 0)]
theorem tk_Nod_lastBranch : zTok prog_5_method_12_code 2 T_Nod_lastBranch := by decide +kernel
theorem yk_Nod_lastBranch : zY "RuleTree$Nodes" y_Nod_lastBranch prog_5_method_12_code 2 (some Jvm.ClassFile.FieldType.int) 1 := ⟨wd_4_56, wd_4_54, wd_4_55, wd_1_11, by decide +kernel⟩
def y_Nod_nextBranch : MethodName := ⟨"RuleTree$Nodes", "nextBranch", "(I)I"⟩
def T_Nod_nextBranch : List zTr := [(0, .aload_n 0, 1, 0, 0), (1, .getfield 36, 3, 0, 0), (4, .iload_n 1, 1, 0, 0), (5, .invokevirtual 56, 3, 0, 0), (8, .ireturn, 1, 0, 0)]
theorem tk_Nod_nextBranch : zTok prog_5_method_13_code 2 T_Nod_nextBranch := by decide +kernel
theorem yk_Nod_nextBranch : zY "RuleTree$Nodes" y_Nod_nextBranch prog_5_method_13_code 2 (some Jvm.ClassFile.FieldType.int) 1 := ⟨wd_4_132, wd_4_130, wd_4_131, wd_1_11, by decide +kernel⟩
def y_Nod_branches : MethodName := ⟨"RuleTree$Nodes", "branches", "(I)I"⟩
def T_Nod_branches : List zTr := [(0, .aload_n 0, 1, 0, 0), (1, .getfield 39, 3, 0, 0), (4, .iload_n 1, 1, 0, 0), (5, .invokevirtual 56, 3, 0, 0), (8, .ireturn, 1, 0, 0)]
theorem tk_Nod_branches : zTok prog_5_method_14_code 2 T_Nod_branches := by decide +kernel
theorem yk_Nod_branches : zY "RuleTree$Nodes" y_Nod_branches prog_5_method_14_code 2 (some Jvm.ClassFile.FieldType.int) 1 := ⟨wd_4_76, wd_4_74, wd_4_75, wd_1_11, by decide +kernel⟩
def y_Nod_endsWith : MethodName := ⟨"RuleTree$Nodes", "endsWith", "(I)I"⟩
def T_Nod_endsWith : List zTr := [(0, .iconst 0, 1, 0, 0), (1, .istore_n 2, 1, 0, 0), (2, .iconst 0, 1, 0, 0), (3, .istore_n 3, 1, 0, 0), (4, .iload_n 3, 1, 0, 0), (5, .aload_n 0, 1, 0, 0), (6, .getfield 12, 3, 0, 0), (9, .invokevirtual 45, 3, 0, 0), (12, .if_icmp .ge 21, 3, 33, 0), (15, .aload_n 0, 1, 0, 0), (16, .iload_n 3, 1, 0, 0), (17, .iload_n 1, 1, 0, 0), (18, .invokevirtual 66, 3, 0, 0), (21, .ifCond .eq 6, 3, 27, 0), (24, .iinc 2 1, 3, 0, 1), (27, .iinc 3 1, 3, 0, 1), (30, .goto (-26), 3, 4, 0), (33, .iload_n 2, 1, 0, 0), (34, .ireturn, 1, 0, 0)]
theorem tk_Nod_endsWith : zTok prog_5_method_15_code 4 T_Nod_endsWith := by decide +kernel
theorem yk_Nod_endsWith : zY "RuleTree$Nodes" y_Nod_endsWith prog_5_method_15_code 4 (some Jvm.ClassFile.FieldType.int) 1 := ⟨wd_4_224, wd_4_222, wd_4_223, wd_1_11, by decide +kernel⟩
def y_Nod_firstEndWith : MethodName := ⟨"RuleTree$Nodes", "firstEndWith", "(I)I"⟩
def T_Nod_firstEndWith : List zTr := [(0, .iconst 0, 1, 0, 0), (1, .istore_n 2, 1, 0, 0), (2, .iload_n 2, 1, 0, 0), (3, .aload_n 0, 1, 0, 0), (4, .getfield 12, 3, 0, 0), (7, .invokevirtual 45, 3, 0, 0), (10, .if_icmp .ge 20, 3, 30, 0), (13, .aload_n 0, 1, 0, 0), (14, .iload_n 2, 1, 0, 0), (15, .iload_n 1, 1, 0, 0), (16, .invokevirtual 66, 3, 0, 0), (19, .ifCond .eq 5, 3, 24, 0), (22, .iload_n 2, 1, 0, 0), (23, .ireturn, 1, 0, 0), (24, .iinc 2 1, 3, 0, 1), (27, .goto (-25), 3, 2, 0), (30, .iconst (-1), 1, 0, (-1)), (31, .ireturn, 1, 0, 0)]
theorem tk_Nod_firstEndWith : zTok prog_5_method_16_code 3 T_Nod_firstEndWith := by decide +kernel
theorem yk_Nod_firstEndWith : zY "RuleTree$Nodes" y_Nod_firstEndWith prog_5_method_16_code 3 (some Jvm.ClassFile.FieldType.int) 1 := ⟨wd_4_102, wd_4_100, wd_4_101, wd_1_11, by decide +kernel⟩
def y_Nod_deepest : MethodName := ⟨"RuleTree$Nodes", "deepest", "()I"⟩
def T_Nod_deepest : List zTr := [(0, .iconst 0, 1, 0, 0), (1, .istore_n 1, 1, 0, 0), (2, .iconst 0, 1, 0, 0), (3, .istore_n 2, 1, 0, 0), (4, .iload_n 2, 1, 0, 0), (5, .aload_n 0, 1, 0, 0), (6, .getfield 42, 3, 0, 0), (9, .invokevirtual 45, 3, 0, 0), (12, .if_icmp .ge 22, 3, 34, 0), (15, .iload_n 1, 1, 0, 0), (16, .aload_n 0, 1, 0, 0), (17, .getfield 42, 3, 0, 0), (20, .iload_n 2, 1, 0, 0), (21, .invokevirtual 56, 3, 0, 0), (24, .invokestatic 70, 3, 0, 0), (27, .istore_n 1, 1, 0, 0), (28, .iinc 2 1, 3, 0, 1), (31, .goto (-27), 3, 4, 0), (34, .iload_n 1, 1, 0, 0), (35, .ireturn, 1, 0, 0)]
theorem tk_Nod_deepest : zTok prog_5_method_17_code 3 T_Nod_deepest := by decide +kernel
theorem yk_Nod_deepest : zY "RuleTree$Nodes" y_Nod_deepest prog_5_method_17_code 3 (some Jvm.ClassFile.FieldType.int) 0 := ⟨wd_4_232, wd_4_230, wd_4_231, wd_1_11, by decide +kernel⟩
def y_Nod_isEndWith : MethodName := ⟨"RuleTree$Nodes", "isEndWith", "(II)Z"⟩
def T_Nod_isEndWith : List zTr := [(0, .aload_n 0, 1, 0, 0), (1, .getfield 12, 3, 0, 0), (4, .iload_n 1, 1, 0, 0), (5, .invokevirtual 56, 3, 0, 0), (8, .iconst (-1), 1, 0, (-1)), (9, .if_icmp .ne 19, 3, 28, 0), (12, .aload_n 0, 1, 0, 0), (13, .getfield 18, 3, 0, 0), (16, .iload_n 1, 1, 0, 0), (17, .invokevirtual 56, 3, 0, 0), (20, .iload_n 2, 1, 0, 0), (21, .if_icmp .ne 7, 3, 28, 0), (24, .iconst 1, 1, 0, 1), (25, .goto 4, 3, 29, 0), (28, .iconst 0, 1, 0, 0), (29, .ireturn, 1, 0, 0)]
theorem tk_Nod_isEndWith : zTok prog_5_method_18_code 3 T_Nod_isEndWith := by decide +kernel
theorem yk_Nod_isEndWith : zY "RuleTree$Nodes" y_Nod_isEndWith prog_5_method_18_code 3 (some Jvm.ClassFile.FieldType.boolean) 2 := ⟨wd_4_106, wd_4_105, ws_3_4, wd_1_11, by decide +kernel⟩
def y_Nod_hang : MethodName := ⟨"RuleTree$Nodes", "hang", "(II)V"⟩
def T_Nod_hang : List zTr := [(0, .aload_n 0, 1, 0, 0), (1, .getfield 33, 3, 0, 0), (4, .iload_n 1, 1, 0, 0), (5, .invokevirtual 56, 3, 0, 0), (8, .iconst (-1), 1, 0, (-1)), (9, .if_icmp .ne 15, 3, 24, 0), (12, .aload_n 0, 1, 0, 0), (13, .getfield 30, 3, 0, 0), (16, .iload_n 1, 1, 0, 0), (17, .iload_n 2, 1, 0, 0), (18, .invokevirtual 63, 3, 0, 0), (21, .goto 19, 3, 40, 0), (24, .aload_n 0, 1, 0, 0), (25, .getfield 36, 3, 0, 0), (28, .aload_n 0, 1, 0, 0), (29, .getfield 33, 3, 0, 0), (32, .iload_n 1, 1, 0, 0), (33, .invokevirtual 56, 3, 0, 0), (36, .iload_n 2, 1, 0, 0), (37, .invokevirtual 63, 3, 0, 0), (40, .aload_n 0, 1, 0, 0), (41, .getfield 33, 3, 0, 0), (44, .iload_n 1, 1, 0, 0), (45, .iload_n 2, 1, 0, 0), (46, .invokevirtual 63, 3, 0, 0), (49, .aload_n 0, 1, 0, 0), (50, .getfield 39, 3, 0, 0), (53, .iload_n 1, 1, 0, 0), (54, .aload_n 0, 1, 0, 0), (55, .getfield 39, 3, 0, 0), (58, .iload_n 1, 1, 0, 0), (59, .invokevirtual 56, 3, 0, 0), (62, .iconst 1, 1, 0, 1), (63, .iadd, 1, 0, 0), (64, .invokevirtual 63, 3, 0, 0), (67, .return_, 1, 0, 0)]
theorem tk_Nod_hang : zTok prog_5_method_19_code 3 T_Nod_hang := by decide +kernel
theorem yk_Nod_hang : zY "RuleTree$Nodes" y_Nod_hang prog_5_method_19_code 3 none 2 := ⟨wd_3_191, wd_3_190, ws_2_8, wd_1_11, by decide +kernel⟩
def y_Pai_init : MethodName := ⟨"RuleTree$Pairs", "<init>", "(LRuleTree$Patterns;)V"⟩
def T_Pai_init : List zTr := [(0, .aload_n 0, 1, 0, 0), (1, .invokespecial 3, 3, 0, 0), (4, .aload_n 0, 1, 0, 0), (5, .aload_n 1, 1, 0, 0), (6, .putfield 9, 3, 0, 0), (9, .aload_n 0, 1, 0, 0), (10, .new 15, 3, 0, 0), (13, .dup, 1, 0, 0), (14, .invokespecial 17, 3, 0, 0), (17, .putfield 18, 3, 0, 0), (20, .return_, 1, 0, 0)]
theorem tk_Pai_init : zTok prog_6_method_1_code 2 T_Pai_init := by decide +kernel
def y_Pai_match : MethodName := ⟨"RuleTree$Pairs", "match", "(II)Z"⟩
def T_Pai_match : List zTr := [(0, .aload_n 0, 1, 0, 0), (1, .iload_n 1, 1, 0, 0), (2, .iload_n 2, 1, 0, 0), (3, .iconst 1, 1, 0, 1), (4, .invokevirtual 22, 3, 0, 0), (7, .ireturn, 1, 0, 0)]
theorem tk_Pai_match : zTok prog_6_method_2_code 3 T_Pai_match := by decide +kernel
theorem yk_Pai_match : zY "RuleTree$Pairs" y_Pai_match prog_6_method_2_code 3 (some Jvm.ClassFile.FieldType.boolean) 2 := ⟨wd_4_212, wd_4_210, wd_4_211, wd_1_9, by decide +kernel⟩
def y_Pai_goTogether : MethodName := ⟨"RuleTree$Pairs", "goTogether", "(II)Z"⟩
def T_Pai_goTogether : List zTr := [(0, .aload_n 0, 1, 0, 0), (1, .iload_n 1, 1, 0, 0), (2, .iload_n 2, 1, 0, 0), (3, .iconst 0, 1, 0, 0), (4, .invokevirtual 22, 3, 0, 0), (7, .ireturn, 1, 0, 0)]
theorem tk_Pai_goTogether : zTok prog_6_method_3_code 3 T_Pai_goTogether := by decide +kernel
theorem yk_Pai_goTogether : zY "RuleTree$Pairs" y_Pai_goTogether prog_6_method_3_code 3 (some Jvm.ClassFile.FieldType.boolean) 2 := ⟨wd_3_3, wd_3_1, wd_3_2, wd_1_9, by decide +kernel⟩
def y_Pai_hold : MethodName := ⟨"RuleTree$Pairs", "hold", "(IIZ)Z"⟩
def T_Pai_hold : List zTr := [(0, .aload_n 0, 1, 0, 0), (1, .getfield 18, 3, 0, 0), (4, .invokevirtual 26, 3, 0, 0), (7, .aload_n 0, 1, 0, 0), (8, .iload_n 1, 1, 0, 0), (9, .iload_n 2, 1, 0, 0), (10, .invokevirtual 29, 3, 0, 0), (13, .iconst 1, 1, 0, 1), (14, .istore 4, 2, 0, 0), (16, .iconst 0, 1, 0, 0), (17, .istore 5, 2, 0, 0), (19, .iload 4, 2, 0, 0), (21, .ifCond .eq 69, 3, 90, 0), (24, .aload_n 0, 1, 0, 0), (25, .getfield 18, 3, 0, 0), (28, .invokevirtual 33, 3, 0, 0), (31, .ifCond .le 59, 3, 90, 0), (34, .iload 5, 2, 0, 0), (36, .ldc 37, 2, 0, 0), (38, .if_icmp .ge 52, 3, 90, 0), (41, .aload_n 0, 1, 0, 0), (42, .getfield 18, 3, 0, 0), (45, .invokevirtual 38, 3, 0, 0), (48, .istore 6, 2, 0, 0), (50, .aload_n 0, 1, 0, 0), (51, .getfield 18, 3, 0, 0), (54, .invokevirtual 38, 3, 0, 0), (57, .istore 7, 2, 0, 0), (59, .iload_n 3, 1, 0, 0), (60, .ifCond .eq 14, 3, 74, 0), (63, .aload_n 0, 1, 0, 0), (64, .iload 7, 2, 0, 0), (66, .iload 6, 2, 0, 0), (68, .invokevirtual 41, 3, 0, 0), (71, .goto 11, 3, 82, 0), (74, .aload_n 0, 1, 0, 0), (75, .iload 7, 2, 0, 0), (77, .iload 6, 2, 0, 0), (79, .invokevirtual 45, 3, 0, 0), (82, .istore 4, 2, 0, 0), (84, .iinc 5 1, 3, 0, 1), (87, .goto (-68), 3, 19, 0), (90, .iload 4, 2, 0, 0), (92, .ireturn, 1, 0, 0)]
theorem tk_Pai_hold : zTok prog_6_method_4_code 8 T_Pai_hold := by decide +kernel
theorem yk_Pai_hold : zY "RuleTree$Pairs" y_Pai_hold prog_6_method_4_code 8 (some Jvm.ClassFile.FieldType.boolean) 3 := ⟨wd_3_7, wd_3_6, ws_1_6, wd_1_9, by decide +kernel⟩
def y_Pai_putPair : MethodName := ⟨"RuleTree$Pairs", "putPair", "(II)V"⟩
def T_Pai_putPair : List zTr := [(0, .aload_n 0, 1, 0, 0), (1, .getfield 18, 3, 0, 0), (4, .iload_n 1, 1, 0, 0), (5, .invokevirtual 48, 3, 0, 0), (8, .pop, 1, 0, 0), (9, .aload_n 0, 1, 0, 0), (10, .getfield 18, 3, 0, 0), (13, .iload_n 2, 1, 0, 0), (14, .invokevirtual 48, 3, 0, 0), (17, .pop, 1, 0, 0), (18, .return_, 1, 0, 0)]
theorem tk_Pai_putPair : zTok prog_6_method_5_code 3 T_Pai_putPair := by decide +kernel
theorem yk_Pai_putPair : zY "RuleTree$Pairs" y_Pai_putPair prog_6_method_5_code 3 none 2 := ⟨wd_3_15, wd_3_14, ws_1_7, wd_1_9, by decide +kernel⟩
def y_Pai_matchesHere : MethodName := ⟨"RuleTree$Pairs", "matchesHere", "(II)Z"⟩
def T_Pai_matchesHere : List zTr := [(0, .aload_n 0, 1, 0, 0), (1, .getfield 9, 3, 0, 0), (4, .iload_n 1, 1, 0, 0), (5, .invokevirtual 52, 3, 0, 0), (8, .ifCond .ne 5, 3, 13, 0), (11, .iconst 1, 1, 0, 1), (12, .ireturn, 1, 0, 0), (13, .aload_n 0, 1, 0, 0), (14, .iload_n 1, 1, 0, 0), (15, .iload_n 2, 1, 0, 0), (16, .invokevirtual 57, 3, 0, 0), (19, .ifCond .eq 35, 3, 54, 0), (22, .aload_n 0, 1, 0, 0), (23, .getfield 9, 3, 0, 0), (26, .iload_n 1, 1, 0, 0), (27, .invokevirtual 60, 3, 0, 0), (30, .aload_n 0, 1, 0, 0), (31, .getfield 9, 3, 0, 0), (34, .iload_n 2, 1, 0, 0), (35, .invokevirtual 60, 3, 0, 0), (38, .if_icmp .ne 16, 3, 54, 0), (41, .aload_n 0, 1, 0, 0), (42, .iload_n 1, 1, 0, 0), (43, .iload_n 2, 1, 0, 0), (44, .invokevirtual 63, 3, 0, 0), (47, .ifCond .eq 7, 3, 54, 0), (50, .iconst 1, 1, 0, 1), (51, .goto 4, 3, 55, 0), (54, .iconst 0, 1, 0, 0), (55, .ireturn, 1, 0, 0)]
theorem tk_Pai_matchesHere : zTok prog_6_method_6_code 3 T_Pai_matchesHere := by decide +kernel
theorem yk_Pai_matchesHere : zY "RuleTree$Pairs" y_Pai_matchesHere prog_6_method_6_code 3 (some Jvm.ClassFile.FieldType.boolean) 2 := ⟨wd_3_26, wd_3_25, ws_1_8, wd_1_9, by decide +kernel⟩
def y_Pai_goesHere : MethodName := ⟨"RuleTree$Pairs", "goesHere", "(II)Z"⟩
def T_Pai_goesHere : List zTr := [(0, .aload_n 0, 1, 0, 0), (1, .getfield 9, 3, 0, 0), (4, .iload_n 1, 1, 0, 0), (5, .invokevirtual 52, 3, 0, 0), (8, .ifCond .eq 14, 3, 22, 0), (11, .aload_n 0, 1, 0, 0), (12, .getfield 9, 3, 0, 0), (15, .iload_n 2, 1, 0, 0), (16, .invokevirtual 52, 3, 0, 0), (19, .ifCond .ne 5, 3, 24, 0), (22, .iconst 1, 1, 0, 1), (23, .ireturn, 1, 0, 0), (24, .aload_n 0, 1, 0, 0), (25, .iload_n 1, 1, 0, 0), (26, .iload_n 2, 1, 0, 0), (27, .invokevirtual 57, 3, 0, 0), (30, .ifCond .ne 5, 3, 35, 0), (33, .iconst 0, 1, 0, 0), (34, .ireturn, 1, 0, 0), (35, .aload_n 0, 1, 0, 0), (36, .getfield 9, 3, 0, 0), (39, .iload_n 1, 1, 0, 0), (40, .invokevirtual 60, 3, 0, 0), (43, .aload_n 0, 1, 0, 0), (44, .getfield 9, 3, 0, 0), (47, .iload_n 2, 1, 0, 0), (48, .invokevirtual 60, 3, 0, 0), (51, .if_icmp .ne 12, 3, 63, 0), (54, .aload_n 0, 1, 0, 0), (55, .iload_n 1, 1, 0, 0), (56, .iload_n 2, 1, 0, 0), (57, .invokevirtual 63, 3, 0, 0), (60, .ifCond .eq 7, 3, 67, 0), (63, .iconst 1, 1, 0, 1), (64, .goto 4, 3, 68, 0), (67, .iconst 0, 1, 0, 0), (68, .ireturn, 1, 0, 0)]
theorem tk_Pai_goesHere : zTok prog_6_method_7_code 3 T_Pai_goesHere := by decide +kernel
theorem yk_Pai_goesHere : zY "RuleTree$Pairs" y_Pai_goesHere prog_6_method_7_code 3 (some Jvm.ClassFile.FieldType.boolean) 2 := ⟨wd_3_70, wd_3_69, ws_1_12, wd_1_9, by decide +kernel⟩
def y_Pai_sameSort : MethodName := ⟨"RuleTree$Pairs", "sameSort", "(II)Z"⟩
def T_Pai_sameSort : List zTr := [(0, .aload_n 0, 1, 0, 0), (1, .getfield 9, 3, 0, 0), (4, .iload_n 1, 1, 0, 0), (5, .invokevirtual 52, 3, 0, 0), (8, .aload_n 0, 1, 0, 0), (9, .getfield 9, 3, 0, 0), (12, .iload_n 2, 1, 0, 0), (13, .invokevirtual 52, 3, 0, 0), (16, .if_icmp .ne 26, 3, 42, 0), (19, .aload_n 0, 1, 0, 0), (20, .getfield 9, 3, 0, 0), (23, .iload_n 1, 1, 0, 0), (24, .invokevirtual 66, 3, 0, 0), (27, .aload_n 0, 1, 0, 0), (28, .getfield 9, 3, 0, 0), (31, .iload_n 2, 1, 0, 0), (32, .invokevirtual 66, 3, 0, 0), (35, .if_icmp .ne 7, 3, 42, 0), (38, .iconst 1, 1, 0, 1), (39, .goto 4, 3, 43, 0), (42, .iconst 0, 1, 0, 0), (43, .ireturn, 1, 0, 0)]
theorem tk_Pai_sameSort : zTok prog_6_method_8_code 3 T_Pai_sameSort := by decide +kernel
theorem yk_Pai_sameSort : zY "RuleTree$Pairs" y_Pai_sameSort prog_6_method_8_code 3 (some Jvm.ClassFile.FieldType.boolean) 2 := ⟨wd_3_34, wd_3_33, ws_1_9, wd_1_9, by decide +kernel⟩
def y_Pai_putInner : MethodName := ⟨"RuleTree$Pairs", "putInner", "(II)Z"⟩
def T_Pai_putInner : List zTr := [(0, .aload_n 0, 1, 0, 0), (1, .getfield 9, 3, 0, 0), (4, .iload_n 1, 1, 0, 0), (5, .invokevirtual 52, 3, 0, 0), (8, .iconst 4, 1, 0, 4), (9, .if_icmp .ne 11, 3, 20, 0), (12, .aload_n 0, 1, 0, 0), (13, .iload_n 1, 1, 0, 0), (14, .iload_n 2, 1, 0, 0), (15, .invokevirtual 69, 3, 0, 0), (18, .iconst 1, 1, 0, 1), (19, .ireturn, 1, 0, 0), (20, .aload_n 0, 1, 0, 0), (21, .getfield 9, 3, 0, 0), (24, .iload_n 1, 1, 0, 0), (25, .invokevirtual 72, 3, 0, 0), (28, .istore_n 3, 1, 0, 0), (29, .aload_n 0, 1, 0, 0), (30, .getfield 9, 3, 0, 0), (33, .iload_n 2, 1, 0, 0), (34, .invokevirtual 72, 3, 0, 0), (37, .istore 4, 2, 0, 0), (39, .iload_n 3, 1, 0, 0), (40, .iconst (-1), 1, 0, (-1)), (41, .if_icmp .eq 9, 3, 50, 0), (44, .iload 4, 2, 0, 0), (46, .iconst (-1), 1, 0, (-1)), (47, .if_icmp .ne 15, 3, 62, 0), (50, .iload_n 3, 1, 0, 0), (51, .iload 4, 2, 0, 0), (53, .if_icmp .ne 7, 3, 60, 0), (56, .iconst 1, 1, 0, 1), (57, .goto 4, 3, 61, 0), (60, .iconst 0, 1, 0, 0), (61, .ireturn, 1, 0, 0), (62, .aload_n 0, 1, 0, 0), (63, .iload_n 3, 1, 0, 0), (64, .iload 4, 2, 0, 0), (66, .invokevirtual 29, 3, 0, 0), (69, .iconst 1, 1, 0, 1), (70, .ireturn, 1, 0, 0)]
theorem tk_Pai_putInner : zTok prog_6_method_9_code 5 T_Pai_putInner := by decide +kernel
theorem yk_Pai_putInner : zY "RuleTree$Pairs" y_Pai_putInner prog_6_method_9_code 5 (some Jvm.ClassFile.FieldType.boolean) 2 := ⟨wd_3_46, wd_3_45, ws_1_10, wd_1_9, by decide +kernel⟩
def y_Pai_putFields : MethodName := ⟨"RuleTree$Pairs", "putFields", "(II)V"⟩
def T_Pai_putFields : List zTr := [(0, .iconst 0, 1, 0, 0), (1, .istore_n 3, 1, 0, 0), (2, .iconst 0, 1, 0, 0), (3, .istore 4, 2, 0, 0), (5, .iload 4, 2, 0, 0), (7, .aload_n 0, 1, 0, 0), (8, .getfield 9, 3, 0, 0), (11, .iload_n 1, 1, 0, 0), (12, .invokevirtual 75, 3, 0, 0), (15, .if_icmp .ge 102, 3, 117, 0), (18, .aload_n 0, 1, 0, 0), (19, .getfield 9, 3, 0, 0), (22, .iload_n 1, 1, 0, 0), (23, .iload 4, 2, 0, 0), (25, .invokevirtual 78, 3, 0, 0), (28, .istore 5, 2, 0, 0), (30, .iload_n 3, 1, 0, 0), (31, .aload_n 0, 1, 0, 0), (32, .getfield 9, 3, 0, 0), (35, .iload_n 2, 1, 0, 0), (36, .invokevirtual 75, 3, 0, 0), (39, .if_icmp .ge 23, 3, 62, 0), (42, .aload_n 0, 1, 0, 0), (43, .getfield 9, 3, 0, 0), (46, .iload_n 2, 1, 0, 0), (47, .iload_n 3, 1, 0, 0), (48, .invokevirtual 78, 3, 0, 0), (51, .iload 5, 2, 0, 0), (53, .if_icmp .ge 9, 3, 62, 0), (56, .iinc 3 1, 3, 0, 1), (59, .goto (-29), 3, 30, 0), (62, .iload_n 3, 1, 0, 0), (63, .aload_n 0, 1, 0, 0), (64, .getfield 9, 3, 0, 0), (67, .iload_n 2, 1, 0, 0), (68, .invokevirtual 75, 3, 0, 0), (71, .if_icmp .ge 40, 3, 111, 0), (74, .aload_n 0, 1, 0, 0), (75, .getfield 9, 3, 0, 0), (78, .iload_n 2, 1, 0, 0), (79, .iload_n 3, 1, 0, 0), (80, .invokevirtual 78, 3, 0, 0), (83, .iload 5, 2, 0, 0), (85, .if_icmp .ne 26, 3, 111, 0), (88, .aload_n 0, 1, 0, 0), (89, .aload_n 0, 1, 0, 0), (90, .getfield 9, 3, 0, 0), (93, .iload_n 1, 1, 0, 0), (94, .iload 4, 2, 0, 0), (96, .invokevirtual 82, 3, 0, 0), (99, .aload_n 0, 1, 0, 0), (100, .getfield 9, 3, 0, 0), (103, .iload_n 2, 1, 0, 0), (104, .iload_n 3, 1, 0, 0), (105, .invokevirtual 82, 3, 0, 0), (108, .invokevirtual 29, 3, 0, 0), (111, .iinc 4 1, 3, 0, 1), (114, .goto (-109), 3, 5, 0), (117, .return_, 1, 0, 0)]
theorem tk_Pai_putFields : zTok prog_6_method_10_code 6 T_Pai_putFields := by decide +kernel
theorem yk_Pai_putFields : zY "RuleTree$Pairs" y_Pai_putFields prog_6_method_10_code 6 none 2 := ⟨wd_3_50, wd_3_49, ws_1_11, wd_1_9, by decide +kernel⟩
def y_Par_init : MethodName := ⟨"RuleTree$Parts", "<init>", "(LRuleTree$Patterns;)V"⟩
def T_Par_init : List zTr := [(0, .aload_n 0, 1, 0, 0), (1, .invokespecial 3, 3, 0, 0), (4, .aload_n 0, 1, 0, 0), (5, .aload_n 1, 1, 0, 0), (6, .putfield 9, 3, 0, 0), (9, .aload_n 0, 1, 0, 0), (10, .new 15, 3, 0, 0), (13, .dup, 1, 0, 0), (14, .invokespecial 17, 3, 0, 0), (17, .putfield 18, 3, 0, 0), (20, .aload_n 0, 1, 0, 0), (21, .new 15, 3, 0, 0), (24, .dup, 1, 0, 0), (25, .invokespecial 17, 3, 0, 0), (28, .putfield 22, 3, 0, 0), (31, .aload_n 0, 1, 0, 0), (32, .new 15, 3, 0, 0), (35, .dup, 1, 0, 0), (36, .invokespecial 17, 3, 0, 0), (39, .putfield 25, 3, 0, 0), (42, .aload_n 0, 1, 0, 0), (43, .new 15, 3, 0, 0), (46, .dup, 1, 0, 0), (47, .invokespecial 17, 3, 0, 0), (50, .putfield 28, 3, 0, 0), (53, .aload_n 0, 1, 0, 0), (54, .new 15, 3, 0, 0), (57, .dup, 1, 0, 0), (58, .invokespecial 17, 3, 0, 0), (61, .putfield 31, 3, 0, 0), (64, .aload_n 0, 1, 0, 0), (65, .new 15, 3, 0, 0), (68, .dup, 1, 0, 0), (69, .invokespecial 17, 3, 0, 0), (72, .putfield 34, 3, 0, 0), (75, .aload_n 0, 1, 0, 0), (76, .new 15, 3, 0, 0), (79, .dup, 1, 0, 0), (80, .invokespecial 17, 3, 0, 0), (83, .putfield 37, 3, 0, 0), (86, .aload_n 0, 1, 0, 0), (87, .new 15, 3, 0, 0), (90, .dup, 1, 0, 0), (91, .invokespecial 17, 3, 0, 0), (94, .putfield 40, 3, 0, 0), (97, .aload_n 0, 1, 0, 0), (98, .new 15, 3, 0, 0), (101, .dup, 1, 0, 0), (102, .invokespecial 17, 3, 0, 0), (105, .putfield 43, 3, 0, 0), (108, .aload_n 0, 1, 0, 0), (109, .new 15, 3, 0, 0), (112, .dup, 1, 0, 0), (113, .invokespecial 17, 3, 0, 0), (116, .putfield 46, 3, 0, 0), (119, .aload_n 0, 1, 0, 0), (120, .new 15, 3, 0, 0), (123, .dup, 1, 0, 0), (124, .invokespecial 17, 3, 0, 0), (127, .putfield 49, 3, 0, 0), (130, .aload_n 0, 1, 0, 0), (131, .new 15, 3, 0, 0), (134, .dup, 1, 0, 0), (135, .invokespecial 17, 3, 0, 0), (138, .putfield 52, 3, 0, 0), (141, .aload_n 0, 1, 0, 0), (142, .new 15, 3, 0, 0), (145, .dup, 1, 0, 0), (146, .invokespecial 17, 3, 0, 0), (149, .putfield 55, 3, 0, 0), (152, .aload_n 0, 1, 0, 0), (153, .new 15, 3, 0, 0), (156, .dup, 1, 0, 0), (157, .invokespecial 17, 3, 0, 0), (160, .putfield 58, 3, 0, 0), (163, .aload_n 0, 1, 0, 0), (164, .iconst (-1), 1, 0, (-1)), (165, .iconst (-1), 1, 0, (-1)), (166, .invokevirtual 61, 3, 0, 0), (169, .pop, 1, 0, 0), (170, .return_, 1, 0, 0)]
theorem tk_Par_init : zTok prog_7_method_1_code 2 T_Par_init := by decide +kernel
def y_Par_size : MethodName := ⟨"RuleTree$Parts", "size", "()I"⟩
def T_Par_size : List zTr := [(0, .aload_n 0, 1, 0, 0), (1, .getfield 18, 3, 0, 0), (4, .invokevirtual 65, 3, 0, 0), (7, .ireturn, 1, 0, 0)]
theorem tk_Par_size : zTok prog_7_method_2_code 1 T_Par_size := by decide +kernel
theorem yk_Par_size : zY "RuleTree$Parts" y_Par_size prog_7_method_2_code 1 (some Jvm.ClassFile.FieldType.int) 0 := ⟨wd_3_172, wd_3_170, wd_3_171, wd_1_10, by decide +kernel⟩
def y_Par_shape : MethodName := ⟨"RuleTree$Parts", "shape", "(I)I"⟩
def T_Par_shape : List zTr := [(0, .aload_n 0, 1, 0, 0), (1, .getfield 18, 3, 0, 0), (4, .iload_n 1, 1, 0, 0), (5, .invokevirtual 69, 3, 0, 0), (8, .ireturn, 1, 0, 0)]
theorem tk_Par_shape : zTok prog_7_method_3_code 2 T_Par_shape := by decide +kernel
theorem yk_Par_shape : zY "RuleTree$Parts" y_Par_shape prog_7_method_3_code 2 (some Jvm.ClassFile.FieldType.int) 1 := ⟨wd_4_72, wd_4_70, wd_4_71, wd_1_10, by decide +kernel⟩
def y_Par_sort : MethodName := ⟨"RuleTree$Parts", "sort", "(I)I"⟩
def T_Par_sort : List zTr := [(0, .aload_n 0, 1, 0, 0), (1, .getfield 22, 3, 0, 0), (4, .iload_n 1, 1, 0, 0), (5, .invokevirtual 69, 3, 0, 0), (8, .ireturn, 1, 0, 0)]
theorem tk_Par_sort : zTok prog_7_method_4_code 2 T_Par_sort := by decide +kernel
theorem yk_Par_sort : zY "RuleTree$Parts" y_Par_sort prog_7_method_4_code 2 (some Jvm.ClassFile.FieldType.int) 1 := ⟨wd_4_80, wd_4_78, wd_4_79, wd_1_10, by decide +kernel⟩
def y_Par_upper : MethodName := ⟨"RuleTree$Parts", "upper", "(I)I"⟩
def T_Par_upper : List zTr := [(0, .aload_n 0, 1, 0, 0), (1, .getfield 25, 3, 0, 0), (4, .iload_n 1, 1, 0, 0), (5, .invokevirtual 69, 3, 0, 0), (8, .ireturn, 1, 0, 0)]
theorem tk_Par_upper : zTok prog_7_method_5_code 2 T_Par_upper := by decide +kernel
theorem yk_Par_upper : zY "RuleTree$Parts" y_Par_upper prog_7_method_5_code 2 (some Jvm.ClassFile.FieldType.int) 1 := ⟨wd_4_136, wd_4_134, wd_4_135, wd_1_10, by decide +kernel⟩
def y_Par_upperEdge : MethodName := ⟨"RuleTree$Parts", "upperEdge", "(I)I"⟩
def T_Par_upperEdge : List zTr := [(0, .aload_n 0, 1, 0, 0), (1, .getfield 28, 3, 0, 0), (4, .iload_n 1, 1, 0, 0), (5, .invokevirtual 69, 3, 0, 0), (8, .ireturn, 1, 0, 0)]
theorem tk_Par_upperEdge : zTok prog_7_method_6_code 2 T_Par_upperEdge := by decide +kernel
theorem yk_Par_upperEdge : zY "RuleTree$Parts" y_Par_upperEdge prog_7_method_6_code 2 (some Jvm.ClassFile.FieldType.int) 1 := ⟨wd_4_176, wd_4_174, wd_4_175, wd_1_10, by decide +kernel⟩
def y_Par_edges : MethodName := ⟨"RuleTree$Parts", "edges", "()I"⟩
def T_Par_edges : List zTr := [(0, .aload_n 0, 1, 0, 0), (1, .getfield 34, 3, 0, 0), (4, .invokevirtual 65, 3, 0, 0), (7, .ireturn, 1, 0, 0)]
theorem tk_Par_edges : zTok prog_7_method_7_code 1 T_Par_edges := by decide +kernel
theorem yk_Par_edges : zY "RuleTree$Parts" y_Par_edges prog_7_method_7_code 1 (some Jvm.ClassFile.FieldType.int) 0 := ⟨wd_4_24, wd_4_22, wd_4_23, wd_1_10, by decide +kernel⟩
def y_Par_firstEdge : MethodName := ⟨"RuleTree$Parts", "firstEdge", "(I)I"⟩
def T_Par_firstEdge : List zTr := [(0, .aload_n 0, 1, 0, 0), (1, .getfield 31, 3, 0, 0), (4, .iload_n 1, 1, 0, 0), (5, .invokevirtual 69, 3, 0, 0), (8, .ireturn, 1, 0, 0)]
theorem tk_Par_firstEdge : zTok prog_7_method_8_code 2 T_Par_firstEdge := by decide +kernel
theorem yk_Par_firstEdge : zY "RuleTree$Parts" y_Par_firstEdge prog_7_method_8_code 2 (some Jvm.ClassFile.FieldType.int) 1 := ⟨wd_4_20, wd_4_18, wd_4_19, wd_1_10, by decide +kernel⟩
def y_Par_nextEdge : MethodName := ⟨"RuleTree$Parts", "nextEdge", "(I)I"⟩
def T_Par_nextEdge : List zTr := [(0, .aload_n 0, 1, 0, 0), (1, .getfield 37, 3, 0, 0), (4, .iload_n 1, 1, 0, 0), (5, .invokevirtual 69, 3, 0, 0), (8, .ireturn, 1, 0, 0)]
theorem tk_Par_nextEdge : zTok prog_7_method_9_code 2 T_Par_nextEdge := by decide +kernel
theorem yk_Par_nextEdge : zY "RuleTree$Parts" y_Par_nextEdge prog_7_method_9_code 2 (some Jvm.ClassFile.FieldType.int) 1 := ⟨wd_4_48, wd_4_46, wd_4_47, wd_1_10, by decide +kernel⟩
def y_Par_label : MethodName := ⟨"RuleTree$Parts", "label", "(I)I"⟩
def T_Par_label : List zTr := [(0, .aload_n 0, 1, 0, 0), (1, .getfield 34, 3, 0, 0), (4, .iload_n 1, 1, 0, 0), (5, .invokevirtual 69, 3, 0, 0), (8, .ireturn, 1, 0, 0)]
theorem tk_Par_label : zTok prog_7_method_10_code 2 T_Par_label := by decide +kernel
theorem yk_Par_label : zY "RuleTree$Parts" y_Par_label prog_7_method_10_code 2 (some Jvm.ClassFile.FieldType.int) 1 := ⟨wd_4_128, wd_4_126, wd_4_127, wd_1_10, by decide +kernel⟩
def y_Par_child : MethodName := ⟨"RuleTree$Parts", "child", "(I)I"⟩
def T_Par_child : List zTr := [(0, .aload_n 0, 1, 0, 0), (1, .getfield 40, 3, 0, 0), (4, .iload_n 1, 1, 0, 0), (5, .invokevirtual 69, 3, 0, 0), (8, .ireturn, 1, 0, 0)]
theorem tk_Par_child : zTok prog_7_method_11_code 2 T_Par_child := by decide +kernel
theorem yk_Par_child : zY "RuleTree$Parts" y_Par_child prog_7_method_11_code 2 (some Jvm.ClassFile.FieldType.int) 1 := ⟨wd_4_195, wd_4_193, wd_4_194, wd_1_10, by decide +kernel⟩
def y_Par_edgeOf : MethodName := ⟨"RuleTree$Parts", "edgeOf", "(II)I"⟩
def T_Par_edgeOf : List zTr := [(0, .aload_n 0, 1, 0, 0), (1, .iload_n 1, 1, 0, 0), (2, .aload_n 0, 1, 0, 0), (3, .iload_n 1, 1, 0, 0), (4, .iload_n 2, 1, 0, 0), (5, .invokevirtual 73, 3, 0, 0), (8, .invokevirtual 76, 3, 0, 0), (11, .istore_n 3, 1, 0, 0), (12, .iload_n 3, 1, 0, 0), (13, .iconst (-1), 1, 0, (-1)), (14, .if_icmp .eq 19, 3, 33, 0), (17, .aload_n 0, 1, 0, 0), (18, .getfield 34, 3, 0, 0), (21, .iload_n 3, 1, 0, 0), (22, .invokevirtual 69, 3, 0, 0), (25, .iload_n 2, 1, 0, 0), (26, .if_icmp .ne 7, 3, 33, 0), (29, .iload_n 3, 1, 0, 0), (30, .goto 4, 3, 34, 0), (33, .iconst (-1), 1, 0, (-1)), (34, .ireturn, 1, 0, 0)]
theorem tk_Par_edgeOf : zTok prog_7_method_12_code 4 T_Par_edgeOf := by decide +kernel
theorem yk_Par_edgeOf : zY "RuleTree$Parts" y_Par_edgeOf prog_7_method_12_code 4 (some Jvm.ClassFile.FieldType.int) 2 := ⟨wd_5_16, wd_5_14, wd_5_15, wd_1_10, by decide +kernel⟩
def y_Par_asks : MethodName := ⟨"RuleTree$Parts", "asks", "()I"⟩
def T_Par_asks : List zTr := [(0, .aload_n 0, 1, 0, 0), (1, .getfield 46, 3, 0, 0), (4, .invokevirtual 65, 3, 0, 0), (7, .ireturn, 1, 0, 0)]
theorem tk_Par_asks : zTok prog_7_method_13_code 1 T_Par_asks := by decide +kernel
theorem yk_Par_asks : zY "RuleTree$Parts" y_Par_asks prog_7_method_13_code 1 (some Jvm.ClassFile.FieldType.int) 0 := ⟨wd_4_36, wd_4_34, wd_4_35, wd_1_10, by decide +kernel⟩
def y_Par_firstAsk : MethodName := ⟨"RuleTree$Parts", "firstAsk", "(I)I"⟩
def T_Par_firstAsk : List zTr := [(0, .aload_n 0, 1, 0, 0), (1, .getfield 43, 3, 0, 0), (4, .iload_n 1, 1, 0, 0), (5, .invokevirtual 69, 3, 0, 0), (8, .ireturn, 1, 0, 0)]
theorem tk_Par_firstAsk : zTok prog_7_method_14_code 2 T_Par_firstAsk := by decide +kernel
theorem yk_Par_firstAsk : zY "RuleTree$Parts" y_Par_firstAsk prog_7_method_14_code 2 (some Jvm.ClassFile.FieldType.int) 1 := ⟨wd_4_32, wd_4_30, wd_4_31, wd_1_10, by decide +kernel⟩
def y_Par_nextAsk : MethodName := ⟨"RuleTree$Parts", "nextAsk", "(I)I"⟩
def T_Par_nextAsk : List zTr := [(0, .aload_n 0, 1, 0, 0), (1, .getfield 52, 3, 0, 0), (4, .iload_n 1, 1, 0, 0), (5, .invokevirtual 69, 3, 0, 0), (8, .ireturn, 1, 0, 0)]
theorem tk_Par_nextAsk : zTok prog_7_method_15_code 2 T_Par_nextAsk := by decide +kernel
theorem yk_Par_nextAsk : zY "RuleTree$Parts" y_Par_nextAsk prog_7_method_15_code 2 (some Jvm.ClassFile.FieldType.int) 1 := ⟨wd_4_44, wd_4_42, wd_4_43, wd_1_10, by decide +kernel⟩
def y_Par_askRule : MethodName := ⟨"RuleTree$Parts", "askRule", "(I)I"⟩
def T_Par_askRule : List zTr := [(0, .aload_n 0, 1, 0, 0), (1, .getfield 46, 3, 0, 0), (4, .iload_n 1, 1, 0, 0), (5, .invokevirtual 69, 3, 0, 0), (8, .ireturn, 1, 0, 0)]
theorem tk_Par_askRule : zTok prog_7_method_16_code 2 T_Par_askRule := by decide +kernel
theorem yk_Par_askRule : zY "RuleTree$Parts" y_Par_askRule prog_7_method_16_code 2 (some Jvm.ClassFile.FieldType.int) 1 := ⟨wd_4_40, wd_4_38, wd_4_39, wd_1_10, by decide +kernel⟩
def y_Par_askPart : MethodName := ⟨"RuleTree$Parts", "askPart", "(I)I"⟩
def T_Par_askPart : List zTr := [(0, .aload_n 0, 1, 0, 0), (1, .getfield 49, 3, 0, 0), (4, .iload_n 1, 1, 0, 0), (5, .invokevirtual 69, 3, 0, 0), (8, .ireturn, 1, 0, 0)]
theorem tk_Par_askPart : zTok prog_7_method_17_code 2 T_Par_askPart := by decide +kernel
theorem yk_Par_askPart : zY "RuleTree$Parts" y_Par_askPart prog_7_method_17_code 2 (some Jvm.ClassFile.FieldType.int) 1 := ⟨wd_3_225, wd_3_223, wd_3_224, wd_1_10, by decide +kernel⟩
def y_Par_startOf : MethodName := ⟨"RuleTree$Parts", "startOf", "(I)I"⟩
def T_Par_startOf : List zTr := [(0, .aload_n 0, 1, 0, 0), (1, .getfield 55, 3, 0, 0), (4, .iload_n 1, 1, 0, 0), (5, .invokevirtual 69, 3, 0, 0), (8, .ireturn, 1, 0, 0)]
theorem tk_Par_startOf : zTok prog_7_method_18_code 2 T_Par_startOf := by decide +kernel
theorem yk_Par_startOf : zY "RuleTree$Parts" y_Par_startOf prog_7_method_18_code 2 (some Jvm.ClassFile.FieldType.int) 1 := ⟨wd_3_213, wd_3_211, wd_3_212, wd_1_10, by decide +kernel⟩
def y_Par_stopOf : MethodName := ⟨"RuleTree$Parts", "stopOf", "(I)I"⟩
def T_Par_stopOf : List zTr := [(0, .iload_n 1, 1, 0, 0), (1, .iconst 1, 1, 0, 1), (2, .iadd, 1, 0, 0), (3, .aload_n 0, 1, 0, 0), (4, .getfield 55, 3, 0, 0), (7, .invokevirtual 65, 3, 0, 0), (10, .if_icmp .ge 16, 3, 26, 0), (13, .aload_n 0, 1, 0, 0), (14, .getfield 55, 3, 0, 0), (17, .iload_n 1, 1, 0, 0), (18, .iconst 1, 1, 0, 1), (19, .iadd, 1, 0, 0), (20, .invokevirtual 69, 3, 0, 0), (23, .goto 10, 3, 33, 0), (26, .aload_n 0, 1, 0, 0), (27, .getfield 46, 3, 0, 0), (30, .invokevirtual 65, 3, 0, 0), (33, .ireturn, 1, 0, 0)]
theorem tk_Par_stopOf : zTok prog_7_method_19_code 2 T_Par_stopOf := by decide +kernel
theorem yk_Par_stopOf : zY "RuleTree$Parts" y_Par_stopOf prog_7_method_19_code 2 (some Jvm.ClassFile.FieldType.int) 1 := ⟨wd_3_221, wd_3_219, wd_3_220, wd_1_10, by decide +kernel⟩
def y_Par_lay : MethodName := ⟨"RuleTree$Parts", "lay", "(II)V"⟩
def T_Par_lay : List zTr := [(0, .aload_n 0, 1, 0, 0), (1, .getfield 55, 3, 0, 0), (4, .aload_n 0, 1, 0, 0), (5, .getfield 46, 3, 0, 0), (8, .invokevirtual 65, 3, 0, 0), (11, .invokevirtual 79, 3, 0, 0), (14, .pop, 1, 0, 0), (15, .aload_n 0, 1, 0, 0), (16, .getfield 58, 3, 0, 0), (19, .invokevirtual 82, 3, 0, 0), (22, .aload_n 0, 1, 0, 0), (23, .iload_n 2, 1, 0, 0), (24, .iconst 0, 1, 0, 0), (25, .invokevirtual 85, 3, 0, 0), (28, .iconst 0, 1, 0, 0), (29, .istore_n 3, 1, 0, 0), (30, .aload_n 0, 1, 0, 0), (31, .getfield 58, 3, 0, 0), (34, .invokevirtual 65, 3, 0, 0), (37, .ifCond .le 78, 3, 115, 0), (40, .iload_n 3, 1, 0, 0), (41, .ldc 89, 2, 0, 0), (43, .if_icmp .ge 72, 3, 115, 0), (46, .aload_n 0, 1, 0, 0), (47, .getfield 58, 3, 0, 0), (50, .invokevirtual 90, 3, 0, 0), (53, .istore 4, 2, 0, 0), (55, .aload_n 0, 1, 0, 0), (56, .getfield 58, 3, 0, 0), (59, .invokevirtual 90, 3, 0, 0), (62, .istore 5, 2, 0, 0), (64, .aload_n 0, 1, 0, 0), (65, .getfield 9, 3, 0, 0), (68, .iload 5, 2, 0, 0), (70, .invokevirtual 93, 3, 0, 0), (73, .iconst 4, 1, 0, 4), (74, .if_icmp .ne 14, 3, 88, 0), (77, .aload_n 0, 1, 0, 0), (78, .iload 5, 2, 0, 0), (80, .iload 4, 2, 0, 0), (82, .invokevirtual 98, 3, 0, 0), (85, .goto 24, 3, 109, 0), (88, .aload_n 0, 1, 0, 0), (89, .getfield 9, 3, 0, 0), (92, .iload 5, 2, 0, 0), (94, .invokevirtual 93, 3, 0, 0), (97, .ifCond .eq 12, 3, 109, 0), (100, .aload_n 0, 1, 0, 0), (101, .iload_n 1, 1, 0, 0), (102, .iload 5, 2, 0, 0), (104, .iload 4, 2, 0, 0), (106, .invokevirtual 101, 3, 0, 0), (109, .iinc 3 1, 3, 0, 1), (112, .goto (-82), 3, 30, 0), (115, .return_, 1, 0, 0)]
theorem tk_Par_lay : zTok prog_7_method_20_code 6 T_Par_lay := by decide +kernel
theorem yk_Par_lay : zY "RuleTree$Parts" y_Par_lay prog_7_method_20_code 6 none 2 := ⟨wd_3_79, wd_3_77, wd_3_78, wd_1_10, by decide +kernel⟩
def y_Par_empty : MethodName := ⟨"RuleTree$Parts", "empty", "()V"⟩
def T_Par_empty : List zTr := [(0, .aload_n 0, 1, 0, 0), (1, .getfield 18, 3, 0, 0), (4, .invokevirtual 82, 3, 0, 0), (7, .aload_n 0, 1, 0, 0), (8, .getfield 22, 3, 0, 0), (11, .invokevirtual 82, 3, 0, 0), (14, .aload_n 0, 1, 0, 0), (15, .getfield 25, 3, 0, 0), (18, .invokevirtual 82, 3, 0, 0), (21, .aload_n 0, 1, 0, 0), (22, .getfield 28, 3, 0, 0), (25, .invokevirtual 82, 3, 0, 0), (28, .aload_n 0, 1, 0, 0), (29, .getfield 31, 3, 0, 0), (32, .invokevirtual 82, 3, 0, 0), (35, .aload_n 0, 1, 0, 0), (36, .getfield 34, 3, 0, 0), (39, .invokevirtual 82, 3, 0, 0), (42, .aload_n 0, 1, 0, 0), (43, .getfield 37, 3, 0, 0), (46, .invokevirtual 82, 3, 0, 0), (49, .aload_n 0, 1, 0, 0), (50, .getfield 40, 3, 0, 0), (53, .invokevirtual 82, 3, 0, 0), (56, .aload_n 0, 1, 0, 0), (57, .getfield 43, 3, 0, 0), (60, .invokevirtual 82, 3, 0, 0), (63, .aload_n 0, 1, 0, 0), (64, .getfield 46, 3, 0, 0), (67, .invokevirtual 82, 3, 0, 0), (70, .aload_n 0, 1, 0, 0), (71, .getfield 49, 3, 0, 0), (74, .invokevirtual 82, 3, 0, 0), (77, .aload_n 0, 1, 0, 0), (78, .getfield 52, 3, 0, 0), (81, .invokevirtual 82, 3, 0, 0), (84, .aload_n 0, 1, 0, 0), (85, .getfield 55, 3, 0, 0), (88, .invokevirtual 82, 3, 0, 0), (91, .aload_n 0, 1, 0, 0), (92, .iconst (-1), 1, 0, (-1)), (93, .iconst (-1), 1, 0, (-1)), (94, .invokevirtual 61, 3, 0, 0), (97, .pop, 1, 0, 0), (98, .return_, 1, 0, 0)]
theorem tk_Par_empty : zTok prog_7_method_21_code 1 T_Par_empty := by decide +kernel
theorem yk_Par_empty : zY "RuleTree$Parts" y_Par_empty prog_7_method_21_code 1 none 0 := ⟨wd_3_141, wd_3_139, wd_3_140, wd_1_10, by decide +kernel⟩
def y_Par_putOpen : MethodName := ⟨"RuleTree$Parts", "putOpen", "(II)V"⟩
def T_Par_putOpen : List zTr := [(0, .aload_n 0, 1, 0, 0), (1, .getfield 58, 3, 0, 0), (4, .iload_n 1, 1, 0, 0), (5, .invokevirtual 79, 3, 0, 0), (8, .pop, 1, 0, 0), (9, .aload_n 0, 1, 0, 0), (10, .getfield 58, 3, 0, 0), (13, .iload_n 2, 1, 0, 0), (14, .invokevirtual 79, 3, 0, 0), (17, .pop, 1, 0, 0), (18, .return_, 1, 0, 0)]
theorem tk_Par_putOpen : zTok prog_7_method_22_code 3 T_Par_putOpen := by decide +kernel
theorem yk_Par_putOpen : zY "RuleTree$Parts" y_Par_putOpen prog_7_method_22_code 3 none 2 := ⟨wd_3_85, wd_3_84, ws_1_13, wd_1_10, by decide +kernel⟩
def y_Par_layRecord : MethodName := ⟨"RuleTree$Parts", "layRecord", "(II)V"⟩
def T_Par_layRecord : List zTr := [(0, .aload_n 0, 1, 0, 0), (1, .iload_n 2, 1, 0, 0), (2, .iload_n 1, 1, 0, 0), (3, .invokevirtual 105, 3, 0, 0), (6, .aload_n 0, 1, 0, 0), (7, .getfield 9, 3, 0, 0), (10, .iload_n 1, 1, 0, 0), (11, .invokevirtual 108, 3, 0, 0), (14, .iconst 1, 1, 0, 1), (15, .isub, 1, 0, 0), (16, .istore_n 3, 1, 0, 0), (17, .iload_n 3, 1, 0, 0), (18, .ifCond .lt 45, 3, 63, 0), (21, .aload_n 0, 1, 0, 0), (22, .iload_n 2, 1, 0, 0), (23, .aload_n 0, 1, 0, 0), (24, .getfield 9, 3, 0, 0), (27, .iload_n 1, 1, 0, 0), (28, .iload_n 3, 1, 0, 0), (29, .invokevirtual 111, 3, 0, 0), (32, .invokevirtual 114, 3, 0, 0), (35, .istore 4, 2, 0, 0), (37, .aload_n 0, 1, 0, 0), (38, .aload_n 0, 1, 0, 0), (39, .getfield 9, 3, 0, 0), (42, .iload_n 1, 1, 0, 0), (43, .iload_n 3, 1, 0, 0), (44, .invokevirtual 117, 3, 0, 0), (47, .aload_n 0, 1, 0, 0), (48, .iload_n 2, 1, 0, 0), (49, .iload 4, 2, 0, 0), (51, .invokevirtual 120, 3, 0, 0), (54, .invokevirtual 85, 3, 0, 0), (57, .iinc 3 (-1), 3, 0, (-1)), (60, .goto (-43), 3, 17, 0), (63, .return_, 1, 0, 0)]
theorem tk_Par_layRecord : zTok prog_7_method_23_code 5 T_Par_layRecord := by decide +kernel
theorem yk_Par_layRecord : zY "RuleTree$Parts" y_Par_layRecord prog_7_method_23_code 5 none 2 := ⟨wd_3_92, wd_3_91, ws_1_14, wd_1_10, by decide +kernel⟩
def y_Par_layAsk : MethodName := ⟨"RuleTree$Parts", "layAsk", "(III)V"⟩
def T_Par_layAsk : List zTr := [(0, .aload_n 0, 1, 0, 0), (1, .iload_n 3, 1, 0, 0), (2, .iload_n 2, 1, 0, 0), (3, .invokevirtual 105, 3, 0, 0), (6, .aload_n 0, 1, 0, 0), (7, .iload_n 3, 1, 0, 0), (8, .aload_n 0, 1, 0, 0), (9, .getfield 9, 3, 0, 0), (12, .iload_n 2, 1, 0, 0), (13, .invokevirtual 123, 3, 0, 0), (16, .invokevirtual 114, 3, 0, 0), (19, .istore 4, 2, 0, 0), (21, .aload_n 0, 1, 0, 0), (22, .getfield 46, 3, 0, 0), (25, .iload_n 1, 1, 0, 0), (26, .invokevirtual 79, 3, 0, 0), (29, .pop, 1, 0, 0), (30, .aload_n 0, 1, 0, 0), (31, .getfield 49, 3, 0, 0), (34, .iload_n 3, 1, 0, 0), (35, .invokevirtual 79, 3, 0, 0), (38, .pop, 1, 0, 0), (39, .aload_n 0, 1, 0, 0), (40, .getfield 52, 3, 0, 0), (43, .aload_n 0, 1, 0, 0), (44, .getfield 43, 3, 0, 0), (47, .iload 4, 2, 0, 0), (49, .invokevirtual 69, 3, 0, 0), (52, .invokevirtual 79, 3, 0, 0), (55, .pop, 1, 0, 0), (56, .aload_n 0, 1, 0, 0), (57, .getfield 43, 3, 0, 0), (60, .iload 4, 2, 0, 0), (62, .aload_n 0, 1, 0, 0), (63, .getfield 46, 3, 0, 0), (66, .invokevirtual 65, 3, 0, 0), (69, .iconst 1, 1, 0, 1), (70, .isub, 1, 0, 0), (71, .invokevirtual 126, 3, 0, 0), (74, .aload_n 0, 1, 0, 0), (75, .getfield 9, 3, 0, 0), (78, .iload_n 2, 1, 0, 0), (79, .invokevirtual 129, 3, 0, 0), (82, .istore 5, 2, 0, 0), (84, .iload 5, 2, 0, 0), (86, .iconst (-1), 1, 0, (-1)), (87, .if_icmp .eq 16, 3, 103, 0), (90, .aload_n 0, 1, 0, 0), (91, .iload 5, 2, 0, 0), (93, .aload_n 0, 1, 0, 0), (94, .iload_n 3, 1, 0, 0), (95, .iload 4, 2, 0, 0), (97, .invokevirtual 120, 3, 0, 0), (100, .invokevirtual 85, 3, 0, 0), (103, .return_, 1, 0, 0)]
theorem tk_Par_layAsk : zTok prog_7_method_24_code 6 T_Par_layAsk := by decide +kernel
theorem yk_Par_layAsk : zY "RuleTree$Parts" y_Par_layAsk prog_7_method_24_code 6 none 3 := ⟨wd_3_126, wd_3_125, ws_2_5, wd_1_10, by decide +kernel⟩
def y_Par_setSort : MethodName := ⟨"RuleTree$Parts", "setSort", "(II)V"⟩
def T_Par_setSort : List zTr := [(0, .aload_n 0, 1, 0, 0), (1, .getfield 18, 3, 0, 0), (4, .iload_n 1, 1, 0, 0), (5, .aload_n 0, 1, 0, 0), (6, .getfield 9, 3, 0, 0), (9, .iload_n 2, 1, 0, 0), (10, .invokevirtual 93, 3, 0, 0), (13, .invokevirtual 126, 3, 0, 0), (16, .aload_n 0, 1, 0, 0), (17, .getfield 22, 3, 0, 0), (20, .iload_n 1, 1, 0, 0), (21, .aload_n 0, 1, 0, 0), (22, .getfield 9, 3, 0, 0), (25, .iload_n 2, 1, 0, 0), (26, .invokevirtual 132, 3, 0, 0), (29, .invokevirtual 126, 3, 0, 0), (32, .return_, 1, 0, 0)]
theorem tk_Par_setSort : zTok prog_7_method_25_code 3 T_Par_setSort := by decide +kernel
theorem yk_Par_setSort : zY "RuleTree$Parts" y_Par_setSort prog_7_method_25_code 3 none 2 := ⟨wd_3_96, wd_3_95, ws_1_15, wd_1_10, by decide +kernel⟩
def y_Par_edgeFor : MethodName := ⟨"RuleTree$Parts", "edgeFor", "(II)I"⟩
def T_Par_edgeFor : List zTr := [(0, .aload_n 0, 1, 0, 0), (1, .iload_n 1, 1, 0, 0), (2, .iload_n 2, 1, 0, 0), (3, .invokevirtual 73, 3, 0, 0), (6, .istore_n 3, 1, 0, 0), (7, .aload_n 0, 1, 0, 0), (8, .iload_n 1, 1, 0, 0), (9, .iload_n 3, 1, 0, 0), (10, .invokevirtual 76, 3, 0, 0), (13, .istore 4, 2, 0, 0), (15, .iload 4, 2, 0, 0), (17, .iconst (-1), 1, 0, (-1)), (18, .if_icmp .eq 20, 3, 38, 0), (21, .aload_n 0, 1, 0, 0), (22, .getfield 34, 3, 0, 0), (25, .iload 4, 2, 0, 0), (27, .invokevirtual 69, 3, 0, 0), (30, .iload_n 2, 1, 0, 0), (31, .if_icmp .ne 7, 3, 38, 0), (34, .iconst 1, 1, 0, 1), (35, .goto 4, 3, 39, 0), (38, .iconst 0, 1, 0, 0), (39, .istore 5, 2, 0, 0), (41, .iload 5, 2, 0, 0), (43, .ifCond .eq 8, 3, 51, 0), (46, .iload 4, 2, 0, 0), (48, .goto 10, 3, 58, 0), (51, .aload_n 0, 1, 0, 0), (52, .iload_n 1, 1, 0, 0), (53, .iload_n 3, 1, 0, 0), (54, .iload_n 2, 1, 0, 0), (55, .invokevirtual 135, 3, 0, 0), (58, .ireturn, 1, 0, 0)]
theorem tk_Par_edgeFor : zTok prog_7_method_26_code 6 T_Par_edgeFor := by decide +kernel
theorem yk_Par_edgeFor : zY "RuleTree$Parts" y_Par_edgeFor prog_7_method_26_code 6 (some Jvm.ClassFile.FieldType.int) 2 := ⟨wd_3_104, wd_3_103, ws_2_0, wd_1_10, by decide +kernel⟩
def y_Par_lastBelow : MethodName := ⟨"RuleTree$Parts", "lastBelow", "(II)I"⟩
def T_Par_lastBelow : List zTr := [(0, .iconst (-1), 1, 0, (-1)), (1, .istore_n 3, 1, 0, 0), (2, .aload_n 0, 1, 0, 0), (3, .getfield 31, 3, 0, 0), (6, .iload_n 1, 1, 0, 0), (7, .invokevirtual 69, 3, 0, 0), (10, .istore 4, 2, 0, 0), (12, .aload_n 0, 1, 0, 0), (13, .getfield 34, 3, 0, 0), (16, .invokevirtual 65, 3, 0, 0), (19, .istore 5, 2, 0, 0), (21, .iload 5, 2, 0, 0), (23, .ifCond .le 42, 3, 65, 0), (26, .iload 4, 2, 0, 0), (28, .iconst (-1), 1, 0, (-1)), (29, .if_icmp .eq 36, 3, 65, 0), (32, .aload_n 0, 1, 0, 0), (33, .getfield 34, 3, 0, 0), (36, .iload 4, 2, 0, 0), (38, .invokevirtual 69, 3, 0, 0), (41, .iload_n 2, 1, 0, 0), (42, .if_icmp .ge 23, 3, 65, 0), (45, .iload 4, 2, 0, 0), (47, .istore_n 3, 1, 0, 0), (48, .aload_n 0, 1, 0, 0), (49, .getfield 37, 3, 0, 0), (52, .iload 4, 2, 0, 0), (54, .invokevirtual 69, 3, 0, 0), (57, .istore 4, 2, 0, 0), (59, .iinc 5 (-1), 3, 0, (-1)), (62, .goto (-41), 3, 21, 0), (65, .iload_n 3, 1, 0, 0), (66, .ireturn, 1, 0, 0)]
theorem tk_Par_lastBelow : zTok prog_7_method_27_code 6 T_Par_lastBelow := by decide +kernel
theorem yk_Par_lastBelow : zY "RuleTree$Parts" y_Par_lastBelow prog_7_method_27_code 6 (some Jvm.ClassFile.FieldType.int) 2 := ⟨wd_3_108, wd_3_107, ws_2_1, wd_1_10, by decide +kernel⟩
def y_Par_edgeAfter : MethodName := ⟨"RuleTree$Parts", "edgeAfter", "(II)I"⟩
def T_Par_edgeAfter : List zTr := [(0, .iload_n 2, 1, 0, 0), (1, .iconst (-1), 1, 0, (-1)), (2, .if_icmp .ne 14, 3, 16, 0), (5, .aload_n 0, 1, 0, 0), (6, .getfield 31, 3, 0, 0), (9, .iload_n 1, 1, 0, 0), (10, .invokevirtual 69, 3, 0, 0), (13, .goto 11, 3, 24, 0), (16, .aload_n 0, 1, 0, 0), (17, .getfield 37, 3, 0, 0), (20, .iload_n 2, 1, 0, 0), (21, .invokevirtual 69, 3, 0, 0), (24, .ireturn, 1, 0, 0)]
theorem tk_Par_edgeAfter : zTok prog_7_method_28_code 3 T_Par_edgeAfter := by decide +kernel
theorem yk_Par_edgeAfter : zY "RuleTree$Parts" y_Par_edgeAfter prog_7_method_28_code 3 (some Jvm.ClassFile.FieldType.int) 2 := ⟨wd_3_113, wd_3_112, ws_2_2, wd_1_10, by decide +kernel⟩
def y_Par_addEdge : MethodName := ⟨"RuleTree$Parts", "addEdge", "(III)I"⟩
def T_Par_addEdge : List zTr := [(0, .aload_n 0, 1, 0, 0), (1, .getfield 37, 3, 0, 0), (4, .aload_n 0, 1, 0, 0), (5, .iload_n 1, 1, 0, 0), (6, .iload_n 2, 1, 0, 0), (7, .invokevirtual 76, 3, 0, 0), (10, .invokevirtual 79, 3, 0, 0), (13, .pop, 1, 0, 0), (14, .aload_n 0, 1, 0, 0), (15, .getfield 40, 3, 0, 0), (18, .iconst (-1), 1, 0, (-1)), (19, .invokevirtual 79, 3, 0, 0), (22, .pop, 1, 0, 0), (23, .aload_n 0, 1, 0, 0), (24, .getfield 43, 3, 0, 0), (27, .iconst (-1), 1, 0, (-1)), (28, .invokevirtual 79, 3, 0, 0), (31, .pop, 1, 0, 0), (32, .aload_n 0, 1, 0, 0), (33, .getfield 34, 3, 0, 0), (36, .iload_n 3, 1, 0, 0), (37, .invokevirtual 79, 3, 0, 0), (40, .istore 4, 2, 0, 0), (42, .iload_n 2, 1, 0, 0), (43, .iconst (-1), 1, 0, (-1)), (44, .if_icmp .ne 16, 3, 60, 0), (47, .aload_n 0, 1, 0, 0), (48, .getfield 31, 3, 0, 0), (51, .iload_n 1, 1, 0, 0), (52, .iload 4, 2, 0, 0), (54, .invokevirtual 126, 3, 0, 0), (57, .goto 13, 3, 70, 0), (60, .aload_n 0, 1, 0, 0), (61, .getfield 37, 3, 0, 0), (64, .iload_n 2, 1, 0, 0), (65, .iload 4, 2, 0, 0), (67, .invokevirtual 126, 3, 0, 0), (70, .iload 4, 2, 0, 0), (72, .ireturn, 1, 0, 0)]
theorem tk_Par_addEdge : zTok prog_7_method_29_code 5 T_Par_addEdge := by decide +kernel
theorem yk_Par_addEdge : zY "RuleTree$Parts" y_Par_addEdge prog_7_method_29_code 5 (some Jvm.ClassFile.FieldType.int) 3 := ⟨wd_3_117, wd_3_116, ws_2_3, wd_1_10, by decide +kernel⟩
def y_Par_childFor : MethodName := ⟨"RuleTree$Parts", "childFor", "(II)I"⟩
def T_Par_childFor : List zTr := [(0, .aload_n 0, 1, 0, 0), (1, .getfield 40, 3, 0, 0), (4, .iload_n 2, 1, 0, 0), (5, .invokevirtual 69, 3, 0, 0), (8, .iconst (-1), 1, 0, (-1)), (9, .if_icmp .ne 17, 3, 26, 0), (12, .aload_n 0, 1, 0, 0), (13, .getfield 40, 3, 0, 0), (16, .iload_n 2, 1, 0, 0), (17, .aload_n 0, 1, 0, 0), (18, .iload_n 1, 1, 0, 0), (19, .iload_n 2, 1, 0, 0), (20, .invokevirtual 61, 3, 0, 0), (23, .invokevirtual 126, 3, 0, 0), (26, .aload_n 0, 1, 0, 0), (27, .getfield 40, 3, 0, 0), (30, .iload_n 2, 1, 0, 0), (31, .invokevirtual 69, 3, 0, 0), (34, .ireturn, 1, 0, 0)]
theorem tk_Par_childFor : zTok prog_7_method_30_code 3 T_Par_childFor := by decide +kernel
theorem yk_Par_childFor : zY "RuleTree$Parts" y_Par_childFor prog_7_method_30_code 3 (some Jvm.ClassFile.FieldType.int) 2 := ⟨wd_3_122, wd_3_121, ws_2_4, wd_1_10, by decide +kernel⟩
def y_Par_addPart : MethodName := ⟨"RuleTree$Parts", "addPart", "(II)I"⟩
def T_Par_addPart : List zTr := [(0, .aload_n 0, 1, 0, 0), (1, .getfield 22, 3, 0, 0), (4, .iconst 0, 1, 0, 0), (5, .invokevirtual 79, 3, 0, 0), (8, .pop, 1, 0, 0), (9, .aload_n 0, 1, 0, 0), (10, .getfield 25, 3, 0, 0), (13, .iload_n 1, 1, 0, 0), (14, .invokevirtual 79, 3, 0, 0), (17, .pop, 1, 0, 0), (18, .aload_n 0, 1, 0, 0), (19, .getfield 28, 3, 0, 0), (22, .iload_n 2, 1, 0, 0), (23, .invokevirtual 79, 3, 0, 0), (26, .pop, 1, 0, 0), (27, .aload_n 0, 1, 0, 0), (28, .getfield 31, 3, 0, 0), (31, .iconst (-1), 1, 0, (-1)), (32, .invokevirtual 79, 3, 0, 0), (35, .pop, 1, 0, 0), (36, .aload_n 0, 1, 0, 0), (37, .getfield 18, 3, 0, 0), (40, .iconst 0, 1, 0, 0), (41, .invokevirtual 79, 3, 0, 0), (44, .ireturn, 1, 0, 0)]
theorem tk_Par_addPart : zTok prog_7_method_31_code 3 T_Par_addPart := by decide +kernel
theorem yk_Par_addPart : zY "RuleTree$Parts" y_Par_addPart prog_7_method_31_code 3 (some Jvm.ClassFile.FieldType.int) 2 := ⟨wd_1_156, wd_1_155, ws_1_0, wd_1_10, by decide +kernel⟩
def y_Pat_init : MethodName := ⟨"RuleTree$Patterns", "<init>", "()V"⟩
def T_Pat_init : List zTr := [(0, .aload_n 0, 1, 0, 0), (1, .invokespecial 3, 3, 0, 0), (4, .aload_n 0, 1, 0, 0), (5, .new 9, 3, 0, 0), (8, .dup, 1, 0, 0), (9, .invokespecial 11, 3, 0, 0), (12, .putfield 12, 3, 0, 0), (15, .aload_n 0, 1, 0, 0), (16, .new 9, 3, 0, 0), (19, .dup, 1, 0, 0), (20, .invokespecial 11, 3, 0, 0), (23, .putfield 18, 3, 0, 0), (26, .aload_n 0, 1, 0, 0), (27, .new 9, 3, 0, 0), (30, .dup, 1, 0, 0), (31, .invokespecial 11, 3, 0, 0), (34, .putfield 21, 3, 0, 0), (37, .aload_n 0, 1, 0, 0), (38, .new 9, 3, 0, 0), (41, .dup, 1, 0, 0), (42, .invokespecial 11, 3, 0, 0), (45, .putfield 24, 3, 0, 0), (48, .aload_n 0, 1, 0, 0), (49, .new 9, 3, 0, 0), (52, .dup, 1, 0, 0), (53, .invokespecial 11, 3, 0, 0), (56, .putfield 27, 3, 0, 0), (59, .aload_n 0, 1, 0, 0), (60, .new 9, 3, 0, 0), (63, .dup, 1, 0, 0), (64, .invokespecial 11, 3, 0, 0), (67, .putfield 30, 3, 0, 0), (70, .aload_n 0, 1, 0, 0), (71, .new 9, 3, 0, 0), (74, .dup, 1, 0, 0), (75, .invokespecial 11, 3, 0, 0), (78, .putfield 33, 3, 0, 0), (81, .aload_n 0, 1, 0, 0), (82, .new 9, 3, 0, 0), (85, .dup, 1, 0, 0), (86, .invokespecial 11, 3, 0, 0), (89, .putfield 36, 3, 0, 0), (92, .aload_n 0, 1, 0, 0), (93, .new 9, 3, 0, 0), (96, .dup, 1, 0, 0), (97, .invokespecial 11, 3, 0, 0), (100, .putfield 39, 3, 0, 0), (103, .return_, 1, 0, 0)]
theorem tk_Pat_init : zTok prog_8_method_1_code 1 T_Pat_init := by decide +kernel
def y_Pat_size : MethodName := ⟨"RuleTree$Patterns", "size", "()I"⟩
def T_Pat_size : List zTr := [(0, .aload_n 0, 1, 0, 0), (1, .getfield 12, 3, 0, 0), (4, .invokevirtual 42, 3, 0, 0), (7, .ireturn, 1, 0, 0)]
theorem tk_Pat_size : zTok prog_8_method_2_code 1 T_Pat_size := by decide +kernel
theorem yk_Pat_size : zY "RuleTree$Patterns" y_Pat_size prog_8_method_2_code 1 (some Jvm.ClassFile.FieldType.int) 0 := ⟨wd_3_149, wd_3_147, wd_3_148, wd_1_4, by decide +kernel⟩
def y_Pat_has : MethodName := ⟨"RuleTree$Patterns", "has", "(I)Z"⟩
def T_Pat_has : List zTr := [(0, .iload_n 1, 1, 0, 0), (1, .ifCond .lt 18, 3, 19, 0), (4, .iload_n 1, 1, 0, 0), (5, .aload_n 0, 1, 0, 0), (6, .getfield 12, 3, 0, 0), (9, .invokevirtual 42, 3, 0, 0), (12, .if_icmp .ge 7, 3, 19, 0), (15, .iconst 1, 1, 0, 1), (16, .goto 4, 3, 20, 0), (19, .iconst 0, 1, 0, 0), (20, .ireturn, 1, 0, 0)]
theorem tk_Pat_has : zTok prog_8_method_3_code 2 T_Pat_has := by decide +kernel
theorem yk_Pat_has : zY "RuleTree$Patterns" y_Pat_has prog_8_method_3_code 2 (some Jvm.ClassFile.FieldType.boolean) 1 := ⟨wd_2_174, wd_2_172, wd_2_173, wd_1_4, by decide +kernel⟩
def y_Pat_shape : MethodName := ⟨"RuleTree$Patterns", "shape", "(I)I"⟩
def T_Pat_shape : List zTr := [(0, .aload_n 0, 1, 0, 0), (1, .getfield 12, 3, 0, 0), (4, .iload_n 1, 1, 0, 0), (5, .invokevirtual 46, 3, 0, 0), (8, .ireturn, 1, 0, 0)]
theorem tk_Pat_shape : zTok prog_8_method_4_code 2 T_Pat_shape := by decide +kernel
theorem yk_Pat_shape : zY "RuleTree$Patterns" y_Pat_shape prog_8_method_4_code 2 (some Jvm.ClassFile.FieldType.int) 1 := ⟨wd_3_30, wd_3_28, wd_3_29, wd_1_4, by decide +kernel⟩
def y_Pat_sort : MethodName := ⟨"RuleTree$Patterns", "sort", "(I)I"⟩
def T_Pat_sort : List zTr := [(0, .aload_n 0, 1, 0, 0), (1, .getfield 18, 3, 0, 0), (4, .iload_n 1, 1, 0, 0), (5, .invokevirtual 46, 3, 0, 0), (8, .ireturn, 1, 0, 0)]
theorem tk_Pat_sort : zTok prog_8_method_5_code 2 T_Pat_sort := by decide +kernel
theorem yk_Pat_sort : zY "RuleTree$Patterns" y_Pat_sort prog_8_method_5_code 2 (some Jvm.ClassFile.FieldType.int) 1 := ⟨wd_3_38, wd_3_36, wd_3_37, wd_1_4, by decide +kernel⟩
def y_Pat_mark : MethodName := ⟨"RuleTree$Patterns", "mark", "(I)I"⟩
def T_Pat_mark : List zTr := [(0, .aload_n 0, 1, 0, 0), (1, .getfield 21, 3, 0, 0), (4, .iload_n 1, 1, 0, 0), (5, .invokevirtual 46, 3, 0, 0), (8, .ireturn, 1, 0, 0)]
theorem tk_Pat_mark : zTok prog_8_method_6_code 2 T_Pat_mark := by decide +kernel
theorem yk_Pat_mark : zY "RuleTree$Patterns" y_Pat_mark prog_8_method_6_code 2 (some Jvm.ClassFile.FieldType.int) 1 := ⟨wd_3_42, wd_3_40, wd_3_41, wd_1_4, by decide +kernel⟩
def y_Pat_weight : MethodName := ⟨"RuleTree$Patterns", "weight", "(I)I"⟩
def T_Pat_weight : List zTr := [(0, .aload_n 0, 1, 0, 0), (1, .getfield 30, 3, 0, 0), (4, .iload_n 1, 1, 0, 0), (5, .invokevirtual 46, 3, 0, 0), (8, .ireturn, 1, 0, 0)]
theorem tk_Pat_weight : zTok prog_8_method_7_code 2 T_Pat_weight := by decide +kernel
theorem yk_Pat_weight : zY "RuleTree$Patterns" y_Pat_weight prog_8_method_7_code 2 (some Jvm.ClassFile.FieldType.int) 1 := ⟨wd_3_74, wd_3_72, wd_3_73, wd_1_4, by decide +kernel⟩
def y_Pat_isValue : MethodName := ⟨"RuleTree$Patterns", "isValue", "(I)Z"⟩
def T_Pat_isValue : List zTr := [(0, .aload_n 0, 1, 0, 0), (1, .getfield 33, 3, 0, 0), (4, .iload_n 1, 1, 0, 0), (5, .invokevirtual 46, 3, 0, 0), (8, .iconst 1, 1, 0, 1), (9, .if_icmp .ne 7, 3, 16, 0), (12, .iconst 1, 1, 0, 1), (13, .goto 4, 3, 17, 0), (16, .iconst 0, 1, 0, 0), (17, .ireturn, 1, 0, 0)]
theorem tk_Pat_isValue : zTok prog_8_method_8_code 2 T_Pat_isValue := by decide +kernel
theorem yk_Pat_isValue : zY "RuleTree$Patterns" y_Pat_isValue prog_8_method_8_code 2 (some Jvm.ClassFile.FieldType.boolean) 1 := ⟨wd_2_151, wd_2_149, wd_2_150, wd_1_4, by decide +kernel⟩
def y_Pat_argument : MethodName := ⟨"RuleTree$Patterns", "argument", "(I)I"⟩
def T_Pat_argument : List zTr := [(0, .aload_n 0, 1, 0, 0), (1, .getfield 12, 3, 0, 0), (4, .iload_n 1, 1, 0, 0), (5, .invokevirtual 46, 3, 0, 0), (8, .istore_n 2, 1, 0, 0), (9, .iload_n 2, 1, 0, 0), (10, .iconst 2, 1, 0, 2), (11, .if_icmp .eq 8, 3, 19, 0), (14, .iload_n 2, 1, 0, 0), (15, .iconst 3, 1, 0, 3), (16, .if_icmp .ne 14, 3, 30, 0), (19, .aload_n 0, 1, 0, 0), (20, .getfield 24, 3, 0, 0), (23, .iload_n 1, 1, 0, 0), (24, .invokevirtual 46, 3, 0, 0), (27, .goto 4, 3, 31, 0), (30, .iconst (-1), 1, 0, (-1)), (31, .ireturn, 1, 0, 0)]
theorem tk_Pat_argument : zTok prog_8_method_9_code 3 T_Pat_argument := by decide +kernel
theorem yk_Pat_argument : zY "RuleTree$Patterns" y_Pat_argument prog_8_method_9_code 3 (some Jvm.ClassFile.FieldType.int) 1 := ⟨wd_3_66, wd_3_64, wd_3_65, wd_1_4, by decide +kernel⟩
def y_Pat_width : MethodName := ⟨"RuleTree$Patterns", "width", "(I)I"⟩
def T_Pat_width : List zTr := [(0, .aload_n 0, 1, 0, 0), (1, .getfield 27, 3, 0, 0), (4, .iload_n 1, 1, 0, 0), (5, .invokevirtual 46, 3, 0, 0), (8, .ireturn, 1, 0, 0)]
theorem tk_Pat_width : zTok prog_8_method_10_code 2 T_Pat_width := by decide +kernel
theorem yk_Pat_width : zY "RuleTree$Patterns" y_Pat_width prog_8_method_10_code 2 (some Jvm.ClassFile.FieldType.int) 1 := ⟨wd_3_54, wd_3_52, wd_3_53, wd_1_4, by decide +kernel⟩
def y_Pat_fieldNumber : MethodName := ⟨"RuleTree$Patterns", "fieldNumber", "(II)I"⟩
def T_Pat_fieldNumber : List zTr := [(0, .aload_n 0, 1, 0, 0), (1, .getfield 36, 3, 0, 0), (4, .aload_n 0, 1, 0, 0), (5, .getfield 24, 3, 0, 0), (8, .iload_n 1, 1, 0, 0), (9, .invokevirtual 46, 3, 0, 0), (12, .iload_n 2, 1, 0, 0), (13, .iadd, 1, 0, 0), (14, .invokevirtual 46, 3, 0, 0), (17, .ireturn, 1, 0, 0)]
theorem tk_Pat_fieldNumber : zTok prog_8_method_11_code 3 T_Pat_fieldNumber := by decide +kernel
theorem yk_Pat_fieldNumber : zY "RuleTree$Patterns" y_Pat_fieldNumber prog_8_method_11_code 3 (some Jvm.ClassFile.FieldType.int) 2 := ⟨wd_3_58, wd_3_56, wd_3_57, wd_1_4, by decide +kernel⟩
def y_Pat_fieldPattern : MethodName := ⟨"RuleTree$Patterns", "fieldPattern", "(II)I"⟩
def T_Pat_fieldPattern : List zTr := [(0, .aload_n 0, 1, 0, 0), (1, .getfield 39, 3, 0, 0), (4, .aload_n 0, 1, 0, 0), (5, .getfield 24, 3, 0, 0), (8, .iload_n 1, 1, 0, 0), (9, .invokevirtual 46, 3, 0, 0), (12, .iload_n 2, 1, 0, 0), (13, .iadd, 1, 0, 0), (14, .invokevirtual 46, 3, 0, 0), (17, .ireturn, 1, 0, 0)]
theorem tk_Pat_fieldPattern : zTok prog_8_method_12_code 3 T_Pat_fieldPattern := by decide +kernel
theorem yk_Pat_fieldPattern : zY "RuleTree$Patterns" y_Pat_fieldPattern prog_8_method_12_code 3 (some Jvm.ClassFile.FieldType.int) 2 := ⟨wd_3_62, wd_3_60, wd_3_61, wd_1_4, by decide +kernel⟩
def y_Pat_addPlain : MethodName := ⟨"RuleTree$Patterns", "addPlain", "(IIII)I"⟩
def T_Pat_addPlain : List zTr := [(0, .iload 4, 2, 0, 0), (2, .iconst (-1), 1, 0, (-1)), (3, .if_icmp .ne 7, 3, 10, 0), (6, .iconst 1, 1, 0, 1), (7, .goto 14, 3, 21, 0), (10, .iconst 1, 1, 0, 1), (11, .aload_n 0, 1, 0, 0), (12, .getfield 30, 3, 0, 0), (15, .iload 4, 2, 0, 0), (17, .invokevirtual 46, 3, 0, 0), (20, .iadd, 1, 0, 0), (21, .istore 5, 2, 0, 0), (23, .aload_n 0, 1, 0, 0), (24, .iload 5, 2, 0, 0), (26, .invokevirtual 50, 3, 0, 0), (29, .ifCond .ne 6, 3, 35, 0), (32, .bipush (-2), 2, 0, (-2)), (34, .ireturn, 1, 0, 0), (35, .iload_n 1, 1, 0, 0), (36, .ifCond .eq 22, 3, 58, 0), (39, .iload 4, 2, 0, 0), (41, .iconst (-1), 1, 0, (-1)), (42, .if_icmp .eq 12, 3, 54, 0), (45, .aload_n 0, 1, 0, 0), (46, .iload 4, 2, 0, 0), (48, .invokevirtual 54, 3, 0, 0), (51, .ifCond .eq 7, 3, 58, 0), (54, .iconst 1, 1, 0, 1), (55, .goto 4, 3, 59, 0), (58, .iconst 0, 1, 0, 0), (59, .istore 6, 2, 0, 0), (61, .aload_n 0, 1, 0, 0), (62, .getfield 18, 3, 0, 0), (65, .iload_n 2, 1, 0, 0), (66, .invokevirtual 57, 3, 0, 0), (69, .pop, 1, 0, 0), (70, .aload_n 0, 1, 0, 0), (71, .getfield 21, 3, 0, 0), (74, .iload_n 3, 1, 0, 0), (75, .invokevirtual 57, 3, 0, 0), (78, .pop, 1, 0, 0), (79, .aload_n 0, 1, 0, 0), (80, .getfield 24, 3, 0, 0), (83, .iload 4, 2, 0, 0), (85, .invokevirtual 57, 3, 0, 0), (88, .pop, 1, 0, 0), (89, .aload_n 0, 1, 0, 0), (90, .getfield 27, 3, 0, 0), (93, .iconst 0, 1, 0, 0), (94, .invokevirtual 57, 3, 0, 0), (97, .pop, 1, 0, 0), (98, .aload_n 0, 1, 0, 0), (99, .getfield 30, 3, 0, 0), (102, .iload 5, 2, 0, 0), (104, .invokevirtual 57, 3, 0, 0), (107, .pop, 1, 0, 0), (108, .aload_n 0, 1, 0, 0), (109, .getfield 33, 3, 0, 0), (112, .iload 6, 2, 0, 0), (114, .ifCond .eq 7, 3, 121, 0), (117, .iconst 1, 1, 0, 1), (118, .goto 4, 3, 122, 0), (121, .iconst 0, 1, 0, 0), (122, .invokevirtual 57, 3, 0, 0), (125, .pop, 1, 0, 0), (126, .aload_n 0, 1, 0, 0), (127, .getfield 12, 3, 0, 0), (130, .iload_n 1, 1, 0, 0), (131, .invokevirtual 57, 3, 0, 0), (134, .ireturn, 1, 0, 0)]
theorem tk_Pat_addPlain : zTok prog_8_method_13_code 7 T_Pat_addPlain := by decide +kernel
theorem yk_Pat_addPlain : zY "RuleTree$Patterns" y_Pat_addPlain prog_8_method_13_code 7 (some Jvm.ClassFile.FieldType.int) 4 := ⟨wd_2_138, wd_2_136, wd_2_137, wd_1_4, by decide +kernel⟩
def y_Pat_addRecord : MethodName := ⟨"RuleTree$Patterns", "addRecord", "(ILRuleTree$Pushed;)I"⟩
def T_Pat_addRecord : List zTr := [(0, .aload_n 0, 1, 0, 0), (1, .iload_n 1, 1, 0, 0), (2, .aload_n 2, 1, 0, 0), (3, .invokevirtual 60, 3, 0, 0), (6, .istore_n 3, 1, 0, 0), (7, .aload_n 0, 1, 0, 0), (8, .iload_n 3, 1, 0, 0), (9, .invokevirtual 50, 3, 0, 0), (12, .ifCond .ne 6, 3, 18, 0), (15, .bipush (-2), 2, 0, (-2)), (17, .ireturn, 1, 0, 0), (18, .aload_n 0, 1, 0, 0), (19, .iload_n 1, 1, 0, 0), (20, .aload_n 2, 1, 0, 0), (21, .invokevirtual 64, 3, 0, 0), (24, .istore 4, 2, 0, 0), (26, .aload_n 0, 1, 0, 0), (27, .getfield 18, 3, 0, 0), (30, .iload_n 1, 1, 0, 0), (31, .invokevirtual 57, 3, 0, 0), (34, .pop, 1, 0, 0), (35, .aload_n 0, 1, 0, 0), (36, .getfield 21, 3, 0, 0), (39, .iconst 0, 1, 0, 0), (40, .invokevirtual 57, 3, 0, 0), (43, .pop, 1, 0, 0), (44, .aload_n 0, 1, 0, 0), (45, .getfield 24, 3, 0, 0), (48, .aload_n 0, 1, 0, 0), (49, .getfield 36, 3, 0, 0), (52, .invokevirtual 42, 3, 0, 0), (55, .invokevirtual 57, 3, 0, 0), (58, .pop, 1, 0, 0), (59, .aload_n 0, 1, 0, 0), (60, .getfield 27, 3, 0, 0), (63, .aload_n 2, 1, 0, 0), (64, .invokevirtual 68, 3, 0, 0), (67, .invokevirtual 57, 3, 0, 0), (70, .pop, 1, 0, 0), (71, .aload_n 0, 1, 0, 0), (72, .getfield 30, 3, 0, 0), (75, .iload_n 3, 1, 0, 0), (76, .invokevirtual 57, 3, 0, 0), (79, .pop, 1, 0, 0), (80, .aload_n 0, 1, 0, 0), (81, .getfield 33, 3, 0, 0), (84, .iload 4, 2, 0, 0), (86, .ifCond .eq 7, 3, 93, 0), (89, .iconst 1, 1, 0, 1), (90, .goto 4, 3, 94, 0), (93, .iconst 0, 1, 0, 0), (94, .invokevirtual 57, 3, 0, 0), (97, .pop, 1, 0, 0), (98, .aload_n 0, 1, 0, 0), (99, .iload_n 1, 1, 0, 0), (100, .aload_n 2, 1, 0, 0), (101, .invokevirtual 73, 3, 0, 0), (104, .aload_n 0, 1, 0, 0), (105, .getfield 12, 3, 0, 0), (108, .iconst 4, 1, 0, 4), (109, .invokevirtual 57, 3, 0, 0), (112, .ireturn, 1, 0, 0)]
theorem tk_Pat_addRecord : zTok prog_8_method_14_code 5 T_Pat_addRecord := by decide +kernel
theorem yk_Pat_addRecord : zY "RuleTree$Patterns" y_Pat_addRecord prog_8_method_14_code 5 (some Jvm.ClassFile.FieldType.int) 2 := ⟨wd_2_211, wd_2_209, wd_2_210, wd_1_4, by decide +kernel⟩
def y_Pat_empty : MethodName := ⟨"RuleTree$Patterns", "empty", "()V"⟩
def T_Pat_empty : List zTr := [(0, .aload_n 0, 1, 0, 0), (1, .getfield 12, 3, 0, 0), (4, .invokevirtual 77, 3, 0, 0), (7, .aload_n 0, 1, 0, 0), (8, .getfield 18, 3, 0, 0), (11, .invokevirtual 77, 3, 0, 0), (14, .aload_n 0, 1, 0, 0), (15, .getfield 21, 3, 0, 0), (18, .invokevirtual 77, 3, 0, 0), (21, .aload_n 0, 1, 0, 0), (22, .getfield 24, 3, 0, 0), (25, .invokevirtual 77, 3, 0, 0), (28, .aload_n 0, 1, 0, 0), (29, .getfield 27, 3, 0, 0), (32, .invokevirtual 77, 3, 0, 0), (35, .aload_n 0, 1, 0, 0), (36, .getfield 30, 3, 0, 0), (39, .invokevirtual 77, 3, 0, 0), (42, .aload_n 0, 1, 0, 0), (43, .getfield 33, 3, 0, 0), (46, .invokevirtual 77, 3, 0, 0), (49, .aload_n 0, 1, 0, 0), (50, .getfield 36, 3, 0, 0), (53, .invokevirtual 77, 3, 0, 0), (56, .aload_n 0, 1, 0, 0), (57, .getfield 39, 3, 0, 0), (60, .invokevirtual 77, 3, 0, 0), (63, .return_, 1, 0, 0)]
theorem tk_Pat_empty : zTok prog_8_method_15_code 1 T_Pat_empty := by decide +kernel
theorem yk_Pat_empty : zY "RuleTree$Patterns" y_Pat_empty prog_8_method_15_code 1 none 0 := ⟨wd_3_158, wd_3_156, wd_3_157, wd_1_4, by decide +kernel⟩
def y_Pat_hasRoom : MethodName := ⟨"RuleTree$Patterns", "hasRoom", "(I)Z"⟩
def T_Pat_hasRoom : List zTr := [(0, .aload_n 0, 1, 0, 0), (1, .getfield 12, 3, 0, 0), (4, .invokevirtual 42, 3, 0, 0), (7, .sipush 16384, 3, 0, 16384), (10, .if_icmp .ge 14, 3, 24, 0), (13, .iload_n 1, 1, 0, 0), (14, .sipush 10000, 3, 0, 10000), (17, .if_icmp .gt 7, 3, 24, 0), (20, .iconst 1, 1, 0, 1), (21, .goto 4, 3, 25, 0), (24, .iconst 0, 1, 0, 0), (25, .ireturn, 1, 0, 0)]
theorem tk_Pat_hasRoom : zTok prog_8_method_16_code 2 T_Pat_hasRoom := by decide +kernel
theorem yk_Pat_hasRoom : zY "RuleTree$Patterns" y_Pat_hasRoom prog_8_method_16_code 2 (some Jvm.ClassFile.FieldType.boolean) 1 := ⟨wd_2_146, wd_2_145, ws_1_1, wd_1_4, by decide +kernel⟩
def y_Pat_recordWeight : MethodName := ⟨"RuleTree$Patterns", "recordWeight", "(ILRuleTree$Pushed;)I"⟩
def T_Pat_recordWeight : List zTr := [(0, .iconst 1, 1, 0, 1), (1, .istore_n 3, 1, 0, 0), (2, .iconst 0, 1, 0, 0), (3, .istore 4, 2, 0, 0), (5, .iload 4, 2, 0, 0), (7, .iload_n 1, 1, 0, 0), (8, .if_icmp .ge 39, 3, 47, 0), (11, .aload_n 2, 1, 0, 0), (12, .iload 4, 2, 0, 0), (14, .invokevirtual 80, 3, 0, 0), (17, .istore 5, 2, 0, 0), (19, .iload_n 3, 1, 0, 0), (20, .iload 5, 2, 0, 0), (22, .iconst (-1), 1, 0, (-1)), (23, .if_icmp .ne 7, 3, 30, 0), (26, .iconst 0, 1, 0, 0), (27, .goto 12, 3, 39, 0), (30, .aload_n 0, 1, 0, 0), (31, .getfield 30, 3, 0, 0), (34, .iload 5, 2, 0, 0), (36, .invokevirtual 46, 3, 0, 0), (39, .iadd, 1, 0, 0), (40, .istore_n 3, 1, 0, 0), (41, .iinc 4 1, 3, 0, 1), (44, .goto (-39), 3, 5, 0), (47, .iload_n 3, 1, 0, 0), (48, .ireturn, 1, 0, 0)]
theorem tk_Pat_recordWeight : zTok prog_8_method_17_code 6 T_Pat_recordWeight := by decide +kernel
theorem yk_Pat_recordWeight : zY "RuleTree$Patterns" y_Pat_recordWeight prog_8_method_17_code 6 (some Jvm.ClassFile.FieldType.int) 2 := ⟨wd_2_215, wd_2_214, ws_1_2, wd_1_4, by decide +kernel⟩
def y_Pat_isFull : MethodName := ⟨"RuleTree$Patterns", "isFull", "(ILRuleTree$Pushed;)Z"⟩
def T_Pat_isFull : List zTr := [(0, .iconst 0, 1, 0, 0), (1, .istore_n 3, 1, 0, 0), (2, .iload_n 3, 1, 0, 0), (3, .iload_n 1, 1, 0, 0), (4, .if_icmp .ge 23, 3, 27, 0), (7, .aload_n 0, 1, 0, 0), (8, .aload_n 2, 1, 0, 0), (9, .iload_n 3, 1, 0, 0), (10, .invokevirtual 80, 3, 0, 0), (13, .invokevirtual 54, 3, 0, 0), (16, .ifCond .ne 5, 3, 21, 0), (19, .iconst 0, 1, 0, 0), (20, .ireturn, 1, 0, 0), (21, .iinc 3 1, 3, 0, 1), (24, .goto (-22), 3, 2, 0), (27, .iconst 1, 1, 0, 1), (28, .ireturn, 1, 0, 0)]
theorem tk_Pat_isFull : zTok prog_8_method_18_code 4 T_Pat_isFull := by decide +kernel
theorem yk_Pat_isFull : zY "RuleTree$Patterns" y_Pat_isFull prog_8_method_18_code 4 (some Jvm.ClassFile.FieldType.boolean) 2 := ⟨wd_2_220, wd_2_219, ws_1_3, wd_1_4, by decide +kernel⟩
def y_Pat_addFields : MethodName := ⟨"RuleTree$Patterns", "addFields", "(ILRuleTree$Pushed;)V"⟩
def T_Pat_addFields : List zTr := [(0, .iconst 0, 1, 0, 0), (1, .istore_n 3, 1, 0, 0), (2, .iload_n 3, 1, 0, 0), (3, .iload_n 1, 1, 0, 0), (4, .if_icmp .ge 40, 3, 44, 0), (7, .aload_n 2, 1, 0, 0), (8, .iload_n 3, 1, 0, 0), (9, .invokevirtual 80, 3, 0, 0), (12, .iconst (-1), 1, 0, (-1)), (13, .if_icmp .eq 25, 3, 38, 0), (16, .aload_n 0, 1, 0, 0), (17, .getfield 36, 3, 0, 0), (20, .iload_n 3, 1, 0, 0), (21, .invokevirtual 57, 3, 0, 0), (24, .pop, 1, 0, 0), (25, .aload_n 0, 1, 0, 0), (26, .getfield 39, 3, 0, 0), (29, .aload_n 2, 1, 0, 0), (30, .iload_n 3, 1, 0, 0), (31, .invokevirtual 80, 3, 0, 0), (34, .invokevirtual 57, 3, 0, 0), (37, .pop, 1, 0, 0), (38, .iinc 3 1, 3, 0, 1), (41, .goto (-39), 3, 2, 0), (44, .return_, 1, 0, 0)]
theorem tk_Pat_addFields : zTok prog_8_method_19_code 4 T_Pat_addFields := by decide +kernel
theorem yk_Pat_addFields : zY "RuleTree$Patterns" y_Pat_addFields prog_8_method_19_code 4 none 2 := ⟨wd_2_225, wd_2_224, ws_1_4, wd_1_4, by decide +kernel⟩
def y_Psh_init : MethodName := ⟨"RuleTree$Pushed", "<init>", "()V"⟩
def T_Psh_init : List zTr := [(0, .aload_n 0, 1, 0, 0), (1, .invokespecial 3, 3, 0, 0), (4, .aload_n 0, 1, 0, 0), (5, .new 9, 3, 0, 0), (8, .dup, 1, 0, 0), (9, .invokespecial 11, 3, 0, 0), (12, .putfield 12, 3, 0, 0), (15, .aload_n 0, 1, 0, 0), (16, .getfield 12, 3, 0, 0), (19, .sipush 128, 3, 0, 128), (22, .iconst (-1), 1, 0, (-1)), (23, .invokevirtual 18, 3, 0, 0), (26, .aload_n 0, 1, 0, 0), (27, .iconst 0, 1, 0, 0), (28, .putfield 22, 3, 0, 0), (31, .return_, 1, 0, 0)]
theorem tk_Psh_init : zTok prog_9_method_1_code 1 T_Psh_init := by decide +kernel
def y_Psh_many : MethodName := ⟨"RuleTree$Pushed", "many", "()I"⟩
def T_Psh_many : List zTr := [(0, .aload_n 0, 1, 0, 0), (1, .getfield 22, 3, 0, 0), (4, .ireturn, 1, 0, 0)]
theorem tk_Psh_many : zTok prog_9_method_2_code 1 T_Psh_many := by decide +kernel
theorem yk_Psh_many : zY "RuleTree$Pushed" y_Psh_many prog_9_method_2_code 1 (some Jvm.ClassFile.FieldType.int) 0 := ⟨wd_2_199, wd_2_197, wd_2_198, wd_1_5, by decide +kernel⟩
def y_Psh_at : MethodName := ⟨"RuleTree$Pushed", "at", "(I)I"⟩
def T_Psh_at : List zTr := [(0, .aload_n 0, 1, 0, 0), (1, .getfield 12, 3, 0, 0), (4, .iload_n 1, 1, 0, 0), (5, .invokevirtual 26, 3, 0, 0), (8, .ireturn, 1, 0, 0)]
theorem tk_Psh_at : zTok prog_9_method_3_code 2 T_Psh_at := by decide +kernel
theorem yk_Psh_at : zY "RuleTree$Pushed" y_Psh_at prog_9_method_3_code 2 (some Jvm.ClassFile.FieldType.int) 1 := ⟨wd_2_186, wd_2_184, wd_2_185, wd_1_5, by decide +kernel⟩
def y_Psh_put : MethodName := ⟨"RuleTree$Pushed", "put", "(II)V"⟩
def T_Psh_put : List zTr := [(0, .aload_n 0, 1, 0, 0), (1, .getfield 12, 3, 0, 0), (4, .iload_n 1, 1, 0, 0), (5, .iload_n 2, 1, 0, 0), (6, .invokevirtual 30, 3, 0, 0), (9, .aload_n 0, 1, 0, 0), (10, .dup, 1, 0, 0), (11, .getfield 22, 3, 0, 0), (14, .iconst 1, 1, 0, 1), (15, .iadd, 1, 0, 0), (16, .putfield 22, 3, 0, 0), (19, .return_, 1, 0, 0)]
theorem tk_Psh_put : zTok prog_9_method_4_code 3 T_Psh_put := by decide +kernel
theorem yk_Psh_put : zY "RuleTree$Pushed" y_Psh_put prog_9_method_4_code 3 none 2 := ⟨wd_2_191, wd_2_189, wd_2_190, wd_1_5, by decide +kernel⟩
def y_Psh_reachesTo : MethodName := ⟨"RuleTree$Pushed", "reachesTo", "(I)Z"⟩
def T_Psh_reachesTo : List zTr := [(0, .iload_n 1, 1, 0, 0), (1, .istore_n 2, 1, 0, 0), (2, .iload_n 2, 1, 0, 0), (3, .sipush 128, 3, 0, 128), (6, .if_icmp .ge 23, 3, 29, 0), (9, .aload_n 0, 1, 0, 0), (10, .getfield 12, 3, 0, 0), (13, .iload_n 2, 1, 0, 0), (14, .invokevirtual 26, 3, 0, 0), (17, .iconst (-1), 1, 0, (-1)), (18, .if_icmp .eq 5, 3, 23, 0), (21, .iconst 1, 1, 0, 1), (22, .ireturn, 1, 0, 0), (23, .iinc 2 1, 3, 0, 1), (26, .goto (-24), 3, 2, 0), (29, .iconst 0, 1, 0, 0), (30, .ireturn, 1, 0, 0)]
theorem tk_Psh_reachesTo : zTok prog_9_method_5_code 3 T_Psh_reachesTo := by decide +kernel
theorem yk_Psh_reachesTo : zY "RuleTree$Pushed" y_Psh_reachesTo prog_9_method_5_code 3 (some Jvm.ClassFile.FieldType.boolean) 1 := ⟨wd_2_207, wd_2_205, wd_2_206, wd_1_5, by decide +kernel⟩
def y_Psh_empty : MethodName := ⟨"RuleTree$Pushed", "empty", "()V"⟩
def T_Psh_empty : List zTr := [(0, .aload_n 0, 1, 0, 0), (1, .getfield 12, 3, 0, 0), (4, .sipush 128, 3, 0, 128), (7, .iconst (-1), 1, 0, (-1)), (8, .invokevirtual 18, 3, 0, 0), (11, .aload_n 0, 1, 0, 0), (12, .iconst 0, 1, 0, 0), (13, .putfield 22, 3, 0, 0), (16, .return_, 1, 0, 0)]
theorem tk_Psh_empty : zTok prog_9_method_6_code 1 T_Psh_empty := by decide +kernel
theorem yk_Psh_empty : zY "RuleTree$Pushed" y_Psh_empty prog_9_method_6_code 1 none 0 := ⟨wd_2_229, wd_2_227, wd_2_228, wd_1_5, by decide +kernel⟩
def y_Row_init : MethodName := ⟨"RuleTree$Row", "<init>", "()V"⟩
def T_Row_init : List zTr := [(0, .aload_n 0, 1, 0, 0), (1, .invokespecial 3, 3, 0, 0), (4, .aload_n 0, 1, 0, 0), (5, .bipush 16, 2, 0, 16), (7, .newarray .int, 2, 0, 0), (9, .putfield 9, 3, 0, 0), (12, .aload_n 0, 1, 0, 0), (13, .iconst 0, 1, 0, 0), (14, .putfield 15, 3, 0, 0), (17, .return_, 1, 0, 0)]
theorem tk_Row_init : zTok prog_10_method_1_code 1 T_Row_init := by decide +kernel
def y_Row_size : MethodName := ⟨"RuleTree$Row", "size", "()I"⟩
def T_Row_size : List zTr := [(0, .aload_n 0, 1, 0, 0), (1, .getfield 15, 3, 0, 0), (4, .ireturn, 1, 0, 0)]
theorem tk_Row_size : zTok prog_10_method_2_code 1 T_Row_size := by decide +kernel
theorem yk_Row_size : zY "RuleTree$Row" y_Row_size prog_10_method_2_code 1 (some Jvm.ClassFile.FieldType.int) 0 := ⟨wd_2_129, wd_2_127, wd_2_128, wd_1_3, by decide +kernel⟩
def y_Row_at : MethodName := ⟨"RuleTree$Row", "at", "(I)I"⟩
def T_Row_at : List zTr := [(0, .iload_n 1, 1, 0, 0), (1, .ifCond .lt 20, 3, 21, 0), (4, .iload_n 1, 1, 0, 0), (5, .aload_n 0, 1, 0, 0), (6, .getfield 15, 3, 0, 0), (9, .if_icmp .ge 12, 3, 21, 0), (12, .aload_n 0, 1, 0, 0), (13, .getfield 9, 3, 0, 0), (16, .iload_n 1, 1, 0, 0), (17, .iaload, 1, 0, 0), (18, .goto 4, 3, 22, 0), (21, .iconst (-1), 1, 0, (-1)), (22, .ireturn, 1, 0, 0)]
theorem tk_Row_at : zTok prog_10_method_3_code 2 T_Row_at := by decide +kernel
theorem yk_Row_at : zY "RuleTree$Row" y_Row_at prog_10_method_3_code 2 (some Jvm.ClassFile.FieldType.int) 1 := ⟨wd_2_142, wd_2_140, wd_2_141, wd_1_3, by decide +kernel⟩
def y_Row_set : MethodName := ⟨"RuleTree$Row", "set", "(II)V"⟩
def T_Row_set : List zTr := [(0, .iload_n 1, 1, 0, 0), (1, .ifCond .lt 18, 3, 19, 0), (4, .iload_n 1, 1, 0, 0), (5, .aload_n 0, 1, 0, 0), (6, .getfield 15, 3, 0, 0), (9, .if_icmp .ge 10, 3, 19, 0), (12, .aload_n 0, 1, 0, 0), (13, .getfield 9, 3, 0, 0), (16, .iload_n 1, 1, 0, 0), (17, .iload_n 2, 1, 0, 0), (18, .iastore, 1, 0, 0), (19, .return_, 1, 0, 0)]
theorem tk_Row_set : zTok prog_10_method_4_code 3 T_Row_set := by decide +kernel
theorem yk_Row_set : zY "RuleTree$Row" y_Row_set prog_10_method_4_code 3 none 2 := ⟨wd_2_195, wd_2_193, wd_2_194, wd_1_3, by decide +kernel⟩
def y_Row_add : MethodName := ⟨"RuleTree$Row", "add", "(I)I"⟩
def T_Row_add : List zTr := [(0, .aload_n 0, 1, 0, 0), (1, .getfield 15, 3, 0, 0), (4, .aload_n 0, 1, 0, 0), (5, .getfield 9, 3, 0, 0), (8, .arraylength, 1, 0, 0), (9, .if_icmp .lt 31, 3, 40, 0), (12, .aload_n 0, 1, 0, 0), (13, .getfield 9, 3, 0, 0), (16, .arraylength, 1, 0, 0), (17, .ldc 19, 2, 0, 0), (19, .if_icmp .gt 21, 3, 40, 0), (22, .aload_n 0, 1, 0, 0), (23, .aload_n 0, 1, 0, 0), (24, .getfield 9, 3, 0, 0), (27, .aload_n 0, 1, 0, 0), (28, .getfield 9, 3, 0, 0), (31, .arraylength, 1, 0, 0), (32, .iconst 2, 1, 0, 2), (33, .imul, 1, 0, 0), (34, .invokestatic 20, 3, 0, 0), (37, .putfield 9, 3, 0, 0), (40, .aload_n 0, 1, 0, 0), (41, .getfield 15, 3, 0, 0), (44, .aload_n 0, 1, 0, 0), (45, .getfield 9, 3, 0, 0), (48, .arraylength, 1, 0, 0), (49, .if_icmp .lt 5, 3, 54, 0), (52, .iconst (-1), 1, 0, (-1)), (53, .ireturn, 1, 0, 0), (54, .aload_n 0, 1, 0, 0), (55, .getfield 9, 3, 0, 0), (58, .aload_n 0, 1, 0, 0), (59, .getfield 15, 3, 0, 0), (62, .iload_n 1, 1, 0, 0), (63, .iastore, 1, 0, 0), (64, .aload_n 0, 1, 0, 0), (65, .dup, 1, 0, 0), (66, .getfield 15, 3, 0, 0), (69, .iconst 1, 1, 0, 1), (70, .iadd, 1, 0, 0), (71, .putfield 15, 3, 0, 0), (74, .aload_n 0, 1, 0, 0), (75, .getfield 15, 3, 0, 0), (78, .iconst 1, 1, 0, 1), (79, .isub, 1, 0, 0), (80, .ireturn, 1, 0, 0)]
theorem tk_Row_add : zTok prog_10_method_5_code 2 T_Row_add := by decide +kernel
theorem yk_Row_add : zY "RuleTree$Row" y_Row_add prog_10_method_5_code 2 (some Jvm.ClassFile.FieldType.int) 1 := ⟨wd_1_103, wd_1_101, wd_1_102, wd_1_3, by decide +kernel⟩
def y_Row_take : MethodName := ⟨"RuleTree$Row", "take", "()I"⟩
def T_Row_take : List zTr := [(0, .aload_n 0, 1, 0, 0), (1, .getfield 15, 3, 0, 0), (4, .ifCond .gt 5, 3, 9, 0), (7, .iconst (-1), 1, 0, (-1)), (8, .ireturn, 1, 0, 0), (9, .aload_n 0, 1, 0, 0), (10, .dup, 1, 0, 0), (11, .getfield 15, 3, 0, 0), (14, .iconst 1, 1, 0, 1), (15, .isub, 1, 0, 0), (16, .putfield 15, 3, 0, 0), (19, .aload_n 0, 1, 0, 0), (20, .getfield 9, 3, 0, 0), (23, .aload_n 0, 1, 0, 0), (24, .getfield 15, 3, 0, 0), (27, .iaload, 1, 0, 0), (28, .ireturn, 1, 0, 0)]
theorem tk_Row_take : zTok prog_10_method_6_code 1 T_Row_take := by decide +kernel
theorem yk_Row_take : zY "RuleTree$Row" y_Row_take prog_10_method_6_code 1 (some Jvm.ClassFile.FieldType.int) 0 := ⟨wd_3_22, wd_3_20, wd_3_21, wd_1_3, by decide +kernel⟩
def y_Row_empty : MethodName := ⟨"RuleTree$Row", "empty", "()V"⟩
def T_Row_empty : List zTr := [(0, .aload_n 0, 1, 0, 0), (1, .iconst 0, 1, 0, 0), (2, .putfield 15, 3, 0, 0), (5, .return_, 1, 0, 0)]
theorem tk_Row_empty : zTok prog_10_method_7_code 1 T_Row_empty := by decide +kernel
theorem yk_Row_empty : zY "RuleTree$Row" y_Row_empty prog_10_method_7_code 1 none 0 := ⟨wd_3_11, wd_3_9, wd_3_10, wd_1_3, by decide +kernel⟩
def y_Row_refill : MethodName := ⟨"RuleTree$Row", "refill", "(II)V"⟩
def T_Row_refill : List zTr := [(0, .aload_n 0, 1, 0, 0), (1, .iconst 0, 1, 0, 0), (2, .putfield 15, 3, 0, 0), (5, .iconst 0, 1, 0, 0), (6, .istore_n 3, 1, 0, 0), (7, .iload_n 3, 1, 0, 0), (8, .iload_n 1, 1, 0, 0), (9, .if_icmp .ge 15, 3, 24, 0), (12, .aload_n 0, 1, 0, 0), (13, .iload_n 2, 1, 0, 0), (14, .invokevirtual 26, 3, 0, 0), (17, .pop, 1, 0, 0), (18, .iinc 3 1, 3, 0, 1), (21, .goto (-14), 3, 7, 0), (24, .return_, 1, 0, 0)]
theorem tk_Row_refill : zTok prog_10_method_8_code 4 T_Row_refill := by decide +kernel
theorem yk_Row_refill : zY "RuleTree$Row" y_Row_refill prog_10_method_8_code 4 none 2 := ⟨wd_1_99, wd_1_97, wd_1_98, wd_1_3, by decide +kernel⟩
def y_Wlk_init : MethodName := ⟨"RuleTree$Walker", "<init>", "(LRuleTree$Patterns;LRuleTree$Parts;LRuleTree$Nodes;)V"⟩
def T_Wlk_init : List zTr := [(0, .aload_n 0, 1, 0, 0), (1, .invokespecial 3, 3, 0, 0), (4, .aload_n 0, 1, 0, 0), (5, .aload_n 1, 1, 0, 0), (6, .putfield 9, 3, 0, 0), (9, .aload_n 0, 1, 0, 0), (10, .aload_n 2, 1, 0, 0), (11, .putfield 15, 3, 0, 0), (14, .aload_n 0, 1, 0, 0), (15, .aload_n 3, 1, 0, 0), (16, .putfield 19, 3, 0, 0), (19, .aload_n 0, 1, 0, 0), (20, .new 23, 3, 0, 0), (23, .dup, 1, 0, 0), (24, .invokespecial 25, 3, 0, 0), (27, .putfield 26, 3, 0, 0), (30, .aload_n 0, 1, 0, 0), (31, .new 23, 3, 0, 0), (34, .dup, 1, 0, 0), (35, .invokespecial 25, 3, 0, 0), (38, .putfield 30, 3, 0, 0), (41, .aload_n 0, 1, 0, 0), (42, .iconst 0, 1, 0, 0), (43, .putfield 33, 3, 0, 0), (46, .return_, 1, 0, 0)]
theorem tk_Wlk_init : zTok prog_11_method_1_code 4 T_Wlk_init := by decide +kernel
def y_Wlk_looked : MethodName := ⟨"RuleTree$Walker", "looked", "()I"⟩
def T_Wlk_looked : List zTr := [(0, .aload_n 0, 1, 0, 0), (1, .getfield 33, 3, 0, 0), (4, .ireturn, 1, 0, 0)]
theorem tk_Wlk_looked : zTok prog_11_method_2_code 1 T_Wlk_looked := by decide +kernel
theorem yk_Wlk_looked : zY "RuleTree$Walker" y_Wlk_looked prog_11_method_2_code 1 (some Jvm.ClassFile.FieldType.int) 0 := ⟨wd_4_204, wd_4_202, wd_4_203, wd_1_13, by decide +kernel⟩
def y_Wlk_walk : MethodName := ⟨"RuleTree$Walker", "walk", "(I)I"⟩
def T_Wlk_walk : List zTr := [(0, .aload_n 0, 1, 0, 0), (1, .getfield 26, 3, 0, 0), (4, .aload_n 0, 1, 0, 0), (5, .getfield 15, 3, 0, 0), (8, .invokevirtual 37, 3, 0, 0), (11, .bipush (-4), 2, 0, (-4)), (13, .invokevirtual 43, 3, 0, 0), (16, .aload_n 0, 1, 0, 0), (17, .getfield 26, 3, 0, 0), (20, .iconst 0, 1, 0, 0), (21, .iload_n 1, 1, 0, 0), (22, .invokevirtual 47, 3, 0, 0), (25, .aload_n 0, 1, 0, 0), (26, .iconst 0, 1, 0, 0), (27, .putfield 33, 3, 0, 0), (30, .iconst 0, 1, 0, 0), (31, .istore_n 2, 1, 0, 0), (32, .aload_n 0, 1, 0, 0), (33, .getfield 19, 3, 0, 0), (36, .invokevirtual 50, 3, 0, 0), (39, .istore_n 3, 1, 0, 0), (40, .iload_n 3, 1, 0, 0), (41, .ifCond .le 42, 3, 83, 0), (44, .iload_n 2, 1, 0, 0), (45, .iconst (-1), 1, 0, (-1)), (46, .if_icmp .eq 37, 3, 83, 0), (49, .aload_n 0, 1, 0, 0), (50, .getfield 19, 3, 0, 0), (53, .iload_n 2, 1, 0, 0), (54, .invokevirtual 53, 3, 0, 0), (57, .iconst (-1), 1, 0, (-1)), (58, .if_icmp .eq 25, 3, 83, 0), (61, .aload_n 0, 1, 0, 0), (62, .iload_n 2, 1, 0, 0), (63, .invokevirtual 57, 3, 0, 0), (66, .istore_n 2, 1, 0, 0), (67, .aload_n 0, 1, 0, 0), (68, .dup, 1, 0, 0), (69, .getfield 33, 3, 0, 0), (72, .iconst 1, 1, 0, 1), (73, .iadd, 1, 0, 0), (74, .putfield 33, 3, 0, 0), (77, .iinc 3 (-1), 3, 0, (-1)), (80, .goto (-40), 3, 40, 0), (83, .iload_n 2, 1, 0, 0), (84, .iconst (-1), 1, 0, (-1)), (85, .if_icmp .ne 8, 3, 93, 0), (88, .bipush (-3), 2, 0, (-3)), (90, .goto 11, 3, 101, 0), (93, .aload_n 0, 1, 0, 0), (94, .getfield 19, 3, 0, 0), (97, .iload_n 2, 1, 0, 0), (98, .invokevirtual 60, 3, 0, 0), (101, .ireturn, 1, 0, 0)]
theorem tk_Wlk_walk : zTok prog_11_method_3_code 4 T_Wlk_walk := by decide +kernel
theorem yk_Wlk_walk : zY "RuleTree$Walker" y_Wlk_walk prog_11_method_3_code 4 (some Jvm.ClassFile.FieldType.int) 1 := ⟨wd_4_145, wd_4_143, wd_4_144, wd_1_13, by decide +kernel⟩
def y_Wlk_branch : MethodName := ⟨"RuleTree$Walker", "branch", "(I)I"⟩
def T_Wlk_branch : List zTr := [(0, .aload_n 0, 1, 0, 0), (1, .getfield 19, 3, 0, 0), (4, .iload_n 1, 1, 0, 0), (5, .invokevirtual 53, 3, 0, 0), (8, .istore_n 2, 1, 0, 0), (9, .aload_n 0, 1, 0, 0), (10, .iload_n 2, 1, 0, 0), (11, .invokevirtual 63, 3, 0, 0), (14, .istore_n 3, 1, 0, 0), (15, .iload_n 3, 1, 0, 0), (16, .iconst (-1), 1, 0, (-1)), (17, .if_icmp .eq 41, 3, 58, 0), (20, .aload_n 0, 1, 0, 0), (21, .getfield 9, 3, 0, 0), (24, .iload_n 3, 1, 0, 0), (25, .invokevirtual 66, 3, 0, 0), (28, .aload_n 0, 1, 0, 0), (29, .getfield 15, 3, 0, 0), (32, .iload_n 2, 1, 0, 0), (33, .invokevirtual 71, 3, 0, 0), (36, .if_icmp .ne 22, 3, 58, 0), (39, .aload_n 0, 1, 0, 0), (40, .getfield 9, 3, 0, 0), (43, .iload_n 3, 1, 0, 0), (44, .invokevirtual 72, 3, 0, 0), (47, .aload_n 0, 1, 0, 0), (48, .getfield 15, 3, 0, 0), (51, .iload_n 2, 1, 0, 0), (52, .invokevirtual 75, 3, 0, 0), (55, .if_icmp .eq 5, 3, 60, 0), (58, .iconst (-1), 1, 0, (-1)), (59, .ireturn, 1, 0, 0), (60, .aload_n 0, 1, 0, 0), (61, .iload_n 1, 1, 0, 0), (62, .aload_n 0, 1, 0, 0), (63, .getfield 9, 3, 0, 0), (66, .iload_n 3, 1, 0, 0), (67, .invokevirtual 76, 3, 0, 0), (70, .invokevirtual 79, 3, 0, 0), (73, .istore 4, 2, 0, 0), (75, .aload_n 0, 1, 0, 0), (76, .getfield 19, 3, 0, 0), (79, .iload 4, 2, 0, 0), (81, .invokevirtual 83, 3, 0, 0), (84, .iconst (-1), 1, 0, (-1)), (85, .if_icmp .ne 7, 3, 92, 0), (88, .iconst 1, 1, 0, 1), (89, .goto 4, 3, 93, 0), (92, .iconst 0, 1, 0, 0), (93, .istore 5, 2, 0, 0), (95, .iload 5, 2, 0, 0), (97, .ifCond .ne 20, 3, 117, 0), (100, .aload_n 0, 1, 0, 0), (101, .iload_n 3, 1, 0, 0), (102, .aload_n 0, 1, 0, 0), (103, .getfield 19, 3, 0, 0), (106, .iload 4, 2, 0, 0), (108, .invokevirtual 83, 3, 0, 0), (111, .invokevirtual 86, 3, 0, 0), (114, .ifCond .eq 8, 3, 122, 0), (117, .iload 4, 2, 0, 0), (119, .goto 4, 3, 123, 0), (122, .iconst (-1), 1, 0, (-1)), (123, .ireturn, 1, 0, 0)]
theorem tk_Wlk_branch : zTok prog_11_method_4_code 6 T_Wlk_branch := by decide +kernel
theorem yk_Wlk_branch : zY "RuleTree$Walker" y_Wlk_branch prog_11_method_4_code 6 (some Jvm.ClassFile.FieldType.int) 1 := ⟨wd_4_154, wd_4_153, ws_3_7, wd_1_13, by decide +kernel⟩
def y_Wlk_branchFor : MethodName := ⟨"RuleTree$Walker", "branchFor", "(II)I"⟩
def T_Wlk_branchFor : List zTr := [(0, .aload_n 0, 1, 0, 0), (1, .getfield 19, 3, 0, 0), (4, .iload_n 1, 1, 0, 0), (5, .invokevirtual 90, 3, 0, 0), (8, .istore_n 3, 1, 0, 0), (9, .aload_n 0, 1, 0, 0), (10, .getfield 19, 3, 0, 0), (13, .invokevirtual 50, 3, 0, 0), (16, .istore 4, 2, 0, 0), (18, .iload 4, 2, 0, 0), (20, .ifCond .le 54, 3, 74, 0), (23, .iload_n 3, 1, 0, 0), (24, .iconst (-1), 1, 0, (-1)), (25, .if_icmp .eq 49, 3, 74, 0), (28, .aload_n 0, 1, 0, 0), (29, .getfield 19, 3, 0, 0), (32, .iload_n 3, 1, 0, 0), (33, .invokevirtual 83, 3, 0, 0), (36, .istore 5, 2, 0, 0), (38, .iload 5, 2, 0, 0), (40, .iconst (-1), 1, 0, (-1)), (41, .if_icmp .eq 16, 3, 57, 0), (44, .aload_n 0, 1, 0, 0), (45, .getfield 15, 3, 0, 0), (48, .iload 5, 2, 0, 0), (50, .invokevirtual 93, 3, 0, 0), (53, .iload_n 2, 1, 0, 0), (54, .if_icmp .ne 5, 3, 59, 0), (57, .iload_n 3, 1, 0, 0), (58, .ireturn, 1, 0, 0), (59, .aload_n 0, 1, 0, 0), (60, .getfield 19, 3, 0, 0), (63, .iload_n 3, 1, 0, 0), (64, .invokevirtual 96, 3, 0, 0), (67, .istore_n 3, 1, 0, 0), (68, .iinc 4 (-1), 3, 0, (-1)), (71, .goto (-53), 3, 18, 0), (74, .iconst (-1), 1, 0, (-1)), (75, .ireturn, 1, 0, 0)]
theorem tk_Wlk_branchFor : zTok prog_11_method_5_code 6 T_Wlk_branchFor := by decide +kernel
theorem yk_Wlk_branchFor : zY "RuleTree$Walker" y_Wlk_branchFor prog_11_method_5_code 6 (some Jvm.ClassFile.FieldType.int) 2 := ⟨wd_4_184, wd_4_183, ws_3_10, wd_1_13, by decide +kernel⟩
def y_Wlk_sameArguments : MethodName := ⟨"RuleTree$Walker", "sameArguments", "(II)Z"⟩
def T_Wlk_sameArguments : List zTr := [(0, .aload_n 0, 1, 0, 0), (1, .getfield 9, 3, 0, 0), (4, .iload_n 1, 1, 0, 0), (5, .invokevirtual 99, 3, 0, 0), (8, .iconst (-1), 1, 0, (-1)), (9, .if_icmp .ne 7, 3, 16, 0), (12, .iconst 1, 1, 0, 1), (13, .goto 4, 3, 17, 0), (16, .iconst 0, 1, 0, 0), (17, .aload_n 0, 1, 0, 0), (18, .getfield 15, 3, 0, 0), (21, .iload_n 2, 1, 0, 0), (22, .invokevirtual 102, 3, 0, 0), (25, .iconst (-1), 1, 0, (-1)), (26, .if_icmp .ne 7, 3, 33, 0), (29, .iconst 1, 1, 0, 1), (30, .goto 4, 3, 34, 0), (33, .iconst 0, 1, 0, 0), (34, .if_icmp .ne 7, 3, 41, 0), (37, .iconst 1, 1, 0, 1), (38, .goto 4, 3, 42, 0), (41, .iconst 0, 1, 0, 0), (42, .ireturn, 1, 0, 0)]
theorem tk_Wlk_sameArguments : zTok prog_11_method_6_code 3 T_Wlk_sameArguments := by decide +kernel
theorem yk_Wlk_sameArguments : zY "RuleTree$Walker" y_Wlk_sameArguments prog_11_method_6_code 3 (some Jvm.ClassFile.FieldType.boolean) 2 := ⟨wd_4_191, wd_4_190, ws_3_11, wd_1_13, by decide +kernel⟩
def y_Wlk_valueAt : MethodName := ⟨"RuleTree$Walker", "valueAt", "(I)I"⟩
def T_Wlk_valueAt : List zTr := [(0, .aload_n 0, 1, 0, 0), (1, .getfield 30, 3, 0, 0), (4, .invokevirtual 105, 3, 0, 0), (7, .iload_n 1, 1, 0, 0), (8, .istore_n 2, 1, 0, 0), (9, .aload_n 0, 1, 0, 0), (10, .getfield 15, 3, 0, 0), (13, .invokevirtual 37, 3, 0, 0), (16, .istore_n 3, 1, 0, 0), (17, .iload_n 3, 1, 0, 0), (18, .ifCond .le 40, 3, 58, 0), (21, .aload_n 0, 1, 0, 0), (22, .getfield 26, 3, 0, 0), (25, .iload_n 2, 1, 0, 0), (26, .invokevirtual 108, 3, 0, 0), (29, .bipush (-4), 2, 0, (-4)), (31, .if_icmp .ne 27, 3, 58, 0), (34, .aload_n 0, 1, 0, 0), (35, .getfield 30, 3, 0, 0), (38, .iload_n 2, 1, 0, 0), (39, .invokevirtual 111, 3, 0, 0), (42, .pop, 1, 0, 0), (43, .aload_n 0, 1, 0, 0), (44, .getfield 15, 3, 0, 0), (47, .iload_n 2, 1, 0, 0), (48, .invokevirtual 114, 3, 0, 0), (51, .istore_n 2, 1, 0, 0), (52, .iinc 3 (-1), 3, 0, (-1)), (55, .goto (-38), 3, 17, 0), (58, .aload_n 0, 1, 0, 0), (59, .getfield 30, 3, 0, 0), (62, .invokevirtual 117, 3, 0, 0), (65, .istore_n 3, 1, 0, 0), (66, .iload_n 3, 1, 0, 0), (67, .ifCond .le 45, 3, 112, 0), (70, .aload_n 0, 1, 0, 0), (71, .getfield 30, 3, 0, 0), (74, .invokevirtual 118, 3, 0, 0), (77, .istore 4, 2, 0, 0), (79, .aload_n 0, 1, 0, 0), (80, .getfield 26, 3, 0, 0), (83, .iload 4, 2, 0, 0), (85, .aload_n 0, 1, 0, 0), (86, .aload_n 0, 1, 0, 0), (87, .getfield 26, 3, 0, 0), (90, .iload_n 2, 1, 0, 0), (91, .invokevirtual 108, 3, 0, 0), (94, .iload_n 2, 1, 0, 0), (95, .iload 4, 2, 0, 0), (97, .invokevirtual 121, 3, 0, 0), (100, .invokevirtual 47, 3, 0, 0), (103, .iload 4, 2, 0, 0), (105, .istore_n 2, 1, 0, 0), (106, .iinc 3 (-1), 3, 0, (-1)), (109, .goto (-43), 3, 66, 0), (112, .aload_n 0, 1, 0, 0), (113, .getfield 26, 3, 0, 0), (116, .iload_n 1, 1, 0, 0), (117, .invokevirtual 108, 3, 0, 0), (120, .ireturn, 1, 0, 0)]
theorem tk_Wlk_valueAt : zTok prog_11_method_7_code 5 T_Wlk_valueAt := by decide +kernel
theorem yk_Wlk_valueAt : zY "RuleTree$Walker" y_Wlk_valueAt prog_11_method_7_code 5 (some Jvm.ClassFile.FieldType.int) 1 := ⟨wd_4_158, wd_4_157, ws_3_8, wd_1_13, by decide +kernel⟩
def y_Wlk_inner : MethodName := ⟨"RuleTree$Walker", "inner", "(III)I"⟩
def T_Wlk_inner : List zTr := [(0, .aload_n 0, 1, 0, 0), (1, .getfield 9, 3, 0, 0), (4, .iload_n 1, 1, 0, 0), (5, .invokevirtual 66, 3, 0, 0), (8, .aload_n 0, 1, 0, 0), (9, .getfield 15, 3, 0, 0), (12, .iload_n 2, 1, 0, 0), (13, .invokevirtual 71, 3, 0, 0), (16, .if_icmp .ne 22, 3, 38, 0), (19, .aload_n 0, 1, 0, 0), (20, .getfield 9, 3, 0, 0), (23, .iload_n 1, 1, 0, 0), (24, .invokevirtual 72, 3, 0, 0), (27, .aload_n 0, 1, 0, 0), (28, .getfield 15, 3, 0, 0), (31, .iload_n 2, 1, 0, 0), (32, .invokevirtual 75, 3, 0, 0), (35, .if_icmp .eq 5, 3, 40, 0), (38, .iconst (-1), 1, 0, (-1)), (39, .ireturn, 1, 0, 0), (40, .aload_n 0, 1, 0, 0), (41, .getfield 15, 3, 0, 0), (44, .aload_n 0, 1, 0, 0), (45, .getfield 15, 3, 0, 0), (48, .iload_n 3, 1, 0, 0), (49, .invokevirtual 125, 3, 0, 0), (52, .invokevirtual 93, 3, 0, 0), (55, .istore 4, 2, 0, 0), (57, .aload_n 0, 1, 0, 0), (58, .getfield 15, 3, 0, 0), (61, .iload_n 2, 1, 0, 0), (62, .invokevirtual 71, 3, 0, 0), (65, .iconst 4, 1, 0, 4), (66, .if_icmp .ne 14, 3, 80, 0), (69, .aload_n 0, 1, 0, 0), (70, .getfield 9, 3, 0, 0), (73, .iload_n 1, 1, 0, 0), (74, .iload 4, 2, 0, 0), (76, .invokevirtual 128, 3, 0, 0), (79, .ireturn, 1, 0, 0), (80, .aload_n 0, 1, 0, 0), (81, .getfield 9, 3, 0, 0), (84, .iload_n 1, 1, 0, 0), (85, .invokevirtual 76, 3, 0, 0), (88, .iload 4, 2, 0, 0), (90, .if_icmp .ne 14, 3, 104, 0), (93, .aload_n 0, 1, 0, 0), (94, .getfield 9, 3, 0, 0), (97, .iload_n 1, 1, 0, 0), (98, .invokevirtual 99, 3, 0, 0), (101, .goto 4, 3, 105, 0), (104, .iconst (-1), 1, 0, (-1)), (105, .ireturn, 1, 0, 0)]
theorem tk_Wlk_inner : zTok prog_11_method_8_code 5 T_Wlk_inner := by decide +kernel
theorem yk_Wlk_inner : zY "RuleTree$Walker" y_Wlk_inner prog_11_method_8_code 5 (some Jvm.ClassFile.FieldType.int) 3 := ⟨wd_4_168, wd_4_167, ws_3_9, wd_1_13, by decide +kernel⟩
end
section
-- methods: names, tables (by program)
def y_Mod_init : MethodName := ⟨"RuleTreeModel", "<init>", "()V"⟩
def T_Mod_init : List zTr := [(0, .aload_n 0, 1, 0, 0), (1, .invokespecial 1, 3, 0, 0), (4, .aload_n 0, 1, 0, 0), (5, .sipush 1024, 3, 0, 1024), (8, .newarray .int, 2, 0, 0), (10, .putfield 7, 3, 0, 0), (13, .aload_n 0, 1, 0, 0), (14, .sipush 1024, 3, 0, 1024), (17, .newarray .long, 2, 0, 0), (19, .putfield 13, 3, 0, 0), (22, .aload_n 0, 1, 0, 0), (23, .sipush 16384, 3, 0, 16384), (26, .newarray .byte, 2, 0, 0), (28, .putfield 17, 3, 0, 0), (31, .aload_n 0, 1, 0, 0), (32, .sipush 16384, 3, 0, 16384), (35, .newarray .int, 2, 0, 0), (37, .putfield 21, 3, 0, 0), (40, .aload_n 0, 1, 0, 0), (41, .sipush 16384, 3, 0, 16384), (44, .newarray .int, 2, 0, 0), (46, .putfield 24, 3, 0, 0), (49, .aload_n 0, 1, 0, 0), (50, .sipush 16384, 3, 0, 16384), (53, .newarray .int, 2, 0, 0), (55, .putfield 27, 3, 0, 0), (58, .aload_n 0, 1, 0, 0), (59, .sipush 16384, 3, 0, 16384), (62, .newarray .short, 2, 0, 0), (64, .putfield 30, 3, 0, 0), (67, .aload_n 0, 1, 0, 0), (68, .sipush 16384, 3, 0, 16384), (71, .newarray .short, 2, 0, 0), (73, .putfield 34, 3, 0, 0), (76, .aload_n 0, 1, 0, 0), (77, .sipush 16384, 3, 0, 16384), (80, .newarray .boolean, 2, 0, 0), (82, .putfield 37, 3, 0, 0), (85, .aload_n 0, 1, 0, 0), (86, .sipush 16384, 3, 0, 16384), (89, .newarray .short, 2, 0, 0), (91, .putfield 41, 3, 0, 0), (94, .aload_n 0, 1, 0, 0), (95, .sipush 16384, 3, 0, 16384), (98, .newarray .short, 2, 0, 0), (100, .putfield 44, 3, 0, 0), (103, .aload_n 0, 1, 0, 0), (104, .sipush 128, 3, 0, 128), (107, .newarray .int, 2, 0, 0), (109, .putfield 47, 3, 0, 0), (112, .aload_n 0, 1, 0, 0), (113, .sipush 128, 3, 0, 128), (116, .newarray .int, 2, 0, 0), (118, .putfield 50, 3, 0, 0), (121, .aload_n 0, 1, 0, 0), (122, .sipush 1024, 3, 0, 1024), (125, .newarray .int, 2, 0, 0), (127, .putfield 53, 3, 0, 0), (130, .aload_n 0, 1, 0, 0), (131, .sipush 1025, 3, 0, 1025), (134, .newarray .int, 2, 0, 0), (136, .putfield 56, 3, 0, 0), (139, .aload_n 0, 1, 0, 0), (140, .sipush 16385, 3, 0, 16385), (143, .newarray .int, 2, 0, 0), (145, .putfield 59, 3, 0, 0), (148, .aload_n 0, 1, 0, 0), (149, .sipush 16385, 3, 0, 16385), (152, .newarray .int, 2, 0, 0), (154, .putfield 62, 3, 0, 0), (157, .aload_n 0, 1, 0, 0), (158, .iconst 1, 1, 0, 1), (159, .putfield 65, 3, 0, 0), (162, .aload_n 0, 1, 0, 0), (163, .sipush 16386, 3, 0, 16386), (166, .newarray .int, 2, 0, 0), (168, .putfield 69, 3, 0, 0), (171, .aload_n 0, 1, 0, 0), (172, .sipush 16386, 3, 0, 16386), (175, .newarray .int, 2, 0, 0), (177, .putfield 72, 3, 0, 0), (180, .aload_n 0, 1, 0, 0), (181, .sipush 16386, 3, 0, 16386), (184, .newarray .long, 2, 0, 0), (186, .putfield 75, 3, 0, 0), (189, .aload_n 0, 1, 0, 0), (190, .sipush 16386, 3, 0, 16386), (193, .newarray .int, 2, 0, 0), (195, .putfield 78, 3, 0, 0), (198, .aload_n 0, 1, 0, 0), (199, .sipush 16386, 3, 0, 16386), (202, .newarray .int, 2, 0, 0), (204, .putfield 81, 3, 0, 0), (207, .aload_n 0, 1, 0, 0), (208, .sipush 16386, 3, 0, 16386), (211, .newarray .int, 2, 0, 0), (213, .putfield 84, 3, 0, 0), (216, .aload_n 0, 1, 0, 0), (217, .ldc 87, 2, 0, 0), (219, .newarray .long, 2, 0, 0), (221, .putfield 88, 3, 0, 0), (224, .aload_n 0, 1, 0, 0), (225, .sipush 4097, 3, 0, 4097), (228, .newarray .int, 2, 0, 0), (230, .putfield 91, 3, 0, 0), (233, .aload_n 0, 1, 0, 0), (234, .sipush 4097, 3, 0, 4097), (237, .newarray .long, 2, 0, 0), (239, .putfield 94, 3, 0, 0), (242, .aload_n 0, 1, 0, 0), (243, .sipush 4097, 3, 0, 4097), (246, .newarray .boolean, 2, 0, 0), (248, .putfield 97, 3, 0, 0), (251, .aload_n 0, 1, 0, 0), (252, .sipush 16386, 3, 0, 16386), (255, .newarray .boolean, 2, 0, 0), (257, .putfield 100, 3, 0, 0), (260, .aload_n 0, 1, 0, 0), (261, .sipush 1025, 3, 0, 1025), (264, .newarray .int, 2, 0, 0), (266, .putfield 103, 3, 0, 0), (269, .aload_n 0, 1, 0, 0), (270, .sipush 4097, 3, 0, 4097), (273, .newarray .int, 2, 0, 0), (275, .putfield 106, 3, 0, 0), (278, .aload_n 0, 1, 0, 0), (279, .sipush 4097, 3, 0, 4097), (282, .newarray .int, 2, 0, 0), (284, .putfield 109, 3, 0, 0), (287, .aload_n 0, 1, 0, 0), (288, .sipush 20480, 3, 0, 20480), (291, .newarray .int, 2, 0, 0), (293, .putfield 112, 3, 0, 0), (296, .aload_n 0, 1, 0, 0), (297, .sipush 20480, 3, 0, 20480), (300, .newarray .int, 2, 0, 0), (302, .putfield 115, 3, 0, 0), (305, .iconst 0, 1, 0, 0), (306, .istore_n 1, 1, 0, 0), (307, .iload_n 1, 1, 0, 0), (308, .sipush 16386, 3, 0, 16386), (311, .if_icmp .ge 23, 3, 334, 0), (314, .aload_n 0, 1, 0, 0), (315, .getfield 78, 3, 0, 0), (318, .iload_n 1, 1, 0, 0), (319, .iconst (-1), 1, 0, (-1)), (320, .iastore, 1, 0, 0), (321, .aload_n 0, 1, 0, 0), (322, .getfield 81, 3, 0, 0), (325, .iload_n 1, 1, 0, 0), (326, .iconst (-1), 1, 0, (-1)), (327, .iastore, 1, 0, 0), (328, .iinc 1 1, 3, 0, 1), (331, .goto (-24), 3, 307, 0), (334, .return_, 1, 0, 0)]
theorem tk_Mod_init : zTok prog_13_method_1_code 2 T_Mod_init := by decide +kernel
def y_Mod_family : MethodName := ⟨"RuleTreeModel", "family", "(IJ)I"⟩
def T_Mod_family : List zTr := [(0, .iload_n 1, 1, 0, 0), (1, .iconst 1, 1, 0, 1), (2, .if_icmp .lt 31, 3, 33, 0), (5, .iload_n 1, 1, 0, 0), (6, .bipush 64, 2, 0, 64), (8, .if_icmp .gt 25, 3, 33, 0), (11, .iload_n 1, 1, 0, 0), (12, .bipush 64, 2, 0, 64), (14, .if_icmp .eq 15, 3, 29, 0), (17, .lload_n 2, 1, 0, 0), (18, .ldc2_w 118, 3, 0, 0), (21, .iload_n 1, 1, 0, 0), (22, .lshl, 1, 0, 0), (23, .land, 1, 0, 0), (24, .lconst 0, 1, 0, 0), (25, .lcmp, 1, 0, 0), (26, .ifCond .ne 7, 3, 33, 0), (29, .iconst 1, 1, 0, 1), (30, .goto 4, 3, 34, 0), (33, .iconst 0, 1, 0, 0), (34, .istore 4, 2, 0, 0), (36, .iload 4, 2, 0, 0), (38, .ifCond .ne 5, 3, 43, 0), (41, .iconst (-1), 1, 0, (-1)), (42, .ireturn, 1, 0, 0), (43, .aload_n 0, 1, 0, 0), (44, .getfield 120, 3, 0, 0), (47, .sipush 1024, 3, 0, 1024), (50, .if_icmp .ne 6, 3, 56, 0), (53, .bipush (-2), 2, 0, (-2)), (55, .ireturn, 1, 0, 0), (56, .aload_n 0, 1, 0, 0), (57, .getfield 7, 3, 0, 0), (60, .aload_n 0, 1, 0, 0), (61, .getfield 120, 3, 0, 0), (64, .iload_n 1, 1, 0, 0), (65, .iastore, 1, 0, 0), (66, .aload_n 0, 1, 0, 0), (67, .getfield 13, 3, 0, 0), (70, .aload_n 0, 1, 0, 0), (71, .getfield 120, 3, 0, 0), (74, .lload_n 2, 1, 0, 0), (75, .lastore, 1, 0, 0), (76, .aload_n 0, 1, 0, 0), (77, .dup, 1, 0, 0), (78, .getfield 120, 3, 0, 0), (81, .iconst 1, 1, 0, 1), (82, .iadd, 1, 0, 0), (83, .putfield 120, 3, 0, 0), (86, .aload_n 0, 1, 0, 0), (87, .getfield 120, 3, 0, 0), (90, .iconst 1, 1, 0, 1), (91, .isub, 1, 0, 0), (92, .ireturn, 1, 0, 0)]
theorem tk_Mod_family : zTok prog_13_method_2_code 5 T_Mod_family := by decide +kernel
theorem yk_Mod_family : zY "RuleTreeModel" y_Mod_family prog_13_method_2_code 5 (some Jvm.ClassFile.FieldType.int) 2 := ⟨wd_5_183, wd_5_181, wd_5_182, wd_1_15, by decide +kernel⟩
def y_Mod_isPattern : MethodName := ⟨"RuleTreeModel", "isPattern", "(I)Z"⟩
def T_Mod_isPattern : List zTr := [(0, .iload_n 1, 1, 0, 0), (1, .ifCond .lt 15, 3, 16, 0), (4, .iload_n 1, 1, 0, 0), (5, .aload_n 0, 1, 0, 0), (6, .getfield 123, 3, 0, 0), (9, .if_icmp .ge 7, 3, 16, 0), (12, .iconst 1, 1, 0, 1), (13, .goto 4, 3, 17, 0), (16, .iconst 0, 1, 0, 0), (17, .ireturn, 1, 0, 0)]
theorem tk_Mod_isPattern : zTok prog_13_method_3_code 2 T_Mod_isPattern := by decide +kernel
theorem yk_Mod_isPattern : zY "RuleTreeModel" y_Mod_isPattern prog_13_method_3_code 2 (some Jvm.ClassFile.FieldType.boolean) 1 := ⟨wd_5_204, wd_5_203, ws_4_0, wd_1_15, by decide +kernel⟩
def y_Mod_make : MethodName := ⟨"RuleTreeModel", "make", "(IIIIIZ)I"⟩
def T_Mod_make : List zTr := [(0, .aload_n 0, 1, 0, 0), (1, .getfield 123, 3, 0, 0), (4, .sipush 16384, 3, 0, 16384), (7, .if_icmp .eq 11, 3, 18, 0), (10, .iload 5, 2, 0, 0), (12, .sipush 10000, 3, 0, 10000), (15, .if_icmp .le 6, 3, 21, 0), (18, .bipush (-2), 2, 0, (-2)), (20, .ireturn, 1, 0, 0), (21, .aload_n 0, 1, 0, 0), (22, .getfield 17, 3, 0, 0), (25, .aload_n 0, 1, 0, 0), (26, .getfield 123, 3, 0, 0), (29, .iload_n 1, 1, 0, 0), (30, .i2b, 1, 0, 0), (31, .bastore, 1, 0, 0), (32, .aload_n 0, 1, 0, 0), (33, .getfield 21, 3, 0, 0), (36, .aload_n 0, 1, 0, 0), (37, .getfield 123, 3, 0, 0), (40, .iload_n 2, 1, 0, 0), (41, .iastore, 1, 0, 0), (42, .aload_n 0, 1, 0, 0), (43, .getfield 24, 3, 0, 0), (46, .aload_n 0, 1, 0, 0), (47, .getfield 123, 3, 0, 0), (50, .iload_n 3, 1, 0, 0), (51, .iastore, 1, 0, 0), (52, .aload_n 0, 1, 0, 0), (53, .getfield 27, 3, 0, 0), (56, .aload_n 0, 1, 0, 0), (57, .getfield 123, 3, 0, 0), (60, .iload 4, 2, 0, 0), (62, .iastore, 1, 0, 0), (63, .aload_n 0, 1, 0, 0), (64, .getfield 30, 3, 0, 0), (67, .aload_n 0, 1, 0, 0), (68, .getfield 123, 3, 0, 0), (71, .iconst 0, 1, 0, 0), (72, .sastore, 1, 0, 0), (73, .aload_n 0, 1, 0, 0), (74, .getfield 34, 3, 0, 0), (77, .aload_n 0, 1, 0, 0), (78, .getfield 123, 3, 0, 0), (81, .iload 5, 2, 0, 0), (83, .i2s, 1, 0, 0), (84, .sastore, 1, 0, 0), (85, .aload_n 0, 1, 0, 0), (86, .getfield 37, 3, 0, 0), (89, .aload_n 0, 1, 0, 0), (90, .getfield 123, 3, 0, 0), (93, .iload 6, 2, 0, 0), (95, .bastore, 1, 0, 0), (96, .aload_n 0, 1, 0, 0), (97, .dup, 1, 0, 0), (98, .getfield 123, 3, 0, 0), (101, .iconst 1, 1, 0, 1), (102, .iadd, 1, 0, 0), (103, .putfield 123, 3, 0, 0), (106, .aload_n 0, 1, 0, 0), (107, .getfield 123, 3, 0, 0), (110, .iconst 1, 1, 0, 1), (111, .isub, 1, 0, 0), (112, .ireturn, 1, 0, 0)]
theorem tk_Mod_make : zTok prog_13_method_4_code 7 T_Mod_make := by decide +kernel
theorem yk_Mod_make : zY "RuleTreeModel" y_Mod_make prog_13_method_4_code 7 (some Jvm.ClassFile.FieldType.int) 6 := ⟨wd_5_192, wd_5_191, ws_3_15, wd_1_15, by decide +kernel⟩
def y_Mod_any : MethodName := ⟨"RuleTreeModel", "any", "()I"⟩
def T_Mod_any : List zTr := [(0, .aload_n 0, 1, 0, 0), (1, .iconst 0, 1, 0, 0), (2, .iconst 0, 1, 0, 0), (3, .iconst 0, 1, 0, 0), (4, .iconst (-1), 1, 0, (-1)), (5, .iconst 1, 1, 0, 1), (6, .iconst 0, 1, 0, 0), (7, .invokevirtual 126, 3, 0, 0), (10, .ireturn, 1, 0, 0)]
theorem tk_Mod_any : zTok prog_13_method_5_code 1 T_Mod_any := by decide +kernel
theorem yk_Mod_any : zY "RuleTreeModel" y_Mod_any prog_13_method_5_code 1 (some Jvm.ClassFile.FieldType.int) 0 := ⟨wd_5_188, wd_5_186, wd_5_187, wd_1_15, by decide +kernel⟩
def y_Mod_constant : MethodName := ⟨"RuleTreeModel", "constant", "(II)I"⟩
def T_Mod_constant : List zTr := [(0, .iload_n 1, 1, 0, 0), (1, .ifCond .lt 28, 3, 29, 0), (4, .iload_n 1, 1, 0, 0), (5, .iconst 3, 1, 0, 3), (6, .if_icmp .gt 23, 3, 29, 0), (9, .iload_n 1, 1, 0, 0), (10, .iconst 2, 1, 0, 2), (11, .if_icmp .ne 14, 3, 25, 0), (14, .iload_n 2, 1, 0, 0), (15, .ifCond .lt 14, 3, 29, 0), (18, .iload_n 2, 1, 0, 0), (19, .sipush 255, 3, 0, 255), (22, .if_icmp .gt 7, 3, 29, 0), (25, .iconst 1, 1, 0, 1), (26, .goto 4, 3, 30, 0), (29, .iconst 0, 1, 0, 0), (30, .istore_n 3, 1, 0, 0), (31, .iload_n 3, 1, 0, 0), (32, .ifCond .eq 16, 3, 48, 0), (35, .aload_n 0, 1, 0, 0), (36, .iconst 1, 1, 0, 1), (37, .iload_n 1, 1, 0, 0), (38, .iload_n 2, 1, 0, 0), (39, .iconst (-1), 1, 0, (-1)), (40, .iconst 1, 1, 0, 1), (41, .iconst 1, 1, 0, 1), (42, .invokevirtual 126, 3, 0, 0), (45, .goto 4, 3, 49, 0), (48, .iconst (-1), 1, 0, (-1)), (49, .ireturn, 1, 0, 0)]
theorem tk_Mod_constant : zTok prog_13_method_6_code 4 T_Mod_constant := by decide +kernel
theorem yk_Mod_constant : zY "RuleTreeModel" y_Mod_constant prog_13_method_6_code 4 (some Jvm.ClassFile.FieldType.int) 2 := ⟨wd_5_196, wd_5_194, wd_5_195, wd_1_15, by decide +kernel⟩
def y_Mod_built : MethodName := ⟨"RuleTreeModel", "built", "(III)I"⟩
def T_Mod_built : List zTr := [(0, .iload_n 1, 1, 0, 0), (1, .ifCond .lt 25, 3, 26, 0), (4, .iload_n 1, 1, 0, 0), (5, .aload_n 0, 1, 0, 0), (6, .getfield 120, 3, 0, 0), (9, .if_icmp .ge 17, 3, 26, 0), (12, .iload_n 2, 1, 0, 0), (13, .ifCond .lt 13, 3, 26, 0), (16, .iload_n 2, 1, 0, 0), (17, .aload_n 0, 1, 0, 0), (18, .getfield 7, 3, 0, 0), (21, .iload_n 1, 1, 0, 0), (22, .iaload, 1, 0, 0), (23, .if_icmp .lt 5, 3, 28, 0), (26, .iconst (-1), 1, 0, (-1)), (27, .ireturn, 1, 0, 0), (28, .aload_n 0, 1, 0, 0), (29, .getfield 13, 3, 0, 0), (32, .iload_n 1, 1, 0, 0), (33, .laload, 1, 0, 0), (34, .iload_n 2, 1, 0, 0), (35, .lshr, 1, 0, 0), (36, .lconst 1, 1, 0, 0), (37, .land, 1, 0, 0), (38, .lconst 1, 1, 0, 0), (39, .lcmp, 1, 0, 0), (40, .ifCond .ne 7, 3, 47, 0), (43, .iconst 1, 1, 0, 1), (44, .goto 4, 3, 48, 0), (47, .iconst 0, 1, 0, 0), (48, .istore 4, 2, 0, 0), (50, .iload 4, 2, 0, 0), (52, .ifCond .eq 14, 3, 66, 0), (55, .aload_n 0, 1, 0, 0), (56, .iload_n 3, 1, 0, 0), (57, .invokevirtual 130, 3, 0, 0), (60, .ifCond .ne 13, 3, 73, 0), (63, .goto 8, 3, 71, 0), (66, .iload_n 3, 1, 0, 0), (67, .iconst (-1), 1, 0, (-1)), (68, .if_icmp .eq 5, 3, 73, 0), (71, .iconst (-1), 1, 0, (-1)), (72, .ireturn, 1, 0, 0), (73, .aload_n 0, 1, 0, 0), (74, .iconst 2, 1, 0, 2), (75, .iload_n 1, 1, 0, 0), (76, .iload_n 2, 1, 0, 0), (77, .iload_n 3, 1, 0, 0), (78, .iload 4, 2, 0, 0), (80, .ifCond .eq 14, 3, 94, 0), (83, .iconst 1, 1, 0, 1), (84, .aload_n 0, 1, 0, 0), (85, .getfield 34, 3, 0, 0), (88, .iload_n 3, 1, 0, 0), (89, .saload, 1, 0, 0), (90, .iadd, 1, 0, 0), (91, .goto 4, 3, 95, 0), (94, .iconst 1, 1, 0, 1), (95, .iload 4, 2, 0, 0), (97, .ifCond .eq 12, 3, 109, 0), (100, .aload_n 0, 1, 0, 0), (101, .getfield 37, 3, 0, 0), (104, .iload_n 3, 1, 0, 0), (105, .baload, 1, 0, 0), (106, .ifCond .eq 7, 3, 113, 0), (109, .iconst 1, 1, 0, 1), (110, .goto 4, 3, 114, 0), (113, .iconst 0, 1, 0, 0), (114, .invokevirtual 126, 3, 0, 0), (117, .ireturn, 1, 0, 0)]
theorem tk_Mod_built : zTok prog_13_method_7_code 5 T_Mod_built := by decide +kernel
theorem yk_Mod_built : zY "RuleTreeModel" y_Mod_built prog_13_method_7_code 5 (some Jvm.ClassFile.FieldType.int) 3 := ⟨wd_5_200, wd_5_198, wd_5_199, wd_1_15, by decide +kernel⟩
def y_Mod_name : MethodName := ⟨"RuleTreeModel", "name", "(II)I"⟩
def T_Mod_name : List zTr := [(0, .iload_n 1, 1, 0, 0), (1, .ifCond .lt 16, 3, 17, 0), (4, .iload_n 2, 1, 0, 0), (5, .iconst (-1), 1, 0, (-1)), (6, .if_icmp .eq 13, 3, 19, 0), (9, .aload_n 0, 1, 0, 0), (10, .iload_n 2, 1, 0, 0), (11, .invokevirtual 130, 3, 0, 0), (14, .ifCond .ne 5, 3, 19, 0), (17, .iconst (-1), 1, 0, (-1)), (18, .ireturn, 1, 0, 0), (19, .aload_n 0, 1, 0, 0), (20, .iconst 3, 1, 0, 3), (21, .iload_n 1, 1, 0, 0), (22, .iconst 0, 1, 0, 0), (23, .iload_n 2, 1, 0, 0), (24, .iload_n 2, 1, 0, 0), (25, .ifCond .ge 7, 3, 32, 0), (28, .iconst 1, 1, 0, 1), (29, .goto 11, 3, 40, 0), (32, .iconst 1, 1, 0, 1), (33, .aload_n 0, 1, 0, 0), (34, .getfield 34, 3, 0, 0), (37, .iload_n 2, 1, 0, 0), (38, .saload, 1, 0, 0), (39, .iadd, 1, 0, 0), (40, .iload_n 2, 1, 0, 0), (41, .ifCond .lt 12, 3, 53, 0), (44, .aload_n 0, 1, 0, 0), (45, .getfield 37, 3, 0, 0), (48, .iload_n 2, 1, 0, 0), (49, .baload, 1, 0, 0), (50, .ifCond .eq 7, 3, 57, 0), (53, .iconst 1, 1, 0, 1), (54, .goto 4, 3, 58, 0), (57, .iconst 0, 1, 0, 0), (58, .invokevirtual 126, 3, 0, 0), (61, .ireturn, 1, 0, 0)]
theorem tk_Mod_name : zTok prog_13_method_8_code 3 T_Mod_name := by decide +kernel
theorem yk_Mod_name : zY "RuleTreeModel" y_Mod_name prog_13_method_8_code 3 (some Jvm.ClassFile.FieldType.int) 2 := ⟨wd_5_208, wd_5_206, wd_5_207, wd_1_15, by decide +kernel⟩
def y_Mod_push : MethodName := ⟨"RuleTreeModel", "push", "(II)I"⟩
def T_Mod_push : List zTr := [(0, .iload_n 1, 1, 0, 0), (1, .ifCond .lt 22, 3, 23, 0), (4, .iload_n 1, 1, 0, 0), (5, .sipush 128, 3, 0, 128), (8, .if_icmp .ge 15, 3, 23, 0), (11, .aload_n 0, 1, 0, 0), (12, .iload_n 2, 1, 0, 0), (13, .invokevirtual 130, 3, 0, 0), (16, .ifCond .eq 7, 3, 23, 0), (19, .iconst 1, 1, 0, 1), (20, .goto 4, 3, 24, 0), (23, .iconst 0, 1, 0, 0), (24, .istore_n 3, 1, 0, 0), (25, .iconst 0, 1, 0, 0), (26, .istore 4, 2, 0, 0), (28, .iload 4, 2, 0, 0), (30, .aload_n 0, 1, 0, 0), (31, .getfield 134, 3, 0, 0), (34, .if_icmp .ge 30, 3, 64, 0), (37, .iload_n 3, 1, 0, 0), (38, .ifCond .eq 18, 3, 56, 0), (41, .aload_n 0, 1, 0, 0), (42, .getfield 47, 3, 0, 0), (45, .iload 4, 2, 0, 0), (47, .iaload, 1, 0, 0), (48, .iload_n 1, 1, 0, 0), (49, .if_icmp .eq 7, 3, 56, 0), (52, .iconst 1, 1, 0, 1), (53, .goto 4, 3, 57, 0), (56, .iconst 0, 1, 0, 0), (57, .istore_n 3, 1, 0, 0), (58, .iinc 4 1, 3, 0, 1), (61, .goto (-33), 3, 28, 0), (64, .iload_n 3, 1, 0, 0), (65, .ifCond .ne 5, 3, 70, 0), (68, .iconst (-1), 1, 0, (-1)), (69, .ireturn, 1, 0, 0), (70, .aload_n 0, 1, 0, 0), (71, .getfield 134, 3, 0, 0), (74, .istore 4, 2, 0, 0), (76, .iload 4, 2, 0, 0), (78, .ifCond .le 54, 3, 132, 0), (81, .aload_n 0, 1, 0, 0), (82, .getfield 47, 3, 0, 0), (85, .iload 4, 2, 0, 0), (87, .iconst 1, 1, 0, 1), (88, .isub, 1, 0, 0), (89, .iaload, 1, 0, 0), (90, .iload_n 1, 1, 0, 0), (91, .if_icmp .le 41, 3, 132, 0), (94, .aload_n 0, 1, 0, 0), (95, .getfield 47, 3, 0, 0), (98, .iload 4, 2, 0, 0), (100, .aload_n 0, 1, 0, 0), (101, .getfield 47, 3, 0, 0), (104, .iload 4, 2, 0, 0), (106, .iconst 1, 1, 0, 1), (107, .isub, 1, 0, 0), (108, .iaload, 1, 0, 0), (109, .iastore, 1, 0, 0), (110, .aload_n 0, 1, 0, 0), (111, .getfield 50, 3, 0, 0), (114, .iload 4, 2, 0, 0), (116, .aload_n 0, 1, 0, 0), (117, .getfield 50, 3, 0, 0), (120, .iload 4, 2, 0, 0), (122, .iconst 1, 1, 0, 1), (123, .isub, 1, 0, 0), (124, .iaload, 1, 0, 0), (125, .iastore, 1, 0, 0), (126, .iinc 4 (-1), 3, 0, (-1)), (129, .goto (-53), 3, 76, 0), (132, .aload_n 0, 1, 0, 0), (133, .getfield 47, 3, 0, 0), (136, .iload 4, 2, 0, 0), (138, .iload_n 1, 1, 0, 0), (139, .iastore, 1, 0, 0), (140, .aload_n 0, 1, 0, 0), (141, .getfield 50, 3, 0, 0), (144, .iload 4, 2, 0, 0), (146, .iload_n 2, 1, 0, 0), (147, .iastore, 1, 0, 0), (148, .aload_n 0, 1, 0, 0), (149, .dup, 1, 0, 0), (150, .getfield 134, 3, 0, 0), (153, .iconst 1, 1, 0, 1), (154, .iadd, 1, 0, 0), (155, .putfield 134, 3, 0, 0), (158, .aload_n 0, 1, 0, 0), (159, .getfield 134, 3, 0, 0), (162, .ireturn, 1, 0, 0)]
theorem tk_Mod_push : zTok prog_13_method_9_code 5 T_Mod_push := by decide +kernel
theorem yk_Mod_push : zY "RuleTreeModel" y_Mod_push prog_13_method_9_code 5 (some Jvm.ClassFile.FieldType.int) 2 := ⟨wd_5_212, wd_5_210, wd_5_211, wd_1_15, by decide +kernel⟩
def y_Mod_record : MethodName := ⟨"RuleTreeModel", "record", "(I)I"⟩
def T_Mod_record : List zTr := [(0, .iload_n 1, 1, 0, 0), (1, .ifCond .lt 32, 3, 33, 0), (4, .iload_n 1, 1, 0, 0), (5, .sipush 128, 3, 0, 128), (8, .if_icmp .gt 25, 3, 33, 0), (11, .aload_n 0, 1, 0, 0), (12, .getfield 134, 3, 0, 0), (15, .ifCond .le 20, 3, 35, 0), (18, .aload_n 0, 1, 0, 0), (19, .getfield 47, 3, 0, 0), (22, .aload_n 0, 1, 0, 0), (23, .getfield 134, 3, 0, 0), (26, .iconst 1, 1, 0, 1), (27, .isub, 1, 0, 0), (28, .iaload, 1, 0, 0), (29, .iload_n 1, 1, 0, 0), (30, .if_icmp .lt 5, 3, 35, 0), (33, .iconst (-1), 1, 0, (-1)), (34, .ireturn, 1, 0, 0), (35, .iconst 1, 1, 0, 1), (36, .istore_n 2, 1, 0, 0), (37, .aload_n 0, 1, 0, 0), (38, .getfield 134, 3, 0, 0), (41, .iload_n 1, 1, 0, 0), (42, .if_icmp .ne 7, 3, 49, 0), (45, .iconst 1, 1, 0, 1), (46, .goto 4, 3, 50, 0), (49, .iconst 0, 1, 0, 0), (50, .istore_n 3, 1, 0, 0), (51, .iconst 0, 1, 0, 0), (52, .istore 4, 2, 0, 0), (54, .iload 4, 2, 0, 0), (56, .aload_n 0, 1, 0, 0), (57, .getfield 134, 3, 0, 0), (60, .if_icmp .ge 49, 3, 109, 0), (63, .iload_n 2, 1, 0, 0), (64, .aload_n 0, 1, 0, 0), (65, .getfield 34, 3, 0, 0), (68, .aload_n 0, 1, 0, 0), (69, .getfield 50, 3, 0, 0), (72, .iload 4, 2, 0, 0), (74, .iaload, 1, 0, 0), (75, .saload, 1, 0, 0), (76, .iadd, 1, 0, 0), (77, .istore_n 2, 1, 0, 0), (78, .iload_n 3, 1, 0, 0), (79, .ifCond .eq 22, 3, 101, 0), (82, .aload_n 0, 1, 0, 0), (83, .getfield 37, 3, 0, 0), (86, .aload_n 0, 1, 0, 0), (87, .getfield 50, 3, 0, 0), (90, .iload 4, 2, 0, 0), (92, .iaload, 1, 0, 0), (93, .baload, 1, 0, 0), (94, .ifCond .eq 7, 3, 101, 0), (97, .iconst 1, 1, 0, 1), (98, .goto 4, 3, 102, 0), (101, .iconst 0, 1, 0, 0), (102, .istore_n 3, 1, 0, 0), (103, .iinc 4 1, 3, 0, 1), (106, .goto (-52), 3, 54, 0), (109, .aload_n 0, 1, 0, 0), (110, .iconst 4, 1, 0, 4), (111, .iload_n 1, 1, 0, 0), (112, .iconst 0, 1, 0, 0), (113, .aload_n 0, 1, 0, 0), (114, .getfield 137, 3, 0, 0), (117, .iload_n 2, 1, 0, 0), (118, .iload_n 3, 1, 0, 0), (119, .invokevirtual 126, 3, 0, 0), (122, .istore 4, 2, 0, 0), (124, .iload 4, 2, 0, 0), (126, .ifCond .ge 6, 3, 132, 0), (129, .iload 4, 2, 0, 0), (131, .ireturn, 1, 0, 0), (132, .iconst 0, 1, 0, 0), (133, .istore 5, 2, 0, 0), (135, .iload 5, 2, 0, 0), (137, .aload_n 0, 1, 0, 0), (138, .getfield 134, 3, 0, 0), (141, .if_icmp .ge 53, 3, 194, 0), (144, .aload_n 0, 1, 0, 0), (145, .getfield 41, 3, 0, 0), (148, .aload_n 0, 1, 0, 0), (149, .getfield 137, 3, 0, 0), (152, .aload_n 0, 1, 0, 0), (153, .getfield 47, 3, 0, 0), (156, .iload 5, 2, 0, 0), (158, .iaload, 1, 0, 0), (159, .i2s, 1, 0, 0), (160, .sastore, 1, 0, 0), (161, .aload_n 0, 1, 0, 0), (162, .getfield 44, 3, 0, 0), (165, .aload_n 0, 1, 0, 0), (166, .getfield 137, 3, 0, 0), (169, .aload_n 0, 1, 0, 0), (170, .getfield 50, 3, 0, 0), (173, .iload 5, 2, 0, 0), (175, .iaload, 1, 0, 0), (176, .i2s, 1, 0, 0), (177, .sastore, 1, 0, 0), (178, .aload_n 0, 1, 0, 0), (179, .dup, 1, 0, 0), (180, .getfield 137, 3, 0, 0), (183, .iconst 1, 1, 0, 1), (184, .iadd, 1, 0, 0), (185, .putfield 137, 3, 0, 0), (188, .iinc 5 1, 3, 0, 1), (191, .goto (-56), 3, 135, 0), (194, .aload_n 0, 1, 0, 0), (195, .getfield 30, 3, 0, 0), (198, .iload 4, 2, 0, 0), (200, .aload_n 0, 1, 0, 0), (201, .getfield 134, 3, 0, 0), (204, .i2s, 1, 0, 0), (205, .sastore, 1, 0, 0), (206, .aload_n 0, 1, 0, 0), (207, .iconst 0, 1, 0, 0), (208, .putfield 134, 3, 0, 0), (211, .iload 4, 2, 0, 0), (213, .ireturn, 1, 0, 0)]
theorem tk_Mod_record : zTok prog_13_method_10_code 6 T_Mod_record := by decide +kernel
theorem yk_Mod_record : zY "RuleTreeModel" y_Mod_record prog_13_method_10_code 6 (some Jvm.ClassFile.FieldType.int) 1 := ⟨wd_5_216, wd_5_214, wd_5_215, wd_1_15, by decide +kernel⟩
def y_Mod_fieldOf : MethodName := ⟨"RuleTreeModel", "fieldOf", "(II)I"⟩
def T_Mod_fieldOf : List zTr := [(0, .iconst (-1), 1, 0, (-1)), (1, .istore_n 3, 1, 0, 0), (2, .aload_n 0, 1, 0, 0), (3, .getfield 27, 3, 0, 0), (6, .iload_n 1, 1, 0, 0), (7, .iaload, 1, 0, 0), (8, .istore 4, 2, 0, 0), (10, .iload 4, 2, 0, 0), (12, .aload_n 0, 1, 0, 0), (13, .getfield 27, 3, 0, 0), (16, .iload_n 1, 1, 0, 0), (17, .iaload, 1, 0, 0), (18, .aload_n 0, 1, 0, 0), (19, .getfield 30, 3, 0, 0), (22, .iload_n 1, 1, 0, 0), (23, .saload, 1, 0, 0), (24, .iadd, 1, 0, 0), (25, .if_icmp .ge 32, 3, 57, 0), (28, .aload_n 0, 1, 0, 0), (29, .getfield 41, 3, 0, 0), (32, .iload 4, 2, 0, 0), (34, .saload, 1, 0, 0), (35, .iload_n 2, 1, 0, 0), (36, .if_icmp .ne 13, 3, 49, 0), (39, .aload_n 0, 1, 0, 0), (40, .getfield 44, 3, 0, 0), (43, .iload 4, 2, 0, 0), (45, .saload, 1, 0, 0), (46, .goto 4, 3, 50, 0), (49, .iload_n 3, 1, 0, 0), (50, .istore_n 3, 1, 0, 0), (51, .iinc 4 1, 3, 0, 1), (54, .goto (-44), 3, 10, 0), (57, .iload_n 3, 1, 0, 0), (58, .ireturn, 1, 0, 0)]
theorem tk_Mod_fieldOf : zTok prog_13_method_11_code 5 T_Mod_fieldOf := by decide +kernel
theorem yk_Mod_fieldOf : zY "RuleTreeModel" y_Mod_fieldOf prog_13_method_11_code 5 (some Jvm.ClassFile.FieldType.int) 2 := ⟨wd_6_4, wd_6_3, ws_4_6, wd_1_15, by decide +kernel⟩
def y_Mod_pair : MethodName := ⟨"RuleTreeModel", "pair", "(II)V"⟩
def T_Mod_pair : List zTr := [(0, .aload_n 0, 1, 0, 0), (1, .getfield 112, 3, 0, 0), (4, .aload_n 0, 1, 0, 0), (5, .getfield 140, 3, 0, 0), (8, .iload_n 1, 1, 0, 0), (9, .iastore, 1, 0, 0), (10, .aload_n 0, 1, 0, 0), (11, .getfield 115, 3, 0, 0), (14, .aload_n 0, 1, 0, 0), (15, .getfield 140, 3, 0, 0), (18, .iload_n 2, 1, 0, 0), (19, .iastore, 1, 0, 0), (20, .aload_n 0, 1, 0, 0), (21, .dup, 1, 0, 0), (22, .getfield 140, 3, 0, 0), (25, .iconst 1, 1, 0, 1), (26, .iadd, 1, 0, 0), (27, .putfield 140, 3, 0, 0), (30, .return_, 1, 0, 0)]
theorem tk_Mod_pair : zTok prog_13_method_12_code 3 T_Mod_pair := by decide +kernel
theorem yk_Mod_pair : zY "RuleTreeModel" y_Mod_pair prog_13_method_12_code 3 none 2 := ⟨wd_5_232, wd_5_231, ws_4_3, wd_1_15, by decide +kernel⟩
def y_Mod_pairFields : MethodName := ⟨"RuleTreeModel", "pairFields", "(II)V"⟩
def T_Mod_pairFields : List zTr := [(0, .aload_n 0, 1, 0, 0), (1, .getfield 27, 3, 0, 0), (4, .iload_n 1, 1, 0, 0), (5, .iaload, 1, 0, 0), (6, .istore_n 3, 1, 0, 0), (7, .iload_n 3, 1, 0, 0), (8, .aload_n 0, 1, 0, 0), (9, .getfield 27, 3, 0, 0), (12, .iload_n 1, 1, 0, 0), (13, .iaload, 1, 0, 0), (14, .aload_n 0, 1, 0, 0), (15, .getfield 30, 3, 0, 0), (18, .iload_n 1, 1, 0, 0), (19, .saload, 1, 0, 0), (20, .iadd, 1, 0, 0), (21, .if_icmp .ge 39, 3, 60, 0), (24, .aload_n 0, 1, 0, 0), (25, .iload_n 2, 1, 0, 0), (26, .aload_n 0, 1, 0, 0), (27, .getfield 41, 3, 0, 0), (30, .iload_n 3, 1, 0, 0), (31, .saload, 1, 0, 0), (32, .invokevirtual 143, 3, 0, 0), (35, .istore 4, 2, 0, 0), (37, .iload 4, 2, 0, 0), (39, .ifCond .lt 15, 3, 54, 0), (42, .aload_n 0, 1, 0, 0), (43, .aload_n 0, 1, 0, 0), (44, .getfield 44, 3, 0, 0), (47, .iload_n 3, 1, 0, 0), (48, .saload, 1, 0, 0), (49, .iload 4, 2, 0, 0), (51, .invokevirtual 147, 3, 0, 0), (54, .iinc 3 1, 3, 0, 1), (57, .goto (-50), 3, 7, 0), (60, .return_, 1, 0, 0)]
theorem tk_Mod_pairFields : zTok prog_13_method_13_code 5 T_Mod_pairFields := by decide +kernel
theorem yk_Mod_pairFields : zY "RuleTreeModel" y_Mod_pairFields prog_13_method_13_code 5 none 2 := ⟨wd_6_0, wd_5_239, ws_4_5, wd_1_15, by decide +kernel⟩
def y_Mod_areOneSort : MethodName := ⟨"RuleTreeModel", "areOneSort", "(II)Z"⟩
def T_Mod_areOneSort : List zTr := [(0, .aload_n 0, 1, 0, 0), (1, .getfield 17, 3, 0, 0), (4, .iload_n 1, 1, 0, 0), (5, .baload, 1, 0, 0), (6, .aload_n 0, 1, 0, 0), (7, .getfield 17, 3, 0, 0), (10, .iload_n 2, 1, 0, 0), (11, .baload, 1, 0, 0), (12, .if_icmp .ne 32, 3, 44, 0), (15, .aload_n 0, 1, 0, 0), (16, .getfield 17, 3, 0, 0), (19, .iload_n 1, 1, 0, 0), (20, .baload, 1, 0, 0), (21, .iconst 3, 1, 0, 3), (22, .if_icmp .eq 18, 3, 40, 0), (25, .aload_n 0, 1, 0, 0), (26, .getfield 21, 3, 0, 0), (29, .iload_n 1, 1, 0, 0), (30, .iaload, 1, 0, 0), (31, .aload_n 0, 1, 0, 0), (32, .getfield 21, 3, 0, 0), (35, .iload_n 2, 1, 0, 0), (36, .iaload, 1, 0, 0), (37, .if_icmp .ne 7, 3, 44, 0), (40, .iconst 1, 1, 0, 1), (41, .goto 4, 3, 45, 0), (44, .iconst 0, 1, 0, 0), (45, .ireturn, 1, 0, 0)]
theorem tk_Mod_areOneSort : zTok prog_13_method_14_code 3 T_Mod_areOneSort := by decide +kernel
theorem yk_Mod_areOneSort : zY "RuleTreeModel" y_Mod_areOneSort prog_13_method_14_code 3 (some Jvm.ClassFile.FieldType.boolean) 2 := ⟨wd_5_236, wd_5_235, ws_4_4, wd_1_15, by decide +kernel⟩
def y_Mod_areOne : MethodName := ⟨"RuleTreeModel", "areOne", "(II)Z"⟩
def T_Mod_areOne : List zTr := [(0, .aload_n 0, 1, 0, 0), (1, .getfield 17, 3, 0, 0), (4, .iload_n 1, 1, 0, 0), (5, .baload, 1, 0, 0), (6, .iconst 2, 1, 0, 2), (7, .if_icmp .ne 26, 3, 33, 0), (10, .aload_n 0, 1, 0, 0), (11, .getfield 24, 3, 0, 0), (14, .iload_n 1, 1, 0, 0), (15, .iaload, 1, 0, 0), (16, .aload_n 0, 1, 0, 0), (17, .getfield 24, 3, 0, 0), (20, .iload_n 2, 1, 0, 0), (21, .iaload, 1, 0, 0), (22, .if_icmp .ne 7, 3, 29, 0), (25, .iconst 1, 1, 0, 1), (26, .goto 27, 3, 53, 0), (29, .iconst 0, 1, 0, 0), (30, .goto 23, 3, 53, 0), (33, .aload_n 0, 1, 0, 0), (34, .getfield 21, 3, 0, 0), (37, .iload_n 1, 1, 0, 0), (38, .iaload, 1, 0, 0), (39, .aload_n 0, 1, 0, 0), (40, .getfield 21, 3, 0, 0), (43, .iload_n 2, 1, 0, 0), (44, .iaload, 1, 0, 0), (45, .if_icmp .ne 7, 3, 52, 0), (48, .iconst 1, 1, 0, 1), (49, .goto 4, 3, 53, 0), (52, .iconst 0, 1, 0, 0), (53, .ireturn, 1, 0, 0)]
theorem tk_Mod_areOne : zTok prog_13_method_15_code 3 T_Mod_areOne := by decide +kernel
theorem yk_Mod_areOne : zY "RuleTreeModel" y_Mod_areOne prog_13_method_15_code 3 (some Jvm.ClassFile.FieldType.boolean) 2 := ⟨wd_6_8, wd_6_7, ws_4_7, wd_1_15, by decide +kernel⟩
def y_Mod_goTogether : MethodName := ⟨"RuleTreeModel", "goTogether", "(II)Z"⟩
def T_Mod_goTogether : List zTr := [(0, .aload_n 0, 1, 0, 0), (1, .iconst 0, 1, 0, 0), (2, .putfield 140, 3, 0, 0), (5, .aload_n 0, 1, 0, 0), (6, .iload_n 1, 1, 0, 0), (7, .iload_n 2, 1, 0, 0), (8, .invokevirtual 147, 3, 0, 0), (11, .iconst 1, 1, 0, 1), (12, .istore_n 3, 1, 0, 0), (13, .aload_n 0, 1, 0, 0), (14, .getfield 140, 3, 0, 0), (17, .ifCond .le 214, 3, 231, 0), (20, .iload_n 3, 1, 0, 0), (21, .ifCond .eq 210, 3, 231, 0), (24, .aload_n 0, 1, 0, 0), (25, .dup, 1, 0, 0), (26, .getfield 140, 3, 0, 0), (29, .iconst 1, 1, 0, 1), (30, .isub, 1, 0, 0), (31, .putfield 140, 3, 0, 0), (34, .aload_n 0, 1, 0, 0), (35, .getfield 112, 3, 0, 0), (38, .aload_n 0, 1, 0, 0), (39, .getfield 140, 3, 0, 0), (42, .iaload, 1, 0, 0), (43, .istore 4, 2, 0, 0), (45, .aload_n 0, 1, 0, 0), (46, .getfield 115, 3, 0, 0), (49, .aload_n 0, 1, 0, 0), (50, .getfield 140, 3, 0, 0), (53, .iaload, 1, 0, 0), (54, .istore 5, 2, 0, 0), (56, .aload_n 0, 1, 0, 0), (57, .getfield 17, 3, 0, 0), (60, .iload 4, 2, 0, 0), (62, .baload, 1, 0, 0), (63, .ifCond .eq 165, 3, 228, 0), (66, .aload_n 0, 1, 0, 0), (67, .getfield 17, 3, 0, 0), (70, .iload 5, 2, 0, 0), (72, .baload, 1, 0, 0), (73, .ifCond .eq 155, 3, 228, 0), (76, .aload_n 0, 1, 0, 0), (77, .iload 4, 2, 0, 0), (79, .iload 5, 2, 0, 0), (81, .invokevirtual 151, 3, 0, 0), (84, .istore_n 3, 1, 0, 0), (85, .iload_n 3, 1, 0, 0), (86, .ifCond .eq 40, 3, 126, 0), (89, .aload_n 0, 1, 0, 0), (90, .getfield 17, 3, 0, 0), (93, .iload 4, 2, 0, 0), (95, .baload, 1, 0, 0), (96, .iconst 2, 1, 0, 2), (97, .if_icmp .eq 14, 3, 111, 0), (100, .aload_n 0, 1, 0, 0), (101, .getfield 17, 3, 0, 0), (104, .iload 4, 2, 0, 0), (106, .baload, 1, 0, 0), (107, .iconst 3, 1, 0, 3), (108, .if_icmp .ne 18, 3, 126, 0), (111, .aload_n 0, 1, 0, 0), (112, .iload 4, 2, 0, 0), (114, .iload 5, 2, 0, 0), (116, .invokevirtual 155, 3, 0, 0), (119, .ifCond .eq 7, 3, 126, 0), (122, .iconst 1, 1, 0, 1), (123, .goto 4, 3, 127, 0), (126, .iconst 0, 1, 0, 0), (127, .istore 6, 2, 0, 0), (129, .iload 6, 2, 0, 0), (131, .ifCond .eq 74, 3, 205, 0), (134, .aload_n 0, 1, 0, 0), (135, .getfield 27, 3, 0, 0), (138, .iload 4, 2, 0, 0), (140, .iaload, 1, 0, 0), (141, .ifCond .ge 7, 3, 148, 0), (144, .iconst 1, 1, 0, 1), (145, .goto 4, 3, 149, 0), (148, .iconst 0, 1, 0, 0), (149, .aload_n 0, 1, 0, 0), (150, .getfield 27, 3, 0, 0), (153, .iload 5, 2, 0, 0), (155, .iaload, 1, 0, 0), (156, .ifCond .ge 7, 3, 163, 0), (159, .iconst 1, 1, 0, 1), (160, .goto 4, 3, 164, 0), (163, .iconst 0, 1, 0, 0), (164, .if_icmp .ne 7, 3, 171, 0), (167, .iconst 1, 1, 0, 1), (168, .goto 4, 3, 172, 0), (171, .iconst 0, 1, 0, 0), (172, .istore_n 3, 1, 0, 0), (173, .iload_n 3, 1, 0, 0), (174, .ifCond .eq 31, 3, 205, 0), (177, .aload_n 0, 1, 0, 0), (178, .getfield 27, 3, 0, 0), (181, .iload 4, 2, 0, 0), (183, .iaload, 1, 0, 0), (184, .ifCond .lt 21, 3, 205, 0), (187, .aload_n 0, 1, 0, 0), (188, .aload_n 0, 1, 0, 0), (189, .getfield 27, 3, 0, 0), (192, .iload 4, 2, 0, 0), (194, .iaload, 1, 0, 0), (195, .aload_n 0, 1, 0, 0), (196, .getfield 27, 3, 0, 0), (199, .iload 5, 2, 0, 0), (201, .iaload, 1, 0, 0), (202, .invokevirtual 147, 3, 0, 0), (205, .iload_n 3, 1, 0, 0), (206, .ifCond .eq 22, 3, 228, 0), (209, .aload_n 0, 1, 0, 0), (210, .getfield 17, 3, 0, 0), (213, .iload 4, 2, 0, 0), (215, .baload, 1, 0, 0), (216, .iconst 4, 1, 0, 4), (217, .if_icmp .ne 11, 3, 228, 0), (220, .aload_n 0, 1, 0, 0), (221, .iload 4, 2, 0, 0), (223, .iload 5, 2, 0, 0), (225, .invokevirtual 158, 3, 0, 0), (228, .goto (-215), 3, 13, 0), (231, .iload_n 3, 1, 0, 0), (232, .ireturn, 1, 0, 0)]
theorem tk_Mod_goTogether : zTok prog_13_method_16_code 7 T_Mod_goTogether := by decide +kernel
theorem yk_Mod_goTogether : zY "RuleTreeModel" y_Mod_goTogether prog_13_method_16_code 7 (some Jvm.ClassFile.FieldType.boolean) 2 := ⟨wd_6_16, wd_6_15, ws_4_8, wd_1_15, by decide +kernel⟩
def y_Mod_matches : MethodName := ⟨"RuleTreeModel", "matches", "(II)Z"⟩
def T_Mod_matches : List zTr := [(0, .aload_n 0, 1, 0, 0), (1, .iconst 0, 1, 0, 0), (2, .putfield 140, 3, 0, 0), (5, .aload_n 0, 1, 0, 0), (6, .iload_n 1, 1, 0, 0), (7, .iload_n 2, 1, 0, 0), (8, .invokevirtual 147, 3, 0, 0), (11, .iconst 1, 1, 0, 1), (12, .istore_n 3, 1, 0, 0), (13, .aload_n 0, 1, 0, 0), (14, .getfield 140, 3, 0, 0), (17, .ifCond .le 214, 3, 231, 0), (20, .iload_n 3, 1, 0, 0), (21, .ifCond .eq 210, 3, 231, 0), (24, .aload_n 0, 1, 0, 0), (25, .dup, 1, 0, 0), (26, .getfield 140, 3, 0, 0), (29, .iconst 1, 1, 0, 1), (30, .isub, 1, 0, 0), (31, .putfield 140, 3, 0, 0), (34, .aload_n 0, 1, 0, 0), (35, .getfield 112, 3, 0, 0), (38, .aload_n 0, 1, 0, 0), (39, .getfield 140, 3, 0, 0), (42, .iaload, 1, 0, 0), (43, .istore 4, 2, 0, 0), (45, .aload_n 0, 1, 0, 0), (46, .getfield 115, 3, 0, 0), (49, .aload_n 0, 1, 0, 0), (50, .getfield 140, 3, 0, 0), (53, .iaload, 1, 0, 0), (54, .istore 5, 2, 0, 0), (56, .aload_n 0, 1, 0, 0), (57, .getfield 17, 3, 0, 0), (60, .iload 4, 2, 0, 0), (62, .baload, 1, 0, 0), (63, .ifCond .eq 165, 3, 228, 0), (66, .aload_n 0, 1, 0, 0), (67, .iload 4, 2, 0, 0), (69, .iload 5, 2, 0, 0), (71, .invokevirtual 151, 3, 0, 0), (74, .istore_n 3, 1, 0, 0), (75, .iload_n 3, 1, 0, 0), (76, .ifCond .eq 40, 3, 116, 0), (79, .aload_n 0, 1, 0, 0), (80, .getfield 17, 3, 0, 0), (83, .iload 4, 2, 0, 0), (85, .baload, 1, 0, 0), (86, .iconst 1, 1, 0, 1), (87, .if_icmp .ne 29, 3, 116, 0), (90, .aload_n 0, 1, 0, 0), (91, .getfield 24, 3, 0, 0), (94, .iload 4, 2, 0, 0), (96, .iaload, 1, 0, 0), (97, .aload_n 0, 1, 0, 0), (98, .getfield 24, 3, 0, 0), (101, .iload 5, 2, 0, 0), (103, .iaload, 1, 0, 0), (104, .if_icmp .ne 7, 3, 111, 0), (107, .iconst 1, 1, 0, 1), (108, .goto 4, 3, 112, 0), (111, .iconst 0, 1, 0, 0), (112, .istore_n 3, 1, 0, 0), (113, .goto 115, 3, 228, 0), (116, .iload_n 3, 1, 0, 0), (117, .ifCond .eq 25, 3, 142, 0), (120, .aload_n 0, 1, 0, 0), (121, .getfield 17, 3, 0, 0), (124, .iload 4, 2, 0, 0), (126, .baload, 1, 0, 0), (127, .iconst 4, 1, 0, 4), (128, .if_icmp .ne 14, 3, 142, 0), (131, .aload_n 0, 1, 0, 0), (132, .iload 4, 2, 0, 0), (134, .iload 5, 2, 0, 0), (136, .invokevirtual 158, 3, 0, 0), (139, .goto 89, 3, 228, 0), (142, .iload_n 3, 1, 0, 0), (143, .ifCond .eq 85, 3, 228, 0), (146, .aload_n 0, 1, 0, 0), (147, .iload 4, 2, 0, 0), (149, .iload 5, 2, 0, 0), (151, .invokevirtual 155, 3, 0, 0), (154, .ifCond .eq 40, 3, 194, 0), (157, .aload_n 0, 1, 0, 0), (158, .getfield 27, 3, 0, 0), (161, .iload 4, 2, 0, 0), (163, .iaload, 1, 0, 0), (164, .ifCond .ge 7, 3, 171, 0), (167, .iconst 1, 1, 0, 1), (168, .goto 4, 3, 172, 0), (171, .iconst 0, 1, 0, 0), (172, .aload_n 0, 1, 0, 0), (173, .getfield 27, 3, 0, 0), (176, .iload 5, 2, 0, 0), (178, .iaload, 1, 0, 0), (179, .ifCond .ge 7, 3, 186, 0), (182, .iconst 1, 1, 0, 1), (183, .goto 4, 3, 187, 0), (186, .iconst 0, 1, 0, 0), (187, .if_icmp .ne 7, 3, 194, 0), (190, .iconst 1, 1, 0, 1), (191, .goto 4, 3, 195, 0), (194, .iconst 0, 1, 0, 0), (195, .istore_n 3, 1, 0, 0), (196, .iload_n 3, 1, 0, 0), (197, .ifCond .eq 31, 3, 228, 0), (200, .aload_n 0, 1, 0, 0), (201, .getfield 27, 3, 0, 0), (204, .iload 4, 2, 0, 0), (206, .iaload, 1, 0, 0), (207, .ifCond .lt 21, 3, 228, 0), (210, .aload_n 0, 1, 0, 0), (211, .aload_n 0, 1, 0, 0), (212, .getfield 27, 3, 0, 0), (215, .iload 4, 2, 0, 0), (217, .iaload, 1, 0, 0), (218, .aload_n 0, 1, 0, 0), (219, .getfield 27, 3, 0, 0), (222, .iload 5, 2, 0, 0), (224, .iaload, 1, 0, 0), (225, .invokevirtual 147, 3, 0, 0), (228, .goto (-215), 3, 13, 0), (231, .iload_n 3, 1, 0, 0), (232, .ireturn, 1, 0, 0)]
theorem tk_Mod_matches : zTok prog_13_method_17_code 6 T_Mod_matches := by decide +kernel
theorem yk_Mod_matches : zY "RuleTreeModel" y_Mod_matches prog_13_method_17_code 6 (some Jvm.ClassFile.FieldType.boolean) 2 := ⟨wd_5_228, wd_5_227, ws_4_2, wd_1_15, by decide +kernel⟩
def y_Mod_isValue : MethodName := ⟨"RuleTreeModel", "isValue", "(I)Z"⟩
def T_Mod_isValue : List zTr := [(0, .aload_n 0, 1, 0, 0), (1, .iload_n 1, 1, 0, 0), (2, .invokevirtual 130, 3, 0, 0), (5, .ifCond .eq 16, 3, 21, 0), (8, .aload_n 0, 1, 0, 0), (9, .getfield 37, 3, 0, 0), (12, .iload_n 1, 1, 0, 0), (13, .baload, 1, 0, 0), (14, .ifCond .eq 7, 3, 21, 0), (17, .iconst 1, 1, 0, 1), (18, .goto 4, 3, 22, 0), (21, .iconst 0, 1, 0, 0), (22, .ireturn, 1, 0, 0)]
theorem tk_Mod_isValue : zTok prog_13_method_18_code 2 T_Mod_isValue := by decide +kernel
theorem yk_Mod_isValue : zY "RuleTreeModel" y_Mod_isValue prog_13_method_18_code 2 (some Jvm.ClassFile.FieldType.boolean) 1 := ⟨wd_5_224, wd_5_223, ws_4_1, wd_1_15, by decide +kernel⟩
def y_Mod_first : MethodName := ⟨"RuleTreeModel", "first", "(I)I"⟩
def T_Mod_first : List zTr := [(0, .aload_n 0, 1, 0, 0), (1, .iload_n 1, 1, 0, 0), (2, .invokevirtual 161, 3, 0, 0), (5, .ifCond .ne 5, 3, 10, 0), (8, .iconst (-1), 1, 0, (-1)), (9, .ireturn, 1, 0, 0), (10, .iconst 0, 1, 0, 0), (11, .istore_n 2, 1, 0, 0), (12, .iload_n 2, 1, 0, 0), (13, .aload_n 0, 1, 0, 0), (14, .getfield 164, 3, 0, 0), (17, .if_icmp .ge 25, 3, 42, 0), (20, .aload_n 0, 1, 0, 0), (21, .aload_n 0, 1, 0, 0), (22, .getfield 53, 3, 0, 0), (25, .iload_n 2, 1, 0, 0), (26, .iaload, 1, 0, 0), (27, .iload_n 1, 1, 0, 0), (28, .invokevirtual 167, 3, 0, 0), (31, .ifCond .eq 5, 3, 36, 0), (34, .iload_n 2, 1, 0, 0), (35, .ireturn, 1, 0, 0), (36, .iinc 2 1, 3, 0, 1), (39, .goto (-27), 3, 12, 0), (42, .iconst (-1), 1, 0, (-1)), (43, .ireturn, 1, 0, 0)]
theorem tk_Mod_first : zTok prog_13_method_19_code 3 T_Mod_first := by decide +kernel
theorem yk_Mod_first : zY "RuleTreeModel" y_Mod_first prog_13_method_19_code 3 (some Jvm.ClassFile.FieldType.int) 1 := ⟨wd_5_220, wd_5_218, wd_5_219, wd_1_15, by decide +kernel⟩
def y_Mod_fits : MethodName := ⟨"RuleTreeModel", "fits", "(I)Z"⟩
def T_Mod_fits : List zTr := [(0, .aload_n 0, 1, 0, 0), (1, .iload_n 1, 1, 0, 0), (2, .invokevirtual 161, 3, 0, 0), (5, .istore_n 2, 1, 0, 0), (6, .iconst 0, 1, 0, 0), (7, .istore_n 3, 1, 0, 0), (8, .iload_n 3, 1, 0, 0), (9, .aload_n 0, 1, 0, 0), (10, .getfield 164, 3, 0, 0), (13, .if_icmp .ge 25, 3, 38, 0), (16, .iload_n 2, 1, 0, 0), (17, .ifCond .eq 21, 3, 38, 0), (20, .aload_n 0, 1, 0, 0), (21, .aload_n 0, 1, 0, 0), (22, .getfield 53, 3, 0, 0), (25, .iload_n 3, 1, 0, 0), (26, .iaload, 1, 0, 0), (27, .iload_n 1, 1, 0, 0), (28, .invokevirtual 170, 3, 0, 0), (31, .istore_n 2, 1, 0, 0), (32, .iinc 3 1, 3, 0, 1), (35, .goto (-27), 3, 8, 0), (38, .iload_n 2, 1, 0, 0), (39, .ireturn, 1, 0, 0)]
theorem tk_Mod_fits : zTok prog_13_method_20_code 4 T_Mod_fits := by decide +kernel
theorem yk_Mod_fits : zY "RuleTreeModel" y_Mod_fits prog_13_method_20_code 4 (some Jvm.ClassFile.FieldType.boolean) 1 := ⟨wd_6_12, wd_6_10, wd_6_11, wd_1_15, by decide +kernel⟩
def y_Mod_placeBelow : MethodName := ⟨"RuleTreeModel", "placeBelow", "(IIJ)I"⟩
def T_Mod_placeBelow : List zTr := [(0, .aload_n 0, 1, 0, 0), (1, .iload_n 1, 1, 0, 0), (2, .lload_n 3, 1, 0, 0), (3, .invokevirtual 173, 3, 0, 0), (6, .istore 5, 2, 0, 0), (8, .iload 5, 2, 0, 0), (10, .ifCond .lt 6, 3, 16, 0), (13, .iload 5, 2, 0, 0), (15, .ireturn, 1, 0, 0), (16, .aload_n 0, 1, 0, 0), (17, .getfield 69, 3, 0, 0), (20, .aload_n 0, 1, 0, 0), (21, .getfield 65, 3, 0, 0), (24, .iload_n 1, 1, 0, 0), (25, .iastore, 1, 0, 0), (26, .aload_n 0, 1, 0, 0), (27, .getfield 72, 3, 0, 0), (30, .aload_n 0, 1, 0, 0), (31, .getfield 65, 3, 0, 0), (34, .iload_n 2, 1, 0, 0), (35, .iastore, 1, 0, 0), (36, .aload_n 0, 1, 0, 0), (37, .getfield 75, 3, 0, 0), (40, .aload_n 0, 1, 0, 0), (41, .getfield 65, 3, 0, 0), (44, .lload_n 3, 1, 0, 0), (45, .lastore, 1, 0, 0), (46, .aload_n 0, 1, 0, 0), (47, .getfield 78, 3, 0, 0), (50, .aload_n 0, 1, 0, 0), (51, .getfield 65, 3, 0, 0), (54, .iconst (-1), 1, 0, (-1)), (55, .iastore, 1, 0, 0), (56, .aload_n 0, 1, 0, 0), (57, .getfield 81, 3, 0, 0), (60, .aload_n 0, 1, 0, 0), (61, .getfield 65, 3, 0, 0), (64, .aload_n 0, 1, 0, 0), (65, .getfield 78, 3, 0, 0), (68, .iload_n 1, 1, 0, 0), (69, .iaload, 1, 0, 0), (70, .iastore, 1, 0, 0), (71, .aload_n 0, 1, 0, 0), (72, .getfield 84, 3, 0, 0), (75, .aload_n 0, 1, 0, 0), (76, .getfield 65, 3, 0, 0), (79, .iconst 0, 1, 0, 0), (80, .iastore, 1, 0, 0), (81, .aload_n 0, 1, 0, 0), (82, .getfield 78, 3, 0, 0), (85, .iload_n 1, 1, 0, 0), (86, .aload_n 0, 1, 0, 0), (87, .getfield 65, 3, 0, 0), (90, .iastore, 1, 0, 0), (91, .aload_n 0, 1, 0, 0), (92, .dup, 1, 0, 0), (93, .getfield 65, 3, 0, 0), (96, .iconst 1, 1, 0, 1), (97, .iadd, 1, 0, 0), (98, .putfield 65, 3, 0, 0), (101, .aload_n 0, 1, 0, 0), (102, .getfield 65, 3, 0, 0), (105, .iconst 1, 1, 0, 1), (106, .isub, 1, 0, 0), (107, .ireturn, 1, 0, 0)]
theorem tk_Mod_placeBelow : zTok prog_13_method_21_code 6 T_Mod_placeBelow := by decide +kernel
theorem yk_Mod_placeBelow : zY "RuleTreeModel" y_Mod_placeBelow prog_13_method_21_code 6 (some Jvm.ClassFile.FieldType.int) 3 := ⟨wd_6_28, wd_6_27, ws_4_10, wd_1_15, by decide +kernel⟩
def y_Mod_rule : MethodName := ⟨"RuleTreeModel", "rule", "(I)I"⟩
def T_Mod_rule : List zTr := [(0, .aload_n 0, 1, 0, 0), (1, .iload_n 1, 1, 0, 0), (2, .invokevirtual 130, 3, 0, 0), (5, .istore_n 2, 1, 0, 0), (6, .iconst 0, 1, 0, 0), (7, .istore_n 3, 1, 0, 0), (8, .iload_n 3, 1, 0, 0), (9, .aload_n 0, 1, 0, 0), (10, .getfield 164, 3, 0, 0), (13, .if_icmp .ge 25, 3, 38, 0), (16, .iload_n 2, 1, 0, 0), (17, .ifCond .eq 21, 3, 38, 0), (20, .aload_n 0, 1, 0, 0), (21, .aload_n 0, 1, 0, 0), (22, .getfield 53, 3, 0, 0), (25, .iload_n 3, 1, 0, 0), (26, .iaload, 1, 0, 0), (27, .iload_n 1, 1, 0, 0), (28, .invokevirtual 170, 3, 0, 0), (31, .istore_n 2, 1, 0, 0), (32, .iinc 3 1, 3, 0, 1), (35, .goto (-27), 3, 8, 0), (38, .iload_n 2, 1, 0, 0), (39, .ifCond .ne 5, 3, 44, 0), (42, .iconst (-1), 1, 0, (-1)), (43, .ireturn, 1, 0, 0), (44, .aload_n 0, 1, 0, 0), (45, .getfield 164, 3, 0, 0), (48, .sipush 1024, 3, 0, 1024), (51, .if_icmp .eq 20, 3, 71, 0), (54, .aload_n 0, 1, 0, 0), (55, .getfield 177, 3, 0, 0), (58, .aload_n 0, 1, 0, 0), (59, .getfield 34, 3, 0, 0), (62, .iload_n 1, 1, 0, 0), (63, .saload, 1, 0, 0), (64, .iadd, 1, 0, 0), (65, .sipush 16384, 3, 0, 16384), (68, .if_icmp .le 6, 3, 74, 0), (71, .bipush (-2), 2, 0, (-2)), (73, .ireturn, 1, 0, 0), (74, .aload_n 0, 1, 0, 0), (75, .iconst 0, 1, 0, 0), (76, .putfield 180, 3, 0, 0), (79, .aload_n 0, 1, 0, 0), (80, .getfield 53, 3, 0, 0), (83, .aload_n 0, 1, 0, 0), (84, .getfield 164, 3, 0, 0), (87, .iload_n 1, 1, 0, 0), (88, .iastore, 1, 0, 0), (89, .aload_n 0, 1, 0, 0), (90, .dup, 1, 0, 0), (91, .getfield 177, 3, 0, 0), (94, .aload_n 0, 1, 0, 0), (95, .getfield 34, 3, 0, 0), (98, .iload_n 1, 1, 0, 0), (99, .saload, 1, 0, 0), (100, .iadd, 1, 0, 0), (101, .putfield 177, 3, 0, 0), (104, .aload_n 0, 1, 0, 0), (105, .getfield 56, 3, 0, 0), (108, .aload_n 0, 1, 0, 0), (109, .getfield 164, 3, 0, 0), (112, .iconst 1, 1, 0, 1), (113, .iadd, 1, 0, 0), (114, .aload_n 0, 1, 0, 0), (115, .getfield 56, 3, 0, 0), (118, .aload_n 0, 1, 0, 0), (119, .getfield 164, 3, 0, 0), (122, .iaload, 1, 0, 0), (123, .iastore, 1, 0, 0), (124, .aload_n 0, 1, 0, 0), (125, .iconst 0, 1, 0, 0), (126, .putfield 140, 3, 0, 0), (129, .aload_n 0, 1, 0, 0), (130, .iload_n 1, 1, 0, 0), (131, .iconst 0, 1, 0, 0), (132, .invokevirtual 147, 3, 0, 0), (135, .aload_n 0, 1, 0, 0), (136, .getfield 140, 3, 0, 0), (139, .ifCond .le 38, 3, 177, 0), (142, .aload_n 0, 1, 0, 0), (143, .dup, 1, 0, 0), (144, .getfield 140, 3, 0, 0), (147, .iconst 1, 1, 0, 1), (148, .isub, 1, 0, 0), (149, .putfield 140, 3, 0, 0), (152, .aload_n 0, 1, 0, 0), (153, .aload_n 0, 1, 0, 0), (154, .getfield 112, 3, 0, 0), (157, .aload_n 0, 1, 0, 0), (158, .getfield 140, 3, 0, 0), (161, .iaload, 1, 0, 0), (162, .aload_n 0, 1, 0, 0), (163, .getfield 115, 3, 0, 0), (166, .aload_n 0, 1, 0, 0), (167, .getfield 140, 3, 0, 0), (170, .iaload, 1, 0, 0), (171, .invokevirtual 184, 3, 0, 0), (174, .goto (-39), 3, 135, 0), (177, .aload_n 0, 1, 0, 0), (178, .dup, 1, 0, 0), (179, .getfield 164, 3, 0, 0), (182, .iconst 1, 1, 0, 1), (183, .iadd, 1, 0, 0), (184, .putfield 164, 3, 0, 0), (187, .aload_n 0, 1, 0, 0), (188, .getfield 164, 3, 0, 0), (191, .iconst 1, 1, 0, 1), (192, .isub, 1, 0, 0), (193, .ireturn, 1, 0, 0)]
theorem tk_Mod_rule : zTok prog_13_method_22_code 4 T_Mod_rule := by decide +kernel
theorem yk_Mod_rule : zY "RuleTreeModel" y_Mod_rule prog_13_method_22_code 4 (some Jvm.ClassFile.FieldType.int) 1 := ⟨wd_6_20, wd_6_18, wd_6_19, wd_1_15, by decide +kernel⟩
def y_Mod_ask : MethodName := ⟨"RuleTreeModel", "ask", "(II)V"⟩
def T_Mod_ask : List zTr := [(0, .aload_n 0, 1, 0, 0), (1, .getfield 17, 3, 0, 0), (4, .iload_n 1, 1, 0, 0), (5, .baload, 1, 0, 0), (6, .iconst 4, 1, 0, 4), (7, .if_icmp .ne 82, 3, 89, 0), (10, .aload_n 0, 1, 0, 0), (11, .getfield 84, 3, 0, 0), (14, .iload_n 2, 1, 0, 0), (15, .aload_n 0, 1, 0, 0), (16, .getfield 21, 3, 0, 0), (19, .iload_n 1, 1, 0, 0), (20, .iaload, 1, 0, 0), (21, .iastore, 1, 0, 0), (22, .aload_n 0, 1, 0, 0), (23, .getfield 27, 3, 0, 0), (26, .iload_n 1, 1, 0, 0), (27, .iaload, 1, 0, 0), (28, .aload_n 0, 1, 0, 0), (29, .getfield 30, 3, 0, 0), (32, .iload_n 1, 1, 0, 0), (33, .saload, 1, 0, 0), (34, .iadd, 1, 0, 0), (35, .iconst 1, 1, 0, 1), (36, .isub, 1, 0, 0), (37, .istore_n 3, 1, 0, 0), (38, .iload_n 3, 1, 0, 0), (39, .aload_n 0, 1, 0, 0), (40, .getfield 27, 3, 0, 0), (43, .iload_n 1, 1, 0, 0), (44, .iaload, 1, 0, 0), (45, .if_icmp .lt 41, 3, 86, 0), (48, .aload_n 0, 1, 0, 0), (49, .aload_n 0, 1, 0, 0), (50, .getfield 44, 3, 0, 0), (53, .iload_n 3, 1, 0, 0), (54, .saload, 1, 0, 0), (55, .aload_n 0, 1, 0, 0), (56, .iload_n 2, 1, 0, 0), (57, .aload_n 0, 1, 0, 0), (58, .getfield 41, 3, 0, 0), (61, .iload_n 3, 1, 0, 0), (62, .saload, 1, 0, 0), (63, .iconst 1, 1, 0, 1), (64, .iadd, 1, 0, 0), (65, .aload_n 0, 1, 0, 0), (66, .getfield 41, 3, 0, 0), (69, .iload_n 3, 1, 0, 0), (70, .saload, 1, 0, 0), (71, .iconst 1, 1, 0, 1), (72, .iadd, 1, 0, 0), (73, .i2l, 1, 0, 0), (74, .invokevirtual 187, 3, 0, 0), (77, .invokevirtual 147, 3, 0, 0), (80, .iinc 3 (-1), 3, 0, (-1)), (83, .goto (-45), 3, 38, 0), (86, .goto 87, 3, 173, 0), (89, .aload_n 0, 1, 0, 0), (90, .getfield 17, 3, 0, 0), (93, .iload_n 1, 1, 0, 0), (94, .baload, 1, 0, 0), (95, .ifCond .eq 78, 3, 173, 0), (98, .aload_n 0, 1, 0, 0), (99, .getfield 56, 3, 0, 0), (102, .aload_n 0, 1, 0, 0), (103, .getfield 164, 3, 0, 0), (106, .iconst 1, 1, 0, 1), (107, .iadd, 1, 0, 0), (108, .iaload, 1, 0, 0), (109, .istore_n 3, 1, 0, 0), (110, .aload_n 0, 1, 0, 0), (111, .getfield 59, 3, 0, 0), (114, .iload_n 3, 1, 0, 0), (115, .iload_n 2, 1, 0, 0), (116, .iastore, 1, 0, 0), (117, .aload_n 0, 1, 0, 0), (118, .getfield 62, 3, 0, 0), (121, .iload_n 3, 1, 0, 0), (122, .iload_n 1, 1, 0, 0), (123, .iastore, 1, 0, 0), (124, .aload_n 0, 1, 0, 0), (125, .getfield 56, 3, 0, 0), (128, .aload_n 0, 1, 0, 0), (129, .getfield 164, 3, 0, 0), (132, .iconst 1, 1, 0, 1), (133, .iadd, 1, 0, 0), (134, .iload_n 3, 1, 0, 0), (135, .iconst 1, 1, 0, 1), (136, .iadd, 1, 0, 0), (137, .iastore, 1, 0, 0), (138, .aload_n 0, 1, 0, 0), (139, .getfield 27, 3, 0, 0), (142, .iload_n 1, 1, 0, 0), (143, .iaload, 1, 0, 0), (144, .ifCond .lt 29, 3, 173, 0), (147, .aload_n 0, 1, 0, 0), (148, .aload_n 0, 1, 0, 0), (149, .getfield 27, 3, 0, 0), (152, .iload_n 1, 1, 0, 0), (153, .iaload, 1, 0, 0), (154, .aload_n 0, 1, 0, 0), (155, .iload_n 2, 1, 0, 0), (156, .iconst 1, 1, 0, 1), (157, .aload_n 0, 1, 0, 0), (158, .iload_n 1, 1, 0, 0), (159, .aload_n 0, 1, 0, 0), (160, .iload_n 1, 1, 0, 0), (161, .invokevirtual 191, 3, 0, 0), (164, .invokevirtual 195, 3, 0, 0), (167, .invokevirtual 187, 3, 0, 0), (170, .invokevirtual 147, 3, 0, 0), (173, .return_, 1, 0, 0)]
theorem tk_Mod_ask : zTok prog_13_method_23_code 4 T_Mod_ask := by decide +kernel
theorem yk_Mod_ask : zY "RuleTreeModel" y_Mod_ask prog_13_method_23_code 4 none 2 := ⟨wd_6_24, wd_6_23, ws_4_9, wd_1_15, by decide +kernel⟩
def y_Mod_forget : MethodName := ⟨"RuleTreeModel", "forget", "()I"⟩
def T_Mod_forget : List zTr := [(0, .aload_n 0, 1, 0, 0), (1, .getfield 123, 3, 0, 0), (4, .istore_n 1, 1, 0, 0), (5, .aload_n 0, 1, 0, 0), (6, .invokevirtual 199, 3, 0, 0), (9, .istore_n 2, 1, 0, 0), (10, .aload_n 0, 1, 0, 0), (11, .iconst 0, 1, 0, 0), (12, .putfield 120, 3, 0, 0), (15, .aload_n 0, 1, 0, 0), (16, .iconst 0, 1, 0, 0), (17, .putfield 123, 3, 0, 0), (20, .aload_n 0, 1, 0, 0), (21, .iconst 0, 1, 0, 0), (22, .putfield 137, 3, 0, 0), (25, .aload_n 0, 1, 0, 0), (26, .iconst 0, 1, 0, 0), (27, .putfield 134, 3, 0, 0), (30, .iload_n 1, 1, 0, 0), (31, .ireturn, 1, 0, 0)]
theorem tk_Mod_forget : zTok prog_13_method_24_code 3 T_Mod_forget := by decide +kernel
theorem yk_Mod_forget : zY "RuleTreeModel" y_Mod_forget prog_13_method_24_code 3 (some Jvm.ClassFile.FieldType.int) 0 := ⟨wd_6_46, wd_6_44, wd_6_45, wd_1_15, by decide +kernel⟩
def y_Mod_clear : MethodName := ⟨"RuleTreeModel", "clear", "()I"⟩
def T_Mod_clear : List zTr := [(0, .aload_n 0, 1, 0, 0), (1, .getfield 164, 3, 0, 0), (4, .istore_n 1, 1, 0, 0), (5, .aload_n 0, 1, 0, 0), (6, .iconst 0, 1, 0, 0), (7, .putfield 164, 3, 0, 0), (10, .aload_n 0, 1, 0, 0), (11, .iconst 0, 1, 0, 0), (12, .putfield 177, 3, 0, 0), (15, .aload_n 0, 1, 0, 0), (16, .iconst 0, 1, 0, 0), (17, .putfield 180, 3, 0, 0), (20, .aload_n 0, 1, 0, 0), (21, .iconst 1, 1, 0, 1), (22, .putfield 65, 3, 0, 0), (25, .aload_n 0, 1, 0, 0), (26, .getfield 78, 3, 0, 0), (29, .iconst 0, 1, 0, 0), (30, .iconst (-1), 1, 0, (-1)), (31, .iastore, 1, 0, 0), (32, .aload_n 0, 1, 0, 0), (33, .getfield 84, 3, 0, 0), (36, .iconst 0, 1, 0, 0), (37, .iconst 0, 1, 0, 0), (38, .iastore, 1, 0, 0), (39, .iload_n 1, 1, 0, 0), (40, .ireturn, 1, 0, 0)]
theorem tk_Mod_clear : zTok prog_13_method_25_code 2 T_Mod_clear := by decide +kernel
theorem yk_Mod_clear : zY "RuleTreeModel" y_Mod_clear prog_13_method_25_code 2 (some Jvm.ClassFile.FieldType.int) 0 := ⟨wd_6_50, wd_6_48, wd_6_49, wd_1_15, by decide +kernel⟩
def y_Mod_isPossible : MethodName := ⟨"RuleTreeModel", "isPossible", "(II)Z"⟩
def T_Mod_isPossible : List zTr := [(0, .aload_n 0, 1, 0, 0), (1, .getfield 88, 3, 0, 0), (4, .bipush 16, 2, 0, 16), (6, .iload_n 1, 1, 0, 0), (7, .imul, 1, 0, 0), (8, .iload_n 2, 1, 0, 0), (9, .bipush 64, 2, 0, 64), (11, .idiv, 1, 0, 0), (12, .iadd, 1, 0, 0), (13, .laload, 1, 0, 0), (14, .iload_n 2, 1, 0, 0), (15, .bipush 64, 2, 0, 64), (17, .irem, 1, 0, 0), (18, .lshr, 1, 0, 0), (19, .lconst 1, 1, 0, 0), (20, .land, 1, 0, 0), (21, .lconst 1, 1, 0, 0), (22, .lcmp, 1, 0, 0), (23, .ifCond .ne 7, 3, 30, 0), (26, .iconst 1, 1, 0, 1), (27, .goto 4, 3, 31, 0), (30, .iconst 0, 1, 0, 0), (31, .ireturn, 1, 0, 0)]
theorem tk_Mod_isPossible : zTok prog_13_method_26_code 3 T_Mod_isPossible := by decide +kernel
theorem yk_Mod_isPossible : zY "RuleTreeModel" y_Mod_isPossible prog_13_method_26_code 3 (some Jvm.ClassFile.FieldType.boolean) 2 := ⟨wd_6_75, wd_6_74, ws_5_2, wd_1_15, by decide +kernel⟩
def y_Mod_setPossible : MethodName := ⟨"RuleTreeModel", "setPossible", "(IIZ)V"⟩
def T_Mod_setPossible : List zTr := [(0, .lconst 1, 1, 0, 0), (1, .iload_n 2, 1, 0, 0), (2, .bipush 64, 2, 0, 64), (4, .irem, 1, 0, 0), (5, .lshl, 1, 0, 0), (6, .lstore 4, 2, 0, 0), (8, .aload_n 0, 1, 0, 0), (9, .getfield 88, 3, 0, 0), (12, .bipush 16, 2, 0, 16), (14, .iload_n 1, 1, 0, 0), (15, .imul, 1, 0, 0), (16, .iload_n 2, 1, 0, 0), (17, .bipush 64, 2, 0, 64), (19, .idiv, 1, 0, 0), (20, .iadd, 1, 0, 0), (21, .laload, 1, 0, 0), (22, .lstore 6, 2, 0, 0), (24, .aload_n 0, 1, 0, 0), (25, .getfield 88, 3, 0, 0), (28, .bipush 16, 2, 0, 16), (30, .iload_n 1, 1, 0, 0), (31, .imul, 1, 0, 0), (32, .iload_n 2, 1, 0, 0), (33, .bipush 64, 2, 0, 64), (35, .idiv, 1, 0, 0), (36, .iadd, 1, 0, 0), (37, .iload_n 3, 1, 0, 0), (38, .ifCond .eq 11, 3, 49, 0), (41, .lload 6, 2, 0, 0), (43, .lload 4, 2, 0, 0), (45, .lor, 1, 0, 0), (46, .goto 12, 3, 58, 0), (49, .lload 6, 2, 0, 0), (51, .lload 4, 2, 0, 0), (53, .ldc2_w 118, 3, 0, 0), (56, .lxor, 1, 0, 0), (57, .land, 1, 0, 0), (58, .lastore, 1, 0, 0), (59, .return_, 1, 0, 0)]
theorem tk_Mod_setPossible : zTok prog_13_method_27_code 8 T_Mod_setPossible := by decide +kernel
theorem yk_Mod_setPossible : zY "RuleTreeModel" y_Mod_setPossible prog_13_method_27_code 8 none 3 := ⟨wd_6_63, wd_6_62, ws_4_15, wd_1_15, by decide +kernel⟩
def y_Mod_firstPossible : MethodName := ⟨"RuleTreeModel", "firstPossible", "(I)I"⟩
def T_Mod_firstPossible : List zTr := [(0, .iconst 0, 1, 0, 0), (1, .istore_n 2, 1, 0, 0), (2, .iload_n 2, 1, 0, 0), (3, .aload_n 0, 1, 0, 0), (4, .getfield 164, 3, 0, 0), (7, .if_icmp .ge 18, 3, 25, 0), (10, .aload_n 0, 1, 0, 0), (11, .iload_n 1, 1, 0, 0), (12, .iload_n 2, 1, 0, 0), (13, .invokevirtual 203, 3, 0, 0), (16, .ifCond .ne 9, 3, 25, 0), (19, .iinc 2 1, 3, 0, 1), (22, .goto (-20), 3, 2, 0), (25, .iload_n 2, 1, 0, 0), (26, .aload_n 0, 1, 0, 0), (27, .getfield 164, 3, 0, 0), (30, .if_icmp .ge 7, 3, 37, 0), (33, .iload_n 2, 1, 0, 0), (34, .goto 4, 3, 38, 0), (37, .iconst (-1), 1, 0, (-1)), (38, .ireturn, 1, 0, 0)]
theorem tk_Mod_firstPossible : zTok prog_13_method_28_code 3 T_Mod_firstPossible := by decide +kernel
theorem yk_Mod_firstPossible : zY "RuleTreeModel" y_Mod_firstPossible prog_13_method_28_code 3 (some Jvm.ClassFile.FieldType.int) 1 := ⟨wd_6_71, wd_6_70, ws_5_1, wd_1_15, by decide +kernel⟩
def y_Mod_asked : MethodName := ⟨"RuleTreeModel", "asked", "(II)I"⟩
def T_Mod_asked : List zTr := [(0, .iconst (-1), 1, 0, (-1)), (1, .istore_n 3, 1, 0, 0), (2, .aload_n 0, 1, 0, 0), (3, .getfield 56, 3, 0, 0), (6, .iload_n 1, 1, 0, 0), (7, .iaload, 1, 0, 0), (8, .istore 4, 2, 0, 0), (10, .iload 4, 2, 0, 0), (12, .aload_n 0, 1, 0, 0), (13, .getfield 56, 3, 0, 0), (16, .iload_n 1, 1, 0, 0), (17, .iconst 1, 1, 0, 1), (18, .iadd, 1, 0, 0), (19, .iaload, 1, 0, 0), (20, .if_icmp .ge 32, 3, 52, 0), (23, .aload_n 0, 1, 0, 0), (24, .getfield 59, 3, 0, 0), (27, .iload 4, 2, 0, 0), (29, .iaload, 1, 0, 0), (30, .iload_n 2, 1, 0, 0), (31, .if_icmp .ne 13, 3, 44, 0), (34, .aload_n 0, 1, 0, 0), (35, .getfield 62, 3, 0, 0), (38, .iload 4, 2, 0, 0), (40, .iaload, 1, 0, 0), (41, .goto 4, 3, 45, 0), (44, .iload_n 3, 1, 0, 0), (45, .istore_n 3, 1, 0, 0), (46, .iinc 4 1, 3, 0, 1), (49, .goto (-39), 3, 10, 0), (52, .iload_n 3, 1, 0, 0), (53, .ireturn, 1, 0, 0)]
theorem tk_Mod_asked : zTok prog_13_method_29_code 5 T_Mod_asked := by decide +kernel
theorem yk_Mod_asked : zY "RuleTreeModel" y_Mod_asked prog_13_method_29_code 5 (some Jvm.ClassFile.FieldType.int) 2 := ⟨wd_6_96, wd_6_95, ws_5_7, wd_1_15, by decide +kernel⟩
def y_Mod_numberOf : MethodName := ⟨"RuleTreeModel", "numberOf", "(I)J"⟩
def T_Mod_numberOf : List zTr := [(0, .aload_n 0, 1, 0, 0), (1, .getfield 17, 3, 0, 0), (4, .iload_n 1, 1, 0, 0), (5, .baload, 1, 0, 0), (6, .iconst 3, 1, 0, 3), (7, .if_icmp .ne 13, 3, 20, 0), (10, .aload_n 0, 1, 0, 0), (11, .getfield 21, 3, 0, 0), (14, .iload_n 1, 1, 0, 0), (15, .iaload, 1, 0, 0), (16, .i2l, 1, 0, 0), (17, .goto 10, 3, 27, 0), (20, .aload_n 0, 1, 0, 0), (21, .getfield 24, 3, 0, 0), (24, .iload_n 1, 1, 0, 0), (25, .iaload, 1, 0, 0), (26, .i2l, 1, 0, 0), (27, .lreturn, 1, 0, 0)]
theorem tk_Mod_numberOf : zTok prog_13_method_30_code 2 T_Mod_numberOf := by decide +kernel
theorem yk_Mod_numberOf : zY "RuleTreeModel" y_Mod_numberOf prog_13_method_30_code 2 (some Jvm.ClassFile.FieldType.long) 1 := ⟨wd_6_36, wd_6_35, ws_4_12, wd_1_15, by decide +kernel⟩
def y_Mod_nextPlace : MethodName := ⟨"RuleTreeModel", "nextPlace", "(I)I"⟩
def T_Mod_nextPlace : List zTr := [(0, .aload_n 0, 1, 0, 0), (1, .getfield 56, 3, 0, 0), (4, .iload_n 1, 1, 0, 0), (5, .iaload, 1, 0, 0), (6, .istore_n 2, 1, 0, 0), (7, .iload_n 2, 1, 0, 0), (8, .aload_n 0, 1, 0, 0), (9, .getfield 56, 3, 0, 0), (12, .iload_n 1, 1, 0, 0), (13, .iconst 1, 1, 0, 1), (14, .iadd, 1, 0, 0), (15, .iaload, 1, 0, 0), (16, .if_icmp .ge 30, 3, 46, 0), (19, .aload_n 0, 1, 0, 0), (20, .getfield 100, 3, 0, 0), (23, .aload_n 0, 1, 0, 0), (24, .getfield 59, 3, 0, 0), (27, .iload_n 2, 1, 0, 0), (28, .iaload, 1, 0, 0), (29, .baload, 1, 0, 0), (30, .ifCond .ne 10, 3, 40, 0), (33, .aload_n 0, 1, 0, 0), (34, .getfield 59, 3, 0, 0), (37, .iload_n 2, 1, 0, 0), (38, .iaload, 1, 0, 0), (39, .ireturn, 1, 0, 0), (40, .iinc 2 1, 3, 0, 1), (43, .goto (-36), 3, 7, 0), (46, .iconst (-1), 1, 0, (-1)), (47, .ireturn, 1, 0, 0)]
theorem tk_Mod_nextPlace : zTok prog_13_method_31_code 3 T_Mod_nextPlace := by decide +kernel
theorem yk_Mod_nextPlace : zY "RuleTreeModel" y_Mod_nextPlace prog_13_method_31_code 3 (some Jvm.ClassFile.FieldType.int) 1 := ⟨wd_6_79, wd_6_78, ws_5_3, wd_1_15, by decide +kernel⟩
def y_Mod_narrow : MethodName := ⟨"RuleTreeModel", "narrow", "(IJZ)V"⟩
def T_Mod_narrow : List zTr := [(0, .iconst 0, 1, 0, 0), (1, .istore 5, 2, 0, 0), (3, .iload 5, 2, 0, 0), (5, .aload_n 0, 1, 0, 0), (6, .getfield 164, 3, 0, 0), (9, .if_icmp .ge 94, 3, 103, 0), (12, .aload_n 0, 1, 0, 0), (13, .iload_n 1, 1, 0, 0), (14, .iload 5, 2, 0, 0), (16, .invokevirtual 203, 3, 0, 0), (19, .ifCond .eq 18, 3, 37, 0), (22, .aload_n 0, 1, 0, 0), (23, .iload 5, 2, 0, 0), (25, .aload_n 0, 1, 0, 0), (26, .getfield 91, 3, 0, 0), (29, .iload_n 1, 1, 0, 0), (30, .iaload, 1, 0, 0), (31, .invokevirtual 206, 3, 0, 0), (34, .goto 4, 3, 38, 0), (37, .iconst (-1), 1, 0, (-1)), (38, .istore 6, 2, 0, 0), (40, .iload 6, 2, 0, 0), (42, .ifCond .lt 19, 3, 61, 0), (45, .iload 4, 2, 0, 0), (47, .ifCond .ne 18, 3, 65, 0), (50, .aload_n 0, 1, 0, 0), (51, .iload 6, 2, 0, 0), (53, .invokevirtual 191, 3, 0, 0), (56, .lload_n 2, 1, 0, 0), (57, .lcmp, 1, 0, 0), (58, .ifCond .ne 7, 3, 65, 0), (61, .iconst 1, 1, 0, 1), (62, .goto 4, 3, 66, 0), (65, .iconst 0, 1, 0, 0), (66, .istore 7, 2, 0, 0), (68, .aload_n 0, 1, 0, 0), (69, .iload_n 1, 1, 0, 0), (70, .iconst 1, 1, 0, 1), (71, .iadd, 1, 0, 0), (72, .iload 5, 2, 0, 0), (74, .aload_n 0, 1, 0, 0), (75, .iload_n 1, 1, 0, 0), (76, .iload 5, 2, 0, 0), (78, .invokevirtual 203, 3, 0, 0), (81, .ifCond .eq 12, 3, 93, 0), (84, .iload 7, 2, 0, 0), (86, .ifCond .eq 7, 3, 93, 0), (89, .iconst 1, 1, 0, 1), (90, .goto 4, 3, 94, 0), (93, .iconst 0, 1, 0, 0), (94, .invokevirtual 209, 3, 0, 0), (97, .iinc 5 1, 3, 0, 1), (100, .goto (-97), 3, 3, 0), (103, .return_, 1, 0, 0)]
theorem tk_Mod_narrow : zTok prog_13_method_32_code 8 T_Mod_narrow := by decide +kernel
theorem yk_Mod_narrow : zY "RuleTreeModel" y_Mod_narrow prog_13_method_32_code 8 none 3 := ⟨wd_6_117, wd_6_116, ws_5_12, wd_1_15, by decide +kernel⟩
def y_Mod_nextNumber : MethodName := ⟨"RuleTreeModel", "nextNumber", "(IJ)J"⟩
def T_Mod_nextNumber : List zTr := [(0, .ldc2_w 213, 3, 0, 0), (3, .lstore 4, 2, 0, 0), (5, .iconst 0, 1, 0, 0), (6, .istore 6, 2, 0, 0), (8, .iload 6, 2, 0, 0), (10, .aload_n 0, 1, 0, 0), (11, .getfield 164, 3, 0, 0), (14, .if_icmp .ge 73, 3, 87, 0), (17, .aload_n 0, 1, 0, 0), (18, .iload_n 1, 1, 0, 0), (19, .iload 6, 2, 0, 0), (21, .invokevirtual 203, 3, 0, 0), (24, .ifCond .eq 18, 3, 42, 0), (27, .aload_n 0, 1, 0, 0), (28, .iload 6, 2, 0, 0), (30, .aload_n 0, 1, 0, 0), (31, .getfield 91, 3, 0, 0), (34, .iload_n 1, 1, 0, 0), (35, .iaload, 1, 0, 0), (36, .invokevirtual 206, 3, 0, 0), (39, .goto 4, 3, 43, 0), (42, .iconst (-1), 1, 0, (-1)), (43, .istore 7, 2, 0, 0), (45, .iload 7, 2, 0, 0), (47, .ifCond .lt 34, 3, 81, 0), (50, .aload_n 0, 1, 0, 0), (51, .iload 7, 2, 0, 0), (53, .invokevirtual 191, 3, 0, 0), (56, .lload_n 2, 1, 0, 0), (57, .lcmp, 1, 0, 0), (58, .ifCond .le 23, 3, 81, 0), (61, .aload_n 0, 1, 0, 0), (62, .iload 7, 2, 0, 0), (64, .invokevirtual 191, 3, 0, 0), (67, .lload 4, 2, 0, 0), (69, .lcmp, 1, 0, 0), (70, .ifCond .ge 11, 3, 81, 0), (73, .aload_n 0, 1, 0, 0), (74, .iload 7, 2, 0, 0), (76, .invokevirtual 191, 3, 0, 0), (79, .lstore 4, 2, 0, 0), (81, .iinc 6 1, 3, 0, 1), (84, .goto (-76), 3, 8, 0), (87, .lload 4, 2, 0, 0), (89, .lreturn, 1, 0, 0)]
theorem tk_Mod_nextNumber : zTok prog_13_method_33_code 8 T_Mod_nextNumber := by decide +kernel
theorem yk_Mod_nextNumber : zY "RuleTreeModel" y_Mod_nextNumber prog_13_method_33_code 8 (some Jvm.ClassFile.FieldType.long) 2 := ⟨wd_6_91, wd_6_90, ws_5_6, wd_1_15, by decide +kernel⟩
def y_Mod_branches : MethodName := ⟨"RuleTreeModel", "branches", "(I)I"⟩
def T_Mod_branches : List zTr := [(0, .iconst 0, 1, 0, 0), (1, .istore_n 2, 1, 0, 0), (2, .aload_n 0, 1, 0, 0), (3, .iload_n 1, 1, 0, 0), (4, .ldc2_w 215, 3, 0, 0), (7, .invokevirtual 217, 3, 0, 0), (10, .lstore_n 3, 1, 0, 0), (11, .lload_n 3, 1, 0, 0), (12, .ldc2_w 213, 3, 0, 0), (15, .lcmp, 1, 0, 0), (16, .ifCond .ge 16, 3, 32, 0), (19, .iinc 2 1, 3, 0, 1), (22, .aload_n 0, 1, 0, 0), (23, .iload_n 1, 1, 0, 0), (24, .lload_n 3, 1, 0, 0), (25, .invokevirtual 217, 3, 0, 0), (28, .lstore_n 3, 1, 0, 0), (29, .goto (-18), 3, 11, 0), (32, .iload_n 2, 1, 0, 0), (33, .ireturn, 1, 0, 0)]
theorem tk_Mod_branches : zTok prog_13_method_34_code 5 T_Mod_branches := by decide +kernel
theorem yk_Mod_branches : zY "RuleTreeModel" y_Mod_branches prog_13_method_34_code 5 (some Jvm.ClassFile.FieldType.int) 1 := ⟨wd_6_113, wd_6_112, ws_5_11, wd_1_15, by decide +kernel⟩
def y_Mod_example : MethodName := ⟨"RuleTreeModel", "example", "(I)I"⟩
def T_Mod_example : List zTr := [(0, .iconst (-1), 1, 0, (-1)), (1, .istore_n 2, 1, 0, 0), (2, .iconst 0, 1, 0, 0), (3, .istore_n 3, 1, 0, 0), (4, .iload_n 3, 1, 0, 0), (5, .aload_n 0, 1, 0, 0), (6, .getfield 164, 3, 0, 0), (9, .if_icmp .ge 38, 3, 47, 0), (12, .iload_n 2, 1, 0, 0), (13, .ifCond .ge 34, 3, 47, 0), (16, .aload_n 0, 1, 0, 0), (17, .iload_n 1, 1, 0, 0), (18, .iload_n 3, 1, 0, 0), (19, .invokevirtual 203, 3, 0, 0), (22, .ifCond .eq 17, 3, 39, 0), (25, .aload_n 0, 1, 0, 0), (26, .iload_n 3, 1, 0, 0), (27, .aload_n 0, 1, 0, 0), (28, .getfield 91, 3, 0, 0), (31, .iload_n 1, 1, 0, 0), (32, .iaload, 1, 0, 0), (33, .invokevirtual 206, 3, 0, 0), (36, .goto 4, 3, 40, 0), (39, .iconst (-1), 1, 0, (-1)), (40, .istore_n 2, 1, 0, 0), (41, .iinc 3 1, 3, 0, 1), (44, .goto (-40), 3, 4, 0), (47, .iload_n 2, 1, 0, 0), (48, .ireturn, 1, 0, 0)]
theorem tk_Mod_example : zTok prog_13_method_35_code 4 T_Mod_example := by decide +kernel
theorem yk_Mod_example : zY "RuleTreeModel" y_Mod_example prog_13_method_35_code 4 (some Jvm.ClassFile.FieldType.int) 1 := ⟨wd_6_109, wd_6_108, ws_5_10, wd_1_15, by decide +kernel⟩
def y_Mod_hasOthers : MethodName := ⟨"RuleTreeModel", "hasOthers", "(I)Z"⟩
def T_Mod_hasOthers : List zTr := [(0, .aload_n 0, 1, 0, 0), (1, .iload_n 1, 1, 0, 0), (2, .invokevirtual 220, 3, 0, 0), (5, .istore_n 2, 1, 0, 0), (6, .aload_n 0, 1, 0, 0), (7, .getfield 17, 3, 0, 0), (10, .iload_n 2, 1, 0, 0), (11, .baload, 1, 0, 0), (12, .iconst 2, 1, 0, 2), (13, .if_icmp .ne 17, 3, 30, 0), (16, .aload_n 0, 1, 0, 0), (17, .getfield 7, 3, 0, 0), (20, .aload_n 0, 1, 0, 0), (21, .getfield 21, 3, 0, 0), (24, .iload_n 2, 1, 0, 0), (25, .iaload, 1, 0, 0), (26, .iaload, 1, 0, 0), (27, .goto 32, 3, 59, 0), (30, .aload_n 0, 1, 0, 0), (31, .getfield 17, 3, 0, 0), (34, .iload_n 2, 1, 0, 0), (35, .baload, 1, 0, 0), (36, .iconst 1, 1, 0, 1), (37, .if_icmp .ne 19, 3, 56, 0), (40, .aload_n 0, 1, 0, 0), (41, .getfield 21, 3, 0, 0), (44, .iload_n 2, 1, 0, 0), (45, .iaload, 1, 0, 0), (46, .iconst 2, 1, 0, 2), (47, .if_icmp .ne 9, 3, 56, 0), (50, .sipush 256, 3, 0, 256), (53, .goto 6, 3, 59, 0), (56, .sipush 1000, 3, 0, 1000), (59, .istore_n 3, 1, 0, 0), (60, .aload_n 0, 1, 0, 0), (61, .iload_n 1, 1, 0, 0), (62, .invokevirtual 224, 3, 0, 0), (65, .iload_n 3, 1, 0, 0), (66, .if_icmp .ge 7, 3, 73, 0), (69, .iconst 1, 1, 0, 1), (70, .goto 4, 3, 74, 0), (73, .iconst 0, 1, 0, 0), (74, .ireturn, 1, 0, 0)]
theorem tk_Mod_hasOthers : zTok prog_13_method_36_code 4 T_Mod_hasOthers := by decide +kernel
theorem yk_Mod_hasOthers : zY "RuleTreeModel" y_Mod_hasOthers prog_13_method_36_code 4 (some Jvm.ClassFile.FieldType.boolean) 1 := ⟨wd_6_105, wd_6_104, ws_5_9, wd_1_15, by decide +kernel⟩
def y_Mod_leastOther : MethodName := ⟨"RuleTreeModel", "leastOther", "(I)I"⟩
def T_Mod_leastOther : List zTr := [(0, .iconst 0, 1, 0, 0), (1, .istore_n 2, 1, 0, 0), (2, .iconst 1, 1, 0, 1), (3, .istore_n 3, 1, 0, 0), (4, .iload_n 3, 1, 0, 0), (5, .ifCond .eq 39, 3, 44, 0), (8, .aload_n 0, 1, 0, 0), (9, .iload_n 1, 1, 0, 0), (10, .iload_n 2, 1, 0, 0), (11, .i2l, 1, 0, 0), (12, .lconst 1, 1, 0, 0), (13, .lsub, 1, 0, 0), (14, .invokevirtual 217, 3, 0, 0), (17, .iload_n 2, 1, 0, 0), (18, .i2l, 1, 0, 0), (19, .lcmp, 1, 0, 0), (20, .ifCond .ne 7, 3, 27, 0), (23, .iconst 1, 1, 0, 1), (24, .goto 4, 3, 28, 0), (27, .iconst 0, 1, 0, 0), (28, .istore_n 3, 1, 0, 0), (29, .iload_n 3, 1, 0, 0), (30, .ifCond .eq 9, 3, 39, 0), (33, .iload_n 2, 1, 0, 0), (34, .iconst 1, 1, 0, 1), (35, .iadd, 1, 0, 0), (36, .goto 4, 3, 40, 0), (39, .iload_n 2, 1, 0, 0), (40, .istore_n 2, 1, 0, 0), (41, .goto (-37), 3, 4, 0), (44, .iload_n 2, 1, 0, 0), (45, .ireturn, 1, 0, 0)]
theorem tk_Mod_leastOther : zTok prog_13_method_37_code 4 T_Mod_leastOther := by decide +kernel
theorem yk_Mod_leastOther : zY "RuleTreeModel" y_Mod_leastOther prog_13_method_37_code 4 (some Jvm.ClassFile.FieldType.int) 1 := ⟨wd_6_87, wd_6_86, ws_5_5, wd_1_15, by decide +kernel⟩
def y_Mod_start : MethodName := ⟨"RuleTreeModel", "start", "()V"⟩
def T_Mod_start : List zTr := [(0, .iconst 0, 1, 0, 0), (1, .istore_n 1, 1, 0, 0), (2, .iload_n 1, 1, 0, 0), (3, .aload_n 0, 1, 0, 0), (4, .getfield 65, 3, 0, 0), (7, .if_icmp .ge 16, 3, 23, 0), (10, .aload_n 0, 1, 0, 0), (11, .getfield 100, 3, 0, 0), (14, .iload_n 1, 1, 0, 0), (15, .iconst 0, 1, 0, 0), (16, .bastore, 1, 0, 0), (17, .iinc 1 1, 3, 0, 1), (20, .goto (-18), 3, 2, 0), (23, .iconst 0, 1, 0, 0), (24, .istore_n 1, 1, 0, 0), (25, .iload_n 1, 1, 0, 0), (26, .sipush 1024, 3, 0, 1024), (29, .if_icmp .ge 28, 3, 57, 0), (32, .aload_n 0, 1, 0, 0), (33, .iconst 0, 1, 0, 0), (34, .iload_n 1, 1, 0, 0), (35, .iload_n 1, 1, 0, 0), (36, .aload_n 0, 1, 0, 0), (37, .getfield 164, 3, 0, 0), (40, .if_icmp .ge 7, 3, 47, 0), (43, .iconst 1, 1, 0, 1), (44, .goto 4, 3, 48, 0), (47, .iconst 0, 1, 0, 0), (48, .invokevirtual 209, 3, 0, 0), (51, .iinc 1 1, 3, 0, 1), (54, .goto (-29), 3, 25, 0), (57, .return_, 1, 0, 0)]
theorem tk_Mod_start : zTok prog_13_method_38_code 2 T_Mod_start := by decide +kernel
theorem yk_Mod_start : zY "RuleTreeModel" y_Mod_start prog_13_method_38_code 2 none 0 := ⟨wd_6_59, wd_6_58, ws_4_14, wd_1_15, by decide +kernel⟩
def y_Mod_end : MethodName := ⟨"RuleTreeModel", "end", "(II)V"⟩
def T_Mod_end : List zTr := [(0, .aload_n 0, 1, 0, 0), (1, .getfield 103, 3, 0, 0), (4, .iload_n 1, 1, 0, 0), (5, .iconst 1, 1, 0, 1), (6, .iadd, 1, 0, 0), (7, .dup2, 1, 0, 0), (8, .iaload, 1, 0, 0), (9, .iconst 1, 1, 0, 1), (10, .iadd, 1, 0, 0), (11, .iastore, 1, 0, 0), (12, .aload_n 0, 1, 0, 0), (13, .iload_n 2, 1, 0, 0), (14, .aload_n 0, 1, 0, 0), (15, .getfield 227, 3, 0, 0), (18, .if_icmp .le 7, 3, 25, 0), (21, .iload_n 2, 1, 0, 0), (22, .goto 7, 3, 29, 0), (25, .aload_n 0, 1, 0, 0), (26, .getfield 227, 3, 0, 0), (29, .putfield 227, 3, 0, 0), (32, .iload_n 1, 1, 0, 0), (33, .ifCond .ge 70, 3, 103, 0), (36, .aload_n 0, 1, 0, 0), (37, .getfield 230, 3, 0, 0), (40, .ifCond .ge 63, 3, 103, 0), (43, .aload_n 0, 1, 0, 0), (44, .iload_n 2, 1, 0, 0), (45, .putfield 230, 3, 0, 0), (48, .iconst 0, 1, 0, 0), (49, .istore_n 3, 1, 0, 0), (50, .iload_n 3, 1, 0, 0), (51, .iload_n 2, 1, 0, 0), (52, .if_icmp .ge 51, 3, 103, 0), (55, .aload_n 0, 1, 0, 0), (56, .getfield 106, 3, 0, 0), (59, .iload_n 3, 1, 0, 0), (60, .aload_n 0, 1, 0, 0), (61, .getfield 91, 3, 0, 0), (64, .iload_n 3, 1, 0, 0), (65, .iaload, 1, 0, 0), (66, .iastore, 1, 0, 0), (67, .aload_n 0, 1, 0, 0), (68, .getfield 109, 3, 0, 0), (71, .iload_n 3, 1, 0, 0), (72, .aload_n 0, 1, 0, 0), (73, .getfield 97, 3, 0, 0), (76, .iload_n 3, 1, 0, 0), (77, .baload, 1, 0, 0), (78, .ifCond .eq 11, 3, 89, 0), (81, .aload_n 0, 1, 0, 0), (82, .iload_n 3, 1, 0, 0), (83, .invokevirtual 233, 3, 0, 0), (86, .goto 10, 3, 96, 0), (89, .aload_n 0, 1, 0, 0), (90, .getfield 94, 3, 0, 0), (93, .iload_n 3, 1, 0, 0), (94, .laload, 1, 0, 0), (95, .l2i, 1, 0, 0), (96, .iastore, 1, 0, 0), (97, .iinc 3 1, 3, 0, 1), (100, .goto (-50), 3, 50, 0), (103, .return_, 1, 0, 0)]
theorem tk_Mod_end : zTok prog_13_method_39_code 4 T_Mod_end := by decide +kernel
theorem yk_Mod_end : zY "RuleTreeModel" y_Mod_end prog_13_method_39_code 4 none 2 := ⟨wd_6_83, wd_6_82, ws_5_4, wd_1_15, by decide +kernel⟩
def y_Mod_enter : MethodName := ⟨"RuleTreeModel", "enter", "(I)Z"⟩
def T_Mod_enter : List zTr := [(0, .aload_n 0, 1, 0, 0), (1, .dup, 1, 0, 0), (2, .getfield 236, 3, 0, 0), (5, .iconst 1, 1, 0, 1), (6, .iadd, 1, 0, 0), (7, .putfield 236, 3, 0, 0), (10, .aload_n 0, 1, 0, 0), (11, .iload_n 1, 1, 0, 0), (12, .invokevirtual 239, 3, 0, 0), (15, .istore_n 2, 1, 0, 0), (16, .iload_n 2, 1, 0, 0), (17, .ifCond .ge 7, 3, 24, 0), (20, .iconst (-1), 1, 0, (-1)), (21, .goto 8, 3, 29, 0), (24, .aload_n 0, 1, 0, 0), (25, .iload_n 2, 1, 0, 0), (26, .invokevirtual 242, 3, 0, 0), (29, .istore_n 3, 1, 0, 0), (30, .iload_n 3, 1, 0, 0), (31, .ifCond .ge 11, 3, 42, 0), (34, .aload_n 0, 1, 0, 0), (35, .iload_n 2, 1, 0, 0), (36, .iload_n 1, 1, 0, 0), (37, .invokevirtual 245, 3, 0, 0), (40, .iconst 0, 1, 0, 0), (41, .ireturn, 1, 0, 0), (42, .aload_n 0, 1, 0, 0), (43, .getfield 91, 3, 0, 0), (46, .iload_n 1, 1, 0, 0), (47, .iload_n 3, 1, 0, 0), (48, .iastore, 1, 0, 0), (49, .aload_n 0, 1, 0, 0), (50, .getfield 100, 3, 0, 0), (53, .iload_n 3, 1, 0, 0), (54, .iconst 1, 1, 0, 1), (55, .bastore, 1, 0, 0), (56, .aload_n 0, 1, 0, 0), (57, .getfield 94, 3, 0, 0), (60, .iload_n 1, 1, 0, 0), (61, .ldc2_w 215, 3, 0, 0), (64, .lastore, 1, 0, 0), (65, .aload_n 0, 1, 0, 0), (66, .getfield 97, 3, 0, 0), (69, .iload_n 1, 1, 0, 0), (70, .iconst 0, 1, 0, 0), (71, .bastore, 1, 0, 0), (72, .iconst 1, 1, 0, 1), (73, .ireturn, 1, 0, 0)]
theorem tk_Mod_enter : zTok prog_13_method_40_code 4 T_Mod_enter := by decide +kernel
theorem yk_Mod_enter : zY "RuleTreeModel" y_Mod_enter prog_13_method_40_code 4 (some Jvm.ClassFile.FieldType.boolean) 1 := ⟨wd_6_67, wd_6_66, ws_5_0, wd_1_15, by decide +kernel⟩
def y_Mod_goOn : MethodName := ⟨"RuleTreeModel", "goOn", "(I)Z"⟩
def T_Mod_goOn : List zTr := [(0, .aload_n 0, 1, 0, 0), (1, .getfield 97, 3, 0, 0), (4, .iload_n 1, 1, 0, 0), (5, .baload, 1, 0, 0), (6, .ifCond .eq 5, 3, 11, 0), (9, .iconst 0, 1, 0, 0), (10, .ireturn, 1, 0, 0), (11, .aload_n 0, 1, 0, 0), (12, .getfield 94, 3, 0, 0), (15, .iload_n 1, 1, 0, 0), (16, .aload_n 0, 1, 0, 0), (17, .iload_n 1, 1, 0, 0), (18, .aload_n 0, 1, 0, 0), (19, .getfield 94, 3, 0, 0), (22, .iload_n 1, 1, 0, 0), (23, .laload, 1, 0, 0), (24, .invokevirtual 217, 3, 0, 0), (27, .lastore, 1, 0, 0), (28, .aload_n 0, 1, 0, 0), (29, .getfield 97, 3, 0, 0), (32, .iload_n 1, 1, 0, 0), (33, .aload_n 0, 1, 0, 0), (34, .getfield 94, 3, 0, 0), (37, .iload_n 1, 1, 0, 0), (38, .laload, 1, 0, 0), (39, .ldc2_w 213, 3, 0, 0), (42, .lcmp, 1, 0, 0), (43, .ifCond .ne 7, 3, 50, 0), (46, .iconst 1, 1, 0, 1), (47, .goto 4, 3, 51, 0), (50, .iconst 0, 1, 0, 0), (51, .bastore, 1, 0, 0), (52, .aload_n 0, 1, 0, 0), (53, .getfield 97, 3, 0, 0), (56, .iload_n 1, 1, 0, 0), (57, .baload, 1, 0, 0), (58, .ifCond .eq 13, 3, 71, 0), (61, .aload_n 0, 1, 0, 0), (62, .iload_n 1, 1, 0, 0), (63, .invokevirtual 248, 3, 0, 0), (66, .ifCond .ne 5, 3, 71, 0), (69, .iconst 0, 1, 0, 0), (70, .ireturn, 1, 0, 0), (71, .aload_n 0, 1, 0, 0), (72, .iload_n 1, 1, 0, 0), (73, .aload_n 0, 1, 0, 0), (74, .getfield 94, 3, 0, 0), (77, .iload_n 1, 1, 0, 0), (78, .laload, 1, 0, 0), (79, .aload_n 0, 1, 0, 0), (80, .getfield 97, 3, 0, 0), (83, .iload_n 1, 1, 0, 0), (84, .baload, 1, 0, 0), (85, .invokevirtual 251, 3, 0, 0), (88, .iconst 1, 1, 0, 1), (89, .ireturn, 1, 0, 0)]
theorem tk_Mod_goOn : zTok prog_13_method_41_code 2 T_Mod_goOn := by decide +kernel
theorem yk_Mod_goOn : zY "RuleTreeModel" y_Mod_goOn prog_13_method_41_code 2 (some Jvm.ClassFile.FieldType.boolean) 1 := ⟨wd_6_101, wd_6_100, ws_5_8, wd_1_15, by decide +kernel⟩
def y_Mod_grow : MethodName := ⟨"RuleTreeModel", "grow", "()I"⟩
def T_Mod_grow : List zTr := [(0, .aload_n 0, 1, 0, 0), (1, .iconst 0, 1, 0, 0), (2, .putfield 180, 3, 0, 0), (5, .aload_n 0, 1, 0, 0), (6, .iconst 0, 1, 0, 0), (7, .putfield 236, 3, 0, 0), (10, .aload_n 0, 1, 0, 0), (11, .iconst 0, 1, 0, 0), (12, .putfield 227, 3, 0, 0), (15, .aload_n 0, 1, 0, 0), (16, .iconst (-1), 1, 0, (-1)), (17, .putfield 230, 3, 0, 0), (20, .iconst 0, 1, 0, 0), (21, .istore_n 1, 1, 0, 0), (22, .iload_n 1, 1, 0, 0), (23, .sipush 1024, 3, 0, 1024), (26, .if_icmp .gt 16, 3, 42, 0), (29, .aload_n 0, 1, 0, 0), (30, .getfield 103, 3, 0, 0), (33, .iload_n 1, 1, 0, 0), (34, .iconst 0, 1, 0, 0), (35, .iastore, 1, 0, 0), (36, .iinc 1 1, 3, 0, 1), (39, .goto (-17), 3, 22, 0), (42, .aload_n 0, 1, 0, 0), (43, .invokevirtual 255, 3, 0, 0), (46, .aload_n 0, 1, 0, 0), (47, .iconst 0, 1, 0, 0), (48, .invokevirtual 258, 3, 0, 0), (51, .ifCond .eq 7, 3, 58, 0), (54, .iconst 0, 1, 0, 0), (55, .goto 4, 3, 59, 0), (58, .iconst (-1), 1, 0, (-1)), (59, .istore_n 1, 1, 0, 0), (60, .iload_n 1, 1, 0, 0), (61, .ifCond .lt 60, 3, 121, 0), (64, .aload_n 0, 1, 0, 0), (65, .getfield 236, 3, 0, 0), (68, .sipush 4096, 3, 0, 4096), (71, .if_icmp .gt 50, 3, 121, 0), (74, .aload_n 0, 1, 0, 0), (75, .iload_n 1, 1, 0, 0), (76, .invokevirtual 261, 3, 0, 0), (79, .ifCond .eq 24, 3, 103, 0), (82, .aload_n 0, 1, 0, 0), (83, .iload_n 1, 1, 0, 0), (84, .iconst 1, 1, 0, 1), (85, .iadd, 1, 0, 0), (86, .invokevirtual 258, 3, 0, 0), (89, .ifCond .eq 9, 3, 98, 0), (92, .iload_n 1, 1, 0, 0), (93, .iconst 1, 1, 0, 1), (94, .iadd, 1, 0, 0), (95, .goto 4, 3, 99, 0), (98, .iload_n 1, 1, 0, 0), (99, .istore_n 1, 1, 0, 0), (100, .goto (-40), 3, 60, 0), (103, .aload_n 0, 1, 0, 0), (104, .getfield 100, 3, 0, 0), (107, .aload_n 0, 1, 0, 0), (108, .getfield 91, 3, 0, 0), (111, .iload_n 1, 1, 0, 0), (112, .iaload, 1, 0, 0), (113, .iconst 0, 1, 0, 0), (114, .bastore, 1, 0, 0), (115, .iinc 1 (-1), 3, 0, (-1)), (118, .goto (-58), 3, 60, 0), (121, .aload_n 0, 1, 0, 0), (122, .getfield 236, 3, 0, 0), (125, .sipush 4096, 3, 0, 4096), (128, .if_icmp .le 6, 3, 134, 0), (131, .bipush (-2), 2, 0, (-2)), (133, .ireturn, 1, 0, 0), (134, .aload_n 0, 1, 0, 0), (135, .iconst 1, 1, 0, 1), (136, .putfield 180, 3, 0, 0), (139, .aload_n 0, 1, 0, 0), (140, .getfield 236, 3, 0, 0), (143, .ireturn, 1, 0, 0)]
theorem tk_Mod_grow : zTok prog_13_method_42_code 2 T_Mod_grow := by decide +kernel
theorem yk_Mod_grow : zY "RuleTreeModel" y_Mod_grow prog_13_method_42_code 2 (some Jvm.ClassFile.FieldType.int) 0 := ⟨wd_6_55, wd_6_53, wd_6_54, wd_1_15, by decide +kernel⟩
def y_Mod_partAt : MethodName := ⟨"RuleTreeModel", "partAt", "(II)I"⟩
def T_Mod_partAt : List zTr := [(0, .iconst 0, 1, 0, 0), (1, .istore_n 3, 1, 0, 0), (2, .iload_n 2, 1, 0, 0), (3, .istore 4, 2, 0, 0), (5, .iload 4, 2, 0, 0), (7, .ifCond .le 26, 3, 33, 0), (10, .aload_n 0, 1, 0, 0), (11, .getfield 112, 3, 0, 0), (14, .iload_n 3, 1, 0, 0), (15, .iload 4, 2, 0, 0), (17, .iastore, 1, 0, 0), (18, .iinc 3 1, 3, 0, 1), (21, .aload_n 0, 1, 0, 0), (22, .getfield 69, 3, 0, 0), (25, .iload 4, 2, 0, 0), (27, .iaload, 1, 0, 0), (28, .istore 4, 2, 0, 0), (30, .goto (-25), 3, 5, 0), (33, .iload_n 1, 1, 0, 0), (34, .istore 4, 2, 0, 0), (36, .iload_n 3, 1, 0, 0), (37, .iconst 1, 1, 0, 1), (38, .isub, 1, 0, 0), (39, .istore 5, 2, 0, 0), (41, .iload 5, 2, 0, 0), (43, .ifCond .lt 193, 3, 236, 0), (46, .iload 4, 2, 0, 0), (48, .ifCond .lt 188, 3, 236, 0), (51, .aload_n 0, 1, 0, 0), (52, .getfield 112, 3, 0, 0), (55, .iload 5, 2, 0, 0), (57, .iaload, 1, 0, 0), (58, .istore 6, 2, 0, 0), (60, .aload_n 0, 1, 0, 0), (61, .getfield 69, 3, 0, 0), (64, .iload 6, 2, 0, 0), (66, .iaload, 1, 0, 0), (67, .istore 7, 2, 0, 0), (69, .aload_n 0, 1, 0, 0), (70, .getfield 17, 3, 0, 0), (73, .iload 4, 2, 0, 0), (75, .baload, 1, 0, 0), (76, .iconst 4, 1, 0, 4), (77, .if_icmp .ne 50, 3, 127, 0), (80, .aload_n 0, 1, 0, 0), (81, .getfield 84, 3, 0, 0), (84, .iload 7, 2, 0, 0), (86, .iaload, 1, 0, 0), (87, .aload_n 0, 1, 0, 0), (88, .getfield 21, 3, 0, 0), (91, .iload 4, 2, 0, 0), (93, .iaload, 1, 0, 0), (94, .if_icmp .ne 33, 3, 127, 0), (97, .aload_n 0, 1, 0, 0), (98, .getfield 72, 3, 0, 0), (101, .iload 6, 2, 0, 0), (103, .iaload, 1, 0, 0), (104, .aload_n 0, 1, 0, 0), (105, .getfield 21, 3, 0, 0), (108, .iload 4, 2, 0, 0), (110, .iaload, 1, 0, 0), (111, .if_icmp .gt 16, 3, 127, 0), (114, .aload_n 0, 1, 0, 0), (115, .iload 7, 2, 0, 0), (117, .invokevirtual 264, 3, 0, 0), (120, .ifCond .eq 7, 3, 127, 0), (123, .iconst 1, 1, 0, 1), (124, .goto 4, 3, 128, 0), (127, .iconst 0, 1, 0, 0), (128, .istore 8, 2, 0, 0), (130, .aload_n 0, 1, 0, 0), (131, .getfield 17, 3, 0, 0), (134, .iload 4, 2, 0, 0), (136, .baload, 1, 0, 0), (137, .iconst 2, 1, 0, 2), (138, .if_icmp .eq 14, 3, 152, 0), (141, .aload_n 0, 1, 0, 0), (142, .getfield 17, 3, 0, 0), (145, .iload 4, 2, 0, 0), (147, .baload, 1, 0, 0), (148, .iconst 3, 1, 0, 3), (149, .if_icmp .ne 37, 3, 186, 0), (152, .aload_n 0, 1, 0, 0), (153, .getfield 72, 3, 0, 0), (156, .iload 6, 2, 0, 0), (158, .iaload, 1, 0, 0), (159, .iconst 1, 1, 0, 1), (160, .if_icmp .ne 26, 3, 186, 0), (163, .aload_n 0, 1, 0, 0), (164, .getfield 27, 3, 0, 0), (167, .iload 4, 2, 0, 0), (169, .iaload, 1, 0, 0), (170, .ifCond .lt 16, 3, 186, 0), (173, .aload_n 0, 1, 0, 0), (174, .iload 7, 2, 0, 0), (176, .invokevirtual 264, 3, 0, 0), (179, .ifCond .ne 7, 3, 186, 0), (182, .iconst 1, 1, 0, 1), (183, .goto 4, 3, 187, 0), (186, .iconst 0, 1, 0, 0), (187, .istore 9, 2, 0, 0), (189, .iload 8, 2, 0, 0), (191, .ifCond .eq 21, 3, 212, 0), (194, .aload_n 0, 1, 0, 0), (195, .iload 4, 2, 0, 0), (197, .aload_n 0, 1, 0, 0), (198, .getfield 72, 3, 0, 0), (201, .iload 6, 2, 0, 0), (203, .iaload, 1, 0, 0), (204, .iconst 1, 1, 0, 1), (205, .isub, 1, 0, 0), (206, .invokevirtual 143, 3, 0, 0), (209, .goto 19, 3, 228, 0), (212, .iload 9, 2, 0, 0), (214, .ifCond .eq 13, 3, 227, 0), (217, .aload_n 0, 1, 0, 0), (218, .getfield 27, 3, 0, 0), (221, .iload 4, 2, 0, 0), (223, .iaload, 1, 0, 0), (224, .goto 4, 3, 228, 0), (227, .iconst (-1), 1, 0, (-1)), (228, .istore 4, 2, 0, 0), (230, .iinc 5 (-1), 3, 0, (-1)), (233, .goto (-192), 3, 41, 0), (236, .iload 4, 2, 0, 0), (238, .ireturn, 1, 0, 0)]
theorem tk_Mod_partAt : zTok prog_13_method_43_code 10 T_Mod_partAt := by decide +kernel
theorem yk_Mod_partAt : zY "RuleTreeModel" y_Mod_partAt prog_13_method_43_code 10 (some Jvm.ClassFile.FieldType.int) 2 := ⟨wd_6_129, wd_6_128, ws_5_14, wd_1_15, by decide +kernel⟩
def y_Mod_isRecordPlace : MethodName := ⟨"RuleTreeModel", "isRecordPlace", "(I)Z"⟩
def T_Mod_isRecordPlace : List zTr := [(0, .aload_n 0, 1, 0, 0), (1, .getfield 84, 3, 0, 0), (4, .iload_n 1, 1, 0, 0), (5, .iaload, 1, 0, 0), (6, .ifCond .le 7, 3, 13, 0), (9, .iconst 1, 1, 0, 1), (10, .goto 4, 3, 14, 0), (13, .iconst 0, 1, 0, 0), (14, .ireturn, 1, 0, 0)]
theorem tk_Mod_isRecordPlace : zTok prog_13_method_44_code 2 T_Mod_isRecordPlace := by decide +kernel
theorem yk_Mod_isRecordPlace : zY "RuleTreeModel" y_Mod_isRecordPlace prog_13_method_44_code 2 (some Jvm.ClassFile.FieldType.boolean) 1 := ⟨wd_6_133, wd_6_132, ws_5_15, wd_1_15, by decide +kernel⟩
def y_Mod_isOdd : MethodName := ⟨"RuleTreeModel", "isOdd", "(II)Z"⟩
def T_Mod_isOdd : List zTr := [(0, .iconst 0, 1, 0, 0), (1, .istore_n 3, 1, 0, 0), (2, .iconst 0, 1, 0, 0), (3, .istore 4, 2, 0, 0), (5, .iload 4, 2, 0, 0), (7, .aload_n 0, 1, 0, 0), (8, .getfield 164, 3, 0, 0), (11, .if_icmp .ge 100, 3, 111, 0), (14, .aload_n 0, 1, 0, 0), (15, .iload_n 1, 1, 0, 0), (16, .iload 4, 2, 0, 0), (18, .invokevirtual 203, 3, 0, 0), (21, .ifCond .eq 18, 3, 39, 0), (24, .aload_n 0, 1, 0, 0), (25, .iload 4, 2, 0, 0), (27, .aload_n 0, 1, 0, 0), (28, .getfield 91, 3, 0, 0), (31, .iload_n 1, 1, 0, 0), (32, .iaload, 1, 0, 0), (33, .invokevirtual 206, 3, 0, 0), (36, .goto 4, 3, 40, 0), (39, .iconst (-1), 1, 0, (-1)), (40, .istore 5, 2, 0, 0), (42, .iload_n 3, 1, 0, 0), (43, .ifCond .ne 56, 3, 99, 0), (46, .iload 5, 2, 0, 0), (48, .ifCond .lt 55, 3, 103, 0), (51, .aload_n 0, 1, 0, 0), (52, .getfield 21, 3, 0, 0), (55, .iload 5, 2, 0, 0), (57, .iaload, 1, 0, 0), (58, .aload_n 0, 1, 0, 0), (59, .getfield 21, 3, 0, 0), (62, .iload_n 2, 1, 0, 0), (63, .iaload, 1, 0, 0), (64, .if_icmp .ne 39, 3, 103, 0), (67, .aload_n 0, 1, 0, 0), (68, .getfield 27, 3, 0, 0), (71, .iload 5, 2, 0, 0), (73, .iaload, 1, 0, 0), (74, .ifCond .ge 7, 3, 81, 0), (77, .iconst 1, 1, 0, 1), (78, .goto 4, 3, 82, 0), (81, .iconst 0, 1, 0, 0), (82, .aload_n 0, 1, 0, 0), (83, .getfield 27, 3, 0, 0), (86, .iload_n 2, 1, 0, 0), (87, .iaload, 1, 0, 0), (88, .ifCond .ge 7, 3, 95, 0), (91, .iconst 1, 1, 0, 1), (92, .goto 4, 3, 96, 0), (95, .iconst 0, 1, 0, 0), (96, .if_icmp .eq 7, 3, 103, 0), (99, .iconst 1, 1, 0, 1), (100, .goto 4, 3, 104, 0), (103, .iconst 0, 1, 0, 0), (104, .istore_n 3, 1, 0, 0), (105, .iinc 4 1, 3, 0, 1), (108, .goto (-103), 3, 5, 0), (111, .iload_n 3, 1, 0, 0), (112, .ireturn, 1, 0, 0)]
theorem tk_Mod_isOdd : zTok prog_13_method_45_code 6 T_Mod_isOdd := by decide +kernel
theorem yk_Mod_isOdd : zY "RuleTreeModel" y_Mod_isOdd prog_13_method_45_code 6 (some Jvm.ClassFile.FieldType.boolean) 2 := ⟨wd_6_137, wd_6_136, ws_6_0, wd_1_15, by decide +kernel⟩
def y_Mod_tell : MethodName := ⟨"RuleTreeModel", "tell", "(I)I"⟩
def T_Mod_tell : List zTr := [(0, .aload_n 0, 1, 0, 0), (1, .invokevirtual 255, 3, 0, 0), (4, .aload_n 0, 1, 0, 0), (5, .iconst 0, 1, 0, 0), (6, .putfield 267, 3, 0, 0), (9, .aload_n 0, 1, 0, 0), (10, .iconst 0, 1, 0, 0), (11, .invokevirtual 239, 3, 0, 0), (14, .istore_n 2, 1, 0, 0), (15, .iload_n 2, 1, 0, 0), (16, .ifCond .ge 7, 3, 23, 0), (19, .iconst (-1), 1, 0, (-1)), (20, .goto 8, 3, 28, 0), (23, .aload_n 0, 1, 0, 0), (24, .iload_n 2, 1, 0, 0), (25, .invokevirtual 242, 3, 0, 0), (28, .istore_n 3, 1, 0, 0), (29, .iload_n 3, 1, 0, 0), (30, .ifCond .lt 132, 3, 162, 0), (33, .aload_n 0, 1, 0, 0), (34, .getfield 91, 3, 0, 0), (37, .aload_n 0, 1, 0, 0), (38, .getfield 267, 3, 0, 0), (41, .iload_n 3, 1, 0, 0), (42, .iastore, 1, 0, 0), (43, .aload_n 0, 1, 0, 0), (44, .getfield 100, 3, 0, 0), (47, .iload_n 3, 1, 0, 0), (48, .iconst 1, 1, 0, 1), (49, .bastore, 1, 0, 0), (50, .aload_n 0, 1, 0, 0), (51, .iload_n 1, 1, 0, 0), (52, .iload_n 3, 1, 0, 0), (53, .invokevirtual 270, 3, 0, 0), (56, .istore 4, 2, 0, 0), (58, .aload_n 0, 1, 0, 0), (59, .aload_n 0, 1, 0, 0), (60, .getfield 267, 3, 0, 0), (63, .invokevirtual 220, 3, 0, 0), (66, .istore 5, 2, 0, 0), (68, .iload 4, 2, 0, 0), (70, .ifCond .lt 38, 3, 108, 0), (73, .aload_n 0, 1, 0, 0), (74, .iload 4, 2, 0, 0), (76, .iload 5, 2, 0, 0), (78, .invokevirtual 151, 3, 0, 0), (81, .ifCond .eq 27, 3, 108, 0), (84, .aload_n 0, 1, 0, 0), (85, .getfield 17, 3, 0, 0), (88, .iload 4, 2, 0, 0), (90, .baload, 1, 0, 0), (91, .iconst 3, 1, 0, 3), (92, .if_icmp .ne 19, 3, 111, 0), (95, .aload_n 0, 1, 0, 0), (96, .aload_n 0, 1, 0, 0), (97, .getfield 267, 3, 0, 0), (100, .iload 4, 2, 0, 0), (102, .invokevirtual 273, 3, 0, 0), (105, .ifCond .eq 6, 3, 111, 0), (108, .bipush (-3), 2, 0, (-3)), (110, .ireturn, 1, 0, 0), (111, .aload_n 0, 1, 0, 0), (112, .aload_n 0, 1, 0, 0), (113, .getfield 267, 3, 0, 0), (116, .aload_n 0, 1, 0, 0), (117, .iload 4, 2, 0, 0), (119, .invokevirtual 191, 3, 0, 0), (122, .iconst 0, 1, 0, 0), (123, .invokevirtual 251, 3, 0, 0), (126, .aload_n 0, 1, 0, 0), (127, .dup, 1, 0, 0), (128, .getfield 267, 3, 0, 0), (131, .iconst 1, 1, 0, 1), (132, .iadd, 1, 0, 0), (133, .putfield 267, 3, 0, 0), (136, .aload_n 0, 1, 0, 0), (137, .aload_n 0, 1, 0, 0), (138, .getfield 267, 3, 0, 0), (141, .invokevirtual 239, 3, 0, 0), (144, .istore_n 2, 1, 0, 0), (145, .iload_n 2, 1, 0, 0), (146, .ifCond .ge 7, 3, 153, 0), (149, .iconst (-1), 1, 0, (-1)), (150, .goto 8, 3, 158, 0), (153, .aload_n 0, 1, 0, 0), (154, .iload_n 2, 1, 0, 0), (155, .invokevirtual 242, 3, 0, 0), (158, .istore_n 3, 1, 0, 0), (159, .goto (-130), 3, 29, 0), (162, .iload_n 2, 1, 0, 0), (163, .ireturn, 1, 0, 0)]
theorem tk_Mod_tell : zTok prog_13_method_46_code 6 T_Mod_tell := by decide +kernel
theorem yk_Mod_tell : zY "RuleTreeModel" y_Mod_tell prog_13_method_46_code 6 (some Jvm.ClassFile.FieldType.int) 1 := ⟨wd_6_125, wd_6_124, ws_5_13, wd_1_15, by decide +kernel⟩
def y_Mod_run : MethodName := ⟨"RuleTreeModel", "run", "(I)I"⟩
def T_Mod_run : List zTr := [(0, .aload_n 0, 1, 0, 0), (1, .getfield 180, 3, 0, 0), (4, .ifCond .eq 19, 3, 23, 0), (7, .aload_n 0, 1, 0, 0), (8, .iload_n 1, 1, 0, 0), (9, .invokevirtual 161, 3, 0, 0), (12, .ifCond .eq 11, 3, 23, 0), (15, .aload_n 0, 1, 0, 0), (16, .iload_n 1, 1, 0, 0), (17, .invokevirtual 276, 3, 0, 0), (20, .goto 4, 3, 24, 0), (23, .iconst (-1), 1, 0, (-1)), (24, .ireturn, 1, 0, 0)]
theorem tk_Mod_run : zTok prog_13_method_47_code 2 T_Mod_run := by decide +kernel
theorem yk_Mod_run : zY "RuleTreeModel" y_Mod_run prog_13_method_47_code 2 (some Jvm.ClassFile.FieldType.int) 1 := ⟨wd_6_121, wd_6_119, wd_6_120, wd_1_15, by decide +kernel⟩
def y_Mod_looks : MethodName := ⟨"RuleTreeModel", "looks", "(I)I"⟩
def T_Mod_looks : List zTr := [(0, .aload_n 0, 1, 0, 0), (1, .getfield 180, 3, 0, 0), (4, .ifCond .eq 21, 3, 25, 0), (7, .aload_n 0, 1, 0, 0), (8, .iload_n 1, 1, 0, 0), (9, .invokevirtual 161, 3, 0, 0), (12, .ifCond .eq 13, 3, 25, 0), (15, .aload_n 0, 1, 0, 0), (16, .iload_n 1, 1, 0, 0), (17, .invokevirtual 276, 3, 0, 0), (20, .bipush (-3), 2, 0, (-3)), (22, .if_icmp .ne 7, 3, 29, 0), (25, .iconst (-1), 1, 0, (-1)), (26, .goto 7, 3, 33, 0), (29, .aload_n 0, 1, 0, 0), (30, .getfield 267, 3, 0, 0), (33, .ireturn, 1, 0, 0)]
theorem tk_Mod_looks : zTok prog_13_method_48_code 2 T_Mod_looks := by decide +kernel
theorem yk_Mod_looks : zY "RuleTreeModel" y_Mod_looks prog_13_method_48_code 2 (some Jvm.ClassFile.FieldType.int) 1 := ⟨wd_6_141, wd_6_139, wd_6_140, wd_1_15, by decide +kernel⟩
def y_Mod_ends : MethodName := ⟨"RuleTreeModel", "ends", "(I)I"⟩
def T_Mod_ends : List zTr := [(0, .aload_n 0, 1, 0, 0), (1, .getfield 180, 3, 0, 0), (4, .ifCond .eq 27, 3, 31, 0), (7, .iload_n 1, 1, 0, 0), (8, .iconst (-1), 1, 0, (-1)), (9, .if_icmp .lt 22, 3, 31, 0), (12, .iload_n 1, 1, 0, 0), (13, .aload_n 0, 1, 0, 0), (14, .getfield 164, 3, 0, 0), (17, .if_icmp .ge 14, 3, 31, 0), (20, .aload_n 0, 1, 0, 0), (21, .getfield 103, 3, 0, 0), (24, .iload_n 1, 1, 0, 0), (25, .iconst 1, 1, 0, 1), (26, .iadd, 1, 0, 0), (27, .iaload, 1, 0, 0), (28, .goto 4, 3, 32, 0), (31, .iconst (-1), 1, 0, (-1)), (32, .ireturn, 1, 0, 0)]
theorem tk_Mod_ends : zTok prog_13_method_49_code 2 T_Mod_ends := by decide +kernel
theorem yk_Mod_ends : zY "RuleTreeModel" y_Mod_ends prog_13_method_49_code 2 (some Jvm.ClassFile.FieldType.int) 1 := ⟨wd_6_145, wd_6_143, wd_6_144, wd_1_15, by decide +kernel⟩
def y_Mod_depth : MethodName := ⟨"RuleTreeModel", "depth", "()I"⟩
def T_Mod_depth : List zTr := [(0, .aload_n 0, 1, 0, 0), (1, .getfield 180, 3, 0, 0), (4, .ifCond .eq 10, 3, 14, 0), (7, .aload_n 0, 1, 0, 0), (8, .getfield 227, 3, 0, 0), (11, .goto 4, 3, 15, 0), (14, .iconst (-1), 1, 0, (-1)), (15, .ireturn, 1, 0, 0)]
theorem tk_Mod_depth : zTok prog_13_method_50_code 1 T_Mod_depth := by decide +kernel
theorem yk_Mod_depth : zY "RuleTreeModel" y_Mod_depth prog_13_method_50_code 1 (some Jvm.ClassFile.FieldType.int) 0 := ⟨wd_6_149, wd_6_147, wd_6_148, wd_1_15, by decide +kernel⟩
def y_Mod_missedAt : MethodName := ⟨"RuleTreeModel", "missedAt", "(I)I"⟩
def T_Mod_missedAt : List zTr := [(0, .iconst (-1), 1, 0, (-1)), (1, .istore_n 2, 1, 0, 0), (2, .iconst 0, 1, 0, 0), (3, .istore_n 3, 1, 0, 0), (4, .iload_n 3, 1, 0, 0), (5, .aload_n 0, 1, 0, 0), (6, .getfield 230, 3, 0, 0), (9, .if_icmp .ge 25, 3, 34, 0), (12, .aload_n 0, 1, 0, 0), (13, .getfield 106, 3, 0, 0), (16, .iload_n 3, 1, 0, 0), (17, .iaload, 1, 0, 0), (18, .iload_n 1, 1, 0, 0), (19, .if_icmp .ne 7, 3, 26, 0), (22, .iload_n 3, 1, 0, 0), (23, .goto 4, 3, 27, 0), (26, .iload_n 2, 1, 0, 0), (27, .istore_n 2, 1, 0, 0), (28, .iinc 3 1, 3, 0, 1), (31, .goto (-27), 3, 4, 0), (34, .iload_n 2, 1, 0, 0), (35, .ireturn, 1, 0, 0)]
theorem tk_Mod_missedAt : zTok prog_13_method_51_code 4 T_Mod_missedAt := by decide +kernel
theorem yk_Mod_missedAt : zY "RuleTreeModel" y_Mod_missedAt prog_13_method_51_code 4 (some Jvm.ClassFile.FieldType.int) 1 := ⟨wd_6_158, wd_6_157, ws_6_1, wd_1_15, by decide +kernel⟩
def y_Mod_isToldRecord : MethodName := ⟨"RuleTreeModel", "isToldRecord", "(I)Z"⟩
def T_Mod_isToldRecord : List zTr := [(0, .iconst 0, 1, 0, 0), (1, .istore_n 2, 1, 0, 0), (2, .iconst 0, 1, 0, 0), (3, .istore_n 3, 1, 0, 0), (4, .iload_n 3, 1, 0, 0), (5, .aload_n 0, 1, 0, 0), (6, .getfield 230, 3, 0, 0), (9, .if_icmp .ge 63, 3, 72, 0), (12, .aload_n 0, 1, 0, 0), (13, .getfield 106, 3, 0, 0), (16, .iload_n 3, 1, 0, 0), (17, .iaload, 1, 0, 0), (18, .istore 4, 2, 0, 0), (20, .iload 4, 2, 0, 0), (22, .ifCond .le 44, 3, 66, 0), (25, .iload_n 2, 1, 0, 0), (26, .ifCond .ne 22, 3, 48, 0), (29, .aload_n 0, 1, 0, 0), (30, .getfield 69, 3, 0, 0), (33, .iload 4, 2, 0, 0), (35, .iaload, 1, 0, 0), (36, .iload_n 1, 1, 0, 0), (37, .if_icmp .ne 15, 3, 52, 0), (40, .aload_n 0, 1, 0, 0), (41, .iload_n 1, 1, 0, 0), (42, .invokevirtual 279, 3, 0, 0), (45, .ifCond .ge 7, 3, 52, 0), (48, .iconst 1, 1, 0, 1), (49, .goto 4, 3, 53, 0), (52, .iconst 0, 1, 0, 0), (53, .istore_n 2, 1, 0, 0), (54, .aload_n 0, 1, 0, 0), (55, .getfield 69, 3, 0, 0), (58, .iload 4, 2, 0, 0), (60, .iaload, 1, 0, 0), (61, .istore 4, 2, 0, 0), (63, .goto (-43), 3, 20, 0), (66, .iinc 3 1, 3, 0, 1), (69, .goto (-65), 3, 4, 0), (72, .iload_n 2, 1, 0, 0), (73, .ireturn, 1, 0, 0)]
theorem tk_Mod_isToldRecord : zTok prog_13_method_52_code 5 T_Mod_isToldRecord := by decide +kernel
theorem yk_Mod_isToldRecord : zY "RuleTreeModel" y_Mod_isToldRecord prog_13_method_52_code 5 (some Jvm.ClassFile.FieldType.boolean) 1 := ⟨wd_6_174, wd_6_173, ws_6_5, wd_1_15, by decide +kernel⟩
def y_Mod_someAt : MethodName := ⟨"RuleTreeModel", "someAt", "(II)I"⟩
def T_Mod_someAt : List zTr := [(0, .iconst (-1), 1, 0, (-1)), (1, .istore_n 3, 1, 0, 0), (2, .iconst 0, 1, 0, 0), (3, .istore 4, 2, 0, 0), (5, .iload 4, 2, 0, 0), (7, .aload_n 0, 1, 0, 0), (8, .getfield 56, 3, 0, 0), (11, .aload_n 0, 1, 0, 0), (12, .getfield 164, 3, 0, 0), (15, .iaload, 1, 0, 0), (16, .if_icmp .ge 49, 3, 65, 0), (19, .aload_n 0, 1, 0, 0), (20, .getfield 59, 3, 0, 0), (23, .iload 4, 2, 0, 0), (25, .iaload, 1, 0, 0), (26, .iload_n 1, 1, 0, 0), (27, .if_icmp .ne 30, 3, 57, 0), (30, .aload_n 0, 1, 0, 0), (31, .aload_n 0, 1, 0, 0), (32, .getfield 62, 3, 0, 0), (35, .iload 4, 2, 0, 0), (37, .iaload, 1, 0, 0), (38, .invokevirtual 191, 3, 0, 0), (41, .iload_n 2, 1, 0, 0), (42, .i2l, 1, 0, 0), (43, .lcmp, 1, 0, 0), (44, .ifCond .ne 13, 3, 57, 0), (47, .aload_n 0, 1, 0, 0), (48, .getfield 62, 3, 0, 0), (51, .iload 4, 2, 0, 0), (53, .iaload, 1, 0, 0), (54, .goto 4, 3, 58, 0), (57, .iload_n 3, 1, 0, 0), (58, .istore_n 3, 1, 0, 0), (59, .iinc 4 1, 3, 0, 1), (62, .goto (-57), 3, 5, 0), (65, .iload_n 3, 1, 0, 0), (66, .ireturn, 1, 0, 0)]
theorem tk_Mod_someAt : zTok prog_13_method_53_code 5 T_Mod_someAt := by decide +kernel
theorem yk_Mod_someAt : zY "RuleTreeModel" y_Mod_someAt prog_13_method_53_code 5 (some Jvm.ClassFile.FieldType.int) 2 := ⟨wd_6_170, wd_6_169, ws_6_4, wd_1_15, by decide +kernel⟩
def y_Mod_anyAt : MethodName := ⟨"RuleTreeModel", "anyAt", "(I)I"⟩
def T_Mod_anyAt : List zTr := [(0, .iconst (-1), 1, 0, (-1)), (1, .istore_n 2, 1, 0, 0), (2, .iconst 0, 1, 0, 0), (3, .istore_n 3, 1, 0, 0), (4, .iload_n 3, 1, 0, 0), (5, .aload_n 0, 1, 0, 0), (6, .getfield 56, 3, 0, 0), (9, .aload_n 0, 1, 0, 0), (10, .getfield 164, 3, 0, 0), (13, .iaload, 1, 0, 0), (14, .if_icmp .ge 30, 3, 44, 0), (17, .aload_n 0, 1, 0, 0), (18, .getfield 59, 3, 0, 0), (21, .iload_n 3, 1, 0, 0), (22, .iaload, 1, 0, 0), (23, .iload_n 1, 1, 0, 0), (24, .if_icmp .ne 12, 3, 36, 0), (27, .aload_n 0, 1, 0, 0), (28, .getfield 62, 3, 0, 0), (31, .iload_n 3, 1, 0, 0), (32, .iaload, 1, 0, 0), (33, .goto 4, 3, 37, 0), (36, .iload_n 2, 1, 0, 0), (37, .istore_n 2, 1, 0, 0), (38, .iinc 3 1, 3, 0, 1), (41, .goto (-37), 3, 4, 0), (44, .iload_n 2, 1, 0, 0), (45, .ireturn, 1, 0, 0)]
theorem tk_Mod_anyAt : zTok prog_13_method_54_code 4 T_Mod_anyAt := by decide +kernel
theorem yk_Mod_anyAt : zY "RuleTreeModel" y_Mod_anyAt prog_13_method_54_code 4 (some Jvm.ClassFile.FieldType.int) 1 := ⟨wd_6_166, wd_6_165, ws_6_3, wd_1_15, by decide +kernel⟩
def y_Mod_hasArgument : MethodName := ⟨"RuleTreeModel", "hasArgument", "(II)Z"⟩
def T_Mod_hasArgument : List zTr := [(0, .aload_n 0, 1, 0, 0), (1, .iload_n 1, 1, 0, 0), (2, .invokevirtual 282, 3, 0, 0), (5, .istore_n 3, 1, 0, 0), (6, .aload_n 0, 1, 0, 0), (7, .getfield 17, 3, 0, 0), (10, .iload_n 3, 1, 0, 0), (11, .baload, 1, 0, 0), (12, .iconst 2, 1, 0, 2), (13, .if_icmp .ne 34, 3, 47, 0), (16, .aload_n 0, 1, 0, 0), (17, .getfield 13, 3, 0, 0), (20, .aload_n 0, 1, 0, 0), (21, .getfield 21, 3, 0, 0), (24, .iload_n 3, 1, 0, 0), (25, .iaload, 1, 0, 0), (26, .laload, 1, 0, 0), (27, .aload_n 0, 1, 0, 0), (28, .getfield 109, 3, 0, 0), (31, .iload_n 2, 1, 0, 0), (32, .iaload, 1, 0, 0), (33, .lshr, 1, 0, 0), (34, .lconst 1, 1, 0, 0), (35, .land, 1, 0, 0), (36, .lconst 1, 1, 0, 0), (37, .lcmp, 1, 0, 0), (38, .ifCond .ne 7, 3, 45, 0), (41, .iconst 1, 1, 0, 1), (42, .goto 4, 3, 46, 0), (45, .iconst 0, 1, 0, 0), (46, .ireturn, 1, 0, 0), (47, .aload_n 0, 1, 0, 0), (48, .iload_n 1, 1, 0, 0), (49, .aload_n 0, 1, 0, 0), (50, .getfield 109, 3, 0, 0), (53, .iload_n 2, 1, 0, 0), (54, .iaload, 1, 0, 0), (55, .invokevirtual 285, 3, 0, 0), (58, .istore 4, 2, 0, 0), (60, .aload_n 0, 1, 0, 0), (61, .getfield 17, 3, 0, 0), (64, .iload_n 3, 1, 0, 0), (65, .baload, 1, 0, 0), (66, .iconst 3, 1, 0, 3), (67, .if_icmp .ne 22, 3, 89, 0), (70, .iload 4, 2, 0, 0), (72, .ifCond .lt 17, 3, 89, 0), (75, .aload_n 0, 1, 0, 0), (76, .getfield 27, 3, 0, 0), (79, .iload 4, 2, 0, 0), (81, .iaload, 1, 0, 0), (82, .ifCond .lt 7, 3, 89, 0), (85, .iconst 1, 1, 0, 1), (86, .goto 4, 3, 90, 0), (89, .iconst 0, 1, 0, 0), (90, .ireturn, 1, 0, 0)]
theorem tk_Mod_hasArgument : zTok prog_13_method_55_code 5 T_Mod_hasArgument := by decide +kernel
theorem yk_Mod_hasArgument : zY "RuleTreeModel" y_Mod_hasArgument prog_13_method_55_code 5 (some Jvm.ClassFile.FieldType.boolean) 2 := ⟨wd_6_162, wd_6_161, ws_6_2, wd_1_15, by decide +kernel⟩
def y_Mod_inside : MethodName := ⟨"RuleTreeModel", "inside", "(IJ)J"⟩
def T_Mod_inside : List zTr := [(0, .aload_n 0, 1, 0, 0), (1, .getfield 17, 3, 0, 0), (4, .iload_n 1, 1, 0, 0), (5, .baload, 1, 0, 0), (6, .iconst 2, 1, 0, 2), (7, .if_icmp .ne 9, 3, 16, 0), (10, .ldc2_w 288, 3, 0, 0), (13, .goto 6, 3, 19, 0), (16, .ldc2_w 290, 3, 0, 0), (19, .lload_n 2, 1, 0, 0), (20, .ladd, 1, 0, 0), (21, .lreturn, 1, 0, 0)]
theorem tk_Mod_inside : zTok prog_13_method_56_code 4 T_Mod_inside := by decide +kernel
theorem yk_Mod_inside : zY "RuleTreeModel" y_Mod_inside prog_13_method_56_code 4 (some Jvm.ClassFile.FieldType.long) 2 := ⟨wd_6_40, wd_6_39, ws_4_13, wd_1_15, by decide +kernel⟩
def y_Mod_childOf : MethodName := ⟨"RuleTreeModel", "childOf", "(IJ)I"⟩
def T_Mod_childOf : List zTr := [(0, .aload_n 0, 1, 0, 0), (1, .getfield 78, 3, 0, 0), (4, .iload_n 1, 1, 0, 0), (5, .iaload, 1, 0, 0), (6, .istore 4, 2, 0, 0), (8, .iload 4, 2, 0, 0), (10, .ifCond .lt 27, 3, 37, 0), (13, .aload_n 0, 1, 0, 0), (14, .getfield 75, 3, 0, 0), (17, .iload 4, 2, 0, 0), (19, .laload, 1, 0, 0), (20, .lload_n 2, 1, 0, 0), (21, .lcmp, 1, 0, 0), (22, .ifCond .eq 15, 3, 37, 0), (25, .aload_n 0, 1, 0, 0), (26, .getfield 81, 3, 0, 0), (29, .iload 4, 2, 0, 0), (31, .iaload, 1, 0, 0), (32, .istore 4, 2, 0, 0), (34, .goto (-26), 3, 8, 0), (37, .iload 4, 2, 0, 0), (39, .ireturn, 1, 0, 0)]
theorem tk_Mod_childOf : zTok prog_13_method_57_code 5 T_Mod_childOf := by decide +kernel
theorem yk_Mod_childOf : zY "RuleTreeModel" y_Mod_childOf prog_13_method_57_code 5 (some Jvm.ClassFile.FieldType.int) 2 := ⟨wd_6_32, wd_6_31, ws_4_11, wd_1_15, by decide +kernel⟩
def y_Mod_missing : MethodName := ⟨"RuleTreeModel", "missing", "(JI)I"⟩
def T_Mod_missing : List zTr := [(0, .aload_n 0, 1, 0, 0), (1, .getfield 180, 3, 0, 0), (4, .ifCond .eq 19, 3, 23, 0), (7, .aload_n 0, 1, 0, 0), (8, .getfield 230, 3, 0, 0), (11, .ifCond .lt 12, 3, 23, 0), (14, .iload_n 3, 1, 0, 0), (15, .ifCond .lt 8, 3, 23, 0), (18, .iload_n 3, 1, 0, 0), (19, .iconst 1, 1, 0, 1), (20, .if_icmp .le 5, 3, 25, 0), (23, .iconst (-1), 1, 0, (-1)), (24, .ireturn, 1, 0, 0), (25, .iconst 0, 1, 0, 0), (26, .istore 4, 2, 0, 0), (28, .lload_n 1, 1, 0, 0), (29, .lstore 5, 2, 0, 0), (31, .iload 4, 2, 0, 0), (33, .iconst (-1), 1, 0, (-1)), (34, .if_icmp .eq 182, 3, 216, 0), (37, .lload 5, 2, 0, 0), (39, .ldc2_w 292, 3, 0, 0), (42, .land, 1, 0, 0), (43, .lconst 0, 1, 0, 0), (44, .lcmp, 1, 0, 0), (45, .ifCond .eq 171, 3, 216, 0), (48, .lload 5, 2, 0, 0), (50, .ldc2_w 292, 3, 0, 0), (53, .land, 1, 0, 0), (54, .l2i, 1, 0, 0), (55, .istore 7, 2, 0, 0), (57, .iload 4, 2, 0, 0), (59, .ifCond .ge 7, 3, 66, 0), (62, .iconst (-1), 1, 0, (-1)), (63, .goto 9, 3, 72, 0), (66, .aload_n 0, 1, 0, 0), (67, .iload 4, 2, 0, 0), (69, .invokevirtual 279, 3, 0, 0), (72, .istore 8, 2, 0, 0), (74, .iload 8, 2, 0, 0), (76, .ifCond .lt 28, 3, 104, 0), (79, .iload 7, 2, 0, 0), (81, .iconst 1, 1, 0, 1), (82, .if_icmp .ne 18, 3, 100, 0), (85, .aload_n 0, 1, 0, 0), (86, .iload 4, 2, 0, 0), (88, .iload 8, 2, 0, 0), (90, .invokevirtual 294, 3, 0, 0), (93, .ifCond .eq 7, 3, 100, 0), (96, .iconst 1, 1, 0, 1), (97, .goto 38, 3, 135, 0), (100, .iconst 0, 1, 0, 0), (101, .goto 34, 3, 135, 0), (104, .iload 4, 2, 0, 0), (106, .ifCond .lt 28, 3, 134, 0), (109, .aload_n 0, 1, 0, 0), (110, .iload 4, 2, 0, 0), (112, .invokevirtual 297, 3, 0, 0), (115, .ifCond .eq 19, 3, 134, 0), (118, .iload 7, 2, 0, 0), (120, .aload_n 0, 1, 0, 0), (121, .getfield 84, 3, 0, 0), (124, .iload 4, 2, 0, 0), (126, .iaload, 1, 0, 0), (127, .if_icmp .gt 7, 3, 134, 0), (130, .iconst 1, 1, 0, 1), (131, .goto 4, 3, 135, 0), (134, .iconst 0, 1, 0, 0), (135, .istore 9, 2, 0, 0), (137, .iload 9, 2, 0, 0), (139, .ifCond .eq 41, 3, 180, 0), (142, .aload_n 0, 1, 0, 0), (143, .iload 4, 2, 0, 0), (145, .iload 8, 2, 0, 0), (147, .ifCond .lt 24, 3, 171, 0), (150, .aload_n 0, 1, 0, 0), (151, .aload_n 0, 1, 0, 0), (152, .iload 4, 2, 0, 0), (154, .invokevirtual 282, 3, 0, 0), (157, .aload_n 0, 1, 0, 0), (158, .getfield 109, 3, 0, 0), (161, .iload 8, 2, 0, 0), (163, .iaload, 1, 0, 0), (164, .i2l, 1, 0, 0), (165, .invokevirtual 195, 3, 0, 0), (168, .goto 6, 3, 174, 0), (171, .iload 7, 2, 0, 0), (173, .i2l, 1, 0, 0), (174, .invokevirtual 173, 3, 0, 0), (177, .goto 4, 3, 181, 0), (180, .iconst (-1), 1, 0, (-1)), (181, .istore 10, 2, 0, 0), (183, .iload 9, 2, 0, 0), (185, .ifCond .ne 7, 3, 192, 0), (188, .iconst (-1), 1, 0, (-1)), (189, .goto 15, 3, 204, 0), (192, .iload 10, 2, 0, 0), (194, .ifCond .ge 8, 3, 202, 0), (197, .bipush (-2), 2, 0, (-2)), (199, .goto 5, 3, 204, 0), (202, .iload 10, 2, 0, 0), (204, .istore 4, 2, 0, 0), (206, .lload 5, 2, 0, 0), (208, .bipush 8, 2, 0, 8), (210, .lushr, 1, 0, 0), (211, .lstore 5, 2, 0, 0), (213, .goto (-182), 3, 31, 0), (216, .iload 4, 2, 0, 0), (218, .iconst (-1), 1, 0, (-1)), (219, .if_icmp .ne 5, 3, 224, 0), (222, .iconst (-1), 1, 0, (-1)), (223, .ireturn, 1, 0, 0), (224, .iload 4, 2, 0, 0), (226, .ifCond .ge 7, 3, 233, 0), (229, .iconst (-1), 1, 0, (-1)), (230, .goto 9, 3, 239, 0), (233, .aload_n 0, 1, 0, 0), (234, .iload 4, 2, 0, 0), (236, .invokevirtual 279, 3, 0, 0), (239, .istore 5, 2, 0, 0), (241, .iload 5, 2, 0, 0), (243, .ifCond .lt 29, 3, 272, 0), (246, .iload_n 3, 1, 0, 0), (247, .ifCond .ne 17, 3, 264, 0), (250, .aload_n 0, 1, 0, 0), (251, .getfield 17, 3, 0, 0), (254, .aload_n 0, 1, 0, 0), (255, .iload 4, 2, 0, 0), (257, .invokevirtual 282, 3, 0, 0), (260, .baload, 1, 0, 0), (261, .goto 10, 3, 271, 0), (264, .aload_n 0, 1, 0, 0), (265, .getfield 109, 3, 0, 0), (268, .iload 5, 2, 0, 0), (270, .iaload, 1, 0, 0), (271, .ireturn, 1, 0, 0), (272, .iload_n 3, 1, 0, 0), (273, .iconst 1, 1, 0, 1), (274, .if_icmp .ne 7, 3, 281, 0), (277, .iconst (-1), 1, 0, (-1)), (278, .goto 22, 3, 300, 0), (281, .iload 4, 2, 0, 0), (283, .ifCond .lt 16, 3, 299, 0), (286, .aload_n 0, 1, 0, 0), (287, .iload 4, 2, 0, 0), (289, .invokevirtual 297, 3, 0, 0), (292, .ifCond .eq 7, 3, 299, 0), (295, .iconst 4, 1, 0, 4), (296, .goto 4, 3, 300, 0), (299, .iconst 0, 1, 0, 0), (300, .ireturn, 1, 0, 0)]
theorem tk_Mod_missing : zTok prog_13_method_58_code 11 T_Mod_missing := by decide +kernel
theorem yk_Mod_missing : zY "RuleTreeModel" y_Mod_missing prog_13_method_58_code 11 (some Jvm.ClassFile.FieldType.int) 2 := ⟨wd_6_153, wd_6_151, wd_6_152, wd_1_15, by decide +kernel⟩
def y_Mod_count : MethodName := ⟨"RuleTreeModel", "count", "(I)I"⟩
def T_Mod_count : List zTr := [(0, .iload_n 1, 1, 0, 0), (1, .ifCond .ne 10, 3, 11, 0), (4, .aload_n 0, 1, 0, 0), (5, .getfield 120, 3, 0, 0), (8, .goto 63, 3, 71, 0), (11, .iload_n 1, 1, 0, 0), (12, .iconst 1, 1, 0, 1), (13, .if_icmp .ne 10, 3, 23, 0), (16, .aload_n 0, 1, 0, 0), (17, .getfield 123, 3, 0, 0), (20, .goto 51, 3, 71, 0), (23, .iload_n 1, 1, 0, 0), (24, .iconst 2, 1, 0, 2), (25, .if_icmp .ne 10, 3, 35, 0), (28, .aload_n 0, 1, 0, 0), (29, .getfield 134, 3, 0, 0), (32, .goto 39, 3, 71, 0), (35, .iload_n 1, 1, 0, 0), (36, .iconst 3, 1, 0, 3), (37, .if_icmp .ne 10, 3, 47, 0), (40, .aload_n 0, 1, 0, 0), (41, .getfield 164, 3, 0, 0), (44, .goto 27, 3, 71, 0), (47, .iload_n 1, 1, 0, 0), (48, .iconst 4, 1, 0, 4), (49, .if_icmp .ne 21, 3, 70, 0), (52, .aload_n 0, 1, 0, 0), (53, .getfield 180, 3, 0, 0), (56, .ifCond .eq 10, 3, 66, 0), (59, .aload_n 0, 1, 0, 0), (60, .getfield 236, 3, 0, 0), (63, .goto 8, 3, 71, 0), (66, .iconst 0, 1, 0, 0), (67, .goto 4, 3, 71, 0), (70, .iconst (-1), 1, 0, (-1)), (71, .ireturn, 1, 0, 0)]
theorem tk_Mod_count : zTok prog_13_method_59_code 2 T_Mod_count := by decide +kernel
theorem yk_Mod_count : zY "RuleTreeModel" y_Mod_count prog_13_method_59_code 2 (some Jvm.ClassFile.FieldType.int) 1 := ⟨wd_6_178, wd_6_176, wd_6_177, wd_1_15, by decide +kernel⟩
end
section
-- THE CLASS'S STATE: 43 rows (lists), how often each has grown, 5 numbers, the families' bits
abbrev zS : Type := (Nat → List Int32) × (Nat → Nat) × (Nat → Int32) × (Nat → Int64)
def zcap (S : zS) (k : Nat) : Nat := 16 * 2 ^ S.2.1 k
abbrev zcl : List vw_C := [(R_Row, F_Row, 2), (R_Tre, F_Tre, 12), (R_Fam, F_Fam, 2), (R_Pat, F_Pat, 9), (R_Psh, F_Psh, 2), (R_Pai, F_Pai, 2), (R_Par, F_Par, 15), (R_Nod, F_Nod, 10), (R_Grw, F_Grw, 5), (R_Wlk, F_Wlk, 6), (R_Gap, F_Gap, 6), (R_Mod, F_Mod, 46)]
abbrev ztys (cA : Nat → ClassId) : List (ClassId × FieldType) := [(cA 0, .int), (cA 1, .long), (cA 2, .byte), (cA 3, .short), (cA 4, .boolean)]
def zobj (G : Nat → Nat) (S : zS) : Nat → List Value
  | 0 => [.ref (G 1), .ref (G 2), .ref (G 3), .ref (G 4), .ref (G 23), .ref (G 5), .ref (G 6), .ref (G 7), .ref (G 8), .ref (G 9), .int (S.2.2.1 0), .int (S.2.2.1 1)]
  | 1 => [.ref (G 11), .ref (G 10)]
  | 2 => [.ref (G 12), .ref (G 13), .ref (G 14), .ref (G 15), .ref (G 16), .ref (G 17), .ref (G 18), .ref (G 19), .ref (G 20)]
  | 3 => [.ref (G 21), .int (S.2.2.1 2)]
  | 4 => [.ref (G 2), .ref (G 22)]
  | 5 => [.ref (G 2), .ref (G 24), .ref (G 25), .ref (G 26), .ref (G 27), .ref (G 28), .ref (G 29), .ref (G 30), .ref (G 31), .ref (G 32), .ref (G 33), .ref (G 34), .ref (G 35), .ref (G 36), .ref (G 37)]
  | 6 => [.ref (G 38), .ref (G 39), .ref (G 40), .ref (G 41), .ref (G 42), .ref (G 43), .ref (G 44), .ref (G 45), .ref (G 46), .ref (G 47)]
  | 7 => [.ref (G 1), .ref (G 5), .ref (G 6), .ref (G 48), .ref (G 49)]
  | 8 => [.ref (G 2), .ref (G 5), .ref (G 6), .ref (G 50), .ref (G 51), .int (S.2.2.1 3)]
  | _ => [.ref (G 1), .ref (G 5), .ref (G 6), .ref (G 52), .ref (G 53), .int (S.2.2.1 4)]
def zad (G aa : Nat → Nat) (i : Nat) : Nat := if i < 54 then G i else aa (i - 54)
def zct (cA : Nat → ClassId) (G aa : Nat → Nat) (f : Nat → Nat → Int32) (S : zS) (i : Nat) : va_E :=
  if i < 10 then .inr (i + 1, zobj G S i) else if i = 10 then .inl (cA 1, 1024, .inr (.inl S.2.2.2)) else if i < 54 then .inr (0, [.ref (aa (i - 11)), .int (nI (S.1 (i - 11)).length)]) else .inl (cA 0, zcap S (i - 54), .inl (f (i - 54)))
def zws (n : Nat) (ad : Nat → Nat) (ct : Nat → va_E) : va_W := (List.range n).map (fun i => (ad i, ct i))
theorem zws_at {n : Nat} {ad : Nat → Nat} {ct : Nat → va_E} {i : Nat} (h : i < n) : (zws n ad ct)[i]? = some (ad i, ct i) := by simp [zws, h]
theorem zws_at' {n : Nat} {ad : Nat → Nat} {ct : Nat → va_E} {i : Nat} {q : Nat × va_E} (h : (zws n ad ct)[i]? = some q) : i < n ∧ q = (ad i, ct i) := by
  have hi : i < n := by
    have := (List.getElem?_eq_some_iff.mp h).1
    simpa [zws] using this
  rw [zws_at hi] at h
  exact ⟨hi, (Option.some.inj h).symm⟩
theorem zws_P {D : va_G} {cl : List vw_C} {n : Nat} {ad : Nat → Nat} {ct : Nat → va_E} {H : Heap} (h : ∀ i, i < n → va_at D cl (ad i, ct i) H) : va_P D cl (zws n ad ct) H := fun k q hk => by
  obtain ⟨h1, rfl⟩ := zws_at' hk
  exact h k h1
theorem zws_Pi {D : va_G} {cl : List vw_C} {n : Nat} {ad : Nat → Nat} {ct : Nat → va_E} {H : Heap} (h : va_P D cl (zws n ad ct) H) {i : Nat} (hi : i < n) : va_at D cl (ad i, ct i) H := h i _ (zws_at hi)
theorem zws_D {A : Nat → Prop} {n : Nat} {ad : Nat → Nat} {ct : Nat → va_E} (hj : ∀ i j, i < n → j < n → ad i = ad j → i = j) (hA : ∀ i, i < n → A (ad i)) : va_D A (zws n ad ct) := by
  refine ⟨fun i j p q hp hq e => ?_, fun k q hk => ?_⟩
  · obtain ⟨h1, rfl⟩ := zws_at' hp
    obtain ⟨h2, rfl⟩ := zws_at' hq
    exact hj i j h1 h2 e
  · obtain ⟨h1, rfl⟩ := zws_at' hk
    exact hA k h1
theorem zws_set {n : Nat} {ad : Nat → Nat} {ct : Nat → va_E} {q : Nat} {e : va_E} : (zws n ad ct).set q (ad q, e) = zws n ad (va_up ct q e) := by
  apply List.ext_getElem?
  intro i
  by_cases hi : i < n
  · rw [zws_at hi]
    by_cases hq : q = i
    · subst hq
      rw [List.getElem?_set_self (by simpa [zws] using hi)]
      simp [va_up]
    · rw [List.getElem?_set_ne hq, zws_at hi]
      simp [va_up, Ne.symm hq]
  · rw [List.getElem?_eq_none (by simp [zws]; omega), List.getElem?_eq_none (by simp [zws]; omega)]
/-- the heap holds the class's state -/
def zRep (D : va_G) (cA : Nat → ClassId) (G : Nat → Nat) (A : Nat → Prop) (S : zS) (H : Heap) : Prop := ∃ (aa : Nat → Nat) (f : Nat → Nat → Int32),
  (∀ i, i < 97 → va_at D zcl (zad G aa i, zct cA G aa f S i) H) ∧ (∀ i j, i < 97 → j < 97 → zad G aa i = zad G aa j → i = j) ∧ (∀ i, i < 97 → A (zad G aa i)) ∧ ∀ k, k < 43 → (S.1 k).length ≤ zcap S k ∧ zcap S k ≤ 4194304 ∧ ∀ i, i < (S.1 k).length → f k i = (S.1 k).getD i 0
-- what has been made: cells, slots
def zsum (h : Nat → Nat) : Nat → Nat
  | 0 => 0
  | n + 1 => zsum h n + h n
def zfc (S : zS) : Nat := zsum S.2.1 43
def zfs (S : zS) : Nat := zsum (fun k => 2 * zcap S k) 43
theorem zsum_up {h : Nat → Nat} {k x : Nat} : ∀ {n : Nat}, k < n → zsum (va_up h k x) n + h k = zsum h n + x := by
  intro n
  induction n with
  | zero => intro hk; omega
  | succ n ih =>
    intro hk
    have out : ∀ m, m ≤ k → zsum (va_up h k x) m = zsum h m := by
      intro m
      induction m with
      | zero => intro _; rfl
      | succ m ihm =>
        intro hm
        show zsum (va_up h k x) m + va_up h k x m = zsum h m + h m
        rw [ihm (by omega)]
        simp [va_up, show m ≠ k by omega]
    show zsum (va_up h k x) n + va_up h k x n + h k = zsum h n + h n + x
    by_cases e : k = n
    · subst e
      rw [out k (Nat.le_refl _)]
      simp [va_up]
      omega
    · have := ih (by omega)
      simp [va_up, show n ≠ k by omega] at this ⊢
      omega
theorem zsum_congr {h g : Nat → Nat} : ∀ {n : Nat}, (∀ i, i < n → h i = g i) → zsum h n = zsum g n := by
  intro n
  induction n with
  | zero => intro _; rfl
  | succ n ih => intro e; show zsum h n + h n = zsum g n + g n; rw [ih (fun i hi => e i (by omega)), e n (by omega)]
-- the row's methods, as functions
def r_size (S : zS) (k : Nat) : Int32 := nI (S.1 k).length
def r_at (S : zS) (k : Nat) (i : Int32) : Int32 := if i < 0 then -1 else if nI (S.1 k).length ≤ i then -1 else (S.1 k).getD i.toNatClampNeg 0
def z_row (S : zS) (k : Nat) (x : List Int32) : zS := (va_up S.1 k x, S.2)
def z_sc (S : zS) (k : Nat) (x : Int32) : zS := (S.1, S.2.1, va_up S.2.2.1 k x, S.2.2.2)
def z_lg (S : zS) (k : Nat) (x : Int64) : zS := (S.1, S.2.1, S.2.2.1, va_up S.2.2.2 k x)
def z_grow (S : zS) (k : Nat) : zS := (S.1, va_up S.2.1 k (S.2.1 k + 1), S.2.2)
def r_set (S : zS) (k : Nat) (i v : Int32) : zS := if i < 0 then S else if nI (S.1 k).length ≤ i then S else z_row S k ((S.1 k).set i.toNatClampNeg v)
def r_more (S : zS) (k : Nat) : zS := if (S.1 k).length < zcap S k then S else if 2097152 < zcap S k then S else z_grow S k
def r_add (S : zS) (k : Nat) (v : Int32) : zS × Int32 := if ((r_more S k).1 k).length < zcap (r_more S k) k then (z_row (r_more S k) k (S.1 k ++ [v]), nI (S.1 k).length) else (r_more S k, -1)
def r_take (S : zS) (k : Nat) : zS × Int32 := if 0 < (S.1 k).length then (z_row S k (S.1 k).dropLast, (S.1 k).getLastD 0) else (S, -1)
def r_emp (S : zS) (k : Nat) : zS := z_row S k []
def z_fl (S : zS) (k : Nat) (v : Int32) : Nat → zS
  | 0 => r_emp S k
  | j + 1 => (r_add (z_fl S k v j) k v).1
def r_fill (S : zS) (k : Nat) (n v : Int32) : zS := z_fl S k v n.toInt.toNat
def z_max (x y : Int32) : Int32 := if x < y then y else x
end
section
-- THE ROW'S INSTRUCTIONS over the class's world
theorem zP1 {D : va_G} {cl : List vw_C} {q : Nat × va_E} {H : Heap} (h : va_at D cl q H) : va_P D cl [q] H := fun k q' hk => by
  cases k with
  | zero => cases hk; exact h
  | succ k => simp at hk
section ZROW
variable {cA : Nat → ClassId} {G aa : Nat → Nat} {f : Nat → Nat → Int32} {S : zS} {k i : Nat}
theorem zct_obj (h : i < 10) : zct cA G aa f S i = .inr (i + 1, zobj G S i) := by unfold zct; rw [if_pos h]
theorem zct_la : zct cA G aa f S 10 = .inl (cA 1, 1024, .inr (.inl S.2.2.2)) := by unfold zct; rw [if_neg (by omega), if_pos rfl]
theorem zct_row (hk : k < 43) : zct cA G aa f S (11 + k) = .inr (0, [.ref (aa k), .int (nI (S.1 k).length)]) := by
  unfold zct
  rw [if_neg (by omega), if_neg (by omega), if_pos (by omega), show 11 + k - 11 = k by omega]
theorem zct_arr : zct cA G aa f S (54 + k) = .inl (cA 0, zcap S k, .inl (f k)) := by
  unfold zct
  rw [if_neg (by omega), if_neg (by omega), if_neg (by omega), show 54 + k - 54 = k by omega]
theorem zad_lo (h : i < 54) : zad G aa i = G i := if_pos h
theorem zad_arr : zad G aa (54 + k) = aa k := by unfold zad; rw [if_neg (by omega), show 54 + k - 54 = k by omega]
variable {p : Program} {l : Launch} {e : Env} {R : Room} {s : State} {m : MethodId} {args : Array Value} {below : List Frame} {meth : Method} {c : Code} {nL : Nat} {A : Nat → Prop} {cc : ByteArray} {T : List zTr} {own : String} {ret : Option FieldType} {D : va_G} {pc : Nat} {lv : zLv} {st rest : List Value} {E : zS × Option Value}
abbrev zSW (p : Program) (l : Launch) (e : Env) (R : Room) (s : State) (m : MethodId) (args : Array Value) (below : List Frame) (meth : Method) (c : Code) (nL : Nat) (A : Nat → Prop) (D : va_G) (cA : Nat → ClassId) (G : Nat → Nat) (S : zS) (pc : Nat) (lv : zLv) (st : List Value) (E : zS × Option Value) : Prop := SW p l e R s m args below meth c nL A (zRep D cA G A) zfc zfs S pc lv st E
abbrev zSO (p : Program) (l : Launch) (e : Env) (R : Room) (s : State) (m : MethodId) (args : Array Value) (below : List Frame) (meth : Method) (c : Code) (nL : Nat) (A : Nat → Prop) (D : va_G) (cA : Nat → ClassId) (G : Nat → Nat) (S : zS) (pc : Nat) (lv : zLv) (st : List Value) {ρ : Type} (F : ρ → zS × Option Value) (x : Option ρ) : Prop := SO p l e R s m args below meth c nL A (zRep D cA G A) zfc zfs S pc lv st F x
/-- an object's field is read -/
theorem sw_getf (C0 : zC p s m args meth c cc nL own zwl T ret) (hK : va_K D zcl (ztys cA) s) {o j idx tgt N : Nat} {v0 : Int32} {v : Value} {Cn : String} {Tf : u_T} (ho : o < 10) (hc : zcl[o + 1]? = some (Cn, Tf, N)) (hin : ∀ w ∈ u_ws Cn Tf N, w ∈ zwl) (hj : j < N) (hl : Cond.fieldLink own idx (Tf j).1 (Tf j).2.1 (Tf j).2.2.1 ∈ zwl) (hv : (zobj G S o)[j]? = some v) (hq : T.lookup pc = some (.getfield idx, 3, tgt, v0))
    (kk : zSW p l e R s m args below meth c nL A D cA G S (pc + 3) lv (v :: rest) E) : zSW p l e R s m args below meth c nL A D cA G S pc lv (.ref (G o) :: rest) E := by
  obtain ⟨hx, hb, hml, hown, hts, hT, hr, hlocks⟩ := C0
  refine ⟨kk.1, kk.2.1, fun H locs cells slots ls h1 h2 h3 h4 h5 => ?_⟩
  obtain ⟨aa, f, hP, hrest⟩ := id h1
  have hw := hP o (by omega)
  rw [zct_obj ho, zad_lo (by omega)] at hw
  exact va_get (D := D) (cl := zcl) (tys := ztys cA) (ws := [(G o, .inr (o + 1, zobj G S o))]) (ci := o + 1) hx hb hts hin hown hK (zP1 hw) 0 rfl hc j hj (hts _ hl) (fun _ h => h) hv (hT.dec hq) (kk.2.2 H locs cells slots ls h1 h2 h3 h4 h5)
theorem so_getf {ρ : Type} {F : ρ → zS × Option Value} {x : Option ρ} (C0 : zC p s m args meth c cc nL own zwl T ret) (hK : va_K D zcl (ztys cA) s) {o j idx tgt N : Nat} {v0 : Int32} {v : Value} {Cn : String} {Tf : u_T} (ho : o < 10) (hc : zcl[o + 1]? = some (Cn, Tf, N)) (hin : ∀ w ∈ u_ws Cn Tf N, w ∈ zwl) (hj : j < N) (hl : Cond.fieldLink own idx (Tf j).1 (Tf j).2.1 (Tf j).2.2.1 ∈ zwl) (hv : (zobj G S o)[j]? = some v) (hq : T.lookup pc = some (.getfield idx, 3, tgt, v0))
    (kk : zSO p l e R s m args below meth c nL A D cA G S (pc + 3) lv (v :: rest) F x) : zSO p l e R s m args below meth c nL A D cA G S pc lv (.ref (G o) :: rest) F x := fun r hr => sw_getf C0 hK ho hc hin hj hl hv hq (kk r hr)
/-- the row's size is read -/
theorem sw_rsz (C0 : zC p s m args meth c cc nL own zwl T ret) (hK : va_K D zcl (ztys cA) s) {idx tgt : Nat} {v0 : Int32} (hk : k < 43) (hl : Cond.fieldLink own idx (F_Row 1).1 (F_Row 1).2.1 (F_Row 1).2.2.1 ∈ zwl) (hq : T.lookup pc = some (.getfield idx, 3, tgt, v0))
    (kk : zSW p l e R s m args below meth c nL A D cA G S (pc + 3) lv (.int (nI (S.1 k).length) :: rest) E) : zSW p l e R s m args below meth c nL A D cA G S pc lv (.ref (G (11 + k)) :: rest) E := by
  obtain ⟨hx, hb, hml, hown, hts, hT, hr, hlocks⟩ := C0
  refine ⟨kk.1, kk.2.1, fun H locs cells slots ls h1 h2 h3 h4 h5 => ?_⟩
  obtain ⟨aa, f, hP, hrest⟩ := id h1
  have hw := hP (11 + k) (by omega)
  rw [zct_row hk, zad_lo (by omega)] at hw
  exact va_get (D := D) (cl := zcl) (tys := ztys cA) (ws := [(G (11 + k), .inr (0, [.ref (aa k), .int (nI (S.1 k).length)]))]) (ci := 0) hx hb hts i_Row hown hK (zP1 hw) 0 rfl rfl 1 (by decide) (hts _ hl) (fun _ h => h) rfl (hT.dec hq) (kk.2.2 H locs cells slots ls h1 h2 h3 h4 h5)
/-- the array's length is read: getfield cells, arraylength -/
theorem sw_rlen (C0 : zC p s m args meth c cc nL own zwl T ret) (hK : va_K D zcl (ztys cA) s) {idx tgt tgt2 : Nat} {v0 v2 : Int32} (hk : k < 43) (hl : Cond.fieldLink own idx (F_Row 0).1 (F_Row 0).2.1 (F_Row 0).2.2.1 ∈ zwl) (hq : T.lookup pc = some (.getfield idx, 3, tgt, v0)) (hq2 : T.lookup (pc + 3) = some (.arraylength, 1, tgt2, v2))
    (kk : zSW p l e R s m args below meth c nL A D cA G S (pc + 3 + 1) lv (.int (nI (zcap S k)) :: rest) E) : zSW p l e R s m args below meth c nL A D cA G S pc lv (.ref (G (11 + k)) :: rest) E := by
  obtain ⟨hx, hb, hml, hown, hts, hT, hr, hlocks⟩ := C0
  refine ⟨kk.1, kk.2.1, fun H locs cells slots ls h1 h2 h3 h4 h5 => ?_⟩
  obtain ⟨aa, f, hP, hrest⟩ := id h1
  have hw := hP (11 + k) (by omega)
  rw [zct_row hk, zad_lo (by omega)] at hw
  have hw2 := hP (54 + k) (by omega)
  rw [zct_arr, zad_arr] at hw2
  refine va_get (D := D) (cl := zcl) (tys := ztys cA) (ws := [(G (11 + k), .inr (0, [.ref (aa k), .int (nI (S.1 k).length)]))]) (ci := 0) hx hb hts i_Row hown hK (zP1 hw) 0 rfl rfl 0 (by decide) (hts _ hl) (fun _ h => h) rfl (hT.dec hq) ?_
  exact va_alen (D := D) (cl := zcl) (tys := ztys cA) (ws := [(aa k, .inl (cA 0, zcap S k, .inl (f k)))]) hx hb hK (zP1 hw2) 0 0 rfl rfl rfl (hT.dec hq2) (kk.2.2 H locs cells slots ls h1 h2 h3 h4 h5)
/-- an element is read: getfield cells, iload_1, iaload -/
theorem sw_rrd (C0 : zC p s m args meth c cc nL own zwl T ret) (hK : va_K D zcl (ztys cA) s) {idx tgt tgt2 tgt3 j : Nat} {v0 v2 v3 : Int32} (hk : k < 43) (hl : Cond.fieldLink own idx (F_Row 0).1 (F_Row 0).2.1 (F_Row 0).2.2.1 ∈ zwl) (hq : T.lookup pc = some (.getfield idx, 3, tgt, v0)) (hq2 : T.lookup (pc + 3) = some (.iload_n 1, 1, tgt2, v2)) (hq3 : T.lookup (pc + 3 + 1) = some (.iaload, 1, tgt3, v3)) (hlv : lv.lookup 1 = some (.int (nI j))) (hj : j < (S.1 k).length)
    (kk : zSW p l e R s m args below meth c nL A D cA G S (pc + 3 + 1 + 1) lv (.int ((S.1 k).getD j 0) :: rest) E) : zSW p l e R s m args below meth c nL A D cA G S pc lv (.ref (G (11 + k)) :: rest) E := by
  obtain ⟨hx, hb, hml, hown, hts, hT, hr, hlocks⟩ := C0
  refine ⟨kk.1, kk.2.1, fun H locs cells slots ls h1 h2 h3 h4 h5 => ?_⟩
  obtain ⟨aa, f, hP, hrest⟩ := id h1
  obtain ⟨g1, g2, g3⟩ := hrest.2.2 k hk
  have hw := hP (11 + k) (by omega)
  rw [zct_row hk, zad_lo (by omega)] at hw
  have hw2 := hP (54 + k) (by omega)
  rw [zct_arr, zad_arr] at hw2
  refine va_get (D := D) (cl := zcl) (tys := ztys cA) (ws := [(G (11 + k), .inr (0, [.ref (aa k), .int (nI (S.1 k).length)]))]) (ci := 0) hx hb hts i_Row hown hK (zP1 hw) 0 rfl rfl 0 (by decide) (hts _ hl) (fun _ h => h) rfl (hT.dec hq) ?_
  refine lv_iload_n hx hb (hT.dec hq2) rfl (zh_at h5 hlv) ?_
  refine va_iald (D := D) (cl := zcl) (tys := ztys cA) (ws := [(aa k, .inl (cA 0, zcap S k, .inl (f k)))]) hx hb hK (zP1 hw2) 0 0 rfl rfl (vp_in_nI (by omega) (by omega)) (hT.dec hq3) ?_
  rw [nI_clamp (by omega), g3 j hj]
  exact kk.2.2 H locs cells slots ls h1 h2 h3 h4 h5
/-- the world behind a change of one row's cells: others stay -/
theorem zRep_mk {aa' : Nat → Nat} {f' : Nat → Nat → Int32} {S' : zS} {H : Heap} (hP : va_P D zcl (zws 97 (zad G aa') (zct cA G aa' f' S')) H) (hD : va_D A (zws 97 (zad G aa') (zct cA G aa' f' S'))) (hr : ∀ k, k < 43 → (S'.1 k).length ≤ zcap S' k ∧ zcap S' k ≤ 4194304 ∧ ∀ i, i < (S'.1 k).length → f' k i = (S'.1 k).getD i 0) : zRep D cA G A S' H :=
  ⟨aa', f', fun i hi => zws_Pi hP hi, fun i j hi hj e => hD.1 i j _ _ (zws_at hi) (zws_at hj) e, fun i hi => hD.2 i _ (zws_at hi), hr⟩
theorem zws_congr {n : Nat} {ad ad' : Nat → Nat} {ct ct' : Nat → va_E} (h1 : ∀ i, i < n → ad i = ad' i) (h2 : ∀ i, i < n → ct i = ct' i) : zws n ad ct = zws n ad' ct' := by
  apply List.ext_getElem?
  intro i
  by_cases hi : i < n
  · rw [zws_at hi, zws_at hi, h1 i hi, h2 i hi]
  · rw [List.getElem?_eq_none (by simp [zws]; omega), List.getElem?_eq_none (by simp [zws]; omega)]
/-- another content of row k's array, another list for it: only those two cells differ -/
theorem zct_upA {S' : zS} {g : Nat → Int32} (h1 : ∀ o, o < 10 → zobj G S' o = zobj G S o) (h2 : S'.2.2.2 = S.2.2.2) (h3 : ∀ j, (S'.1 j).length = (S.1 j).length) (h4 : S'.2.1 = S.2.1) : ∀ i, i < 97 → va_up (zct cA G aa f S) (54 + k) (.inl (cA 0, zcap S k, .inl g)) i = zct cA G aa (va_up f k g) S' i := by
  intro i hi
  have e : ∀ j, zcap S' j = zcap S j := fun j => by unfold zcap; rw [h4]
  by_cases hk : i = 54 + k
  · subst hk
    rw [zct_arr, e]
    simp [va_up]
  · simp only [va_up, hk, if_false]
    unfold zct
    by_cases a : i < 10
    · rw [if_pos a, if_pos a, h1 i a]
    · rw [if_neg a, if_neg a]
      by_cases b : i = 10
      · rw [if_pos b, if_pos b, h2]
      · rw [if_neg b, if_neg b]
        by_cases d : i < 54
        · rw [if_pos d, if_pos d, h3]
        · rw [if_neg d, if_neg d, e]
          have : ¬ i - 54 = k := by omega
          simp [va_up, this]
theorem zct_upR {x : List Int32} (hk : k < 43) : ∀ i, i < 97 → va_up (zct cA G aa f S) (11 + k) (.inr (0, [.ref (aa k), .int (nI x.length)])) i = zct cA G aa f (z_row S k x) i := by
  intro i hi
  by_cases h : i = 11 + k
  · subst h
    rw [zct_row hk]
    simp [va_up, z_row]
  · simp only [va_up, h, if_false]
    unfold zct
    by_cases a : i < 10
    · rw [if_pos a, if_pos a]
      have : ∀ o, zobj G (z_row S k x) o = zobj G S o := fun o => by unfold zobj; rfl
      rw [this]
    · rw [if_neg a, if_neg a]
      by_cases b : i = 10
      · rw [if_pos b, if_pos b]; rfl
      · rw [if_neg b, if_neg b]
        by_cases d : i < 54
        · rw [if_pos d, if_pos d]
          have : ¬ i - 11 = k := by omega
          simp [z_row, va_up, this]
        · rw [if_neg d, if_neg d]
          rfl
end ZROW
end
section
-- THE ROW'S METHODS: contracts over the class's world, for every row
section ZRC
variable {cA : Nat → ClassId} {G : Nat → Nat} {S : zS} {A : Nat → Prop} {D : va_G} {l : Launch}
theorem nI_min {a b : Nat} (ha : a < 2 ^ 31) (hb : b < 2 ^ 31) : (nI a < nI b) ↔ a < b := nI_ltI ha hb
set_option maxHeartbeats 4000000 in
theorem c_Row_size (k : Nat) (hk : k < 43) : zMet l y_Row_size (zw y_Row_size prog_10_method_2_code 1 (some Jvm.ClassFile.FieldType.int)) 0 0 [.ref (G (11 + k))] D zcl (ztys cA) A (zRep D cA G A) zfc zfs S (zFp S (r_size S k)) := by
  refine zMet_of ⟨Nat.le_refl _, Nat.le_refl _⟩ (by decide) tk_Row_size (Nat.le_of_ble_eq_true rfl) ?_
  intro p e R s m args below meth c hf hlo C0 hK hA
  refine sw_go C0 1 (pc' := 1) (lv' := [(0, .ref (G (11 + k)))]) (st' := [.ref (G (11 + k))]) rfl ?_
  refine sw_rsz C0 hK hk wd_1_37 rfl ?_
  exact sw_reti C0 rfl rfl
set_option maxHeartbeats 4000000 in
theorem c_Row_at (k : Nat) (hk : k < 43) (a1 : Int32) : zMet l y_Row_at (zw y_Row_at prog_10_method_3_code 2 (some Jvm.ClassFile.FieldType.int)) 0 0 [.ref (G (11 + k)), .int a1] D zcl (ztys cA) A (zRep D cA G A) zfc zfs S (zFp S (r_at S k a1)) := by
  refine zMet_of ⟨Nat.le_refl _, Nat.le_refl _⟩ (by decide) tk_Row_at (Nat.le_of_ble_eq_true rfl) ?_
  intro p e R s m args below meth c hf hlo C0 hK hA
  unfold r_at
  refine sw_go C0 1 (pc' := 1) (lv' := [(0, .ref (G (11 + k))), (1, .int a1)]) (st' := [.int a1]) rfl ?_
  refine sw_if_lt (zFp S) C0 rfl (fun h1 => ?_) (fun h1 => ?_)
  · refine sw_go C0 1 (pc' := 22) (lv' := [(0, .ref (G (11 + k))), (1, .int a1)]) (st' := [.int (-1)]) rfl ?_
    exact sw_reti C0 rfl rfl
  · refine sw_go C0 2 (pc' := 6) (lv' := [(0, .ref (G (11 + k))), (1, .int a1)]) (st' := [.ref (G (11 + k)), .int a1]) rfl ?_
    refine sw_rsz C0 hK hk wd_1_37 rfl ?_
    refine sw_icmp_ge (zFp S) C0 rfl (fun h2 => ?_) (fun h2 => ?_)
    · refine sw_go C0 1 (pc' := 22) (lv' := [(0, .ref (G (11 + k))), (1, .int a1)]) (st' := [.int (-1)]) rfl ?_
      exact sw_reti C0 rfl rfl
    · obtain ⟨j, hj, rfl⟩ := nI_of h1
      refine sw_go C0 1 (pc' := 13) (lv' := [(0, .ref (G (11 + k))), (1, .int (nI j))]) (st' := [.ref (G (11 + k))]) rfl ?_
      have hlt : ∀ H, zRep D cA G A S H → j < (S.1 k).length := fun H ⟨aa, f, _, _, _, hr⟩ => by
        obtain ⟨g1, g2, -⟩ := hr k hk
        exact Nat.lt_of_not_le (fun q => h2 ((nI_leI (by omega) hj).mpr q))
      refine ⟨Nat.le_refl _, Nat.le_refl _, fun H locs cells slots ls q1 q2 q3 q4 q5 => ?_⟩
      refine (sw_rrd C0 hK hk (j := j) wd_1_36 rfl rfl rfl rfl (hlt H q1) ?_).2.2 H locs cells slots ls q1 q2 q3 q4 q5
      rw [nI_clamp hj]
      refine sw_go C0 1 (pc' := 22) (lv' := [(0, .ref (G (11 + k))), (1, .int (nI j))]) (st' := [.int ((S.1 k).getD j 0)]) rfl ?_
      exact sw_reti C0 rfl rfl
/-- the size is put: the list is cut -/
theorem sw_rput {p : Program} {e : Env} {R : Room} {s : State} {m : MethodId} {args : Array Value} {below : List Frame} {meth : Method} {c : Code} {nL : Nat} {cc : ByteArray} {T : List zTr} {own : String} {ret : Option FieldType} {pc : Nat} {lv : zLv} {rest : List Value} {E : zS × Option Value} (C0 : zC p s m args meth c cc nL own zwl T ret) (hK : va_K D zcl (ztys cA) s) {idx tgt n k : Nat} {v0 v : Int32} (hk : k < 43) (hl : Cond.fieldLink own idx (F_Row 1).1 (F_Row 1).2.1 (F_Row 1).2.2.1 ∈ zwl) (hq : T.lookup pc = some (.putfield idx, 3, tgt, v0)) (hn : n ≤ (S.1 k).length) (hv : v = nI n)
    (kk : zSW p l e R s m args below meth c nL A D cA G (z_row S k ((S.1 k).take n)) (pc + 3) lv rest E) : zSW p l e R s m args below meth c nL A D cA G S pc lv (.int v :: .ref (G (11 + k)) :: rest) E := by
  obtain ⟨hx, hb, hml, hown, hts, hT, hr, hlocks⟩ := C0
  refine ⟨kk.1, kk.2.1, fun H locs cells slots ls h1 h2 h3 h4 h5 => ?_⟩
  obtain ⟨aa, f, hP, hj, hA, hrr⟩ := id h1
  have he : (zws 97 (zad G aa) (zct cA G aa f S))[11 + k]? = some (G (11 + k), .inr (0, [.ref (aa k), .int (nI (S.1 k).length)])) := by rw [zws_at (by omega), zct_row hk, zad_lo (by omega)]
  refine va_put (D := D) (cl := zcl) (tys := ztys cA) (ws := zws 97 (zad G aa) (zct cA G aa f S)) (ci := 0) (ty := .int) hx hb hts i_Row t_Row t_Row_ok n_Row hown hK (zws_P hP) (zws_D hj hA) h2 (11 + k) he rfl 1 (by decide) (hts _ hl) (fun _ h9 => h9) rfl (by decide +kernel) rfl rfl (Nat.le_of_ble_eq_true rfl) (hT.dec hq) (fun H1 locs1 hP1 hD1 hS1 => ?_)
  have hset : (zws 97 (zad G aa) (zct cA G aa f S)).set (11 + k) (G (11 + k), .inr (0, [.ref (aa k), .int v])) = zws 97 (zad G aa) (zct cA G aa f (z_row S k ((S.1 k).take n))) := by
    rw [show G (11 + k) = zad G aa (11 + k) from (zad_lo (by omega)).symm, zws_set]
    refine zws_congr (fun _ _ => rfl) (fun i hi => ?_)
    rw [← zct_upR hk i hi, hv, List.length_take, Nat.min_eq_left hn]
  have hP1 : va_P D zcl ((zws 97 (zad G aa) (zct cA G aa f S)).set (11 + k) (G (11 + k), .inr (0, [.ref (aa k), .int v]))) H1 := hP1
  have hD1 : va_D A ((zws 97 (zad G aa) (zct cA G aa f S)).set (11 + k) (G (11 + k), .inr (0, [.ref (aa k), .int v]))) := hD1
  rw [hset] at hP1 hD1
  refine kk.2.2 H1 locs1 cells slots ls (zRep_mk hP1 hD1 (fun j hj2 => ?_)) hS1 h3 h4 h5
  obtain ⟨g1, g2, g3⟩ := hrr j hj2
  by_cases ej : j = k
  · subst ej
    simp only [z_row, va_up, if_true]
    refine ⟨Nat.le_trans (by rw [List.length_take]; exact Nat.min_le_right _ _) g1, g2, fun i hi => ?_⟩
    rw [List.length_take] at hi
    rw [g3 i (by omega)]
    simp [List.getD, show i < n by omega]
  · simp only [z_row, va_up, ej, if_false]
    exact ⟨g1, g2, g3⟩
set_option maxHeartbeats 4000000 in
theorem c_Row_empty (k : Nat) (hk : k < 43) : zMet l y_Row_empty (zw y_Row_empty prog_10_method_7_code 1 none) 0 0 [.ref (G (11 + k))] D zcl (ztys cA) A (zRep D cA G A) zfc zfs S (zFv (r_emp S k)) := by
  refine zMet_of ⟨Nat.le_refl _, Nat.le_refl _⟩ (by decide) tk_Row_empty (Nat.le_of_ble_eq_true rfl) ?_
  intro p e R s m args below meth c hf hlo C0 hK hA
  refine sw_go C0 2 (pc' := 2) (lv' := [(0, .ref (G (11 + k)))]) (st' := [.int 0, .ref (G (11 + k))]) rfl ?_
  refine sw_rput C0 hK hk (n := 0) wd_1_37 rfl (Nat.zero_le _) nI_0.symm ?_
  exact sw_retv C0 rfl (by rw [List.take_zero]; rfl)
set_option maxHeartbeats 4000000 in
theorem c_Row_set (k : Nat) (hk : k < 43) (a1 a2 : Int32) : zMet l y_Row_set (zw y_Row_set prog_10_method_4_code 3 none) 0 0 [.ref (G (11 + k)), .int a1, .int a2] D zcl (ztys cA) A (zRep D cA G A) zfc zfs S (zFv (r_set S k a1 a2)) := by
  have hm : zfc S ≤ zfc (zFv (r_set S k a1 a2)).1 ∧ zfs S ≤ zfs (zFv (r_set S k a1 a2)).1 := by
    unfold zFv r_set
    split
    · exact ⟨Nat.le_refl _, Nat.le_refl _⟩
    · split <;> exact ⟨Nat.le_refl _, Nat.le_refl _⟩
  refine zMet_of hm (by decide) tk_Row_set (Nat.le_of_ble_eq_true rfl) ?_
  intro p e R s m args below meth c hf hlo C0 hK hA
  unfold r_set
  refine sw_go C0 1 (pc' := 1) (lv' := [(0, .ref (G (11 + k))), (1, .int a1), (2, .int a2)]) (st' := [.int a1]) rfl ?_
  refine sw_if_lt zFv C0 rfl (fun h1 => ?_) (fun h1 => ?_)
  · exact sw_retv C0 rfl rfl
  · refine sw_go C0 2 (pc' := 6) (lv' := [(0, .ref (G (11 + k))), (1, .int a1), (2, .int a2)]) (st' := [.ref (G (11 + k)), .int a1]) rfl ?_
    refine sw_rsz C0 hK hk wd_1_37 rfl ?_
    refine sw_icmp_ge zFv C0 rfl (fun h2 => ?_) (fun h2 => ?_)
    · exact sw_retv C0 rfl rfl
    · obtain ⟨j, hj, rfl⟩ := nI_of h1
      refine ⟨Nat.le_refl _, Nat.le_refl _, fun H locs cells slots ls q1 q2 q3 q4 q5 => ?_⟩
      rw [nI_clamp hj] at q3 q4 ⊢
      obtain ⟨aa, f, hP, hjj, hAA, hrr⟩ := id q1
      obtain ⟨g1, g2, g3⟩ := hrr k hk
      have hlt : j < (S.1 k).length := Nat.lt_of_not_le (fun q => h2 ((nI_leI (by omega) hj).mpr q))
      have C1 := C0
      obtain ⟨hx, hb, hml, hown, hts, hT, hr, hlocks⟩ := C0
      have he : (zws 97 (zad G aa) (zct cA G aa f S))[11 + k]? = some (G (11 + k), .inr (0, [.ref (aa k), .int (nI (S.1 k).length)])) := by rw [zws_at (by omega), zct_row hk, zad_lo (by omega)]
      have he2 : (zws 97 (zad G aa) (zct cA G aa f S))[54 + k]? = some (aa k, .inl (cA 0, zcap S k, .inl (f k))) := by rw [zws_at (by omega), zct_arr, zad_arr]
      refine zrun_ok hx hb hT 1 12 _ _ (pc' := 13) (lv' := [(0, .ref (G (11 + k))), (1, .int (nI j)), (2, .int a2)]) (st' := [.ref (G (11 + k))]) rfl q5 (fun ls hl => ?_)
      refine va_get (D := D) (cl := zcl) (tys := ztys cA) (ws := zws 97 (zad G aa) (zct cA G aa f S)) (ci := 0) hx hb hts i_Row hown hK (zws_P hP) (11 + k) he rfl 0 (by decide) (hts _ wd_1_36) (fun _ h => h) rfl (hT.dec (pc := 13) rfl) ?_
      refine zrun_ok hx hb hT 2 16 _ _ (pc' := 18) (lv' := [(0, .ref (G (11 + k))), (1, .int (nI j)), (2, .int a2)]) (st' := [.int a2, .int (nI j), .ref (aa k)]) rfl hl (fun ls hl => ?_)
      refine va_iast (D := D) (cl := zcl) (tys := ztys cA) (ws := zws 97 (zad G aa) (zct cA G aa f S)) hx hb hK (zws_P hP) (zws_D hjj hAA) q2 (54 + k) 0 he2 rfl (vp_in_nI (by omega) (by omega)) (hT.dec (pc := 18) rfl) (fun H1 locs1 hP1 hD1 hS1 => ?_)
      have hset : (zws 97 (zad G aa) (zct cA G aa f S)).set (54 + k) (aa k, .inl (cA 0, zcap S k, .inl (upd (f k) (nI j).toNatClampNeg a2))) = zws 97 (zad G aa) (zct cA G aa (va_up f k (upd (f k) j a2)) (z_row S k ((S.1 k).set j a2))) := by
        rw [show aa k = zad G aa (54 + k) from zad_arr.symm, zws_set, nI_clamp hj]
        refine zws_congr (fun _ _ => rfl) (fun i hi => ?_)
        refine zct_upA (S := S) (S' := z_row S k ((S.1 k).set j a2)) (fun o ho => by unfold zobj; rfl) rfl (fun q => ?_) rfl i hi
        by_cases eq : q = k
        · subst eq; simp [z_row, va_up]
        · simp [z_row, va_up, eq]
      rw [hset] at hP1 hD1
      refine (sw_retv C1 (S := z_row S k ((S.1 k).set j a2)) rfl rfl).2.2 H1 locs1 cells slots ls (zRep_mk hP1 hD1 (fun q hq2 => ?_)) hS1 q3 q4 hl
      obtain ⟨g1, g2, g3⟩ := hrr q hq2
      by_cases eq : q = k
      · subst eq
        simp only [z_row, va_up, if_true]
        refine ⟨by rw [List.length_set]; exact g1, g2, fun i hi => ?_⟩
        rw [List.length_set] at hi
        by_cases ei : i = j
        · subst ei; simp [upd, List.getD, hi]
        · simp only [upd, ei, if_false]
          rw [g3 i hi]
          simp [List.getD, List.getElem?_set_ne (Ne.symm ei)]
      · simp only [z_row, va_up, eq, if_false]
        exact ⟨g1, g2, g3⟩
end ZRC
end
section
-- Row.take, Arrays.copyOf (where the length differs), Row.add, Row.refill
def y_Arr_copyOf : MethodName := ⟨"java/util/Arrays", "copyOf", "([II)[I"⟩
def T_Arr_copyOf : List zTr := [(0, .iload_n 1, 1, 0, 0), (1, .aload_n 0, 1, 0, 0), (2, .arraylength, 1, 0, 0), (3, .if_icmp .ne 11, 3, 14, 0), (14, .iload_n 1, 1, 0, 0), (15, .newarray .int, 2, 0, 0), (17, .astore_n 2, 1, 0, 0), (18, .aload_n 0, 1, 0, 0), (19, .iconst 0, 1, 0, 0), (20, .aload_n 2, 1, 0, 0), (21, .iconst 0, 1, 0, 0), (22, .aload_n 0, 1, 0, 0), (23, .arraylength, 1, 0, 0), (24, .iload_n 1, 1, 0, 0), (25, .invokestatic 304, 3, 0, 0), (28, .invokestatic 150, 3, 0, 0), (31, .aload_n 2, 1, 0, 0), (32, .areturn, 1, 0, 0)]
theorem tk_Arr_copyOf : zTok prog_17_method_123_code 3 T_Arr_copyOf := by decide +kernel
section ZRD
variable {cA : Nat → ClassId} {G : Nat → Nat} {S : zS} {A : Nat → Prop} {D : va_G} {l : Launch}
abbrev zcp (f : Nat → Int32) (n : Nat) : Nat → Int32 := va_cpy f (fun _ => 0) 0 0 n
set_option maxHeartbeats 4000000 in
theorem c_Arr_copyOf (a sz n0 N : Nat) (f : Nat → Int32) (h0 : n0 < N) (hN : N ≤ 4194304) : Met l y_Arr_copyOf (zw y_Arr_copyOf prog_17_method_123_code 3 (some (.array .int))) { frames := 1, cells := 1, slots := N, locals := 40 }
    (va_Pc [.ref a, .int (nI N)] (fun U => U.heap.size = sz ∧ va_P D zcl [(a, .inl (cA 0, n0, .inl f))] U.heap ∧ va_K D zcl (ztys cA) U ∧ va_D (fun _ => True) [(a, .inl (cA 0, n0, .inl f))]))
    (va_Qr (fun _ : Unit => True) (fun _ q t => va_P D zcl [(a, .inl (cA 0, n0, .inl f)), (q, .inl (cA 0, N, .inl (zcp f n0)))] t.heap ∧ va_D (va_A [(a, .inl (cA 0, n0, .inl f))] sz) [(a, .inl (cA 0, n0, .inl f)), (q, .inl (cA 0, N, .inl (zcp f n0)))]) (va_A [(a, .inl (cA 0, n0, .inl f))] sz)) 1 N (va_A [(a, .inl (cA 0, n0, .inl f))] sz) := by
  refine Met.ofW (cc := prog_17_method_123_code) (maxL := 3) (ret := some (.array .int)) (by decide) rfl ?_
  intro p e s m args below meth c s₁ B hml hv
  obtain ⟨rfl, hsz, hP, hK, hD0⟩ := hv
  have hx := B.exec
  have hb := B.bytes
  have hr := B.returns
  have hts0 := atoms_spec (ws := zw y_Arr_copyOf prog_17_method_123_code 3 (some (.array .int))) B.pre
  have hts : ∀ w ∈ zwl, w.before _ s = true := fun w hw => hts0 w (List.mem_cons_of_mem _ hw)
  have hown : s.vm.findClass "java/util/Arrays" = some m.cls := findClass_of_methodNamed B.named
  have hlocks := B.notSynchronized
  have hT := tk_Arr_copyOf
  subst hsz
  have hD := hD0.self (sz := s.heap.size)
  generalize hAe : va_A [(a, .inl (cA 0, n0, .inl f))] s.heap.size = A0 at hD ⊢
  have hA : ∀ q : Nat, s.heap.size ≤ q → A0 q := fun q h => by rw [← hAe]; exact Or.inr h
  have hS : va_S A0 s.heap s.heap [] := va_S.rf
  have hl := lv_entry ([.ref a, .int (nI N)]) (n := 3) (Nat.le_of_ble_eq_true rfl)
  rw [lg_entry_eq]
  generalize (lg_sl ([.ref a, .int (nI N)]) ++ List.replicate (3 - (lg_sl ([.ref a, .int (nI N)])).length) Slot.unset).toArray = ls at hl ⊢
  have hl : lv_has ls 3 [(0, .ref a), (1, .int (nI N))] := hl
  refine zrun_ok hx hb hT 2 0 _ _ (pc' := 2) (lv' := [(0, .ref a), (1, .int (nI N))]) (st' := [.ref a, .int (nI N)]) rfl hl (fun ls hl => ?_)
  refine va_alen (tys := ztys cA) hx hb hK hP 0 0 rfl rfl (v := nI n0) rfl (hT.dec (pc := 2) rfl) ?_
  refine lv_icmp_ne (tgt := 14) hx hb (hT.dec (pc := 3) rfl) (by decide) (fun _ => ?_) (fun q => absurd ((nI_eq (by omega) (by omega)).mp q) (by omega))
  refine zrun_ok hx hb hT 1 14 _ _ (pc' := 15) (lv' := [(0, .ref a), (1, .int (nI N))]) (st' := [.int (nI N)]) rfl hl (fun ls hl => ?_)
  have hcell1 : 0 + 1 ≤ (headSpec (zw y_Arr_copyOf prog_17_method_123_code 3 (some (.array .int))) { frames := 1, cells := 1, slots := N, locals := 40 }).room.cells := Nat.le_refl 1
  have hslot1 : 0 + N ≤ (headSpec (zw y_Arr_copyOf prog_17_method_123_code 3 (some (.array .int))) { frames := 1, cells := 1, slots := N, locals := 40 }).room.slots := by show 0 + N ≤ N; omega
  refine va_newa (atype := .int) (ty := .int) (a0 := (N, .inl (fun _ => 0))) (N' := N) hx hb (hts _ wd_1_43) rfl hK hP hD hS hA (fun _ => rfl) (nI_pos (by omega)) (nI_clamp (by omega)) (by show N * 4 ≤ 536870912; omega) hcell1 hslot1 (hT.dec (pc := 15) rfl) (fun q cB H hK1 hP hD hS => ?_)
  have e : cB = cA 0 := by
    have g1 := (hK.2 0 (cA 0, .int) rfl).2
    have g2 := (hK1.2 5 (cB, .int) rfl).2
    exact Option.some.inj (Eq.trans (Eq.symm g2) g1)
  subst e
  have hP : va_P D zcl [(a, .inl (cA 0, n0, .inl f)), (q, .inl (cA 0, N, .inl (fun _ => 0)))] H := hP
  have hD : va_D A0 [(a, .inl (cA 0, n0, .inl f)), (q, .inl (cA 0, N, .inl (fun _ => 0)))] := hD
  refine zrun_ok hx hb hT 6 17 _ _ (pc' := 23) (lv' := [(0, .ref a), (1, .int (nI N)), (2, .ref q)]) (st' := [.ref a, .int 0, .ref q, .int 0, .ref a]) rfl hl (fun ls hl => ?_)
  refine va_alen (tys := ztys cA) hx hb hK hP 0 0 rfl rfl (v := nI n0) rfl (hT.dec (pc := 23) rfl) ?_
  refine zrun_ok hx hb hT 1 24 _ _ (pc' := 25) (lv' := [(0, .ref a), (1, .int (nI N)), (2, .ref q)]) (st' := [.int (nI N), .int (nI n0), .int 0, .ref q, .int 0, .ref a]) rfl hl (fun ls hl => ?_)
  refine va_mmin hx hb (by rw [hml]; exact hl.1.symm) hown (hts _ wd_1_115) (hts _ wd_1_116) (hts _ wd_1_7) (hts _ wd_1_117) (Nat.le_refl 1) (Nat.le_of_ble_eq_true rfl) (by show 0 + 1 ≤ 1; omega) (by show 0 + N ≤ N; omega) (hT.dec (pc := 25) rfl) ?_
  rw [if_neg (fun q => absurd ((nI_ltI (by omega) (by omega)).mp q) (by omega))]
  refine va_copyi (tys := ztys cA) hx hb (by rw [hml]; exact hl.1.symm) hown (hts _ wd_1_118) (hts _ wd_1_120) (hts _ wd_1_119) (hts _ wd_1_8) hK hP hD hS 0 1 0 0 rfl rfl (ty := .int) rfl rfl rfl (by decide) (by decide) (nI_pos (by omega)) (by rw [nI_clamp (by omega)]; show 0 + n0 ≤ n0; omega) (by rw [nI_clamp (by omega)]; show 0 + n0 ≤ N; omega) (fun _ _ => rfl) (Nat.le_refl 1) (Nat.le_of_ble_eq_true rfl) (hT.dec (pc := 28) rfl) (fun H1 locs1 hP hD hS => ?_)
  have ecp : va_cpy f (fun _ => (0 : Int32)) (0 : Int32).toNatClampNeg (0 : Int32).toNatClampNeg (nI n0).toNatClampNeg = zcp f n0 := by rw [nI_clamp (by omega)]; rfl
  rw [ecp] at hP hD
  have hP : va_P D zcl [(a, .inl (cA 0, n0, .inl f)), (q, .inl (cA 0, N, .inl (zcp f n0)))] H1 := hP
  have hD : va_D A0 [(a, .inl (cA 0, n0, .inl f)), (q, .inl (cA 0, N, .inl (zcp f n0)))] := hD
  refine zrun_ok hx hb hT 1 31 _ _ (pc' := 32) (lv' := [(0, .ref a), (1, .int (nI N)), (2, .ref q)]) (st' := [.ref q]) rfl hl (fun ls hl => ?_)
  refine W.widen (k := 1) (n := N) (by omega) (by omega) ?_
  exact W.aret hx hb hr (Or.inr ⟨_, rfl⟩) (Or.inr ⟨q, rfl⟩) (fun t ht hW => ⟨⟨(), q, rfl, trivial, by rw [ht]; exact hP, hD⟩, hS.F ht⟩) hS.2.2 (hT.dec (pc := 32) rfl)
set_option maxHeartbeats 4000000 in
theorem c_Row_take (k : Nat) (hk : k < 43) : zMet l y_Row_take (zw y_Row_take prog_10_method_6_code 1 (some Jvm.ClassFile.FieldType.int)) 0 0 [.ref (G (11 + k))] D zcl (ztys cA) A (zRep D cA G A) zfc zfs S (zFi (r_take S k)) := by
  have hm : zfc S ≤ zfc (zFi (r_take S k)).1 ∧ zfs S ≤ zfs (zFi (r_take S k)).1 := by
    unfold zFi r_take
    split <;> exact ⟨Nat.le_refl _, Nat.le_refl _⟩
  refine zMet_of hm (by decide) tk_Row_take (Nat.le_of_ble_eq_true rfl) ?_
  intro p e R s m args below meth c hf hlo C0 hK hA
  refine sw_go C0 1 (pc' := 1) (lv' := [(0, .ref (G (11 + k)))]) (st' := [.ref (G (11 + k))]) rfl ?_
  refine sw_rsz C0 hK hk wd_1_37 rfl ?_
  refine ⟨hm.1, hm.2, fun H locs cells slots ls q1 q2 q3 q4 q5 => ?_⟩
  obtain ⟨aa, f, hP, hjj, hAA, hrr⟩ := id q1
  obtain ⟨g1, g2, g3⟩ := hrr k hk
  by_cases hz : 0 < (S.1 k).length
  · have hE : r_take S k = (z_row S k (S.1 k).dropLast, (S.1 k).getLastD 0) := by unfold r_take; rw [if_pos hz]
    rw [hE] at q3 q4 ⊢
    have hval : (S.1 k).getLastD 0 = f k ((S.1 k).length - 1) := by
      rw [g3 _ (by omega), List.getLastD_eq_getLast?, List.getLast?_eq_getElem?]
      rfl
    have C1 := C0
    obtain ⟨hx, hb, hml, hown, hts, hT, hr, hlocks⟩ := C0
    have hgt : (0 : Int32) < nI (S.1 k).length := by rw [← nI_0]; exact (nI_ltI (by omega) (by omega)).mpr hz
    refine lv_if_gt (tgt := 9) hx hb (hT.dec (pc := 4) rfl) (by decide) (fun _ => ?_) (fun q => absurd hgt q)
    have he : (zws 97 (zad G aa) (zct cA G aa f S))[11 + k]? = some (G (11 + k), .inr (0, [.ref (aa k), .int (nI (S.1 k).length)])) := by rw [zws_at (by omega), zct_row hk, zad_lo (by omega)]
    refine zrun_ok hx hb hT 2 9 _ _ (pc' := 11) (lv' := [(0, .ref (G (11 + k)))]) (st' := [.ref (G (11 + k)), .ref (G (11 + k))]) rfl q5 (fun ls hl => ?_)
    refine va_get (D := D) (cl := zcl) (tys := ztys cA) (ws := zws 97 (zad G aa) (zct cA G aa f S)) (ci := 0) hx hb hts i_Row hown hK (zws_P hP) (11 + k) he rfl 1 (by decide) (hts _ wd_1_37) (fun _ h => h) rfl (hT.dec (pc := 11) rfl) ?_
    refine zrun_ok hx hb hT 2 14 _ _ (pc' := 16) (lv' := [(0, .ref (G (11 + k)))]) (st' := [.int (nI (S.1 k).length - 1), .ref (G (11 + k))]) rfl hl (fun ls hl => ?_)
    have en : nI (S.1 k).length - 1 = nI ((S.1 k).length - 1) := by
      obtain ⟨w, hw⟩ : ∃ w, (S.1 k).length = w + 1 := ⟨(S.1 k).length - 1, by omega⟩
      rw [hw]; exact nI_pred w
    rw [en]
    refine va_put (D := D) (cl := zcl) (tys := ztys cA) (ws := zws 97 (zad G aa) (zct cA G aa f S)) (ci := 0) (ty := .int) hx hb hts i_Row t_Row t_Row_ok n_Row hown hK (zws_P hP) (zws_D hjj hAA) q2 (11 + k) he rfl 1 (by decide) (hts _ wd_1_37) (fun _ h9 => h9) rfl (by decide +kernel) rfl rfl (Nat.le_of_ble_eq_true rfl) (hT.dec (pc := 16) rfl) (fun H1 locs1 hP1 hD1 hS1 => ?_)
    have hset : (zws 97 (zad G aa) (zct cA G aa f S)).set (11 + k) (G (11 + k), .inr (0, [.ref (aa k), .int (nI ((S.1 k).length - 1))])) = zws 97 (zad G aa) (zct cA G aa f (z_row S k (S.1 k).dropLast)) := by
      rw [show G (11 + k) = zad G aa (11 + k) from (zad_lo (by omega)).symm, zws_set]
      refine zws_congr (fun _ _ => rfl) (fun i hi => ?_)
      rw [← zct_upR hk i hi, List.length_dropLast]
    have hP1 : va_P D zcl ((zws 97 (zad G aa) (zct cA G aa f S)).set (11 + k) (G (11 + k), .inr (0, [.ref (aa k), .int (nI ((S.1 k).length - 1))]))) H1 := hP1
    have hD1 : va_D A ((zws 97 (zad G aa) (zct cA G aa f S)).set (11 + k) (G (11 + k), .inr (0, [.ref (aa k), .int (nI ((S.1 k).length - 1))]))) := hD1
    rw [hset] at hP1 hD1
    have he1 : (zws 97 (zad G aa) (zct cA G aa f (z_row S k (S.1 k).dropLast)))[11 + k]? = some (G (11 + k), .inr (0, [.ref (aa k), .int (nI ((S.1 k).length - 1))])) := by
      rw [zws_at (by omega), zct_row hk, zad_lo (by omega)]
      simp [z_row, va_up]
    have he2 : (zws 97 (zad G aa) (zct cA G aa f (z_row S k (S.1 k).dropLast)))[54 + k]? = some (aa k, .inl (cA 0, zcap S k, .inl (f k))) := by rw [zws_at (by omega), zct_arr, zad_arr]; rfl
    refine zrun_ok hx hb hT 1 19 _ _ (pc' := 20) (lv' := [(0, .ref (G (11 + k)))]) (st' := [.ref (G (11 + k))]) rfl hl (fun ls hl => ?_)
    refine va_get (D := D) (cl := zcl) (tys := ztys cA) (ci := 0) hx hb hts i_Row hown hK hP1 (11 + k) he1 rfl 0 (by decide) (hts _ wd_1_36) (fun _ h => h) rfl (hT.dec (pc := 20) rfl) ?_
    refine zrun_ok hx hb hT 1 23 _ _ (pc' := 24) (lv' := [(0, .ref (G (11 + k)))]) (st' := [.ref (G (11 + k)), .ref (aa k)]) rfl hl (fun ls hl => ?_)
    refine va_get (D := D) (cl := zcl) (tys := ztys cA) (ci := 0) hx hb hts i_Row hown hK hP1 (11 + k) he1 rfl 1 (by decide) (hts _ wd_1_37) (fun _ h => h) rfl (hT.dec (pc := 24) rfl) ?_
    refine va_iald (D := D) (cl := zcl) (tys := ztys cA) hx hb hK hP1 (54 + k) 0 he2 rfl (vp_in_nI (by omega) (by omega)) (hT.dec (pc := 27) rfl) ?_
    rw [nI_clamp (by omega), ← hval]
    refine (sw_reti C1 (S := z_row S k (S.1 k).dropLast) rfl rfl).2.2 H1 locs1 cells slots ls (zRep_mk hP1 hD1 (fun j hj2 => ?_)) hS1 q3 q4 hl
    obtain ⟨g1, g2, g3⟩ := hrr j hj2
    by_cases ej : j = k
    · subst ej
      simp only [z_row, va_up, if_true]
      refine ⟨by rw [List.length_dropLast]; exact Nat.le_trans (Nat.sub_le _ _) g1, g2, fun i hi => ?_⟩
      rw [List.length_dropLast] at hi
      rw [g3 i (by omega)]
      have hi2 : i < (S.1 j).length := by omega
      simp [List.getD, List.getElem?_dropLast, hi, hi2]
    · simp only [z_row, va_up, ej, if_false]
      exact ⟨g1, g2, g3⟩
  · have hE : r_take S k = (S, -1) := by unfold r_take; rw [if_neg hz]
    rw [hE] at q3 q4 ⊢
    have hle : ¬ (0 : Int32) < nI (S.1 k).length := by rw [show (S.1 k).length = 0 by omega, nI_0]; decide
    exact (sw_if_gtF C0 rfl hle (sw_go C0 1 (pc' := 8) (lv' := [(0, .ref (G (11 + k)))]) (st' := [.int (-1)]) rfl (sw_reti C0 rfl rfl))).2.2 H locs cells slots ls q1 q2 q3 q4 q5
end ZRD
end
section
-- Row.add, Row.refill
section ZRE
variable {cA : Nat → ClassId} {G : Nat → Nat} {S : zS} {A : Nat → Prop} {D : va_G} {l : Launch}
theorem zcap_grow {k : Nat} : zcap (z_grow S k) k = zcap S k * 2 := by
  unfold zcap z_grow
  simp [va_up, Nat.pow_succ]
  omega
theorem zcap_grow' {k j : Nat} (h : ¬ j = k) : zcap (z_grow S k) j = zcap S j := by
  unfold zcap z_grow
  simp [va_up, h]
theorem zfc_grow {k : Nat} (hk : k < 43) : zfc (z_grow S k) = zfc S + 1 := by
  have := zsum_up (h := S.2.1) (k := k) (x := S.2.1 k + 1) (n := 43) hk
  unfold zfc z_grow
  dsimp only
  omega
theorem zfs_grow {k : Nat} (hk : k < 43) : zfs (z_grow S k) = zfs S + zcap S k * 2 := by
  have h1 := zsum_up (h := fun j => 2 * zcap S j) (k := k) (x := 2 * (zcap S k * 2)) (n := 43) hk
  have h2 : zfs (z_grow S k) = zsum (va_up (fun j => 2 * zcap S j) k (2 * (zcap S k * 2))) 43 := by
    unfold zfs
    refine zsum_congr (fun i hi => ?_)
    by_cases e : i = k
    · subst e; simp only [va_up, if_true]; rw [zcap_grow]
    · simp only [va_up, e, if_false]; rw [zcap_grow' e]
  rw [h2]
  unfold zfs
  omega
theorem r_more_mono {k : Nat} (hk : k < 43) : zfc S ≤ zfc (r_more S k) ∧ zfs S ≤ zfs (r_more S k) := by
  unfold r_more
  split
  · exact ⟨Nat.le_refl _, Nat.le_refl _⟩
  · split
    · exact ⟨Nat.le_refl _, Nat.le_refl _⟩
    · rw [zfc_grow hk, zfs_grow hk]; omega
theorem r_add_mono {k : Nat} (hk : k < 43) (v : Int32) : zfc S ≤ zfc (r_add S k v).1 ∧ zfs S ≤ zfs (r_add S k v).1 := by
  unfold r_add
  split
  · exact r_more_mono hk
  · exact r_more_mono hk
section GROW
variable {p : Program} {e : Env} {R : Room} {s : State} {m : MethodId} {args : Array Value} {below : List Frame} {meth : Method} {c : Code} {E : zS × Option Value}
set_option maxHeartbeats 8000000 in
theorem sw_grow {k : Nat} {a1 : Int32} (hk : k < 43) (hf : R.frames = 2) (hlo : R.locals = 62) (C0 : zC p s m args meth c prog_10_method_5_code 2 "RuleTree$Row" zwl T_Row_add (some .int)) (hK : va_K D zcl (ztys cA) s) (hA : ∀ q, s.heap.size ≤ q → A q) (hcap : zcap S k ≤ 2097152)
    (kk : zSW p l e R s m args below meth c 2 A D cA G (z_grow S k) 40 [(0, .ref (G (11 + k))), (1, .int a1)] [] E) : zSW p l e R s m args below meth c 2 A D cA G S 22 [(0, .ref (G (11 + k))), (1, .int a1)] [] E := by
  have hc0 : 0 < zcap S k := by unfold zcap; exact Nat.mul_pos (by decide) (Nat.pow_pos (by decide))
  have m1 := zfc_grow (S := S) hk
  have m2 := zfs_grow (S := S) hk
  refine ⟨by have := kk.1; omega, by have := kk.2.1; omega, fun H locs cells slots ls q1 q2 q3 q4 q5 => ?_⟩
  have k1 := kk.1
  have k2 := kk.2.1
  obtain ⟨aa, f, hP, hjj, hAA, hrr⟩ := id q1
  obtain ⟨hx, hb, hml, hown, hts, hT, hr, hlocks⟩ := C0
  have he : (zws 97 (zad G aa) (zct cA G aa f S))[11 + k]? = some (G (11 + k), .inr (0, [.ref (aa k), .int (nI (S.1 k).length)])) := by rw [zws_at (by omega), zct_row hk, zad_lo (by omega)]
  have he2 : (zws 97 (zad G aa) (zct cA G aa f S))[54 + k]? = some (aa k, .inl (cA 0, zcap S k, .inl (f k))) := by rw [zws_at (by omega), zct_arr, zad_arr]
  have hw2 : va_at D zcl (aa k, .inl (cA 0, zcap S k, .inl (f k))) H := by
    have h := hP (54 + k) (by omega)
    rwa [zct_arr, zad_arr] at h
  refine zrun_ok hx hb hT 2 22 _ _ (pc' := 24) (lv' := [(0, .ref (G (11 + k))), (1, .int a1)]) (st' := [.ref (G (11 + k)), .ref (G (11 + k))]) rfl q5 (fun ls hl => ?_)
  refine va_get (D := D) (cl := zcl) (tys := ztys cA) (ci := 0) hx hb hts i_Row hown hK (zws_P hP) (11 + k) he rfl 0 (by decide) (hts _ wd_1_36) (fun _ h => h) rfl (hT.dec (pc := 24) rfl) ?_
  refine zrun_ok hx hb hT 1 27 _ _ (pc' := 28) (lv' := [(0, .ref (G (11 + k))), (1, .int a1)]) (st' := [.ref (G (11 + k)), .ref (aa k), .ref (G (11 + k))]) rfl hl (fun ls hl => ?_)
  refine va_get (D := D) (cl := zcl) (tys := ztys cA) (ci := 0) hx hb hts i_Row hown hK (zws_P hP) (11 + k) he rfl 0 (by decide) (hts _ wd_1_36) (fun _ h => h) rfl (hT.dec (pc := 28) rfl) ?_
  refine va_alen (D := D) (cl := zcl) (tys := ztys cA) hx hb hK (zws_P hP) (54 + k) 0 he2 rfl (v := nI (zcap S k)) rfl (hT.dec (pc := 31) rfl) ?_
  refine zrun_ok hx hb hT 2 32 _ _ (pc' := 34) (lv' := [(0, .ref (G (11 + k))), (1, .int a1)]) (st' := [.int (nI (zcap S k) * 2), .ref (aa k), .ref (G (11 + k))]) rfl hl (fun ls hl => ?_)
  rw [show nI (zcap S k) * 2 = nI (zcap S k * 2) from pk_mul _ 2]
  have hG : GoodIn zwl (va_wsS "RuleTree$Row" 20 y_Arr_copyOf (zw y_Arr_copyOf prog_17_method_123_code 3 (some (.array .int)))) := by
    intro w hw
    rcases List.mem_append.mp hw with h | h
    · have : w = .methodLink "RuleTree$Row" 20 y_Arr_copyOf ∨ w = .static y_Arr_copyOf ∨ w = .initialized y_Arr_copyOf.cls := by simpa using h
      rcases this with rfl | rfl | rfl
      · exact zgood _ wd_1_105
      · exact zgood _ wd_1_106
      · exact zgood _ wd_1_6
    · rcases List.mem_cons.mp h with rfl | h
      · exact zgood _ wd_1_107
      · exact zgood _ h
  have hA1 : ∀ q, va_A [(aa k, .inl (cA 0, zcap S k, .inl (f k)))] H.size q → A q := by
    intro q h
    rcases h with ⟨j, w, h⟩ | h
    · cases j with
      | zero => cases h; have := hAA (54 + k) (by omega); rwa [zad_arr] at this
      | succ j => simp at h
    · exact hA q (Nat.le_trans q2.1 h)
  have hD1 : va_D (fun _ => True) [(aa k, (.inl (cA 0, zcap S k, .inl (f k)) : va_E))] := by
    refine ⟨fun i j x y hx hy _ => ?_, fun _ _ _ => trivial⟩
    have h1 := (List.getElem?_eq_some_iff.mp hx).1
    have h2 := (List.getElem?_eq_some_iff.mp hy).1
    simp at h1 h2
    omega
  refine va_callr (va_runS (As := [.ref (aa k), .int (nI (zcap S k * 2))]) (rest := [.ref (G (11 + k))]) ⟨hx, hb, hml, hown, hts⟩ (c_Arr_copyOf (cA := cA) (D := D) (aa k) H.size (zcap S k) (zcap S k * 2) (f k) (by omega) (by omega)) (va_cwS 2 hts hG rfl rfl rfl (by decide +kernel) ⟨by rw [hf]; exact Nat.le_refl 2, by rw [hlo]; exact Nat.le_refl 62⟩) ⟨fun a U g mk q => by obtain ⟨q0, q1, qP, qK, qD⟩ := q; exact ⟨q0, q1, qP, va_K.moved (u := U) (U := U.calling g mk a) (Vm.Alike.refl U.vm) qK, qD⟩, fun U hU hW => ⟨rfl, by rw [hU], by rw [hU]; exact zP1 hw2, va_K.moved hW.alike hK, hD1⟩⟩ rfl rfl hl.1 rfl (lv_room (Nat.le_of_ble_eq_true rfl)) (hT.dec (pc := 34) rfl) ⟨by omega, by omega⟩) q2 (fun q _ h => hA1 q h) hA1 (fun u ra t H1 locs1 ht hvm _ hB hz1 hk1 hS1 => ?_)
  obtain ⟨hP1, hD1⟩ := hB
  rw [ht] at hP1
  have hra : H.size ≤ ra := by
    have h := hD1.2 1 _ rfl
    rcases h with ⟨j, w, h⟩ | h
    · cases j with
      | zero =>
        have e : aa k = ra := by cases h; rfl
        have := hD1.1 0 1 _ _ rfl rfl e
        omega
      | succ j => simp at h
    · exact h
  have hlt : ∀ i, i < 97 → zad G aa i < H.size := fun i hi => (hP i hi).lt
  have hP2 : ∀ i, i < 98 → va_at D zcl (va_up (zad G aa) 97 ra i, va_up (zct cA G aa f S) 97 (.inl (cA 0, zcap S k * 2, .inl (zcp (f k) (zcap S k)))) i) H1 := by
    intro i hi
    by_cases e1 : i = 97
    · subst e1
      simp only [va_up, if_true]
      exact hP1 1 _ rfl
    · simp only [va_up, e1, if_false]
      by_cases e2 : i = 54 + k
      · subst e2
        rw [zct_arr, zad_arr]
        exact hP1 0 _ rfl
      · refine (hP i (by omega)).kept (hk1 _ (hlt i (by omega)) ?_)
        rintro (⟨j, w, h⟩ | h)
        · cases j with
          | zero =>
            have e : aa k = zad G aa i := by
              have := congrArg Prod.fst (Option.some.inj h)
              exact this
            exact e2 (hjj i (54 + k) (by omega) (by omega) (by rw [zad_arr]; exact e.symm))
          | succ j => simp at h
        · have := hlt i (by omega); omega
  have hj2 : ∀ i j, i < 98 → j < 98 → va_up (zad G aa) 97 ra i = va_up (zad G aa) 97 ra j → i = j := by
    intro i j hi hj e
    by_cases e1 : i = 97
    · by_cases e2 : j = 97
      · omega
      · simp only [va_up, e1, e2, if_true, if_false] at e
        have := hlt j (by omega)
        omega
    · by_cases e2 : j = 97
      · simp only [va_up, e1, e2, if_true, if_false] at e
        have := hlt i (by omega)
        omega
      · simp only [va_up, e1, e2, if_false] at e
        exact hjj i j (by omega) (by omega) e
  have hA2 : ∀ i, i < 98 → A (va_up (zad G aa) 97 ra i) := by
    intro i hi
    by_cases e1 : i = 97
    · subst e1; simp only [va_up, if_true]; exact hA ra (Nat.le_trans q2.1 hra)
    · simp only [va_up, e1, if_false]; exact hAA i (by omega)
  have n97 : ¬ 11 + k = 97 := by omega
  have he3 : (zws 98 (va_up (zad G aa) 97 ra) (va_up (zct cA G aa f S) 97 (.inl (cA 0, zcap S k * 2, .inl (zcp (f k) (zcap S k))))))[11 + k]? = some (G (11 + k), .inr (0, [.ref (aa k), .int (nI (S.1 k).length)])) := by
    rw [zws_at (by omega)]
    simp only [va_up, n97, if_false]
    rw [zct_row hk, zad_lo (by omega)]
  refine va_put (D := D) (cl := zcl) (tys := ztys cA) (ci := 0) (ty := .array .int) hx hb hts i_Row t_Row t_Row_ok n_Row hown hK (zws_P hP2) (zws_D hj2 hA2) hS1 (11 + k) he3 rfl 0 (by decide) (hts _ wd_1_36) (fun _ h9 => h9) rfl (by decide +kernel) rfl rfl (Nat.le_of_ble_eq_true rfl) (hT.dec (pc := 37) rfl) (fun H2 locs2 hP3 hD3 hS2 => ?_)
  have hset : (zws 98 (va_up (zad G aa) 97 ra) (va_up (zct cA G aa f S) 97 (.inl (cA 0, zcap S k * 2, .inl (zcp (f k) (zcap S k)))))).set (11 + k) (G (11 + k), .inr (0, [.ref ra, .int (nI (S.1 k).length)])) = zws 98 (va_up (zad G aa) 97 ra) (va_up (va_up (zct cA G aa f S) 97 (.inl (cA 0, zcap S k * 2, .inl (zcp (f k) (zcap S k))))) (11 + k) (.inr (0, [.ref ra, .int (nI (S.1 k).length)]))) := by
    have e : G (11 + k) = va_up (zad G aa) 97 ra (11 + k) := by simp only [va_up, n97, if_false]; exact (zad_lo (by omega)).symm
    rw [e, zws_set]
  have hP3 : va_P D zcl ((zws 98 (va_up (zad G aa) 97 ra) (va_up (zct cA G aa f S) 97 (.inl (cA 0, zcap S k * 2, .inl (zcp (f k) (zcap S k)))))).set (11 + k) (G (11 + k), .inr (0, [.ref ra, .int (nI (S.1 k).length)]))) H2 := hP3
  rw [hset] at hP3
  have tau : ∀ i, i < 97 → ∃ j, j < 98 ∧ (j = 97 ↔ i = 54 + k) ∧ (¬ j = 97 → j = i) ∧ zad G (va_up aa k ra) i = va_up (zad G aa) 97 ra j ∧ zct cA G (va_up aa k ra) (va_up f k (zcp (f k) (zcap S k))) (z_grow S k) i = va_up (va_up (zct cA G aa f S) 97 (.inl (cA 0, zcap S k * 2, .inl (zcp (f k) (zcap S k))))) (11 + k) (.inr (0, [.ref ra, .int (nI (S.1 k).length)])) j := by
    intro i hi
    by_cases e1 : i = 54 + k
    · subst e1
      refine ⟨97, by omega, by simp, by omega, ?_, ?_⟩
      · rw [zad_arr]; simp [va_up]
      · rw [zct_arr, zcap_grow]; simp [va_up, show ¬ (97 : Nat) = 11 + k by omega]
    · refine ⟨i, by omega, ⟨fun h => by omega, fun h => absurd h e1⟩, fun _ => rfl, ?_, ?_⟩
      · simp only [va_up, show ¬ i = 97 by omega, if_false]
        unfold zad
        by_cases d : i < 54
        · rw [if_pos d, if_pos d]
        · rw [if_neg d, if_neg d]
          show va_up aa k ra (i - 54) = aa (i - 54)
          simp [va_up, show ¬ i - 54 = k by omega]
      · by_cases e2 : i = 11 + k
        · subst e2
          rw [zct_row hk]
          simp [va_up, z_grow]
        · simp only [va_up, show ¬ i = 97 by omega, e2, if_false]
          unfold zct
          by_cases a : i < 10
          · rw [if_pos a, if_pos a]
            have : ∀ o, zobj G (z_grow S k) o = zobj G S o := fun o => by unfold zobj; rfl
            rw [this]
          · rw [if_neg a, if_neg a]
            by_cases b : i = 10
            · rw [if_pos b, if_pos b]; rfl
            · rw [if_neg b, if_neg b]
              by_cases d : i < 54
              · rw [if_pos d, if_pos d]
                have : ¬ i - 11 = k := by omega
                simp [va_up, this, z_grow]
              · rw [if_neg d, if_neg d]
                have : ¬ i - 54 = k := by omega
                rw [zcap_grow' this]
                simp [va_up, this]
  refine kk.2.2 H2 locs2 (cells + 1) (slots + zcap S k * 2) ls ⟨va_up aa k ra, va_up f k (zcp (f k) (zcap S k)), fun i hi => ?_, fun i j hi hj e => ?_, fun i hi => ?_, fun j hj => ?_⟩ hS2 (by omega) (by omega) hl
  · obtain ⟨j, j1, -, -, j4, j5⟩ := tau i hi
    rw [j4, j5]
    exact zws_Pi hP3 j1
  · obtain ⟨i', i1, i2, i3, i4, -⟩ := tau i hi
    obtain ⟨j', j1, j2, j3, j4, -⟩ := tau j hj
    rw [i4, j4] at e
    have := hj2 i' j' i1 j1 e
    subst this
    by_cases h : i' = 97
    · rw [i2.mp h, j2.mp h]
    · rw [← i3 h, ← j3 h]
  · obtain ⟨j, j1, -, -, j4, -⟩ := tau i hi
    rw [j4]
    exact hA2 j j1
  · obtain ⟨g1, g2, g3⟩ := hrr j hj
    by_cases ej : j = k
    · subst ej
      rw [zcap_grow]
      refine ⟨by show (S.1 j).length ≤ _; omega, by omega, fun i hi => ?_⟩
      have hi : i < (S.1 j).length := hi
      show va_up f j (zcp (f j) (zcap S j)) j i = (S.1 j).getD i 0
      rw [← g3 i hi]
      simp [va_up, va_cpy, show i < zcap S j by omega]
    · rw [zcap_grow' ej]
      refine ⟨g1, g2, fun i hi => ?_⟩
      show va_up f k (zcp (f k) (zcap S k)) j i = (S.1 j).getD i 0
      rw [← g3 i hi]
      simp [va_up, ej]
end GROW
end ZRE
end
section
-- single instructions that need a word or a test
section ZMI
variable {p : Program} {l : Launch} {e : Env} {R : Room} {s : State} {m : MethodId} {args : Array Value} {below : List Frame} {meth : Method} {c : Code} {nL : Nat} {A : Nat → Prop} {σ : Type} {Rep : σ → Heap → Prop} {fc fs : σ → Nat} {cc : ByteArray} {T : List zTr} {own : String} {ret : Option FieldType} {S : σ} {pc tgt idx : Nat} {v0 : Int32} {lv : zLv} {rest : List Value} {E : σ × Option Value}
theorem sw_ldc (C0 : zC p s m args meth c cc nL own zwl T ret) {v : Int32} (hc : Cond.constant own idx v ∈ zwl) (hq : T.lookup pc = some (.ldc idx, 2, tgt, v0)) (k : SW p l e R s m args below meth c nL A Rep fc fs S (pc + 2) lv (.int v :: rest) E) : SW p l e R s m args below meth c nL A Rep fc fs S pc lv (rest) E := by
  obtain ⟨hx, hb, hml, hown, hts, hT, hr, hlocks⟩ := C0
  exact sw_W k (fun H locs cells slots ls h5 k => lv_ldc hx hb hown (hts _ hc) (hT.dec hq) (k h5))
theorem so_ldc {ρ : Type} {F : ρ → σ × Option Value} {w : Option ρ} (C0 : zC p s m args meth c cc nL own zwl T ret) {v : Int32} (hc : Cond.constant own idx v ∈ zwl) (hq : T.lookup pc = some (.ldc idx, 2, tgt, v0)) (k : SO p l e R s m args below meth c nL A Rep fc fs S (pc + 2) lv (.int v :: rest) F w) : SO p l e R s m args below meth c nL A Rep fc fs S pc lv (rest) F w := fun r hr => sw_ldc C0 hc hq (k r hr)
theorem sw_ldc2 (C0 : zC p s m args meth c cc nL own zwl T ret) {v : Int64} (hc : Cond.constantLong own idx v ∈ zwl) (hq : T.lookup pc = some (.ldc2_w idx, 3, tgt, v0)) (k : SW p l e R s m args below meth c nL A Rep fc fs S (pc + 3) lv (.long v :: rest) E) : SW p l e R s m args below meth c nL A Rep fc fs S pc lv (rest) E := by
  obtain ⟨hx, hb, hml, hown, hts, hT, hr, hlocks⟩ := C0
  exact sw_W k (fun H locs cells slots ls h5 k => lv_ldc2 hx hb hown (hts _ hc) (hT.dec hq) (k h5))
theorem so_ldc2 {ρ : Type} {F : ρ → σ × Option Value} {w : Option ρ} (C0 : zC p s m args meth c cc nL own zwl T ret) {v : Int64} (hc : Cond.constantLong own idx v ∈ zwl) (hq : T.lookup pc = some (.ldc2_w idx, 3, tgt, v0)) (k : SO p l e R s m args below meth c nL A Rep fc fs S (pc + 3) lv (.long v :: rest) F w) : SO p l e R s m args below meth c nL A Rep fc fs S pc lv (rest) F w := fun r hr => sw_ldc2 C0 hc hq (k r hr)
theorem sw_idiv (C0 : zC p s m args meth c cc nL own zwl T ret) {x y : Int32} (hc : ¬ y = 0) (hq : T.lookup pc = some (.idiv, 1, tgt, v0)) (k : SW p l e R s m args below meth c nL A Rep fc fs S (pc + 1) lv (.int (x / y) :: rest) E) : SW p l e R s m args below meth c nL A Rep fc fs S pc lv (.int y :: .int x :: rest) E := by
  obtain ⟨hx, hb, hml, hown, hts, hT, hr, hlocks⟩ := C0
  exact sw_W k (fun H locs cells slots ls h5 k => lv_idiv hx hb (hT.dec hq) hc (k h5))
theorem so_idiv {ρ : Type} {F : ρ → σ × Option Value} {w : Option ρ} (C0 : zC p s m args meth c cc nL own zwl T ret) {x y : Int32} (hc : ¬ y = 0) (hq : T.lookup pc = some (.idiv, 1, tgt, v0)) (k : SO p l e R s m args below meth c nL A Rep fc fs S (pc + 1) lv (.int (x / y) :: rest) F w) : SO p l e R s m args below meth c nL A Rep fc fs S pc lv (.int y :: .int x :: rest) F w := fun r hr => sw_idiv C0 hc hq (k r hr)
theorem sw_irem (C0 : zC p s m args meth c cc nL own zwl T ret) {x y : Int32} (hc : ¬ y = 0) (hq : T.lookup pc = some (.irem, 1, tgt, v0)) (k : SW p l e R s m args below meth c nL A Rep fc fs S (pc + 1) lv (.int (z_rem x y) :: rest) E) : SW p l e R s m args below meth c nL A Rep fc fs S pc lv (.int y :: .int x :: rest) E := by
  obtain ⟨hx, hb, hml, hown, hts, hT, hr, hlocks⟩ := C0
  exact sw_W k (fun H locs cells slots ls h5 k => lv_irem hx hb (hT.dec hq) hc (k h5))
theorem so_irem {ρ : Type} {F : ρ → σ × Option Value} {w : Option ρ} (C0 : zC p s m args meth c cc nL own zwl T ret) {x y : Int32} (hc : ¬ y = 0) (hq : T.lookup pc = some (.irem, 1, tgt, v0)) (k : SO p l e R s m args below meth c nL A Rep fc fs S (pc + 1) lv (.int (z_rem x y) :: rest) F w) : SO p l e R s m args below meth c nL A Rep fc fs S pc lv (.int y :: .int x :: rest) F w := fun r hr => sw_irem C0 hc hq (k r hr)
theorem sw_mmax (C0 : zC p s m args meth c cc nL own zwl T ret) {x y : Int32} (hl : Cond.methodLink own idx Lib.Math.max.name ∈ zwl) (hf : 1 ≤ R.frames) (hlo : 21 ≤ R.locals) (hW : (rest.map fun v => v.category).sum ≤ 8) (hq : T.lookup pc = some (.invokestatic idx, 3, tgt, v0)) (k : SW p l e R s m args below meth c nL A Rep fc fs S (pc + 3) lv (.int (if x < y then y else x) :: rest) E) : SW p l e R s m args below meth c nL A Rep fc fs S pc lv (.int y :: .int x :: rest) E := by
  obtain ⟨hx, hb, hml, hown, hts, hT, hr, hlocks⟩ := C0
  refine ⟨k.1, k.2.1, fun H locs cells slots ls h1 h2 h3 h4 h5 => ?_⟩
  have k1 := k.1
  have k2 := k.2.1
  exact va_mmax hx hb (by rw [hml]; exact h5.1.symm) hown (hts _ hl) (hts _ wd_3_198) (hts _ wd_1_7) (hts _ wd_3_199) hf (by omega) (by omega) (by omega) (hT.dec hq) (k.2.2 H locs cells slots ls h1 h2 h3 h4 h5)
end ZMI
end
section
-- Row.add, Row.refill: contracts
section ZRF
variable {cA : Nat → ClassId} {G : Nat → Nat} {S : zS} {A : Nat → Prop} {D : va_G} {l : Launch}
section ADD
variable {p : Program} {e : Env} {R : Room} {s : State} {m : MethodId} {args : Array Value} {below : List Frame} {meth : Method} {c : Code} {E : zS × Option Value}
set_option maxHeartbeats 8000000 in
theorem sw_add40 {k : Nat} {a1 : Int32} (hk : k < 43) (C0 : zC p s m args meth c prog_10_method_5_code 2 "RuleTree$Row" zwl T_Row_add (some .int)) (hK : va_K D zcl (ztys cA) s) (hE : E = zFi (if (S.1 k).length < zcap S k then (z_row S k (S.1 k ++ [a1]), nI (S.1 k).length) else (S, -1))) : zSW p l e R s m args below meth c 2 A D cA G S 40 [(0, .ref (G (11 + k))), (1, .int a1)] [] E := by
  subst hE
  by_cases h : (S.1 k).length < zcap S k
  · rw [if_pos h]
    refine ⟨Nat.le_refl _, Nat.le_refl _, fun H locs cells slots ls q1 q2 q3 q4 q5 => ?_⟩
    obtain ⟨aa, f, hP, hjj, hAA, hrr⟩ := id q1
    obtain ⟨g1, g2, g3⟩ := hrr k hk
    have C1 := C0
    obtain ⟨hx, hb, hml, hown, hts, hT, hr, hlocks⟩ := C0
    have he : (zws 97 (zad G aa) (zct cA G aa f S))[11 + k]? = some (G (11 + k), .inr (0, [.ref (aa k), .int (nI (S.1 k).length)])) := by rw [zws_at (by omega), zct_row hk, zad_lo (by omega)]
    have he2 : (zws 97 (zad G aa) (zct cA G aa f S))[54 + k]? = some (aa k, .inl (cA 0, zcap S k, .inl (f k))) := by rw [zws_at (by omega), zct_arr, zad_arr]
    have hlt : nI (S.1 k).length < nI (zcap S k) := (nI_ltI (by omega) (by omega)).mpr h
    refine zrun_ok hx hb hT 1 40 _ _ (pc' := 41) (lv' := [(0, .ref (G (11 + k))), (1, .int a1)]) (st' := [.ref (G (11 + k))]) rfl q5 (fun ls hl => ?_)
    refine va_get (D := D) (cl := zcl) (tys := ztys cA) (ci := 0) hx hb hts i_Row hown hK (zws_P hP) (11 + k) he rfl 1 (by decide) (hts _ wd_1_37) (fun _ h => h) rfl (hT.dec (pc := 41) rfl) ?_
    refine zrun_ok hx hb hT 1 44 _ _ (pc' := 45) (lv' := [(0, .ref (G (11 + k))), (1, .int a1)]) (st' := [.ref (G (11 + k)), .int (nI (S.1 k).length)]) rfl hl (fun ls hl => ?_)
    refine va_get (D := D) (cl := zcl) (tys := ztys cA) (ci := 0) hx hb hts i_Row hown hK (zws_P hP) (11 + k) he rfl 0 (by decide) (hts _ wd_1_36) (fun _ h => h) rfl (hT.dec (pc := 45) rfl) ?_
    refine va_alen (D := D) (cl := zcl) (tys := ztys cA) hx hb hK (zws_P hP) (54 + k) 0 he2 rfl (v := nI (zcap S k)) rfl (hT.dec (pc := 48) rfl) ?_
    refine lv_icmp_lt (tgt := 54) hx hb (hT.dec (pc := 49) rfl) (by decide) (fun _ => ?_) (fun q => absurd hlt q)
    refine zrun_ok hx hb hT 1 54 _ _ (pc' := 55) (lv' := [(0, .ref (G (11 + k))), (1, .int a1)]) (st' := [.ref (G (11 + k))]) rfl hl (fun ls hl => ?_)
    refine va_get (D := D) (cl := zcl) (tys := ztys cA) (ci := 0) hx hb hts i_Row hown hK (zws_P hP) (11 + k) he rfl 0 (by decide) (hts _ wd_1_36) (fun _ h => h) rfl (hT.dec (pc := 55) rfl) ?_
    refine zrun_ok hx hb hT 1 58 _ _ (pc' := 59) (lv' := [(0, .ref (G (11 + k))), (1, .int a1)]) (st' := [.ref (G (11 + k)), .ref (aa k)]) rfl hl (fun ls hl => ?_)
    refine va_get (D := D) (cl := zcl) (tys := ztys cA) (ci := 0) hx hb hts i_Row hown hK (zws_P hP) (11 + k) he rfl 1 (by decide) (hts _ wd_1_37) (fun _ h => h) rfl (hT.dec (pc := 59) rfl) ?_
    refine zrun_ok hx hb hT 1 62 _ _ (pc' := 63) (lv' := [(0, .ref (G (11 + k))), (1, .int a1)]) (st' := [.int a1, .int (nI (S.1 k).length), .ref (aa k)]) rfl hl (fun ls hl => ?_)
    refine va_iast (D := D) (cl := zcl) (tys := ztys cA) (ws := zws 97 (zad G aa) (zct cA G aa f S)) hx hb hK (zws_P hP) (zws_D hjj hAA) q2 (54 + k) 0 he2 rfl (vp_in_nI h (by omega)) (hT.dec (pc := 63) rfl) (fun H1 locs1 hP1 hD1 hS1 => ?_)
    have hset : (zws 97 (zad G aa) (zct cA G aa f S)).set (54 + k) (aa k, .inl (cA 0, zcap S k, .inl (upd (f k) (nI (S.1 k).length).toNatClampNeg a1))) = zws 97 (zad G aa) (zct cA G aa (va_up f k (upd (f k) (S.1 k).length a1)) S) := by
      rw [show aa k = zad G aa (54 + k) from zad_arr.symm, zws_set, nI_clamp (by omega)]
      refine zws_congr (fun _ _ => rfl) (fun i hi => ?_)
      exact zct_upA (S := S) (S' := S) (fun o ho => rfl) rfl (fun q => rfl) rfl i hi
    rw [hset] at hP1 hD1
    have he1 : (zws 97 (zad G aa) (zct cA G aa (va_up f k (upd (f k) (S.1 k).length a1)) S))[11 + k]? = some (G (11 + k), .inr (0, [.ref (aa k), .int (nI (S.1 k).length)])) := by rw [zws_at (by omega), zct_row hk, zad_lo (by omega)]
    refine zrun_ok hx hb hT 2 64 _ _ (pc' := 66) (lv' := [(0, .ref (G (11 + k))), (1, .int a1)]) (st' := [.ref (G (11 + k)), .ref (G (11 + k))]) rfl hl (fun ls hl => ?_)
    refine va_get (D := D) (cl := zcl) (tys := ztys cA) (ci := 0) hx hb hts i_Row hown hK hP1 (11 + k) he1 rfl 1 (by decide) (hts _ wd_1_37) (fun _ h => h) rfl (hT.dec (pc := 66) rfl) ?_
    refine zrun_ok hx hb hT 2 69 _ _ (pc' := 71) (lv' := [(0, .ref (G (11 + k))), (1, .int a1)]) (st' := [.int (nI (S.1 k).length + 1), .ref (G (11 + k))]) rfl hl (fun ls hl => ?_)
    rw [nI_1]
    refine va_put (D := D) (cl := zcl) (tys := ztys cA) (ci := 0) (ty := .int) hx hb hts i_Row t_Row t_Row_ok n_Row hown hK hP1 hD1 hS1 (11 + k) he1 rfl 1 (by decide) (hts _ wd_1_37) (fun _ h9 => h9) rfl (by decide +kernel) rfl rfl (Nat.le_of_ble_eq_true rfl) (hT.dec (pc := 71) rfl) (fun H2 locs2 hP2 hD2 hS2 => ?_)
    have hset2 : (zws 97 (zad G aa) (zct cA G aa (va_up f k (upd (f k) (S.1 k).length a1)) S)).set (11 + k) (G (11 + k), .inr (0, [.ref (aa k), .int (nI ((S.1 k).length + 1))])) = zws 97 (zad G aa) (zct cA G aa (va_up f k (upd (f k) (S.1 k).length a1)) (z_row S k (S.1 k ++ [a1]))) := by
      rw [show G (11 + k) = zad G aa (11 + k) from (zad_lo (by omega)).symm, zws_set]
      refine zws_congr (fun _ _ => rfl) (fun i hi => ?_)
      rw [← zct_upR hk i hi, List.length_append]
      rfl
    have hP2 : va_P D zcl ((zws 97 (zad G aa) (zct cA G aa (va_up f k (upd (f k) (S.1 k).length a1)) S)).set (11 + k) (G (11 + k), .inr (0, [.ref (aa k), .int (nI ((S.1 k).length + 1))]))) H2 := hP2
    have hD2 : va_D A ((zws 97 (zad G aa) (zct cA G aa (va_up f k (upd (f k) (S.1 k).length a1)) S)).set (11 + k) (G (11 + k), .inr (0, [.ref (aa k), .int (nI ((S.1 k).length + 1))]))) := hD2
    rw [hset2] at hP2 hD2
    have hlen : ((z_row S k (S.1 k ++ [a1])).1 k).length = (S.1 k).length + 1 := by simp [z_row, va_up]
    have K : zSW p l e R s m args below meth c 2 A D cA G (z_row S k (S.1 k ++ [a1])) 74 [(0, .ref (G (11 + k))), (1, .int a1)] [] (zFi (z_row S k (S.1 k ++ [a1]), nI (S.1 k).length)) := by
      refine sw_go C1 1 (pc' := 75) (lv' := [(0, .ref (G (11 + k))), (1, .int a1)]) (st' := [.ref (G (11 + k))]) rfl ?_
      refine sw_rsz C1 hK hk wd_1_37 rfl ?_
      rw [hlen]
      refine sw_go C1 2 (pc' := 80) (lv' := [(0, .ref (G (11 + k))), (1, .int a1)]) (st' := [.int (nI ((S.1 k).length + 1) - 1)]) rfl ?_
      rw [nI_pred]
      exact sw_reti C1 rfl rfl
    refine K.2.2 H2 locs2 cells slots ls (zRep_mk hP2 hD2 (fun j hj2 => ?_)) hS2 q3 q4 hl
    obtain ⟨g1, g2, g3⟩ := hrr j hj2
    by_cases ej : j = k
    · subst ej
      refine ⟨by rw [hlen]; exact h, g2, fun i hi => ?_⟩
      rw [hlen] at hi
      show va_up f j (upd (f j) (S.1 j).length a1) j i = ((z_row S j (S.1 j ++ [a1])).1 j).getD i 0
      by_cases ei : i = (S.1 j).length
      · subst ei; simp [va_up, upd, z_row, List.getD]
      · have hi2 : i < (S.1 j).length := by omega
        have := g3 i hi2
        simp only [va_up, upd, z_row, ei, if_true, if_false, List.getD] at this ⊢
        rw [this, List.getElem?_append_left hi2]
    · refine ⟨?_, g2, fun i hi => ?_⟩
      · show ((z_row S k (S.1 k ++ [a1])).1 j).length ≤ zcap S j
        simp only [z_row, va_up, ej, if_false]; exact g1
      · simp only [z_row, va_up, ej, if_false] at hi ⊢
        exact g3 i hi
  · rw [if_neg h]
    refine ⟨Nat.le_refl _, Nat.le_refl _, fun H locs cells slots ls q1 q2 q3 q4 q5 => ?_⟩
    obtain ⟨aa, f, hP, hjj, hAA, hrr⟩ := id q1
    obtain ⟨g1, g2, g3⟩ := hrr k hk
    have hlt : ¬ nI (S.1 k).length < nI (zcap S k) := fun q => h ((nI_ltI (by omega) (by omega)).mp q)
    have K : zSW p l e R s m args below meth c 2 A D cA G S 40 [(0, .ref (G (11 + k))), (1, .int a1)] [] (zFi (S, -1)) := by
      refine sw_go C0 1 (pc' := 41) (lv' := [(0, .ref (G (11 + k))), (1, .int a1)]) (st' := [.ref (G (11 + k))]) rfl ?_
      refine sw_rsz C0 hK hk wd_1_37 rfl ?_
      refine sw_go C0 1 (pc' := 45) (lv' := [(0, .ref (G (11 + k))), (1, .int a1)]) (st' := [.ref (G (11 + k)), .int (nI (S.1 k).length)]) rfl ?_
      refine sw_rlen C0 hK hk wd_1_36 rfl rfl ?_
      refine sw_icmp_ltF C0 rfl hlt ?_
      refine sw_go C0 1 (pc' := 53) (lv' := [(0, .ref (G (11 + k))), (1, .int a1)]) (st' := [.int (-1)]) rfl ?_
      exact sw_reti C0 rfl rfl
    exact K.2.2 H locs cells slots ls q1 q2 q3 q4 q5
end ADD
set_option maxHeartbeats 8000000 in
theorem c_Row_add (k : Nat) (hk : k < 43) (a1 : Int32) : zMet l y_Row_add (zw y_Row_add prog_10_method_5_code 2 (some Jvm.ClassFile.FieldType.int)) 2 62 [.ref (G (11 + k)), .int a1] D zcl (ztys cA) A (zRep D cA G A) zfc zfs S (zFi (r_add S k a1)) := by
  have hm : zfc S ≤ zfc (zFi (r_add S k a1)).1 ∧ zfs S ≤ zfs (zFi (r_add S k a1)).1 := r_add_mono hk a1
  refine zMet_of hm (by decide) tk_Row_add (Nat.le_of_ble_eq_true rfl) ?_
  intro p e R s m args below meth c hf hlo C0 hK hA
  refine sw_go C0 1 (pc' := 1) (lv' := [(0, .ref (G (11 + k))), (1, .int a1)]) (st' := [.ref (G (11 + k))]) rfl ?_
  refine sw_rsz C0 hK hk wd_1_37 rfl ?_
  refine sw_go C0 1 (pc' := 5) (lv' := [(0, .ref (G (11 + k))), (1, .int a1)]) (st' := [.ref (G (11 + k)), .int (nI (S.1 k).length)]) rfl ?_
  refine sw_rlen C0 hK hk wd_1_36 rfl rfl ?_
  refine ⟨hm.1, hm.2, fun H locs cells slots ls q1 q2 q3 q4 q5 => ?_⟩
  obtain ⟨aa, f, hP, hjj, hAA, hrr⟩ := id q1
  obtain ⟨g1, g2, g3⟩ := hrr k hk
  have e1 : ∀ S' : zS, r_more S k = S' → S'.1 = S.1 → zFi (r_add S k a1) = zFi (if (S'.1 k).length < zcap S' k then (z_row S' k (S'.1 k ++ [a1]), nI (S'.1 k).length) else (S', -1)) := by
    intro S' h1 h2
    unfold r_add
    rw [h1, h2]
  have hg : ∀ S' : zS, r_more S k = S' → S'.1 = S.1 := by
    intro S' h
    rw [← h]
    unfold r_more
    split
    · rfl
    · split <;> rfl
  by_cases h : (S.1 k).length < zcap S k
  · have hmo : r_more S k = S := by unfold r_more; rw [if_pos h]
    exact (sw_icmp_ltT C0 rfl ((nI_ltI (by omega) (by omega)).mpr h) (sw_add40 hk C0 hK (e1 S hmo rfl))).2.2 H locs cells slots ls q1 q2 q3 q4 q5
  · have hlt : ¬ nI (S.1 k).length < nI (zcap S k) := fun q => h ((nI_ltI (by omega) (by omega)).mp q)
    have hz : ¬ nI (S.1 k).length < nI (zcap S k) := hlt
    by_cases h2 : 2097152 < zcap S k
    · have hmo : r_more S k = S := by unfold r_more; rw [if_neg h, if_pos h2]
      have hgt : (2097152 : Int32) < nI (zcap S k) := (nI_ltI (a := 2097152) (by omega) (by omega)).mpr h2
      refine (sw_icmp_ltF C0 rfl hlt (sw_go C0 1 (pc' := 13) (lv' := [(0, .ref (G (11 + k))), (1, .int a1)]) (st' := [.ref (G (11 + k))]) rfl (sw_rlen C0 hK hk wd_1_36 rfl rfl (sw_ldc C0 wd_1_104 rfl (sw_icmp_gtT C0 rfl hgt (sw_add40 hk C0 hK (e1 S hmo rfl))))))).2.2 H locs cells slots ls q1 q2 q3 q4 q5
    · have hmo : r_more S k = z_grow S k := by unfold r_more; rw [if_neg h, if_neg h2]
      have hgt : ¬ (2097152 : Int32) < nI (zcap S k) := fun q => h2 ((nI_ltI (a := 2097152) (by omega) (by omega)).mp q)
      refine (sw_icmp_ltF C0 rfl hlt (sw_go C0 1 (pc' := 13) (lv' := [(0, .ref (G (11 + k))), (1, .int a1)]) (st' := [.ref (G (11 + k))]) rfl (sw_rlen C0 hK hk wd_1_36 rfl rfl (sw_ldc C0 wd_1_104 rfl (sw_icmp_gtF C0 rfl hgt (sw_grow hk hf hlo C0 hK hA (by omega) (sw_add40 hk C0 hK (e1 (z_grow S k) hmo (hg _ hmo))))))))).2.2 H locs cells slots ls q1 q2 q3 q4 q5
end ZRF
end
section
-- receivers; Row.refill; the class's own numbers and bits
section ZCL
variable {cA : Nat → ClassId} {G : Nat → Nat} {S : zS} {A : Nat → Prop} {D : va_G} {l : Launch}
theorem zrc_row {s : State} {k : Nat} (hK : va_K D zcl (ztys cA) s) (hk : k < 43) : ∀ H, zRep D cA G A S H → zRc s "RuleTree$Row" (G (11 + k)) H := fun H h => by
  obtain ⟨aa, f, hP, -⟩ := h
  have hw := hP (11 + k) (by omega)
  rw [zct_row hk, zad_lo (by omega)] at hw
  exact va_recv hK (zP1 hw) (ci := 0) (q0 := 0) rfl rfl
theorem zrc_obj {s : State} {o : Nat} {q : vw_C} (hK : va_K D zcl (ztys cA) s) (ho : o < 10) (hc : zcl[o + 1]? = some q) : ∀ H, zRep D cA G A S H → zRc s q.1 (G o) H := fun H h => by
  obtain ⟨aa, f, hP, -⟩ := h
  have hw := hP o (by omega)
  rw [zct_obj ho, zad_lo (by omega)] at hw
  exact va_recv hK (zP1 hw) (ci := o + 1) (q0 := 0) hc rfl
theorem z_fl_mono {k : Nat} (hk : k < 43) (v : Int32) : ∀ n, zfc S ≤ zfc (z_fl S k v n) ∧ zfs S ≤ zfs (z_fl S k v n) := by
  intro n
  induction n with
  | zero => exact ⟨Nat.le_refl _, Nat.le_refl _⟩
  | succ n ih =>
    have := r_add_mono (S := z_fl S k v n) hk v
    exact ⟨Nat.le_trans ih.1 this.1, Nat.le_trans ih.2 this.2⟩
set_option maxHeartbeats 4000000 in
theorem c_Row_refill (k : Nat) (hk : k < 43) (a1 a2 : Int32) : zMet l y_Row_refill (zw y_Row_refill prog_10_method_8_code 4 none) 3 83 [.ref (G (11 + k)), .int a1, .int a2] D zcl (ztys cA) A (zRep D cA G A) zfc zfs S (zFv (r_fill S k a1 a2)) := by
  refine zMet_of (z_fl_mono hk a2 _) (by decide) tk_Row_refill (Nat.le_of_ble_eq_true rfl) ?_
  intro p e R s m args below meth c hf hlo C0 hK hA
  refine sw_go C0 2 (pc' := 2) (lv' := [(0, .ref (G (11 + k))), (1, .int a1), (2, .int a2)]) (st' := [.int 0, .ref (G (11 + k))]) rfl ?_
  refine sw_rput C0 hK hk (n := 0) wd_1_37 rfl (Nat.zero_le _) nI_0.symm ?_
  rw [List.take_zero]
  refine sw_go C0 2 (pc' := 7) (lv' := [(0, .ref (G (11 + k))), (1, .int a1), (2, .int a2), (3, .int 0)]) (st' := []) rfl ?_
  have loop : ∀ d j, j + d = a1.toInt.toNat → zSW p l e R s m args below meth c 4 A D cA G (z_fl S k a2 j) 7 [(0, .ref (G (11 + k))), (1, .int a1), (2, .int a2), (3, .int (nI j))] [] (zFv (r_fill S k a1 a2)) := by
    intro d
    have hb : a1.toInt < 2147483648 := Int32.toInt_lt a1
    induction d with
    | zero =>
      intro j hj
      refine sw_go C0 2 (pc' := 9) (lv' := [(0, .ref (G (11 + k))), (1, .int a1), (2, .int a2), (3, .int (nI j))]) (st' := [.int a1, .int (nI j)]) rfl ?_
      have hge : a1 ≤ nI j := by
        rw [Int32.le_iff_toInt_le, nI_toInt (by omega)]
        omega
      refine sw_icmp_geT C0 rfl hge ?_
      exact sw_retv C0 rfl (by unfold r_fill; rw [← hj]; rfl)
    | succ d ih =>
      intro j hj
      refine sw_go C0 2 (pc' := 9) (lv' := [(0, .ref (G (11 + k))), (1, .int a1), (2, .int a2), (3, .int (nI j))]) (st' := [.int a1, .int (nI j)]) rfl ?_
      have hge : ¬ a1 ≤ nI j := by
        rw [Int32.le_iff_toInt_le, nI_toInt (by omega)]
        omega
      refine sw_icmp_geF C0 rfl hge ?_
      refine sw_go C0 2 (pc' := 14) (lv' := [(0, .ref (G (11 + k))), (1, .int a1), (2, .int a2), (3, .int (nI j))]) (st' := [.int a2, .ref (G (11 + k))]) rfl ?_
      refine sw_callV (As := [.int a2]) (rest := []) C0 hK hA yk_Row_add (c_Row_add k hk a2) wd_1_100 rfl rfl ⟨by rw [hf]; decide, by rw [hlo]; decide⟩ (by decide) (zrc_row hK hk) ?_
      refine sw_go C0 3 (pc' := 7) (lv' := [(0, .ref (G (11 + k))), (1, .int a1), (2, .int a2), (3, .int (nI j + 1))]) (st' := []) rfl ?_
      rw [nI_1]
      exact ih (j + 1) (by omega)
  exact loop _ 0 (Nat.zero_add _)
/-- which object holds a number -/
def zsco : Nat → Nat
  | 0 => 0
  | 1 => 0
  | 2 => 3
  | 3 => 8
  | _ => 9
/-- a number of the class is put -/
theorem zobj_sc {o q : Nat} {x : Int32} (h : ¬ o = zsco q) (ho : o < 10) (hq : q < 5) : zobj G (z_sc S q x) o = zobj G S o := by
  match q, hq with
  | 0, _ => match o, ho, h with
    | 0, _, h => exact absurd rfl h
    | 1, _, _ => rfl
    | 2, _, _ => rfl
    | 3, _, _ => rfl
    | 4, _, _ => rfl
    | 5, _, _ => rfl
    | 6, _, _ => rfl
    | 7, _, _ => rfl
    | 8, _, _ => rfl
    | 9, _, _ => rfl
  | 1, _ => match o, ho, h with
    | 0, _, h => exact absurd rfl h
    | 1, _, _ => rfl
    | 2, _, _ => rfl
    | 3, _, _ => rfl
    | 4, _, _ => rfl
    | 5, _, _ => rfl
    | 6, _, _ => rfl
    | 7, _, _ => rfl
    | 8, _, _ => rfl
    | 9, _, _ => rfl
  | 2, _ => match o, ho, h with
    | 3, _, h => exact absurd rfl h
    | 0, _, _ => rfl
    | 1, _, _ => rfl
    | 2, _, _ => rfl
    | 4, _, _ => rfl
    | 5, _, _ => rfl
    | 6, _, _ => rfl
    | 7, _, _ => rfl
    | 8, _, _ => rfl
    | 9, _, _ => rfl
  | 3, _ => match o, ho, h with
    | 8, _, h => exact absurd rfl h
    | 0, _, _ => rfl
    | 1, _, _ => rfl
    | 2, _, _ => rfl
    | 3, _, _ => rfl
    | 4, _, _ => rfl
    | 5, _, _ => rfl
    | 6, _, _ => rfl
    | 7, _, _ => rfl
    | 9, _, _ => rfl
  | 4, _ => match o, ho, h with
    | 9, _, h => exact absurd rfl h
    | 0, _, _ => rfl
    | 1, _, _ => rfl
    | 2, _, _ => rfl
    | 3, _, _ => rfl
    | 4, _, _ => rfl
    | 5, _, _ => rfl
    | 6, _, _ => rfl
    | 7, _, _ => rfl
    | 8, _, _ => rfl
section RULES
variable {p : Program} {e : Env} {R : Room} {s : State} {m : MethodId} {args : Array Value} {below : List Frame} {meth : Method} {c : Code} {nL : Nat} {cc : ByteArray} {T : List zTr} {own : String} {ret : Option FieldType} {pc : Nat} {lv : zLv} {rest : List Value} {E : zS × Option Value}
theorem sw_putf (C0 : zC p s m args meth c cc nL own zwl T ret) (hK : va_K D zcl (ztys cA) s) {o j q idx tgt N : Nat} {v0 x : Int32} {Cn : String} {Tf : u_T} {ty0 : Nat → FieldType} (ho : o < 10) (hq5 : q < 5) (hoq : o = zsco q) (hc : zcl[o + 1]? = some (Cn, Tf, N)) (hin : ∀ w ∈ u_ws Cn Tf N, w ∈ zwl) (hty : ∀ k, k < N → parseFieldDescriptor (Tf k).2.2.1 = some (ty0 k)) (hnm : ∀ a, a < N → ∀ b, b < N → a ≠ b → (Tf a).2.1 ≠ (Tf b).2.1) (hj : j < N) (hjl : j < (zobj G S o).length) (hfin : (Tf j).2.2.2 = false) (hd : parseFieldDescriptor (Tf j).2.2.1 = some .int) (hl : Cond.fieldLink own idx (Tf j).1 (Tf j).2.1 (Tf j).2.2.1 ∈ zwl) (hset : (zobj G S o).set j (.int x) = zobj G (z_sc S q x) o) (hq : T.lookup pc = some (.putfield idx, 3, tgt, v0))
    (kk : zSW p l e R s m args below meth c nL A D cA G (z_sc S q x) (pc + 3) lv rest E) : zSW p l e R s m args below meth c nL A D cA G S pc lv (.int x :: .ref (G o) :: rest) E := by
  obtain ⟨hx, hb, hml, hown, hts, hT, hr, hlocks⟩ := C0
  refine ⟨kk.1, kk.2.1, fun H locs cells slots ls h1 h2 h3 h4 h5 => ?_⟩
  obtain ⟨aa, f, hP, hjj, hAA, hrr⟩ := id h1
  have he : (zws 97 (zad G aa) (zct cA G aa f S))[o]? = some (G o, .inr (o + 1, zobj G S o)) := by rw [zws_at (by omega), zct_obj ho, zad_lo (by omega)]
  refine va_put (D := D) (cl := zcl) (tys := ztys cA) (ci := o + 1) (ty := .int) hx hb hts hin ty0 hty hnm hown hK (zws_P hP) (zws_D hjj hAA) h2 o he hc j hj (hts _ hl) (fun _ h9 => h9) hfin hd rfl rfl hjl (hT.dec hq) (fun H1 locs1 hP1 hD1 hS1 => ?_)
  have hs : (zws 97 (zad G aa) (zct cA G aa f S)).set o (G o, .inr (o + 1, (zobj G S o).set j (.int x))) = zws 97 (zad G aa) (zct cA G aa f (z_sc S q x)) := by
    rw [show G o = zad G aa o from (zad_lo (by omega)).symm, zws_set]
    refine zws_congr (fun _ _ => rfl) (fun i hi => ?_)
    by_cases ei : i = o
    · subst ei
      rw [zct_obj ho]
      simp [va_up, hset]
    · simp only [va_up, ei, if_false]
      by_cases a : i < 10
      · rw [zct_obj a, zct_obj a, zobj_sc (by rw [← hoq]; exact ei) a hq5]
      · unfold zct
        rw [if_neg a, if_neg a]
        rfl
  rw [hs] at hP1 hD1
  exact kk.2.2 H1 locs1 cells slots ls (zRep_mk hP1 hD1 hrr) hS1 h3 h4 h5
theorem sw_laln (C0 : zC p s m args meth c cc nL own zwl T ret) (hK : va_K D zcl (ztys cA) s) {tgt : Nat} {v0 : Int32} (hq : T.lookup pc = some (.arraylength, 1, tgt, v0))
    (kk : zSW p l e R s m args below meth c nL A D cA G S (pc + 1) lv (.int 1024 :: rest) E) : zSW p l e R s m args below meth c nL A D cA G S pc lv (.ref (G 10) :: rest) E := by
  obtain ⟨hx, hb, hml, hown, hts, hT, hr, hlocks⟩ := C0
  refine ⟨kk.1, kk.2.1, fun H locs cells slots ls h1 h2 h3 h4 h5 => ?_⟩
  obtain ⟨aa, f, hP, hrest⟩ := id h1
  have hw := hP 10 (by omega)
  rw [zct_la, zad_lo (by omega)] at hw
  exact va_alen (D := D) (cl := zcl) (tys := ztys cA) hx hb hK (zP1 hw) 0 1 rfl rfl rfl (hT.dec hq) (kk.2.2 H locs cells slots ls h1 h2 h3 h4 h5)
theorem sw_lald (C0 : zC p s m args meth c cc nL own zwl T ret) (hK : va_K D zcl (ztys cA) s) {tgt : Nat} {v0 i : Int32} (h0 : ¬ i < 0) (hi : i < 1024) (hq : T.lookup pc = some (.laload, 1, tgt, v0))
    (kk : zSW p l e R s m args below meth c nL A D cA G S (pc + 1) lv (.long (S.2.2.2 i.toNatClampNeg) :: rest) E) : zSW p l e R s m args below meth c nL A D cA G S pc lv (.int i :: .ref (G 10) :: rest) E := by
  obtain ⟨hx, hb, hml, hown, hts, hT, hr, hlocks⟩ := C0
  refine ⟨kk.1, kk.2.1, fun H locs cells slots ls h1 h2 h3 h4 h5 => ?_⟩
  obtain ⟨aa, f, hP, hrest⟩ := id h1
  have hw := hP 10 (by omega)
  rw [zct_la, zad_lo (by omega)] at hw
  obtain ⟨j, hj, rfl⟩ := nI_of h0
  have hj2 : j < 1024 := (nI_ltI (b := 1024) hj (by omega)).mp hi
  exact va_lald (D := D) (cl := zcl) (tys := ztys cA) hx hb hK (zP1 hw) 0 1 rfl rfl (vp_in_nI hj2 (by omega)) (hT.dec hq) (kk.2.2 H locs cells slots ls h1 h2 h3 h4 h5)
theorem sw_last (C0 : zC p s m args meth c cc nL own zwl T ret) (hK : va_K D zcl (ztys cA) s) {tgt : Nat} {v0 i : Int32} {x : Int64} (h0 : ¬ i < 0) (hi : i < 1024) (hq : T.lookup pc = some (.lastore, 1, tgt, v0))
    (kk : zSW p l e R s m args below meth c nL A D cA G (z_lg S i.toNatClampNeg x) (pc + 1) lv rest E) : zSW p l e R s m args below meth c nL A D cA G S pc lv (.long x :: .int i :: .ref (G 10) :: rest) E := by
  obtain ⟨hx, hb, hml, hown, hts, hT, hr, hlocks⟩ := C0
  refine ⟨kk.1, kk.2.1, fun H locs cells slots ls h1 h2 h3 h4 h5 => ?_⟩
  obtain ⟨aa, f, hP, hjj, hAA, hrr⟩ := id h1
  have he : (zws 97 (zad G aa) (zct cA G aa f S))[10]? = some (G 10, .inl (cA 1, 1024, .inr (.inl S.2.2.2))) := by rw [zws_at (by omega), zct_la, zad_lo (by omega)]
  obtain ⟨j, hj, rfl⟩ := nI_of h0
  have hj2 : j < 1024 := (nI_ltI (b := 1024) hj (by omega)).mp hi
  refine va_last (D := D) (cl := zcl) (tys := ztys cA) hx hb hK (zws_P hP) (zws_D hjj hAA) h2 10 1 he rfl (vp_in_nI hj2 (by omega)) (hT.dec hq) (fun H1 locs1 hP1 hD1 hS1 => ?_)
  have hs : (zws 97 (zad G aa) (zct cA G aa f S)).set 10 (G 10, .inl (cA 1, 1024, .inr (.inl (vp_updL S.2.2.2 (nI j).toNatClampNeg x)))) = zws 97 (zad G aa) (zct cA G aa f (z_lg S (nI j).toNatClampNeg x)) := by
    rw [show G 10 = zad G aa 10 from (zad_lo (by omega)).symm, zws_set]
    refine zws_congr (fun _ _ => rfl) (fun i hi => ?_)
    by_cases ei : i = 10
    · subst ei
      rw [zct_la]
      simp [va_up]
      rfl
    · simp only [va_up, ei, if_false]
      unfold zct
      by_cases a : i < 10
      · rw [if_pos a, if_pos a]
        have : ∀ o, zobj G (z_lg S (nI j).toNatClampNeg x) o = zobj G S o := fun o => by unfold zobj; rfl
        rw [this]
      · rw [if_neg a, if_neg a, if_neg ei, if_neg ei]
        rfl
  rw [hs] at hP1 hD1
  exact kk.2.2 H1 locs1 cells slots ls (zRep_mk hP1 hD1 hrr) hS1 h3 h4 h5
end RULES
end ZCL
end
section
-- returns, named states, cost that never falls
section ZOP
variable {p : Program} {l : Launch} {e : Env} {R : Room} {s : State} {m : MethodId} {args : Array Value} {below : List Frame} {meth : Method} {c : Code} {nL : Nat} {A : Nat → Prop} {σ : Type} {Rep : σ → Heap → Prop} {fc fs : σ → Nat} {cc : ByteArray} {T : List zTr} {own : String} {Ts : List Cond} {ret : Option FieldType} {S : σ} {pc tgt : Nat} {v0 : Int32} {lv : zLv} {st rest : List Value} {E : σ × Option Value}
/-- a boolean method's answer is its lowest bit -/
def z_b (x : Int32) : Int32 := x &&& 1
theorem W_zretN {H : Heap} {locs : List Loc} {cells slots : Nat} {Qc : Array Value → State → Outcome → State → Prop} {free : Addr → Prop} {v w : Int32} {ty : FieldType} (hexec : p.tables.exec = Jvm.exec) (hb : c.code = cc) (hr : meth.sig.returnType = some ty) (hn : narrow ty (.int v) = .int w)
    (hq : ∀ t : State, t.heap = H → s.WarmedH t.vm → Qc args s (.returned (some (.int w))) t) (hf : ∀ q ∈ locs, free q.base)
    {pc : Nat} {ls : Array Slot} (hdg : decode cc pc = .ok (.ireturn, 1)) (hlocks : meth.locks = false) : W p l e R s m args below meth c H locs cells slots (MQ below Qc args s cells slots free) (F0 m pc ls [.int v]) := by
  intro T hT X
  obtain ⟨fs, hret, hrun, hended, hW, hframe⟩ := X.leave (v := some (.int w)) (fun h => by rw [hr] at h; cases h)
  have hmeth' : T.vm.method? m = some meth := X.method'
  refine ⟨T.setFrames fs, ?_, .returned (some (.int w)), hrun, hended, hq _ hT hW, locs, ⟨⟨_, rfl⟩, hW, hframe⟩, hf⟩
  jvm_step X.here [X.here.top, hexec, hb, hdg, hmeth', hr, hn]
  (try refine ⟨rfl, ?_⟩); (try refine ⟨rfl, ?_⟩)
  first | (intro acts; rw [hret _ acts rfl rfl rfl]) | rw [hret _ _ rfl rfl rfl]
  exact Steps.refl _
theorem z_b_ok (x : Int32) : narrow .boolean (.int x) = .int (z_b x) := rfl
theorem sw_retb (C0 : zC p s m args meth c cc nL own Ts T (some .boolean)) {x : Int32} (hq : T.lookup pc = some (.ireturn, 1, tgt, v0)) (hE : E = (S, some (.int (z_b x)))) : SW p l e R s m args below meth c nL A Rep fc fs S pc lv [.int x] E := by
  obtain ⟨hx, hb, hml, hown, hts, hT, hr, hlocks⟩ := C0
  subst hE
  refine ⟨Nat.le_refl _, Nat.le_refl _, fun H locs cells slots ls h1 h2 h3 h4 h5 => ?_⟩
  refine W.widen (k := R.cells) (n := R.slots) (by dsimp only at h3; omega) (by dsimp only at h4; omega) ?_
  exact W_zretN hx hb hr (z_b_ok x) (fun t ht hW => ⟨rfl, by rw [ht]; exact h1, h2.F ht⟩) h2.2.2 (hT.dec hq) hlocks
theorem so_reti {ρ : Type} {F : ρ → σ × Option Value} {w : ρ} (C0 : zC p s m args meth c cc nL own Ts T (some .int)) {x : Int32} (hq : T.lookup pc = some (.ireturn, 1, tgt, v0)) (hE : F w = (S, some (.int x))) : SO p l e R s m args below meth c nL A Rep fc fs S pc lv [.int x] F (some w) := fun r hr => by cases hr; exact sw_reti C0 hq hE
theorem so_retz {ρ : Type} {F : ρ → σ × Option Value} {w : ρ} (C0 : zC p s m args meth c cc nL own Ts T (some .boolean)) {x : Int32} (hq : T.lookup pc = some (.ireturn, 1, tgt, v0)) (hn : narrow .boolean (.int x) = .int x) (hE : F w = (S, some (.int x))) : SO p l e R s m args below meth c nL A Rep fc fs S pc lv [.int x] F (some w) := fun r hr => by cases hr; exact sw_retz C0 hq hn hE
theorem so_retb {ρ : Type} {F : ρ → σ × Option Value} {w : ρ} (C0 : zC p s m args meth c cc nL own Ts T (some .boolean)) {x : Int32} (hq : T.lookup pc = some (.ireturn, 1, tgt, v0)) (hE : F w = (S, some (.int (z_b x)))) : SO p l e R s m args below meth c nL A Rep fc fs S pc lv [.int x] F (some w) := fun r hr => by cases hr; exact sw_retb C0 hq hE
theorem so_retl {ρ : Type} {F : ρ → σ × Option Value} {w : ρ} (C0 : zC p s m args meth c cc nL own Ts T (some .long)) {x : Int64} (hq : T.lookup pc = some (.lreturn, 1, tgt, v0)) (hE : F w = (S, some (.long x))) : SO p l e R s m args below meth c nL A Rep fc fs S pc lv [.long x] F (some w) := fun r hr => by cases hr; exact sw_retl C0 hq hE
theorem so_retv {ρ : Type} {F : ρ → σ × Option Value} {w : ρ} (C0 : zC p s m args meth c cc nL own Ts T none) (hq : T.lookup pc = some (.return_, 1, tgt, v0)) (hE : F w = (S, none)) : SO p l e R s m args below meth c nL A Rep fc fs S pc lv [] F (some w) := fun r hr => by cases hr; exact sw_retv C0 hq hE
theorem sw_st {ρ : Type} (F : ρ → σ × Option Value) {x : σ} {K : σ → ρ} (k : ∀ S1 : σ, S1 = x → SW p l e R s m args below meth c nL A Rep fc fs S1 pc lv st (F (K S1))) : SW p l e R s m args below meth c nL A Rep fc fs x pc lv st (F (zbind x K)) := k x rfl
theorem so_st {ρ : Type} {F : ρ → σ × Option Value} {x : σ} {K : σ → Option ρ} (k : ∀ S1 : σ, S1 = x → SO p l e R s m args below meth c nL A Rep fc fs S1 pc lv st F (K S1)) : SO p l e R s m args below meth c nL A Rep fc fs x pc lv st F (zbind x K) := k x rfl
theorem so_of_sw {ρ : Type} {F : ρ → σ × Option Value} {x : Option ρ} {S2 : σ} {pc2 : Nat} {lv2 : zLv} {st2 : List Value} (h : ∀ E, SW p l e R s m args below meth c nL A Rep fc fs S2 pc2 lv2 st2 E → SW p l e R s m args below meth c nL A Rep fc fs S pc lv st E) (k : SO p l e R s m args below meth c nL A Rep fc fs S2 pc2 lv2 st2 F x) : SO p l e R s m args below meth c nL A Rep fc fs S pc lv st F x := fun r hr => h _ (k r hr)
theorem zpk {lv' : zLv} (ks : List Nat) (h : lv_pick lv ks = lv') : ∀ q ∈ lv', q ∈ lv := fun q hq => by
  rw [← h] at hq
  obtain ⟨k, -, hk⟩ := List.mem_filterMap.mp hq
  exact List.mem_of_getElem? hk
end ZOP
/-- the cost doesn't fall -/
def zmo (S S' : zS) : Prop := zfc S ≤ zfc S' ∧ zfs S ≤ zfs S'
theorem zmo_rf {S : zS} : zmo S S := ⟨Nat.le_refl _, Nat.le_refl _⟩
theorem zmo_tr {S S1 S2 : zS} (h : zmo S S1) (k : zmo S1 S2) : zmo S S2 := ⟨Nat.le_trans h.1 k.1, Nat.le_trans h.2 k.2⟩
theorem mo_if {ρ : Type} {g : ρ → zS} {S : zS} {b : Prop} [Decidable b] {r1 r2 : ρ} (h1 : zmo S (g r1)) (h2 : zmo S (g r2)) : zmo S (g (if b then r1 else r2)) := by
  by_cases h : b
  · rw [if_pos h]; exact h1
  · rw [if_neg h]; exact h2
theorem mo_n {ρ α : Type} {g : ρ → zS} {S : zS} {x : α} {K : α → ρ} (h : ∀ v, zmo S (g (K v))) : zmo S (g (zbind x K)) := h x
theorem mo_b {ρ : Type} {g : ρ → zS} {S x : zS} {K : zS → ρ} (h : zmo S x) (k : ∀ S1, zmo S1 (g (K S1))) : zmo S (g (zbind x K)) := zmo_tr h (k x)
theorem mo_b2 {ρ α : Type} {g : ρ → zS} {S : zS} {x : zS × α} {K : zS → α → ρ} (h : zmo S x.1) (k : ∀ S1 v, zmo S1 (g (K S1 v))) : zmo S (g (zbind2 x K)) := zmo_tr h (k x.1 x.2)
def zmO {ρ : Type} (g : ρ → zS) (S : zS) (x : Option ρ) : Prop := ∀ r, x = some r → zmo S (g r)
theorem mO_s {ρ : Type} {g : ρ → zS} {S : zS} {r : ρ} (h : zmo S (g r)) : zmO g S (some r) := fun q e => by cases e; exact h
theorem mO_0 {ρ : Type} {g : ρ → zS} {S : zS} : zmO g S none := fun q e => by cases e
theorem mO_if {ρ : Type} {g : ρ → zS} {S : zS} {b : Prop} [Decidable b] {r1 r2 : Option ρ} (h1 : zmO g S r1) (h2 : zmO g S r2) : zmO g S (if b then r1 else r2) := by
  by_cases h : b
  · rw [if_pos h]; exact h1
  · rw [if_neg h]; exact h2
theorem mO_n {ρ α : Type} {g : ρ → zS} {S : zS} {x : α} {K : α → Option ρ} (h : ∀ v, zmO g S (K v)) : zmO g S (zbind x K) := h x
theorem mO_b {ρ : Type} {g : ρ → zS} {S x : zS} {K : zS → Option ρ} (h : zmo S x) (k : ∀ S1, zmO g S1 (K S1)) : zmO g S (zbind x K) := fun r hr => zmo_tr h (k x r hr)
theorem mO_b2 {ρ α : Type} {g : ρ → zS} {S : zS} {x : zS × α} {K : zS → α → Option ρ} (h : zmo S x.1) (k : ∀ S1 v, zmO g S1 (K S1 v)) : zmO g S (zbind2 x K) := fun r hr => zmo_tr h (k x.1 x.2 r hr)
theorem mO_on {ρ α : Type} {g : ρ → zS} {S : zS} {x : Option α} {K : α → Option ρ} (k : ∀ v, zmO g S (K v)) : zmO g S (zob x K) := fun r hr => by
  cases x with
  | none => cases hr
  | some a => exact k a r hr
theorem mO_ob {ρ : Type} {g : ρ → zS} {S : zS} {x : Option zS} {K : zS → Option ρ} (h : zmO id S x) (k : ∀ S1, zmO g S1 (K S1)) : zmO g S (zob x K) := fun r hr => by
  cases x with
  | none => cases hr
  | some a => exact zmo_tr (h a rfl) (k a r hr)
theorem mO_ob2 {ρ α : Type} {g : ρ → zS} {S : zS} {x : Option (zS × α)} {K : zS → α → Option ρ} (h : zmO Prod.fst S x) (k : ∀ S1 v, zmO g S1 (K S1 v)) : zmO g S (zob2 x K) := fun r hr => by
  cases x with
  | none => cases hr
  | some a => exact zmo_tr (h a rfl) (k a.1 a.2 r hr)
theorem mo_r_set {S : zS} {k : Nat} {i v : Int32} : zmo S (r_set S k i v) := by
  unfold r_set
  split
  · exact zmo_rf
  · split <;> exact zmo_rf
theorem mo_r_take {S : zS} {k : Nat} : zmo S (r_take S k).1 := by
  unfold r_take
  split <;> exact zmo_rf
/-- far above what any loop of ints needs -/
def zbig : Nat := 4294967300
end
section
-- the same rules where the function may answer nothing
section ZSO
variable {cA : Nat → ClassId} {G : Nat → Nat} {S : zS} {A : Nat → Prop} {D : va_G} {l : Launch}
variable {p : Program} {e : Env} {R : Room} {s : State} {m : MethodId} {args : Array Value} {below : List Frame} {meth : Method} {c : Code} {nL : Nat} {cc : ByteArray} {T : List zTr} {own : String} {ret : Option FieldType} {pc : Nat} {lv : zLv} {rest : List Value}
theorem so_putf {ρ : Type} {F : ρ → zS × Option Value} {w : Option ρ} (C0 : zC p s m args meth c cc nL own zwl T ret) (hK : va_K D zcl (ztys cA) s) {o j q idx tgt N : Nat} {v0 x : Int32} {Cn : String} {Tf : u_T} {ty0 : Nat → FieldType} (ho : o < 10) (hq5 : q < 5) (hoq : o = zsco q) (hc : zcl[o + 1]? = some (Cn, Tf, N)) (hin : ∀ w ∈ u_ws Cn Tf N, w ∈ zwl) (hty : ∀ k, k < N → parseFieldDescriptor (Tf k).2.2.1 = some (ty0 k)) (hnm : ∀ a, a < N → ∀ b, b < N → a ≠ b → (Tf a).2.1 ≠ (Tf b).2.1) (hj : j < N) (hjl : j < (zobj G S o).length) (hfin : (Tf j).2.2.2 = false) (hd : parseFieldDescriptor (Tf j).2.2.1 = some .int) (hl : Cond.fieldLink own idx (Tf j).1 (Tf j).2.1 (Tf j).2.2.1 ∈ zwl) (hset : (zobj G S o).set j (.int x) = zobj G (z_sc S q x) o) (hq : T.lookup pc = some (.putfield idx, 3, tgt, v0))
    (kk : zSO p l e R s m args below meth c nL A D cA G (z_sc S q x) (pc + 3) lv rest F w) : zSO p l e R s m args below meth c nL A D cA G S pc lv (.int x :: .ref (G o) :: rest) F w := fun r hr => sw_putf C0 hK ho hq5 hoq hc hin hty hnm hj hjl hfin hd hl hset hq (kk r hr)
theorem so_mmax {σ : Type} {Rep : σ → Heap → Prop} {fc fs : σ → Nat} {S : σ} {idx tgt : Nat} {v0 : Int32} {ρ : Type} {F : ρ → σ × Option Value} {w : Option ρ} (C0 : zC p s m args meth c cc nL own zwl T ret) {x y : Int32} (hl : Cond.methodLink own idx Lib.Math.max.name ∈ zwl) (hf : 1 ≤ R.frames) (hlo : 21 ≤ R.locals) (hW : (rest.map fun v => v.category).sum ≤ 8) (hq : T.lookup pc = some (.invokestatic idx, 3, tgt, v0)) (k : SO p l e R s m args below meth c nL A Rep fc fs S (pc + 3) lv (.int (if x < y then y else x) :: rest) F w) : SO p l e R s m args below meth c nL A Rep fc fs S pc lv (.int y :: .int x :: rest) F w := fun r hr => sw_mmax C0 hl hf hlo hW hq (k r hr)
end ZSO
end
section
-- by program: the methods of RuleTree$Families, RuleTree$Pushed, as functions, and that the code does them
section ZM
variable {cA : Nat → ClassId} {G : Nat → Nat} {A : Nat → Prop} {D : va_G} {l : Launch}
def f_Fam_add (S : zS) (a1 : Int32) (a2 : Int64) : zS × Int32 :=
  zbind (r_size S 0) fun v1 =>
  if v1 < 0 then
    (S, (-2))
  else
    if v1 < 1024 then
      zbind (z_lg S v1.toNatClampNeg a2) fun S4 =>
      zbind2 (r_add S4 0 a1) fun S5 v6 =>
      (S5, v6)
    else
      (S, (-2))
theorem mo_Fam_add (S : zS) (a1 : Int32) (a2 : Int64) : zmo S (f_Fam_add S a1 a2).1 := by
  unfold f_Fam_add
  exact (mo_n (g := Prod.fst) fun v1 => (mo_if (g := Prod.fst) zmo_rf (mo_if (g := Prod.fst) (mo_b (g := Prod.fst) zmo_rf fun S4 => (mo_b2 (g := Prod.fst) (r_add_mono (by decide) a1) fun S5 v6 => zmo_rf)) zmo_rf)))
set_option maxHeartbeats 4000000 in
set_option maxRecDepth 20000 in
theorem c_Fam_add (S : zS) (a1 : Int32) (a2 : Int64) : zMet l y_Fam_add (zw y_Fam_add prog_2_method_3_code 5 (some Jvm.ClassFile.FieldType.int)) 3 83 [.ref (G 1), .int a1, .long a2] D zcl (ztys cA) A (zRep D cA G A) zfc zfs S (zFi (f_Fam_add S a1 a2)) := by
  refine zMet_of (mo_Fam_add S a1 a2) (by decide) tk_Fam_add (Nat.le_of_ble_eq_true rfl) ?_
  intro p e R s m args below meth c hf hlo C0 hK hA
  unfold f_Fam_add
  refine sw_go C0 1 (pc' := 1) (lv' := [(0, .ref (G 1)), (1, .int a1), (2, .long a2)]) (st' := [.ref (G 1)]) rfl ?_
  refine sw_getf C0 hK (o := 1) (j := 0) (v := .ref (G 11)) (by decide) rfl i_Fam (by decide) wd_1_44 rfl rfl ?_
  refine sw_cp (As := []) (rest := []) C0 hK hA yk_Row_size (c_Row_size 0 (by decide)) wd_2_126 rfl rfl ⟨by rw [hf]; decide, by rw [hlo]; decide⟩ (Nat.le_of_ble_eq_true rfl) (zrc_row (k := 0) hK (by decide)) ?_
  refine sw_nm zFi (V := .int) (fun v1 hv1 => ?_)
  refine sw_go C0 2 (pc' := 11) (lv' := [(0, .ref (G 1)), (1, .int a1), (2, .long a2), (4, .int v1)]) (st' := [.int v1]) rfl ?_
  refine sw_if_lt zFi C0 rfl (fun h2 => ?_) (fun h2 => ?_)
  · refine sw_go C0 1 (pc' := 26) (lv' := [(0, .ref (G 1)), (1, .int a1), (2, .long a2), (4, .int v1)]) (st' := [.int (-2)]) rfl ?_
    exact sw_reti C0 rfl rfl
  · refine sw_go C0 2 (pc' := 17) (lv' := [(0, .ref (G 1)), (1, .int a1), (2, .long a2), (4, .int v1)]) (st' := [.ref (G 1), .int v1]) rfl ?_
    refine sw_getf C0 hK (o := 1) (j := 1) (v := .ref (G 10)) (by decide) rfl i_Fam (by decide) wd_1_45 rfl rfl ?_
    refine sw_laln C0 hK rfl ?_
    refine sw_icmp_lt zFi C0 rfl (fun h3 => ?_) (fun h3 => ?_)
    · refine sw_go C0 1 (pc' := 28) (lv' := [(0, .ref (G 1)), (1, .int a1), (2, .long a2), (4, .int v1)]) (st' := [.ref (G 1)]) rfl ?_
      refine sw_getf C0 hK (o := 1) (j := 1) (v := .ref (G 10)) (by decide) rfl i_Fam (by decide) wd_1_45 rfl rfl ?_
      refine sw_go C0 2 (pc' := 34) (lv' := [(0, .ref (G 1)), (1, .int a1), (2, .long a2), (4, .int v1)]) (st' := [.long a2, .int v1, .ref (G 10)]) rfl ?_
      refine sw_last C0 hK (by assumption) (by first | assumption | exact Int32.not_le.mp (by assumption)) rfl ?_
      refine sw_st zFi (fun S4 hS4 => ?_)
      refine sw_go C0 1 (pc' := 36) (lv' := [(0, .ref (G 1)), (1, .int a1), (2, .long a2), (4, .int v1)]) (st' := [.ref (G 1)]) rfl ?_
      refine sw_getf C0 hK (o := 1) (j := 0) (v := .ref (G 11)) (by decide) rfl i_Fam (by decide) wd_1_44 rfl rfl ?_
      refine sw_go C0 1 (pc' := 40) (lv' := [(0, .ref (G 1)), (1, .int a1), (2, .long a2), (4, .int v1)]) (st' := [.int a1, .ref (G 11)]) rfl ?_
      refine sw_ci zFi (As := [.int a1]) (rest := []) C0 hK hA yk_Row_add (c_Row_add 0 (by decide) a1) wd_2_130 rfl rfl ⟨by rw [hf]; decide, by rw [hlo]; decide⟩ (Nat.le_of_ble_eq_true rfl) (zrc_row (k := 0) hK (by decide)) (fun S5 v6 hv6 => ?_)
      exact sw_reti C0 rfl rfl
    · refine sw_go C0 1 (pc' := 26) (lv' := [(0, .ref (G 1)), (1, .int a1), (2, .long a2), (4, .int v1)]) (st' := [.int (-2)]) rfl ?_
      exact sw_reti C0 rfl rfl
def f_Fam_hasTag (S : zS) (a1 : Int32) (a2 : Int32) : Int32 :=
  if a2 < 0 then
    0
  else
    if (r_at S 0 a1) ≤ a2 then
      0
    else
      1
set_option maxHeartbeats 4000000 in
set_option maxRecDepth 20000 in
theorem c_Fam_hasTag (S : zS) (a1 : Int32) (a2 : Int32) : zMet l y_Fam_hasTag (zw y_Fam_hasTag prog_2_method_5_code 3 (some Jvm.ClassFile.FieldType.boolean)) 1 21 [.ref (G 1), .int a1, .int a2] D zcl (ztys cA) A (zRep D cA G A) zfc zfs S ((zFp S) (f_Fam_hasTag S a1 a2)) := by
  refine zMet_of ⟨Nat.le_refl _, Nat.le_refl _⟩ (by decide) tk_Fam_hasTag (Nat.le_of_ble_eq_true rfl) ?_
  intro p e R s m args below meth c hf hlo C0 hK hA
  unfold f_Fam_hasTag
  refine sw_go C0 1 (pc' := 1) (lv' := [(0, .ref (G 1)), (1, .int a1), (2, .int a2)]) (st' := [.int a2]) rfl ?_
  refine sw_if_lt (zFp S) C0 rfl (fun h1 => ?_) (fun h1 => ?_)
  · refine sw_go C0 1 (pc' := 21) (lv' := [(0, .ref (G 1)), (1, .int a1), (2, .int a2)]) (st' := [.int 0]) rfl ?_
    exact sw_retz C0 rfl rfl rfl
  · refine sw_go C0 2 (pc' := 6) (lv' := [(0, .ref (G 1)), (1, .int a1), (2, .int a2)]) (st' := [.ref (G 1), .int a2]) rfl ?_
    refine sw_getf C0 hK (o := 1) (j := 0) (v := .ref (G 11)) (by decide) rfl i_Fam (by decide) wd_1_44 rfl rfl ?_
    refine sw_go C0 1 (pc' := 10) (lv' := [(0, .ref (G 1)), (1, .int a1), (2, .int a2)]) (st' := [.int a1, .ref (G 11), .int a2]) rfl ?_
    refine sw_cp (As := [.int a1]) (rest := [.int a2]) C0 hK hA yk_Row_at (c_Row_at 0 (by decide) a1) wd_2_165 rfl rfl ⟨by rw [hf]; decide, by rw [hlo]; decide⟩ (Nat.le_of_ble_eq_true rfl) (zrc_row (k := 0) hK (by decide)) ?_
    refine sw_icmp_ge (zFp S) C0 rfl (fun h2 => ?_) (fun h2 => ?_)
    · refine sw_go C0 1 (pc' := 21) (lv' := [(0, .ref (G 1)), (1, .int a1), (2, .int a2)]) (st' := [.int 0]) rfl ?_
      exact sw_retz C0 rfl rfl rfl
    · refine sw_go C0 2 (pc' := 21) (lv' := [(0, .ref (G 1)), (1, .int a1), (2, .int a2)]) (st' := [.int 1]) rfl ?_
      exact sw_retz C0 rfl rfl rfl
def f_Fam_takesArgument (S : zS) (a1 : Int32) (a2 : Int32) : Int32 :=
  if (f_Fam_hasTag S a1 a2) = 0 then
    0
  else
    if a1 < 0 then
      0
    else
      if 1024 ≤ a1 then
        0
      else
        if (lg_cmp ((z_lushr (S.2.2.2 a1.toNatClampNeg) a2) &&& 1) 0) = 0 then
          0
        else
          1
set_option maxHeartbeats 4000000 in
set_option maxRecDepth 20000 in
theorem c_Fam_takesArgument (S : zS) (a1 : Int32) (a2 : Int32) : zMet l y_Fam_takesArgument (zw y_Fam_takesArgument prog_2_method_6_code 3 (some Jvm.ClassFile.FieldType.boolean)) 2 43 [.ref (G 1), .int a1, .int a2] D zcl (ztys cA) A (zRep D cA G A) zfc zfs S ((zFp S) (f_Fam_takesArgument S a1 a2)) := by
  refine zMet_of ⟨Nat.le_refl _, Nat.le_refl _⟩ (by decide) tk_Fam_takesArgument (Nat.le_of_ble_eq_true rfl) ?_
  intro p e R s m args below meth c hf hlo C0 hK hA
  unfold f_Fam_takesArgument
  refine sw_go C0 3 (pc' := 3) (lv' := [(0, .ref (G 1)), (1, .int a1), (2, .int a2)]) (st' := [.int a2, .int a1, .ref (G 1)]) rfl ?_
  refine sw_cp (As := [.int a1, .int a2]) (rest := []) C0 hK hA yk_Fam_hasTag (c_Fam_hasTag S a1 a2) wd_2_170 rfl rfl ⟨by rw [hf]; decide, by rw [hlo]; decide⟩ (Nat.le_of_ble_eq_true rfl) (zrc_obj (o := 1) hK (by decide) rfl) ?_
  refine sw_if_eq (zFp S) C0 rfl (fun h1 => ?_) (fun h1 => ?_)
  · refine sw_go C0 1 (pc' := 42) (lv' := [(0, .ref (G 1)), (1, .int a1), (2, .int a2)]) (st' := [.int 0]) rfl ?_
    exact sw_retz C0 rfl rfl rfl
  · refine sw_go C0 1 (pc' := 10) (lv' := [(0, .ref (G 1)), (1, .int a1), (2, .int a2)]) (st' := [.int a1]) rfl ?_
    refine sw_if_lt (zFp S) C0 rfl (fun h2 => ?_) (fun h2 => ?_)
    · refine sw_go C0 1 (pc' := 42) (lv' := [(0, .ref (G 1)), (1, .int a1), (2, .int a2)]) (st' := [.int 0]) rfl ?_
      exact sw_retz C0 rfl rfl rfl
    · refine sw_go C0 2 (pc' := 15) (lv' := [(0, .ref (G 1)), (1, .int a1), (2, .int a2)]) (st' := [.ref (G 1), .int a1]) rfl ?_
      refine sw_getf C0 hK (o := 1) (j := 1) (v := .ref (G 10)) (by decide) rfl i_Fam (by decide) wd_1_45 rfl rfl ?_
      refine sw_laln C0 hK rfl ?_
      refine sw_icmp_ge (zFp S) C0 rfl (fun h3 => ?_) (fun h3 => ?_)
      · refine sw_go C0 1 (pc' := 42) (lv' := [(0, .ref (G 1)), (1, .int a1), (2, .int a2)]) (st' := [.int 0]) rfl ?_
        exact sw_retz C0 rfl rfl rfl
      · refine sw_go C0 1 (pc' := 23) (lv' := [(0, .ref (G 1)), (1, .int a1), (2, .int a2)]) (st' := [.ref (G 1)]) rfl ?_
        refine sw_getf C0 hK (o := 1) (j := 1) (v := .ref (G 10)) (by decide) rfl i_Fam (by decide) wd_1_45 rfl rfl ?_
        refine sw_go C0 1 (pc' := 27) (lv' := [(0, .ref (G 1)), (1, .int a1), (2, .int a2)]) (st' := [.int a1, .ref (G 10)]) rfl ?_
        refine sw_lald C0 hK (by assumption) (by first | assumption | exact Int32.not_le.mp (by assumption)) rfl ?_
        refine sw_go C0 6 (pc' := 34) (lv' := [(0, .ref (G 1)), (1, .int a1), (2, .int a2)]) (st' := [.int (lg_cmp ((z_lushr (S.2.2.2 a1.toNatClampNeg) a2) &&& 1) 0)]) rfl ?_
        refine sw_if_eq (zFp S) C0 rfl (fun h4 => ?_) (fun h4 => ?_)
        · refine sw_go C0 1 (pc' := 42) (lv' := [(0, .ref (G 1)), (1, .int a1), (2, .int a2)]) (st' := [.int 0]) rfl ?_
          exact sw_retz C0 rfl rfl rfl
        · refine sw_go C0 2 (pc' := 42) (lv' := [(0, .ref (G 1)), (1, .int a1), (2, .int a2)]) (st' := [.int 1]) rfl ?_
          exact sw_retz C0 rfl rfl rfl
def f_Psh_at (S : zS) (a1 : Int32) : Int32 :=
  (r_at S 10 a1)
set_option maxHeartbeats 4000000 in
set_option maxRecDepth 20000 in
theorem c_Psh_at (S : zS) (a1 : Int32) : zMet l y_Psh_at (zw y_Psh_at prog_9_method_3_code 2 (some Jvm.ClassFile.FieldType.int)) 1 21 [.ref (G 3), .int a1] D zcl (ztys cA) A (zRep D cA G A) zfc zfs S ((zFp S) (f_Psh_at S a1)) := by
  refine zMet_of ⟨Nat.le_refl _, Nat.le_refl _⟩ (by decide) tk_Psh_at (Nat.le_of_ble_eq_true rfl) ?_
  intro p e R s m args below meth c hf hlo C0 hK hA
  unfold f_Psh_at
  refine sw_go C0 1 (pc' := 1) (lv' := [(0, .ref (G 3)), (1, .int a1)]) (st' := [.ref (G 3)]) rfl ?_
  refine sw_getf C0 hK (o := 3) (j := 0) (v := .ref (G 21)) (by decide) rfl i_Psh (by decide) wd_1_121 rfl rfl ?_
  refine sw_go C0 1 (pc' := 5) (lv' := [(0, .ref (G 3)), (1, .int a1)]) (st' := [.int a1, .ref (G 21)]) rfl ?_
  refine sw_cp (As := [.int a1]) (rest := []) C0 hK hA yk_Row_at (c_Row_at 10 (by decide) a1) wd_2_187 rfl rfl ⟨by rw [hf]; decide, by rw [hlo]; decide⟩ (Nat.le_of_ble_eq_true rfl) (zrc_row (k := 10) hK (by decide)) ?_
  exact sw_reti C0 rfl rfl
def f_Psh_many (S : zS) : Int32 :=
  (S.2.2.1 2)
set_option maxHeartbeats 4000000 in
set_option maxRecDepth 20000 in
theorem c_Psh_many (S : zS) : zMet l y_Psh_many (zw y_Psh_many prog_9_method_2_code 1 (some Jvm.ClassFile.FieldType.int)) 0 0 [.ref (G 3)] D zcl (ztys cA) A (zRep D cA G A) zfc zfs S ((zFp S) (f_Psh_many S)) := by
  refine zMet_of ⟨Nat.le_refl _, Nat.le_refl _⟩ (by decide) tk_Psh_many (Nat.le_of_ble_eq_true rfl) ?_
  intro p e R s m args below meth c hf hlo C0 hK hA
  unfold f_Psh_many
  refine sw_go C0 1 (pc' := 1) (lv' := [(0, .ref (G 3))]) (st' := [.ref (G 3)]) rfl ?_
  refine sw_getf C0 hK (o := 3) (j := 1) (v := .int (S.2.2.1 2)) (by decide) rfl i_Psh (by decide) wd_1_122 rfl rfl ?_
  exact sw_reti C0 rfl rfl
def f_Psh_put (S : zS) (a1 : Int32) (a2 : Int32) : zS :=
  zbind (r_set S 10 a1 a2) fun S1 =>
  zbind (z_sc S1 2 ((S1.2.2.1 2) + 1)) fun S2 =>
  S2
theorem mo_Psh_put (S : zS) (a1 : Int32) (a2 : Int32) : zmo S (f_Psh_put S a1 a2) := by
  unfold f_Psh_put
  exact (mo_b (g := (fun x => x)) mo_r_set fun S1 => (mo_b (g := (fun x => x)) zmo_rf fun S2 => zmo_rf))
set_option maxHeartbeats 4000000 in
set_option maxRecDepth 20000 in
theorem c_Psh_put (S : zS) (a1 : Int32) (a2 : Int32) : zMet l y_Psh_put (zw y_Psh_put prog_9_method_4_code 3 none) 1 22 [.ref (G 3), .int a1, .int a2] D zcl (ztys cA) A (zRep D cA G A) zfc zfs S (zFv (f_Psh_put S a1 a2)) := by
  refine zMet_of (mo_Psh_put S a1 a2) (by decide) tk_Psh_put (Nat.le_of_ble_eq_true rfl) ?_
  intro p e R s m args below meth c hf hlo C0 hK hA
  unfold f_Psh_put
  refine sw_go C0 1 (pc' := 1) (lv' := [(0, .ref (G 3)), (1, .int a1), (2, .int a2)]) (st' := [.ref (G 3)]) rfl ?_
  refine sw_getf C0 hK (o := 3) (j := 0) (v := .ref (G 21)) (by decide) rfl i_Psh (by decide) wd_1_121 rfl rfl ?_
  refine sw_go C0 2 (pc' := 6) (lv' := [(0, .ref (G 3)), (1, .int a1), (2, .int a2)]) (st' := [.int a2, .int a1, .ref (G 21)]) rfl ?_
  refine sw_cV zFv (As := [.int a1, .int a2]) (rest := []) C0 hK hA yk_Row_set (c_Row_set 10 (by decide) a1 a2) wd_2_192 rfl rfl ⟨by rw [hf]; decide, by rw [hlo]; decide⟩ (Nat.le_of_ble_eq_true rfl) (zrc_row (k := 10) hK (by decide)) (fun S1 hS1 => ?_)
  refine sw_go C0 2 (pc' := 11) (lv' := [(0, .ref (G 3)), (1, .int a1), (2, .int a2)]) (st' := [.ref (G 3), .ref (G 3)]) rfl ?_
  refine sw_getf C0 hK (o := 3) (j := 1) (v := .int (S1.2.2.1 2)) (by decide) rfl i_Psh (by decide) wd_1_122 rfl rfl ?_
  refine sw_go C0 2 (pc' := 16) (lv' := [(0, .ref (G 3)), (1, .int a1), (2, .int a2)]) (st' := [.int ((S1.2.2.1 2) + 1), .ref (G 3)]) rfl ?_
  refine sw_putf C0 hK (o := 3) (j := 1) (q := 2) (by decide) (by decide) rfl rfl i_Psh t_Psh_ok n_Psh (by decide) (Nat.le_of_ble_eq_true rfl) rfl (by decide +kernel) wd_1_122 rfl rfl ?_
  refine sw_st zFv (fun S2 hS2 => ?_)
  exact sw_retv C0 rfl rfl
def f_Psh_empty (S : zS) : zS :=
  zbind (r_fill S 10 128 (-1)) fun S1 =>
  zbind (z_sc S1 2 0) fun S2 =>
  S2
theorem mo_Psh_empty (S : zS) : zmo S (f_Psh_empty S) := by
  unfold f_Psh_empty
  exact (mo_b (g := (fun x => x)) (z_fl_mono (by decide) _ _) fun S1 => (mo_b (g := (fun x => x)) zmo_rf fun S2 => zmo_rf))
set_option maxHeartbeats 4000000 in
set_option maxRecDepth 20000 in
theorem c_Psh_empty (S : zS) : zMet l y_Psh_empty (zw y_Psh_empty prog_9_method_6_code 1 none) 4 106 [.ref (G 3)] D zcl (ztys cA) A (zRep D cA G A) zfc zfs S (zFv (f_Psh_empty S)) := by
  refine zMet_of (mo_Psh_empty S) (by decide) tk_Psh_empty (Nat.le_of_ble_eq_true rfl) ?_
  intro p e R s m args below meth c hf hlo C0 hK hA
  unfold f_Psh_empty
  refine sw_go C0 1 (pc' := 1) (lv' := [(0, .ref (G 3))]) (st' := [.ref (G 3)]) rfl ?_
  refine sw_getf C0 hK (o := 3) (j := 0) (v := .ref (G 21)) (by decide) rfl i_Psh (by decide) wd_1_121 rfl rfl ?_
  refine sw_go C0 2 (pc' := 8) (lv' := [(0, .ref (G 3))]) (st' := [.int (-1), .int 128, .ref (G 21)]) rfl ?_
  refine sw_cV zFv (As := [.int 128, .int (-1)]) (rest := []) C0 hK hA yk_Row_refill (c_Row_refill 10 (by decide) 128 (-1)) wd_1_96 rfl rfl ⟨by rw [hf]; decide, by rw [hlo]; decide⟩ (Nat.le_of_ble_eq_true rfl) (zrc_row (k := 10) hK (by decide)) (fun S1 hS1 => ?_)
  refine sw_go C0 2 (pc' := 13) (lv' := [(0, .ref (G 3))]) (st' := [.int 0, .ref (G 3)]) rfl ?_
  refine sw_putf C0 hK (o := 3) (j := 1) (q := 2) (by decide) (by decide) rfl rfl i_Psh t_Psh_ok n_Psh (by decide) (Nat.le_of_ble_eq_true rfl) rfl (by decide +kernel) wd_1_122 rfl rfl ?_
  refine sw_st zFv (fun S2 hS2 => ?_)
  exact sw_retv C0 rfl rfl
def f_Psh_reachesTo_L2 : Nat → zS → Int32 → Option (Int32)
  | 0, _, _ => none
  | n + 1, S, x2 =>
    if 128 ≤ x2 then
      some 0
    else
      if (r_at S 10 x2) = (-1) then
        f_Psh_reachesTo_L2 n S (x2 + 1)
      else
        some 1
def f_Psh_reachesTo (S : zS) (a1 : Int32) : Option (Int32) :=
  f_Psh_reachesTo_L2 zbig S a1
set_option maxHeartbeats 4000000 in
set_option maxRecDepth 20000 in
theorem c_Psh_reachesTo (S : zS) (a1 : Int32) : ∀ r, f_Psh_reachesTo S a1 = some r → zMet l y_Psh_reachesTo (zw y_Psh_reachesTo prog_9_method_5_code 3 (some Jvm.ClassFile.FieldType.boolean)) 1 21 [.ref (G 3), .int a1] D zcl (ztys cA) A (zRep D cA G A) zfc zfs S ((zFp S) r) := by
  intro r hr
  refine zMet_of ⟨Nat.le_refl _, Nat.le_refl _⟩ (by decide) tk_Psh_reachesTo (Nat.le_of_ble_eq_true rfl) ?_
  intro p e R s m args below meth c hf hlo C0 hK hA
  have lp2 : ∀ (n : Nat) (x2 : Int32), zSO p l e R s m args below meth c 3 A D cA G S 2 [(0, .ref (G 3)), (2, .int x2)] [] (zFp S) (f_Psh_reachesTo_L2 n S x2) := by
    intro n
    induction n with
    | zero =>
      intro x2
      rw [f_Psh_reachesTo_L2]
      exact so_none
    | succ n ih2 =>
      intro x2
      rw [f_Psh_reachesTo_L2]
      refine so_go C0 2 (pc' := 6) (lv' := [(0, .ref (G 3)), (2, .int x2)]) (st' := [.int 128, .int x2]) rfl ?_
      refine so_icmp_ge C0 rfl (fun h1 => ?_) (fun h1 => ?_)
      · refine so_go C0 1 (pc' := 30) (lv' := [(0, .ref (G 3)), (2, .int x2)]) (st' := [.int 0]) rfl ?_
        exact so_retz C0 rfl rfl rfl
      · refine so_go C0 1 (pc' := 10) (lv' := [(0, .ref (G 3)), (2, .int x2)]) (st' := [.ref (G 3)]) rfl ?_
        refine so_getf C0 hK (o := 3) (j := 0) (v := .ref (G 21)) (by decide) rfl i_Psh (by decide) wd_1_121 rfl rfl ?_
        refine so_go C0 1 (pc' := 14) (lv' := [(0, .ref (G 3)), (2, .int x2)]) (st' := [.int x2, .ref (G 21)]) rfl ?_
        refine so_cp (As := [.int x2]) (rest := []) C0 hK hA yk_Row_at (c_Row_at 10 (by decide) x2) wd_2_187 rfl rfl ⟨by rw [hf]; decide, by rw [hlo]; decide⟩ (Nat.le_of_ble_eq_true rfl) (zrc_row (k := 10) hK (by decide)) ?_
        refine so_go C0 1 (pc' := 18) (lv' := [(0, .ref (G 3)), (2, .int x2)]) (st' := [.int (-1), .int (r_at S 10 x2)]) rfl ?_
        refine so_icmp_eq C0 rfl (fun h2 => ?_) (fun h2 => ?_)
        · refine so_go C0 2 (pc' := 2) (lv' := [(0, .ref (G 3)), (2, .int (x2 + 1))]) (st' := []) rfl ?_
          exact so_sub (lv' := [(0, .ref (G 3)), (2, .int (x2 + 1))]) (zpk [0, 1] rfl) (ih2 (x2 + 1))
        · refine so_go C0 1 (pc' := 22) (lv' := [(0, .ref (G 3)), (2, .int x2)]) (st' := [.int 1]) rfl ?_
          exact so_retz C0 rfl rfl rfl
  have K : zSO p l e R s m args below meth c 3 A D cA G S 0 (lv_args 0 [.ref (G 3), .int a1]) [] (zFp S) (f_Psh_reachesTo S a1) := by
    unfold f_Psh_reachesTo
    refine so_go C0 2 (pc' := 2) (lv' := [(0, .ref (G 3)), (1, .int a1), (2, .int a1)]) (st' := []) rfl ?_
    exact so_sub (lv' := [(0, .ref (G 3)), (2, .int a1)]) (zpk [0, 2] rfl) (lp2 zbig a1)
  exact K r hr
def f_Fam_empty (S : zS) : zS :=
  zbind (r_emp S 0) fun S1 =>
  S1
theorem mo_Fam_empty (S : zS) : zmo S (f_Fam_empty S) := by
  unfold f_Fam_empty
  exact (mo_b (g := (fun x => x)) zmo_rf fun S1 => zmo_rf)
set_option maxHeartbeats 4000000 in
set_option maxRecDepth 20000 in
theorem c_Fam_empty (S : zS) : zMet l y_Fam_empty (zw y_Fam_empty prog_2_method_7_code 1 none) 1 20 [.ref (G 1)] D zcl (ztys cA) A (zRep D cA G A) zfc zfs S (zFv (f_Fam_empty S)) := by
  refine zMet_of (mo_Fam_empty S) (by decide) tk_Fam_empty (Nat.le_of_ble_eq_true rfl) ?_
  intro p e R s m args below meth c hf hlo C0 hK hA
  unfold f_Fam_empty
  refine sw_go C0 1 (pc' := 1) (lv' := [(0, .ref (G 1))]) (st' := [.ref (G 1)]) rfl ?_
  refine sw_getf C0 hK (o := 1) (j := 0) (v := .ref (G 11)) (by decide) rfl i_Fam (by decide) wd_1_44 rfl rfl ?_
  refine sw_cV zFv (As := []) (rest := []) C0 hK hA yk_Row_empty (c_Row_empty 0 (by decide)) wd_3_154 rfl rfl ⟨by rw [hf]; decide, by rw [hlo]; decide⟩ (Nat.le_of_ble_eq_true rfl) (zrc_row (k := 0) hK (by decide)) (fun S1 hS1 => ?_)
  exact sw_retv C0 rfl rfl
def f_Fam_tags (S : zS) (a1 : Int32) : Int32 :=
  (r_at S 0 a1)
set_option maxHeartbeats 4000000 in
set_option maxRecDepth 20000 in
theorem c_Fam_tags (S : zS) (a1 : Int32) : zMet l y_Fam_tags (zw y_Fam_tags prog_2_method_4_code 2 (some Jvm.ClassFile.FieldType.int)) 1 21 [.ref (G 1), .int a1] D zcl (ztys cA) A (zRep D cA G A) zfc zfs S ((zFp S) (f_Fam_tags S a1)) := by
  refine zMet_of ⟨Nat.le_refl _, Nat.le_refl _⟩ (by decide) tk_Fam_tags (Nat.le_of_ble_eq_true rfl) ?_
  intro p e R s m args below meth c hf hlo C0 hK hA
  unfold f_Fam_tags
  refine sw_go C0 1 (pc' := 1) (lv' := [(0, .ref (G 1)), (1, .int a1)]) (st' := [.ref (G 1)]) rfl ?_
  refine sw_getf C0 hK (o := 1) (j := 0) (v := .ref (G 11)) (by decide) rfl i_Fam (by decide) wd_1_44 rfl rfl ?_
  refine sw_go C0 1 (pc' := 5) (lv' := [(0, .ref (G 1)), (1, .int a1)]) (st' := [.int a1, .ref (G 11)]) rfl ?_
  refine sw_cp (As := [.int a1]) (rest := []) C0 hK hA yk_Row_at (c_Row_at 0 (by decide) a1) wd_2_165 rfl rfl ⟨by rw [hf]; decide, by rw [hlo]; decide⟩ (Nat.le_of_ble_eq_true rfl) (zrc_row (k := 0) hK (by decide)) ?_
  exact sw_reti C0 rfl rfl
def f_Fam_size (S : zS) : Int32 :=
  (r_size S 0)
set_option maxHeartbeats 4000000 in
set_option maxRecDepth 20000 in
theorem c_Fam_size (S : zS) : zMet l y_Fam_size (zw y_Fam_size prog_2_method_2_code 1 (some Jvm.ClassFile.FieldType.int)) 1 20 [.ref (G 1)] D zcl (ztys cA) A (zRep D cA G A) zfc zfs S ((zFp S) (f_Fam_size S)) := by
  refine zMet_of ⟨Nat.le_refl _, Nat.le_refl _⟩ (by decide) tk_Fam_size (Nat.le_of_ble_eq_true rfl) ?_
  intro p e R s m args below meth c hf hlo C0 hK hA
  unfold f_Fam_size
  refine sw_go C0 1 (pc' := 1) (lv' := [(0, .ref (G 1))]) (st' := [.ref (G 1)]) rfl ?_
  refine sw_getf C0 hK (o := 1) (j := 0) (v := .ref (G 11)) (by decide) rfl i_Fam (by decide) wd_1_44 rfl rfl ?_
  refine sw_cp (As := []) (rest := []) C0 hK hA yk_Row_size (c_Row_size 0 (by decide)) wd_2_126 rfl rfl ⟨by rw [hf]; decide, by rw [hlo]; decide⟩ (Nat.le_of_ble_eq_true rfl) (zrc_row (k := 0) hK (by decide)) ?_
  exact sw_reti C0 rfl rfl
end ZM
end
