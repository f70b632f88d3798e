def lw_okq (q : MethodName × Nat) : Prop := (q.1.cls ≠ "java/lang/invoke/MethodHandle" ∧ q.1.cls ≠ "java/lang/invoke/VarHandle") ∧ Cond.instantiable q.1.cls q.2 ∈ tables_1 ∧ Cond.privateMethod q.1 ∈ tables_1 ∧ Cond.instanceMethod q.1 ∈ tables_1
theorem lw_p0 : lw_okq (⟨"DependencyPairAnalyzer$TextBuffer", "readTerm", "(LDependencyPairAnalyzer$Signature;LDependencyPairAnalyzer$Term;)Z"⟩, 4) := ⟨⟨by decide +kernel, by decide +kernel⟩, List.mem_of_getElem? (i := 89) (by decide +kernel), List.mem_of_getElem? (i := 397) (by decide +kernel), List.mem_of_getElem? (i := 398) (by decide +kernel)⟩
theorem lw_p1 : lw_okq (⟨"DependencyPairAnalyzer$TextBuffer", "take", "(I)Z"⟩, 4) := ⟨⟨by decide +kernel, by decide +kernel⟩, List.mem_of_getElem? (i := 89) (by decide +kernel), List.mem_of_getElem? (i := 429) (by decide +kernel), List.mem_of_getElem? (i := 430) (by decide +kernel)⟩
theorem lw_p2 : lw_okq (⟨"DependencyPairAnalyzer$TextBuffer", "readBehindArgument", "(I)I"⟩, 4) := ⟨⟨by decide +kernel, by decide +kernel⟩, List.mem_of_getElem? (i := 89) (by decide +kernel), List.mem_of_getElem? (i := 433) (by decide +kernel), List.mem_of_getElem? (i := 434) (by decide +kernel)⟩
theorem lw_p3 : lw_okq (⟨"DependencyPairAnalyzer", "rulesChanged", "()V"⟩, 16) := ⟨⟨by decide +kernel, by decide +kernel⟩, List.mem_of_getElem? (i := 19) (by decide +kernel), List.mem_of_getElem? (i := 455) (by decide +kernel), List.mem_of_getElem? (i := 456) (by decide +kernel)⟩
theorem lw_p4 : lw_okq (⟨"DependencyPairAnalyzer", "hasRule", "(I)Z"⟩, 16) := ⟨⟨by decide +kernel, by decide +kernel⟩, List.mem_of_getElem? (i := 19) (by decide +kernel), List.mem_of_getElem? (i := 463) (by decide +kernel), List.mem_of_getElem? (i := 464) (by decide +kernel)⟩
theorem lw_p5 : lw_okq (⟨"DependencyPairAnalyzer", "currentPairs", "()LDependencyPairAnalyzer$PairTable;"⟩, 16) := ⟨⟨by decide +kernel, by decide +kernel⟩, List.mem_of_getElem? (i := 19) (by decide +kernel), List.mem_of_getElem? (i := 496) (by decide +kernel), List.mem_of_getElem? (i := 497) (by decide +kernel)⟩
theorem lw_p6 : lw_okq (⟨"DependencyPairAnalyzer$PairTable", "connectPairs", "(LDependencyPairAnalyzer$RewriteSystem;)V"⟩, 5) := ⟨⟨by decide +kernel, by decide +kernel⟩, List.mem_of_getElem? (i := 168) (by decide +kernel), List.mem_of_getElem? (i := 537) (by decide +kernel), List.mem_of_getElem? (i := 538) (by decide +kernel)⟩
theorem lw_p7 : lw_okq (⟨"DependencyPairAnalyzer", "hasPair", "(I)Z"⟩, 16) := ⟨⟨by decide +kernel, by decide +kernel⟩, List.mem_of_getElem? (i := 19) (by decide +kernel), List.mem_of_getElem? (i := 569) (by decide +kernel), List.mem_of_getElem? (i := 570) (by decide +kernel)⟩
theorem lw_p8 : lw_okq (⟨"DependencyPairAnalyzer", "currentComponents", "()LDependencyPairAnalyzer$Components;"⟩, 16) := ⟨⟨by decide +kernel, by decide +kernel⟩, List.mem_of_getElem? (i := 19) (by decide +kernel), List.mem_of_getElem? (i := 623) (by decide +kernel), List.mem_of_getElem? (i := 624) (by decide +kernel)⟩
theorem lw_p9 : lw_okq (⟨"DependencyPairAnalyzer$PairGraph", "addRow", "(II)V"⟩, 1) := ⟨⟨by decide +kernel, by decide +kernel⟩, List.mem_of_getElem? (i := 174) (by decide +kernel), List.mem_of_getElem? (i := 645) (by decide +kernel), List.mem_of_getElem? (i := 646) (by decide +kernel)⟩
theorem lw_p10 : lw_okq (⟨"DependencyPairAnalyzer$Components", "numberFor", "(I)I"⟩, 5) := ⟨⟨by decide +kernel, by decide +kernel⟩, List.mem_of_getElem? (i := 207) (by decide +kernel), List.mem_of_getElem? (i := 649) (by decide +kernel), List.mem_of_getElem? (i := 650) (by decide +kernel)⟩
theorem lw_p11 : lw_okq (⟨"DependencyPairAnalyzer", "currentClosure", "()LDependencyPairAnalyzer$Closure;"⟩, 16) := ⟨⟨by decide +kernel, by decide +kernel⟩, List.mem_of_getElem? (i := 19) (by decide +kernel), List.mem_of_getElem? (i := 674) (by decide +kernel), List.mem_of_getElem? (i := 675) (by decide +kernel)⟩
theorem lw_p12 : lw_okq (⟨"DependencyPairAnalyzer$Closure", "include", "(I)V"⟩, 6) := ⟨⟨by decide +kernel, by decide +kernel⟩, List.mem_of_getElem? (i := 234) (by decide +kernel), List.mem_of_getElem? (i := 683) (by decide +kernel), List.mem_of_getElem? (i := 684) (by decide +kernel)⟩
theorem lw_p13 : lw_okq (⟨"DependencyPairAnalyzer$Closure", "slotOf", "(I)I"⟩, 6) := ⟨⟨by decide +kernel, by decide +kernel⟩, List.mem_of_getElem? (i := 234) (by decide +kernel), List.mem_of_getElem? (i := 687) (by decide +kernel), List.mem_of_getElem? (i := 688) (by decide +kernel)⟩
theorem lw_p14 : lw_okq (⟨"DependencyPairAnalyzer$Closure", "judge", "()V"⟩, 6) := ⟨⟨by decide +kernel, by decide +kernel⟩, List.mem_of_getElem? (i := 234) (by decide +kernel), List.mem_of_getElem? (i := 703) (by decide +kernel), List.mem_of_getElem? (i := 704) (by decide +kernel)⟩
theorem lw_p15 : lw_okq (⟨"DependencyPairAnalyzer$Elimination", "countChoices", "(LDependencyPairAnalyzer$PairTable;LDependencyPairAnalyzer$Components;ILDependencyPairAnalyzer$Signature;)V"⟩, 4) := ⟨⟨by decide +kernel, by decide +kernel⟩, List.mem_of_getElem? (i := 263) (by decide +kernel), List.mem_of_getElem? (i := 727) (by decide +kernel), List.mem_of_getElem? (i := 728) (by decide +kernel)⟩
def lw_privs_1 : List (MethodName × Nat) := [(⟨"DependencyPairAnalyzer$TextBuffer", "readTerm", "(LDependencyPairAnalyzer$Signature;LDependencyPairAnalyzer$Term;)Z"⟩, 4), (⟨"DependencyPairAnalyzer$TextBuffer", "take", "(I)Z"⟩, 4), (⟨"DependencyPairAnalyzer$TextBuffer", "readBehindArgument", "(I)I"⟩, 4), (⟨"DependencyPairAnalyzer", "rulesChanged", "()V"⟩, 16), (⟨"DependencyPairAnalyzer", "hasRule", "(I)Z"⟩, 16), (⟨"DependencyPairAnalyzer", "currentPairs", "()LDependencyPairAnalyzer$PairTable;"⟩, 16), (⟨"DependencyPairAnalyzer$PairTable", "connectPairs", "(LDependencyPairAnalyzer$RewriteSystem;)V"⟩, 5), (⟨"DependencyPairAnalyzer", "hasPair", "(I)Z"⟩, 16), (⟨"DependencyPairAnalyzer", "currentComponents", "()LDependencyPairAnalyzer$Components;"⟩, 16), (⟨"DependencyPairAnalyzer$PairGraph", "addRow", "(II)V"⟩, 1), (⟨"DependencyPairAnalyzer$Components", "numberFor", "(I)I"⟩, 5), (⟨"DependencyPairAnalyzer", "currentClosure", "()LDependencyPairAnalyzer$Closure;"⟩, 16), (⟨"DependencyPairAnalyzer$Closure", "include", "(I)V"⟩, 6), (⟨"DependencyPairAnalyzer$Closure", "slotOf", "(I)I"⟩, 6), (⟨"DependencyPairAnalyzer$Closure", "judge", "()V"⟩, 6), (⟨"DependencyPairAnalyzer$Elimination", "countChoices", "(LDependencyPairAnalyzer$PairTable;LDependencyPairAnalyzer$Components;ILDependencyPairAnalyzer$Signature;)V"⟩, 4)]
theorem lw_r1 : ∀ q ∈ lw_privs_1, lw_okq q := List.forall_mem_cons.mpr ⟨lw_p0, List.forall_mem_cons.mpr ⟨lw_p1, List.forall_mem_cons.mpr ⟨lw_p2, List.forall_mem_cons.mpr ⟨lw_p3, List.forall_mem_cons.mpr ⟨lw_p4, List.forall_mem_cons.mpr ⟨lw_p5, List.forall_mem_cons.mpr ⟨lw_p6, List.forall_mem_cons.mpr ⟨lw_p7, List.forall_mem_cons.mpr ⟨lw_p8, List.forall_mem_cons.mpr ⟨lw_p9, List.forall_mem_cons.mpr ⟨lw_p10, List.forall_mem_cons.mpr ⟨lw_p11, List.forall_mem_cons.mpr ⟨lw_p12, List.forall_mem_cons.mpr ⟨lw_p13, List.forall_mem_cons.mpr ⟨lw_p14, List.forall_mem_cons.mpr ⟨lw_p15, fun _ h => absurd h List.not_mem_nil⟩⟩⟩⟩⟩⟩⟩⟩⟩⟩⟩⟩⟩⟩⟩⟩
theorem lw_p16 : lw_okq (⟨"DependencyPairAnalyzer$Elimination", "allowChoices", "(ILDependencyPairAnalyzer$Signature;)V"⟩, 4) := ⟨⟨by decide +kernel, by decide +kernel⟩, List.mem_of_getElem? (i := 263) (by decide +kernel), List.mem_of_getElem? (i := 734) (by decide +kernel), List.mem_of_getElem? (i := 735) (by decide +kernel)⟩
theorem lw_p17 : lw_okq (⟨"DependencyPairAnalyzer$Elimination", "isValid", "(LDependencyPairAnalyzer$PairTable;LDependencyPairAnalyzer$Components;I)Z"⟩, 4) := ⟨⟨by decide +kernel, by decide +kernel⟩, List.mem_of_getElem? (i := 263) (by decide +kernel), List.mem_of_getElem? (i := 741) (by decide +kernel), List.mem_of_getElem? (i := 742) (by decide +kernel)⟩
theorem lw_p18 : lw_okq (⟨"DependencyPairAnalyzer$Elimination", "projected", "(I)I"⟩, 4) := ⟨⟨by decide +kernel, by decide +kernel⟩, List.mem_of_getElem? (i := 263) (by decide +kernel), List.mem_of_getElem? (i := 745) (by decide +kernel), List.mem_of_getElem? (i := 746) (by decide +kernel)⟩
theorem lw_p19 : lw_okq (⟨"DependencyPairAnalyzer$Elimination", "choiceOf", "(I)I"⟩, 4) := ⟨⟨by decide +kernel, by decide +kernel⟩, List.mem_of_getElem? (i := 263) (by decide +kernel), List.mem_of_getElem? (i := 749) (by decide +kernel), List.mem_of_getElem? (i := 750) (by decide +kernel)⟩
theorem lw_p20 : lw_okq (⟨"DependencyPairAnalyzer", "currentElimination", "()LDependencyPairAnalyzer$Elimination;"⟩, 16) := ⟨⟨by decide +kernel, by decide +kernel⟩, List.mem_of_getElem? (i := 19) (by decide +kernel), List.mem_of_getElem? (i := 762) (by decide +kernel), List.mem_of_getElem? (i := 763) (by decide +kernel)⟩
theorem lw_p21 : lw_okq (⟨"DependencyPairAnalyzer$Elimination", "removeDecreasing", "(LDependencyPairAnalyzer$PairTable;LDependencyPairAnalyzer$Signature;)Z"⟩, 4) := ⟨⟨by decide +kernel, by decide +kernel⟩, List.mem_of_getElem? (i := 263) (by decide +kernel), List.mem_of_getElem? (i := 772) (by decide +kernel), List.mem_of_getElem? (i := 773) (by decide +kernel)⟩
theorem lw_p22 : lw_okq (⟨"DependencyPairAnalyzer$Elimination", "removeStrict", "(LDependencyPairAnalyzer$PairTable;I)V"⟩, 4) := ⟨⟨by decide +kernel, by decide +kernel⟩, List.mem_of_getElem? (i := 263) (by decide +kernel), List.mem_of_getElem? (i := 777) (by decide +kernel), List.mem_of_getElem? (i := 778) (by decide +kernel)⟩
theorem lw_p23 : lw_okq (⟨"DependencyPairAnalyzer", "store", "(LDependencyPairAnalyzer$Term;I)I"⟩, 16) := ⟨⟨by decide +kernel, by decide +kernel⟩, List.mem_of_getElem? (i := 19) (by decide +kernel), List.mem_of_getElem? (i := 812) (by decide +kernel), List.mem_of_getElem? (i := 813) (by decide +kernel)⟩
theorem lw_p24 : lw_okq (⟨"DependencyPairAnalyzer$TextBuffer", "writeBehindArgument", "(I)I"⟩, 4) := ⟨⟨by decide +kernel, by decide +kernel⟩, List.mem_of_getElem? (i := 89) (by decide +kernel), List.mem_of_getElem? (i := 835) (by decide +kernel), List.mem_of_getElem? (i := 836) (by decide +kernel)⟩
theorem lw_p25 : lw_okq (⟨"DependencyPairAnalyzer", "hasPosition", "(II)Z"⟩, 16) := ⟨⟨by decide +kernel, by decide +kernel⟩, List.mem_of_getElem? (i := 19) (by decide +kernel), List.mem_of_getElem? (i := 871) (by decide +kernel), List.mem_of_getElem? (i := 872) (by decide +kernel)⟩
theorem lw_p26 : lw_okq (⟨"DependencyPairAnalyzer$Rewriter", "unbind", "()V"⟩, 2) := ⟨⟨by decide +kernel, by decide +kernel⟩, List.mem_of_getElem? (i := 113) (by decide +kernel), List.mem_of_getElem? (i := 880) (by decide +kernel), List.mem_of_getElem? (i := 881) (by decide +kernel)⟩
theorem lw_p27 : lw_okq (⟨"DependencyPairAnalyzer$Rewriter", "lowestRuleAt", "(LDependencyPairAnalyzer$RewriteSystem;LDependencyPairAnalyzer$Term;I)I"⟩, 2) := ⟨⟨by decide +kernel, by decide +kernel⟩, List.mem_of_getElem? (i := 113) (by decide +kernel), List.mem_of_getElem? (i := 896) (by decide +kernel), List.mem_of_getElem? (i := 897) (by decide +kernel)⟩
theorem lw_p28 : lw_okq (⟨"DependencyPairAnalyzer$Rewriter", "bindingOf", "(I)I"⟩, 2) := ⟨⟨by decide +kernel, by decide +kernel⟩, List.mem_of_getElem? (i := 113) (by decide +kernel), List.mem_of_getElem? (i := 924) (by decide +kernel), List.mem_of_getElem? (i := 925) (by decide +kernel)⟩
theorem lw_p29 : lw_okq (⟨"DependencyPairAnalyzer$Rewriter", "repeatsEarlier", "(I)Z"⟩, 2) := ⟨⟨by decide +kernel, by decide +kernel⟩, List.mem_of_getElem? (i := 113) (by decide +kernel), List.mem_of_getElem? (i := 948) (by decide +kernel), List.mem_of_getElem? (i := 949) (by decide +kernel)⟩
theorem lw_p30 : lw_okq (⟨"DependencyPairAnalyzer$Exploration", "discover", "(LDependencyPairAnalyzer$Term;)V"⟩, 8) := ⟨⟨by decide +kernel, by decide +kernel⟩, List.mem_of_getElem? (i := 128) (by decide +kernel), List.mem_of_getElem? (i := 963) (by decide +kernel), List.mem_of_getElem? (i := 964) (by decide +kernel)⟩
theorem lw_p31 : lw_okq (⟨"DependencyPairAnalyzer$Exploration", "insert", "(LDependencyPairAnalyzer$Term;I)V"⟩, 8) := ⟨⟨by decide +kernel, by decide +kernel⟩, List.mem_of_getElem? (i := 128) (by decide +kernel), List.mem_of_getElem? (i := 968) (by decide +kernel), List.mem_of_getElem? (i := 969) (by decide +kernel)⟩
def lw_privs_2 : List (MethodName × Nat) := [(⟨"DependencyPairAnalyzer$Elimination", "allowChoices", "(ILDependencyPairAnalyzer$Signature;)V"⟩, 4), (⟨"DependencyPairAnalyzer$Elimination", "isValid", "(LDependencyPairAnalyzer$PairTable;LDependencyPairAnalyzer$Components;I)Z"⟩, 4), (⟨"DependencyPairAnalyzer$Elimination", "projected", "(I)I"⟩, 4), (⟨"DependencyPairAnalyzer$Elimination", "choiceOf", "(I)I"⟩, 4), (⟨"DependencyPairAnalyzer", "currentElimination", "()LDependencyPairAnalyzer$Elimination;"⟩, 16), (⟨"DependencyPairAnalyzer$Elimination", "removeDecreasing", "(LDependencyPairAnalyzer$PairTable;LDependencyPairAnalyzer$Signature;)Z"⟩, 4), (⟨"DependencyPairAnalyzer$Elimination", "removeStrict", "(LDependencyPairAnalyzer$PairTable;I)V"⟩, 4), (⟨"DependencyPairAnalyzer", "store", "(LDependencyPairAnalyzer$Term;I)I"⟩, 16), (⟨"DependencyPairAnalyzer$TextBuffer", "writeBehindArgument", "(I)I"⟩, 4), (⟨"DependencyPairAnalyzer", "hasPosition", "(II)Z"⟩, 16), (⟨"DependencyPairAnalyzer$Rewriter", "unbind", "()V"⟩, 2), (⟨"DependencyPairAnalyzer$Rewriter", "lowestRuleAt", "(LDependencyPairAnalyzer$RewriteSystem;LDependencyPairAnalyzer$Term;I)I"⟩, 2), (⟨"DependencyPairAnalyzer$Rewriter", "bindingOf", "(I)I"⟩, 2), (⟨"DependencyPairAnalyzer$Rewriter", "repeatsEarlier", "(I)Z"⟩, 2), (⟨"DependencyPairAnalyzer$Exploration", "discover", "(LDependencyPairAnalyzer$Term;)V"⟩, 8), (⟨"DependencyPairAnalyzer$Exploration", "insert", "(LDependencyPairAnalyzer$Term;I)V"⟩, 8)]
theorem lw_r2 : ∀ q ∈ lw_privs_2, lw_okq q := List.forall_mem_cons.mpr ⟨lw_p16, List.forall_mem_cons.mpr ⟨lw_p17, List.forall_mem_cons.mpr ⟨lw_p18, List.forall_mem_cons.mpr ⟨lw_p19, List.forall_mem_cons.mpr ⟨lw_p20, List.forall_mem_cons.mpr ⟨lw_p21, List.forall_mem_cons.mpr ⟨lw_p22, List.forall_mem_cons.mpr ⟨lw_p23, List.forall_mem_cons.mpr ⟨lw_p24, List.forall_mem_cons.mpr ⟨lw_p25, List.forall_mem_cons.mpr ⟨lw_p26, List.forall_mem_cons.mpr ⟨lw_p27, List.forall_mem_cons.mpr ⟨lw_p28, List.forall_mem_cons.mpr ⟨lw_p29, List.forall_mem_cons.mpr ⟨lw_p30, List.forall_mem_cons.mpr ⟨lw_p31, fun _ h => absurd h List.not_mem_nil⟩⟩⟩⟩⟩⟩⟩⟩⟩⟩⟩⟩⟩⟩⟩⟩
theorem lw_p32 : lw_okq (⟨"DependencyPairAnalyzer$Exploration", "takeLowest", "()Z"⟩, 8) := ⟨⟨by decide +kernel, by decide +kernel⟩, List.mem_of_getElem? (i := 128) (by decide +kernel), List.mem_of_getElem? (i := 974) (by decide +kernel), List.mem_of_getElem? (i := 975) (by decide +kernel)⟩
theorem lw_p33 : lw_okq (⟨"DependencyPairAnalyzer$Exploration", "expandCurrent", "(LDependencyPairAnalyzer$RewriteSystem;LDependencyPairAnalyzer$Rewriter;)V"⟩, 8) := ⟨⟨by decide +kernel, by decide +kernel⟩, List.mem_of_getElem? (i := 128) (by decide +kernel), List.mem_of_getElem? (i := 978) (by decide +kernel), List.mem_of_getElem? (i := 979) (by decide +kernel)⟩
theorem lw_p34 : lw_okq (⟨"DependencyPairAnalyzer$Exploration", "noteNormalForm", "()V"⟩, 8) := ⟨⟨by decide +kernel, by decide +kernel⟩, List.mem_of_getElem? (i := 128) (by decide +kernel), List.mem_of_getElem? (i := 983) (by decide +kernel), List.mem_of_getElem? (i := 984) (by decide +kernel)⟩
theorem lw_p35 : lw_okq (⟨"DependencyPairAnalyzerModel", "setToZ", "(I)V"⟩, 41) := ⟨⟨by decide +kernel, by decide +kernel⟩, List.mem_of_getElem? (i := 1033) (by decide +kernel), List.mem_of_getElem? (i := 1041) (by decide +kernel), List.mem_of_getElem? (i := 1042) (by decide +kernel)⟩
theorem lw_p36 : lw_okq (⟨"DependencyPairAnalyzerModel", "parsesTerm", "()Z"⟩, 41) := ⟨⟨by decide +kernel, by decide +kernel⟩, List.mem_of_getElem? (i := 1033) (by decide +kernel), List.mem_of_getElem? (i := 1184) (by decide +kernel), List.mem_of_getElem? (i := 1185) (by decide +kernel)⟩
theorem lw_p37 : lw_okq (⟨"DependencyPairAnalyzerModel", "next", "()I"⟩, 41) := ⟨⟨by decide +kernel, by decide +kernel⟩, List.mem_of_getElem? (i := 1033) (by decide +kernel), List.mem_of_getElem? (i := 1188) (by decide +kernel), List.mem_of_getElem? (i := 1189) (by decide +kernel)⟩
theorem lw_p38 : lw_okq (⟨"DependencyPairAnalyzerModel", "arityOf", "(I)I"⟩, 41) := ⟨⟨by decide +kernel, by decide +kernel⟩, List.mem_of_getElem? (i := 1033) (by decide +kernel), List.mem_of_getElem? (i := 1198) (by decide +kernel), List.mem_of_getElem? (i := 1199) (by decide +kernel)⟩
theorem lw_p39 : lw_okq (⟨"DependencyPairAnalyzerModel", "accepts", "(I)Z"⟩, 41) := ⟨⟨by decide +kernel, by decide +kernel⟩, List.mem_of_getElem? (i := 1033) (by decide +kernel), List.mem_of_getElem? (i := 1202) (by decide +kernel), List.mem_of_getElem? (i := 1203) (by decide +kernel)⟩
theorem lw_p40 : lw_okq (⟨"DependencyPairAnalyzerModel", "isValidRule", "()Z"⟩, 41) := ⟨⟨by decide +kernel, by decide +kernel⟩, List.mem_of_getElem? (i := 1033) (by decide +kernel), List.mem_of_getElem? (i := 1209) (by decide +kernel), List.mem_of_getElem? (i := 1210) (by decide +kernel)⟩
theorem lw_p41 : lw_okq (⟨"DependencyPairAnalyzerModel", "isRule", "(I)Z"⟩, 41) := ⟨⟨by decide +kernel, by decide +kernel⟩, List.mem_of_getElem? (i := 1033) (by decide +kernel), List.mem_of_getElem? (i := 1226) (by decide +kernel), List.mem_of_getElem? (i := 1227) (by decide +kernel)⟩
theorem lw_p42 : lw_okq (⟨"DependencyPairAnalyzerModel", "findPairs", "()I"⟩, 41) := ⟨⟨by decide +kernel, by decide +kernel⟩, List.mem_of_getElem? (i := 1033) (by decide +kernel), List.mem_of_getElem? (i := 1246) (by decide +kernel), List.mem_of_getElem? (i := 1247) (by decide +kernel)⟩
theorem lw_p43 : lw_okq (⟨"DependencyPairAnalyzerModel", "isPair", "(I)Z"⟩, 41) := ⟨⟨by decide +kernel, by decide +kernel⟩, List.mem_of_getElem? (i := 1033) (by decide +kernel), List.mem_of_getElem? (i := 1254) (by decide +kernel), List.mem_of_getElem? (i := 1255) (by decide +kernel)⟩
theorem lw_p44 : lw_okq (⟨"DependencyPairAnalyzerModel", "sourceOf", "(I)I"⟩, 41) := ⟨⟨by decide +kernel, by decide +kernel⟩, List.mem_of_getElem? (i := 1033) (by decide +kernel), List.mem_of_getElem? (i := 1266) (by decide +kernel), List.mem_of_getElem? (i := 1267) (by decide +kernel)⟩
theorem lw_p45 : lw_okq (⟨"DependencyPairAnalyzerModel", "source", "(I)I"⟩, 41) := ⟨⟨by decide +kernel, by decide +kernel⟩, List.mem_of_getElem? (i := 1033) (by decide +kernel), List.mem_of_getElem? (i := 1270) (by decide +kernel), List.mem_of_getElem? (i := 1271) (by decide +kernel)⟩
theorem lw_p46 : lw_okq (⟨"DependencyPairAnalyzerModel", "targetOf", "(I)I"⟩, 41) := ⟨⟨by decide +kernel, by decide +kernel⟩, List.mem_of_getElem? (i := 1033) (by decide +kernel), List.mem_of_getElem? (i := 1278) (by decide +kernel), List.mem_of_getElem? (i := 1279) (by decide +kernel)⟩
theorem lw_p47 : lw_okq (⟨"DependencyPairAnalyzerModel", "target", "(I)I"⟩, 41) := ⟨⟨by decide +kernel, by decide +kernel⟩, List.mem_of_getElem? (i := 1033) (by decide +kernel), List.mem_of_getElem? (i := 1282) (by decide +kernel), List.mem_of_getElem? (i := 1283) (by decide +kernel)⟩
def lw_privs_3 : List (MethodName × Nat) := [(⟨"DependencyPairAnalyzer$Exploration", "takeLowest", "()Z"⟩, 8), (⟨"DependencyPairAnalyzer$Exploration", "expandCurrent", "(LDependencyPairAnalyzer$RewriteSystem;LDependencyPairAnalyzer$Rewriter;)V"⟩, 8), (⟨"DependencyPairAnalyzer$Exploration", "noteNormalForm", "()V"⟩, 8), (⟨"DependencyPairAnalyzerModel", "setToZ", "(I)V"⟩, 41), (⟨"DependencyPairAnalyzerModel", "parsesTerm", "()Z"⟩, 41), (⟨"DependencyPairAnalyzerModel", "next", "()I"⟩, 41), (⟨"DependencyPairAnalyzerModel", "arityOf", "(I)I"⟩, 41), (⟨"DependencyPairAnalyzerModel", "accepts", "(I)Z"⟩, 41), (⟨"DependencyPairAnalyzerModel", "isValidRule", "()Z"⟩, 41), (⟨"DependencyPairAnalyzerModel", "isRule", "(I)Z"⟩, 41), (⟨"DependencyPairAnalyzerModel", "findPairs", "()I"⟩, 41), (⟨"DependencyPairAnalyzerModel", "isPair", "(I)Z"⟩, 41), (⟨"DependencyPairAnalyzerModel", "sourceOf", "(I)I"⟩, 41), (⟨"DependencyPairAnalyzerModel", "source", "(I)I"⟩, 41), (⟨"DependencyPairAnalyzerModel", "targetOf", "(I)I"⟩, 41), (⟨"DependencyPairAnalyzerModel", "target", "(I)I"⟩, 41)]
theorem lw_r3 : ∀ q ∈ lw_privs_3, lw_okq q := List.forall_mem_cons.mpr ⟨lw_p32, List.forall_mem_cons.mpr ⟨lw_p33, List.forall_mem_cons.mpr ⟨lw_p34, List.forall_mem_cons.mpr ⟨lw_p35, List.forall_mem_cons.mpr ⟨lw_p36, List.forall_mem_cons.mpr ⟨lw_p37, List.forall_mem_cons.mpr ⟨lw_p38, List.forall_mem_cons.mpr ⟨lw_p39, List.forall_mem_cons.mpr ⟨lw_p40, List.forall_mem_cons.mpr ⟨lw_p41, List.forall_mem_cons.mpr ⟨lw_p42, List.forall_mem_cons.mpr ⟨lw_p43, List.forall_mem_cons.mpr ⟨lw_p44, List.forall_mem_cons.mpr ⟨lw_p45, List.forall_mem_cons.mpr ⟨lw_p46, List.forall_mem_cons.mpr ⟨lw_p47, fun _ h => absurd h List.not_mem_nil⟩⟩⟩⟩⟩⟩⟩⟩⟩⟩⟩⟩⟩⟩⟩⟩
theorem lw_p48 : lw_okq (⟨"DependencyPairAnalyzerModel", "isEdge", "(II)Z"⟩, 41) := ⟨⟨by decide +kernel, by decide +kernel⟩, List.mem_of_getElem? (i := 1033) (by decide +kernel), List.mem_of_getElem? (i := 1290) (by decide +kernel), List.mem_of_getElem? (i := 1291) (by decide +kernel)⟩
theorem lw_p49 : lw_okq (⟨"DependencyPairAnalyzerModel", "areArgumentsCompatible", "(II)Z"⟩, 41) := ⟨⟨by decide +kernel, by decide +kernel⟩, List.mem_of_getElem? (i := 1033) (by decide +kernel), List.mem_of_getElem? (i := 1294) (by decide +kernel), List.mem_of_getElem? (i := 1295) (by decide +kernel)⟩
theorem lw_p50 : lw_okq (⟨"DependencyPairAnalyzerModel", "argument", "([III)I"⟩, 41) := ⟨⟨by decide +kernel, by decide +kernel⟩, List.mem_of_getElem? (i := 1033) (by decide +kernel), List.mem_of_getElem? (i := 1298) (by decide +kernel), List.mem_of_getElem? (i := 1299) (by decide +kernel)⟩
theorem lw_p51 : lw_okq (⟨"DependencyPairAnalyzerModel", "end", "([II)I"⟩, 41) := ⟨⟨by decide +kernel, by decide +kernel⟩, List.mem_of_getElem? (i := 1033) (by decide +kernel), List.mem_of_getElem? (i := 1302) (by decide +kernel), List.mem_of_getElem? (i := 1303) (by decide +kernel)⟩
theorem lw_p52 : lw_okq (⟨"DependencyPairAnalyzerModel", "isCompatible", "(II)Z"⟩, 41) := ⟨⟨by decide +kernel, by decide +kernel⟩, List.mem_of_getElem? (i := 1033) (by decide +kernel), List.mem_of_getElem? (i := 1306) (by decide +kernel), List.mem_of_getElem? (i := 1307) (by decide +kernel)⟩
theorem lw_p53 : lw_okq (⟨"DependencyPairAnalyzerModel", "findGraph", "()V"⟩, 41) := ⟨⟨by decide +kernel, by decide +kernel⟩, List.mem_of_getElem? (i := 1033) (by decide +kernel), List.mem_of_getElem? (i := 1318) (by decide +kernel), List.mem_of_getElem? (i := 1319) (by decide +kernel)⟩
theorem lw_p54 : lw_okq (⟨"DependencyPairAnalyzerModel", "findComponents", "()V"⟩, 41) := ⟨⟨by decide +kernel, by decide +kernel⟩, List.mem_of_getElem? (i := 1033) (by decide +kernel), List.mem_of_getElem? (i := 1322) (by decide +kernel), List.mem_of_getElem? (i := 1323) (by decide +kernel)⟩
theorem lw_p55 : lw_okq (⟨"DependencyPairAnalyzerModel", "relation", "(III)I"⟩, 41) := ⟨⟨by decide +kernel, by decide +kernel⟩, List.mem_of_getElem? (i := 1033) (by decide +kernel), List.mem_of_getElem? (i := 1338) (by decide +kernel), List.mem_of_getElem? (i := 1339) (by decide +kernel)⟩
theorem lw_p56 : lw_okq (⟨"DependencyPairAnalyzerModel", "findClosure", "()Z"⟩, 41) := ⟨⟨by decide +kernel, by decide +kernel⟩, List.mem_of_getElem? (i := 1033) (by decide +kernel), List.mem_of_getElem? (i := 1349) (by decide +kernel), List.mem_of_getElem? (i := 1350) (by decide +kernel)⟩
theorem lw_p57 : lw_okq (⟨"DependencyPairAnalyzerModel", "addGraph", "(I)V"⟩, 41) := ⟨⟨by decide +kernel, by decide +kernel⟩, List.mem_of_getElem? (i := 1033) (by decide +kernel), List.mem_of_getElem? (i := 1356) (by decide +kernel), List.mem_of_getElem? (i := 1357) (by decide +kernel)⟩
theorem lw_p58 : lw_okq (⟨"DependencyPairAnalyzerModel", "compose", "(II)I"⟩, 41) := ⟨⟨by decide +kernel, by decide +kernel⟩, List.mem_of_getElem? (i := 1033) (by decide +kernel), List.mem_of_getElem? (i := 1360) (by decide +kernel), List.mem_of_getElem? (i := 1361) (by decide +kernel)⟩
theorem lw_p59 : lw_okq (⟨"DependencyPairAnalyzerModel", "findProjection", "(I)I"⟩, 41) := ⟨⟨by decide +kernel, by decide +kernel⟩, List.mem_of_getElem? (i := 1033) (by decide +kernel), List.mem_of_getElem? (i := 1383) (by decide +kernel), List.mem_of_getElem? (i := 1384) (by decide +kernel)⟩
theorem lw_p60 : lw_okq (⟨"DependencyPairAnalyzerModel", "isValid", "(I)Z"⟩, 41) := ⟨⟨by decide +kernel, by decide +kernel⟩, List.mem_of_getElem? (i := 1033) (by decide +kernel), List.mem_of_getElem? (i := 1387) (by decide +kernel), List.mem_of_getElem? (i := 1388) (by decide +kernel)⟩
theorem lw_p61 : lw_okq (⟨"DependencyPairAnalyzerModel", "eliminate", "()I"⟩, 41) := ⟨⟨by decide +kernel, by decide +kernel⟩, List.mem_of_getElem? (i := 1033) (by decide +kernel), List.mem_of_getElem? (i := 1395) (by decide +kernel), List.mem_of_getElem? (i := 1396) (by decide +kernel)⟩
theorem lw_p62 : lw_okq (⟨"DependencyPairAnalyzerModel", "format", "(I)I"⟩, 41) := ⟨⟨by decide +kernel, by decide +kernel⟩, List.mem_of_getElem? (i := 1033) (by decide +kernel), List.mem_of_getElem? (i := 1427) (by decide +kernel), List.mem_of_getElem? (i := 1428) (by decide +kernel)⟩
theorem lw_p63 : lw_okq (⟨"DependencyPairAnalyzerModel", "put", "(I)V"⟩, 41) := ⟨⟨by decide +kernel, by decide +kernel⟩, List.mem_of_getElem? (i := 1033) (by decide +kernel), List.mem_of_getElem? (i := 1431) (by decide +kernel), List.mem_of_getElem? (i := 1432) (by decide +kernel)⟩
def lw_privs_4 : List (MethodName × Nat) := [(⟨"DependencyPairAnalyzerModel", "isEdge", "(II)Z"⟩, 41), (⟨"DependencyPairAnalyzerModel", "areArgumentsCompatible", "(II)Z"⟩, 41), (⟨"DependencyPairAnalyzerModel", "argument", "([III)I"⟩, 41), (⟨"DependencyPairAnalyzerModel", "end", "([II)I"⟩, 41), (⟨"DependencyPairAnalyzerModel", "isCompatible", "(II)Z"⟩, 41), (⟨"DependencyPairAnalyzerModel", "findGraph", "()V"⟩, 41), (⟨"DependencyPairAnalyzerModel", "findComponents", "()V"⟩, 41), (⟨"DependencyPairAnalyzerModel", "relation", "(III)I"⟩, 41), (⟨"DependencyPairAnalyzerModel", "findClosure", "()Z"⟩, 41), (⟨"DependencyPairAnalyzerModel", "addGraph", "(I)V"⟩, 41), (⟨"DependencyPairAnalyzerModel", "compose", "(II)I"⟩, 41), (⟨"DependencyPairAnalyzerModel", "findProjection", "(I)I"⟩, 41), (⟨"DependencyPairAnalyzerModel", "isValid", "(I)Z"⟩, 41), (⟨"DependencyPairAnalyzerModel", "eliminate", "()I"⟩, 41), (⟨"DependencyPairAnalyzerModel", "format", "(I)I"⟩, 41), (⟨"DependencyPairAnalyzerModel", "put", "(I)V"⟩, 41)]
theorem lw_r4 : ∀ q ∈ lw_privs_4, lw_okq q := List.forall_mem_cons.mpr ⟨lw_p48, List.forall_mem_cons.mpr ⟨lw_p49, List.forall_mem_cons.mpr ⟨lw_p50, List.forall_mem_cons.mpr ⟨lw_p51, List.forall_mem_cons.mpr ⟨lw_p52, List.forall_mem_cons.mpr ⟨lw_p53, List.forall_mem_cons.mpr ⟨lw_p54, List.forall_mem_cons.mpr ⟨lw_p55, List.forall_mem_cons.mpr ⟨lw_p56, List.forall_mem_cons.mpr ⟨lw_p57, List.forall_mem_cons.mpr ⟨lw_p58, List.forall_mem_cons.mpr ⟨lw_p59, List.forall_mem_cons.mpr ⟨lw_p60, List.forall_mem_cons.mpr ⟨lw_p61, List.forall_mem_cons.mpr ⟨lw_p62, List.forall_mem_cons.mpr ⟨lw_p63, fun _ h => absurd h List.not_mem_nil⟩⟩⟩⟩⟩⟩⟩⟩⟩⟩⟩⟩⟩⟩⟩⟩
theorem lw_p64 : lw_okq (⟨"DependencyPairAnalyzerModel", "load", "(II)I"⟩, 41) := ⟨⟨by decide +kernel, by decide +kernel⟩, List.mem_of_getElem? (i := 1033) (by decide +kernel), List.mem_of_getElem? (i := 1455) (by decide +kernel), List.mem_of_getElem? (i := 1456) (by decide +kernel)⟩
theorem lw_p65 : lw_okq (⟨"DependencyPairAnalyzerModel", "isPosition", "(II)Z"⟩, 41) := ⟨⟨by decide +kernel, by decide +kernel⟩, List.mem_of_getElem? (i := 1033) (by decide +kernel), List.mem_of_getElem? (i := 1467) (by decide +kernel), List.mem_of_getElem? (i := 1468) (by decide +kernel)⟩
theorem lw_p66 : lw_okq (⟨"DependencyPairAnalyzerModel", "isMatch", "(I[II)Z"⟩, 41) := ⟨⟨by decide +kernel, by decide +kernel⟩, List.mem_of_getElem? (i := 1033) (by decide +kernel), List.mem_of_getElem? (i := 1471) (by decide +kernel), List.mem_of_getElem? (i := 1472) (by decide +kernel)⟩
theorem lw_p67 : lw_okq (⟨"DependencyPairAnalyzerModel", "redex", "([III)I"⟩, 41) := ⟨⟨by decide +kernel, by decide +kernel⟩, List.mem_of_getElem? (i := 1033) (by decide +kernel), List.mem_of_getElem? (i := 1482) (by decide +kernel), List.mem_of_getElem? (i := 1483) (by decide +kernel)⟩
theorem lw_p68 : lw_okq (⟨"DependencyPairAnalyzerModel", "matching", "([II)I"⟩, 41) := ⟨⟨by decide +kernel, by decide +kernel⟩, List.mem_of_getElem? (i := 1033) (by decide +kernel), List.mem_of_getElem? (i := 1486) (by decide +kernel), List.mem_of_getElem? (i := 1487) (by decide +kernel)⟩
theorem lw_p69 : lw_okq (⟨"DependencyPairAnalyzerModel", "rewrite", "([III)I"⟩, 41) := ⟨⟨by decide +kernel, by decide +kernel⟩, List.mem_of_getElem? (i := 1033) (by decide +kernel), List.mem_of_getElem? (i := 1498) (by decide +kernel), List.mem_of_getElem? (i := 1499) (by decide +kernel)⟩
theorem lw_p70 : lw_okq (⟨"DependencyPairAnalyzerModel", "meet", "([II)V"⟩, 41) := ⟨⟨by decide +kernel, by decide +kernel⟩, List.mem_of_getElem? (i := 1033) (by decide +kernel), List.mem_of_getElem? (i := 1511) (by decide +kernel), List.mem_of_getElem? (i := 1512) (by decide +kernel)⟩
theorem lw_p71 : lw_okq (⟨"DependencyPairAnalyzerModel", "isMet", "()Z"⟩, 41) := ⟨⟨by decide +kernel, by decide +kernel⟩, List.mem_of_getElem? (i := 1033) (by decide +kernel), List.mem_of_getElem? (i := 1515) (by decide +kernel), List.mem_of_getElem? (i := 1516) (by decide +kernel)⟩
theorem lw_p72 : lw_okq (⟨"DependencyPairAnalyzerModel", "wrongExploration", "(II)I"⟩, 41) := ⟨⟨by decide +kernel, by decide +kernel⟩, List.mem_of_getElem? (i := 1033) (by decide +kernel), List.mem_of_getElem? (i := 1523) (by decide +kernel), List.mem_of_getElem? (i := 1524) (by decide +kernel)⟩
theorem lw_p73 : lw_okq (⟨"DependencyPairAnalyzerModel", "explore", "(II)V"⟩, 41) := ⟨⟨by decide +kernel, by decide +kernel⟩, List.mem_of_getElem? (i := 1033) (by decide +kernel), List.mem_of_getElem? (i := 1527) (by decide +kernel), List.mem_of_getElem? (i := 1528) (by decide +kernel)⟩
theorem lw_p74 : lw_okq (⟨"DependencyPairAnalyzerModel", "lowestUnexpanded", "()I"⟩, 41) := ⟨⟨by decide +kernel, by decide +kernel⟩, List.mem_of_getElem? (i := 1033) (by decide +kernel), List.mem_of_getElem? (i := 1531) (by decide +kernel), List.mem_of_getElem? (i := 1532) (by decide +kernel)⟩
theorem lw_p75 : lw_okq (⟨"DependencyPairAnalyzerModel", "isNormalForm", "([II)Z"⟩, 41) := ⟨⟨by decide +kernel, by decide +kernel⟩, List.mem_of_getElem? (i := 1033) (by decide +kernel), List.mem_of_getElem? (i := 1539) (by decide +kernel), List.mem_of_getElem? (i := 1540) (by decide +kernel)⟩
def lw_privs_5 : List (MethodName × Nat) := [(⟨"DependencyPairAnalyzerModel", "load", "(II)I"⟩, 41), (⟨"DependencyPairAnalyzerModel", "isPosition", "(II)Z"⟩, 41), (⟨"DependencyPairAnalyzerModel", "isMatch", "(I[II)Z"⟩, 41), (⟨"DependencyPairAnalyzerModel", "redex", "([III)I"⟩, 41), (⟨"DependencyPairAnalyzerModel", "matching", "([II)I"⟩, 41), (⟨"DependencyPairAnalyzerModel", "rewrite", "([III)I"⟩, 41), (⟨"DependencyPairAnalyzerModel", "meet", "([II)V"⟩, 41), (⟨"DependencyPairAnalyzerModel", "isMet", "()Z"⟩, 41), (⟨"DependencyPairAnalyzerModel", "wrongExploration", "(II)I"⟩, 41), (⟨"DependencyPairAnalyzerModel", "explore", "(II)V"⟩, 41), (⟨"DependencyPairAnalyzerModel", "lowestUnexpanded", "()I"⟩, 41), (⟨"DependencyPairAnalyzerModel", "isNormalForm", "([II)Z"⟩, 41)]
theorem lw_r5 : ∀ q ∈ lw_privs_5, lw_okq q := List.forall_mem_cons.mpr ⟨lw_p64, List.forall_mem_cons.mpr ⟨lw_p65, List.forall_mem_cons.mpr ⟨lw_p66, List.forall_mem_cons.mpr ⟨lw_p67, List.forall_mem_cons.mpr ⟨lw_p68, List.forall_mem_cons.mpr ⟨lw_p69, List.forall_mem_cons.mpr ⟨lw_p70, List.forall_mem_cons.mpr ⟨lw_p71, List.forall_mem_cons.mpr ⟨lw_p72, List.forall_mem_cons.mpr ⟨lw_p73, List.forall_mem_cons.mpr ⟨lw_p74, List.forall_mem_cons.mpr ⟨lw_p75, fun _ h => absurd h List.not_mem_nil⟩⟩⟩⟩⟩⟩⟩⟩⟩⟩⟩⟩
def lw_privs : List (MethodName × Nat) := lw_privs_1 ++ (lw_privs_2 ++ (lw_privs_3 ++ (lw_privs_4 ++ (lw_privs_5))))
def lw_tbl : List Cond := k2_sels lw_privs ++ tables_1
theorem lw_privs_ok : ∀ q ∈ lw_privs, lw_okq q := by
  show ∀ q ∈ lw_privs_1 ++ (lw_privs_2 ++ (lw_privs_3 ++ (lw_privs_4 ++ (lw_privs_5)))), lw_okq q
  exact List.forall_mem_append.mpr ⟨lw_r1, List.forall_mem_append.mpr ⟨lw_r2, List.forall_mem_append.mpr ⟨lw_r3, List.forall_mem_append.mpr ⟨lw_r4, lw_r5⟩⟩⟩⟩
def RX0 : String := "DependencyPairAnalyzer$Closure"
def TX0 : u_T := fun k => match k with
  | 0 => ("DependencyPairAnalyzer$Closure", "graphs", "[I", true)
  | 1 => ("DependencyPairAnalyzer$Closure", "slots", "[I", true)
  | 2 => ("DependencyPairAnalyzer$Closure", "count", "I", false)
  | 3 => ("DependencyPairAnalyzer$Closure", "idempotents", "I", false)
  | 4 => ("DependencyPairAnalyzer$Closure", "decreasing", "I", false)
  | _ => ("DependencyPairAnalyzer$Closure", "tooLarge", "Z", false)
def tyX0 : Nat → FieldType := fun k => match k with
  | 0 => .array .int
  | 1 => .array .int
  | 2 => .int
  | 3 => .int
  | 4 => .int
  | _ => .boolean
abbrev wsX00 : List Cond := u_ws RX0 TX0 6
theorem nmX0 : ∀ a, a < 6 → ∀ b, b < 6 → a ≠ b → (TX0 a).2.1 ≠ (TX0 b).2.1 := by decide +kernel
theorem tyX0_ok : ∀ k, k < 6 → parseFieldDescriptor (TX0 k).2.2.1 = some (tyX0 k) := by decide +kernel
abbrev cX0_init : ByteArray := prog_2_method_1_code
def yX0_init : MethodName := ⟨RX0, "<init>", "()V"⟩
abbrev cX0_rebuild : ByteArray := prog_2_method_2_code
def yX0_rebuild : MethodName := ⟨RX0, "rebuild", "(LDependencyPairAnalyzer$PairTable;)V"⟩
abbrev cX0_include : ByteArray := prog_2_method_3_code
def yX0_include : MethodName := ⟨RX0, "include", "(I)V"⟩
abbrev cX0_slotOf : ByteArray := prog_2_method_4_code
def yX0_slotOf : MethodName := ⟨RX0, "slotOf", "(I)I"⟩
abbrev cX0_judge : ByteArray := prog_2_method_5_code
def yX0_judge : MethodName := ⟨RX0, "judge", "()V"⟩
abbrev cX0_decreases : ByteArray := prog_2_method_6_code
def yX0_decreases : MethodName := ⟨RX0, "decreases", "(I)Z"⟩
def RX1 : String := "DependencyPairAnalyzer$Components"
def TX1 : u_T := fun k => match k with
  | 0 => ("DependencyPairAnalyzer$Components", "kept", "LDependencyPairAnalyzer$PairGraph;", true)
  | 1 => ("DependencyPairAnalyzer$Components", "paths", "LDependencyPairAnalyzer$PairGraph;", true)
  | 2 => ("DependencyPairAnalyzer$Components", "numbers", "[I", true)
  | 3 => ("DependencyPairAnalyzer$Components", "count", "I", false)
  | _ => ("DependencyPairAnalyzer$Components", "members", "I", false)
def tyX1 : Nat → FieldType := fun k => match k with
  | 0 => .object "DependencyPairAnalyzer$PairGraph"
  | 1 => .object "DependencyPairAnalyzer$PairGraph"
  | 2 => .array .int
  | 3 => .int
  | _ => .int
abbrev wsX10 : List Cond := u_ws RX1 TX1 5
theorem nmX1 : ∀ a, a < 5 → ∀ b, b < 5 → a ≠ b → (TX1 a).2.1 ≠ (TX1 b).2.1 := by decide +kernel
theorem tyX1_ok : ∀ k, k < 5 → parseFieldDescriptor (TX1 k).2.2.1 = some (tyX1 k) := by decide +kernel
abbrev cX1_init : ByteArray := prog_3_method_1_code
def yX1_init : MethodName := ⟨RX1, "<init>", "()V"⟩
abbrev cX1_reset : ByteArray := prog_3_method_2_code
def yX1_reset : MethodName := ⟨RX1, "reset", "(LDependencyPairAnalyzer$PairTable;)V"⟩
abbrev cX1_remove : ByteArray := prog_3_method_3_code
def yX1_remove : MethodName := ⟨RX1, "remove", "(I)V"⟩
abbrev cX1_number : ByteArray := prog_3_method_4_code
def yX1_number : MethodName := ⟨RX1, "number", "(I)I"⟩
abbrev cX1_rebuild : ByteArray := prog_3_method_5_code
def yX1_rebuild : MethodName := ⟨RX1, "rebuild", "(LDependencyPairAnalyzer$PairTable;)V"⟩
abbrev cX1_numberFor : ByteArray := prog_3_method_6_code
def yX1_numberFor : MethodName := ⟨RX1, "numberFor", "(I)I"⟩
def RX2 : String := "DependencyPairAnalyzer$Elimination"
def TX2 : u_T := fun k => match k with
  | 0 => ("DependencyPairAnalyzer$Elimination", "remainder", "LDependencyPairAnalyzer$Components;", true)
  | 1 => ("DependencyPairAnalyzer$Elimination", "chosen", "[I", true)
  | 2 => ("DependencyPairAnalyzer$Elimination", "choices", "[I", true)
  | _ => ("DependencyPairAnalyzer$Elimination", "rounds", "I", false)
def tyX2 : Nat → FieldType := fun k => match k with
  | 0 => .object "DependencyPairAnalyzer$Components"
  | 1 => .array .int
  | 2 => .array .int
  | _ => .int
abbrev wsX20 : List Cond := u_ws RX2 TX2 4
theorem nmX2 : ∀ a, a < 4 → ∀ b, b < 4 → a ≠ b → (TX2 a).2.1 ≠ (TX2 b).2.1 := by decide +kernel
theorem tyX2_ok : ∀ k, k < 4 → parseFieldDescriptor (TX2 k).2.2.1 = some (tyX2 k) := by decide +kernel
abbrev cX2_init : ByteArray := prog_4_method_1_code
def yX2_init : MethodName := ⟨RX2, "<init>", "()V"⟩
abbrev cX2_run : ByteArray := prog_4_method_2_code
def yX2_run : MethodName := ⟨RX2, "run", "(LDependencyPairAnalyzer$PairTable;LDependencyPairAnalyzer$Signature;)V"⟩
abbrev cX2_removeDecreasing : ByteArray := prog_4_method_3_code
def yX2_removeDecreasing : MethodName := ⟨RX2, "removeDecreasing", "(LDependencyPairAnalyzer$PairTable;LDependencyPairAnalyzer$Signature;)Z"⟩
abbrev cX2_removeStrict : ByteArray := prog_4_method_4_code
def yX2_removeStrict : MethodName := ⟨RX2, "removeStrict", "(LDependencyPairAnalyzer$PairTable;I)V"⟩
abbrev cX2_findProjection : ByteArray := prog_4_method_5_code
def yX2_findProjection : MethodName := ⟨RX2, "findProjection", "(LDependencyPairAnalyzer$PairTable;LDependencyPairAnalyzer$Components;ILDependencyPairAnalyzer$Signature;)Z"⟩
abbrev cX2_projectionNumber : ByteArray := prog_4_method_6_code
def yX2_projectionNumber : MethodName := ⟨RX2, "projectionNumber", "()I"⟩
abbrev cX2_countChoices : ByteArray := prog_4_method_7_code
def yX2_countChoices : MethodName := ⟨RX2, "countChoices", "(LDependencyPairAnalyzer$PairTable;LDependencyPairAnalyzer$Components;ILDependencyPairAnalyzer$Signature;)V"⟩
abbrev cX2_allowChoices : ByteArray := prog_4_method_8_code
def yX2_allowChoices : MethodName := ⟨RX2, "allowChoices", "(ILDependencyPairAnalyzer$Signature;)V"⟩
abbrev cX2_isValid : ByteArray := prog_4_method_9_code
def yX2_isValid : MethodName := ⟨RX2, "isValid", "(LDependencyPairAnalyzer$PairTable;LDependencyPairAnalyzer$Components;I)Z"⟩
abbrev cX2_projected : ByteArray := prog_4_method_10_code
def yX2_projected : MethodName := ⟨RX2, "projected", "(I)I"⟩
abbrev cX2_choiceOf : ByteArray := prog_4_method_11_code
def yX2_choiceOf : MethodName := ⟨RX2, "choiceOf", "(I)I"⟩
def RX3 : String := "DependencyPairAnalyzer$Exploration"
def TX3 : u_T := fun k => match k with
  | 0 => ("DependencyPairAnalyzer$Exploration", "found", "[LDependencyPairAnalyzer$Term;", true)
  | 1 => ("DependencyPairAnalyzer$Exploration", "expanded", "[Z", true)
  | 2 => ("DependencyPairAnalyzer$Exploration", "result", "LDependencyPairAnalyzer$Term;", true)
  | 3 => ("DependencyPairAnalyzer$Exploration", "current", "LDependencyPairAnalyzer$Term;", true)
  | 4 => ("DependencyPairAnalyzer$Exploration", "lowestNormalForm", "LDependencyPairAnalyzer$Term;", true)
  | 5 => ("DependencyPairAnalyzer$Exploration", "count", "I", false)
  | 6 => ("DependencyPairAnalyzer$Exploration", "expansions", "I", false)
  | _ => ("DependencyPairAnalyzer$Exploration", "normalForms", "I", false)
def tyX3 : Nat → FieldType := fun k => match k with
  | 0 => .array (.object "DependencyPairAnalyzer$Term")
  | 1 => .array .boolean
  | 2 => .object "DependencyPairAnalyzer$Term"
  | 3 => .object "DependencyPairAnalyzer$Term"
  | 4 => .object "DependencyPairAnalyzer$Term"
  | 5 => .int
  | 6 => .int
  | _ => .int
abbrev wsX30 : List Cond := u_ws RX3 TX3 8
theorem nmX3 : ∀ a, a < 8 → ∀ b, b < 8 → a ≠ b → (TX3 a).2.1 ≠ (TX3 b).2.1 := by decide +kernel
theorem tyX3_ok : ∀ k, k < 8 → parseFieldDescriptor (TX3 k).2.2.1 = some (tyX3 k) := by decide +kernel
abbrev cX3_init : ByteArray := prog_5_method_1_code
def yX3_init : MethodName := ⟨RX3, "<init>", "()V"⟩
abbrev cX3_run : ByteArray := prog_5_method_2_code
def yX3_run : MethodName := ⟨RX3, "run", "(LDependencyPairAnalyzer$RewriteSystem;LDependencyPairAnalyzer$Rewriter;II)I"⟩
abbrev cX3_takeLowest : ByteArray := prog_5_method_3_code
def yX3_takeLowest : MethodName := ⟨RX3, "takeLowest", "()Z"⟩
abbrev cX3_expandCurrent : ByteArray := prog_5_method_4_code
def yX3_expandCurrent : MethodName := ⟨RX3, "expandCurrent", "(LDependencyPairAnalyzer$RewriteSystem;LDependencyPairAnalyzer$Rewriter;)V"⟩
abbrev cX3_noteNormalForm : ByteArray := prog_5_method_5_code
def yX3_noteNormalForm : MethodName := ⟨RX3, "noteNormalForm", "()V"⟩
abbrev cX3_discover : ByteArray := prog_5_method_6_code
def yX3_discover : MethodName := ⟨RX3, "discover", "(LDependencyPairAnalyzer$Term;)V"⟩
abbrev cX3_insert : ByteArray := prog_5_method_7_code
def yX3_insert : MethodName := ⟨RX3, "insert", "(LDependencyPairAnalyzer$Term;I)V"⟩
def RX4 : String := "DependencyPairAnalyzer$PairGraph"
def TX4 : u_T := fun k => match k with
  | _ => ("DependencyPairAnalyzer$PairGraph", "rows", "[J", true)
def tyX4 : Nat → FieldType := fun k => match k with
  | _ => .array .long
abbrev wsX40 : List Cond := u_ws RX4 TX4 1
theorem nmX4 : ∀ a, a < 1 → ∀ b, b < 1 → a ≠ b → (TX4 a).2.1 ≠ (TX4 b).2.1 := by decide +kernel
theorem tyX4_ok : ∀ k, k < 1 → parseFieldDescriptor (TX4 k).2.2.1 = some (tyX4 k) := by decide +kernel
abbrev cX4_init : ByteArray := prog_6_method_1_code
def yX4_init : MethodName := ⟨RX4, "<init>", "()V"⟩
abbrev cX4_covers : ByteArray := prog_6_method_2_code
def yX4_covers : MethodName := ⟨RX4, "covers", "(II)Z"⟩
abbrev cX4_empty : ByteArray := prog_6_method_3_code
def yX4_empty : MethodName := ⟨RX4, "empty", "()V"⟩
abbrev cX4_copyFrom : ByteArray := prog_6_method_4_code
def yX4_copyFrom : MethodName := ⟨RX4, "copyFrom", "(LDependencyPairAnalyzer$PairGraph;)V"⟩
abbrev cX4_connect : ByteArray := prog_6_method_5_code
def yX4_connect : MethodName := ⟨RX4, "connect", "(II)V"⟩
abbrev cX4_has : ByteArray := prog_6_method_6_code
def yX4_has : MethodName := ⟨RX4, "has", "(II)Z"⟩
abbrev cX4_total : ByteArray := prog_6_method_7_code
def yX4_total : MethodName := ⟨RX4, "total", "()I"⟩
abbrev cX4_addPaths : ByteArray := prog_6_method_8_code
def yX4_addPaths : MethodName := ⟨RX4, "addPaths", "(I)V"⟩
abbrev cX4_addRow : ByteArray := prog_6_method_9_code
def yX4_addRow : MethodName := ⟨RX4, "addRow", "(II)V"⟩
abbrev cX4_removeEdgesFrom : ByteArray := prog_6_method_10_code
def yX4_removeEdgesFrom : MethodName := ⟨RX4, "removeEdgesFrom", "(I)V"⟩
def RX5 : String := "DependencyPairAnalyzer$PairTable"
def TX5 : u_T := fun k => match k with
  | 0 => ("DependencyPairAnalyzer$PairTable", "ruleOf", "[I", true)
  | 1 => ("DependencyPairAnalyzer$PairTable", "positionOf", "[I", true)
  | 2 => ("DependencyPairAnalyzer$PairTable", "graphOf", "[I", true)
  | 3 => ("DependencyPairAnalyzer$PairTable", "edges", "LDependencyPairAnalyzer$PairGraph;", true)
  | _ => ("DependencyPairAnalyzer$PairTable", "count", "I", false)
def tyX5 : Nat → FieldType := fun k => match k with
  | 0 => .array .int
  | 1 => .array .int
  | 2 => .array .int
  | 3 => .object "DependencyPairAnalyzer$PairGraph"
  | _ => .int
abbrev wsX50 : List Cond := u_ws RX5 TX5 5
theorem nmX5 : ∀ a, a < 5 → ∀ b, b < 5 → a ≠ b → (TX5 a).2.1 ≠ (TX5 b).2.1 := by decide +kernel
theorem tyX5_ok : ∀ k, k < 5 → parseFieldDescriptor (TX5 k).2.2.1 = some (tyX5 k) := by decide +kernel
abbrev cX5_init : ByteArray := prog_7_method_1_code
def yX5_init : MethodName := ⟨RX5, "<init>", "()V"⟩
abbrev cX5_rule : ByteArray := prog_7_method_2_code
def yX5_rule : MethodName := ⟨RX5, "rule", "(I)I"⟩
abbrev cX5_position : ByteArray := prog_7_method_3_code
def yX5_position : MethodName := ⟨RX5, "position", "(I)I"⟩
abbrev cX5_graph : ByteArray := prog_7_method_4_code
def yX5_graph : MethodName := ⟨RX5, "graph", "(I)I"⟩
abbrev cX5_rebuild : ByteArray := prog_7_method_5_code
def yX5_rebuild : MethodName := ⟨RX5, "rebuild", "(LDependencyPairAnalyzer$RewriteSystem;)V"⟩
abbrev cX5_sizeChange : ByteArray := prog_7_method_6_code
def yX5_sizeChange : MethodName := ⟨RX5, "sizeChange", "(LDependencyPairAnalyzer$Signature;LDependencyPairAnalyzer$Term;LDependencyPairAnalyzer$Term;I)I"⟩
abbrev cX5_relationBetween : ByteArray := prog_7_method_7_code
def yX5_relationBetween : MethodName := ⟨RX5, "relationBetween", "(LDependencyPairAnalyzer$Signature;LDependencyPairAnalyzer$Term;ILDependencyPairAnalyzer$Term;I)I"⟩
abbrev cX5_connectPairs : ByteArray := prog_7_method_8_code
def yX5_connectPairs : MethodName := ⟨RX5, "connectPairs", "(LDependencyPairAnalyzer$RewriteSystem;)V"⟩
abbrev cX5_leadsTo : ByteArray := prog_7_method_9_code
def yX5_leadsTo : MethodName := ⟨RX5, "leadsTo", "(LDependencyPairAnalyzer$Signature;LDependencyPairAnalyzer$Term;ILDependencyPairAnalyzer$Term;)Z"⟩
def RX6 : String := "DependencyPairAnalyzer$RewriteSystem"
def TX6 : u_T := fun k => match k with
  | 0 => ("DependencyPairAnalyzer$RewriteSystem", "signature", "LDependencyPairAnalyzer$Signature;", true)
  | 1 => ("DependencyPairAnalyzer$RewriteSystem", "lefts", "[LDependencyPairAnalyzer$Term;", true)
  | 2 => ("DependencyPairAnalyzer$RewriteSystem", "rights", "[LDependencyPairAnalyzer$Term;", true)
  | 3 => ("DependencyPairAnalyzer$RewriteSystem", "registers", "[LDependencyPairAnalyzer$Term;", true)
  | 4 => ("DependencyPairAnalyzer$RewriteSystem", "nothing", "LDependencyPairAnalyzer$Term;", true)
  | _ => ("DependencyPairAnalyzer$RewriteSystem", "rules", "I", false)
def tyX6 : Nat → FieldType := fun k => match k with
  | 0 => .object "DependencyPairAnalyzer$Signature"
  | 1 => .array (.object "DependencyPairAnalyzer$Term")
  | 2 => .array (.object "DependencyPairAnalyzer$Term")
  | 3 => .array (.object "DependencyPairAnalyzer$Term")
  | 4 => .object "DependencyPairAnalyzer$Term"
  | _ => .int
abbrev wsX60 : List Cond := u_ws RX6 TX6 6
theorem nmX6 : ∀ a, a < 6 → ∀ b, b < 6 → a ≠ b → (TX6 a).2.1 ≠ (TX6 b).2.1 := by decide +kernel
theorem tyX6_ok : ∀ k, k < 6 → parseFieldDescriptor (TX6 k).2.2.1 = some (tyX6 k) := by decide +kernel
abbrev cX6_init : ByteArray := prog_8_method_1_code
def yX6_init : MethodName := ⟨RX6, "<init>", "()V"⟩
abbrev cX6_left : ByteArray := prog_8_method_2_code
def yX6_left : MethodName := ⟨RX6, "left", "(I)LDependencyPairAnalyzer$Term;"⟩
abbrev cX6_right : ByteArray := prog_8_method_3_code
def yX6_right : MethodName := ⟨RX6, "right", "(I)LDependencyPairAnalyzer$Term;"⟩
abbrev cX6_register : ByteArray := prog_8_method_4_code
def yX6_register : MethodName := ⟨RX6, "register", "(I)LDependencyPairAnalyzer$Term;"⟩
abbrev cX6_dropRule : ByteArray := prog_8_method_5_code
def yX6_dropRule : MethodName := ⟨RX6, "dropRule", "(I)V"⟩
abbrev cX6_resetRegistersWith : ByteArray := prog_8_method_6_code
def yX6_resetRegistersWith : MethodName := ⟨RX6, "resetRegistersWith", "(I)V"⟩
abbrev cX6_copyFrom : ByteArray := prog_8_method_7_code
def yX6_copyFrom : MethodName := ⟨RX6, "copyFrom", "(LDependencyPairAnalyzer$RewriteSystem;)V"⟩
def RX7 : String := "DependencyPairAnalyzer$Rewriter"
def TX7 : u_T := fun k => match k with
  | 0 => ("DependencyPairAnalyzer$Rewriter", "bindings", "[I", true)
  | _ => ("DependencyPairAnalyzer$Rewriter", "sequence", "[LDependencyPairAnalyzer$Term;", true)
def tyX7 : Nat → FieldType := fun k => match k with
  | 0 => .array .int
  | _ => .array (.object "DependencyPairAnalyzer$Term")
abbrev wsX70 : List Cond := u_ws RX7 TX7 2
theorem nmX7 : ∀ a, a < 2 → ∀ b, b < 2 → a ≠ b → (TX7 a).2.1 ≠ (TX7 b).2.1 := by decide +kernel
theorem tyX7_ok : ∀ k, k < 2 → parseFieldDescriptor (TX7 k).2.2.1 = some (tyX7 k) := by decide +kernel
abbrev cX7_init : ByteArray := prog_9_method_1_code
def yX7_init : MethodName := ⟨RX7, "<init>", "()V"⟩
abbrev cX7_ruleFits : ByteArray := prog_9_method_2_code
def yX7_ruleFits : MethodName := ⟨RX7, "ruleFits", "(LDependencyPairAnalyzer$RewriteSystem;ILDependencyPairAnalyzer$Term;I)Z"⟩
abbrev cX7_unbind : ByteArray := prog_9_method_3_code
def yX7_unbind : MethodName := ⟨RX7, "unbind", "()V"⟩
abbrev cX7_bindingOf : ByteArray := prog_9_method_4_code
def yX7_bindingOf : MethodName := ⟨RX7, "bindingOf", "(I)I"⟩
abbrev cX7_lowestRuleAt : ByteArray := prog_9_method_5_code
def yX7_lowestRuleAt : MethodName := ⟨RX7, "lowestRuleAt", "(LDependencyPairAnalyzer$RewriteSystem;LDependencyPairAnalyzer$Term;I)I"⟩
abbrev cX7_countRedexes : ByteArray := prog_9_method_6_code
def yX7_countRedexes : MethodName := ⟨RX7, "countRedexes", "(LDependencyPairAnalyzer$RewriteSystem;LDependencyPairAnalyzer$Term;)I"⟩
abbrev cX7_findRedex : ByteArray := prog_9_method_7_code
def yX7_findRedex : MethodName := ⟨RX7, "findRedex", "(LDependencyPairAnalyzer$RewriteSystem;LDependencyPairAnalyzer$Term;I)I"⟩
abbrev cX7_step : ByteArray := prog_9_method_8_code
def yX7_step : MethodName := ⟨RX7, "step", "(LDependencyPairAnalyzer$RewriteSystem;LDependencyPairAnalyzer$Term;ILDependencyPairAnalyzer$Term;)I"⟩
abbrev cX7_stepsOutermost : ByteArray := prog_9_method_9_code
def yX7_stepsOutermost : MethodName := ⟨RX7, "stepsOutermost", "(LDependencyPairAnalyzer$RewriteSystem;LDependencyPairAnalyzer$Term;ILDependencyPairAnalyzer$Term;)I"⟩
abbrev cX7_stepsToRepetition : ByteArray := prog_9_method_10_code
def yX7_stepsToRepetition : MethodName := ⟨RX7, "stepsToRepetition", "(LDependencyPairAnalyzer$RewriteSystem;LDependencyPairAnalyzer$Term;I)I"⟩
abbrev cX7_repeatsEarlier : ByteArray := prog_9_method_11_code
def yX7_repeatsEarlier : MethodName := ⟨RX7, "repeatsEarlier", "(I)Z"⟩
def RX8 : String := "DependencyPairAnalyzer$Signature"
def TX8 : u_T := fun k => match k with
  | _ => ("DependencyPairAnalyzer$Signature", "arities", "[I", true)
def tyX8 : Nat → FieldType := fun k => match k with
  | _ => .array .int
abbrev wsX80 : List Cond := u_ws RX8 TX8 1
theorem nmX8 : ∀ a, a < 1 → ∀ b, b < 1 → a ≠ b → (TX8 a).2.1 ≠ (TX8 b).2.1 := by decide +kernel
theorem tyX8_ok : ∀ k, k < 1 → parseFieldDescriptor (TX8 k).2.2.1 = some (tyX8 k) := by decide +kernel
abbrev cX8_init : ByteArray := prog_10_method_1_code
def yX8_init : MethodName := ⟨RX8, "<init>", "()V"⟩
abbrev cX8_ofSymbol : ByteArray := prog_10_method_2_code
def yX8_ofSymbol : MethodName := ⟨RX8, "ofSymbol", "(I)I"⟩
abbrev cX8_ofFunction : ByteArray := prog_10_method_3_code
def yX8_ofFunction : MethodName := ⟨RX8, "ofFunction", "(I)I"⟩
abbrev cX8_change : ByteArray := prog_10_method_4_code
def yX8_change : MethodName := ⟨RX8, "change", "(II)V"⟩
abbrev cX8_copyFrom : ByteArray := prog_10_method_5_code
def yX8_copyFrom : MethodName := ⟨RX8, "copyFrom", "(LDependencyPairAnalyzer$Signature;)V"⟩
abbrev cX8_endOf : ByteArray := prog_10_method_6_code
def yX8_endOf : MethodName := ⟨RX8, "endOf", "(LDependencyPairAnalyzer$Term;I)I"⟩
abbrev cX8_argumentOf : ByteArray := prog_10_method_7_code
def yX8_argumentOf : MethodName := ⟨RX8, "argumentOf", "(LDependencyPairAnalyzer$Term;II)I"⟩
abbrev cX8_sameSubterms : ByteArray := prog_10_method_8_code
def yX8_sameSubterms : MethodName := ⟨RX8, "sameSubterms", "(LDependencyPairAnalyzer$Term;ILDependencyPairAnalyzer$Term;I)Z"⟩
def RX9 : String := "DependencyPairAnalyzer$Term"
def TX9 : u_T := fun k => match k with
  | 0 => ("DependencyPairAnalyzer$Term", "symbols", "[I", true)
  | _ => ("DependencyPairAnalyzer$Term", "size", "I", false)
def tyX9 : Nat → FieldType := fun k => match k with
  | 0 => .array .int
  | _ => .int
abbrev wsX90 : List Cond := u_ws RX9 TX9 2
theorem nmX9 : ∀ a, a < 2 → ∀ b, b < 2 → a ≠ b → (TX9 a).2.1 ≠ (TX9 b).2.1 := by decide +kernel
theorem tyX9_ok : ∀ k, k < 2 → parseFieldDescriptor (TX9 k).2.2.1 = some (tyX9 k) := by decide +kernel
abbrev cX9_init : ByteArray := prog_11_method_1_code
def yX9_init : MethodName := ⟨RX9, "<init>", "()V"⟩
abbrev cX9_empty : ByteArray := prog_11_method_2_code
def yX9_empty : MethodName := ⟨RX9, "empty", "()V"⟩
abbrev cX9_becomeZero : ByteArray := prog_11_method_3_code
def yX9_becomeZero : MethodName := ⟨RX9, "becomeZero", "()V"⟩
abbrev cX9_append : ByteArray := prog_11_method_4_code
def yX9_append : MethodName := ⟨RX9, "append", "(I)V"⟩
abbrev cX9_appendRange : ByteArray := prog_11_method_5_code
def yX9_appendRange : MethodName := ⟨RX9, "appendRange", "(LDependencyPairAnalyzer$Term;II)V"⟩
abbrev cX9_symbolAt : ByteArray := prog_11_method_6_code
def yX9_symbolAt : MethodName := ⟨RX9, "symbolAt", "(I)I"⟩
abbrev cX9_contains : ByteArray := prog_11_method_7_code
def yX9_contains : MethodName := ⟨RX9, "contains", "(I)Z"⟩
abbrev cX9_copyFrom : ByteArray := prog_11_method_8_code
def yX9_copyFrom : MethodName := ⟨RX9, "copyFrom", "(LDependencyPairAnalyzer$Term;)V"⟩
abbrev cX9_orderAgainst : ByteArray := prog_11_method_9_code
def yX9_orderAgainst : MethodName := ⟨RX9, "orderAgainst", "(LDependencyPairAnalyzer$Term;)I"⟩
def RX10 : String := "DependencyPairAnalyzer$TextBuffer"
def TX10 : u_T := fun k => match k with
  | 0 => ("DependencyPairAnalyzer$TextBuffer", "characters", "[I", true)
  | 1 => ("DependencyPairAnalyzer$TextBuffer", "missing", "[I", true)
  | 2 => ("DependencyPairAnalyzer$TextBuffer", "length", "I", false)
  | _ => ("DependencyPairAnalyzer$TextBuffer", "position", "I", false)
def tyX10 : Nat → FieldType := fun k => match k with
  | 0 => .array .int
  | 1 => .array .int
  | 2 => .int
  | _ => .int
abbrev wsX100 : List Cond := u_ws RX10 TX10 4
theorem nmX10 : ∀ a, a < 4 → ∀ b, b < 4 → a ≠ b → (TX10 a).2.1 ≠ (TX10 b).2.1 := by decide +kernel
theorem tyX10_ok : ∀ k, k < 4 → parseFieldDescriptor (TX10 k).2.2.1 = some (tyX10 k) := by decide +kernel
abbrev cX10_init : ByteArray := prog_12_method_1_code
def yX10_init : MethodName := ⟨RX10, "<init>", "(I)V"⟩
abbrev cX10_character : ByteArray := prog_12_method_2_code
def yX10_character : MethodName := ⟨RX10, "character", "(I)I"⟩
abbrev cX10_append : ByteArray := prog_12_method_3_code
def yX10_append : MethodName := ⟨RX10, "append", "(I)Z"⟩
abbrev cX10_empty : ByteArray := prog_12_method_4_code
def yX10_empty : MethodName := ⟨RX10, "empty", "()V"⟩
abbrev cX10_readWholeTerm : ByteArray := prog_12_method_5_code
def yX10_readWholeTerm : MethodName := ⟨RX10, "readWholeTerm", "(LDependencyPairAnalyzer$Signature;LDependencyPairAnalyzer$Term;)Z"⟩
abbrev cX10_readRule : ByteArray := prog_12_method_6_code
def yX10_readRule : MethodName := ⟨RX10, "readRule", "(LDependencyPairAnalyzer$Signature;LDependencyPairAnalyzer$Term;LDependencyPairAnalyzer$Term;)Z"⟩
abbrev cX10_take : ByteArray := prog_12_method_7_code
def yX10_take : MethodName := ⟨RX10, "take", "(I)Z"⟩
abbrev cX10_readTerm : ByteArray := prog_12_method_8_code
def yX10_readTerm : MethodName := ⟨RX10, "readTerm", "(LDependencyPairAnalyzer$Signature;LDependencyPairAnalyzer$Term;)Z"⟩
abbrev cX10_readBehindArgument : ByteArray := prog_12_method_9_code
def yX10_readBehindArgument : MethodName := ⟨RX10, "readBehindArgument", "(I)I"⟩
abbrev cX10_write : ByteArray := prog_12_method_10_code
def yX10_write : MethodName := ⟨RX10, "write", "(LDependencyPairAnalyzer$Signature;LDependencyPairAnalyzer$Term;)V"⟩
abbrev cX10_writeBehindArgument : ByteArray := prog_12_method_11_code
def yX10_writeBehindArgument : MethodName := ⟨RX10, "writeBehindArgument", "(I)I"⟩
def RX11 : String := "DependencyPairAnalyzer"
def TX11 : u_T := fun k => match k with
  | 0 => ("DependencyPairAnalyzer", "system", "LDependencyPairAnalyzer$RewriteSystem;", true)
  | 1 => ("DependencyPairAnalyzer", "snapshot", "LDependencyPairAnalyzer$RewriteSystem;", true)
  | 2 => ("DependencyPairAnalyzer", "snapshotSaved", "Z", false)
  | 3 => ("DependencyPairAnalyzer", "text", "LDependencyPairAnalyzer$TextBuffer;", true)
  | 4 => ("DependencyPairAnalyzer", "written", "LDependencyPairAnalyzer$TextBuffer;", true)
  | 5 => ("DependencyPairAnalyzer", "rewriter", "LDependencyPairAnalyzer$Rewriter;", true)
  | 6 => ("DependencyPairAnalyzer", "exploration", "LDependencyPairAnalyzer$Exploration;", true)
  | 7 => ("DependencyPairAnalyzer", "scratch", "LDependencyPairAnalyzer$Term;", true)
  | 8 => ("DependencyPairAnalyzer", "pairs", "LDependencyPairAnalyzer$PairTable;", true)
  | 9 => ("DependencyPairAnalyzer", "pairsReady", "Z", false)
  | 10 => ("DependencyPairAnalyzer", "components", "LDependencyPairAnalyzer$Components;", true)
  | 11 => ("DependencyPairAnalyzer", "componentsReady", "Z", false)
  | 12 => ("DependencyPairAnalyzer", "closure", "LDependencyPairAnalyzer$Closure;", true)
  | 13 => ("DependencyPairAnalyzer", "closureReady", "Z", false)
  | 14 => ("DependencyPairAnalyzer", "elimination", "LDependencyPairAnalyzer$Elimination;", true)
  | _ => ("DependencyPairAnalyzer", "eliminationReady", "Z", false)
def tyX11 : Nat → FieldType := fun k => match k with
  | 0 => .object "DependencyPairAnalyzer$RewriteSystem"
  | 1 => .object "DependencyPairAnalyzer$RewriteSystem"
  | 2 => .boolean
  | 3 => .object "DependencyPairAnalyzer$TextBuffer"
  | 4 => .object "DependencyPairAnalyzer$TextBuffer"
  | 5 => .object "DependencyPairAnalyzer$Rewriter"
  | 6 => .object "DependencyPairAnalyzer$Exploration"
  | 7 => .object "DependencyPairAnalyzer$Term"
  | 8 => .object "DependencyPairAnalyzer$PairTable"
  | 9 => .boolean
  | 10 => .object "DependencyPairAnalyzer$Components"
  | 11 => .boolean
  | 12 => .object "DependencyPairAnalyzer$Closure"
  | 13 => .boolean
  | 14 => .object "DependencyPairAnalyzer$Elimination"
  | _ => .boolean
abbrev wsX110 : List Cond := u_ws RX11 TX11 16
theorem nmX11 : ∀ a, a < 16 → ∀ b, b < 16 → a ≠ b → (TX11 a).2.1 ≠ (TX11 b).2.1 := by decide +kernel
theorem tyX11_ok : ∀ k, k < 16 → parseFieldDescriptor (TX11 k).2.2.1 = some (tyX11 k) := by decide +kernel
abbrev cX11_init : ByteArray := prog_1_method_1_code
def yX11_init : MethodName := ⟨RX11, "<init>", "()V"⟩
abbrev cX11_setArity : ByteArray := prog_1_method_2_code
def yX11_setArity : MethodName := ⟨RX11, "setArity", "(II)I"⟩
abbrev cX11_arity : ByteArray := prog_1_method_3_code
def yX11_arity : MethodName := ⟨RX11, "arity", "(I)I"⟩
abbrev cX11_addRule : ByteArray := prog_1_method_4_code
def yX11_addRule : MethodName := ⟨RX11, "addRule", "()I"⟩
abbrev cX11_removeRule : ByteArray := prog_1_method_5_code
def yX11_removeRule : MethodName := ⟨RX11, "removeRule", "(I)I"⟩
abbrev cX11_ruleCount : ByteArray := prog_1_method_6_code
def yX11_ruleCount : MethodName := ⟨RX11, "ruleCount", "()I"⟩
abbrev cX11_leftSize : ByteArray := prog_1_method_7_code
def yX11_leftSize : MethodName := ⟨RX11, "leftSize", "(I)I"⟩
abbrev cX11_rightSize : ByteArray := prog_1_method_8_code
def yX11_rightSize : MethodName := ⟨RX11, "rightSize", "(I)I"⟩
abbrev cX11_pairCount : ByteArray := prog_1_method_9_code
def yX11_pairCount : MethodName := ⟨RX11, "pairCount", "()I"⟩
abbrev cX11_pairRule : ByteArray := prog_1_method_10_code
def yX11_pairRule : MethodName := ⟨RX11, "pairRule", "(I)I"⟩
abbrev cX11_pairPosition : ByteArray := prog_1_method_11_code
def yX11_pairPosition : MethodName := ⟨RX11, "pairPosition", "(I)I"⟩
abbrev cX11_sourceFunction : ByteArray := prog_1_method_12_code
def yX11_sourceFunction : MethodName := ⟨RX11, "sourceFunction", "(I)I"⟩
abbrev cX11_targetFunction : ByteArray := prog_1_method_13_code
def yX11_targetFunction : MethodName := ⟨RX11, "targetFunction", "(I)I"⟩
abbrev cX11_hasEdge : ByteArray := prog_1_method_14_code
def yX11_hasEdge : MethodName := ⟨RX11, "hasEdge", "(II)I"⟩
abbrev cX11_edgeCount : ByteArray := prog_1_method_15_code
def yX11_edgeCount : MethodName := ⟨RX11, "edgeCount", "()I"⟩
abbrev cX11_componentCount : ByteArray := prog_1_method_16_code
def yX11_componentCount : MethodName := ⟨RX11, "componentCount", "()I"⟩
abbrev cX11_componentOf : ByteArray := prog_1_method_17_code
def yX11_componentOf : MethodName := ⟨RX11, "componentOf", "(I)I"⟩
abbrev cX11_sizeRelation : ByteArray := prog_1_method_18_code
def yX11_sizeRelation : MethodName := ⟨RX11, "sizeRelation", "(III)I"⟩
abbrev cX11_closureSize : ByteArray := prog_1_method_19_code
def yX11_closureSize : MethodName := ⟨RX11, "closureSize", "()I"⟩
abbrev cX11_idempotentCount : ByteArray := prog_1_method_20_code
def yX11_idempotentCount : MethodName := ⟨RX11, "idempotentCount", "()I"⟩
abbrev cX11_terminatesBySizeChange : ByteArray := prog_1_method_21_code
def yX11_terminatesBySizeChange : MethodName := ⟨RX11, "terminatesBySizeChange", "()I"⟩
abbrev cX11_projection : ByteArray := prog_1_method_22_code
def yX11_projection : MethodName := ⟨RX11, "projection", "(I)I"⟩
abbrev cX11_eliminationRounds : ByteArray := prog_1_method_23_code
def yX11_eliminationRounds : MethodName := ⟨RX11, "eliminationRounds", "()I"⟩
abbrev cX11_remainingPairCount : ByteArray := prog_1_method_24_code
def yX11_remainingPairCount : MethodName := ⟨RX11, "remainingPairCount", "()I"⟩
abbrev cX11_remainingComponentCount : ByteArray := prog_1_method_25_code
def yX11_remainingComponentCount : MethodName := ⟨RX11, "remainingComponentCount", "()I"⟩
abbrev cX11_terminatesBySubtermCriterion : ByteArray := prog_1_method_26_code
def yX11_terminatesBySubtermCriterion : MethodName := ⟨RX11, "terminatesBySubtermCriterion", "()I"⟩
abbrev cX11_parseTerm : ByteArray := prog_1_method_27_code
def yX11_parseTerm : MethodName := ⟨RX11, "parseTerm", "(I)I"⟩
abbrev cX11_termSize : ByteArray := prog_1_method_28_code
def yX11_termSize : MethodName := ⟨RX11, "termSize", "(I)I"⟩
abbrev cX11_formattedLength : ByteArray := prog_1_method_29_code
def yX11_formattedLength : MethodName := ⟨RX11, "formattedLength", "(I)I"⟩
abbrev cX11_formattedCharacter : ByteArray := prog_1_method_30_code
def yX11_formattedCharacter : MethodName := ⟨RX11, "formattedCharacter", "(II)I"⟩
abbrev cX11_compareTerms : ByteArray := prog_1_method_31_code
def yX11_compareTerms : MethodName := ⟨RX11, "compareTerms", "(II)I"⟩
abbrev cX11_copyTerm : ByteArray := prog_1_method_32_code
def yX11_copyTerm : MethodName := ⟨RX11, "copyTerm", "(II)I"⟩
abbrev cX11_loadLeft : ByteArray := prog_1_method_33_code
def yX11_loadLeft : MethodName := ⟨RX11, "loadLeft", "(II)I"⟩
abbrev cX11_loadRight : ByteArray := prog_1_method_34_code
def yX11_loadRight : MethodName := ⟨RX11, "loadRight", "(II)I"⟩
abbrev cX11_matches : ByteArray := prog_1_method_35_code
def yX11_matches : MethodName := ⟨RX11, "matches", "(III)I"⟩
abbrev cX11_redexCount : ByteArray := prog_1_method_36_code
def yX11_redexCount : MethodName := ⟨RX11, "redexCount", "(I)I"⟩
abbrev cX11_redexAt : ByteArray := prog_1_method_37_code
def yX11_redexAt : MethodName := ⟨RX11, "redexAt", "(II)I"⟩
abbrev cX11_rewriteAt : ByteArray := prog_1_method_38_code
def yX11_rewriteAt : MethodName := ⟨RX11, "rewriteAt", "(II)I"⟩
abbrev cX11_rewriteOutermost : ByteArray := prog_1_method_39_code
def yX11_rewriteOutermost : MethodName := ⟨RX11, "rewriteOutermost", "(II)I"⟩
abbrev cX11_findLoop : ByteArray := prog_1_method_40_code
def yX11_findLoop : MethodName := ⟨RX11, "findLoop", "(II)I"⟩
abbrev cX11_exploredCount : ByteArray := prog_1_method_41_code
def yX11_exploredCount : MethodName := ⟨RX11, "exploredCount", "(II)I"⟩
abbrev cX11_exploredNormalForms : ByteArray := prog_1_method_42_code
def yX11_exploredNormalForms : MethodName := ⟨RX11, "exploredNormalForms", "(II)I"⟩
abbrev cX11_lastExploredSize : ByteArray := prog_1_method_43_code
def yX11_lastExploredSize : MethodName := ⟨RX11, "lastExploredSize", "(II)I"⟩
abbrev cX11_loadNormalForm : ByteArray := prog_1_method_44_code
def yX11_loadNormalForm : MethodName := ⟨RX11, "loadNormalForm", "(III)I"⟩
abbrev cX11_normalFormRegisterCount : ByteArray := prog_1_method_45_code
def yX11_normalFormRegisterCount : MethodName := ⟨RX11, "normalFormRegisterCount", "()I"⟩
abbrev cX11_appendCharacter : ByteArray := prog_1_method_46_code
def yX11_appendCharacter : MethodName := ⟨RX11, "appendCharacter", "(I)I"⟩
abbrev cX11_clearText : ByteArray := prog_1_method_47_code
def yX11_clearText : MethodName := ⟨RX11, "clearText", "()I"⟩
abbrev cX11_textLength : ByteArray := prog_1_method_48_code
def yX11_textLength : MethodName := ⟨RX11, "textLength", "()I"⟩
abbrev cX11_saveSnapshot : ByteArray := prog_1_method_49_code
def yX11_saveSnapshot : MethodName := ⟨RX11, "saveSnapshot", "()I"⟩
abbrev cX11_restoreSnapshot : ByteArray := prog_1_method_50_code
def yX11_restoreSnapshot : MethodName := ⟨RX11, "restoreSnapshot", "()I"⟩
abbrev cX11_hasRule : ByteArray := prog_1_method_51_code
def yX11_hasRule : MethodName := ⟨RX11, "hasRule", "(I)Z"⟩
abbrev cX11_hasPair : ByteArray := prog_1_method_52_code
def yX11_hasPair : MethodName := ⟨RX11, "hasPair", "(I)Z"⟩
abbrev cX11_hasPosition : ByteArray := prog_1_method_53_code
def yX11_hasPosition : MethodName := ⟨RX11, "hasPosition", "(II)Z"⟩
abbrev cX11_hasRegister : ByteArray := prog_1_method_54_code
def yX11_hasRegister : MethodName := ⟨RX11, "hasRegister", "(I)Z"⟩
abbrev cX11_store : ByteArray := prog_1_method_55_code
def yX11_store : MethodName := ⟨RX11, "store", "(LDependencyPairAnalyzer$Term;I)I"⟩
abbrev cX11_rulesChanged : ByteArray := prog_1_method_56_code
def yX11_rulesChanged : MethodName := ⟨RX11, "rulesChanged", "()V"⟩
abbrev cX11_currentPairs : ByteArray := prog_1_method_57_code
def yX11_currentPairs : MethodName := ⟨RX11, "currentPairs", "()LDependencyPairAnalyzer$PairTable;"⟩
abbrev cX11_currentComponents : ByteArray := prog_1_method_58_code
def yX11_currentComponents : MethodName := ⟨RX11, "currentComponents", "()LDependencyPairAnalyzer$Components;"⟩
abbrev cX11_currentClosure : ByteArray := prog_1_method_59_code
def yX11_currentClosure : MethodName := ⟨RX11, "currentClosure", "()LDependencyPairAnalyzer$Closure;"⟩
abbrev cX11_currentElimination : ByteArray := prog_1_method_60_code
def yX11_currentElimination : MethodName := ⟨RX11, "currentElimination", "()LDependencyPairAnalyzer$Elimination;"⟩
abbrev cX11_isRule : ByteArray := prog_1_method_61_code
def yX11_isRule : MethodName := ⟨RX11, "isRule", "(LDependencyPairAnalyzer$Term;LDependencyPairAnalyzer$Term;)Z"⟩
abbrev cX11_isLeftSide : ByteArray := prog_1_method_62_code
def yX11_isLeftSide : MethodName := ⟨RX11, "isLeftSide", "(LDependencyPairAnalyzer$Term;)Z"⟩
abbrev cX11_bindsVariables : ByteArray := prog_1_method_63_code
def yX11_bindsVariables : MethodName := ⟨RX11, "bindsVariables", "(LDependencyPairAnalyzer$Term;LDependencyPairAnalyzer$Term;)Z"⟩
abbrev cX11_isFunctionNumber : ByteArray := prog_1_method_64_code
def yX11_isFunctionNumber : MethodName := ⟨RX11, "isFunctionNumber", "(I)Z"⟩
abbrev cX11_functionOfSymbol : ByteArray := prog_1_method_65_code
def yX11_functionOfSymbol : MethodName := ⟨RX11, "functionOfSymbol", "(I)I"⟩
abbrev cX11_symbolOfFunction : ByteArray := prog_1_method_66_code
def yX11_symbolOfFunction : MethodName := ⟨RX11, "symbolOfFunction", "(I)I"⟩
abbrev cX11_variableNumber : ByteArray := prog_1_method_67_code
def yX11_variableNumber : MethodName := ⟨RX11, "variableNumber", "(I)I"⟩
abbrev cX11_isFunction : ByteArray := prog_1_method_68_code
def yX11_isFunction : MethodName := ⟨RX11, "isFunction", "(I)Z"⟩
abbrev cX11_isVariable : ByteArray := prog_1_method_69_code
def yX11_isVariable : MethodName := ⟨RX11, "isVariable", "(I)Z"⟩
abbrev cX11_isSymbol : ByteArray := prog_1_method_70_code
def yX11_isSymbol : MethodName := ⟨RX11, "isSymbol", "(I)Z"⟩
abbrev cX11_emptyGraph : ByteArray := prog_1_method_71_code
def yX11_emptyGraph : MethodName := ⟨RX11, "emptyGraph", "(II)I"⟩
abbrev cX11_withRelation : ByteArray := prog_1_method_72_code
def yX11_withRelation : MethodName := ⟨RX11, "withRelation", "(IIII)I"⟩
abbrev cX11_relationIn : ByteArray := prog_1_method_73_code
def yX11_relationIn : MethodName := ⟨RX11, "relationIn", "(III)I"⟩
abbrev cX11_sourceOf : ByteArray := prog_1_method_74_code
def yX11_sourceOf : MethodName := ⟨RX11, "sourceOf", "(I)I"⟩
abbrev cX11_targetOf : ByteArray := prog_1_method_75_code
def yX11_targetOf : MethodName := ⟨RX11, "targetOf", "(I)I"⟩
abbrev cX11_composed : ByteArray := prog_1_method_76_code
def yX11_composed : MethodName := ⟨RX11, "composed", "(II)I"⟩
abbrev cX11_chained : ByteArray := prog_1_method_77_code
def yX11_chained : MethodName := ⟨RX11, "chained", "(II)I"⟩
def RX12 : String := "DependencyPairAnalyzerModel"
def TX12 : u_T := fun k => match k with
  | 0 => ("DependencyPairAnalyzerModel", "arities", "[I", true)
  | 1 => ("DependencyPairAnalyzerModel", "savedArities", "[I", true)
  | 2 => ("DependencyPairAnalyzerModel", "rules", "[I", true)
  | 3 => ("DependencyPairAnalyzerModel", "savedRules", "[I", true)
  | 4 => ("DependencyPairAnalyzerModel", "registers", "[I", true)
  | 5 => ("DependencyPairAnalyzerModel", "savedRegisters", "[I", true)
  | 6 => ("DependencyPairAnalyzerModel", "ruleCount", "I", false)
  | 7 => ("DependencyPairAnalyzerModel", "savedCount", "I", false)
  | 8 => ("DependencyPairAnalyzerModel", "hasSnapshot", "Z", false)
  | 9 => ("DependencyPairAnalyzerModel", "boundAt", "[I", true)
  | 10 => ("DependencyPairAnalyzerModel", "boundLength", "[I", true)
  | 11 => ("DependencyPairAnalyzerModel", "result", "[I", true)
  | 12 => ("DependencyPairAnalyzerModel", "text", "[I", true)
  | 13 => ("DependencyPairAnalyzerModel", "parsed", "[I", true)
  | 14 => ("DependencyPairAnalyzerModel", "parsedLeft", "[I", true)
  | 15 => ("DependencyPairAnalyzerModel", "length", "I", false)
  | 16 => ("DependencyPairAnalyzerModel", "at", "I", false)
  | 17 => ("DependencyPairAnalyzerModel", "pairRules", "[I", true)
  | 18 => ("DependencyPairAnalyzerModel", "pairPositions", "[I", true)
  | 19 => ("DependencyPairAnalyzerModel", "edges", "[J", true)
  | 20 => ("DependencyPairAnalyzerModel", "reached", "[J", true)
  | 21 => ("DependencyPairAnalyzerModel", "isLeft", "[Z", true)
  | 22 => ("DependencyPairAnalyzerModel", "components", "[I", true)
  | 23 => ("DependencyPairAnalyzerModel", "pairs", "I", false)
  | 24 => ("DependencyPairAnalyzerModel", "componentCount", "I", false)
  | 25 => ("DependencyPairAnalyzerModel", "graphs", "[I", true)
  | 26 => ("DependencyPairAnalyzerModel", "one", "[I", true)
  | 27 => ("DependencyPairAnalyzerModel", "other", "[I", true)
  | 28 => ("DependencyPairAnalyzerModel", "isKnown", "[Z", true)
  | 29 => ("DependencyPairAnalyzerModel", "graphCount", "I", false)
  | 30 => ("DependencyPairAnalyzerModel", "composed", "[I", true)
  | 31 => ("DependencyPairAnalyzerModel", "digits", "[I", true)
  | 32 => ("DependencyPairAnalyzerModel", "used", "[Z", true)
  | 33 => ("DependencyPairAnalyzerModel", "isRemoved", "[Z", true)
  | 34 => ("DependencyPairAnalyzerModel", "formatted", "[I", true)
  | 35 => ("DependencyPairAnalyzerModel", "formattedLength", "I", false)
  | 36 => ("DependencyPairAnalyzerModel", "terms", "[I", true)
  | 37 => ("DependencyPairAnalyzerModel", "isExpanded", "[Z", true)
  | 38 => ("DependencyPairAnalyzerModel", "termCount", "I", false)
  | 39 => ("DependencyPairAnalyzerModel", "expandedCount", "I", false)
  | _ => ("DependencyPairAnalyzerModel", "lastExpanded", "I", false)
def tyX12 : Nat → FieldType := fun k => match k with
  | 0 => .array .int
  | 1 => .array .int
  | 2 => .array .int
  | 3 => .array .int
  | 4 => .array .int
  | 5 => .array .int
  | 6 => .int
  | 7 => .int
  | 8 => .boolean
  | 9 => .array .int
  | 10 => .array .int
  | 11 => .array .int
  | 12 => .array .int
  | 13 => .array .int
  | 14 => .array .int
  | 15 => .int
  | 16 => .int
  | 17 => .array .int
  | 18 => .array .int
  | 19 => .array .long
  | 20 => .array .long
  | 21 => .array .boolean
  | 22 => .array .int
  | 23 => .int
  | 24 => .int
  | 25 => .array .int
  | 26 => .array .int
  | 27 => .array .int
  | 28 => .array .boolean
  | 29 => .int
  | 30 => .array .int
  | 31 => .array .int
  | 32 => .array .boolean
  | 33 => .array .boolean
  | 34 => .array .int
  | 35 => .int
  | 36 => .array .int
  | 37 => .array .boolean
  | 38 => .int
  | 39 => .int
  | _ => .int
abbrev wsX120 : List Cond := u_ws RX12 TX12 41
theorem nmX12 : ∀ a, a < 41 → ∀ b, b < 41 → a ≠ b → (TX12 a).2.1 ≠ (TX12 b).2.1 := by decide +kernel
theorem tyX12_ok : ∀ k, k < 41 → parseFieldDescriptor (TX12 k).2.2.1 = some (tyX12 k) := by decide +kernel
abbrev cX12_init : ByteArray := prog_14_method_1_code
def yX12_init : MethodName := ⟨RX12, "<init>", "()V"⟩
abbrev cX12_setToZ : ByteArray := prog_14_method_2_code
def yX12_setToZ : MethodName := ⟨RX12, "setToZ", "(I)V"⟩
abbrev cX12_isIn : ByteArray := prog_14_method_3_code
def yX12_isIn : MethodName := ⟨RX12, "isIn", "(III)Z"⟩
abbrev cX12_copy : ByteArray := prog_14_method_4_code
def yX12_copy : MethodName := ⟨RX12, "copy", "([II[III)V"⟩
abbrev cX12_isFunction : ByteArray := prog_14_method_5_code
def yX12_isFunction : MethodName := ⟨RX12, "isFunction", "(I)Z"⟩
abbrev cX12_isVariable : ByteArray := prog_14_method_6_code
def yX12_isVariable : MethodName := ⟨RX12, "isVariable", "(I)Z"⟩
abbrev cX12_arityOf : ByteArray := prog_14_method_7_code
def yX12_arityOf : MethodName := ⟨RX12, "arityOf", "(I)I"⟩
abbrev cX12_end : ByteArray := prog_14_method_8_code
def yX12_end : MethodName := ⟨RX12, "end", "([II)I"⟩
abbrev cX12_argument : ByteArray := prog_14_method_9_code
def yX12_argument : MethodName := ⟨RX12, "argument", "([III)I"⟩
abbrev cX12_areEqual : ByteArray := prog_14_method_10_code
def yX12_areEqual : MethodName := ⟨RX12, "areEqual", "([II[III)Z"⟩
abbrev cX12_compare : ByteArray := prog_14_method_11_code
def yX12_compare : MethodName := ⟨RX12, "compare", "([II[II)I"⟩
abbrev cX12_left : ByteArray := prog_14_method_12_code
def yX12_left : MethodName := ⟨RX12, "left", "(I)I"⟩
abbrev cX12_right : ByteArray := prog_14_method_13_code
def yX12_right : MethodName := ⟨RX12, "right", "(I)I"⟩
abbrev cX12_isRule : ByteArray := prog_14_method_14_code
def yX12_isRule : MethodName := ⟨RX12, "isRule", "(I)Z"⟩
abbrev cX12_isRegister : ByteArray := prog_14_method_15_code
def yX12_isRegister : MethodName := ⟨RX12, "isRegister", "(I)Z"⟩
abbrev cX12_variable : ByteArray := prog_14_method_16_code
def yX12_variable : MethodName := ⟨RX12, "variable", "(I)I"⟩
abbrev cX12_isMatch : ByteArray := prog_14_method_17_code
def yX12_isMatch : MethodName := ⟨RX12, "isMatch", "(I[II)Z"⟩
abbrev cX12_matching : ByteArray := prog_14_method_18_code
def yX12_matching : MethodName := ⟨RX12, "matching", "([II)I"⟩
abbrev cX12_rewrite : ByteArray := prog_14_method_19_code
def yX12_rewrite : MethodName := ⟨RX12, "rewrite", "([III)I"⟩
abbrev cX12_redex : ByteArray := prog_14_method_20_code
def yX12_redex : MethodName := ⟨RX12, "redex", "([III)I"⟩
abbrev cX12_setArity : ByteArray := prog_14_method_21_code
def yX12_setArity : MethodName := ⟨RX12, "setArity", "(II)I"⟩
abbrev cX12_arity : ByteArray := prog_14_method_22_code
def yX12_arity : MethodName := ⟨RX12, "arity", "(I)I"⟩
abbrev cX12_next : ByteArray := prog_14_method_23_code
def yX12_next : MethodName := ⟨RX12, "next", "()I"⟩
abbrev cX12_accepts : ByteArray := prog_14_method_24_code
def yX12_accepts : MethodName := ⟨RX12, "accepts", "(I)Z"⟩
abbrev cX12_parsesTerm : ByteArray := prog_14_method_25_code
def yX12_parsesTerm : MethodName := ⟨RX12, "parsesTerm", "()Z"⟩
abbrev cX12_hasSymbol : ByteArray := prog_14_method_26_code
def yX12_hasSymbol : MethodName := ⟨RX12, "hasSymbol", "([II)Z"⟩
abbrev cX12_isValidRule : ByteArray := prog_14_method_27_code
def yX12_isValidRule : MethodName := ⟨RX12, "isValidRule", "()Z"⟩
abbrev cX12_addRule : ByteArray := prog_14_method_28_code
def yX12_addRule : MethodName := ⟨RX12, "addRule", "()I"⟩
abbrev cX12_removeRule : ByteArray := prog_14_method_29_code
def yX12_removeRule : MethodName := ⟨RX12, "removeRule", "(I)I"⟩
abbrev cX12_ruleCount : ByteArray := prog_14_method_30_code
def yX12_ruleCount : MethodName := ⟨RX12, "ruleCount", "()I"⟩
abbrev cX12_leftSize : ByteArray := prog_14_method_31_code
def yX12_leftSize : MethodName := ⟨RX12, "leftSize", "(I)I"⟩
abbrev cX12_rightSize : ByteArray := prog_14_method_32_code
def yX12_rightSize : MethodName := ⟨RX12, "rightSize", "(I)I"⟩
abbrev cX12_findPairs : ByteArray := prog_14_method_33_code
def yX12_findPairs : MethodName := ⟨RX12, "findPairs", "()I"⟩
abbrev cX12_source : ByteArray := prog_14_method_34_code
def yX12_source : MethodName := ⟨RX12, "source", "(I)I"⟩
abbrev cX12_target : ByteArray := prog_14_method_35_code
def yX12_target : MethodName := ⟨RX12, "target", "(I)I"⟩
abbrev cX12_sourceOf : ByteArray := prog_14_method_36_code
def yX12_sourceOf : MethodName := ⟨RX12, "sourceOf", "(I)I"⟩
abbrev cX12_targetOf : ByteArray := prog_14_method_37_code
def yX12_targetOf : MethodName := ⟨RX12, "targetOf", "(I)I"⟩
abbrev cX12_pairCount : ByteArray := prog_14_method_38_code
def yX12_pairCount : MethodName := ⟨RX12, "pairCount", "()I"⟩
abbrev cX12_isPair : ByteArray := prog_14_method_39_code
def yX12_isPair : MethodName := ⟨RX12, "isPair", "(I)Z"⟩
abbrev cX12_pairRule : ByteArray := prog_14_method_40_code
def yX12_pairRule : MethodName := ⟨RX12, "pairRule", "(I)I"⟩
abbrev cX12_pairPosition : ByteArray := prog_14_method_41_code
def yX12_pairPosition : MethodName := ⟨RX12, "pairPosition", "(I)I"⟩
abbrev cX12_sourceFunction : ByteArray := prog_14_method_42_code
def yX12_sourceFunction : MethodName := ⟨RX12, "sourceFunction", "(I)I"⟩
abbrev cX12_targetFunction : ByteArray := prog_14_method_43_code
def yX12_targetFunction : MethodName := ⟨RX12, "targetFunction", "(I)I"⟩
abbrev cX12_isCompatible : ByteArray := prog_14_method_44_code
def yX12_isCompatible : MethodName := ⟨RX12, "isCompatible", "(II)Z"⟩
abbrev cX12_areArgumentsCompatible : ByteArray := prog_14_method_45_code
def yX12_areArgumentsCompatible : MethodName := ⟨RX12, "areArgumentsCompatible", "(II)Z"⟩
abbrev cX12_isEdge : ByteArray := prog_14_method_46_code
def yX12_isEdge : MethodName := ⟨RX12, "isEdge", "(II)Z"⟩
abbrev cX12_hasEdge : ByteArray := prog_14_method_47_code
def yX12_hasEdge : MethodName := ⟨RX12, "hasEdge", "(II)I"⟩
abbrev cX12_edgeCount : ByteArray := prog_14_method_48_code
def yX12_edgeCount : MethodName := ⟨RX12, "edgeCount", "()I"⟩
abbrev cX12_hasBit : ByteArray := prog_14_method_49_code
def yX12_hasBit : MethodName := ⟨RX12, "hasBit", "([JII)Z"⟩
abbrev cX12_findGraph : ByteArray := prog_14_method_50_code
def yX12_findGraph : MethodName := ⟨RX12, "findGraph", "()V"⟩
abbrev cX12_findComponents : ByteArray := prog_14_method_51_code
def yX12_findComponents : MethodName := ⟨RX12, "findComponents", "()V"⟩
abbrev cX12_componentCount : ByteArray := prog_14_method_52_code
def yX12_componentCount : MethodName := ⟨RX12, "componentCount", "()I"⟩
abbrev cX12_componentOf : ByteArray := prog_14_method_53_code
def yX12_componentOf : MethodName := ⟨RX12, "componentOf", "(I)I"⟩
abbrev cX12_relation : ByteArray := prog_14_method_54_code
def yX12_relation : MethodName := ⟨RX12, "relation", "(III)I"⟩
abbrev cX12_sizeRelation : ByteArray := prog_14_method_55_code
def yX12_sizeRelation : MethodName := ⟨RX12, "sizeRelation", "(III)I"⟩
abbrev cX12_decode : ByteArray := prog_14_method_56_code
def yX12_decode : MethodName := ⟨RX12, "decode", "(I[I)V"⟩
abbrev cX12_functions : ByteArray := prog_14_method_57_code
def yX12_functions : MethodName := ⟨RX12, "functions", "(I)I"⟩
abbrev cX12_encode : ByteArray := prog_14_method_58_code
def yX12_encode : MethodName := ⟨RX12, "encode", "(I[I)I"⟩
abbrev cX12_compose : ByteArray := prog_14_method_59_code
def yX12_compose : MethodName := ⟨RX12, "compose", "(II)I"⟩
abbrev cX12_addGraph : ByteArray := prog_14_method_60_code
def yX12_addGraph : MethodName := ⟨RX12, "addGraph", "(I)V"⟩
abbrev cX12_findClosure : ByteArray := prog_14_method_61_code
def yX12_findClosure : MethodName := ⟨RX12, "findClosure", "()Z"⟩
abbrev cX12_closureSize : ByteArray := prog_14_method_62_code
def yX12_closureSize : MethodName := ⟨RX12, "closureSize", "()I"⟩
abbrev cX12_idempotentCount : ByteArray := prog_14_method_63_code
def yX12_idempotentCount : MethodName := ⟨RX12, "idempotentCount", "()I"⟩
abbrev cX12_terminatesBySizeChange : ByteArray := prog_14_method_64_code
def yX12_terminatesBySizeChange : MethodName := ⟨RX12, "terminatesBySizeChange", "()I"⟩
abbrev cX12_isValid : ByteArray := prog_14_method_65_code
def yX12_isValid : MethodName := ⟨RX12, "isValid", "(I)Z"⟩
abbrev cX12_findProjection : ByteArray := prog_14_method_66_code
def yX12_findProjection : MethodName := ⟨RX12, "findProjection", "(I)I"⟩
abbrev cX12_projection : ByteArray := prog_14_method_67_code
def yX12_projection : MethodName := ⟨RX12, "projection", "(I)I"⟩
abbrev cX12_eliminate : ByteArray := prog_14_method_68_code
def yX12_eliminate : MethodName := ⟨RX12, "eliminate", "()I"⟩
abbrev cX12_eliminationRounds : ByteArray := prog_14_method_69_code
def yX12_eliminationRounds : MethodName := ⟨RX12, "eliminationRounds", "()I"⟩
abbrev cX12_remainingPairCount : ByteArray := prog_14_method_70_code
def yX12_remainingPairCount : MethodName := ⟨RX12, "remainingPairCount", "()I"⟩
abbrev cX12_remainingComponentCount : ByteArray := prog_14_method_71_code
def yX12_remainingComponentCount : MethodName := ⟨RX12, "remainingComponentCount", "()I"⟩
abbrev cX12_terminatesBySubtermCriterion : ByteArray := prog_14_method_72_code
def yX12_terminatesBySubtermCriterion : MethodName := ⟨RX12, "terminatesBySubtermCriterion", "()I"⟩
abbrev cX12_parseTerm : ByteArray := prog_14_method_73_code
def yX12_parseTerm : MethodName := ⟨RX12, "parseTerm", "(I)I"⟩
abbrev cX12_termSize : ByteArray := prog_14_method_74_code
def yX12_termSize : MethodName := ⟨RX12, "termSize", "(I)I"⟩
abbrev cX12_put : ByteArray := prog_14_method_75_code
def yX12_put : MethodName := ⟨RX12, "put", "(I)V"⟩
abbrev cX12_format : ByteArray := prog_14_method_76_code
def yX12_format : MethodName := ⟨RX12, "format", "(I)I"⟩
abbrev cX12_formattedLength : ByteArray := prog_14_method_77_code
def yX12_formattedLength : MethodName := ⟨RX12, "formattedLength", "(I)I"⟩
abbrev cX12_formattedCharacter : ByteArray := prog_14_method_78_code
def yX12_formattedCharacter : MethodName := ⟨RX12, "formattedCharacter", "(II)I"⟩
abbrev cX12_compareTerms : ByteArray := prog_14_method_79_code
def yX12_compareTerms : MethodName := ⟨RX12, "compareTerms", "(II)I"⟩
abbrev cX12_copyTerm : ByteArray := prog_14_method_80_code
def yX12_copyTerm : MethodName := ⟨RX12, "copyTerm", "(II)I"⟩
abbrev cX12_load : ByteArray := prog_14_method_81_code
def yX12_load : MethodName := ⟨RX12, "load", "(II)I"⟩
abbrev cX12_loadLeft : ByteArray := prog_14_method_82_code
def yX12_loadLeft : MethodName := ⟨RX12, "loadLeft", "(II)I"⟩
abbrev cX12_loadRight : ByteArray := prog_14_method_83_code
def yX12_loadRight : MethodName := ⟨RX12, "loadRight", "(II)I"⟩
abbrev cX12_isPosition : ByteArray := prog_14_method_84_code
def yX12_isPosition : MethodName := ⟨RX12, "isPosition", "(II)Z"⟩
abbrev cX12_matches : ByteArray := prog_14_method_85_code
def yX12_matches : MethodName := ⟨RX12, "matches", "(III)I"⟩
abbrev cX12_redexCount : ByteArray := prog_14_method_86_code
def yX12_redexCount : MethodName := ⟨RX12, "redexCount", "(I)I"⟩
abbrev cX12_redexAt : ByteArray := prog_14_method_87_code
def yX12_redexAt : MethodName := ⟨RX12, "redexAt", "(II)I"⟩
abbrev cX12_rewriteAt : ByteArray := prog_14_method_88_code
def yX12_rewriteAt : MethodName := ⟨RX12, "rewriteAt", "(II)I"⟩
abbrev cX12_rewriteOutermost : ByteArray := prog_14_method_89_code
def yX12_rewriteOutermost : MethodName := ⟨RX12, "rewriteOutermost", "(II)I"⟩
abbrev cX12_isMet : ByteArray := prog_14_method_90_code
def yX12_isMet : MethodName := ⟨RX12, "isMet", "()Z"⟩
abbrev cX12_meet : ByteArray := prog_14_method_91_code
def yX12_meet : MethodName := ⟨RX12, "meet", "([II)V"⟩
abbrev cX12_findLoop : ByteArray := prog_14_method_92_code
def yX12_findLoop : MethodName := ⟨RX12, "findLoop", "(II)I"⟩
abbrev cX12_lowestUnexpanded : ByteArray := prog_14_method_93_code
def yX12_lowestUnexpanded : MethodName := ⟨RX12, "lowestUnexpanded", "()I"⟩
abbrev cX12_explore : ByteArray := prog_14_method_94_code
def yX12_explore : MethodName := ⟨RX12, "explore", "(II)V"⟩
abbrev cX12_wrongExploration : ByteArray := prog_14_method_95_code
def yX12_wrongExploration : MethodName := ⟨RX12, "wrongExploration", "(II)I"⟩
abbrev cX12_exploredCount : ByteArray := prog_14_method_96_code
def yX12_exploredCount : MethodName := ⟨RX12, "exploredCount", "(II)I"⟩
abbrev cX12_isNormalForm : ByteArray := prog_14_method_97_code
def yX12_isNormalForm : MethodName := ⟨RX12, "isNormalForm", "([II)Z"⟩
abbrev cX12_exploredNormalForms : ByteArray := prog_14_method_98_code
def yX12_exploredNormalForms : MethodName := ⟨RX12, "exploredNormalForms", "(II)I"⟩
abbrev cX12_lastExploredSize : ByteArray := prog_14_method_99_code
def yX12_lastExploredSize : MethodName := ⟨RX12, "lastExploredSize", "(II)I"⟩
abbrev cX12_loadNormalForm : ByteArray := prog_14_method_100_code
def yX12_loadNormalForm : MethodName := ⟨RX12, "loadNormalForm", "(III)I"⟩
abbrev cX12_normalFormRegisterCount : ByteArray := prog_14_method_101_code
def yX12_normalFormRegisterCount : MethodName := ⟨RX12, "normalFormRegisterCount", "()I"⟩
abbrev cX12_appendCharacter : ByteArray := prog_14_method_102_code
def yX12_appendCharacter : MethodName := ⟨RX12, "appendCharacter", "(I)I"⟩
abbrev cX12_clearText : ByteArray := prog_14_method_103_code
def yX12_clearText : MethodName := ⟨RX12, "clearText", "()I"⟩
abbrev cX12_textLength : ByteArray := prog_14_method_104_code
def yX12_textLength : MethodName := ⟨RX12, "textLength", "()I"⟩
abbrev cX12_saveSnapshot : ByteArray := prog_14_method_105_code
def yX12_saveSnapshot : MethodName := ⟨RX12, "saveSnapshot", "()I"⟩
abbrev cX12_restoreSnapshot : ByteArray := prog_14_method_106_code
def yX12_restoreSnapshot : MethodName := ⟨RX12, "restoreSnapshot", "()I"⟩
def RJ6 : String := "java/lang/Integer"
abbrev cJ6_compare_7cf53 : ByteArray := prog_15_method_40_code
def yJ6_compare_7cf53 : MethodName := ⟨RJ6, "compare", "(II)I"⟩
def RJ13 : String := "java/lang/Long"
abbrev cJ13_bitCount_95d88 : ByteArray := prog_16_method_50_code
def yJ13_bitCount_95d88 : MethodName := ⟨RJ13, "bitCount", "(J)I"⟩
def RJ9 : String := "java/lang/Math"
abbrev cJ9_max_7cf53 : ByteArray := prog_17_method_65_code
def yJ9_max_7cf53 : MethodName := ⟨RJ9, "max", "(II)I"⟩
abbrev cJ9_min_7cf53 : ByteArray := prog_17_method_69_code
def yJ9_min_7cf53 : MethodName := ⟨RJ9, "min", "(II)I"⟩
def RJ10 : String := "java/lang/System"
def RL : String := "DependencyPairAnalyzerLaw"
abbrev cL_law : ByteArray := code
