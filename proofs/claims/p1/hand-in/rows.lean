section
-- ===== PART A: goes FIRST, ahead of the names: the tables' words, and 'selects' of the private methods out of them =====
/-- a private method of a class that the tables say can be made, by its rows of tables_1 -/
def lw_okq (q : MethodName × Nat) : Prop := (q.1.cls ≠ "java/lang/invoke/MethodHandle" ∧ q.1.cls ≠ "java/lang/invoke/VarHandle") ∧ Cond.instantiable q.1.cls q.2 ∈ tables_1 ∧ Cond.privateMethod q.1 ∈ tables_1 ∧ Cond.instanceMethod q.1 ∈ tables_1
theorem lw_p0 : lw_okq (⟨"PatternDesk", "takeWord", "(I)V"⟩, 11) := ⟨⟨by decide +kernel, by decide +kernel⟩, List.mem_of_getElem? (i := 23) (by decide +kernel), List.mem_of_getElem? (i := 398) (by decide +kernel), List.mem_of_getElem? (i := 399) (by decide +kernel)⟩
theorem lw_p1 : lw_okq (⟨"PatternDesk$Tokens", "readToken", "(I)I"⟩, 6) := ⟨⟨by decide +kernel, by decide +kernel⟩, List.mem_of_getElem? (i := 31) (by decide +kernel), List.mem_of_getElem? (i := 422) (by decide +kernel), List.mem_of_getElem? (i := 423) (by decide +kernel)⟩
theorem lw_p2 : lw_okq (⟨"PatternDesk$Tokens", "signAt", "(I)I"⟩, 6) := ⟨⟨by decide +kernel, by decide +kernel⟩, List.mem_of_getElem? (i := 31) (by decide +kernel), List.mem_of_getElem? (i := 426) (by decide +kernel), List.mem_of_getElem? (i := 427) (by decide +kernel)⟩
theorem lw_p3 : lw_okq (⟨"PatternDesk$Tokens", "wordEnd", "(I)I"⟩, 6) := ⟨⟨by decide +kernel, by decide +kernel⟩, List.mem_of_getElem? (i := 31) (by decide +kernel), List.mem_of_getElem? (i := 516) (by decide +kernel), List.mem_of_getElem? (i := 517) (by decide +kernel)⟩
theorem lw_p4 : lw_okq (⟨"PatternDesk$Tokens", "wordKind", "(II)I"⟩, 6) := ⟨⟨by decide +kernel, by decide +kernel⟩, List.mem_of_getElem? (i := 31) (by decide +kernel), List.mem_of_getElem? (i := 523) (by decide +kernel), List.mem_of_getElem? (i := 524) (by decide +kernel)⟩
theorem lw_p5 : lw_okq (⟨"PatternDesk$Tokens", "spells", "(IILjava/lang/String;)Z"⟩, 6) := ⟨⟨by decide +kernel, by decide +kernel⟩, List.mem_of_getElem? (i := 31) (by decide +kernel), List.mem_of_getElem? (i := 528) (by decide +kernel), List.mem_of_getElem? (i := 529) (by decide +kernel)⟩
theorem lw_p6 : lw_okq (⟨"PatternDesk$Grammar", "item", "()Z"⟩, 2) := ⟨⟨by decide +kernel, by decide +kernel⟩, List.mem_of_getElem? (i := 57) (by decide +kernel), List.mem_of_getElem? (i := 565) (by decide +kernel), List.mem_of_getElem? (i := 566) (by decide +kernel)⟩
theorem lw_p7 : lw_okq (⟨"PatternDesk$Grammar", "takes", "(I)Z"⟩, 2) := ⟨⟨by decide +kernel, by decide +kernel⟩, List.mem_of_getElem? (i := 57) (by decide +kernel), List.mem_of_getElem? (i := 569) (by decide +kernel), List.mem_of_getElem? (i := 570) (by decide +kernel)⟩
theorem lw_p8 : lw_okq (⟨"PatternDesk$Grammar", "type", "(I)Z"⟩, 2) := ⟨⟨by decide +kernel, by decide +kernel⟩, List.mem_of_getElem? (i := 57) (by decide +kernel), List.mem_of_getElem? (i := 573) (by decide +kernel), List.mem_of_getElem? (i := 574) (by decide +kernel)⟩
theorem lw_p9 : lw_okq (⟨"PatternDesk$Grammar", "atom", "(I)Z"⟩, 2) := ⟨⟨by decide +kernel, by decide +kernel⟩, List.mem_of_getElem? (i := 57) (by decide +kernel), List.mem_of_getElem? (i := 577) (by decide +kernel), List.mem_of_getElem? (i := 578) (by decide +kernel)⟩
theorem lw_p10 : lw_okq (⟨"PatternDesk$Grammar", "term", "(I)Z"⟩, 2) := ⟨⟨by decide +kernel, by decide +kernel⟩, List.mem_of_getElem? (i := 57) (by decide +kernel), List.mem_of_getElem? (i := 581) (by decide +kernel), List.mem_of_getElem? (i := 582) (by decide +kernel)⟩
theorem lw_p11 : lw_okq (⟨"PatternDesk$Grammar", "arguments", "(I)Z"⟩, 2) := ⟨⟨by decide +kernel, by decide +kernel⟩, List.mem_of_getElem? (i := 57) (by decide +kernel), List.mem_of_getElem? (i := 585) (by decide +kernel), List.mem_of_getElem? (i := 586) (by decide +kernel)⟩
theorem lw_p12 : lw_okq (⟨"PatternDesk$Checker", "equation", "()Z"⟩, 15) := ⟨⟨by decide +kernel, by decide +kernel⟩, List.mem_of_getElem? (i := 120) (by decide +kernel), List.mem_of_getElem? (i := 614) (by decide +kernel), List.mem_of_getElem? (i := 615) (by decide +kernel)⟩
theorem lw_p13 : lw_okq (⟨"PatternDesk$Checker", "blame", "(II)Z"⟩, 15) := ⟨⟨by decide +kernel, by decide +kernel⟩, List.mem_of_getElem? (i := 120) (by decide +kernel), List.mem_of_getElem? (i := 618) (by decide +kernel), List.mem_of_getElem? (i := 619) (by decide +kernel)⟩
theorem lw_p14 : lw_okq (⟨"PatternDesk$Checker", "largeType", "()I"⟩, 15) := ⟨⟨by decide +kernel, by decide +kernel⟩, List.mem_of_getElem? (i := 120) (by decide +kernel), List.mem_of_getElem? (i := 623) (by decide +kernel), List.mem_of_getElem? (i := 624) (by decide +kernel)⟩
theorem lw_p15 : lw_okq (⟨"PatternDesk$Checker", "term", "(I)I"⟩, 15) := ⟨⟨by decide +kernel, by decide +kernel⟩, List.mem_of_getElem? (i := 120) (by decide +kernel), List.mem_of_getElem? (i := 627) (by decide +kernel), List.mem_of_getElem? (i := 628) (by decide +kernel)⟩
def lw_privs_1 : List (MethodName × Nat) := [(⟨"PatternDesk", "takeWord", "(I)V"⟩, 11), (⟨"PatternDesk$Tokens", "readToken", "(I)I"⟩, 6), (⟨"PatternDesk$Tokens", "signAt", "(I)I"⟩, 6), (⟨"PatternDesk$Tokens", "wordEnd", "(I)I"⟩, 6), (⟨"PatternDesk$Tokens", "wordKind", "(II)I"⟩, 6), (⟨"PatternDesk$Tokens", "spells", "(IILjava/lang/String;)Z"⟩, 6), (⟨"PatternDesk$Grammar", "item", "()Z"⟩, 2), (⟨"PatternDesk$Grammar", "takes", "(I)Z"⟩, 2), (⟨"PatternDesk$Grammar", "type", "(I)Z"⟩, 2), (⟨"PatternDesk$Grammar", "atom", "(I)Z"⟩, 2), (⟨"PatternDesk$Grammar", "term", "(I)Z"⟩, 2), (⟨"PatternDesk$Grammar", "arguments", "(I)Z"⟩, 2), (⟨"PatternDesk$Checker", "equation", "()Z"⟩, 15), (⟨"PatternDesk$Checker", "blame", "(II)Z"⟩, 15), (⟨"PatternDesk$Checker", "largeType", "()I"⟩, 15), (⟨"PatternDesk$Checker", "term", "(I)I"⟩, 15)]
theorem lw_r1 : ∀ q ∈ lw_privs_1, lw_okq q := List.forall_mem_cons.mpr ⟨lw_p0, List.forall_mem_cons.mpr ⟨lw_p1, List.forall_mem_cons.mpr ⟨lw_p2, List.forall_mem_cons.mpr ⟨lw_p3, List.forall_mem_cons.mpr ⟨lw_p4, List.forall_mem_cons.mpr ⟨lw_p5, List.forall_mem_cons.mpr ⟨lw_p6, List.forall_mem_cons.mpr ⟨lw_p7, List.forall_mem_cons.mpr ⟨lw_p8, List.forall_mem_cons.mpr ⟨lw_p9, List.forall_mem_cons.mpr ⟨lw_p10, List.forall_mem_cons.mpr ⟨lw_p11, List.forall_mem_cons.mpr ⟨lw_p12, List.forall_mem_cons.mpr ⟨lw_p13, List.forall_mem_cons.mpr ⟨lw_p14, List.forall_mem_cons.mpr ⟨lw_p15, fun _ h => absurd h List.not_mem_nil⟩⟩⟩⟩⟩⟩⟩⟩⟩⟩⟩⟩⟩⟩⟩⟩
theorem lw_p16 : lw_okq (⟨"PatternDesk$Checker", "abstraction", "(I)I"⟩, 15) := ⟨⟨by decide +kernel, by decide +kernel⟩, List.mem_of_getElem? (i := 120) (by decide +kernel), List.mem_of_getElem? (i := 631) (by decide +kernel), List.mem_of_getElem? (i := 632) (by decide +kernel)⟩
theorem lw_p17 : lw_okq (⟨"PatternDesk$Checker", "type", "(I)I"⟩, 15) := ⟨⟨by decide +kernel, by decide +kernel⟩, List.mem_of_getElem? (i := 120) (by decide +kernel), List.mem_of_getElem? (i := 635) (by decide +kernel), List.mem_of_getElem? (i := 636) (by decide +kernel)⟩
theorem lw_p18 : lw_okq (⟨"PatternDesk$Checker", "atom", "(I)I"⟩, 15) := ⟨⟨by decide +kernel, by decide +kernel⟩, List.mem_of_getElem? (i := 120) (by decide +kernel), List.mem_of_getElem? (i := 639) (by decide +kernel), List.mem_of_getElem? (i := 640) (by decide +kernel)⟩
theorem lw_p19 : lw_okq (⟨"PatternDesk$Checker", "named", "(IZ)I"⟩, 15) := ⟨⟨by decide +kernel, by decide +kernel⟩, List.mem_of_getElem? (i := 120) (by decide +kernel), List.mem_of_getElem? (i := 659) (by decide +kernel), List.mem_of_getElem? (i := 660) (by decide +kernel)⟩
theorem lw_p20 : lw_okq (⟨"PatternDesk$Checker", "meaning", "(I)I"⟩, 15) := ⟨⟨by decide +kernel, by decide +kernel⟩, List.mem_of_getElem? (i := 120) (by decide +kernel), List.mem_of_getElem? (i := 663) (by decide +kernel), List.mem_of_getElem? (i := 664) (by decide +kernel)⟩
theorem lw_p21 : lw_okq (⟨"PatternDesk$Checker", "beginsArgument", "()Z"⟩, 15) := ⟨⟨by decide +kernel, by decide +kernel⟩, List.mem_of_getElem? (i := 120) (by decide +kernel), List.mem_of_getElem? (i := 686) (by decide +kernel), List.mem_of_getElem? (i := 687) (by decide +kernel)⟩
theorem lw_p22 : lw_okq (⟨"PatternDesk$Checker", "argument", "(I)I"⟩, 15) := ⟨⟨by decide +kernel, by decide +kernel⟩, List.mem_of_getElem? (i := 120) (by decide +kernel), List.mem_of_getElem? (i := 690) (by decide +kernel), List.mem_of_getElem? (i := 691) (by decide +kernel)⟩
theorem lw_p23 : lw_okq (⟨"PatternDesk$Checker", "gives", "(II)Z"⟩, 15) := ⟨⟨by decide +kernel, by decide +kernel⟩, List.mem_of_getElem? (i := 120) (by decide +kernel), List.mem_of_getElem? (i := 702) (by decide +kernel), List.mem_of_getElem? (i := 703) (by decide +kernel)⟩
theorem lw_p24 : lw_okq (⟨"PatternDesk$Terms", "asVariable", "(II)I"⟩, 9) := ⟨⟨by decide +kernel, by decide +kernel⟩, List.mem_of_getElem? (i := 86) (by decide +kernel), List.mem_of_getElem? (i := 714) (by decide +kernel), List.mem_of_getElem? (i := 715) (by decide +kernel)⟩
theorem lw_p25 : lw_okq (⟨"PatternDesk$Terms", "complete", "(III)I"⟩, 9) := ⟨⟨by decide +kernel, by decide +kernel⟩, List.mem_of_getElem? (i := 86) (by decide +kernel), List.mem_of_getElem? (i := 740) (by decide +kernel), List.mem_of_getElem? (i := 741) (by decide +kernel)⟩
theorem lw_p26 : lw_okq (⟨"PatternDesk$Checker", "declaration", "(LPatternDesk$Names;)Z"⟩, 15) := ⟨⟨by decide +kernel, by decide +kernel⟩, List.mem_of_getElem? (i := 120) (by decide +kernel), List.mem_of_getElem? (i := 755) (by decide +kernel), List.mem_of_getElem? (i := 756) (by decide +kernel)⟩
theorem lw_p27 : lw_okq (⟨"PatternDesk$Solver", "step", "()Z"⟩, 13) := ⟨⟨by decide +kernel, by decide +kernel⟩, List.mem_of_getElem? (i := 241) (by decide +kernel), List.mem_of_getElem? (i := 840) (by decide +kernel), List.mem_of_getElem? (i := 841) (by decide +kernel)⟩
theorem lw_p28 : lw_okq (⟨"PatternDesk$Solver", "takePair", "()V"⟩, 13) := ⟨⟨by decide +kernel, by decide +kernel⟩, List.mem_of_getElem? (i := 241) (by decide +kernel), List.mem_of_getElem? (i := 844) (by decide +kernel), List.mem_of_getElem? (i := 845) (by decide +kernel)⟩
theorem lw_p29 : lw_okq (⟨"PatternDesk$Solver", "isUnknown", "(I)Z"⟩, 13) := ⟨⟨by decide +kernel, by decide +kernel⟩, List.mem_of_getElem? (i := 241) (by decide +kernel), List.mem_of_getElem? (i := 884) (by decide +kernel), List.mem_of_getElem? (i := 885) (by decide +kernel)⟩
theorem lw_p30 : lw_okq (⟨"PatternDesk$Solver", "equalArguments", "()I"⟩, 13) := ⟨⟨by decide +kernel, by decide +kernel⟩, List.mem_of_getElem? (i := 241) (by decide +kernel), List.mem_of_getElem? (i := 888) (by decide +kernel), List.mem_of_getElem? (i := 889) (by decide +kernel)⟩
theorem lw_p31 : lw_okq (⟨"PatternDesk$Solver", "allArguments", "(I)I"⟩, 13) := ⟨⟨by decide +kernel, by decide +kernel⟩, List.mem_of_getElem? (i := 241) (by decide +kernel), List.mem_of_getElem? (i := 898) (by decide +kernel), List.mem_of_getElem? (i := 899) (by decide +kernel)⟩
def lw_privs_2 : List (MethodName × Nat) := [(⟨"PatternDesk$Checker", "abstraction", "(I)I"⟩, 15), (⟨"PatternDesk$Checker", "type", "(I)I"⟩, 15), (⟨"PatternDesk$Checker", "atom", "(I)I"⟩, 15), (⟨"PatternDesk$Checker", "named", "(IZ)I"⟩, 15), (⟨"PatternDesk$Checker", "meaning", "(I)I"⟩, 15), (⟨"PatternDesk$Checker", "beginsArgument", "()Z"⟩, 15), (⟨"PatternDesk$Checker", "argument", "(I)I"⟩, 15), (⟨"PatternDesk$Checker", "gives", "(II)Z"⟩, 15), (⟨"PatternDesk$Terms", "asVariable", "(II)I"⟩, 9), (⟨"PatternDesk$Terms", "complete", "(III)I"⟩, 9), (⟨"PatternDesk$Checker", "declaration", "(LPatternDesk$Names;)Z"⟩, 15), (⟨"PatternDesk$Solver", "step", "()Z"⟩, 13), (⟨"PatternDesk$Solver", "takePair", "()V"⟩, 13), (⟨"PatternDesk$Solver", "isUnknown", "(I)Z"⟩, 13), (⟨"PatternDesk$Solver", "equalArguments", "()I"⟩, 13), (⟨"PatternDesk$Solver", "allArguments", "(I)I"⟩, 13)]
theorem lw_r2 : ∀ q ∈ lw_privs_2, lw_okq q := List.forall_mem_cons.mpr ⟨lw_p16, List.forall_mem_cons.mpr ⟨lw_p17, List.forall_mem_cons.mpr ⟨lw_p18, List.forall_mem_cons.mpr ⟨lw_p19, List.forall_mem_cons.mpr ⟨lw_p20, List.forall_mem_cons.mpr ⟨lw_p21, List.forall_mem_cons.mpr ⟨lw_p22, List.forall_mem_cons.mpr ⟨lw_p23, List.forall_mem_cons.mpr ⟨lw_p24, List.forall_mem_cons.mpr ⟨lw_p25, List.forall_mem_cons.mpr ⟨lw_p26, List.forall_mem_cons.mpr ⟨lw_p27, List.forall_mem_cons.mpr ⟨lw_p28, List.forall_mem_cons.mpr ⟨lw_p29, List.forall_mem_cons.mpr ⟨lw_p30, List.forall_mem_cons.mpr ⟨lw_p31, fun _ h => absurd h List.not_mem_nil⟩⟩⟩⟩⟩⟩⟩⟩⟩⟩⟩⟩⟩⟩⟩⟩
theorem lw_p32 : lw_okq (⟨"PatternDesk$Solver", "meet", "()V"⟩, 13) := ⟨⟨by decide +kernel, by decide +kernel⟩, List.mem_of_getElem? (i := 241) (by decide +kernel), List.mem_of_getElem? (i := 927) (by decide +kernel), List.mem_of_getElem? (i := 928) (by decide +kernel)⟩
theorem lw_p33 : lw_okq (⟨"PatternDesk$Solver", "give", "()Z"⟩, 13) := ⟨⟨by decide +kernel, by decide +kernel⟩, List.mem_of_getElem? (i := 241) (by decide +kernel), List.mem_of_getElem? (i := 946) (by decide +kernel), List.mem_of_getElem? (i := 947) (by decide +kernel)⟩
theorem lw_p34 : lw_okq (⟨"PatternDesk$Solver", "fitStep", "()Z"⟩, 13) := ⟨⟨by decide +kernel, by decide +kernel⟩, List.mem_of_getElem? (i := 241) (by decide +kernel), List.mem_of_getElem? (i := 960) (by decide +kernel), List.mem_of_getElem? (i := 961) (by decide +kernel)⟩
theorem lw_p35 : lw_okq (⟨"PatternDesk$Solver", "fitUnknown", "(III)Z"⟩, 13) := ⟨⟨by decide +kernel, by decide +kernel⟩, List.mem_of_getElem? (i := 241) (by decide +kernel), List.mem_of_getElem? (i := 964) (by decide +kernel), List.mem_of_getElem? (i := 965) (by decide +kernel)⟩
theorem lw_p36 : lw_okq (⟨"PatternDesk$Solver", "allowedArguments", "(II)I"⟩, 13) := ⟨⟨by decide +kernel, by decide +kernel⟩, List.mem_of_getElem? (i := 241) (by decide +kernel), List.mem_of_getElem? (i := 968) (by decide +kernel), List.mem_of_getElem? (i := 969) (by decide +kernel)⟩
theorem lw_p37 : lw_okq (⟨"PatternDesk$Solver", "isAllowed", "(I)Z"⟩, 13) := ⟨⟨by decide +kernel, by decide +kernel⟩, List.mem_of_getElem? (i := 241) (by decide +kernel), List.mem_of_getElem? (i := 972) (by decide +kernel), List.mem_of_getElem? (i := 973) (by decide +kernel)⟩
theorem lw_p38 : lw_okq (⟨"PatternDesk$Solver", "swap", "()V"⟩, 13) := ⟨⟨by decide +kernel, by decide +kernel⟩, List.mem_of_getElem? (i := 241) (by decide +kernel), List.mem_of_getElem? (i := 984) (by decide +kernel), List.mem_of_getElem? (i := 985) (by decide +kernel)⟩
theorem lw_p39 : lw_okq (⟨"PatternDesk$Solver", "takeApart", "()Z"⟩, 13) := ⟨⟨by decide +kernel, by decide +kernel⟩, List.mem_of_getElem? (i := 241) (by decide +kernel), List.mem_of_getElem? (i := 988) (by decide +kernel), List.mem_of_getElem? (i := 989) (by decide +kernel)⟩
theorem lw_p40 : lw_okq (⟨"PatternDesk$Writer", "numberStep", "()V"⟩, 12) := ⟨⟨by decide +kernel, by decide +kernel⟩, List.mem_of_getElem? (i := 315) (by decide +kernel), List.mem_of_getElem? (i := 1007) (by decide +kernel), List.mem_of_getElem? (i := 1008) (by decide +kernel)⟩
theorem lw_p41 : lw_okq (⟨"PatternDesk$Writer", "orderArguments", "(II)V"⟩, 12) := ⟨⟨by decide +kernel, by decide +kernel⟩, List.mem_of_getElem? (i := 315) (by decide +kernel), List.mem_of_getElem? (i := 1025) (by decide +kernel), List.mem_of_getElem? (i := 1026) (by decide +kernel)⟩
theorem lw_p42 : lw_okq (⟨"PatternDesk$Writer", "argumentLevel", "(III)I"⟩, 12) := ⟨⟨by decide +kernel, by decide +kernel⟩, List.mem_of_getElem? (i := 315) (by decide +kernel), List.mem_of_getElem? (i := 1029) (by decide +kernel), List.mem_of_getElem? (i := 1030) (by decide +kernel)⟩
theorem lw_p43 : lw_okq (⟨"PatternDesk", "hasSolution", "()Z"⟩, 11) := ⟨⟨by decide +kernel, by decide +kernel⟩, List.mem_of_getElem? (i := 23) (by decide +kernel), List.mem_of_getElem? (i := 1038) (by decide +kernel), List.mem_of_getElem? (i := 1039) (by decide +kernel)⟩
theorem lw_p44 : lw_okq (⟨"PatternDesk$Writer", "writeStep", "()V"⟩, 12) := ⟨⟨by decide +kernel, by decide +kernel⟩, List.mem_of_getElem? (i := 315) (by decide +kernel), List.mem_of_getElem? (i := 1056) (by decide +kernel), List.mem_of_getElem? (i := 1057) (by decide +kernel)⟩
theorem lw_p45 : lw_okq (⟨"PatternDesk$Writer", "put", "(I)V"⟩, 12) := ⟨⟨by decide +kernel, by decide +kernel⟩, List.mem_of_getElem? (i := 315) (by decide +kernel), List.mem_of_getElem? (i := 1061) (by decide +kernel), List.mem_of_getElem? (i := 1062) (by decide +kernel)⟩
theorem lw_p46 : lw_okq (⟨"PatternDesk$Writer", "beginArgument", "(I)V"⟩, 12) := ⟨⟨by decide +kernel, by decide +kernel⟩, List.mem_of_getElem? (i := 315) (by decide +kernel), List.mem_of_getElem? (i := 1068) (by decide +kernel), List.mem_of_getElem? (i := 1069) (by decide +kernel)⟩
theorem lw_p47 : lw_okq (⟨"PatternDesk$Writer", "putBinder", "(I)V"⟩, 12) := ⟨⟨by decide +kernel, by decide +kernel⟩, List.mem_of_getElem? (i := 315) (by decide +kernel), List.mem_of_getElem? (i := 1072) (by decide +kernel), List.mem_of_getElem? (i := 1073) (by decide +kernel)⟩
def lw_privs_3 : List (MethodName × Nat) := [(⟨"PatternDesk$Solver", "meet", "()V"⟩, 13), (⟨"PatternDesk$Solver", "give", "()Z"⟩, 13), (⟨"PatternDesk$Solver", "fitStep", "()Z"⟩, 13), (⟨"PatternDesk$Solver", "fitUnknown", "(III)Z"⟩, 13), (⟨"PatternDesk$Solver", "allowedArguments", "(II)I"⟩, 13), (⟨"PatternDesk$Solver", "isAllowed", "(I)Z"⟩, 13), (⟨"PatternDesk$Solver", "swap", "()V"⟩, 13), (⟨"PatternDesk$Solver", "takeApart", "()Z"⟩, 13), (⟨"PatternDesk$Writer", "numberStep", "()V"⟩, 12), (⟨"PatternDesk$Writer", "orderArguments", "(II)V"⟩, 12), (⟨"PatternDesk$Writer", "argumentLevel", "(III)I"⟩, 12), (⟨"PatternDesk", "hasSolution", "()Z"⟩, 11), (⟨"PatternDesk$Writer", "writeStep", "()V"⟩, 12), (⟨"PatternDesk$Writer", "put", "(I)V"⟩, 12), (⟨"PatternDesk$Writer", "beginArgument", "(I)V"⟩, 12), (⟨"PatternDesk$Writer", "putBinder", "(I)V"⟩, 12)]
theorem lw_r3 : ∀ q ∈ lw_privs_3, lw_okq q := List.forall_mem_cons.mpr ⟨lw_p32, List.forall_mem_cons.mpr ⟨lw_p33, List.forall_mem_cons.mpr ⟨lw_p34, List.forall_mem_cons.mpr ⟨lw_p35, List.forall_mem_cons.mpr ⟨lw_p36, List.forall_mem_cons.mpr ⟨lw_p37, List.forall_mem_cons.mpr ⟨lw_p38, List.forall_mem_cons.mpr ⟨lw_p39, List.forall_mem_cons.mpr ⟨lw_p40, List.forall_mem_cons.mpr ⟨lw_p41, List.forall_mem_cons.mpr ⟨lw_p42, List.forall_mem_cons.mpr ⟨lw_p43, List.forall_mem_cons.mpr ⟨lw_p44, List.forall_mem_cons.mpr ⟨lw_p45, List.forall_mem_cons.mpr ⟨lw_p46, List.forall_mem_cons.mpr ⟨lw_p47, fun _ h => absurd h List.not_mem_nil⟩⟩⟩⟩⟩⟩⟩⟩⟩⟩⟩⟩⟩⟩⟩⟩
theorem lw_p48 : lw_okq (⟨"PatternDesk$Writer", "putNumber", "(I)V"⟩, 12) := ⟨⟨by decide +kernel, by decide +kernel⟩, List.mem_of_getElem? (i := 315) (by decide +kernel), List.mem_of_getElem? (i := 1076) (by decide +kernel), List.mem_of_getElem? (i := 1077) (by decide +kernel)⟩
theorem lw_p49 : lw_okq (⟨"PatternDesk$Writer", "putUnknown", "(III)V"⟩, 12) := ⟨⟨by decide +kernel, by decide +kernel⟩, List.mem_of_getElem? (i := 315) (by decide +kernel), List.mem_of_getElem? (i := 1080) (by decide +kernel), List.mem_of_getElem? (i := 1081) (by decide +kernel)⟩
theorem lw_p50 : lw_okq (⟨"PatternDesk$Writer", "putVariable", "(IIII)V"⟩, 12) := ⟨⟨by decide +kernel, by decide +kernel⟩, List.mem_of_getElem? (i := 315) (by decide +kernel), List.mem_of_getElem? (i := 1085) (by decide +kernel), List.mem_of_getElem? (i := 1086) (by decide +kernel)⟩
theorem lw_p51 : lw_okq (⟨"PatternDesk$Writer", "putHead", "(II)V"⟩, 12) := ⟨⟨by decide +kernel, by decide +kernel⟩, List.mem_of_getElem? (i := 315) (by decide +kernel), List.mem_of_getElem? (i := 1092) (by decide +kernel), List.mem_of_getElem? (i := 1093) (by decide +kernel)⟩
theorem lw_p52 : lw_okq (⟨"PatternDeskModel", "cut", "()V"⟩, 90) := ⟨⟨by decide +kernel, by decide +kernel⟩, List.mem_of_getElem? (i := 1133) (by decide +kernel), List.mem_of_getElem? (i := 1422) (by decide +kernel), List.mem_of_getElem? (i := 1423) (by decide +kernel)⟩
theorem lw_p53 : lw_okq (⟨"PatternDeskModel", "byteAt", "(I)I"⟩, 90) := ⟨⟨by decide +kernel, by decide +kernel⟩, List.mem_of_getElem? (i := 1133) (by decide +kernel), List.mem_of_getElem? (i := 1426) (by decide +kernel), List.mem_of_getElem? (i := 1427) (by decide +kernel)⟩
theorem lw_p54 : lw_okq (⟨"PatternDeskModel", "tokenAt", "(II)I"⟩, 90) := ⟨⟨by decide +kernel, by decide +kernel⟩, List.mem_of_getElem? (i := 1133) (by decide +kernel), List.mem_of_getElem? (i := 1430) (by decide +kernel), List.mem_of_getElem? (i := 1431) (by decide +kernel)⟩
theorem lw_p55 : lw_okq (⟨"PatternDeskModel", "is", "(IILjava/lang/String;)Z"⟩, 90) := ⟨⟨by decide +kernel, by decide +kernel⟩, List.mem_of_getElem? (i := 1133) (by decide +kernel), List.mem_of_getElem? (i := 1441) (by decide +kernel), List.mem_of_getElem? (i := 1442) (by decide +kernel)⟩
theorem lw_p56 : lw_okq (⟨"PatternDeskModel", "read", "()V"⟩, 90) := ⟨⟨by decide +kernel, by decide +kernel⟩, List.mem_of_getElem? (i := 1133) (by decide +kernel), List.mem_of_getElem? (i := 1451) (by decide +kernel), List.mem_of_getElem? (i := 1452) (by decide +kernel)⟩
theorem lw_p57 : lw_okq (⟨"PatternDeskModel", "take", "(I)I"⟩, 90) := ⟨⟨by decide +kernel, by decide +kernel⟩, List.mem_of_getElem? (i := 1133) (by decide +kernel), List.mem_of_getElem? (i := 1455) (by decide +kernel), List.mem_of_getElem? (i := 1456) (by decide +kernel)⟩
theorem lw_p58 : lw_okq (⟨"PatternDeskModel", "type", "(I)I"⟩, 90) := ⟨⟨by decide +kernel, by decide +kernel⟩, List.mem_of_getElem? (i := 1133) (by decide +kernel), List.mem_of_getElem? (i := 1459) (by decide +kernel), List.mem_of_getElem? (i := 1460) (by decide +kernel)⟩
theorem lw_p59 : lw_okq (⟨"PatternDeskModel", "arrow", "(II)I"⟩, 90) := ⟨⟨by decide +kernel, by decide +kernel⟩, List.mem_of_getElem? (i := 1133) (by decide +kernel), List.mem_of_getElem? (i := 1463) (by decide +kernel), List.mem_of_getElem? (i := 1464) (by decide +kernel)⟩
theorem lw_p60 : lw_okq (⟨"PatternDeskModel", "term", "(I)I"⟩, 90) := ⟨⟨by decide +kernel, by decide +kernel⟩, List.mem_of_getElem? (i := 1133) (by decide +kernel), List.mem_of_getElem? (i := 1467) (by decide +kernel), List.mem_of_getElem? (i := 1468) (by decide +kernel)⟩
theorem lw_p61 : lw_okq (⟨"PatternDeskModel", "node", "(II)I"⟩, 90) := ⟨⟨by decide +kernel, by decide +kernel⟩, List.mem_of_getElem? (i := 1133) (by decide +kernel), List.mem_of_getElem? (i := 1471) (by decide +kernel), List.mem_of_getElem? (i := 1472) (by decide +kernel)⟩
theorem lw_p62 : lw_okq (⟨"PatternDeskModel", "add", "(II)V"⟩, 90) := ⟨⟨by decide +kernel, by decide +kernel⟩, List.mem_of_getElem? (i := 1133) (by decide +kernel), List.mem_of_getElem? (i := 1475) (by decide +kernel), List.mem_of_getElem? (i := 1476) (by decide +kernel)⟩
theorem lw_p63 : lw_okq (⟨"PatternDeskModel", "equation", "(I)V"⟩, 90) := ⟨⟨by decide +kernel, by decide +kernel⟩, List.mem_of_getElem? (i := 1133) (by decide +kernel), List.mem_of_getElem? (i := 1479) (by decide +kernel), List.mem_of_getElem? (i := 1480) (by decide +kernel)⟩
def lw_privs_4 : List (MethodName × Nat) := [(⟨"PatternDesk$Writer", "putNumber", "(I)V"⟩, 12), (⟨"PatternDesk$Writer", "putUnknown", "(III)V"⟩, 12), (⟨"PatternDesk$Writer", "putVariable", "(IIII)V"⟩, 12), (⟨"PatternDesk$Writer", "putHead", "(II)V"⟩, 12), (⟨"PatternDeskModel", "cut", "()V"⟩, 90), (⟨"PatternDeskModel", "byteAt", "(I)I"⟩, 90), (⟨"PatternDeskModel", "tokenAt", "(II)I"⟩, 90), (⟨"PatternDeskModel", "is", "(IILjava/lang/String;)Z"⟩, 90), (⟨"PatternDeskModel", "read", "()V"⟩, 90), (⟨"PatternDeskModel", "take", "(I)I"⟩, 90), (⟨"PatternDeskModel", "type", "(I)I"⟩, 90), (⟨"PatternDeskModel", "arrow", "(II)I"⟩, 90), (⟨"PatternDeskModel", "term", "(I)I"⟩, 90), (⟨"PatternDeskModel", "node", "(II)I"⟩, 90), (⟨"PatternDeskModel", "add", "(II)V"⟩, 90), (⟨"PatternDeskModel", "equation", "(I)V"⟩, 90)]
theorem lw_r4 : ∀ q ∈ lw_privs_4, lw_okq q := List.forall_mem_cons.mpr ⟨lw_p48, List.forall_mem_cons.mpr ⟨lw_p49, List.forall_mem_cons.mpr ⟨lw_p50, List.forall_mem_cons.mpr ⟨lw_p51, List.forall_mem_cons.mpr ⟨lw_p52, List.forall_mem_cons.mpr ⟨lw_p53, List.forall_mem_cons.mpr ⟨lw_p54, List.forall_mem_cons.mpr ⟨lw_p55, List.forall_mem_cons.mpr ⟨lw_p56, List.forall_mem_cons.mpr ⟨lw_p57, List.forall_mem_cons.mpr ⟨lw_p58, List.forall_mem_cons.mpr ⟨lw_p59, List.forall_mem_cons.mpr ⟨lw_p60, List.forall_mem_cons.mpr ⟨lw_p61, List.forall_mem_cons.mpr ⟨lw_p62, List.forall_mem_cons.mpr ⟨lw_p63, fun _ h => absurd h List.not_mem_nil⟩⟩⟩⟩⟩⟩⟩⟩⟩⟩⟩⟩⟩⟩⟩⟩
theorem lw_p64 : lw_okq (⟨"PatternDeskModel", "wrong", "(II)V"⟩, 90) := ⟨⟨by decide +kernel, by decide +kernel⟩, List.mem_of_getElem? (i := 1133) (by decide +kernel), List.mem_of_getElem? (i := 1483) (by decide +kernel), List.mem_of_getElem? (i := 1484) (by decide +kernel)⟩
theorem lw_p65 : lw_okq (⟨"PatternDeskModel", "check", "(I)I"⟩, 90) := ⟨⟨by decide +kernel, by decide +kernel⟩, List.mem_of_getElem? (i := 1133) (by decide +kernel), List.mem_of_getElem? (i := 1487) (by decide +kernel), List.mem_of_getElem? (i := 1488) (by decide +kernel)⟩
theorem lw_p66 : lw_okq (⟨"PatternDeskModel", "newVar", "(I)I"⟩, 90) := ⟨⟨by decide +kernel, by decide +kernel⟩, List.mem_of_getElem? (i := 1133) (by decide +kernel), List.mem_of_getElem? (i := 1491) (by decide +kernel), List.mem_of_getElem? (i := 1492) (by decide +kernel)⟩
theorem lw_p67 : lw_okq (⟨"PatternDeskModel", "mean", "(I)I"⟩, 90) := ⟨⟨by decide +kernel, by decide +kernel⟩, List.mem_of_getElem? (i := 1133) (by decide +kernel), List.mem_of_getElem? (i := 1495) (by decide +kernel), List.mem_of_getElem? (i := 1496) (by decide +kernel)⟩
theorem lw_p68 : lw_okq (⟨"PatternDeskModel", "sameName", "(II)Z"⟩, 90) := ⟨⟨by decide +kernel, by decide +kernel⟩, List.mem_of_getElem? (i := 1133) (by decide +kernel), List.mem_of_getElem? (i := 1499) (by decide +kernel), List.mem_of_getElem? (i := 1500) (by decide +kernel)⟩
theorem lw_p69 : lw_okq (⟨"PatternDeskModel", "constant", "(I)I"⟩, 90) := ⟨⟨by decide +kernel, by decide +kernel⟩, List.mem_of_getElem? (i := 1133) (by decide +kernel), List.mem_of_getElem? (i := 1503) (by decide +kernel), List.mem_of_getElem? (i := 1504) (by decide +kernel)⟩
theorem lw_p70 : lw_okq (⟨"PatternDeskModel", "unknown", "(I)I"⟩, 90) := ⟨⟨by decide +kernel, by decide +kernel⟩, List.mem_of_getElem? (i := 1133) (by decide +kernel), List.mem_of_getElem? (i := 1507) (by decide +kernel), List.mem_of_getElem? (i := 1508) (by decide +kernel)⟩
theorem lw_p71 : lw_okq (⟨"PatternDeskModel", "same", "(II)Z"⟩, 90) := ⟨⟨by decide +kernel, by decide +kernel⟩, List.mem_of_getElem? (i := 1133) (by decide +kernel), List.mem_of_getElem? (i := 1511) (by decide +kernel), List.mem_of_getElem? (i := 1512) (by decide +kernel)⟩
theorem lw_p72 : lw_okq (⟨"PatternDeskModel", "distinct", "(I)V"⟩, 90) := ⟨⟨by decide +kernel, by decide +kernel⟩, List.mem_of_getElem? (i := 1133) (by decide +kernel), List.mem_of_getElem? (i := 1515) (by decide +kernel), List.mem_of_getElem? (i := 1516) (by decide +kernel)⟩
theorem lw_p73 : lw_okq (⟨"PatternDeskModel", "build", "(I)I"⟩, 90) := ⟨⟨by decide +kernel, by decide +kernel⟩, List.mem_of_getElem? (i := 1133) (by decide +kernel), List.mem_of_getElem? (i := 1519) (by decide +kernel), List.mem_of_getElem? (i := 1520) (by decide +kernel)⟩
theorem lw_p74 : lw_okq (⟨"PatternDeskModel", "make", "(II)I"⟩, 90) := ⟨⟨by decide +kernel, by decide +kernel⟩, List.mem_of_getElem? (i := 1133) (by decide +kernel), List.mem_of_getElem? (i := 1523) (by decide +kernel), List.mem_of_getElem? (i := 1524) (by decide +kernel)⟩
theorem lw_p75 : lw_okq (⟨"PatternDeskModel", "variable", "(I)I"⟩, 90) := ⟨⟨by decide +kernel, by decide +kernel⟩, List.mem_of_getElem? (i := 1133) (by decide +kernel), List.mem_of_getElem? (i := 1527) (by decide +kernel), List.mem_of_getElem? (i := 1528) (by decide +kernel)⟩
theorem lw_p76 : lw_okq (⟨"PatternDeskModel", "append", "(II)V"⟩, 90) := ⟨⟨by decide +kernel, by decide +kernel⟩, List.mem_of_getElem? (i := 1133) (by decide +kernel), List.mem_of_getElem? (i := 1531) (by decide +kernel), List.mem_of_getElem? (i := 1532) (by decide +kernel)⟩
theorem lw_p77 : lw_okq (⟨"PatternDeskModel", "close", "(II)I"⟩, 90) := ⟨⟨by decide +kernel, by decide +kernel⟩, List.mem_of_getElem? (i := 1133) (by decide +kernel), List.mem_of_getElem? (i := 1535) (by decide +kernel), List.mem_of_getElem? (i := 1536) (by decide +kernel)⟩
theorem lw_p78 : lw_okq (⟨"PatternDeskModel", "longVar", "(I)I"⟩, 90) := ⟨⟨by decide +kernel, by decide +kernel⟩, List.mem_of_getElem? (i := 1133) (by decide +kernel), List.mem_of_getElem? (i := 1539) (by decide +kernel), List.mem_of_getElem? (i := 1540) (by decide +kernel)⟩
theorem lw_p79 : lw_okq (⟨"PatternDeskModel", "declare", "(I)V"⟩, 90) := ⟨⟨by decide +kernel, by decide +kernel⟩, List.mem_of_getElem? (i := 1133) (by decide +kernel), List.mem_of_getElem? (i := 1543) (by decide +kernel), List.mem_of_getElem? (i := 1544) (by decide +kernel)⟩
def lw_privs_5 : List (MethodName × Nat) := [(⟨"PatternDeskModel", "wrong", "(II)V"⟩, 90), (⟨"PatternDeskModel", "check", "(I)I"⟩, 90), (⟨"PatternDeskModel", "newVar", "(I)I"⟩, 90), (⟨"PatternDeskModel", "mean", "(I)I"⟩, 90), (⟨"PatternDeskModel", "sameName", "(II)Z"⟩, 90), (⟨"PatternDeskModel", "constant", "(I)I"⟩, 90), (⟨"PatternDeskModel", "unknown", "(I)I"⟩, 90), (⟨"PatternDeskModel", "same", "(II)Z"⟩, 90), (⟨"PatternDeskModel", "distinct", "(I)V"⟩, 90), (⟨"PatternDeskModel", "build", "(I)I"⟩, 90), (⟨"PatternDeskModel", "make", "(II)I"⟩, 90), (⟨"PatternDeskModel", "variable", "(I)I"⟩, 90), (⟨"PatternDeskModel", "append", "(II)V"⟩, 90), (⟨"PatternDeskModel", "close", "(II)I"⟩, 90), (⟨"PatternDeskModel", "longVar", "(I)I"⟩, 90), (⟨"PatternDeskModel", "declare", "(I)V"⟩, 90)]
theorem lw_r5 : ∀ q ∈ lw_privs_5, lw_okq q := List.forall_mem_cons.mpr ⟨lw_p64, List.forall_mem_cons.mpr ⟨lw_p65, List.forall_mem_cons.mpr ⟨lw_p66, List.forall_mem_cons.mpr ⟨lw_p67, List.forall_mem_cons.mpr ⟨lw_p68, List.forall_mem_cons.mpr ⟨lw_p69, List.forall_mem_cons.mpr ⟨lw_p70, List.forall_mem_cons.mpr ⟨lw_p71, List.forall_mem_cons.mpr ⟨lw_p72, List.forall_mem_cons.mpr ⟨lw_p73, List.forall_mem_cons.mpr ⟨lw_p74, List.forall_mem_cons.mpr ⟨lw_p75, List.forall_mem_cons.mpr ⟨lw_p76, List.forall_mem_cons.mpr ⟨lw_p77, List.forall_mem_cons.mpr ⟨lw_p78, List.forall_mem_cons.mpr ⟨lw_p79, fun _ h => absurd h List.not_mem_nil⟩⟩⟩⟩⟩⟩⟩⟩⟩⟩⟩⟩⟩⟩⟩⟩
theorem lw_p80 : lw_okq (⟨"PatternDeskModel", "newMeta", "()I"⟩, 90) := ⟨⟨by decide +kernel, by decide +kernel⟩, List.mem_of_getElem? (i := 1133) (by decide +kernel), List.mem_of_getElem? (i := 1559) (by decide +kernel), List.mem_of_getElem? (i := 1560) (by decide +kernel)⟩
theorem lw_p81 : lw_okq (⟨"PatternDeskModel", "addType", "(II)V"⟩, 90) := ⟨⟨by decide +kernel, by decide +kernel⟩, List.mem_of_getElem? (i := 1133) (by decide +kernel), List.mem_of_getElem? (i := 1563) (by decide +kernel), List.mem_of_getElem? (i := 1564) (by decide +kernel)⟩
theorem lw_p82 : lw_okq (⟨"PatternDeskModel", "unify", "(IIII)Z"⟩, 90) := ⟨⟨by decide +kernel, by decide +kernel⟩, List.mem_of_getElem? (i := 1133) (by decide +kernel), List.mem_of_getElem? (i := 1567) (by decide +kernel), List.mem_of_getElem? (i := 1568) (by decide +kernel)⟩
theorem lw_p83 : lw_okq (⟨"PatternDeskModel", "sameVars", "(IIII)Z"⟩, 90) := ⟨⟨by decide +kernel, by decide +kernel⟩, List.mem_of_getElem? (i := 1133) (by decide +kernel), List.mem_of_getElem? (i := 1571) (by decide +kernel), List.mem_of_getElem? (i := 1572) (by decide +kernel)⟩
theorem lw_p84 : lw_okq (⟨"PatternDeskModel", "varOf", "(III)I"⟩, 90) := ⟨⟨by decide +kernel, by decide +kernel⟩, List.mem_of_getElem? (i := 1133) (by decide +kernel), List.mem_of_getElem? (i := 1575) (by decide +kernel), List.mem_of_getElem? (i := 1576) (by decide +kernel)⟩
theorem lw_p85 : lw_okq (⟨"PatternDeskModel", "look", "(II)I"⟩, 90) := ⟨⟨by decide +kernel, by decide +kernel⟩, List.mem_of_getElem? (i := 1133) (by decide +kernel), List.mem_of_getElem? (i := 1579) (by decide +kernel), List.mem_of_getElem? (i := 1580) (by decide +kernel)⟩
theorem lw_p86 : lw_okq (⟨"PatternDeskModel", "enter", "(II)I"⟩, 90) := ⟨⟨by decide +kernel, by decide +kernel⟩, List.mem_of_getElem? (i := 1133) (by decide +kernel), List.mem_of_getElem? (i := 1583) (by decide +kernel), List.mem_of_getElem? (i := 1584) (by decide +kernel)⟩
theorem lw_p87 : lw_okq (⟨"PatternDeskModel", "name", "(III)I"⟩, 90) := ⟨⟨by decide +kernel, by decide +kernel⟩, List.mem_of_getElem? (i := 1133) (by decide +kernel), List.mem_of_getElem? (i := 1587) (by decide +kernel), List.mem_of_getElem? (i := 1588) (by decide +kernel)⟩
theorem lw_p88 : lw_okq (⟨"PatternDeskModel", "behind", "(II)I"⟩, 90) := ⟨⟨by decide +kernel, by decide +kernel⟩, List.mem_of_getElem? (i := 1133) (by decide +kernel), List.mem_of_getElem? (i := 1591) (by decide +kernel), List.mem_of_getElem? (i := 1592) (by decide +kernel)⟩
theorem lw_p89 : lw_okq (⟨"PatternDeskModel", "meet", "(IIII)Z"⟩, 90) := ⟨⟨by decide +kernel, by decide +kernel⟩, List.mem_of_getElem? (i := 1133) (by decide +kernel), List.mem_of_getElem? (i := 1595) (by decide +kernel), List.mem_of_getElem? (i := 1596) (by decide +kernel)⟩
theorem lw_p90 : lw_okq (⟨"PatternDeskModel", "actual", "(II)I"⟩, 90) := ⟨⟨by decide +kernel, by decide +kernel⟩, List.mem_of_getElem? (i := 1133) (by decide +kernel), List.mem_of_getElem? (i := 1599) (by decide +kernel), List.mem_of_getElem? (i := 1600) (by decide +kernel)⟩
theorem lw_p91 : lw_okq (⟨"PatternDeskModel", "keep", "(III)V"⟩, 90) := ⟨⟨by decide +kernel, by decide +kernel⟩, List.mem_of_getElem? (i := 1133) (by decide +kernel), List.mem_of_getElem? (i := 1603) (by decide +kernel), List.mem_of_getElem? (i := 1604) (by decide +kernel)⟩
theorem lw_p92 : lw_okq (⟨"PatternDeskModel", "assign", "(IIII)V"⟩, 90) := ⟨⟨by decide +kernel, by decide +kernel⟩, List.mem_of_getElem? (i := 1133) (by decide +kernel), List.mem_of_getElem? (i := 1607) (by decide +kernel), List.mem_of_getElem? (i := 1608) (by decide +kernel)⟩
theorem lw_p93 : lw_okq (⟨"PatternDeskModel", "join", "(IIII)Z"⟩, 90) := ⟨⟨by decide +kernel, by decide +kernel⟩, List.mem_of_getElem? (i := 1133) (by decide +kernel), List.mem_of_getElem? (i := 1611) (by decide +kernel), List.mem_of_getElem? (i := 1612) (by decide +kernel)⟩
theorem lw_p94 : lw_okq (⟨"PatternDeskModel", "bind", "(IIII)Z"⟩, 90) := ⟨⟨by decide +kernel, by decide +kernel⟩, List.mem_of_getElem? (i := 1133) (by decide +kernel), List.mem_of_getElem? (i := 1615) (by decide +kernel), List.mem_of_getElem? (i := 1616) (by decide +kernel)⟩
theorem lw_p95 : lw_okq (⟨"PatternDeskModel", "fits", "(IIIII)Z"⟩, 90) := ⟨⟨by decide +kernel, by decide +kernel⟩, List.mem_of_getElem? (i := 1133) (by decide +kernel), List.mem_of_getElem? (i := 1619) (by decide +kernel), List.mem_of_getElem? (i := 1620) (by decide +kernel)⟩
def lw_privs_6 : List (MethodName × Nat) := [(⟨"PatternDeskModel", "newMeta", "()I"⟩, 90), (⟨"PatternDeskModel", "addType", "(II)V"⟩, 90), (⟨"PatternDeskModel", "unify", "(IIII)Z"⟩, 90), (⟨"PatternDeskModel", "sameVars", "(IIII)Z"⟩, 90), (⟨"PatternDeskModel", "varOf", "(III)I"⟩, 90), (⟨"PatternDeskModel", "look", "(II)I"⟩, 90), (⟨"PatternDeskModel", "enter", "(II)I"⟩, 90), (⟨"PatternDeskModel", "name", "(III)I"⟩, 90), (⟨"PatternDeskModel", "behind", "(II)I"⟩, 90), (⟨"PatternDeskModel", "meet", "(IIII)Z"⟩, 90), (⟨"PatternDeskModel", "actual", "(II)I"⟩, 90), (⟨"PatternDeskModel", "keep", "(III)V"⟩, 90), (⟨"PatternDeskModel", "assign", "(IIII)V"⟩, 90), (⟨"PatternDeskModel", "join", "(IIII)Z"⟩, 90), (⟨"PatternDeskModel", "bind", "(IIII)Z"⟩, 90), (⟨"PatternDeskModel", "fits", "(IIIII)Z"⟩, 90)]
theorem lw_r6 : ∀ q ∈ lw_privs_6, lw_okq q := List.forall_mem_cons.mpr ⟨lw_p80, List.forall_mem_cons.mpr ⟨lw_p81, List.forall_mem_cons.mpr ⟨lw_p82, List.forall_mem_cons.mpr ⟨lw_p83, List.forall_mem_cons.mpr ⟨lw_p84, List.forall_mem_cons.mpr ⟨lw_p85, List.forall_mem_cons.mpr ⟨lw_p86, List.forall_mem_cons.mpr ⟨lw_p87, List.forall_mem_cons.mpr ⟨lw_p88, List.forall_mem_cons.mpr ⟨lw_p89, List.forall_mem_cons.mpr ⟨lw_p90, List.forall_mem_cons.mpr ⟨lw_p91, List.forall_mem_cons.mpr ⟨lw_p92, List.forall_mem_cons.mpr ⟨lw_p93, List.forall_mem_cons.mpr ⟨lw_p94, List.forall_mem_cons.mpr ⟨lw_p95, fun _ h => absurd h List.not_mem_nil⟩⟩⟩⟩⟩⟩⟩⟩⟩⟩⟩⟩⟩⟩⟩⟩
theorem lw_p96 : lw_okq (⟨"PatternDeskModel", "isIn", "(III)Z"⟩, 90) := ⟨⟨by decide +kernel, by decide +kernel⟩, List.mem_of_getElem? (i := 1133) (by decide +kernel), List.mem_of_getElem? (i := 1623) (by decide +kernel), List.mem_of_getElem? (i := 1624) (by decide +kernel)⟩
theorem lw_p97 : lw_okq (⟨"PatternDeskModel", "number", "()V"⟩, 90) := ⟨⟨by decide +kernel, by decide +kernel⟩, List.mem_of_getElem? (i := 1133) (by decide +kernel), List.mem_of_getElem? (i := 1627) (by decide +kernel), List.mem_of_getElem? (i := 1628) (by decide +kernel)⟩
theorem lw_p98 : lw_okq (⟨"PatternDeskModel", "writeUnknown", "(I)V"⟩, 90) := ⟨⟨by decide +kernel, by decide +kernel⟩, List.mem_of_getElem? (i := 1133) (by decide +kernel), List.mem_of_getElem? (i := 1631) (by decide +kernel), List.mem_of_getElem? (i := 1632) (by decide +kernel)⟩
theorem lw_p99 : lw_okq (⟨"PatternDeskModel", "lambda", "(II)V"⟩, 90) := ⟨⟨by decide +kernel, by decide +kernel⟩, List.mem_of_getElem? (i := 1133) (by decide +kernel), List.mem_of_getElem? (i := 1635) (by decide +kernel), List.mem_of_getElem? (i := 1636) (by decide +kernel)⟩
theorem lw_p100 : lw_okq (⟨"PatternDeskModel", "put", "(I)V"⟩, 90) := ⟨⟨by decide +kernel, by decide +kernel⟩, List.mem_of_getElem? (i := 1133) (by decide +kernel), List.mem_of_getElem? (i := 1639) (by decide +kernel), List.mem_of_getElem? (i := 1640) (by decide +kernel)⟩
theorem lw_p101 : lw_okq (⟨"PatternDeskModel", "putNumber", "(II)V"⟩, 90) := ⟨⟨by decide +kernel, by decide +kernel⟩, List.mem_of_getElem? (i := 1133) (by decide +kernel), List.mem_of_getElem? (i := 1643) (by decide +kernel), List.mem_of_getElem? (i := 1644) (by decide +kernel)⟩
theorem lw_p102 : lw_okq (⟨"PatternDeskModel", "write", "(III)V"⟩, 90) := ⟨⟨by decide +kernel, by decide +kernel⟩, List.mem_of_getElem? (i := 1133) (by decide +kernel), List.mem_of_getElem? (i := 1647) (by decide +kernel), List.mem_of_getElem? (i := 1648) (by decide +kernel)⟩
theorem lw_p103 : lw_okq (⟨"PatternDeskModel", "isFull", "()Z"⟩, 90) := ⟨⟨by decide +kernel, by decide +kernel⟩, List.mem_of_getElem? (i := 1133) (by decide +kernel), List.mem_of_getElem? (i := 1651) (by decide +kernel), List.mem_of_getElem? (i := 1652) (by decide +kernel)⟩
theorem lw_p104 : lw_okq (⟨"PatternDeskModel", "writeFresh", "(III)V"⟩, 90) := ⟨⟨by decide +kernel, by decide +kernel⟩, List.mem_of_getElem? (i := 1133) (by decide +kernel), List.mem_of_getElem? (i := 1655) (by decide +kernel), List.mem_of_getElem? (i := 1656) (by decide +kernel)⟩
theorem lw_p105 : lw_okq (⟨"PatternDeskModel", "writeVar", "(II)V"⟩, 90) := ⟨⟨by decide +kernel, by decide +kernel⟩, List.mem_of_getElem? (i := 1133) (by decide +kernel), List.mem_of_getElem? (i := 1659) (by decide +kernel), List.mem_of_getElem? (i := 1660) (by decide +kernel)⟩
theorem lw_p106 : lw_okq (⟨"PatternDeskModel", "putName", "(I)V"⟩, 90) := ⟨⟨by decide +kernel, by decide +kernel⟩, List.mem_of_getElem? (i := 1133) (by decide +kernel), List.mem_of_getElem? (i := 1663) (by decide +kernel), List.mem_of_getElem? (i := 1664) (by decide +kernel)⟩
theorem lw_p107 : lw_okq (⟨"PatternDeskModel", "hasParts", "(II)Z"⟩, 90) := ⟨⟨by decide +kernel, by decide +kernel⟩, List.mem_of_getElem? (i := 1133) (by decide +kernel), List.mem_of_getElem? (i := 1667) (by decide +kernel), List.mem_of_getElem? (i := 1668) (by decide +kernel)⟩
theorem lw_p108 : lw_okq (⟨"PatternDeskModel", "papers", "(IZI)I"⟩, 90) := ⟨⟨by decide +kernel, by decide +kernel⟩, List.mem_of_getElem? (i := 1133) (by decide +kernel), List.mem_of_getElem? (i := 1679) (by decide +kernel), List.mem_of_getElem? (i := 1680) (by decide +kernel)⟩
def lw_privs_7 : List (MethodName × Nat) := [(⟨"PatternDeskModel", "isIn", "(III)Z"⟩, 90), (⟨"PatternDeskModel", "number", "()V"⟩, 90), (⟨"PatternDeskModel", "writeUnknown", "(I)V"⟩, 90), (⟨"PatternDeskModel", "lambda", "(II)V"⟩, 90), (⟨"PatternDeskModel", "put", "(I)V"⟩, 90), (⟨"PatternDeskModel", "putNumber", "(II)V"⟩, 90), (⟨"PatternDeskModel", "write", "(III)V"⟩, 90), (⟨"PatternDeskModel", "isFull", "()Z"⟩, 90), (⟨"PatternDeskModel", "writeFresh", "(III)V"⟩, 90), (⟨"PatternDeskModel", "writeVar", "(II)V"⟩, 90), (⟨"PatternDeskModel", "putName", "(I)V"⟩, 90), (⟨"PatternDeskModel", "hasParts", "(II)Z"⟩, 90), (⟨"PatternDeskModel", "papers", "(IZI)I"⟩, 90)]
theorem lw_r7 : ∀ q ∈ lw_privs_7, lw_okq q := List.forall_mem_cons.mpr ⟨lw_p96, List.forall_mem_cons.mpr ⟨lw_p97, List.forall_mem_cons.mpr ⟨lw_p98, List.forall_mem_cons.mpr ⟨lw_p99, List.forall_mem_cons.mpr ⟨lw_p100, List.forall_mem_cons.mpr ⟨lw_p101, List.forall_mem_cons.mpr ⟨lw_p102, List.forall_mem_cons.mpr ⟨lw_p103, List.forall_mem_cons.mpr ⟨lw_p104, List.forall_mem_cons.mpr ⟨lw_p105, List.forall_mem_cons.mpr ⟨lw_p106, List.forall_mem_cons.mpr ⟨lw_p107, List.forall_mem_cons.mpr ⟨lw_p108, fun _ h => absurd h List.not_mem_nil⟩⟩⟩⟩⟩⟩⟩⟩⟩⟩⟩⟩⟩
def lw_privs : List (MethodName × Nat) := lw_privs_1 ++ (lw_privs_2 ++ (lw_privs_3 ++ (lw_privs_4 ++ (lw_privs_5 ++ (lw_privs_6 ++ (lw_privs_7))))))
def lw_tbl : List Cond := k2_sels lw_privs ++ tables_1
theorem lw_privs_ok : ∀ q ∈ lw_privs, lw_okq q := by
  show ∀ q ∈ lw_privs_1 ++ (lw_privs_2 ++ (lw_privs_3 ++ (lw_privs_4 ++ (lw_privs_5 ++ (lw_privs_6 ++ (lw_privs_7)))))), lw_okq q
  exact List.forall_mem_append.mpr ⟨lw_r1, List.forall_mem_append.mpr ⟨lw_r2, List.forall_mem_append.mpr ⟨lw_r3, List.forall_mem_append.mpr ⟨lw_r4, List.forall_mem_append.mpr ⟨lw_r5, List.forall_mem_append.mpr ⟨lw_r6, lw_r7⟩⟩⟩⟩⟩⟩
end
section
def RX0 : String := "PatternDesk$Answers"
def TX0 : u_T := fun k => match k with
  | 0 => ("PatternDesk$Answers", "terms", "LPatternDesk$Terms;", true)
  | 1 => ("PatternDesk$Answers", "levels", "LPatternDesk$Levels;", true)
  | 2 => ("PatternDesk$Answers", "bodies", "[I", true)
  | 3 => ("PatternDesk$Answers", "pairs", "[I", true)
  | 4 => ("PatternDesk$Answers", "pairVariables", "[I", true)
  | 5 => ("PatternDesk$Answers", "pairArguments", "[I", true)
  | 6 => ("PatternDesk$Answers", "rows", "I", false)
  | 7 => ("PatternDesk$Answers", "node", "I", false)
  | _ => ("PatternDesk$Answers", "chain", "I", false)
def tyX0 : Nat → FieldType := fun k => match k with
  | 0 => .object "PatternDesk$Terms"
  | 1 => .object "PatternDesk$Levels"
  | 2 => .array .int
  | 3 => .array .int
  | 4 => .array .int
  | 5 => .array .int
  | 6 => .int
  | 7 => .int
  | _ => .int
abbrev wsX00 : List Cond := u_ws RX0 TX0 9
theorem nmX0 : ∀ a, a < 9 → ∀ b, b < 9 → a ≠ b → (TX0 a).2.1 ≠ (TX0 b).2.1 := by decide +kernel
theorem tyX0_ok : ∀ k, k < 9 → parseFieldDescriptor (TX0 k).2.2.1 = some (tyX0 k) := by decide +kernel
abbrev cX0_init : ByteArray := prog_2_method_1_code
def yX0_init : MethodName := ⟨RX0, "<init>", "(LPatternDesk$Terms;LPatternDesk$Levels;)V"⟩
abbrev cX0_clear : ByteArray := prog_2_method_2_code
def yX0_clear : MethodName := ⟨RX0, "clear", "(I)V"⟩
abbrev cX0_node : ByteArray := prog_2_method_3_code
def yX0_node : MethodName := ⟨RX0, "node", "()I"⟩
abbrev cX0_chain : ByteArray := prog_2_method_4_code
def yX0_chain : MethodName := ⟨RX0, "chain", "()I"⟩
abbrev cX0_body : ByteArray := prog_2_method_5_code
def yX0_body : MethodName := ⟨RX0, "body", "(I)I"⟩
abbrev cX0_settle : ByteArray := prog_2_method_6_code
def yX0_settle : MethodName := ⟨RX0, "settle", "(II)V"⟩
abbrev cX0_inside : ByteArray := prog_2_method_7_code
def yX0_inside : MethodName := ⟨RX0, "inside", "(II)I"⟩
abbrev cX0_bind : ByteArray := prog_2_method_8_code
def yX0_bind : MethodName := ⟨RX0, "bind", "(II)V"⟩
abbrev cX0_addPair : ByteArray := prog_2_method_9_code
def yX0_addPair : MethodName := ⟨RX0, "addPair", "(III)V"⟩
abbrev cX0_narrow : ByteArray := prog_2_method_10_code
def yX0_narrow : MethodName := ⟨RX0, "narrow", "(II)V"⟩
def RX1 : String := "PatternDesk$Checker"
def TX1 : u_T := fun k => match k with
  | 0 => ("PatternDesk$Checker", "tokens", "LPatternDesk$Tokens;", true)
  | 1 => ("PatternDesk$Checker", "types", "LPatternDesk$Types;", true)
  | 2 => ("PatternDesk$Checker", "terms", "LPatternDesk$Terms;", true)
  | 3 => ("PatternDesk$Checker", "constants", "LPatternDesk$Names;", true)
  | 4 => ("PatternDesk$Checker", "unknowns", "LPatternDesk$Names;", true)
  | 5 => ("PatternDesk$Checker", "unknownRoots", "[I", true)
  | 6 => ("PatternDesk$Checker", "sideRoots", "[I", true)
  | 7 => ("PatternDesk$Checker", "scopeNames", "[I", true)
  | 8 => ("PatternDesk$Checker", "scopeVariables", "[I", true)
  | 9 => ("PatternDesk$Checker", "scoped", "I", false)
  | 10 => ("PatternDesk$Checker", "equations", "I", false)
  | 11 => ("PatternDesk$Checker", "at", "I", false)
  | 12 => ("PatternDesk$Checker", "lastType", "I", false)
  | 13 => ("PatternDesk$Checker", "place", "I", false)
  | _ => ("PatternDesk$Checker", "number", "I", false)
def tyX1 : Nat → FieldType := fun k => match k with
  | 0 => .object "PatternDesk$Tokens"
  | 1 => .object "PatternDesk$Types"
  | 2 => .object "PatternDesk$Terms"
  | 3 => .object "PatternDesk$Names"
  | 4 => .object "PatternDesk$Names"
  | 5 => .array .int
  | 6 => .array .int
  | 7 => .array .int
  | 8 => .array .int
  | 9 => .int
  | 10 => .int
  | 11 => .int
  | 12 => .int
  | 13 => .int
  | _ => .int
abbrev wsX10 : List Cond := u_ws RX1 TX1 15
theorem nmX1 : ∀ a, a < 15 → ∀ b, b < 15 → a ≠ b → (TX1 a).2.1 ≠ (TX1 b).2.1 := by decide +kernel
theorem tyX1_ok : ∀ k, k < 15 → parseFieldDescriptor (TX1 k).2.2.1 = some (tyX1 k) := by decide +kernel
abbrev cX1_init : ByteArray := prog_3_method_1_code
def yX1_init : MethodName := ⟨RX1, "<init>", "(LPatternDesk$Tokens;LPatternDesk$Types;LPatternDesk$Terms;)V"⟩
abbrev cX1_accepts : ByteArray := prog_3_method_2_code
def yX1_accepts : MethodName := ⟨RX1, "accepts", "()Z"⟩
abbrev cX1_place : ByteArray := prog_3_method_3_code
def yX1_place : MethodName := ⟨RX1, "place", "()I"⟩
abbrev cX1_number : ByteArray := prog_3_method_4_code
def yX1_number : MethodName := ⟨RX1, "number", "()I"⟩
abbrev cX1_constants : ByteArray := prog_3_method_5_code
def yX1_constants : MethodName := ⟨RX1, "constants", "()I"⟩
abbrev cX1_unknowns : ByteArray := prog_3_method_6_code
def yX1_unknowns : MethodName := ⟨RX1, "unknowns", "()I"⟩
abbrev cX1_equations : ByteArray := prog_3_method_7_code
def yX1_equations : MethodName := ⟨RX1, "equations", "()I"⟩
abbrev cX1_unknownRoot : ByteArray := prog_3_method_8_code
def yX1_unknownRoot : MethodName := ⟨RX1, "unknownRoot", "(I)I"⟩
abbrev cX1_sideRoot : ByteArray := prog_3_method_9_code
def yX1_sideRoot : MethodName := ⟨RX1, "sideRoot", "(II)I"⟩
abbrev cX1_constantLength : ByteArray := prog_3_method_10_code
def yX1_constantLength : MethodName := ⟨RX1, "constantLength", "(I)I"⟩
abbrev cX1_constantByte : ByteArray := prog_3_method_11_code
def yX1_constantByte : MethodName := ⟨RX1, "constantByte", "(II)I"⟩
abbrev cX1_blame : ByteArray := prog_3_method_12_code
def yX1_blame : MethodName := ⟨RX1, "blame", "(II)Z"⟩
abbrev cX1_declaration : ByteArray := prog_3_method_13_code
def yX1_declaration : MethodName := ⟨RX1, "declaration", "(LPatternDesk$Names;)Z"⟩
abbrev cX1_equation : ByteArray := prog_3_method_14_code
def yX1_equation : MethodName := ⟨RX1, "equation", "()Z"⟩
abbrev cX1_largeType : ByteArray := prog_3_method_15_code
def yX1_largeType : MethodName := ⟨RX1, "largeType", "()I"⟩
abbrev cX1_type : ByteArray := prog_3_method_16_code
def yX1_type : MethodName := ⟨RX1, "type", "(I)I"⟩
abbrev cX1_atom : ByteArray := prog_3_method_17_code
def yX1_atom : MethodName := ⟨RX1, "atom", "(I)I"⟩
abbrev cX1_term : ByteArray := prog_3_method_18_code
def yX1_term : MethodName := ⟨RX1, "term", "(I)I"⟩
abbrev cX1_abstraction : ByteArray := prog_3_method_19_code
def yX1_abstraction : MethodName := ⟨RX1, "abstraction", "(I)I"⟩
abbrev cX1_named : ByteArray := prog_3_method_20_code
def yX1_named : MethodName := ⟨RX1, "named", "(IZ)I"⟩
abbrev cX1_beginsArgument : ByteArray := prog_3_method_21_code
def yX1_beginsArgument : MethodName := ⟨RX1, "beginsArgument", "()Z"⟩
abbrev cX1_argument : ByteArray := prog_3_method_22_code
def yX1_argument : MethodName := ⟨RX1, "argument", "(I)I"⟩
abbrev cX1_meaning : ByteArray := prog_3_method_23_code
def yX1_meaning : MethodName := ⟨RX1, "meaning", "(I)I"⟩
abbrev cX1_gives : ByteArray := prog_3_method_24_code
def yX1_gives : MethodName := ⟨RX1, "gives", "(II)Z"⟩
def RX2 : String := "PatternDesk$Grammar"
def TX2 : u_T := fun k => match k with
  | 0 => ("PatternDesk$Grammar", "tokens", "LPatternDesk$Tokens;", true)
  | _ => ("PatternDesk$Grammar", "at", "I", false)
def tyX2 : Nat → FieldType := fun k => match k with
  | 0 => .object "PatternDesk$Tokens"
  | _ => .int
abbrev wsX20 : List Cond := u_ws RX2 TX2 2
theorem nmX2 : ∀ a, a < 2 → ∀ b, b < 2 → a ≠ b → (TX2 a).2.1 ≠ (TX2 b).2.1 := by decide +kernel
theorem tyX2_ok : ∀ k, k < 2 → parseFieldDescriptor (TX2 k).2.2.1 = some (tyX2 k) := by decide +kernel
abbrev cX2_init : ByteArray := prog_4_method_1_code
def yX2_init : MethodName := ⟨RX2, "<init>", "(LPatternDesk$Tokens;)V"⟩
abbrev cX2_accepts : ByteArray := prog_4_method_2_code
def yX2_accepts : MethodName := ⟨RX2, "accepts", "()Z"⟩
abbrev cX2_place : ByteArray := prog_4_method_3_code
def yX2_place : MethodName := ⟨RX2, "place", "()I"⟩
abbrev cX2_takes : ByteArray := prog_4_method_4_code
def yX2_takes : MethodName := ⟨RX2, "takes", "(I)Z"⟩
abbrev cX2_item : ByteArray := prog_4_method_5_code
def yX2_item : MethodName := ⟨RX2, "item", "()Z"⟩
abbrev cX2_type : ByteArray := prog_4_method_6_code
def yX2_type : MethodName := ⟨RX2, "type", "(I)Z"⟩
abbrev cX2_atom : ByteArray := prog_4_method_7_code
def yX2_atom : MethodName := ⟨RX2, "atom", "(I)Z"⟩
abbrev cX2_term : ByteArray := prog_4_method_8_code
def yX2_term : MethodName := ⟨RX2, "term", "(I)Z"⟩
abbrev cX2_arguments : ByteArray := prog_4_method_9_code
def yX2_arguments : MethodName := ⟨RX2, "arguments", "(I)Z"⟩
def RX3 : String := "PatternDesk$Levels"
def TX3 : u_T := fun k => match k with
  | 0 => ("PatternDesk$Levels", "variables", "[I", true)
  | 1 => ("PatternDesk$Levels", "levels", "[I", true)
  | 2 => ("PatternDesk$Levels", "rests", "[I", true)
  | _ => ("PatternDesk$Levels", "used", "I", false)
def tyX3 : Nat → FieldType := fun k => match k with
  | 0 => .array .int
  | 1 => .array .int
  | 2 => .array .int
  | _ => .int
abbrev wsX30 : List Cond := u_ws RX3 TX3 4
theorem nmX3 : ∀ a, a < 4 → ∀ b, b < 4 → a ≠ b → (TX3 a).2.1 ≠ (TX3 b).2.1 := by decide +kernel
theorem tyX3_ok : ∀ k, k < 4 → parseFieldDescriptor (TX3 k).2.2.1 = some (tyX3 k) := by decide +kernel
abbrev cX3_init : ByteArray := prog_5_method_1_code
def yX3_init : MethodName := ⟨RX3, "<init>", "()V"⟩
abbrev cX3_mark : ByteArray := prog_5_method_2_code
def yX3_mark : MethodName := ⟨RX3, "mark", "()I"⟩
abbrev cX3_release : ByteArray := prog_5_method_3_code
def yX3_release : MethodName := ⟨RX3, "release", "(I)V"⟩
abbrev cX3_with : ByteArray := prog_5_method_4_code
def yX3_with : MethodName := ⟨RX3, "with", "(III)I"⟩
abbrev cX3_of : ByteArray := prog_5_method_5_code
def yX3_of : MethodName := ⟨RX3, "of", "(II)I"⟩
abbrev cX3_variableAt : ByteArray := prog_5_method_6_code
def yX3_variableAt : MethodName := ⟨RX3, "variableAt", "(II)I"⟩
def RX4 : String := "PatternDesk$Names"
def TX4 : u_T := fun k => match k with
  | 0 => ("PatternDesk$Names", "names", "[I", true)
  | 1 => ("PatternDesk$Names", "types", "[I", true)
  | _ => ("PatternDesk$Names", "used", "I", false)
def tyX4 : Nat → FieldType := fun k => match k with
  | 0 => .array .int
  | 1 => .array .int
  | _ => .int
abbrev wsX40 : List Cond := u_ws RX4 TX4 3
theorem nmX4 : ∀ a, a < 3 → ∀ b, b < 3 → a ≠ b → (TX4 a).2.1 ≠ (TX4 b).2.1 := by decide +kernel
theorem tyX4_ok : ∀ k, k < 3 → parseFieldDescriptor (TX4 k).2.2.1 = some (tyX4 k) := by decide +kernel
abbrev cX4_init : ByteArray := prog_6_method_1_code
def yX4_init : MethodName := ⟨RX4, "<init>", "(I)V"⟩
abbrev cX4_clear : ByteArray := prog_6_method_2_code
def yX4_clear : MethodName := ⟨RX4, "clear", "()V"⟩
abbrev cX4_isFull : ByteArray := prog_6_method_3_code
def yX4_isFull : MethodName := ⟨RX4, "isFull", "()Z"⟩
abbrev cX4_total : ByteArray := prog_6_method_4_code
def yX4_total : MethodName := ⟨RX4, "total", "()I"⟩
abbrev cX4_add : ByteArray := prog_6_method_5_code
def yX4_add : MethodName := ⟨RX4, "add", "(II)V"⟩
abbrev cX4_find : ByteArray := prog_6_method_6_code
def yX4_find : MethodName := ⟨RX4, "find", "(LPatternDesk$Tokens;I)I"⟩
abbrev cX4_name : ByteArray := prog_6_method_7_code
def yX4_name : MethodName := ⟨RX4, "name", "(I)I"⟩
abbrev cX4_type : ByteArray := prog_6_method_8_code
def yX4_type : MethodName := ⟨RX4, "type", "(I)I"⟩
def RX5 : String := "PatternDesk$Pile"
def TX5 : u_T := fun k => match k with
  | 0 => ("PatternDesk$Pile", "nodes", "[I", true)
  | 1 => ("PatternDesk$Pile", "chains", "[I", true)
  | 2 => ("PatternDesk$Pile", "others", "[I", true)
  | 3 => ("PatternDesk$Pile", "otherChains", "[I", true)
  | 4 => ("PatternDesk$Pile", "levels", "[I", true)
  | 5 => ("PatternDesk$Pile", "marks", "[I", true)
  | _ => ("PatternDesk$Pile", "used", "I", false)
def tyX5 : Nat → FieldType := fun k => match k with
  | 0 => .array .int
  | 1 => .array .int
  | 2 => .array .int
  | 3 => .array .int
  | 4 => .array .int
  | 5 => .array .int
  | _ => .int
abbrev wsX50 : List Cond := u_ws RX5 TX5 7
theorem nmX5 : ∀ a, a < 7 → ∀ b, b < 7 → a ≠ b → (TX5 a).2.1 ≠ (TX5 b).2.1 := by decide +kernel
theorem tyX5_ok : ∀ k, k < 7 → parseFieldDescriptor (TX5 k).2.2.1 = some (tyX5 k) := by decide +kernel
abbrev cX5_init : ByteArray := prog_7_method_1_code
def yX5_init : MethodName := ⟨RX5, "<init>", "()V"⟩
abbrev cX5_clear : ByteArray := prog_7_method_2_code
def yX5_clear : MethodName := ⟨RX5, "clear", "()V"⟩
abbrev cX5_isEmpty : ByteArray := prog_7_method_3_code
def yX5_isEmpty : MethodName := ⟨RX5, "isEmpty", "()Z"⟩
abbrev cX5_push : ByteArray := prog_7_method_4_code
def yX5_push : MethodName := ⟨RX5, "push", "(IIII)V"⟩
abbrev cX5_pushPair : ByteArray := prog_7_method_5_code
def yX5_pushPair : MethodName := ⟨RX5, "pushPair", "(IIIIII)V"⟩
abbrev cX5_pop : ByteArray := prog_7_method_6_code
def yX5_pop : MethodName := ⟨RX5, "pop", "()V"⟩
abbrev cX5_node : ByteArray := prog_7_method_7_code
def yX5_node : MethodName := ⟨RX5, "node", "()I"⟩
abbrev cX5_chain : ByteArray := prog_7_method_8_code
def yX5_chain : MethodName := ⟨RX5, "chain", "()I"⟩
abbrev cX5_other : ByteArray := prog_7_method_9_code
def yX5_other : MethodName := ⟨RX5, "other", "()I"⟩
abbrev cX5_otherChain : ByteArray := prog_7_method_10_code
def yX5_otherChain : MethodName := ⟨RX5, "otherChain", "()I"⟩
abbrev cX5_level : ByteArray := prog_7_method_11_code
def yX5_level : MethodName := ⟨RX5, "level", "()I"⟩
abbrev cX5_mark : ByteArray := prog_7_method_12_code
def yX5_mark : MethodName := ⟨RX5, "mark", "()I"⟩
def RX6 : String := "PatternDesk$Solver"
def TX6 : u_T := fun k => match k with
  | 0 => ("PatternDesk$Solver", "terms", "LPatternDesk$Terms;", true)
  | 1 => ("PatternDesk$Solver", "levels", "LPatternDesk$Levels;", true)
  | 2 => ("PatternDesk$Solver", "answers", "LPatternDesk$Answers;", true)
  | 3 => ("PatternDesk$Solver", "pairs", "LPatternDesk$Pile;", true)
  | 4 => ("PatternDesk$Solver", "walk", "LPatternDesk$Pile;", true)
  | 5 => ("PatternDesk$Solver", "seen", "[I", true)
  | 6 => ("PatternDesk$Solver", "own", "[I", true)
  | 7 => ("PatternDesk$Solver", "self", "I", false)
  | 8 => ("PatternDesk$Solver", "node", "I", false)
  | 9 => ("PatternDesk$Solver", "chain", "I", false)
  | 10 => ("PatternDesk$Solver", "other", "I", false)
  | 11 => ("PatternDesk$Solver", "otherChain", "I", false)
  | _ => ("PatternDesk$Solver", "level", "I", false)
def tyX6 : Nat → FieldType := fun k => match k with
  | 0 => .object "PatternDesk$Terms"
  | 1 => .object "PatternDesk$Levels"
  | 2 => .object "PatternDesk$Answers"
  | 3 => .object "PatternDesk$Pile"
  | 4 => .object "PatternDesk$Pile"
  | 5 => .array .int
  | 6 => .array .int
  | 7 => .int
  | 8 => .int
  | 9 => .int
  | 10 => .int
  | 11 => .int
  | _ => .int
abbrev wsX60 : List Cond := u_ws RX6 TX6 13
theorem nmX6 : ∀ a, a < 13 → ∀ b, b < 13 → a ≠ b → (TX6 a).2.1 ≠ (TX6 b).2.1 := by decide +kernel
theorem tyX6_ok : ∀ k, k < 13 → parseFieldDescriptor (TX6 k).2.2.1 = some (tyX6 k) := by decide +kernel
abbrev cX6_init : ByteArray := prog_8_method_1_code
def yX6_init : MethodName := ⟨RX6, "<init>", "(LPatternDesk$Terms;LPatternDesk$Levels;LPatternDesk$Answers;)V"⟩
abbrev cX6_unifies : ByteArray := prog_8_method_2_code
def yX6_unifies : MethodName := ⟨RX6, "unifies", "(LPatternDesk$Checker;)Z"⟩
abbrev cX6_step : ByteArray := prog_8_method_3_code
def yX6_step : MethodName := ⟨RX6, "step", "()Z"⟩
abbrev cX6_takePair : ByteArray := prog_8_method_4_code
def yX6_takePair : MethodName := ⟨RX6, "takePair", "()V"⟩
abbrev cX6_swap : ByteArray := prog_8_method_5_code
def yX6_swap : MethodName := ⟨RX6, "swap", "()V"⟩
abbrev cX6_isUnknown : ByteArray := prog_8_method_6_code
def yX6_isUnknown : MethodName := ⟨RX6, "isUnknown", "(I)Z"⟩
abbrev cX6_allArguments : ByteArray := prog_8_method_7_code
def yX6_allArguments : MethodName := ⟨RX6, "allArguments", "(I)I"⟩
abbrev cX6_equalArguments : ByteArray := prog_8_method_8_code
def yX6_equalArguments : MethodName := ⟨RX6, "equalArguments", "()I"⟩
abbrev cX6_meet : ByteArray := prog_8_method_9_code
def yX6_meet : MethodName := ⟨RX6, "meet", "()V"⟩
abbrev cX6_takeApart : ByteArray := prog_8_method_10_code
def yX6_takeApart : MethodName := ⟨RX6, "takeApart", "()Z"⟩
abbrev cX6_give : ByteArray := prog_8_method_11_code
def yX6_give : MethodName := ⟨RX6, "give", "()Z"⟩
abbrev cX6_fitStep : ByteArray := prog_8_method_12_code
def yX6_fitStep : MethodName := ⟨RX6, "fitStep", "()Z"⟩
abbrev cX6_fitUnknown : ByteArray := prog_8_method_13_code
def yX6_fitUnknown : MethodName := ⟨RX6, "fitUnknown", "(III)Z"⟩
abbrev cX6_allowedArguments : ByteArray := prog_8_method_14_code
def yX6_allowedArguments : MethodName := ⟨RX6, "allowedArguments", "(II)I"⟩
abbrev cX6_isAllowed : ByteArray := prog_8_method_15_code
def yX6_isAllowed : MethodName := ⟨RX6, "isAllowed", "(I)Z"⟩
def RX7 : String := "PatternDesk$Terms"
def TX7 : u_T := fun k => match k with
  | 0 => ("PatternDesk$Terms", "types", "LPatternDesk$Types;", true)
  | 1 => ("PatternDesk$Terms", "kinds", "[I", true)
  | 2 => ("PatternDesk$Terms", "heads", "[I", true)
  | 3 => ("PatternDesk$Terms", "firsts", "[I", true)
  | 4 => ("PatternDesk$Terms", "nexts", "[I", true)
  | 5 => ("PatternDesk$Terms", "arities", "[I", true)
  | 6 => ("PatternDesk$Terms", "nodes", "I", false)
  | 7 => ("PatternDesk$Terms", "variableTypes", "[I", true)
  | _ => ("PatternDesk$Terms", "variables", "I", false)
def tyX7 : Nat → FieldType := fun k => match k with
  | 0 => .object "PatternDesk$Types"
  | 1 => .array .int
  | 2 => .array .int
  | 3 => .array .int
  | 4 => .array .int
  | 5 => .array .int
  | 6 => .int
  | 7 => .array .int
  | _ => .int
abbrev wsX70 : List Cond := u_ws RX7 TX7 9
theorem nmX7 : ∀ a, a < 9 → ∀ b, b < 9 → a ≠ b → (TX7 a).2.1 ≠ (TX7 b).2.1 := by decide +kernel
theorem tyX7_ok : ∀ k, k < 9 → parseFieldDescriptor (TX7 k).2.2.1 = some (tyX7 k) := by decide +kernel
abbrev cX7_init : ByteArray := prog_9_method_1_code
def yX7_init : MethodName := ⟨RX7, "<init>", "(LPatternDesk$Types;)V"⟩
abbrev cX7_clear : ByteArray := prog_9_method_2_code
def yX7_clear : MethodName := ⟨RX7, "clear", "()V"⟩
abbrev cX7_variable : ByteArray := prog_9_method_3_code
def yX7_variable : MethodName := ⟨RX7, "variable", "(I)I"⟩
abbrev cX7_variableType : ByteArray := prog_9_method_4_code
def yX7_variableType : MethodName := ⟨RX7, "variableType", "(I)I"⟩
abbrev cX7_node : ByteArray := prog_9_method_5_code
def yX7_node : MethodName := ⟨RX7, "node", "(II)I"⟩
abbrev cX7_lambda : ByteArray := prog_9_method_6_code
def yX7_lambda : MethodName := ⟨RX7, "lambda", "(II)I"⟩
abbrev cX7_append : ByteArray := prog_9_method_7_code
def yX7_append : MethodName := ⟨RX7, "append", "(II)V"⟩
abbrev cX7_kind : ByteArray := prog_9_method_8_code
def yX7_kind : MethodName := ⟨RX7, "kind", "(I)I"⟩
abbrev cX7_head : ByteArray := prog_9_method_9_code
def yX7_head : MethodName := ⟨RX7, "head", "(I)I"⟩
abbrev cX7_body : ByteArray := prog_9_method_10_code
def yX7_body : MethodName := ⟨RX7, "body", "(I)I"⟩
abbrev cX7_arity : ByteArray := prog_9_method_11_code
def yX7_arity : MethodName := ⟨RX7, "arity", "(I)I"⟩
abbrev cX7_argument : ByteArray := prog_9_method_12_code
def yX7_argument : MethodName := ⟨RX7, "argument", "(II)I"⟩
abbrev cX7_hasVariable : ByteArray := prog_9_method_13_code
def yX7_hasVariable : MethodName := ⟨RX7, "hasVariable", "(II)Z"⟩
abbrev cX7_complete : ByteArray := prog_9_method_14_code
def yX7_complete : MethodName := ⟨RX7, "complete", "(III)I"⟩
abbrev cX7_asVariable : ByteArray := prog_9_method_15_code
def yX7_asVariable : MethodName := ⟨RX7, "asVariable", "(II)I"⟩
def RX8 : String := "PatternDesk$Tokens"
def TX8 : u_T := fun k => match k with
  | 0 => ("PatternDesk$Tokens", "bytes", "[I", true)
  | 1 => ("PatternDesk$Tokens", "kinds", "[I", true)
  | 2 => ("PatternDesk$Tokens", "starts", "[I", true)
  | 3 => ("PatternDesk$Tokens", "ends", "[I", true)
  | 4 => ("PatternDesk$Tokens", "length", "I", false)
  | _ => ("PatternDesk$Tokens", "total", "I", false)
def tyX8 : Nat → FieldType := fun k => match k with
  | 0 => .array .int
  | 1 => .array .int
  | 2 => .array .int
  | 3 => .array .int
  | 4 => .int
  | _ => .int
abbrev wsX80 : List Cond := u_ws RX8 TX8 6
theorem nmX8 : ∀ a, a < 6 → ∀ b, b < 6 → a ≠ b → (TX8 a).2.1 ≠ (TX8 b).2.1 := by decide +kernel
theorem tyX8_ok : ∀ k, k < 6 → parseFieldDescriptor (TX8 k).2.2.1 = some (tyX8 k) := by decide +kernel
abbrev cX8_init : ByteArray := prog_10_method_1_code
def yX8_init : MethodName := ⟨RX8, "<init>", "()V"⟩
abbrev cX8_read : ByteArray := prog_10_method_2_code
def yX8_read : MethodName := ⟨RX8, "read", "([II)V"⟩
abbrev cX8_kind : ByteArray := prog_10_method_3_code
def yX8_kind : MethodName := ⟨RX8, "kind", "(I)I"⟩
abbrev cX8_start : ByteArray := prog_10_method_4_code
def yX8_start : MethodName := ⟨RX8, "start", "(I)I"⟩
abbrev cX8_nameLength : ByteArray := prog_10_method_5_code
def yX8_nameLength : MethodName := ⟨RX8, "nameLength", "(I)I"⟩
abbrev cX8_nameByte : ByteArray := prog_10_method_6_code
def yX8_nameByte : MethodName := ⟨RX8, "nameByte", "(II)I"⟩
abbrev cX8_sameName : ByteArray := prog_10_method_7_code
def yX8_sameName : MethodName := ⟨RX8, "sameName", "(II)Z"⟩
abbrev cX8_readToken : ByteArray := prog_10_method_8_code
def yX8_readToken : MethodName := ⟨RX8, "readToken", "(I)I"⟩
abbrev cX8_signAt : ByteArray := prog_10_method_9_code
def yX8_signAt : MethodName := ⟨RX8, "signAt", "(I)I"⟩
abbrev cX8_wordEnd : ByteArray := prog_10_method_10_code
def yX8_wordEnd : MethodName := ⟨RX8, "wordEnd", "(I)I"⟩
abbrev cX8_wordKind : ByteArray := prog_10_method_11_code
def yX8_wordKind : MethodName := ⟨RX8, "wordKind", "(II)I"⟩
abbrev cX8_spells : ByteArray := prog_10_method_12_code
def yX8_spells : MethodName := ⟨RX8, "spells", "(IILjava/lang/String;)Z"⟩
abbrev cX8_isBlank : ByteArray := prog_10_method_13_code
def yX8_isBlank : MethodName := ⟨RX8, "isBlank", "(I)Z"⟩
abbrev cX8_isLetter : ByteArray := prog_10_method_14_code
def yX8_isLetter : MethodName := ⟨RX8, "isLetter", "(I)Z"⟩
abbrev cX8_isWordByte : ByteArray := prog_10_method_15_code
def yX8_isWordByte : MethodName := ⟨RX8, "isWordByte", "(I)Z"⟩
def RX9 : String := "PatternDesk$Types"
def TX9 : u_T := fun k => match k with
  | 0 => ("PatternDesk$Types", "from", "[I", true)
  | 1 => ("PatternDesk$Types", "to", "[I", true)
  | _ => ("PatternDesk$Types", "used", "I", false)
def tyX9 : Nat → FieldType := fun k => match k with
  | 0 => .array .int
  | 1 => .array .int
  | _ => .int
abbrev wsX90 : List Cond := u_ws RX9 TX9 3
theorem nmX9 : ∀ a, a < 3 → ∀ b, b < 3 → a ≠ b → (TX9 a).2.1 ≠ (TX9 b).2.1 := by decide +kernel
theorem tyX9_ok : ∀ k, k < 3 → parseFieldDescriptor (TX9 k).2.2.1 = some (tyX9 k) := by decide +kernel
abbrev cX9_init : ByteArray := prog_11_method_1_code
def yX9_init : MethodName := ⟨RX9, "<init>", "()V"⟩
abbrev cX9_clear : ByteArray := prog_11_method_2_code
def yX9_clear : MethodName := ⟨RX9, "clear", "()V"⟩
abbrev cX9_isArrow : ByteArray := prog_11_method_3_code
def yX9_isArrow : MethodName := ⟨RX9, "isArrow", "(I)Z"⟩
abbrev cX9_from : ByteArray := prog_11_method_4_code
def yX9_from : MethodName := ⟨RX9, "from", "(I)I"⟩
abbrev cX9_to : ByteArray := prog_11_method_5_code
def yX9_to : MethodName := ⟨RX9, "to", "(I)I"⟩
abbrev cX9_arrow : ByteArray := prog_11_method_6_code
def yX9_arrow : MethodName := ⟨RX9, "arrow", "(II)I"⟩
def RX10 : String := "PatternDesk$Writer"
def TX10 : u_T := fun k => match k with
  | 0 => ("PatternDesk$Writer", "text", "LPatternDesk$Checker;", true)
  | 1 => ("PatternDesk$Writer", "types", "LPatternDesk$Types;", true)
  | 2 => ("PatternDesk$Writer", "terms", "LPatternDesk$Terms;", true)
  | 3 => ("PatternDesk$Writer", "levels", "LPatternDesk$Levels;", true)
  | 4 => ("PatternDesk$Writer", "answers", "LPatternDesk$Answers;", true)
  | 5 => ("PatternDesk$Writer", "pile", "LPatternDesk$Pile;", true)
  | 6 => ("PatternDesk$Writer", "numbers", "[I", true)
  | 7 => ("PatternDesk$Writer", "orders", "[I", true)
  | 8 => ("PatternDesk$Writer", "numbered", "I", false)
  | 9 => ("PatternDesk$Writer", "ink", "[I", true)
  | 10 => ("PatternDesk$Writer", "inked", "I", false)
  | _ => ("PatternDesk$Writer", "inkRoot", "I", false)
def tyX10 : Nat → FieldType := fun k => match k with
  | 0 => .object "PatternDesk$Checker"
  | 1 => .object "PatternDesk$Types"
  | 2 => .object "PatternDesk$Terms"
  | 3 => .object "PatternDesk$Levels"
  | 4 => .object "PatternDesk$Answers"
  | 5 => .object "PatternDesk$Pile"
  | 6 => .array .int
  | 7 => .array .int
  | 8 => .int
  | 9 => .array .int
  | 10 => .int
  | _ => .int
abbrev wsX100 : List Cond := u_ws RX10 TX10 12
theorem nmX10 : ∀ a, a < 12 → ∀ b, b < 12 → a ≠ b → (TX10 a).2.1 ≠ (TX10 b).2.1 := by decide +kernel
theorem tyX10_ok : ∀ k, k < 12 → parseFieldDescriptor (TX10 k).2.2.1 = some (tyX10 k) := by decide +kernel
abbrev cX10_init : ByteArray := prog_12_method_1_code
def yX10_init : MethodName := ⟨RX10, "<init>", "(LPatternDesk$Checker;LPatternDesk$Types;LPatternDesk$Terms;LPatternDesk$Levels;LPatternDesk$Answers;)V"⟩
abbrev cX10_ownUnknowns : ByteArray := prog_12_method_2_code
def yX10_ownUnknowns : MethodName := ⟨RX10, "ownUnknowns", "()I"⟩
abbrev cX10_byteAt : ByteArray := prog_12_method_3_code
def yX10_byteAt : MethodName := ⟨RX10, "byteAt", "(I)I"⟩
abbrev cX10_write : ByteArray := prog_12_method_4_code
def yX10_write : MethodName := ⟨RX10, "write", "(I)I"⟩
abbrev cX10_numberUnknowns : ByteArray := prog_12_method_5_code
def yX10_numberUnknowns : MethodName := ⟨RX10, "numberUnknowns", "()V"⟩
abbrev cX10_numberStep : ByteArray := prog_12_method_6_code
def yX10_numberStep : MethodName := ⟨RX10, "numberStep", "()V"⟩
abbrev cX10_orderArguments : ByteArray := prog_12_method_7_code
def yX10_orderArguments : MethodName := ⟨RX10, "orderArguments", "(II)V"⟩
abbrev cX10_argumentLevel : ByteArray := prog_12_method_8_code
def yX10_argumentLevel : MethodName := ⟨RX10, "argumentLevel", "(III)I"⟩
abbrev cX10_writeStep : ByteArray := prog_12_method_9_code
def yX10_writeStep : MethodName := ⟨RX10, "writeStep", "()V"⟩
abbrev cX10_beginArgument : ByteArray := prog_12_method_10_code
def yX10_beginArgument : MethodName := ⟨RX10, "beginArgument", "(I)V"⟩
abbrev cX10_putHead : ByteArray := prog_12_method_11_code
def yX10_putHead : MethodName := ⟨RX10, "putHead", "(II)V"⟩
abbrev cX10_putUnknown : ByteArray := prog_12_method_12_code
def yX10_putUnknown : MethodName := ⟨RX10, "putUnknown", "(III)V"⟩
abbrev cX10_putVariable : ByteArray := prog_12_method_13_code
def yX10_putVariable : MethodName := ⟨RX10, "putVariable", "(IIII)V"⟩
abbrev cX10_putBinder : ByteArray := prog_12_method_14_code
def yX10_putBinder : MethodName := ⟨RX10, "putBinder", "(I)V"⟩
abbrev cX10_putNumber : ByteArray := prog_12_method_15_code
def yX10_putNumber : MethodName := ⟨RX10, "putNumber", "(I)V"⟩
abbrev cX10_put : ByteArray := prog_12_method_16_code
def yX10_put : MethodName := ⟨RX10, "put", "(I)V"⟩
def RX11 : String := "PatternDesk"
def TX11 : u_T := fun k => match k with
  | 0 => ("PatternDesk", "tape", "[I", true)
  | 1 => ("PatternDesk", "fed", "I", false)
  | 2 => ("PatternDesk", "hasText", "Z", false)
  | 3 => ("PatternDesk", "solved", "I", false)
  | 4 => ("PatternDesk", "toldPlace", "I", false)
  | 5 => ("PatternDesk", "toldNumber", "I", false)
  | 6 => ("PatternDesk", "tokens", "LPatternDesk$Tokens;", true)
  | 7 => ("PatternDesk", "grammar", "LPatternDesk$Grammar;", true)
  | 8 => ("PatternDesk", "checker", "LPatternDesk$Checker;", true)
  | 9 => ("PatternDesk", "solver", "LPatternDesk$Solver;", true)
  | _ => ("PatternDesk", "writer", "LPatternDesk$Writer;", true)
def tyX11 : Nat → FieldType := fun k => match k with
  | 0 => .array .int
  | 1 => .int
  | 2 => .boolean
  | 3 => .int
  | 4 => .int
  | 5 => .int
  | 6 => .object "PatternDesk$Tokens"
  | 7 => .object "PatternDesk$Grammar"
  | 8 => .object "PatternDesk$Checker"
  | 9 => .object "PatternDesk$Solver"
  | _ => .object "PatternDesk$Writer"
abbrev wsX110 : List Cond := u_ws RX11 TX11 11
theorem nmX11 : ∀ a, a < 11 → ∀ b, b < 11 → a ≠ b → (TX11 a).2.1 ≠ (TX11 b).2.1 := by decide +kernel
theorem tyX11_ok : ∀ k, k < 11 → parseFieldDescriptor (TX11 k).2.2.1 = some (tyX11 k) := by decide +kernel
abbrev cX11_init : ByteArray := prog_1_method_1_code
def yX11_init : MethodName := ⟨RX11, "<init>", "()V"⟩
abbrev cX11_feed : ByteArray := prog_1_method_2_code
def yX11_feed : MethodName := ⟨RX11, "feed", "(IIIII)I"⟩
abbrev cX11_load : ByteArray := prog_1_method_3_code
def yX11_load : MethodName := ⟨RX11, "load", "(I)I"⟩
abbrev cX11_told : ByteArray := prog_1_method_4_code
def yX11_told : MethodName := ⟨RX11, "told", "(I)I"⟩
abbrev cX11_count : ByteArray := prog_1_method_5_code
def yX11_count : MethodName := ⟨RX11, "count", "(I)I"⟩
abbrev cX11_solve : ByteArray := prog_1_method_6_code
def yX11_solve : MethodName := ⟨RX11, "solve", "()I"⟩
abbrev cX11_fresh : ByteArray := prog_1_method_7_code
def yX11_fresh : MethodName := ⟨RX11, "fresh", "()I"⟩
abbrev cX11_size : ByteArray := prog_1_method_8_code
def yX11_size : MethodName := ⟨RX11, "size", "(I)I"⟩
abbrev cX11_letter : ByteArray := prog_1_method_9_code
def yX11_letter : MethodName := ⟨RX11, "letter", "(II)I"⟩
abbrev cX11_side : ByteArray := prog_1_method_10_code
def yX11_side : MethodName := ⟨RX11, "side", "(II)I"⟩
abbrev cX11_sideLetter : ByteArray := prog_1_method_11_code
def yX11_sideLetter : MethodName := ⟨RX11, "sideLetter", "(III)I"⟩
abbrev cX11_hasSolution : ByteArray := prog_1_method_12_code
def yX11_hasSolution : MethodName := ⟨RX11, "hasSolution", "()Z"⟩
abbrev cX11_takeWord : ByteArray := prog_1_method_13_code
def yX11_takeWord : MethodName := ⟨RX11, "takeWord", "(I)V"⟩
def RX12 : String := "PatternDeskModel"
def TX12 : u_T := fun k => match k with
  | 0 => ("PatternDeskModel", "tape", "[I", true)
  | 1 => ("PatternDeskModel", "fed", "I", false)
  | 2 => ("PatternDeskModel", "text", "[I", true)
  | 3 => ("PatternDeskModel", "length", "I", false)
  | 4 => ("PatternDeskModel", "token", "[I", true)
  | 5 => ("PatternDeskModel", "place", "[I", true)
  | 6 => ("PatternDeskModel", "size", "[I", true)
  | 7 => ("PatternDeskModel", "now", "I", false)
  | 8 => ("PatternDeskModel", "bad", "Z", false)
  | 9 => ("PatternDeskModel", "types", "I", false)
  | 10 => ("PatternDeskModel", "left", "[I", true)
  | 11 => ("PatternDeskModel", "right", "[I", true)
  | 12 => ("PatternDeskModel", "reads", "I", false)
  | 13 => ("PatternDeskModel", "readKind", "[I", true)
  | 14 => ("PatternDeskModel", "readToken", "[I", true)
  | 15 => ("PatternDeskModel", "readType", "[I", true)
  | 16 => ("PatternDeskModel", "readTypeToken", "[I", true)
  | 17 => ("PatternDeskModel", "readAtoms", "[I", true)
  | 18 => ("PatternDeskModel", "readBracket", "[I", true)
  | 19 => ("PatternDeskModel", "readFirst", "[I", true)
  | 20 => ("PatternDeskModel", "readNext", "[I", true)
  | 21 => ("PatternDeskModel", "readMeans", "[I", true)
  | 22 => ("PatternDeskModel", "readSort", "[I", true)
  | 23 => ("PatternDeskModel", "readIs", "[I", true)
  | 24 => ("PatternDeskModel", "items", "I", false)
  | 25 => ("PatternDeskModel", "itemKind", "[I", true)
  | 26 => ("PatternDeskModel", "itemToken", "[I", true)
  | 27 => ("PatternDeskModel", "itemType", "[I", true)
  | 28 => ("PatternDeskModel", "itemTypeToken", "[I", true)
  | 29 => ("PatternDeskModel", "itemAtoms", "[I", true)
  | 30 => ("PatternDeskModel", "itemLeft", "[I", true)
  | 31 => ("PatternDeskModel", "itemRight", "[I", true)
  | 32 => ("PatternDeskModel", "itemSign", "[I", true)
  | 33 => ("PatternDeskModel", "atoms", "I", false)
  | 34 => ("PatternDeskModel", "around", "I", false)
  | 35 => ("PatternDeskModel", "aroundToken", "[I", true)
  | 36 => ("PatternDeskModel", "aroundVar", "[I", true)
  | 37 => ("PatternDeskModel", "isRight", "Z", false)
  | 38 => ("PatternDeskModel", "toldPlace", "I", false)
  | 39 => ("PatternDeskModel", "toldWhy", "I", false)
  | 40 => ("PatternDeskModel", "why", "I", false)
  | 41 => ("PatternDeskModel", "wrongAt", "I", false)
  | 42 => ("PatternDeskModel", "constants", "I", false)
  | 43 => ("PatternDeskModel", "constToken", "[I", true)
  | 44 => ("PatternDeskModel", "constType", "[I", true)
  | 45 => ("PatternDeskModel", "unknowns", "I", false)
  | 46 => ("PatternDeskModel", "metaToken", "[I", true)
  | 47 => ("PatternDeskModel", "eqs", "I", false)
  | 48 => ("PatternDeskModel", "eqLeft", "[I", true)
  | 49 => ("PatternDeskModel", "eqRight", "[I", true)
  | 50 => ("PatternDeskModel", "nodes", "I", false)
  | 51 => ("PatternDeskModel", "kind", "[I", true)
  | 52 => ("PatternDeskModel", "ref", "[I", true)
  | 53 => ("PatternDeskModel", "first", "[I", true)
  | 54 => ("PatternDeskModel", "next", "[I", true)
  | 55 => ("PatternDeskModel", "from", "[I", true)
  | 56 => ("PatternDeskModel", "vars", "I", false)
  | 57 => ("PatternDeskModel", "var", "[I", true)
  | 58 => ("PatternDeskModel", "ids", "I", false)
  | 59 => ("PatternDeskModel", "typeOf", "[I", true)
  | 60 => ("PatternDeskModel", "depthOf", "[I", true)
  | 61 => ("PatternDeskModel", "metas", "I", false)
  | 62 => ("PatternDeskModel", "arity", "[I", true)
  | 63 => ("PatternDeskModel", "metaTypes", "[I", true)
  | 64 => ("PatternDeskModel", "typeRows", "I", false)
  | 65 => ("PatternDeskModel", "typeRow", "[I", true)
  | 66 => ("PatternDeskModel", "solved", "[Z", true)
  | 67 => ("PatternDeskModel", "solvedVars", "[I", true)
  | 68 => ("PatternDeskModel", "solvedTerm", "[I", true)
  | 69 => ("PatternDeskModel", "solvedBy", "[I", true)
  | 70 => ("PatternDeskModel", "assigned", "I", false)
  | 71 => ("PatternDeskModel", "names", "I", false)
  | 72 => ("PatternDeskModel", "nameFrom", "[I", true)
  | 73 => ("PatternDeskModel", "nameTo", "[I", true)
  | 74 => ("PatternDeskModel", "nameRest", "[I", true)
  | 75 => ("PatternDeskModel", "nodesLoaded", "I", false)
  | 76 => ("PatternDeskModel", "varsLoaded", "I", false)
  | 77 => ("PatternDeskModel", "idsLoaded", "I", false)
  | 78 => ("PatternDeskModel", "hasSolution", "Z", false)
  | 79 => ("PatternDeskModel", "fresh", "I", false)
  | 80 => ("PatternDeskModel", "freshOf", "[I", true)
  | 81 => ("PatternDeskModel", "seen", "[Z", true)
  | 82 => ("PatternDeskModel", "orderOf", "[I", true)
  | 83 => ("PatternDeskModel", "orders", "I", false)
  | 84 => ("PatternDeskModel", "order", "[I", true)
  | 85 => ("PatternDeskModel", "paper", "[I", true)
  | 86 => ("PatternDeskModel", "written", "I", false)
  | 87 => ("PatternDeskModel", "metaType", "[I", true)
  | 88 => ("PatternDeskModel", "closed", "[Z", true)
  | _ => ("PatternDeskModel", "numbering", "Z", false)
def tyX12 : Nat → FieldType := fun k => match k with
  | 0 => .array .int
  | 1 => .int
  | 2 => .array .int
  | 3 => .int
  | 4 => .array .int
  | 5 => .array .int
  | 6 => .array .int
  | 7 => .int
  | 8 => .boolean
  | 9 => .int
  | 10 => .array .int
  | 11 => .array .int
  | 12 => .int
  | 13 => .array .int
  | 14 => .array .int
  | 15 => .array .int
  | 16 => .array .int
  | 17 => .array .int
  | 18 => .array .int
  | 19 => .array .int
  | 20 => .array .int
  | 21 => .array .int
  | 22 => .array .int
  | 23 => .array .int
  | 24 => .int
  | 25 => .array .int
  | 26 => .array .int
  | 27 => .array .int
  | 28 => .array .int
  | 29 => .array .int
  | 30 => .array .int
  | 31 => .array .int
  | 32 => .array .int
  | 33 => .int
  | 34 => .int
  | 35 => .array .int
  | 36 => .array .int
  | 37 => .boolean
  | 38 => .int
  | 39 => .int
  | 40 => .int
  | 41 => .int
  | 42 => .int
  | 43 => .array .int
  | 44 => .array .int
  | 45 => .int
  | 46 => .array .int
  | 47 => .int
  | 48 => .array .int
  | 49 => .array .int
  | 50 => .int
  | 51 => .array .int
  | 52 => .array .int
  | 53 => .array .int
  | 54 => .array .int
  | 55 => .array .int
  | 56 => .int
  | 57 => .array .int
  | 58 => .int
  | 59 => .array .int
  | 60 => .array .int
  | 61 => .int
  | 62 => .array .int
  | 63 => .array .int
  | 64 => .int
  | 65 => .array .int
  | 66 => .array .boolean
  | 67 => .array .int
  | 68 => .array .int
  | 69 => .array .int
  | 70 => .int
  | 71 => .int
  | 72 => .array .int
  | 73 => .array .int
  | 74 => .array .int
  | 75 => .int
  | 76 => .int
  | 77 => .int
  | 78 => .boolean
  | 79 => .int
  | 80 => .array .int
  | 81 => .array .boolean
  | 82 => .array .int
  | 83 => .int
  | 84 => .array .int
  | 85 => .array .int
  | 86 => .int
  | 87 => .array .int
  | 88 => .array .boolean
  | _ => .boolean
abbrev wsX120 : List Cond := u_ws RX12 TX12 90
theorem nmX12 : ∀ a, a < 90 → ∀ b, b < 90 → a ≠ b → (TX12 a).2.1 ≠ (TX12 b).2.1 := by decide +kernel
theorem tyX12_ok : ∀ k, k < 90 → parseFieldDescriptor (TX12 k).2.2.1 = some (tyX12 k) := by decide +kernel
abbrev cX12_init : ByteArray := prog_14_method_1_code
def yX12_init : MethodName := ⟨RX12, "<init>", "()V"⟩
abbrev cX12_feed : ByteArray := prog_14_method_2_code
def yX12_feed : MethodName := ⟨RX12, "feed", "(IIIII)I"⟩
abbrev cX12_byteAt : ByteArray := prog_14_method_3_code
def yX12_byteAt : MethodName := ⟨RX12, "byteAt", "(I)I"⟩
abbrev cX12_isLetter : ByteArray := prog_14_method_4_code
def yX12_isLetter : MethodName := ⟨RX12, "isLetter", "(I)Z"⟩
abbrev cX12_isDigit : ByteArray := prog_14_method_5_code
def yX12_isDigit : MethodName := ⟨RX12, "isDigit", "(I)Z"⟩
abbrev cX12_is : ByteArray := prog_14_method_6_code
def yX12_is : MethodName := ⟨RX12, "is", "(IILjava/lang/String;)Z"⟩
abbrev cX12_tokenAt : ByteArray := prog_14_method_7_code
def yX12_tokenAt : MethodName := ⟨RX12, "tokenAt", "(II)I"⟩
abbrev cX12_cut : ByteArray := prog_14_method_8_code
def yX12_cut : MethodName := ⟨RX12, "cut", "()V"⟩
abbrev cX12_sameName : ByteArray := prog_14_method_9_code
def yX12_sameName : MethodName := ⟨RX12, "sameName", "(II)Z"⟩
abbrev cX12_take : ByteArray := prog_14_method_10_code
def yX12_take : MethodName := ⟨RX12, "take", "(I)I"⟩
abbrev cX12_arrow : ByteArray := prog_14_method_11_code
def yX12_arrow : MethodName := ⟨RX12, "arrow", "(II)I"⟩
abbrev cX12_type : ByteArray := prog_14_method_12_code
def yX12_type : MethodName := ⟨RX12, "type", "(I)I"⟩
abbrev cX12_node : ByteArray := prog_14_method_13_code
def yX12_node : MethodName := ⟨RX12, "node", "(II)I"⟩
abbrev cX12_add : ByteArray := prog_14_method_14_code
def yX12_add : MethodName := ⟨RX12, "add", "(II)V"⟩
abbrev cX12_term : ByteArray := prog_14_method_15_code
def yX12_term : MethodName := ⟨RX12, "term", "(I)I"⟩
abbrev cX12_read : ByteArray := prog_14_method_16_code
def yX12_read : MethodName := ⟨RX12, "read", "()V"⟩
abbrev cX12_wrong : ByteArray := prog_14_method_17_code
def yX12_wrong : MethodName := ⟨RX12, "wrong", "(II)V"⟩
abbrev cX12_same : ByteArray := prog_14_method_18_code
def yX12_same : MethodName := ⟨RX12, "same", "(II)Z"⟩
abbrev cX12_newVar : ByteArray := prog_14_method_19_code
def yX12_newVar : MethodName := ⟨RX12, "newVar", "(I)I"⟩
abbrev cX12_constant : ByteArray := prog_14_method_20_code
def yX12_constant : MethodName := ⟨RX12, "constant", "(I)I"⟩
abbrev cX12_unknown : ByteArray := prog_14_method_21_code
def yX12_unknown : MethodName := ⟨RX12, "unknown", "(I)I"⟩
abbrev cX12_mean : ByteArray := prog_14_method_22_code
def yX12_mean : MethodName := ⟨RX12, "mean", "(I)I"⟩
abbrev cX12_check : ByteArray := prog_14_method_23_code
def yX12_check : MethodName := ⟨RX12, "check", "(I)I"⟩
abbrev cX12_distinct : ByteArray := prog_14_method_24_code
def yX12_distinct : MethodName := ⟨RX12, "distinct", "(I)V"⟩
abbrev cX12_declare : ByteArray := prog_14_method_25_code
def yX12_declare : MethodName := ⟨RX12, "declare", "(I)V"⟩
abbrev cX12_equation : ByteArray := prog_14_method_26_code
def yX12_equation : MethodName := ⟨RX12, "equation", "(I)V"⟩
abbrev cX12_load : ByteArray := prog_14_method_27_code
def yX12_load : MethodName := ⟨RX12, "load", "(I)I"⟩
abbrev cX12_told : ByteArray := prog_14_method_28_code
def yX12_told : MethodName := ⟨RX12, "told", "(I)I"⟩
abbrev cX12_count : ByteArray := prog_14_method_29_code
def yX12_count : MethodName := ⟨RX12, "count", "(I)I"⟩
abbrev cX12_make : ByteArray := prog_14_method_30_code
def yX12_make : MethodName := ⟨RX12, "make", "(II)I"⟩
abbrev cX12_append : ByteArray := prog_14_method_31_code
def yX12_append : MethodName := ⟨RX12, "append", "(II)V"⟩
abbrev cX12_close : ByteArray := prog_14_method_32_code
def yX12_close : MethodName := ⟨RX12, "close", "(II)I"⟩
abbrev cX12_longVar : ByteArray := prog_14_method_33_code
def yX12_longVar : MethodName := ⟨RX12, "longVar", "(I)I"⟩
abbrev cX12_build : ByteArray := prog_14_method_34_code
def yX12_build : MethodName := ⟨RX12, "build", "(I)I"⟩
abbrev cX12_variable : ByteArray := prog_14_method_35_code
def yX12_variable : MethodName := ⟨RX12, "variable", "(I)I"⟩
abbrev cX12_name : ByteArray := prog_14_method_36_code
def yX12_name : MethodName := ⟨RX12, "name", "(III)I"⟩
abbrev cX12_behind : ByteArray := prog_14_method_37_code
def yX12_behind : MethodName := ⟨RX12, "behind", "(II)I"⟩
abbrev cX12_look : ByteArray := prog_14_method_38_code
def yX12_look : MethodName := ⟨RX12, "look", "(II)I"⟩
abbrev cX12_varOf : ByteArray := prog_14_method_39_code
def yX12_varOf : MethodName := ⟨RX12, "varOf", "(III)I"⟩
abbrev cX12_enter : ByteArray := prog_14_method_40_code
def yX12_enter : MethodName := ⟨RX12, "enter", "(II)I"⟩
abbrev cX12_newMeta : ByteArray := prog_14_method_41_code
def yX12_newMeta : MethodName := ⟨RX12, "newMeta", "()I"⟩
abbrev cX12_addType : ByteArray := prog_14_method_42_code
def yX12_addType : MethodName := ⟨RX12, "addType", "(II)V"⟩
abbrev cX12_assign : ByteArray := prog_14_method_43_code
def yX12_assign : MethodName := ⟨RX12, "assign", "(IIII)V"⟩
abbrev cX12_actual : ByteArray := prog_14_method_44_code
def yX12_actual : MethodName := ⟨RX12, "actual", "(II)I"⟩
abbrev cX12_keep : ByteArray := prog_14_method_45_code
def yX12_keep : MethodName := ⟨RX12, "keep", "(III)V"⟩
abbrev cX12_unify : ByteArray := prog_14_method_46_code
def yX12_unify : MethodName := ⟨RX12, "unify", "(IIII)Z"⟩
abbrev cX12_sameVars : ByteArray := prog_14_method_47_code
def yX12_sameVars : MethodName := ⟨RX12, "sameVars", "(IIII)Z"⟩
abbrev cX12_meet : ByteArray := prog_14_method_48_code
def yX12_meet : MethodName := ⟨RX12, "meet", "(IIII)Z"⟩
abbrev cX12_join : ByteArray := prog_14_method_49_code
def yX12_join : MethodName := ⟨RX12, "join", "(IIII)Z"⟩
abbrev cX12_bind : ByteArray := prog_14_method_50_code
def yX12_bind : MethodName := ⟨RX12, "bind", "(IIII)Z"⟩
abbrev cX12_isIn : ByteArray := prog_14_method_51_code
def yX12_isIn : MethodName := ⟨RX12, "isIn", "(III)Z"⟩
abbrev cX12_fits : ByteArray := prog_14_method_52_code
def yX12_fits : MethodName := ⟨RX12, "fits", "(IIIII)Z"⟩
abbrev cX12_solve : ByteArray := prog_14_method_53_code
def yX12_solve : MethodName := ⟨RX12, "solve", "()I"⟩
abbrev cX12_number : ByteArray := prog_14_method_54_code
def yX12_number : MethodName := ⟨RX12, "number", "()V"⟩
abbrev cX12_put : ByteArray := prog_14_method_55_code
def yX12_put : MethodName := ⟨RX12, "put", "(I)V"⟩
abbrev cX12_putNumber : ByteArray := prog_14_method_56_code
def yX12_putNumber : MethodName := ⟨RX12, "putNumber", "(II)V"⟩
abbrev cX12_putName : ByteArray := prog_14_method_57_code
def yX12_putName : MethodName := ⟨RX12, "putName", "(I)V"⟩
abbrev cX12_lambda : ByteArray := prog_14_method_58_code
def yX12_lambda : MethodName := ⟨RX12, "lambda", "(II)V"⟩
abbrev cX12_writeUnknown : ByteArray := prog_14_method_59_code
def yX12_writeUnknown : MethodName := ⟨RX12, "writeUnknown", "(I)V"⟩
abbrev cX12_isFull : ByteArray := prog_14_method_60_code
def yX12_isFull : MethodName := ⟨RX12, "isFull", "()Z"⟩
abbrev cX12_write : ByteArray := prog_14_method_61_code
def yX12_write : MethodName := ⟨RX12, "write", "(III)V"⟩
abbrev cX12_hasParts : ByteArray := prog_14_method_62_code
def yX12_hasParts : MethodName := ⟨RX12, "hasParts", "(II)Z"⟩
abbrev cX12_writeFresh : ByteArray := prog_14_method_63_code
def yX12_writeFresh : MethodName := ⟨RX12, "writeFresh", "(III)V"⟩
abbrev cX12_writeVar : ByteArray := prog_14_method_64_code
def yX12_writeVar : MethodName := ⟨RX12, "writeVar", "(II)V"⟩
abbrev cX12_papers : ByteArray := prog_14_method_65_code
def yX12_papers : MethodName := ⟨RX12, "papers", "(IZI)I"⟩
abbrev cX12_fresh : ByteArray := prog_14_method_66_code
def yX12_fresh : MethodName := ⟨RX12, "fresh", "()I"⟩
abbrev cX12_size : ByteArray := prog_14_method_67_code
def yX12_size : MethodName := ⟨RX12, "size", "(I)I"⟩
abbrev cX12_letter : ByteArray := prog_14_method_68_code
def yX12_letter : MethodName := ⟨RX12, "letter", "(II)I"⟩
abbrev cX12_side : ByteArray := prog_14_method_69_code
def yX12_side : MethodName := ⟨RX12, "side", "(II)I"⟩
abbrev cX12_sideLetter : ByteArray := prog_14_method_70_code
def yX12_sideLetter : MethodName := ⟨RX12, "sideLetter", "(III)I"⟩
def RJ11 : String := "java/lang/Character"
def TJ11 : u_T := fun k => match k with
  | _ => ("", "", "", false)
def tyJ11 : Nat → FieldType := fun k => match k with
  | _ => .int
abbrev wsJ110 : List Cond := u_ws RJ11 TJ11 0
theorem nmJ11 : ∀ a, a < 0 → ∀ b, b < 0 → a ≠ b → (TJ11 a).2.1 ≠ (TJ11 b).2.1 := by decide +kernel
theorem tyJ11_ok : ∀ k, k < 0 → parseFieldDescriptor (TJ11 k).2.2.1 = some (tyJ11 k) := by decide +kernel
abbrev cJ11_isValidCodePoint_9a6ad : ByteArray := prog_15_method_11_code
def yJ11_isValidCodePoint_9a6ad : MethodName := ⟨RJ11, "isValidCodePoint", "(I)Z"⟩
abbrev cJ11_highSurrogate_5068e : ByteArray := prog_15_method_28_code
def yJ11_highSurrogate_5068e : MethodName := ⟨RJ11, "highSurrogate", "(I)C"⟩
abbrev cJ11_lowSurrogate_5068e : ByteArray := prog_15_method_29_code
def yJ11_lowSurrogate_5068e : MethodName := ⟨RJ11, "lowSurrogate", "(I)C"⟩
def RJ9 : String := "java/lang/Math"
def TJ9 : u_T := fun k => match k with
  | _ => ("", "", "", false)
def tyJ9 : Nat → FieldType := fun k => match k with
  | _ => .int
abbrev wsJ90 : List Cond := u_ws RJ9 TJ9 0
theorem nmJ9 : ∀ a, a < 0 → ∀ b, b < 0 → a ≠ b → (TJ9 a).2.1 ≠ (TJ9 b).2.1 := by decide +kernel
theorem tyJ9_ok : ∀ k, k < 0 → parseFieldDescriptor (TJ9 k).2.2.1 = some (tyJ9 k) := by decide +kernel
abbrev cJ9_max_7cf53 : ByteArray := prog_16_method_65_code
def yJ9_max_7cf53 : MethodName := ⟨RJ9, "max", "(II)I"⟩
abbrev cJ9_min_7cf53 : ByteArray := prog_16_method_69_code
def yJ9_min_7cf53 : MethodName := ⟨RJ9, "min", "(II)I"⟩
def RJ0 : String := "java/lang/String"
def TJ0 : u_T := fun k => match k with
  | _ => ("", "", "", false)
def tyJ0 : Nat → FieldType := fun k => match k with
  | _ => .int
abbrev wsJ00 : List Cond := u_ws RJ0 TJ0 0
theorem nmJ0 : ∀ a, a < 0 → ∀ b, b < 0 → a ≠ b → (TJ0 a).2.1 ≠ (TJ0 b).2.1 := by decide +kernel
theorem tyJ0_ok : ∀ k, k < 0 → parseFieldDescriptor (TJ0 k).2.2.1 = some (tyJ0 k) := by decide +kernel
abbrev cJ0_length_8abf5 : ByteArray := prog_17_method_54_code
def yJ0_length_8abf5 : MethodName := ⟨RJ0, "length", "()I"⟩
abbrev cJ0_charAt_5068e : ByteArray := prog_17_method_56_code
def yJ0_charAt_5068e : MethodName := ⟨RJ0, "charAt", "(I)C"⟩
abbrev cJ0_indexOf_0f7a4 : ByteArray := prog_17_method_79_code
def yJ0_indexOf_0f7a4 : MethodName := ⟨RJ0, "indexOf", "(I)I"⟩
abbrev cJ0_indexOf_7cf53 : ByteArray := prog_17_method_80_code
def yJ0_indexOf_7cf53 : MethodName := ⟨RJ0, "indexOf", "(II)I"⟩
abbrev cJ0_coder_7d493 : ByteArray := prog_17_method_152_code
def yJ0_coder_7d493 : MethodName := ⟨RJ0, "coder", "()B"⟩
abbrev cJ0_isLatin1_aae02 : ByteArray := prog_17_method_154_code
def yJ0_isLatin1_aae02 : MethodName := ⟨RJ0, "isLatin1", "()Z"⟩
abbrev cJ0_checkIndex_df160 : ByteArray := prog_17_method_155_code
def yJ0_checkIndex_df160 : MethodName := ⟨RJ0, "checkIndex", "(II)V"⟩
abbrev cJ0_checkBoundsBeginEnd_23922 : ByteArray := prog_17_method_158_code
def yJ0_checkBoundsBeginEnd_23922 : MethodName := ⟨RJ0, "checkBoundsBeginEnd", "(III)V"⟩
def RJ1 : String := "java/lang/StringLatin1"
def TJ1 : u_T := fun k => match k with
  | _ => ("", "", "", false)
def tyJ1 : Nat → FieldType := fun k => match k with
  | _ => .int
abbrev wsJ10 : List Cond := u_ws RJ1 TJ1 0
theorem nmJ1 : ∀ a, a < 0 → ∀ b, b < 0 → a ≠ b → (TJ1 a).2.1 ≠ (TJ1 b).2.1 := by decide +kernel
theorem tyJ1_ok : ∀ k, k < 0 → parseFieldDescriptor (TJ1 k).2.2.1 = some (tyJ1 k) := by decide +kernel
abbrev cJ1_charAt_3b067 : ByteArray := prog_18_method_2_code
def yJ1_charAt_3b067 : MethodName := ⟨RJ1, "charAt", "([BI)C"⟩
abbrev cJ1_canEncode_9a6ad : ByteArray := prog_18_method_4_code
def yJ1_canEncode_9a6ad : MethodName := ⟨RJ1, "canEncode", "(I)Z"⟩
abbrev cJ1_indexOf_4cfef : ByteArray := prog_18_method_22_code
def yJ1_indexOf_4cfef : MethodName := ⟨RJ1, "indexOf", "([BIII)I"⟩
abbrev cJ1_indexOfChar_4cfef : ByteArray := prog_18_method_23_code
def yJ1_indexOfChar_4cfef : MethodName := ⟨RJ1, "indexOfChar", "([BIII)I"⟩
def RJ2 : String := "java/lang/StringUTF16"
def TJ2 : u_T := fun k => match k with
  | _ => ("", "", "", false)
def tyJ2 : Nat → FieldType := fun k => match k with
  | _ => .int
abbrev wsJ20 : List Cond := u_ws RJ2 TJ2 0
theorem nmJ2 : ∀ a, a < 0 → ∀ b, b < 0 → a ≠ b → (TJ2 a).2.1 ≠ (TJ2 b).2.1 := by decide +kernel
theorem tyJ2_ok : ∀ k, k < 0 → parseFieldDescriptor (TJ2 k).2.2.1 = some (tyJ2 k) := by decide +kernel
abbrev cJ2_getChar_3b067 : ByteArray := prog_19_method_5_code
def yJ2_getChar_3b067 : MethodName := ⟨RJ2, "getChar", "([BI)C"⟩
abbrev cJ2_length_9d52b : ByteArray := prog_19_method_6_code
def yJ2_length_9d52b : MethodName := ⟨RJ2, "length", "([B)I"⟩
abbrev cJ2_indexOf_4cfef : ByteArray := prog_19_method_40_code
def yJ2_indexOf_4cfef : MethodName := ⟨RJ2, "indexOf", "([BIII)I"⟩
abbrev cJ2_indexOfChar_4cfef : ByteArray := prog_19_method_47_code
def yJ2_indexOfChar_4cfef : MethodName := ⟨RJ2, "indexOfChar", "([BIII)I"⟩
abbrev cJ2_indexOfCharUnsafe_4cfef : ByteArray := prog_19_method_48_code
def yJ2_indexOfCharUnsafe_4cfef : MethodName := ⟨RJ2, "indexOfCharUnsafe", "([BIII)I"⟩
abbrev cJ2_indexOfSupplementary_4cfef : ByteArray := prog_19_method_49_code
def yJ2_indexOfSupplementary_4cfef : MethodName := ⟨RJ2, "indexOfSupplementary", "([BIII)I"⟩
abbrev cJ2_charAt_3b067 : ByteArray := prog_19_method_83_code
def yJ2_charAt_3b067 : MethodName := ⟨RJ2, "charAt", "([BI)C"⟩
abbrev cJ2_checkIndex_2214a : ByteArray := prog_19_method_91_code
def yJ2_checkIndex_2214a : MethodName := ⟨RJ2, "checkIndex", "(I[B)V"⟩
abbrev cJ2_checkBoundsBeginEnd_d044e : ByteArray := prog_19_method_93_code
def yJ2_checkBoundsBeginEnd_d044e : MethodName := ⟨RJ2, "checkBoundsBeginEnd", "(II[B)V"⟩
def RJ10 : String := "java/lang/System"
def TJ10 : u_T := fun k => match k with
  | _ => ("", "", "", false)
def tyJ10 : Nat → FieldType := fun k => match k with
  | _ => .int
abbrev wsJ100 : List Cond := u_ws RJ10 TJ10 0
theorem nmJ10 : ∀ a, a < 0 → ∀ b, b < 0 → a ≠ b → (TJ10 a).2.1 ≠ (TJ10 b).2.1 := by decide +kernel
theorem tyJ10_ok : ∀ k, k < 0 → parseFieldDescriptor (TJ10 k).2.2.1 = some (tyJ10 k) := by decide +kernel
def RJ7 : String := "java/util/Arrays"
def TJ7 : u_T := fun k => match k with
  | _ => ("", "", "", false)
def tyJ7 : Nat → FieldType := fun k => match k with
  | _ => .int
abbrev wsJ70 : List Cond := u_ws RJ7 TJ7 0
theorem nmJ7 : ∀ a, a < 0 → ∀ b, b < 0 → a ≠ b → (TJ7 a).2.1 ≠ (TJ7 b).2.1 := by decide +kernel
theorem tyJ7_ok : ∀ k, k < 0 → parseFieldDescriptor (TJ7 k).2.2.1 = some (tyJ7 k) := by decide +kernel
abbrev cJ7_fill_53178 : ByteArray := prog_21_method_103_code
def yJ7_fill_53178 : MethodName := ⟨RJ7, "fill", "([II)V"⟩
def RJ3 : String := "jdk/internal/util/Preconditions"
def TJ3 : u_T := fun k => match k with
  | _ => ("", "", "", false)
def tyJ3 : Nat → FieldType := fun k => match k with
  | _ => .int
abbrev wsJ30 : List Cond := u_ws RJ3 TJ3 0
theorem nmJ3 : ∀ a, a < 0 → ∀ b, b < 0 → a ≠ b → (TJ3 a).2.1 ≠ (TJ3 b).2.1 := by decide +kernel
theorem tyJ3_ok : ∀ k, k < 0 → parseFieldDescriptor (TJ3 k).2.2.1 = some (tyJ3 k) := by decide +kernel
abbrev cJ3_checkIndex_8e157 : ByteArray := prog_22_method_11_code
def yJ3_checkIndex_8e157 : MethodName := ⟨RJ3, "checkIndex", "(IILjava/util/function/BiFunction;)I"⟩
abbrev cJ3_checkFromToIndex_8c36e : ByteArray := prog_22_method_12_code
def yJ3_checkFromToIndex_8c36e : MethodName := ⟨RJ3, "checkFromToIndex", "(IIILjava/util/function/BiFunction;)I"⟩
def RL : String := "PatternDeskLaw"
abbrev cL_law : ByteArray := code
def yL_law : MethodName := ⟨RL, "law", "([I)Z"⟩
abbrev vwCl : List vw_C := [(RX0, TX0, 9), (RX1, TX1, 15), (RX2, TX2, 2), (RX3, TX3, 4), (RX4, TX4, 3), (RX5, TX5, 7), (RX6, TX6, 13), (RX7, TX7, 9), (RX8, TX8, 6), (RX9, TX9, 3), (RX10, TX10, 12), (RX11, TX11, 11), (RX12, TX12, 90)]
end
section
/-! ===== THE PURE MACHINE: worlds whose cells are named by their places; a judgement mx_W over them; a rule an instruction ===== -/
/-- the tables' words that stay over a call; pure values name cells by their places: here they get addresses -/
def mx_tb : List Cond := lw_tbl.filter goodWord
def mx_v (r : Nat → Nat) (v : Value) : Value := match v with
  | .ref i => .ref (r i)
  | v => v
theorem mx_v_cat (r : Nat → Nat) (v : Value) : (mx_v r v).category = v.category := by cases v <;> rfl
def mx_e (r : Nat → Nat) (cA : Nat → ClassId) (e : va_E) : va_E := match e with
  | .inl a => .inl (cA a.1, a.2)
  | .inr o => .inr (o.1, o.2.map (mx_v r))
def mx_w (r : Nat → Nat) (cA : Nat → ClassId) (hp : List va_E) : va_W := hp.mapIdx (fun i e => (r i, mx_e r cA e))
theorem mx_w_at {r : Nat → Nat} {cA : Nat → ClassId} {hp : List va_E} {i : Nat} {e : va_E} (h : hp[i]? = some e) : (mx_w r cA hp)[i]? = some (r i, mx_e r cA e) := by
  simp [mx_w, h]
theorem mx_w_of {r : Nat → Nat} {cA : Nat → ClassId} {hp : List va_E} {i : Nat} {q : Nat × va_E} (h : (mx_w r cA hp)[i]? = some q) : i < hp.length ∧ q.1 = r i := by
  simp [mx_w] at h
  obtain ⟨e, he, hq⟩ := h
  exact ⟨(List.getElem?_eq_some_iff.mp he).1, by rw [← hq]⟩
theorem mx_w_set {r : Nat → Nat} {cA : Nat → ClassId} {hp : List va_E} {i : Nat} {e : va_E} : (mx_w r cA hp).set i (r i, mx_e r cA e) = mx_w r cA (hp.set i e) := by
  apply List.ext_getElem?
  intro j
  by_cases hj : i = j
  · subst hj
    by_cases hl : i < hp.length
    · simp [mx_w, hl]
    · have h1 : ¬ i < (mx_w r cA hp).length := by simp [mx_w]; omega
      rw [List.getElem?_eq_none (by simp [mx_w]; omega), List.getElem?_eq_none (by simp [mx_w]; omega)]
  · simp [mx_w, List.getElem?_set_ne hj]
theorem mx_w_push {r : Nat → Nat} {cA : Nat → ClassId} {hp : List va_E} {e : va_E} : mx_w r cA hp ++ [(r hp.length, mx_e r cA e)] = mx_w r cA (hp ++ [e]) := by
  simp [mx_w, List.mapIdx_append]
/-- the surroundings: addresses by place, array classes by tag (0 int, 1 boolean, 2 byte), classes, slots, the first address; the script: its address, length, ints (its place is 1000000) -/
abbrev mx_Ev : Type := (Nat → Nat) × (Nat → ClassId) × (Nat → ClassId) × (Nat → Nat → Nat) × Nat × Nat × Nat × (Nat → Int32)
/-- a method: name, bytes, locals, what it returns -/
abbrev mx_Me : Type := MethodName × ByteArray × Nat × Option FieldType
def mx_T (cA : Nat → ClassId) : List (ClassId × FieldType) := [(cA 0, .int), (cA 1, .boolean), (cA 2, .byte)]
def mx_ok (E : mx_Ev) : Prop := (∀ i, i < 1000000 → E.1 i = E.2.2.2.2.1 + i) ∧ E.2.2.2.2.2.1 < E.2.2.2.2.1 ∧ E.1 1000000 = E.2.2.2.2.2.1 ∧ E.2.2.2.2.2.2.1 ≤ 3072
def mx_A (E : mx_Ev) : Nat → Prop := fun q => E.2.2.2.2.1 ≤ q
def mx_K (E : mx_Ev) (s : State) : Prop := va_K (E.2.2.1, E.2.2.2.1) vwCl (mx_T E.2.1) s
def mx_P (E : mx_Ev) (hp : List va_E) (H : Heap) : Prop := va_P (E.2.2.1, E.2.2.2.1) vwCl (mx_w E.1 E.2.1 hp) H ∧ H.size = E.2.2.2.2.1 + hp.length ∧ hp.length ≤ 600000
def mx_Q (E : mx_Ev) (K : Option Value → List va_E → Prop) : Array Value → State → Outcome → State → Prop := fun _ st o t =>
  (∃ (v : Option Value) (hp : List va_E), o = .returned (v.map (mx_v E.1)) ∧ K v hp ∧ mx_P E hp t.heap) ∧ va_F (mx_A E) st t
def mx_C (E : mx_Ev) (M : mx_Me) (p : Program) (s : State) (m : MethodId) (args : Array Value) (meth : Method) (c : Code) : Prop :=
  mx_ok E ∧ p.tables.exec = Jvm.exec ∧ c.code = M.2.1 ∧ c.maxLocals = M.2.2.1 ∧ meth.sig.returnType = M.2.2.2 ∧ meth.locks = false ∧ (M.1.name = "<init>" → meth.name = "<init>") ∧ s.vm.findClass M.1.cls = some m.cls ∧ (∀ w ∈ mx_tb, w.before args s = true) ∧ mx_K E s ∧ E.2.2.2.2.1 ≤ s.heap.size ∧ va_X E.2.2.2.2.2.1 E.2.2.2.2.2.2.1 E.2.2.2.2.2.2.2 s s.heap
def mx_W (l : Launch) (E : mx_Ev) (M : mx_Me) (R : Room) (mc ms : Nat) (K : Option Value → List va_E → Prop) (cells slots pc : Nat) (ls : List (Nat × Value)) (st : List Value) (hp : List va_E) : Prop :=
  ∀ (p : Program) (e : Env) (s : State) (m : MethodId) (args : Array Value) (below : List Frame) (meth : Method) (c : Code) (H : Heap) (locs : List Loc) (lv : Array Slot),
    mx_C E M p s m args meth c → mx_P E hp H → va_S (mx_A E) s.heap H locs → lv_has lv M.2.2.1 (ls.map (fun q => (q.1, mx_v E.1 q.2))) →
    W p l e R s m args below meth c H locs cells slots (MQ below (mx_Q E K) args s mc ms (mx_A E)) (F0 m pc lv (st.map (mx_v E.1)))
theorem mx_P.D {E : mx_Ev} {hp : List va_E} {H : Heap} (hE : mx_ok E) (h : mx_P E hp H) : va_D (mx_A E) (mx_w E.1 E.2.1 hp) := by
  refine ⟨fun i j p q h1 h2 e => ?_, fun k q hk => ?_⟩
  · obtain ⟨a1, a2⟩ := mx_w_of h1
    obtain ⟨b1, b2⟩ := mx_w_of h2
    rw [a2, b2, hE.1 i (by have := h.2.2; omega), hE.1 j (by have := h.2.2; omega)] at e
    omega
  · obtain ⟨a1, a2⟩ := mx_w_of hk
    rw [a2, hE.1 k (by have := h.2.2; omega)]
    exact Nat.le_add_right _ _
/-- what stands at a place -/
def mx_at : List (Nat × Value) → Nat → Option Value
  | [], _ => none
  | q :: l, i => cond (Nat.beq q.1 i) (some q.2) (mx_at l i)
theorem mx_at_mem : ∀ {l : List (Nat × Value)} {i : Nat} {v : Value}, mx_at l i = some v → (i, v) ∈ l
  | [], _, _, h => by cases h
  | q :: l, i, v, h => by
    unfold mx_at at h
    by_cases hq : Nat.beq q.1 i = true
    · rw [hq] at h
      have e1 : q.1 = i := Nat.eq_of_beq_eq_true hq
      have e2 : q.2 = v := Option.some.inj h
      rw [← e1, ← e2]
      exact List.mem_cons_self
    · rw [Bool.not_eq_true] at hq
      rw [hq] at h
      exact List.mem_cons_of_mem _ (mx_at_mem h)
def mx_keep (i : Nat) (q : Nat × Value) : Bool := !(q.1 == i) && !(q.1 + 1 == i && q.2.category == 2)
def mx_put (ls : List (Nat × Value)) (i : Nat) (v : Value) : List (Nat × Value) := (i, v) :: ls.filter (mx_keep i)
theorem mx_get {E : mx_Ev} {lv : Array Slot} {n i : Nat} {ls : List (Nat × Value)} {v : Value} (L : lv_has lv n (ls.map (fun q => (q.1, mx_v E.1 q.2)))) (h : mx_at ls i = some v) : lv[i]? = some (.val (mx_v E.1 v)) :=
  L.2.2 (i, mx_v E.1 v) (List.mem_map.mpr ⟨(i, v), mx_at_mem h, rfl⟩)
theorem mx_put_eq (r : Nat → Nat) (ls : List (Nat × Value)) (i : Nat) (v : Value) : (i, mx_v r v) :: (ls.map (fun q => (q.1, mx_v r q.2))).filter (fun q => !(q.1 == i) && !(q.1 + 1 == i && q.2.category == 2)) = (mx_put ls i v).map (fun q => (q.1, mx_v r q.2)) := by
  unfold mx_put
  rw [List.map_cons, List.filter_map]
  congr 2
  apply List.filter_congr
  intro q _
  simp [mx_keep, mx_v_cat]
section MX
variable {l : Launch} {E : mx_Ev} {M : mx_Me} {R : Room} {mc ms : Nat} {K : Option Value → List va_E → Prop} {cells slots pc : Nat} {ls : List (Nat × Value)} {st : List Value} {hp : List va_E}
theorem mx_iconst {n : Int} {v : Int32} (hd : decode M.2.1 pc = .ok (.iconst n, 1)) (hv : Int32.ofInt n = v) (k : mx_W l E M R mc ms K cells slots (pc + 1) ls (.int v :: st) hp) : mx_W l E M R mc ms K cells slots pc ls st hp :=
  fun p e s m args below meth c H locs lv C P S L => lv_iconst C.2.1 C.2.2.1 hd hv (k p e s m args below meth c H locs lv C P S L)
theorem mx_bipush {n : Int} {v : Int32} (hd : decode M.2.1 pc = .ok (.bipush n, 2)) (hv : (Int8.ofInt n).toInt32 = v) (k : mx_W l E M R mc ms K cells slots (pc + 2) ls (.int v :: st) hp) : mx_W l E M R mc ms K cells slots pc ls st hp :=
  fun p e s m args below meth c H locs lv C P S L => lv_bipush C.2.1 C.2.2.1 hd hv (k p e s m args below meth c H locs lv C P S L)
theorem mx_sipush {n : Int} {v : Int32} (hd : decode M.2.1 pc = .ok (.sipush n, 3)) (hv : (Int16.ofInt n).toInt32 = v) (k : mx_W l E M R mc ms K cells slots (pc + 3) ls (.int v :: st) hp) : mx_W l E M R mc ms K cells slots pc ls st hp :=
  fun p e s m args below meth c H locs lv C P S L => lv_sipush C.2.1 C.2.2.1 hd hv (k p e s m args below meth c H locs lv C P S L)
theorem mx_null (hd : decode M.2.1 pc = .ok (.aconst_null, 1)) (k : mx_W l E M R mc ms K cells slots (pc + 1) ls (.null :: st) hp) : mx_W l E M R mc ms K cells slots pc ls st hp :=
  fun p e s m args below meth c H locs lv C P S L => lv_null C.2.1 C.2.2.1 hd (k p e s m args below meth c H locs lv C P S L)
theorem mx_ldc {i : Nat} {v : Int32} (hd : decode M.2.1 pc = .ok (.ldc i, 2)) (hw : Cond.constant M.1.cls i v ∈ mx_tb) (k : mx_W l E M R mc ms K cells slots (pc + 2) ls (.int v :: st) hp) : mx_W l E M R mc ms K cells slots pc ls st hp :=
  fun p e s m args below meth c H locs lv C P S L => lv_ldc C.2.1 C.2.2.1 C.2.2.2.2.2.2.2.1 (C.2.2.2.2.2.2.2.2.1 _ hw) hd (k p e s m args below meth c H locs lv C P S L)
theorem mx_iload_n {k : Fin 4} {x : Int32} (hd : decode M.2.1 pc = .ok (.iload_n k, 1)) (hv : mx_at ls k.val = some (.int x)) (k : mx_W l E M R mc ms K cells slots (pc + 1) ls (.int x :: st) hp) : mx_W l E M R mc ms K cells slots pc ls st hp :=
  fun p e s m args below meth c H locs lv C P S L => lv_iload_n C.2.1 C.2.2.1 hd rfl (mx_get L hv) (k p e s m args below meth c H locs lv C P S L)
theorem mx_iload {i : Nat} {x : Int32} (hd : decode M.2.1 pc = .ok (.iload i, 2)) (hv : mx_at ls i = some (.int x)) (k : mx_W l E M R mc ms K cells slots (pc + 2) ls (.int x :: st) hp) : mx_W l E M R mc ms K cells slots pc ls st hp :=
  fun p e s m args below meth c H locs lv C P S L => lv_iload C.2.1 C.2.2.1 hd (mx_get L hv) (k p e s m args below meth c H locs lv C P S L)
theorem mx_aload_n {k : Fin 4} {x : Nat} (hd : decode M.2.1 pc = .ok (.aload_n k, 1)) (hv : mx_at ls k.val = some (.ref x)) (k : mx_W l E M R mc ms K cells slots (pc + 1) ls (.ref x :: st) hp) : mx_W l E M R mc ms K cells slots pc ls st hp :=
  fun p e s m args below meth c H locs lv C P S L => lv_aload_n C.2.1 C.2.2.1 hd rfl (mx_get L hv) (k p e s m args below meth c H locs lv C P S L)
theorem mx_aload {i : Nat} {x : Nat} (hd : decode M.2.1 pc = .ok (.aload i, 2)) (hv : mx_at ls i = some (.ref x)) (k : mx_W l E M R mc ms K cells slots (pc + 2) ls (.ref x :: st) hp) : mx_W l E M R mc ms K cells slots pc ls st hp :=
  fun p e s m args below meth c H locs lv C P S L => lv_aload C.2.1 C.2.2.1 hd (mx_get L hv) (k p e s m args below meth c H locs lv C P S L)
theorem mx_istore_n {k : Fin 4} {x : Int32} (hd : decode M.2.1 pc = .ok (.istore_n k, 1)) (hn : k.val < M.2.2.1) (kk : mx_W l E M R mc ms K cells slots (pc + 1) (mx_put ls k.val (.int x)) st hp) : mx_W l E M R mc ms K cells slots pc ls (.int x :: st) hp :=
  fun p e s m args below meth c H locs lv C P S L => lv_istore_n C.2.1 C.2.2.1 hd rfl L hn (mx_put_eq E.1 ls k.val (.int x)) (fun lv2 L2 => kk p e s m args below meth c H locs lv2 C P S L2)
theorem mx_istore {i : Nat} {x : Int32} (hd : decode M.2.1 pc = .ok (.istore i, 2)) (hn : i < M.2.2.1) (kk : mx_W l E M R mc ms K cells slots (pc + 2) (mx_put ls i (.int x)) st hp) : mx_W l E M R mc ms K cells slots pc ls (.int x :: st) hp :=
  fun p e s m args below meth c H locs lv C P S L => lv_istore C.2.1 C.2.2.1 hd L hn (mx_put_eq E.1 ls i (.int x)) (fun lv2 L2 => kk p e s m args below meth c H locs lv2 C P S L2)
theorem mx_astore_n {k : Fin 4} {x : Nat} (hd : decode M.2.1 pc = .ok (.astore_n k, 1)) (hn : k.val < M.2.2.1) (kk : mx_W l E M R mc ms K cells slots (pc + 1) (mx_put ls k.val (.ref x)) st hp) : mx_W l E M R mc ms K cells slots pc ls (.ref x :: st) hp :=
  fun p e s m args below meth c H locs lv C P S L => lv_astore_n C.2.1 C.2.2.1 hd rfl L hn (mx_put_eq E.1 ls k.val (.ref x)) (fun lv2 L2 => kk p e s m args below meth c H locs lv2 C P S L2)
theorem mx_astore {i : Nat} {x : Nat} (hd : decode M.2.1 pc = .ok (.astore i, 2)) (hn : i < M.2.2.1) (kk : mx_W l E M R mc ms K cells slots (pc + 2) (mx_put ls i (.ref x)) st hp) : mx_W l E M R mc ms K cells slots pc ls (.ref x :: st) hp :=
  fun p e s m args below meth c H locs lv C P S L => lv_astore C.2.1 C.2.2.1 hd L hn (mx_put_eq E.1 ls i (.ref x)) (fun lv2 L2 => kk p e s m args below meth c H locs lv2 C P S L2)
theorem mx_iinc {i : Nat} {n : Int} {x v : Int32} (hd : decode M.2.1 pc = .ok (.iinc i n, 3)) (hx : mx_at ls i = some (.int x)) (hv : x + Int32.ofInt n = v) (hn : i < M.2.2.1) (kk : mx_W l E M R mc ms K cells slots (pc + 3) (mx_put ls i (.int v)) st hp) : mx_W l E M R mc ms K cells slots pc ls st hp :=
  fun p e s m args below meth c H locs lv C P S L => by
    obtain ⟨k, hk⟩ := List.mem_iff_getElem?.mp (List.mem_map.mpr ⟨(i, Value.int x), mx_at_mem hx, rfl⟩ : (i, mx_v E.1 (.int x)) ∈ ls.map (fun q => (q.1, mx_v E.1 q.2)))
    exact lv_iinc C.2.1 C.2.2.1 hd L hk hv hn (mx_put_eq E.1 ls i (.int v)) (fun lv2 L2 => kk p e s m args below meth c H locs lv2 C P S L2)
theorem mx_iadd {x y : Int32} (hd : decode M.2.1 pc = .ok (.iadd, 1)) (k : mx_W l E M R mc ms K cells slots (pc + 1) ls (.int (x + y) :: st) hp) : mx_W l E M R mc ms K cells slots pc ls (.int y :: .int x :: st) hp :=
  fun p e s m args below meth c H locs lv C P S L => lv_iadd C.2.1 C.2.2.1 hd (k p e s m args below meth c H locs lv C P S L)
theorem mx_isub {x y : Int32} (hd : decode M.2.1 pc = .ok (.isub, 1)) (k : mx_W l E M R mc ms K cells slots (pc + 1) ls (.int (x - y) :: st) hp) : mx_W l E M R mc ms K cells slots pc ls (.int y :: .int x :: st) hp :=
  fun p e s m args below meth c H locs lv C P S L => lv_isub C.2.1 C.2.2.1 hd (k p e s m args below meth c H locs lv C P S L)
theorem mx_imul {x y : Int32} (hd : decode M.2.1 pc = .ok (.imul, 1)) (k : mx_W l E M R mc ms K cells slots (pc + 1) ls (.int (x * y) :: st) hp) : mx_W l E M R mc ms K cells slots pc ls (.int y :: .int x :: st) hp :=
  fun p e s m args below meth c H locs lv C P S L => lv_imul C.2.1 C.2.2.1 hd (k p e s m args below meth c H locs lv C P S L)
theorem mx_iand {x y : Int32} (hd : decode M.2.1 pc = .ok (.iand, 1)) (k : mx_W l E M R mc ms K cells slots (pc + 1) ls (.int (x &&& y) :: st) hp) : mx_W l E M R mc ms K cells slots pc ls (.int y :: .int x :: st) hp :=
  fun p e s m args below meth c H locs lv C P S L => lv_iand C.2.1 C.2.2.1 hd (k p e s m args below meth c H locs lv C P S L)
theorem mx_ior {x y : Int32} (hd : decode M.2.1 pc = .ok (.ior, 1)) (k : mx_W l E M R mc ms K cells slots (pc + 1) ls (.int (x ||| y) :: st) hp) : mx_W l E M R mc ms K cells slots pc ls (.int y :: .int x :: st) hp :=
  fun p e s m args below meth c H locs lv C P S L => lv_ior C.2.1 C.2.2.1 hd (k p e s m args below meth c H locs lv C P S L)
theorem mx_ixor {x y : Int32} (hd : decode M.2.1 pc = .ok (.ixor, 1)) (k : mx_W l E M R mc ms K cells slots (pc + 1) ls (.int (x ^^^ y) :: st) hp) : mx_W l E M R mc ms K cells slots pc ls (.int y :: .int x :: st) hp :=
  fun p e s m args below meth c H locs lv C P S L => lv_ixor C.2.1 C.2.2.1 hd (k p e s m args below meth c H locs lv C P S L)
theorem mx_ishl {x y : Int32} (hd : decode M.2.1 pc = .ok (.ishl, 1)) (k : mx_W l E M R mc ms K cells slots (pc + 1) ls (.int (x <<< (y &&& 31)) :: st) hp) : mx_W l E M R mc ms K cells slots pc ls (.int y :: .int x :: st) hp :=
  fun p e s m args below meth c H locs lv C P S L => lv_ishl C.2.1 C.2.2.1 hd (k p e s m args below meth c H locs lv C P S L)
theorem mx_ishr {x y : Int32} (hd : decode M.2.1 pc = .ok (.ishr, 1)) (k : mx_W l E M R mc ms K cells slots (pc + 1) ls (.int (x >>> (y &&& 31)) :: st) hp) : mx_W l E M R mc ms K cells slots pc ls (.int y :: .int x :: st) hp :=
  fun p e s m args below meth c H locs lv C P S L => lv_ishr C.2.1 C.2.2.1 hd (k p e s m args below meth c H locs lv C P S L)
theorem mx_idiv {x y : Int32} (hd : decode M.2.1 pc = .ok (.idiv, 1)) (hy : ¬ y = 0) (k : mx_W l E M R mc ms K cells slots (pc + 1) ls (.int (x / y) :: st) hp) : mx_W l E M R mc ms K cells slots pc ls (.int y :: .int x :: st) hp :=
  fun p e s m args below meth c H locs lv C P S L => lv_idiv C.2.1 C.2.2.1 hd hy (k p e s m args below meth c H locs lv C P S L)
theorem mx_irem {x y : Int32} (hd : decode M.2.1 pc = .ok (.irem, 1)) (hy : ¬ y = 0) (k : mx_W l E M R mc ms K cells slots (pc + 1) ls (.int (x - x / y * y) :: st) hp) : mx_W l E M R mc ms K cells slots pc ls (.int y :: .int x :: st) hp :=
  fun p e s m args below meth c H locs lv C P S L => lv_irem C.2.1 C.2.2.1 hd hy (k p e s m args below meth c H locs lv C P S L)
theorem mx_ineg {x : Int32} (hd : decode M.2.1 pc = .ok (.ineg, 1)) (k : mx_W l E M R mc ms K cells slots (pc + 1) ls (.int (-x) :: st) hp) : mx_W l E M R mc ms K cells slots pc ls (.int x :: st) hp :=
  fun p e s m args below meth c H locs lv C P S L => lv_ineg C.2.1 C.2.2.1 hd (k p e s m args below meth c H locs lv C P S L)
theorem mx_iushr {x y : Int32} (hd : decode M.2.1 pc = .ok (.iushr, 1)) (k : mx_W l E M R mc ms K cells slots (pc + 1) ls (.int (x.toUInt32 >>> (y.toUInt32 &&& Int32.toUInt32 31)).toInt32 :: st) hp) : mx_W l E M R mc ms K cells slots pc ls (.int y :: .int x :: st) hp :=
  fun p e s m args below meth c H locs lv C P S L => lv_iushr C.2.1 C.2.2.1 hd rfl (k p e s m args below meth c H locs lv C P S L)
theorem mx_i2c {x : Int32} (hd : decode M.2.1 pc = .ok (.i2c, 1)) (k : mx_W l E M R mc ms K cells slots (pc + 1) ls (.int (x.toUInt32 % 65536).toInt32 :: st) hp) : mx_W l E M R mc ms K cells slots pc ls (.int x :: st) hp :=
  fun p e s m args below meth c H locs lv C P S L => lv_i2c C.2.1 C.2.2.1 hd rfl (k p e s m args below meth c H locs lv C P S L)
theorem mx_dup {a : Value} (hd : decode M.2.1 pc = .ok (.dup, 1)) (ha : a.category = 1) (k : mx_W l E M R mc ms K cells slots (pc + 1) ls (a :: a :: st) hp) : mx_W l E M R mc ms K cells slots pc ls (a :: st) hp :=
  fun p e s m args below meth c H locs lv C P S L => lv_dup C.2.1 C.2.2.1 hd (by rw [mx_v_cat]; exact ha) (k p e s m args below meth c H locs lv C P S L)
theorem mx_pop {a : Value} (hd : decode M.2.1 pc = .ok (.pop, 1)) (ha : a.category = 1) (k : mx_W l E M R mc ms K cells slots (pc + 1) ls st hp) : mx_W l E M R mc ms K cells slots pc ls (a :: st) hp :=
  fun p e s m args below meth c H locs lv C P S L => lv_pop C.2.1 C.2.2.1 hd (by rw [mx_v_cat]; exact ha) (k p e s m args below meth c H locs lv C P S L)
theorem mx_dup_x1 {a b : Value} (hd : decode M.2.1 pc = .ok (.dup_x1, 1)) (ha : a.category = 1) (hb : b.category = 1) (k : mx_W l E M R mc ms K cells slots (pc + 1) ls (a :: b :: a :: st) hp) : mx_W l E M R mc ms K cells slots pc ls (a :: b :: st) hp :=
  fun p e s m args below meth c H locs lv C P S L => lv_dup_x1 C.2.1 C.2.2.1 hd (by rw [mx_v_cat]; exact ha) (by rw [mx_v_cat]; exact hb) (k p e s m args below meth c H locs lv C P S L)
theorem mx_dup_x2 {a b d : Value} (hd : decode M.2.1 pc = .ok (.dup_x2, 1)) (ha : a.category = 1) (hb : b.category = 1) (hc : d.category = 1) (k : mx_W l E M R mc ms K cells slots (pc + 1) ls (a :: b :: d :: a :: st) hp) : mx_W l E M R mc ms K cells slots pc ls (a :: b :: d :: st) hp :=
  fun p e s m args below meth c H locs lv C P S L => lv_dup_x2 C.2.1 C.2.2.1 hd (by rw [mx_v_cat]; exact ha) (by rw [mx_v_cat]; exact hb) (by rw [mx_v_cat]; exact hc) (k p e s m args below meth c H locs lv C P S L)
theorem mx_dup2 {a b : Value} (hd : decode M.2.1 pc = .ok (.dup2, 1)) (ha : a.category = 1) (hb : b.category = 1) (k : mx_W l E M R mc ms K cells slots (pc + 1) ls (a :: b :: a :: b :: st) hp) : mx_W l E M R mc ms K cells slots pc ls (a :: b :: st) hp :=
  fun p e s m args below meth c H locs lv C P S L => lv_dup2_11 C.2.1 C.2.2.1 hd (by rw [mx_v_cat]; exact ha) (by rw [mx_v_cat]; exact hb) (k p e s m args below meth c H locs lv C P S L)
theorem mx_if_eq {x : Int32} {off : Int} {tgt : Nat} (hd : decode M.2.1 pc = .ok (.ifCond .eq off, 3)) (ht : (pc : Int) + off = (tgt : Int)) (kt : x = 0 → mx_W l E M R mc ms K cells slots tgt ls st hp) (kf : ¬ (x = 0) → mx_W l E M R mc ms K cells slots (pc + 3) ls st hp) : mx_W l E M R mc ms K cells slots pc ls (.int x :: st) hp :=
  fun p e s m args below meth c H locs lv C P S L => lv_if_eq C.2.1 C.2.2.1 hd ht (fun q => kt q p e s m args below meth c H locs lv C P S L) (fun q => kf q p e s m args below meth c H locs lv C P S L)
theorem mx_icmp_eq {x y : Int32} {off : Int} {tgt : Nat} (hd : decode M.2.1 pc = .ok (.if_icmp .eq off, 3)) (ht : (pc : Int) + off = (tgt : Int)) (kt : x = y → mx_W l E M R mc ms K cells slots tgt ls st hp) (kf : ¬ (x = y) → mx_W l E M R mc ms K cells slots (pc + 3) ls st hp) : mx_W l E M R mc ms K cells slots pc ls (.int y :: .int x :: st) hp :=
  fun p e s m args below meth c H locs lv C P S L => lv_icmp_eq C.2.1 C.2.2.1 hd ht (fun q => kt q p e s m args below meth c H locs lv C P S L) (fun q => kf q p e s m args below meth c H locs lv C P S L)
theorem mx_if_ne {x : Int32} {off : Int} {tgt : Nat} (hd : decode M.2.1 pc = .ok (.ifCond .ne off, 3)) (ht : (pc : Int) + off = (tgt : Int)) (kt : x ≠ 0 → mx_W l E M R mc ms K cells slots tgt ls st hp) (kf : x = 0 → mx_W l E M R mc ms K cells slots (pc + 3) ls st hp) : mx_W l E M R mc ms K cells slots pc ls (.int x :: st) hp :=
  fun p e s m args below meth c H locs lv C P S L => lv_if_ne C.2.1 C.2.2.1 hd ht (fun q => kt q p e s m args below meth c H locs lv C P S L) (fun q => kf q p e s m args below meth c H locs lv C P S L)
theorem mx_icmp_ne {x y : Int32} {off : Int} {tgt : Nat} (hd : decode M.2.1 pc = .ok (.if_icmp .ne off, 3)) (ht : (pc : Int) + off = (tgt : Int)) (kt : x ≠ y → mx_W l E M R mc ms K cells slots tgt ls st hp) (kf : x = y → mx_W l E M R mc ms K cells slots (pc + 3) ls st hp) : mx_W l E M R mc ms K cells slots pc ls (.int y :: .int x :: st) hp :=
  fun p e s m args below meth c H locs lv C P S L => lv_icmp_ne C.2.1 C.2.2.1 hd ht (fun q => kt q p e s m args below meth c H locs lv C P S L) (fun q => kf q p e s m args below meth c H locs lv C P S L)
theorem mx_if_lt {x : Int32} {off : Int} {tgt : Nat} (hd : decode M.2.1 pc = .ok (.ifCond .lt off, 3)) (ht : (pc : Int) + off = (tgt : Int)) (kt : x < 0 → mx_W l E M R mc ms K cells slots tgt ls st hp) (kf : ¬ (x < 0) → mx_W l E M R mc ms K cells slots (pc + 3) ls st hp) : mx_W l E M R mc ms K cells slots pc ls (.int x :: st) hp :=
  fun p e s m args below meth c H locs lv C P S L => lv_if_lt C.2.1 C.2.2.1 hd ht (fun q => kt q p e s m args below meth c H locs lv C P S L) (fun q => kf q p e s m args below meth c H locs lv C P S L)
theorem mx_icmp_lt {x y : Int32} {off : Int} {tgt : Nat} (hd : decode M.2.1 pc = .ok (.if_icmp .lt off, 3)) (ht : (pc : Int) + off = (tgt : Int)) (kt : x < y → mx_W l E M R mc ms K cells slots tgt ls st hp) (kf : ¬ (x < y) → mx_W l E M R mc ms K cells slots (pc + 3) ls st hp) : mx_W l E M R mc ms K cells slots pc ls (.int y :: .int x :: st) hp :=
  fun p e s m args below meth c H locs lv C P S L => lv_icmp_lt C.2.1 C.2.2.1 hd ht (fun q => kt q p e s m args below meth c H locs lv C P S L) (fun q => kf q p e s m args below meth c H locs lv C P S L)
theorem mx_if_ge {x : Int32} {off : Int} {tgt : Nat} (hd : decode M.2.1 pc = .ok (.ifCond .ge off, 3)) (ht : (pc : Int) + off = (tgt : Int)) (kt : 0 ≤ x → mx_W l E M R mc ms K cells slots tgt ls st hp) (kf : ¬ (0 ≤ x) → mx_W l E M R mc ms K cells slots (pc + 3) ls st hp) : mx_W l E M R mc ms K cells slots pc ls (.int x :: st) hp :=
  fun p e s m args below meth c H locs lv C P S L => lv_if_ge C.2.1 C.2.2.1 hd ht (fun q => kt q p e s m args below meth c H locs lv C P S L) (fun q => kf q p e s m args below meth c H locs lv C P S L)
theorem mx_icmp_ge {x y : Int32} {off : Int} {tgt : Nat} (hd : decode M.2.1 pc = .ok (.if_icmp .ge off, 3)) (ht : (pc : Int) + off = (tgt : Int)) (kt : y ≤ x → mx_W l E M R mc ms K cells slots tgt ls st hp) (kf : ¬ (y ≤ x) → mx_W l E M R mc ms K cells slots (pc + 3) ls st hp) : mx_W l E M R mc ms K cells slots pc ls (.int y :: .int x :: st) hp :=
  fun p e s m args below meth c H locs lv C P S L => lv_icmp_ge C.2.1 C.2.2.1 hd ht (fun q => kt q p e s m args below meth c H locs lv C P S L) (fun q => kf q p e s m args below meth c H locs lv C P S L)
theorem mx_if_gt {x : Int32} {off : Int} {tgt : Nat} (hd : decode M.2.1 pc = .ok (.ifCond .gt off, 3)) (ht : (pc : Int) + off = (tgt : Int)) (kt : 0 < x → mx_W l E M R mc ms K cells slots tgt ls st hp) (kf : ¬ (0 < x) → mx_W l E M R mc ms K cells slots (pc + 3) ls st hp) : mx_W l E M R mc ms K cells slots pc ls (.int x :: st) hp :=
  fun p e s m args below meth c H locs lv C P S L => lv_if_gt C.2.1 C.2.2.1 hd ht (fun q => kt q p e s m args below meth c H locs lv C P S L) (fun q => kf q p e s m args below meth c H locs lv C P S L)
theorem mx_icmp_gt {x y : Int32} {off : Int} {tgt : Nat} (hd : decode M.2.1 pc = .ok (.if_icmp .gt off, 3)) (ht : (pc : Int) + off = (tgt : Int)) (kt : y < x → mx_W l E M R mc ms K cells slots tgt ls st hp) (kf : ¬ (y < x) → mx_W l E M R mc ms K cells slots (pc + 3) ls st hp) : mx_W l E M R mc ms K cells slots pc ls (.int y :: .int x :: st) hp :=
  fun p e s m args below meth c H locs lv C P S L => lv_icmp_gt C.2.1 C.2.2.1 hd ht (fun q => kt q p e s m args below meth c H locs lv C P S L) (fun q => kf q p e s m args below meth c H locs lv C P S L)
theorem mx_if_le {x : Int32} {off : Int} {tgt : Nat} (hd : decode M.2.1 pc = .ok (.ifCond .le off, 3)) (ht : (pc : Int) + off = (tgt : Int)) (kt : x ≤ 0 → mx_W l E M R mc ms K cells slots tgt ls st hp) (kf : ¬ (x ≤ 0) → mx_W l E M R mc ms K cells slots (pc + 3) ls st hp) : mx_W l E M R mc ms K cells slots pc ls (.int x :: st) hp :=
  fun p e s m args below meth c H locs lv C P S L => lv_if_le C.2.1 C.2.2.1 hd ht (fun q => kt q p e s m args below meth c H locs lv C P S L) (fun q => kf q p e s m args below meth c H locs lv C P S L)
theorem mx_icmp_le {x y : Int32} {off : Int} {tgt : Nat} (hd : decode M.2.1 pc = .ok (.if_icmp .le off, 3)) (ht : (pc : Int) + off = (tgt : Int)) (kt : x ≤ y → mx_W l E M R mc ms K cells slots tgt ls st hp) (kf : ¬ (x ≤ y) → mx_W l E M R mc ms K cells slots (pc + 3) ls st hp) : mx_W l E M R mc ms K cells slots pc ls (.int y :: .int x :: st) hp :=
  fun p e s m args below meth c H locs lv C P S L => lv_icmp_le C.2.1 C.2.2.1 hd ht (fun q => kt q p e s m args below meth c H locs lv C P S L) (fun q => kf q p e s m args below meth c H locs lv C P S L)
theorem mx_goto {off : Int} {tgt : Nat} (hd : decode M.2.1 pc = .ok (.goto off, 3)) (ht : (pc : Int) + off = (tgt : Int)) (k : mx_W l E M R mc ms K cells slots tgt ls st hp) : mx_W l E M R mc ms K cells slots pc ls st hp :=
  fun p e s m args below meth c H locs lv C P S L => lv_goto C.2.1 C.2.2.1 hd ht (k p e s m args below meth c H locs lv C P S L)
theorem mx_tableOut {dflt lo hi : Int} {offs : Array Int} {len : Nat} {x : Int32} {tgt : Nat} (hd : decode M.2.1 pc = .ok (.tableswitch dflt lo hi offs, len)) (h : x.toInt < lo ∨ hi < x.toInt) (ht : (pc : Int) + dflt = (tgt : Int)) (k : mx_W l E M R mc ms K cells slots tgt ls st hp) : mx_W l E M R mc ms K cells slots pc ls (.int x :: st) hp :=
  fun p e s m args below meth c H locs lv C P S L => lv_tableOut C.2.1 C.2.2.1 hd h ht (k p e s m args below meth c H locs lv C P S L)
theorem mx_tableIn {dflt lo hi : Int} {offs : Array Int} {len : Nat} {x : Int32} {off : Int} {tgt : Nat} (hd : decode M.2.1 pc = .ok (.tableswitch dflt lo hi offs, len)) (h1 : ¬ x.toInt < lo) (h2 : ¬ hi < x.toInt) (ho : offs[(x.toInt - lo).toNat]? = some off) (ht : (pc : Int) + off = (tgt : Int)) (k : mx_W l E M R mc ms K cells slots tgt ls st hp) : mx_W l E M R mc ms K cells slots pc ls (.int x :: st) hp :=
  fun p e s m args below meth c H locs lv C P S L => lv_tableIn C.2.1 C.2.2.1 hd h1 h2 ho ht (k p e s m args below meth c H locs lv C P S L)
/-- what is known of a sort of objects by its number -/
def mx_cl (ci : Nat) (C : String) (T : u_T) (N : Nat) (ty : Nat → FieldType) : Prop := vwCl[ci]? = some (C, T, N) ∧ (∀ w ∈ u_ws C T N, w ∈ mx_tb) ∧ (∀ k, k < N → parseFieldDescriptor (T k).2.2.1 = some (ty k)) ∧ (∀ a, a < N → ∀ b, b < N → a ≠ b → (T a).2.1 ≠ (T b).2.1)
theorem mx_getfield {index i ci k N : Nat} {C : String} {T : u_T} {ty : Nat → FieldType} {fs : List Value} {v : Value} (hd : decode M.2.1 pc = .ok (.getfield index, 3)) (hc : mx_cl ci C T N ty) (hw : Cond.fieldLink M.1.cls index (T k).1 (T k).2.1 (T k).2.2.1 ∈ mx_tb) (hk : k < N) (hi : hp[i]? = some (.inr (ci, fs))) (hv : fs[k]? = some v) (kk : mx_W l E M R mc ms K cells slots (pc + 3) ls (v :: st) hp) : mx_W l E M R mc ms K cells slots pc ls (.ref i :: st) hp :=
  fun p e s m args below meth c H locs lv C0 P S L => va_get (own := M.1.cls) C0.2.1 C0.2.2.1 C0.2.2.2.2.2.2.2.2.1 hc.2.1 C0.2.2.2.2.2.2.2.1 C0.2.2.2.2.2.2.2.2.2.1 P.1 i (mx_w_at hi) hc.1 k hk (C0.2.2.2.2.2.2.2.2.1 _ hw) (fun _ h => h) (by rw [List.getElem?_map, hv]; rfl) hd (kk p e s m args below meth c H locs lv C0 P S L)
theorem mx_C.kn {p : Program} {s : State} {m : MethodId} {args : Array Value} {meth : Method} {c : Code} (C0 : mx_C E M p s m args meth c) : mx_K E s := C0.2.2.2.2.2.2.2.2.2.1
theorem mx_C.ts {p : Program} {s : State} {m : MethodId} {args : Array Value} {meth : Method} {c : Code} (C0 : mx_C E M p s m args meth c) : ∀ w ∈ mx_tb, w.before args s = true := C0.2.2.2.2.2.2.2.2.1
theorem mx_C.own {p : Program} {s : State} {m : MethodId} {args : Array Value} {meth : Method} {c : Code} (C0 : mx_C E M p s m args meth c) : s.vm.findClass M.1.cls = some m.cls := C0.2.2.2.2.2.2.2.1
theorem mx_C.nm {p : Program} {s : State} {m : MethodId} {args : Array Value} {meth : Method} {c : Code} (C0 : mx_C E M p s m args meth c) : M.1.name = "<init>" → meth.name = "<init>" := C0.2.2.2.2.2.2.1
theorem mx_putfield {index i ci k N : Nat} {C : String} {T : u_T} {ty : Nat → FieldType} {fs : List Value} {v : Value} (hd : decode M.2.1 pc = .ok (.putfield index, 3)) (hc : mx_cl ci C T N ty) (hw : Cond.fieldLink M.1.cls index (T k).1 (T k).2.1 (T k).2.2.1 ∈ mx_tb) (hk : k < N) (hf : (T k).2.2.2 = false ∨ ((T k).2.2.2 = true ∧ M.1.name = "<init>" ∧ (T k).1 = M.1.cls)) (hi : hp[i]? = some (.inr (ci, fs))) (hl : k < fs.length) (hn : narrow (ty k) (mx_v E.1 v) = mx_v E.1 v) (ht : fits (ty k) (mx_v E.1 v) = true) (kk : mx_W l E M R mc ms K cells slots (pc + 3) ls st (hp.set i (.inr (ci, fs.set k v)))) : mx_W l E M R mc ms K cells slots pc ls (v :: .ref i :: st) hp :=
  fun p e s m args below meth c H locs lv C0 P S L => by
    have hD := P.D C0.1
    have hwi := mx_w_at (r := E.1) (cA := E.2.1) hi
    have kk2 : ∀ (H1 : Heap) (locs1 : List Loc), va_P (E.2.2.1, E.2.2.2.1) vwCl ((mx_w E.1 E.2.1 hp).set i (E.1 i, .inr (ci, (fs.map (mx_v E.1)).set k (mx_v E.1 v)))) H1 → H1.size = H.size → va_S (mx_A E) s.heap H1 locs1 → W p l e R s m args below meth c H1 locs1 cells slots (MQ below (mx_Q E K) args s mc ms (mx_A E)) (F0 m (pc + 3) lv (st.map (mx_v E.1))) := by
      intro H1 locs1 hP hz hS
      have e1 : (mx_w E.1 E.2.1 hp).set i (E.1 i, .inr (ci, (fs.map (mx_v E.1)).set k (mx_v E.1 v))) = mx_w E.1 E.2.1 (hp.set i (.inr (ci, fs.set k v))) := by
        rw [← mx_w_set]
        simp [mx_e, List.map_set]
      rw [e1] at hP
      exact kk p e s m args below meth c H1 locs1 lv C0 ⟨hP, by rw [hz, List.length_set]; exact P.2.1, by rw [List.length_set]; exact P.2.2⟩ hS L
    have hap := va_apart (own := M.1.cls) C0.ts hc.2.1 ty hc.2.2.1 hc.2.2.2 C0.kn hc.1
    obtain ⟨r0, h1, cell, q1, q2, q3, q4⟩ := P.1 i _ hwi
    have hr : r0 = (C, T, N) := Option.some.inj (h1.symm.trans hc.1)
    subst hr
    obtain ⟨hSl, hfc, kC, hkC, hkind⟩ := C0.kn.1 ci _ hc.1
    obtain ⟨cf, kf, fi, f, hfi, hsl⟩ := hSl k hk
    have hlay := C0.ts _ (hc.2.1 _ (u_in_lay hk))
    have hst := (u_facts hfc hkC (u_lays C0.ts hc.2.1 hk) hfi).1
    have fin : ∀ (H' : Heap), H'[E.1 i]? = some (cell.setSlot f.slot (mx_v E.1 v)) → H'.size = H.size → (∀ q, q ≠ E.1 i → H'[q]? = H[q]?) → W p l e R s m args below meth c H' (locs ++ [⟨E.1 i, f.slot⟩]) cells slots (MQ below (mx_Q E K) args s mc ms (mx_A E)) (F0 m (pc + 3) lv (st.map (mx_v E.1))) := by
      intro H' e1 e2 e3
      rw [hsl] at e1 ⊢
      exact kk2 H' _ (P.1.set hD hwi ⟨_, hc.1, t_OB.to (V := updV (vp_V (fs.map (mx_v E.1))) k (mx_v E.1 v)) ⟨_, e1, q2, q3, t_set q4 hap hk (mx_v E.1 v)⟩ (fun j _ => vp_updV_set (by rw [List.length_map]; exact hl) (mx_v E.1 v) j)⟩ e3) e2 (S.put e2 e3 (hD.2 i _ hwi))
    unfold u_lay at hlay
    rcases hf with hf | ⟨hf, hin2, hdecl⟩
    · rw [if_neg (by rw [hf]; decide)] at hlay
      have h6 := u_store hfc hkC hkind hlay hfi (hc.2.2.1 k hk) hn ht
      exact W.putK (own := M.1.cls) C0.2.1 C0.2.2.1 (f := f) ⟨C0.own, C0.ts _ hw, ⟨_, _, _, hfi⟩, hst⟩ (by rw [q2]; exact h6) q1 q3 (by rw [hsl]; exact k2_hasslot (q4 k hk)) rfl rfl hd fin
    · rw [if_pos hf] at hlay
      have hcf : m.cls = cf := by
        obtain ⟨_, _, c', _, _, _, -, -, hf', -, -, -, hown2, -⟩ := Cond.laysFinal_spec hlay
        have e1 : c' = cf := by have := hfi.symm.trans hf'; simp at this; exact this.1.symm
        rw [hdecl] at hown2
        rw [← e1]; exact Option.some.inj (C0.own.symm.trans hown2)
      have h6 := u_fits hfc hkC hkind (Or.inr hlay) hfi (hc.2.2.1 k hk) hn ht
      exact W.putFinK (own := M.1.cls) C0.2.1 C0.2.2.1 C0.own (C0.ts _ hw) hfi hst hcf (C0.nm hin2) (by rw [q2]; exact h6) q1 q3 (by rw [hsl]; exact k2_hasslot (q4 k hk)) rfl rfl hd fin
theorem mx_iaload {i n : Nat} {f : Nat → Int32} {j : Int32} (hd : decode M.2.1 pc = .ok (.iaload, 1)) (hi : hp[i]? = some (.inl (0, n, .inl f))) (hj : vp_in j n) (kk : mx_W l E M R mc ms K cells slots (pc + 1) ls (.int (f j.toNatClampNeg) :: st) hp) : mx_W l E M R mc ms K cells slots pc ls (.int j :: .ref i :: st) hp :=
  fun p e s m args below meth c H locs lv C0 P S L => va_iald C0.2.1 C0.2.2.1 C0.kn P.1 i 0 (mx_w_at hi) rfl hj hd (kk p e s m args below meth c H locs lv C0 P S L)
theorem mx_zaload {i n : Nat} {f : Nat → Int32} {j : Int32} (hd : decode M.2.1 pc = .ok (.baload, 1)) (hi : hp[i]? = some (.inl (1, n, .inl f))) (hj : vp_in j n) (kk : mx_W l E M R mc ms K cells slots (pc + 1) ls (.int (f j.toNatClampNeg) :: st) hp) : mx_W l E M R mc ms K cells slots pc ls (.int j :: .ref i :: st) hp :=
  fun p e s m args below meth c H locs lv C0 P S L => va_zald C0.2.1 C0.2.2.1 C0.kn P.1 i 1 (mx_w_at hi) rfl hj hd (kk p e s m args below meth c H locs lv C0 P S L)
theorem mx_alen {i t n : Nat} {a : vp_A} (hd : decode M.2.1 pc = .ok (.arraylength, 1)) (hi : hp[i]? = some (.inl (t, a))) (ht : t < 3) (kk : mx_W l E M R mc ms K cells slots (pc + 1) ls (.int (Int32.ofNat a.1) :: st) hp) : mx_W l E M R mc ms K cells slots pc ls (.ref i :: st) hp :=
  fun p e s m args below meth c H locs lv C0 P S L => by
    have hw := mx_w_at (r := E.1) (cA := E.2.1) hi
    have hg := kk p e s m args below meth c H locs lv C0 P S L
    match t, ht, hw with
    | 0, _, hw => exact va_alen C0.2.1 C0.2.2.1 C0.kn P.1 i 0 hw (ty := .int) rfl rfl hd hg
    | 1, _, hw => exact va_alen C0.2.1 C0.2.2.1 C0.kn P.1 i 1 hw (ty := .boolean) rfl rfl hd hg
    | 2, _, hw => exact va_alen C0.2.1 C0.2.2.1 C0.kn P.1 i 2 hw (ty := .byte) rfl rfl hd hg
theorem mx_iastore {i n : Nat} {f : Nat → Int32} {j x : Int32} (hd : decode M.2.1 pc = .ok (.iastore, 1)) (hi : hp[i]? = some (.inl (0, n, .inl f))) (hj : vp_in j n) (kk : mx_W l E M R mc ms K cells slots (pc + 1) ls st (hp.set i (.inl (0, n, .inl (upd f j.toNatClampNeg x))))) : mx_W l E M R mc ms K cells slots pc ls (.int x :: .int j :: .ref i :: st) hp :=
  fun p e s m args below meth c H locs lv C0 P S L => by
    have hD := P.D C0.1
    have hwi := mx_w_at (r := E.1) (cA := E.2.1) hi
    refine W.iast C0.2.1 C0.2.2.1 (P.1 i _ hwi) ((C0.kn.2 0 _ rfl).1 n (fun j => .int (f j))) (fun q => by cases q) (by show ¬ (j < 0 ∨ (arrV _ _ _).slots.size ≤ _); rw [arrV_size]; exact hj) rfl rfl hd fun H1 e1 z oq => ?_
    have hP := P.1.set (e := .inl (E.2.1 0, n, .inl (upd f j.toNatClampNeg x))) hD hwi (H1 := H1) (by
      show H1[E.1 i]? = some (vp_cell _ _)
      rw [e1]
      show some ((vp_cell (E.2.1 0) (n, .inl f)).setSlot _ _) = _
      rw [vp_cell_i, vp_cell_i, arrV_store]
      congr 2
      funext q
      by_cases hq : q = j.toNatClampNeg
      · subst hq
        simp [updV, upd, vp_nar]
        try rfl
      · simp [updV, upd, hq]) oq
    rw [show (E.1 i, (Sum.inl (E.2.1 0, n, .inl (upd f j.toNatClampNeg x)) : va_E)) = (E.1 i, mx_e E.1 E.2.1 (.inl (0, n, .inl (upd f j.toNatClampNeg x)))) from rfl, mx_w_set] at hP
    exact kk p e s m args below meth c H1 _ lv C0 ⟨hP, by rw [z, List.length_set]; exact P.2.1, by rw [List.length_set]; exact P.2.2⟩ (S.put z oq (hD.2 i _ hwi)) L
theorem mx_zastore {i n : Nat} {f : Nat → Int32} {j x : Int32} (hd : decode M.2.1 pc = .ok (.bastore, 1)) (hi : hp[i]? = some (.inl (1, n, .inl f))) (hj : vp_in j n) (kk : mx_W l E M R mc ms K cells slots (pc + 1) ls st (hp.set i (.inl (1, n, .inl (upd f j.toNatClampNeg (vp_nar .boolean x)))))) : mx_W l E M R mc ms K cells slots pc ls (.int x :: .int j :: .ref i :: st) hp :=
  fun p e s m args below meth c H locs lv C0 P S L => by
    have hD := P.D C0.1
    have hwi := mx_w_at (r := E.1) (cA := E.2.1) hi
    refine W.zast C0.2.1 C0.2.2.1 (P.1 i _ hwi) ((C0.kn.2 1 _ rfl).1 n (fun j => .int (f j))) (fun q => by cases q) (by show ¬ (j < 0 ∨ (arrV _ _ _).slots.size ≤ _); rw [arrV_size]; exact hj) rfl rfl hd fun H1 e1 z oq => ?_
    have hP := P.1.set (e := .inl (E.2.1 1, n, .inl (upd f j.toNatClampNeg (vp_nar .boolean x)))) hD hwi (H1 := H1) (by
      show H1[E.1 i]? = some (vp_cell _ _)
      rw [e1]
      show some ((vp_cell (E.2.1 1) (n, .inl f)).setSlot _ _) = _
      rw [vp_cell_i, vp_cell_i, arrV_store]
      congr 2
      funext q
      by_cases hq : q = j.toNatClampNeg
      · subst hq
        simp [updV, upd, vp_nar]
        try rfl
      · simp [updV, upd, hq]) oq
    rw [show (E.1 i, (Sum.inl (E.2.1 1, n, .inl (upd f j.toNatClampNeg (vp_nar .boolean x))) : va_E)) = (E.1 i, mx_e E.1 E.2.1 (.inl (1, n, .inl (upd f j.toNatClampNeg (vp_nar .boolean x))))) from rfl, mx_w_set] at hP
    exact kk p e s m args below meth c H1 _ lv C0 ⟨hP, by rw [z, List.length_set]; exact P.2.1, by rw [List.length_set]; exact P.2.2⟩ (S.put z oq (hD.2 i _ hwi)) L
theorem mx_P.push {hp : List va_E} {H H1 : Heap} {x : va_E} (hE : mx_ok E) (P : mx_P E hp H) (hl : hp.length < 600000) (z : H1.size = H.size + 1) (o : ∀ q, q < H.size → H1[q]? = H[q]?) (hx : va_at (E.2.2.1, E.2.2.2.1) vwCl (H.size, mx_e E.1 E.2.1 x) H1) : mx_P E (hp ++ [x]) H1 := by
  refine ⟨?_, by rw [z, P.2.1, List.length_append]; rfl, by rw [List.length_append]; exact hl⟩
  rw [← mx_w_push]
  have hr : E.1 hp.length = H.size := by rw [hE.1 _ (by omega), P.2.1]
  rw [hr]
  refine (P.1.kept (fun k q hk => o q.1 ((P.1 k q hk).lt))).app (fun k q hk => ?_)
  have hz : k < 1 := (List.getElem?_eq_some_iff.mp hk).1
  rw [show k = 0 by omega] at hk
  cases hk
  exact hx
theorem mx_S.push {A : Nat → Prop} {H0 H H1 : Heap} {locs : List Loc} (S : va_S A H0 H locs) (z : H1.size = H.size + 1) (o : ∀ q, q < H.size → H1[q]? = H[q]?) : va_S A H0 H1 locs :=
  ⟨Nat.le_trans S.1 (by omega), fun q h1 h2 => (o q (Nat.lt_of_lt_of_le h1 S.1)).trans (S.2.1 q h1 h2), S.2.2⟩
theorem mx_new {index ci N : Nat} {C : String} {T : u_T} {ty : Nat → FieldType} {fs : List Value} (hd : decode M.2.1 pc = .ok (.new index, 3)) (hc : mx_cl ci C T N ty) (hw : Cond.classLink M.1.cls index C ∈ mx_tb) (hw2 : Cond.instantiable C N ∈ mx_tb) (hw3 : Cond.initialized C ∈ mx_tb) (hfs : ∀ j, j < N → defaultValue (ty j) = vp_V (fs.map (mx_v E.1)) j) (hcells : cells + 1 ≤ R.cells) (hslots : slots + N ≤ R.slots) (hl : hp.length < 600000) (kk : mx_W l E M R mc ms K (cells + 1) (slots + N) (pc + 3) ls (.ref hp.length :: st) (hp ++ [.inr (ci, fs)])) : mx_W l E M R mc ms K cells slots pc ls st hp :=
  fun p e s m args below meth c H locs lv C0 P S L => by
    have hKn := C0.kn.1 ci _ hc.1
    refine W.newcK (own := M.1.cls) C0.2.1 C0.2.2.1 C0.own (C0.ts _ hw) (C0.ts _ hw2) (C0.ts _ hw3) rfl hd hcells hslots hKn.2.1 rfl fun H1 kC hkC e1 z1 o1 => ?_
    have hr : E.1 hp.length = H.size := by rw [C0.1.1 _ (by omega), P.2.1]
    have hg := kk p e s m args below meth c H1 locs lv C0 (mx_P.push (x := .inr (ci, fs)) C0.1 P hl z1 o1 ⟨_, hc.1, (u_born ty C0.ts hc.2.1 hKn hkC e1 hc.2.2.1).to hfs⟩) (mx_S.push S z1 o1) L
    rw [List.map_cons, show mx_v E.1 (.ref hp.length) = .ref H.size from congrArg Value.ref hr] at hg
    exact hg
theorem mx_newi {n : Int32} {N : Nat} (hd : decode M.2.1 pc = .ok (.newarray .int, 2)) (hw : Cond.arrayClass .int ∈ mx_tb) (hn : ¬ n < 0) (hN : n.toNatClampNeg = N) (hb : N ≤ 1000000) (hcells : cells + 1 ≤ R.cells) (hslots : slots + N ≤ R.slots) (hl : hp.length < 600000) (kk : mx_W l E M R mc ms K (cells + 1) (slots + N) (pc + 2) ls (.ref hp.length :: st) (hp ++ [.inl (0, N, .inl (fun _ => 0))])) : mx_W l E M R mc ms K cells slots pc ls (.int n :: st) hp :=
  fun p e s m args below meth c H locs lv C0 P S L => by
    refine va_newaK C0.2.1 C0.2.2.1 (atype := .int) (C0.ts _ hw) rfl hd rfl hn hN (by show N * 4 ≤ _; omega) hcells hslots rfl fun H1 cA e1 z1 o1 hAr hNm => ?_
    have hr : E.1 hp.length = H.size := by rw [C0.1.1 _ (by omega), P.2.1]
    have hcA : cA = E.2.1 0 := Option.some.inj (hNm.symm.trans (C0.kn.2 0 _ rfl).2)
    have hg := kk p e s m args below meth c H1 locs lv C0 (mx_P.push (x := .inl (0, N, .inl (fun _ => 0))) C0.1 P hl z1 o1 (by rw [← hr] at e1; show H1[H.size]? = _; rw [← hr, e1, hcA]; rfl)) (mx_S.push S z1 o1) L
    rw [List.map_cons, show mx_v E.1 (.ref hp.length) = .ref H.size from congrArg Value.ref hr] at hg
    exact hg
theorem mx_newz {n : Int32} {N : Nat} (hd : decode M.2.1 pc = .ok (.newarray .boolean, 2)) (hw : Cond.arrayClass .boolean ∈ mx_tb) (hn : ¬ n < 0) (hN : n.toNatClampNeg = N) (hb : N ≤ 1000000) (hcells : cells + 1 ≤ R.cells) (hslots : slots + N ≤ R.slots) (hl : hp.length < 600000) (kk : mx_W l E M R mc ms K (cells + 1) (slots + N) (pc + 2) ls (.ref hp.length :: st) (hp ++ [.inl (1, N, .inl (fun _ => 0))])) : mx_W l E M R mc ms K cells slots pc ls (.int n :: st) hp :=
  fun p e s m args below meth c H locs lv C0 P S L => by
    refine va_newaK C0.2.1 C0.2.2.1 (atype := .boolean) (C0.ts _ hw) rfl hd rfl hn hN (by show N * 1 ≤ _; omega) hcells hslots rfl fun H1 cA e1 z1 o1 hAr hNm => ?_
    have hr : E.1 hp.length = H.size := by rw [C0.1.1 _ (by omega), P.2.1]
    have hcA : cA = E.2.1 1 := Option.some.inj (hNm.symm.trans (C0.kn.2 1 _ rfl).2)
    have hg := kk p e s m args below meth c H1 locs lv C0 (mx_P.push (x := .inl (1, N, .inl (fun _ => 0))) C0.1 P hl z1 o1 (by rw [← hr] at e1; show H1[H.size]? = _; rw [← hr, e1, hcA]; rfl)) (mx_S.push S z1 o1) L
    rw [List.map_cons, show mx_v E.1 (.ref hp.length) = .ref H.size from congrArg Value.ref hr] at hg
    exact hg
theorem mx_end {hp : List va_E} {H : Heap} {s t : State} {args : Array Value} {locs : List Loc} {v : Option Value} (hK : K v hp) (P : mx_P E hp H) (S : va_S (mx_A E) s.heap H locs) (ht : t.heap = H) : mx_Q E K args s (.returned (v.map (mx_v E.1))) t := ⟨⟨v, hp, rfl, hK, by rw [ht]; exact P⟩, S.F ht⟩
theorem mx_ireturn {v : Int32} (hd : decode M.2.1 pc = .ok (.ireturn, 1)) (hr : M.2.2.2 = some .int ∨ (M.2.2.2 = some .boolean ∧ (v = 0 ∨ v = 1))) (hc : cells ≤ mc) (hs : slots ≤ ms) (hK : K (some (.int v)) hp) : mx_W l E M R mc ms K cells slots pc ls [.int v] hp :=
  fun p e s m args below meth c H locs lv C0 P S L => W.widen hc hs (by
    have hlocks := C0.2.2.2.2.2.1
    rcases hr with hr | ⟨hr, hv⟩
    · exact W.iret C0.2.1 C0.2.2.1 (C0.2.2.2.2.1.trans hr) (fun t ht hW => mx_end hK P S ht) S.2.2 hd hlocks
    · exact W.zret C0.2.1 C0.2.2.1 (C0.2.2.2.2.1.trans hr) (by rcases hv with rfl | rfl <;> rfl) (fun t ht hW => mx_end hK P S ht) S.2.2 hd hlocks)
theorem mx_return (hd : decode M.2.1 pc = .ok (.return_, 1)) (hr : M.2.2.2 = none) (hc : cells ≤ mc) (hs : slots ≤ ms) (hK : K none hp) : mx_W l E M R mc ms K cells slots pc ls [] hp :=
  fun p e s m args below meth c H locs lv C0 P S L => W.widen hc hs (W.vret C0.2.1 C0.2.2.1 (C0.2.2.2.2.1.trans hr) (fun t ht hW => mx_end hK P S ht) S.2.2 hd C0.2.2.2.2.2.1)
theorem mx_sld {j : Int32} (hd : decode M.2.1 pc = .ok (.iaload, 1)) (hj : vp_in j E.2.2.2.2.2.2.1) (kk : mx_W l E M R mc ms K cells slots (pc + 1) ls (.int (E.2.2.2.2.2.2.2 j.toNatClampNeg) :: st) hp) : mx_W l E M R mc ms K cells slots pc ls (.int j :: .ref 1000000 :: st) hp :=
  fun p e s m args below meth c H locs lv C0 P S L => by
    have hX := C0.2.2.2.2.2.2.2.2.2.2.2
    have hg := va_sld C0.2.1 C0.2.2.1 hX (Nat.lt_of_lt_of_le C0.1.2.1 C0.2.2.2.2.2.2.2.2.2.2.1) (Nat.not_le.mpr C0.1.2.1) S hj hd (kk p e s m args below meth c H locs lv C0 P S L)
    rw [← C0.1.2.2.1] at hg
    exact hg
theorem mx_slen (hd : decode M.2.1 pc = .ok (.arraylength, 1)) (kk : mx_W l E M R mc ms K cells slots (pc + 1) ls (.int (Int32.ofNat E.2.2.2.2.2.2.1) :: st) hp) : mx_W l E M R mc ms K cells slots pc ls (.ref 1000000 :: st) hp :=
  fun p e s m args below meth c H locs lv C0 P S L => by
    have hX := C0.2.2.2.2.2.2.2.2.2.2.2
    have hg := va_slen C0.2.1 C0.2.2.1 hX (Nat.lt_of_lt_of_le C0.1.2.1 C0.2.2.2.2.2.2.2.2.2.2.1) (Nat.not_le.mpr C0.1.2.1) S hd (kk p e s m args below meth c H locs lv C0 P S L)
    rw [← C0.1.2.2.1] at hg
    exact hg
end MX
end
section
/-! ===== CONTRACTS AND CALLS of the pure machine ===== -/
/-- a method's words -/
def mx_ws (M : mx_Me) : List Cond := .code M.1 M.2.1 M.2.2.1 M.2.2.2 :: mx_tb
/-- a method's contract: from the world hp with these arguments it returns, and K holds of answer and world -/
def mx_M (l : Launch) (E : mx_Ev) (M : mx_Me) (rm : Room) (av : List Value) (hp : List va_E) (K : Option Value → List va_E → Prop) : Prop :=
  Met l M.1 (mx_ws M) rm (va_Pc (av.map (mx_v E.1)) (fun U => mx_P E hp U.heap ∧ mx_K E U ∧ va_X E.2.2.2.2.2.1 E.2.2.2.2.2.2.1 E.2.2.2.2.2.2.2 U U.heap)) (mx_Q E K) rm.cells rm.slots (mx_A E)
/-- what the tables say of a method -/
def mx_me (M : mx_Me) (n : Nat) : Prop := Cond.code M.1 M.2.1 M.2.2.1 M.2.2.2 ∈ mx_tb ∧ Cond.initialized M.1.cls ∈ mx_tb ∧ plainName M.1.cls = true ∧ (M.1.cls ≠ "java/lang/invoke/MethodHandle" ∧ M.1.cls ≠ "java/lang/invoke/VarHandle" ∧ (parseMethodDescriptor M.1.desc).map (fun d => d.parameters.length) = some n)
theorem mx_goodIn {M : mx_Me} (h : Cond.code M.1 M.2.1 M.2.2.1 M.2.2.2 ∈ mx_tb) : GoodIn mx_tb (mx_ws M) := by
  intro w hw
  have hm : w ∈ mx_tb := by
    rcases List.mem_cons.mp hw with rfl | hw
    · exact h
    · exact hw
  exact ⟨hm, good_of_word (List.mem_filter.mp hm).2⟩
theorem mx_args (r : Nat → Nat) : ∀ (vs : List Value) (k : Nat), lv_args k (vs.map (mx_v r)) = (lv_args k vs).map (fun q => (q.1, mx_v r q.2))
  | [], _ => rfl
  | v :: vs, k => by
    simp only [List.map_cons, lv_args, mx_v_cat]
    rw [mx_args r vs]
theorem mx_sl_len (r : Nat → Nat) : ∀ av : List Value, (lg_sl (av.map (mx_v r))).length = (lg_sl av).length
  | [] => rfl
  | v :: vs => by
    have ih := mx_sl_len r vs
    simp only [lg_sl] at ih
    simp only [lg_sl, List.map_cons, List.flatMap_cons, List.length_append, mx_v_cat, ih]
    split <;> rfl
section MXC
variable {l : Launch} {E : mx_Ev} {M : mx_Me} {R : Room} {mc ms : Nat} {K : Option Value → List va_E → Prop} {cells slots pc : Nat} {ls : List (Nat × Value)} {st : List Value} {hp : List va_E}
theorem mx_intro {rm : Room} {av : List Value} {n : Nat} (hE : mx_ok E) (hme : mx_me M n) (hlen : (lg_sl av).length ≤ M.2.2.1) (h : mx_W l E M rm rm.cells rm.slots K 0 0 0 (lv_args 0 av) [] hp) : mx_M l E M rm av hp K := by
  refine Met.ofW (cc := M.2.1) (maxL := M.2.2.1) (ret := M.2.2.2) hme.2.2.1 rfl ?_
  intro p e s m args below meth c s₁ B hml hv
  obtain ⟨rfl, hP, hKn, hX⟩ := hv
  have hts := atoms_spec (ws := mx_ws M) B.pre
  have hle : (lg_sl (av.map (mx_v E.1))).length ≤ M.2.2.1 := by
    rw [mx_sl_len]; exact hlen
  have hl := lv_entry (av.map (mx_v E.1)) (n := M.2.2.1) hle
  rw [lg_entry_eq]
  rw [mx_args] at hl
  exact h p e s m _ below meth c s.heap [] _ ⟨hE, B.exec, B.bytes, hml, B.returns, B.notSynchronized, fun h => (name_of_methodNamed B.named B.method).1.trans h, findClass_of_methodNamed B.named, fun w hw => hts w (List.mem_cons_of_mem _ hw), hKn, by rw [hP.2.1]; exact Nat.le_add_right _ _, hX⟩ hP va_S.rf hl
/-- behind a call -/
theorem mx_behind {p : Program} {e : Env} {s : State} {m : MethodId} {args : Array Value} {below : List Frame} {meth : Method} {c : Code} {H : Heap} {locs : List Loc} {lv : Array Slot} {rc rs : Nat} {st0 rest : List Value} {a : Array Value} {K' : Option Value → List va_E → Prop}
    (hr : va_Run p l e R s m args below meth c H locs cells slots rc rs (F0 m pc lv st0) (rest.map (mx_v E.1)) (mx_Q E K' a) (mx_A E)) (C0 : mx_C E M p s m args meth c) (S : va_S (mx_A E) s.heap H locs) (L : lv_has lv M.2.2.1 (ls.map (fun q => (q.1, mx_v E.1 q.2))))
    (kk : ∀ (v : Option Value) (hp' : List va_E), K' v hp' → mx_W l E M R mc ms K (cells + rc) (slots + rs) (pc + 3) ls (v.toList ++ rest) hp') :
    W p l e R s m args below meth c H locs cells slots (MQ below (mx_Q E K) args s mc ms (mx_A E)) (F0 m pc lv st0) := by
  intro T hT X
  obtain ⟨v, st₀, t, T', L1, h0, X', hL, e1, e2, ⟨⟨v', hp', hv, hK', hP'⟩, hz, hk⟩, stp⟩ := hr T hT X
  cases hv
  rw [h0] at hz hk
  have hS' : va_S (mx_A E) s.heap T'.heap (locs ++ L1) := ⟨Nat.le_trans S.1 (by rw [e1]; exact hz), fun q h1 h2 => by rw [e1, hk q (Nat.lt_of_lt_of_le h1 S.1) h2]; exact S.2.1 q h1 h2, fun q hq => by
    rcases List.mem_append.mp hq with h | h
    · exact S.2.2 q h
    · exact hL q h⟩
  have hg := kk v' hp' hK' p e s m args below meth c T'.heap (locs ++ L1) lv C0 (by rw [e1]; exact hP') hS' L
  rw [show (v'.toList ++ rest).map (mx_v E.1) = (v'.map (mx_v E.1)).toList ++ rest.map (mx_v E.1) by cases v' <;> simp] at hg
  obtain ⟨t2, a1, b1⟩ := hg T' rfl X'
  exact ⟨t2, stp t2 a1, b1⟩
theorem mx_pre {p : Program} {m : MethodId} {args : Array Value} {meth : Method} {c : Code} {s : State} {H : Heap} {locs : List Loc} {av : List Value} (C0 : mx_C E M p s m args meth c) (P : mx_P E hp H) (S : va_S (mx_A E) s.heap H locs) : PreS s H (va_Pc (av.map (mx_v E.1)) (fun U => mx_P E hp U.heap ∧ mx_K E U ∧ va_X E.2.2.2.2.2.1 E.2.2.2.2.2.2.1 E.2.2.2.2.2.2.2 U U.heap)) (av.map (mx_v E.1)) :=
  ⟨fun a U g mk q => ⟨q.1, q.2.1, va_K.moved (u := U) (U := U.calling g mk a) (Vm.Alike.refl U.vm) q.2.2.1, va_X.moved (u := U) (U := U.calling g mk a) (Vm.Alike.refl U.vm) q.2.2.2⟩, fun U hU hW => ⟨rfl, by rw [hU]; exact P, va_K.moved hW.alike C0.kn, by
    rw [hU]
    exact va_X.moved hW.alike (C0.2.2.2.2.2.2.2.2.2.2.2.kept (S.2.1 _ (Nat.lt_of_lt_of_le C0.1.2.1 C0.2.2.2.2.2.2.2.2.2.2.1) (Nat.not_le.mpr C0.1.2.1)))⟩⟩
theorem mx_sum {rest : List Value} (h : (rest.map fun v => v.category).sum ≤ 8) : ((rest.map (mx_v E.1)).map fun v => v.category).sum ≤ 8 := by
  rw [List.map_map]
  rw [show ((fun v : Value => v.category) ∘ mx_v E.1) = fun v => v.category from funext fun v => mx_v_cat E.1 v]
  exact h
theorem mx_invV {index i ci N n : Nat} {C : String} {T : u_T} {fs : List Value} {M' : mx_Me} {rm : Room} {K' : Option Value → List va_E → Prop} {As rest : List Value} (hd : decode M.2.1 pc = .ok (.invokevirtual index, 3)) (hi : hp[i]? = some (.inr (ci, fs))) (hc : vwCl[ci]? = some (C, T, N)) (hme : mx_me M' n) (hn : As.length = n) (hw : Cond.methodLink M.1.cls index M'.1 ∈ mx_tb ∧ Cond.instanceMethod M'.1 ∈ mx_tb ∧ Cond.selects C M'.1 M'.1 ∈ mx_tb) (hM : mx_M l E M' rm (.ref i :: As) hp K') (hR : rm.frames + 1 ≤ R.frames ∧ 8 + (M'.2.2.1 + 11) + rm.locals ≤ R.locals) (hs : (rest.map fun v => v.category).sum ≤ 8) (hf : cells + rm.cells ≤ R.cells ∧ slots + rm.slots ≤ R.slots)
    (kk : ∀ (v : Option Value) (hp' : List va_E), K' v hp' → mx_W l E M R mc ms K (cells + rm.cells) (slots + rm.slots) (pc + 3) ls (v.toList ++ rest) hp') : mx_W l E M R mc ms K cells slots pc ls (As.reverse ++ .ref i :: rest) hp :=
  fun p e s m args below meth c H locs lv C0 P S L => by
    have cb := callB_of (R := R) (rm := rm) (mc := rm.cells) (ms := rm.slots) n C0.ts (mx_goodIn hme.1) rfl rfl rfl (C0.ts _ hme.2.1) (C0.ts _ hw.1) hme.2.2.2 hR
    have hpre := mx_pre (av := .ref i :: As) C0 P S
    exact mx_behind (va_runV (As := As.map (mx_v E.1)) (rest := rest.map (mx_v E.1)) (b := E.1 i) ⟨C0.2.1, C0.2.2.1, C0.2.2.2.1, C0.own, C0.ts⟩ hM ⟨cb, C0.ts _ hw.2.1, C0.ts _ hw.2.2⟩ ⟨hpre.1, va_recv (ci := ci) (q0 := i) C0.kn P.1 hc (mx_w_at hi), hpre.2⟩ rfl (by rw [List.length_map]; exact hn) L.1 (by simp [mx_v]) (lv_room (mx_sum hs)) hd hf) C0 S L kk
theorem mx_invI {index i n : Nat} {M' : mx_Me} {rm : Room} {K' : Option Value → List va_E → Prop} {As rest : List Value} (hd : decode M.2.1 pc = .ok (.invokespecial index, 3)) (hme : mx_me M' n) (hnm : M'.1.name = "<init>") (hret : M'.2.2.2 = none) (hn : As.length = n) (hw : Cond.methodLink M.1.cls index M'.1 ∈ mx_tb ∧ Cond.instanceMethod M'.1 ∈ mx_tb) (hM : mx_M l E M' rm (.ref i :: As) hp K') (hR : rm.frames + 1 ≤ R.frames ∧ 8 + (M'.2.2.1 + 11) + rm.locals ≤ R.locals) (hs : (rest.map fun v => v.category).sum ≤ 8) (hf : cells + rm.cells ≤ R.cells ∧ slots + rm.slots ≤ R.slots)
    (kk : ∀ (v : Option Value) (hp' : List va_E), K' v hp' → mx_W l E M R mc ms K (cells + rm.cells) (slots + rm.slots) (pc + 3) ls (v.toList ++ rest) hp') : mx_W l E M R mc ms K cells slots pc ls (As.reverse ++ .ref i :: rest) hp :=
  fun p e s m args below meth c H locs lv C0 P S L => by
    obtain ⟨y', b', l', r'⟩ := M'
    subst hret
    have cb := callB_of (R := R) (rm := rm) (mc := rm.cells) (ms := rm.slots) n C0.ts (mx_goodIn hme.1) rfl rfl rfl (C0.ts _ hme.2.1) (C0.ts _ hw.1) hme.2.2.2 hR
    exact mx_behind (va_runI (As := As.map (mx_v E.1)) (rest := rest.map (mx_v E.1)) (b := E.1 i) ⟨C0.2.1, C0.2.2.1, C0.2.2.2.1, C0.own, C0.ts⟩ hM ⟨cb, hnm, C0.ts _ hw.2⟩ (mx_pre (av := .ref i :: As) C0 P S) rfl (by rw [List.length_map]; exact hn) L.1 (by simp [mx_v]) (lv_room (mx_sum hs)) hd hf) C0 S L kk
theorem mx_invS {index n : Nat} {M' : mx_Me} {rm : Room} {K' : Option Value → List va_E → Prop} {As rest : List Value} (hd : decode M.2.1 pc = .ok (.invokestatic index, 3)) (hme : mx_me M' n) (hn : As.length = n) (hw : Cond.methodLink M.1.cls index M'.1 ∈ mx_tb ∧ Cond.static M'.1 ∈ mx_tb) (hM : mx_M l E M' rm As hp K') (hR : rm.frames + 1 ≤ R.frames ∧ 8 + (M'.2.2.1 + 11) + rm.locals ≤ R.locals) (hs : (rest.map fun v => v.category).sum ≤ 8) (hf : cells + rm.cells ≤ R.cells ∧ slots + rm.slots ≤ R.slots)
    (kk : ∀ (v : Option Value) (hp' : List va_E), K' v hp' → mx_W l E M R mc ms K (cells + rm.cells) (slots + rm.slots) (pc + 3) ls (v.toList ++ rest) hp') : mx_W l E M R mc ms K cells slots pc ls (As.reverse ++ rest) hp :=
  fun p e s m args below meth c H locs lv C0 P S L => by
    have cb := callB_of (R := R) (rm := rm) (mc := rm.cells) (ms := rm.slots) n C0.ts (mx_goodIn hme.1) rfl rfl rfl (C0.ts _ hme.2.1) (C0.ts _ hw.1) hme.2.2.2 hR
    exact mx_behind (va_runS (As := As.map (mx_v E.1)) (rest := rest.map (mx_v E.1)) ⟨C0.2.1, C0.2.2.1, C0.2.2.2.1, C0.own, C0.ts⟩ hM ⟨cb, C0.ts _ hw.2⟩ (mx_pre (av := As) C0 P S) rfl (by rw [List.length_map]; exact hn) L.1 (by simp) (lv_room (mx_sum hs)) hd hf) C0 S L kk
theorem mx_objInit {index i : Nat} {rest : List Value} (hd : decode M.2.1 pc = .ok (.invokespecial index, 3)) (hw : Cond.methodLink M.1.cls index objectInit ∈ mx_tb) (hw2 : Cond.instanceMethod objectInit ∈ mx_tb) (hw3 : Cond.code objectInit ⟨#[0xb1]⟩ 1 none ∈ mx_tb) (hR : 1 ≤ R.frames ∧ 20 ≤ R.locals) (hs : (rest.map fun v => v.category).sum ≤ 8) (kk : mx_W l E M R mc ms K cells slots (pc + 3) ls rest hp) : mx_W l E M R mc ms K cells slots pc ls (.ref i :: rest) hp :=
  fun p e s m args below meth c H locs lv C0 P S L => by
    refine W.objInit (own := M.1.cls) C0.2.1 C0.2.2.1 C0.own (C0.ts _ hw) (C0.ts _ hw2) (C0.ts _ hw3) rfl (L.1.trans C0.2.2.2.1.symm) rfl hd hR.1 ?_ (kk p e s m args below meth c H locs lv C0 P S L)
    have := lv_room (m := m) (pc := pc) (ls := lv) (rest := List.map (mx_v E.1) (.ref i :: rest)) (mx_sum (E := E) hs)
    omega
end MXC
end
section
/-! ===== THE EVALUATOR: what the pure machine does, as a function; and that the machine does it ===== -/
abbrev mx_In : Type := Instr × Nat × Nat × Nat × Nat
abbrev mx_Pg : Type := List (mx_Me × Nat × List (Nat × mx_In))
abbrev mx_Cf : Type := Nat × List (Nat × Value) × List Value × List va_E × Nat × Nat
def mx_lk : List (Nat × mx_In) → Nat → Option mx_In
  | [], _ => none
  | q :: l, i => cond (Nat.beq q.1 i) (some q.2) (mx_lk l i)
theorem mx_lk_mem : ∀ {l : List (Nat × mx_In)} {i : Nat} {v : mx_In}, mx_lk l i = some v → (i, v) ∈ l
  | [], _, _, h => by cases h
  | q :: l, i, v, h => by
    unfold mx_lk at h
    by_cases hq : Nat.beq q.1 i = true
    · rw [hq] at h
      have e1 : q.1 = i := Nat.eq_of_beq_eq_true hq
      have e2 : q.2 = v := Option.some.inj h
      rw [← e1, ← e2]
      exact List.mem_cons_self
    · rw [Bool.not_eq_true] at hq
      rw [hq] at h
      exact List.mem_cons_of_mem _ (mx_lk_mem h)
def mx_c (ci : Nat) : vw_C := vwCl.getD ci (RX0, TX0, 0)
def mx_ty (ci : Nat) : Nat → FieldType := ([tyX0, tyX1, tyX2, tyX3, tyX4, tyX5, tyX6, tyX7, tyX8, tyX9, tyX10, tyX11, tyX12] : List (Nat → FieldType)).getD ci tyX0
def mx_fit : FieldType → Value → Bool
  | .int, .int _ => true
  | .boolean, .int x => x == 0 || x == 1
  | .object _, .null => true
  | .object _, .ref _ => true
  | .array _, .null => true
  | .array _, .ref _ => true
  | _, _ => false
def mx_in (j : Int32) (n : Nat) : Bool := decide (¬ (j < 0 ∨ n ≤ j.toNatClampNeg))
def mx_fs (ci : Nat) : List Value := (List.range (mx_c ci).2.2).map (fun j => defaultValue (mx_ty ci j))
def mx_cs (l : List Value) : Nat := (l.map fun v => v.category).sum
def mx_a_li (pc i : Nat) (ls : List (Nat × Value)) (st : List Value) (hp : List va_E) : Option mx_Cf := match mx_at ls i with
  | some (.int x) => some (pc, ls, .int x :: st, hp, 0, 0)
  | _ => none
def mx_a_la (pc i : Nat) (ls : List (Nat × Value)) (st : List Value) (hp : List va_E) : Option mx_Cf := match mx_at ls i with
  | some (.ref x) => some (pc, ls, .ref x :: st, hp, 0, 0)
  | _ => none
def mx_a_si (pc i : Nat) (ls : List (Nat × Value)) (st : List Value) (hp : List va_E) : Option mx_Cf := match st with
  | .int x :: r => some (pc, mx_put ls i (.int x), r, hp, 0, 0)
  | _ => none
def mx_a_sa (pc i : Nat) (ls : List (Nat × Value)) (st : List Value) (hp : List va_E) : Option mx_Cf := match st with
  | .ref x :: r => some (pc, mx_put ls i (.ref x), r, hp, 0, 0)
  | _ => none
def mx_a_inc (pc i : Nat) (n : Int) (ls : List (Nat × Value)) (st : List Value) (hp : List va_E) : Option mx_Cf := match mx_at ls i with
  | some (.int x) => some (pc, mx_put ls i (.int (x + Int32.ofInt n)), st, hp, 0, 0)
  | _ => none
def mx_a_1 (f : Int32 → Int32) (pc : Nat) (ls : List (Nat × Value)) (st : List Value) (hp : List va_E) : Option mx_Cf := match st with
  | .int x :: r => some (pc, ls, .int (f x) :: r, hp, 0, 0)
  | _ => none
def mx_a_2 (f : Int32 → Int32 → Int32) (pc : Nat) (ls : List (Nat × Value)) (st : List Value) (hp : List va_E) : Option mx_Cf := match st with
  | .int y :: .int x :: r => some (pc, ls, .int (f x y) :: r, hp, 0, 0)
  | _ => none
def mx_a_2n (f : Int32 → Int32 → Int32) (pc : Nat) (ls : List (Nat × Value)) (st : List Value) (hp : List va_E) : Option mx_Cf := match st with
  | .int y :: .int x :: r => cond (decide (y = 0)) none (some (pc, ls, .int (f x y) :: r, hp, 0, 0))
  | _ => none
def mx_a_b1 (t : Int32 → Bool) (tgt pc : Nat) (ls : List (Nat × Value)) (st : List Value) (hp : List va_E) : Option mx_Cf := match st with
  | .int x :: r => some (cond (t x) tgt pc, ls, r, hp, 0, 0)
  | _ => none
def mx_a_b2 (t : Int32 → Int32 → Bool) (tgt pc : Nat) (ls : List (Nat × Value)) (st : List Value) (hp : List va_E) : Option mx_Cf := match st with
  | .int y :: .int x :: r => some (cond (t x y) tgt pc, ls, r, hp, 0, 0)
  | _ => none
def mx_a_get (ci k pc : Nat) (ls : List (Nat × Value)) (st : List Value) (hp : List va_E) : Option mx_Cf := match st with
  | .ref i :: r => match hp[i]? with
    | some (.inr (cj, fs)) => cond (Nat.beq cj ci) (match fs[k]? with
      | some v => some (pc, ls, v :: r, hp, 0, 0)
      | none => none) none
    | _ => none
  | _ => none
def mx_a_put (ci k pc : Nat) (ls : List (Nat × Value)) (st : List Value) (hp : List va_E) : Option mx_Cf := match st with
  | v :: .ref i :: r => match hp[i]? with
    | some (.inr (cj, fs)) => cond (Nat.beq cj ci && Nat.blt k fs.length && mx_fit (mx_ty ci k) v) (some (pc, ls, r, hp.set i (.inr (cj, fs.set k v)), 0, 0)) none
    | _ => none
  | _ => none
def mx_a_ald (sL : Nat) (sx : Nat → Int32) (pc : Nat) (ls : List (Nat × Value)) (st : List Value) (hp : List va_E) : Option mx_Cf := match st with
  | .int j :: .ref i :: r => cond (Nat.beq i 1000000) (cond (mx_in j sL) (some (pc, ls, .int (sx j.toNatClampNeg) :: r, hp, 0, 0)) none) (match hp[i]? with
    | some (.inl (0, n, .inl f)) => cond (mx_in j n) (some (pc, ls, .int (f j.toNatClampNeg) :: r, hp, 0, 0)) none
    | _ => none)
  | _ => none
def mx_a_zld (pc : Nat) (ls : List (Nat × Value)) (st : List Value) (hp : List va_E) : Option mx_Cf := match st with
  | .int j :: .ref i :: r => match hp[i]? with
    | some (.inl (1, n, .inl f)) => cond (mx_in j n) (some (pc, ls, .int (f j.toNatClampNeg) :: r, hp, 0, 0)) none
    | _ => none
  | _ => none
def mx_a_ast (pc : Nat) (ls : List (Nat × Value)) (st : List Value) (hp : List va_E) : Option mx_Cf := match st with
  | .int x :: .int j :: .ref i :: r => match hp[i]? with
    | some (.inl (0, n, .inl f)) => cond (mx_in j n) (some (pc, ls, r, hp.set i (.inl (0, n, .inl (upd f j.toNatClampNeg x))), 0, 0)) none
    | _ => none
  | _ => none
def mx_a_zst (pc : Nat) (ls : List (Nat × Value)) (st : List Value) (hp : List va_E) : Option mx_Cf := match st with
  | .int x :: .int j :: .ref i :: r => match hp[i]? with
    | some (.inl (1, n, .inl f)) => cond (mx_in j n) (some (pc, ls, r, hp.set i (.inl (1, n, .inl (upd f j.toNatClampNeg (vp_nar .boolean x)))), 0, 0)) none
    | _ => none
  | _ => none
def mx_a_len (sL : Nat) (sx : Nat → Int32) (pc : Nat) (ls : List (Nat × Value)) (st : List Value) (hp : List va_E) : Option mx_Cf := match st with
  | .ref i :: r => cond (Nat.beq i 1000000) (some (pc, ls, .int (Int32.ofNat sL) :: r, hp, 0, 0)) (match hp[i]? with
    | some (.inl (t, a)) => cond (Nat.blt t 3) (some (pc, ls, .int (Int32.ofNat a.1) :: r, hp, 0, 0)) none
    | _ => none)
  | _ => none
def mx_a_na (t pc : Nat) (ls : List (Nat × Value)) (st : List Value) (hp : List va_E) : Option mx_Cf := match st with
  | .int n :: r => cond (decide (¬ n < 0) && Nat.ble n.toNatClampNeg 1000000 && Nat.blt hp.length 600000) (some (pc, ls, .ref hp.length :: r, hp ++ [.inl (t, n.toNatClampNeg, .inl (fun _ => 0))], 1, n.toNatClampNeg)) none
  | _ => none
def mx_a_new (ci pc : Nat) (ls : List (Nat × Value)) (st : List Value) (hp : List va_E) : Option mx_Cf :=
  cond (Nat.blt hp.length 600000) (some (pc, ls, .ref hp.length :: st, hp ++ [.inr (ci, mx_fs ci)], 1, (mx_c ci).2.2)) none
def mx_a_dup (pc : Nat) (ls : List (Nat × Value)) (st : List Value) (hp : List va_E) : Option mx_Cf := match st with
  | a :: r => cond (Nat.beq a.category 1) (some (pc, ls, a :: a :: r, hp, 0, 0)) none
  | _ => none
def mx_a_pop (pc : Nat) (ls : List (Nat × Value)) (st : List Value) (hp : List va_E) : Option mx_Cf := match st with
  | a :: r => cond (Nat.beq a.category 1) (some (pc, ls, r, hp, 0, 0)) none
  | _ => none
def mx_a_dx1 (pc : Nat) (ls : List (Nat × Value)) (st : List Value) (hp : List va_E) : Option mx_Cf := match st with
  | a :: b :: r => cond (Nat.beq a.category 1 && Nat.beq b.category 1) (some (pc, ls, a :: b :: a :: r, hp, 0, 0)) none
  | _ => none
def mx_a_dx2 (pc : Nat) (ls : List (Nat × Value)) (st : List Value) (hp : List va_E) : Option mx_Cf := match st with
  | a :: b :: d :: r => cond (Nat.beq a.category 1 && Nat.beq b.category 1 && Nat.beq d.category 1) (some (pc, ls, a :: b :: d :: a :: r, hp, 0, 0)) none
  | _ => none
def mx_a_d2 (pc : Nat) (ls : List (Nat × Value)) (st : List Value) (hp : List va_E) : Option mx_Cf := match st with
  | a :: b :: r => cond (Nat.beq a.category 1 && Nat.beq b.category 1) (some (pc, ls, a :: b :: a :: b :: r, hp, 0, 0)) none
  | _ => none
def mx_a_ts (pc : Nat) (dflt lo hi : Int) (offs : Array Int) (ls : List (Nat × Value)) (st : List Value) (hp : List va_E) : Option mx_Cf := match st with
  | .int x :: r => cond (decide (x.toInt < lo ∨ hi < x.toInt)) (cond (decide (0 ≤ (pc : Int) + dflt)) (some (((pc : Int) + dflt).toNat, ls, r, hp, 0, 0)) none) (match offs[(x.toInt - lo).toNat]? with
    | some off => cond (decide (0 ≤ (pc : Int) + off)) (some (((pc : Int) + off).toNat, ls, r, hp, 0, 0)) none
    | none => none)
  | _ => none
def mx_G (l : Launch) (E : mx_Ev) (M : mx_Me) (R : Room) (mc ms : Nat) (K : Option Value → List va_E → Prop) (cells slots : Nat) (q : mx_Cf) : Prop := mx_W l E M R mc ms K (cells + q.2.2.2.2.1) (slots + q.2.2.2.2.2) q.1 q.2.1 q.2.2.1 q.2.2.2.1
theorem mx_in_ok {j : Int32} {n : Nat} (h : mx_in j n = true) : vp_in j n := of_decide_eq_true (p := ¬ (j < 0 ∨ n ≤ j.toNatClampNeg)) h
theorem mx_fit_ok {ty : FieldType} {v : Value} (r : Nat → Nat) (h : mx_fit ty v = true) : narrow ty (mx_v r v) = mx_v r v ∧ fits ty (mx_v r v) = true := by
  unfold mx_fit at h
  split at h
  · exact ⟨rfl, rfl⟩
  · rename_i x
    have hx : x = 0 ∨ x = 1 := by simpa using h
    rcases hx with rfl | rfl <;> exact ⟨rfl, rfl⟩
  · exact ⟨rfl, rfl⟩
  · exact ⟨rfl, rfl⟩
  · exact ⟨rfl, rfl⟩
  · exact ⟨rfl, rfl⟩
  · cases h
theorem mx_fs_ok (ci : Nat) (r : Nat → Nat) : ∀ j, j < (mx_c ci).2.2 → defaultValue (mx_ty ci j) = vp_V ((mx_fs ci).map (mx_v r)) j := by
  intro j hj
  unfold vp_V mx_fs
  rw [List.getD_eq_getElem?_getD, List.getElem?_map, List.getElem?_map, List.getElem?_range hj]
  show _ = mx_v r (defaultValue (mx_ty ci j))
  cases mx_ty ci j <;> rfl
section MXR
variable {l : Launch} {E : mx_Ev} {M : mx_Me} {R : Room} {mc ms : Nat} {K : Option Value → List va_E → Prop} {cells slots pc : Nat} {ls : List (Nat × Value)} {st : List Value} {hp : List va_E} {q1 : mx_Cf}
theorem mx_l_li {pc1 i : Nat} (rule : ∀ x : Int32, mx_at ls i = some (.int x) → mx_W l E M R mc ms K cells slots pc1 ls (.int x :: st) hp → mx_W l E M R mc ms K cells slots pc ls st hp) (h : mx_a_li pc1 i ls st hp = some q1) (k : mx_G l E M R mc ms K cells slots q1) : mx_W l E M R mc ms K cells slots pc ls st hp := by
  unfold mx_a_li at h
  split at h
  · rename_i x hx
    cases h
    exact rule x hx k
  · cases h
theorem mx_l_la {pc1 i : Nat} (rule : ∀ x : Nat, mx_at ls i = some (.ref x) → mx_W l E M R mc ms K cells slots pc1 ls (.ref x :: st) hp → mx_W l E M R mc ms K cells slots pc ls st hp) (h : mx_a_la pc1 i ls st hp = some q1) (k : mx_G l E M R mc ms K cells slots q1) : mx_W l E M R mc ms K cells slots pc ls st hp := by
  unfold mx_a_la at h
  split at h
  · rename_i x hx
    cases h
    exact rule x hx k
  · cases h
theorem mx_l_si {pc1 i : Nat} (rule : ∀ (x : Int32) (r : List Value), mx_W l E M R mc ms K cells slots pc1 (mx_put ls i (.int x)) r hp → mx_W l E M R mc ms K cells slots pc ls (.int x :: r) hp) (h : mx_a_si pc1 i ls st hp = some q1) (k : mx_G l E M R mc ms K cells slots q1) : mx_W l E M R mc ms K cells slots pc ls st hp := by
  unfold mx_a_si at h
  split at h
  · cases h
    exact rule _ _ k
  · cases h
theorem mx_l_sa {pc1 i : Nat} (rule : ∀ (x : Nat) (r : List Value), mx_W l E M R mc ms K cells slots pc1 (mx_put ls i (.ref x)) r hp → mx_W l E M R mc ms K cells slots pc ls (.ref x :: r) hp) (h : mx_a_sa pc1 i ls st hp = some q1) (k : mx_G l E M R mc ms K cells slots q1) : mx_W l E M R mc ms K cells slots pc ls st hp := by
  unfold mx_a_sa at h
  split at h
  · cases h
    exact rule _ _ k
  · cases h
theorem mx_l_inc {i : Nat} {n : Int} (hd : decode M.2.1 pc = .ok (.iinc i n, 3)) (hn : i < M.2.2.1) (h : mx_a_inc (pc + 3) i n ls st hp = some q1) (k : mx_G l E M R mc ms K cells slots q1) : mx_W l E M R mc ms K cells slots pc ls st hp := by
  unfold mx_a_inc at h
  split at h
  · rename_i x hx
    cases h
    exact mx_iinc hd hx rfl hn k
  · cases h
theorem mx_l_1 {pc1 : Nat} {f : Int32 → Int32} (rule : ∀ (x : Int32) (r : List Value), mx_W l E M R mc ms K cells slots pc1 ls (.int (f x) :: r) hp → mx_W l E M R mc ms K cells slots pc ls (.int x :: r) hp) (h : mx_a_1 f pc1 ls st hp = some q1) (k : mx_G l E M R mc ms K cells slots q1) : mx_W l E M R mc ms K cells slots pc ls st hp := by
  unfold mx_a_1 at h
  split at h
  · cases h
    exact rule _ _ k
  · cases h
theorem mx_l_2 {pc1 : Nat} {f : Int32 → Int32 → Int32} (rule : ∀ (x y : Int32) (r : List Value), mx_W l E M R mc ms K cells slots pc1 ls (.int (f x y) :: r) hp → mx_W l E M R mc ms K cells slots pc ls (.int y :: .int x :: r) hp) (h : mx_a_2 f pc1 ls st hp = some q1) (k : mx_G l E M R mc ms K cells slots q1) : mx_W l E M R mc ms K cells slots pc ls st hp := by
  unfold mx_a_2 at h
  split at h
  · cases h
    exact rule _ _ _ k
  · cases h
theorem mx_l_2n {pc1 : Nat} {f : Int32 → Int32 → Int32} (rule : ∀ (x y : Int32) (r : List Value), ¬ y = 0 → mx_W l E M R mc ms K cells slots pc1 ls (.int (f x y) :: r) hp → mx_W l E M R mc ms K cells slots pc ls (.int y :: .int x :: r) hp) (h : mx_a_2n f pc1 ls st hp = some q1) (k : mx_G l E M R mc ms K cells slots q1) : mx_W l E M R mc ms K cells slots pc ls st hp := by
  unfold mx_a_2n at h
  split at h
  · rename_i y x r
    by_cases hy : y = 0
    · rw [decide_eq_true hy] at h; cases h
    · rw [decide_eq_false hy] at h
      cases h
      exact rule _ _ _ hy k
  · cases h
theorem mx_l_b1 {t : Int32 → Bool} {tgt pc1 : Nat} (rule : ∀ (x : Int32) (r : List Value), (t x = true → mx_W l E M R mc ms K cells slots tgt ls r hp) → (t x = false → mx_W l E M R mc ms K cells slots pc1 ls r hp) → mx_W l E M R mc ms K cells slots pc ls (.int x :: r) hp) (h : mx_a_b1 t tgt pc1 ls st hp = some q1) (k : mx_G l E M R mc ms K cells slots q1) : mx_W l E M R mc ms K cells slots pc ls st hp := by
  unfold mx_a_b1 at h
  split at h
  · cases h
    exact rule _ _ (fun ht => by rw [mx_G, ht] at k; exact k) (fun ht => by rw [mx_G, ht] at k; exact k)
  · cases h
theorem mx_l_b2 {t : Int32 → Int32 → Bool} {tgt pc1 : Nat} (rule : ∀ (x y : Int32) (r : List Value), (t x y = true → mx_W l E M R mc ms K cells slots tgt ls r hp) → (t x y = false → mx_W l E M R mc ms K cells slots pc1 ls r hp) → mx_W l E M R mc ms K cells slots pc ls (.int y :: .int x :: r) hp) (h : mx_a_b2 t tgt pc1 ls st hp = some q1) (k : mx_G l E M R mc ms K cells slots q1) : mx_W l E M R mc ms K cells slots pc ls st hp := by
  unfold mx_a_b2 at h
  split at h
  · cases h
    exact rule _ _ _ (fun ht => by rw [mx_G, ht] at k; exact k) (fun ht => by rw [mx_G, ht] at k; exact k)
  · cases h
theorem mx_l_get {ci k0 index : Nat} {C : String} {T : u_T} {N : Nat} {ty : Nat → FieldType} (hd : decode M.2.1 pc = .ok (.getfield index, 3)) (hc : mx_cl ci C T N ty) (hw : Cond.fieldLink M.1.cls index (T k0).1 (T k0).2.1 (T k0).2.2.1 ∈ mx_tb) (hk : k0 < N) (h : mx_a_get ci k0 (pc + 3) ls st hp = some q1) (k : mx_G l E M R mc ms K cells slots q1) : mx_W l E M R mc ms K cells slots pc ls st hp := by
  unfold mx_a_get at h
  split at h
  · rename_i i r
    split at h
    · rename_i cj fs hi
      by_cases hq : Nat.beq cj ci = true
      · rw [hq] at h
        have e1 : cj = ci := Nat.eq_of_beq_eq_true hq
        subst e1
        dsimp only [cond] at h
        split at h
        · rename_i v hv
          cases h
          exact mx_getfield hd hc hw hk hi hv k
        · cases h
      · rw [Bool.not_eq_true] at hq
        rw [hq] at h; cases h
    · cases h
  · cases h
theorem mx_l_put {ci k0 index : Nat} {C : String} {T : u_T} {N : Nat} (hd : decode M.2.1 pc = .ok (.putfield index, 3)) (hc : mx_cl ci C T N (mx_ty ci)) (hw : Cond.fieldLink M.1.cls index (T k0).1 (T k0).2.1 (T k0).2.2.1 ∈ mx_tb) (hk : k0 < N) (hf : (T k0).2.2.2 = false ∨ ((T k0).2.2.2 = true ∧ M.1.name = "<init>" ∧ (T k0).1 = M.1.cls)) (h : mx_a_put ci k0 (pc + 3) ls st hp = some q1) (k : mx_G l E M R mc ms K cells slots q1) : mx_W l E M R mc ms K cells slots pc ls st hp := by
  unfold mx_a_put at h
  split at h
  · rename_i v i r
    split at h
    · rename_i cj fs hi
      by_cases hq : (Nat.beq cj ci && Nat.blt k0 fs.length && mx_fit (mx_ty ci k0) v) = true
      · rw [hq] at h
        rw [Bool.and_eq_true, Bool.and_eq_true] at hq
        have e1 : cj = ci := Nat.eq_of_beq_eq_true hq.1.1
        subst e1
        cases h
        have hfit := mx_fit_ok E.1 hq.2
        exact mx_putfield hd hc hw hk hf hi (Nat.ble_eq.mp hq.1.2) hfit.1 hfit.2 k
      · rw [Bool.not_eq_true] at hq
        rw [hq] at h; cases h
    · cases h
  · cases h
theorem mx_l_ald (hd : decode M.2.1 pc = .ok (.iaload, 1)) (h : mx_a_ald E.2.2.2.2.2.2.1 E.2.2.2.2.2.2.2 (pc + 1) ls st hp = some q1) (k : mx_G l E M R mc ms K cells slots q1) : mx_W l E M R mc ms K cells slots pc ls st hp := by
  unfold mx_a_ald at h
  split at h
  · rename_i j i r
    by_cases hq : Nat.beq i 1000000 = true
    · rw [hq] at h
      have e1 : i = 1000000 := Nat.eq_of_beq_eq_true hq
      subst e1
      dsimp only [cond] at h
      cases hj : mx_in j E.2.2.2.2.2.2.1 with
      | false => rw [hj] at h; cases h
      | true =>
        rw [hj] at h
        cases h
        exact mx_sld hd (mx_in_ok hj) k
    · rw [Bool.not_eq_true] at hq
      rw [hq] at h
      dsimp only [cond] at h
      split at h
      · rename_i n f hi
        cases hj : mx_in j n with
        | false => rw [hj] at h; cases h
        | true =>
          rw [hj] at h
          cases h
          exact mx_iaload hd hi (mx_in_ok hj) k
      · cases h
  · cases h
theorem mx_l_zld (hd : decode M.2.1 pc = .ok (.baload, 1)) (h : mx_a_zld (pc + 1) ls st hp = some q1) (k : mx_G l E M R mc ms K cells slots q1) : mx_W l E M R mc ms K cells slots pc ls st hp := by
  unfold mx_a_zld at h
  split at h
  · rename_i j i r
    split at h
    · rename_i n f hi
      cases hj : mx_in j n with
      | false => rw [hj] at h; cases h
      | true =>
        rw [hj] at h
        cases h
        exact mx_zaload hd hi (mx_in_ok hj) k
    · cases h
  · cases h
theorem mx_l_ast (hd : decode M.2.1 pc = .ok (.iastore, 1)) (h : mx_a_ast (pc + 1) ls st hp = some q1) (k : mx_G l E M R mc ms K cells slots q1) : mx_W l E M R mc ms K cells slots pc ls st hp := by
  unfold mx_a_ast at h
  split at h
  · rename_i x j i r
    split at h
    · rename_i n f hi
      cases hj : mx_in j n with
      | false => rw [hj] at h; cases h
      | true =>
        rw [hj] at h
        cases h
        exact mx_iastore hd hi (mx_in_ok hj) k
    · cases h
  · cases h
theorem mx_l_zst (hd : decode M.2.1 pc = .ok (.bastore, 1)) (h : mx_a_zst (pc + 1) ls st hp = some q1) (k : mx_G l E M R mc ms K cells slots q1) : mx_W l E M R mc ms K cells slots pc ls st hp := by
  unfold mx_a_zst at h
  split at h
  · rename_i x j i r
    split at h
    · rename_i n f hi
      cases hj : mx_in j n with
      | false => rw [hj] at h; cases h
      | true =>
        rw [hj] at h
        cases h
        exact mx_zastore hd hi (mx_in_ok hj) k
    · cases h
  · cases h
theorem mx_l_len (hd : decode M.2.1 pc = .ok (.arraylength, 1)) (h : mx_a_len E.2.2.2.2.2.2.1 E.2.2.2.2.2.2.2 (pc + 1) ls st hp = some q1) (k : mx_G l E M R mc ms K cells slots q1) : mx_W l E M R mc ms K cells slots pc ls st hp := by
  unfold mx_a_len at h
  split at h
  · rename_i i r
    by_cases hq : Nat.beq i 1000000 = true
    · rw [hq] at h
      have e1 : i = 1000000 := Nat.eq_of_beq_eq_true hq
      subst e1
      cases h
      exact mx_slen hd k
    · rw [Bool.not_eq_true] at hq
      rw [hq] at h
      dsimp only [cond] at h
      split at h
      · rename_i t a hi
        by_cases hj : Nat.blt t 3 = true
        · rw [hj] at h
          cases h
          exact mx_alen (n := 0) hd hi (Nat.ble_eq.mp hj) k
        · rw [Bool.not_eq_true] at hj
          rw [hj] at h; cases h
      · cases h
  · cases h
theorem mx_l_na {t : Nat} (rule : ∀ (n : Int32) (r : List Value), ¬ n < 0 → n.toNatClampNeg ≤ 1000000 → cells + 1 ≤ R.cells → slots + n.toNatClampNeg ≤ R.slots → hp.length < 600000 → mx_W l E M R mc ms K (cells + 1) (slots + n.toNatClampNeg) (pc + 2) ls (.ref hp.length :: r) (hp ++ [.inl (t, n.toNatClampNeg, .inl (fun _ => 0))]) → mx_W l E M R mc ms K cells slots pc ls (.int n :: r) hp) (h : mx_a_na t (pc + 2) ls st hp = some q1) (hC : cells + q1.2.2.2.2.1 ≤ R.cells) (hS : slots + q1.2.2.2.2.2 ≤ R.slots) (k : mx_G l E M R mc ms K cells slots q1) : mx_W l E M R mc ms K cells slots pc ls st hp := by
  unfold mx_a_na at h
  split at h
  · rename_i n r
    by_cases hq : (decide (¬ n < 0) && Nat.ble n.toNatClampNeg 1000000 && Nat.blt hp.length 600000) = true
    · rw [hq] at h
      rw [Bool.and_eq_true, Bool.and_eq_true] at hq
      cases h
      exact rule n r (of_decide_eq_true hq.1.1) (Nat.ble_eq.mp hq.1.2) hC hS (Nat.ble_eq.mp hq.2) k
    · rw [Bool.not_eq_true] at hq
      rw [hq] at h; cases h
  · cases h
theorem mx_l_new {ci index : Nat} (hd : decode M.2.1 pc = .ok (.new index, 3)) (hc : mx_cl ci (mx_c ci).1 (mx_c ci).2.1 (mx_c ci).2.2 (mx_ty ci)) (hw : Cond.classLink M.1.cls index (mx_c ci).1 ∈ mx_tb) (hw2 : Cond.instantiable (mx_c ci).1 (mx_c ci).2.2 ∈ mx_tb) (hw3 : Cond.initialized (mx_c ci).1 ∈ mx_tb) (h : mx_a_new ci (pc + 3) ls st hp = some q1) (hC : cells + q1.2.2.2.2.1 ≤ R.cells) (hS : slots + q1.2.2.2.2.2 ≤ R.slots) (k : mx_G l E M R mc ms K cells slots q1) : mx_W l E M R mc ms K cells slots pc ls st hp := by
  unfold mx_a_new at h
  by_cases hq : Nat.blt hp.length 600000 = true
  · rw [hq] at h
    cases h
    exact mx_new hd hc hw hw2 hw3 (mx_fs_ok ci E.1) hC hS (Nat.ble_eq.mp hq) k
  · rw [Bool.not_eq_true] at hq
    rw [hq] at h; cases h
theorem mx_l_dup (hd : decode M.2.1 pc = .ok (.dup, 1)) (h : mx_a_dup (pc + 1) ls st hp = some q1) (k : mx_G l E M R mc ms K cells slots q1) : mx_W l E M R mc ms K cells slots pc ls st hp := by
  unfold mx_a_dup at h
  split at h
  · rename_i a r
    by_cases hq : Nat.beq a.category 1 = true
    · rw [hq] at h
      cases h
      exact mx_dup hd (Nat.eq_of_beq_eq_true hq) k
    · rw [Bool.not_eq_true] at hq
      rw [hq] at h; cases h
  · cases h
theorem mx_l_pop (hd : decode M.2.1 pc = .ok (.pop, 1)) (h : mx_a_pop (pc + 1) ls st hp = some q1) (k : mx_G l E M R mc ms K cells slots q1) : mx_W l E M R mc ms K cells slots pc ls st hp := by
  unfold mx_a_pop at h
  split at h
  · rename_i a r
    by_cases hq : Nat.beq a.category 1 = true
    · rw [hq] at h
      cases h
      exact mx_pop hd (Nat.eq_of_beq_eq_true hq) k
    · rw [Bool.not_eq_true] at hq
      rw [hq] at h; cases h
  · cases h
theorem mx_l_dx1 (hd : decode M.2.1 pc = .ok (.dup_x1, 1)) (h : mx_a_dx1 (pc + 1) ls st hp = some q1) (k : mx_G l E M R mc ms K cells slots q1) : mx_W l E M R mc ms K cells slots pc ls st hp := by
  unfold mx_a_dx1 at h
  split at h
  · rename_i a b r
    by_cases hq : (Nat.beq a.category 1 && Nat.beq b.category 1) = true
    · rw [hq] at h
      rw [Bool.and_eq_true] at hq
      cases h
      exact mx_dup_x1 hd (Nat.eq_of_beq_eq_true hq.1) (Nat.eq_of_beq_eq_true hq.2) k
    · rw [Bool.not_eq_true] at hq
      rw [hq] at h; cases h
  · cases h
theorem mx_l_d2 (hd : decode M.2.1 pc = .ok (.dup2, 1)) (h : mx_a_d2 (pc + 1) ls st hp = some q1) (k : mx_G l E M R mc ms K cells slots q1) : mx_W l E M R mc ms K cells slots pc ls st hp := by
  unfold mx_a_d2 at h
  split at h
  · rename_i a b r
    by_cases hq : (Nat.beq a.category 1 && Nat.beq b.category 1) = true
    · rw [hq] at h
      rw [Bool.and_eq_true] at hq
      cases h
      exact mx_dup2 hd (Nat.eq_of_beq_eq_true hq.1) (Nat.eq_of_beq_eq_true hq.2) k
    · rw [Bool.not_eq_true] at hq
      rw [hq] at h; cases h
  · cases h
theorem mx_l_dx2 (hd : decode M.2.1 pc = .ok (.dup_x2, 1)) (h : mx_a_dx2 (pc + 1) ls st hp = some q1) (k : mx_G l E M R mc ms K cells slots q1) : mx_W l E M R mc ms K cells slots pc ls st hp := by
  unfold mx_a_dx2 at h
  split at h
  · rename_i a b d r
    by_cases hq : (Nat.beq a.category 1 && Nat.beq b.category 1 && Nat.beq d.category 1) = true
    · rw [hq] at h
      rw [Bool.and_eq_true, Bool.and_eq_true] at hq
      cases h
      exact mx_dup_x2 hd (Nat.eq_of_beq_eq_true hq.1.1) (Nat.eq_of_beq_eq_true hq.1.2) (Nat.eq_of_beq_eq_true hq.2) k
    · rw [Bool.not_eq_true] at hq
      rw [hq] at h; cases h
  · cases h
theorem mx_l_ts {dflt lo hi : Int} {offs : Array Int} {len : Nat} (hd : decode M.2.1 pc = .ok (.tableswitch dflt lo hi offs, len)) (h : mx_a_ts pc dflt lo hi offs ls st hp = some q1) (k : mx_G l E M R mc ms K cells slots q1) : mx_W l E M R mc ms K cells slots pc ls st hp := by
  unfold mx_a_ts at h
  split at h
  · rename_i x r
    by_cases hx : x.toInt < lo ∨ hi < x.toInt
    · rw [decide_eq_true hx] at h
      dsimp only [cond] at h
      by_cases h0 : 0 ≤ (pc : Int) + dflt
      · rw [decide_eq_true h0] at h
        cases h
        exact mx_tableOut hd hx (Int.toNat_of_nonneg h0).symm k
      · rw [decide_eq_false h0] at h; cases h
    · rw [decide_eq_false hx] at h
      dsimp only [cond] at h
      split at h
      · rename_i off ho
        by_cases h0 : 0 ≤ (pc : Int) + off
        · rw [decide_eq_true h0] at h
          cases h
          exact mx_tableIn hd (fun q => hx (Or.inl q)) (fun q => hx (Or.inr q)) ho (Int.toNat_of_nonneg h0).symm k
        · rw [decide_eq_false h0] at h; cases h
      · cases h
  · cases h
end MXR
end
section
/-! ===== a step of the evaluator, what a program's rows must satisfy, and that the machine takes the step ===== -/
def mx_part : Nat → List Cond
  | 0 => k2_sels lw_privs
  | 1 => tables_1_1
  | 2 => tables_1_2
  | 3 => tables_1_3
  | 4 => tables_1_4
  | 5 => tables_1_5
  | 6 => tables_1_6
  | 7 => tables_1_7
  | 8 => tables_1_8
  | _ => []
theorem mx_part_in (p : Nat) (w : Cond) (h : w ∈ mx_part p) : w ∈ lw_tbl := by
  unfold mx_part at h
  unfold lw_tbl tables_1
  simp only [List.mem_append]
  split at h
  all_goals first | (exact absurd h List.not_mem_nil) | skip
  · exact Or.inl h
  · exact Or.inr (Or.inl h)
  · exact Or.inr (Or.inr (Or.inl h))
  · exact Or.inr (Or.inr (Or.inr (Or.inl h)))
  · exact Or.inr (Or.inr (Or.inr (Or.inr (Or.inl h))))
  · exact Or.inr (Or.inr (Or.inr (Or.inr (Or.inr (Or.inl h)))))
  · exact Or.inr (Or.inr (Or.inr (Or.inr (Or.inr (Or.inr (Or.inl h))))))
  · exact Or.inr (Or.inr (Or.inr (Or.inr (Or.inr (Or.inr (Or.inr (Or.inl h)))))))
  · exact Or.inr (Or.inr (Or.inr (Or.inr (Or.inr (Or.inr (Or.inr (Or.inr h)))))))
/-- a word of the tables, by its part and place -/
def mx_has (c : Nat) (w : Cond) : Bool := decide ((mx_part (c / 1000))[c % 1000]? = some w) && goodWord w
theorem mx_has_ok {c : Nat} {w : Cond} (h : mx_has c w = true) : w ∈ mx_tb := by
  unfold mx_has at h
  rw [Bool.and_eq_true] at h
  exact List.mem_filter.mpr ⟨mx_part_in _ _ (List.mem_of_getElem? (of_decide_eq_true h.1)), h.2⟩
/-- where the words on a sort's fields, its making, its being initialised stand -/
def mx_lays : List (Nat × Nat × List Nat) := [(1207, 1009, [1221, 1223, 1225, 1227, 1229, 1231, 1233, 1235, 1237]), (1120, 1006, [1156, 1158, 1160, 1162, 1164, 1166, 1168, 1170, 1172, 1174, 1176, 1178, 1180, 1182, 1184]), (1057, 1003, [1064, 1066]), (1188, 1008, [1197, 1199, 1201, 1203]), (1126, 1007, [1134, 1136, 1138]), (2007, 1011, [2019, 2021, 2023, 2025, 2027, 2029, 2031]), (2001, 1010, [2047, 2049, 2051, 2053, 2055, 2057, 2059, 2061, 2063, 2065, 2067, 2069, 2071]), (1086, 1005, [1100, 1102, 1104, 1106, 1108, 1110, 1112, 1114, 1116]), (1031, 1002, [1042, 1044, 1046, 1048, 1050, 1052]), (1070, 1004, [1078, 1080, 1082]), (2075, 1012, [2094, 2096, 2098, 2100, 2102, 2104, 2106, 2108, 2110, 2112, 2114, 2116]), (1023, 1001, [2130, 2132, 2134, 2136, 2138, 2140, 2142, 2144, 2146, 2148, 2150]), (5173, 1013, [6031, 6033, 6035, 6037, 6039, 6041, 6043, 6045, 6047, 6049, 6051, 6053, 6055, 6057, 6059, 6061, 6063, 6065, 6067, 6069, 6071, 6073, 6075, 6077, 6079, 6081, 6083, 6085, 6087, 6089, 6091, 6093, 6095, 6097, 6099, 6101, 6103, 6105, 6107, 6109, 6111, 6113, 6115, 6117, 6119, 6121, 6123, 6125, 6127, 6129, 6131, 6133, 6135, 6137, 6139, 6141, 6143, 6145, 6147, 6149, 6151, 6153, 6155, 6157, 6159, 6161, 6163, 6165, 6167, 6169, 6171, 6173, 6175, 6177, 6179, 6181, 6183, 6185, 6187, 6189, 6191, 6193, 6195, 6197, 6199, 6201, 6203, 6205, 6207, 6209])]
theorem mx_lays_ok : ∀ ci, ci < 13 → (mx_has (mx_lays.getD ci (0, 0, [])).1 (Cond.instantiable (mx_c ci).1 (mx_c ci).2.2) && mx_has (mx_lays.getD ci (0, 0, [])).2.1 (Cond.initialized (mx_c ci).1) && (List.range (mx_c ci).2.2).all (fun k => mx_has ((mx_lays.getD ci (0, 0, [])).2.2.getD k 0) (u_lay (mx_c ci).1 (mx_c ci).2.1 k))) = true := by decide +kernel
theorem mx_inst (ci : Nat) (h : ci < 13) : Cond.instantiable (mx_c ci).1 (mx_c ci).2.2 ∈ mx_tb ∧ Cond.initialized (mx_c ci).1 ∈ mx_tb := by
  have := mx_lays_ok ci h
  rw [Bool.and_eq_true, Bool.and_eq_true] at this
  exact ⟨mx_has_ok this.1.1, mx_has_ok this.1.2⟩
theorem mx_in_tb (ci : Nat) (h : ci < 13) : ∀ w ∈ u_ws (mx_c ci).1 (mx_c ci).2.1 (mx_c ci).2.2, w ∈ mx_tb := by
  have h1 := mx_lays_ok ci h
  rw [Bool.and_eq_true, Bool.and_eq_true] at h1
  intro w hw
  obtain ⟨k, hk, rfl⟩ := List.mem_map.mp hw
  exact mx_has_ok (List.all_eq_true.mp h1.2 k hk)
theorem mx_cls : ∀ ci, ci < 13 → mx_cl ci (mx_c ci).1 (mx_c ci).2.1 (mx_c ci).2.2 (mx_ty ci) := by
  intro ci h
  have h1 := mx_in_tb ci h
  match ci, h, h1 with
  | 0, _, h1 => exact ⟨rfl, h1, tyX0_ok, nmX0⟩
  | 1, _, h1 => exact ⟨rfl, h1, tyX1_ok, nmX1⟩
  | 2, _, h1 => exact ⟨rfl, h1, tyX2_ok, nmX2⟩
  | 3, _, h1 => exact ⟨rfl, h1, tyX3_ok, nmX3⟩
  | 4, _, h1 => exact ⟨rfl, h1, tyX4_ok, nmX4⟩
  | 5, _, h1 => exact ⟨rfl, h1, tyX5_ok, nmX5⟩
  | 6, _, h1 => exact ⟨rfl, h1, tyX6_ok, nmX6⟩
  | 7, _, h1 => exact ⟨rfl, h1, tyX7_ok, nmX7⟩
  | 8, _, h1 => exact ⟨rfl, h1, tyX8_ok, nmX8⟩
  | 9, _, h1 => exact ⟨rfl, h1, tyX9_ok, nmX9⟩
  | 10, _, h1 => exact ⟨rfl, h1, tyX10_ok, nmX10⟩
  | 11, _, h1 => exact ⟨rfl, h1, tyX11_ok, nmX11⟩
  | 12, _, h1 => exact ⟨rfl, h1, tyX12_ok, nmX12⟩
  | n + 13, h, _ => exact absurd h (by omega)
def mx_flk (own : String) (index ci k : Nat) : Cond := Cond.fieldLink own index ((mx_c ci).2.1 k).1 ((mx_c ci).2.1 k).2.1 ((mx_c ci).2.1 k).2.2.1
def mx_step (sL : Nat) (sx : Nat → Int32) (q : mx_In) (pc : Nat) (ls : List (Nat × Value)) (st : List Value) (hp : List va_E) : Option mx_Cf := match q.1 with
  | .iconst n => some (pc + 1, ls, .int (Int32.ofInt n) :: st, hp, 0, 0)
  | .bipush n => some (pc + 2, ls, .int (Int8.ofInt n).toInt32 :: st, hp, 0, 0)
  | .sipush n => some (pc + 3, ls, .int (Int16.ofInt n).toInt32 :: st, hp, 0, 0)
  | .aconst_null => some (pc + 1, ls, .null :: st, hp, 0, 0)
  | .ldc i => some (pc + 2, ls, .int (Int32.ofNat q.2.2.1) :: st, hp, 0, 0)
  | .iload_n i => mx_a_li (pc + 1) i.val ls st hp
  | .iload i => mx_a_li (pc + 2) i ls st hp
  | .aload_n i => mx_a_la (pc + 1) i.val ls st hp
  | .aload i => mx_a_la (pc + 2) i ls st hp
  | .istore_n i => mx_a_si (pc + 1) i.val ls st hp
  | .istore i => mx_a_si (pc + 2) i ls st hp
  | .astore_n i => mx_a_sa (pc + 1) i.val ls st hp
  | .astore i => mx_a_sa (pc + 2) i ls st hp
  | .iinc i n => mx_a_inc (pc + 3) i n ls st hp
  | .iadd => mx_a_2 (fun x y => x + y) (pc + 1) ls st hp
  | .isub => mx_a_2 (fun x y => x - y) (pc + 1) ls st hp
  | .imul => mx_a_2 (fun x y => x * y) (pc + 1) ls st hp
  | .iand => mx_a_2 (fun x y => x &&& y) (pc + 1) ls st hp
  | .ior => mx_a_2 (fun x y => x ||| y) (pc + 1) ls st hp
  | .ixor => mx_a_2 (fun x y => x ^^^ y) (pc + 1) ls st hp
  | .ishl => mx_a_2 (fun x y => x <<< (y &&& 31)) (pc + 1) ls st hp
  | .ishr => mx_a_2 (fun x y => x >>> (y &&& 31)) (pc + 1) ls st hp
  | .iushr => mx_a_2 (fun x y => (x.toUInt32 >>> (y.toUInt32 &&& Int32.toUInt32 31)).toInt32) (pc + 1) ls st hp
  | .idiv => mx_a_2n (fun x y => x / y) (pc + 1) ls st hp
  | .irem => mx_a_2n (fun x y => x - x / y * y) (pc + 1) ls st hp
  | .ineg => mx_a_1 (fun x => -x) (pc + 1) ls st hp
  | .i2c => mx_a_1 (fun x => (x.toUInt32 % 65536).toInt32) (pc + 1) ls st hp
  | .ifCond .eq off => mx_a_b1 (fun x => decide (x = 0)) q.2.2.1 (pc + 3) ls st hp
  | .if_icmp .eq off => mx_a_b2 (fun x y => decide (x = y)) q.2.2.1 (pc + 3) ls st hp
  | .ifCond .ne off => mx_a_b1 (fun x => decide (x ≠ 0)) q.2.2.1 (pc + 3) ls st hp
  | .if_icmp .ne off => mx_a_b2 (fun x y => decide (x ≠ y)) q.2.2.1 (pc + 3) ls st hp
  | .ifCond .lt off => mx_a_b1 (fun x => decide (x < 0)) q.2.2.1 (pc + 3) ls st hp
  | .if_icmp .lt off => mx_a_b2 (fun x y => decide (x < y)) q.2.2.1 (pc + 3) ls st hp
  | .ifCond .ge off => mx_a_b1 (fun x => decide (0 ≤ x)) q.2.2.1 (pc + 3) ls st hp
  | .if_icmp .ge off => mx_a_b2 (fun x y => decide (y ≤ x)) q.2.2.1 (pc + 3) ls st hp
  | .ifCond .gt off => mx_a_b1 (fun x => decide (0 < x)) q.2.2.1 (pc + 3) ls st hp
  | .if_icmp .gt off => mx_a_b2 (fun x y => decide (y < x)) q.2.2.1 (pc + 3) ls st hp
  | .ifCond .le off => mx_a_b1 (fun x => decide (x ≤ 0)) q.2.2.1 (pc + 3) ls st hp
  | .if_icmp .le off => mx_a_b2 (fun x y => decide (x ≤ y)) q.2.2.1 (pc + 3) ls st hp
  | .goto off => some (q.2.2.1, ls, st, hp, 0, 0)
  | .tableswitch dflt lo hi offs => mx_a_ts pc dflt lo hi offs ls st hp
  | .getfield index => mx_a_get q.2.2.1 q.2.2.2.1 (pc + 3) ls st hp
  | .putfield index => mx_a_put q.2.2.1 q.2.2.2.1 (pc + 3) ls st hp
  | .iaload => mx_a_ald sL sx (pc + 1) ls st hp
  | .iastore => mx_a_ast (pc + 1) ls st hp
  | .baload => mx_a_zld (pc + 1) ls st hp
  | .bastore => mx_a_zst (pc + 1) ls st hp
  | .arraylength => mx_a_len sL sx (pc + 1) ls st hp
  | .newarray .int => mx_a_na 0 (pc + 2) ls st hp
  | .newarray .boolean => mx_a_na 1 (pc + 2) ls st hp
  | .new index => mx_a_new q.2.2.1 (pc + 3) ls st hp
  | .dup => mx_a_dup (pc + 1) ls st hp
  | .pop => mx_a_pop (pc + 1) ls st hp
  | .dup_x1 => mx_a_dx1 (pc + 1) ls st hp
  | .dup_x2 => mx_a_dx2 (pc + 1) ls st hp
  | .dup2 => mx_a_d2 (pc + 1) ls st hp
  | _ => none
def mx_ck1 (M : mx_Me) (pc : Nat) (q : mx_In) : Bool := match q.1 with
  | .iconst n => Nat.beq q.2.1 1
  | .bipush n => Nat.beq q.2.1 2
  | .sipush n => Nat.beq q.2.1 3
  | .aconst_null => Nat.beq q.2.1 1
  | .ldc i => Nat.beq q.2.1 2 && mx_has q.2.2.2.2 (Cond.constant M.1.cls i (Int32.ofNat q.2.2.1))
  | .iload_n i => Nat.beq q.2.1 1
  | .iload i => Nat.beq q.2.1 2
  | .aload_n i => Nat.beq q.2.1 1
  | .aload i => Nat.beq q.2.1 2
  | .istore_n i => Nat.beq q.2.1 1 && Nat.blt i.val M.2.2.1
  | .istore i => Nat.beq q.2.1 2 && Nat.blt i M.2.2.1
  | .astore_n i => Nat.beq q.2.1 1 && Nat.blt i.val M.2.2.1
  | .astore i => Nat.beq q.2.1 2 && Nat.blt i M.2.2.1
  | .iinc i n => Nat.beq q.2.1 3 && Nat.blt i M.2.2.1
  | .iadd => Nat.beq q.2.1 1
  | .isub => Nat.beq q.2.1 1
  | .imul => Nat.beq q.2.1 1
  | .iand => Nat.beq q.2.1 1
  | .ior => Nat.beq q.2.1 1
  | .ixor => Nat.beq q.2.1 1
  | .ishl => Nat.beq q.2.1 1
  | .ishr => Nat.beq q.2.1 1
  | .iushr => Nat.beq q.2.1 1
  | .idiv => Nat.beq q.2.1 1
  | .irem => Nat.beq q.2.1 1
  | .ineg => Nat.beq q.2.1 1
  | .i2c => Nat.beq q.2.1 1
  | .ifCond .eq off => Nat.beq q.2.1 3 && decide ((pc : Int) + off = (q.2.2.1 : Int))
  | .if_icmp .eq off => Nat.beq q.2.1 3 && decide ((pc : Int) + off = (q.2.2.1 : Int))
  | .ifCond .ne off => Nat.beq q.2.1 3 && decide ((pc : Int) + off = (q.2.2.1 : Int))
  | .if_icmp .ne off => Nat.beq q.2.1 3 && decide ((pc : Int) + off = (q.2.2.1 : Int))
  | .ifCond .lt off => Nat.beq q.2.1 3 && decide ((pc : Int) + off = (q.2.2.1 : Int))
  | .if_icmp .lt off => Nat.beq q.2.1 3 && decide ((pc : Int) + off = (q.2.2.1 : Int))
  | .ifCond .ge off => Nat.beq q.2.1 3 && decide ((pc : Int) + off = (q.2.2.1 : Int))
  | .if_icmp .ge off => Nat.beq q.2.1 3 && decide ((pc : Int) + off = (q.2.2.1 : Int))
  | .ifCond .gt off => Nat.beq q.2.1 3 && decide ((pc : Int) + off = (q.2.2.1 : Int))
  | .if_icmp .gt off => Nat.beq q.2.1 3 && decide ((pc : Int) + off = (q.2.2.1 : Int))
  | .ifCond .le off => Nat.beq q.2.1 3 && decide ((pc : Int) + off = (q.2.2.1 : Int))
  | .if_icmp .le off => Nat.beq q.2.1 3 && decide ((pc : Int) + off = (q.2.2.1 : Int))
  | .goto off => Nat.beq q.2.1 3 && decide ((pc : Int) + off = (q.2.2.1 : Int))
  | .tableswitch dflt lo hi offs => true
  | .getfield index => Nat.beq q.2.1 3 && Nat.blt q.2.2.1 13 && Nat.blt q.2.2.2.1 (mx_c q.2.2.1).2.2 && mx_has q.2.2.2.2 (mx_flk M.1.cls index q.2.2.1 q.2.2.2.1)
  | .putfield index => Nat.beq q.2.1 3 && Nat.blt q.2.2.1 13 && Nat.blt q.2.2.2.1 (mx_c q.2.2.1).2.2 && mx_has q.2.2.2.2 (mx_flk M.1.cls index q.2.2.1 q.2.2.2.1) && decide (((mx_c q.2.2.1).2.1 q.2.2.2.1).2.2.2 = false ∨ (((mx_c q.2.2.1).2.1 q.2.2.2.1).2.2.2 = true ∧ M.1.name = "<init>" ∧ ((mx_c q.2.2.1).2.1 q.2.2.2.1).1 = M.1.cls))
  | .iaload => Nat.beq q.2.1 1
  | .iastore => Nat.beq q.2.1 1
  | .baload => Nat.beq q.2.1 1
  | .bastore => Nat.beq q.2.1 1
  | .arraylength => Nat.beq q.2.1 1
  | .newarray .int => Nat.beq q.2.1 2 && mx_has q.2.2.2.2 (Cond.arrayClass .int)
  | .newarray .boolean => Nat.beq q.2.1 2 && mx_has q.2.2.2.2 (Cond.arrayClass .boolean)
  | .new index => Nat.beq q.2.1 3 && Nat.blt q.2.2.1 13 && mx_has q.2.2.2.2 (Cond.classLink M.1.cls index (mx_c q.2.2.1).1)
  | .dup => Nat.beq q.2.1 1
  | .pop => Nat.beq q.2.1 1
  | .dup_x1 => Nat.beq q.2.1 1
  | .dup_x2 => Nat.beq q.2.1 1
  | .dup2 => Nat.beq q.2.1 1
  | _ => true
theorem mx_step_ok {l : Launch} {E : mx_Ev} {M : mx_Me} {R : Room} {mc ms : Nat} {K : Option Value → List va_E → Prop} {cells slots pc : Nat} {ls : List (Nat × Value)} {st : List Value} {hp : List va_E} {q1 : mx_Cf} {q : mx_In} {sL : Nat} {sx : Nat → Int32} (hsL : sL = E.2.2.2.2.2.2.1) (hsx : sx = E.2.2.2.2.2.2.2) (hd : decode M.2.1 pc = .ok (q.1, q.2.1)) (hck : mx_ck1 M pc q = true) (h : mx_step sL sx q pc ls st hp = some q1) (hC : cells + q1.2.2.2.2.1 ≤ R.cells) (hS : slots + q1.2.2.2.2.2 ≤ R.slots) (k : mx_G l E M R mc ms K cells slots q1) : mx_W l E M R mc ms K cells slots pc ls st hp := by
  have hl1 : ∀ {i : Instr} {n : Nat}, decode M.2.1 pc = .ok (i, q.2.1) → Nat.beq q.2.1 n = true → decode M.2.1 pc = .ok (i, n) := by
    intro i n h1 h2
    rw [h1, Nat.eq_of_beq_eq_true h2]
  obtain ⟨ins, q⟩ := q
  dsimp only at hd hl1
  unfold mx_step at h
  unfold mx_ck1 at hck
  dsimp only at h hck
  split at h
  · cases h; exact mx_iconst (hl1 hd hck) rfl k
  · cases h; exact mx_bipush (hl1 hd hck) rfl k
  · cases h; exact mx_sipush (hl1 hd hck) rfl k
  · cases h; exact mx_null (hl1 hd hck) k
  · rw [Bool.and_eq_true] at hck; cases h; exact mx_ldc (hl1 hd hck.1) (mx_has_ok hck.2) k
  · exact mx_l_li (fun x hx kk => mx_iload_n (hl1 hd hck) hx kk) h k
  · exact mx_l_li (fun x hx kk => mx_iload (hl1 hd hck) hx kk) h k
  · exact mx_l_la (fun x hx kk => mx_aload_n (hl1 hd hck) hx kk) h k
  · exact mx_l_la (fun x hx kk => mx_aload (hl1 hd hck) hx kk) h k
  · rw [Bool.and_eq_true] at hck; exact mx_l_si (fun x r kk => mx_istore_n (hl1 hd hck.1) (Nat.ble_eq.mp hck.2) kk) h k
  · rw [Bool.and_eq_true] at hck; exact mx_l_si (fun x r kk => mx_istore (hl1 hd hck.1) (Nat.ble_eq.mp hck.2) kk) h k
  · rw [Bool.and_eq_true] at hck; exact mx_l_sa (fun x r kk => mx_astore_n (hl1 hd hck.1) (Nat.ble_eq.mp hck.2) kk) h k
  · rw [Bool.and_eq_true] at hck; exact mx_l_sa (fun x r kk => mx_astore (hl1 hd hck.1) (Nat.ble_eq.mp hck.2) kk) h k
  · rw [Bool.and_eq_true] at hck; exact mx_l_inc (hl1 hd hck.1) (Nat.ble_eq.mp hck.2) h k
  · exact mx_l_2 (fun x y r kk => mx_iadd (hl1 hd hck) kk) h k
  · exact mx_l_2 (fun x y r kk => mx_isub (hl1 hd hck) kk) h k
  · exact mx_l_2 (fun x y r kk => mx_imul (hl1 hd hck) kk) h k
  · exact mx_l_2 (fun x y r kk => mx_iand (hl1 hd hck) kk) h k
  · exact mx_l_2 (fun x y r kk => mx_ior (hl1 hd hck) kk) h k
  · exact mx_l_2 (fun x y r kk => mx_ixor (hl1 hd hck) kk) h k
  · exact mx_l_2 (fun x y r kk => mx_ishl (hl1 hd hck) kk) h k
  · exact mx_l_2 (fun x y r kk => mx_ishr (hl1 hd hck) kk) h k
  · exact mx_l_2 (fun x y r kk => mx_iushr (hl1 hd hck) kk) h k
  · exact mx_l_2n (fun x y r hy kk => mx_idiv (hl1 hd hck) hy kk) h k
  · exact mx_l_2n (fun x y r hy kk => mx_irem (hl1 hd hck) hy kk) h k
  · exact mx_l_1 (fun x r kk => mx_ineg (hl1 hd hck) kk) h k
  · exact mx_l_1 (fun x r kk => mx_i2c (hl1 hd hck) kk) h k
  · rw [Bool.and_eq_true] at hck; exact mx_l_b1 (fun x r ht hf => mx_if_eq (hl1 hd hck.1) (of_decide_eq_true hck.2) (fun hp2 => ht (decide_eq_true hp2)) (fun hp2 => hf (decide_eq_false hp2))) h k
  · rw [Bool.and_eq_true] at hck; exact mx_l_b2 (fun x y r ht hf => mx_icmp_eq (hl1 hd hck.1) (of_decide_eq_true hck.2) (fun hp2 => ht (decide_eq_true hp2)) (fun hp2 => hf (decide_eq_false hp2))) h k
  · rw [Bool.and_eq_true] at hck; exact mx_l_b1 (fun x r ht hf => mx_if_ne (hl1 hd hck.1) (of_decide_eq_true hck.2) (fun hp2 => ht (decide_eq_true hp2)) (fun hp2 => hf (decide_eq_false (fun hn => hn hp2)))) h k
  · rw [Bool.and_eq_true] at hck; exact mx_l_b2 (fun x y r ht hf => mx_icmp_ne (hl1 hd hck.1) (of_decide_eq_true hck.2) (fun hp2 => ht (decide_eq_true hp2)) (fun hp2 => hf (decide_eq_false (fun hn => hn hp2)))) h k
  · rw [Bool.and_eq_true] at hck; exact mx_l_b1 (fun x r ht hf => mx_if_lt (hl1 hd hck.1) (of_decide_eq_true hck.2) (fun hp2 => ht (decide_eq_true hp2)) (fun hp2 => hf (decide_eq_false hp2))) h k
  · rw [Bool.and_eq_true] at hck; exact mx_l_b2 (fun x y r ht hf => mx_icmp_lt (hl1 hd hck.1) (of_decide_eq_true hck.2) (fun hp2 => ht (decide_eq_true hp2)) (fun hp2 => hf (decide_eq_false hp2))) h k
  · rw [Bool.and_eq_true] at hck; exact mx_l_b1 (fun x r ht hf => mx_if_ge (hl1 hd hck.1) (of_decide_eq_true hck.2) (fun hp2 => ht (decide_eq_true hp2)) (fun hp2 => hf (decide_eq_false hp2))) h k
  · rw [Bool.and_eq_true] at hck; exact mx_l_b2 (fun x y r ht hf => mx_icmp_ge (hl1 hd hck.1) (of_decide_eq_true hck.2) (fun hp2 => ht (decide_eq_true hp2)) (fun hp2 => hf (decide_eq_false hp2))) h k
  · rw [Bool.and_eq_true] at hck; exact mx_l_b1 (fun x r ht hf => mx_if_gt (hl1 hd hck.1) (of_decide_eq_true hck.2) (fun hp2 => ht (decide_eq_true hp2)) (fun hp2 => hf (decide_eq_false hp2))) h k
  · rw [Bool.and_eq_true] at hck; exact mx_l_b2 (fun x y r ht hf => mx_icmp_gt (hl1 hd hck.1) (of_decide_eq_true hck.2) (fun hp2 => ht (decide_eq_true hp2)) (fun hp2 => hf (decide_eq_false hp2))) h k
  · rw [Bool.and_eq_true] at hck; exact mx_l_b1 (fun x r ht hf => mx_if_le (hl1 hd hck.1) (of_decide_eq_true hck.2) (fun hp2 => ht (decide_eq_true hp2)) (fun hp2 => hf (decide_eq_false hp2))) h k
  · rw [Bool.and_eq_true] at hck; exact mx_l_b2 (fun x y r ht hf => mx_icmp_le (hl1 hd hck.1) (of_decide_eq_true hck.2) (fun hp2 => ht (decide_eq_true hp2)) (fun hp2 => hf (decide_eq_false hp2))) h k
  · rw [Bool.and_eq_true] at hck; cases h; exact mx_goto (hl1 hd hck.1) (of_decide_eq_true hck.2) k
  · exact mx_l_ts hd h k
  · simp only [Bool.and_eq_true] at hck; exact mx_l_get (hl1 hd hck.1.1.1) (mx_cls _ (Nat.ble_eq.mp hck.1.1.2)) (mx_has_ok hck.2) (Nat.ble_eq.mp hck.1.2) h k
  · simp only [Bool.and_eq_true] at hck; exact mx_l_put (hl1 hd hck.1.1.1.1) (mx_cls _ (Nat.ble_eq.mp hck.1.1.1.2)) (mx_has_ok hck.1.2) (Nat.ble_eq.mp hck.1.1.2) (of_decide_eq_true hck.2) h k
  · subst hsL; subst hsx; exact mx_l_ald (hl1 hd hck) h k
  · exact mx_l_ast (hl1 hd hck) h k
  · exact mx_l_zld (hl1 hd hck) h k
  · exact mx_l_zst (hl1 hd hck) h k
  · subst hsL; subst hsx; exact mx_l_len (hl1 hd hck) h k
  · rw [Bool.and_eq_true] at hck; exact mx_l_na (fun n r h1 h2 h3 h4 h5 kk => mx_newi (hl1 hd hck.1) (mx_has_ok hck.2) h1 rfl h2 h3 h4 h5 kk) h hC hS k
  · rw [Bool.and_eq_true] at hck; exact mx_l_na (fun n r h1 h2 h3 h4 h5 kk => mx_newz (hl1 hd hck.1) (mx_has_ok hck.2) h1 rfl h2 h3 h4 h5 kk) h hC hS k
  · simp only [Bool.and_eq_true] at hck; exact mx_l_new (hl1 hd hck.1.1) (mx_cls _ (Nat.ble_eq.mp hck.1.2)) (mx_has_ok hck.2) (mx_inst _ (Nat.ble_eq.mp hck.1.2)).1 (mx_inst _ (Nat.ble_eq.mp hck.1.2)).2 h hC hS k
  · exact mx_l_dup (hl1 hd hck) h k
  · exact mx_l_pop (hl1 hd hck) h k
  · exact mx_l_dx1 (hl1 hd hck) h k
  · exact mx_l_dx2 (hl1 hd hck) h k
  · exact mx_l_d2 (hl1 hd hck) h k
  · cases h
end
section
/-! ===== System.arraycopy between int arrays; Math.max, Math.min ===== -/
theorem mx_nfw : nativeFrameWords "java/lang/System" "arraycopy" 5 ≤ 21 := by decide +kernel
section MXY
variable {l : Launch} {E : mx_Ev} {M : mx_Me} {R : Room} {mc ms : Nat} {K : Option Value → List va_E → Prop} {cells slots pc : Nat} {ls : List (Nat × Value)} {st : List Value} {hp : List va_E}
theorem mx_copyi {index i0 i1 n0 n1 : Nat} {f g : Nat → Int32} {sp dp n : Int32} {rest : List Value} (hd : decode M.2.1 pc = .ok (.invokestatic index, 3)) (hw : Cond.methodLink M.1.cls index arraycopyName ∈ mx_tb ∧ Cond.native arraycopyName ∈ mx_tb ∧ Cond.static arraycopyName ∈ mx_tb ∧ Cond.initialized "java/lang/System" ∈ mx_tb) (hi0 : hp[i0]? = some (.inl (0, n0, .inl f))) (hi1 : hp[i1]? = some (.inl (0, n1, .inl g))) (h1 : ¬ sp < 0) (h2 : ¬ dp < 0) (h3 : ¬ n < 0) (h4 : sp.toNatClampNeg + n.toNatClampNeg ≤ n0) (h5 : dp.toNatClampNeg + n.toNatClampNeg ≤ n1) (hs : (rest.map fun v => v.category).sum ≤ 8) (hR : 1 ≤ R.frames ∧ 40 ≤ R.locals)
    (kk : mx_W l E M R mc ms K cells slots (pc + 3) ls rest (hp.set i1 (.inl (0, n1, .inl (va_cpy f g sp.toNatClampNeg dp.toNatClampNeg n.toNatClampNeg))))) : mx_W l E M R mc ms K cells slots pc ls (.int n :: .int dp :: .ref i1 :: .int sp :: .ref i0 :: rest) hp :=
  fun p e s m args below meth c H locs lv C0 P S L => by
    have hD := P.D C0.1
    have ha0 := mx_w_at (r := E.1) (cA := E.2.1) hi0
    have ha1 := mx_w_at (r := E.1) (cA := E.2.1) hi1
    have nn : ∀ z : Int32, ¬ z < 0 → z.toInt = (z.toNatClampNeg : Int) := by
      intro z hz
      have hz0 : (0 : Int) ≤ z.toInt := by
        have := Int32.not_lt.mp hz
        simpa using Int32.le_iff_toInt_le.mp this
      show z.toInt = ((z.toInt.toNat : Nat) : Int)
      omega
    intro T hT X
    have hc0 : H[E.1 i0]? = some (vp_cell (E.2.1 0) (n0, .inl f)) := P.1 i0 _ ha0
    have hc1 : H[E.1 i1]? = some (vp_cell (E.2.1 0) (n1, .inl g)) := P.1 i1 _ ha1
    obtain ⟨-, k0, hk0, cm0, hkk0⟩ := (C0.kn.2 0 _ rfl).1 n0 (fun j => .int (f j))
    obtain ⟨-, k1, hk1, cm1, hkk1⟩ := (C0.kn.2 0 _ rfl).1 n1 (fun j => .int (g j))
    obtain ⟨vm', X', step⟩ := X.arraycopy (own := M.1.cls) C0.2.1 C0.own (C0.ts _ hw.1) (C0.ts _ hw.2.1) (C0.ts _ hw.2.2.1) (C0.ts _ hw.2.2.2) (src := E.1 i0) (dst := E.1 i1) (cs := vp_cell (E.2.1 0) (n0, .inl f)) (cd := vp_cell (E.2.1 0) (n1, .inl g)) (srcPos := sp) (destPos := dp) (n := n) (by rw [hT]; exact hc0) (by rw [hT]; exact hc1)
      (fun _ h => by cases h) (fun _ h => by cases h) (fun h => by cases h) (fun h => by cases h) hk0 hk1 hkk0 hkk1 (by simp [refKind]) h1 h2 h3
      (by rw [nn sp h1, nn n h3]; show ¬ _ > ((arrV (E.2.1 0) n0 (fun j => .int (f j))).slots.size : Int); rw [arrV_size]; omega)
      (by rw [nn dp h2, nn n h3]; show ¬ _ > ((arrV (E.2.1 0) n1 (fun j => .int (g j))).slots.size : Int); rw [arrV_size]; omega)
      (fun vm₁ _ i hi => by
        have e : (vp_cell (E.2.1 0) (n0, .inl f)).slots.getD (sp.toNatClampNeg + i) .null = .int (f (sp.toNatClampNeg + i)) := by
          show (arrV (E.2.1 0) n0 (fun j => .int (f j))).slots.getD _ _ = _
          rw [Array.getD_eq_getD_getElem?, arrV_read _ _ (by omega)]
          rfl
        refine ⟨?_, ?_⟩
        · rw [e]; rfl
        · rw [e]; exact trivial)
      (g := F0 m pc lv (.int n :: .int dp :: .ref (E.1 i1) :: .int sp :: .ref (E.1 i0) :: rest.map (mx_v E.1))) rfl (L.1.trans C0.2.2.2.1.symm) (rest := rest.map (mx_v E.1)) rfl (by rw [C0.2.2.1]; exact hd) hR.1 (by
        have h8 := mx_sum (E := E) hs
        have hw2 := mx_nfw
        show 2 * 0 + _ + _ ≤ _
        omega)
    have e1 : copied (vp_cell (E.2.1 0) (n0, .inl f)) (vp_cell (E.2.1 0) (n1, .inl g)) sp dp n = vp_cell (E.2.1 0) (n1, .inl (va_cpy f g sp.toNatClampNeg dp.toNatClampNeg n.toNatClampNeg)) := va_copied (fun z => .int z) (E.2.1 0) (E.2.1 0) f g h4
    rw [e1] at X' step
    have hl : E.1 i1 < H.size := (Array.getElem?_eq_some_iff.mp hc1).1
    have hheap : ((T.setVm vm').setCell (E.1 i1) (vp_cell (E.2.1 0) (n1, .inl (va_cpy f g sp.toNatClampNeg dp.toNatClampNeg n.toNatClampNeg)))).heap = H.setIfInBounds (E.1 i1) (vp_cell (E.2.1 0) (n1, .inl (va_cpy f g sp.toNatClampNeg dp.toNatClampNeg n.toNatClampNeg))) := by rw [← hT]; rfl
    have oq : ∀ q : Nat, q ≠ E.1 i1 → (H.setIfInBounds (E.1 i1) (vp_cell (E.2.1 0) (n1, .inl (va_cpy f g sp.toNatClampNeg dp.toNatClampNeg n.toNatClampNeg))))[q]? = H[q]? := fun q hq => by simp [Array.getElem?_setIfInBounds, Ne.symm hq]
    have hP := P.1.set (e := mx_e E.1 E.2.1 (.inl (0, n1, .inl (va_cpy f g sp.toNatClampNeg dp.toNatClampNeg n.toNatClampNeg)))) hD ha1 (show (H.setIfInBounds (E.1 i1) _)[E.1 i1]? = some _ by simp [Array.getElem?_setIfInBounds, hl]) oq
    rw [mx_w_set] at hP
    obtain ⟨t, a1, b1⟩ := kk p e s m args below meth c _ _ lv C0 ⟨hP, by simp; exact P.2.1, by rw [List.length_set]; exact P.2.2⟩ ⟨by simp; exact S.1, fun q g1 g2 => by
        rw [oq q (fun e => g2 (by rw [e]; exact hD.2 i1 _ ha1))]
        exact S.2.1 q g1 g2, fun q hq => by
        rcases List.mem_append.mp hq with h | h
        · exact S.2.2 q h
        · obtain ⟨z, -, hz⟩ := List.mem_map.mp h
          rw [← hz]
          exact hD.2 i1 _ ha1⟩ L _ hheap X'
    exact ⟨t, step t a1, b1⟩
end MXY
def mx_a_cpy (pc : Nat) (ls : List (Nat × Value)) (st : List Value) (hp : List va_E) : Option mx_Cf := match st with
  | .int n :: .int dp :: .ref i1 :: .int sp :: .ref i0 :: r => match hp[i0]? with
    | some (.inl (0, n0, .inl f)) => match hp[i1]? with
      | some (.inl (0, n1, .inl g)) => cond (decide (¬ sp < 0) && decide (¬ dp < 0) && decide (¬ n < 0) && Nat.ble (sp.toNatClampNeg + n.toNatClampNeg) n0 && Nat.ble (dp.toNatClampNeg + n.toNatClampNeg) n1 && Nat.ble (mx_cs r) 8) (some (pc, ls, r, hp.set i1 (.inl (0, n1, .inl (va_cpy f g sp.toNatClampNeg dp.toNatClampNeg n.toNatClampNeg))), 0, 0)) none
      | _ => none
    | _ => none
  | _ => none
theorem mx_l_cpy {l : Launch} {E : mx_Ev} {M : mx_Me} {R : Room} {mc ms : Nat} {K : Option Value → List va_E → Prop} {cells slots pc : Nat} {ls : List (Nat × Value)} {st : List Value} {hp : List va_E} {q1 : mx_Cf} {index : Nat} (hd : decode M.2.1 pc = .ok (.invokestatic index, 3)) (hw : Cond.methodLink M.1.cls index arraycopyName ∈ mx_tb ∧ Cond.native arraycopyName ∈ mx_tb ∧ Cond.static arraycopyName ∈ mx_tb ∧ Cond.initialized "java/lang/System" ∈ mx_tb) (hR : 1 ≤ R.frames ∧ 40 ≤ R.locals) (h : mx_a_cpy (pc + 3) ls st hp = some q1) (k : mx_G l E M R mc ms K cells slots q1) : mx_W l E M R mc ms K cells slots pc ls st hp := by
  unfold mx_a_cpy at h
  split at h
  · rename_i n dp i1 sp i0 r
    split at h
    · rename_i n0 f hi0
      split at h
      · rename_i n1 g hi1
        by_cases hq : (decide (¬ sp < 0) && decide (¬ dp < 0) && decide (¬ n < 0) && Nat.ble (sp.toNatClampNeg + n.toNatClampNeg) n0 && Nat.ble (dp.toNatClampNeg + n.toNatClampNeg) n1 && Nat.ble (mx_cs r) 8) = true
        · rw [hq] at h
          simp only [Bool.and_eq_true] at hq
          obtain ⟨⟨⟨⟨⟨q1', q2⟩, q3⟩, q4⟩, q5⟩, q6⟩ := hq
          cases h
          exact mx_copyi hd hw hi0 hi1 (of_decide_eq_true q1') (of_decide_eq_true q2) (of_decide_eq_true q3) (Nat.ble_eq.mp q4) (Nat.ble_eq.mp q5) (Nat.ble_eq.mp q6) hR k
        · rw [Bool.not_eq_true] at hq
          rw [hq] at h; cases h
      · cases h
    · cases h
  · cases h
def mx_a_m (f : Int32 → Int32 → Int32) (pc : Nat) (ls : List (Nat × Value)) (st : List Value) (hp : List va_E) : Option mx_Cf := match st with
  | .int y :: .int x :: r => cond (Nat.ble (mx_cs r) 8) (some (pc, ls, .int (f x y) :: r, hp, 0, 0)) none
  | _ => none
theorem mx_l_max {l : Launch} {E : mx_Ev} {M : mx_Me} {R : Room} {mc ms : Nat} {K : Option Value → List va_E → Prop} {cells slots pc : Nat} {ls : List (Nat × Value)} {st : List Value} {hp : List va_E} {q1 : mx_Cf} {index : Nat} (hd : decode M.2.1 pc = .ok (.invokestatic index, 3)) (hw : Cond.methodLink M.1.cls index Lib.Math.max.name ∈ mx_tb ∧ Cond.code Lib.Math.max.name Lib.Math.max.code 2 (some .int) ∈ mx_tb ∧ Cond.static Lib.Math.max.name ∈ mx_tb ∧ Cond.initialized "java/lang/Math" ∈ mx_tb) (hR : 1 ≤ R.frames ∧ 40 ≤ R.locals) (hc : cells ≤ R.cells) (hs : slots ≤ R.slots) (h : mx_a_m (fun x y => if x < y then y else x) (pc + 3) ls st hp = some q1) (k : mx_G l E M R mc ms K cells slots q1) : mx_W l E M R mc ms K cells slots pc ls st hp := by
  unfold mx_a_m at h
  split at h
  · rename_i y x r
    by_cases hq : Nat.ble (mx_cs r) 8 = true
    · rw [hq] at h
      cases h
      intro p e s m args below meth c H locs lv C0 P S L
      exact va_mmax (own := M.1.cls) C0.2.1 C0.2.2.1 (C0.2.2.2.1.trans L.1.symm) C0.own (C0.ts _ hw.1) (C0.ts _ hw.2.2.1) (C0.ts _ hw.2.2.2) (C0.ts _ hw.2.1) hR.1 (by have := mx_sum (E := E) (Nat.ble_eq.mp hq); omega) hc hs hd (k p e s m args below meth c H locs lv C0 P S L)
    · rw [Bool.not_eq_true] at hq
      rw [hq] at h; cases h
  · cases h
theorem mx_l_min {l : Launch} {E : mx_Ev} {M : mx_Me} {R : Room} {mc ms : Nat} {K : Option Value → List va_E → Prop} {cells slots pc : Nat} {ls : List (Nat × Value)} {st : List Value} {hp : List va_E} {q1 : mx_Cf} {index : Nat} (hd : decode M.2.1 pc = .ok (.invokestatic index, 3)) (hw : Cond.methodLink M.1.cls index Lib.Math.min.name ∈ mx_tb ∧ Cond.code Lib.Math.min.name Lib.Math.min.code 2 (some .int) ∈ mx_tb ∧ Cond.static Lib.Math.min.name ∈ mx_tb ∧ Cond.initialized "java/lang/Math" ∈ mx_tb) (hR : 1 ≤ R.frames ∧ 40 ≤ R.locals) (hc : cells ≤ R.cells) (hs : slots ≤ R.slots) (h : mx_a_m (fun x y => if y < x then y else x) (pc + 3) ls st hp = some q1) (k : mx_G l E M R mc ms K cells slots q1) : mx_W l E M R mc ms K cells slots pc ls st hp := by
  unfold mx_a_m at h
  split at h
  · rename_i y x r
    by_cases hq : Nat.ble (mx_cs r) 8 = true
    · rw [hq] at h
      cases h
      intro p e s m args below meth c H locs lv C0 P S L
      exact va_mmin (own := M.1.cls) C0.2.1 C0.2.2.1 (C0.2.2.2.1.trans L.1.symm) C0.own (C0.ts _ hw.1) (C0.ts _ hw.2.2.1) (C0.ts _ hw.2.2.2) (C0.ts _ hw.2.1) hR.1 (by have := mx_sum (E := E) (Nat.ble_eq.mp hq); omega) hc hs hd (k p e s m args below meth c H locs lv C0 P S L)
    · rw [Bool.not_eq_true] at hq
      rw [hq] at h; cases h
  · cases h
/-- what is called by its number: 7 System.arraycopy, 8 Math.max, 9 Math.min -/
def mx_nat (b pc : Nat) (ls : List (Nat × Value)) (st : List Value) (hp : List va_E) : Option mx_Cf := match b with
  | 7 => mx_a_cpy pc ls st hp
  | 8 => mx_a_m (fun x y => if x < y then y else x) pc ls st hp
  | 9 => mx_a_m (fun x y => if y < x then y else x) pc ls st hp
  | _ => none
/-- where 'java/lang/System is initialised' and 'java/lang/Math is initialised' stand -/
def mx_sysi : Nat := 1015
def mx_mthi : Nat := 1014
def mx_ckn (M : mx_Me) (index : Nat) (q : Nat × Nat × Nat × Nat) : Bool := match q.2.2.1 with
  | 7 => mx_has q.2.2.2 (.methodLink M.1.cls index arraycopyName) && mx_has q.2.1 (.native arraycopyName) && mx_has (q.2.1 - 1) (.static arraycopyName) && mx_has mx_sysi (.initialized "java/lang/System")
  | 8 => mx_has q.2.2.2 (.methodLink M.1.cls index Lib.Math.max.name) && mx_has q.2.1 (.code Lib.Math.max.name Lib.Math.max.code 2 (some .int)) && mx_has (q.2.1 - 1) (.static Lib.Math.max.name) && mx_has mx_mthi (.initialized "java/lang/Math")
  | 9 => mx_has q.2.2.2 (.methodLink M.1.cls index Lib.Math.min.name) && mx_has q.2.1 (.code Lib.Math.min.name Lib.Math.min.code 2 (some .int)) && mx_has (q.2.1 - 1) (.static Lib.Math.min.name) && mx_has mx_mthi (.initialized "java/lang/Math")
  | _ => false
theorem mx_l_nat {l : Launch} {E : mx_Ev} {M : mx_Me} {R : Room} {mc ms : Nat} {K : Option Value → List va_E → Prop} {cells slots pc : Nat} {ls : List (Nat × Value)} {st : List Value} {hp : List va_E} {q1 : mx_Cf} {index len a b w : Nat} (hd : decode M.2.1 pc = .ok (.invokestatic index, 3)) (hck : mx_ckn M index (len, a, b, w) = true) (hR : 1 ≤ R.frames ∧ 40 ≤ R.locals) (hc : cells ≤ R.cells) (hs : slots ≤ R.slots) (h : mx_nat b (pc + 3) ls st hp = some q1) (k : mx_G l E M R mc ms K cells slots q1) : mx_W l E M R mc ms K cells slots pc ls st hp := by
  unfold mx_nat at h
  unfold mx_ckn at hck
  dsimp only at hck
  split at h
  · simp only [Bool.and_eq_true] at hck
    exact mx_l_cpy hd ⟨mx_has_ok hck.1.1.1, mx_has_ok hck.1.1.2, mx_has_ok hck.1.2, mx_has_ok hck.2⟩ hR h k
  · simp only [Bool.and_eq_true] at hck
    exact mx_l_max hd ⟨mx_has_ok hck.1.1.1, mx_has_ok hck.1.1.2, mx_has_ok hck.1.2, mx_has_ok hck.2⟩ hR hc hs h k
  · simp only [Bool.and_eq_true] at hck
    exact mx_l_min hd ⟨mx_has_ok hck.1.1.1, mx_has_ok hck.1.1.2, mx_has_ok hck.1.2, mx_has_ok hck.2⟩ hR hc hs h k
  · cases h
end
section
/-! ===== THE EVALUATOR'S RUN, with calls; the machine does what it does ===== -/
/-- a program: of each method what it is, its parameters, where its words stand (code, initialised, of an object or static, selects), its rows -/
abbrev mx_En : Type := mx_Me × Nat × (Nat × Nat × Nat × Nat) × List (Nat × mx_In)
def mx_rok (t : Option FieldType) (v : Int32) : Bool := match t with
  | some .int => true
  | some .boolean => v == 0 || v == 1
  | _ => false
def mx_rv (t : Option FieldType) : Bool := match t with
  | none => true
  | _ => false
def mx_isc (hp : List va_E) (i ci : Nat) : Bool := match hp[i]? with
  | some (.inr (cj, _)) => Nat.beq cj ci
  | _ => false
def mx_run (sL : Nat) (sx : Nat → Int32) (pg : List mx_En) : Nat → Nat → Nat → Nat → List (Nat × Value) → List Value → List va_E → Nat → Nat → Option (Option Value × List va_E × Nat × Nat)
  | 0, _, _, _, _, _, _, _, _ => none
  | n + 1, d, mi, pc, ls, st, hp, c, s => match pg[mi]? with
    | none => none
    | some e => match mx_lk e.2.2.2 pc with
      | none => none
      | some q => match q.1 with
        | .ireturn => match st with
          | [.int v] => cond (mx_rok e.1.2.2.2 v) (some (some (.int v), hp, c, s)) none
          | _ => none
        | .return_ => match st with
          | [] => cond (mx_rv e.1.2.2.2) (some (none, hp, c, s)) none
          | _ => none
        | .invokevirtual _ => match d with
          | 0 => none
          | d1 + 1 => match pg[q.2.2.1]? with
            | none => none
            | some e1 => match st.drop e1.2.1 with
              | .ref i :: rest => cond (mx_isc hp i q.2.2.2.1 && Nat.ble (mx_cs rest) 8 && Nat.ble (lg_sl (.ref i :: (st.take e1.2.1).reverse)).length e1.1.2.2.1 && Nat.beq (st.take e1.2.1).length e1.2.1)
                (match mx_run sL sx pg n d1 q.2.2.1 0 (lv_args 0 (.ref i :: (st.take e1.2.1).reverse)) [] hp 0 0 with
                | none => none
                | some r => mx_run sL sx pg n (d1 + 1) mi (pc + 3) ls (r.1.toList ++ rest) r.2.1 (c + r.2.2.1) (s + r.2.2.2)) none
              | _ => none
        | .invokespecial _ => match d with
          | 0 => none
          | d1 + 1 => cond (Nat.beq q.2.2.2.1 1) (match st with
            | .ref _ :: rest => cond (Nat.ble (mx_cs rest) 8) (mx_run sL sx pg n (d1 + 1) mi (pc + 3) ls rest hp c s) none
            | _ => none) (match pg[q.2.2.1]? with
            | none => none
            | some e1 => match st.drop e1.2.1 with
              | .ref i :: rest => cond (Nat.ble (mx_cs rest) 8 && Nat.ble (lg_sl (.ref i :: (st.take e1.2.1).reverse)).length e1.1.2.2.1 && Nat.beq (st.take e1.2.1).length e1.2.1)
                (match mx_run sL sx pg n d1 q.2.2.1 0 (lv_args 0 (.ref i :: (st.take e1.2.1).reverse)) [] hp 0 0 with
                | none => none
                | some r => mx_run sL sx pg n (d1 + 1) mi (pc + 3) ls (r.1.toList ++ rest) r.2.1 (c + r.2.2.1) (s + r.2.2.2)) none
              | _ => none)
        | .invokestatic _ => match d with
          | 0 => none
          | d1 + 1 => cond (Nat.ble 7 q.2.2.2.1) (match mx_nat q.2.2.2.1 (pc + 3) ls st hp with
            | none => none
            | some f => mx_run sL sx pg n (d1 + 1) mi f.1 f.2.1 f.2.2.1 f.2.2.2.1 (c + f.2.2.2.2.1) (s + f.2.2.2.2.2)) (match pg[q.2.2.1]? with
            | none => none
            | some e1 => cond (Nat.ble (mx_cs (st.drop e1.2.1)) 8 && Nat.ble (lg_sl (st.take e1.2.1).reverse).length e1.1.2.2.1 && Nat.beq (st.take e1.2.1).length e1.2.1)
                (match mx_run sL sx pg n d1 q.2.2.1 0 (lv_args 0 (st.take e1.2.1).reverse) [] hp 0 0 with
                | none => none
                | some r => mx_run sL sx pg n (d1 + 1) mi (pc + 3) ls (r.1.toList ++ st.drop e1.2.1) r.2.1 (c + r.2.2.1) (s + r.2.2.2)) none)
        | _ => match mx_step sL sx q pc ls st hp with
          | none => none
          | some f => mx_run sL sx pg n d mi f.1 f.2.1 f.2.2.1 f.2.2.2.1 (c + f.2.2.2.2.1) (s + f.2.2.2.2.2)
/-- what is checked of a row -/
def mx_ck2 (pg : List mx_En) (M : mx_Me) (pc : Nat) (q : mx_In) : Bool := match q.1 with
  | .ireturn => Nat.beq q.2.1 1
  | .return_ => Nat.beq q.2.1 1
  | .invokevirtual index => match pg[q.2.2.1]? with
    | none => false
    | some e1 => Nat.beq q.2.1 3 && mx_has q.2.2.2.2 (.methodLink M.1.cls index e1.1.1) && mx_has e1.2.2.1.2.2.1 (.instanceMethod e1.1.1) && Nat.blt q.2.2.2.1 13 && mx_has e1.2.2.1.2.2.2 (.selects (mx_c q.2.2.2.1).1 e1.1.1 e1.1.1) && Nat.blt (q.2.2.1 + 1) pg.length
  | .invokespecial index => cond (Nat.beq q.2.2.2.1 1) (Nat.beq q.2.1 3 && mx_has q.2.2.2.2 (.methodLink M.1.cls index objectInit)) (match pg[q.2.2.1]? with
    | none => false
    | some e1 => Nat.beq q.2.1 3 && mx_has q.2.2.2.2 (.methodLink M.1.cls index e1.1.1) && mx_has e1.2.2.1.2.2.1 (.instanceMethod e1.1.1) && decide (e1.1.1.name = "<init>") && mx_rv e1.1.2.2.2 && Nat.blt (q.2.2.1 + 1) pg.length)
  | .invokestatic index => cond (Nat.ble 7 q.2.2.2.1) (Nat.beq q.2.1 3 && mx_ckn M index q.2) (match pg[q.2.2.1]? with
    | none => false
    | some e1 => Nat.beq q.2.1 3 && mx_has q.2.2.2.2 (.methodLink M.1.cls index e1.1.1) && mx_has e1.2.2.1.2.2.1 (.static e1.1.1) && Nat.blt (q.2.2.1 + 1) pg.length)
  | _ => mx_ck1 M pc q
/-- the last method is the law: nobody calls it -/
def mx_pok (pg : List mx_En) : Prop := (∀ (k : Nat) (e : mx_En), pg[k]? = some e → (k + 1 < pg.length → mx_me e.1 e.2.1 ∧ e.1.2.2.1 ≤ 21) ∧ ∀ x ∈ e.2.2.2, decode e.1.2.1 x.1 = .ok (x.2.1, x.2.2.1) ∧ mx_ck2 pg e.1 x.1 x.2 = true) ∧ (Cond.instanceMethod objectInit ∈ mx_tb ∧ Cond.code objectInit ⟨#[0xb1]⟩ 1 none ∈ mx_tb)
theorem mx_split {st : List Value} {n : Nat} {i : Nat} {rest : List Value} (h : st.drop n = .ref i :: rest) : st = ((st.take n).reverse).reverse ++ .ref i :: rest := by
  rw [List.reverse_reverse, ← h, List.take_append_drop]
theorem mx_rv_ok {t : Option FieldType} (h : mx_rv t = true) : t = none := by
  unfold mx_rv at h
  split at h
  · rfl
  · cases h
theorem mx_rok_ok {t : Option FieldType} {v : Int32} (h : mx_rok t v = true) : t = some .int ∨ (t = some .boolean ∧ (v = 0 ∨ v = 1)) := by
  unfold mx_rok at h
  split at h
  · exact Or.inl rfl
  · exact Or.inr ⟨rfl, by simpa using h⟩
  · cases h
set_option maxHeartbeats 4000000 in
theorem mx_sound {l : Launch} {E : mx_Ev} {pg : List mx_En} {sL : Nat} {sx : Nat → Int32} (hsL : sL = E.2.2.2.2.2.2.1) (hsx : sx = E.2.2.2.2.2.2.2) (hE : mx_ok E) (hpg : mx_pok pg) : ∀ (n d mi pc : Nat) (ls : List (Nat × Value)) (st : List Value) (hp : List va_E) (c s : Nat) (v : Option Value) (hp' : List va_E) (c' s' : Nat) (e : mx_En), pg[mi]? = some e → mx_run sL sx pg n d mi pc ls st hp c s = some (v, hp', c', s') →
    c ≤ c' ∧ s ≤ s' ∧ ∀ (R : Room) (mc ms : Nat) (K : Option Value → List va_E → Prop), c' ≤ mc → s' ≤ ms → mc ≤ R.cells → ms ≤ R.slots → d ≤ R.frames → d * 40 ≤ R.locals → K v hp' → mx_W l E e.1 R mc ms K c s pc ls st hp := by
  intro n
  induction n with
  | zero =>
    intro d mi pc ls st hp c s v hp' c' s' e he h
    cases h
  | succ n ih =>
    intro d mi pc ls st hp c s v hp' c' s' e he h
    have callee : ∀ (d1 a : Nat) (e1 : mx_En) (av : List Value) (hp0 : List va_E) (r : Option Value × List va_E × Nat × Nat), pg[a]? = some e1 → a + 1 < pg.length → (lg_sl av).length ≤ e1.1.2.2.1 → mx_run sL sx pg n d1 a 0 (lv_args 0 av) [] hp0 0 0 = some r →
        mx_M l E e1.1 { frames := d1, cells := r.2.2.1, slots := r.2.2.2, locals := d1 * 40 } av hp0 (fun v2 hp2 => v2 = r.1 ∧ hp2 = r.2.1) := by
      intro d1 a e1 av hp0 r ha hal hlen hr
      obtain ⟨v1, hp1, c1, s1⟩ := r
      have hme := (hpg.1 a e1 ha).1 hal
      obtain ⟨-, -, hW⟩ := ih d1 a 0 _ [] hp0 0 0 v1 hp1 c1 s1 e1 ha hr
      exact mx_intro hE hme.1 hlen (hW _ c1 s1 _ (Nat.le_refl _) (Nat.le_refl _) (Nat.le_refl _) (Nat.le_refl _) (Nat.le_refl _) (Nat.le_refl _) ⟨rfl, rfl⟩)
    unfold mx_run at h
    rw [he] at h
    dsimp only at h
    split at h
    · cases h
    rename_i q hq
    obtain ⟨hd, hck⟩ := (hpg.1 mi e he).2 (pc, q) (mx_lk_mem hq)
    dsimp only at hd hck
    unfold mx_ck2 at hck
    obtain ⟨ins, len, a, b, w⟩ := q
    dsimp only at h hd hck
    split at h
    · -- ireturn
      split at h
      · rename_i x
        cases hr : mx_rok e.1.2.2.2 x with
        | false => rw [hr] at h; cases h
        | true =>
          rw [hr] at h
          cases h
          refine ⟨Nat.le_refl _, Nat.le_refl _, fun R mc ms K h1 h2 h3 h4 h5 h6 hK => ?_⟩
          exact mx_ireturn (by rw [hd, Nat.eq_of_beq_eq_true hck]) (mx_rok_ok hr) h1 h2 hK
      · cases h
    · -- return
      split at h
      · cases hr : mx_rv e.1.2.2.2 with
        | false => rw [hr] at h; cases h
        | true =>
          rw [hr] at h
          cases h
          refine ⟨Nat.le_refl _, Nat.le_refl _, fun R mc ms K h1 h2 h3 h4 h5 h6 hK => ?_⟩
          exact mx_return (by rw [hd, Nat.eq_of_beq_eq_true hck]) (mx_rv_ok hr) h1 h2 hK
      · cases h
    · -- invokevirtual
      split at h
      · cases h
      rename_i d1
      split at h
      · cases h
      rename_i e1 ha
      rw [ha] at hck
      dsimp only at hck
      simp only [Bool.and_eq_true] at hck
      obtain ⟨⟨⟨⟨⟨k1, k2⟩, k3⟩, k4⟩, k5⟩, kl⟩ := hck
      split at h
      · rename_i i rest hst
        by_cases hb : (mx_isc hp i b && Nat.ble (mx_cs rest) 8 && Nat.ble (lg_sl (.ref i :: (st.take e1.2.1).reverse)).length e1.1.2.2.1 && Nat.beq (st.take e1.2.1).length e1.2.1) = true
        · rw [hb] at h
          simp only [Bool.and_eq_true] at hb
          obtain ⟨⟨⟨b1, b2⟩, b3⟩, b4⟩ := hb
          dsimp only [cond] at h
          split at h
          · cases h
          rename_i r hr
          have hM := callee d1 a e1 _ hp r ha (Nat.ble_eq.mp kl) (Nat.ble_eq.mp b3) hr
          obtain ⟨i1, i2, i3⟩ := ih (d1 + 1) mi (pc + 3) ls (r.1.toList ++ rest) r.2.1 _ _ v hp' c' s' e he h
          refine ⟨by omega, by omega, fun R mc ms K h1 h2 h3 h4 h5 h6 hK => ?_⟩
          have hme := (hpg.1 a e1 ha).1 (Nat.ble_eq.mp kl)
          unfold mx_isc at b1
          split at b1
          · rename_i cj fs hi
            have e2 : cj = b := Nat.eq_of_beq_eq_true b1
            subst e2
            rw [mx_split hst]
            refine mx_invV (rm := { frames := d1, cells := r.2.2.1, slots := r.2.2.2, locals := d1 * 40 }) (by rw [hd, Nat.eq_of_beq_eq_true k1]) hi (mx_cls _ (Nat.ble_eq.mp k4)).1 hme.1 (by rw [List.length_reverse]; exact Nat.eq_of_beq_eq_true b4) ⟨mx_has_ok k2, mx_has_ok k3, mx_has_ok k5⟩ hM ⟨h5, ?_⟩ (Nat.ble_eq.mp b2) ⟨?_, ?_⟩ ?_
            · show 8 + (e1.1.2.2.1 + 11) + d1 * 40 ≤ R.locals
              have := hme.2; omega
            · show c + r.2.2.1 ≤ R.cells; omega
            · show s + r.2.2.2 ≤ R.slots; omega
            · rintro v2 hp2 ⟨rfl, rfl⟩
              exact i3 R mc ms K h1 h2 h3 h4 h5 h6 hK
          · cases b1
        · rw [Bool.not_eq_true] at hb
          rw [hb] at h; cases h
      · cases h
    · -- invokespecial
      split at h
      · cases h
      rename_i d1
      by_cases hbb : Nat.beq b 1 = true
      · rw [hbb] at h hck
        dsimp only [cond] at h hck
        rw [Bool.and_eq_true] at hck
        split at h
        · rename_i i rest
          by_cases hb : Nat.ble (mx_cs rest) 8 = true
          · rw [hb] at h
            dsimp only [cond] at h
            obtain ⟨i1, i2, i3⟩ := ih (d1 + 1) mi (pc + 3) ls rest hp c s v hp' c' s' e he h
            refine ⟨i1, i2, fun R mc ms K h1 h2 h3 h4 h5 h6 hK => ?_⟩
            exact mx_objInit (by rw [hd, Nat.eq_of_beq_eq_true hck.1]) (mx_has_ok hck.2) hpg.2.1 hpg.2.2 ⟨by omega, by omega⟩ (Nat.ble_eq.mp hb) (i3 R mc ms K h1 h2 h3 h4 h5 h6 hK)
          · rw [Bool.not_eq_true] at hb
            rw [hb] at h; cases h
        · cases h
      · rw [Bool.not_eq_true] at hbb
        rw [hbb] at h hck
        dsimp only [cond] at h hck
        split at h
        · cases h
        rename_i e1 ha
        rw [ha] at hck
        dsimp only at hck
        simp only [Bool.and_eq_true] at hck
        obtain ⟨⟨⟨⟨⟨k1, k2⟩, k3⟩, k4⟩, k5⟩, kl⟩ := hck
        split at h
        · rename_i i rest hst
          by_cases hb : (Nat.ble (mx_cs rest) 8 && Nat.ble (lg_sl (.ref i :: (st.take e1.2.1).reverse)).length e1.1.2.2.1 && Nat.beq (st.take e1.2.1).length e1.2.1) = true
          · rw [hb] at h
            simp only [Bool.and_eq_true] at hb
            obtain ⟨⟨b2, b3⟩, b4⟩ := hb
            dsimp only [cond] at h
            split at h
            · cases h
            rename_i r hr
            have hM := callee d1 a e1 _ hp r ha (Nat.ble_eq.mp kl) (Nat.ble_eq.mp b3) hr
            obtain ⟨i1, i2, i3⟩ := ih (d1 + 1) mi (pc + 3) ls (r.1.toList ++ rest) r.2.1 _ _ v hp' c' s' e he h
            refine ⟨by omega, by omega, fun R mc ms K h1 h2 h3 h4 h5 h6 hK => ?_⟩
            have hme := (hpg.1 a e1 ha).1 (Nat.ble_eq.mp kl)
            rw [mx_split hst]
            refine mx_invI (rm := { frames := d1, cells := r.2.2.1, slots := r.2.2.2, locals := d1 * 40 }) (by rw [hd, Nat.eq_of_beq_eq_true k1]) hme.1 (of_decide_eq_true k4) (mx_rv_ok k5) (by rw [List.length_reverse]; exact Nat.eq_of_beq_eq_true b4) ⟨mx_has_ok k2, mx_has_ok k3⟩ hM ⟨h5, ?_⟩ (Nat.ble_eq.mp b2) ⟨?_, ?_⟩ ?_
            · show 8 + (e1.1.2.2.1 + 11) + d1 * 40 ≤ R.locals
              have := hme.2; omega
            · show c + r.2.2.1 ≤ R.cells; omega
            · show s + r.2.2.2 ≤ R.slots; omega
            · rintro v2 hp2 ⟨rfl, rfl⟩
              exact i3 R mc ms K h1 h2 h3 h4 h5 h6 hK
          · rw [Bool.not_eq_true] at hb
            rw [hb] at h; cases h
        · cases h
    · -- invokestatic
      split at h
      · cases h
      rename_i d1
      by_cases hbb : Nat.ble 7 b = true
      · rw [hbb] at h hck
        dsimp only [cond] at h hck
        simp only [Bool.and_eq_true] at hck
        obtain ⟨k1, k2⟩ := hck
        split at h
        · cases h
        rename_i f hf
        obtain ⟨i1, i2, i3⟩ := ih (d1 + 1) mi f.1 f.2.1 f.2.2.1 f.2.2.2.1 _ _ v hp' c' s' e he h
        refine ⟨by omega, by omega, fun R mc ms K h1 h2 h3 h4 h5 h6 hK => ?_⟩
        exact mx_l_nat (by rw [hd, Nat.eq_of_beq_eq_true k1]) k2 ⟨by omega, by omega⟩ (by omega) (by omega) hf (i3 R mc ms K h1 h2 h3 h4 h5 h6 hK)
      · rw [Bool.not_eq_true] at hbb
        rw [hbb] at h hck
        dsimp only [cond] at h hck
        split at h
        · cases h
        rename_i e1 ha
        rw [ha] at hck
        dsimp only at hck
        simp only [Bool.and_eq_true] at hck
        obtain ⟨⟨⟨k1, k2⟩, k3⟩, kl⟩ := hck
        by_cases hb : (Nat.ble (mx_cs (st.drop e1.2.1)) 8 && Nat.ble (lg_sl (st.take e1.2.1).reverse).length e1.1.2.2.1 && Nat.beq (st.take e1.2.1).length e1.2.1) = true
        · rw [hb] at h
          simp only [Bool.and_eq_true] at hb
          obtain ⟨⟨b2, b3⟩, b4⟩ := hb
          dsimp only [cond] at h
          split at h
          · cases h
          rename_i r hr
          have hM := callee d1 a e1 _ hp r ha (Nat.ble_eq.mp kl) (Nat.ble_eq.mp b3) hr
          obtain ⟨i1, i2, i3⟩ := ih (d1 + 1) mi (pc + 3) ls (r.1.toList ++ st.drop e1.2.1) r.2.1 _ _ v hp' c' s' e he h
          refine ⟨by omega, by omega, fun R mc ms K h1 h2 h3 h4 h5 h6 hK => ?_⟩
          have hme := (hpg.1 a e1 ha).1 (Nat.ble_eq.mp kl)
          rw [show st = ((st.take e1.2.1).reverse).reverse ++ st.drop e1.2.1 by rw [List.reverse_reverse, List.take_append_drop]]
          refine mx_invS (rm := { frames := d1, cells := r.2.2.1, slots := r.2.2.2, locals := d1 * 40 }) (by rw [hd, Nat.eq_of_beq_eq_true k1]) hme.1 (by rw [List.length_reverse]; exact Nat.eq_of_beq_eq_true b4) ⟨mx_has_ok k2, mx_has_ok k3⟩ hM ⟨h5, ?_⟩ (Nat.ble_eq.mp b2) ⟨?_, ?_⟩ ?_
          · show 8 + (e1.1.2.2.1 + 11) + d1 * 40 ≤ R.locals
            have := hme.2; omega
          · show c + r.2.2.1 ≤ R.cells; omega
          · show s + r.2.2.2 ≤ R.slots; omega
          · rintro v2 hp2 ⟨rfl, rfl⟩
            exact i3 R mc ms K h1 h2 h3 h4 h5 h6 hK
        · rw [Bool.not_eq_true] at hb
          rw [hb] at h; cases h
    · -- a step
      rename_i n1 n2 n3 n4 n5
      split at h
      · cases h
      rename_i f hf
      have hck1 : mx_ck1 e.1 pc (ins, len, a, b, w) = true := by
        split at hck
        all_goals first | exact hck | (exfalso; simp_all)
      obtain ⟨i1, i2, i3⟩ := ih d mi f.1 f.2.1 f.2.2.1 f.2.2.2.1 _ _ v hp' c' s' e he h
      refine ⟨by omega, by omega, fun R mc ms K h1 h2 h3 h4 h5 h6 hK => ?_⟩
      exact mx_step_ok (q := (ins, len, a, b, w)) hsL hsx hd hck1 hf (by omega) (by omega) (i3 R mc ms K h1 h2 h3 h4 h5 h6 hK)
set_option maxHeartbeats 4000000 in
theorem mx_mono1 {sL : Nat} {sx : Nat → Int32} {pg : List mx_En} : ∀ (n d mi pc : Nat) (ls : List (Nat × Value)) (st : List Value) (hp : List va_E) (c s : Nat) (r : Option Value × List va_E × Nat × Nat), mx_run sL sx pg n d mi pc ls st hp c s = some r → mx_run sL sx pg (n + 1) d mi pc ls st hp c s = some r := by
  intro n
  induction n with
  | zero => intro d mi pc ls st hp c s r h; cases h
  | succ n ih =>
    intro d mi pc ls st hp c s r h
    unfold mx_run at h ⊢
    cases he : pg[mi]? with
    | none => rw [he] at h; cases h
    | some e =>
      rw [he] at h
      dsimp only at h ⊢
      cases hq : mx_lk e.2.2.2 pc with
      | none => rw [hq] at h; cases h
      | some q =>
        rw [hq] at h
        dsimp only at h ⊢
        split at h
        · exact h
        · exact h
        · split at h
          · cases h
          split at h
          · cases h
          split at h
          · rw [Bool.cond_eq_ite] at h ⊢
            split at h
            · rename_i hb
              rw [if_pos hb]
              split at h
              · cases h
              rename_i r1 hr1
              rw [ih _ _ _ _ _ _ _ _ _ hr1]
              exact ih _ _ _ _ _ _ _ _ _ h
            · cases h
          · cases h
        · split at h
          · cases h
          rw [Bool.cond_eq_ite] at h ⊢
          split at h
          · rename_i hb
            rw [if_pos hb]
            split at h
            · rw [Bool.cond_eq_ite] at h ⊢
              split at h
              · rename_i hb2
                rw [if_pos hb2]
                exact ih _ _ _ _ _ _ _ _ _ h
              · cases h
            · cases h
          · rename_i hb
            rw [if_neg hb]
            split at h
            · cases h
            split at h
            · rw [Bool.cond_eq_ite] at h ⊢
              split at h
              · rename_i hb2
                rw [if_pos hb2]
                split at h
                · cases h
                rename_i r1 hr1
                rw [ih _ _ _ _ _ _ _ _ _ hr1]
                exact ih _ _ _ _ _ _ _ _ _ h
              · cases h
            · cases h
        · split at h
          · cases h
          rw [Bool.cond_eq_ite] at h ⊢
          split at h
          · rename_i hb
            rw [if_pos hb]
            split at h
            · cases h
            exact ih _ _ _ _ _ _ _ _ _ h
          · rename_i hb
            rw [if_neg hb]
            split at h
            · cases h
            rw [Bool.cond_eq_ite] at h ⊢
            split at h
            · rename_i hb2
              rw [if_pos hb2]
              split at h
              · cases h
              rename_i r1 hr1
              rw [ih _ _ _ _ _ _ _ _ _ hr1]
              exact ih _ _ _ _ _ _ _ _ _ h
            · cases h
        · split at h
          · cases h
          exact ih _ _ _ _ _ _ _ _ _ h
theorem mx_mono {sL : Nat} {sx : Nat → Int32} {pg : List mx_En} {n d mi pc : Nat} {ls : List (Nat × Value)} {st : List Value} {hp : List va_E} {c s : Nat} {r : Option Value × List va_E × Nat × Nat} (h : mx_run sL sx pg n d mi pc ls st hp c s = some r) : ∀ m, n ≤ m → mx_run sL sx pg m d mi pc ls st hp c s = some r := by
  intro m hm
  obtain ⟨k, rfl⟩ := Nat.le.dest hm
  induction k with
  | zero => exact h
  | succ k ih => exact mx_mono1 _ _ _ _ _ _ _ _ _ _ (ih (Nat.le_add_right _ _))
/-- it ends, with this -/
def mx_ends (sL : Nat) (sx : Nat → Int32) (pg : List mx_En) (d mi pc : Nat) (ls : List (Nat × Value)) (st : List Value) (hp : List va_E) (c s : Nat) (r : Option Value × List va_E × Nat × Nat) : Prop := ∃ n, mx_run sL sx pg n d mi pc ls st hp c s = some r
/-- a number of steps that call nobody -/
def mx_go (sL : Nat) (sx : Nat → Int32) (tab : List (Nat × mx_In)) : Nat → mx_Cf → Option mx_Cf
  | 0, x => some x
  | n + 1, x => match mx_lk tab x.1 with
    | none => none
    | some q => match mx_step sL sx q x.1 x.2.1 x.2.2.1 x.2.2.2.1 with
      | none => none
      | some f => mx_go sL sx tab n (f.1, f.2.1, f.2.2.1, f.2.2.2.1, x.2.2.2.2.1 + f.2.2.2.2.1, x.2.2.2.2.2 + f.2.2.2.2.2)
theorem mx_ends_step {sL : Nat} {sx : Nat → Int32} {pg : List mx_En} {d mi pc : Nat} {ls : List (Nat × Value)} {st : List Value} {hp : List va_E} {c s : Nat} {r : Option Value × List va_E × Nat × Nat} {e : mx_En} {q : mx_In} {f : mx_Cf} (he : pg[mi]? = some e) (hq : mx_lk e.2.2.2 pc = some q) (hf : mx_step sL sx q pc ls st hp = some f) (h : mx_ends sL sx pg d mi f.1 f.2.1 f.2.2.1 f.2.2.2.1 (c + f.2.2.2.2.1) (s + f.2.2.2.2.2) r) : mx_ends sL sx pg d mi pc ls st hp c s r := by
  obtain ⟨n, h⟩ := h
  refine ⟨n + 1, ?_⟩
  unfold mx_run
  rw [he]
  dsimp only
  rw [hq]
  dsimp only
  obtain ⟨ins, q⟩ := q
  unfold mx_step at hf
  dsimp only at hf ⊢
  split
  all_goals first | (cases hf; done) | skip
  rw [show mx_step sL sx (ins, q) pc ls st hp = some f by unfold mx_step; exact hf]
  exact h
theorem mx_ends_go {sL : Nat} {sx : Nat → Int32} {pg : List mx_En} {d mi : Nat} {r : Option Value × List va_E × Nat × Nat} {e : mx_En} (he : pg[mi]? = some e) : ∀ (n : Nat) (x y : mx_Cf), mx_go sL sx e.2.2.2 n x = some y → mx_ends sL sx pg d mi y.1 y.2.1 y.2.2.1 y.2.2.2.1 y.2.2.2.2.1 y.2.2.2.2.2 r → mx_ends sL sx pg d mi x.1 x.2.1 x.2.2.1 x.2.2.2.1 x.2.2.2.2.1 x.2.2.2.2.2 r
  | 0, x, y, h, k => by
    cases h
    exact k
  | n + 1, x, y, h, k => by
    unfold mx_go at h
    split at h
    · cases h
    rename_i q hq
    split at h
    · cases h
    rename_i f hf
    exact mx_ends_step he hq hf (mx_ends_go he n _ y h k)
theorem mx_mem {c : Nat} {w : Cond} (h : (mx_part (c / 1000))[c % 1000]? = some w) (hg : goodWord w = true) : w ∈ mx_tb := List.mem_filter.mpr ⟨mx_part_in _ _ (List.mem_of_getElem? h), hg⟩
/-- the check of fifty rows of a method, by its number -/
def mx_ckc (pg : List mx_En) (k j : Nat) : Bool := match pg[k]? with
  | none => true
  | some e => ((e.2.2.2.drop (50 * j)).take 50).all (fun x => decide (decode e.1.2.1 x.1 = .ok (x.2.1, x.2.2.1)) && mx_ck2 pg e.1 x.1 x.2)
theorem mx_pok_of {pg : List mx_En} (h0 : ∀ k e, pg[k]? = some e → k + 1 < pg.length → mx_me e.1 e.2.1 ∧ e.1.2.2.1 ≤ 21) (h : ∀ k, k < pg.length → ∀ j, mx_ckc pg k j = true) (h2 : Cond.instanceMethod objectInit ∈ mx_tb ∧ Cond.code objectInit ⟨#[0xb1]⟩ 1 none ∈ mx_tb) : mx_pok pg := by
  refine ⟨fun k e he => ⟨fun hk => h0 k e he hk, fun x hx => ?_⟩, h2⟩
  · obtain ⟨i, hi, hix⟩ := List.mem_iff_getElem.mp hx
    have h1 := h k (List.getElem?_eq_some_iff.mp he).1 (i / 50)
    unfold mx_ckc at h1
    rw [he] at h1
    have hm : x ∈ (e.2.2.2.drop (50 * (i / 50))).take 50 := by
      refine List.mem_iff_getElem?.mpr ⟨i % 50, ?_⟩
      rw [List.getElem?_take_of_lt (Nat.mod_lt _ (by decide)), List.getElem?_drop, show 50 * (i / 50) + i % 50 = i by omega, List.getElem?_eq_getElem hi, hix]
    have h3 := List.all_eq_true.mp h1 x hm
    rw [Bool.and_eq_true] at h3
    exact ⟨of_decide_eq_true h3.1, h3.2⟩
theorem mx_ckc_end {pg : List mx_En} {k j : Nat} {e : mx_En} (he : pg[k]? = some e) (h : e.2.2.2.length ≤ 50 * j) : mx_ckc pg k j = true := by
  unfold mx_ckc
  rw [he]
  dsimp only
  rw [List.drop_eq_nil_of_le h]
  rfl
end
section
/-! ===== endings: returns and calls ===== -/
section MXE
variable {sL : Nat} {sx : Nat → Int32} {pg : List mx_En} {d mi pc : Nat} {ls : List (Nat × Value)} {st : List Value} {hp : List va_E} {c s : Nat} {r r1 : Option Value × List va_E × Nat × Nat} {e e1 : mx_En} {index len a b w i : Nat} {rest : List Value}
theorem mx_ends_iret {v : Int32} {q : Nat × Nat × Nat × Nat} (he : pg[mi]? = some e) (hq : mx_lk e.2.2.2 pc = some (.ireturn, q)) (hr : mx_rok e.1.2.2.2 v = true) : mx_ends sL sx pg d mi pc ls [.int v] hp c s (some (.int v), hp, c, s) := by
  refine ⟨1, ?_⟩
  unfold mx_run
  rw [he]
  dsimp only
  rw [hq]
  dsimp only
  rw [hr]
  rfl
theorem mx_ends_vret {q : Nat × Nat × Nat × Nat} (he : pg[mi]? = some e) (hq : mx_lk e.2.2.2 pc = some (.return_, q)) (hr : mx_rv e.1.2.2.2 = true) : mx_ends sL sx pg d mi pc ls [] hp c s (none, hp, c, s) := by
  refine ⟨1, ?_⟩
  unfold mx_run
  rw [he]
  dsimp only
  rw [hq]
  dsimp only
  rw [hr]
  rfl
theorem mx_ends_V (he : pg[mi]? = some e) (hq : mx_lk e.2.2.2 pc = some (.invokevirtual index, len, a, b, w)) (ha : pg[a]? = some e1) (hst : st.drop e1.2.1 = .ref i :: rest) (hb : (mx_isc hp i b && Nat.ble (mx_cs rest) 8 && Nat.ble (lg_sl (.ref i :: (st.take e1.2.1).reverse)).length e1.1.2.2.1 && Nat.beq (st.take e1.2.1).length e1.2.1) = true)
    (h1 : mx_ends sL sx pg d a 0 (lv_args 0 (.ref i :: (st.take e1.2.1).reverse)) [] hp 0 0 r1) (h2 : mx_ends sL sx pg (d + 1) mi (pc + 3) ls (r1.1.toList ++ rest) r1.2.1 (c + r1.2.2.1) (s + r1.2.2.2) r) : mx_ends sL sx pg (d + 1) mi pc ls st hp c s r := by
  obtain ⟨n1, h1⟩ := h1
  obtain ⟨n2, h2⟩ := h2
  refine ⟨(n1 + n2) + 1, ?_⟩
  unfold mx_run
  rw [he]
  dsimp only
  rw [hq]
  dsimp only
  rw [ha]
  dsimp only
  rw [hst]
  dsimp only
  rw [hb]
  dsimp only [cond]
  rw [mx_mono h1 (n1 + n2) (Nat.le_add_right _ _)]
  exact mx_mono h2 (n1 + n2) (Nat.le_add_left _ _)
theorem mx_ends_I (he : pg[mi]? = some e) (hq : mx_lk e.2.2.2 pc = some (.invokespecial index, len, a, b, w)) (hbb : Nat.beq b 1 = false) (ha : pg[a]? = some e1) (hst : st.drop e1.2.1 = .ref i :: rest) (hb : (Nat.ble (mx_cs rest) 8 && Nat.ble (lg_sl (.ref i :: (st.take e1.2.1).reverse)).length e1.1.2.2.1 && Nat.beq (st.take e1.2.1).length e1.2.1) = true)
    (h1 : mx_ends sL sx pg d a 0 (lv_args 0 (.ref i :: (st.take e1.2.1).reverse)) [] hp 0 0 r1) (h2 : mx_ends sL sx pg (d + 1) mi (pc + 3) ls (r1.1.toList ++ rest) r1.2.1 (c + r1.2.2.1) (s + r1.2.2.2) r) : mx_ends sL sx pg (d + 1) mi pc ls st hp c s r := by
  obtain ⟨n1, h1⟩ := h1
  obtain ⟨n2, h2⟩ := h2
  refine ⟨(n1 + n2) + 1, ?_⟩
  unfold mx_run
  rw [he]
  dsimp only
  rw [hq]
  dsimp only
  rw [hbb]
  dsimp only [cond]
  rw [ha]
  dsimp only
  rw [hst]
  dsimp only
  rw [hb]
  dsimp only
  rw [mx_mono h1 (n1 + n2) (Nat.le_add_right _ _)]
  exact mx_mono h2 (n1 + n2) (Nat.le_add_left _ _)
theorem mx_ends_O (he : pg[mi]? = some e) (hq : mx_lk e.2.2.2 pc = some (.invokespecial index, len, a, 1, w)) (hb : Nat.ble (mx_cs rest) 8 = true) (h2 : mx_ends sL sx pg (d + 1) mi (pc + 3) ls rest hp c s r) : mx_ends sL sx pg (d + 1) mi pc ls (.ref i :: rest) hp c s r := by
  obtain ⟨n2, h2⟩ := h2
  refine ⟨n2 + 1, ?_⟩
  unfold mx_run
  rw [he]
  dsimp only
  rw [hq]
  dsimp only [cond, Nat.beq]
  rw [hb]
  exact h2
theorem mx_ends_S (he : pg[mi]? = some e) (hq : mx_lk e.2.2.2 pc = some (.invokestatic index, len, a, b, w)) (hbb : Nat.ble 7 b = false) (ha : pg[a]? = some e1) (hb : (Nat.ble (mx_cs (st.drop e1.2.1)) 8 && Nat.ble (lg_sl (st.take e1.2.1).reverse).length e1.1.2.2.1 && Nat.beq (st.take e1.2.1).length e1.2.1) = true)
    (h1 : mx_ends sL sx pg d a 0 (lv_args 0 (st.take e1.2.1).reverse) [] hp 0 0 r1) (h2 : mx_ends sL sx pg (d + 1) mi (pc + 3) ls (r1.1.toList ++ st.drop e1.2.1) r1.2.1 (c + r1.2.2.1) (s + r1.2.2.2) r) : mx_ends sL sx pg (d + 1) mi pc ls st hp c s r := by
  obtain ⟨n1, h1⟩ := h1
  obtain ⟨n2, h2⟩ := h2
  refine ⟨(n1 + n2) + 1, ?_⟩
  unfold mx_run
  rw [he]
  dsimp only
  rw [hq]
  dsimp only
  rw [hbb]
  dsimp only [cond]
  rw [ha]
  dsimp only
  rw [hb]
  dsimp only
  rw [mx_mono h1 (n1 + n2) (Nat.le_add_right _ _)]
  exact mx_mono h2 (n1 + n2) (Nat.le_add_left _ _)
theorem mx_ends_N {f : mx_Cf} (he : pg[mi]? = some e) (hq : mx_lk e.2.2.2 pc = some (.invokestatic index, len, a, b, w)) (hbb : Nat.ble 7 b = true) (hf : mx_nat b (pc + 3) ls st hp = some f) (h2 : mx_ends sL sx pg (d + 1) mi f.1 f.2.1 f.2.2.1 f.2.2.2.1 (c + f.2.2.2.2.1) (s + f.2.2.2.2.2) r) : mx_ends sL sx pg (d + 1) mi pc ls st hp c s r := by
  obtain ⟨n2, h2⟩ := h2
  refine ⟨n2 + 1, ?_⟩
  unfold mx_run
  rw [he]
  dsimp only
  rw [hq]
  dsimp only
  rw [hbb]
  dsimp only [cond]
  rw [hf]
  exact h2
end MXE
end
section
/-! ===== THE PROGRAM, printed by program out of NAMES and the Statement's tables: a row an instruction: pc, instruction, length, and what it resolves to ===== -/
def eX0_init : mx_En := ((yX0_init, cX0_init, 3, none), 2, (1210, 1009, 1209, 0), [
  (0, (.aload_n 0, 1, 0, 0, 0)), (1, (.invokespecial 3, 3, 0, 1, 1211)), (4, (.aload_n 0, 1, 0, 0, 0)), (5, (.aload_n 1, 1, 0, 0, 0)),
  (6, (.putfield 9, 3, 0, 0, 1212)), (9, (.aload_n 0, 1, 0, 0, 0)), (10, (.aload_n 2, 1, 0, 0, 0)), (11, (.putfield 15, 3, 0, 1, 1213)),
  (14, (.aload_n 0, 1, 0, 0, 0)), (15, (.bipush 32, 2, 0, 0, 0)), (17, (.newarray .int, 2, 0, 0, 1055)), (19, (.putfield 19, 3, 0, 2, 1214)),
  (22, (.aload_n 0, 1, 0, 0, 0)), (23, (.bipush 32, 2, 0, 0, 0)), (25, (.newarray .int, 2, 0, 0, 1055)), (27, (.putfield 23, 3, 0, 3, 1215)),
  (30, (.aload_n 0, 1, 0, 0, 0)), (31, (.sipush 128, 3, 0, 0, 0)), (34, (.newarray .int, 2, 0, 0, 1055)), (36, (.putfield 26, 3, 0, 4, 1216)),
  (39, (.aload_n 0, 1, 0, 0, 0)), (40, (.sipush 128, 3, 0, 0, 0)), (43, (.newarray .int, 2, 0, 0, 1055)), (45, (.putfield 29, 3, 0, 5, 1217)),
  (48, (.return_, 1, 0, 0, 0))])
def eX1_init : mx_En := ((yX1_init, cX1_init, 4, none), 3, (1123, 1006, 1122, 0), [
  (0, (.aload_n 0, 1, 0, 0, 0)), (1, (.invokespecial 3, 3, 0, 1, 1124)), (4, (.aload_n 0, 1, 0, 0, 0)), (5, (.aload_n 1, 1, 0, 0, 0)),
  (6, (.putfield 9, 3, 1, 0, 1141)), (9, (.aload_n 0, 1, 0, 0, 0)), (10, (.aload_n 2, 1, 0, 0, 0)), (11, (.putfield 15, 3, 1, 1, 1142)),
  (14, (.aload_n 0, 1, 0, 0, 0)), (15, (.aload_n 3, 1, 0, 0, 0)), (16, (.putfield 19, 3, 1, 2, 1143)), (19, (.aload_n 0, 1, 0, 0, 0)),
  (20, (.new 23, 3, 4, 0, 1125)), (23, (.dup, 1, 0, 0, 0)), (24, (.bipush 8, 2, 0, 0, 0)), (26, (.invokespecial 25, 3, 6, 0, 1127)),
  (29, (.putfield 28, 3, 1, 3, 1144)), (32, (.aload_n 0, 1, 0, 0, 0)), (33, (.new 23, 3, 4, 0, 1125)), (36, (.dup, 1, 0, 0, 0)),
  (37, (.iconst 5, 1, 0, 0, 0)), (38, (.invokespecial 25, 3, 6, 0, 1127)), (41, (.putfield 32, 3, 1, 4, 1145)), (44, (.aload_n 0, 1, 0, 0, 0)),
  (45, (.iconst 5, 1, 0, 0, 0)), (46, (.newarray .int, 2, 0, 0, 1055)), (48, (.putfield 35, 3, 1, 5, 1146)), (51, (.aload_n 0, 1, 0, 0, 0)),
  (52, (.bipush 8, 2, 0, 0, 0)), (54, (.newarray .int, 2, 0, 0, 1055)), (56, (.putfield 39, 3, 1, 6, 1147)), (59, (.aload_n 0, 1, 0, 0, 0)),
  (60, (.bipush 21, 2, 0, 0, 0)), (62, (.newarray .int, 2, 0, 0, 1055)), (64, (.putfield 42, 3, 1, 7, 1148)), (67, (.aload_n 0, 1, 0, 0, 0)),
  (68, (.bipush 21, 2, 0, 0, 0)), (70, (.newarray .int, 2, 0, 0, 1055)), (72, (.putfield 45, 3, 1, 8, 1149)), (75, (.return_, 1, 0, 0, 0))])
def eX1_accepts : mx_En := ((yX1_accepts, cX1_accepts, 3, some .boolean), 0, (3119, 1006, 3117, 3118), [
  (0, (.aload_n 0, 1, 0, 0, 0)), (1, (.getfield 15, 3, 1, 1, 1142)), (4, (.invokevirtual 48, 3, 17, 9, 3120)), (7, (.aload_n 0, 1, 0, 0, 0)),
  (8, (.getfield 19, 3, 1, 2, 1143)), (11, (.invokevirtual 53, 3, 12, 7, 3124)), (14, (.aload_n 0, 1, 0, 0, 0)), (15, (.getfield 28, 3, 1, 3, 1144)),
  (18, (.invokevirtual 56, 3, 7, 4, 3128)), (21, (.aload_n 0, 1, 0, 0, 0)), (22, (.getfield 32, 3, 1, 4, 1145)), (25, (.invokevirtual 56, 3, 7, 4, 3128)),
  (28, (.aload_n 0, 1, 0, 0, 0)), (29, (.iconst 0, 1, 0, 0, 0)), (30, (.putfield 57, 3, 1, 9, 1150)), (33, (.aload_n 0, 1, 0, 0, 0)),
  (34, (.iconst 0, 1, 0, 0, 0)), (35, (.putfield 61, 3, 1, 10, 1151)), (38, (.aload_n 0, 1, 0, 0, 0)), (39, (.iconst 0, 1, 0, 0, 0)),
  (40, (.putfield 64, 3, 1, 11, 1152)), (43, (.iconst 1, 1, 0, 0, 0)), (44, (.istore_n 1, 1, 0, 0, 0)), (45, (.iconst 0, 1, 0, 0, 0)),
  (46, (.istore_n 2, 1, 0, 0, 0)), (47, (.iload_n 2, 1, 0, 0, 0)), (48, (.sipush 240, 3, 0, 0, 0)), (51, (.if_icmp .ge 81, 3, 132, 0, 0)),
  (54, (.iload_n 1, 1, 0, 0, 0)), (55, (.ifCond .eq 77, 3, 132, 0, 0)), (58, (.aload_n 0, 1, 0, 0, 0)), (59, (.getfield 9, 3, 1, 0, 1141)),
  (62, (.aload_n 0, 1, 0, 0, 0)), (63, (.getfield 64, 3, 1, 11, 1152)), (66, (.invokevirtual 67, 3, 15, 8, 3132)), (69, (.ifCond .eq 63, 3, 132, 0, 0)),
  (72, (.aload_n 0, 1, 0, 0, 0)), (73, (.getfield 9, 3, 1, 0, 1141)), (76, (.aload_n 0, 1, 0, 0, 0)), (77, (.getfield 64, 3, 1, 11, 1152)),
  (80, (.invokevirtual 67, 3, 15, 8, 3132)), (83, (.iconst 5, 1, 0, 0, 0)), (84, (.if_icmp .ne 11, 3, 95, 0, 0)), (87, (.aload_n 0, 1, 0, 0, 0)),
  (91, (.istore_n 1, 1, 0, 0, 0)), (92, (.goto 34, 3, 126, 0, 0)), (95, (.aload_n 0, 1, 0, 0, 0)), (96, (.aload_n 0, 1, 0, 0, 0)),
  (97, (.getfield 9, 3, 1, 0, 1141)), (100, (.aload_n 0, 1, 0, 0, 0)), (101, (.getfield 64, 3, 1, 11, 1152)), (104, (.invokevirtual 67, 3, 15, 8, 3132)),
  (107, (.iconst 3, 1, 0, 0, 0)), (108, (.if_icmp .ne 10, 3, 118, 0, 0)), (111, (.aload_n 0, 1, 0, 0, 0)), (112, (.getfield 28, 3, 1, 3, 1144)),
  (115, (.goto 7, 3, 122, 0, 0)), (118, (.aload_n 0, 1, 0, 0, 0)), (119, (.getfield 32, 3, 1, 4, 1145)), (125, (.istore_n 1, 1, 0, 0, 0)),
  (126, (.iinc 2 1, 3, 0, 0, 0)), (129, (.goto (-82), 3, 47, 0, 0)), (132, (.iconst 0, 1, 0, 0, 0)), (133, (.istore_n 2, 1, 0, 0, 0)),
  (134, (.iload_n 2, 1, 0, 0, 0)), (135, (.aload_n 0, 1, 0, 0, 0)), (136, (.getfield 32, 3, 1, 4, 1145)), (139, (.invokevirtual 81, 3, 8, 4, 4046)),
  (142, (.if_icmp .ge 49, 3, 191, 0, 0)), (145, (.iload_n 2, 1, 0, 0, 0)), (146, (.aload_n 0, 1, 0, 0, 0)), (147, (.getfield 35, 3, 1, 5, 1146)),
  (150, (.arraylength, 1, 0, 0, 0)), (151, (.if_icmp .ge 40, 3, 191, 0, 0)), (154, (.aload_n 0, 1, 0, 0, 0)), (155, (.getfield 35, 3, 1, 5, 1146)),
  (158, (.iload_n 2, 1, 0, 0, 0)), (159, (.aload_n 0, 1, 0, 0, 0)), (160, (.getfield 19, 3, 1, 2, 1143)), (163, (.aload_n 0, 1, 0, 0, 0)),
  (164, (.getfield 19, 3, 1, 2, 1143)), (167, (.iconst 3, 1, 0, 0, 0)), (168, (.iload_n 2, 1, 0, 0, 0)), (172, (.aload_n 0, 1, 0, 0, 0)),
  (173, (.getfield 32, 3, 1, 4, 1145)), (176, (.iload_n 2, 1, 0, 0, 0)), (180, (.iconst 0, 1, 0, 0, 0)), (184, (.iastore, 1, 0, 0, 0)),
  (185, (.iinc 2 1, 3, 0, 0, 0)), (188, (.goto (-54), 3, 134, 0, 0)), (191, (.iload_n 1, 1, 0, 0, 0)), (192, (.ireturn, 1, 0, 0, 0))])
def eX2_init : mx_En := ((yX2_init, cX2_init, 2, none), 1, (1060, 1003, 1059, 0), [
  (0, (.aload_n 0, 1, 0, 0, 0)), (1, (.invokespecial 3, 3, 0, 1, 1061)), (4, (.aload_n 0, 1, 0, 0, 0)), (5, (.aload_n 1, 1, 0, 0, 0)),
  (6, (.putfield 9, 3, 2, 0, 1062)), (9, (.return_, 1, 0, 0, 0))])
def eX2_accepts : mx_En := ((yX2_accepts, cX2_accepts, 3, some .boolean), 0, (3079, 1003, 3077, 3078), [
  (0, (.aload_n 0, 1, 0, 0, 0)), (1, (.iconst 0, 1, 0, 0, 0)), (2, (.putfield 15, 3, 2, 1, 1063)), (5, (.iconst 1, 1, 0, 0, 0)),
  (6, (.istore_n 1, 1, 0, 0, 0)), (7, (.iconst 0, 1, 0, 0, 0)), (8, (.istore_n 2, 1, 0, 0, 0)), (9, (.iload_n 2, 1, 0, 0, 0)),
  (10, (.sipush 240, 3, 0, 0, 0)), (13, (.if_icmp .ge 32, 3, 45, 0, 0)), (16, (.iload_n 1, 1, 0, 0, 0)), (17, (.ifCond .eq 28, 3, 45, 0, 0)),
  (20, (.aload_n 0, 1, 0, 0, 0)), (21, (.getfield 9, 3, 2, 0, 1062)), (24, (.aload_n 0, 1, 0, 0, 0)), (25, (.getfield 15, 3, 2, 1, 1063)),
  (28, (.invokevirtual 19, 3, 15, 8, 3080)), (31, (.ifCond .eq 14, 3, 45, 0, 0)), (34, (.aload_n 0, 1, 0, 0, 0)), (38, (.istore_n 1, 1, 0, 0, 0)),
  (39, (.iinc 2 1, 3, 0, 0, 0)), (42, (.goto (-33), 3, 9, 0, 0)), (45, (.iload_n 1, 1, 0, 0, 0)), (46, (.ireturn, 1, 0, 0, 0))])
def eX3_init : mx_En := ((yX3_init, cX3_init, 1, none), 0, (1191, 1008, 1190, 0), [
  (0, (.aload_n 0, 1, 0, 0, 0)), (1, (.invokespecial 3, 3, 0, 1, 1192)), (4, (.aload_n 0, 1, 0, 0, 0)), (5, (.sipush 1024, 3, 0, 0, 0)),
  (8, (.newarray .int, 2, 0, 0, 1055)), (10, (.putfield 9, 3, 3, 0, 1193)), (13, (.aload_n 0, 1, 0, 0, 0)), (14, (.sipush 1024, 3, 0, 0, 0)),
  (17, (.newarray .int, 2, 0, 0, 1055)), (19, (.putfield 15, 3, 3, 1, 1194)), (22, (.aload_n 0, 1, 0, 0, 0)), (23, (.sipush 1024, 3, 0, 0, 0)),
  (26, (.newarray .int, 2, 0, 0, 1055)), (28, (.putfield 18, 3, 3, 2, 1195)), (31, (.return_, 1, 0, 0, 0))])
def eX4_init : mx_En := ((yX4_init, cX4_init, 2, none), 1, (1129, 1007, 1128, 0), [
  (0, (.aload_n 0, 1, 0, 0, 0)), (1, (.invokespecial 3, 3, 0, 1, 1130)), (4, (.aload_n 0, 1, 0, 0, 0)), (5, (.iload_n 1, 1, 0, 0, 0)),
  (6, (.newarray .int, 2, 0, 0, 1055)), (8, (.putfield 9, 3, 4, 0, 1131)), (11, (.aload_n 0, 1, 0, 0, 0)), (12, (.iload_n 1, 1, 0, 0, 0)),
  (13, (.newarray .int, 2, 0, 0, 1055)), (15, (.putfield 15, 3, 4, 1, 1132)), (18, (.return_, 1, 0, 0, 0))])
def eX4_clear : mx_En := ((yX4_clear, cX4_clear, 1, none), 0, (3131, 1007, 3129, 3130), [
  (0, (.aload_n 0, 1, 0, 0, 0)), (1, (.iconst 0, 1, 0, 0, 0)), (2, (.putfield 18, 3, 4, 2, 1133)), (5, (.return_, 1, 0, 0, 0))])
def eX4_total : mx_En := ((yX4_total, cX4_total, 1, some .int), 0, (4049, 1007, 4047, 4048), [
  (0, (.aload_n 0, 1, 0, 0, 0)), (1, (.getfield 18, 3, 4, 2, 1133)), (4, (.ireturn, 1, 0, 0, 0))])
def eX5_init : mx_En := ((yX5_init, cX5_init, 1, none), 0, (2010, 1011, 2009, 0), [
  (0, (.aload_n 0, 1, 0, 0, 0)), (1, (.invokespecial 3, 3, 0, 1, 2011)), (4, (.aload_n 0, 1, 0, 0, 0)), (5, (.sipush 512, 3, 0, 0, 0)),
  (8, (.newarray .int, 2, 0, 0, 1055)), (10, (.putfield 9, 3, 5, 0, 2012)), (13, (.aload_n 0, 1, 0, 0, 0)), (14, (.sipush 512, 3, 0, 0, 0)),
  (17, (.newarray .int, 2, 0, 0, 1055)), (19, (.putfield 15, 3, 5, 1, 2013)), (22, (.aload_n 0, 1, 0, 0, 0)), (23, (.sipush 512, 3, 0, 0, 0)),
  (26, (.newarray .int, 2, 0, 0, 1055)), (28, (.putfield 18, 3, 5, 2, 2014)), (31, (.aload_n 0, 1, 0, 0, 0)), (32, (.sipush 512, 3, 0, 0, 0)),
  (35, (.newarray .int, 2, 0, 0, 1055)), (37, (.putfield 21, 3, 5, 3, 2015)), (40, (.aload_n 0, 1, 0, 0, 0)), (41, (.sipush 512, 3, 0, 0, 0)),
  (44, (.newarray .int, 2, 0, 0, 1055)), (46, (.putfield 24, 3, 5, 4, 2016)), (49, (.aload_n 0, 1, 0, 0, 0)), (50, (.sipush 512, 3, 0, 0, 0)),
  (53, (.newarray .int, 2, 0, 0, 1055)), (55, (.putfield 27, 3, 5, 5, 2017)), (58, (.return_, 1, 0, 0, 0))])
def eX6_init : mx_En := ((yX6_init, cX6_init, 4, none), 3, (2004, 1010, 2003, 0), [
  (0, (.aload_n 0, 1, 0, 0, 0)), (1, (.invokespecial 3, 3, 0, 1, 2005)), (4, (.aload_n 0, 1, 0, 0, 0)), (5, (.aload_n 1, 1, 0, 0, 0)),
  (6, (.putfield 9, 3, 6, 0, 2034)), (9, (.aload_n 0, 1, 0, 0, 0)), (10, (.aload_n 2, 1, 0, 0, 0)), (11, (.putfield 15, 3, 6, 1, 2035)),
  (14, (.aload_n 0, 1, 0, 0, 0)), (15, (.aload_n 3, 1, 0, 0, 0)), (16, (.putfield 19, 3, 6, 2, 2036)), (19, (.aload_n 0, 1, 0, 0, 0)),
  (20, (.new 23, 3, 5, 0, 2006)), (23, (.dup, 1, 0, 0, 0)), (24, (.invokespecial 25, 3, 9, 0, 2008)), (27, (.putfield 26, 3, 6, 3, 2037)),
  (30, (.aload_n 0, 1, 0, 0, 0)), (31, (.new 23, 3, 5, 0, 2006)), (34, (.dup, 1, 0, 0, 0)), (35, (.invokespecial 25, 3, 9, 0, 2008)),
  (38, (.putfield 30, 3, 6, 4, 2038)), (41, (.aload_n 0, 1, 0, 0, 0)), (42, (.bipush 32, 2, 0, 0, 0)), (44, (.newarray .int, 2, 0, 0, 1055)),
  (46, (.putfield 33, 3, 6, 5, 2039)), (49, (.aload_n 0, 1, 0, 0, 0)), (50, (.iconst 4, 1, 0, 0, 0)), (51, (.newarray .int, 2, 0, 0, 1055)),
  (53, (.putfield 37, 3, 6, 6, 2040)), (56, (.return_, 1, 0, 0, 0))])
def eX7_init : mx_En := ((yX7_init, cX7_init, 2, none), 1, (1089, 1005, 1088, 0), [
  (0, (.aload_n 0, 1, 0, 0, 0)), (1, (.invokespecial 3, 3, 0, 1, 1090)), (4, (.aload_n 0, 1, 0, 0, 0)), (5, (.aload_n 1, 1, 0, 0, 0)),
  (6, (.putfield 9, 3, 7, 0, 1091)), (9, (.aload_n 0, 1, 0, 0, 0)), (10, (.sipush 1024, 3, 0, 0, 0)), (13, (.newarray .int, 2, 0, 0, 1055)),
  (15, (.putfield 15, 3, 7, 1, 1092)), (18, (.aload_n 0, 1, 0, 0, 0)), (19, (.sipush 1024, 3, 0, 0, 0)), (22, (.newarray .int, 2, 0, 0, 1055)),
  (24, (.putfield 19, 3, 7, 2, 1093)), (27, (.aload_n 0, 1, 0, 0, 0)), (28, (.sipush 1024, 3, 0, 0, 0)), (31, (.newarray .int, 2, 0, 0, 1055)),
  (33, (.putfield 22, 3, 7, 3, 1094)), (36, (.aload_n 0, 1, 0, 0, 0)), (37, (.sipush 1024, 3, 0, 0, 0)), (40, (.newarray .int, 2, 0, 0, 1055)),
  (42, (.putfield 25, 3, 7, 4, 1095)), (45, (.aload_n 0, 1, 0, 0, 0)), (46, (.sipush 1024, 3, 0, 0, 0)), (49, (.newarray .int, 2, 0, 0, 1055)),
  (51, (.putfield 28, 3, 7, 5, 1096)), (54, (.aload_n 0, 1, 0, 0, 0)), (55, (.sipush 512, 3, 0, 0, 0)), (58, (.newarray .int, 2, 0, 0, 1055)),
  (60, (.putfield 31, 3, 7, 7, 1098)), (63, (.return_, 1, 0, 0, 0))])
def eX7_clear : mx_En := ((yX7_clear, cX7_clear, 1, none), 0, (3127, 1005, 3125, 3126), [
  (0, (.aload_n 0, 1, 0, 0, 0)), (1, (.iconst 0, 1, 0, 0, 0)), (2, (.putfield 34, 3, 7, 6, 1097)), (5, (.aload_n 0, 1, 0, 0, 0)),
  (6, (.iconst 0, 1, 0, 0, 0)), (7, (.putfield 38, 3, 7, 8, 1099)), (10, (.return_, 1, 0, 0, 0))])
def eX8_init : mx_En := ((yX8_init, cX8_init, 1, none), 0, (1034, 1002, 1033, 0), [
  (0, (.aload_n 0, 1, 0, 0, 0)), (1, (.invokespecial 3, 3, 0, 1, 1035)), (4, (.aload_n 0, 1, 0, 0, 0)), (5, (.sipush 240, 3, 0, 0, 0)),
  (8, (.newarray .int, 2, 0, 0, 1055)), (10, (.putfield 9, 3, 8, 0, 1036)), (13, (.aload_n 0, 1, 0, 0, 0)), (14, (.sipush 240, 3, 0, 0, 0)),
  (17, (.newarray .int, 2, 0, 0, 1055)), (19, (.putfield 15, 3, 8, 1, 1037)), (22, (.aload_n 0, 1, 0, 0, 0)), (23, (.sipush 240, 3, 0, 0, 0)),
  (26, (.newarray .int, 2, 0, 0, 1055)), (28, (.putfield 18, 3, 8, 2, 1038)), (31, (.aload_n 0, 1, 0, 0, 0)), (32, (.sipush 240, 3, 0, 0, 0)),
  (35, (.newarray .int, 2, 0, 0, 1055)), (37, (.putfield 21, 3, 8, 3, 1039)), (40, (.return_, 1, 0, 0, 0))])
def eX8_read : mx_En := ((yX8_read, cX8_read, 5, none), 2, (2168, 1002, 2166, 2167), [
  (0, (.aload_n 0, 1, 0, 0, 0)), (1, (.iconst 0, 1, 0, 0, 0)), (2, (.iload_n 2, 1, 0, 0, 0)), (3, (.aload_n 1, 1, 0, 0, 0)),
  (4, (.arraylength, 1, 0, 0, 0)), (5, (.aload_n 0, 1, 0, 0, 0)), (6, (.getfield 9, 3, 8, 0, 1036)), (9, (.arraylength, 1, 0, 0, 0)),
  (10, (.invokestatic 24, 3, 2171, 9, 2169)), (13, (.invokestatic 24, 3, 2171, 9, 2169)), (16, (.invokestatic 30, 3, 2174, 8, 2172)), (19, (.putfield 33, 3, 8, 4, 1040)),
  (22, (.aload_n 1, 1, 0, 0, 0)), (23, (.iconst 0, 1, 0, 0, 0)), (24, (.aload_n 0, 1, 0, 0, 0)), (25, (.getfield 9, 3, 8, 0, 1036)),
  (28, (.iconst 0, 1, 0, 0, 0)), (29, (.aload_n 0, 1, 0, 0, 0)), (30, (.getfield 33, 3, 8, 4, 1040)), (33, (.invokestatic 37, 3, 2177, 7, 2175)),
  (36, (.aload_n 0, 1, 0, 0, 0)), (37, (.iconst 0, 1, 0, 0, 0)), (38, (.putfield 43, 3, 8, 5, 1041)), (41, (.iconst 0, 1, 0, 0, 0)),
  (42, (.istore_n 3, 1, 0, 0, 0)), (43, (.iconst 0, 1, 0, 0, 0)), (44, (.istore 4, 2, 0, 0, 0)), (46, (.iload 4, 2, 0, 0, 0)),
  (48, (.sipush 240, 3, 0, 0, 0)), (51, (.if_icmp .ge 41, 3, 92, 0, 0)), (54, (.iload_n 3, 1, 0, 0, 0)), (55, (.aload_n 0, 1, 0, 0, 0)),
  (56, (.getfield 33, 3, 8, 4, 1040)), (59, (.if_icmp .ge 33, 3, 92, 0, 0)), (62, (.aload_n 0, 1, 0, 0, 0)), (63, (.getfield 9, 3, 8, 0, 1036)),
  (66, (.iload_n 3, 1, 0, 0, 0)), (67, (.iaload, 1, 0, 0, 0)), (71, (.ifCond .eq 9, 3, 80, 0, 0)), (74, (.iload_n 3, 1, 0, 0, 0)),
  (75, (.iconst 1, 1, 0, 0, 0)), (76, (.iadd, 1, 0, 0, 0)), (77, (.goto 8, 3, 85, 0, 0)), (80, (.aload_n 0, 1, 0, 0, 0)),
  (81, (.iload_n 3, 1, 0, 0, 0)), (85, (.istore_n 3, 1, 0, 0, 0)), (86, (.iinc 4 1, 3, 0, 0, 0)), (89, (.goto (-43), 3, 46, 0, 0)),
  (92, (.return_, 1, 0, 0, 0))])
def eX8_kind : mx_En := ((yX8_kind, cX8_kind, 2, some .int), 1, (3083, 1002, 3081, 3082), [
  (0, (.iload_n 1, 1, 0, 0, 0)), (1, (.ifCond .lt 20, 3, 21, 0, 0)), (4, (.iload_n 1, 1, 0, 0, 0)), (5, (.aload_n 0, 1, 0, 0, 0)),
  (6, (.getfield 43, 3, 8, 5, 1041)), (9, (.if_icmp .ge 12, 3, 21, 0, 0)), (12, (.aload_n 0, 1, 0, 0, 0)), (13, (.getfield 15, 3, 8, 1, 1037)),
  (16, (.iload_n 1, 1, 0, 0, 0)), (17, (.iaload, 1, 0, 0, 0)), (18, (.goto 4, 3, 22, 0, 0)), (21, (.iconst 0, 1, 0, 0, 0)),
  (22, (.ireturn, 1, 0, 0, 0))])
def eX9_init : mx_En := ((yX9_init, cX9_init, 1, none), 0, (1073, 1004, 1072, 0), [
  (0, (.aload_n 0, 1, 0, 0, 0)), (1, (.invokespecial 3, 3, 0, 1, 1074)), (4, (.aload_n 0, 1, 0, 0, 0)), (5, (.sipush 256, 3, 0, 0, 0)),
  (8, (.newarray .int, 2, 0, 0, 1055)), (10, (.putfield 9, 3, 9, 0, 1075)), (13, (.aload_n 0, 1, 0, 0, 0)), (14, (.sipush 256, 3, 0, 0, 0)),
  (17, (.newarray .int, 2, 0, 0, 1055)), (19, (.putfield 15, 3, 9, 1, 1076)), (22, (.aload_n 0, 1, 0, 0, 0)), (23, (.iconst 2, 1, 0, 0, 0)),
  (24, (.putfield 18, 3, 9, 2, 1077)), (27, (.return_, 1, 0, 0, 0))])
def eX9_clear : mx_En := ((yX9_clear, cX9_clear, 1, none), 0, (3123, 1004, 3121, 3122), [
  (0, (.aload_n 0, 1, 0, 0, 0)), (1, (.iconst 2, 1, 0, 0, 0)), (2, (.putfield 18, 3, 9, 2, 1077)), (5, (.return_, 1, 0, 0, 0))])
def eX10_init : mx_En := ((yX10_init, cX10_init, 6, none), 5, (2078, 1012, 2077, 0), [
  (0, (.aload_n 0, 1, 0, 0, 0)), (1, (.invokespecial 3, 3, 0, 1, 2079)), (4, (.aload_n 0, 1, 0, 0, 0)), (5, (.aload_n 1, 1, 0, 0, 0)),
  (6, (.putfield 9, 3, 10, 0, 2082)), (9, (.aload_n 0, 1, 0, 0, 0)), (10, (.aload_n 2, 1, 0, 0, 0)), (11, (.putfield 15, 3, 10, 1, 2083)),
  (14, (.aload_n 0, 1, 0, 0, 0)), (15, (.aload_n 3, 1, 0, 0, 0)), (16, (.putfield 19, 3, 10, 2, 2084)), (19, (.aload_n 0, 1, 0, 0, 0)),
  (20, (.aload 4, 2, 0, 0, 0)), (22, (.putfield 23, 3, 10, 3, 2085)), (25, (.aload_n 0, 1, 0, 0, 0)), (26, (.aload 5, 2, 0, 0, 0)),
  (28, (.putfield 27, 3, 10, 4, 2086)), (31, (.aload_n 0, 1, 0, 0, 0)), (32, (.new 31, 3, 5, 0, 2080)), (35, (.dup, 1, 0, 0, 0)),
  (36, (.invokespecial 33, 3, 9, 0, 2081)), (39, (.putfield 34, 3, 10, 5, 2087)), (42, (.aload_n 0, 1, 0, 0, 0)), (43, (.bipush 32, 2, 0, 0, 0)),
  (45, (.newarray .int, 2, 0, 0, 1055)), (47, (.putfield 38, 3, 10, 6, 2088)), (50, (.aload_n 0, 1, 0, 0, 0)), (51, (.sipush 128, 3, 0, 0, 0)),
  (54, (.newarray .int, 2, 0, 0, 1055)), (56, (.putfield 42, 3, 10, 7, 2089)), (59, (.aload_n 0, 1, 0, 0, 0)), (60, (.sipush 4000, 3, 0, 0, 0)),
  (63, (.newarray .int, 2, 0, 0, 1055)), (65, (.putfield 45, 3, 10, 9, 2091)), (68, (.aload_n 0, 1, 0, 0, 0)), (69, (.iconst (-1), 1, 0, 0, 0)),
  (70, (.putfield 48, 3, 10, 11, 2093)), (73, (.return_, 1, 0, 0, 0))])
def eX11_init : mx_En := ((yX11_init, cX11_init, 5, none), 0, (1026, 1001, 1025, 0), [
  (0, (.aload_n 0, 1, 0, 0, 0)), (1, (.invokespecial 1, 3, 0, 1, 1027)), (4, (.aload_n 0, 1, 0, 0, 0)), (5, (.sipush 240, 3, 0, 0, 0)),
  (8, (.newarray .int, 2, 0, 0, 1055)), (10, (.putfield 9, 3, 11, 0, 2119)), (13, (.aload_n 0, 1, 0, 0, 0)), (14, (.new 13, 3, 8, 0, 1030)),
  (17, (.dup, 1, 0, 0, 0)), (18, (.invokespecial 15, 3, 13, 0, 1032)), (21, (.putfield 16, 3, 11, 6, 2125)), (24, (.aload_n 0, 1, 0, 0, 0)),
  (25, (.new 20, 3, 2, 0, 1056)), (28, (.dup, 1, 0, 0, 0)), (29, (.aload_n 0, 1, 0, 0, 0)), (30, (.getfield 16, 3, 11, 6, 2125)),
  (33, (.invokespecial 22, 3, 3, 0, 1058)), (36, (.putfield 25, 3, 11, 7, 2126)), (39, (.new 29, 3, 9, 0, 1069)), (42, (.dup, 1, 0, 0, 0)),
  (43, (.invokespecial 31, 3, 16, 0, 1071)), (46, (.astore_n 1, 1, 0, 0, 0)), (47, (.new 32, 3, 7, 0, 1085)), (50, (.dup, 1, 0, 0, 0)),
  (51, (.aload_n 1, 1, 0, 0, 0)), (52, (.invokespecial 34, 3, 11, 0, 1087)), (55, (.astore_n 2, 1, 0, 0, 0)), (56, (.aload_n 0, 1, 0, 0, 0)),
  (57, (.new 37, 3, 1, 0, 1119)), (60, (.dup, 1, 0, 0, 0)), (61, (.aload_n 0, 1, 0, 0, 0)), (62, (.getfield 16, 3, 11, 6, 2125)),
  (65, (.aload_n 1, 1, 0, 0, 0)), (66, (.aload_n 2, 1, 0, 0, 0)), (67, (.invokespecial 39, 3, 1, 0, 1121)), (70, (.putfield 42, 3, 11, 8, 2127)),
  (73, (.new 46, 3, 3, 0, 1187)), (76, (.dup, 1, 0, 0, 0)), (77, (.invokespecial 48, 3, 5, 0, 1189)), (80, (.astore_n 3, 1, 0, 0, 0)),
  (81, (.new 49, 3, 0, 0, 1206)), (84, (.dup, 1, 0, 0, 0)), (85, (.aload_n 2, 1, 0, 0, 0)), (86, (.aload_n 3, 1, 0, 0, 0)),
  (87, (.invokespecial 51, 3, 0, 0, 1208)), (90, (.astore 4, 2, 0, 0, 0)), (92, (.aload_n 0, 1, 0, 0, 0)), (93, (.new 54, 3, 6, 0, 2000)),
  (96, (.dup, 1, 0, 0, 0)), (97, (.aload_n 2, 1, 0, 0, 0)), (98, (.aload_n 3, 1, 0, 0, 0)), (99, (.aload 4, 2, 0, 0, 0)),
  (101, (.invokespecial 56, 3, 10, 0, 2002)), (104, (.putfield 59, 3, 11, 9, 2128)), (107, (.aload_n 0, 1, 0, 0, 0)), (108, (.new 63, 3, 10, 0, 2074)),
  (111, (.dup, 1, 0, 0, 0)), (112, (.aload_n 0, 1, 0, 0, 0)), (113, (.getfield 42, 3, 11, 8, 2127)), (116, (.aload_n 1, 1, 0, 0, 0)),
  (117, (.aload_n 2, 1, 0, 0, 0)), (118, (.aload_n 3, 1, 0, 0, 0)), (119, (.aload 4, 2, 0, 0, 0)), (121, (.invokespecial 65, 3, 18, 0, 2076)),
  (124, (.putfield 68, 3, 11, 10, 2129)), (127, (.aload_n 0, 1, 0, 0, 0)), (128, (.iconst (-1), 1, 0, 0, 0)), (129, (.putfield 72, 3, 11, 3, 2122)),
  (132, (.aload_n 0, 1, 0, 0, 0)), (133, (.iconst (-1), 1, 0, 0, 0)), (134, (.putfield 76, 3, 11, 4, 2123)), (137, (.aload_n 0, 1, 0, 0, 0)),
  (138, (.iconst (-1), 1, 0, 0, 0)), (139, (.putfield 79, 3, 11, 5, 2124)), (142, (.return_, 1, 0, 0, 0))])
def eX11_feed : mx_En := ((yX11_feed, cX11_feed, 6, some .int), 5, (2156, 1001, 2154, 2155), [
  (0, (.aload_n 0, 1, 0, 0, 0)), (1, (.getfield 82, 3, 11, 1, 2120)), (4, (.bipush 20, 2, 0, 0, 0)), (6, (.iadd, 1, 0, 0, 0)),
  (7, (.sipush 240, 3, 0, 0, 0)), (10, (.if_icmp .le 5, 3, 15, 0, 0)), (13, (.iconst (-1), 1, 0, 0, 0)), (14, (.ireturn, 1, 0, 0, 0)),
  (15, (.aload_n 0, 1, 0, 0, 0)), (16, (.iload_n 1, 1, 0, 0, 0)), (17, (.invokevirtual 85, 3, 31, 11, 2157)), (20, (.aload_n 0, 1, 0, 0, 0)),
  (21, (.iload_n 2, 1, 0, 0, 0)), (22, (.invokevirtual 85, 3, 31, 11, 2157)), (25, (.aload_n 0, 1, 0, 0, 0)), (26, (.iload_n 3, 1, 0, 0, 0)),
  (27, (.invokevirtual 85, 3, 31, 11, 2157)), (30, (.aload_n 0, 1, 0, 0, 0)), (31, (.iload 4, 2, 0, 0, 0)), (33, (.invokevirtual 85, 3, 31, 11, 2157)),
  (36, (.aload_n 0, 1, 0, 0, 0)), (37, (.iload 5, 2, 0, 0, 0)), (39, (.invokevirtual 85, 3, 31, 11, 2157)), (42, (.aload_n 0, 1, 0, 0, 0)),
  (43, (.getfield 82, 3, 11, 1, 2120)), (46, (.ireturn, 1, 0, 0, 0))])
def eX11_load : mx_En := ((yX11_load, cX11_load, 2, some .int), 1, (2164, 1001, 2162, 2163), [
  (0, (.iload_n 1, 1, 0, 0, 0)), (1, (.ifCond .lt 11, 3, 12, 0, 0)), (4, (.iload_n 1, 1, 0, 0, 0)), (5, (.aload_n 0, 1, 0, 0, 0)),
  (6, (.getfield 82, 3, 11, 1, 2120)), (9, (.if_icmp .le 5, 3, 14, 0, 0)), (12, (.iconst (-1), 1, 0, 0, 0)), (13, (.ireturn, 1, 0, 0, 0)),
  (14, (.aload_n 0, 1, 0, 0, 0)), (15, (.iconst 0, 1, 0, 0, 0)), (16, (.putfield 82, 3, 11, 1, 2120)), (19, (.aload_n 0, 1, 0, 0, 0)),
  (20, (.iconst 0, 1, 0, 0, 0)), (21, (.putfield 89, 3, 11, 2, 2121)), (24, (.aload_n 0, 1, 0, 0, 0)), (25, (.iconst (-1), 1, 0, 0, 0)),
  (26, (.putfield 72, 3, 11, 3, 2122)), (29, (.aload_n 0, 1, 0, 0, 0)), (30, (.iconst (-1), 1, 0, 0, 0)), (31, (.putfield 76, 3, 11, 4, 2123)),
  (34, (.aload_n 0, 1, 0, 0, 0)), (35, (.iconst (-1), 1, 0, 0, 0)), (36, (.putfield 79, 3, 11, 5, 2124)), (39, (.aload_n 0, 1, 0, 0, 0)),
  (40, (.getfield 16, 3, 11, 6, 2125)), (43, (.aload_n 0, 1, 0, 0, 0)), (44, (.getfield 9, 3, 11, 0, 2119)), (47, (.iload_n 1, 1, 0, 0, 0)),
  (48, (.invokevirtual 93, 3, 14, 8, 2165)), (51, (.aload_n 0, 1, 0, 0, 0)), (52, (.getfield 25, 3, 11, 7, 2126)), (55, (.invokevirtual 97, 3, 4, 2, 3076)),
  (58, (.ifCond .ne 22, 3, 80, 0, 0)), (61, (.aload_n 0, 1, 0, 0, 0)), (62, (.aload_n 0, 1, 0, 0, 0)), (63, (.getfield 25, 3, 11, 7, 2126)),
  (69, (.putfield 76, 3, 11, 4, 2123)), (72, (.aload_n 0, 1, 0, 0, 0)), (73, (.iconst 0, 1, 0, 0, 0)), (74, (.putfield 79, 3, 11, 5, 2124)),
  (77, (.bipush (-2), 2, 0, 0, 0)), (79, (.ireturn, 1, 0, 0, 0)), (80, (.aload_n 0, 1, 0, 0, 0)), (81, (.getfield 42, 3, 11, 8, 2127)),
  (84, (.invokevirtual 105, 3, 2, 1, 3116)), (87, (.ifCond .ne 28, 3, 115, 0, 0)), (90, (.aload_n 0, 1, 0, 0, 0)), (91, (.aload_n 0, 1, 0, 0, 0)),
  (92, (.getfield 42, 3, 11, 8, 2127)), (98, (.putfield 76, 3, 11, 4, 2123)), (101, (.aload_n 0, 1, 0, 0, 0)), (102, (.aload_n 0, 1, 0, 0, 0)),
  (103, (.getfield 42, 3, 11, 8, 2127)), (109, (.putfield 79, 3, 11, 5, 2124)), (112, (.bipush (-3), 2, 0, 0, 0)), (114, (.ireturn, 1, 0, 0, 0)),
  (115, (.aload_n 0, 1, 0, 0, 0)), (116, (.iconst 1, 1, 0, 0, 0)), (117, (.putfield 89, 3, 11, 2, 2121)), (120, (.iconst 0, 1, 0, 0, 0)),
  (121, (.ireturn, 1, 0, 0, 0))])
def eX11_told : mx_En := ((yX11_told, cX11_told, 2, some .int), 1, (4062, 1001, 4060, 4061), [
  (0, (.iload_n 1, 1, 0, 0, 0)), (1, (.ifCond .ne 8, 3, 9, 0, 0)), (4, (.aload_n 0, 1, 0, 0, 0)), (5, (.getfield 76, 3, 11, 4, 2123)),
  (8, (.ireturn, 1, 0, 0, 0)), (9, (.iload_n 1, 1, 0, 0, 0)), (10, (.iconst 1, 1, 0, 0, 0)), (11, (.if_icmp .ne 10, 3, 21, 0, 0)),
  (14, (.aload_n 0, 1, 0, 0, 0)), (15, (.getfield 79, 3, 11, 5, 2124)), (18, (.goto 4, 3, 22, 0, 0)), (21, (.iconst (-1), 1, 0, 0, 0)),
  (22, (.ireturn, 1, 0, 0, 0))])
def eX11_count : mx_En := ((yX11_count, cX11_count, 2, some .int), 1, (4066, 1001, 4064, 4065), [
  (0, (.aload_n 0, 1, 0, 0, 0)), (1, (.getfield 89, 3, 11, 2, 2121)), (4, (.ifCond .ne 5, 3, 9, 0, 0)), (7, (.iconst (-1), 1, 0, 0, 0)),
  (8, (.ireturn, 1, 0, 0, 0)), (9, (.iload_n 1, 1, 0, 0, 0)), (10, (.tableswitch 50 0 2 #[26, 34, 42], 26, 0, 0, 0)), (36, (.aload_n 0, 1, 0, 0, 0)),
  (37, (.getfield 42, 3, 11, 8, 2127)), (43, (.ireturn, 1, 0, 0, 0)), (44, (.aload_n 0, 1, 0, 0, 0)), (45, (.getfield 42, 3, 11, 8, 2127)),
  (51, (.ireturn, 1, 0, 0, 0)), (52, (.aload_n 0, 1, 0, 0, 0)), (53, (.getfield 42, 3, 11, 8, 2127)), (59, (.ireturn, 1, 0, 0, 0)),
  (60, (.iconst (-1), 1, 0, 0, 0)), (61, (.ireturn, 1, 0, 0, 0))])
def eX11_solve : mx_En := ((yX11_solve, cX11_solve, 1, some .int), 0, (4082, 1001, 4080, 4081), [
  (0, (.aload_n 0, 1, 0, 0, 0)), (1, (.getfield 89, 3, 11, 2, 2121)), (4, (.ifCond .ne 5, 3, 9, 0, 0)), (7, (.iconst (-1), 1, 0, 0, 0)),
  (8, (.ireturn, 1, 0, 0, 0)), (9, (.aload_n 0, 1, 0, 0, 0)), (10, (.getfield 72, 3, 11, 3, 2122)), (13, (.iconst (-1), 1, 0, 0, 0)),
  (14, (.if_icmp .ne 40, 3, 54, 0, 0)), (17, (.aload_n 0, 1, 0, 0, 0)), (18, (.aload_n 0, 1, 0, 0, 0)), (19, (.getfield 59, 3, 11, 9, 2128)),
  (22, (.aload_n 0, 1, 0, 0, 0)), (23, (.getfield 42, 3, 11, 8, 2127)), (29, (.ifCond .eq 7, 3, 36, 0, 0)), (32, (.iconst 0, 1, 0, 0, 0)),
  (33, (.goto 4, 3, 37, 0, 0)), (36, (.iconst 1, 1, 0, 0, 0)), (37, (.putfield 72, 3, 11, 3, 2122)), (40, (.aload_n 0, 1, 0, 0, 0)),
  (41, (.getfield 72, 3, 11, 3, 2122)), (44, (.ifCond .ne 10, 3, 54, 0, 0)), (47, (.aload_n 0, 1, 0, 0, 0)), (48, (.getfield 68, 3, 11, 10, 2129)),
  (54, (.aload_n 0, 1, 0, 0, 0)), (55, (.getfield 72, 3, 11, 3, 2122)), (58, (.ireturn, 1, 0, 0, 0))])
def eX11_fresh : mx_En := ((yX11_fresh, cX11_fresh, 1, some .int), 0, (5076, 1001, 5074, 5075), [
  (0, (.aload_n 0, 1, 0, 0, 0)), (1, (.invokevirtual 126, 3, 30, 11, 5077)), (4, (.ifCond .eq 13, 3, 17, 0, 0)), (7, (.aload_n 0, 1, 0, 0, 0)),
  (8, (.getfield 68, 3, 11, 10, 2129)), (14, (.goto 4, 3, 18, 0, 0)), (17, (.iconst (-1), 1, 0, 0, 0)), (18, (.ireturn, 1, 0, 0, 0))])
def eX11_size : mx_En := ((yX11_size, cX11_size, 2, some .int), 1, (5088, 1001, 5086, 5087), [
  (0, (.aload_n 0, 1, 0, 0, 0)), (1, (.invokevirtual 126, 3, 30, 11, 5077)), (4, (.ifCond .eq 21, 3, 25, 0, 0)), (7, (.aload_n 0, 1, 0, 0, 0)),
  (8, (.getfield 68, 3, 11, 10, 2129)), (11, (.aload_n 0, 1, 0, 0, 0)), (12, (.getfield 42, 3, 11, 8, 2127)), (15, (.iload_n 1, 1, 0, 0, 0)),
  (22, (.goto 4, 3, 26, 0, 0)), (25, (.iconst (-1), 1, 0, 0, 0)), (26, (.ireturn, 1, 0, 0, 0))])
def eX11_letter : mx_En := ((yX11_letter, cX11_letter, 3, some .int), 2, (5158, 1001, 5156, 5157), [
  (0, (.aload_n 0, 1, 0, 0, 0)), (1, (.invokevirtual 126, 3, 30, 11, 5077)), (4, (.ifCond .eq 32, 3, 36, 0, 0)), (7, (.aload_n 0, 1, 0, 0, 0)),
  (8, (.getfield 68, 3, 11, 10, 2129)), (11, (.aload_n 0, 1, 0, 0, 0)), (12, (.getfield 42, 3, 11, 8, 2127)), (15, (.iload_n 1, 1, 0, 0, 0)),
  (22, (.ifCond .lt 14, 3, 36, 0, 0)), (25, (.aload_n 0, 1, 0, 0, 0)), (26, (.getfield 68, 3, 11, 10, 2129)), (29, (.iload_n 2, 1, 0, 0, 0)),
  (33, (.goto 4, 3, 37, 0, 0)), (36, (.iconst (-1), 1, 0, 0, 0)), (37, (.ireturn, 1, 0, 0, 0))])
def eX11_side : mx_En := ((yX11_side, cX11_side, 3, some .int), 2, (5166, 1001, 5164, 5165), [
  (0, (.aload_n 0, 1, 0, 0, 0)), (1, (.invokevirtual 126, 3, 30, 11, 5077)), (4, (.ifCond .eq 22, 3, 26, 0, 0)), (7, (.aload_n 0, 1, 0, 0, 0)),
  (8, (.getfield 68, 3, 11, 10, 2129)), (11, (.aload_n 0, 1, 0, 0, 0)), (12, (.getfield 42, 3, 11, 8, 2127)), (15, (.iload_n 1, 1, 0, 0, 0)),
  (16, (.iload_n 2, 1, 0, 0, 0)), (23, (.goto 4, 3, 27, 0, 0)), (26, (.iconst (-1), 1, 0, 0, 0)), (27, (.ireturn, 1, 0, 0, 0))])
def eX11_sideLetter : mx_En := ((yX11_sideLetter, cX11_sideLetter, 4, some .int), 3, (5171, 1001, 5169, 5170), [
  (0, (.aload_n 0, 1, 0, 0, 0)), (1, (.invokevirtual 126, 3, 30, 11, 5077)), (4, (.ifCond .eq 33, 3, 37, 0, 0)), (7, (.aload_n 0, 1, 0, 0, 0)),
  (8, (.getfield 68, 3, 11, 10, 2129)), (11, (.aload_n 0, 1, 0, 0, 0)), (12, (.getfield 42, 3, 11, 8, 2127)), (15, (.iload_n 1, 1, 0, 0, 0)),
  (16, (.iload_n 2, 1, 0, 0, 0)), (23, (.ifCond .lt 14, 3, 37, 0, 0)), (26, (.aload_n 0, 1, 0, 0, 0)), (27, (.getfield 68, 3, 11, 10, 2129)),
  (30, (.iload_n 3, 1, 0, 0, 0)), (34, (.goto 4, 3, 38, 0, 0)), (37, (.iconst (-1), 1, 0, 0, 0)), (38, (.ireturn, 1, 0, 0, 0))])
def eX11_hasSolution : mx_En := ((yX11_hasSolution, cX11_hasSolution, 1, some .boolean), 0, (5080, 1001, 5079, 43), [
  (0, (.aload_n 0, 1, 0, 0, 0)), (1, (.getfield 89, 3, 11, 2, 2121)), (4, (.ifCond .eq 14, 3, 18, 0, 0)), (7, (.aload_n 0, 1, 0, 0, 0)),
  (8, (.getfield 72, 3, 11, 3, 2122)), (11, (.ifCond .ne 7, 3, 18, 0, 0)), (14, (.iconst 1, 1, 0, 0, 0)), (15, (.goto 4, 3, 19, 0, 0)),
  (18, (.iconst 0, 1, 0, 0, 0)), (19, (.ireturn, 1, 0, 0, 0))])
def eX11_takeWord : mx_En := ((yX11_takeWord, cX11_takeWord, 3, none), 1, (2160, 1001, 2159, 0), [
  (0, (.bipush 24, 2, 0, 0, 0)), (2, (.istore_n 2, 1, 0, 0, 0)), (3, (.iload_n 2, 1, 0, 0, 0)), (4, (.ifCond .lt 47, 3, 51, 0, 0)),
  (7, (.aload_n 0, 1, 0, 0, 0)), (8, (.getfield 82, 3, 11, 1, 2120)), (11, (.aload_n 0, 1, 0, 0, 0)), (12, (.getfield 9, 3, 11, 0, 2119)),
  (15, (.arraylength, 1, 0, 0, 0)), (16, (.if_icmp .ge 29, 3, 45, 0, 0)), (19, (.aload_n 0, 1, 0, 0, 0)), (20, (.getfield 9, 3, 11, 0, 2119)),
  (23, (.aload_n 0, 1, 0, 0, 0)), (24, (.getfield 82, 3, 11, 1, 2120)), (27, (.iload_n 1, 1, 0, 0, 0)), (28, (.iload_n 2, 1, 0, 0, 0)),
  (29, (.iushr, 1, 0, 0, 0)), (30, (.sipush 255, 3, 0, 0, 0)), (33, (.iand, 1, 0, 0, 0)), (34, (.iastore, 1, 0, 0, 0)),
  (35, (.aload_n 0, 1, 0, 0, 0)), (36, (.dup, 1, 0, 0, 0)), (37, (.getfield 82, 3, 11, 1, 2120)), (40, (.iconst 1, 1, 0, 0, 0)),
  (41, (.iadd, 1, 0, 0, 0)), (42, (.putfield 82, 3, 11, 1, 2120)), (45, (.iinc 2 (-8), 3, 0, 0, 0)), (48, (.goto (-45), 3, 3, 0, 0)),
  (51, (.return_, 1, 0, 0, 0))])
def eX12_init : mx_En := ((yX12_init, cX12_init, 1, none), 0, (5176, 1013, 5175, 0), [
  (0, (.aload_n 0, 1, 0, 0, 0)), (1, (.invokespecial 1, 3, 0, 1, 5177)), (4, (.aload_n 0, 1, 0, 0, 0)), (5, (.sipush 240, 3, 0, 0, 0)),
  (8, (.newarray .int, 2, 0, 0, 1055)), (10, (.putfield 7, 3, 12, 0, 5181)), (13, (.aload_n 0, 1, 0, 0, 0)), (14, (.sipush 240, 3, 0, 0, 0)),
  (17, (.newarray .int, 2, 0, 0, 1055)), (19, (.putfield 13, 3, 12, 2, 5183)), (22, (.aload_n 0, 1, 0, 0, 0)), (23, (.sipush 242, 3, 0, 0, 0)),
  (26, (.newarray .int, 2, 0, 0, 1055)), (28, (.putfield 16, 3, 12, 4, 5185)), (31, (.aload_n 0, 1, 0, 0, 0)), (32, (.sipush 242, 3, 0, 0, 0)),
  (35, (.newarray .int, 2, 0, 0, 1055)), (37, (.putfield 19, 3, 12, 5, 5186)), (40, (.aload_n 0, 1, 0, 0, 0)), (41, (.sipush 242, 3, 0, 0, 0)),
  (44, (.newarray .int, 2, 0, 0, 1055)), (46, (.putfield 22, 3, 12, 6, 5187)), (49, (.aload_n 0, 1, 0, 0, 0)), (50, (.sipush 6000, 3, 0, 0, 0)),
  (53, (.newarray .int, 2, 0, 0, 1055)), (55, (.putfield 25, 3, 12, 10, 5191)), (58, (.aload_n 0, 1, 0, 0, 0)), (59, (.sipush 6000, 3, 0, 0, 0)),
  (62, (.newarray .int, 2, 0, 0, 1055)), (64, (.putfield 28, 3, 12, 11, 5192)), (67, (.aload_n 0, 1, 0, 0, 0)), (68, (.sipush 600, 3, 0, 0, 0)),
  (71, (.newarray .int, 2, 0, 0, 1055)), (73, (.putfield 31, 3, 12, 13, 5194)), (76, (.aload_n 0, 1, 0, 0, 0)), (77, (.sipush 600, 3, 0, 0, 0)),
  (80, (.newarray .int, 2, 0, 0, 1055)), (82, (.putfield 34, 3, 12, 14, 5195)), (85, (.aload_n 0, 1, 0, 0, 0)), (86, (.sipush 600, 3, 0, 0, 0)),
  (89, (.newarray .int, 2, 0, 0, 1055)), (91, (.putfield 37, 3, 12, 15, 5196)), (94, (.aload_n 0, 1, 0, 0, 0)), (95, (.sipush 600, 3, 0, 0, 0)),
  (98, (.newarray .int, 2, 0, 0, 1055)), (100, (.putfield 40, 3, 12, 16, 5197)), (103, (.aload_n 0, 1, 0, 0, 0)), (104, (.sipush 600, 3, 0, 0, 0)),
  (107, (.newarray .int, 2, 0, 0, 1055)), (109, (.putfield 43, 3, 12, 17, 5198)), (112, (.aload_n 0, 1, 0, 0, 0)), (113, (.sipush 600, 3, 0, 0, 0)),
  (116, (.newarray .int, 2, 0, 0, 1055)), (118, (.putfield 46, 3, 12, 18, 5199)), (121, (.aload_n 0, 1, 0, 0, 0)), (122, (.sipush 600, 3, 0, 0, 0)),
  (125, (.newarray .int, 2, 0, 0, 1055)), (127, (.putfield 49, 3, 12, 19, 5200)), (130, (.aload_n 0, 1, 0, 0, 0)), (131, (.sipush 600, 3, 0, 0, 0)),
  (134, (.newarray .int, 2, 0, 0, 1055)), (136, (.putfield 52, 3, 12, 20, 5201)), (139, (.aload_n 0, 1, 0, 0, 0)), (140, (.sipush 600, 3, 0, 0, 0)),
  (143, (.newarray .int, 2, 0, 0, 1055)), (145, (.putfield 55, 3, 12, 21, 5202)), (148, (.aload_n 0, 1, 0, 0, 0)), (149, (.sipush 600, 3, 0, 0, 0)),
  (152, (.newarray .int, 2, 0, 0, 1055)), (154, (.putfield 58, 3, 12, 22, 5203)), (157, (.aload_n 0, 1, 0, 0, 0)), (158, (.sipush 600, 3, 0, 0, 0)),
  (161, (.newarray .int, 2, 0, 0, 1055)), (163, (.putfield 61, 3, 12, 23, 5204)), (166, (.aload_n 0, 1, 0, 0, 0)), (167, (.bipush 60, 2, 0, 0, 0)),
  (169, (.newarray .int, 2, 0, 0, 1055)), (171, (.putfield 64, 3, 12, 25, 5206)), (174, (.aload_n 0, 1, 0, 0, 0)), (175, (.bipush 60, 2, 0, 0, 0)),
  (177, (.newarray .int, 2, 0, 0, 1055)), (179, (.putfield 67, 3, 12, 26, 5207)), (182, (.aload_n 0, 1, 0, 0, 0)), (183, (.bipush 60, 2, 0, 0, 0)),
  (185, (.newarray .int, 2, 0, 0, 1055)), (187, (.putfield 70, 3, 12, 27, 5208)), (190, (.aload_n 0, 1, 0, 0, 0)), (191, (.bipush 60, 2, 0, 0, 0)),
  (193, (.newarray .int, 2, 0, 0, 1055)), (195, (.putfield 73, 3, 12, 28, 5209)), (198, (.aload_n 0, 1, 0, 0, 0)), (199, (.bipush 60, 2, 0, 0, 0)),
  (201, (.newarray .int, 2, 0, 0, 1055)), (203, (.putfield 76, 3, 12, 29, 5210)), (206, (.aload_n 0, 1, 0, 0, 0)), (207, (.bipush 60, 2, 0, 0, 0)),
  (209, (.newarray .int, 2, 0, 0, 1055)), (211, (.putfield 79, 3, 12, 30, 5211)), (214, (.aload_n 0, 1, 0, 0, 0)), (215, (.bipush 60, 2, 0, 0, 0)),
  (217, (.newarray .int, 2, 0, 0, 1055)), (219, (.putfield 82, 3, 12, 31, 5212)), (222, (.aload_n 0, 1, 0, 0, 0)), (223, (.bipush 60, 2, 0, 0, 0)),
  (225, (.newarray .int, 2, 0, 0, 1055)), (227, (.putfield 85, 3, 12, 32, 5213)), (230, (.aload_n 0, 1, 0, 0, 0)), (231, (.bipush 60, 2, 0, 0, 0)),
  (233, (.newarray .int, 2, 0, 0, 1055)), (235, (.putfield 88, 3, 12, 35, 5216)), (238, (.aload_n 0, 1, 0, 0, 0)), (239, (.bipush 60, 2, 0, 0, 0)),
  (241, (.newarray .int, 2, 0, 0, 1055)), (243, (.putfield 91, 3, 12, 36, 5217)), (246, (.aload_n 0, 1, 0, 0, 0)), (247, (.iconst (-1), 1, 0, 0, 0)),
  (248, (.putfield 94, 3, 12, 38, 5219)), (251, (.aload_n 0, 1, 0, 0, 0)), (252, (.iconst (-1), 1, 0, 0, 0)), (253, (.putfield 98, 3, 12, 39, 5220)),
  (256, (.aload_n 0, 1, 0, 0, 0)), (257, (.bipush 8, 2, 0, 0, 0)), (259, (.newarray .int, 2, 0, 0, 1055)), (261, (.putfield 101, 3, 12, 43, 5224)),
  (264, (.aload_n 0, 1, 0, 0, 0)), (265, (.bipush 8, 2, 0, 0, 0)), (267, (.newarray .int, 2, 0, 0, 1055)), (269, (.putfield 104, 3, 12, 44, 5225)),
  (272, (.aload_n 0, 1, 0, 0, 0)), (273, (.iconst 5, 1, 0, 0, 0)), (274, (.newarray .int, 2, 0, 0, 1055)), (276, (.putfield 107, 3, 12, 46, 5227)),
  (279, (.aload_n 0, 1, 0, 0, 0)), (280, (.iconst 4, 1, 0, 0, 0)), (281, (.newarray .int, 2, 0, 0, 1055)), (283, (.putfield 110, 3, 12, 48, 5229)),
  (286, (.aload_n 0, 1, 0, 0, 0)), (287, (.iconst 4, 1, 0, 0, 0)), (288, (.newarray .int, 2, 0, 0, 1055)), (290, (.putfield 113, 3, 12, 49, 5230)),
  (293, (.aload_n 0, 1, 0, 0, 0)), (294, (.ldc 116, 2, 60000, 0, 5178)), (296, (.newarray .int, 2, 0, 0, 1055)), (298, (.putfield 117, 3, 12, 51, 5232)),
  (301, (.aload_n 0, 1, 0, 0, 0)), (302, (.ldc 116, 2, 60000, 0, 5178)), (304, (.newarray .int, 2, 0, 0, 1055)), (306, (.putfield 120, 3, 12, 52, 5233)),
  (309, (.aload_n 0, 1, 0, 0, 0)), (310, (.ldc 116, 2, 60000, 0, 5178)), (312, (.newarray .int, 2, 0, 0, 1055)), (314, (.putfield 123, 3, 12, 53, 5234)),
  (317, (.aload_n 0, 1, 0, 0, 0)), (318, (.ldc 116, 2, 60000, 0, 5178)), (320, (.newarray .int, 2, 0, 0, 1055)), (322, (.putfield 126, 3, 12, 54, 5235)),
  (325, (.aload_n 0, 1, 0, 0, 0)), (326, (.ldc 116, 2, 60000, 0, 5178)), (328, (.newarray .int, 2, 0, 0, 1055)), (330, (.putfield 129, 3, 12, 55, 5236)),
  (333, (.aload_n 0, 1, 0, 0, 0)), (334, (.ldc 132, 2, 120000, 0, 5179)), (336, (.newarray .int, 2, 0, 0, 1055)), (338, (.putfield 133, 3, 12, 57, 5238)),
  (341, (.aload_n 0, 1, 0, 0, 0)), (342, (.ldc 136, 2, 400000, 0, 5180)), (344, (.newarray .int, 2, 0, 0, 1055)), (346, (.putfield 137, 3, 12, 59, 6000)),
  (349, (.aload_n 0, 1, 0, 0, 0)), (350, (.ldc 136, 2, 400000, 0, 5180)), (352, (.newarray .int, 2, 0, 0, 1055)), (354, (.putfield 140, 3, 12, 60, 6001)),
  (357, (.aload_n 0, 1, 0, 0, 0)), (358, (.sipush 3000, 3, 0, 0, 0)), (361, (.newarray .int, 2, 0, 0, 1055)), (363, (.putfield 143, 3, 12, 62, 6003)),
  (366, (.aload_n 0, 1, 0, 0, 0)), (367, (.sipush 3000, 3, 0, 0, 0)), (370, (.newarray .int, 2, 0, 0, 1055)), (372, (.putfield 146, 3, 12, 63, 6004)),
  (375, (.aload_n 0, 1, 0, 0, 0)), (376, (.sipush 20000, 3, 0, 0, 0)), (379, (.newarray .int, 2, 0, 0, 1055)), (381, (.putfield 149, 3, 12, 65, 6006)),
  (384, (.aload_n 0, 1, 0, 0, 0)), (385, (.sipush 3000, 3, 0, 0, 0)), (388, (.newarray .boolean, 2, 0, 0, 6212)), (390, (.putfield 152, 3, 12, 66, 6007)),
  (393, (.aload_n 0, 1, 0, 0, 0)), (394, (.sipush 3000, 3, 0, 0, 0)), (397, (.newarray .int, 2, 0, 0, 1055)), (399, (.putfield 156, 3, 12, 67, 6008)),
  (402, (.aload_n 0, 1, 0, 0, 0)), (403, (.sipush 3000, 3, 0, 0, 0)), (406, (.newarray .int, 2, 0, 0, 1055)), (408, (.putfield 159, 3, 12, 68, 6009)),
  (411, (.aload_n 0, 1, 0, 0, 0)), (412, (.sipush 3000, 3, 0, 0, 0)), (415, (.newarray .int, 2, 0, 0, 1055)), (417, (.putfield 162, 3, 12, 69, 6010)),
  (420, (.aload_n 0, 1, 0, 0, 0)), (421, (.ldc 136, 2, 400000, 0, 5180)), (423, (.newarray .int, 2, 0, 0, 1055)), (425, (.putfield 165, 3, 12, 72, 6013)),
  (428, (.aload_n 0, 1, 0, 0, 0)), (429, (.ldc 136, 2, 400000, 0, 5180)), (431, (.newarray .int, 2, 0, 0, 1055)), (433, (.putfield 168, 3, 12, 73, 6014)),
  (436, (.aload_n 0, 1, 0, 0, 0)), (437, (.ldc 136, 2, 400000, 0, 5180)), (439, (.newarray .int, 2, 0, 0, 1055)), (441, (.putfield 171, 3, 12, 74, 6015)),
  (444, (.aload_n 0, 1, 0, 0, 0)), (445, (.sipush 3000, 3, 0, 0, 0)), (448, (.newarray .int, 2, 0, 0, 1055)), (450, (.putfield 174, 3, 12, 80, 6021)),
  (453, (.aload_n 0, 1, 0, 0, 0)), (454, (.sipush 3000, 3, 0, 0, 0)), (457, (.newarray .boolean, 2, 0, 0, 6212)), (459, (.putfield 177, 3, 12, 81, 6022)),
  (462, (.aload_n 0, 1, 0, 0, 0)), (463, (.sipush 3000, 3, 0, 0, 0)), (466, (.newarray .int, 2, 0, 0, 1055)), (468, (.putfield 180, 3, 12, 82, 6023)),
  (471, (.aload_n 0, 1, 0, 0, 0)), (472, (.sipush 20000, 3, 0, 0, 0)), (475, (.newarray .int, 2, 0, 0, 1055)), (477, (.putfield 183, 3, 12, 84, 6025)),
  (480, (.aload_n 0, 1, 0, 0, 0)), (481, (.sipush 4001, 3, 0, 0, 0)), (484, (.newarray .int, 2, 0, 0, 1055)), (486, (.putfield 186, 3, 12, 85, 6026)),
  (489, (.aload_n 0, 1, 0, 0, 0)), (490, (.iconst 5, 1, 0, 0, 0)), (491, (.newarray .int, 2, 0, 0, 1055)), (493, (.putfield 189, 3, 12, 87, 6028)),
  (496, (.aload_n 0, 1, 0, 0, 0)), (497, (.sipush 3000, 3, 0, 0, 0)), (500, (.newarray .boolean, 2, 0, 0, 6212)), (502, (.putfield 192, 3, 12, 88, 6029)),
  (505, (.return_, 1, 0, 0, 0))])
def eX12_feed : mx_En := ((yX12_feed, cX12_feed, 8, some .int), 5, (6216, 1013, 6214, 6215), [
  (0, (.aload_n 0, 1, 0, 0, 0)), (1, (.getfield 195, 3, 12, 1, 5182)), (4, (.bipush 20, 2, 0, 0, 0)), (6, (.iadd, 1, 0, 0, 0)),
  (7, (.sipush 240, 3, 0, 0, 0)), (10, (.if_icmp .le 5, 3, 15, 0, 0)), (13, (.iconst (-1), 1, 0, 0, 0)), (14, (.ireturn, 1, 0, 0, 0)),
  (15, (.iconst 0, 1, 0, 0, 0)), (16, (.istore 6, 2, 0, 0, 0)), (18, (.iload 6, 2, 0, 0, 0)), (20, (.bipush 20, 2, 0, 0, 0)),
  (22, (.if_icmp .ge 93, 3, 115, 0, 0)), (25, (.iload 6, 2, 0, 0, 0)), (27, (.iconst 4, 1, 0, 0, 0)), (28, (.if_icmp .ge 7, 3, 35, 0, 0)),
  (31, (.iload_n 1, 1, 0, 0, 0)), (32, (.goto 39, 3, 71, 0, 0)), (35, (.iload 6, 2, 0, 0, 0)), (37, (.bipush 8, 2, 0, 0, 0)),
  (39, (.if_icmp .ge 7, 3, 46, 0, 0)), (42, (.iload_n 2, 1, 0, 0, 0)), (43, (.goto 28, 3, 71, 0, 0)), (46, (.iload 6, 2, 0, 0, 0)),
  (48, (.bipush 12, 2, 0, 0, 0)), (50, (.if_icmp .ge 7, 3, 57, 0, 0)), (53, (.iload_n 3, 1, 0, 0, 0)), (54, (.goto 17, 3, 71, 0, 0)),
  (57, (.iload 6, 2, 0, 0, 0)), (59, (.bipush 16, 2, 0, 0, 0)), (61, (.if_icmp .ge 8, 3, 69, 0, 0)), (64, (.iload 4, 2, 0, 0, 0)),
  (66, (.goto 5, 3, 71, 0, 0)), (69, (.iload 5, 2, 0, 0, 0)), (71, (.istore 7, 2, 0, 0, 0)), (73, (.aload_n 0, 1, 0, 0, 0)),
  (74, (.getfield 7, 3, 12, 0, 5181)), (77, (.aload_n 0, 1, 0, 0, 0)), (78, (.getfield 195, 3, 12, 1, 5182)), (81, (.iload 7, 2, 0, 0, 0)),
  (83, (.bipush 24, 2, 0, 0, 0)), (85, (.bipush 8, 2, 0, 0, 0)), (87, (.iload 6, 2, 0, 0, 0)), (89, (.iconst 4, 1, 0, 0, 0)),
  (90, (.irem, 1, 0, 0, 0)), (91, (.imul, 1, 0, 0, 0)), (92, (.isub, 1, 0, 0, 0)), (93, (.ishr, 1, 0, 0, 0)),
  (94, (.sipush 255, 3, 0, 0, 0)), (97, (.iand, 1, 0, 0, 0)), (98, (.iastore, 1, 0, 0, 0)), (99, (.aload_n 0, 1, 0, 0, 0)),
  (100, (.dup, 1, 0, 0, 0)), (101, (.getfield 195, 3, 12, 1, 5182)), (104, (.iconst 1, 1, 0, 0, 0)), (105, (.iadd, 1, 0, 0, 0)),
  (106, (.putfield 195, 3, 12, 1, 5182)), (109, (.iinc 6 1, 3, 0, 0, 0)), (112, (.goto (-94), 3, 18, 0, 0)), (115, (.aload_n 0, 1, 0, 0, 0)),
  (116, (.getfield 195, 3, 12, 1, 5182)), (119, (.ireturn, 1, 0, 0, 0))])
def eX12_byteAt : mx_En := ((yX12_byteAt, cX12_byteAt, 2, some .int), 1, (6228, 1013, 6227, 53), [
  (0, (.iload_n 1, 1, 0, 0, 0)), (1, (.aload_n 0, 1, 0, 0, 0)), (2, (.getfield 198, 3, 12, 3, 5184)), (5, (.if_icmp .ge 12, 3, 17, 0, 0)),
  (8, (.aload_n 0, 1, 0, 0, 0)), (9, (.getfield 13, 3, 12, 2, 5183)), (12, (.iload_n 1, 1, 0, 0, 0)), (13, (.iaload, 1, 0, 0, 0)),
  (14, (.goto 4, 3, 18, 0, 0)), (17, (.iconst 0, 1, 0, 0, 0)), (18, (.ireturn, 1, 0, 0, 0))])
def eX12_tokenAt : mx_En := ((yX12_tokenAt, cX12_tokenAt, 5, some .int), 2, (6232, 1013, 6231, 54), [
  (0, (.aload_n 0, 1, 0, 0, 0)), (1, (.getfield 22, 3, 12, 6, 5187)), (4, (.iload_n 1, 1, 0, 0, 0)), (5, (.iconst 0, 1, 0, 0, 0)),
  (6, (.iastore, 1, 0, 0, 0)), (7, (.iload_n 2, 1, 0, 0, 0)), (8, (.aload_n 0, 1, 0, 0, 0)), (9, (.getfield 198, 3, 12, 3, 5184)),
  (12, (.if_icmp .lt 6, 3, 18, 0, 0)), (15, (.bipush 7, 2, 0, 0, 0)), (17, (.ireturn, 1, 0, 0, 0)), (18, (.aload_n 0, 1, 0, 0, 0)),
  (19, (.iload_n 2, 1, 0, 0, 0)), (20, (.invokevirtual 206, 3, 34, 12, 6225)), (23, (.istore_n 3, 1, 0, 0, 0)), (24, (.iload_n 3, 1, 0, 0, 0)),
  (28, (.ifCond .eq 143, 3, 171, 0, 0)), (31, (.iconst 1, 1, 0, 0, 0)), (32, (.istore 4, 2, 0, 0, 0)), (34, (.aload_n 0, 1, 0, 0, 0)),
  (35, (.iload_n 2, 1, 0, 0, 0)), (36, (.iload 4, 2, 0, 0, 0)), (38, (.iadd, 1, 0, 0, 0)), (39, (.invokevirtual 206, 3, 34, 12, 6225)),
  (45, (.ifCond .ne 17, 3, 62, 0, 0)), (48, (.aload_n 0, 1, 0, 0, 0)), (49, (.iload_n 2, 1, 0, 0, 0)), (50, (.iload 4, 2, 0, 0, 0)),
  (52, (.iadd, 1, 0, 0, 0)), (53, (.invokevirtual 206, 3, 34, 12, 6225)), (59, (.ifCond .eq 9, 3, 68, 0, 0)), (62, (.iinc 4 1, 3, 0, 0, 0)),
  (65, (.goto (-31), 3, 34, 0, 0)), (68, (.aload_n 0, 1, 0, 0, 0)), (69, (.getfield 22, 3, 12, 6, 5187)), (72, (.iload_n 1, 1, 0, 0, 0)),
  (73, (.iload 4, 2, 0, 0, 0)), (75, (.iastore, 1, 0, 0, 0)), (76, (.iload 4, 2, 0, 0, 0)), (78, (.bipush 8, 2, 0, 0, 0)),
  (80, (.if_icmp .le 8, 3, 88, 0, 0)), (83, (.bipush 8, 2, 0, 0, 0)), (85, (.goto 85, 3, 170, 0, 0)), (88, (.aload_n 0, 1, 0, 0, 0)),
  (89, (.iload_n 2, 1, 0, 0, 0)), (90, (.iload 4, 2, 0, 0, 0)), (97, (.ifCond .eq 7, 3, 104, 0, 0)), (100, (.iconst 2, 1, 0, 0, 0)),
  (101, (.goto 69, 3, 170, 0, 0)), (104, (.aload_n 0, 1, 0, 0, 0)), (105, (.iload_n 2, 1, 0, 0, 0)), (106, (.iload 4, 2, 0, 0, 0)),
  (113, (.ifCond .eq 7, 3, 120, 0, 0)), (116, (.iconst 3, 1, 0, 0, 0)), (117, (.goto 53, 3, 170, 0, 0)), (120, (.aload_n 0, 1, 0, 0, 0)),
  (121, (.iload_n 2, 1, 0, 0, 0)), (122, (.iload 4, 2, 0, 0, 0)), (129, (.ifCond .eq 7, 3, 136, 0, 0)), (132, (.iconst 4, 1, 0, 0, 0)),
  (133, (.goto 37, 3, 170, 0, 0)), (136, (.aload_n 0, 1, 0, 0, 0)), (137, (.iload_n 2, 1, 0, 0, 0)), (138, (.iload 4, 2, 0, 0, 0)),
  (145, (.ifCond .eq 7, 3, 152, 0, 0)), (148, (.iconst 5, 1, 0, 0, 0)), (149, (.goto 21, 3, 170, 0, 0)), (152, (.aload_n 0, 1, 0, 0, 0)),
  (153, (.iload_n 2, 1, 0, 0, 0)), (154, (.iload 4, 2, 0, 0, 0)), (161, (.ifCond .eq 8, 3, 169, 0, 0)), (164, (.bipush 6, 2, 0, 0, 0)),
  (166, (.goto 4, 3, 170, 0, 0)), (169, (.iconst 1, 1, 0, 0, 0)), (170, (.ireturn, 1, 0, 0, 0)), (171, (.iload_n 3, 1, 0, 0, 0)),
  (172, (.bipush 45, 2, 0, 0, 0)), (174, (.if_icmp .ne 25, 3, 199, 0, 0)), (177, (.aload_n 0, 1, 0, 0, 0)), (178, (.iload_n 2, 1, 0, 0, 0)),
  (179, (.iconst 1, 1, 0, 0, 0)), (180, (.iadd, 1, 0, 0, 0)), (181, (.invokevirtual 206, 3, 34, 12, 6225)), (184, (.bipush 62, 2, 0, 0, 0)),
  (186, (.if_icmp .ne 13, 3, 199, 0, 0)), (189, (.aload_n 0, 1, 0, 0, 0)), (190, (.getfield 22, 3, 12, 6, 5187)), (193, (.iload_n 1, 1, 0, 0, 0)),
  (194, (.iconst 2, 1, 0, 0, 0)), (195, (.iastore, 1, 0, 0, 0)), (196, (.bipush 9, 2, 0, 0, 0)), (198, (.ireturn, 1, 0, 0, 0)),
  (199, (.aload_n 0, 1, 0, 0, 0)), (200, (.getfield 22, 3, 12, 6, 5187)), (203, (.iload_n 1, 1, 0, 0, 0)), (204, (.iconst 1, 1, 0, 0, 0)),
  (205, (.iastore, 1, 0, 0, 0)), (206, (.iload_n 3, 1, 0, 0, 0)), (207, (.bipush 40, 2, 0, 0, 0)), (209, (.if_icmp .eq 39, 3, 248, 0, 0)),
  (212, (.iload_n 3, 1, 0, 0, 0)), (213, (.bipush 41, 2, 0, 0, 0)), (215, (.if_icmp .eq 33, 3, 248, 0, 0)), (218, (.iload_n 3, 1, 0, 0, 0)),
  (219, (.bipush 92, 2, 0, 0, 0)), (221, (.if_icmp .eq 27, 3, 248, 0, 0)), (224, (.iload_n 3, 1, 0, 0, 0)), (225, (.bipush 58, 2, 0, 0, 0)),
  (227, (.if_icmp .eq 21, 3, 248, 0, 0)), (230, (.iload_n 3, 1, 0, 0, 0)), (231, (.bipush 46, 2, 0, 0, 0)), (233, (.if_icmp .eq 15, 3, 248, 0, 0)),
  (236, (.iload_n 3, 1, 0, 0, 0)), (237, (.bipush 59, 2, 0, 0, 0)), (239, (.if_icmp .eq 9, 3, 248, 0, 0)), (242, (.iload_n 3, 1, 0, 0, 0)),
  (243, (.bipush 61, 2, 0, 0, 0)), (245, (.if_icmp .ne 7, 3, 252, 0, 0)), (248, (.iload_n 3, 1, 0, 0, 0)), (249, (.goto 5, 3, 254, 0, 0)),
  (252, (.bipush 8, 2, 0, 0, 0)), (254, (.ireturn, 1, 0, 0, 0))])
def eX12_cut : mx_En := ((yX12_cut, cX12_cut, 4, none), 0, (6224, 1013, 6223, 52), [
  (0, (.iconst 0, 1, 0, 0, 0)), (1, (.istore_n 1, 1, 0, 0, 0)), (2, (.iconst 0, 1, 0, 0, 0)), (3, (.istore_n 2, 1, 0, 0, 0)),
  (4, (.iconst 1, 1, 0, 0, 0)), (5, (.istore_n 3, 1, 0, 0, 0)), (6, (.iload_n 3, 1, 0, 0, 0)), (7, (.ifCond .eq 119, 3, 126, 0, 0)),
  (10, (.iload_n 1, 1, 0, 0, 0)), (11, (.aload_n 0, 1, 0, 0, 0)), (12, (.getfield 198, 3, 12, 3, 5184)), (15, (.if_icmp .ge 49, 3, 64, 0, 0)),
  (18, (.aload_n 0, 1, 0, 0, 0)), (19, (.iload_n 1, 1, 0, 0, 0)), (20, (.invokevirtual 206, 3, 34, 12, 6225)), (23, (.bipush 32, 2, 0, 0, 0)),
  (25, (.if_icmp .eq 33, 3, 58, 0, 0)), (28, (.aload_n 0, 1, 0, 0, 0)), (29, (.iload_n 1, 1, 0, 0, 0)), (30, (.invokevirtual 206, 3, 34, 12, 6225)),
  (33, (.bipush 9, 2, 0, 0, 0)), (35, (.if_icmp .eq 23, 3, 58, 0, 0)), (38, (.aload_n 0, 1, 0, 0, 0)), (39, (.iload_n 1, 1, 0, 0, 0)),
  (40, (.invokevirtual 206, 3, 34, 12, 6225)), (43, (.bipush 10, 2, 0, 0, 0)), (45, (.if_icmp .eq 13, 3, 58, 0, 0)), (48, (.aload_n 0, 1, 0, 0, 0)),
  (49, (.iload_n 1, 1, 0, 0, 0)), (50, (.invokevirtual 206, 3, 34, 12, 6225)), (53, (.bipush 13, 2, 0, 0, 0)), (55, (.if_icmp .ne 9, 3, 64, 0, 0)),
  (58, (.iinc 1 1, 3, 0, 0, 0)), (61, (.goto (-51), 3, 10, 0, 0)), (64, (.aload_n 0, 1, 0, 0, 0)), (65, (.getfield 19, 3, 12, 5, 5186)),
  (68, (.iload_n 2, 1, 0, 0, 0)), (69, (.iload_n 1, 1, 0, 0, 0)), (70, (.iastore, 1, 0, 0, 0)), (71, (.aload_n 0, 1, 0, 0, 0)),
  (72, (.getfield 16, 3, 12, 4, 5185)), (75, (.iload_n 2, 1, 0, 0, 0)), (76, (.aload_n 0, 1, 0, 0, 0)), (77, (.iload_n 2, 1, 0, 0, 0)),
  (78, (.iload_n 1, 1, 0, 0, 0)), (79, (.invokevirtual 235, 3, 35, 12, 6229)), (82, (.iastore, 1, 0, 0, 0)), (83, (.iload_n 1, 1, 0, 0, 0)),
  (84, (.aload_n 0, 1, 0, 0, 0)), (85, (.getfield 22, 3, 12, 6, 5187)), (88, (.iload_n 2, 1, 0, 0, 0)), (89, (.iaload, 1, 0, 0, 0)),
  (90, (.iadd, 1, 0, 0, 0)), (91, (.istore_n 1, 1, 0, 0, 0)), (92, (.aload_n 0, 1, 0, 0, 0)), (93, (.getfield 16, 3, 12, 4, 5185)),
  (96, (.iload_n 2, 1, 0, 0, 0)), (97, (.iaload, 1, 0, 0, 0)), (98, (.bipush 7, 2, 0, 0, 0)), (100, (.if_icmp .eq 18, 3, 118, 0, 0)),
  (103, (.aload_n 0, 1, 0, 0, 0)), (104, (.getfield 16, 3, 12, 4, 5185)), (107, (.iload_n 2, 1, 0, 0, 0)), (108, (.iaload, 1, 0, 0, 0)),
  (109, (.bipush 8, 2, 0, 0, 0)), (111, (.if_icmp .eq 7, 3, 118, 0, 0)), (114, (.iconst 1, 1, 0, 0, 0)), (115, (.goto 4, 3, 119, 0, 0)),
  (118, (.iconst 0, 1, 0, 0, 0)), (119, (.istore_n 3, 1, 0, 0, 0)), (120, (.iinc 2 1, 3, 0, 0, 0)), (123, (.goto (-117), 3, 6, 0, 0)),
  (126, (.aload_n 0, 1, 0, 0, 0)), (127, (.iconst 0, 1, 0, 0, 0)), (128, (.putfield 239, 3, 12, 7, 5188)), (131, (.aload_n 0, 1, 0, 0, 0)),
  (132, (.iconst 0, 1, 0, 0, 0)), (133, (.putfield 242, 3, 12, 8, 5189)), (136, (.return_, 1, 0, 0, 0))])
def eX12_read : mx_En := ((yX12_read, cX12_read, 2, none), 0, (7013, 1013, 7012, 56), [
  (0, (.aload_n 0, 1, 0, 0, 0)), (1, (.getfield 242, 3, 12, 8, 5189)), (4, (.ifCond .ne 247, 3, 251, 0, 0)), (7, (.aload_n 0, 1, 0, 0, 0)),
  (8, (.getfield 16, 3, 12, 4, 5185)), (11, (.aload_n 0, 1, 0, 0, 0)), (12, (.getfield 239, 3, 12, 7, 5188)), (15, (.iaload, 1, 0, 0, 0)),
  (16, (.bipush 7, 2, 0, 0, 0)), (18, (.if_icmp .eq 233, 3, 251, 0, 0)), (21, (.aload_n 0, 1, 0, 0, 0)), (22, (.getfield 16, 3, 12, 4, 5185)),
  (25, (.aload_n 0, 1, 0, 0, 0)), (26, (.getfield 239, 3, 12, 7, 5188)), (29, (.iaload, 1, 0, 0, 0)), (30, (.istore_n 1, 1, 0, 0, 0)),
  (31, (.aload_n 0, 1, 0, 0, 0)), (32, (.getfield 64, 3, 12, 25, 5206)), (35, (.aload_n 0, 1, 0, 0, 0)), (36, (.getfield 274, 3, 12, 24, 5205)),
  (39, (.iload_n 1, 1, 0, 0, 0)), (40, (.iastore, 1, 0, 0, 0)), (41, (.aload_n 0, 1, 0, 0, 0)), (42, (.getfield 67, 3, 12, 26, 5207)),
  (45, (.aload_n 0, 1, 0, 0, 0)), (46, (.getfield 274, 3, 12, 24, 5205)), (49, (.aload_n 0, 1, 0, 0, 0)), (50, (.getfield 239, 3, 12, 7, 5188)),
  (53, (.iastore, 1, 0, 0, 0)), (54, (.iload_n 1, 1, 0, 0, 0)), (55, (.iconst 2, 1, 0, 0, 0)), (56, (.if_icmp .eq 8, 3, 64, 0, 0)),
  (59, (.iload_n 1, 1, 0, 0, 0)), (60, (.iconst 3, 1, 0, 0, 0)), (61, (.if_icmp .ne 93, 3, 154, 0, 0)), (64, (.aload_n 0, 1, 0, 0, 0)),
  (65, (.dup, 1, 0, 0, 0)), (66, (.getfield 239, 3, 12, 7, 5188)), (69, (.iconst 1, 1, 0, 0, 0)), (70, (.iadd, 1, 0, 0, 0)),
  (71, (.putfield 239, 3, 12, 7, 5188)), (74, (.aload_n 0, 1, 0, 0, 0)), (75, (.getfield 67, 3, 12, 26, 5207)), (78, (.aload_n 0, 1, 0, 0, 0)),
  (79, (.getfield 274, 3, 12, 24, 5205)), (82, (.aload_n 0, 1, 0, 0, 0)), (83, (.iconst 1, 1, 0, 0, 0)), (87, (.iastore, 1, 0, 0, 0)),
  (88, (.aload_n 0, 1, 0, 0, 0)), (89, (.bipush 58, 2, 0, 0, 0)), (94, (.pop, 1, 0, 0, 0)), (95, (.aload_n 0, 1, 0, 0, 0)),
  (96, (.getfield 73, 3, 12, 28, 5209)), (99, (.aload_n 0, 1, 0, 0, 0)), (100, (.getfield 274, 3, 12, 24, 5205)), (103, (.aload_n 0, 1, 0, 0, 0)),
  (104, (.getfield 239, 3, 12, 7, 5188)), (107, (.iastore, 1, 0, 0, 0)), (108, (.aload_n 0, 1, 0, 0, 0)), (109, (.iconst 0, 1, 0, 0, 0)),
  (110, (.putfield 249, 3, 12, 33, 5214)), (113, (.aload_n 0, 1, 0, 0, 0)), (114, (.getfield 70, 3, 12, 27, 5208)), (117, (.aload_n 0, 1, 0, 0, 0)),
  (118, (.getfield 274, 3, 12, 24, 5205)), (121, (.aload_n 0, 1, 0, 0, 0)), (122, (.getfield 242, 3, 12, 8, 5189)), (125, (.ifCond .eq 7, 3, 132, 0, 0)),
  (128, (.iconst 0, 1, 0, 0, 0)), (129, (.goto 8, 3, 137, 0, 0)), (132, (.aload_n 0, 1, 0, 0, 0)), (133, (.iconst 0, 1, 0, 0, 0)),
  (137, (.iastore, 1, 0, 0, 0)), (138, (.aload_n 0, 1, 0, 0, 0)), (139, (.getfield 76, 3, 12, 29, 5210)), (142, (.aload_n 0, 1, 0, 0, 0)),
  (143, (.getfield 274, 3, 12, 24, 5205)), (146, (.aload_n 0, 1, 0, 0, 0)), (147, (.getfield 249, 3, 12, 33, 5214)), (150, (.iastore, 1, 0, 0, 0)),
  (151, (.goto 80, 3, 231, 0, 0)), (154, (.iload_n 1, 1, 0, 0, 0)), (155, (.iconst 4, 1, 0, 0, 0)), (156, (.if_icmp .ne 70, 3, 226, 0, 0)),
  (159, (.aload_n 0, 1, 0, 0, 0)), (160, (.dup, 1, 0, 0, 0)), (161, (.getfield 239, 3, 12, 7, 5188)), (164, (.iconst 1, 1, 0, 0, 0)),
  (165, (.iadd, 1, 0, 0, 0)), (166, (.putfield 239, 3, 12, 7, 5188)), (169, (.aload_n 0, 1, 0, 0, 0)), (170, (.getfield 79, 3, 12, 30, 5211)),
  (173, (.aload_n 0, 1, 0, 0, 0)), (174, (.getfield 274, 3, 12, 24, 5205)), (177, (.aload_n 0, 1, 0, 0, 0)), (178, (.iconst 0, 1, 0, 0, 0)),
  (182, (.iastore, 1, 0, 0, 0)), (183, (.aload_n 0, 1, 0, 0, 0)), (184, (.getfield 85, 3, 12, 32, 5213)), (187, (.aload_n 0, 1, 0, 0, 0)),
  (188, (.getfield 274, 3, 12, 24, 5205)), (191, (.aload_n 0, 1, 0, 0, 0)), (192, (.bipush 61, 2, 0, 0, 0)), (197, (.iastore, 1, 0, 0, 0)),
  (198, (.aload_n 0, 1, 0, 0, 0)), (199, (.getfield 82, 3, 12, 31, 5212)), (202, (.aload_n 0, 1, 0, 0, 0)), (203, (.getfield 274, 3, 12, 24, 5205)),
  (206, (.aload_n 0, 1, 0, 0, 0)), (207, (.getfield 242, 3, 12, 8, 5189)), (210, (.ifCond .eq 7, 3, 217, 0, 0)), (213, (.iconst (-1), 1, 0, 0, 0)),
  (214, (.goto 8, 3, 222, 0, 0)), (217, (.aload_n 0, 1, 0, 0, 0)), (218, (.iconst 0, 1, 0, 0, 0)), (222, (.iastore, 1, 0, 0, 0)),
  (223, (.goto 8, 3, 231, 0, 0)), (226, (.aload_n 0, 1, 0, 0, 0)), (227, (.iconst 1, 1, 0, 0, 0)), (228, (.putfield 242, 3, 12, 8, 5189)),
  (231, (.aload_n 0, 1, 0, 0, 0)), (232, (.bipush 59, 2, 0, 0, 0)), (237, (.pop, 1, 0, 0, 0)), (238, (.aload_n 0, 1, 0, 0, 0)),
  (239, (.dup, 1, 0, 0, 0)), (240, (.getfield 274, 3, 12, 24, 5205)), (243, (.iconst 1, 1, 0, 0, 0)), (244, (.iadd, 1, 0, 0, 0)),
  (245, (.putfield 274, 3, 12, 24, 5205)), (248, (.goto (-248), 3, 0, 0, 0)), (251, (.return_, 1, 0, 0, 0))])
def eX12_load : mx_En := ((yX12_load, cX12_load, 3, some .int), 1, (6220, 1013, 6218, 6219), [
  (0, (.iload_n 1, 1, 0, 0, 0)), (1, (.ifCond .lt 11, 3, 12, 0, 0)), (4, (.iload_n 1, 1, 0, 0, 0)), (5, (.aload_n 0, 1, 0, 0, 0)),
  (6, (.getfield 195, 3, 12, 1, 5182)), (9, (.if_icmp .le 5, 3, 14, 0, 0)), (12, (.iconst (-1), 1, 0, 0, 0)), (13, (.ireturn, 1, 0, 0, 0)),
  (14, (.aload_n 0, 1, 0, 0, 0)), (15, (.iload_n 1, 1, 0, 0, 0)), (16, (.putfield 198, 3, 12, 3, 5184)), (19, (.iconst 0, 1, 0, 0, 0)),
  (20, (.istore_n 2, 1, 0, 0, 0)), (21, (.iload_n 2, 1, 0, 0, 0)), (22, (.iload_n 1, 1, 0, 0, 0)), (23, (.if_icmp .ge 21, 3, 44, 0, 0)),
  (26, (.aload_n 0, 1, 0, 0, 0)), (27, (.getfield 13, 3, 12, 2, 5183)), (30, (.iload_n 2, 1, 0, 0, 0)), (31, (.aload_n 0, 1, 0, 0, 0)),
  (32, (.getfield 7, 3, 12, 0, 5181)), (35, (.iload_n 2, 1, 0, 0, 0)), (36, (.iaload, 1, 0, 0, 0)), (37, (.iastore, 1, 0, 0, 0)),
  (38, (.iinc 2 1, 3, 0, 0, 0)), (41, (.goto (-20), 3, 21, 0, 0)), (44, (.aload_n 0, 1, 0, 0, 0)), (45, (.iconst 0, 1, 0, 0, 0)),
  (46, (.putfield 195, 3, 12, 1, 5182)), (49, (.aload_n 0, 1, 0, 0, 0)), (50, (.iconst 2, 1, 0, 0, 0)), (51, (.putfield 246, 3, 12, 9, 5190)),
  (54, (.aload_n 0, 1, 0, 0, 0)), (55, (.iconst 0, 1, 0, 0, 0)), (56, (.putfield 261, 3, 12, 12, 5193)), (59, (.aload_n 0, 1, 0, 0, 0)),
  (60, (.iconst 0, 1, 0, 0, 0)), (61, (.putfield 274, 3, 12, 24, 5205)), (64, (.aload_n 0, 1, 0, 0, 0)), (65, (.iconst 0, 1, 0, 0, 0)),
  (66, (.putfield 299, 3, 12, 34, 5215)), (69, (.aload_n 0, 1, 0, 0, 0)), (70, (.iconst 0, 1, 0, 0, 0)), (71, (.putfield 290, 3, 12, 42, 5223)),
  (74, (.aload_n 0, 1, 0, 0, 0)), (75, (.iconst 0, 1, 0, 0, 0)), (76, (.putfield 296, 3, 12, 45, 5226)), (79, (.aload_n 0, 1, 0, 0, 0)),
  (80, (.iconst 0, 1, 0, 0, 0)), (81, (.putfield 330, 3, 12, 47, 5228)), (84, (.aload_n 0, 1, 0, 0, 0)), (85, (.iconst 0, 1, 0, 0, 0)),
  (86, (.putfield 333, 3, 12, 50, 5231)), (89, (.aload_n 0, 1, 0, 0, 0)), (90, (.iconst 0, 1, 0, 0, 0)), (91, (.putfield 336, 3, 12, 56, 5237)),
  (94, (.aload_n 0, 1, 0, 0, 0)), (95, (.iconst 1, 1, 0, 0, 0)), (96, (.putfield 287, 3, 12, 58, 5239)), (99, (.aload_n 0, 1, 0, 0, 0)),
  (100, (.iconst 0, 1, 0, 0, 0)), (101, (.putfield 277, 3, 12, 40, 5221)), (104, (.aload_n 0, 1, 0, 0, 0)), (105, (.iconst 0, 1, 0, 0, 0)),
  (106, (.putfield 339, 3, 12, 37, 5218)), (109, (.aload_n 0, 1, 0, 0, 0)), (110, (.iconst 0, 1, 0, 0, 0)), (111, (.putfield 342, 3, 12, 78, 6019)),
  (114, (.aload_n 0, 1, 0, 0, 0)), (115, (.invokevirtual 345, 3, 36, 12, 6221)), (118, (.aload_n 0, 1, 0, 0, 0)), (119, (.invokevirtual 348, 3, 37, 12, 7010)),
  (122, (.aload_n 0, 1, 0, 0, 0)), (123, (.getfield 242, 3, 12, 8, 5189)), (126, (.ifCond .eq 24, 3, 150, 0, 0)), (129, (.aload_n 0, 1, 0, 0, 0)),
  (130, (.aload_n 0, 1, 0, 0, 0)), (131, (.getfield 19, 3, 12, 5, 5186)), (134, (.aload_n 0, 1, 0, 0, 0)), (135, (.getfield 239, 3, 12, 7, 5188)),
  (138, (.iaload, 1, 0, 0, 0)), (139, (.putfield 94, 3, 12, 38, 5219)), (142, (.aload_n 0, 1, 0, 0, 0)), (143, (.iconst 0, 1, 0, 0, 0)),
  (144, (.putfield 98, 3, 12, 39, 5220)), (147, (.bipush (-2), 2, 0, 0, 0)), (149, (.ireturn, 1, 0, 0, 0)), (150, (.iconst 0, 1, 0, 0, 0)),
  (151, (.istore_n 2, 1, 0, 0, 0)), (152, (.iload_n 2, 1, 0, 0, 0)), (153, (.aload_n 0, 1, 0, 0, 0)), (154, (.getfield 274, 3, 12, 24, 5205)),
  (157, (.if_icmp .ge 39, 3, 196, 0, 0)), (160, (.aload_n 0, 1, 0, 0, 0)), (161, (.getfield 277, 3, 12, 40, 5221)), (164, (.ifCond .ne 32, 3, 196, 0, 0)),
  (167, (.aload_n 0, 1, 0, 0, 0)), (168, (.getfield 64, 3, 12, 25, 5206)), (171, (.iload_n 2, 1, 0, 0, 0)), (172, (.iaload, 1, 0, 0, 0)),
  (173, (.iconst 4, 1, 0, 0, 0)), (174, (.if_icmp .ne 11, 3, 185, 0, 0)), (177, (.aload_n 0, 1, 0, 0, 0)), (178, (.iload_n 2, 1, 0, 0, 0)),
  (182, (.goto 8, 3, 190, 0, 0)), (185, (.aload_n 0, 1, 0, 0, 0)), (186, (.iload_n 2, 1, 0, 0, 0)), (190, (.iinc 2 1, 3, 0, 0, 0)),
  (193, (.goto (-41), 3, 152, 0, 0)), (196, (.aload_n 0, 1, 0, 0, 0)), (197, (.getfield 277, 3, 12, 40, 5221)), (200, (.ifCond .eq 27, 3, 227, 0, 0)),
  (203, (.aload_n 0, 1, 0, 0, 0)), (204, (.aload_n 0, 1, 0, 0, 0)), (205, (.getfield 19, 3, 12, 5, 5186)), (208, (.aload_n 0, 1, 0, 0, 0)),
  (209, (.getfield 280, 3, 12, 41, 5222)), (212, (.iaload, 1, 0, 0, 0)), (213, (.putfield 94, 3, 12, 38, 5219)), (216, (.aload_n 0, 1, 0, 0, 0)),
  (217, (.aload_n 0, 1, 0, 0, 0)), (218, (.getfield 277, 3, 12, 40, 5221)), (221, (.putfield 98, 3, 12, 39, 5220)), (224, (.bipush (-3), 2, 0, 0, 0)),
  (226, (.ireturn, 1, 0, 0, 0)), (227, (.aload_n 0, 1, 0, 0, 0)), (228, (.iconst (-1), 1, 0, 0, 0)), (229, (.putfield 94, 3, 12, 38, 5219)),
  (232, (.aload_n 0, 1, 0, 0, 0)), (233, (.iconst (-1), 1, 0, 0, 0)), (234, (.putfield 98, 3, 12, 39, 5220)), (237, (.aload_n 0, 1, 0, 0, 0)),
  (238, (.iconst 1, 1, 0, 0, 0)), (239, (.putfield 339, 3, 12, 37, 5218)), (242, (.aload_n 0, 1, 0, 0, 0)), (243, (.aload_n 0, 1, 0, 0, 0)),
  (244, (.getfield 333, 3, 12, 50, 5231)), (247, (.putfield 357, 3, 12, 75, 6016)), (250, (.aload_n 0, 1, 0, 0, 0)), (251, (.aload_n 0, 1, 0, 0, 0)),
  (252, (.getfield 336, 3, 12, 56, 5237)), (255, (.putfield 360, 3, 12, 76, 6017)), (258, (.aload_n 0, 1, 0, 0, 0)), (259, (.aload_n 0, 1, 0, 0, 0)),
  (260, (.getfield 287, 3, 12, 58, 5239)), (263, (.putfield 363, 3, 12, 77, 6018)), (266, (.iconst 0, 1, 0, 0, 0)), (267, (.ireturn, 1, 0, 0, 0))])
def eX12_told : mx_En := ((yX12_told, cX12_told, 2, some .int), 1, (7109, 1013, 7107, 7108), [
  (0, (.iload_n 1, 1, 0, 0, 0)), (1, (.ifCond .ne 10, 3, 11, 0, 0)), (4, (.aload_n 0, 1, 0, 0, 0)), (5, (.getfield 94, 3, 12, 38, 5219)),
  (8, (.goto 16, 3, 24, 0, 0)), (11, (.iload_n 1, 1, 0, 0, 0)), (12, (.iconst 1, 1, 0, 0, 0)), (13, (.if_icmp .ne 10, 3, 23, 0, 0)),
  (16, (.aload_n 0, 1, 0, 0, 0)), (17, (.getfield 98, 3, 12, 39, 5220)), (20, (.goto 4, 3, 24, 0, 0)), (23, (.iconst (-1), 1, 0, 0, 0)),
  (24, (.ireturn, 1, 0, 0, 0))])
def eX12_count : mx_En := ((yX12_count, cX12_count, 2, some .int), 1, (7113, 1013, 7111, 7112), [
  (0, (.aload_n 0, 1, 0, 0, 0)), (1, (.getfield 339, 3, 12, 37, 5218)), (4, (.ifCond .ne 7, 3, 11, 0, 0)), (7, (.iconst (-1), 1, 0, 0, 0)),
  (8, (.goto 39, 3, 47, 0, 0)), (11, (.iload_n 1, 1, 0, 0, 0)), (12, (.ifCond .ne 10, 3, 22, 0, 0)), (15, (.aload_n 0, 1, 0, 0, 0)),
  (16, (.getfield 290, 3, 12, 42, 5223)), (19, (.goto 28, 3, 47, 0, 0)), (22, (.iload_n 1, 1, 0, 0, 0)), (23, (.iconst 1, 1, 0, 0, 0)),
  (24, (.if_icmp .ne 10, 3, 34, 0, 0)), (27, (.aload_n 0, 1, 0, 0, 0)), (28, (.getfield 296, 3, 12, 45, 5226)), (31, (.goto 16, 3, 47, 0, 0)),
  (34, (.iload_n 1, 1, 0, 0, 0)), (35, (.iconst 2, 1, 0, 0, 0)), (36, (.if_icmp .ne 10, 3, 46, 0, 0)), (39, (.aload_n 0, 1, 0, 0, 0)),
  (40, (.getfield 330, 3, 12, 47, 5228)), (43, (.goto 4, 3, 47, 0, 0)), (46, (.iconst (-1), 1, 0, 0, 0)), (47, (.ireturn, 1, 0, 0, 0))])
def eX12_solve : mx_En := ((yX12_solve, cX12_solve, 4, some .int), 0, (7117, 1013, 7115, 7116), [
  (0, (.aload_n 0, 1, 0, 0, 0)), (1, (.getfield 339, 3, 12, 37, 5218)), (4, (.ifCond .ne 5, 3, 9, 0, 0)), (7, (.iconst (-1), 1, 0, 0, 0)),
  (8, (.ireturn, 1, 0, 0, 0)), (9, (.aload_n 0, 1, 0, 0, 0)), (10, (.aload_n 0, 1, 0, 0, 0)), (11, (.getfield 357, 3, 12, 75, 6016)),
  (14, (.putfield 333, 3, 12, 50, 5231)), (17, (.aload_n 0, 1, 0, 0, 0)), (18, (.aload_n 0, 1, 0, 0, 0)), (19, (.getfield 360, 3, 12, 76, 6017)),
  (22, (.putfield 336, 3, 12, 56, 5237)), (25, (.aload_n 0, 1, 0, 0, 0)), (26, (.aload_n 0, 1, 0, 0, 0)), (27, (.getfield 363, 3, 12, 77, 6018)),
  (30, (.putfield 287, 3, 12, 58, 5239)), (33, (.aload_n 0, 1, 0, 0, 0)), (34, (.iconst 0, 1, 0, 0, 0)), (35, (.putfield 378, 3, 12, 71, 6012)),
  (38, (.aload_n 0, 1, 0, 0, 0)), (39, (.iconst 0, 1, 0, 0, 0)), (40, (.putfield 394, 3, 12, 61, 6002)), (43, (.aload_n 0, 1, 0, 0, 0)),
  (44, (.iconst 0, 1, 0, 0, 0)), (45, (.putfield 397, 3, 12, 64, 6005)), (48, (.aload_n 0, 1, 0, 0, 0)), (49, (.iconst 0, 1, 0, 0, 0)),
  (50, (.putfield 400, 3, 12, 70, 6011)), (53, (.aload_n 0, 1, 0, 0, 0)), (54, (.iconst 0, 1, 0, 0, 0)), (55, (.putfield 342, 3, 12, 78, 6019)),
  (58, (.iconst 0, 1, 0, 0, 0)), (59, (.istore_n 1, 1, 0, 0, 0)), (60, (.iload_n 1, 1, 0, 0, 0)), (61, (.aload_n 0, 1, 0, 0, 0)),
  (62, (.getfield 296, 3, 12, 45, 5226)), (65, (.if_icmp .ge 47, 3, 112, 0, 0)), (68, (.aload_n 0, 1, 0, 0, 0)), (72, (.istore_n 2, 1, 0, 0, 0)),
  (73, (.aload_n 0, 1, 0, 0, 0)), (74, (.getfield 189, 3, 12, 87, 6028)), (77, (.iload_n 1, 1, 0, 0, 0)), (78, (.iaload, 1, 0, 0, 0)),
  (79, (.istore_n 3, 1, 0, 0, 0)), (80, (.iload_n 3, 1, 0, 0, 0)), (81, (.iconst 1, 1, 0, 0, 0)), (82, (.if_icmp .le 24, 3, 106, 0, 0)),
  (85, (.aload_n 0, 1, 0, 0, 0)), (86, (.iload_n 2, 1, 0, 0, 0)), (87, (.aload_n 0, 1, 0, 0, 0)), (88, (.getfield 25, 3, 12, 10, 5191)),
  (91, (.iload_n 3, 1, 0, 0, 0)), (92, (.iaload, 1, 0, 0, 0)), (96, (.aload_n 0, 1, 0, 0, 0)), (97, (.getfield 28, 3, 12, 11, 5192)),
  (100, (.iload_n 3, 1, 0, 0, 0)), (101, (.iaload, 1, 0, 0, 0)), (102, (.istore_n 3, 1, 0, 0, 0)), (103, (.goto (-23), 3, 80, 0, 0)),
  (106, (.iinc 1 1, 3, 0, 0, 0)), (109, (.goto (-49), 3, 60, 0, 0)), (112, (.iconst 0, 1, 0, 0, 0)), (113, (.istore_n 1, 1, 0, 0, 0)),
  (114, (.iload_n 1, 1, 0, 0, 0)), (115, (.aload_n 0, 1, 0, 0, 0)), (116, (.getfield 330, 3, 12, 47, 5228)), (119, (.if_icmp .ge 32, 3, 151, 0, 0)),
  (122, (.aload_n 0, 1, 0, 0, 0)), (123, (.aload_n 0, 1, 0, 0, 0)), (124, (.getfield 110, 3, 12, 48, 5229)), (127, (.iload_n 1, 1, 0, 0, 0)),
  (128, (.iaload, 1, 0, 0, 0)), (129, (.iconst (-1), 1, 0, 0, 0)), (130, (.aload_n 0, 1, 0, 0, 0)), (131, (.getfield 113, 3, 12, 49, 5230)),
  (134, (.iload_n 1, 1, 0, 0, 0)), (135, (.iaload, 1, 0, 0, 0)), (136, (.iconst (-1), 1, 0, 0, 0)), (140, (.ifCond .ne 5, 3, 145, 0, 0)),
  (143, (.iconst 1, 1, 0, 0, 0)), (144, (.ireturn, 1, 0, 0, 0)), (145, (.iinc 1 1, 3, 0, 0, 0)), (148, (.goto (-34), 3, 114, 0, 0)),
  (151, (.aload_n 0, 1, 0, 0, 0)), (152, (.iconst 1, 1, 0, 0, 0)), (153, (.putfield 342, 3, 12, 78, 6019)), (156, (.aload_n 0, 1, 0, 0, 0)),
  (160, (.iconst 0, 1, 0, 0, 0)), (161, (.ireturn, 1, 0, 0, 0))])
def eX12_fresh : mx_En := ((yX12_fresh, cX12_fresh, 1, some .int), 0, (7233, 1013, 7231, 7232), [
  (0, (.aload_n 0, 1, 0, 0, 0)), (1, (.getfield 342, 3, 12, 78, 6019)), (4, (.ifCond .eq 10, 3, 14, 0, 0)), (7, (.aload_n 0, 1, 0, 0, 0)),
  (8, (.getfield 450, 3, 12, 79, 6020)), (11, (.goto 4, 3, 15, 0, 0)), (14, (.iconst (-1), 1, 0, 0, 0)), (15, (.ireturn, 1, 0, 0, 0))])
def eX12_size : mx_En := ((yX12_size, cX12_size, 2, some .int), 1, (7237, 1013, 7235, 7236), [
  (0, (.aload_n 0, 1, 0, 0, 0)), (1, (.getfield 342, 3, 12, 78, 6019)), (4, (.ifCond .eq 15, 3, 19, 0, 0)), (7, (.iload_n 1, 1, 0, 0, 0)),
  (8, (.ifCond .lt 11, 3, 19, 0, 0)), (11, (.iload_n 1, 1, 0, 0, 0)), (12, (.aload_n 0, 1, 0, 0, 0)), (13, (.getfield 296, 3, 12, 45, 5226)),
  (16, (.if_icmp .lt 7, 3, 23, 0, 0)), (19, (.iconst (-1), 1, 0, 0, 0)), (20, (.goto 10, 3, 30, 0, 0)), (23, (.aload_n 0, 1, 0, 0, 0)),
  (24, (.iload_n 1, 1, 0, 0, 0)), (25, (.iconst 0, 1, 0, 0, 0)), (26, (.iconst 0, 1, 0, 0, 0)), (30, (.ireturn, 1, 0, 0, 0))])
def eX12_letter : mx_En := ((yX12_letter, cX12_letter, 4, some .int), 2, (8005, 1013, 8003, 8004), [
  (0, (.aload_n 0, 1, 0, 0, 0)), (1, (.iload_n 1, 1, 0, 0, 0)), (2, (.invokevirtual 497, 3, 43, 12, 8006)), (5, (.istore_n 3, 1, 0, 0, 0)),
  (6, (.iload_n 3, 1, 0, 0, 0)), (7, (.iconst (-1), 1, 0, 0, 0)), (8, (.if_icmp .eq 12, 3, 20, 0, 0)), (11, (.iload_n 2, 1, 0, 0, 0)),
  (12, (.ifCond .lt 8, 3, 20, 0, 0)), (15, (.iload_n 2, 1, 0, 0, 0)), (16, (.iload_n 3, 1, 0, 0, 0)), (17, (.if_icmp .lt 7, 3, 24, 0, 0)),
  (20, (.iconst (-1), 1, 0, 0, 0)), (21, (.goto 9, 3, 30, 0, 0)), (24, (.aload_n 0, 1, 0, 0, 0)), (25, (.getfield 186, 3, 12, 85, 6026)),
  (28, (.iload_n 2, 1, 0, 0, 0)), (29, (.iaload, 1, 0, 0, 0)), (30, (.ireturn, 1, 0, 0, 0))])
def eX12_side : mx_En := ((yX12_side, cX12_side, 3, some .int), 2, (8010, 1013, 8008, 8009), [
  (0, (.aload_n 0, 1, 0, 0, 0)), (1, (.getfield 342, 3, 12, 78, 6019)), (4, (.ifCond .eq 24, 3, 28, 0, 0)), (7, (.iload_n 1, 1, 0, 0, 0)),
  (8, (.ifCond .lt 20, 3, 28, 0, 0)), (11, (.iload_n 1, 1, 0, 0, 0)), (12, (.aload_n 0, 1, 0, 0, 0)), (13, (.getfield 330, 3, 12, 47, 5228)),
  (16, (.if_icmp .ge 12, 3, 28, 0, 0)), (19, (.iload_n 2, 1, 0, 0, 0)), (20, (.ifCond .lt 8, 3, 28, 0, 0)), (23, (.iload_n 2, 1, 0, 0, 0)),
  (24, (.iconst 1, 1, 0, 0, 0)), (25, (.if_icmp .le 7, 3, 32, 0, 0)), (28, (.iconst (-1), 1, 0, 0, 0)), (29, (.goto 10, 3, 39, 0, 0)),
  (32, (.aload_n 0, 1, 0, 0, 0)), (33, (.iload_n 1, 1, 0, 0, 0)), (34, (.iconst 1, 1, 0, 0, 0)), (35, (.iload_n 2, 1, 0, 0, 0)),
  (39, (.ireturn, 1, 0, 0, 0))])
def eX12_sideLetter : mx_En := ((yX12_sideLetter, cX12_sideLetter, 5, some .int), 3, (8014, 1013, 8012, 8013), [
  (0, (.aload_n 0, 1, 0, 0, 0)), (1, (.iload_n 1, 1, 0, 0, 0)), (2, (.iload_n 2, 1, 0, 0, 0)), (3, (.invokevirtual 499, 3, 45, 12, 8015)),
  (6, (.istore 4, 2, 0, 0, 0)), (8, (.iload 4, 2, 0, 0, 0)), (10, (.iconst (-1), 1, 0, 0, 0)), (11, (.if_icmp .eq 13, 3, 24, 0, 0)),
  (14, (.iload_n 3, 1, 0, 0, 0)), (15, (.ifCond .lt 9, 3, 24, 0, 0)), (18, (.iload_n 3, 1, 0, 0, 0)), (19, (.iload 4, 2, 0, 0, 0)),
  (21, (.if_icmp .lt 7, 3, 28, 0, 0)), (24, (.iconst (-1), 1, 0, 0, 0)), (25, (.goto 9, 3, 34, 0, 0)), (28, (.aload_n 0, 1, 0, 0, 0)),
  (29, (.getfield 186, 3, 12, 85, 6026)), (32, (.iload_n 3, 1, 0, 0, 0)), (33, (.iaload, 1, 0, 0, 0)), (34, (.ireturn, 1, 0, 0, 0))])
def eJ7_fill_53178 : mx_En := ((yJ7_fill_53178, cJ7_fill_53178, 4, none), 2, (4094, 1021, 4093, 0), [
  (0, (.iconst 0, 1, 0, 0, 0)), (1, (.istore_n 2, 1, 0, 0, 0)), (2, (.aload_n 0, 1, 0, 0, 0)), (3, (.arraylength, 1, 0, 0, 0)),
  (4, (.istore_n 3, 1, 0, 0, 0)), (5, (.iload_n 2, 1, 0, 0, 0)), (6, (.iload_n 3, 1, 0, 0, 0)), (7, (.if_icmp .ge 13, 3, 20, 0, 0)),
  (10, (.aload_n 0, 1, 0, 0, 0)), (11, (.iload_n 2, 1, 0, 0, 0)), (12, (.iload_n 1, 1, 0, 0, 0)), (13, (.iastore, 1, 0, 0, 0)),
  (14, (.iinc 2 1, 3, 0, 0, 0)), (17, (.goto (-12), 3, 5, 0, 0)), (20, (.return_, 1, 0, 0, 0))])
def eL_law : mx_En := ((yL_law, cL_law, maxLocals, ret), 1, (0, 1000, 0, 0), [
  (0, (.new 7, 3, 11, 0, 1022)), (3, (.dup, 1, 0, 0, 0)), (4, (.invokespecial 9, 3, 19, 0, 1024)), (7, (.astore_n 1, 1, 0, 0, 0)),
  (8, (.new 10, 3, 12, 0, 5172)), (11, (.dup, 1, 0, 0, 0)), (12, (.invokespecial 12, 3, 32, 0, 5174)), (15, (.astore_n 2, 1, 0, 0, 0)),
  (16, (.iconst 0, 1, 0, 0, 0)), (17, (.istore_n 3, 1, 0, 0, 0)), (18, (.iload_n 3, 1, 0, 0, 0)), (19, (.aload_n 0, 1, 0, 0, 0)),
  (20, (.arraylength, 1, 0, 0, 0)), (21, (.bipush 6, 2, 0, 0, 0)), (23, (.isub, 1, 0, 0, 0)), (24, (.if_icmp .gt 360, 3, 384, 0, 0)),
  (27, (.aload_n 0, 1, 0, 0, 0)), (28, (.iload_n 3, 1, 0, 0, 0)), (29, (.iaload, 1, 0, 0, 0)), (30, (.bipush 15, 2, 0, 0, 0)),
  (32, (.iand, 1, 0, 0, 0)), (33, (.tableswitch 345 0 9 #[55, 118, 141, 164, 187, 200, 213, 236, 269, 302], 55, 0, 0, 0)), (88, (.aload_n 1, 1, 0, 0, 0)), (89, (.aload_n 0, 1, 0, 0, 0)),
  (90, (.iload_n 3, 1, 0, 0, 0)), (91, (.iconst 1, 1, 0, 0, 0)), (92, (.iadd, 1, 0, 0, 0)), (93, (.iaload, 1, 0, 0, 0)),
  (94, (.aload_n 0, 1, 0, 0, 0)), (95, (.iload_n 3, 1, 0, 0, 0)), (96, (.iconst 2, 1, 0, 0, 0)), (97, (.iadd, 1, 0, 0, 0)),
  (98, (.iaload, 1, 0, 0, 0)), (99, (.aload_n 0, 1, 0, 0, 0)), (100, (.iload_n 3, 1, 0, 0, 0)), (101, (.iconst 3, 1, 0, 0, 0)),
  (102, (.iadd, 1, 0, 0, 0)), (103, (.iaload, 1, 0, 0, 0)), (104, (.aload_n 0, 1, 0, 0, 0)), (105, (.iload_n 3, 1, 0, 0, 0)),
  (106, (.iconst 4, 1, 0, 0, 0)), (107, (.iadd, 1, 0, 0, 0)), (108, (.iaload, 1, 0, 0, 0)), (109, (.aload_n 0, 1, 0, 0, 0)),
  (110, (.iload_n 3, 1, 0, 0, 0)), (111, (.iconst 5, 1, 0, 0, 0)), (112, (.iadd, 1, 0, 0, 0)), (113, (.iaload, 1, 0, 0, 0)),
  (114, (.invokevirtual 13, 3, 20, 11, 2153)), (117, (.aload_n 2, 1, 0, 0, 0)), (118, (.aload_n 0, 1, 0, 0, 0)), (119, (.iload_n 3, 1, 0, 0, 0)),
  (120, (.iconst 1, 1, 0, 0, 0)), (121, (.iadd, 1, 0, 0, 0)), (122, (.iaload, 1, 0, 0, 0)), (123, (.aload_n 0, 1, 0, 0, 0)),
  (124, (.iload_n 3, 1, 0, 0, 0)), (125, (.iconst 2, 1, 0, 0, 0)), (126, (.iadd, 1, 0, 0, 0)), (127, (.iaload, 1, 0, 0, 0)),
  (128, (.aload_n 0, 1, 0, 0, 0)), (129, (.iload_n 3, 1, 0, 0, 0)), (130, (.iconst 3, 1, 0, 0, 0)), (131, (.iadd, 1, 0, 0, 0)),
  (132, (.iaload, 1, 0, 0, 0)), (133, (.aload_n 0, 1, 0, 0, 0)), (134, (.iload_n 3, 1, 0, 0, 0)), (135, (.iconst 4, 1, 0, 0, 0)),
  (136, (.iadd, 1, 0, 0, 0)), (137, (.iaload, 1, 0, 0, 0)), (138, (.aload_n 0, 1, 0, 0, 0)), (139, (.iload_n 3, 1, 0, 0, 0)),
  (140, (.iconst 5, 1, 0, 0, 0)), (141, (.iadd, 1, 0, 0, 0)), (142, (.iaload, 1, 0, 0, 0)), (143, (.invokevirtual 17, 3, 33, 12, 6213)),
  (146, (.if_icmp .eq 232, 3, 378, 0, 0)), (149, (.iconst 0, 1, 0, 0, 0)), (150, (.ireturn, 1, 0, 0, 0)), (151, (.aload_n 1, 1, 0, 0, 0)),
  (152, (.aload_n 0, 1, 0, 0, 0)), (153, (.iload_n 3, 1, 0, 0, 0)), (154, (.iconst 1, 1, 0, 0, 0)), (155, (.iadd, 1, 0, 0, 0)),
  (156, (.iaload, 1, 0, 0, 0)), (157, (.invokevirtual 18, 3, 21, 11, 2161)), (160, (.aload_n 2, 1, 0, 0, 0)), (161, (.aload_n 0, 1, 0, 0, 0)),
  (162, (.iload_n 3, 1, 0, 0, 0)), (163, (.iconst 1, 1, 0, 0, 0)), (164, (.iadd, 1, 0, 0, 0)), (165, (.iaload, 1, 0, 0, 0)),
  (166, (.invokevirtual 22, 3, 38, 12, 6217)), (169, (.if_icmp .eq 209, 3, 378, 0, 0)), (172, (.iconst 0, 1, 0, 0, 0)), (173, (.ireturn, 1, 0, 0, 0)),
  (174, (.aload_n 1, 1, 0, 0, 0)), (175, (.aload_n 0, 1, 0, 0, 0)), (176, (.iload_n 3, 1, 0, 0, 0)), (177, (.iconst 1, 1, 0, 0, 0)),
  (178, (.iadd, 1, 0, 0, 0)), (179, (.iaload, 1, 0, 0, 0)), (180, (.invokevirtual 23, 3, 22, 11, 4059)), (183, (.aload_n 2, 1, 0, 0, 0)),
  (184, (.aload_n 0, 1, 0, 0, 0)), (185, (.iload_n 3, 1, 0, 0, 0)), (186, (.iconst 1, 1, 0, 0, 0)), (187, (.iadd, 1, 0, 0, 0)),
  (188, (.iaload, 1, 0, 0, 0)), (189, (.invokevirtual 26, 3, 39, 12, 7106)), (192, (.if_icmp .eq 186, 3, 378, 0, 0)), (195, (.iconst 0, 1, 0, 0, 0)),
  (196, (.ireturn, 1, 0, 0, 0)), (197, (.aload_n 1, 1, 0, 0, 0)), (198, (.aload_n 0, 1, 0, 0, 0)), (199, (.iload_n 3, 1, 0, 0, 0)),
  (200, (.iconst 1, 1, 0, 0, 0)), (201, (.iadd, 1, 0, 0, 0)), (202, (.iaload, 1, 0, 0, 0)), (203, (.invokevirtual 27, 3, 23, 11, 4063)),
  (206, (.aload_n 2, 1, 0, 0, 0)), (207, (.aload_n 0, 1, 0, 0, 0)), (208, (.iload_n 3, 1, 0, 0, 0)), (209, (.iconst 1, 1, 0, 0, 0)),
  (210, (.iadd, 1, 0, 0, 0)), (211, (.iaload, 1, 0, 0, 0)), (212, (.invokevirtual 30, 3, 40, 12, 7110)), (215, (.if_icmp .eq 163, 3, 378, 0, 0)),
  (218, (.iconst 0, 1, 0, 0, 0)), (219, (.ireturn, 1, 0, 0, 0)), (220, (.aload_n 1, 1, 0, 0, 0)), (221, (.invokevirtual 31, 3, 24, 11, 4079)),
  (224, (.aload_n 2, 1, 0, 0, 0)), (225, (.invokevirtual 35, 3, 41, 12, 7114)), (228, (.if_icmp .eq 150, 3, 378, 0, 0)), (231, (.iconst 0, 1, 0, 0, 0)),
  (232, (.ireturn, 1, 0, 0, 0)), (233, (.aload_n 1, 1, 0, 0, 0)), (234, (.invokevirtual 36, 3, 25, 11, 5073)), (237, (.aload_n 2, 1, 0, 0, 0)),
  (238, (.invokevirtual 39, 3, 42, 12, 7230)), (241, (.if_icmp .eq 137, 3, 378, 0, 0)), (244, (.iconst 0, 1, 0, 0, 0)), (245, (.ireturn, 1, 0, 0, 0)),
  (246, (.aload_n 1, 1, 0, 0, 0)), (247, (.aload_n 0, 1, 0, 0, 0)), (248, (.iload_n 3, 1, 0, 0, 0)), (249, (.iconst 1, 1, 0, 0, 0)),
  (250, (.iadd, 1, 0, 0, 0)), (251, (.iaload, 1, 0, 0, 0)), (252, (.invokevirtual 40, 3, 26, 11, 5085)), (255, (.aload_n 2, 1, 0, 0, 0)),
  (256, (.aload_n 0, 1, 0, 0, 0)), (257, (.iload_n 3, 1, 0, 0, 0)), (258, (.iconst 1, 1, 0, 0, 0)), (259, (.iadd, 1, 0, 0, 0)),
  (260, (.iaload, 1, 0, 0, 0)), (261, (.invokevirtual 43, 3, 43, 12, 7234)), (264, (.if_icmp .eq 114, 3, 378, 0, 0)), (267, (.iconst 0, 1, 0, 0, 0)),
  (268, (.ireturn, 1, 0, 0, 0)), (269, (.aload_n 1, 1, 0, 0, 0)), (270, (.aload_n 0, 1, 0, 0, 0)), (271, (.iload_n 3, 1, 0, 0, 0)),
  (272, (.iconst 1, 1, 0, 0, 0)), (273, (.iadd, 1, 0, 0, 0)), (274, (.iaload, 1, 0, 0, 0)), (275, (.aload_n 0, 1, 0, 0, 0)),
  (276, (.iload_n 3, 1, 0, 0, 0)), (277, (.iconst 2, 1, 0, 0, 0)), (278, (.iadd, 1, 0, 0, 0)), (279, (.iaload, 1, 0, 0, 0)),
  (280, (.invokevirtual 44, 3, 27, 11, 5155)), (283, (.aload_n 2, 1, 0, 0, 0)), (284, (.aload_n 0, 1, 0, 0, 0)), (285, (.iload_n 3, 1, 0, 0, 0)),
  (286, (.iconst 1, 1, 0, 0, 0)), (287, (.iadd, 1, 0, 0, 0)), (288, (.iaload, 1, 0, 0, 0)), (289, (.aload_n 0, 1, 0, 0, 0)),
  (290, (.iload_n 3, 1, 0, 0, 0)), (291, (.iconst 2, 1, 0, 0, 0)), (292, (.iadd, 1, 0, 0, 0)), (293, (.iaload, 1, 0, 0, 0)),
  (294, (.invokevirtual 48, 3, 44, 12, 8002)), (297, (.if_icmp .eq 81, 3, 378, 0, 0)), (300, (.iconst 0, 1, 0, 0, 0)), (301, (.ireturn, 1, 0, 0, 0)),
  (302, (.aload_n 1, 1, 0, 0, 0)), (303, (.aload_n 0, 1, 0, 0, 0)), (304, (.iload_n 3, 1, 0, 0, 0)), (305, (.iconst 1, 1, 0, 0, 0)),
  (306, (.iadd, 1, 0, 0, 0)), (307, (.iaload, 1, 0, 0, 0)), (308, (.aload_n 0, 1, 0, 0, 0)), (309, (.iload_n 3, 1, 0, 0, 0)),
  (310, (.iconst 2, 1, 0, 0, 0)), (311, (.iadd, 1, 0, 0, 0)), (312, (.iaload, 1, 0, 0, 0)), (313, (.invokevirtual 49, 3, 28, 11, 5163)),
  (316, (.aload_n 2, 1, 0, 0, 0)), (317, (.aload_n 0, 1, 0, 0, 0)), (318, (.iload_n 3, 1, 0, 0, 0)), (319, (.iconst 1, 1, 0, 0, 0)),
  (320, (.iadd, 1, 0, 0, 0)), (321, (.iaload, 1, 0, 0, 0)), (322, (.aload_n 0, 1, 0, 0, 0)), (323, (.iload_n 3, 1, 0, 0, 0)),
  (324, (.iconst 2, 1, 0, 0, 0)), (325, (.iadd, 1, 0, 0, 0)), (326, (.iaload, 1, 0, 0, 0)), (327, (.invokevirtual 52, 3, 45, 12, 8007)),
  (330, (.if_icmp .eq 48, 3, 378, 0, 0)), (333, (.iconst 0, 1, 0, 0, 0)), (334, (.ireturn, 1, 0, 0, 0)), (335, (.aload_n 1, 1, 0, 0, 0)),
  (336, (.aload_n 0, 1, 0, 0, 0)), (337, (.iload_n 3, 1, 0, 0, 0)), (338, (.iconst 1, 1, 0, 0, 0)), (339, (.iadd, 1, 0, 0, 0)),
  (340, (.iaload, 1, 0, 0, 0)), (341, (.aload_n 0, 1, 0, 0, 0)), (342, (.iload_n 3, 1, 0, 0, 0)), (343, (.iconst 2, 1, 0, 0, 0)),
  (344, (.iadd, 1, 0, 0, 0)), (345, (.iaload, 1, 0, 0, 0)), (346, (.aload_n 0, 1, 0, 0, 0)), (347, (.iload_n 3, 1, 0, 0, 0)),
  (348, (.iconst 3, 1, 0, 0, 0)), (349, (.iadd, 1, 0, 0, 0)), (350, (.iaload, 1, 0, 0, 0)), (351, (.invokevirtual 53, 3, 29, 11, 5168)),
  (354, (.aload_n 2, 1, 0, 0, 0)), (355, (.aload_n 0, 1, 0, 0, 0)), (356, (.iload_n 3, 1, 0, 0, 0)), (357, (.iconst 1, 1, 0, 0, 0)),
  (358, (.iadd, 1, 0, 0, 0)), (359, (.iaload, 1, 0, 0, 0)), (360, (.aload_n 0, 1, 0, 0, 0)), (361, (.iload_n 3, 1, 0, 0, 0)),
  (362, (.iconst 2, 1, 0, 0, 0)), (363, (.iadd, 1, 0, 0, 0)), (364, (.iaload, 1, 0, 0, 0)), (365, (.aload_n 0, 1, 0, 0, 0)),
  (366, (.iload_n 3, 1, 0, 0, 0)), (367, (.iconst 3, 1, 0, 0, 0)), (368, (.iadd, 1, 0, 0, 0)), (369, (.iaload, 1, 0, 0, 0)),
  (370, (.invokevirtual 57, 3, 46, 12, 8011)), (373, (.if_icmp .eq 5, 3, 378, 0, 0)), (376, (.iconst 0, 1, 0, 0, 0)), (377, (.ireturn, 1, 0, 0, 0)),
  (378, (.iinc 3 6, 3, 0, 0, 0)), (381, (.goto (-363), 3, 18, 0, 0)), (384, (.iconst 1, 1, 0, 0, 0)), (385, (.ireturn, 1, 0, 0, 0))])
def mx_pg : List mx_En := [eX0_init, eX1_init, eX1_accepts, eX2_init, eX2_accepts, eX3_init, eX4_init, eX4_clear, eX4_total, eX5_init, eX6_init, eX7_init, eX7_clear, eX8_init, eX8_read, eX8_kind, eX9_init, eX9_clear, eX10_init, eX11_init, eX11_feed, eX11_load, eX11_told, eX11_count, eX11_solve, eX11_fresh, eX11_size, eX11_letter, eX11_side, eX11_sideLetter, eX11_hasSolution, eX11_takeWord, eX12_init, eX12_feed, eX12_byteAt, eX12_tokenAt, eX12_cut, eX12_read, eX12_load, eX12_told, eX12_count, eX12_solve, eX12_fresh, eX12_size, eX12_letter, eX12_side, eX12_sideLetter, eJ7_fill_53178, eL_law]
end
section
/-! ===== the program's rows are as the files have them (checked by the kernel) ===== -/
theorem mx_ck_g0 : (List.range' 0 2).all (fun k => mx_ckc mx_pg k 0) = true := by decide +kernel
theorem mx_ck_g1 : (List.range' 2 1).all (fun k => mx_ckc mx_pg k 0) = true := by decide +kernel
theorem mx_ck_g2 : (List.range' 2 1).all (fun k => mx_ckc mx_pg k 1) = true := by decide +kernel
theorem mx_ck_g3 : (List.range' 3 8).all (fun k => mx_ckc mx_pg k 0) = true := by decide +kernel
theorem mx_ck_g4 : (List.range' 11 5).all (fun k => mx_ckc mx_pg k 0) = true := by decide +kernel
theorem mx_ck_g5 : (List.range' 16 3).all (fun k => mx_ckc mx_pg k 0) = true := by decide +kernel
theorem mx_ck_g6 : (List.range' 19 1).all (fun k => mx_ckc mx_pg k 0) = true := by decide +kernel
theorem mx_ck_g7 : (List.range' 19 1).all (fun k => mx_ckc mx_pg k 1) = true := by decide +kernel
theorem mx_ck_g8 : (List.range' 20 1).all (fun k => mx_ckc mx_pg k 0) = true := by decide +kernel
theorem mx_ck_g9 : (List.range' 21 1).all (fun k => mx_ckc mx_pg k 0) = true := by decide +kernel
theorem mx_ck_g10 : (List.range' 21 1).all (fun k => mx_ckc mx_pg k 1) = true := by decide +kernel
theorem mx_ck_g11 : (List.range' 22 8).all (fun k => mx_ckc mx_pg k 0) = true := by decide +kernel
theorem mx_ck_g12 : (List.range' 30 2).all (fun k => mx_ckc mx_pg k 0) = true := by decide +kernel
theorem mx_ck_g13 : (List.range' 32 1).all (fun k => mx_ckc mx_pg k 0) = true := by decide +kernel
theorem mx_ck_g14 : (List.range' 32 1).all (fun k => mx_ckc mx_pg k 1) = true := by decide +kernel
theorem mx_ck_g15 : (List.range' 32 1).all (fun k => mx_ckc mx_pg k 2) = true := by decide +kernel
theorem mx_ck_g16 : (List.range' 32 1).all (fun k => mx_ckc mx_pg k 3) = true := by decide +kernel
theorem mx_ck_g17 : (List.range' 32 1).all (fun k => mx_ckc mx_pg k 4) = true := by decide +kernel
theorem mx_ck_g18 : (List.range' 33 1).all (fun k => mx_ckc mx_pg k 0) = true := by decide +kernel
theorem mx_ck_g19 : (List.range' 33 1).all (fun k => mx_ckc mx_pg k 1) = true := by decide +kernel
theorem mx_ck_g20 : (List.range' 34 1).all (fun k => mx_ckc mx_pg k 0) = true := by decide +kernel
theorem mx_ck_g21 : (List.range' 35 1).all (fun k => mx_ckc mx_pg k 0) = true := by decide +kernel
theorem mx_ck_g22 : (List.range' 35 1).all (fun k => mx_ckc mx_pg k 1) = true := by decide +kernel
theorem mx_ck_g23 : (List.range' 35 1).all (fun k => mx_ckc mx_pg k 2) = true := by decide +kernel
theorem mx_ck_g24 : (List.range' 36 1).all (fun k => mx_ckc mx_pg k 0) = true := by decide +kernel
theorem mx_ck_g25 : (List.range' 36 1).all (fun k => mx_ckc mx_pg k 1) = true := by decide +kernel
theorem mx_ck_g26 : (List.range' 37 1).all (fun k => mx_ckc mx_pg k 0) = true := by decide +kernel
theorem mx_ck_g27 : (List.range' 37 1).all (fun k => mx_ckc mx_pg k 1) = true := by decide +kernel
theorem mx_ck_g28 : (List.range' 37 1).all (fun k => mx_ckc mx_pg k 2) = true := by decide +kernel
theorem mx_ck_g29 : (List.range' 38 1).all (fun k => mx_ckc mx_pg k 0) = true := by decide +kernel
theorem mx_ck_g30 : (List.range' 38 1).all (fun k => mx_ckc mx_pg k 1) = true := by decide +kernel
theorem mx_ck_g31 : (List.range' 38 1).all (fun k => mx_ckc mx_pg k 2) = true := by decide +kernel
theorem mx_ck_g32 : (List.range' 39 2).all (fun k => mx_ckc mx_pg k 0) = true := by decide +kernel
theorem mx_ck_g33 : (List.range' 41 1).all (fun k => mx_ckc mx_pg k 0) = true := by decide +kernel
theorem mx_ck_g34 : (List.range' 41 1).all (fun k => mx_ckc mx_pg k 1) = true := by decide +kernel
theorem mx_ck_g35 : (List.range' 42 6).all (fun k => mx_ckc mx_pg k 0) = true := by decide +kernel
theorem mx_ck_g36 : (List.range' 48 1).all (fun k => mx_ckc mx_pg k 0) = true := by decide +kernel
theorem mx_ck_g37 : (List.range' 48 1).all (fun k => mx_ckc mx_pg k 1) = true := by decide +kernel
theorem mx_ck_g38 : (List.range' 48 1).all (fun k => mx_ckc mx_pg k 2) = true := by decide +kernel
theorem mx_ck_g39 : (List.range' 48 1).all (fun k => mx_ckc mx_pg k 3) = true := by decide +kernel
theorem mx_ck_g40 : (List.range' 48 1).all (fun k => mx_ckc mx_pg k 4) = true := by decide +kernel
theorem mx_ck_g41 : (List.range' 48 1).all (fun k => mx_ckc mx_pg k 5) = true := by decide +kernel
theorem mx_pg_len : mx_pg.length = 49 := by decide +kernel
theorem mx_me_0 : mx_me eX0_init.1 eX0_init.2.1 ∧ eX0_init.1.2.2.1 ≤ 21 := ⟨⟨mx_mem (c := 1210) rfl (by decide +kernel), mx_mem (c := 1009) rfl (by decide +kernel), by decide +kernel, by decide +kernel⟩, by decide⟩
theorem mx_me_1 : mx_me eX1_init.1 eX1_init.2.1 ∧ eX1_init.1.2.2.1 ≤ 21 := ⟨⟨mx_mem (c := 1123) rfl (by decide +kernel), mx_mem (c := 1006) rfl (by decide +kernel), by decide +kernel, by decide +kernel⟩, by decide⟩
theorem mx_me_2 : mx_me eX1_accepts.1 eX1_accepts.2.1 ∧ eX1_accepts.1.2.2.1 ≤ 21 := ⟨⟨mx_mem (c := 3119) rfl (by decide +kernel), mx_mem (c := 1006) rfl (by decide +kernel), by decide +kernel, by decide +kernel⟩, by decide⟩
theorem mx_me_3 : mx_me eX2_init.1 eX2_init.2.1 ∧ eX2_init.1.2.2.1 ≤ 21 := ⟨⟨mx_mem (c := 1060) rfl (by decide +kernel), mx_mem (c := 1003) rfl (by decide +kernel), by decide +kernel, by decide +kernel⟩, by decide⟩
theorem mx_me_4 : mx_me eX2_accepts.1 eX2_accepts.2.1 ∧ eX2_accepts.1.2.2.1 ≤ 21 := ⟨⟨mx_mem (c := 3079) rfl (by decide +kernel), mx_mem (c := 1003) rfl (by decide +kernel), by decide +kernel, by decide +kernel⟩, by decide⟩
theorem mx_me_5 : mx_me eX3_init.1 eX3_init.2.1 ∧ eX3_init.1.2.2.1 ≤ 21 := ⟨⟨mx_mem (c := 1191) rfl (by decide +kernel), mx_mem (c := 1008) rfl (by decide +kernel), by decide +kernel, by decide +kernel⟩, by decide⟩
theorem mx_me_6 : mx_me eX4_init.1 eX4_init.2.1 ∧ eX4_init.1.2.2.1 ≤ 21 := ⟨⟨mx_mem (c := 1129) rfl (by decide +kernel), mx_mem (c := 1007) rfl (by decide +kernel), by decide +kernel, by decide +kernel⟩, by decide⟩
theorem mx_me_7 : mx_me eX4_clear.1 eX4_clear.2.1 ∧ eX4_clear.1.2.2.1 ≤ 21 := ⟨⟨mx_mem (c := 3131) rfl (by decide +kernel), mx_mem (c := 1007) rfl (by decide +kernel), by decide +kernel, by decide +kernel⟩, by decide⟩
theorem mx_me_8 : mx_me eX4_total.1 eX4_total.2.1 ∧ eX4_total.1.2.2.1 ≤ 21 := ⟨⟨mx_mem (c := 4049) rfl (by decide +kernel), mx_mem (c := 1007) rfl (by decide +kernel), by decide +kernel, by decide +kernel⟩, by decide⟩
theorem mx_me_9 : mx_me eX5_init.1 eX5_init.2.1 ∧ eX5_init.1.2.2.1 ≤ 21 := ⟨⟨mx_mem (c := 2010) rfl (by decide +kernel), mx_mem (c := 1011) rfl (by decide +kernel), by decide +kernel, by decide +kernel⟩, by decide⟩
theorem mx_me_10 : mx_me eX6_init.1 eX6_init.2.1 ∧ eX6_init.1.2.2.1 ≤ 21 := ⟨⟨mx_mem (c := 2004) rfl (by decide +kernel), mx_mem (c := 1010) rfl (by decide +kernel), by decide +kernel, by decide +kernel⟩, by decide⟩
theorem mx_me_11 : mx_me eX7_init.1 eX7_init.2.1 ∧ eX7_init.1.2.2.1 ≤ 21 := ⟨⟨mx_mem (c := 1089) rfl (by decide +kernel), mx_mem (c := 1005) rfl (by decide +kernel), by decide +kernel, by decide +kernel⟩, by decide⟩
theorem mx_me_12 : mx_me eX7_clear.1 eX7_clear.2.1 ∧ eX7_clear.1.2.2.1 ≤ 21 := ⟨⟨mx_mem (c := 3127) rfl (by decide +kernel), mx_mem (c := 1005) rfl (by decide +kernel), by decide +kernel, by decide +kernel⟩, by decide⟩
theorem mx_me_13 : mx_me eX8_init.1 eX8_init.2.1 ∧ eX8_init.1.2.2.1 ≤ 21 := ⟨⟨mx_mem (c := 1034) rfl (by decide +kernel), mx_mem (c := 1002) rfl (by decide +kernel), by decide +kernel, by decide +kernel⟩, by decide⟩
theorem mx_me_14 : mx_me eX8_read.1 eX8_read.2.1 ∧ eX8_read.1.2.2.1 ≤ 21 := ⟨⟨mx_mem (c := 2168) rfl (by decide +kernel), mx_mem (c := 1002) rfl (by decide +kernel), by decide +kernel, by decide +kernel⟩, by decide⟩
theorem mx_me_15 : mx_me eX8_kind.1 eX8_kind.2.1 ∧ eX8_kind.1.2.2.1 ≤ 21 := ⟨⟨mx_mem (c := 3083) rfl (by decide +kernel), mx_mem (c := 1002) rfl (by decide +kernel), by decide +kernel, by decide +kernel⟩, by decide⟩
theorem mx_me_16 : mx_me eX9_init.1 eX9_init.2.1 ∧ eX9_init.1.2.2.1 ≤ 21 := ⟨⟨mx_mem (c := 1073) rfl (by decide +kernel), mx_mem (c := 1004) rfl (by decide +kernel), by decide +kernel, by decide +kernel⟩, by decide⟩
theorem mx_me_17 : mx_me eX9_clear.1 eX9_clear.2.1 ∧ eX9_clear.1.2.2.1 ≤ 21 := ⟨⟨mx_mem (c := 3123) rfl (by decide +kernel), mx_mem (c := 1004) rfl (by decide +kernel), by decide +kernel, by decide +kernel⟩, by decide⟩
theorem mx_me_18 : mx_me eX10_init.1 eX10_init.2.1 ∧ eX10_init.1.2.2.1 ≤ 21 := ⟨⟨mx_mem (c := 2078) rfl (by decide +kernel), mx_mem (c := 1012) rfl (by decide +kernel), by decide +kernel, by decide +kernel⟩, by decide⟩
theorem mx_me_19 : mx_me eX11_init.1 eX11_init.2.1 ∧ eX11_init.1.2.2.1 ≤ 21 := ⟨⟨mx_mem (c := 1026) rfl (by decide +kernel), mx_mem (c := 1001) rfl (by decide +kernel), by decide +kernel, by decide +kernel⟩, by decide⟩
theorem mx_me_20 : mx_me eX11_feed.1 eX11_feed.2.1 ∧ eX11_feed.1.2.2.1 ≤ 21 := ⟨⟨mx_mem (c := 2156) rfl (by decide +kernel), mx_mem (c := 1001) rfl (by decide +kernel), by decide +kernel, by decide +kernel⟩, by decide⟩
theorem mx_me_21 : mx_me eX11_load.1 eX11_load.2.1 ∧ eX11_load.1.2.2.1 ≤ 21 := ⟨⟨mx_mem (c := 2164) rfl (by decide +kernel), mx_mem (c := 1001) rfl (by decide +kernel), by decide +kernel, by decide +kernel⟩, by decide⟩
theorem mx_me_22 : mx_me eX11_told.1 eX11_told.2.1 ∧ eX11_told.1.2.2.1 ≤ 21 := ⟨⟨mx_mem (c := 4062) rfl (by decide +kernel), mx_mem (c := 1001) rfl (by decide +kernel), by decide +kernel, by decide +kernel⟩, by decide⟩
theorem mx_me_23 : mx_me eX11_count.1 eX11_count.2.1 ∧ eX11_count.1.2.2.1 ≤ 21 := ⟨⟨mx_mem (c := 4066) rfl (by decide +kernel), mx_mem (c := 1001) rfl (by decide +kernel), by decide +kernel, by decide +kernel⟩, by decide⟩
theorem mx_me_24 : mx_me eX11_solve.1 eX11_solve.2.1 ∧ eX11_solve.1.2.2.1 ≤ 21 := ⟨⟨mx_mem (c := 4082) rfl (by decide +kernel), mx_mem (c := 1001) rfl (by decide +kernel), by decide +kernel, by decide +kernel⟩, by decide⟩
theorem mx_me_25 : mx_me eX11_fresh.1 eX11_fresh.2.1 ∧ eX11_fresh.1.2.2.1 ≤ 21 := ⟨⟨mx_mem (c := 5076) rfl (by decide +kernel), mx_mem (c := 1001) rfl (by decide +kernel), by decide +kernel, by decide +kernel⟩, by decide⟩
theorem mx_me_26 : mx_me eX11_size.1 eX11_size.2.1 ∧ eX11_size.1.2.2.1 ≤ 21 := ⟨⟨mx_mem (c := 5088) rfl (by decide +kernel), mx_mem (c := 1001) rfl (by decide +kernel), by decide +kernel, by decide +kernel⟩, by decide⟩
theorem mx_me_27 : mx_me eX11_letter.1 eX11_letter.2.1 ∧ eX11_letter.1.2.2.1 ≤ 21 := ⟨⟨mx_mem (c := 5158) rfl (by decide +kernel), mx_mem (c := 1001) rfl (by decide +kernel), by decide +kernel, by decide +kernel⟩, by decide⟩
theorem mx_me_28 : mx_me eX11_side.1 eX11_side.2.1 ∧ eX11_side.1.2.2.1 ≤ 21 := ⟨⟨mx_mem (c := 5166) rfl (by decide +kernel), mx_mem (c := 1001) rfl (by decide +kernel), by decide +kernel, by decide +kernel⟩, by decide⟩
theorem mx_me_29 : mx_me eX11_sideLetter.1 eX11_sideLetter.2.1 ∧ eX11_sideLetter.1.2.2.1 ≤ 21 := ⟨⟨mx_mem (c := 5171) rfl (by decide +kernel), mx_mem (c := 1001) rfl (by decide +kernel), by decide +kernel, by decide +kernel⟩, by decide⟩
theorem mx_me_30 : mx_me eX11_hasSolution.1 eX11_hasSolution.2.1 ∧ eX11_hasSolution.1.2.2.1 ≤ 21 := ⟨⟨mx_mem (c := 5080) rfl (by decide +kernel), mx_mem (c := 1001) rfl (by decide +kernel), by decide +kernel, by decide +kernel⟩, by decide⟩
theorem mx_me_31 : mx_me eX11_takeWord.1 eX11_takeWord.2.1 ∧ eX11_takeWord.1.2.2.1 ≤ 21 := ⟨⟨mx_mem (c := 2160) rfl (by decide +kernel), mx_mem (c := 1001) rfl (by decide +kernel), by decide +kernel, by decide +kernel⟩, by decide⟩
theorem mx_me_32 : mx_me eX12_init.1 eX12_init.2.1 ∧ eX12_init.1.2.2.1 ≤ 21 := ⟨⟨mx_mem (c := 5176) rfl (by decide +kernel), mx_mem (c := 1013) rfl (by decide +kernel), by decide +kernel, by decide +kernel⟩, by decide⟩
theorem mx_me_33 : mx_me eX12_feed.1 eX12_feed.2.1 ∧ eX12_feed.1.2.2.1 ≤ 21 := ⟨⟨mx_mem (c := 6216) rfl (by decide +kernel), mx_mem (c := 1013) rfl (by decide +kernel), by decide +kernel, by decide +kernel⟩, by decide⟩
theorem mx_me_34 : mx_me eX12_byteAt.1 eX12_byteAt.2.1 ∧ eX12_byteAt.1.2.2.1 ≤ 21 := ⟨⟨mx_mem (c := 6228) rfl (by decide +kernel), mx_mem (c := 1013) rfl (by decide +kernel), by decide +kernel, by decide +kernel⟩, by decide⟩
theorem mx_me_35 : mx_me eX12_tokenAt.1 eX12_tokenAt.2.1 ∧ eX12_tokenAt.1.2.2.1 ≤ 21 := ⟨⟨mx_mem (c := 6232) rfl (by decide +kernel), mx_mem (c := 1013) rfl (by decide +kernel), by decide +kernel, by decide +kernel⟩, by decide⟩
theorem mx_me_36 : mx_me eX12_cut.1 eX12_cut.2.1 ∧ eX12_cut.1.2.2.1 ≤ 21 := ⟨⟨mx_mem (c := 6224) rfl (by decide +kernel), mx_mem (c := 1013) rfl (by decide +kernel), by decide +kernel, by decide +kernel⟩, by decide⟩
theorem mx_me_37 : mx_me eX12_read.1 eX12_read.2.1 ∧ eX12_read.1.2.2.1 ≤ 21 := ⟨⟨mx_mem (c := 7013) rfl (by decide +kernel), mx_mem (c := 1013) rfl (by decide +kernel), by decide +kernel, by decide +kernel⟩, by decide⟩
theorem mx_me_38 : mx_me eX12_load.1 eX12_load.2.1 ∧ eX12_load.1.2.2.1 ≤ 21 := ⟨⟨mx_mem (c := 6220) rfl (by decide +kernel), mx_mem (c := 1013) rfl (by decide +kernel), by decide +kernel, by decide +kernel⟩, by decide⟩
theorem mx_me_39 : mx_me eX12_told.1 eX12_told.2.1 ∧ eX12_told.1.2.2.1 ≤ 21 := ⟨⟨mx_mem (c := 7109) rfl (by decide +kernel), mx_mem (c := 1013) rfl (by decide +kernel), by decide +kernel, by decide +kernel⟩, by decide⟩
theorem mx_me_40 : mx_me eX12_count.1 eX12_count.2.1 ∧ eX12_count.1.2.2.1 ≤ 21 := ⟨⟨mx_mem (c := 7113) rfl (by decide +kernel), mx_mem (c := 1013) rfl (by decide +kernel), by decide +kernel, by decide +kernel⟩, by decide⟩
theorem mx_me_41 : mx_me eX12_solve.1 eX12_solve.2.1 ∧ eX12_solve.1.2.2.1 ≤ 21 := ⟨⟨mx_mem (c := 7117) rfl (by decide +kernel), mx_mem (c := 1013) rfl (by decide +kernel), by decide +kernel, by decide +kernel⟩, by decide⟩
theorem mx_me_42 : mx_me eX12_fresh.1 eX12_fresh.2.1 ∧ eX12_fresh.1.2.2.1 ≤ 21 := ⟨⟨mx_mem (c := 7233) rfl (by decide +kernel), mx_mem (c := 1013) rfl (by decide +kernel), by decide +kernel, by decide +kernel⟩, by decide⟩
theorem mx_me_43 : mx_me eX12_size.1 eX12_size.2.1 ∧ eX12_size.1.2.2.1 ≤ 21 := ⟨⟨mx_mem (c := 7237) rfl (by decide +kernel), mx_mem (c := 1013) rfl (by decide +kernel), by decide +kernel, by decide +kernel⟩, by decide⟩
theorem mx_me_44 : mx_me eX12_letter.1 eX12_letter.2.1 ∧ eX12_letter.1.2.2.1 ≤ 21 := ⟨⟨mx_mem (c := 8005) rfl (by decide +kernel), mx_mem (c := 1013) rfl (by decide +kernel), by decide +kernel, by decide +kernel⟩, by decide⟩
theorem mx_me_45 : mx_me eX12_side.1 eX12_side.2.1 ∧ eX12_side.1.2.2.1 ≤ 21 := ⟨⟨mx_mem (c := 8010) rfl (by decide +kernel), mx_mem (c := 1013) rfl (by decide +kernel), by decide +kernel, by decide +kernel⟩, by decide⟩
theorem mx_me_46 : mx_me eX12_sideLetter.1 eX12_sideLetter.2.1 ∧ eX12_sideLetter.1.2.2.1 ≤ 21 := ⟨⟨mx_mem (c := 8014) rfl (by decide +kernel), mx_mem (c := 1013) rfl (by decide +kernel), by decide +kernel, by decide +kernel⟩, by decide⟩
theorem mx_me_47 : mx_me eJ7_fill_53178.1 eJ7_fill_53178.2.1 ∧ eJ7_fill_53178.1.2.2.1 ≤ 21 := ⟨⟨mx_mem (c := 4094) rfl (by decide +kernel), mx_mem (c := 1021) rfl (by decide +kernel), by decide +kernel, by decide +kernel⟩, by decide⟩
theorem mx_rng {a b k : Nat} {p : Nat → Bool} (h : (List.range' a b).all p = true) (h1 : a ≤ k) (h2 : k < a + b) : p k = true := List.all_eq_true.mp h k (List.mem_range'_1.mpr ⟨h1, h2⟩)
theorem mx_ck_len : ∀ k, k < 49 → (match mx_pg[k]? with | none => false | some e => Nat.ble e.2.2.2.length ([50, 50, 100, 50, 50, 50, 50, 50, 50, 50, 50, 50, 50, 50, 50, 50, 50, 50, 50, 100, 50, 100, 50, 50, 50, 50, 50, 50, 50, 50, 50, 50, 250, 100, 50, 150, 100, 150, 150, 50, 50, 100, 50, 50, 50, 50, 50, 50, 300].getD k 0)) = true := by decide +kernel
theorem mx_me_all : ∀ k e, mx_pg[k]? = some e → k + 1 < mx_pg.length → mx_me e.1 e.2.1 ∧ e.1.2.2.1 ≤ 21 := by
  intro k e he hk
  rw [mx_pg_len] at hk
  match k, hk, he with
  | 0, _, he => cases he; exact mx_me_0
  | 1, _, he => cases he; exact mx_me_1
  | 2, _, he => cases he; exact mx_me_2
  | 3, _, he => cases he; exact mx_me_3
  | 4, _, he => cases he; exact mx_me_4
  | 5, _, he => cases he; exact mx_me_5
  | 6, _, he => cases he; exact mx_me_6
  | 7, _, he => cases he; exact mx_me_7
  | 8, _, he => cases he; exact mx_me_8
  | 9, _, he => cases he; exact mx_me_9
  | 10, _, he => cases he; exact mx_me_10
  | 11, _, he => cases he; exact mx_me_11
  | 12, _, he => cases he; exact mx_me_12
  | 13, _, he => cases he; exact mx_me_13
  | 14, _, he => cases he; exact mx_me_14
  | 15, _, he => cases he; exact mx_me_15
  | 16, _, he => cases he; exact mx_me_16
  | 17, _, he => cases he; exact mx_me_17
  | 18, _, he => cases he; exact mx_me_18
  | 19, _, he => cases he; exact mx_me_19
  | 20, _, he => cases he; exact mx_me_20
  | 21, _, he => cases he; exact mx_me_21
  | 22, _, he => cases he; exact mx_me_22
  | 23, _, he => cases he; exact mx_me_23
  | 24, _, he => cases he; exact mx_me_24
  | 25, _, he => cases he; exact mx_me_25
  | 26, _, he => cases he; exact mx_me_26
  | 27, _, he => cases he; exact mx_me_27
  | 28, _, he => cases he; exact mx_me_28
  | 29, _, he => cases he; exact mx_me_29
  | 30, _, he => cases he; exact mx_me_30
  | 31, _, he => cases he; exact mx_me_31
  | 32, _, he => cases he; exact mx_me_32
  | 33, _, he => cases he; exact mx_me_33
  | 34, _, he => cases he; exact mx_me_34
  | 35, _, he => cases he; exact mx_me_35
  | 36, _, he => cases he; exact mx_me_36
  | 37, _, he => cases he; exact mx_me_37
  | 38, _, he => cases he; exact mx_me_38
  | 39, _, he => cases he; exact mx_me_39
  | 40, _, he => cases he; exact mx_me_40
  | 41, _, he => cases he; exact mx_me_41
  | 42, _, he => cases he; exact mx_me_42
  | 43, _, he => cases he; exact mx_me_43
  | 44, _, he => cases he; exact mx_me_44
  | 45, _, he => cases he; exact mx_me_45
  | 46, _, he => cases he; exact mx_me_46
  | 47, _, he => cases he; exact mx_me_47
  | k + 48, hk, _ => exact absurd hk (by omega)
theorem mx_pg_ok : mx_pok mx_pg := by
  refine mx_pok_of mx_me_all (fun k hk j => ?_) ⟨mx_has_ok (c := 1028) (by decide +kernel), mx_has_ok (c := 1029) (by decide +kernel)⟩
  rw [mx_pg_len] at hk
  have hl := mx_ck_len k hk
  by_cases he : ∃ e, mx_pg[k]? = some e ∧ e.2.2.2.length ≤ 50 * j
  · obtain ⟨e, he, hj⟩ := he; exact mx_ckc_end he hj
  split at hl
  · cases hl
  rename_i e hek
  have hj : ¬ ([50, 50, 100, 50, 50, 50, 50, 50, 50, 50, 50, 50, 50, 50, 50, 50, 50, 50, 50, 100, 50, 100, 50, 50, 50, 50, 50, 50, 50, 50, 50, 50, 250, 100, 50, 150, 100, 150, 150, 50, 50, 100, 50, 50, 50, 50, 50, 50, 300].getD k 0) ≤ 50 * j := fun q => he ⟨e, hek, Nat.le_trans (Nat.ble_eq.mp hl) q⟩
  clear he hl hek
  by_cases h0 : k < 2
  · have hj0 : j = 0 := by (rcases (show k = 0 ∨ k = 1 by omega) with rfl | rfl) <;> (simp at hj; omega)
    subst hj0; exact mx_rng (p := fun k => mx_ckc mx_pg k 0) mx_ck_g0 (by omega) (by omega)
  by_cases h1 : k < 3
  · have hk0 : k = 2 := by omega
    subst hk0
    have hj0 : j < 2 := by (simp at hj; omega)
    rcases (show j = 0 ∨ j = 1 by omega) with rfl | rfl
    · exact mx_rng (p := fun k => mx_ckc mx_pg k 0) mx_ck_g1 (by omega) (by omega)
    · exact mx_rng (p := fun k => mx_ckc mx_pg k 1) mx_ck_g2 (by omega) (by omega)
  by_cases h3 : k < 11
  · have hj0 : j = 0 := by (rcases (show k = 3 ∨ k = 4 ∨ k = 5 ∨ k = 6 ∨ k = 7 ∨ k = 8 ∨ k = 9 ∨ k = 10 by omega) with rfl | rfl | rfl | rfl | rfl | rfl | rfl | rfl) <;> (simp at hj; omega)
    subst hj0; exact mx_rng (p := fun k => mx_ckc mx_pg k 0) mx_ck_g3 (by omega) (by omega)
  by_cases h4 : k < 16
  · have hj0 : j = 0 := by (rcases (show k = 11 ∨ k = 12 ∨ k = 13 ∨ k = 14 ∨ k = 15 by omega) with rfl | rfl | rfl | rfl | rfl) <;> (simp at hj; omega)
    subst hj0; exact mx_rng (p := fun k => mx_ckc mx_pg k 0) mx_ck_g4 (by omega) (by omega)
  by_cases h5 : k < 19
  · have hj0 : j = 0 := by (rcases (show k = 16 ∨ k = 17 ∨ k = 18 by omega) with rfl | rfl | rfl) <;> (simp at hj; omega)
    subst hj0; exact mx_rng (p := fun k => mx_ckc mx_pg k 0) mx_ck_g5 (by omega) (by omega)
  by_cases h6 : k < 20
  · have hk0 : k = 19 := by omega
    subst hk0
    have hj0 : j < 2 := by (simp at hj; omega)
    rcases (show j = 0 ∨ j = 1 by omega) with rfl | rfl
    · exact mx_rng (p := fun k => mx_ckc mx_pg k 0) mx_ck_g6 (by omega) (by omega)
    · exact mx_rng (p := fun k => mx_ckc mx_pg k 1) mx_ck_g7 (by omega) (by omega)
  by_cases h8 : k < 21
  · have hj0 : j = 0 := by (rcases (show k = 20 by omega) with rfl) <;> (simp at hj; omega)
    subst hj0; exact mx_rng (p := fun k => mx_ckc mx_pg k 0) mx_ck_g8 (by omega) (by omega)
  by_cases h9 : k < 22
  · have hk0 : k = 21 := by omega
    subst hk0
    have hj0 : j < 2 := by (simp at hj; omega)
    rcases (show j = 0 ∨ j = 1 by omega) with rfl | rfl
    · exact mx_rng (p := fun k => mx_ckc mx_pg k 0) mx_ck_g9 (by omega) (by omega)
    · exact mx_rng (p := fun k => mx_ckc mx_pg k 1) mx_ck_g10 (by omega) (by omega)
  by_cases h11 : k < 30
  · have hj0 : j = 0 := by (rcases (show k = 22 ∨ k = 23 ∨ k = 24 ∨ k = 25 ∨ k = 26 ∨ k = 27 ∨ k = 28 ∨ k = 29 by omega) with rfl | rfl | rfl | rfl | rfl | rfl | rfl | rfl) <;> (simp at hj; omega)
    subst hj0; exact mx_rng (p := fun k => mx_ckc mx_pg k 0) mx_ck_g11 (by omega) (by omega)
  by_cases h12 : k < 32
  · have hj0 : j = 0 := by (rcases (show k = 30 ∨ k = 31 by omega) with rfl | rfl) <;> (simp at hj; omega)
    subst hj0; exact mx_rng (p := fun k => mx_ckc mx_pg k 0) mx_ck_g12 (by omega) (by omega)
  by_cases h13 : k < 33
  · have hk0 : k = 32 := by omega
    subst hk0
    have hj0 : j < 5 := by (simp at hj; omega)
    rcases (show j = 0 ∨ j = 1 ∨ j = 2 ∨ j = 3 ∨ j = 4 by omega) with rfl | rfl | rfl | rfl | rfl
    · exact mx_rng (p := fun k => mx_ckc mx_pg k 0) mx_ck_g13 (by omega) (by omega)
    · exact mx_rng (p := fun k => mx_ckc mx_pg k 1) mx_ck_g14 (by omega) (by omega)
    · exact mx_rng (p := fun k => mx_ckc mx_pg k 2) mx_ck_g15 (by omega) (by omega)
    · exact mx_rng (p := fun k => mx_ckc mx_pg k 3) mx_ck_g16 (by omega) (by omega)
    · exact mx_rng (p := fun k => mx_ckc mx_pg k 4) mx_ck_g17 (by omega) (by omega)
  by_cases h18 : k < 34
  · have hk0 : k = 33 := by omega
    subst hk0
    have hj0 : j < 2 := by (simp at hj; omega)
    rcases (show j = 0 ∨ j = 1 by omega) with rfl | rfl
    · exact mx_rng (p := fun k => mx_ckc mx_pg k 0) mx_ck_g18 (by omega) (by omega)
    · exact mx_rng (p := fun k => mx_ckc mx_pg k 1) mx_ck_g19 (by omega) (by omega)
  by_cases h20 : k < 35
  · have hj0 : j = 0 := by (rcases (show k = 34 by omega) with rfl) <;> (simp at hj; omega)
    subst hj0; exact mx_rng (p := fun k => mx_ckc mx_pg k 0) mx_ck_g20 (by omega) (by omega)
  by_cases h21 : k < 36
  · have hk0 : k = 35 := by omega
    subst hk0
    have hj0 : j < 3 := by (simp at hj; omega)
    rcases (show j = 0 ∨ j = 1 ∨ j = 2 by omega) with rfl | rfl | rfl
    · exact mx_rng (p := fun k => mx_ckc mx_pg k 0) mx_ck_g21 (by omega) (by omega)
    · exact mx_rng (p := fun k => mx_ckc mx_pg k 1) mx_ck_g22 (by omega) (by omega)
    · exact mx_rng (p := fun k => mx_ckc mx_pg k 2) mx_ck_g23 (by omega) (by omega)
  by_cases h24 : k < 37
  · have hk0 : k = 36 := by omega
    subst hk0
    have hj0 : j < 2 := by (simp at hj; omega)
    rcases (show j = 0 ∨ j = 1 by omega) with rfl | rfl
    · exact mx_rng (p := fun k => mx_ckc mx_pg k 0) mx_ck_g24 (by omega) (by omega)
    · exact mx_rng (p := fun k => mx_ckc mx_pg k 1) mx_ck_g25 (by omega) (by omega)
  by_cases h26 : k < 38
  · have hk0 : k = 37 := by omega
    subst hk0
    have hj0 : j < 3 := by (simp at hj; omega)
    rcases (show j = 0 ∨ j = 1 ∨ j = 2 by omega) with rfl | rfl | rfl
    · exact mx_rng (p := fun k => mx_ckc mx_pg k 0) mx_ck_g26 (by omega) (by omega)
    · exact mx_rng (p := fun k => mx_ckc mx_pg k 1) mx_ck_g27 (by omega) (by omega)
    · exact mx_rng (p := fun k => mx_ckc mx_pg k 2) mx_ck_g28 (by omega) (by omega)
  by_cases h29 : k < 39
  · have hk0 : k = 38 := by omega
    subst hk0
    have hj0 : j < 3 := by (simp at hj; omega)
    rcases (show j = 0 ∨ j = 1 ∨ j = 2 by omega) with rfl | rfl | rfl
    · exact mx_rng (p := fun k => mx_ckc mx_pg k 0) mx_ck_g29 (by omega) (by omega)
    · exact mx_rng (p := fun k => mx_ckc mx_pg k 1) mx_ck_g30 (by omega) (by omega)
    · exact mx_rng (p := fun k => mx_ckc mx_pg k 2) mx_ck_g31 (by omega) (by omega)
  by_cases h32 : k < 41
  · have hj0 : j = 0 := by (rcases (show k = 39 ∨ k = 40 by omega) with rfl | rfl) <;> (simp at hj; omega)
    subst hj0; exact mx_rng (p := fun k => mx_ckc mx_pg k 0) mx_ck_g32 (by omega) (by omega)
  by_cases h33 : k < 42
  · have hk0 : k = 41 := by omega
    subst hk0
    have hj0 : j < 2 := by (simp at hj; omega)
    rcases (show j = 0 ∨ j = 1 by omega) with rfl | rfl
    · exact mx_rng (p := fun k => mx_ckc mx_pg k 0) mx_ck_g33 (by omega) (by omega)
    · exact mx_rng (p := fun k => mx_ckc mx_pg k 1) mx_ck_g34 (by omega) (by omega)
  by_cases h35 : k < 48
  · have hj0 : j = 0 := by (rcases (show k = 42 ∨ k = 43 ∨ k = 44 ∨ k = 45 ∨ k = 46 ∨ k = 47 by omega) with rfl | rfl | rfl | rfl | rfl | rfl) <;> (simp at hj; omega)
    subst hj0; exact mx_rng (p := fun k => mx_ckc mx_pg k 0) mx_ck_g35 (by omega) (by omega)
  by_cases h36 : k < 49
  · have hk0 : k = 48 := by omega
    subst hk0
    have hj0 : j < 6 := by (simp at hj; omega)
    rcases (show j = 0 ∨ j = 1 ∨ j = 2 ∨ j = 3 ∨ j = 4 ∨ j = 5 by omega) with rfl | rfl | rfl | rfl | rfl | rfl
    · exact mx_rng (p := fun k => mx_ckc mx_pg k 0) mx_ck_g36 (by omega) (by omega)
    · exact mx_rng (p := fun k => mx_ckc mx_pg k 1) mx_ck_g37 (by omega) (by omega)
    · exact mx_rng (p := fun k => mx_ckc mx_pg k 2) mx_ck_g38 (by omega) (by omega)
    · exact mx_rng (p := fun k => mx_ckc mx_pg k 3) mx_ck_g39 (by omega) (by omega)
    · exact mx_rng (p := fun k => mx_ckc mx_pg k 4) mx_ck_g40 (by omega) (by omega)
    · exact mx_rng (p := fun k => mx_ckc mx_pg k 5) mx_ck_g41 (by omega) (by omega)
  exact absurd hk (by omega)
end
section
/-! THE CLAIM OUT OF ONE WALK OF THE LAW'S BODY. Your part is whole_start (and what it stands on); all else here is the same for every law, but numbers. -/
def R_law : String := "PatternDeskLaw"
def lw_P (b : Addr) (xs : List Int32) (args : Array Value) (s : State) : Prop := args = #[.ref b] ∧ s.IntsAt b xs ∧ xs.length ≤ 6 ∧ (Jvm.Cond.and given_1 narrow_1).before args s = true
def lw_Q (_ : Array Value) (s : State) (o : Outcome) (t : State) : Prop := o = .returned (some (.int 1)) ∧ Framed s o t [] 600000 7302250
def lw_Z (below : List Frame) (a : Array Value) (s : State) : State → Prop := fun t => ∃ o, t.status = .running ∧ Ended t below o ∧ lw_Q a s o t
/-- the law's own end, with 1 on the stack, nothing written that was there before, its room as the claim has it -/
theorem lw_ret {p : Program} {l : Launch} {e : Env} {s : State} {m : MethodId} {below : List Frame} {meth : Method} {c : Code} {b : Nat} (hx : p.tables.exec = Jvm.exec) (hb : c.code = code) (hr : meth.sig.returnType = ret) (hlocks : meth.locks = false) {pc : Nat} {H : Heap} {ls : Array Slot} (hdg : decode code pc = .ok (.ireturn, 1)) : W p l e room_1 s m #[Value.ref b] below meth c H [] 600000 7302250 (lw_Z below #[Value.ref b] s) (F0 m pc ls [.int 1]) := by
  intro T hT X
  obtain ⟨fs, hret, hrun, hended, hW, hframe⟩ := X.leave (v := some (.int 1)) (hlocks := hlocks) (fun h => by rw [hr] at h; cases h)
  have hmeth' : T.vm.method? m = some meth := X.method'
  refine ⟨T.setFrames fs, ?_, .returned (some (.int 1)), hrun, hended, rfl, ⟨_, rfl⟩, hW, hframe⟩
  jvm_step X.here [X.here.top, hx, hb, hdg, hmeth', hr, ret, narrow_b1]
  (try refine ⟨rfl, ?_⟩); (try refine ⟨rfl, ?_⟩)
  first | (intro acts; rw [hret _ acts rfl rfl rfl]) | rw [hret _ _ rfl rfl rfl]
  exact Steps.refl _
/-- what holds at the law's entry: the machine, the code, the tables' words (any of lw_tbl by 'hts w (by decide +kernel)'), the script of L ints xs at the cell b, what the Statement gives of the start (any of its parts by flat_of_before) -/
def lw_At (p : Program) (s : State) (m : MethodId) (meth : Method) (c : Code) (b L : Nat) (xs : Nat → Int32) : Prop :=
  p.tables.exec = Jvm.exec ∧ c.code = code ∧ meth.sig.returnType = ret ∧ c.maxLocals = 4 ∧ s.vm.findClass R_law = some m.cls ∧ (∀ w ∈ lw_tbl, w.before #[Value.ref b] s = true) ∧ va_X b L xs s s.heap ∧ b < s.heap.size ∧ meth.locks = false ∧ (Jvm.Cond.and given_1 narrow_1).before #[Value.ref b] s = true
/-! ===== THE LAW'S ENTRY: a run of the evaluator that answers 1 gives the walk ===== -/
theorem mx_c_eq {c : Nat} {q : vw_C} (h : vwCl[c]? = some q) : c < 13 ∧ q = mx_c c := by
  refine ⟨(List.getElem?_eq_some_iff.mp h).1, ?_⟩
  unfold mx_c
  rw [List.getD_eq_getElem?_getD, h]
  rfl
theorem mx_arr {s : State} {args : Array Value} {ty : FieldType} (h : (Cond.arrayClass ty).before args s = true) : ∃ cA : ClassId, ArrOfT s cA ty ∧ s.vm.findClass ("[" ++ ty.toString) = some cA := by
  obtain ⟨cA, kA, comp, h1, h2, h3⟩ := Cond.arrayClass_spec h
  exact ⟨cA, fun n z => ⟨fun k h => (by cases h), kA, h2, comp, h3⟩, h1⟩
theorem mx_law {p : Program} {e : Env} {s : State} {m : MethodId} {below : List Frame} {meth : Method} {c : Code} (l : Launch) {b L : Nat} {xs : Nat → Int32} (hL : L ≤ 6) (C0 : lw_At p s m meth c b L xs) {n : Nat} {hp' : List va_E} {c' s' : Nat} (h : mx_run L xs mx_pg n 2048 48 0 [(0, .ref 1000000)] [] [] 0 0 = some (some (.int 1), hp', c', s')) (hc : c' ≤ 600000) (hs : s' ≤ 7302250) :
    W p l e room_1 s m #[Value.ref b] below meth c s.heap [] 0 0 (lw_Z below #[Value.ref b] s) (entryFrame m ([Value.ref b] : List Value).toArray 4) := by
  obtain ⟨hx, hb, hr, hml, hown, hts, hX, hbl, hlocks, hgv⟩ := C0
  have ht : ∀ w ∈ mx_tb, w.before #[Value.ref b] s = true := fun w hw => hts w (List.mem_filter.mp hw).1
  obtain ⟨a0, h01, h02⟩ := mx_arr (ht (.arrayClass .int) (mx_mem (c := 1055) rfl (by decide +kernel)))
  obtain ⟨a1, h11, h12⟩ := mx_arr (ht (.arrayClass .boolean) (mx_mem (c := 6212) rfl (by decide +kernel)))
  obtain ⟨a2, h21, h22⟩ := mx_arr (ht (.arrayClass .byte) (mx_mem (c := 4058) rfl (by decide +kernel)))
  have hk0 : ∀ ci : Nat, ∃ q : ClassId × (Nat → Nat), ci < 13 → u_Kn s (mx_c ci).1 (mx_c ci).2.1 (mx_c ci).2.2 q.1 q.2 := by
    intro ci
    by_cases hci : ci < 13
    · obtain ⟨cC, iS, hkn⟩ := u_known ht (mx_in_tb ci hci) (ht _ (mx_inst ci hci).1)
      exact ⟨(cC, iS), fun _ => hkn⟩
    · exact ⟨(0, fun _ => 0), fun q => absurd q hci⟩
  obtain ⟨fk, hfk⟩ := Classical.axiomOfChoice hk0
  let E : mx_Ev := (fun i => if i < 1000000 then s.heap.size + i else b, fun t => if t = 0 then a0 else if t = 1 then a1 else a2, fun ci => (fk ci).1, fun ci => (fk ci).2, s.heap.size, b, L, xs)
  have hE : mx_ok E := ⟨fun i hi => if_pos hi, hbl, rfl, Nat.le_trans hL (by decide)⟩
  have hK : mx_K E s := by
    refine ⟨fun ci q hq => ?_, fun k q hq => ?_⟩
    · obtain ⟨h1, rfl⟩ := mx_c_eq hq
      exact hfk ci h1
    · match k, hq with
      | 0, hq => cases hq; exact ⟨h01, h02⟩
      | 1, hq => cases hq; exact ⟨h11, h12⟩
      | 2, hq => cases hq; exact ⟨h21, h22⟩
      | k + 3, hq => simp [mx_T] at hq
  have hW := (mx_sound (l := l) (E := E) (sL := L) (sx := xs) rfl rfl hE mx_pg_ok n 2048 48 0 _ [] [] 0 0 _ hp' c' s' eL_law rfl h).2.2 room_1 600000 7302250 (fun v _ => v = some (.int 1)) hc hs (Nat.le_refl _) (Nat.le_refl _) (Nat.le_refl _) (Nat.le_of_ble_eq_true rfl) rfl
  have hl := lv_entry ([.ref b]) (n := 4) (Nat.le_of_ble_eq_true rfl)
  rw [lg_entry_eq]
  have hg := hW p e s m #[Value.ref b] below meth c s.heap [] _ ⟨hE, hx, hb, hml, hr, hlocks, fun q => absurd q (by decide), hown, ht, hK, Nat.le_refl _, hX⟩ ⟨fun k q hq => by simp [mx_w] at hq, rfl, Nat.zero_le _⟩ va_S.rf hl
  intro T hT X
  obtain ⟨t, a, o, b1, b2, ⟨⟨v, hp, ho, hv, -⟩, -⟩, Lc, hF, hLc⟩ := hg T hT X
  subst hv
  refine ⟨t, a, o, b1, b2, ho, ⟨_, ho⟩, hF.2.1, ?_⟩
  exact hF.2.2.weaken (fun y hy hlt => absurd hlt (Nat.not_lt.mpr (hLc y hy))) (Nat.le_refl _) (Nat.le_refl _)
end
section
/-! ===== what the constructors leave ===== -/
def p1_D : List va_E := [
  .inr (11, [.ref 1, .int 0, .int 0, .int (-1), .int (-1), .int (-1), .ref 2, .ref 7, .ref 18, .ref 38, .ref 55]),
  .inl (0, 240, .inl (fun _ => 0)),
  .inr (8, [.ref 3, .ref 4, .ref 5, .ref 6, .int 0, .int 0]),
  .inl (0, 240, .inl (fun _ => 0)),
  .inl (0, 240, .inl (fun _ => 0)),
  .inl (0, 240, .inl (fun _ => 0)),
  .inl (0, 240, .inl (fun _ => 0)),
  .inr (2, [.ref 2, .int 0]),
  .inr (9, [.ref 9, .ref 10, .int 2]),
  .inl (0, 256, .inl (fun _ => 0)),
  .inl (0, 256, .inl (fun _ => 0)),
  .inr (7, [.ref 8, .ref 12, .ref 13, .ref 14, .ref 15, .ref 16, .int 0, .ref 17, .int 0]),
  .inl (0, 1024, .inl (fun _ => 0)),
  .inl (0, 1024, .inl (fun _ => 0)),
  .inl (0, 1024, .inl (fun _ => 0)),
  .inl (0, 1024, .inl (fun _ => 0)),
  .inl (0, 1024, .inl (fun _ => 0)),
  .inl (0, 512, .inl (fun _ => 0)),
  .inr (1, [.ref 2, .ref 8, .ref 11, .ref 19, .ref 22, .ref 25, .ref 26, .ref 27, .ref 28, .int 0, .int 0, .int 0, .int 0, .int 0, .int 0]),
  .inr (4, [.ref 20, .ref 21, .int 0]),
  .inl (0, 8, .inl (fun _ => 0)),
  .inl (0, 8, .inl (fun _ => 0)),
  .inr (4, [.ref 23, .ref 24, .int 0]),
  .inl (0, 5, .inl (fun _ => 0)),
  .inl (0, 5, .inl (fun _ => 0)),
  .inl (0, 5, .inl (fun _ => 0)),
  .inl (0, 8, .inl (fun _ => 0)),
  .inl (0, 21, .inl (fun _ => 0)),
  .inl (0, 21, .inl (fun _ => 0)),
  .inr (3, [.ref 30, .ref 31, .ref 32, .int 0]),
  .inl (0, 1024, .inl (fun _ => 0)),
  .inl (0, 1024, .inl (fun _ => 0)),
  .inl (0, 1024, .inl (fun _ => 0)),
  .inr (0, [.ref 11, .ref 29, .ref 34, .ref 35, .ref 36, .ref 37, .int 0, .int 0, .int 0]),
  .inl (0, 32, .inl (fun _ => 0)),
  .inl (0, 32, .inl (fun _ => 0)),
  .inl (0, 128, .inl (fun _ => 0)),
  .inl (0, 128, .inl (fun _ => 0)),
  .inr (6, [.ref 11, .ref 29, .ref 33, .ref 39, .ref 46, .ref 53, .ref 54, .int 0, .int 0, .int 0, .int 0, .int 0, .int 0]),
  .inr (5, [.ref 40, .ref 41, .ref 42, .ref 43, .ref 44, .ref 45, .int 0]),
  .inl (0, 512, .inl (fun _ => 0)),
  .inl (0, 512, .inl (fun _ => 0)),
  .inl (0, 512, .inl (fun _ => 0)),
  .inl (0, 512, .inl (fun _ => 0)),
  .inl (0, 512, .inl (fun _ => 0)),
  .inl (0, 512, .inl (fun _ => 0)),
  .inr (5, [.ref 47, .ref 48, .ref 49, .ref 50, .ref 51, .ref 52, .int 0]),
  .inl (0, 512, .inl (fun _ => 0)),
  .inl (0, 512, .inl (fun _ => 0)),
  .inl (0, 512, .inl (fun _ => 0)),
  .inl (0, 512, .inl (fun _ => 0)),
  .inl (0, 512, .inl (fun _ => 0)),
  .inl (0, 512, .inl (fun _ => 0)),
  .inl (0, 32, .inl (fun _ => 0)),
  .inl (0, 4, .inl (fun _ => 0)),
  .inr (10, [.ref 18, .ref 8, .ref 11, .ref 29, .ref 33, .ref 56, .ref 63, .ref 64, .int 0, .ref 65, .int 0, .int (-1)]),
  .inr (5, [.ref 57, .ref 58, .ref 59, .ref 60, .ref 61, .ref 62, .int 0]),
  .inl (0, 512, .inl (fun _ => 0)),
  .inl (0, 512, .inl (fun _ => 0)),
  .inl (0, 512, .inl (fun _ => 0)),
  .inl (0, 512, .inl (fun _ => 0)),
  .inl (0, 512, .inl (fun _ => 0)),
  .inl (0, 512, .inl (fun _ => 0)),
  .inl (0, 32, .inl (fun _ => 0)),
  .inl (0, 128, .inl (fun _ => 0)),
  .inl (0, 4000, .inl (fun _ => 0))]
def p1_M : List va_E := [
  .inr (12, [.ref 67, .int 0, .ref 68, .int 0, .ref 69, .ref 70, .ref 71, .int 0, .int 0, .int 0, .ref 72, .ref 73, .int 0, .ref 74, .ref 75, .ref 76, .ref 77, .ref 78, .ref 79, .ref 80, .ref 81, .ref 82, .ref 83, .ref 84, .int 0, .ref 85, .ref 86, .ref 87, .ref 88, .ref 89, .ref 90, .ref 91, .ref 92, .int 0, .int 0, .ref 93, .ref 94, .int 0, .int (-1), .int (-1), .int 0, .int 0, .int 0, .ref 95, .ref 96, .int 0, .ref 97, .int 0, .ref 98, .ref 99, .int 0, .ref 100, .ref 101, .ref 102, .ref 103, .ref 104, .int 0, .ref 105, .int 0, .ref 106, .ref 107, .int 0, .ref 108, .ref 109, .int 0, .ref 110, .ref 111, .ref 112, .ref 113, .ref 114, .int 0, .int 0, .ref 115, .ref 116, .ref 117, .int 0, .int 0, .int 0, .int 0, .int 0, .ref 118, .ref 119, .ref 120, .int 0, .ref 121, .ref 122, .int 0, .ref 123, .ref 124, .int 0]),
  .inl (0, 240, .inl (fun _ => 0)),
  .inl (0, 240, .inl (fun _ => 0)),
  .inl (0, 242, .inl (fun _ => 0)),
  .inl (0, 242, .inl (fun _ => 0)),
  .inl (0, 242, .inl (fun _ => 0)),
  .inl (0, 6000, .inl (fun _ => 0)),
  .inl (0, 6000, .inl (fun _ => 0)),
  .inl (0, 600, .inl (fun _ => 0)),
  .inl (0, 600, .inl (fun _ => 0)),
  .inl (0, 600, .inl (fun _ => 0)),
  .inl (0, 600, .inl (fun _ => 0)),
  .inl (0, 600, .inl (fun _ => 0)),
  .inl (0, 600, .inl (fun _ => 0)),
  .inl (0, 600, .inl (fun _ => 0)),
  .inl (0, 600, .inl (fun _ => 0)),
  .inl (0, 600, .inl (fun _ => 0)),
  .inl (0, 600, .inl (fun _ => 0)),
  .inl (0, 600, .inl (fun _ => 0)),
  .inl (0, 60, .inl (fun _ => 0)),
  .inl (0, 60, .inl (fun _ => 0)),
  .inl (0, 60, .inl (fun _ => 0)),
  .inl (0, 60, .inl (fun _ => 0)),
  .inl (0, 60, .inl (fun _ => 0)),
  .inl (0, 60, .inl (fun _ => 0)),
  .inl (0, 60, .inl (fun _ => 0)),
  .inl (0, 60, .inl (fun _ => 0)),
  .inl (0, 60, .inl (fun _ => 0)),
  .inl (0, 60, .inl (fun _ => 0)),
  .inl (0, 8, .inl (fun _ => 0)),
  .inl (0, 8, .inl (fun _ => 0)),
  .inl (0, 5, .inl (fun _ => 0)),
  .inl (0, 4, .inl (fun _ => 0)),
  .inl (0, 4, .inl (fun _ => 0)),
  .inl (0, 60000, .inl (fun _ => 0)),
  .inl (0, 60000, .inl (fun _ => 0)),
  .inl (0, 60000, .inl (fun _ => 0)),
  .inl (0, 60000, .inl (fun _ => 0)),
  .inl (0, 60000, .inl (fun _ => 0)),
  .inl (0, 120000, .inl (fun _ => 0)),
  .inl (0, 400000, .inl (fun _ => 0)),
  .inl (0, 400000, .inl (fun _ => 0)),
  .inl (0, 3000, .inl (fun _ => 0)),
  .inl (0, 3000, .inl (fun _ => 0)),
  .inl (0, 20000, .inl (fun _ => 0)),
  .inl (1, 3000, .inl (fun _ => 0)),
  .inl (0, 3000, .inl (fun _ => 0)),
  .inl (0, 3000, .inl (fun _ => 0)),
  .inl (0, 3000, .inl (fun _ => 0)),
  .inl (0, 400000, .inl (fun _ => 0)),
  .inl (0, 400000, .inl (fun _ => 0)),
  .inl (0, 400000, .inl (fun _ => 0)),
  .inl (0, 3000, .inl (fun _ => 0)),
  .inl (1, 3000, .inl (fun _ => 0)),
  .inl (0, 3000, .inl (fun _ => 0)),
  .inl (0, 20000, .inl (fun _ => 0)),
  .inl (0, 4001, .inl (fun _ => 0)),
  .inl (0, 5, .inl (fun _ => 0)),
  .inl (1, 3000, .inl (fun _ => 0))]
set_option maxRecDepth 100000 in
theorem p1_ctorD (sL : Nat) (sx : Nat → Int32) : mx_run sL sx mx_pg 2000 2047 19 0 [(0, .ref 0)] [] [.inr (11, [.null, .int 0, .int 0, .int 0, .int 0, .int 0, .null, .null, .null, .null, .null])] 0 0 = some (none, p1_D, 65, 24329) := rfl
set_option maxRecDepth 100000 in
theorem p1_ctorM (sL : Nat) (sx : Nat → Int32) : mx_run sL sx mx_pg 2000 2047 32 0 [(0, .ref 66)] [] (p1_D ++ [.inr (12, [.null, .int 0, .null, .int 0, .null, .null, .null, .int 0, .int 0, .int 0, .null, .null, .int 0, .null, .null, .null, .null, .null, .null, .null, .null, .null, .null, .null, .int 0, .null, .null, .null, .null, .null, .null, .null, .null, .int 0, .int 0, .null, .null, .int 0, .int 0, .int 0, .int 0, .int 0, .int 0, .null, .null, .int 0, .null, .int 0, .null, .null, .int 0, .null, .null, .null, .null, .null, .int 0, .null, .int 0, .null, .null, .int 0, .null, .null, .int 0, .null, .null, .null, .null, .null, .int 0, .int 0, .null, .null, .null, .int 0, .int 0, .int 0, .int 0, .int 0, .null, .null, .null, .int 0, .null, .null, .int 0, .null, .null, .int 0])]) 0 0 = some (none, p1_D ++ p1_M, 58, 2514441) := rfl
theorem p1_law : mx_pg[48]? = some eL_law := rfl
set_option maxRecDepth 100000 in
theorem p1_pre {sL : Nat} {sx : Nat → Int32} {r : Option Value × List va_E × Nat × Nat} (h : mx_ends sL sx mx_pg 2048 48 18 [(3, .int 0), (2, .ref 66), (1, .ref 0), (0, .ref 1000000)] [] (p1_D ++ p1_M) 125 2538871 r) : mx_ends sL sx mx_pg 2048 48 0 [(0, .ref 1000000)] [] [] 0 0 r := by
  refine mx_ends_go p1_law 2 (0, [(0, .ref 1000000)], [], [], 0, 0) (4, [(0, .ref 1000000)], [.ref 0, .ref 0], [.inr (11, [.null, .int 0, .int 0, .int 0, .int 0, .int 0, .null, .null, .null, .null, .null])], 1, 11) rfl ?_
  refine mx_ends_I (r1 := (none, p1_D, 65, 24329)) (i := 0) (rest := [.ref 0]) p1_law rfl rfl rfl rfl rfl ⟨2000, p1_ctorD sL sx⟩ ?_
  refine mx_ends_go p1_law 3 (7, [(0, .ref 1000000)], [.ref 0], p1_D, 66, 24340) (12, [(1, .ref 0), (0, .ref 1000000)], [.ref 66, .ref 66], p1_D ++ [.inr (12, [.null, .int 0, .null, .int 0, .null, .null, .null, .int 0, .int 0, .int 0, .null, .null, .int 0, .null, .null, .null, .null, .null, .null, .null, .null, .null, .null, .null, .int 0, .null, .null, .null, .null, .null, .null, .null, .null, .int 0, .int 0, .null, .null, .int 0, .int 0, .int 0, .int 0, .int 0, .int 0, .null, .null, .int 0, .null, .int 0, .null, .null, .int 0, .null, .null, .null, .null, .null, .int 0, .null, .int 0, .null, .null, .int 0, .null, .null, .int 0, .null, .null, .null, .null, .null, .int 0, .int 0, .null, .null, .null, .int 0, .int 0, .int 0, .int 0, .int 0, .null, .null, .null, .int 0, .null, .null, .int 0, .null, .null, .int 0])], 67, 24430) rfl ?_
  refine mx_ends_I (r1 := (none, p1_D ++ p1_M, 58, 2514441)) (i := 66) (rest := [.ref 66]) p1_law rfl rfl rfl rfl rfl ⟨2000, p1_ctorM sL sx⟩ ?_
  exact mx_ends_go p1_law 3 (15, [(1, .ref 0), (0, .ref 1000000)], [.ref 66], p1_D ++ p1_M, 125, 2538871) (18, [(3, .int 0), (2, .ref 66), (1, .ref 0), (0, .ref 1000000)], [], p1_D ++ p1_M, 125, 2538871) rfl h
/-- a script too short for a call -/
def p1_good (sL : Nat) (sx : Nat → Int32) : Prop := ∃ (hp' : List va_E) (c' s' : Nat), mx_ends sL sx mx_pg 2048 48 0 [(0, .ref 1000000)] [] [] 0 0 (some (.int 1), hp', c', s') ∧ c' ≤ 600000 ∧ s' ≤ 7302250
set_option maxRecDepth 100000 in
theorem p1_short (xs : Nat → Int32) : ∀ L, L < 6 → p1_good L xs
  | 0, _ => ⟨_, _, _, p1_pre (mx_ends_go p1_law 7 (18, [(3, .int 0), (2, .ref 66), (1, .ref 0), (0, .ref 1000000)], [], p1_D ++ p1_M, 125, 2538871) (385, [(3, .int 0), (2, .ref 66), (1, .ref 0), (0, .ref 1000000)], [.int 1], p1_D ++ p1_M, 125, 2538871) rfl (mx_ends_iret p1_law rfl rfl)), by decide, by decide⟩
  | 1, _ => ⟨_, _, _, p1_pre (mx_ends_go p1_law 7 (18, [(3, .int 0), (2, .ref 66), (1, .ref 0), (0, .ref 1000000)], [], p1_D ++ p1_M, 125, 2538871) (385, [(3, .int 0), (2, .ref 66), (1, .ref 0), (0, .ref 1000000)], [.int 1], p1_D ++ p1_M, 125, 2538871) rfl (mx_ends_iret p1_law rfl rfl)), by decide, by decide⟩
  | 2, _ => ⟨_, _, _, p1_pre (mx_ends_go p1_law 7 (18, [(3, .int 0), (2, .ref 66), (1, .ref 0), (0, .ref 1000000)], [], p1_D ++ p1_M, 125, 2538871) (385, [(3, .int 0), (2, .ref 66), (1, .ref 0), (0, .ref 1000000)], [.int 1], p1_D ++ p1_M, 125, 2538871) rfl (mx_ends_iret p1_law rfl rfl)), by decide, by decide⟩
  | 3, _ => ⟨_, _, _, p1_pre (mx_ends_go p1_law 7 (18, [(3, .int 0), (2, .ref 66), (1, .ref 0), (0, .ref 1000000)], [], p1_D ++ p1_M, 125, 2538871) (385, [(3, .int 0), (2, .ref 66), (1, .ref 0), (0, .ref 1000000)], [.int 1], p1_D ++ p1_M, 125, 2538871) rfl (mx_ends_iret p1_law rfl rfl)), by decide, by decide⟩
  | 4, _ => ⟨_, _, _, p1_pre (mx_ends_go p1_law 7 (18, [(3, .int 0), (2, .ref 66), (1, .ref 0), (0, .ref 1000000)], [], p1_D ++ p1_M, 125, 2538871) (385, [(3, .int 0), (2, .ref 66), (1, .ref 0), (0, .ref 1000000)], [.int 1], p1_D ++ p1_M, 125, 2538871) rfl (mx_ends_iret p1_law rfl rfl)), by decide, by decide⟩
  | 5, _ => ⟨_, _, _, p1_pre (mx_ends_go p1_law 7 (18, [(3, .int 0), (2, .ref 66), (1, .ref 0), (0, .ref 1000000)], [], p1_D ++ p1_M, 125, 2538871) (385, [(3, .int 0), (2, .ref 66), (1, .ref 0), (0, .ref 1000000)], [.int 1], p1_D ++ p1_M, 125, 2538871) rfl (mx_ends_iret p1_law rfl rfl)), by decide, by decide⟩
  | n + 6, h => absurd h (by omega)
set_option maxRecDepth 100000 in
theorem p1_to {xs : Nat → Int32} {r : Option Value × List va_E × Nat × Nat} (h : mx_ends 6 xs mx_pg 2048 48 33 [(3, .int 0), (2, .ref 66), (1, .ref 0), (0, .ref 1000000)] [.int (xs 0 &&& 15)] (p1_D ++ p1_M) 125 2538871 r) : mx_ends 6 xs mx_pg 2048 48 0 [(0, .ref 1000000)] [] [] 0 0 r :=
  p1_pre (mx_ends_go p1_law 11 (18, [(3, .int 0), (2, .ref 66), (1, .ref 0), (0, .ref 1000000)], [], p1_D ++ p1_M, 125, 2538871) (33, [(3, .int 0), (2, .ref 66), (1, .ref 0), (0, .ref 1000000)], [.int (xs 0 &&& 15)], p1_D ++ p1_M, 125, 2538871) rfl h)
end
section
/-! ===== one call on fresh objects: those whose course does not hang on the ints ===== -/
set_option maxRecDepth 100000 in
theorem p1_case_10 (xs : Nat → Int32) : ∃ hp' : List va_E, mx_run 6 xs mx_pg 3000 2048 48 33 [(3, .int 0), (2, .ref 66), (1, .ref 0), (0, .ref 1000000)] [.int (nI 10)] (p1_D ++ p1_M) 125 2538871 = some (some (.int 1), hp', 125, 2538871) := ⟨_, rfl⟩
set_option maxRecDepth 100000 in
theorem p1_case_11 (xs : Nat → Int32) : ∃ hp' : List va_E, mx_run 6 xs mx_pg 3000 2048 48 33 [(3, .int 0), (2, .ref 66), (1, .ref 0), (0, .ref 1000000)] [.int (nI 11)] (p1_D ++ p1_M) 125 2538871 = some (some (.int 1), hp', 125, 2538871) := ⟨_, rfl⟩
set_option maxRecDepth 100000 in
theorem p1_case_12 (xs : Nat → Int32) : ∃ hp' : List va_E, mx_run 6 xs mx_pg 3000 2048 48 33 [(3, .int 0), (2, .ref 66), (1, .ref 0), (0, .ref 1000000)] [.int (nI 12)] (p1_D ++ p1_M) 125 2538871 = some (some (.int 1), hp', 125, 2538871) := ⟨_, rfl⟩
set_option maxRecDepth 100000 in
theorem p1_case_13 (xs : Nat → Int32) : ∃ hp' : List va_E, mx_run 6 xs mx_pg 3000 2048 48 33 [(3, .int 0), (2, .ref 66), (1, .ref 0), (0, .ref 1000000)] [.int (nI 13)] (p1_D ++ p1_M) 125 2538871 = some (some (.int 1), hp', 125, 2538871) := ⟨_, rfl⟩
set_option maxRecDepth 100000 in
theorem p1_case_14 (xs : Nat → Int32) : ∃ hp' : List va_E, mx_run 6 xs mx_pg 3000 2048 48 33 [(3, .int 0), (2, .ref 66), (1, .ref 0), (0, .ref 1000000)] [.int (nI 14)] (p1_D ++ p1_M) 125 2538871 = some (some (.int 1), hp', 125, 2538871) := ⟨_, rfl⟩
set_option maxRecDepth 100000 in
theorem p1_case_15 (xs : Nat → Int32) : ∃ hp' : List va_E, mx_run 6 xs mx_pg 3000 2048 48 33 [(3, .int 0), (2, .ref 66), (1, .ref 0), (0, .ref 1000000)] [.int (nI 15)] (p1_D ++ p1_M) 125 2538871 = some (some (.int 1), hp', 125, 2538871) := ⟨_, rfl⟩
set_option maxRecDepth 100000 in
theorem p1_case_3 (xs : Nat → Int32) : ∃ hp' : List va_E, mx_run 6 xs mx_pg 3000 2048 48 33 [(3, .int 0), (2, .ref 66), (1, .ref 0), (0, .ref 1000000)] [.int (nI 3)] (p1_D ++ p1_M) 125 2538871 = some (some (.int 1), hp', 125, 2538871) := ⟨_, rfl⟩
set_option maxRecDepth 100000 in
theorem p1_case_4 (xs : Nat → Int32) : ∃ hp' : List va_E, mx_run 6 xs mx_pg 3000 2048 48 33 [(3, .int 0), (2, .ref 66), (1, .ref 0), (0, .ref 1000000)] [.int (nI 4)] (p1_D ++ p1_M) 125 2538871 = some (some (.int 1), hp', 125, 2538871) := ⟨_, rfl⟩
set_option maxRecDepth 100000 in
theorem p1_case_5 (xs : Nat → Int32) : ∃ hp' : List va_E, mx_run 6 xs mx_pg 3000 2048 48 33 [(3, .int 0), (2, .ref 66), (1, .ref 0), (0, .ref 1000000)] [.int (nI 5)] (p1_D ++ p1_M) 125 2538871 = some (some (.int 1), hp', 125, 2538871) := ⟨_, rfl⟩
set_option maxRecDepth 100000 in
theorem p1_case_6 (xs : Nat → Int32) : ∃ hp' : List va_E, mx_run 6 xs mx_pg 3000 2048 48 33 [(3, .int 0), (2, .ref 66), (1, .ref 0), (0, .ref 1000000)] [.int (nI 6)] (p1_D ++ p1_M) 125 2538871 = some (some (.int 1), hp', 125, 2538871) := ⟨_, rfl⟩
set_option maxRecDepth 100000 in
theorem p1_case_7 (xs : Nat → Int32) : ∃ hp' : List va_E, mx_run 6 xs mx_pg 3000 2048 48 33 [(3, .int 0), (2, .ref 66), (1, .ref 0), (0, .ref 1000000)] [.int (nI 7)] (p1_D ++ p1_M) 125 2538871 = some (some (.int 1), hp', 125, 2538871) := ⟨_, rfl⟩
set_option maxRecDepth 100000 in
theorem p1_case_8 (xs : Nat → Int32) : ∃ hp' : List va_E, mx_run 6 xs mx_pg 3000 2048 48 33 [(3, .int 0), (2, .ref 66), (1, .ref 0), (0, .ref 1000000)] [.int (nI 8)] (p1_D ++ p1_M) 125 2538871 = some (some (.int 1), hp', 125, 2538871) := ⟨_, rfl⟩
set_option maxRecDepth 100000 in
theorem p1_case_9 (xs : Nat → Int32) : ∃ hp' : List va_E, mx_run 6 xs mx_pg 3000 2048 48 33 [(3, .int 0), (2, .ref 66), (1, .ref 0), (0, .ref 1000000)] [.int (nI 9)] (p1_D ++ p1_M) 125 2538871 = some (some (.int 1), hp', 125, 2538871) := ⟨_, rfl⟩
end
section
/-! ===== feed on fresh objects ===== -/
def p1_H (f : Int32) (t : Nat → Int32) (g : Int32) (u : Nat → Int32) : List va_E := [
  .inr (11, [.ref 1, .int f, .int 0, .int (-1), .int (-1), .int (-1), .ref 2, .ref 7, .ref 18, .ref 38, .ref 55]),
  .inl (0, 240, .inl t),
  .inr (8, [.ref 3, .ref 4, .ref 5, .ref 6, .int 0, .int 0]),
  .inl (0, 240, .inl (fun _ => 0)),
  .inl (0, 240, .inl (fun _ => 0)),
  .inl (0, 240, .inl (fun _ => 0)),
  .inl (0, 240, .inl (fun _ => 0)),
  .inr (2, [.ref 2, .int 0]),
  .inr (9, [.ref 9, .ref 10, .int 2]),
  .inl (0, 256, .inl (fun _ => 0)),
  .inl (0, 256, .inl (fun _ => 0)),
  .inr (7, [.ref 8, .ref 12, .ref 13, .ref 14, .ref 15, .ref 16, .int 0, .ref 17, .int 0]),
  .inl (0, 1024, .inl (fun _ => 0)),
  .inl (0, 1024, .inl (fun _ => 0)),
  .inl (0, 1024, .inl (fun _ => 0)),
  .inl (0, 1024, .inl (fun _ => 0)),
  .inl (0, 1024, .inl (fun _ => 0)),
  .inl (0, 512, .inl (fun _ => 0)),
  .inr (1, [.ref 2, .ref 8, .ref 11, .ref 19, .ref 22, .ref 25, .ref 26, .ref 27, .ref 28, .int 0, .int 0, .int 0, .int 0, .int 0, .int 0]),
  .inr (4, [.ref 20, .ref 21, .int 0]),
  .inl (0, 8, .inl (fun _ => 0)),
  .inl (0, 8, .inl (fun _ => 0)),
  .inr (4, [.ref 23, .ref 24, .int 0]),
  .inl (0, 5, .inl (fun _ => 0)),
  .inl (0, 5, .inl (fun _ => 0)),
  .inl (0, 5, .inl (fun _ => 0)),
  .inl (0, 8, .inl (fun _ => 0)),
  .inl (0, 21, .inl (fun _ => 0)),
  .inl (0, 21, .inl (fun _ => 0)),
  .inr (3, [.ref 30, .ref 31, .ref 32, .int 0]),
  .inl (0, 1024, .inl (fun _ => 0)),
  .inl (0, 1024, .inl (fun _ => 0)),
  .inl (0, 1024, .inl (fun _ => 0)),
  .inr (0, [.ref 11, .ref 29, .ref 34, .ref 35, .ref 36, .ref 37, .int 0, .int 0, .int 0]),
  .inl (0, 32, .inl (fun _ => 0)),
  .inl (0, 32, .inl (fun _ => 0)),
  .inl (0, 128, .inl (fun _ => 0)),
  .inl (0, 128, .inl (fun _ => 0)),
  .inr (6, [.ref 11, .ref 29, .ref 33, .ref 39, .ref 46, .ref 53, .ref 54, .int 0, .int 0, .int 0, .int 0, .int 0, .int 0]),
  .inr (5, [.ref 40, .ref 41, .ref 42, .ref 43, .ref 44, .ref 45, .int 0]),
  .inl (0, 512, .inl (fun _ => 0)),
  .inl (0, 512, .inl (fun _ => 0)),
  .inl (0, 512, .inl (fun _ => 0)),
  .inl (0, 512, .inl (fun _ => 0)),
  .inl (0, 512, .inl (fun _ => 0)),
  .inl (0, 512, .inl (fun _ => 0)),
  .inr (5, [.ref 47, .ref 48, .ref 49, .ref 50, .ref 51, .ref 52, .int 0]),
  .inl (0, 512, .inl (fun _ => 0)),
  .inl (0, 512, .inl (fun _ => 0)),
  .inl (0, 512, .inl (fun _ => 0)),
  .inl (0, 512, .inl (fun _ => 0)),
  .inl (0, 512, .inl (fun _ => 0)),
  .inl (0, 512, .inl (fun _ => 0)),
  .inl (0, 32, .inl (fun _ => 0)),
  .inl (0, 4, .inl (fun _ => 0)),
  .inr (10, [.ref 18, .ref 8, .ref 11, .ref 29, .ref 33, .ref 56, .ref 63, .ref 64, .int 0, .ref 65, .int 0, .int (-1)]),
  .inr (5, [.ref 57, .ref 58, .ref 59, .ref 60, .ref 61, .ref 62, .int 0]),
  .inl (0, 512, .inl (fun _ => 0)),
  .inl (0, 512, .inl (fun _ => 0)),
  .inl (0, 512, .inl (fun _ => 0)),
  .inl (0, 512, .inl (fun _ => 0)),
  .inl (0, 512, .inl (fun _ => 0)),
  .inl (0, 512, .inl (fun _ => 0)),
  .inl (0, 32, .inl (fun _ => 0)),
  .inl (0, 128, .inl (fun _ => 0)),
  .inl (0, 4000, .inl (fun _ => 0)),
  .inr (12, [.ref 67, .int g, .ref 68, .int 0, .ref 69, .ref 70, .ref 71, .int 0, .int 0, .int 0, .ref 72, .ref 73, .int 0, .ref 74, .ref 75, .ref 76, .ref 77, .ref 78, .ref 79, .ref 80, .ref 81, .ref 82, .ref 83, .ref 84, .int 0, .ref 85, .ref 86, .ref 87, .ref 88, .ref 89, .ref 90, .ref 91, .ref 92, .int 0, .int 0, .ref 93, .ref 94, .int 0, .int (-1), .int (-1), .int 0, .int 0, .int 0, .ref 95, .ref 96, .int 0, .ref 97, .int 0, .ref 98, .ref 99, .int 0, .ref 100, .ref 101, .ref 102, .ref 103, .ref 104, .int 0, .ref 105, .int 0, .ref 106, .ref 107, .int 0, .ref 108, .ref 109, .int 0, .ref 110, .ref 111, .ref 112, .ref 113, .ref 114, .int 0, .int 0, .ref 115, .ref 116, .ref 117, .int 0, .int 0, .int 0, .int 0, .int 0, .ref 118, .ref 119, .ref 120, .int 0, .ref 121, .ref 122, .int 0, .ref 123, .ref 124, .int 0]),
  .inl (0, 240, .inl u),
  .inl (0, 240, .inl (fun _ => 0)),
  .inl (0, 242, .inl (fun _ => 0)),
  .inl (0, 242, .inl (fun _ => 0)),
  .inl (0, 242, .inl (fun _ => 0)),
  .inl (0, 6000, .inl (fun _ => 0)),
  .inl (0, 6000, .inl (fun _ => 0)),
  .inl (0, 600, .inl (fun _ => 0)),
  .inl (0, 600, .inl (fun _ => 0)),
  .inl (0, 600, .inl (fun _ => 0)),
  .inl (0, 600, .inl (fun _ => 0)),
  .inl (0, 600, .inl (fun _ => 0)),
  .inl (0, 600, .inl (fun _ => 0)),
  .inl (0, 600, .inl (fun _ => 0)),
  .inl (0, 600, .inl (fun _ => 0)),
  .inl (0, 600, .inl (fun _ => 0)),
  .inl (0, 600, .inl (fun _ => 0)),
  .inl (0, 600, .inl (fun _ => 0)),
  .inl (0, 60, .inl (fun _ => 0)),
  .inl (0, 60, .inl (fun _ => 0)),
  .inl (0, 60, .inl (fun _ => 0)),
  .inl (0, 60, .inl (fun _ => 0)),
  .inl (0, 60, .inl (fun _ => 0)),
  .inl (0, 60, .inl (fun _ => 0)),
  .inl (0, 60, .inl (fun _ => 0)),
  .inl (0, 60, .inl (fun _ => 0)),
  .inl (0, 60, .inl (fun _ => 0)),
  .inl (0, 60, .inl (fun _ => 0)),
  .inl (0, 8, .inl (fun _ => 0)),
  .inl (0, 8, .inl (fun _ => 0)),
  .inl (0, 5, .inl (fun _ => 0)),
  .inl (0, 4, .inl (fun _ => 0)),
  .inl (0, 4, .inl (fun _ => 0)),
  .inl (0, 60000, .inl (fun _ => 0)),
  .inl (0, 60000, .inl (fun _ => 0)),
  .inl (0, 60000, .inl (fun _ => 0)),
  .inl (0, 60000, .inl (fun _ => 0)),
  .inl (0, 60000, .inl (fun _ => 0)),
  .inl (0, 120000, .inl (fun _ => 0)),
  .inl (0, 400000, .inl (fun _ => 0)),
  .inl (0, 400000, .inl (fun _ => 0)),
  .inl (0, 3000, .inl (fun _ => 0)),
  .inl (0, 3000, .inl (fun _ => 0)),
  .inl (0, 20000, .inl (fun _ => 0)),
  .inl (1, 3000, .inl (fun _ => 0)),
  .inl (0, 3000, .inl (fun _ => 0)),
  .inl (0, 3000, .inl (fun _ => 0)),
  .inl (0, 3000, .inl (fun _ => 0)),
  .inl (0, 400000, .inl (fun _ => 0)),
  .inl (0, 400000, .inl (fun _ => 0)),
  .inl (0, 400000, .inl (fun _ => 0)),
  .inl (0, 3000, .inl (fun _ => 0)),
  .inl (1, 3000, .inl (fun _ => 0)),
  .inl (0, 3000, .inl (fun _ => 0)),
  .inl (0, 20000, .inl (fun _ => 0)),
  .inl (0, 4001, .inl (fun _ => 0)),
  .inl (0, 5, .inl (fun _ => 0)),
  .inl (1, 3000, .inl (fun _ => 0))]
theorem p1_H0 : p1_D ++ p1_M = p1_H 0 (fun _ => 0) 0 (fun _ => 0) := rfl
set_option maxRecDepth 100000 in
set_option maxHeartbeats 4000000 in
theorem p1_take_0 (sL : Nat) (sx : Nat → Int32) (a : Int32) (t : Nat → Int32) (g : Int32) (u : Nat → Int32) : ∃ t', mx_run sL sx mx_pg 200 2046 31 0 [(0, .ref 0), (1, .int a)] [] (p1_H 0 t g u) 0 0 = some (none, p1_H 4 t' g u, 0, 0) := ⟨_, rfl⟩
set_option maxRecDepth 100000 in
set_option maxHeartbeats 4000000 in
theorem p1_take_4 (sL : Nat) (sx : Nat → Int32) (a : Int32) (t : Nat → Int32) (g : Int32) (u : Nat → Int32) : ∃ t', mx_run sL sx mx_pg 200 2046 31 0 [(0, .ref 0), (1, .int a)] [] (p1_H 4 t g u) 0 0 = some (none, p1_H 8 t' g u, 0, 0) := ⟨_, rfl⟩
set_option maxRecDepth 100000 in
set_option maxHeartbeats 4000000 in
theorem p1_take_8 (sL : Nat) (sx : Nat → Int32) (a : Int32) (t : Nat → Int32) (g : Int32) (u : Nat → Int32) : ∃ t', mx_run sL sx mx_pg 200 2046 31 0 [(0, .ref 0), (1, .int a)] [] (p1_H 8 t g u) 0 0 = some (none, p1_H 12 t' g u, 0, 0) := ⟨_, rfl⟩
set_option maxRecDepth 100000 in
set_option maxHeartbeats 4000000 in
theorem p1_take_12 (sL : Nat) (sx : Nat → Int32) (a : Int32) (t : Nat → Int32) (g : Int32) (u : Nat → Int32) : ∃ t', mx_run sL sx mx_pg 200 2046 31 0 [(0, .ref 0), (1, .int a)] [] (p1_H 12 t g u) 0 0 = some (none, p1_H 16 t' g u, 0, 0) := ⟨_, rfl⟩
set_option maxRecDepth 100000 in
set_option maxHeartbeats 4000000 in
theorem p1_take_16 (sL : Nat) (sx : Nat → Int32) (a : Int32) (t : Nat → Int32) (g : Int32) (u : Nat → Int32) : ∃ t', mx_run sL sx mx_pg 200 2046 31 0 [(0, .ref 0), (1, .int a)] [] (p1_H 16 t g u) 0 0 = some (none, p1_H 20 t' g u, 0, 0) := ⟨_, rfl⟩
set_option maxRecDepth 100000 in
set_option maxHeartbeats 4000000 in
theorem p1_m_0 (sL : Nat) (sx : Nat → Int32) (z a b c d e : Int32) (f : Int32) (t : Nat → Int32) (u : Nat → Int32) : ∃ u', mx_go sL sx eX12_feed.2.2.2 33 (18, [(6, .int 0), (0, .ref 66), (1, .int a), (2, .int b), (3, .int c), (4, .int d), (5, .int e)], [], p1_H f t 0 u, 0, 0) = some (18, [(6, .int 1), (7, .int a), (0, .ref 66), (1, .int a), (2, .int b), (3, .int c), (4, .int d), (5, .int e)], [], p1_H f t 1 u', 0, 0) := ⟨_, rfl⟩
set_option maxRecDepth 100000 in
set_option maxHeartbeats 4000000 in
theorem p1_m_1 (sL : Nat) (sx : Nat → Int32) (z a b c d e : Int32) (f : Int32) (t : Nat → Int32) (u : Nat → Int32) : ∃ u', mx_go sL sx eX12_feed.2.2.2 33 (18, [(6, .int 1), (7, .int z), (0, .ref 66), (1, .int a), (2, .int b), (3, .int c), (4, .int d), (5, .int e)], [], p1_H f t 1 u, 0, 0) = some (18, [(6, .int 2), (7, .int a), (0, .ref 66), (1, .int a), (2, .int b), (3, .int c), (4, .int d), (5, .int e)], [], p1_H f t 2 u', 0, 0) := ⟨_, rfl⟩
set_option maxRecDepth 100000 in
set_option maxHeartbeats 4000000 in
theorem p1_m_2 (sL : Nat) (sx : Nat → Int32) (z a b c d e : Int32) (f : Int32) (t : Nat → Int32) (u : Nat → Int32) : ∃ u', mx_go sL sx eX12_feed.2.2.2 33 (18, [(6, .int 2), (7, .int z), (0, .ref 66), (1, .int a), (2, .int b), (3, .int c), (4, .int d), (5, .int e)], [], p1_H f t 2 u, 0, 0) = some (18, [(6, .int 3), (7, .int a), (0, .ref 66), (1, .int a), (2, .int b), (3, .int c), (4, .int d), (5, .int e)], [], p1_H f t 3 u', 0, 0) := ⟨_, rfl⟩
set_option maxRecDepth 100000 in
set_option maxHeartbeats 4000000 in
theorem p1_m_3 (sL : Nat) (sx : Nat → Int32) (z a b c d e : Int32) (f : Int32) (t : Nat → Int32) (u : Nat → Int32) : ∃ u', mx_go sL sx eX12_feed.2.2.2 33 (18, [(6, .int 3), (7, .int z), (0, .ref 66), (1, .int a), (2, .int b), (3, .int c), (4, .int d), (5, .int e)], [], p1_H f t 3 u, 0, 0) = some (18, [(6, .int 4), (7, .int a), (0, .ref 66), (1, .int a), (2, .int b), (3, .int c), (4, .int d), (5, .int e)], [], p1_H f t 4 u', 0, 0) := ⟨_, rfl⟩
set_option maxRecDepth 100000 in
set_option maxHeartbeats 4000000 in
theorem p1_m_4 (sL : Nat) (sx : Nat → Int32) (z a b c d e : Int32) (f : Int32) (t : Nat → Int32) (u : Nat → Int32) : ∃ u', mx_go sL sx eX12_feed.2.2.2 36 (18, [(6, .int 4), (7, .int z), (0, .ref 66), (1, .int a), (2, .int b), (3, .int c), (4, .int d), (5, .int e)], [], p1_H f t 4 u, 0, 0) = some (18, [(6, .int 5), (7, .int b), (0, .ref 66), (1, .int a), (2, .int b), (3, .int c), (4, .int d), (5, .int e)], [], p1_H f t 5 u', 0, 0) := ⟨_, rfl⟩
set_option maxRecDepth 100000 in
set_option maxHeartbeats 4000000 in
theorem p1_m_5 (sL : Nat) (sx : Nat → Int32) (z a b c d e : Int32) (f : Int32) (t : Nat → Int32) (u : Nat → Int32) : ∃ u', mx_go sL sx eX12_feed.2.2.2 36 (18, [(6, .int 5), (7, .int z), (0, .ref 66), (1, .int a), (2, .int b), (3, .int c), (4, .int d), (5, .int e)], [], p1_H f t 5 u, 0, 0) = some (18, [(6, .int 6), (7, .int b), (0, .ref 66), (1, .int a), (2, .int b), (3, .int c), (4, .int d), (5, .int e)], [], p1_H f t 6 u', 0, 0) := ⟨_, rfl⟩
set_option maxRecDepth 100000 in
set_option maxHeartbeats 4000000 in
theorem p1_m_6 (sL : Nat) (sx : Nat → Int32) (z a b c d e : Int32) (f : Int32) (t : Nat → Int32) (u : Nat → Int32) : ∃ u', mx_go sL sx eX12_feed.2.2.2 36 (18, [(6, .int 6), (7, .int z), (0, .ref 66), (1, .int a), (2, .int b), (3, .int c), (4, .int d), (5, .int e)], [], p1_H f t 6 u, 0, 0) = some (18, [(6, .int 7), (7, .int b), (0, .ref 66), (1, .int a), (2, .int b), (3, .int c), (4, .int d), (5, .int e)], [], p1_H f t 7 u', 0, 0) := ⟨_, rfl⟩
set_option maxRecDepth 100000 in
set_option maxHeartbeats 4000000 in
theorem p1_m_7 (sL : Nat) (sx : Nat → Int32) (z a b c d e : Int32) (f : Int32) (t : Nat → Int32) (u : Nat → Int32) : ∃ u', mx_go sL sx eX12_feed.2.2.2 36 (18, [(6, .int 7), (7, .int z), (0, .ref 66), (1, .int a), (2, .int b), (3, .int c), (4, .int d), (5, .int e)], [], p1_H f t 7 u, 0, 0) = some (18, [(6, .int 8), (7, .int b), (0, .ref 66), (1, .int a), (2, .int b), (3, .int c), (4, .int d), (5, .int e)], [], p1_H f t 8 u', 0, 0) := ⟨_, rfl⟩
set_option maxRecDepth 100000 in
set_option maxHeartbeats 4000000 in
theorem p1_m_8 (sL : Nat) (sx : Nat → Int32) (z a b c d e : Int32) (f : Int32) (t : Nat → Int32) (u : Nat → Int32) : ∃ u', mx_go sL sx eX12_feed.2.2.2 39 (18, [(6, .int 8), (7, .int z), (0, .ref 66), (1, .int a), (2, .int b), (3, .int c), (4, .int d), (5, .int e)], [], p1_H f t 8 u, 0, 0) = some (18, [(6, .int 9), (7, .int c), (0, .ref 66), (1, .int a), (2, .int b), (3, .int c), (4, .int d), (5, .int e)], [], p1_H f t 9 u', 0, 0) := ⟨_, rfl⟩
set_option maxRecDepth 100000 in
set_option maxHeartbeats 4000000 in
theorem p1_m_9 (sL : Nat) (sx : Nat → Int32) (z a b c d e : Int32) (f : Int32) (t : Nat → Int32) (u : Nat → Int32) : ∃ u', mx_go sL sx eX12_feed.2.2.2 39 (18, [(6, .int 9), (7, .int z), (0, .ref 66), (1, .int a), (2, .int b), (3, .int c), (4, .int d), (5, .int e)], [], p1_H f t 9 u, 0, 0) = some (18, [(6, .int 10), (7, .int c), (0, .ref 66), (1, .int a), (2, .int b), (3, .int c), (4, .int d), (5, .int e)], [], p1_H f t 10 u', 0, 0) := ⟨_, rfl⟩
set_option maxRecDepth 100000 in
set_option maxHeartbeats 4000000 in
theorem p1_m_10 (sL : Nat) (sx : Nat → Int32) (z a b c d e : Int32) (f : Int32) (t : Nat → Int32) (u : Nat → Int32) : ∃ u', mx_go sL sx eX12_feed.2.2.2 39 (18, [(6, .int 10), (7, .int z), (0, .ref 66), (1, .int a), (2, .int b), (3, .int c), (4, .int d), (5, .int e)], [], p1_H f t 10 u, 0, 0) = some (18, [(6, .int 11), (7, .int c), (0, .ref 66), (1, .int a), (2, .int b), (3, .int c), (4, .int d), (5, .int e)], [], p1_H f t 11 u', 0, 0) := ⟨_, rfl⟩
set_option maxRecDepth 100000 in
set_option maxHeartbeats 4000000 in
theorem p1_m_11 (sL : Nat) (sx : Nat → Int32) (z a b c d e : Int32) (f : Int32) (t : Nat → Int32) (u : Nat → Int32) : ∃ u', mx_go sL sx eX12_feed.2.2.2 39 (18, [(6, .int 11), (7, .int z), (0, .ref 66), (1, .int a), (2, .int b), (3, .int c), (4, .int d), (5, .int e)], [], p1_H f t 11 u, 0, 0) = some (18, [(6, .int 12), (7, .int c), (0, .ref 66), (1, .int a), (2, .int b), (3, .int c), (4, .int d), (5, .int e)], [], p1_H f t 12 u', 0, 0) := ⟨_, rfl⟩
set_option maxRecDepth 100000 in
set_option maxHeartbeats 4000000 in
theorem p1_m_12 (sL : Nat) (sx : Nat → Int32) (z a b c d e : Int32) (f : Int32) (t : Nat → Int32) (u : Nat → Int32) : ∃ u', mx_go sL sx eX12_feed.2.2.2 42 (18, [(6, .int 12), (7, .int z), (0, .ref 66), (1, .int a), (2, .int b), (3, .int c), (4, .int d), (5, .int e)], [], p1_H f t 12 u, 0, 0) = some (18, [(6, .int 13), (7, .int d), (0, .ref 66), (1, .int a), (2, .int b), (3, .int c), (4, .int d), (5, .int e)], [], p1_H f t 13 u', 0, 0) := ⟨_, rfl⟩
set_option maxRecDepth 100000 in
set_option maxHeartbeats 4000000 in
theorem p1_m_13 (sL : Nat) (sx : Nat → Int32) (z a b c d e : Int32) (f : Int32) (t : Nat → Int32) (u : Nat → Int32) : ∃ u', mx_go sL sx eX12_feed.2.2.2 42 (18, [(6, .int 13), (7, .int z), (0, .ref 66), (1, .int a), (2, .int b), (3, .int c), (4, .int d), (5, .int e)], [], p1_H f t 13 u, 0, 0) = some (18, [(6, .int 14), (7, .int d), (0, .ref 66), (1, .int a), (2, .int b), (3, .int c), (4, .int d), (5, .int e)], [], p1_H f t 14 u', 0, 0) := ⟨_, rfl⟩
set_option maxRecDepth 100000 in
set_option maxHeartbeats 4000000 in
theorem p1_m_14 (sL : Nat) (sx : Nat → Int32) (z a b c d e : Int32) (f : Int32) (t : Nat → Int32) (u : Nat → Int32) : ∃ u', mx_go sL sx eX12_feed.2.2.2 42 (18, [(6, .int 14), (7, .int z), (0, .ref 66), (1, .int a), (2, .int b), (3, .int c), (4, .int d), (5, .int e)], [], p1_H f t 14 u, 0, 0) = some (18, [(6, .int 15), (7, .int d), (0, .ref 66), (1, .int a), (2, .int b), (3, .int c), (4, .int d), (5, .int e)], [], p1_H f t 15 u', 0, 0) := ⟨_, rfl⟩
set_option maxRecDepth 100000 in
set_option maxHeartbeats 4000000 in
theorem p1_m_15 (sL : Nat) (sx : Nat → Int32) (z a b c d e : Int32) (f : Int32) (t : Nat → Int32) (u : Nat → Int32) : ∃ u', mx_go sL sx eX12_feed.2.2.2 42 (18, [(6, .int 15), (7, .int z), (0, .ref 66), (1, .int a), (2, .int b), (3, .int c), (4, .int d), (5, .int e)], [], p1_H f t 15 u, 0, 0) = some (18, [(6, .int 16), (7, .int d), (0, .ref 66), (1, .int a), (2, .int b), (3, .int c), (4, .int d), (5, .int e)], [], p1_H f t 16 u', 0, 0) := ⟨_, rfl⟩
set_option maxRecDepth 100000 in
set_option maxHeartbeats 4000000 in
theorem p1_m_16 (sL : Nat) (sx : Nat → Int32) (z a b c d e : Int32) (f : Int32) (t : Nat → Int32) (u : Nat → Int32) : ∃ u', mx_go sL sx eX12_feed.2.2.2 41 (18, [(6, .int 16), (7, .int z), (0, .ref 66), (1, .int a), (2, .int b), (3, .int c), (4, .int d), (5, .int e)], [], p1_H f t 16 u, 0, 0) = some (18, [(6, .int 17), (7, .int e), (0, .ref 66), (1, .int a), (2, .int b), (3, .int c), (4, .int d), (5, .int e)], [], p1_H f t 17 u', 0, 0) := ⟨_, rfl⟩
set_option maxRecDepth 100000 in
set_option maxHeartbeats 4000000 in
theorem p1_m_17 (sL : Nat) (sx : Nat → Int32) (z a b c d e : Int32) (f : Int32) (t : Nat → Int32) (u : Nat → Int32) : ∃ u', mx_go sL sx eX12_feed.2.2.2 41 (18, [(6, .int 17), (7, .int z), (0, .ref 66), (1, .int a), (2, .int b), (3, .int c), (4, .int d), (5, .int e)], [], p1_H f t 17 u, 0, 0) = some (18, [(6, .int 18), (7, .int e), (0, .ref 66), (1, .int a), (2, .int b), (3, .int c), (4, .int d), (5, .int e)], [], p1_H f t 18 u', 0, 0) := ⟨_, rfl⟩
set_option maxRecDepth 100000 in
set_option maxHeartbeats 4000000 in
theorem p1_m_18 (sL : Nat) (sx : Nat → Int32) (z a b c d e : Int32) (f : Int32) (t : Nat → Int32) (u : Nat → Int32) : ∃ u', mx_go sL sx eX12_feed.2.2.2 41 (18, [(6, .int 18), (7, .int z), (0, .ref 66), (1, .int a), (2, .int b), (3, .int c), (4, .int d), (5, .int e)], [], p1_H f t 18 u, 0, 0) = some (18, [(6, .int 19), (7, .int e), (0, .ref 66), (1, .int a), (2, .int b), (3, .int c), (4, .int d), (5, .int e)], [], p1_H f t 19 u', 0, 0) := ⟨_, rfl⟩
set_option maxRecDepth 100000 in
set_option maxHeartbeats 4000000 in
theorem p1_m_19 (sL : Nat) (sx : Nat → Int32) (z a b c d e : Int32) (f : Int32) (t : Nat → Int32) (u : Nat → Int32) : ∃ u', mx_go sL sx eX12_feed.2.2.2 41 (18, [(6, .int 19), (7, .int z), (0, .ref 66), (1, .int a), (2, .int b), (3, .int c), (4, .int d), (5, .int e)], [], p1_H f t 19 u, 0, 0) = some (18, [(6, .int 20), (7, .int e), (0, .ref 66), (1, .int a), (2, .int b), (3, .int c), (4, .int d), (5, .int e)], [], p1_H f t 20 u', 0, 0) := ⟨_, rfl⟩
end
section
/-! ===== feed on fresh objects: both ===== -/
set_option maxRecDepth 100000 in
theorem p1_feedX (sL : Nat) (sx : Nat → Int32) (a b c d e : Int32) (t : Nat → Int32) (g : Int32) (u : Nat → Int32) : ∃ t', mx_ends sL sx mx_pg 2047 20 0 [(0, .ref 0), (1, .int a), (2, .int b), (3, .int c), (4, .int d), (5, .int e)] [] (p1_H 0 t g u) 0 0 (some (.int 20), p1_H 20 t' g u, 0, 0) := by
  have he : mx_pg[20]? = some eX11_feed := rfl
  obtain ⟨t1, h1⟩ := p1_take_0 sL sx a t g u
  obtain ⟨t2, h2⟩ := p1_take_4 sL sx b t1 g u
  obtain ⟨t3, h3⟩ := p1_take_8 sL sx c t2 g u
  obtain ⟨t4, h4⟩ := p1_take_12 sL sx d t3 g u
  obtain ⟨t5, h5⟩ := p1_take_16 sL sx e t4 g u
  refine ⟨t5, ?_⟩
  refine mx_ends_go he 8 (0, [(0, .ref 0), (1, .int a), (2, .int b), (3, .int c), (4, .int d), (5, .int e)], [], p1_H 0 t g u, 0, 0) (17, [(0, .ref 0), (1, .int a), (2, .int b), (3, .int c), (4, .int d), (5, .int e)], [.int a, .ref 0], p1_H 0 t g u, 0, 0) rfl ?_
  refine mx_ends_V (r1 := (none, p1_H 4 t1 g u, 0, 0)) (i := 0) (rest := []) he rfl rfl rfl rfl ⟨200, h1⟩ ?_
  refine mx_ends_go he 2 (20, [(0, .ref 0), (1, .int a), (2, .int b), (3, .int c), (4, .int d), (5, .int e)], [], p1_H 4 t1 g u, 0, 0) (22, [(0, .ref 0), (1, .int a), (2, .int b), (3, .int c), (4, .int d), (5, .int e)], [.int b, .ref 0], p1_H 4 t1 g u, 0, 0) rfl ?_
  refine mx_ends_V (r1 := (none, p1_H 8 t2 g u, 0, 0)) (i := 0) (rest := []) he rfl rfl rfl rfl ⟨200, h2⟩ ?_
  refine mx_ends_go he 2 (25, [(0, .ref 0), (1, .int a), (2, .int b), (3, .int c), (4, .int d), (5, .int e)], [], p1_H 8 t2 g u, 0, 0) (27, [(0, .ref 0), (1, .int a), (2, .int b), (3, .int c), (4, .int d), (5, .int e)], [.int c, .ref 0], p1_H 8 t2 g u, 0, 0) rfl ?_
  refine mx_ends_V (r1 := (none, p1_H 12 t3 g u, 0, 0)) (i := 0) (rest := []) he rfl rfl rfl rfl ⟨200, h3⟩ ?_
  refine mx_ends_go he 2 (30, [(0, .ref 0), (1, .int a), (2, .int b), (3, .int c), (4, .int d), (5, .int e)], [], p1_H 12 t3 g u, 0, 0) (33, [(0, .ref 0), (1, .int a), (2, .int b), (3, .int c), (4, .int d), (5, .int e)], [.int d, .ref 0], p1_H 12 t3 g u, 0, 0) rfl ?_
  refine mx_ends_V (r1 := (none, p1_H 16 t4 g u, 0, 0)) (i := 0) (rest := []) he rfl rfl rfl rfl ⟨200, h4⟩ ?_
  refine mx_ends_go he 2 (36, [(0, .ref 0), (1, .int a), (2, .int b), (3, .int c), (4, .int d), (5, .int e)], [], p1_H 16 t4 g u, 0, 0) (39, [(0, .ref 0), (1, .int a), (2, .int b), (3, .int c), (4, .int d), (5, .int e)], [.int e, .ref 0], p1_H 16 t4 g u, 0, 0) rfl ?_
  refine mx_ends_V (r1 := (none, p1_H 20 t5 g u, 0, 0)) (i := 0) (rest := []) he rfl rfl rfl rfl ⟨200, h5⟩ ?_
  refine mx_ends_go he 2 (42, [(0, .ref 0), (1, .int a), (2, .int b), (3, .int c), (4, .int d), (5, .int e)], [], p1_H 20 t5 g u, 0, 0) (46, [(0, .ref 0), (1, .int a), (2, .int b), (3, .int c), (4, .int d), (5, .int e)], [.int 20], p1_H 20 t5 g u, 0, 0) rfl ?_
  exact mx_ends_iret he rfl rfl
set_option maxRecDepth 100000 in
theorem p1_feedM (sL : Nat) (sx : Nat → Int32) (a b c d e : Int32) (f : Int32) (t : Nat → Int32) (u : Nat → Int32) : ∃ u', mx_ends sL sx mx_pg 2047 33 0 [(0, .ref 66), (1, .int a), (2, .int b), (3, .int c), (4, .int d), (5, .int e)] [] (p1_H f t 0 u) 0 0 (some (.int 20), p1_H f t 20 u', 0, 0) := by
  have he : mx_pg[33]? = some eX12_feed := rfl
  obtain ⟨u1, h1⟩ := p1_m_0 sL sx a a b c d e f t u
  obtain ⟨u2, h2⟩ := p1_m_1 sL sx a a b c d e f t u1
  obtain ⟨u3, h3⟩ := p1_m_2 sL sx a a b c d e f t u2
  obtain ⟨u4, h4⟩ := p1_m_3 sL sx a a b c d e f t u3
  obtain ⟨u5, h5⟩ := p1_m_4 sL sx a a b c d e f t u4
  obtain ⟨u6, h6⟩ := p1_m_5 sL sx b a b c d e f t u5
  obtain ⟨u7, h7⟩ := p1_m_6 sL sx b a b c d e f t u6
  obtain ⟨u8, h8⟩ := p1_m_7 sL sx b a b c d e f t u7
  obtain ⟨u9, h9⟩ := p1_m_8 sL sx b a b c d e f t u8
  obtain ⟨u10, h10⟩ := p1_m_9 sL sx c a b c d e f t u9
  obtain ⟨u11, h11⟩ := p1_m_10 sL sx c a b c d e f t u10
  obtain ⟨u12, h12⟩ := p1_m_11 sL sx c a b c d e f t u11
  obtain ⟨u13, h13⟩ := p1_m_12 sL sx c a b c d e f t u12
  obtain ⟨u14, h14⟩ := p1_m_13 sL sx d a b c d e f t u13
  obtain ⟨u15, h15⟩ := p1_m_14 sL sx d a b c d e f t u14
  obtain ⟨u16, h16⟩ := p1_m_15 sL sx d a b c d e f t u15
  obtain ⟨u17, h17⟩ := p1_m_16 sL sx d a b c d e f t u16
  obtain ⟨u18, h18⟩ := p1_m_17 sL sx e a b c d e f t u17
  obtain ⟨u19, h19⟩ := p1_m_18 sL sx e a b c d e f t u18
  obtain ⟨u20, h20⟩ := p1_m_19 sL sx e a b c d e f t u19
  refine ⟨u20, ?_⟩
  refine mx_ends_go he 8 (0, [(0, .ref 66), (1, .int a), (2, .int b), (3, .int c), (4, .int d), (5, .int e)], [], p1_H f t 0 u, 0, 0) (18, (6, .int 0) :: [(0, .ref 66), (1, .int a), (2, .int b), (3, .int c), (4, .int d), (5, .int e)], [], p1_H f t 0 u, 0, 0) rfl ?_
  refine mx_ends_go he _ _ _ h1 ?_
  refine mx_ends_go he _ _ _ h2 ?_
  refine mx_ends_go he _ _ _ h3 ?_
  refine mx_ends_go he _ _ _ h4 ?_
  refine mx_ends_go he _ _ _ h5 ?_
  refine mx_ends_go he _ _ _ h6 ?_
  refine mx_ends_go he _ _ _ h7 ?_
  refine mx_ends_go he _ _ _ h8 ?_
  refine mx_ends_go he _ _ _ h9 ?_
  refine mx_ends_go he _ _ _ h10 ?_
  refine mx_ends_go he _ _ _ h11 ?_
  refine mx_ends_go he _ _ _ h12 ?_
  refine mx_ends_go he _ _ _ h13 ?_
  refine mx_ends_go he _ _ _ h14 ?_
  refine mx_ends_go he _ _ _ h15 ?_
  refine mx_ends_go he _ _ _ h16 ?_
  refine mx_ends_go he _ _ _ h17 ?_
  refine mx_ends_go he _ _ _ h18 ?_
  refine mx_ends_go he _ _ _ h19 ?_
  refine mx_ends_go he _ _ _ h20 ?_
  refine mx_ends_go he 5 (18, (6, .int 20) :: (7, .int e) :: [(0, .ref 66), (1, .int a), (2, .int b), (3, .int c), (4, .int d), (5, .int e)], [], p1_H f t 20 u20, 0, 0) (119, (6, .int 20) :: (7, .int e) :: [(0, .ref 66), (1, .int a), (2, .int b), (3, .int c), (4, .int d), (5, .int e)], [.int 20], p1_H f t 20 u20, 0, 0) rfl ?_
  exact mx_ends_iret he rfl rfl
end
section
/-! ===== the other calls on fresh objects, and the claim for scripts of one call ===== -/
theorem mx_ends_ct {sL : Nat} {sx : Nat → Int32} {pg : List mx_En} {d mi : Nat} {r : Option Value × List va_E × Nat × Nat} {e : mx_En} (he : pg[mi]? = some e) (n : Nat) (x : mx_Cf) (b : Bool) (p q : Nat) (y : List (Nat × Value) × List Value × List va_E × Nat × Nat) (h : mx_go sL sx e.2.2.2 n x = some (cond b p q, y)) (hb : b = true) (k : mx_ends sL sx pg d mi p y.1 y.2.1 y.2.2.1 y.2.2.2.1 y.2.2.2.2 r) : mx_ends sL sx pg d mi x.1 x.2.1 x.2.2.1 x.2.2.2.1 x.2.2.2.2.1 x.2.2.2.2.2 r := by
  subst hb
  exact mx_ends_go he n x (p, y) h k
theorem mx_ends_cf {sL : Nat} {sx : Nat → Int32} {pg : List mx_En} {d mi : Nat} {r : Option Value × List va_E × Nat × Nat} {e : mx_En} (he : pg[mi]? = some e) (n : Nat) (x : mx_Cf) (b : Bool) (p q : Nat) (y : List (Nat × Value) × List Value × List va_E × Nat × Nat) (h : mx_go sL sx e.2.2.2 n x = some (cond b p q, y)) (hb : b = false) (k : mx_ends sL sx pg d mi q y.1 y.2.1 y.2.2.1 y.2.2.2.1 y.2.2.2.2 r) : mx_ends sL sx pg d mi x.1 x.2.1 x.2.2.1 x.2.2.2.1 x.2.2.2.2.1 x.2.2.2.2.2 r := by
  subst hb
  exact mx_ends_go he n x (q, y) h k
set_option maxRecDepth 100000 in
theorem p1_toldX (sL : Nat) (sx : Nat → Int32) (v : Int32) : mx_ends sL sx mx_pg 2047 22 0 [(0, .ref 0), (1, .int v)] [] (p1_D ++ p1_M) 0 0 (some (.int (-1)), p1_D ++ p1_M, 0, 0) := by
  have he : mx_pg[22]? = some eX11_told := rfl
  by_cases h0 : v = 0
  · subst h0; exact ⟨100, rfl⟩
  by_cases h1 : v = 1
  · subst h1; exact ⟨100, rfl⟩
  refine mx_ends_ct he 2 (0, [(0, .ref 0), (1, .int v)], [], p1_D ++ p1_M, 0, 0) (decide (v ≠ 0)) 9 4 ([(0, .ref 0), (1, .int v)], [], p1_D ++ p1_M, 0, 0) rfl (decide_eq_true h0) ?_
  refine mx_ends_ct he 3 (9, [(0, .ref 0), (1, .int v)], [], p1_D ++ p1_M, 0, 0) (decide (v ≠ 1)) 21 14 ([(0, .ref 0), (1, .int v)], [], p1_D ++ p1_M, 0, 0) rfl (decide_eq_true h1) ?_
  refine mx_ends_go he 1 (21, [(0, .ref 0), (1, .int v)], [], p1_D ++ p1_M, 0, 0) (22, [(0, .ref 0), (1, .int v)], [.int (-1)], p1_D ++ p1_M, 0, 0) rfl ?_
  exact mx_ends_iret he rfl rfl
set_option maxRecDepth 100000 in
theorem p1_toldM (sL : Nat) (sx : Nat → Int32) (v : Int32) : mx_ends sL sx mx_pg 2047 39 0 [(0, .ref 66), (1, .int v)] [] (p1_D ++ p1_M) 0 0 (some (.int (-1)), p1_D ++ p1_M, 0, 0) := by
  have he : mx_pg[39]? = some eX12_told := rfl
  by_cases h0 : v = 0
  · subst h0; exact ⟨100, rfl⟩
  by_cases h1 : v = 1
  · subst h1; exact ⟨100, rfl⟩
  refine mx_ends_ct he 2 (0, [(0, .ref 66), (1, .int v)], [], p1_D ++ p1_M, 0, 0) (decide (v ≠ 0)) 11 4 ([(0, .ref 66), (1, .int v)], [], p1_D ++ p1_M, 0, 0) rfl (decide_eq_true h0) ?_
  refine mx_ends_ct he 3 (11, [(0, .ref 66), (1, .int v)], [], p1_D ++ p1_M, 0, 0) (decide (v ≠ 1)) 23 16 ([(0, .ref 66), (1, .int v)], [], p1_D ++ p1_M, 0, 0) rfl (decide_eq_true h1) ?_
  refine mx_ends_go he 1 (23, [(0, .ref 66), (1, .int v)], [], p1_D ++ p1_M, 0, 0) (24, [(0, .ref 66), (1, .int v)], [.int (-1)], p1_D ++ p1_M, 0, 0) rfl ?_
  exact mx_ends_iret he rfl rfl
set_option maxRecDepth 100000 in
theorem p1_loadXn (sL : Nat) (sx : Nat → Int32) (v : Int32) (hv : v ≠ 0) : mx_ends sL sx mx_pg 2047 21 0 [(0, .ref 0), (1, .int v)] [] (p1_D ++ p1_M) 0 0 (some (.int (-1)), p1_D ++ p1_M, 0, 0) := by
  have he : mx_pg[21]? = some eX11_load := rfl
  have tail : mx_ends sL sx mx_pg 2047 21 12 [(0, .ref 0), (1, .int v)] [] (p1_D ++ p1_M) 0 0 (some (.int (-1)), p1_D ++ p1_M, 0, 0) := by
    refine mx_ends_go he 1 (12, [(0, .ref 0), (1, .int v)], [], p1_D ++ p1_M, 0, 0) (13, [(0, .ref 0), (1, .int v)], [.int (-1)], p1_D ++ p1_M, 0, 0) rfl ?_
    exact mx_ends_iret he rfl rfl
  by_cases h0 : v < 0
  · exact mx_ends_ct he 2 (0, [(0, .ref 0), (1, .int v)], [], p1_D ++ p1_M, 0, 0) (decide (v < 0)) 12 4 ([(0, .ref 0), (1, .int v)], [], p1_D ++ p1_M, 0, 0) rfl (decide_eq_true h0) tail
  have h1 : ¬ v ≤ 0 := fun q => by
    rcases Int32.lt_or_eq_of_le q with q | q
    · exact h0 q
    · exact hv q
  refine mx_ends_cf he 2 (0, [(0, .ref 0), (1, .int v)], [], p1_D ++ p1_M, 0, 0) (decide (v < 0)) 12 4 ([(0, .ref 0), (1, .int v)], [], p1_D ++ p1_M, 0, 0) rfl (decide_eq_false h0) ?_
  exact mx_ends_cf he 4 (4, [(0, .ref 0), (1, .int v)], [], p1_D ++ p1_M, 0, 0) (decide (v ≤ 0)) 14 12 ([(0, .ref 0), (1, .int v)], [], p1_D ++ p1_M, 0, 0) rfl (decide_eq_false h1) tail
set_option maxRecDepth 100000 in
theorem p1_loadMn (sL : Nat) (sx : Nat → Int32) (v : Int32) (hv : v ≠ 0) : mx_ends sL sx mx_pg 2047 38 0 [(0, .ref 66), (1, .int v)] [] (p1_D ++ p1_M) 0 0 (some (.int (-1)), p1_D ++ p1_M, 0, 0) := by
  have he : mx_pg[38]? = some eX12_load := rfl
  have tail : mx_ends sL sx mx_pg 2047 38 12 [(0, .ref 66), (1, .int v)] [] (p1_D ++ p1_M) 0 0 (some (.int (-1)), p1_D ++ p1_M, 0, 0) := by
    refine mx_ends_go he 1 (12, [(0, .ref 66), (1, .int v)], [], p1_D ++ p1_M, 0, 0) (13, [(0, .ref 66), (1, .int v)], [.int (-1)], p1_D ++ p1_M, 0, 0) rfl ?_
    exact mx_ends_iret he rfl rfl
  by_cases h0 : v < 0
  · exact mx_ends_ct he 2 (0, [(0, .ref 66), (1, .int v)], [], p1_D ++ p1_M, 0, 0) (decide (v < 0)) 12 4 ([(0, .ref 66), (1, .int v)], [], p1_D ++ p1_M, 0, 0) rfl (decide_eq_true h0) tail
  have h1 : ¬ v ≤ 0 := fun q => by
    rcases Int32.lt_or_eq_of_le q with q | q
    · exact h0 q
    · exact hv q
  refine mx_ends_cf he 2 (0, [(0, .ref 66), (1, .int v)], [], p1_D ++ p1_M, 0, 0) (decide (v < 0)) 12 4 ([(0, .ref 66), (1, .int v)], [], p1_D ++ p1_M, 0, 0) rfl (decide_eq_false h0) ?_
  exact mx_ends_cf he 4 (4, [(0, .ref 66), (1, .int v)], [], p1_D ++ p1_M, 0, 0) (decide (v ≤ 0)) 14 12 ([(0, .ref 66), (1, .int v)], [], p1_D ++ p1_M, 0, 0) rfl (decide_eq_false h1) tail
def p1_L (b : Int32) (t : Nat → Int32) : List va_E := [
  .inr (11, [.ref 1, .int 0, .int b, .int (-1), .int (-1), .int (-1), .ref 2, .ref 7, .ref 18, .ref 38, .ref 55]),
  .inl (0, 240, .inl (fun _ => 0)),
  .inr (8, [.ref 3, .ref 4, .ref 5, .ref 6, .int 0, .int 0]),
  .inl (0, 240, .inl t),
  .inl (0, 240, .inl (fun _ => 0)),
  .inl (0, 240, .inl (fun _ => 0)),
  .inl (0, 240, .inl (fun _ => 0)),
  .inr (2, [.ref 2, .int 0]),
  .inr (9, [.ref 9, .ref 10, .int 2]),
  .inl (0, 256, .inl (fun _ => 0)),
  .inl (0, 256, .inl (fun _ => 0)),
  .inr (7, [.ref 8, .ref 12, .ref 13, .ref 14, .ref 15, .ref 16, .int 0, .ref 17, .int 0]),
  .inl (0, 1024, .inl (fun _ => 0)),
  .inl (0, 1024, .inl (fun _ => 0)),
  .inl (0, 1024, .inl (fun _ => 0)),
  .inl (0, 1024, .inl (fun _ => 0)),
  .inl (0, 1024, .inl (fun _ => 0)),
  .inl (0, 512, .inl (fun _ => 0)),
  .inr (1, [.ref 2, .ref 8, .ref 11, .ref 19, .ref 22, .ref 25, .ref 26, .ref 27, .ref 28, .int 0, .int 0, .int 0, .int 0, .int 0, .int 0]),
  .inr (4, [.ref 20, .ref 21, .int 0]),
  .inl (0, 8, .inl (fun _ => 0)),
  .inl (0, 8, .inl (fun _ => 0)),
  .inr (4, [.ref 23, .ref 24, .int 0]),
  .inl (0, 5, .inl (fun _ => 0)),
  .inl (0, 5, .inl (fun _ => 0)),
  .inl (0, 5, .inl (fun _ => 0)),
  .inl (0, 8, .inl (fun _ => 0)),
  .inl (0, 21, .inl (fun _ => 0)),
  .inl (0, 21, .inl (fun _ => 0)),
  .inr (3, [.ref 30, .ref 31, .ref 32, .int 0]),
  .inl (0, 1024, .inl (fun _ => 0)),
  .inl (0, 1024, .inl (fun _ => 0)),
  .inl (0, 1024, .inl (fun _ => 0)),
  .inr (0, [.ref 11, .ref 29, .ref 34, .ref 35, .ref 36, .ref 37, .int 0, .int 0, .int 0]),
  .inl (0, 32, .inl (fun _ => 0)),
  .inl (0, 32, .inl (fun _ => 0)),
  .inl (0, 128, .inl (fun _ => 0)),
  .inl (0, 128, .inl (fun _ => 0)),
  .inr (6, [.ref 11, .ref 29, .ref 33, .ref 39, .ref 46, .ref 53, .ref 54, .int 0, .int 0, .int 0, .int 0, .int 0, .int 0]),
  .inr (5, [.ref 40, .ref 41, .ref 42, .ref 43, .ref 44, .ref 45, .int 0]),
  .inl (0, 512, .inl (fun _ => 0)),
  .inl (0, 512, .inl (fun _ => 0)),
  .inl (0, 512, .inl (fun _ => 0)),
  .inl (0, 512, .inl (fun _ => 0)),
  .inl (0, 512, .inl (fun _ => 0)),
  .inl (0, 512, .inl (fun _ => 0)),
  .inr (5, [.ref 47, .ref 48, .ref 49, .ref 50, .ref 51, .ref 52, .int 0]),
  .inl (0, 512, .inl (fun _ => 0)),
  .inl (0, 512, .inl (fun _ => 0)),
  .inl (0, 512, .inl (fun _ => 0)),
  .inl (0, 512, .inl (fun _ => 0)),
  .inl (0, 512, .inl (fun _ => 0)),
  .inl (0, 512, .inl (fun _ => 0)),
  .inl (0, 32, .inl (fun _ => 0)),
  .inl (0, 4, .inl (fun _ => 0)),
  .inr (10, [.ref 18, .ref 8, .ref 11, .ref 29, .ref 33, .ref 56, .ref 63, .ref 64, .int 0, .ref 65, .int 0, .int (-1)]),
  .inr (5, [.ref 57, .ref 58, .ref 59, .ref 60, .ref 61, .ref 62, .int 0]),
  .inl (0, 512, .inl (fun _ => 0)),
  .inl (0, 512, .inl (fun _ => 0)),
  .inl (0, 512, .inl (fun _ => 0)),
  .inl (0, 512, .inl (fun _ => 0)),
  .inl (0, 512, .inl (fun _ => 0)),
  .inl (0, 512, .inl (fun _ => 0)),
  .inl (0, 32, .inl (fun _ => 0)),
  .inl (0, 128, .inl (fun _ => 0)),
  .inl (0, 4000, .inl (fun _ => 0)),
  .inr (12, [.ref 67, .int 0, .ref 68, .int 0, .ref 69, .ref 70, .ref 71, .int 0, .int 0, .int 0, .ref 72, .ref 73, .int 0, .ref 74, .ref 75, .ref 76, .ref 77, .ref 78, .ref 79, .ref 80, .ref 81, .ref 82, .ref 83, .ref 84, .int 0, .ref 85, .ref 86, .ref 87, .ref 88, .ref 89, .ref 90, .ref 91, .ref 92, .int 0, .int 0, .ref 93, .ref 94, .int 0, .int (-1), .int (-1), .int 0, .int 0, .int 0, .ref 95, .ref 96, .int 0, .ref 97, .int 0, .ref 98, .ref 99, .int 0, .ref 100, .ref 101, .ref 102, .ref 103, .ref 104, .int 0, .ref 105, .int 0, .ref 106, .ref 107, .int 0, .ref 108, .ref 109, .int 0, .ref 110, .ref 111, .ref 112, .ref 113, .ref 114, .int 0, .int 0, .ref 115, .ref 116, .ref 117, .int 0, .int 0, .int 0, .int 0, .int 0, .ref 118, .ref 119, .ref 120, .int 0, .ref 121, .ref 122, .int 0, .ref 123, .ref 124, .int 0]),
  .inl (0, 240, .inl (fun _ => 0)),
  .inl (0, 240, .inl (fun _ => 0)),
  .inl (0, 242, .inl (fun _ => 0)),
  .inl (0, 242, .inl (fun _ => 0)),
  .inl (0, 242, .inl (fun _ => 0)),
  .inl (0, 6000, .inl (fun _ => 0)),
  .inl (0, 6000, .inl (fun _ => 0)),
  .inl (0, 600, .inl (fun _ => 0)),
  .inl (0, 600, .inl (fun _ => 0)),
  .inl (0, 600, .inl (fun _ => 0)),
  .inl (0, 600, .inl (fun _ => 0)),
  .inl (0, 600, .inl (fun _ => 0)),
  .inl (0, 600, .inl (fun _ => 0)),
  .inl (0, 600, .inl (fun _ => 0)),
  .inl (0, 600, .inl (fun _ => 0)),
  .inl (0, 600, .inl (fun _ => 0)),
  .inl (0, 600, .inl (fun _ => 0)),
  .inl (0, 600, .inl (fun _ => 0)),
  .inl (0, 60, .inl (fun _ => 0)),
  .inl (0, 60, .inl (fun _ => 0)),
  .inl (0, 60, .inl (fun _ => 0)),
  .inl (0, 60, .inl (fun _ => 0)),
  .inl (0, 60, .inl (fun _ => 0)),
  .inl (0, 60, .inl (fun _ => 0)),
  .inl (0, 60, .inl (fun _ => 0)),
  .inl (0, 60, .inl (fun _ => 0)),
  .inl (0, 60, .inl (fun _ => 0)),
  .inl (0, 60, .inl (fun _ => 0)),
  .inl (0, 8, .inl (fun _ => 0)),
  .inl (0, 8, .inl (fun _ => 0)),
  .inl (0, 5, .inl (fun _ => 0)),
  .inl (0, 4, .inl (fun _ => 0)),
  .inl (0, 4, .inl (fun _ => 0)),
  .inl (0, 60000, .inl (fun _ => 0)),
  .inl (0, 60000, .inl (fun _ => 0)),
  .inl (0, 60000, .inl (fun _ => 0)),
  .inl (0, 60000, .inl (fun _ => 0)),
  .inl (0, 60000, .inl (fun _ => 0)),
  .inl (0, 120000, .inl (fun _ => 0)),
  .inl (0, 400000, .inl (fun _ => 0)),
  .inl (0, 400000, .inl (fun _ => 0)),
  .inl (0, 3000, .inl (fun _ => 0)),
  .inl (0, 3000, .inl (fun _ => 0)),
  .inl (0, 20000, .inl (fun _ => 0)),
  .inl (1, 3000, .inl (fun _ => 0)),
  .inl (0, 3000, .inl (fun _ => 0)),
  .inl (0, 3000, .inl (fun _ => 0)),
  .inl (0, 3000, .inl (fun _ => 0)),
  .inl (0, 400000, .inl (fun _ => 0)),
  .inl (0, 400000, .inl (fun _ => 0)),
  .inl (0, 400000, .inl (fun _ => 0)),
  .inl (0, 3000, .inl (fun _ => 0)),
  .inl (1, 3000, .inl (fun _ => 0)),
  .inl (0, 3000, .inl (fun _ => 0)),
  .inl (0, 20000, .inl (fun _ => 0)),
  .inl (0, 4001, .inl (fun _ => 0)),
  .inl (0, 5, .inl (fun _ => 0)),
  .inl (1, 3000, .inl (fun _ => 0))]
set_option maxRecDepth 100000 in
set_option maxHeartbeats 4000000 in
theorem p1_loadX0 (sL : Nat) (sx : Nat → Int32) : ∃ t', mx_run sL sx mx_pg 1000 2047 21 0 [(0, .ref 0), (1, .int 0)] [] (p1_D ++ p1_M) 0 0 = some (some (.int 0), p1_L 1 t', 0, 0) := ⟨_, rfl⟩
set_option maxRecDepth 100000 in
set_option maxHeartbeats 4000000 in
theorem p1_loadM0 (sL : Nat) (sx : Nat → Int32) (t : Nat → Int32) : ∃ hp', mx_ends sL sx mx_pg 2047 38 0 [(0, .ref 66), (1, .int 0)] [] (p1_L 1 t) 0 0 (some (.int 0), hp', 0, 0) := by
  apply Exists.intro
  show mx_ends sL sx mx_pg 2047 38 0 [(0, .ref 66), (1, .int 0)] [] [.inr (11, [.ref 1, .int 0, .int 1, .int (-1), .int (-1), .int (-1), .ref 2, .ref 7, .ref 18, .ref 38, .ref 55]), .inl (0, 240, .inl (fun _ => 0)), .inr (8, [.ref 3, .ref 4, .ref 5, .ref 6, .int 0, .int 0]), .inl (0, 240, .inl t), .inl (0, 240, .inl (fun _ => 0)), .inl (0, 240, .inl (fun _ => 0)), .inl (0, 240, .inl (fun _ => 0)), .inr (2, [.ref 2, .int 0]), .inr (9, [.ref 9, .ref 10, .int 2]), .inl (0, 256, .inl (fun _ => 0)), .inl (0, 256, .inl (fun _ => 0)), .inr (7, [.ref 8, .ref 12, .ref 13, .ref 14, .ref 15, .ref 16, .int 0, .ref 17, .int 0]), .inl (0, 1024, .inl (fun _ => 0)), .inl (0, 1024, .inl (fun _ => 0)), .inl (0, 1024, .inl (fun _ => 0)), .inl (0, 1024, .inl (fun _ => 0)), .inl (0, 1024, .inl (fun _ => 0)), .inl (0, 512, .inl (fun _ => 0)), .inr (1, [.ref 2, .ref 8, .ref 11, .ref 19, .ref 22, .ref 25, .ref 26, .ref 27, .ref 28, .int 0, .int 0, .int 0, .int 0, .int 0, .int 0]), .inr (4, [.ref 20, .ref 21, .int 0]), .inl (0, 8, .inl (fun _ => 0)), .inl (0, 8, .inl (fun _ => 0)), .inr (4, [.ref 23, .ref 24, .int 0]), .inl (0, 5, .inl (fun _ => 0)), .inl (0, 5, .inl (fun _ => 0)), .inl (0, 5, .inl (fun _ => 0)), .inl (0, 8, .inl (fun _ => 0)), .inl (0, 21, .inl (fun _ => 0)), .inl (0, 21, .inl (fun _ => 0)), .inr (3, [.ref 30, .ref 31, .ref 32, .int 0]), .inl (0, 1024, .inl (fun _ => 0)), .inl (0, 1024, .inl (fun _ => 0)), .inl (0, 1024, .inl (fun _ => 0)), .inr (0, [.ref 11, .ref 29, .ref 34, .ref 35, .ref 36, .ref 37, .int 0, .int 0, .int 0]), .inl (0, 32, .inl (fun _ => 0)), .inl (0, 32, .inl (fun _ => 0)), .inl (0, 128, .inl (fun _ => 0)), .inl (0, 128, .inl (fun _ => 0)), .inr (6, [.ref 11, .ref 29, .ref 33, .ref 39, .ref 46, .ref 53, .ref 54, .int 0, .int 0, .int 0, .int 0, .int 0, .int 0]), .inr (5, [.ref 40, .ref 41, .ref 42, .ref 43, .ref 44, .ref 45, .int 0]), .inl (0, 512, .inl (fun _ => 0)), .inl (0, 512, .inl (fun _ => 0)), .inl (0, 512, .inl (fun _ => 0)), .inl (0, 512, .inl (fun _ => 0)), .inl (0, 512, .inl (fun _ => 0)), .inl (0, 512, .inl (fun _ => 0)), .inr (5, [.ref 47, .ref 48, .ref 49, .ref 50, .ref 51, .ref 52, .int 0]), .inl (0, 512, .inl (fun _ => 0)), .inl (0, 512, .inl (fun _ => 0)), .inl (0, 512, .inl (fun _ => 0)), .inl (0, 512, .inl (fun _ => 0)), .inl (0, 512, .inl (fun _ => 0)), .inl (0, 512, .inl (fun _ => 0)), .inl (0, 32, .inl (fun _ => 0)), .inl (0, 4, .inl (fun _ => 0)), .inr (10, [.ref 18, .ref 8, .ref 11, .ref 29, .ref 33, .ref 56, .ref 63, .ref 64, .int 0, .ref 65, .int 0, .int (-1)]), .inr (5, [.ref 57, .ref 58, .ref 59, .ref 60, .ref 61, .ref 62, .int 0]), .inl (0, 512, .inl (fun _ => 0)), .inl (0, 512, .inl (fun _ => 0)), .inl (0, 512, .inl (fun _ => 0)), .inl (0, 512, .inl (fun _ => 0)), .inl (0, 512, .inl (fun _ => 0)), .inl (0, 512, .inl (fun _ => 0)), .inl (0, 32, .inl (fun _ => 0)), .inl (0, 128, .inl (fun _ => 0)), .inl (0, 4000, .inl (fun _ => 0)), .inr (12, [.ref 67, .int 0, .ref 68, .int 0, .ref 69, .ref 70, .ref 71, .int 0, .int 0, .int 0, .ref 72, .ref 73, .int 0, .ref 74, .ref 75, .ref 76, .ref 77, .ref 78, .ref 79, .ref 80, .ref 81, .ref 82, .ref 83, .ref 84, .int 0, .ref 85, .ref 86, .ref 87, .ref 88, .ref 89, .ref 90, .ref 91, .ref 92, .int 0, .int 0, .ref 93, .ref 94, .int 0, .int (-1), .int (-1), .int 0, .int 0, .int 0, .ref 95, .ref 96, .int 0, .ref 97, .int 0, .ref 98, .ref 99, .int 0, .ref 100, .ref 101, .ref 102, .ref 103, .ref 104, .int 0, .ref 105, .int 0, .ref 106, .ref 107, .int 0, .ref 108, .ref 109, .int 0, .ref 110, .ref 111, .ref 112, .ref 113, .ref 114, .int 0, .int 0, .ref 115, .ref 116, .ref 117, .int 0, .int 0, .int 0, .int 0, .int 0, .ref 118, .ref 119, .ref 120, .int 0, .ref 121, .ref 122, .int 0, .ref 123, .ref 124, .int 0]), .inl (0, 240, .inl (fun _ => 0)), .inl (0, 240, .inl (fun _ => 0)), .inl (0, 242, .inl (fun _ => 0)), .inl (0, 242, .inl (fun _ => 0)), .inl (0, 242, .inl (fun _ => 0)), .inl (0, 6000, .inl (fun _ => 0)), .inl (0, 6000, .inl (fun _ => 0)), .inl (0, 600, .inl (fun _ => 0)), .inl (0, 600, .inl (fun _ => 0)), .inl (0, 600, .inl (fun _ => 0)), .inl (0, 600, .inl (fun _ => 0)), .inl (0, 600, .inl (fun _ => 0)), .inl (0, 600, .inl (fun _ => 0)), .inl (0, 600, .inl (fun _ => 0)), .inl (0, 600, .inl (fun _ => 0)), .inl (0, 600, .inl (fun _ => 0)), .inl (0, 600, .inl (fun _ => 0)), .inl (0, 600, .inl (fun _ => 0)), .inl (0, 60, .inl (fun _ => 0)), .inl (0, 60, .inl (fun _ => 0)), .inl (0, 60, .inl (fun _ => 0)), .inl (0, 60, .inl (fun _ => 0)), .inl (0, 60, .inl (fun _ => 0)), .inl (0, 60, .inl (fun _ => 0)), .inl (0, 60, .inl (fun _ => 0)), .inl (0, 60, .inl (fun _ => 0)), .inl (0, 60, .inl (fun _ => 0)), .inl (0, 60, .inl (fun _ => 0)), .inl (0, 8, .inl (fun _ => 0)), .inl (0, 8, .inl (fun _ => 0)), .inl (0, 5, .inl (fun _ => 0)), .inl (0, 4, .inl (fun _ => 0)), .inl (0, 4, .inl (fun _ => 0)), .inl (0, 60000, .inl (fun _ => 0)), .inl (0, 60000, .inl (fun _ => 0)), .inl (0, 60000, .inl (fun _ => 0)), .inl (0, 60000, .inl (fun _ => 0)), .inl (0, 60000, .inl (fun _ => 0)), .inl (0, 120000, .inl (fun _ => 0)), .inl (0, 400000, .inl (fun _ => 0)), .inl (0, 400000, .inl (fun _ => 0)), .inl (0, 3000, .inl (fun _ => 0)), .inl (0, 3000, .inl (fun _ => 0)), .inl (0, 20000, .inl (fun _ => 0)), .inl (1, 3000, .inl (fun _ => 0)), .inl (0, 3000, .inl (fun _ => 0)), .inl (0, 3000, .inl (fun _ => 0)), .inl (0, 3000, .inl (fun _ => 0)), .inl (0, 400000, .inl (fun _ => 0)), .inl (0, 400000, .inl (fun _ => 0)), .inl (0, 400000, .inl (fun _ => 0)), .inl (0, 3000, .inl (fun _ => 0)), .inl (1, 3000, .inl (fun _ => 0)), .inl (0, 3000, .inl (fun _ => 0)), .inl (0, 20000, .inl (fun _ => 0)), .inl (0, 4001, .inl (fun _ => 0)), .inl (0, 5, .inl (fun _ => 0)), .inl (1, 3000, .inl (fun _ => 0))] 0 0 _
  refine mx_ends_go (rfl : mx_pg[38]? = some eX12_load) 20 (0, [(0, .ref 66), (1, .int 0)], [], [.inr (11, [.ref 1, .int 0, .int 1, .int (-1), .int (-1), .int (-1), .ref 2, .ref 7, .ref 18, .ref 38, .ref 55]), .inl (0, 240, .inl (fun _ => 0)), .inr (8, [.ref 3, .ref 4, .ref 5, .ref 6, .int 0, .int 0]), .inl (0, 240, .inl t), .inl (0, 240, .inl (fun _ => 0)), .inl (0, 240, .inl (fun _ => 0)), .inl (0, 240, .inl (fun _ => 0)), .inr (2, [.ref 2, .int 0]), .inr (9, [.ref 9, .ref 10, .int 2]), .inl (0, 256, .inl (fun _ => 0)), .inl (0, 256, .inl (fun _ => 0)), .inr (7, [.ref 8, .ref 12, .ref 13, .ref 14, .ref 15, .ref 16, .int 0, .ref 17, .int 0]), .inl (0, 1024, .inl (fun _ => 0)), .inl (0, 1024, .inl (fun _ => 0)), .inl (0, 1024, .inl (fun _ => 0)), .inl (0, 1024, .inl (fun _ => 0)), .inl (0, 1024, .inl (fun _ => 0)), .inl (0, 512, .inl (fun _ => 0)), .inr (1, [.ref 2, .ref 8, .ref 11, .ref 19, .ref 22, .ref 25, .ref 26, .ref 27, .ref 28, .int 0, .int 0, .int 0, .int 0, .int 0, .int 0]), .inr (4, [.ref 20, .ref 21, .int 0]), .inl (0, 8, .inl (fun _ => 0)), .inl (0, 8, .inl (fun _ => 0)), .inr (4, [.ref 23, .ref 24, .int 0]), .inl (0, 5, .inl (fun _ => 0)), .inl (0, 5, .inl (fun _ => 0)), .inl (0, 5, .inl (fun _ => 0)), .inl (0, 8, .inl (fun _ => 0)), .inl (0, 21, .inl (fun _ => 0)), .inl (0, 21, .inl (fun _ => 0)), .inr (3, [.ref 30, .ref 31, .ref 32, .int 0]), .inl (0, 1024, .inl (fun _ => 0)), .inl (0, 1024, .inl (fun _ => 0)), .inl (0, 1024, .inl (fun _ => 0)), .inr (0, [.ref 11, .ref 29, .ref 34, .ref 35, .ref 36, .ref 37, .int 0, .int 0, .int 0]), .inl (0, 32, .inl (fun _ => 0)), .inl (0, 32, .inl (fun _ => 0)), .inl (0, 128, .inl (fun _ => 0)), .inl (0, 128, .inl (fun _ => 0)), .inr (6, [.ref 11, .ref 29, .ref 33, .ref 39, .ref 46, .ref 53, .ref 54, .int 0, .int 0, .int 0, .int 0, .int 0, .int 0]), .inr (5, [.ref 40, .ref 41, .ref 42, .ref 43, .ref 44, .ref 45, .int 0]), .inl (0, 512, .inl (fun _ => 0)), .inl (0, 512, .inl (fun _ => 0)), .inl (0, 512, .inl (fun _ => 0)), .inl (0, 512, .inl (fun _ => 0)), .inl (0, 512, .inl (fun _ => 0)), .inl (0, 512, .inl (fun _ => 0)), .inr (5, [.ref 47, .ref 48, .ref 49, .ref 50, .ref 51, .ref 52, .int 0]), .inl (0, 512, .inl (fun _ => 0)), .inl (0, 512, .inl (fun _ => 0)), .inl (0, 512, .inl (fun _ => 0)), .inl (0, 512, .inl (fun _ => 0)), .inl (0, 512, .inl (fun _ => 0)), .inl (0, 512, .inl (fun _ => 0)), .inl (0, 32, .inl (fun _ => 0)), .inl (0, 4, .inl (fun _ => 0)), .inr (10, [.ref 18, .ref 8, .ref 11, .ref 29, .ref 33, .ref 56, .ref 63, .ref 64, .int 0, .ref 65, .int 0, .int (-1)]), .inr (5, [.ref 57, .ref 58, .ref 59, .ref 60, .ref 61, .ref 62, .int 0]), .inl (0, 512, .inl (fun _ => 0)), .inl (0, 512, .inl (fun _ => 0)), .inl (0, 512, .inl (fun _ => 0)), .inl (0, 512, .inl (fun _ => 0)), .inl (0, 512, .inl (fun _ => 0)), .inl (0, 512, .inl (fun _ => 0)), .inl (0, 32, .inl (fun _ => 0)), .inl (0, 128, .inl (fun _ => 0)), .inl (0, 4000, .inl (fun _ => 0)), .inr (12, [.ref 67, .int 0, .ref 68, .int 0, .ref 69, .ref 70, .ref 71, .int 0, .int 0, .int 0, .ref 72, .ref 73, .int 0, .ref 74, .ref 75, .ref 76, .ref 77, .ref 78, .ref 79, .ref 80, .ref 81, .ref 82, .ref 83, .ref 84, .int 0, .ref 85, .ref 86, .ref 87, .ref 88, .ref 89, .ref 90, .ref 91, .ref 92, .int 0, .int 0, .ref 93, .ref 94, .int 0, .int (-1), .int (-1), .int 0, .int 0, .int 0, .ref 95, .ref 96, .int 0, .ref 97, .int 0, .ref 98, .ref 99, .int 0, .ref 100, .ref 101, .ref 102, .ref 103, .ref 104, .int 0, .ref 105, .int 0, .ref 106, .ref 107, .int 0, .ref 108, .ref 109, .int 0, .ref 110, .ref 111, .ref 112, .ref 113, .ref 114, .int 0, .int 0, .ref 115, .ref 116, .ref 117, .int 0, .int 0, .int 0, .int 0, .int 0, .ref 118, .ref 119, .ref 120, .int 0, .ref 121, .ref 122, .int 0, .ref 123, .ref 124, .int 0]), .inl (0, 240, .inl (fun _ => 0)), .inl (0, 240, .inl (fun _ => 0)), .inl (0, 242, .inl (fun _ => 0)), .inl (0, 242, .inl (fun _ => 0)), .inl (0, 242, .inl (fun _ => 0)), .inl (0, 6000, .inl (fun _ => 0)), .inl (0, 6000, .inl (fun _ => 0)), .inl (0, 600, .inl (fun _ => 0)), .inl (0, 600, .inl (fun _ => 0)), .inl (0, 600, .inl (fun _ => 0)), .inl (0, 600, .inl (fun _ => 0)), .inl (0, 600, .inl (fun _ => 0)), .inl (0, 600, .inl (fun _ => 0)), .inl (0, 600, .inl (fun _ => 0)), .inl (0, 600, .inl (fun _ => 0)), .inl (0, 600, .inl (fun _ => 0)), .inl (0, 600, .inl (fun _ => 0)), .inl (0, 600, .inl (fun _ => 0)), .inl (0, 60, .inl (fun _ => 0)), .inl (0, 60, .inl (fun _ => 0)), .inl (0, 60, .inl (fun _ => 0)), .inl (0, 60, .inl (fun _ => 0)), .inl (0, 60, .inl (fun _ => 0)), .inl (0, 60, .inl (fun _ => 0)), .inl (0, 60, .inl (fun _ => 0)), .inl (0, 60, .inl (fun _ => 0)), .inl (0, 60, .inl (fun _ => 0)), .inl (0, 60, .inl (fun _ => 0)), .inl (0, 8, .inl (fun _ => 0)), .inl (0, 8, .inl (fun _ => 0)), .inl (0, 5, .inl (fun _ => 0)), .inl (0, 4, .inl (fun _ => 0)), .inl (0, 4, .inl (fun _ => 0)), .inl (0, 60000, .inl (fun _ => 0)), .inl (0, 60000, .inl (fun _ => 0)), .inl (0, 60000, .inl (fun _ => 0)), .inl (0, 60000, .inl (fun _ => 0)), .inl (0, 60000, .inl (fun _ => 0)), .inl (0, 120000, .inl (fun _ => 0)), .inl (0, 400000, .inl (fun _ => 0)), .inl (0, 400000, .inl (fun _ => 0)), .inl (0, 3000, .inl (fun _ => 0)), .inl (0, 3000, .inl (fun _ => 0)), .inl (0, 20000, .inl (fun _ => 0)), .inl (1, 3000, .inl (fun _ => 0)), .inl (0, 3000, .inl (fun _ => 0)), .inl (0, 3000, .inl (fun _ => 0)), .inl (0, 3000, .inl (fun _ => 0)), .inl (0, 400000, .inl (fun _ => 0)), .inl (0, 400000, .inl (fun _ => 0)), .inl (0, 400000, .inl (fun _ => 0)), .inl (0, 3000, .inl (fun _ => 0)), .inl (1, 3000, .inl (fun _ => 0)), .inl (0, 3000, .inl (fun _ => 0)), .inl (0, 20000, .inl (fun _ => 0)), .inl (0, 4001, .inl (fun _ => 0)), .inl (0, 5, .inl (fun _ => 0)), .inl (1, 3000, .inl (fun _ => 0))], 0, 0) (54, [(2, .int 0), (0, .ref 66), (1, .int 0)], [], [.inr (11, [.ref 1, .int 0, .int 1, .int (-1), .int (-1), .int (-1), .ref 2, .ref 7, .ref 18, .ref 38, .ref 55]), .inl (0, 240, .inl (fun _ => 0)), .inr (8, [.ref 3, .ref 4, .ref 5, .ref 6, .int 0, .int 0]), .inl (0, 240, .inl t), .inl (0, 240, .inl (fun _ => 0)), .inl (0, 240, .inl (fun _ => 0)), .inl (0, 240, .inl (fun _ => 0)), .inr (2, [.ref 2, .int 0]), .inr (9, [.ref 9, .ref 10, .int 2]), .inl (0, 256, .inl (fun _ => 0)), .inl (0, 256, .inl (fun _ => 0)), .inr (7, [.ref 8, .ref 12, .ref 13, .ref 14, .ref 15, .ref 16, .int 0, .ref 17, .int 0]), .inl (0, 1024, .inl (fun _ => 0)), .inl (0, 1024, .inl (fun _ => 0)), .inl (0, 1024, .inl (fun _ => 0)), .inl (0, 1024, .inl (fun _ => 0)), .inl (0, 1024, .inl (fun _ => 0)), .inl (0, 512, .inl (fun _ => 0)), .inr (1, [.ref 2, .ref 8, .ref 11, .ref 19, .ref 22, .ref 25, .ref 26, .ref 27, .ref 28, .int 0, .int 0, .int 0, .int 0, .int 0, .int 0]), .inr (4, [.ref 20, .ref 21, .int 0]), .inl (0, 8, .inl (fun _ => 0)), .inl (0, 8, .inl (fun _ => 0)), .inr (4, [.ref 23, .ref 24, .int 0]), .inl (0, 5, .inl (fun _ => 0)), .inl (0, 5, .inl (fun _ => 0)), .inl (0, 5, .inl (fun _ => 0)), .inl (0, 8, .inl (fun _ => 0)), .inl (0, 21, .inl (fun _ => 0)), .inl (0, 21, .inl (fun _ => 0)), .inr (3, [.ref 30, .ref 31, .ref 32, .int 0]), .inl (0, 1024, .inl (fun _ => 0)), .inl (0, 1024, .inl (fun _ => 0)), .inl (0, 1024, .inl (fun _ => 0)), .inr (0, [.ref 11, .ref 29, .ref 34, .ref 35, .ref 36, .ref 37, .int 0, .int 0, .int 0]), .inl (0, 32, .inl (fun _ => 0)), .inl (0, 32, .inl (fun _ => 0)), .inl (0, 128, .inl (fun _ => 0)), .inl (0, 128, .inl (fun _ => 0)), .inr (6, [.ref 11, .ref 29, .ref 33, .ref 39, .ref 46, .ref 53, .ref 54, .int 0, .int 0, .int 0, .int 0, .int 0, .int 0]), .inr (5, [.ref 40, .ref 41, .ref 42, .ref 43, .ref 44, .ref 45, .int 0]), .inl (0, 512, .inl (fun _ => 0)), .inl (0, 512, .inl (fun _ => 0)), .inl (0, 512, .inl (fun _ => 0)), .inl (0, 512, .inl (fun _ => 0)), .inl (0, 512, .inl (fun _ => 0)), .inl (0, 512, .inl (fun _ => 0)), .inr (5, [.ref 47, .ref 48, .ref 49, .ref 50, .ref 51, .ref 52, .int 0]), .inl (0, 512, .inl (fun _ => 0)), .inl (0, 512, .inl (fun _ => 0)), .inl (0, 512, .inl (fun _ => 0)), .inl (0, 512, .inl (fun _ => 0)), .inl (0, 512, .inl (fun _ => 0)), .inl (0, 512, .inl (fun _ => 0)), .inl (0, 32, .inl (fun _ => 0)), .inl (0, 4, .inl (fun _ => 0)), .inr (10, [.ref 18, .ref 8, .ref 11, .ref 29, .ref 33, .ref 56, .ref 63, .ref 64, .int 0, .ref 65, .int 0, .int (-1)]), .inr (5, [.ref 57, .ref 58, .ref 59, .ref 60, .ref 61, .ref 62, .int 0]), .inl (0, 512, .inl (fun _ => 0)), .inl (0, 512, .inl (fun _ => 0)), .inl (0, 512, .inl (fun _ => 0)), .inl (0, 512, .inl (fun _ => 0)), .inl (0, 512, .inl (fun _ => 0)), .inl (0, 512, .inl (fun _ => 0)), .inl (0, 32, .inl (fun _ => 0)), .inl (0, 128, .inl (fun _ => 0)), .inl (0, 4000, .inl (fun _ => 0)), .inr (12, [.ref 67, .int 0, .ref 68, .int 0, .ref 69, .ref 70, .ref 71, .int 0, .int 0, .int 2, .ref 72, .ref 73, .int 0, .ref 74, .ref 75, .ref 76, .ref 77, .ref 78, .ref 79, .ref 80, .ref 81, .ref 82, .ref 83, .ref 84, .int 0, .ref 85, .ref 86, .ref 87, .ref 88, .ref 89, .ref 90, .ref 91, .ref 92, .int 0, .int 0, .ref 93, .ref 94, .int 0, .int (-1), .int (-1), .int 0, .int 0, .int 0, .ref 95, .ref 96, .int 0, .ref 97, .int 0, .ref 98, .ref 99, .int 0, .ref 100, .ref 101, .ref 102, .ref 103, .ref 104, .int 0, .ref 105, .int 0, .ref 106, .ref 107, .int 0, .ref 108, .ref 109, .int 0, .ref 110, .ref 111, .ref 112, .ref 113, .ref 114, .int 0, .int 0, .ref 115, .ref 116, .ref 117, .int 0, .int 0, .int 0, .int 0, .int 0, .ref 118, .ref 119, .ref 120, .int 0, .ref 121, .ref 122, .int 0, .ref 123, .ref 124, .int 0]), .inl (0, 240, .inl (fun _ => 0)), .inl (0, 240, .inl (fun _ => 0)), .inl (0, 242, .inl (fun _ => 0)), .inl (0, 242, .inl (fun _ => 0)), .inl (0, 242, .inl (fun _ => 0)), .inl (0, 6000, .inl (fun _ => 0)), .inl (0, 6000, .inl (fun _ => 0)), .inl (0, 600, .inl (fun _ => 0)), .inl (0, 600, .inl (fun _ => 0)), .inl (0, 600, .inl (fun _ => 0)), .inl (0, 600, .inl (fun _ => 0)), .inl (0, 600, .inl (fun _ => 0)), .inl (0, 600, .inl (fun _ => 0)), .inl (0, 600, .inl (fun _ => 0)), .inl (0, 600, .inl (fun _ => 0)), .inl (0, 600, .inl (fun _ => 0)), .inl (0, 600, .inl (fun _ => 0)), .inl (0, 600, .inl (fun _ => 0)), .inl (0, 60, .inl (fun _ => 0)), .inl (0, 60, .inl (fun _ => 0)), .inl (0, 60, .inl (fun _ => 0)), .inl (0, 60, .inl (fun _ => 0)), .inl (0, 60, .inl (fun _ => 0)), .inl (0, 60, .inl (fun _ => 0)), .inl (0, 60, .inl (fun _ => 0)), .inl (0, 60, .inl (fun _ => 0)), .inl (0, 60, .inl (fun _ => 0)), .inl (0, 60, .inl (fun _ => 0)), .inl (0, 8, .inl (fun _ => 0)), .inl (0, 8, .inl (fun _ => 0)), .inl (0, 5, .inl (fun _ => 0)), .inl (0, 4, .inl (fun _ => 0)), .inl (0, 4, .inl (fun _ => 0)), .inl (0, 60000, .inl (fun _ => 0)), .inl (0, 60000, .inl (fun _ => 0)), .inl (0, 60000, .inl (fun _ => 0)), .inl (0, 60000, .inl (fun _ => 0)), .inl (0, 60000, .inl (fun _ => 0)), .inl (0, 120000, .inl (fun _ => 0)), .inl (0, 400000, .inl (fun _ => 0)), .inl (0, 400000, .inl (fun _ => 0)), .inl (0, 3000, .inl (fun _ => 0)), .inl (0, 3000, .inl (fun _ => 0)), .inl (0, 20000, .inl (fun _ => 0)), .inl (1, 3000, .inl (fun _ => 0)), .inl (0, 3000, .inl (fun _ => 0)), .inl (0, 3000, .inl (fun _ => 0)), .inl (0, 3000, .inl (fun _ => 0)), .inl (0, 400000, .inl (fun _ => 0)), .inl (0, 400000, .inl (fun _ => 0)), .inl (0, 400000, .inl (fun _ => 0)), .inl (0, 3000, .inl (fun _ => 0)), .inl (1, 3000, .inl (fun _ => 0)), .inl (0, 3000, .inl (fun _ => 0)), .inl (0, 20000, .inl (fun _ => 0)), .inl (0, 4001, .inl (fun _ => 0)), .inl (0, 5, .inl (fun _ => 0)), .inl (1, 3000, .inl (fun _ => 0))], 0, 0) rfl ?_
  refine mx_ends_go (rfl : mx_pg[38]? = some eX12_load) 20 (54, [(2, .int 0), (0, .ref 66), (1, .int 0)], [], [.inr (11, [.ref 1, .int 0, .int 1, .int (-1), .int (-1), .int (-1), .ref 2, .ref 7, .ref 18, .ref 38, .ref 55]), .inl (0, 240, .inl (fun _ => 0)), .inr (8, [.ref 3, .ref 4, .ref 5, .ref 6, .int 0, .int 0]), .inl (0, 240, .inl t), .inl (0, 240, .inl (fun _ => 0)), .inl (0, 240, .inl (fun _ => 0)), .inl (0, 240, .inl (fun _ => 0)), .inr (2, [.ref 2, .int 0]), .inr (9, [.ref 9, .ref 10, .int 2]), .inl (0, 256, .inl (fun _ => 0)), .inl (0, 256, .inl (fun _ => 0)), .inr (7, [.ref 8, .ref 12, .ref 13, .ref 14, .ref 15, .ref 16, .int 0, .ref 17, .int 0]), .inl (0, 1024, .inl (fun _ => 0)), .inl (0, 1024, .inl (fun _ => 0)), .inl (0, 1024, .inl (fun _ => 0)), .inl (0, 1024, .inl (fun _ => 0)), .inl (0, 1024, .inl (fun _ => 0)), .inl (0, 512, .inl (fun _ => 0)), .inr (1, [.ref 2, .ref 8, .ref 11, .ref 19, .ref 22, .ref 25, .ref 26, .ref 27, .ref 28, .int 0, .int 0, .int 0, .int 0, .int 0, .int 0]), .inr (4, [.ref 20, .ref 21, .int 0]), .inl (0, 8, .inl (fun _ => 0)), .inl (0, 8, .inl (fun _ => 0)), .inr (4, [.ref 23, .ref 24, .int 0]), .inl (0, 5, .inl (fun _ => 0)), .inl (0, 5, .inl (fun _ => 0)), .inl (0, 5, .inl (fun _ => 0)), .inl (0, 8, .inl (fun _ => 0)), .inl (0, 21, .inl (fun _ => 0)), .inl (0, 21, .inl (fun _ => 0)), .inr (3, [.ref 30, .ref 31, .ref 32, .int 0]), .inl (0, 1024, .inl (fun _ => 0)), .inl (0, 1024, .inl (fun _ => 0)), .inl (0, 1024, .inl (fun _ => 0)), .inr (0, [.ref 11, .ref 29, .ref 34, .ref 35, .ref 36, .ref 37, .int 0, .int 0, .int 0]), .inl (0, 32, .inl (fun _ => 0)), .inl (0, 32, .inl (fun _ => 0)), .inl (0, 128, .inl (fun _ => 0)), .inl (0, 128, .inl (fun _ => 0)), .inr (6, [.ref 11, .ref 29, .ref 33, .ref 39, .ref 46, .ref 53, .ref 54, .int 0, .int 0, .int 0, .int 0, .int 0, .int 0]), .inr (5, [.ref 40, .ref 41, .ref 42, .ref 43, .ref 44, .ref 45, .int 0]), .inl (0, 512, .inl (fun _ => 0)), .inl (0, 512, .inl (fun _ => 0)), .inl (0, 512, .inl (fun _ => 0)), .inl (0, 512, .inl (fun _ => 0)), .inl (0, 512, .inl (fun _ => 0)), .inl (0, 512, .inl (fun _ => 0)), .inr (5, [.ref 47, .ref 48, .ref 49, .ref 50, .ref 51, .ref 52, .int 0]), .inl (0, 512, .inl (fun _ => 0)), .inl (0, 512, .inl (fun _ => 0)), .inl (0, 512, .inl (fun _ => 0)), .inl (0, 512, .inl (fun _ => 0)), .inl (0, 512, .inl (fun _ => 0)), .inl (0, 512, .inl (fun _ => 0)), .inl (0, 32, .inl (fun _ => 0)), .inl (0, 4, .inl (fun _ => 0)), .inr (10, [.ref 18, .ref 8, .ref 11, .ref 29, .ref 33, .ref 56, .ref 63, .ref 64, .int 0, .ref 65, .int 0, .int (-1)]), .inr (5, [.ref 57, .ref 58, .ref 59, .ref 60, .ref 61, .ref 62, .int 0]), .inl (0, 512, .inl (fun _ => 0)), .inl (0, 512, .inl (fun _ => 0)), .inl (0, 512, .inl (fun _ => 0)), .inl (0, 512, .inl (fun _ => 0)), .inl (0, 512, .inl (fun _ => 0)), .inl (0, 512, .inl (fun _ => 0)), .inl (0, 32, .inl (fun _ => 0)), .inl (0, 128, .inl (fun _ => 0)), .inl (0, 4000, .inl (fun _ => 0)), .inr (12, [.ref 67, .int 0, .ref 68, .int 0, .ref 69, .ref 70, .ref 71, .int 0, .int 0, .int 2, .ref 72, .ref 73, .int 0, .ref 74, .ref 75, .ref 76, .ref 77, .ref 78, .ref 79, .ref 80, .ref 81, .ref 82, .ref 83, .ref 84, .int 0, .ref 85, .ref 86, .ref 87, .ref 88, .ref 89, .ref 90, .ref 91, .ref 92, .int 0, .int 0, .ref 93, .ref 94, .int 0, .int (-1), .int (-1), .int 0, .int 0, .int 0, .ref 95, .ref 96, .int 0, .ref 97, .int 0, .ref 98, .ref 99, .int 0, .ref 100, .ref 101, .ref 102, .ref 103, .ref 104, .int 0, .ref 105, .int 0, .ref 106, .ref 107, .int 0, .ref 108, .ref 109, .int 0, .ref 110, .ref 111, .ref 112, .ref 113, .ref 114, .int 0, .int 0, .ref 115, .ref 116, .ref 117, .int 0, .int 0, .int 0, .int 0, .int 0, .ref 118, .ref 119, .ref 120, .int 0, .ref 121, .ref 122, .int 0, .ref 123, .ref 124, .int 0]), .inl (0, 240, .inl (fun _ => 0)), .inl (0, 240, .inl (fun _ => 0)), .inl (0, 242, .inl (fun _ => 0)), .inl (0, 242, .inl (fun _ => 0)), .inl (0, 242, .inl (fun _ => 0)), .inl (0, 6000, .inl (fun _ => 0)), .inl (0, 6000, .inl (fun _ => 0)), .inl (0, 600, .inl (fun _ => 0)), .inl (0, 600, .inl (fun _ => 0)), .inl (0, 600, .inl (fun _ => 0)), .inl (0, 600, .inl (fun _ => 0)), .inl (0, 600, .inl (fun _ => 0)), .inl (0, 600, .inl (fun _ => 0)), .inl (0, 600, .inl (fun _ => 0)), .inl (0, 600, .inl (fun _ => 0)), .inl (0, 600, .inl (fun _ => 0)), .inl (0, 600, .inl (fun _ => 0)), .inl (0, 600, .inl (fun _ => 0)), .inl (0, 60, .inl (fun _ => 0)), .inl (0, 60, .inl (fun _ => 0)), .inl (0, 60, .inl (fun _ => 0)), .inl (0, 60, .inl (fun _ => 0)), .inl (0, 60, .inl (fun _ => 0)), .inl (0, 60, .inl (fun _ => 0)), .inl (0, 60, .inl (fun _ => 0)), .inl (0, 60, .inl (fun _ => 0)), .inl (0, 60, .inl (fun _ => 0)), .inl (0, 60, .inl (fun _ => 0)), .inl (0, 8, .inl (fun _ => 0)), .inl (0, 8, .inl (fun _ => 0)), .inl (0, 5, .inl (fun _ => 0)), .inl (0, 4, .inl (fun _ => 0)), .inl (0, 4, .inl (fun _ => 0)), .inl (0, 60000, .inl (fun _ => 0)), .inl (0, 60000, .inl (fun _ => 0)), .inl (0, 60000, .inl (fun _ => 0)), .inl (0, 60000, .inl (fun _ => 0)), .inl (0, 60000, .inl (fun _ => 0)), .inl (0, 120000, .inl (fun _ => 0)), .inl (0, 400000, .inl (fun _ => 0)), .inl (0, 400000, .inl (fun _ => 0)), .inl (0, 3000, .inl (fun _ => 0)), .inl (0, 3000, .inl (fun _ => 0)), .inl (0, 20000, .inl (fun _ => 0)), .inl (1, 3000, .inl (fun _ => 0)), .inl (0, 3000, .inl (fun _ => 0)), .inl (0, 3000, .inl (fun _ => 0)), .inl (0, 3000, .inl (fun _ => 0)), .inl (0, 400000, .inl (fun _ => 0)), .inl (0, 400000, .inl (fun _ => 0)), .inl (0, 400000, .inl (fun _ => 0)), .inl (0, 3000, .inl (fun _ => 0)), .inl (1, 3000, .inl (fun _ => 0)), .inl (0, 3000, .inl (fun _ => 0)), .inl (0, 20000, .inl (fun _ => 0)), .inl (0, 4001, .inl (fun _ => 0)), .inl (0, 5, .inl (fun _ => 0)), .inl (1, 3000, .inl (fun _ => 0))], 0, 0) (86, [(2, .int 0), (0, .ref 66), (1, .int 0)], [.int 0, .ref 66], [.inr (11, [.ref 1, .int 0, .int 1, .int (-1), .int (-1), .int (-1), .ref 2, .ref 7, .ref 18, .ref 38, .ref 55]), .inl (0, 240, .inl (fun _ => 0)), .inr (8, [.ref 3, .ref 4, .ref 5, .ref 6, .int 0, .int 0]), .inl (0, 240, .inl t), .inl (0, 240, .inl (fun _ => 0)), .inl (0, 240, .inl (fun _ => 0)), .inl (0, 240, .inl (fun _ => 0)), .inr (2, [.ref 2, .int 0]), .inr (9, [.ref 9, .ref 10, .int 2]), .inl (0, 256, .inl (fun _ => 0)), .inl (0, 256, .inl (fun _ => 0)), .inr (7, [.ref 8, .ref 12, .ref 13, .ref 14, .ref 15, .ref 16, .int 0, .ref 17, .int 0]), .inl (0, 1024, .inl (fun _ => 0)), .inl (0, 1024, .inl (fun _ => 0)), .inl (0, 1024, .inl (fun _ => 0)), .inl (0, 1024, .inl (fun _ => 0)), .inl (0, 1024, .inl (fun _ => 0)), .inl (0, 512, .inl (fun _ => 0)), .inr (1, [.ref 2, .ref 8, .ref 11, .ref 19, .ref 22, .ref 25, .ref 26, .ref 27, .ref 28, .int 0, .int 0, .int 0, .int 0, .int 0, .int 0]), .inr (4, [.ref 20, .ref 21, .int 0]), .inl (0, 8, .inl (fun _ => 0)), .inl (0, 8, .inl (fun _ => 0)), .inr (4, [.ref 23, .ref 24, .int 0]), .inl (0, 5, .inl (fun _ => 0)), .inl (0, 5, .inl (fun _ => 0)), .inl (0, 5, .inl (fun _ => 0)), .inl (0, 8, .inl (fun _ => 0)), .inl (0, 21, .inl (fun _ => 0)), .inl (0, 21, .inl (fun _ => 0)), .inr (3, [.ref 30, .ref 31, .ref 32, .int 0]), .inl (0, 1024, .inl (fun _ => 0)), .inl (0, 1024, .inl (fun _ => 0)), .inl (0, 1024, .inl (fun _ => 0)), .inr (0, [.ref 11, .ref 29, .ref 34, .ref 35, .ref 36, .ref 37, .int 0, .int 0, .int 0]), .inl (0, 32, .inl (fun _ => 0)), .inl (0, 32, .inl (fun _ => 0)), .inl (0, 128, .inl (fun _ => 0)), .inl (0, 128, .inl (fun _ => 0)), .inr (6, [.ref 11, .ref 29, .ref 33, .ref 39, .ref 46, .ref 53, .ref 54, .int 0, .int 0, .int 0, .int 0, .int 0, .int 0]), .inr (5, [.ref 40, .ref 41, .ref 42, .ref 43, .ref 44, .ref 45, .int 0]), .inl (0, 512, .inl (fun _ => 0)), .inl (0, 512, .inl (fun _ => 0)), .inl (0, 512, .inl (fun _ => 0)), .inl (0, 512, .inl (fun _ => 0)), .inl (0, 512, .inl (fun _ => 0)), .inl (0, 512, .inl (fun _ => 0)), .inr (5, [.ref 47, .ref 48, .ref 49, .ref 50, .ref 51, .ref 52, .int 0]), .inl (0, 512, .inl (fun _ => 0)), .inl (0, 512, .inl (fun _ => 0)), .inl (0, 512, .inl (fun _ => 0)), .inl (0, 512, .inl (fun _ => 0)), .inl (0, 512, .inl (fun _ => 0)), .inl (0, 512, .inl (fun _ => 0)), .inl (0, 32, .inl (fun _ => 0)), .inl (0, 4, .inl (fun _ => 0)), .inr (10, [.ref 18, .ref 8, .ref 11, .ref 29, .ref 33, .ref 56, .ref 63, .ref 64, .int 0, .ref 65, .int 0, .int (-1)]), .inr (5, [.ref 57, .ref 58, .ref 59, .ref 60, .ref 61, .ref 62, .int 0]), .inl (0, 512, .inl (fun _ => 0)), .inl (0, 512, .inl (fun _ => 0)), .inl (0, 512, .inl (fun _ => 0)), .inl (0, 512, .inl (fun _ => 0)), .inl (0, 512, .inl (fun _ => 0)), .inl (0, 512, .inl (fun _ => 0)), .inl (0, 32, .inl (fun _ => 0)), .inl (0, 128, .inl (fun _ => 0)), .inl (0, 4000, .inl (fun _ => 0)), .inr (12, [.ref 67, .int 0, .ref 68, .int 0, .ref 69, .ref 70, .ref 71, .int 0, .int 0, .int 2, .ref 72, .ref 73, .int 0, .ref 74, .ref 75, .ref 76, .ref 77, .ref 78, .ref 79, .ref 80, .ref 81, .ref 82, .ref 83, .ref 84, .int 0, .ref 85, .ref 86, .ref 87, .ref 88, .ref 89, .ref 90, .ref 91, .ref 92, .int 0, .int 0, .ref 93, .ref 94, .int 0, .int (-1), .int (-1), .int 0, .int 0, .int 0, .ref 95, .ref 96, .int 0, .ref 97, .int 0, .ref 98, .ref 99, .int 0, .ref 100, .ref 101, .ref 102, .ref 103, .ref 104, .int 0, .ref 105, .int 0, .ref 106, .ref 107, .int 0, .ref 108, .ref 109, .int 0, .ref 110, .ref 111, .ref 112, .ref 113, .ref 114, .int 0, .int 0, .ref 115, .ref 116, .ref 117, .int 0, .int 0, .int 0, .int 0, .int 0, .ref 118, .ref 119, .ref 120, .int 0, .ref 121, .ref 122, .int 0, .ref 123, .ref 124, .int 0]), .inl (0, 240, .inl (fun _ => 0)), .inl (0, 240, .inl (fun _ => 0)), .inl (0, 242, .inl (fun _ => 0)), .inl (0, 242, .inl (fun _ => 0)), .inl (0, 242, .inl (fun _ => 0)), .inl (0, 6000, .inl (fun _ => 0)), .inl (0, 6000, .inl (fun _ => 0)), .inl (0, 600, .inl (fun _ => 0)), .inl (0, 600, .inl (fun _ => 0)), .inl (0, 600, .inl (fun _ => 0)), .inl (0, 600, .inl (fun _ => 0)), .inl (0, 600, .inl (fun _ => 0)), .inl (0, 600, .inl (fun _ => 0)), .inl (0, 600, .inl (fun _ => 0)), .inl (0, 600, .inl (fun _ => 0)), .inl (0, 600, .inl (fun _ => 0)), .inl (0, 600, .inl (fun _ => 0)), .inl (0, 600, .inl (fun _ => 0)), .inl (0, 60, .inl (fun _ => 0)), .inl (0, 60, .inl (fun _ => 0)), .inl (0, 60, .inl (fun _ => 0)), .inl (0, 60, .inl (fun _ => 0)), .inl (0, 60, .inl (fun _ => 0)), .inl (0, 60, .inl (fun _ => 0)), .inl (0, 60, .inl (fun _ => 0)), .inl (0, 60, .inl (fun _ => 0)), .inl (0, 60, .inl (fun _ => 0)), .inl (0, 60, .inl (fun _ => 0)), .inl (0, 8, .inl (fun _ => 0)), .inl (0, 8, .inl (fun _ => 0)), .inl (0, 5, .inl (fun _ => 0)), .inl (0, 4, .inl (fun _ => 0)), .inl (0, 4, .inl (fun _ => 0)), .inl (0, 60000, .inl (fun _ => 0)), .inl (0, 60000, .inl (fun _ => 0)), .inl (0, 60000, .inl (fun _ => 0)), .inl (0, 60000, .inl (fun _ => 0)), .inl (0, 60000, .inl (fun _ => 0)), .inl (0, 120000, .inl (fun _ => 0)), .inl (0, 400000, .inl (fun _ => 0)), .inl (0, 400000, .inl (fun _ => 0)), .inl (0, 3000, .inl (fun _ => 0)), .inl (0, 3000, .inl (fun _ => 0)), .inl (0, 20000, .inl (fun _ => 0)), .inl (1, 3000, .inl (fun _ => 0)), .inl (0, 3000, .inl (fun _ => 0)), .inl (0, 3000, .inl (fun _ => 0)), .inl (0, 3000, .inl (fun _ => 0)), .inl (0, 400000, .inl (fun _ => 0)), .inl (0, 400000, .inl (fun _ => 0)), .inl (0, 400000, .inl (fun _ => 0)), .inl (0, 3000, .inl (fun _ => 0)), .inl (1, 3000, .inl (fun _ => 0)), .inl (0, 3000, .inl (fun _ => 0)), .inl (0, 20000, .inl (fun _ => 0)), .inl (0, 4001, .inl (fun _ => 0)), .inl (0, 5, .inl (fun _ => 0)), .inl (1, 3000, .inl (fun _ => 0))], 0, 0) rfl ?_
  refine mx_ends_go (rfl : mx_pg[38]? = some eX12_load) 17 (86, [(2, .int 0), (0, .ref 66), (1, .int 0)], [.int 0, .ref 66], [.inr (11, [.ref 1, .int 0, .int 1, .int (-1), .int (-1), .int (-1), .ref 2, .ref 7, .ref 18, .ref 38, .ref 55]), .inl (0, 240, .inl (fun _ => 0)), .inr (8, [.ref 3, .ref 4, .ref 5, .ref 6, .int 0, .int 0]), .inl (0, 240, .inl t), .inl (0, 240, .inl (fun _ => 0)), .inl (0, 240, .inl (fun _ => 0)), .inl (0, 240, .inl (fun _ => 0)), .inr (2, [.ref 2, .int 0]), .inr (9, [.ref 9, .ref 10, .int 2]), .inl (0, 256, .inl (fun _ => 0)), .inl (0, 256, .inl (fun _ => 0)), .inr (7, [.ref 8, .ref 12, .ref 13, .ref 14, .ref 15, .ref 16, .int 0, .ref 17, .int 0]), .inl (0, 1024, .inl (fun _ => 0)), .inl (0, 1024, .inl (fun _ => 0)), .inl (0, 1024, .inl (fun _ => 0)), .inl (0, 1024, .inl (fun _ => 0)), .inl (0, 1024, .inl (fun _ => 0)), .inl (0, 512, .inl (fun _ => 0)), .inr (1, [.ref 2, .ref 8, .ref 11, .ref 19, .ref 22, .ref 25, .ref 26, .ref 27, .ref 28, .int 0, .int 0, .int 0, .int 0, .int 0, .int 0]), .inr (4, [.ref 20, .ref 21, .int 0]), .inl (0, 8, .inl (fun _ => 0)), .inl (0, 8, .inl (fun _ => 0)), .inr (4, [.ref 23, .ref 24, .int 0]), .inl (0, 5, .inl (fun _ => 0)), .inl (0, 5, .inl (fun _ => 0)), .inl (0, 5, .inl (fun _ => 0)), .inl (0, 8, .inl (fun _ => 0)), .inl (0, 21, .inl (fun _ => 0)), .inl (0, 21, .inl (fun _ => 0)), .inr (3, [.ref 30, .ref 31, .ref 32, .int 0]), .inl (0, 1024, .inl (fun _ => 0)), .inl (0, 1024, .inl (fun _ => 0)), .inl (0, 1024, .inl (fun _ => 0)), .inr (0, [.ref 11, .ref 29, .ref 34, .ref 35, .ref 36, .ref 37, .int 0, .int 0, .int 0]), .inl (0, 32, .inl (fun _ => 0)), .inl (0, 32, .inl (fun _ => 0)), .inl (0, 128, .inl (fun _ => 0)), .inl (0, 128, .inl (fun _ => 0)), .inr (6, [.ref 11, .ref 29, .ref 33, .ref 39, .ref 46, .ref 53, .ref 54, .int 0, .int 0, .int 0, .int 0, .int 0, .int 0]), .inr (5, [.ref 40, .ref 41, .ref 42, .ref 43, .ref 44, .ref 45, .int 0]), .inl (0, 512, .inl (fun _ => 0)), .inl (0, 512, .inl (fun _ => 0)), .inl (0, 512, .inl (fun _ => 0)), .inl (0, 512, .inl (fun _ => 0)), .inl (0, 512, .inl (fun _ => 0)), .inl (0, 512, .inl (fun _ => 0)), .inr (5, [.ref 47, .ref 48, .ref 49, .ref 50, .ref 51, .ref 52, .int 0]), .inl (0, 512, .inl (fun _ => 0)), .inl (0, 512, .inl (fun _ => 0)), .inl (0, 512, .inl (fun _ => 0)), .inl (0, 512, .inl (fun _ => 0)), .inl (0, 512, .inl (fun _ => 0)), .inl (0, 512, .inl (fun _ => 0)), .inl (0, 32, .inl (fun _ => 0)), .inl (0, 4, .inl (fun _ => 0)), .inr (10, [.ref 18, .ref 8, .ref 11, .ref 29, .ref 33, .ref 56, .ref 63, .ref 64, .int 0, .ref 65, .int 0, .int (-1)]), .inr (5, [.ref 57, .ref 58, .ref 59, .ref 60, .ref 61, .ref 62, .int 0]), .inl (0, 512, .inl (fun _ => 0)), .inl (0, 512, .inl (fun _ => 0)), .inl (0, 512, .inl (fun _ => 0)), .inl (0, 512, .inl (fun _ => 0)), .inl (0, 512, .inl (fun _ => 0)), .inl (0, 512, .inl (fun _ => 0)), .inl (0, 32, .inl (fun _ => 0)), .inl (0, 128, .inl (fun _ => 0)), .inl (0, 4000, .inl (fun _ => 0)), .inr (12, [.ref 67, .int 0, .ref 68, .int 0, .ref 69, .ref 70, .ref 71, .int 0, .int 0, .int 2, .ref 72, .ref 73, .int 0, .ref 74, .ref 75, .ref 76, .ref 77, .ref 78, .ref 79, .ref 80, .ref 81, .ref 82, .ref 83, .ref 84, .int 0, .ref 85, .ref 86, .ref 87, .ref 88, .ref 89, .ref 90, .ref 91, .ref 92, .int 0, .int 0, .ref 93, .ref 94, .int 0, .int (-1), .int (-1), .int 0, .int 0, .int 0, .ref 95, .ref 96, .int 0, .ref 97, .int 0, .ref 98, .ref 99, .int 0, .ref 100, .ref 101, .ref 102, .ref 103, .ref 104, .int 0, .ref 105, .int 0, .ref 106, .ref 107, .int 0, .ref 108, .ref 109, .int 0, .ref 110, .ref 111, .ref 112, .ref 113, .ref 114, .int 0, .int 0, .ref 115, .ref 116, .ref 117, .int 0, .int 0, .int 0, .int 0, .int 0, .ref 118, .ref 119, .ref 120, .int 0, .ref 121, .ref 122, .int 0, .ref 123, .ref 124, .int 0]), .inl (0, 240, .inl (fun _ => 0)), .inl (0, 240, .inl (fun _ => 0)), .inl (0, 242, .inl (fun _ => 0)), .inl (0, 242, .inl (fun _ => 0)), .inl (0, 242, .inl (fun _ => 0)), .inl (0, 6000, .inl (fun _ => 0)), .inl (0, 6000, .inl (fun _ => 0)), .inl (0, 600, .inl (fun _ => 0)), .inl (0, 600, .inl (fun _ => 0)), .inl (0, 600, .inl (fun _ => 0)), .inl (0, 600, .inl (fun _ => 0)), .inl (0, 600, .inl (fun _ => 0)), .inl (0, 600, .inl (fun _ => 0)), .inl (0, 600, .inl (fun _ => 0)), .inl (0, 600, .inl (fun _ => 0)), .inl (0, 600, .inl (fun _ => 0)), .inl (0, 600, .inl (fun _ => 0)), .inl (0, 600, .inl (fun _ => 0)), .inl (0, 60, .inl (fun _ => 0)), .inl (0, 60, .inl (fun _ => 0)), .inl (0, 60, .inl (fun _ => 0)), .inl (0, 60, .inl (fun _ => 0)), .inl (0, 60, .inl (fun _ => 0)), .inl (0, 60, .inl (fun _ => 0)), .inl (0, 60, .inl (fun _ => 0)), .inl (0, 60, .inl (fun _ => 0)), .inl (0, 60, .inl (fun _ => 0)), .inl (0, 60, .inl (fun _ => 0)), .inl (0, 8, .inl (fun _ => 0)), .inl (0, 8, .inl (fun _ => 0)), .inl (0, 5, .inl (fun _ => 0)), .inl (0, 4, .inl (fun _ => 0)), .inl (0, 4, .inl (fun _ => 0)), .inl (0, 60000, .inl (fun _ => 0)), .inl (0, 60000, .inl (fun _ => 0)), .inl (0, 60000, .inl (fun _ => 0)), .inl (0, 60000, .inl (fun _ => 0)), .inl (0, 60000, .inl (fun _ => 0)), .inl (0, 120000, .inl (fun _ => 0)), .inl (0, 400000, .inl (fun _ => 0)), .inl (0, 400000, .inl (fun _ => 0)), .inl (0, 3000, .inl (fun _ => 0)), .inl (0, 3000, .inl (fun _ => 0)), .inl (0, 20000, .inl (fun _ => 0)), .inl (1, 3000, .inl (fun _ => 0)), .inl (0, 3000, .inl (fun _ => 0)), .inl (0, 3000, .inl (fun _ => 0)), .inl (0, 3000, .inl (fun _ => 0)), .inl (0, 400000, .inl (fun _ => 0)), .inl (0, 400000, .inl (fun _ => 0)), .inl (0, 400000, .inl (fun _ => 0)), .inl (0, 3000, .inl (fun _ => 0)), .inl (1, 3000, .inl (fun _ => 0)), .inl (0, 3000, .inl (fun _ => 0)), .inl (0, 20000, .inl (fun _ => 0)), .inl (0, 4001, .inl (fun _ => 0)), .inl (0, 5, .inl (fun _ => 0)), .inl (1, 3000, .inl (fun _ => 0))], 0, 0) (115, [(2, .int 0), (0, .ref 66), (1, .int 0)], [.ref 66], [.inr (11, [.ref 1, .int 0, .int 1, .int (-1), .int (-1), .int (-1), .ref 2, .ref 7, .ref 18, .ref 38, .ref 55]), .inl (0, 240, .inl (fun _ => 0)), .inr (8, [.ref 3, .ref 4, .ref 5, .ref 6, .int 0, .int 0]), .inl (0, 240, .inl t), .inl (0, 240, .inl (fun _ => 0)), .inl (0, 240, .inl (fun _ => 0)), .inl (0, 240, .inl (fun _ => 0)), .inr (2, [.ref 2, .int 0]), .inr (9, [.ref 9, .ref 10, .int 2]), .inl (0, 256, .inl (fun _ => 0)), .inl (0, 256, .inl (fun _ => 0)), .inr (7, [.ref 8, .ref 12, .ref 13, .ref 14, .ref 15, .ref 16, .int 0, .ref 17, .int 0]), .inl (0, 1024, .inl (fun _ => 0)), .inl (0, 1024, .inl (fun _ => 0)), .inl (0, 1024, .inl (fun _ => 0)), .inl (0, 1024, .inl (fun _ => 0)), .inl (0, 1024, .inl (fun _ => 0)), .inl (0, 512, .inl (fun _ => 0)), .inr (1, [.ref 2, .ref 8, .ref 11, .ref 19, .ref 22, .ref 25, .ref 26, .ref 27, .ref 28, .int 0, .int 0, .int 0, .int 0, .int 0, .int 0]), .inr (4, [.ref 20, .ref 21, .int 0]), .inl (0, 8, .inl (fun _ => 0)), .inl (0, 8, .inl (fun _ => 0)), .inr (4, [.ref 23, .ref 24, .int 0]), .inl (0, 5, .inl (fun _ => 0)), .inl (0, 5, .inl (fun _ => 0)), .inl (0, 5, .inl (fun _ => 0)), .inl (0, 8, .inl (fun _ => 0)), .inl (0, 21, .inl (fun _ => 0)), .inl (0, 21, .inl (fun _ => 0)), .inr (3, [.ref 30, .ref 31, .ref 32, .int 0]), .inl (0, 1024, .inl (fun _ => 0)), .inl (0, 1024, .inl (fun _ => 0)), .inl (0, 1024, .inl (fun _ => 0)), .inr (0, [.ref 11, .ref 29, .ref 34, .ref 35, .ref 36, .ref 37, .int 0, .int 0, .int 0]), .inl (0, 32, .inl (fun _ => 0)), .inl (0, 32, .inl (fun _ => 0)), .inl (0, 128, .inl (fun _ => 0)), .inl (0, 128, .inl (fun _ => 0)), .inr (6, [.ref 11, .ref 29, .ref 33, .ref 39, .ref 46, .ref 53, .ref 54, .int 0, .int 0, .int 0, .int 0, .int 0, .int 0]), .inr (5, [.ref 40, .ref 41, .ref 42, .ref 43, .ref 44, .ref 45, .int 0]), .inl (0, 512, .inl (fun _ => 0)), .inl (0, 512, .inl (fun _ => 0)), .inl (0, 512, .inl (fun _ => 0)), .inl (0, 512, .inl (fun _ => 0)), .inl (0, 512, .inl (fun _ => 0)), .inl (0, 512, .inl (fun _ => 0)), .inr (5, [.ref 47, .ref 48, .ref 49, .ref 50, .ref 51, .ref 52, .int 0]), .inl (0, 512, .inl (fun _ => 0)), .inl (0, 512, .inl (fun _ => 0)), .inl (0, 512, .inl (fun _ => 0)), .inl (0, 512, .inl (fun _ => 0)), .inl (0, 512, .inl (fun _ => 0)), .inl (0, 512, .inl (fun _ => 0)), .inl (0, 32, .inl (fun _ => 0)), .inl (0, 4, .inl (fun _ => 0)), .inr (10, [.ref 18, .ref 8, .ref 11, .ref 29, .ref 33, .ref 56, .ref 63, .ref 64, .int 0, .ref 65, .int 0, .int (-1)]), .inr (5, [.ref 57, .ref 58, .ref 59, .ref 60, .ref 61, .ref 62, .int 0]), .inl (0, 512, .inl (fun _ => 0)), .inl (0, 512, .inl (fun _ => 0)), .inl (0, 512, .inl (fun _ => 0)), .inl (0, 512, .inl (fun _ => 0)), .inl (0, 512, .inl (fun _ => 0)), .inl (0, 512, .inl (fun _ => 0)), .inl (0, 32, .inl (fun _ => 0)), .inl (0, 128, .inl (fun _ => 0)), .inl (0, 4000, .inl (fun _ => 0)), .inr (12, [.ref 67, .int 0, .ref 68, .int 0, .ref 69, .ref 70, .ref 71, .int 0, .int 0, .int 2, .ref 72, .ref 73, .int 0, .ref 74, .ref 75, .ref 76, .ref 77, .ref 78, .ref 79, .ref 80, .ref 81, .ref 82, .ref 83, .ref 84, .int 0, .ref 85, .ref 86, .ref 87, .ref 88, .ref 89, .ref 90, .ref 91, .ref 92, .int 0, .int 0, .ref 93, .ref 94, .int 0, .int (-1), .int (-1), .int 0, .int 0, .int 0, .ref 95, .ref 96, .int 0, .ref 97, .int 0, .ref 98, .ref 99, .int 0, .ref 100, .ref 101, .ref 102, .ref 103, .ref 104, .int 0, .ref 105, .int 1, .ref 106, .ref 107, .int 0, .ref 108, .ref 109, .int 0, .ref 110, .ref 111, .ref 112, .ref 113, .ref 114, .int 0, .int 0, .ref 115, .ref 116, .ref 117, .int 0, .int 0, .int 0, .int 0, .int 0, .ref 118, .ref 119, .ref 120, .int 0, .ref 121, .ref 122, .int 0, .ref 123, .ref 124, .int 0]), .inl (0, 240, .inl (fun _ => 0)), .inl (0, 240, .inl (fun _ => 0)), .inl (0, 242, .inl (fun _ => 0)), .inl (0, 242, .inl (fun _ => 0)), .inl (0, 242, .inl (fun _ => 0)), .inl (0, 6000, .inl (fun _ => 0)), .inl (0, 6000, .inl (fun _ => 0)), .inl (0, 600, .inl (fun _ => 0)), .inl (0, 600, .inl (fun _ => 0)), .inl (0, 600, .inl (fun _ => 0)), .inl (0, 600, .inl (fun _ => 0)), .inl (0, 600, .inl (fun _ => 0)), .inl (0, 600, .inl (fun _ => 0)), .inl (0, 600, .inl (fun _ => 0)), .inl (0, 600, .inl (fun _ => 0)), .inl (0, 600, .inl (fun _ => 0)), .inl (0, 600, .inl (fun _ => 0)), .inl (0, 600, .inl (fun _ => 0)), .inl (0, 60, .inl (fun _ => 0)), .inl (0, 60, .inl (fun _ => 0)), .inl (0, 60, .inl (fun _ => 0)), .inl (0, 60, .inl (fun _ => 0)), .inl (0, 60, .inl (fun _ => 0)), .inl (0, 60, .inl (fun _ => 0)), .inl (0, 60, .inl (fun _ => 0)), .inl (0, 60, .inl (fun _ => 0)), .inl (0, 60, .inl (fun _ => 0)), .inl (0, 60, .inl (fun _ => 0)), .inl (0, 8, .inl (fun _ => 0)), .inl (0, 8, .inl (fun _ => 0)), .inl (0, 5, .inl (fun _ => 0)), .inl (0, 4, .inl (fun _ => 0)), .inl (0, 4, .inl (fun _ => 0)), .inl (0, 60000, .inl (fun _ => 0)), .inl (0, 60000, .inl (fun _ => 0)), .inl (0, 60000, .inl (fun _ => 0)), .inl (0, 60000, .inl (fun _ => 0)), .inl (0, 60000, .inl (fun _ => 0)), .inl (0, 120000, .inl (fun _ => 0)), .inl (0, 400000, .inl (fun _ => 0)), .inl (0, 400000, .inl (fun _ => 0)), .inl (0, 3000, .inl (fun _ => 0)), .inl (0, 3000, .inl (fun _ => 0)), .inl (0, 20000, .inl (fun _ => 0)), .inl (1, 3000, .inl (fun _ => 0)), .inl (0, 3000, .inl (fun _ => 0)), .inl (0, 3000, .inl (fun _ => 0)), .inl (0, 3000, .inl (fun _ => 0)), .inl (0, 400000, .inl (fun _ => 0)), .inl (0, 400000, .inl (fun _ => 0)), .inl (0, 400000, .inl (fun _ => 0)), .inl (0, 3000, .inl (fun _ => 0)), .inl (1, 3000, .inl (fun _ => 0)), .inl (0, 3000, .inl (fun _ => 0)), .inl (0, 20000, .inl (fun _ => 0)), .inl (0, 4001, .inl (fun _ => 0)), .inl (0, 5, .inl (fun _ => 0)), .inl (1, 3000, .inl (fun _ => 0))], 0, 0) rfl ?_
  refine mx_ends_V (r1 := (none, [.inr (11, [.ref 1, .int 0, .int 1, .int (-1), .int (-1), .int (-1), .ref 2, .ref 7, .ref 18, .ref 38, .ref 55]), .inl (0, 240, .inl (fun _ => 0)), .inr (8, [.ref 3, .ref 4, .ref 5, .ref 6, .int 0, .int 0]), .inl (0, 240, .inl t), .inl (0, 240, .inl (fun _ => 0)), .inl (0, 240, .inl (fun _ => 0)), .inl (0, 240, .inl (fun _ => 0)), .inr (2, [.ref 2, .int 0]), .inr (9, [.ref 9, .ref 10, .int 2]), .inl (0, 256, .inl (fun _ => 0)), .inl (0, 256, .inl (fun _ => 0)), .inr (7, [.ref 8, .ref 12, .ref 13, .ref 14, .ref 15, .ref 16, .int 0, .ref 17, .int 0]), .inl (0, 1024, .inl (fun _ => 0)), .inl (0, 1024, .inl (fun _ => 0)), .inl (0, 1024, .inl (fun _ => 0)), .inl (0, 1024, .inl (fun _ => 0)), .inl (0, 1024, .inl (fun _ => 0)), .inl (0, 512, .inl (fun _ => 0)), .inr (1, [.ref 2, .ref 8, .ref 11, .ref 19, .ref 22, .ref 25, .ref 26, .ref 27, .ref 28, .int 0, .int 0, .int 0, .int 0, .int 0, .int 0]), .inr (4, [.ref 20, .ref 21, .int 0]), .inl (0, 8, .inl (fun _ => 0)), .inl (0, 8, .inl (fun _ => 0)), .inr (4, [.ref 23, .ref 24, .int 0]), .inl (0, 5, .inl (fun _ => 0)), .inl (0, 5, .inl (fun _ => 0)), .inl (0, 5, .inl (fun _ => 0)), .inl (0, 8, .inl (fun _ => 0)), .inl (0, 21, .inl (fun _ => 0)), .inl (0, 21, .inl (fun _ => 0)), .inr (3, [.ref 30, .ref 31, .ref 32, .int 0]), .inl (0, 1024, .inl (fun _ => 0)), .inl (0, 1024, .inl (fun _ => 0)), .inl (0, 1024, .inl (fun _ => 0)), .inr (0, [.ref 11, .ref 29, .ref 34, .ref 35, .ref 36, .ref 37, .int 0, .int 0, .int 0]), .inl (0, 32, .inl (fun _ => 0)), .inl (0, 32, .inl (fun _ => 0)), .inl (0, 128, .inl (fun _ => 0)), .inl (0, 128, .inl (fun _ => 0)), .inr (6, [.ref 11, .ref 29, .ref 33, .ref 39, .ref 46, .ref 53, .ref 54, .int 0, .int 0, .int 0, .int 0, .int 0, .int 0]), .inr (5, [.ref 40, .ref 41, .ref 42, .ref 43, .ref 44, .ref 45, .int 0]), .inl (0, 512, .inl (fun _ => 0)), .inl (0, 512, .inl (fun _ => 0)), .inl (0, 512, .inl (fun _ => 0)), .inl (0, 512, .inl (fun _ => 0)), .inl (0, 512, .inl (fun _ => 0)), .inl (0, 512, .inl (fun _ => 0)), .inr (5, [.ref 47, .ref 48, .ref 49, .ref 50, .ref 51, .ref 52, .int 0]), .inl (0, 512, .inl (fun _ => 0)), .inl (0, 512, .inl (fun _ => 0)), .inl (0, 512, .inl (fun _ => 0)), .inl (0, 512, .inl (fun _ => 0)), .inl (0, 512, .inl (fun _ => 0)), .inl (0, 512, .inl (fun _ => 0)), .inl (0, 32, .inl (fun _ => 0)), .inl (0, 4, .inl (fun _ => 0)), .inr (10, [.ref 18, .ref 8, .ref 11, .ref 29, .ref 33, .ref 56, .ref 63, .ref 64, .int 0, .ref 65, .int 0, .int (-1)]), .inr (5, [.ref 57, .ref 58, .ref 59, .ref 60, .ref 61, .ref 62, .int 0]), .inl (0, 512, .inl (fun _ => 0)), .inl (0, 512, .inl (fun _ => 0)), .inl (0, 512, .inl (fun _ => 0)), .inl (0, 512, .inl (fun _ => 0)), .inl (0, 512, .inl (fun _ => 0)), .inl (0, 512, .inl (fun _ => 0)), .inl (0, 32, .inl (fun _ => 0)), .inl (0, 128, .inl (fun _ => 0)), .inl (0, 4000, .inl (fun _ => 0)), .inr (12, [.ref 67, .int 0, .ref 68, .int 0, .ref 69, .ref 70, .ref 71, .int 0, .int 0, .int 2, .ref 72, .ref 73, .int 0, .ref 74, .ref 75, .ref 76, .ref 77, .ref 78, .ref 79, .ref 80, .ref 81, .ref 82, .ref 83, .ref 84, .int 0, .ref 85, .ref 86, .ref 87, .ref 88, .ref 89, .ref 90, .ref 91, .ref 92, .int 0, .int 0, .ref 93, .ref 94, .int 0, .int (-1), .int (-1), .int 0, .int 0, .int 0, .ref 95, .ref 96, .int 0, .ref 97, .int 0, .ref 98, .ref 99, .int 0, .ref 100, .ref 101, .ref 102, .ref 103, .ref 104, .int 0, .ref 105, .int 1, .ref 106, .ref 107, .int 0, .ref 108, .ref 109, .int 0, .ref 110, .ref 111, .ref 112, .ref 113, .ref 114, .int 0, .int 0, .ref 115, .ref 116, .ref 117, .int 0, .int 0, .int 0, .int 0, .int 0, .ref 118, .ref 119, .ref 120, .int 0, .ref 121, .ref 122, .int 0, .ref 123, .ref 124, .int 0]), .inl (0, 240, .inl (fun _ => 0)), .inl (0, 240, .inl (fun _ => 0)), .inl (0, 242, .inl (upd (fun _ => 0) 0 7)), .inl (0, 242, .inl (upd (fun _ => 0) 0 0)), .inl (0, 242, .inl (upd (fun _ => 0) 0 0)), .inl (0, 6000, .inl (fun _ => 0)), .inl (0, 6000, .inl (fun _ => 0)), .inl (0, 600, .inl (fun _ => 0)), .inl (0, 600, .inl (fun _ => 0)), .inl (0, 600, .inl (fun _ => 0)), .inl (0, 600, .inl (fun _ => 0)), .inl (0, 600, .inl (fun _ => 0)), .inl (0, 600, .inl (fun _ => 0)), .inl (0, 600, .inl (fun _ => 0)), .inl (0, 600, .inl (fun _ => 0)), .inl (0, 600, .inl (fun _ => 0)), .inl (0, 600, .inl (fun _ => 0)), .inl (0, 600, .inl (fun _ => 0)), .inl (0, 60, .inl (fun _ => 0)), .inl (0, 60, .inl (fun _ => 0)), .inl (0, 60, .inl (fun _ => 0)), .inl (0, 60, .inl (fun _ => 0)), .inl (0, 60, .inl (fun _ => 0)), .inl (0, 60, .inl (fun _ => 0)), .inl (0, 60, .inl (fun _ => 0)), .inl (0, 60, .inl (fun _ => 0)), .inl (0, 60, .inl (fun _ => 0)), .inl (0, 60, .inl (fun _ => 0)), .inl (0, 8, .inl (fun _ => 0)), .inl (0, 8, .inl (fun _ => 0)), .inl (0, 5, .inl (fun _ => 0)), .inl (0, 4, .inl (fun _ => 0)), .inl (0, 4, .inl (fun _ => 0)), .inl (0, 60000, .inl (fun _ => 0)), .inl (0, 60000, .inl (fun _ => 0)), .inl (0, 60000, .inl (fun _ => 0)), .inl (0, 60000, .inl (fun _ => 0)), .inl (0, 60000, .inl (fun _ => 0)), .inl (0, 120000, .inl (fun _ => 0)), .inl (0, 400000, .inl (fun _ => 0)), .inl (0, 400000, .inl (fun _ => 0)), .inl (0, 3000, .inl (fun _ => 0)), .inl (0, 3000, .inl (fun _ => 0)), .inl (0, 20000, .inl (fun _ => 0)), .inl (1, 3000, .inl (fun _ => 0)), .inl (0, 3000, .inl (fun _ => 0)), .inl (0, 3000, .inl (fun _ => 0)), .inl (0, 3000, .inl (fun _ => 0)), .inl (0, 400000, .inl (fun _ => 0)), .inl (0, 400000, .inl (fun _ => 0)), .inl (0, 400000, .inl (fun _ => 0)), .inl (0, 3000, .inl (fun _ => 0)), .inl (1, 3000, .inl (fun _ => 0)), .inl (0, 3000, .inl (fun _ => 0)), .inl (0, 20000, .inl (fun _ => 0)), .inl (0, 4001, .inl (fun _ => 0)), .inl (0, 5, .inl (fun _ => 0)), .inl (1, 3000, .inl (fun _ => 0))], 0, 0)) (i := 66) (rest := []) (rfl : mx_pg[38]? = some eX12_load) rfl rfl rfl rfl ?_ ?_
  · refine mx_ends_go (rfl : mx_pg[36]? = some eX12_cut) 20 (0, [(0, .ref 66)], [], [.inr (11, [.ref 1, .int 0, .int 1, .int (-1), .int (-1), .int (-1), .ref 2, .ref 7, .ref 18, .ref 38, .ref 55]), .inl (0, 240, .inl (fun _ => 0)), .inr (8, [.ref 3, .ref 4, .ref 5, .ref 6, .int 0, .int 0]), .inl (0, 240, .inl t), .inl (0, 240, .inl (fun _ => 0)), .inl (0, 240, .inl (fun _ => 0)), .inl (0, 240, .inl (fun _ => 0)), .inr (2, [.ref 2, .int 0]), .inr (9, [.ref 9, .ref 10, .int 2]), .inl (0, 256, .inl (fun _ => 0)), .inl (0, 256, .inl (fun _ => 0)), .inr (7, [.ref 8, .ref 12, .ref 13, .ref 14, .ref 15, .ref 16, .int 0, .ref 17, .int 0]), .inl (0, 1024, .inl (fun _ => 0)), .inl (0, 1024, .inl (fun _ => 0)), .inl (0, 1024, .inl (fun _ => 0)), .inl (0, 1024, .inl (fun _ => 0)), .inl (0, 1024, .inl (fun _ => 0)), .inl (0, 512, .inl (fun _ => 0)), .inr (1, [.ref 2, .ref 8, .ref 11, .ref 19, .ref 22, .ref 25, .ref 26, .ref 27, .ref 28, .int 0, .int 0, .int 0, .int 0, .int 0, .int 0]), .inr (4, [.ref 20, .ref 21, .int 0]), .inl (0, 8, .inl (fun _ => 0)), .inl (0, 8, .inl (fun _ => 0)), .inr (4, [.ref 23, .ref 24, .int 0]), .inl (0, 5, .inl (fun _ => 0)), .inl (0, 5, .inl (fun _ => 0)), .inl (0, 5, .inl (fun _ => 0)), .inl (0, 8, .inl (fun _ => 0)), .inl (0, 21, .inl (fun _ => 0)), .inl (0, 21, .inl (fun _ => 0)), .inr (3, [.ref 30, .ref 31, .ref 32, .int 0]), .inl (0, 1024, .inl (fun _ => 0)), .inl (0, 1024, .inl (fun _ => 0)), .inl (0, 1024, .inl (fun _ => 0)), .inr (0, [.ref 11, .ref 29, .ref 34, .ref 35, .ref 36, .ref 37, .int 0, .int 0, .int 0]), .inl (0, 32, .inl (fun _ => 0)), .inl (0, 32, .inl (fun _ => 0)), .inl (0, 128, .inl (fun _ => 0)), .inl (0, 128, .inl (fun _ => 0)), .inr (6, [.ref 11, .ref 29, .ref 33, .ref 39, .ref 46, .ref 53, .ref 54, .int 0, .int 0, .int 0, .int 0, .int 0, .int 0]), .inr (5, [.ref 40, .ref 41, .ref 42, .ref 43, .ref 44, .ref 45, .int 0]), .inl (0, 512, .inl (fun _ => 0)), .inl (0, 512, .inl (fun _ => 0)), .inl (0, 512, .inl (fun _ => 0)), .inl (0, 512, .inl (fun _ => 0)), .inl (0, 512, .inl (fun _ => 0)), .inl (0, 512, .inl (fun _ => 0)), .inr (5, [.ref 47, .ref 48, .ref 49, .ref 50, .ref 51, .ref 52, .int 0]), .inl (0, 512, .inl (fun _ => 0)), .inl (0, 512, .inl (fun _ => 0)), .inl (0, 512, .inl (fun _ => 0)), .inl (0, 512, .inl (fun _ => 0)), .inl (0, 512, .inl (fun _ => 0)), .inl (0, 512, .inl (fun _ => 0)), .inl (0, 32, .inl (fun _ => 0)), .inl (0, 4, .inl (fun _ => 0)), .inr (10, [.ref 18, .ref 8, .ref 11, .ref 29, .ref 33, .ref 56, .ref 63, .ref 64, .int 0, .ref 65, .int 0, .int (-1)]), .inr (5, [.ref 57, .ref 58, .ref 59, .ref 60, .ref 61, .ref 62, .int 0]), .inl (0, 512, .inl (fun _ => 0)), .inl (0, 512, .inl (fun _ => 0)), .inl (0, 512, .inl (fun _ => 0)), .inl (0, 512, .inl (fun _ => 0)), .inl (0, 512, .inl (fun _ => 0)), .inl (0, 512, .inl (fun _ => 0)), .inl (0, 32, .inl (fun _ => 0)), .inl (0, 128, .inl (fun _ => 0)), .inl (0, 4000, .inl (fun _ => 0)), .inr (12, [.ref 67, .int 0, .ref 68, .int 0, .ref 69, .ref 70, .ref 71, .int 0, .int 0, .int 2, .ref 72, .ref 73, .int 0, .ref 74, .ref 75, .ref 76, .ref 77, .ref 78, .ref 79, .ref 80, .ref 81, .ref 82, .ref 83, .ref 84, .int 0, .ref 85, .ref 86, .ref 87, .ref 88, .ref 89, .ref 90, .ref 91, .ref 92, .int 0, .int 0, .ref 93, .ref 94, .int 0, .int (-1), .int (-1), .int 0, .int 0, .int 0, .ref 95, .ref 96, .int 0, .ref 97, .int 0, .ref 98, .ref 99, .int 0, .ref 100, .ref 101, .ref 102, .ref 103, .ref 104, .int 0, .ref 105, .int 1, .ref 106, .ref 107, .int 0, .ref 108, .ref 109, .int 0, .ref 110, .ref 111, .ref 112, .ref 113, .ref 114, .int 0, .int 0, .ref 115, .ref 116, .ref 117, .int 0, .int 0, .int 0, .int 0, .int 0, .ref 118, .ref 119, .ref 120, .int 0, .ref 121, .ref 122, .int 0, .ref 123, .ref 124, .int 0]), .inl (0, 240, .inl (fun _ => 0)), .inl (0, 240, .inl (fun _ => 0)), .inl (0, 242, .inl (fun _ => 0)), .inl (0, 242, .inl (fun _ => 0)), .inl (0, 242, .inl (fun _ => 0)), .inl (0, 6000, .inl (fun _ => 0)), .inl (0, 6000, .inl (fun _ => 0)), .inl (0, 600, .inl (fun _ => 0)), .inl (0, 600, .inl (fun _ => 0)), .inl (0, 600, .inl (fun _ => 0)), .inl (0, 600, .inl (fun _ => 0)), .inl (0, 600, .inl (fun _ => 0)), .inl (0, 600, .inl (fun _ => 0)), .inl (0, 600, .inl (fun _ => 0)), .inl (0, 600, .inl (fun _ => 0)), .inl (0, 600, .inl (fun _ => 0)), .inl (0, 600, .inl (fun _ => 0)), .inl (0, 600, .inl (fun _ => 0)), .inl (0, 60, .inl (fun _ => 0)), .inl (0, 60, .inl (fun _ => 0)), .inl (0, 60, .inl (fun _ => 0)), .inl (0, 60, .inl (fun _ => 0)), .inl (0, 60, .inl (fun _ => 0)), .inl (0, 60, .inl (fun _ => 0)), .inl (0, 60, .inl (fun _ => 0)), .inl (0, 60, .inl (fun _ => 0)), .inl (0, 60, .inl (fun _ => 0)), .inl (0, 60, .inl (fun _ => 0)), .inl (0, 8, .inl (fun _ => 0)), .inl (0, 8, .inl (fun _ => 0)), .inl (0, 5, .inl (fun _ => 0)), .inl (0, 4, .inl (fun _ => 0)), .inl (0, 4, .inl (fun _ => 0)), .inl (0, 60000, .inl (fun _ => 0)), .inl (0, 60000, .inl (fun _ => 0)), .inl (0, 60000, .inl (fun _ => 0)), .inl (0, 60000, .inl (fun _ => 0)), .inl (0, 60000, .inl (fun _ => 0)), .inl (0, 120000, .inl (fun _ => 0)), .inl (0, 400000, .inl (fun _ => 0)), .inl (0, 400000, .inl (fun _ => 0)), .inl (0, 3000, .inl (fun _ => 0)), .inl (0, 3000, .inl (fun _ => 0)), .inl (0, 20000, .inl (fun _ => 0)), .inl (1, 3000, .inl (fun _ => 0)), .inl (0, 3000, .inl (fun _ => 0)), .inl (0, 3000, .inl (fun _ => 0)), .inl (0, 3000, .inl (fun _ => 0)), .inl (0, 400000, .inl (fun _ => 0)), .inl (0, 400000, .inl (fun _ => 0)), .inl (0, 400000, .inl (fun _ => 0)), .inl (0, 3000, .inl (fun _ => 0)), .inl (1, 3000, .inl (fun _ => 0)), .inl (0, 3000, .inl (fun _ => 0)), .inl (0, 20000, .inl (fun _ => 0)), .inl (0, 4001, .inl (fun _ => 0)), .inl (0, 5, .inl (fun _ => 0)), .inl (1, 3000, .inl (fun _ => 0))], 0, 0) (76, [(3, .int 1), (2, .int 0), (1, .int 0), (0, .ref 66)], [.int 0, .ref 69], [.inr (11, [.ref 1, .int 0, .int 1, .int (-1), .int (-1), .int (-1), .ref 2, .ref 7, .ref 18, .ref 38, .ref 55]), .inl (0, 240, .inl (fun _ => 0)), .inr (8, [.ref 3, .ref 4, .ref 5, .ref 6, .int 0, .int 0]), .inl (0, 240, .inl t), .inl (0, 240, .inl (fun _ => 0)), .inl (0, 240, .inl (fun _ => 0)), .inl (0, 240, .inl (fun _ => 0)), .inr (2, [.ref 2, .int 0]), .inr (9, [.ref 9, .ref 10, .int 2]), .inl (0, 256, .inl (fun _ => 0)), .inl (0, 256, .inl (fun _ => 0)), .inr (7, [.ref 8, .ref 12, .ref 13, .ref 14, .ref 15, .ref 16, .int 0, .ref 17, .int 0]), .inl (0, 1024, .inl (fun _ => 0)), .inl (0, 1024, .inl (fun _ => 0)), .inl (0, 1024, .inl (fun _ => 0)), .inl (0, 1024, .inl (fun _ => 0)), .inl (0, 1024, .inl (fun _ => 0)), .inl (0, 512, .inl (fun _ => 0)), .inr (1, [.ref 2, .ref 8, .ref 11, .ref 19, .ref 22, .ref 25, .ref 26, .ref 27, .ref 28, .int 0, .int 0, .int 0, .int 0, .int 0, .int 0]), .inr (4, [.ref 20, .ref 21, .int 0]), .inl (0, 8, .inl (fun _ => 0)), .inl (0, 8, .inl (fun _ => 0)), .inr (4, [.ref 23, .ref 24, .int 0]), .inl (0, 5, .inl (fun _ => 0)), .inl (0, 5, .inl (fun _ => 0)), .inl (0, 5, .inl (fun _ => 0)), .inl (0, 8, .inl (fun _ => 0)), .inl (0, 21, .inl (fun _ => 0)), .inl (0, 21, .inl (fun _ => 0)), .inr (3, [.ref 30, .ref 31, .ref 32, .int 0]), .inl (0, 1024, .inl (fun _ => 0)), .inl (0, 1024, .inl (fun _ => 0)), .inl (0, 1024, .inl (fun _ => 0)), .inr (0, [.ref 11, .ref 29, .ref 34, .ref 35, .ref 36, .ref 37, .int 0, .int 0, .int 0]), .inl (0, 32, .inl (fun _ => 0)), .inl (0, 32, .inl (fun _ => 0)), .inl (0, 128, .inl (fun _ => 0)), .inl (0, 128, .inl (fun _ => 0)), .inr (6, [.ref 11, .ref 29, .ref 33, .ref 39, .ref 46, .ref 53, .ref 54, .int 0, .int 0, .int 0, .int 0, .int 0, .int 0]), .inr (5, [.ref 40, .ref 41, .ref 42, .ref 43, .ref 44, .ref 45, .int 0]), .inl (0, 512, .inl (fun _ => 0)), .inl (0, 512, .inl (fun _ => 0)), .inl (0, 512, .inl (fun _ => 0)), .inl (0, 512, .inl (fun _ => 0)), .inl (0, 512, .inl (fun _ => 0)), .inl (0, 512, .inl (fun _ => 0)), .inr (5, [.ref 47, .ref 48, .ref 49, .ref 50, .ref 51, .ref 52, .int 0]), .inl (0, 512, .inl (fun _ => 0)), .inl (0, 512, .inl (fun _ => 0)), .inl (0, 512, .inl (fun _ => 0)), .inl (0, 512, .inl (fun _ => 0)), .inl (0, 512, .inl (fun _ => 0)), .inl (0, 512, .inl (fun _ => 0)), .inl (0, 32, .inl (fun _ => 0)), .inl (0, 4, .inl (fun _ => 0)), .inr (10, [.ref 18, .ref 8, .ref 11, .ref 29, .ref 33, .ref 56, .ref 63, .ref 64, .int 0, .ref 65, .int 0, .int (-1)]), .inr (5, [.ref 57, .ref 58, .ref 59, .ref 60, .ref 61, .ref 62, .int 0]), .inl (0, 512, .inl (fun _ => 0)), .inl (0, 512, .inl (fun _ => 0)), .inl (0, 512, .inl (fun _ => 0)), .inl (0, 512, .inl (fun _ => 0)), .inl (0, 512, .inl (fun _ => 0)), .inl (0, 512, .inl (fun _ => 0)), .inl (0, 32, .inl (fun _ => 0)), .inl (0, 128, .inl (fun _ => 0)), .inl (0, 4000, .inl (fun _ => 0)), .inr (12, [.ref 67, .int 0, .ref 68, .int 0, .ref 69, .ref 70, .ref 71, .int 0, .int 0, .int 2, .ref 72, .ref 73, .int 0, .ref 74, .ref 75, .ref 76, .ref 77, .ref 78, .ref 79, .ref 80, .ref 81, .ref 82, .ref 83, .ref 84, .int 0, .ref 85, .ref 86, .ref 87, .ref 88, .ref 89, .ref 90, .ref 91, .ref 92, .int 0, .int 0, .ref 93, .ref 94, .int 0, .int (-1), .int (-1), .int 0, .int 0, .int 0, .ref 95, .ref 96, .int 0, .ref 97, .int 0, .ref 98, .ref 99, .int 0, .ref 100, .ref 101, .ref 102, .ref 103, .ref 104, .int 0, .ref 105, .int 1, .ref 106, .ref 107, .int 0, .ref 108, .ref 109, .int 0, .ref 110, .ref 111, .ref 112, .ref 113, .ref 114, .int 0, .int 0, .ref 115, .ref 116, .ref 117, .int 0, .int 0, .int 0, .int 0, .int 0, .ref 118, .ref 119, .ref 120, .int 0, .ref 121, .ref 122, .int 0, .ref 123, .ref 124, .int 0]), .inl (0, 240, .inl (fun _ => 0)), .inl (0, 240, .inl (fun _ => 0)), .inl (0, 242, .inl (fun _ => 0)), .inl (0, 242, .inl (upd (fun _ => 0) 0 0)), .inl (0, 242, .inl (fun _ => 0)), .inl (0, 6000, .inl (fun _ => 0)), .inl (0, 6000, .inl (fun _ => 0)), .inl (0, 600, .inl (fun _ => 0)), .inl (0, 600, .inl (fun _ => 0)), .inl (0, 600, .inl (fun _ => 0)), .inl (0, 600, .inl (fun _ => 0)), .inl (0, 600, .inl (fun _ => 0)), .inl (0, 600, .inl (fun _ => 0)), .inl (0, 600, .inl (fun _ => 0)), .inl (0, 600, .inl (fun _ => 0)), .inl (0, 600, .inl (fun _ => 0)), .inl (0, 600, .inl (fun _ => 0)), .inl (0, 600, .inl (fun _ => 0)), .inl (0, 60, .inl (fun _ => 0)), .inl (0, 60, .inl (fun _ => 0)), .inl (0, 60, .inl (fun _ => 0)), .inl (0, 60, .inl (fun _ => 0)), .inl (0, 60, .inl (fun _ => 0)), .inl (0, 60, .inl (fun _ => 0)), .inl (0, 60, .inl (fun _ => 0)), .inl (0, 60, .inl (fun _ => 0)), .inl (0, 60, .inl (fun _ => 0)), .inl (0, 60, .inl (fun _ => 0)), .inl (0, 8, .inl (fun _ => 0)), .inl (0, 8, .inl (fun _ => 0)), .inl (0, 5, .inl (fun _ => 0)), .inl (0, 4, .inl (fun _ => 0)), .inl (0, 4, .inl (fun _ => 0)), .inl (0, 60000, .inl (fun _ => 0)), .inl (0, 60000, .inl (fun _ => 0)), .inl (0, 60000, .inl (fun _ => 0)), .inl (0, 60000, .inl (fun _ => 0)), .inl (0, 60000, .inl (fun _ => 0)), .inl (0, 120000, .inl (fun _ => 0)), .inl (0, 400000, .inl (fun _ => 0)), .inl (0, 400000, .inl (fun _ => 0)), .inl (0, 3000, .inl (fun _ => 0)), .inl (0, 3000, .inl (fun _ => 0)), .inl (0, 20000, .inl (fun _ => 0)), .inl (1, 3000, .inl (fun _ => 0)), .inl (0, 3000, .inl (fun _ => 0)), .inl (0, 3000, .inl (fun _ => 0)), .inl (0, 3000, .inl (fun _ => 0)), .inl (0, 400000, .inl (fun _ => 0)), .inl (0, 400000, .inl (fun _ => 0)), .inl (0, 400000, .inl (fun _ => 0)), .inl (0, 3000, .inl (fun _ => 0)), .inl (1, 3000, .inl (fun _ => 0)), .inl (0, 3000, .inl (fun _ => 0)), .inl (0, 20000, .inl (fun _ => 0)), .inl (0, 4001, .inl (fun _ => 0)), .inl (0, 5, .inl (fun _ => 0)), .inl (1, 3000, .inl (fun _ => 0))], 0, 0) rfl ?_
    refine mx_ends_go (rfl : mx_pg[36]? = some eX12_cut) 3 (76, [(3, .int 1), (2, .int 0), (1, .int 0), (0, .ref 66)], [.int 0, .ref 69], [.inr (11, [.ref 1, .int 0, .int 1, .int (-1), .int (-1), .int (-1), .ref 2, .ref 7, .ref 18, .ref 38, .ref 55]), .inl (0, 240, .inl (fun _ => 0)), .inr (8, [.ref 3, .ref 4, .ref 5, .ref 6, .int 0, .int 0]), .inl (0, 240, .inl t), .inl (0, 240, .inl (fun _ => 0)), .inl (0, 240, .inl (fun _ => 0)), .inl (0, 240, .inl (fun _ => 0)), .inr (2, [.ref 2, .int 0]), .inr (9, [.ref 9, .ref 10, .int 2]), .inl (0, 256, .inl (fun _ => 0)), .inl (0, 256, .inl (fun _ => 0)), .inr (7, [.ref 8, .ref 12, .ref 13, .ref 14, .ref 15, .ref 16, .int 0, .ref 17, .int 0]), .inl (0, 1024, .inl (fun _ => 0)), .inl (0, 1024, .inl (fun _ => 0)), .inl (0, 1024, .inl (fun _ => 0)), .inl (0, 1024, .inl (fun _ => 0)), .inl (0, 1024, .inl (fun _ => 0)), .inl (0, 512, .inl (fun _ => 0)), .inr (1, [.ref 2, .ref 8, .ref 11, .ref 19, .ref 22, .ref 25, .ref 26, .ref 27, .ref 28, .int 0, .int 0, .int 0, .int 0, .int 0, .int 0]), .inr (4, [.ref 20, .ref 21, .int 0]), .inl (0, 8, .inl (fun _ => 0)), .inl (0, 8, .inl (fun _ => 0)), .inr (4, [.ref 23, .ref 24, .int 0]), .inl (0, 5, .inl (fun _ => 0)), .inl (0, 5, .inl (fun _ => 0)), .inl (0, 5, .inl (fun _ => 0)), .inl (0, 8, .inl (fun _ => 0)), .inl (0, 21, .inl (fun _ => 0)), .inl (0, 21, .inl (fun _ => 0)), .inr (3, [.ref 30, .ref 31, .ref 32, .int 0]), .inl (0, 1024, .inl (fun _ => 0)), .inl (0, 1024, .inl (fun _ => 0)), .inl (0, 1024, .inl (fun _ => 0)), .inr (0, [.ref 11, .ref 29, .ref 34, .ref 35, .ref 36, .ref 37, .int 0, .int 0, .int 0]), .inl (0, 32, .inl (fun _ => 0)), .inl (0, 32, .inl (fun _ => 0)), .inl (0, 128, .inl (fun _ => 0)), .inl (0, 128, .inl (fun _ => 0)), .inr (6, [.ref 11, .ref 29, .ref 33, .ref 39, .ref 46, .ref 53, .ref 54, .int 0, .int 0, .int 0, .int 0, .int 0, .int 0]), .inr (5, [.ref 40, .ref 41, .ref 42, .ref 43, .ref 44, .ref 45, .int 0]), .inl (0, 512, .inl (fun _ => 0)), .inl (0, 512, .inl (fun _ => 0)), .inl (0, 512, .inl (fun _ => 0)), .inl (0, 512, .inl (fun _ => 0)), .inl (0, 512, .inl (fun _ => 0)), .inl (0, 512, .inl (fun _ => 0)), .inr (5, [.ref 47, .ref 48, .ref 49, .ref 50, .ref 51, .ref 52, .int 0]), .inl (0, 512, .inl (fun _ => 0)), .inl (0, 512, .inl (fun _ => 0)), .inl (0, 512, .inl (fun _ => 0)), .inl (0, 512, .inl (fun _ => 0)), .inl (0, 512, .inl (fun _ => 0)), .inl (0, 512, .inl (fun _ => 0)), .inl (0, 32, .inl (fun _ => 0)), .inl (0, 4, .inl (fun _ => 0)), .inr (10, [.ref 18, .ref 8, .ref 11, .ref 29, .ref 33, .ref 56, .ref 63, .ref 64, .int 0, .ref 65, .int 0, .int (-1)]), .inr (5, [.ref 57, .ref 58, .ref 59, .ref 60, .ref 61, .ref 62, .int 0]), .inl (0, 512, .inl (fun _ => 0)), .inl (0, 512, .inl (fun _ => 0)), .inl (0, 512, .inl (fun _ => 0)), .inl (0, 512, .inl (fun _ => 0)), .inl (0, 512, .inl (fun _ => 0)), .inl (0, 512, .inl (fun _ => 0)), .inl (0, 32, .inl (fun _ => 0)), .inl (0, 128, .inl (fun _ => 0)), .inl (0, 4000, .inl (fun _ => 0)), .inr (12, [.ref 67, .int 0, .ref 68, .int 0, .ref 69, .ref 70, .ref 71, .int 0, .int 0, .int 2, .ref 72, .ref 73, .int 0, .ref 74, .ref 75, .ref 76, .ref 77, .ref 78, .ref 79, .ref 80, .ref 81, .ref 82, .ref 83, .ref 84, .int 0, .ref 85, .ref 86, .ref 87, .ref 88, .ref 89, .ref 90, .ref 91, .ref 92, .int 0, .int 0, .ref 93, .ref 94, .int 0, .int (-1), .int (-1), .int 0, .int 0, .int 0, .ref 95, .ref 96, .int 0, .ref 97, .int 0, .ref 98, .ref 99, .int 0, .ref 100, .ref 101, .ref 102, .ref 103, .ref 104, .int 0, .ref 105, .int 1, .ref 106, .ref 107, .int 0, .ref 108, .ref 109, .int 0, .ref 110, .ref 111, .ref 112, .ref 113, .ref 114, .int 0, .int 0, .ref 115, .ref 116, .ref 117, .int 0, .int 0, .int 0, .int 0, .int 0, .ref 118, .ref 119, .ref 120, .int 0, .ref 121, .ref 122, .int 0, .ref 123, .ref 124, .int 0]), .inl (0, 240, .inl (fun _ => 0)), .inl (0, 240, .inl (fun _ => 0)), .inl (0, 242, .inl (fun _ => 0)), .inl (0, 242, .inl (upd (fun _ => 0) 0 0)), .inl (0, 242, .inl (fun _ => 0)), .inl (0, 6000, .inl (fun _ => 0)), .inl (0, 6000, .inl (fun _ => 0)), .inl (0, 600, .inl (fun _ => 0)), .inl (0, 600, .inl (fun _ => 0)), .inl (0, 600, .inl (fun _ => 0)), .inl (0, 600, .inl (fun _ => 0)), .inl (0, 600, .inl (fun _ => 0)), .inl (0, 600, .inl (fun _ => 0)), .inl (0, 600, .inl (fun _ => 0)), .inl (0, 600, .inl (fun _ => 0)), .inl (0, 600, .inl (fun _ => 0)), .inl (0, 600, .inl (fun _ => 0)), .inl (0, 600, .inl (fun _ => 0)), .inl (0, 60, .inl (fun _ => 0)), .inl (0, 60, .inl (fun _ => 0)), .inl (0, 60, .inl (fun _ => 0)), .inl (0, 60, .inl (fun _ => 0)), .inl (0, 60, .inl (fun _ => 0)), .inl (0, 60, .inl (fun _ => 0)), .inl (0, 60, .inl (fun _ => 0)), .inl (0, 60, .inl (fun _ => 0)), .inl (0, 60, .inl (fun _ => 0)), .inl (0, 60, .inl (fun _ => 0)), .inl (0, 8, .inl (fun _ => 0)), .inl (0, 8, .inl (fun _ => 0)), .inl (0, 5, .inl (fun _ => 0)), .inl (0, 4, .inl (fun _ => 0)), .inl (0, 4, .inl (fun _ => 0)), .inl (0, 60000, .inl (fun _ => 0)), .inl (0, 60000, .inl (fun _ => 0)), .inl (0, 60000, .inl (fun _ => 0)), .inl (0, 60000, .inl (fun _ => 0)), .inl (0, 60000, .inl (fun _ => 0)), .inl (0, 120000, .inl (fun _ => 0)), .inl (0, 400000, .inl (fun _ => 0)), .inl (0, 400000, .inl (fun _ => 0)), .inl (0, 3000, .inl (fun _ => 0)), .inl (0, 3000, .inl (fun _ => 0)), .inl (0, 20000, .inl (fun _ => 0)), .inl (1, 3000, .inl (fun _ => 0)), .inl (0, 3000, .inl (fun _ => 0)), .inl (0, 3000, .inl (fun _ => 0)), .inl (0, 3000, .inl (fun _ => 0)), .inl (0, 400000, .inl (fun _ => 0)), .inl (0, 400000, .inl (fun _ => 0)), .inl (0, 400000, .inl (fun _ => 0)), .inl (0, 3000, .inl (fun _ => 0)), .inl (1, 3000, .inl (fun _ => 0)), .inl (0, 3000, .inl (fun _ => 0)), .inl (0, 20000, .inl (fun _ => 0)), .inl (0, 4001, .inl (fun _ => 0)), .inl (0, 5, .inl (fun _ => 0)), .inl (1, 3000, .inl (fun _ => 0))], 0, 0) (79, [(3, .int 1), (2, .int 0), (1, .int 0), (0, .ref 66)], [.int 0, .int 0, .ref 66, .int 0, .ref 69], [.inr (11, [.ref 1, .int 0, .int 1, .int (-1), .int (-1), .int (-1), .ref 2, .ref 7, .ref 18, .ref 38, .ref 55]), .inl (0, 240, .inl (fun _ => 0)), .inr (8, [.ref 3, .ref 4, .ref 5, .ref 6, .int 0, .int 0]), .inl (0, 240, .inl t), .inl (0, 240, .inl (fun _ => 0)), .inl (0, 240, .inl (fun _ => 0)), .inl (0, 240, .inl (fun _ => 0)), .inr (2, [.ref 2, .int 0]), .inr (9, [.ref 9, .ref 10, .int 2]), .inl (0, 256, .inl (fun _ => 0)), .inl (0, 256, .inl (fun _ => 0)), .inr (7, [.ref 8, .ref 12, .ref 13, .ref 14, .ref 15, .ref 16, .int 0, .ref 17, .int 0]), .inl (0, 1024, .inl (fun _ => 0)), .inl (0, 1024, .inl (fun _ => 0)), .inl (0, 1024, .inl (fun _ => 0)), .inl (0, 1024, .inl (fun _ => 0)), .inl (0, 1024, .inl (fun _ => 0)), .inl (0, 512, .inl (fun _ => 0)), .inr (1, [.ref 2, .ref 8, .ref 11, .ref 19, .ref 22, .ref 25, .ref 26, .ref 27, .ref 28, .int 0, .int 0, .int 0, .int 0, .int 0, .int 0]), .inr (4, [.ref 20, .ref 21, .int 0]), .inl (0, 8, .inl (fun _ => 0)), .inl (0, 8, .inl (fun _ => 0)), .inr (4, [.ref 23, .ref 24, .int 0]), .inl (0, 5, .inl (fun _ => 0)), .inl (0, 5, .inl (fun _ => 0)), .inl (0, 5, .inl (fun _ => 0)), .inl (0, 8, .inl (fun _ => 0)), .inl (0, 21, .inl (fun _ => 0)), .inl (0, 21, .inl (fun _ => 0)), .inr (3, [.ref 30, .ref 31, .ref 32, .int 0]), .inl (0, 1024, .inl (fun _ => 0)), .inl (0, 1024, .inl (fun _ => 0)), .inl (0, 1024, .inl (fun _ => 0)), .inr (0, [.ref 11, .ref 29, .ref 34, .ref 35, .ref 36, .ref 37, .int 0, .int 0, .int 0]), .inl (0, 32, .inl (fun _ => 0)), .inl (0, 32, .inl (fun _ => 0)), .inl (0, 128, .inl (fun _ => 0)), .inl (0, 128, .inl (fun _ => 0)), .inr (6, [.ref 11, .ref 29, .ref 33, .ref 39, .ref 46, .ref 53, .ref 54, .int 0, .int 0, .int 0, .int 0, .int 0, .int 0]), .inr (5, [.ref 40, .ref 41, .ref 42, .ref 43, .ref 44, .ref 45, .int 0]), .inl (0, 512, .inl (fun _ => 0)), .inl (0, 512, .inl (fun _ => 0)), .inl (0, 512, .inl (fun _ => 0)), .inl (0, 512, .inl (fun _ => 0)), .inl (0, 512, .inl (fun _ => 0)), .inl (0, 512, .inl (fun _ => 0)), .inr (5, [.ref 47, .ref 48, .ref 49, .ref 50, .ref 51, .ref 52, .int 0]), .inl (0, 512, .inl (fun _ => 0)), .inl (0, 512, .inl (fun _ => 0)), .inl (0, 512, .inl (fun _ => 0)), .inl (0, 512, .inl (fun _ => 0)), .inl (0, 512, .inl (fun _ => 0)), .inl (0, 512, .inl (fun _ => 0)), .inl (0, 32, .inl (fun _ => 0)), .inl (0, 4, .inl (fun _ => 0)), .inr (10, [.ref 18, .ref 8, .ref 11, .ref 29, .ref 33, .ref 56, .ref 63, .ref 64, .int 0, .ref 65, .int 0, .int (-1)]), .inr (5, [.ref 57, .ref 58, .ref 59, .ref 60, .ref 61, .ref 62, .int 0]), .inl (0, 512, .inl (fun _ => 0)), .inl (0, 512, .inl (fun _ => 0)), .inl (0, 512, .inl (fun _ => 0)), .inl (0, 512, .inl (fun _ => 0)), .inl (0, 512, .inl (fun _ => 0)), .inl (0, 512, .inl (fun _ => 0)), .inl (0, 32, .inl (fun _ => 0)), .inl (0, 128, .inl (fun _ => 0)), .inl (0, 4000, .inl (fun _ => 0)), .inr (12, [.ref 67, .int 0, .ref 68, .int 0, .ref 69, .ref 70, .ref 71, .int 0, .int 0, .int 2, .ref 72, .ref 73, .int 0, .ref 74, .ref 75, .ref 76, .ref 77, .ref 78, .ref 79, .ref 80, .ref 81, .ref 82, .ref 83, .ref 84, .int 0, .ref 85, .ref 86, .ref 87, .ref 88, .ref 89, .ref 90, .ref 91, .ref 92, .int 0, .int 0, .ref 93, .ref 94, .int 0, .int (-1), .int (-1), .int 0, .int 0, .int 0, .ref 95, .ref 96, .int 0, .ref 97, .int 0, .ref 98, .ref 99, .int 0, .ref 100, .ref 101, .ref 102, .ref 103, .ref 104, .int 0, .ref 105, .int 1, .ref 106, .ref 107, .int 0, .ref 108, .ref 109, .int 0, .ref 110, .ref 111, .ref 112, .ref 113, .ref 114, .int 0, .int 0, .ref 115, .ref 116, .ref 117, .int 0, .int 0, .int 0, .int 0, .int 0, .ref 118, .ref 119, .ref 120, .int 0, .ref 121, .ref 122, .int 0, .ref 123, .ref 124, .int 0]), .inl (0, 240, .inl (fun _ => 0)), .inl (0, 240, .inl (fun _ => 0)), .inl (0, 242, .inl (fun _ => 0)), .inl (0, 242, .inl (upd (fun _ => 0) 0 0)), .inl (0, 242, .inl (fun _ => 0)), .inl (0, 6000, .inl (fun _ => 0)), .inl (0, 6000, .inl (fun _ => 0)), .inl (0, 600, .inl (fun _ => 0)), .inl (0, 600, .inl (fun _ => 0)), .inl (0, 600, .inl (fun _ => 0)), .inl (0, 600, .inl (fun _ => 0)), .inl (0, 600, .inl (fun _ => 0)), .inl (0, 600, .inl (fun _ => 0)), .inl (0, 600, .inl (fun _ => 0)), .inl (0, 600, .inl (fun _ => 0)), .inl (0, 600, .inl (fun _ => 0)), .inl (0, 600, .inl (fun _ => 0)), .inl (0, 600, .inl (fun _ => 0)), .inl (0, 60, .inl (fun _ => 0)), .inl (0, 60, .inl (fun _ => 0)), .inl (0, 60, .inl (fun _ => 0)), .inl (0, 60, .inl (fun _ => 0)), .inl (0, 60, .inl (fun _ => 0)), .inl (0, 60, .inl (fun _ => 0)), .inl (0, 60, .inl (fun _ => 0)), .inl (0, 60, .inl (fun _ => 0)), .inl (0, 60, .inl (fun _ => 0)), .inl (0, 60, .inl (fun _ => 0)), .inl (0, 8, .inl (fun _ => 0)), .inl (0, 8, .inl (fun _ => 0)), .inl (0, 5, .inl (fun _ => 0)), .inl (0, 4, .inl (fun _ => 0)), .inl (0, 4, .inl (fun _ => 0)), .inl (0, 60000, .inl (fun _ => 0)), .inl (0, 60000, .inl (fun _ => 0)), .inl (0, 60000, .inl (fun _ => 0)), .inl (0, 60000, .inl (fun _ => 0)), .inl (0, 60000, .inl (fun _ => 0)), .inl (0, 120000, .inl (fun _ => 0)), .inl (0, 400000, .inl (fun _ => 0)), .inl (0, 400000, .inl (fun _ => 0)), .inl (0, 3000, .inl (fun _ => 0)), .inl (0, 3000, .inl (fun _ => 0)), .inl (0, 20000, .inl (fun _ => 0)), .inl (1, 3000, .inl (fun _ => 0)), .inl (0, 3000, .inl (fun _ => 0)), .inl (0, 3000, .inl (fun _ => 0)), .inl (0, 3000, .inl (fun _ => 0)), .inl (0, 400000, .inl (fun _ => 0)), .inl (0, 400000, .inl (fun _ => 0)), .inl (0, 400000, .inl (fun _ => 0)), .inl (0, 3000, .inl (fun _ => 0)), .inl (1, 3000, .inl (fun _ => 0)), .inl (0, 3000, .inl (fun _ => 0)), .inl (0, 20000, .inl (fun _ => 0)), .inl (0, 4001, .inl (fun _ => 0)), .inl (0, 5, .inl (fun _ => 0)), .inl (1, 3000, .inl (fun _ => 0))], 0, 0) rfl ?_
    refine mx_ends_V (r1 := (some (.int 7), [.inr (11, [.ref 1, .int 0, .int 1, .int (-1), .int (-1), .int (-1), .ref 2, .ref 7, .ref 18, .ref 38, .ref 55]), .inl (0, 240, .inl (fun _ => 0)), .inr (8, [.ref 3, .ref 4, .ref 5, .ref 6, .int 0, .int 0]), .inl (0, 240, .inl t), .inl (0, 240, .inl (fun _ => 0)), .inl (0, 240, .inl (fun _ => 0)), .inl (0, 240, .inl (fun _ => 0)), .inr (2, [.ref 2, .int 0]), .inr (9, [.ref 9, .ref 10, .int 2]), .inl (0, 256, .inl (fun _ => 0)), .inl (0, 256, .inl (fun _ => 0)), .inr (7, [.ref 8, .ref 12, .ref 13, .ref 14, .ref 15, .ref 16, .int 0, .ref 17, .int 0]), .inl (0, 1024, .inl (fun _ => 0)), .inl (0, 1024, .inl (fun _ => 0)), .inl (0, 1024, .inl (fun _ => 0)), .inl (0, 1024, .inl (fun _ => 0)), .inl (0, 1024, .inl (fun _ => 0)), .inl (0, 512, .inl (fun _ => 0)), .inr (1, [.ref 2, .ref 8, .ref 11, .ref 19, .ref 22, .ref 25, .ref 26, .ref 27, .ref 28, .int 0, .int 0, .int 0, .int 0, .int 0, .int 0]), .inr (4, [.ref 20, .ref 21, .int 0]), .inl (0, 8, .inl (fun _ => 0)), .inl (0, 8, .inl (fun _ => 0)), .inr (4, [.ref 23, .ref 24, .int 0]), .inl (0, 5, .inl (fun _ => 0)), .inl (0, 5, .inl (fun _ => 0)), .inl (0, 5, .inl (fun _ => 0)), .inl (0, 8, .inl (fun _ => 0)), .inl (0, 21, .inl (fun _ => 0)), .inl (0, 21, .inl (fun _ => 0)), .inr (3, [.ref 30, .ref 31, .ref 32, .int 0]), .inl (0, 1024, .inl (fun _ => 0)), .inl (0, 1024, .inl (fun _ => 0)), .inl (0, 1024, .inl (fun _ => 0)), .inr (0, [.ref 11, .ref 29, .ref 34, .ref 35, .ref 36, .ref 37, .int 0, .int 0, .int 0]), .inl (0, 32, .inl (fun _ => 0)), .inl (0, 32, .inl (fun _ => 0)), .inl (0, 128, .inl (fun _ => 0)), .inl (0, 128, .inl (fun _ => 0)), .inr (6, [.ref 11, .ref 29, .ref 33, .ref 39, .ref 46, .ref 53, .ref 54, .int 0, .int 0, .int 0, .int 0, .int 0, .int 0]), .inr (5, [.ref 40, .ref 41, .ref 42, .ref 43, .ref 44, .ref 45, .int 0]), .inl (0, 512, .inl (fun _ => 0)), .inl (0, 512, .inl (fun _ => 0)), .inl (0, 512, .inl (fun _ => 0)), .inl (0, 512, .inl (fun _ => 0)), .inl (0, 512, .inl (fun _ => 0)), .inl (0, 512, .inl (fun _ => 0)), .inr (5, [.ref 47, .ref 48, .ref 49, .ref 50, .ref 51, .ref 52, .int 0]), .inl (0, 512, .inl (fun _ => 0)), .inl (0, 512, .inl (fun _ => 0)), .inl (0, 512, .inl (fun _ => 0)), .inl (0, 512, .inl (fun _ => 0)), .inl (0, 512, .inl (fun _ => 0)), .inl (0, 512, .inl (fun _ => 0)), .inl (0, 32, .inl (fun _ => 0)), .inl (0, 4, .inl (fun _ => 0)), .inr (10, [.ref 18, .ref 8, .ref 11, .ref 29, .ref 33, .ref 56, .ref 63, .ref 64, .int 0, .ref 65, .int 0, .int (-1)]), .inr (5, [.ref 57, .ref 58, .ref 59, .ref 60, .ref 61, .ref 62, .int 0]), .inl (0, 512, .inl (fun _ => 0)), .inl (0, 512, .inl (fun _ => 0)), .inl (0, 512, .inl (fun _ => 0)), .inl (0, 512, .inl (fun _ => 0)), .inl (0, 512, .inl (fun _ => 0)), .inl (0, 512, .inl (fun _ => 0)), .inl (0, 32, .inl (fun _ => 0)), .inl (0, 128, .inl (fun _ => 0)), .inl (0, 4000, .inl (fun _ => 0)), .inr (12, [.ref 67, .int 0, .ref 68, .int 0, .ref 69, .ref 70, .ref 71, .int 0, .int 0, .int 2, .ref 72, .ref 73, .int 0, .ref 74, .ref 75, .ref 76, .ref 77, .ref 78, .ref 79, .ref 80, .ref 81, .ref 82, .ref 83, .ref 84, .int 0, .ref 85, .ref 86, .ref 87, .ref 88, .ref 89, .ref 90, .ref 91, .ref 92, .int 0, .int 0, .ref 93, .ref 94, .int 0, .int (-1), .int (-1), .int 0, .int 0, .int 0, .ref 95, .ref 96, .int 0, .ref 97, .int 0, .ref 98, .ref 99, .int 0, .ref 100, .ref 101, .ref 102, .ref 103, .ref 104, .int 0, .ref 105, .int 1, .ref 106, .ref 107, .int 0, .ref 108, .ref 109, .int 0, .ref 110, .ref 111, .ref 112, .ref 113, .ref 114, .int 0, .int 0, .ref 115, .ref 116, .ref 117, .int 0, .int 0, .int 0, .int 0, .int 0, .ref 118, .ref 119, .ref 120, .int 0, .ref 121, .ref 122, .int 0, .ref 123, .ref 124, .int 0]), .inl (0, 240, .inl (fun _ => 0)), .inl (0, 240, .inl (fun _ => 0)), .inl (0, 242, .inl (fun _ => 0)), .inl (0, 242, .inl (upd (fun _ => 0) 0 0)), .inl (0, 242, .inl (upd (fun _ => 0) 0 0)), .inl (0, 6000, .inl (fun _ => 0)), .inl (0, 6000, .inl (fun _ => 0)), .inl (0, 600, .inl (fun _ => 0)), .inl (0, 600, .inl (fun _ => 0)), .inl (0, 600, .inl (fun _ => 0)), .inl (0, 600, .inl (fun _ => 0)), .inl (0, 600, .inl (fun _ => 0)), .inl (0, 600, .inl (fun _ => 0)), .inl (0, 600, .inl (fun _ => 0)), .inl (0, 600, .inl (fun _ => 0)), .inl (0, 600, .inl (fun _ => 0)), .inl (0, 600, .inl (fun _ => 0)), .inl (0, 600, .inl (fun _ => 0)), .inl (0, 60, .inl (fun _ => 0)), .inl (0, 60, .inl (fun _ => 0)), .inl (0, 60, .inl (fun _ => 0)), .inl (0, 60, .inl (fun _ => 0)), .inl (0, 60, .inl (fun _ => 0)), .inl (0, 60, .inl (fun _ => 0)), .inl (0, 60, .inl (fun _ => 0)), .inl (0, 60, .inl (fun _ => 0)), .inl (0, 60, .inl (fun _ => 0)), .inl (0, 60, .inl (fun _ => 0)), .inl (0, 8, .inl (fun _ => 0)), .inl (0, 8, .inl (fun _ => 0)), .inl (0, 5, .inl (fun _ => 0)), .inl (0, 4, .inl (fun _ => 0)), .inl (0, 4, .inl (fun _ => 0)), .inl (0, 60000, .inl (fun _ => 0)), .inl (0, 60000, .inl (fun _ => 0)), .inl (0, 60000, .inl (fun _ => 0)), .inl (0, 60000, .inl (fun _ => 0)), .inl (0, 60000, .inl (fun _ => 0)), .inl (0, 120000, .inl (fun _ => 0)), .inl (0, 400000, .inl (fun _ => 0)), .inl (0, 400000, .inl (fun _ => 0)), .inl (0, 3000, .inl (fun _ => 0)), .inl (0, 3000, .inl (fun _ => 0)), .inl (0, 20000, .inl (fun _ => 0)), .inl (1, 3000, .inl (fun _ => 0)), .inl (0, 3000, .inl (fun _ => 0)), .inl (0, 3000, .inl (fun _ => 0)), .inl (0, 3000, .inl (fun _ => 0)), .inl (0, 400000, .inl (fun _ => 0)), .inl (0, 400000, .inl (fun _ => 0)), .inl (0, 400000, .inl (fun _ => 0)), .inl (0, 3000, .inl (fun _ => 0)), .inl (1, 3000, .inl (fun _ => 0)), .inl (0, 3000, .inl (fun _ => 0)), .inl (0, 20000, .inl (fun _ => 0)), .inl (0, 4001, .inl (fun _ => 0)), .inl (0, 5, .inl (fun _ => 0)), .inl (1, 3000, .inl (fun _ => 0))], 0, 0)) (i := 66) (rest := [.int 0, .ref 69]) (rfl : mx_pg[36]? = some eX12_cut) rfl rfl rfl rfl ?_ ?_
    · refine mx_ends_go (rfl : mx_pg[35]? = some eX12_tokenAt) 10 (0, [(0, .ref 66), (1, .int 0), (2, .int 0)], [], [.inr (11, [.ref 1, .int 0, .int 1, .int (-1), .int (-1), .int (-1), .ref 2, .ref 7, .ref 18, .ref 38, .ref 55]), .inl (0, 240, .inl (fun _ => 0)), .inr (8, [.ref 3, .ref 4, .ref 5, .ref 6, .int 0, .int 0]), .inl (0, 240, .inl t), .inl (0, 240, .inl (fun _ => 0)), .inl (0, 240, .inl (fun _ => 0)), .inl (0, 240, .inl (fun _ => 0)), .inr (2, [.ref 2, .int 0]), .inr (9, [.ref 9, .ref 10, .int 2]), .inl (0, 256, .inl (fun _ => 0)), .inl (0, 256, .inl (fun _ => 0)), .inr (7, [.ref 8, .ref 12, .ref 13, .ref 14, .ref 15, .ref 16, .int 0, .ref 17, .int 0]), .inl (0, 1024, .inl (fun _ => 0)), .inl (0, 1024, .inl (fun _ => 0)), .inl (0, 1024, .inl (fun _ => 0)), .inl (0, 1024, .inl (fun _ => 0)), .inl (0, 1024, .inl (fun _ => 0)), .inl (0, 512, .inl (fun _ => 0)), .inr (1, [.ref 2, .ref 8, .ref 11, .ref 19, .ref 22, .ref 25, .ref 26, .ref 27, .ref 28, .int 0, .int 0, .int 0, .int 0, .int 0, .int 0]), .inr (4, [.ref 20, .ref 21, .int 0]), .inl (0, 8, .inl (fun _ => 0)), .inl (0, 8, .inl (fun _ => 0)), .inr (4, [.ref 23, .ref 24, .int 0]), .inl (0, 5, .inl (fun _ => 0)), .inl (0, 5, .inl (fun _ => 0)), .inl (0, 5, .inl (fun _ => 0)), .inl (0, 8, .inl (fun _ => 0)), .inl (0, 21, .inl (fun _ => 0)), .inl (0, 21, .inl (fun _ => 0)), .inr (3, [.ref 30, .ref 31, .ref 32, .int 0]), .inl (0, 1024, .inl (fun _ => 0)), .inl (0, 1024, .inl (fun _ => 0)), .inl (0, 1024, .inl (fun _ => 0)), .inr (0, [.ref 11, .ref 29, .ref 34, .ref 35, .ref 36, .ref 37, .int 0, .int 0, .int 0]), .inl (0, 32, .inl (fun _ => 0)), .inl (0, 32, .inl (fun _ => 0)), .inl (0, 128, .inl (fun _ => 0)), .inl (0, 128, .inl (fun _ => 0)), .inr (6, [.ref 11, .ref 29, .ref 33, .ref 39, .ref 46, .ref 53, .ref 54, .int 0, .int 0, .int 0, .int 0, .int 0, .int 0]), .inr (5, [.ref 40, .ref 41, .ref 42, .ref 43, .ref 44, .ref 45, .int 0]), .inl (0, 512, .inl (fun _ => 0)), .inl (0, 512, .inl (fun _ => 0)), .inl (0, 512, .inl (fun _ => 0)), .inl (0, 512, .inl (fun _ => 0)), .inl (0, 512, .inl (fun _ => 0)), .inl (0, 512, .inl (fun _ => 0)), .inr (5, [.ref 47, .ref 48, .ref 49, .ref 50, .ref 51, .ref 52, .int 0]), .inl (0, 512, .inl (fun _ => 0)), .inl (0, 512, .inl (fun _ => 0)), .inl (0, 512, .inl (fun _ => 0)), .inl (0, 512, .inl (fun _ => 0)), .inl (0, 512, .inl (fun _ => 0)), .inl (0, 512, .inl (fun _ => 0)), .inl (0, 32, .inl (fun _ => 0)), .inl (0, 4, .inl (fun _ => 0)), .inr (10, [.ref 18, .ref 8, .ref 11, .ref 29, .ref 33, .ref 56, .ref 63, .ref 64, .int 0, .ref 65, .int 0, .int (-1)]), .inr (5, [.ref 57, .ref 58, .ref 59, .ref 60, .ref 61, .ref 62, .int 0]), .inl (0, 512, .inl (fun _ => 0)), .inl (0, 512, .inl (fun _ => 0)), .inl (0, 512, .inl (fun _ => 0)), .inl (0, 512, .inl (fun _ => 0)), .inl (0, 512, .inl (fun _ => 0)), .inl (0, 512, .inl (fun _ => 0)), .inl (0, 32, .inl (fun _ => 0)), .inl (0, 128, .inl (fun _ => 0)), .inl (0, 4000, .inl (fun _ => 0)), .inr (12, [.ref 67, .int 0, .ref 68, .int 0, .ref 69, .ref 70, .ref 71, .int 0, .int 0, .int 2, .ref 72, .ref 73, .int 0, .ref 74, .ref 75, .ref 76, .ref 77, .ref 78, .ref 79, .ref 80, .ref 81, .ref 82, .ref 83, .ref 84, .int 0, .ref 85, .ref 86, .ref 87, .ref 88, .ref 89, .ref 90, .ref 91, .ref 92, .int 0, .int 0, .ref 93, .ref 94, .int 0, .int (-1), .int (-1), .int 0, .int 0, .int 0, .ref 95, .ref 96, .int 0, .ref 97, .int 0, .ref 98, .ref 99, .int 0, .ref 100, .ref 101, .ref 102, .ref 103, .ref 104, .int 0, .ref 105, .int 1, .ref 106, .ref 107, .int 0, .ref 108, .ref 109, .int 0, .ref 110, .ref 111, .ref 112, .ref 113, .ref 114, .int 0, .int 0, .ref 115, .ref 116, .ref 117, .int 0, .int 0, .int 0, .int 0, .int 0, .ref 118, .ref 119, .ref 120, .int 0, .ref 121, .ref 122, .int 0, .ref 123, .ref 124, .int 0]), .inl (0, 240, .inl (fun _ => 0)), .inl (0, 240, .inl (fun _ => 0)), .inl (0, 242, .inl (fun _ => 0)), .inl (0, 242, .inl (upd (fun _ => 0) 0 0)), .inl (0, 242, .inl (fun _ => 0)), .inl (0, 6000, .inl (fun _ => 0)), .inl (0, 6000, .inl (fun _ => 0)), .inl (0, 600, .inl (fun _ => 0)), .inl (0, 600, .inl (fun _ => 0)), .inl (0, 600, .inl (fun _ => 0)), .inl (0, 600, .inl (fun _ => 0)), .inl (0, 600, .inl (fun _ => 0)), .inl (0, 600, .inl (fun _ => 0)), .inl (0, 600, .inl (fun _ => 0)), .inl (0, 600, .inl (fun _ => 0)), .inl (0, 600, .inl (fun _ => 0)), .inl (0, 600, .inl (fun _ => 0)), .inl (0, 600, .inl (fun _ => 0)), .inl (0, 60, .inl (fun _ => 0)), .inl (0, 60, .inl (fun _ => 0)), .inl (0, 60, .inl (fun _ => 0)), .inl (0, 60, .inl (fun _ => 0)), .inl (0, 60, .inl (fun _ => 0)), .inl (0, 60, .inl (fun _ => 0)), .inl (0, 60, .inl (fun _ => 0)), .inl (0, 60, .inl (fun _ => 0)), .inl (0, 60, .inl (fun _ => 0)), .inl (0, 60, .inl (fun _ => 0)), .inl (0, 8, .inl (fun _ => 0)), .inl (0, 8, .inl (fun _ => 0)), .inl (0, 5, .inl (fun _ => 0)), .inl (0, 4, .inl (fun _ => 0)), .inl (0, 4, .inl (fun _ => 0)), .inl (0, 60000, .inl (fun _ => 0)), .inl (0, 60000, .inl (fun _ => 0)), .inl (0, 60000, .inl (fun _ => 0)), .inl (0, 60000, .inl (fun _ => 0)), .inl (0, 60000, .inl (fun _ => 0)), .inl (0, 120000, .inl (fun _ => 0)), .inl (0, 400000, .inl (fun _ => 0)), .inl (0, 400000, .inl (fun _ => 0)), .inl (0, 3000, .inl (fun _ => 0)), .inl (0, 3000, .inl (fun _ => 0)), .inl (0, 20000, .inl (fun _ => 0)), .inl (1, 3000, .inl (fun _ => 0)), .inl (0, 3000, .inl (fun _ => 0)), .inl (0, 3000, .inl (fun _ => 0)), .inl (0, 3000, .inl (fun _ => 0)), .inl (0, 400000, .inl (fun _ => 0)), .inl (0, 400000, .inl (fun _ => 0)), .inl (0, 400000, .inl (fun _ => 0)), .inl (0, 3000, .inl (fun _ => 0)), .inl (1, 3000, .inl (fun _ => 0)), .inl (0, 3000, .inl (fun _ => 0)), .inl (0, 20000, .inl (fun _ => 0)), .inl (0, 4001, .inl (fun _ => 0)), .inl (0, 5, .inl (fun _ => 0)), .inl (1, 3000, .inl (fun _ => 0))], 0, 0) (17, [(0, .ref 66), (1, .int 0), (2, .int 0)], [.int 7], [.inr (11, [.ref 1, .int 0, .int 1, .int (-1), .int (-1), .int (-1), .ref 2, .ref 7, .ref 18, .ref 38, .ref 55]), .inl (0, 240, .inl (fun _ => 0)), .inr (8, [.ref 3, .ref 4, .ref 5, .ref 6, .int 0, .int 0]), .inl (0, 240, .inl t), .inl (0, 240, .inl (fun _ => 0)), .inl (0, 240, .inl (fun _ => 0)), .inl (0, 240, .inl (fun _ => 0)), .inr (2, [.ref 2, .int 0]), .inr (9, [.ref 9, .ref 10, .int 2]), .inl (0, 256, .inl (fun _ => 0)), .inl (0, 256, .inl (fun _ => 0)), .inr (7, [.ref 8, .ref 12, .ref 13, .ref 14, .ref 15, .ref 16, .int 0, .ref 17, .int 0]), .inl (0, 1024, .inl (fun _ => 0)), .inl (0, 1024, .inl (fun _ => 0)), .inl (0, 1024, .inl (fun _ => 0)), .inl (0, 1024, .inl (fun _ => 0)), .inl (0, 1024, .inl (fun _ => 0)), .inl (0, 512, .inl (fun _ => 0)), .inr (1, [.ref 2, .ref 8, .ref 11, .ref 19, .ref 22, .ref 25, .ref 26, .ref 27, .ref 28, .int 0, .int 0, .int 0, .int 0, .int 0, .int 0]), .inr (4, [.ref 20, .ref 21, .int 0]), .inl (0, 8, .inl (fun _ => 0)), .inl (0, 8, .inl (fun _ => 0)), .inr (4, [.ref 23, .ref 24, .int 0]), .inl (0, 5, .inl (fun _ => 0)), .inl (0, 5, .inl (fun _ => 0)), .inl (0, 5, .inl (fun _ => 0)), .inl (0, 8, .inl (fun _ => 0)), .inl (0, 21, .inl (fun _ => 0)), .inl (0, 21, .inl (fun _ => 0)), .inr (3, [.ref 30, .ref 31, .ref 32, .int 0]), .inl (0, 1024, .inl (fun _ => 0)), .inl (0, 1024, .inl (fun _ => 0)), .inl (0, 1024, .inl (fun _ => 0)), .inr (0, [.ref 11, .ref 29, .ref 34, .ref 35, .ref 36, .ref 37, .int 0, .int 0, .int 0]), .inl (0, 32, .inl (fun _ => 0)), .inl (0, 32, .inl (fun _ => 0)), .inl (0, 128, .inl (fun _ => 0)), .inl (0, 128, .inl (fun _ => 0)), .inr (6, [.ref 11, .ref 29, .ref 33, .ref 39, .ref 46, .ref 53, .ref 54, .int 0, .int 0, .int 0, .int 0, .int 0, .int 0]), .inr (5, [.ref 40, .ref 41, .ref 42, .ref 43, .ref 44, .ref 45, .int 0]), .inl (0, 512, .inl (fun _ => 0)), .inl (0, 512, .inl (fun _ => 0)), .inl (0, 512, .inl (fun _ => 0)), .inl (0, 512, .inl (fun _ => 0)), .inl (0, 512, .inl (fun _ => 0)), .inl (0, 512, .inl (fun _ => 0)), .inr (5, [.ref 47, .ref 48, .ref 49, .ref 50, .ref 51, .ref 52, .int 0]), .inl (0, 512, .inl (fun _ => 0)), .inl (0, 512, .inl (fun _ => 0)), .inl (0, 512, .inl (fun _ => 0)), .inl (0, 512, .inl (fun _ => 0)), .inl (0, 512, .inl (fun _ => 0)), .inl (0, 512, .inl (fun _ => 0)), .inl (0, 32, .inl (fun _ => 0)), .inl (0, 4, .inl (fun _ => 0)), .inr (10, [.ref 18, .ref 8, .ref 11, .ref 29, .ref 33, .ref 56, .ref 63, .ref 64, .int 0, .ref 65, .int 0, .int (-1)]), .inr (5, [.ref 57, .ref 58, .ref 59, .ref 60, .ref 61, .ref 62, .int 0]), .inl (0, 512, .inl (fun _ => 0)), .inl (0, 512, .inl (fun _ => 0)), .inl (0, 512, .inl (fun _ => 0)), .inl (0, 512, .inl (fun _ => 0)), .inl (0, 512, .inl (fun _ => 0)), .inl (0, 512, .inl (fun _ => 0)), .inl (0, 32, .inl (fun _ => 0)), .inl (0, 128, .inl (fun _ => 0)), .inl (0, 4000, .inl (fun _ => 0)), .inr (12, [.ref 67, .int 0, .ref 68, .int 0, .ref 69, .ref 70, .ref 71, .int 0, .int 0, .int 2, .ref 72, .ref 73, .int 0, .ref 74, .ref 75, .ref 76, .ref 77, .ref 78, .ref 79, .ref 80, .ref 81, .ref 82, .ref 83, .ref 84, .int 0, .ref 85, .ref 86, .ref 87, .ref 88, .ref 89, .ref 90, .ref 91, .ref 92, .int 0, .int 0, .ref 93, .ref 94, .int 0, .int (-1), .int (-1), .int 0, .int 0, .int 0, .ref 95, .ref 96, .int 0, .ref 97, .int 0, .ref 98, .ref 99, .int 0, .ref 100, .ref 101, .ref 102, .ref 103, .ref 104, .int 0, .ref 105, .int 1, .ref 106, .ref 107, .int 0, .ref 108, .ref 109, .int 0, .ref 110, .ref 111, .ref 112, .ref 113, .ref 114, .int 0, .int 0, .ref 115, .ref 116, .ref 117, .int 0, .int 0, .int 0, .int 0, .int 0, .ref 118, .ref 119, .ref 120, .int 0, .ref 121, .ref 122, .int 0, .ref 123, .ref 124, .int 0]), .inl (0, 240, .inl (fun _ => 0)), .inl (0, 240, .inl (fun _ => 0)), .inl (0, 242, .inl (fun _ => 0)), .inl (0, 242, .inl (upd (fun _ => 0) 0 0)), .inl (0, 242, .inl (upd (fun _ => 0) 0 0)), .inl (0, 6000, .inl (fun _ => 0)), .inl (0, 6000, .inl (fun _ => 0)), .inl (0, 600, .inl (fun _ => 0)), .inl (0, 600, .inl (fun _ => 0)), .inl (0, 600, .inl (fun _ => 0)), .inl (0, 600, .inl (fun _ => 0)), .inl (0, 600, .inl (fun _ => 0)), .inl (0, 600, .inl (fun _ => 0)), .inl (0, 600, .inl (fun _ => 0)), .inl (0, 600, .inl (fun _ => 0)), .inl (0, 600, .inl (fun _ => 0)), .inl (0, 600, .inl (fun _ => 0)), .inl (0, 600, .inl (fun _ => 0)), .inl (0, 60, .inl (fun _ => 0)), .inl (0, 60, .inl (fun _ => 0)), .inl (0, 60, .inl (fun _ => 0)), .inl (0, 60, .inl (fun _ => 0)), .inl (0, 60, .inl (fun _ => 0)), .inl (0, 60, .inl (fun _ => 0)), .inl (0, 60, .inl (fun _ => 0)), .inl (0, 60, .inl (fun _ => 0)), .inl (0, 60, .inl (fun _ => 0)), .inl (0, 60, .inl (fun _ => 0)), .inl (0, 8, .inl (fun _ => 0)), .inl (0, 8, .inl (fun _ => 0)), .inl (0, 5, .inl (fun _ => 0)), .inl (0, 4, .inl (fun _ => 0)), .inl (0, 4, .inl (fun _ => 0)), .inl (0, 60000, .inl (fun _ => 0)), .inl (0, 60000, .inl (fun _ => 0)), .inl (0, 60000, .inl (fun _ => 0)), .inl (0, 60000, .inl (fun _ => 0)), .inl (0, 60000, .inl (fun _ => 0)), .inl (0, 120000, .inl (fun _ => 0)), .inl (0, 400000, .inl (fun _ => 0)), .inl (0, 400000, .inl (fun _ => 0)), .inl (0, 3000, .inl (fun _ => 0)), .inl (0, 3000, .inl (fun _ => 0)), .inl (0, 20000, .inl (fun _ => 0)), .inl (1, 3000, .inl (fun _ => 0)), .inl (0, 3000, .inl (fun _ => 0)), .inl (0, 3000, .inl (fun _ => 0)), .inl (0, 3000, .inl (fun _ => 0)), .inl (0, 400000, .inl (fun _ => 0)), .inl (0, 400000, .inl (fun _ => 0)), .inl (0, 400000, .inl (fun _ => 0)), .inl (0, 3000, .inl (fun _ => 0)), .inl (1, 3000, .inl (fun _ => 0)), .inl (0, 3000, .inl (fun _ => 0)), .inl (0, 20000, .inl (fun _ => 0)), .inl (0, 4001, .inl (fun _ => 0)), .inl (0, 5, .inl (fun _ => 0)), .inl (1, 3000, .inl (fun _ => 0))], 0, 0) rfl ?_
      exact mx_ends_iret (rfl : mx_pg[35]? = some eX12_tokenAt) rfl rfl
    refine mx_ends_go (rfl : mx_pg[36]? = some eX12_cut) 20 (82, [(3, .int 1), (2, .int 0), (1, .int 0), (0, .ref 66)], [.int 7, .int 0, .ref 69], [.inr (11, [.ref 1, .int 0, .int 1, .int (-1), .int (-1), .int (-1), .ref 2, .ref 7, .ref 18, .ref 38, .ref 55]), .inl (0, 240, .inl (fun _ => 0)), .inr (8, [.ref 3, .ref 4, .ref 5, .ref 6, .int 0, .int 0]), .inl (0, 240, .inl t), .inl (0, 240, .inl (fun _ => 0)), .inl (0, 240, .inl (fun _ => 0)), .inl (0, 240, .inl (fun _ => 0)), .inr (2, [.ref 2, .int 0]), .inr (9, [.ref 9, .ref 10, .int 2]), .inl (0, 256, .inl (fun _ => 0)), .inl (0, 256, .inl (fun _ => 0)), .inr (7, [.ref 8, .ref 12, .ref 13, .ref 14, .ref 15, .ref 16, .int 0, .ref 17, .int 0]), .inl (0, 1024, .inl (fun _ => 0)), .inl (0, 1024, .inl (fun _ => 0)), .inl (0, 1024, .inl (fun _ => 0)), .inl (0, 1024, .inl (fun _ => 0)), .inl (0, 1024, .inl (fun _ => 0)), .inl (0, 512, .inl (fun _ => 0)), .inr (1, [.ref 2, .ref 8, .ref 11, .ref 19, .ref 22, .ref 25, .ref 26, .ref 27, .ref 28, .int 0, .int 0, .int 0, .int 0, .int 0, .int 0]), .inr (4, [.ref 20, .ref 21, .int 0]), .inl (0, 8, .inl (fun _ => 0)), .inl (0, 8, .inl (fun _ => 0)), .inr (4, [.ref 23, .ref 24, .int 0]), .inl (0, 5, .inl (fun _ => 0)), .inl (0, 5, .inl (fun _ => 0)), .inl (0, 5, .inl (fun _ => 0)), .inl (0, 8, .inl (fun _ => 0)), .inl (0, 21, .inl (fun _ => 0)), .inl (0, 21, .inl (fun _ => 0)), .inr (3, [.ref 30, .ref 31, .ref 32, .int 0]), .inl (0, 1024, .inl (fun _ => 0)), .inl (0, 1024, .inl (fun _ => 0)), .inl (0, 1024, .inl (fun _ => 0)), .inr (0, [.ref 11, .ref 29, .ref 34, .ref 35, .ref 36, .ref 37, .int 0, .int 0, .int 0]), .inl (0, 32, .inl (fun _ => 0)), .inl (0, 32, .inl (fun _ => 0)), .inl (0, 128, .inl (fun _ => 0)), .inl (0, 128, .inl (fun _ => 0)), .inr (6, [.ref 11, .ref 29, .ref 33, .ref 39, .ref 46, .ref 53, .ref 54, .int 0, .int 0, .int 0, .int 0, .int 0, .int 0]), .inr (5, [.ref 40, .ref 41, .ref 42, .ref 43, .ref 44, .ref 45, .int 0]), .inl (0, 512, .inl (fun _ => 0)), .inl (0, 512, .inl (fun _ => 0)), .inl (0, 512, .inl (fun _ => 0)), .inl (0, 512, .inl (fun _ => 0)), .inl (0, 512, .inl (fun _ => 0)), .inl (0, 512, .inl (fun _ => 0)), .inr (5, [.ref 47, .ref 48, .ref 49, .ref 50, .ref 51, .ref 52, .int 0]), .inl (0, 512, .inl (fun _ => 0)), .inl (0, 512, .inl (fun _ => 0)), .inl (0, 512, .inl (fun _ => 0)), .inl (0, 512, .inl (fun _ => 0)), .inl (0, 512, .inl (fun _ => 0)), .inl (0, 512, .inl (fun _ => 0)), .inl (0, 32, .inl (fun _ => 0)), .inl (0, 4, .inl (fun _ => 0)), .inr (10, [.ref 18, .ref 8, .ref 11, .ref 29, .ref 33, .ref 56, .ref 63, .ref 64, .int 0, .ref 65, .int 0, .int (-1)]), .inr (5, [.ref 57, .ref 58, .ref 59, .ref 60, .ref 61, .ref 62, .int 0]), .inl (0, 512, .inl (fun _ => 0)), .inl (0, 512, .inl (fun _ => 0)), .inl (0, 512, .inl (fun _ => 0)), .inl (0, 512, .inl (fun _ => 0)), .inl (0, 512, .inl (fun _ => 0)), .inl (0, 512, .inl (fun _ => 0)), .inl (0, 32, .inl (fun _ => 0)), .inl (0, 128, .inl (fun _ => 0)), .inl (0, 4000, .inl (fun _ => 0)), .inr (12, [.ref 67, .int 0, .ref 68, .int 0, .ref 69, .ref 70, .ref 71, .int 0, .int 0, .int 2, .ref 72, .ref 73, .int 0, .ref 74, .ref 75, .ref 76, .ref 77, .ref 78, .ref 79, .ref 80, .ref 81, .ref 82, .ref 83, .ref 84, .int 0, .ref 85, .ref 86, .ref 87, .ref 88, .ref 89, .ref 90, .ref 91, .ref 92, .int 0, .int 0, .ref 93, .ref 94, .int 0, .int (-1), .int (-1), .int 0, .int 0, .int 0, .ref 95, .ref 96, .int 0, .ref 97, .int 0, .ref 98, .ref 99, .int 0, .ref 100, .ref 101, .ref 102, .ref 103, .ref 104, .int 0, .ref 105, .int 1, .ref 106, .ref 107, .int 0, .ref 108, .ref 109, .int 0, .ref 110, .ref 111, .ref 112, .ref 113, .ref 114, .int 0, .int 0, .ref 115, .ref 116, .ref 117, .int 0, .int 0, .int 0, .int 0, .int 0, .ref 118, .ref 119, .ref 120, .int 0, .ref 121, .ref 122, .int 0, .ref 123, .ref 124, .int 0]), .inl (0, 240, .inl (fun _ => 0)), .inl (0, 240, .inl (fun _ => 0)), .inl (0, 242, .inl (fun _ => 0)), .inl (0, 242, .inl (upd (fun _ => 0) 0 0)), .inl (0, 242, .inl (upd (fun _ => 0) 0 0)), .inl (0, 6000, .inl (fun _ => 0)), .inl (0, 6000, .inl (fun _ => 0)), .inl (0, 600, .inl (fun _ => 0)), .inl (0, 600, .inl (fun _ => 0)), .inl (0, 600, .inl (fun _ => 0)), .inl (0, 600, .inl (fun _ => 0)), .inl (0, 600, .inl (fun _ => 0)), .inl (0, 600, .inl (fun _ => 0)), .inl (0, 600, .inl (fun _ => 0)), .inl (0, 600, .inl (fun _ => 0)), .inl (0, 600, .inl (fun _ => 0)), .inl (0, 600, .inl (fun _ => 0)), .inl (0, 600, .inl (fun _ => 0)), .inl (0, 60, .inl (fun _ => 0)), .inl (0, 60, .inl (fun _ => 0)), .inl (0, 60, .inl (fun _ => 0)), .inl (0, 60, .inl (fun _ => 0)), .inl (0, 60, .inl (fun _ => 0)), .inl (0, 60, .inl (fun _ => 0)), .inl (0, 60, .inl (fun _ => 0)), .inl (0, 60, .inl (fun _ => 0)), .inl (0, 60, .inl (fun _ => 0)), .inl (0, 60, .inl (fun _ => 0)), .inl (0, 8, .inl (fun _ => 0)), .inl (0, 8, .inl (fun _ => 0)), .inl (0, 5, .inl (fun _ => 0)), .inl (0, 4, .inl (fun _ => 0)), .inl (0, 4, .inl (fun _ => 0)), .inl (0, 60000, .inl (fun _ => 0)), .inl (0, 60000, .inl (fun _ => 0)), .inl (0, 60000, .inl (fun _ => 0)), .inl (0, 60000, .inl (fun _ => 0)), .inl (0, 60000, .inl (fun _ => 0)), .inl (0, 120000, .inl (fun _ => 0)), .inl (0, 400000, .inl (fun _ => 0)), .inl (0, 400000, .inl (fun _ => 0)), .inl (0, 3000, .inl (fun _ => 0)), .inl (0, 3000, .inl (fun _ => 0)), .inl (0, 20000, .inl (fun _ => 0)), .inl (1, 3000, .inl (fun _ => 0)), .inl (0, 3000, .inl (fun _ => 0)), .inl (0, 3000, .inl (fun _ => 0)), .inl (0, 3000, .inl (fun _ => 0)), .inl (0, 400000, .inl (fun _ => 0)), .inl (0, 400000, .inl (fun _ => 0)), .inl (0, 400000, .inl (fun _ => 0)), .inl (0, 3000, .inl (fun _ => 0)), .inl (1, 3000, .inl (fun _ => 0)), .inl (0, 3000, .inl (fun _ => 0)), .inl (0, 20000, .inl (fun _ => 0)), .inl (0, 4001, .inl (fun _ => 0)), .inl (0, 5, .inl (fun _ => 0)), .inl (1, 3000, .inl (fun _ => 0))], 0, 0) (126, [(2, .int 1), (3, .int 0), (1, .int 0), (0, .ref 66)], [], [.inr (11, [.ref 1, .int 0, .int 1, .int (-1), .int (-1), .int (-1), .ref 2, .ref 7, .ref 18, .ref 38, .ref 55]), .inl (0, 240, .inl (fun _ => 0)), .inr (8, [.ref 3, .ref 4, .ref 5, .ref 6, .int 0, .int 0]), .inl (0, 240, .inl t), .inl (0, 240, .inl (fun _ => 0)), .inl (0, 240, .inl (fun _ => 0)), .inl (0, 240, .inl (fun _ => 0)), .inr (2, [.ref 2, .int 0]), .inr (9, [.ref 9, .ref 10, .int 2]), .inl (0, 256, .inl (fun _ => 0)), .inl (0, 256, .inl (fun _ => 0)), .inr (7, [.ref 8, .ref 12, .ref 13, .ref 14, .ref 15, .ref 16, .int 0, .ref 17, .int 0]), .inl (0, 1024, .inl (fun _ => 0)), .inl (0, 1024, .inl (fun _ => 0)), .inl (0, 1024, .inl (fun _ => 0)), .inl (0, 1024, .inl (fun _ => 0)), .inl (0, 1024, .inl (fun _ => 0)), .inl (0, 512, .inl (fun _ => 0)), .inr (1, [.ref 2, .ref 8, .ref 11, .ref 19, .ref 22, .ref 25, .ref 26, .ref 27, .ref 28, .int 0, .int 0, .int 0, .int 0, .int 0, .int 0]), .inr (4, [.ref 20, .ref 21, .int 0]), .inl (0, 8, .inl (fun _ => 0)), .inl (0, 8, .inl (fun _ => 0)), .inr (4, [.ref 23, .ref 24, .int 0]), .inl (0, 5, .inl (fun _ => 0)), .inl (0, 5, .inl (fun _ => 0)), .inl (0, 5, .inl (fun _ => 0)), .inl (0, 8, .inl (fun _ => 0)), .inl (0, 21, .inl (fun _ => 0)), .inl (0, 21, .inl (fun _ => 0)), .inr (3, [.ref 30, .ref 31, .ref 32, .int 0]), .inl (0, 1024, .inl (fun _ => 0)), .inl (0, 1024, .inl (fun _ => 0)), .inl (0, 1024, .inl (fun _ => 0)), .inr (0, [.ref 11, .ref 29, .ref 34, .ref 35, .ref 36, .ref 37, .int 0, .int 0, .int 0]), .inl (0, 32, .inl (fun _ => 0)), .inl (0, 32, .inl (fun _ => 0)), .inl (0, 128, .inl (fun _ => 0)), .inl (0, 128, .inl (fun _ => 0)), .inr (6, [.ref 11, .ref 29, .ref 33, .ref 39, .ref 46, .ref 53, .ref 54, .int 0, .int 0, .int 0, .int 0, .int 0, .int 0]), .inr (5, [.ref 40, .ref 41, .ref 42, .ref 43, .ref 44, .ref 45, .int 0]), .inl (0, 512, .inl (fun _ => 0)), .inl (0, 512, .inl (fun _ => 0)), .inl (0, 512, .inl (fun _ => 0)), .inl (0, 512, .inl (fun _ => 0)), .inl (0, 512, .inl (fun _ => 0)), .inl (0, 512, .inl (fun _ => 0)), .inr (5, [.ref 47, .ref 48, .ref 49, .ref 50, .ref 51, .ref 52, .int 0]), .inl (0, 512, .inl (fun _ => 0)), .inl (0, 512, .inl (fun _ => 0)), .inl (0, 512, .inl (fun _ => 0)), .inl (0, 512, .inl (fun _ => 0)), .inl (0, 512, .inl (fun _ => 0)), .inl (0, 512, .inl (fun _ => 0)), .inl (0, 32, .inl (fun _ => 0)), .inl (0, 4, .inl (fun _ => 0)), .inr (10, [.ref 18, .ref 8, .ref 11, .ref 29, .ref 33, .ref 56, .ref 63, .ref 64, .int 0, .ref 65, .int 0, .int (-1)]), .inr (5, [.ref 57, .ref 58, .ref 59, .ref 60, .ref 61, .ref 62, .int 0]), .inl (0, 512, .inl (fun _ => 0)), .inl (0, 512, .inl (fun _ => 0)), .inl (0, 512, .inl (fun _ => 0)), .inl (0, 512, .inl (fun _ => 0)), .inl (0, 512, .inl (fun _ => 0)), .inl (0, 512, .inl (fun _ => 0)), .inl (0, 32, .inl (fun _ => 0)), .inl (0, 128, .inl (fun _ => 0)), .inl (0, 4000, .inl (fun _ => 0)), .inr (12, [.ref 67, .int 0, .ref 68, .int 0, .ref 69, .ref 70, .ref 71, .int 0, .int 0, .int 2, .ref 72, .ref 73, .int 0, .ref 74, .ref 75, .ref 76, .ref 77, .ref 78, .ref 79, .ref 80, .ref 81, .ref 82, .ref 83, .ref 84, .int 0, .ref 85, .ref 86, .ref 87, .ref 88, .ref 89, .ref 90, .ref 91, .ref 92, .int 0, .int 0, .ref 93, .ref 94, .int 0, .int (-1), .int (-1), .int 0, .int 0, .int 0, .ref 95, .ref 96, .int 0, .ref 97, .int 0, .ref 98, .ref 99, .int 0, .ref 100, .ref 101, .ref 102, .ref 103, .ref 104, .int 0, .ref 105, .int 1, .ref 106, .ref 107, .int 0, .ref 108, .ref 109, .int 0, .ref 110, .ref 111, .ref 112, .ref 113, .ref 114, .int 0, .int 0, .ref 115, .ref 116, .ref 117, .int 0, .int 0, .int 0, .int 0, .int 0, .ref 118, .ref 119, .ref 120, .int 0, .ref 121, .ref 122, .int 0, .ref 123, .ref 124, .int 0]), .inl (0, 240, .inl (fun _ => 0)), .inl (0, 240, .inl (fun _ => 0)), .inl (0, 242, .inl (upd (fun _ => 0) 0 7)), .inl (0, 242, .inl (upd (fun _ => 0) 0 0)), .inl (0, 242, .inl (upd (fun _ => 0) 0 0)), .inl (0, 6000, .inl (fun _ => 0)), .inl (0, 6000, .inl (fun _ => 0)), .inl (0, 600, .inl (fun _ => 0)), .inl (0, 600, .inl (fun _ => 0)), .inl (0, 600, .inl (fun _ => 0)), .inl (0, 600, .inl (fun _ => 0)), .inl (0, 600, .inl (fun _ => 0)), .inl (0, 600, .inl (fun _ => 0)), .inl (0, 600, .inl (fun _ => 0)), .inl (0, 600, .inl (fun _ => 0)), .inl (0, 600, .inl (fun _ => 0)), .inl (0, 600, .inl (fun _ => 0)), .inl (0, 600, .inl (fun _ => 0)), .inl (0, 60, .inl (fun _ => 0)), .inl (0, 60, .inl (fun _ => 0)), .inl (0, 60, .inl (fun _ => 0)), .inl (0, 60, .inl (fun _ => 0)), .inl (0, 60, .inl (fun _ => 0)), .inl (0, 60, .inl (fun _ => 0)), .inl (0, 60, .inl (fun _ => 0)), .inl (0, 60, .inl (fun _ => 0)), .inl (0, 60, .inl (fun _ => 0)), .inl (0, 60, .inl (fun _ => 0)), .inl (0, 8, .inl (fun _ => 0)), .inl (0, 8, .inl (fun _ => 0)), .inl (0, 5, .inl (fun _ => 0)), .inl (0, 4, .inl (fun _ => 0)), .inl (0, 4, .inl (fun _ => 0)), .inl (0, 60000, .inl (fun _ => 0)), .inl (0, 60000, .inl (fun _ => 0)), .inl (0, 60000, .inl (fun _ => 0)), .inl (0, 60000, .inl (fun _ => 0)), .inl (0, 60000, .inl (fun _ => 0)), .inl (0, 120000, .inl (fun _ => 0)), .inl (0, 400000, .inl (fun _ => 0)), .inl (0, 400000, .inl (fun _ => 0)), .inl (0, 3000, .inl (fun _ => 0)), .inl (0, 3000, .inl (fun _ => 0)), .inl (0, 20000, .inl (fun _ => 0)), .inl (1, 3000, .inl (fun _ => 0)), .inl (0, 3000, .inl (fun _ => 0)), .inl (0, 3000, .inl (fun _ => 0)), .inl (0, 3000, .inl (fun _ => 0)), .inl (0, 400000, .inl (fun _ => 0)), .inl (0, 400000, .inl (fun _ => 0)), .inl (0, 400000, .inl (fun _ => 0)), .inl (0, 3000, .inl (fun _ => 0)), .inl (1, 3000, .inl (fun _ => 0)), .inl (0, 3000, .inl (fun _ => 0)), .inl (0, 20000, .inl (fun _ => 0)), .inl (0, 4001, .inl (fun _ => 0)), .inl (0, 5, .inl (fun _ => 0)), .inl (1, 3000, .inl (fun _ => 0))], 0, 0) rfl ?_
    refine mx_ends_go (rfl : mx_pg[36]? = some eX12_cut) 6 (126, [(2, .int 1), (3, .int 0), (1, .int 0), (0, .ref 66)], [], [.inr (11, [.ref 1, .int 0, .int 1, .int (-1), .int (-1), .int (-1), .ref 2, .ref 7, .ref 18, .ref 38, .ref 55]), .inl (0, 240, .inl (fun _ => 0)), .inr (8, [.ref 3, .ref 4, .ref 5, .ref 6, .int 0, .int 0]), .inl (0, 240, .inl t), .inl (0, 240, .inl (fun _ => 0)), .inl (0, 240, .inl (fun _ => 0)), .inl (0, 240, .inl (fun _ => 0)), .inr (2, [.ref 2, .int 0]), .inr (9, [.ref 9, .ref 10, .int 2]), .inl (0, 256, .inl (fun _ => 0)), .inl (0, 256, .inl (fun _ => 0)), .inr (7, [.ref 8, .ref 12, .ref 13, .ref 14, .ref 15, .ref 16, .int 0, .ref 17, .int 0]), .inl (0, 1024, .inl (fun _ => 0)), .inl (0, 1024, .inl (fun _ => 0)), .inl (0, 1024, .inl (fun _ => 0)), .inl (0, 1024, .inl (fun _ => 0)), .inl (0, 1024, .inl (fun _ => 0)), .inl (0, 512, .inl (fun _ => 0)), .inr (1, [.ref 2, .ref 8, .ref 11, .ref 19, .ref 22, .ref 25, .ref 26, .ref 27, .ref 28, .int 0, .int 0, .int 0, .int 0, .int 0, .int 0]), .inr (4, [.ref 20, .ref 21, .int 0]), .inl (0, 8, .inl (fun _ => 0)), .inl (0, 8, .inl (fun _ => 0)), .inr (4, [.ref 23, .ref 24, .int 0]), .inl (0, 5, .inl (fun _ => 0)), .inl (0, 5, .inl (fun _ => 0)), .inl (0, 5, .inl (fun _ => 0)), .inl (0, 8, .inl (fun _ => 0)), .inl (0, 21, .inl (fun _ => 0)), .inl (0, 21, .inl (fun _ => 0)), .inr (3, [.ref 30, .ref 31, .ref 32, .int 0]), .inl (0, 1024, .inl (fun _ => 0)), .inl (0, 1024, .inl (fun _ => 0)), .inl (0, 1024, .inl (fun _ => 0)), .inr (0, [.ref 11, .ref 29, .ref 34, .ref 35, .ref 36, .ref 37, .int 0, .int 0, .int 0]), .inl (0, 32, .inl (fun _ => 0)), .inl (0, 32, .inl (fun _ => 0)), .inl (0, 128, .inl (fun _ => 0)), .inl (0, 128, .inl (fun _ => 0)), .inr (6, [.ref 11, .ref 29, .ref 33, .ref 39, .ref 46, .ref 53, .ref 54, .int 0, .int 0, .int 0, .int 0, .int 0, .int 0]), .inr (5, [.ref 40, .ref 41, .ref 42, .ref 43, .ref 44, .ref 45, .int 0]), .inl (0, 512, .inl (fun _ => 0)), .inl (0, 512, .inl (fun _ => 0)), .inl (0, 512, .inl (fun _ => 0)), .inl (0, 512, .inl (fun _ => 0)), .inl (0, 512, .inl (fun _ => 0)), .inl (0, 512, .inl (fun _ => 0)), .inr (5, [.ref 47, .ref 48, .ref 49, .ref 50, .ref 51, .ref 52, .int 0]), .inl (0, 512, .inl (fun _ => 0)), .inl (0, 512, .inl (fun _ => 0)), .inl (0, 512, .inl (fun _ => 0)), .inl (0, 512, .inl (fun _ => 0)), .inl (0, 512, .inl (fun _ => 0)), .inl (0, 512, .inl (fun _ => 0)), .inl (0, 32, .inl (fun _ => 0)), .inl (0, 4, .inl (fun _ => 0)), .inr (10, [.ref 18, .ref 8, .ref 11, .ref 29, .ref 33, .ref 56, .ref 63, .ref 64, .int 0, .ref 65, .int 0, .int (-1)]), .inr (5, [.ref 57, .ref 58, .ref 59, .ref 60, .ref 61, .ref 62, .int 0]), .inl (0, 512, .inl (fun _ => 0)), .inl (0, 512, .inl (fun _ => 0)), .inl (0, 512, .inl (fun _ => 0)), .inl (0, 512, .inl (fun _ => 0)), .inl (0, 512, .inl (fun _ => 0)), .inl (0, 512, .inl (fun _ => 0)), .inl (0, 32, .inl (fun _ => 0)), .inl (0, 128, .inl (fun _ => 0)), .inl (0, 4000, .inl (fun _ => 0)), .inr (12, [.ref 67, .int 0, .ref 68, .int 0, .ref 69, .ref 70, .ref 71, .int 0, .int 0, .int 2, .ref 72, .ref 73, .int 0, .ref 74, .ref 75, .ref 76, .ref 77, .ref 78, .ref 79, .ref 80, .ref 81, .ref 82, .ref 83, .ref 84, .int 0, .ref 85, .ref 86, .ref 87, .ref 88, .ref 89, .ref 90, .ref 91, .ref 92, .int 0, .int 0, .ref 93, .ref 94, .int 0, .int (-1), .int (-1), .int 0, .int 0, .int 0, .ref 95, .ref 96, .int 0, .ref 97, .int 0, .ref 98, .ref 99, .int 0, .ref 100, .ref 101, .ref 102, .ref 103, .ref 104, .int 0, .ref 105, .int 1, .ref 106, .ref 107, .int 0, .ref 108, .ref 109, .int 0, .ref 110, .ref 111, .ref 112, .ref 113, .ref 114, .int 0, .int 0, .ref 115, .ref 116, .ref 117, .int 0, .int 0, .int 0, .int 0, .int 0, .ref 118, .ref 119, .ref 120, .int 0, .ref 121, .ref 122, .int 0, .ref 123, .ref 124, .int 0]), .inl (0, 240, .inl (fun _ => 0)), .inl (0, 240, .inl (fun _ => 0)), .inl (0, 242, .inl (upd (fun _ => 0) 0 7)), .inl (0, 242, .inl (upd (fun _ => 0) 0 0)), .inl (0, 242, .inl (upd (fun _ => 0) 0 0)), .inl (0, 6000, .inl (fun _ => 0)), .inl (0, 6000, .inl (fun _ => 0)), .inl (0, 600, .inl (fun _ => 0)), .inl (0, 600, .inl (fun _ => 0)), .inl (0, 600, .inl (fun _ => 0)), .inl (0, 600, .inl (fun _ => 0)), .inl (0, 600, .inl (fun _ => 0)), .inl (0, 600, .inl (fun _ => 0)), .inl (0, 600, .inl (fun _ => 0)), .inl (0, 600, .inl (fun _ => 0)), .inl (0, 600, .inl (fun _ => 0)), .inl (0, 600, .inl (fun _ => 0)), .inl (0, 600, .inl (fun _ => 0)), .inl (0, 60, .inl (fun _ => 0)), .inl (0, 60, .inl (fun _ => 0)), .inl (0, 60, .inl (fun _ => 0)), .inl (0, 60, .inl (fun _ => 0)), .inl (0, 60, .inl (fun _ => 0)), .inl (0, 60, .inl (fun _ => 0)), .inl (0, 60, .inl (fun _ => 0)), .inl (0, 60, .inl (fun _ => 0)), .inl (0, 60, .inl (fun _ => 0)), .inl (0, 60, .inl (fun _ => 0)), .inl (0, 8, .inl (fun _ => 0)), .inl (0, 8, .inl (fun _ => 0)), .inl (0, 5, .inl (fun _ => 0)), .inl (0, 4, .inl (fun _ => 0)), .inl (0, 4, .inl (fun _ => 0)), .inl (0, 60000, .inl (fun _ => 0)), .inl (0, 60000, .inl (fun _ => 0)), .inl (0, 60000, .inl (fun _ => 0)), .inl (0, 60000, .inl (fun _ => 0)), .inl (0, 60000, .inl (fun _ => 0)), .inl (0, 120000, .inl (fun _ => 0)), .inl (0, 400000, .inl (fun _ => 0)), .inl (0, 400000, .inl (fun _ => 0)), .inl (0, 3000, .inl (fun _ => 0)), .inl (0, 3000, .inl (fun _ => 0)), .inl (0, 20000, .inl (fun _ => 0)), .inl (1, 3000, .inl (fun _ => 0)), .inl (0, 3000, .inl (fun _ => 0)), .inl (0, 3000, .inl (fun _ => 0)), .inl (0, 3000, .inl (fun _ => 0)), .inl (0, 400000, .inl (fun _ => 0)), .inl (0, 400000, .inl (fun _ => 0)), .inl (0, 400000, .inl (fun _ => 0)), .inl (0, 3000, .inl (fun _ => 0)), .inl (1, 3000, .inl (fun _ => 0)), .inl (0, 3000, .inl (fun _ => 0)), .inl (0, 20000, .inl (fun _ => 0)), .inl (0, 4001, .inl (fun _ => 0)), .inl (0, 5, .inl (fun _ => 0)), .inl (1, 3000, .inl (fun _ => 0))], 0, 0) (136, [(2, .int 1), (3, .int 0), (1, .int 0), (0, .ref 66)], [], [.inr (11, [.ref 1, .int 0, .int 1, .int (-1), .int (-1), .int (-1), .ref 2, .ref 7, .ref 18, .ref 38, .ref 55]), .inl (0, 240, .inl (fun _ => 0)), .inr (8, [.ref 3, .ref 4, .ref 5, .ref 6, .int 0, .int 0]), .inl (0, 240, .inl t), .inl (0, 240, .inl (fun _ => 0)), .inl (0, 240, .inl (fun _ => 0)), .inl (0, 240, .inl (fun _ => 0)), .inr (2, [.ref 2, .int 0]), .inr (9, [.ref 9, .ref 10, .int 2]), .inl (0, 256, .inl (fun _ => 0)), .inl (0, 256, .inl (fun _ => 0)), .inr (7, [.ref 8, .ref 12, .ref 13, .ref 14, .ref 15, .ref 16, .int 0, .ref 17, .int 0]), .inl (0, 1024, .inl (fun _ => 0)), .inl (0, 1024, .inl (fun _ => 0)), .inl (0, 1024, .inl (fun _ => 0)), .inl (0, 1024, .inl (fun _ => 0)), .inl (0, 1024, .inl (fun _ => 0)), .inl (0, 512, .inl (fun _ => 0)), .inr (1, [.ref 2, .ref 8, .ref 11, .ref 19, .ref 22, .ref 25, .ref 26, .ref 27, .ref 28, .int 0, .int 0, .int 0, .int 0, .int 0, .int 0]), .inr (4, [.ref 20, .ref 21, .int 0]), .inl (0, 8, .inl (fun _ => 0)), .inl (0, 8, .inl (fun _ => 0)), .inr (4, [.ref 23, .ref 24, .int 0]), .inl (0, 5, .inl (fun _ => 0)), .inl (0, 5, .inl (fun _ => 0)), .inl (0, 5, .inl (fun _ => 0)), .inl (0, 8, .inl (fun _ => 0)), .inl (0, 21, .inl (fun _ => 0)), .inl (0, 21, .inl (fun _ => 0)), .inr (3, [.ref 30, .ref 31, .ref 32, .int 0]), .inl (0, 1024, .inl (fun _ => 0)), .inl (0, 1024, .inl (fun _ => 0)), .inl (0, 1024, .inl (fun _ => 0)), .inr (0, [.ref 11, .ref 29, .ref 34, .ref 35, .ref 36, .ref 37, .int 0, .int 0, .int 0]), .inl (0, 32, .inl (fun _ => 0)), .inl (0, 32, .inl (fun _ => 0)), .inl (0, 128, .inl (fun _ => 0)), .inl (0, 128, .inl (fun _ => 0)), .inr (6, [.ref 11, .ref 29, .ref 33, .ref 39, .ref 46, .ref 53, .ref 54, .int 0, .int 0, .int 0, .int 0, .int 0, .int 0]), .inr (5, [.ref 40, .ref 41, .ref 42, .ref 43, .ref 44, .ref 45, .int 0]), .inl (0, 512, .inl (fun _ => 0)), .inl (0, 512, .inl (fun _ => 0)), .inl (0, 512, .inl (fun _ => 0)), .inl (0, 512, .inl (fun _ => 0)), .inl (0, 512, .inl (fun _ => 0)), .inl (0, 512, .inl (fun _ => 0)), .inr (5, [.ref 47, .ref 48, .ref 49, .ref 50, .ref 51, .ref 52, .int 0]), .inl (0, 512, .inl (fun _ => 0)), .inl (0, 512, .inl (fun _ => 0)), .inl (0, 512, .inl (fun _ => 0)), .inl (0, 512, .inl (fun _ => 0)), .inl (0, 512, .inl (fun _ => 0)), .inl (0, 512, .inl (fun _ => 0)), .inl (0, 32, .inl (fun _ => 0)), .inl (0, 4, .inl (fun _ => 0)), .inr (10, [.ref 18, .ref 8, .ref 11, .ref 29, .ref 33, .ref 56, .ref 63, .ref 64, .int 0, .ref 65, .int 0, .int (-1)]), .inr (5, [.ref 57, .ref 58, .ref 59, .ref 60, .ref 61, .ref 62, .int 0]), .inl (0, 512, .inl (fun _ => 0)), .inl (0, 512, .inl (fun _ => 0)), .inl (0, 512, .inl (fun _ => 0)), .inl (0, 512, .inl (fun _ => 0)), .inl (0, 512, .inl (fun _ => 0)), .inl (0, 512, .inl (fun _ => 0)), .inl (0, 32, .inl (fun _ => 0)), .inl (0, 128, .inl (fun _ => 0)), .inl (0, 4000, .inl (fun _ => 0)), .inr (12, [.ref 67, .int 0, .ref 68, .int 0, .ref 69, .ref 70, .ref 71, .int 0, .int 0, .int 2, .ref 72, .ref 73, .int 0, .ref 74, .ref 75, .ref 76, .ref 77, .ref 78, .ref 79, .ref 80, .ref 81, .ref 82, .ref 83, .ref 84, .int 0, .ref 85, .ref 86, .ref 87, .ref 88, .ref 89, .ref 90, .ref 91, .ref 92, .int 0, .int 0, .ref 93, .ref 94, .int 0, .int (-1), .int (-1), .int 0, .int 0, .int 0, .ref 95, .ref 96, .int 0, .ref 97, .int 0, .ref 98, .ref 99, .int 0, .ref 100, .ref 101, .ref 102, .ref 103, .ref 104, .int 0, .ref 105, .int 1, .ref 106, .ref 107, .int 0, .ref 108, .ref 109, .int 0, .ref 110, .ref 111, .ref 112, .ref 113, .ref 114, .int 0, .int 0, .ref 115, .ref 116, .ref 117, .int 0, .int 0, .int 0, .int 0, .int 0, .ref 118, .ref 119, .ref 120, .int 0, .ref 121, .ref 122, .int 0, .ref 123, .ref 124, .int 0]), .inl (0, 240, .inl (fun _ => 0)), .inl (0, 240, .inl (fun _ => 0)), .inl (0, 242, .inl (upd (fun _ => 0) 0 7)), .inl (0, 242, .inl (upd (fun _ => 0) 0 0)), .inl (0, 242, .inl (upd (fun _ => 0) 0 0)), .inl (0, 6000, .inl (fun _ => 0)), .inl (0, 6000, .inl (fun _ => 0)), .inl (0, 600, .inl (fun _ => 0)), .inl (0, 600, .inl (fun _ => 0)), .inl (0, 600, .inl (fun _ => 0)), .inl (0, 600, .inl (fun _ => 0)), .inl (0, 600, .inl (fun _ => 0)), .inl (0, 600, .inl (fun _ => 0)), .inl (0, 600, .inl (fun _ => 0)), .inl (0, 600, .inl (fun _ => 0)), .inl (0, 600, .inl (fun _ => 0)), .inl (0, 600, .inl (fun _ => 0)), .inl (0, 600, .inl (fun _ => 0)), .inl (0, 60, .inl (fun _ => 0)), .inl (0, 60, .inl (fun _ => 0)), .inl (0, 60, .inl (fun _ => 0)), .inl (0, 60, .inl (fun _ => 0)), .inl (0, 60, .inl (fun _ => 0)), .inl (0, 60, .inl (fun _ => 0)), .inl (0, 60, .inl (fun _ => 0)), .inl (0, 60, .inl (fun _ => 0)), .inl (0, 60, .inl (fun _ => 0)), .inl (0, 60, .inl (fun _ => 0)), .inl (0, 8, .inl (fun _ => 0)), .inl (0, 8, .inl (fun _ => 0)), .inl (0, 5, .inl (fun _ => 0)), .inl (0, 4, .inl (fun _ => 0)), .inl (0, 4, .inl (fun _ => 0)), .inl (0, 60000, .inl (fun _ => 0)), .inl (0, 60000, .inl (fun _ => 0)), .inl (0, 60000, .inl (fun _ => 0)), .inl (0, 60000, .inl (fun _ => 0)), .inl (0, 60000, .inl (fun _ => 0)), .inl (0, 120000, .inl (fun _ => 0)), .inl (0, 400000, .inl (fun _ => 0)), .inl (0, 400000, .inl (fun _ => 0)), .inl (0, 3000, .inl (fun _ => 0)), .inl (0, 3000, .inl (fun _ => 0)), .inl (0, 20000, .inl (fun _ => 0)), .inl (1, 3000, .inl (fun _ => 0)), .inl (0, 3000, .inl (fun _ => 0)), .inl (0, 3000, .inl (fun _ => 0)), .inl (0, 3000, .inl (fun _ => 0)), .inl (0, 400000, .inl (fun _ => 0)), .inl (0, 400000, .inl (fun _ => 0)), .inl (0, 400000, .inl (fun _ => 0)), .inl (0, 3000, .inl (fun _ => 0)), .inl (1, 3000, .inl (fun _ => 0)), .inl (0, 3000, .inl (fun _ => 0)), .inl (0, 20000, .inl (fun _ => 0)), .inl (0, 4001, .inl (fun _ => 0)), .inl (0, 5, .inl (fun _ => 0)), .inl (1, 3000, .inl (fun _ => 0))], 0, 0) rfl ?_
    exact mx_ends_vret (rfl : mx_pg[36]? = some eX12_cut) rfl rfl
  refine mx_ends_go (rfl : mx_pg[38]? = some eX12_load) 1 (118, [(2, .int 0), (0, .ref 66), (1, .int 0)], [], [.inr (11, [.ref 1, .int 0, .int 1, .int (-1), .int (-1), .int (-1), .ref 2, .ref 7, .ref 18, .ref 38, .ref 55]), .inl (0, 240, .inl (fun _ => 0)), .inr (8, [.ref 3, .ref 4, .ref 5, .ref 6, .int 0, .int 0]), .inl (0, 240, .inl t), .inl (0, 240, .inl (fun _ => 0)), .inl (0, 240, .inl (fun _ => 0)), .inl (0, 240, .inl (fun _ => 0)), .inr (2, [.ref 2, .int 0]), .inr (9, [.ref 9, .ref 10, .int 2]), .inl (0, 256, .inl (fun _ => 0)), .inl (0, 256, .inl (fun _ => 0)), .inr (7, [.ref 8, .ref 12, .ref 13, .ref 14, .ref 15, .ref 16, .int 0, .ref 17, .int 0]), .inl (0, 1024, .inl (fun _ => 0)), .inl (0, 1024, .inl (fun _ => 0)), .inl (0, 1024, .inl (fun _ => 0)), .inl (0, 1024, .inl (fun _ => 0)), .inl (0, 1024, .inl (fun _ => 0)), .inl (0, 512, .inl (fun _ => 0)), .inr (1, [.ref 2, .ref 8, .ref 11, .ref 19, .ref 22, .ref 25, .ref 26, .ref 27, .ref 28, .int 0, .int 0, .int 0, .int 0, .int 0, .int 0]), .inr (4, [.ref 20, .ref 21, .int 0]), .inl (0, 8, .inl (fun _ => 0)), .inl (0, 8, .inl (fun _ => 0)), .inr (4, [.ref 23, .ref 24, .int 0]), .inl (0, 5, .inl (fun _ => 0)), .inl (0, 5, .inl (fun _ => 0)), .inl (0, 5, .inl (fun _ => 0)), .inl (0, 8, .inl (fun _ => 0)), .inl (0, 21, .inl (fun _ => 0)), .inl (0, 21, .inl (fun _ => 0)), .inr (3, [.ref 30, .ref 31, .ref 32, .int 0]), .inl (0, 1024, .inl (fun _ => 0)), .inl (0, 1024, .inl (fun _ => 0)), .inl (0, 1024, .inl (fun _ => 0)), .inr (0, [.ref 11, .ref 29, .ref 34, .ref 35, .ref 36, .ref 37, .int 0, .int 0, .int 0]), .inl (0, 32, .inl (fun _ => 0)), .inl (0, 32, .inl (fun _ => 0)), .inl (0, 128, .inl (fun _ => 0)), .inl (0, 128, .inl (fun _ => 0)), .inr (6, [.ref 11, .ref 29, .ref 33, .ref 39, .ref 46, .ref 53, .ref 54, .int 0, .int 0, .int 0, .int 0, .int 0, .int 0]), .inr (5, [.ref 40, .ref 41, .ref 42, .ref 43, .ref 44, .ref 45, .int 0]), .inl (0, 512, .inl (fun _ => 0)), .inl (0, 512, .inl (fun _ => 0)), .inl (0, 512, .inl (fun _ => 0)), .inl (0, 512, .inl (fun _ => 0)), .inl (0, 512, .inl (fun _ => 0)), .inl (0, 512, .inl (fun _ => 0)), .inr (5, [.ref 47, .ref 48, .ref 49, .ref 50, .ref 51, .ref 52, .int 0]), .inl (0, 512, .inl (fun _ => 0)), .inl (0, 512, .inl (fun _ => 0)), .inl (0, 512, .inl (fun _ => 0)), .inl (0, 512, .inl (fun _ => 0)), .inl (0, 512, .inl (fun _ => 0)), .inl (0, 512, .inl (fun _ => 0)), .inl (0, 32, .inl (fun _ => 0)), .inl (0, 4, .inl (fun _ => 0)), .inr (10, [.ref 18, .ref 8, .ref 11, .ref 29, .ref 33, .ref 56, .ref 63, .ref 64, .int 0, .ref 65, .int 0, .int (-1)]), .inr (5, [.ref 57, .ref 58, .ref 59, .ref 60, .ref 61, .ref 62, .int 0]), .inl (0, 512, .inl (fun _ => 0)), .inl (0, 512, .inl (fun _ => 0)), .inl (0, 512, .inl (fun _ => 0)), .inl (0, 512, .inl (fun _ => 0)), .inl (0, 512, .inl (fun _ => 0)), .inl (0, 512, .inl (fun _ => 0)), .inl (0, 32, .inl (fun _ => 0)), .inl (0, 128, .inl (fun _ => 0)), .inl (0, 4000, .inl (fun _ => 0)), .inr (12, [.ref 67, .int 0, .ref 68, .int 0, .ref 69, .ref 70, .ref 71, .int 0, .int 0, .int 2, .ref 72, .ref 73, .int 0, .ref 74, .ref 75, .ref 76, .ref 77, .ref 78, .ref 79, .ref 80, .ref 81, .ref 82, .ref 83, .ref 84, .int 0, .ref 85, .ref 86, .ref 87, .ref 88, .ref 89, .ref 90, .ref 91, .ref 92, .int 0, .int 0, .ref 93, .ref 94, .int 0, .int (-1), .int (-1), .int 0, .int 0, .int 0, .ref 95, .ref 96, .int 0, .ref 97, .int 0, .ref 98, .ref 99, .int 0, .ref 100, .ref 101, .ref 102, .ref 103, .ref 104, .int 0, .ref 105, .int 1, .ref 106, .ref 107, .int 0, .ref 108, .ref 109, .int 0, .ref 110, .ref 111, .ref 112, .ref 113, .ref 114, .int 0, .int 0, .ref 115, .ref 116, .ref 117, .int 0, .int 0, .int 0, .int 0, .int 0, .ref 118, .ref 119, .ref 120, .int 0, .ref 121, .ref 122, .int 0, .ref 123, .ref 124, .int 0]), .inl (0, 240, .inl (fun _ => 0)), .inl (0, 240, .inl (fun _ => 0)), .inl (0, 242, .inl (upd (fun _ => 0) 0 7)), .inl (0, 242, .inl (upd (fun _ => 0) 0 0)), .inl (0, 242, .inl (upd (fun _ => 0) 0 0)), .inl (0, 6000, .inl (fun _ => 0)), .inl (0, 6000, .inl (fun _ => 0)), .inl (0, 600, .inl (fun _ => 0)), .inl (0, 600, .inl (fun _ => 0)), .inl (0, 600, .inl (fun _ => 0)), .inl (0, 600, .inl (fun _ => 0)), .inl (0, 600, .inl (fun _ => 0)), .inl (0, 600, .inl (fun _ => 0)), .inl (0, 600, .inl (fun _ => 0)), .inl (0, 600, .inl (fun _ => 0)), .inl (0, 600, .inl (fun _ => 0)), .inl (0, 600, .inl (fun _ => 0)), .inl (0, 600, .inl (fun _ => 0)), .inl (0, 60, .inl (fun _ => 0)), .inl (0, 60, .inl (fun _ => 0)), .inl (0, 60, .inl (fun _ => 0)), .inl (0, 60, .inl (fun _ => 0)), .inl (0, 60, .inl (fun _ => 0)), .inl (0, 60, .inl (fun _ => 0)), .inl (0, 60, .inl (fun _ => 0)), .inl (0, 60, .inl (fun _ => 0)), .inl (0, 60, .inl (fun _ => 0)), .inl (0, 60, .inl (fun _ => 0)), .inl (0, 8, .inl (fun _ => 0)), .inl (0, 8, .inl (fun _ => 0)), .inl (0, 5, .inl (fun _ => 0)), .inl (0, 4, .inl (fun _ => 0)), .inl (0, 4, .inl (fun _ => 0)), .inl (0, 60000, .inl (fun _ => 0)), .inl (0, 60000, .inl (fun _ => 0)), .inl (0, 60000, .inl (fun _ => 0)), .inl (0, 60000, .inl (fun _ => 0)), .inl (0, 60000, .inl (fun _ => 0)), .inl (0, 120000, .inl (fun _ => 0)), .inl (0, 400000, .inl (fun _ => 0)), .inl (0, 400000, .inl (fun _ => 0)), .inl (0, 3000, .inl (fun _ => 0)), .inl (0, 3000, .inl (fun _ => 0)), .inl (0, 20000, .inl (fun _ => 0)), .inl (1, 3000, .inl (fun _ => 0)), .inl (0, 3000, .inl (fun _ => 0)), .inl (0, 3000, .inl (fun _ => 0)), .inl (0, 3000, .inl (fun _ => 0)), .inl (0, 400000, .inl (fun _ => 0)), .inl (0, 400000, .inl (fun _ => 0)), .inl (0, 400000, .inl (fun _ => 0)), .inl (0, 3000, .inl (fun _ => 0)), .inl (1, 3000, .inl (fun _ => 0)), .inl (0, 3000, .inl (fun _ => 0)), .inl (0, 20000, .inl (fun _ => 0)), .inl (0, 4001, .inl (fun _ => 0)), .inl (0, 5, .inl (fun _ => 0)), .inl (1, 3000, .inl (fun _ => 0))], 0, 0) (119, [(2, .int 0), (0, .ref 66), (1, .int 0)], [.ref 66], [.inr (11, [.ref 1, .int 0, .int 1, .int (-1), .int (-1), .int (-1), .ref 2, .ref 7, .ref 18, .ref 38, .ref 55]), .inl (0, 240, .inl (fun _ => 0)), .inr (8, [.ref 3, .ref 4, .ref 5, .ref 6, .int 0, .int 0]), .inl (0, 240, .inl t), .inl (0, 240, .inl (fun _ => 0)), .inl (0, 240, .inl (fun _ => 0)), .inl (0, 240, .inl (fun _ => 0)), .inr (2, [.ref 2, .int 0]), .inr (9, [.ref 9, .ref 10, .int 2]), .inl (0, 256, .inl (fun _ => 0)), .inl (0, 256, .inl (fun _ => 0)), .inr (7, [.ref 8, .ref 12, .ref 13, .ref 14, .ref 15, .ref 16, .int 0, .ref 17, .int 0]), .inl (0, 1024, .inl (fun _ => 0)), .inl (0, 1024, .inl (fun _ => 0)), .inl (0, 1024, .inl (fun _ => 0)), .inl (0, 1024, .inl (fun _ => 0)), .inl (0, 1024, .inl (fun _ => 0)), .inl (0, 512, .inl (fun _ => 0)), .inr (1, [.ref 2, .ref 8, .ref 11, .ref 19, .ref 22, .ref 25, .ref 26, .ref 27, .ref 28, .int 0, .int 0, .int 0, .int 0, .int 0, .int 0]), .inr (4, [.ref 20, .ref 21, .int 0]), .inl (0, 8, .inl (fun _ => 0)), .inl (0, 8, .inl (fun _ => 0)), .inr (4, [.ref 23, .ref 24, .int 0]), .inl (0, 5, .inl (fun _ => 0)), .inl (0, 5, .inl (fun _ => 0)), .inl (0, 5, .inl (fun _ => 0)), .inl (0, 8, .inl (fun _ => 0)), .inl (0, 21, .inl (fun _ => 0)), .inl (0, 21, .inl (fun _ => 0)), .inr (3, [.ref 30, .ref 31, .ref 32, .int 0]), .inl (0, 1024, .inl (fun _ => 0)), .inl (0, 1024, .inl (fun _ => 0)), .inl (0, 1024, .inl (fun _ => 0)), .inr (0, [.ref 11, .ref 29, .ref 34, .ref 35, .ref 36, .ref 37, .int 0, .int 0, .int 0]), .inl (0, 32, .inl (fun _ => 0)), .inl (0, 32, .inl (fun _ => 0)), .inl (0, 128, .inl (fun _ => 0)), .inl (0, 128, .inl (fun _ => 0)), .inr (6, [.ref 11, .ref 29, .ref 33, .ref 39, .ref 46, .ref 53, .ref 54, .int 0, .int 0, .int 0, .int 0, .int 0, .int 0]), .inr (5, [.ref 40, .ref 41, .ref 42, .ref 43, .ref 44, .ref 45, .int 0]), .inl (0, 512, .inl (fun _ => 0)), .inl (0, 512, .inl (fun _ => 0)), .inl (0, 512, .inl (fun _ => 0)), .inl (0, 512, .inl (fun _ => 0)), .inl (0, 512, .inl (fun _ => 0)), .inl (0, 512, .inl (fun _ => 0)), .inr (5, [.ref 47, .ref 48, .ref 49, .ref 50, .ref 51, .ref 52, .int 0]), .inl (0, 512, .inl (fun _ => 0)), .inl (0, 512, .inl (fun _ => 0)), .inl (0, 512, .inl (fun _ => 0)), .inl (0, 512, .inl (fun _ => 0)), .inl (0, 512, .inl (fun _ => 0)), .inl (0, 512, .inl (fun _ => 0)), .inl (0, 32, .inl (fun _ => 0)), .inl (0, 4, .inl (fun _ => 0)), .inr (10, [.ref 18, .ref 8, .ref 11, .ref 29, .ref 33, .ref 56, .ref 63, .ref 64, .int 0, .ref 65, .int 0, .int (-1)]), .inr (5, [.ref 57, .ref 58, .ref 59, .ref 60, .ref 61, .ref 62, .int 0]), .inl (0, 512, .inl (fun _ => 0)), .inl (0, 512, .inl (fun _ => 0)), .inl (0, 512, .inl (fun _ => 0)), .inl (0, 512, .inl (fun _ => 0)), .inl (0, 512, .inl (fun _ => 0)), .inl (0, 512, .inl (fun _ => 0)), .inl (0, 32, .inl (fun _ => 0)), .inl (0, 128, .inl (fun _ => 0)), .inl (0, 4000, .inl (fun _ => 0)), .inr (12, [.ref 67, .int 0, .ref 68, .int 0, .ref 69, .ref 70, .ref 71, .int 0, .int 0, .int 2, .ref 72, .ref 73, .int 0, .ref 74, .ref 75, .ref 76, .ref 77, .ref 78, .ref 79, .ref 80, .ref 81, .ref 82, .ref 83, .ref 84, .int 0, .ref 85, .ref 86, .ref 87, .ref 88, .ref 89, .ref 90, .ref 91, .ref 92, .int 0, .int 0, .ref 93, .ref 94, .int 0, .int (-1), .int (-1), .int 0, .int 0, .int 0, .ref 95, .ref 96, .int 0, .ref 97, .int 0, .ref 98, .ref 99, .int 0, .ref 100, .ref 101, .ref 102, .ref 103, .ref 104, .int 0, .ref 105, .int 1, .ref 106, .ref 107, .int 0, .ref 108, .ref 109, .int 0, .ref 110, .ref 111, .ref 112, .ref 113, .ref 114, .int 0, .int 0, .ref 115, .ref 116, .ref 117, .int 0, .int 0, .int 0, .int 0, .int 0, .ref 118, .ref 119, .ref 120, .int 0, .ref 121, .ref 122, .int 0, .ref 123, .ref 124, .int 0]), .inl (0, 240, .inl (fun _ => 0)), .inl (0, 240, .inl (fun _ => 0)), .inl (0, 242, .inl (upd (fun _ => 0) 0 7)), .inl (0, 242, .inl (upd (fun _ => 0) 0 0)), .inl (0, 242, .inl (upd (fun _ => 0) 0 0)), .inl (0, 6000, .inl (fun _ => 0)), .inl (0, 6000, .inl (fun _ => 0)), .inl (0, 600, .inl (fun _ => 0)), .inl (0, 600, .inl (fun _ => 0)), .inl (0, 600, .inl (fun _ => 0)), .inl (0, 600, .inl (fun _ => 0)), .inl (0, 600, .inl (fun _ => 0)), .inl (0, 600, .inl (fun _ => 0)), .inl (0, 600, .inl (fun _ => 0)), .inl (0, 600, .inl (fun _ => 0)), .inl (0, 600, .inl (fun _ => 0)), .inl (0, 600, .inl (fun _ => 0)), .inl (0, 600, .inl (fun _ => 0)), .inl (0, 60, .inl (fun _ => 0)), .inl (0, 60, .inl (fun _ => 0)), .inl (0, 60, .inl (fun _ => 0)), .inl (0, 60, .inl (fun _ => 0)), .inl (0, 60, .inl (fun _ => 0)), .inl (0, 60, .inl (fun _ => 0)), .inl (0, 60, .inl (fun _ => 0)), .inl (0, 60, .inl (fun _ => 0)), .inl (0, 60, .inl (fun _ => 0)), .inl (0, 60, .inl (fun _ => 0)), .inl (0, 8, .inl (fun _ => 0)), .inl (0, 8, .inl (fun _ => 0)), .inl (0, 5, .inl (fun _ => 0)), .inl (0, 4, .inl (fun _ => 0)), .inl (0, 4, .inl (fun _ => 0)), .inl (0, 60000, .inl (fun _ => 0)), .inl (0, 60000, .inl (fun _ => 0)), .inl (0, 60000, .inl (fun _ => 0)), .inl (0, 60000, .inl (fun _ => 0)), .inl (0, 60000, .inl (fun _ => 0)), .inl (0, 120000, .inl (fun _ => 0)), .inl (0, 400000, .inl (fun _ => 0)), .inl (0, 400000, .inl (fun _ => 0)), .inl (0, 3000, .inl (fun _ => 0)), .inl (0, 3000, .inl (fun _ => 0)), .inl (0, 20000, .inl (fun _ => 0)), .inl (1, 3000, .inl (fun _ => 0)), .inl (0, 3000, .inl (fun _ => 0)), .inl (0, 3000, .inl (fun _ => 0)), .inl (0, 3000, .inl (fun _ => 0)), .inl (0, 400000, .inl (fun _ => 0)), .inl (0, 400000, .inl (fun _ => 0)), .inl (0, 400000, .inl (fun _ => 0)), .inl (0, 3000, .inl (fun _ => 0)), .inl (1, 3000, .inl (fun _ => 0)), .inl (0, 3000, .inl (fun _ => 0)), .inl (0, 20000, .inl (fun _ => 0)), .inl (0, 4001, .inl (fun _ => 0)), .inl (0, 5, .inl (fun _ => 0)), .inl (1, 3000, .inl (fun _ => 0))], 0, 0) rfl ?_
  refine mx_ends_V (r1 := (none, [.inr (11, [.ref 1, .int 0, .int 1, .int (-1), .int (-1), .int (-1), .ref 2, .ref 7, .ref 18, .ref 38, .ref 55]), .inl (0, 240, .inl (fun _ => 0)), .inr (8, [.ref 3, .ref 4, .ref 5, .ref 6, .int 0, .int 0]), .inl (0, 240, .inl t), .inl (0, 240, .inl (fun _ => 0)), .inl (0, 240, .inl (fun _ => 0)), .inl (0, 240, .inl (fun _ => 0)), .inr (2, [.ref 2, .int 0]), .inr (9, [.ref 9, .ref 10, .int 2]), .inl (0, 256, .inl (fun _ => 0)), .inl (0, 256, .inl (fun _ => 0)), .inr (7, [.ref 8, .ref 12, .ref 13, .ref 14, .ref 15, .ref 16, .int 0, .ref 17, .int 0]), .inl (0, 1024, .inl (fun _ => 0)), .inl (0, 1024, .inl (fun _ => 0)), .inl (0, 1024, .inl (fun _ => 0)), .inl (0, 1024, .inl (fun _ => 0)), .inl (0, 1024, .inl (fun _ => 0)), .inl (0, 512, .inl (fun _ => 0)), .inr (1, [.ref 2, .ref 8, .ref 11, .ref 19, .ref 22, .ref 25, .ref 26, .ref 27, .ref 28, .int 0, .int 0, .int 0, .int 0, .int 0, .int 0]), .inr (4, [.ref 20, .ref 21, .int 0]), .inl (0, 8, .inl (fun _ => 0)), .inl (0, 8, .inl (fun _ => 0)), .inr (4, [.ref 23, .ref 24, .int 0]), .inl (0, 5, .inl (fun _ => 0)), .inl (0, 5, .inl (fun _ => 0)), .inl (0, 5, .inl (fun _ => 0)), .inl (0, 8, .inl (fun _ => 0)), .inl (0, 21, .inl (fun _ => 0)), .inl (0, 21, .inl (fun _ => 0)), .inr (3, [.ref 30, .ref 31, .ref 32, .int 0]), .inl (0, 1024, .inl (fun _ => 0)), .inl (0, 1024, .inl (fun _ => 0)), .inl (0, 1024, .inl (fun _ => 0)), .inr (0, [.ref 11, .ref 29, .ref 34, .ref 35, .ref 36, .ref 37, .int 0, .int 0, .int 0]), .inl (0, 32, .inl (fun _ => 0)), .inl (0, 32, .inl (fun _ => 0)), .inl (0, 128, .inl (fun _ => 0)), .inl (0, 128, .inl (fun _ => 0)), .inr (6, [.ref 11, .ref 29, .ref 33, .ref 39, .ref 46, .ref 53, .ref 54, .int 0, .int 0, .int 0, .int 0, .int 0, .int 0]), .inr (5, [.ref 40, .ref 41, .ref 42, .ref 43, .ref 44, .ref 45, .int 0]), .inl (0, 512, .inl (fun _ => 0)), .inl (0, 512, .inl (fun _ => 0)), .inl (0, 512, .inl (fun _ => 0)), .inl (0, 512, .inl (fun _ => 0)), .inl (0, 512, .inl (fun _ => 0)), .inl (0, 512, .inl (fun _ => 0)), .inr (5, [.ref 47, .ref 48, .ref 49, .ref 50, .ref 51, .ref 52, .int 0]), .inl (0, 512, .inl (fun _ => 0)), .inl (0, 512, .inl (fun _ => 0)), .inl (0, 512, .inl (fun _ => 0)), .inl (0, 512, .inl (fun _ => 0)), .inl (0, 512, .inl (fun _ => 0)), .inl (0, 512, .inl (fun _ => 0)), .inl (0, 32, .inl (fun _ => 0)), .inl (0, 4, .inl (fun _ => 0)), .inr (10, [.ref 18, .ref 8, .ref 11, .ref 29, .ref 33, .ref 56, .ref 63, .ref 64, .int 0, .ref 65, .int 0, .int (-1)]), .inr (5, [.ref 57, .ref 58, .ref 59, .ref 60, .ref 61, .ref 62, .int 0]), .inl (0, 512, .inl (fun _ => 0)), .inl (0, 512, .inl (fun _ => 0)), .inl (0, 512, .inl (fun _ => 0)), .inl (0, 512, .inl (fun _ => 0)), .inl (0, 512, .inl (fun _ => 0)), .inl (0, 512, .inl (fun _ => 0)), .inl (0, 32, .inl (fun _ => 0)), .inl (0, 128, .inl (fun _ => 0)), .inl (0, 4000, .inl (fun _ => 0)), .inr (12, [.ref 67, .int 0, .ref 68, .int 0, .ref 69, .ref 70, .ref 71, .int 0, .int 0, .int 2, .ref 72, .ref 73, .int 0, .ref 74, .ref 75, .ref 76, .ref 77, .ref 78, .ref 79, .ref 80, .ref 81, .ref 82, .ref 83, .ref 84, .int 0, .ref 85, .ref 86, .ref 87, .ref 88, .ref 89, .ref 90, .ref 91, .ref 92, .int 0, .int 0, .ref 93, .ref 94, .int 0, .int (-1), .int (-1), .int 0, .int 0, .int 0, .ref 95, .ref 96, .int 0, .ref 97, .int 0, .ref 98, .ref 99, .int 0, .ref 100, .ref 101, .ref 102, .ref 103, .ref 104, .int 0, .ref 105, .int 1, .ref 106, .ref 107, .int 0, .ref 108, .ref 109, .int 0, .ref 110, .ref 111, .ref 112, .ref 113, .ref 114, .int 0, .int 0, .ref 115, .ref 116, .ref 117, .int 0, .int 0, .int 0, .int 0, .int 0, .ref 118, .ref 119, .ref 120, .int 0, .ref 121, .ref 122, .int 0, .ref 123, .ref 124, .int 0]), .inl (0, 240, .inl (fun _ => 0)), .inl (0, 240, .inl (fun _ => 0)), .inl (0, 242, .inl (upd (fun _ => 0) 0 7)), .inl (0, 242, .inl (upd (fun _ => 0) 0 0)), .inl (0, 242, .inl (upd (fun _ => 0) 0 0)), .inl (0, 6000, .inl (fun _ => 0)), .inl (0, 6000, .inl (fun _ => 0)), .inl (0, 600, .inl (fun _ => 0)), .inl (0, 600, .inl (fun _ => 0)), .inl (0, 600, .inl (fun _ => 0)), .inl (0, 600, .inl (fun _ => 0)), .inl (0, 600, .inl (fun _ => 0)), .inl (0, 600, .inl (fun _ => 0)), .inl (0, 600, .inl (fun _ => 0)), .inl (0, 600, .inl (fun _ => 0)), .inl (0, 600, .inl (fun _ => 0)), .inl (0, 600, .inl (fun _ => 0)), .inl (0, 600, .inl (fun _ => 0)), .inl (0, 60, .inl (fun _ => 0)), .inl (0, 60, .inl (fun _ => 0)), .inl (0, 60, .inl (fun _ => 0)), .inl (0, 60, .inl (fun _ => 0)), .inl (0, 60, .inl (fun _ => 0)), .inl (0, 60, .inl (fun _ => 0)), .inl (0, 60, .inl (fun _ => 0)), .inl (0, 60, .inl (fun _ => 0)), .inl (0, 60, .inl (fun _ => 0)), .inl (0, 60, .inl (fun _ => 0)), .inl (0, 8, .inl (fun _ => 0)), .inl (0, 8, .inl (fun _ => 0)), .inl (0, 5, .inl (fun _ => 0)), .inl (0, 4, .inl (fun _ => 0)), .inl (0, 4, .inl (fun _ => 0)), .inl (0, 60000, .inl (fun _ => 0)), .inl (0, 60000, .inl (fun _ => 0)), .inl (0, 60000, .inl (fun _ => 0)), .inl (0, 60000, .inl (fun _ => 0)), .inl (0, 60000, .inl (fun _ => 0)), .inl (0, 120000, .inl (fun _ => 0)), .inl (0, 400000, .inl (fun _ => 0)), .inl (0, 400000, .inl (fun _ => 0)), .inl (0, 3000, .inl (fun _ => 0)), .inl (0, 3000, .inl (fun _ => 0)), .inl (0, 20000, .inl (fun _ => 0)), .inl (1, 3000, .inl (fun _ => 0)), .inl (0, 3000, .inl (fun _ => 0)), .inl (0, 3000, .inl (fun _ => 0)), .inl (0, 3000, .inl (fun _ => 0)), .inl (0, 400000, .inl (fun _ => 0)), .inl (0, 400000, .inl (fun _ => 0)), .inl (0, 400000, .inl (fun _ => 0)), .inl (0, 3000, .inl (fun _ => 0)), .inl (1, 3000, .inl (fun _ => 0)), .inl (0, 3000, .inl (fun _ => 0)), .inl (0, 20000, .inl (fun _ => 0)), .inl (0, 4001, .inl (fun _ => 0)), .inl (0, 5, .inl (fun _ => 0)), .inl (1, 3000, .inl (fun _ => 0))], 0, 0)) (i := 66) (rest := []) (rfl : mx_pg[38]? = some eX12_load) rfl rfl rfl rfl ?_ ?_
  · refine mx_ends_go (rfl : mx_pg[37]? = some eX12_read) 10 (0, [(0, .ref 66)], [], [.inr (11, [.ref 1, .int 0, .int 1, .int (-1), .int (-1), .int (-1), .ref 2, .ref 7, .ref 18, .ref 38, .ref 55]), .inl (0, 240, .inl (fun _ => 0)), .inr (8, [.ref 3, .ref 4, .ref 5, .ref 6, .int 0, .int 0]), .inl (0, 240, .inl t), .inl (0, 240, .inl (fun _ => 0)), .inl (0, 240, .inl (fun _ => 0)), .inl (0, 240, .inl (fun _ => 0)), .inr (2, [.ref 2, .int 0]), .inr (9, [.ref 9, .ref 10, .int 2]), .inl (0, 256, .inl (fun _ => 0)), .inl (0, 256, .inl (fun _ => 0)), .inr (7, [.ref 8, .ref 12, .ref 13, .ref 14, .ref 15, .ref 16, .int 0, .ref 17, .int 0]), .inl (0, 1024, .inl (fun _ => 0)), .inl (0, 1024, .inl (fun _ => 0)), .inl (0, 1024, .inl (fun _ => 0)), .inl (0, 1024, .inl (fun _ => 0)), .inl (0, 1024, .inl (fun _ => 0)), .inl (0, 512, .inl (fun _ => 0)), .inr (1, [.ref 2, .ref 8, .ref 11, .ref 19, .ref 22, .ref 25, .ref 26, .ref 27, .ref 28, .int 0, .int 0, .int 0, .int 0, .int 0, .int 0]), .inr (4, [.ref 20, .ref 21, .int 0]), .inl (0, 8, .inl (fun _ => 0)), .inl (0, 8, .inl (fun _ => 0)), .inr (4, [.ref 23, .ref 24, .int 0]), .inl (0, 5, .inl (fun _ => 0)), .inl (0, 5, .inl (fun _ => 0)), .inl (0, 5, .inl (fun _ => 0)), .inl (0, 8, .inl (fun _ => 0)), .inl (0, 21, .inl (fun _ => 0)), .inl (0, 21, .inl (fun _ => 0)), .inr (3, [.ref 30, .ref 31, .ref 32, .int 0]), .inl (0, 1024, .inl (fun _ => 0)), .inl (0, 1024, .inl (fun _ => 0)), .inl (0, 1024, .inl (fun _ => 0)), .inr (0, [.ref 11, .ref 29, .ref 34, .ref 35, .ref 36, .ref 37, .int 0, .int 0, .int 0]), .inl (0, 32, .inl (fun _ => 0)), .inl (0, 32, .inl (fun _ => 0)), .inl (0, 128, .inl (fun _ => 0)), .inl (0, 128, .inl (fun _ => 0)), .inr (6, [.ref 11, .ref 29, .ref 33, .ref 39, .ref 46, .ref 53, .ref 54, .int 0, .int 0, .int 0, .int 0, .int 0, .int 0]), .inr (5, [.ref 40, .ref 41, .ref 42, .ref 43, .ref 44, .ref 45, .int 0]), .inl (0, 512, .inl (fun _ => 0)), .inl (0, 512, .inl (fun _ => 0)), .inl (0, 512, .inl (fun _ => 0)), .inl (0, 512, .inl (fun _ => 0)), .inl (0, 512, .inl (fun _ => 0)), .inl (0, 512, .inl (fun _ => 0)), .inr (5, [.ref 47, .ref 48, .ref 49, .ref 50, .ref 51, .ref 52, .int 0]), .inl (0, 512, .inl (fun _ => 0)), .inl (0, 512, .inl (fun _ => 0)), .inl (0, 512, .inl (fun _ => 0)), .inl (0, 512, .inl (fun _ => 0)), .inl (0, 512, .inl (fun _ => 0)), .inl (0, 512, .inl (fun _ => 0)), .inl (0, 32, .inl (fun _ => 0)), .inl (0, 4, .inl (fun _ => 0)), .inr (10, [.ref 18, .ref 8, .ref 11, .ref 29, .ref 33, .ref 56, .ref 63, .ref 64, .int 0, .ref 65, .int 0, .int (-1)]), .inr (5, [.ref 57, .ref 58, .ref 59, .ref 60, .ref 61, .ref 62, .int 0]), .inl (0, 512, .inl (fun _ => 0)), .inl (0, 512, .inl (fun _ => 0)), .inl (0, 512, .inl (fun _ => 0)), .inl (0, 512, .inl (fun _ => 0)), .inl (0, 512, .inl (fun _ => 0)), .inl (0, 512, .inl (fun _ => 0)), .inl (0, 32, .inl (fun _ => 0)), .inl (0, 128, .inl (fun _ => 0)), .inl (0, 4000, .inl (fun _ => 0)), .inr (12, [.ref 67, .int 0, .ref 68, .int 0, .ref 69, .ref 70, .ref 71, .int 0, .int 0, .int 2, .ref 72, .ref 73, .int 0, .ref 74, .ref 75, .ref 76, .ref 77, .ref 78, .ref 79, .ref 80, .ref 81, .ref 82, .ref 83, .ref 84, .int 0, .ref 85, .ref 86, .ref 87, .ref 88, .ref 89, .ref 90, .ref 91, .ref 92, .int 0, .int 0, .ref 93, .ref 94, .int 0, .int (-1), .int (-1), .int 0, .int 0, .int 0, .ref 95, .ref 96, .int 0, .ref 97, .int 0, .ref 98, .ref 99, .int 0, .ref 100, .ref 101, .ref 102, .ref 103, .ref 104, .int 0, .ref 105, .int 1, .ref 106, .ref 107, .int 0, .ref 108, .ref 109, .int 0, .ref 110, .ref 111, .ref 112, .ref 113, .ref 114, .int 0, .int 0, .ref 115, .ref 116, .ref 117, .int 0, .int 0, .int 0, .int 0, .int 0, .ref 118, .ref 119, .ref 120, .int 0, .ref 121, .ref 122, .int 0, .ref 123, .ref 124, .int 0]), .inl (0, 240, .inl (fun _ => 0)), .inl (0, 240, .inl (fun _ => 0)), .inl (0, 242, .inl (upd (fun _ => 0) 0 7)), .inl (0, 242, .inl (upd (fun _ => 0) 0 0)), .inl (0, 242, .inl (upd (fun _ => 0) 0 0)), .inl (0, 6000, .inl (fun _ => 0)), .inl (0, 6000, .inl (fun _ => 0)), .inl (0, 600, .inl (fun _ => 0)), .inl (0, 600, .inl (fun _ => 0)), .inl (0, 600, .inl (fun _ => 0)), .inl (0, 600, .inl (fun _ => 0)), .inl (0, 600, .inl (fun _ => 0)), .inl (0, 600, .inl (fun _ => 0)), .inl (0, 600, .inl (fun _ => 0)), .inl (0, 600, .inl (fun _ => 0)), .inl (0, 600, .inl (fun _ => 0)), .inl (0, 600, .inl (fun _ => 0)), .inl (0, 600, .inl (fun _ => 0)), .inl (0, 60, .inl (fun _ => 0)), .inl (0, 60, .inl (fun _ => 0)), .inl (0, 60, .inl (fun _ => 0)), .inl (0, 60, .inl (fun _ => 0)), .inl (0, 60, .inl (fun _ => 0)), .inl (0, 60, .inl (fun _ => 0)), .inl (0, 60, .inl (fun _ => 0)), .inl (0, 60, .inl (fun _ => 0)), .inl (0, 60, .inl (fun _ => 0)), .inl (0, 60, .inl (fun _ => 0)), .inl (0, 8, .inl (fun _ => 0)), .inl (0, 8, .inl (fun _ => 0)), .inl (0, 5, .inl (fun _ => 0)), .inl (0, 4, .inl (fun _ => 0)), .inl (0, 4, .inl (fun _ => 0)), .inl (0, 60000, .inl (fun _ => 0)), .inl (0, 60000, .inl (fun _ => 0)), .inl (0, 60000, .inl (fun _ => 0)), .inl (0, 60000, .inl (fun _ => 0)), .inl (0, 60000, .inl (fun _ => 0)), .inl (0, 120000, .inl (fun _ => 0)), .inl (0, 400000, .inl (fun _ => 0)), .inl (0, 400000, .inl (fun _ => 0)), .inl (0, 3000, .inl (fun _ => 0)), .inl (0, 3000, .inl (fun _ => 0)), .inl (0, 20000, .inl (fun _ => 0)), .inl (1, 3000, .inl (fun _ => 0)), .inl (0, 3000, .inl (fun _ => 0)), .inl (0, 3000, .inl (fun _ => 0)), .inl (0, 3000, .inl (fun _ => 0)), .inl (0, 400000, .inl (fun _ => 0)), .inl (0, 400000, .inl (fun _ => 0)), .inl (0, 400000, .inl (fun _ => 0)), .inl (0, 3000, .inl (fun _ => 0)), .inl (1, 3000, .inl (fun _ => 0)), .inl (0, 3000, .inl (fun _ => 0)), .inl (0, 20000, .inl (fun _ => 0)), .inl (0, 4001, .inl (fun _ => 0)), .inl (0, 5, .inl (fun _ => 0)), .inl (1, 3000, .inl (fun _ => 0))], 0, 0) (251, [(0, .ref 66)], [], [.inr (11, [.ref 1, .int 0, .int 1, .int (-1), .int (-1), .int (-1), .ref 2, .ref 7, .ref 18, .ref 38, .ref 55]), .inl (0, 240, .inl (fun _ => 0)), .inr (8, [.ref 3, .ref 4, .ref 5, .ref 6, .int 0, .int 0]), .inl (0, 240, .inl t), .inl (0, 240, .inl (fun _ => 0)), .inl (0, 240, .inl (fun _ => 0)), .inl (0, 240, .inl (fun _ => 0)), .inr (2, [.ref 2, .int 0]), .inr (9, [.ref 9, .ref 10, .int 2]), .inl (0, 256, .inl (fun _ => 0)), .inl (0, 256, .inl (fun _ => 0)), .inr (7, [.ref 8, .ref 12, .ref 13, .ref 14, .ref 15, .ref 16, .int 0, .ref 17, .int 0]), .inl (0, 1024, .inl (fun _ => 0)), .inl (0, 1024, .inl (fun _ => 0)), .inl (0, 1024, .inl (fun _ => 0)), .inl (0, 1024, .inl (fun _ => 0)), .inl (0, 1024, .inl (fun _ => 0)), .inl (0, 512, .inl (fun _ => 0)), .inr (1, [.ref 2, .ref 8, .ref 11, .ref 19, .ref 22, .ref 25, .ref 26, .ref 27, .ref 28, .int 0, .int 0, .int 0, .int 0, .int 0, .int 0]), .inr (4, [.ref 20, .ref 21, .int 0]), .inl (0, 8, .inl (fun _ => 0)), .inl (0, 8, .inl (fun _ => 0)), .inr (4, [.ref 23, .ref 24, .int 0]), .inl (0, 5, .inl (fun _ => 0)), .inl (0, 5, .inl (fun _ => 0)), .inl (0, 5, .inl (fun _ => 0)), .inl (0, 8, .inl (fun _ => 0)), .inl (0, 21, .inl (fun _ => 0)), .inl (0, 21, .inl (fun _ => 0)), .inr (3, [.ref 30, .ref 31, .ref 32, .int 0]), .inl (0, 1024, .inl (fun _ => 0)), .inl (0, 1024, .inl (fun _ => 0)), .inl (0, 1024, .inl (fun _ => 0)), .inr (0, [.ref 11, .ref 29, .ref 34, .ref 35, .ref 36, .ref 37, .int 0, .int 0, .int 0]), .inl (0, 32, .inl (fun _ => 0)), .inl (0, 32, .inl (fun _ => 0)), .inl (0, 128, .inl (fun _ => 0)), .inl (0, 128, .inl (fun _ => 0)), .inr (6, [.ref 11, .ref 29, .ref 33, .ref 39, .ref 46, .ref 53, .ref 54, .int 0, .int 0, .int 0, .int 0, .int 0, .int 0]), .inr (5, [.ref 40, .ref 41, .ref 42, .ref 43, .ref 44, .ref 45, .int 0]), .inl (0, 512, .inl (fun _ => 0)), .inl (0, 512, .inl (fun _ => 0)), .inl (0, 512, .inl (fun _ => 0)), .inl (0, 512, .inl (fun _ => 0)), .inl (0, 512, .inl (fun _ => 0)), .inl (0, 512, .inl (fun _ => 0)), .inr (5, [.ref 47, .ref 48, .ref 49, .ref 50, .ref 51, .ref 52, .int 0]), .inl (0, 512, .inl (fun _ => 0)), .inl (0, 512, .inl (fun _ => 0)), .inl (0, 512, .inl (fun _ => 0)), .inl (0, 512, .inl (fun _ => 0)), .inl (0, 512, .inl (fun _ => 0)), .inl (0, 512, .inl (fun _ => 0)), .inl (0, 32, .inl (fun _ => 0)), .inl (0, 4, .inl (fun _ => 0)), .inr (10, [.ref 18, .ref 8, .ref 11, .ref 29, .ref 33, .ref 56, .ref 63, .ref 64, .int 0, .ref 65, .int 0, .int (-1)]), .inr (5, [.ref 57, .ref 58, .ref 59, .ref 60, .ref 61, .ref 62, .int 0]), .inl (0, 512, .inl (fun _ => 0)), .inl (0, 512, .inl (fun _ => 0)), .inl (0, 512, .inl (fun _ => 0)), .inl (0, 512, .inl (fun _ => 0)), .inl (0, 512, .inl (fun _ => 0)), .inl (0, 512, .inl (fun _ => 0)), .inl (0, 32, .inl (fun _ => 0)), .inl (0, 128, .inl (fun _ => 0)), .inl (0, 4000, .inl (fun _ => 0)), .inr (12, [.ref 67, .int 0, .ref 68, .int 0, .ref 69, .ref 70, .ref 71, .int 0, .int 0, .int 2, .ref 72, .ref 73, .int 0, .ref 74, .ref 75, .ref 76, .ref 77, .ref 78, .ref 79, .ref 80, .ref 81, .ref 82, .ref 83, .ref 84, .int 0, .ref 85, .ref 86, .ref 87, .ref 88, .ref 89, .ref 90, .ref 91, .ref 92, .int 0, .int 0, .ref 93, .ref 94, .int 0, .int (-1), .int (-1), .int 0, .int 0, .int 0, .ref 95, .ref 96, .int 0, .ref 97, .int 0, .ref 98, .ref 99, .int 0, .ref 100, .ref 101, .ref 102, .ref 103, .ref 104, .int 0, .ref 105, .int 1, .ref 106, .ref 107, .int 0, .ref 108, .ref 109, .int 0, .ref 110, .ref 111, .ref 112, .ref 113, .ref 114, .int 0, .int 0, .ref 115, .ref 116, .ref 117, .int 0, .int 0, .int 0, .int 0, .int 0, .ref 118, .ref 119, .ref 120, .int 0, .ref 121, .ref 122, .int 0, .ref 123, .ref 124, .int 0]), .inl (0, 240, .inl (fun _ => 0)), .inl (0, 240, .inl (fun _ => 0)), .inl (0, 242, .inl (upd (fun _ => 0) 0 7)), .inl (0, 242, .inl (upd (fun _ => 0) 0 0)), .inl (0, 242, .inl (upd (fun _ => 0) 0 0)), .inl (0, 6000, .inl (fun _ => 0)), .inl (0, 6000, .inl (fun _ => 0)), .inl (0, 600, .inl (fun _ => 0)), .inl (0, 600, .inl (fun _ => 0)), .inl (0, 600, .inl (fun _ => 0)), .inl (0, 600, .inl (fun _ => 0)), .inl (0, 600, .inl (fun _ => 0)), .inl (0, 600, .inl (fun _ => 0)), .inl (0, 600, .inl (fun _ => 0)), .inl (0, 600, .inl (fun _ => 0)), .inl (0, 600, .inl (fun _ => 0)), .inl (0, 600, .inl (fun _ => 0)), .inl (0, 600, .inl (fun _ => 0)), .inl (0, 60, .inl (fun _ => 0)), .inl (0, 60, .inl (fun _ => 0)), .inl (0, 60, .inl (fun _ => 0)), .inl (0, 60, .inl (fun _ => 0)), .inl (0, 60, .inl (fun _ => 0)), .inl (0, 60, .inl (fun _ => 0)), .inl (0, 60, .inl (fun _ => 0)), .inl (0, 60, .inl (fun _ => 0)), .inl (0, 60, .inl (fun _ => 0)), .inl (0, 60, .inl (fun _ => 0)), .inl (0, 8, .inl (fun _ => 0)), .inl (0, 8, .inl (fun _ => 0)), .inl (0, 5, .inl (fun _ => 0)), .inl (0, 4, .inl (fun _ => 0)), .inl (0, 4, .inl (fun _ => 0)), .inl (0, 60000, .inl (fun _ => 0)), .inl (0, 60000, .inl (fun _ => 0)), .inl (0, 60000, .inl (fun _ => 0)), .inl (0, 60000, .inl (fun _ => 0)), .inl (0, 60000, .inl (fun _ => 0)), .inl (0, 120000, .inl (fun _ => 0)), .inl (0, 400000, .inl (fun _ => 0)), .inl (0, 400000, .inl (fun _ => 0)), .inl (0, 3000, .inl (fun _ => 0)), .inl (0, 3000, .inl (fun _ => 0)), .inl (0, 20000, .inl (fun _ => 0)), .inl (1, 3000, .inl (fun _ => 0)), .inl (0, 3000, .inl (fun _ => 0)), .inl (0, 3000, .inl (fun _ => 0)), .inl (0, 3000, .inl (fun _ => 0)), .inl (0, 400000, .inl (fun _ => 0)), .inl (0, 400000, .inl (fun _ => 0)), .inl (0, 400000, .inl (fun _ => 0)), .inl (0, 3000, .inl (fun _ => 0)), .inl (1, 3000, .inl (fun _ => 0)), .inl (0, 3000, .inl (fun _ => 0)), .inl (0, 20000, .inl (fun _ => 0)), .inl (0, 4001, .inl (fun _ => 0)), .inl (0, 5, .inl (fun _ => 0)), .inl (1, 3000, .inl (fun _ => 0))], 0, 0) rfl ?_
    exact mx_ends_vret (rfl : mx_pg[37]? = some eX12_read) rfl rfl
  refine mx_ends_go (rfl : mx_pg[38]? = some eX12_load) 20 (122, [(2, .int 0), (0, .ref 66), (1, .int 0)], [], [.inr (11, [.ref 1, .int 0, .int 1, .int (-1), .int (-1), .int (-1), .ref 2, .ref 7, .ref 18, .ref 38, .ref 55]), .inl (0, 240, .inl (fun _ => 0)), .inr (8, [.ref 3, .ref 4, .ref 5, .ref 6, .int 0, .int 0]), .inl (0, 240, .inl t), .inl (0, 240, .inl (fun _ => 0)), .inl (0, 240, .inl (fun _ => 0)), .inl (0, 240, .inl (fun _ => 0)), .inr (2, [.ref 2, .int 0]), .inr (9, [.ref 9, .ref 10, .int 2]), .inl (0, 256, .inl (fun _ => 0)), .inl (0, 256, .inl (fun _ => 0)), .inr (7, [.ref 8, .ref 12, .ref 13, .ref 14, .ref 15, .ref 16, .int 0, .ref 17, .int 0]), .inl (0, 1024, .inl (fun _ => 0)), .inl (0, 1024, .inl (fun _ => 0)), .inl (0, 1024, .inl (fun _ => 0)), .inl (0, 1024, .inl (fun _ => 0)), .inl (0, 1024, .inl (fun _ => 0)), .inl (0, 512, .inl (fun _ => 0)), .inr (1, [.ref 2, .ref 8, .ref 11, .ref 19, .ref 22, .ref 25, .ref 26, .ref 27, .ref 28, .int 0, .int 0, .int 0, .int 0, .int 0, .int 0]), .inr (4, [.ref 20, .ref 21, .int 0]), .inl (0, 8, .inl (fun _ => 0)), .inl (0, 8, .inl (fun _ => 0)), .inr (4, [.ref 23, .ref 24, .int 0]), .inl (0, 5, .inl (fun _ => 0)), .inl (0, 5, .inl (fun _ => 0)), .inl (0, 5, .inl (fun _ => 0)), .inl (0, 8, .inl (fun _ => 0)), .inl (0, 21, .inl (fun _ => 0)), .inl (0, 21, .inl (fun _ => 0)), .inr (3, [.ref 30, .ref 31, .ref 32, .int 0]), .inl (0, 1024, .inl (fun _ => 0)), .inl (0, 1024, .inl (fun _ => 0)), .inl (0, 1024, .inl (fun _ => 0)), .inr (0, [.ref 11, .ref 29, .ref 34, .ref 35, .ref 36, .ref 37, .int 0, .int 0, .int 0]), .inl (0, 32, .inl (fun _ => 0)), .inl (0, 32, .inl (fun _ => 0)), .inl (0, 128, .inl (fun _ => 0)), .inl (0, 128, .inl (fun _ => 0)), .inr (6, [.ref 11, .ref 29, .ref 33, .ref 39, .ref 46, .ref 53, .ref 54, .int 0, .int 0, .int 0, .int 0, .int 0, .int 0]), .inr (5, [.ref 40, .ref 41, .ref 42, .ref 43, .ref 44, .ref 45, .int 0]), .inl (0, 512, .inl (fun _ => 0)), .inl (0, 512, .inl (fun _ => 0)), .inl (0, 512, .inl (fun _ => 0)), .inl (0, 512, .inl (fun _ => 0)), .inl (0, 512, .inl (fun _ => 0)), .inl (0, 512, .inl (fun _ => 0)), .inr (5, [.ref 47, .ref 48, .ref 49, .ref 50, .ref 51, .ref 52, .int 0]), .inl (0, 512, .inl (fun _ => 0)), .inl (0, 512, .inl (fun _ => 0)), .inl (0, 512, .inl (fun _ => 0)), .inl (0, 512, .inl (fun _ => 0)), .inl (0, 512, .inl (fun _ => 0)), .inl (0, 512, .inl (fun _ => 0)), .inl (0, 32, .inl (fun _ => 0)), .inl (0, 4, .inl (fun _ => 0)), .inr (10, [.ref 18, .ref 8, .ref 11, .ref 29, .ref 33, .ref 56, .ref 63, .ref 64, .int 0, .ref 65, .int 0, .int (-1)]), .inr (5, [.ref 57, .ref 58, .ref 59, .ref 60, .ref 61, .ref 62, .int 0]), .inl (0, 512, .inl (fun _ => 0)), .inl (0, 512, .inl (fun _ => 0)), .inl (0, 512, .inl (fun _ => 0)), .inl (0, 512, .inl (fun _ => 0)), .inl (0, 512, .inl (fun _ => 0)), .inl (0, 512, .inl (fun _ => 0)), .inl (0, 32, .inl (fun _ => 0)), .inl (0, 128, .inl (fun _ => 0)), .inl (0, 4000, .inl (fun _ => 0)), .inr (12, [.ref 67, .int 0, .ref 68, .int 0, .ref 69, .ref 70, .ref 71, .int 0, .int 0, .int 2, .ref 72, .ref 73, .int 0, .ref 74, .ref 75, .ref 76, .ref 77, .ref 78, .ref 79, .ref 80, .ref 81, .ref 82, .ref 83, .ref 84, .int 0, .ref 85, .ref 86, .ref 87, .ref 88, .ref 89, .ref 90, .ref 91, .ref 92, .int 0, .int 0, .ref 93, .ref 94, .int 0, .int (-1), .int (-1), .int 0, .int 0, .int 0, .ref 95, .ref 96, .int 0, .ref 97, .int 0, .ref 98, .ref 99, .int 0, .ref 100, .ref 101, .ref 102, .ref 103, .ref 104, .int 0, .ref 105, .int 1, .ref 106, .ref 107, .int 0, .ref 108, .ref 109, .int 0, .ref 110, .ref 111, .ref 112, .ref 113, .ref 114, .int 0, .int 0, .ref 115, .ref 116, .ref 117, .int 0, .int 0, .int 0, .int 0, .int 0, .ref 118, .ref 119, .ref 120, .int 0, .ref 121, .ref 122, .int 0, .ref 123, .ref 124, .int 0]), .inl (0, 240, .inl (fun _ => 0)), .inl (0, 240, .inl (fun _ => 0)), .inl (0, 242, .inl (upd (fun _ => 0) 0 7)), .inl (0, 242, .inl (upd (fun _ => 0) 0 0)), .inl (0, 242, .inl (upd (fun _ => 0) 0 0)), .inl (0, 6000, .inl (fun _ => 0)), .inl (0, 6000, .inl (fun _ => 0)), .inl (0, 600, .inl (fun _ => 0)), .inl (0, 600, .inl (fun _ => 0)), .inl (0, 600, .inl (fun _ => 0)), .inl (0, 600, .inl (fun _ => 0)), .inl (0, 600, .inl (fun _ => 0)), .inl (0, 600, .inl (fun _ => 0)), .inl (0, 600, .inl (fun _ => 0)), .inl (0, 600, .inl (fun _ => 0)), .inl (0, 600, .inl (fun _ => 0)), .inl (0, 600, .inl (fun _ => 0)), .inl (0, 600, .inl (fun _ => 0)), .inl (0, 60, .inl (fun _ => 0)), .inl (0, 60, .inl (fun _ => 0)), .inl (0, 60, .inl (fun _ => 0)), .inl (0, 60, .inl (fun _ => 0)), .inl (0, 60, .inl (fun _ => 0)), .inl (0, 60, .inl (fun _ => 0)), .inl (0, 60, .inl (fun _ => 0)), .inl (0, 60, .inl (fun _ => 0)), .inl (0, 60, .inl (fun _ => 0)), .inl (0, 60, .inl (fun _ => 0)), .inl (0, 8, .inl (fun _ => 0)), .inl (0, 8, .inl (fun _ => 0)), .inl (0, 5, .inl (fun _ => 0)), .inl (0, 4, .inl (fun _ => 0)), .inl (0, 4, .inl (fun _ => 0)), .inl (0, 60000, .inl (fun _ => 0)), .inl (0, 60000, .inl (fun _ => 0)), .inl (0, 60000, .inl (fun _ => 0)), .inl (0, 60000, .inl (fun _ => 0)), .inl (0, 60000, .inl (fun _ => 0)), .inl (0, 120000, .inl (fun _ => 0)), .inl (0, 400000, .inl (fun _ => 0)), .inl (0, 400000, .inl (fun _ => 0)), .inl (0, 3000, .inl (fun _ => 0)), .inl (0, 3000, .inl (fun _ => 0)), .inl (0, 20000, .inl (fun _ => 0)), .inl (1, 3000, .inl (fun _ => 0)), .inl (0, 3000, .inl (fun _ => 0)), .inl (0, 3000, .inl (fun _ => 0)), .inl (0, 3000, .inl (fun _ => 0)), .inl (0, 400000, .inl (fun _ => 0)), .inl (0, 400000, .inl (fun _ => 0)), .inl (0, 400000, .inl (fun _ => 0)), .inl (0, 3000, .inl (fun _ => 0)), .inl (1, 3000, .inl (fun _ => 0)), .inl (0, 3000, .inl (fun _ => 0)), .inl (0, 20000, .inl (fun _ => 0)), .inl (0, 4001, .inl (fun _ => 0)), .inl (0, 5, .inl (fun _ => 0)), .inl (1, 3000, .inl (fun _ => 0))], 0, 0) (239, [(2, .int 0), (0, .ref 66), (1, .int 0)], [.int 1, .ref 66], [.inr (11, [.ref 1, .int 0, .int 1, .int (-1), .int (-1), .int (-1), .ref 2, .ref 7, .ref 18, .ref 38, .ref 55]), .inl (0, 240, .inl (fun _ => 0)), .inr (8, [.ref 3, .ref 4, .ref 5, .ref 6, .int 0, .int 0]), .inl (0, 240, .inl t), .inl (0, 240, .inl (fun _ => 0)), .inl (0, 240, .inl (fun _ => 0)), .inl (0, 240, .inl (fun _ => 0)), .inr (2, [.ref 2, .int 0]), .inr (9, [.ref 9, .ref 10, .int 2]), .inl (0, 256, .inl (fun _ => 0)), .inl (0, 256, .inl (fun _ => 0)), .inr (7, [.ref 8, .ref 12, .ref 13, .ref 14, .ref 15, .ref 16, .int 0, .ref 17, .int 0]), .inl (0, 1024, .inl (fun _ => 0)), .inl (0, 1024, .inl (fun _ => 0)), .inl (0, 1024, .inl (fun _ => 0)), .inl (0, 1024, .inl (fun _ => 0)), .inl (0, 1024, .inl (fun _ => 0)), .inl (0, 512, .inl (fun _ => 0)), .inr (1, [.ref 2, .ref 8, .ref 11, .ref 19, .ref 22, .ref 25, .ref 26, .ref 27, .ref 28, .int 0, .int 0, .int 0, .int 0, .int 0, .int 0]), .inr (4, [.ref 20, .ref 21, .int 0]), .inl (0, 8, .inl (fun _ => 0)), .inl (0, 8, .inl (fun _ => 0)), .inr (4, [.ref 23, .ref 24, .int 0]), .inl (0, 5, .inl (fun _ => 0)), .inl (0, 5, .inl (fun _ => 0)), .inl (0, 5, .inl (fun _ => 0)), .inl (0, 8, .inl (fun _ => 0)), .inl (0, 21, .inl (fun _ => 0)), .inl (0, 21, .inl (fun _ => 0)), .inr (3, [.ref 30, .ref 31, .ref 32, .int 0]), .inl (0, 1024, .inl (fun _ => 0)), .inl (0, 1024, .inl (fun _ => 0)), .inl (0, 1024, .inl (fun _ => 0)), .inr (0, [.ref 11, .ref 29, .ref 34, .ref 35, .ref 36, .ref 37, .int 0, .int 0, .int 0]), .inl (0, 32, .inl (fun _ => 0)), .inl (0, 32, .inl (fun _ => 0)), .inl (0, 128, .inl (fun _ => 0)), .inl (0, 128, .inl (fun _ => 0)), .inr (6, [.ref 11, .ref 29, .ref 33, .ref 39, .ref 46, .ref 53, .ref 54, .int 0, .int 0, .int 0, .int 0, .int 0, .int 0]), .inr (5, [.ref 40, .ref 41, .ref 42, .ref 43, .ref 44, .ref 45, .int 0]), .inl (0, 512, .inl (fun _ => 0)), .inl (0, 512, .inl (fun _ => 0)), .inl (0, 512, .inl (fun _ => 0)), .inl (0, 512, .inl (fun _ => 0)), .inl (0, 512, .inl (fun _ => 0)), .inl (0, 512, .inl (fun _ => 0)), .inr (5, [.ref 47, .ref 48, .ref 49, .ref 50, .ref 51, .ref 52, .int 0]), .inl (0, 512, .inl (fun _ => 0)), .inl (0, 512, .inl (fun _ => 0)), .inl (0, 512, .inl (fun _ => 0)), .inl (0, 512, .inl (fun _ => 0)), .inl (0, 512, .inl (fun _ => 0)), .inl (0, 512, .inl (fun _ => 0)), .inl (0, 32, .inl (fun _ => 0)), .inl (0, 4, .inl (fun _ => 0)), .inr (10, [.ref 18, .ref 8, .ref 11, .ref 29, .ref 33, .ref 56, .ref 63, .ref 64, .int 0, .ref 65, .int 0, .int (-1)]), .inr (5, [.ref 57, .ref 58, .ref 59, .ref 60, .ref 61, .ref 62, .int 0]), .inl (0, 512, .inl (fun _ => 0)), .inl (0, 512, .inl (fun _ => 0)), .inl (0, 512, .inl (fun _ => 0)), .inl (0, 512, .inl (fun _ => 0)), .inl (0, 512, .inl (fun _ => 0)), .inl (0, 512, .inl (fun _ => 0)), .inl (0, 32, .inl (fun _ => 0)), .inl (0, 128, .inl (fun _ => 0)), .inl (0, 4000, .inl (fun _ => 0)), .inr (12, [.ref 67, .int 0, .ref 68, .int 0, .ref 69, .ref 70, .ref 71, .int 0, .int 0, .int 2, .ref 72, .ref 73, .int 0, .ref 74, .ref 75, .ref 76, .ref 77, .ref 78, .ref 79, .ref 80, .ref 81, .ref 82, .ref 83, .ref 84, .int 0, .ref 85, .ref 86, .ref 87, .ref 88, .ref 89, .ref 90, .ref 91, .ref 92, .int 0, .int 0, .ref 93, .ref 94, .int 0, .int (-1), .int (-1), .int 0, .int 0, .int 0, .ref 95, .ref 96, .int 0, .ref 97, .int 0, .ref 98, .ref 99, .int 0, .ref 100, .ref 101, .ref 102, .ref 103, .ref 104, .int 0, .ref 105, .int 1, .ref 106, .ref 107, .int 0, .ref 108, .ref 109, .int 0, .ref 110, .ref 111, .ref 112, .ref 113, .ref 114, .int 0, .int 0, .ref 115, .ref 116, .ref 117, .int 0, .int 0, .int 0, .int 0, .int 0, .ref 118, .ref 119, .ref 120, .int 0, .ref 121, .ref 122, .int 0, .ref 123, .ref 124, .int 0]), .inl (0, 240, .inl (fun _ => 0)), .inl (0, 240, .inl (fun _ => 0)), .inl (0, 242, .inl (upd (fun _ => 0) 0 7)), .inl (0, 242, .inl (upd (fun _ => 0) 0 0)), .inl (0, 242, .inl (upd (fun _ => 0) 0 0)), .inl (0, 6000, .inl (fun _ => 0)), .inl (0, 6000, .inl (fun _ => 0)), .inl (0, 600, .inl (fun _ => 0)), .inl (0, 600, .inl (fun _ => 0)), .inl (0, 600, .inl (fun _ => 0)), .inl (0, 600, .inl (fun _ => 0)), .inl (0, 600, .inl (fun _ => 0)), .inl (0, 600, .inl (fun _ => 0)), .inl (0, 600, .inl (fun _ => 0)), .inl (0, 600, .inl (fun _ => 0)), .inl (0, 600, .inl (fun _ => 0)), .inl (0, 600, .inl (fun _ => 0)), .inl (0, 600, .inl (fun _ => 0)), .inl (0, 60, .inl (fun _ => 0)), .inl (0, 60, .inl (fun _ => 0)), .inl (0, 60, .inl (fun _ => 0)), .inl (0, 60, .inl (fun _ => 0)), .inl (0, 60, .inl (fun _ => 0)), .inl (0, 60, .inl (fun _ => 0)), .inl (0, 60, .inl (fun _ => 0)), .inl (0, 60, .inl (fun _ => 0)), .inl (0, 60, .inl (fun _ => 0)), .inl (0, 60, .inl (fun _ => 0)), .inl (0, 8, .inl (fun _ => 0)), .inl (0, 8, .inl (fun _ => 0)), .inl (0, 5, .inl (fun _ => 0)), .inl (0, 4, .inl (fun _ => 0)), .inl (0, 4, .inl (fun _ => 0)), .inl (0, 60000, .inl (fun _ => 0)), .inl (0, 60000, .inl (fun _ => 0)), .inl (0, 60000, .inl (fun _ => 0)), .inl (0, 60000, .inl (fun _ => 0)), .inl (0, 60000, .inl (fun _ => 0)), .inl (0, 120000, .inl (fun _ => 0)), .inl (0, 400000, .inl (fun _ => 0)), .inl (0, 400000, .inl (fun _ => 0)), .inl (0, 3000, .inl (fun _ => 0)), .inl (0, 3000, .inl (fun _ => 0)), .inl (0, 20000, .inl (fun _ => 0)), .inl (1, 3000, .inl (fun _ => 0)), .inl (0, 3000, .inl (fun _ => 0)), .inl (0, 3000, .inl (fun _ => 0)), .inl (0, 3000, .inl (fun _ => 0)), .inl (0, 400000, .inl (fun _ => 0)), .inl (0, 400000, .inl (fun _ => 0)), .inl (0, 400000, .inl (fun _ => 0)), .inl (0, 3000, .inl (fun _ => 0)), .inl (1, 3000, .inl (fun _ => 0)), .inl (0, 3000, .inl (fun _ => 0)), .inl (0, 20000, .inl (fun _ => 0)), .inl (0, 4001, .inl (fun _ => 0)), .inl (0, 5, .inl (fun _ => 0)), .inl (1, 3000, .inl (fun _ => 0))], 0, 0) rfl ?_
  refine mx_ends_go (rfl : mx_pg[38]? = some eX12_load) 14 (239, [(2, .int 0), (0, .ref 66), (1, .int 0)], [.int 1, .ref 66], [.inr (11, [.ref 1, .int 0, .int 1, .int (-1), .int (-1), .int (-1), .ref 2, .ref 7, .ref 18, .ref 38, .ref 55]), .inl (0, 240, .inl (fun _ => 0)), .inr (8, [.ref 3, .ref 4, .ref 5, .ref 6, .int 0, .int 0]), .inl (0, 240, .inl t), .inl (0, 240, .inl (fun _ => 0)), .inl (0, 240, .inl (fun _ => 0)), .inl (0, 240, .inl (fun _ => 0)), .inr (2, [.ref 2, .int 0]), .inr (9, [.ref 9, .ref 10, .int 2]), .inl (0, 256, .inl (fun _ => 0)), .inl (0, 256, .inl (fun _ => 0)), .inr (7, [.ref 8, .ref 12, .ref 13, .ref 14, .ref 15, .ref 16, .int 0, .ref 17, .int 0]), .inl (0, 1024, .inl (fun _ => 0)), .inl (0, 1024, .inl (fun _ => 0)), .inl (0, 1024, .inl (fun _ => 0)), .inl (0, 1024, .inl (fun _ => 0)), .inl (0, 1024, .inl (fun _ => 0)), .inl (0, 512, .inl (fun _ => 0)), .inr (1, [.ref 2, .ref 8, .ref 11, .ref 19, .ref 22, .ref 25, .ref 26, .ref 27, .ref 28, .int 0, .int 0, .int 0, .int 0, .int 0, .int 0]), .inr (4, [.ref 20, .ref 21, .int 0]), .inl (0, 8, .inl (fun _ => 0)), .inl (0, 8, .inl (fun _ => 0)), .inr (4, [.ref 23, .ref 24, .int 0]), .inl (0, 5, .inl (fun _ => 0)), .inl (0, 5, .inl (fun _ => 0)), .inl (0, 5, .inl (fun _ => 0)), .inl (0, 8, .inl (fun _ => 0)), .inl (0, 21, .inl (fun _ => 0)), .inl (0, 21, .inl (fun _ => 0)), .inr (3, [.ref 30, .ref 31, .ref 32, .int 0]), .inl (0, 1024, .inl (fun _ => 0)), .inl (0, 1024, .inl (fun _ => 0)), .inl (0, 1024, .inl (fun _ => 0)), .inr (0, [.ref 11, .ref 29, .ref 34, .ref 35, .ref 36, .ref 37, .int 0, .int 0, .int 0]), .inl (0, 32, .inl (fun _ => 0)), .inl (0, 32, .inl (fun _ => 0)), .inl (0, 128, .inl (fun _ => 0)), .inl (0, 128, .inl (fun _ => 0)), .inr (6, [.ref 11, .ref 29, .ref 33, .ref 39, .ref 46, .ref 53, .ref 54, .int 0, .int 0, .int 0, .int 0, .int 0, .int 0]), .inr (5, [.ref 40, .ref 41, .ref 42, .ref 43, .ref 44, .ref 45, .int 0]), .inl (0, 512, .inl (fun _ => 0)), .inl (0, 512, .inl (fun _ => 0)), .inl (0, 512, .inl (fun _ => 0)), .inl (0, 512, .inl (fun _ => 0)), .inl (0, 512, .inl (fun _ => 0)), .inl (0, 512, .inl (fun _ => 0)), .inr (5, [.ref 47, .ref 48, .ref 49, .ref 50, .ref 51, .ref 52, .int 0]), .inl (0, 512, .inl (fun _ => 0)), .inl (0, 512, .inl (fun _ => 0)), .inl (0, 512, .inl (fun _ => 0)), .inl (0, 512, .inl (fun _ => 0)), .inl (0, 512, .inl (fun _ => 0)), .inl (0, 512, .inl (fun _ => 0)), .inl (0, 32, .inl (fun _ => 0)), .inl (0, 4, .inl (fun _ => 0)), .inr (10, [.ref 18, .ref 8, .ref 11, .ref 29, .ref 33, .ref 56, .ref 63, .ref 64, .int 0, .ref 65, .int 0, .int (-1)]), .inr (5, [.ref 57, .ref 58, .ref 59, .ref 60, .ref 61, .ref 62, .int 0]), .inl (0, 512, .inl (fun _ => 0)), .inl (0, 512, .inl (fun _ => 0)), .inl (0, 512, .inl (fun _ => 0)), .inl (0, 512, .inl (fun _ => 0)), .inl (0, 512, .inl (fun _ => 0)), .inl (0, 512, .inl (fun _ => 0)), .inl (0, 32, .inl (fun _ => 0)), .inl (0, 128, .inl (fun _ => 0)), .inl (0, 4000, .inl (fun _ => 0)), .inr (12, [.ref 67, .int 0, .ref 68, .int 0, .ref 69, .ref 70, .ref 71, .int 0, .int 0, .int 2, .ref 72, .ref 73, .int 0, .ref 74, .ref 75, .ref 76, .ref 77, .ref 78, .ref 79, .ref 80, .ref 81, .ref 82, .ref 83, .ref 84, .int 0, .ref 85, .ref 86, .ref 87, .ref 88, .ref 89, .ref 90, .ref 91, .ref 92, .int 0, .int 0, .ref 93, .ref 94, .int 0, .int (-1), .int (-1), .int 0, .int 0, .int 0, .ref 95, .ref 96, .int 0, .ref 97, .int 0, .ref 98, .ref 99, .int 0, .ref 100, .ref 101, .ref 102, .ref 103, .ref 104, .int 0, .ref 105, .int 1, .ref 106, .ref 107, .int 0, .ref 108, .ref 109, .int 0, .ref 110, .ref 111, .ref 112, .ref 113, .ref 114, .int 0, .int 0, .ref 115, .ref 116, .ref 117, .int 0, .int 0, .int 0, .int 0, .int 0, .ref 118, .ref 119, .ref 120, .int 0, .ref 121, .ref 122, .int 0, .ref 123, .ref 124, .int 0]), .inl (0, 240, .inl (fun _ => 0)), .inl (0, 240, .inl (fun _ => 0)), .inl (0, 242, .inl (upd (fun _ => 0) 0 7)), .inl (0, 242, .inl (upd (fun _ => 0) 0 0)), .inl (0, 242, .inl (upd (fun _ => 0) 0 0)), .inl (0, 6000, .inl (fun _ => 0)), .inl (0, 6000, .inl (fun _ => 0)), .inl (0, 600, .inl (fun _ => 0)), .inl (0, 600, .inl (fun _ => 0)), .inl (0, 600, .inl (fun _ => 0)), .inl (0, 600, .inl (fun _ => 0)), .inl (0, 600, .inl (fun _ => 0)), .inl (0, 600, .inl (fun _ => 0)), .inl (0, 600, .inl (fun _ => 0)), .inl (0, 600, .inl (fun _ => 0)), .inl (0, 600, .inl (fun _ => 0)), .inl (0, 600, .inl (fun _ => 0)), .inl (0, 600, .inl (fun _ => 0)), .inl (0, 60, .inl (fun _ => 0)), .inl (0, 60, .inl (fun _ => 0)), .inl (0, 60, .inl (fun _ => 0)), .inl (0, 60, .inl (fun _ => 0)), .inl (0, 60, .inl (fun _ => 0)), .inl (0, 60, .inl (fun _ => 0)), .inl (0, 60, .inl (fun _ => 0)), .inl (0, 60, .inl (fun _ => 0)), .inl (0, 60, .inl (fun _ => 0)), .inl (0, 60, .inl (fun _ => 0)), .inl (0, 8, .inl (fun _ => 0)), .inl (0, 8, .inl (fun _ => 0)), .inl (0, 5, .inl (fun _ => 0)), .inl (0, 4, .inl (fun _ => 0)), .inl (0, 4, .inl (fun _ => 0)), .inl (0, 60000, .inl (fun _ => 0)), .inl (0, 60000, .inl (fun _ => 0)), .inl (0, 60000, .inl (fun _ => 0)), .inl (0, 60000, .inl (fun _ => 0)), .inl (0, 60000, .inl (fun _ => 0)), .inl (0, 120000, .inl (fun _ => 0)), .inl (0, 400000, .inl (fun _ => 0)), .inl (0, 400000, .inl (fun _ => 0)), .inl (0, 3000, .inl (fun _ => 0)), .inl (0, 3000, .inl (fun _ => 0)), .inl (0, 20000, .inl (fun _ => 0)), .inl (1, 3000, .inl (fun _ => 0)), .inl (0, 3000, .inl (fun _ => 0)), .inl (0, 3000, .inl (fun _ => 0)), .inl (0, 3000, .inl (fun _ => 0)), .inl (0, 400000, .inl (fun _ => 0)), .inl (0, 400000, .inl (fun _ => 0)), .inl (0, 400000, .inl (fun _ => 0)), .inl (0, 3000, .inl (fun _ => 0)), .inl (1, 3000, .inl (fun _ => 0)), .inl (0, 3000, .inl (fun _ => 0)), .inl (0, 20000, .inl (fun _ => 0)), .inl (0, 4001, .inl (fun _ => 0)), .inl (0, 5, .inl (fun _ => 0)), .inl (1, 3000, .inl (fun _ => 0))], 0, 0) (267, [(2, .int 0), (0, .ref 66), (1, .int 0)], [.int 0], [.inr (11, [.ref 1, .int 0, .int 1, .int (-1), .int (-1), .int (-1), .ref 2, .ref 7, .ref 18, .ref 38, .ref 55]), .inl (0, 240, .inl (fun _ => 0)), .inr (8, [.ref 3, .ref 4, .ref 5, .ref 6, .int 0, .int 0]), .inl (0, 240, .inl t), .inl (0, 240, .inl (fun _ => 0)), .inl (0, 240, .inl (fun _ => 0)), .inl (0, 240, .inl (fun _ => 0)), .inr (2, [.ref 2, .int 0]), .inr (9, [.ref 9, .ref 10, .int 2]), .inl (0, 256, .inl (fun _ => 0)), .inl (0, 256, .inl (fun _ => 0)), .inr (7, [.ref 8, .ref 12, .ref 13, .ref 14, .ref 15, .ref 16, .int 0, .ref 17, .int 0]), .inl (0, 1024, .inl (fun _ => 0)), .inl (0, 1024, .inl (fun _ => 0)), .inl (0, 1024, .inl (fun _ => 0)), .inl (0, 1024, .inl (fun _ => 0)), .inl (0, 1024, .inl (fun _ => 0)), .inl (0, 512, .inl (fun _ => 0)), .inr (1, [.ref 2, .ref 8, .ref 11, .ref 19, .ref 22, .ref 25, .ref 26, .ref 27, .ref 28, .int 0, .int 0, .int 0, .int 0, .int 0, .int 0]), .inr (4, [.ref 20, .ref 21, .int 0]), .inl (0, 8, .inl (fun _ => 0)), .inl (0, 8, .inl (fun _ => 0)), .inr (4, [.ref 23, .ref 24, .int 0]), .inl (0, 5, .inl (fun _ => 0)), .inl (0, 5, .inl (fun _ => 0)), .inl (0, 5, .inl (fun _ => 0)), .inl (0, 8, .inl (fun _ => 0)), .inl (0, 21, .inl (fun _ => 0)), .inl (0, 21, .inl (fun _ => 0)), .inr (3, [.ref 30, .ref 31, .ref 32, .int 0]), .inl (0, 1024, .inl (fun _ => 0)), .inl (0, 1024, .inl (fun _ => 0)), .inl (0, 1024, .inl (fun _ => 0)), .inr (0, [.ref 11, .ref 29, .ref 34, .ref 35, .ref 36, .ref 37, .int 0, .int 0, .int 0]), .inl (0, 32, .inl (fun _ => 0)), .inl (0, 32, .inl (fun _ => 0)), .inl (0, 128, .inl (fun _ => 0)), .inl (0, 128, .inl (fun _ => 0)), .inr (6, [.ref 11, .ref 29, .ref 33, .ref 39, .ref 46, .ref 53, .ref 54, .int 0, .int 0, .int 0, .int 0, .int 0, .int 0]), .inr (5, [.ref 40, .ref 41, .ref 42, .ref 43, .ref 44, .ref 45, .int 0]), .inl (0, 512, .inl (fun _ => 0)), .inl (0, 512, .inl (fun _ => 0)), .inl (0, 512, .inl (fun _ => 0)), .inl (0, 512, .inl (fun _ => 0)), .inl (0, 512, .inl (fun _ => 0)), .inl (0, 512, .inl (fun _ => 0)), .inr (5, [.ref 47, .ref 48, .ref 49, .ref 50, .ref 51, .ref 52, .int 0]), .inl (0, 512, .inl (fun _ => 0)), .inl (0, 512, .inl (fun _ => 0)), .inl (0, 512, .inl (fun _ => 0)), .inl (0, 512, .inl (fun _ => 0)), .inl (0, 512, .inl (fun _ => 0)), .inl (0, 512, .inl (fun _ => 0)), .inl (0, 32, .inl (fun _ => 0)), .inl (0, 4, .inl (fun _ => 0)), .inr (10, [.ref 18, .ref 8, .ref 11, .ref 29, .ref 33, .ref 56, .ref 63, .ref 64, .int 0, .ref 65, .int 0, .int (-1)]), .inr (5, [.ref 57, .ref 58, .ref 59, .ref 60, .ref 61, .ref 62, .int 0]), .inl (0, 512, .inl (fun _ => 0)), .inl (0, 512, .inl (fun _ => 0)), .inl (0, 512, .inl (fun _ => 0)), .inl (0, 512, .inl (fun _ => 0)), .inl (0, 512, .inl (fun _ => 0)), .inl (0, 512, .inl (fun _ => 0)), .inl (0, 32, .inl (fun _ => 0)), .inl (0, 128, .inl (fun _ => 0)), .inl (0, 4000, .inl (fun _ => 0)), .inr (12, [.ref 67, .int 0, .ref 68, .int 0, .ref 69, .ref 70, .ref 71, .int 0, .int 0, .int 2, .ref 72, .ref 73, .int 0, .ref 74, .ref 75, .ref 76, .ref 77, .ref 78, .ref 79, .ref 80, .ref 81, .ref 82, .ref 83, .ref 84, .int 0, .ref 85, .ref 86, .ref 87, .ref 88, .ref 89, .ref 90, .ref 91, .ref 92, .int 0, .int 0, .ref 93, .ref 94, .int 1, .int (-1), .int (-1), .int 0, .int 0, .int 0, .ref 95, .ref 96, .int 0, .ref 97, .int 0, .ref 98, .ref 99, .int 0, .ref 100, .ref 101, .ref 102, .ref 103, .ref 104, .int 0, .ref 105, .int 1, .ref 106, .ref 107, .int 0, .ref 108, .ref 109, .int 0, .ref 110, .ref 111, .ref 112, .ref 113, .ref 114, .int 0, .int 0, .ref 115, .ref 116, .ref 117, .int 0, .int 0, .int 1, .int 0, .int 0, .ref 118, .ref 119, .ref 120, .int 0, .ref 121, .ref 122, .int 0, .ref 123, .ref 124, .int 0]), .inl (0, 240, .inl (fun _ => 0)), .inl (0, 240, .inl (fun _ => 0)), .inl (0, 242, .inl (upd (fun _ => 0) 0 7)), .inl (0, 242, .inl (upd (fun _ => 0) 0 0)), .inl (0, 242, .inl (upd (fun _ => 0) 0 0)), .inl (0, 6000, .inl (fun _ => 0)), .inl (0, 6000, .inl (fun _ => 0)), .inl (0, 600, .inl (fun _ => 0)), .inl (0, 600, .inl (fun _ => 0)), .inl (0, 600, .inl (fun _ => 0)), .inl (0, 600, .inl (fun _ => 0)), .inl (0, 600, .inl (fun _ => 0)), .inl (0, 600, .inl (fun _ => 0)), .inl (0, 600, .inl (fun _ => 0)), .inl (0, 600, .inl (fun _ => 0)), .inl (0, 600, .inl (fun _ => 0)), .inl (0, 600, .inl (fun _ => 0)), .inl (0, 600, .inl (fun _ => 0)), .inl (0, 60, .inl (fun _ => 0)), .inl (0, 60, .inl (fun _ => 0)), .inl (0, 60, .inl (fun _ => 0)), .inl (0, 60, .inl (fun _ => 0)), .inl (0, 60, .inl (fun _ => 0)), .inl (0, 60, .inl (fun _ => 0)), .inl (0, 60, .inl (fun _ => 0)), .inl (0, 60, .inl (fun _ => 0)), .inl (0, 60, .inl (fun _ => 0)), .inl (0, 60, .inl (fun _ => 0)), .inl (0, 8, .inl (fun _ => 0)), .inl (0, 8, .inl (fun _ => 0)), .inl (0, 5, .inl (fun _ => 0)), .inl (0, 4, .inl (fun _ => 0)), .inl (0, 4, .inl (fun _ => 0)), .inl (0, 60000, .inl (fun _ => 0)), .inl (0, 60000, .inl (fun _ => 0)), .inl (0, 60000, .inl (fun _ => 0)), .inl (0, 60000, .inl (fun _ => 0)), .inl (0, 60000, .inl (fun _ => 0)), .inl (0, 120000, .inl (fun _ => 0)), .inl (0, 400000, .inl (fun _ => 0)), .inl (0, 400000, .inl (fun _ => 0)), .inl (0, 3000, .inl (fun _ => 0)), .inl (0, 3000, .inl (fun _ => 0)), .inl (0, 20000, .inl (fun _ => 0)), .inl (1, 3000, .inl (fun _ => 0)), .inl (0, 3000, .inl (fun _ => 0)), .inl (0, 3000, .inl (fun _ => 0)), .inl (0, 3000, .inl (fun _ => 0)), .inl (0, 400000, .inl (fun _ => 0)), .inl (0, 400000, .inl (fun _ => 0)), .inl (0, 400000, .inl (fun _ => 0)), .inl (0, 3000, .inl (fun _ => 0)), .inl (1, 3000, .inl (fun _ => 0)), .inl (0, 3000, .inl (fun _ => 0)), .inl (0, 20000, .inl (fun _ => 0)), .inl (0, 4001, .inl (fun _ => 0)), .inl (0, 5, .inl (fun _ => 0)), .inl (1, 3000, .inl (fun _ => 0))], 0, 0) rfl ?_
  exact mx_ends_iret (rfl : mx_pg[38]? = some eX12_load) rfl rfl
set_option maxRecDepth 100000 in
/-- behind the comparison: to the end -/
theorem p1_end (xs : Nat → Int32) (hp : List va_E) (pc v : Nat) (x : Int32) (h : mx_go 6 xs eL_law.2.2.2 1 (pc, [(3, .int 0), (2, .ref 66), (1, .ref 0), (0, .ref 1000000)], [.int x, .int x], hp, 125, 2538871) = some (378, [(3, .int 0), (2, .ref 66), (1, .ref 0), (0, .ref 1000000)], [], hp, 125, 2538871)) : mx_ends 6 xs mx_pg 2048 48 pc [(3, .int 0), (2, .ref 66), (1, .ref 0), (0, .ref 1000000)] [.int x, .int x] hp 125 2538871 (some (.int 1), hp, 125, 2538871) := by
  refine mx_ends_go p1_law 1 (pc, [(3, .int 0), (2, .ref 66), (1, .ref 0), (0, .ref 1000000)], [.int x, .int x], hp, 125, 2538871) (378, [(3, .int 0), (2, .ref 66), (1, .ref 0), (0, .ref 1000000)], [], hp, 125, 2538871) h ?_
  refine mx_ends_go p1_law 9 (378, [(3, .int 0), (2, .ref 66), (1, .ref 0), (0, .ref 1000000)], [], hp, 125, 2538871) (385, [(3, .int 6), (2, .ref 66), (1, .ref 0), (0, .ref 1000000)], [.int 1], hp, 125, 2538871) rfl ?_
  exact mx_ends_iret p1_law rfl rfl
set_option maxRecDepth 100000 in
theorem p1_case_0 (xs : Nat → Int32) : ∃ hp' : List va_E, mx_ends 6 xs mx_pg 2048 48 33 [(3, .int 0), (2, .ref 66), (1, .ref 0), (0, .ref 1000000)] [.int (nI 0)] (p1_D ++ p1_M) 125 2538871 (some (.int 1), hp', 125, 2538871) := by
  rw [p1_H0]
  obtain ⟨t1, h1⟩ := p1_feedX 6 xs (xs 1) (xs 2) (xs 3) (xs 4) (xs 5) (fun _ => 0) 0 (fun _ => 0)
  obtain ⟨u1, h2⟩ := p1_feedM 6 xs (xs 1) (xs 2) (xs 3) (xs 4) (xs 5) 20 t1 (fun _ => 0)
  refine ⟨p1_H 20 t1 20 u1, ?_⟩
  refine mx_ends_go p1_law 27 (33, [(3, .int 0), (2, .ref 66), (1, .ref 0), (0, .ref 1000000)], [.int (nI 0)], p1_H 0 (fun _ => 0) 0 (fun _ => 0), 125, 2538871) (114, [(3, .int 0), (2, .ref 66), (1, .ref 0), (0, .ref 1000000)], [.int (xs 5), .int (xs 4), .int (xs 3), .int (xs 2), .int (xs 1), .ref 0], p1_H 0 (fun _ => 0) 0 (fun _ => 0), 125, 2538871) rfl ?_
  refine mx_ends_V (r1 := (some (.int 20), p1_H 20 t1 0 (fun _ => 0), 0, 0)) (i := 0) (rest := []) p1_law rfl rfl rfl rfl h1 ?_
  refine mx_ends_go p1_law 26 (117, [(3, .int 0), (2, .ref 66), (1, .ref 0), (0, .ref 1000000)], [.int 20], p1_H 20 t1 0 (fun _ => 0), 125, 2538871) (143, [(3, .int 0), (2, .ref 66), (1, .ref 0), (0, .ref 1000000)], [.int (xs 5), .int (xs 4), .int (xs 3), .int (xs 2), .int (xs 1), .ref 66, .int 20], p1_H 20 t1 0 (fun _ => 0), 125, 2538871) rfl ?_
  refine mx_ends_V (r1 := (some (.int 20), p1_H 20 t1 20 u1, 0, 0)) (i := 66) (rest := [.int 20]) p1_law rfl rfl rfl rfl h2 ?_
  exact p1_end xs _ 146 0 20 rfl
set_option maxRecDepth 100000 in
theorem p1_case_1 (xs : Nat → Int32) : ∃ hp' : List va_E, mx_ends 6 xs mx_pg 2048 48 33 [(3, .int 0), (2, .ref 66), (1, .ref 0), (0, .ref 1000000)] [.int (nI 1)] (p1_D ++ p1_M) 125 2538871 (some (.int 1), hp', 125, 2538871) := by
  have pre : ∀ r, mx_ends 6 xs mx_pg 2048 48 157 [(3, .int 0), (2, .ref 66), (1, .ref 0), (0, .ref 1000000)] [.int (xs 1), .ref 0] (p1_D ++ p1_M) 125 2538871 r → mx_ends 6 xs mx_pg 2048 48 33 [(3, .int 0), (2, .ref 66), (1, .ref 0), (0, .ref 1000000)] [.int (nI 1)] (p1_D ++ p1_M) 125 2538871 r := fun r k =>
    mx_ends_go p1_law 7 (33, [(3, .int 0), (2, .ref 66), (1, .ref 0), (0, .ref 1000000)], [.int (nI 1)], p1_D ++ p1_M, 125, 2538871) (157, [(3, .int 0), (2, .ref 66), (1, .ref 0), (0, .ref 1000000)], [.int (xs 1), .ref 0], p1_D ++ p1_M, 125, 2538871) rfl k
  by_cases hv : xs 1 = 0
  · obtain ⟨t1, h1⟩ := p1_loadX0 6 xs
    obtain ⟨hp', h2⟩ := p1_loadM0 6 xs t1
    refine ⟨hp', pre _ ?_⟩
    refine mx_ends_V (r1 := (some (.int 0), p1_L 1 t1, 0, 0)) (i := 0) (rest := []) p1_law rfl rfl rfl rfl (by rw [hv]; exact ⟨1000, h1⟩) ?_
    refine mx_ends_go p1_law 6 (160, [(3, .int 0), (2, .ref 66), (1, .ref 0), (0, .ref 1000000)], [.int 0], p1_L 1 t1, 125, 2538871) (166, [(3, .int 0), (2, .ref 66), (1, .ref 0), (0, .ref 1000000)], [.int (xs 1), .ref 66, .int 0], p1_L 1 t1, 125, 2538871) rfl ?_
    refine mx_ends_V (r1 := (some (.int 0), hp', 0, 0)) (i := 66) (rest := [.int 0]) p1_law rfl rfl rfl rfl (by rw [hv]; exact h2) ?_
    exact p1_end xs _ 169 0 0 rfl
  · refine ⟨p1_D ++ p1_M, pre _ ?_⟩
    refine mx_ends_V (r1 := (some (.int (-1)), p1_D ++ p1_M, 0, 0)) (i := 0) (rest := []) p1_law rfl rfl rfl rfl (p1_loadXn 6 xs (xs 1) hv) ?_
    refine mx_ends_go p1_law 6 (160, [(3, .int 0), (2, .ref 66), (1, .ref 0), (0, .ref 1000000)], [.int (-1)], p1_D ++ p1_M, 125, 2538871) (166, [(3, .int 0), (2, .ref 66), (1, .ref 0), (0, .ref 1000000)], [.int (xs 1), .ref 66, .int (-1)], p1_D ++ p1_M, 125, 2538871) rfl ?_
    refine mx_ends_V (r1 := (some (.int (-1)), p1_D ++ p1_M, 0, 0)) (i := 66) (rest := [.int (-1)]) p1_law rfl rfl rfl rfl (p1_loadMn 6 xs (xs 1) hv) ?_
    exact p1_end xs _ 169 0 (-1) rfl
set_option maxRecDepth 100000 in
theorem p1_case_2 (xs : Nat → Int32) : ∃ hp' : List va_E, mx_ends 6 xs mx_pg 2048 48 33 [(3, .int 0), (2, .ref 66), (1, .ref 0), (0, .ref 1000000)] [.int (nI 2)] (p1_D ++ p1_M) 125 2538871 (some (.int 1), hp', 125, 2538871) := by
  refine ⟨p1_D ++ p1_M, ?_⟩
  refine mx_ends_go p1_law 7 (33, [(3, .int 0), (2, .ref 66), (1, .ref 0), (0, .ref 1000000)], [.int (nI 2)], p1_D ++ p1_M, 125, 2538871) (180, [(3, .int 0), (2, .ref 66), (1, .ref 0), (0, .ref 1000000)], [.int (xs 1), .ref 0], p1_D ++ p1_M, 125, 2538871) rfl ?_
  refine mx_ends_V (r1 := (some (.int (-1)), p1_D ++ p1_M, 0, 0)) (i := 0) (rest := []) p1_law rfl rfl rfl rfl (p1_toldX 6 xs (xs 1)) ?_
  refine mx_ends_go p1_law 6 (183, [(3, .int 0), (2, .ref 66), (1, .ref 0), (0, .ref 1000000)], [.int (-1)], p1_D ++ p1_M, 125, 2538871) (189, [(3, .int 0), (2, .ref 66), (1, .ref 0), (0, .ref 1000000)], [.int (xs 1), .ref 66, .int (-1)], p1_D ++ p1_M, 125, 2538871) rfl ?_
  refine mx_ends_V (r1 := (some (.int (-1)), p1_D ++ p1_M, 0, 0)) (i := 66) (rest := [.int (-1)]) p1_law rfl rfl rfl rfl (p1_toldM 6 xs (xs 1)) ?_
  exact p1_end xs _ 192 0 (-1) rfl
theorem p1_switch (xs : Nat → Int32) : ∀ j, j < 16 → ∃ hp' : List va_E, mx_ends 6 xs mx_pg 2048 48 33 [(3, .int 0), (2, .ref 66), (1, .ref 0), (0, .ref 1000000)] [.int (nI j)] (p1_D ++ p1_M) 125 2538871 (some (.int 1), hp', 125, 2538871)
  | 0, _ => p1_case_0 xs
  | 1, _ => p1_case_1 xs
  | 2, _ => p1_case_2 xs
  | 3, _ => (p1_case_3 xs).elim fun hp h => ⟨hp, 3000, h⟩
  | 4, _ => (p1_case_4 xs).elim fun hp h => ⟨hp, 3000, h⟩
  | 5, _ => (p1_case_5 xs).elim fun hp h => ⟨hp, 3000, h⟩
  | 6, _ => (p1_case_6 xs).elim fun hp h => ⟨hp, 3000, h⟩
  | 7, _ => (p1_case_7 xs).elim fun hp h => ⟨hp, 3000, h⟩
  | 8, _ => (p1_case_8 xs).elim fun hp h => ⟨hp, 3000, h⟩
  | 9, _ => (p1_case_9 xs).elim fun hp h => ⟨hp, 3000, h⟩
  | 10, _ => (p1_case_10 xs).elim fun hp h => ⟨hp, 3000, h⟩
  | 11, _ => (p1_case_11 xs).elim fun hp h => ⟨hp, 3000, h⟩
  | 12, _ => (p1_case_12 xs).elim fun hp h => ⟨hp, 3000, h⟩
  | 13, _ => (p1_case_13 xs).elim fun hp h => ⟨hp, 3000, h⟩
  | 14, _ => (p1_case_14 xs).elim fun hp h => ⟨hp, 3000, h⟩
  | 15, _ => (p1_case_15 xs).elim fun hp h => ⟨hp, 3000, h⟩
  | n + 16, h => absurd h (by omega)
theorem p1_six (xs : Nat → Int32) : p1_good 6 xs := by
  obtain ⟨j, hj, hx⟩ := pk_andE (xs 0) (m := 15) 4 (by decide)
  obtain ⟨hp', h⟩ := p1_switch xs j hj
  exact ⟨hp', 125, 2538871, p1_to (by rw [hx]; exact h), by decide, by decide⟩
theorem p1_all (xs : Nat → Int32) (L : Nat) (hL : L ≤ 6) : p1_good L xs := by
  by_cases h : L < 6
  · exact p1_short xs L h
  · have h6 : L = 6 := by omega
    subst h6
    exact p1_six xs
/-- THE CLAIM for scripts of at most six ints: the law's walk -/
theorem whole_start {p : Program} {e : Env} {s : State} {m : MethodId} {below : List Frame} {meth : Method} {c : Code} (l : Launch) {b L : Nat} {xs : Nat → Int32} (hL : L ≤ 6) (C0 : lw_At p s m meth c b L xs) : W p l e room_1 s m #[Value.ref b] below meth c s.heap [] 0 0 (lw_Z below #[Value.ref b] s) (entryFrame m ([Value.ref b] : List Value).toArray 4) := by
  obtain ⟨hp', c', s', ⟨n, h⟩, hc, hs⟩ := p1_all xs L hL
  exact mx_law l (Nat.le_trans hL (by decide)) C0 h hc hs
end
section
set_option maxHeartbeats 4000000 in
theorem lw_walk (l : Launch) (b : Addr) (xs : List Int32) : MetFree l x (headSpec (Jvm.Cond.code x code maxLocals ret :: tables_1) room_1) (lw_P b xs) (fun _ _ _ _ _ => True) lw_Q := by
  refine MetFree.of_bodyS (code := code) (maxLocals := maxLocals) (ret := ret) (by decide) ?_ ?_
  · intro args s m h hn
    obtain ⟨meth, c, h1, h2, h3, h4, h5, h6, -, -⟩ := Cond.code_spec hn (atoms_spec (ws := Jvm.Cond.code x code maxLocals ret :: tables_1) h _ List.mem_cons_self)
    exact ⟨meth, c, h1, h2, h3, h4, h5, h6⟩
  · intro p e s m args below meth c s₁ B hml0 hP _
    obtain ⟨rfl, hx, hbd, hgv⟩ := hP
    obtain ⟨scr, harrAt, hlist, hof, hsmall⟩ := hx
    obtain ⟨hcb, hkn, -, -⟩ := State.arrayAt?_spec harrAt
    have hown : s.vm.findClass R_law = some m.cls := findClass_of_methodNamed B.named
    have hts0 : ∀ c ∈ (Jvm.Cond.code x code maxLocals ret :: tables_1), c.before #[Value.ref b] s = true := atoms_spec (ws := Jvm.Cond.code x code maxLocals ret :: tables_1) B.pre
    have hts : ∀ w ∈ lw_tbl, w.before #[Value.ref b] s = true := k2_hts_sels lw_privs (fun w hw => hts0 w (List.mem_cons_of_mem _ hw)) lw_privs_ok
    have hml : c.maxLocals = 4 := B.maxLocals_eq (hts0 _ List.mem_cons_self)
    have X₀ : Stand p l e room_1 s m #[Value.ref b] below meth c s₁ [] 0 0 := Stand.of_body B
    have hh0 : s₁.heap = s.heap := by rw [B.state]; rfl
    have hsz : scr.slots.size = xs.length := by rw [← Array.length_toList, hlist, List.length_map]
    have hval : ∀ j : Nat, j < xs.length → scr.slots[j]? = some (.int (xs.getD j 0)) := fun j hj => by
      rw [← Array.getElem?_toList, hlist]
      simp [hj]
    have hbl : b < s.heap.size := (Array.getElem?_eq_some_iff.mp hcb).1
    have hX : va_X b xs.length (fun j => xs.getD j 0) s s.heap := ⟨scr, hcb, hof, hkn, hsz, hval⟩
    have K : W p l e room_1 s m #[Value.ref b] below meth c s₁.heap [] 0 0 (lw_Z below #[Value.ref b] s) (entryFrame m ([Value.ref b] : List Value).toArray 4) := by
      rw [hh0]
      exact whole_start l hbd ⟨B.exec, B.bytes, B.returns, hml, hown, hts, hX, hbl, B.notSynchronized, hgv⟩
    obtain ⟨t, a1, o, b1, b2, b3⟩ := K s₁ rfl X₀
    exact ⟨t, o, a1, b1, b2, b3⟩
theorem lw_pre_spec {args : Array Value} {s : State} (h : (Jvm.Cond.and given_1 narrow_1).before args s = true) (hr : rest_1_c.before args s = true) : ∃ (b : Addr) (xs : List Int32), lw_P b xs args s := by
  have hs := flat_of_before _ h
  have hq := flat_of_before _ hr
  have hc : (Cond.count 1).before args s = true := hs _ (by decide +kernel)
  have harr : (Cond.arrayOf (.arg 0) .int).before args s = true := hs _ (by decide +kernel)
  have hle : (Cond.le (.length (.arg 0)) (.int 6)).before args s = true := hs _ (by decide +kernel)
  have hlen : (Cond.isInt (.length (.arg 0))).before args s = true := hq _ (by decide +kernel)
  have hall : (Cond.all (.arg 0) (.isInt (.elem (.arg 0) (.index 0)))).before args s = true := hq _ (by decide +kernel)
  obtain ⟨b, xs, hb, hx⟩ := State.ints_of_pre rfl harr hlen hall
  have hsm : xs.length < 2 ^ 31 := hx.choose_spec.2.2.2
  have hev : (Term.length (.arg 0)).eval args s none [] s = some (.int xs.length.toInt32) := hx.length_eval hb
  have hv := Cond.le_ints hev (show (Term.int 6).eval args s none [] s = some (.int 6) from rfl)
  have hd : xs.length.toInt32 ≤ 6 := by
    simpa [Cond.before, Cond.holds, hv] using hle
  have hN : xs.length ≤ 6 := (Int32.ofNat_le_ofNat hsm (by decide)).mp (show Int32.ofNat xs.length ≤ Int32.ofNat 6 from hd)
  exact ⟨b, xs, Cond.one_arg hc (show args[0]? = some (.ref b) from hb), hx, hN, h⟩
theorem lw_comes (l : Launch) : Comes l x (Jvm.Cond.code x code maxLocals ret :: tables_1) room_1 (fun tb e args s => Calls_1 tb e args s ∧ rest_1 tb e args s ∧ Pre_1 tb e args s)
    (fun _ _ args s o t => lw_Q args s o t) := by
  intro p e ha hc hk s m args below hf hfit hheap happ hpre
  obtain ⟨b, xs, hP⟩ := lw_pre_spec hpre.2.2 hpre.2.1
  obtain ⟨k, o, h1, h2, h3, hQ⟩ := lw_walk l b xs p e ha hc hk s m args below hf ((Spec.applies_iff_loose hf).mp happ).1 hP trivial
  exact ⟨k, o, h1, h2, h3, hQ⟩
theorem lw_frame {s t : State} {o : Outcome} {args : Array Value} (h : Framed s o t [] 600000 7302250) :
    Framed s o t (fieldLocs frame_1_writes args s ++ arrayLocs frame_1_arrays args s ++ staticLocs frame_1_statics s) 600000 7302250 := h
theorem lw_limb (L : Cond) (hL : ∀ (args : Array Value) (s t : State), L.after args s (.returned (some (.int 1))) t = true) :
    ArmFor flags0 classFile x code maxLocals ret World_1 tables_1 room_1 Calls_1 rest_1 Pre_1
      (fun tb e a s o t => postC L tb e a s o t ∧ Framed s o t (fieldLocs frame_1_writes a s ++ arrayLocs frame_1_arrays a s ++ staticLocs frame_1_statics s) 600000 7302250) := by
  intro l _ _ _ p e ha hc hk s m args below hf hfit hheap happ hpre
  obtain ⟨k, o, h1, h2, h3, rfl, hF⟩ := lw_comes l p e ha hc hk s m args below hf hfit hheap happ hpre
  exact ⟨k, _, h1, h2, h3, hL args s _, lw_frame hF⟩
theorem i_vc : Claimed_1_1 ∧ Claimed_1_2 := ⟨lw_limb limb_1_1 (fun args s t => by simp [limb_1_1, Cond.after, Cond.holds, Cond.value]), lw_limb limb_1_2 (fun args s t => Cond.after_iff.mpr (by
  first | (rw [show limb_1_2 = Cond.eq .result (.int 1) from rfl, Cond.eq_ints (x := 1) (y := 1) rfl rfl]; simp; done) | (simp [limb_1_2, Cond.value, Term.eval]; done)))⟩
end
